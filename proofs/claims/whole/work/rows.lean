section
-- ===== PART A: goes FIRST, ahead of the names: the tables' words, and 'selects' of the private methods out of them =====
/-- a private method of a class that the tables say can be made, by its rows of tables_1 -/
def lw_okq (q : MethodName × Nat) : Prop := (q.1.cls ≠ "java/lang/invoke/MethodHandle" ∧ q.1.cls ≠ "java/lang/invoke/VarHandle") ∧ Cond.instantiable q.1.cls q.2 ∈ tables_1 ∧ Cond.privateMethod q.1 ∈ tables_1 ∧ Cond.instanceMethod q.1 ∈ tables_1
theorem lw_p0 : lw_okq (⟨"java/util/ArrayList", "add", "(Ljava/lang/Object;[Ljava/lang/Object;I)V"⟩, 3) := ⟨⟨by decide +kernel, by decide +kernel⟩, List.mem_of_getElem? (i := 39) (by decide +kernel), List.mem_of_getElem? (i := 306) (by decide +kernel), List.mem_of_getElem? (i := 307) (by decide +kernel)⟩
theorem lw_p1 : lw_okq (⟨"java/util/ArrayList", "grow", "()[Ljava/lang/Object;"⟩, 3) := ⟨⟨by decide +kernel, by decide +kernel⟩, List.mem_of_getElem? (i := 39) (by decide +kernel), List.mem_of_getElem? (i := 310) (by decide +kernel), List.mem_of_getElem? (i := 311) (by decide +kernel)⟩
theorem lw_p2 : lw_okq (⟨"java/util/ArrayList", "grow", "(I)[Ljava/lang/Object;"⟩, 3) := ⟨⟨by decide +kernel, by decide +kernel⟩, List.mem_of_getElem? (i := 39) (by decide +kernel), List.mem_of_getElem? (i := 314) (by decide +kernel), List.mem_of_getElem? (i := 315) (by decide +kernel)⟩
theorem lw_p3 : lw_okq (⟨"ExtrasOffice", "find", "(I)LExtrasOffice$Person;"⟩, 11) := ⟨⟨by decide +kernel, by decide +kernel⟩, List.mem_of_getElem? (i := 31) (by decide +kernel), List.mem_of_getElem? (i := 368) (by decide +kernel), List.mem_of_getElem? (i := 369) (by decide +kernel)⟩
theorem lw_p4 : lw_okq (⟨"ExtrasOffice", "addBytes", "(I)V"⟩, 11) := ⟨⟨by decide +kernel, by decide +kernel⟩, List.mem_of_getElem? (i := 31) (by decide +kernel), List.mem_of_getElem? (i := 390) (by decide +kernel), List.mem_of_getElem? (i := 391) (by decide +kernel)⟩
theorem lw_p5 : lw_okq (⟨"ExtrasOffice$AskReader", "readHead", "(LExtrasOffice$Ask;)Z"⟩, 2) := ⟨⟨by decide +kernel, by decide +kernel⟩, List.mem_of_getElem? (i := 115) (by decide +kernel), List.mem_of_getElem? (i := 535) (by decide +kernel), List.mem_of_getElem? (i := 536) (by decide +kernel)⟩
theorem lw_p6 : lw_okq (⟨"ExtrasOffice$AskReader", "readAny", "(I)Z"⟩, 2) := ⟨⟨by decide +kernel, by decide +kernel⟩, List.mem_of_getElem? (i := 115) (by decide +kernel), List.mem_of_getElem? (i := 565) (by decide +kernel), List.mem_of_getElem? (i := 566) (by decide +kernel)⟩
theorem lw_p7 : lw_okq (⟨"ExtrasOffice$AskReader", "readOne", "(I)Z"⟩, 2) := ⟨⟨by decide +kernel, by decide +kernel⟩, List.mem_of_getElem? (i := 115) (by decide +kernel), List.mem_of_getElem? (i := 569) (by decide +kernel), List.mem_of_getElem? (i := 570) (by decide +kernel)⟩
theorem lw_p8 : lw_okq (⟨"ExtrasOffice$AskReader", "readMark", "()Z"⟩, 2) := ⟨⟨by decide +kernel, by decide +kernel⟩, List.mem_of_getElem? (i := 115) (by decide +kernel), List.mem_of_getElem? (i := 575) (by decide +kernel), List.mem_of_getElem? (i := 576) (by decide +kernel)⟩
theorem lw_p9 : lw_okq (⟨"ExtrasOffice$AskReader", "markHere", "()I"⟩, 2) := ⟨⟨by decide +kernel, by decide +kernel⟩, List.mem_of_getElem? (i := 115) (by decide +kernel), List.mem_of_getElem? (i := 579) (by decide +kernel), List.mem_of_getElem? (i := 580) (by decide +kernel)⟩
theorem lw_p10 : lw_okq (⟨"ExtrasOffice$Plan", "dismissAll", "()V"⟩, 4) := ⟨⟨by decide +kernel, by decide +kernel⟩, List.mem_of_getElem? (i := 148) (by decide +kernel), List.mem_of_getElem? (i := 613) (by decide +kernel), List.mem_of_getElem? (i := 614) (by decide +kernel)⟩
theorem lw_p11 : lw_okq (⟨"ExtrasOffice$Plan", "lookWhoIsOpen", "(I)V"⟩, 4) := ⟨⟨by decide +kernel, by decide +kernel⟩, List.mem_of_getElem? (i := 148) (by decide +kernel), List.mem_of_getElem? (i := 737) (by decide +kernel), List.mem_of_getElem? (i := 738) (by decide +kernel)⟩
theorem lw_p12 : lw_okq (⟨"ExtrasOffice$Plan", "seat", "(LExtrasOffice$Person;I)V"⟩, 4) := ⟨⟨by decide +kernel, by decide +kernel⟩, List.mem_of_getElem? (i := 148) (by decide +kernel), List.mem_of_getElem? (i := 742) (by decide +kernel), List.mem_of_getElem? (i := 743) (by decide +kernel)⟩
theorem lw_p13 : lw_okq (⟨"ExtrasOffice$Plan", "seatElsewhere", "(LExtrasOffice$Person;II)Z"⟩, 4) := ⟨⟨by decide +kernel, by decide +kernel⟩, List.mem_of_getElem? (i := 148) (by decide +kernel), List.mem_of_getElem? (i := 746) (by decide +kernel), List.mem_of_getElem? (i := 747) (by decide +kernel)⟩
theorem lw_p14 : lw_okq (⟨"ExtrasOffice$Plan", "makeRoom", "(LExtrasOffice$Ask;II)Z"⟩, 4) := ⟨⟨by decide +kernel, by decide +kernel⟩, List.mem_of_getElem? (i := 148) (by decide +kernel), List.mem_of_getElem? (i := 754) (by decide +kernel), List.mem_of_getElem? (i := 755) (by decide +kernel)⟩
theorem lw_p15 : lw_okq (⟨"ExtrasOffice$Plan", "seatAllInLeast", "()V"⟩, 4) := ⟨⟨by decide +kernel, by decide +kernel⟩, List.mem_of_getElem? (i := 148) (by decide +kernel), List.mem_of_getElem? (i := 758) (by decide +kernel), List.mem_of_getElem? (i := 759) (by decide +kernel)⟩
def lw_privs_1 : List (MethodName × Nat) := [(⟨"java/util/ArrayList", "add", "(Ljava/lang/Object;[Ljava/lang/Object;I)V"⟩, 3), (⟨"java/util/ArrayList", "grow", "()[Ljava/lang/Object;"⟩, 3), (⟨"java/util/ArrayList", "grow", "(I)[Ljava/lang/Object;"⟩, 3), (⟨"ExtrasOffice", "find", "(I)LExtrasOffice$Person;"⟩, 11), (⟨"ExtrasOffice", "addBytes", "(I)V"⟩, 11), (⟨"ExtrasOffice$AskReader", "readHead", "(LExtrasOffice$Ask;)Z"⟩, 2), (⟨"ExtrasOffice$AskReader", "readAny", "(I)Z"⟩, 2), (⟨"ExtrasOffice$AskReader", "readOne", "(I)Z"⟩, 2), (⟨"ExtrasOffice$AskReader", "readMark", "()Z"⟩, 2), (⟨"ExtrasOffice$AskReader", "markHere", "()I"⟩, 2), (⟨"ExtrasOffice$Plan", "dismissAll", "()V"⟩, 4), (⟨"ExtrasOffice$Plan", "lookWhoIsOpen", "(I)V"⟩, 4), (⟨"ExtrasOffice$Plan", "seat", "(LExtrasOffice$Person;I)V"⟩, 4), (⟨"ExtrasOffice$Plan", "seatElsewhere", "(LExtrasOffice$Person;II)Z"⟩, 4), (⟨"ExtrasOffice$Plan", "makeRoom", "(LExtrasOffice$Ask;II)Z"⟩, 4), (⟨"ExtrasOffice$Plan", "seatAllInLeast", "()V"⟩, 4)]
theorem lw_r1 : ∀ q ∈ lw_privs_1, lw_okq q := List.forall_mem_cons.mpr ⟨lw_p0, List.forall_mem_cons.mpr ⟨lw_p1, List.forall_mem_cons.mpr ⟨lw_p2, List.forall_mem_cons.mpr ⟨lw_p3, List.forall_mem_cons.mpr ⟨lw_p4, List.forall_mem_cons.mpr ⟨lw_p5, List.forall_mem_cons.mpr ⟨lw_p6, List.forall_mem_cons.mpr ⟨lw_p7, List.forall_mem_cons.mpr ⟨lw_p8, List.forall_mem_cons.mpr ⟨lw_p9, List.forall_mem_cons.mpr ⟨lw_p10, List.forall_mem_cons.mpr ⟨lw_p11, List.forall_mem_cons.mpr ⟨lw_p12, List.forall_mem_cons.mpr ⟨lw_p13, List.forall_mem_cons.mpr ⟨lw_p14, List.forall_mem_cons.mpr ⟨lw_p15, fun _ h => absurd h List.not_mem_nil⟩⟩⟩⟩⟩⟩⟩⟩⟩⟩⟩⟩⟩⟩⟩⟩
theorem lw_p16 : lw_okq (⟨"ExtrasOffice$Plan", "measureRows", "()V"⟩, 4) := ⟨⟨by decide +kernel, by decide +kernel⟩, List.mem_of_getElem? (i := 148) (by decide +kernel), List.mem_of_getElem? (i := 779) (by decide +kernel), List.mem_of_getElem? (i := 780) (by decide +kernel)⟩
theorem lw_p17 : lw_okq (⟨"ExtrasOffice$Plan", "firstOfRow", "(LExtrasOffice$Ask;I)LExtrasOffice$Person;"⟩, 4) := ⟨⟨by decide +kernel, by decide +kernel⟩, List.mem_of_getElem? (i := 148) (by decide +kernel), List.mem_of_getElem? (i := 783) (by decide +kernel), List.mem_of_getElem? (i := 784) (by decide +kernel)⟩
theorem lw_p18 : lw_okq (⟨"ExtrasOffice$Dressing", "queue", "(LExtrasOffice$Turn;)V"⟩, 3) := ⟨⟨by decide +kernel, by decide +kernel⟩, List.mem_of_getElem? (i := 173) (by decide +kernel), List.mem_of_getElem? (i := 855) (by decide +kernel), List.mem_of_getElem? (i := 856) (by decide +kernel)⟩
theorem lw_p19 : lw_okq (⟨"java/util/ArrayList", "rangeCheckForAdd", "(I)V"⟩, 3) := ⟨⟨by decide +kernel, by decide +kernel⟩, List.mem_of_getElem? (i := 39) (by decide +kernel), List.mem_of_getElem? (i := 863) (by decide +kernel), List.mem_of_getElem? (i := 864) (by decide +kernel)⟩
theorem lw_p20 : lw_okq (⟨"ExtrasOffice$Dressing", "firstFree", "(I)I"⟩, 3) := ⟨⟨by decide +kernel, by decide +kernel⟩, List.mem_of_getElem? (i := 173) (by decide +kernel), List.mem_of_getElem? (i := 872) (by decide +kernel), List.mem_of_getElem? (i := 873) (by decide +kernel)⟩
theorem lw_p21 : lw_okq (⟨"ExtrasOffice", "sendAll", "()I"⟩, 11) := ⟨⟨by decide +kernel, by decide +kernel⟩, List.mem_of_getElem? (i := 31) (by decide +kernel), List.mem_of_getElem? (i := 877) (by decide +kernel), List.mem_of_getElem? (i := 878) (by decide +kernel)⟩
theorem lw_p22 : lw_okq (⟨"ExtrasOffice", "findRecord", "(II)LExtrasOffice$Turn;"⟩, 11) := ⟨⟨by decide +kernel, by decide +kernel⟩, List.mem_of_getElem? (i := 31) (by decide +kernel), List.mem_of_getElem? (i := 896) (by decide +kernel), List.mem_of_getElem? (i := 897) (by decide +kernel)⟩
theorem lw_p23 : lw_okq (⟨"ExtrasOffice$Term", "quarters", "(I)I"⟩, 4) := ⟨⟨by decide +kernel, by decide +kernel⟩, List.mem_of_getElem? (i := 651) (by decide +kernel), List.mem_of_getElem? (i := 918) (by decide +kernel), List.mem_of_getElem? (i := 919) (by decide +kernel)⟩
theorem lw_p24 : lw_okq (⟨"java/lang/Throwable", "fillInStackTrace", "(I)Ljava/lang/Throwable;"⟩, 6) := ⟨⟨by decide +kernel, by decide +kernel⟩, List.mem_of_getElem? (i := 1015) (by decide +kernel), List.mem_of_getElem? (i := 1013) (by decide +kernel), List.mem_of_getElem? (i := 1014) (by decide +kernel)⟩
theorem lw_p25 : lw_okq (⟨"ExtrasOfficeModel", "isPerson", "(I)Z"⟩, 68) := ⟨⟨by decide +kernel, by decide +kernel⟩, List.mem_of_getElem? (i := 1053) (by decide +kernel), List.mem_of_getElem? (i := 1277) (by decide +kernel), List.mem_of_getElem? (i := 1278) (by decide +kernel)⟩
theorem lw_p26 : lw_okq (⟨"ExtrasOfficeModel", "fact", "(II)I"⟩, 68) := ⟨⟨by decide +kernel, by decide +kernel⟩, List.mem_of_getElem? (i := 1053) (by decide +kernel), List.mem_of_getElem? (i := 1289) (by decide +kernel), List.mem_of_getElem? (i := 1290) (by decide +kernel)⟩
theorem lw_p27 : lw_okq (⟨"ExtrasOfficeModel", "times", "(III)I"⟩, 68) := ⟨⟨by decide +kernel, by decide +kernel⟩, List.mem_of_getElem? (i := 1053) (by decide +kernel), List.mem_of_getElem? (i := 1297) (by decide +kernel), List.mem_of_getElem? (i := 1298) (by decide +kernel)⟩
theorem lw_p28 : lw_okq (⟨"ExtrasOfficeModel", "starts", "([BII)V"⟩, 68) := ⟨⟨by decide +kernel, by decide +kernel⟩, List.mem_of_getElem? (i := 1053) (by decide +kernel), List.mem_of_getElem? (i := 1313) (by decide +kernel), List.mem_of_getElem? (i := 1314) (by decide +kernel)⟩
theorem lw_p29 : lw_okq (⟨"ExtrasOfficeModel", "next", "()V"⟩, 68) := ⟨⟨by decide +kernel, by decide +kernel⟩, List.mem_of_getElem? (i := 1053) (by decide +kernel), List.mem_of_getElem? (i := 1317) (by decide +kernel), List.mem_of_getElem? (i := 1318) (by decide +kernel)⟩
theorem lw_p30 : lw_okq (⟨"ExtrasOfficeModel", "see", "(I)I"⟩, 68) := ⟨⟨by decide +kernel, by decide +kernel⟩, List.mem_of_getElem? (i := 1053) (by decide +kernel), List.mem_of_getElem? (i := 1324) (by decide +kernel), List.mem_of_getElem? (i := 1325) (by decide +kernel)⟩
theorem lw_p31 : lw_okq (⟨"ExtrasOfficeModel", "readAsk", "()V"⟩, 68) := ⟨⟨by decide +kernel, by decide +kernel⟩, List.mem_of_getElem? (i := 1053) (by decide +kernel), List.mem_of_getElem? (i := 1331) (by decide +kernel), List.mem_of_getElem? (i := 1332) (by decide +kernel)⟩
def lw_privs_2 : List (MethodName × Nat) := [(⟨"ExtrasOffice$Plan", "measureRows", "()V"⟩, 4), (⟨"ExtrasOffice$Plan", "firstOfRow", "(LExtrasOffice$Ask;I)LExtrasOffice$Person;"⟩, 4), (⟨"ExtrasOffice$Dressing", "queue", "(LExtrasOffice$Turn;)V"⟩, 3), (⟨"java/util/ArrayList", "rangeCheckForAdd", "(I)V"⟩, 3), (⟨"ExtrasOffice$Dressing", "firstFree", "(I)I"⟩, 3), (⟨"ExtrasOffice", "sendAll", "()I"⟩, 11), (⟨"ExtrasOffice", "findRecord", "(II)LExtrasOffice$Turn;"⟩, 11), (⟨"ExtrasOffice$Term", "quarters", "(I)I"⟩, 4), (⟨"java/lang/Throwable", "fillInStackTrace", "(I)Ljava/lang/Throwable;"⟩, 6), (⟨"ExtrasOfficeModel", "isPerson", "(I)Z"⟩, 68), (⟨"ExtrasOfficeModel", "fact", "(II)I"⟩, 68), (⟨"ExtrasOfficeModel", "times", "(III)I"⟩, 68), (⟨"ExtrasOfficeModel", "starts", "([BII)V"⟩, 68), (⟨"ExtrasOfficeModel", "next", "()V"⟩, 68), (⟨"ExtrasOfficeModel", "see", "(I)I"⟩, 68), (⟨"ExtrasOfficeModel", "readAsk", "()V"⟩, 68)]
theorem lw_r2 : ∀ q ∈ lw_privs_2, lw_okq q := List.forall_mem_cons.mpr ⟨lw_p16, List.forall_mem_cons.mpr ⟨lw_p17, List.forall_mem_cons.mpr ⟨lw_p18, List.forall_mem_cons.mpr ⟨lw_p19, List.forall_mem_cons.mpr ⟨lw_p20, List.forall_mem_cons.mpr ⟨lw_p21, List.forall_mem_cons.mpr ⟨lw_p22, List.forall_mem_cons.mpr ⟨lw_p23, List.forall_mem_cons.mpr ⟨lw_p24, List.forall_mem_cons.mpr ⟨lw_p25, List.forall_mem_cons.mpr ⟨lw_p26, List.forall_mem_cons.mpr ⟨lw_p27, List.forall_mem_cons.mpr ⟨lw_p28, List.forall_mem_cons.mpr ⟨lw_p29, List.forall_mem_cons.mpr ⟨lw_p30, List.forall_mem_cons.mpr ⟨lw_p31, fun _ h => absurd h List.not_mem_nil⟩⟩⟩⟩⟩⟩⟩⟩⟩⟩⟩⟩⟩⟩⟩⟩
theorem lw_p32 : lw_okq (⟨"ExtrasOfficeModel", "isWord", "(Ljava/lang/String;)Z"⟩, 68) := ⟨⟨by decide +kernel, by decide +kernel⟩, List.mem_of_getElem? (i := 1053) (by decide +kernel), List.mem_of_getElem? (i := 1336) (by decide +kernel), List.mem_of_getElem? (i := 1337) (by decide +kernel)⟩
theorem lw_p33 : lw_okq (⟨"ExtrasOfficeModel", "fails", "(I)V"⟩, 68) := ⟨⟨by decide +kernel, by decide +kernel⟩, List.mem_of_getElem? (i := 1053) (by decide +kernel), List.mem_of_getElem? (i := 1342) (by decide +kernel), List.mem_of_getElem? (i := 1343) (by decide +kernel)⟩
theorem lw_p34 : lw_okq (⟨"ExtrasOfficeModel", "number", "(II)I"⟩, 68) := ⟨⟨by decide +kernel, by decide +kernel⟩, List.mem_of_getElem? (i := 1053) (by decide +kernel), List.mem_of_getElem? (i := 1346) (by decide +kernel), List.mem_of_getElem? (i := 1347) (by decide +kernel)⟩
theorem lw_p35 : lw_okq (⟨"ExtrasOfficeModel", "wants", "(Ljava/lang/String;)V"⟩, 68) := ⟨⟨by decide +kernel, by decide +kernel⟩, List.mem_of_getElem? (i := 1053) (by decide +kernel), List.mem_of_getElem? (i := 1351) (by decide +kernel), List.mem_of_getElem? (i := 1352) (by decide +kernel)⟩
theorem lw_p36 : lw_okq (⟨"ExtrasOfficeModel", "is", "(I)Z"⟩, 68) := ⟨⟨by decide +kernel, by decide +kernel⟩, List.mem_of_getElem? (i := 1053) (by decide +kernel), List.mem_of_getElem? (i := 1357) (by decide +kernel), List.mem_of_getElem? (i := 1358) (by decide +kernel)⟩
theorem lw_p37 : lw_okq (⟨"ExtrasOfficeModel", "either", "(I)Z"⟩, 68) := ⟨⟨by decide +kernel, by decide +kernel⟩, List.mem_of_getElem? (i := 1053) (by decide +kernel), List.mem_of_getElem? (i := 1361) (by decide +kernel), List.mem_of_getElem? (i := 1362) (by decide +kernel)⟩
theorem lw_p38 : lw_okq (⟨"ExtrasOfficeModel", "all", "(I)Z"⟩, 68) := ⟨⟨by decide +kernel, by decide +kernel⟩, List.mem_of_getElem? (i := 1053) (by decide +kernel), List.mem_of_getElem? (i := 1365) (by decide +kernel), List.mem_of_getElem? (i := 1366) (by decide +kernel)⟩
theorem lw_p39 : lw_okq (⟨"ExtrasOfficeModel", "one", "(I)Z"⟩, 68) := ⟨⟨by decide +kernel, by decide +kernel⟩, List.mem_of_getElem? (i := 1053) (by decide +kernel), List.mem_of_getElem? (i := 1369) (by decide +kernel), List.mem_of_getElem? (i := 1370) (by decide +kernel)⟩
theorem lw_p40 : lw_okq (⟨"ExtrasOfficeModel", "wants", "(I)V"⟩, 68) := ⟨⟨by decide +kernel, by decide +kernel⟩, List.mem_of_getElem? (i := 1053) (by decide +kernel), List.mem_of_getElem? (i := 1374) (by decide +kernel), List.mem_of_getElem? (i := 1375) (by decide +kernel)⟩
theorem lw_p41 : lw_okq (⟨"ExtrasOfficeModel", "nobody", "()V"⟩, 68) := ⟨⟨by decide +kernel, by decide +kernel⟩, List.mem_of_getElem? (i := 1053) (by decide +kernel), List.mem_of_getElem? (i := 1387) (by decide +kernel), List.mem_of_getElem? (i := 1388) (by decide +kernel)⟩
theorem lw_p42 : lw_okq (⟨"ExtrasOfficeModel", "isAsk", "(I)Z"⟩, 68) := ⟨⟨by decide +kernel, by decide +kernel⟩, List.mem_of_getElem? (i := 1053) (by decide +kernel), List.mem_of_getElem? (i := 1399) (by decide +kernel), List.mem_of_getElem? (i := 1400) (by decide +kernel)⟩
theorem lw_p43 : lw_okq (⟨"ExtrasOfficeModel", "doesFit", "(II)Z"⟩, 68) := ⟨⟨by decide +kernel, by decide +kernel⟩, List.mem_of_getElem? (i := 1053) (by decide +kernel), List.mem_of_getElem? (i := 1403) (by decide +kernel), List.mem_of_getElem? (i := 1404) (by decide +kernel)⟩
theorem lw_p44 : lw_okq (⟨"ExtrasOfficeModel", "canBe", "(II)Z"⟩, 68) := ⟨⟨by decide +kernel, by decide +kernel⟩, List.mem_of_getElem? (i := 1053) (by decide +kernel), List.mem_of_getElem? (i := 1407) (by decide +kernel), List.mem_of_getElem? (i := 1408) (by decide +kernel)⟩
theorem lw_p45 : lw_okq (⟨"ExtrasOfficeModel", "calledIn", "(I)I"⟩, 68) := ⟨⟨by decide +kernel, by decide +kernel⟩, List.mem_of_getElem? (i := 1053) (by decide +kernel), List.mem_of_getElem? (i := 1415) (by decide +kernel), List.mem_of_getElem? (i := 1416) (by decide +kernel)⟩
theorem lw_p46 : lw_okq (⟨"ExtrasOfficeModel", "reckons", "()V"⟩, 68) := ⟨⟨by decide +kernel, by decide +kernel⟩, List.mem_of_getElem? (i := 1053) (by decide +kernel), List.mem_of_getElem? (i := 1423) (by decide +kernel), List.mem_of_getElem? (i := 1424) (by decide +kernel)⟩
theorem lw_p47 : lw_okq (⟨"ExtrasOfficeModel", "first", "()I"⟩, 68) := ⟨⟨by decide +kernel, by decide +kernel⟩, List.mem_of_getElem? (i := 1053) (by decide +kernel), List.mem_of_getElem? (i := 1427) (by decide +kernel), List.mem_of_getElem? (i := 1428) (by decide +kernel)⟩
def lw_privs_3 : List (MethodName × Nat) := [(⟨"ExtrasOfficeModel", "isWord", "(Ljava/lang/String;)Z"⟩, 68), (⟨"ExtrasOfficeModel", "fails", "(I)V"⟩, 68), (⟨"ExtrasOfficeModel", "number", "(II)I"⟩, 68), (⟨"ExtrasOfficeModel", "wants", "(Ljava/lang/String;)V"⟩, 68), (⟨"ExtrasOfficeModel", "is", "(I)Z"⟩, 68), (⟨"ExtrasOfficeModel", "either", "(I)Z"⟩, 68), (⟨"ExtrasOfficeModel", "all", "(I)Z"⟩, 68), (⟨"ExtrasOfficeModel", "one", "(I)Z"⟩, 68), (⟨"ExtrasOfficeModel", "wants", "(I)V"⟩, 68), (⟨"ExtrasOfficeModel", "nobody", "()V"⟩, 68), (⟨"ExtrasOfficeModel", "isAsk", "(I)Z"⟩, 68), (⟨"ExtrasOfficeModel", "doesFit", "(II)Z"⟩, 68), (⟨"ExtrasOfficeModel", "canBe", "(II)Z"⟩, 68), (⟨"ExtrasOfficeModel", "calledIn", "(I)I"⟩, 68), (⟨"ExtrasOfficeModel", "reckons", "()V"⟩, 68), (⟨"ExtrasOfficeModel", "first", "()I"⟩, 68)]
theorem lw_r3 : ∀ q ∈ lw_privs_3, lw_okq q := List.forall_mem_cons.mpr ⟨lw_p32, List.forall_mem_cons.mpr ⟨lw_p33, List.forall_mem_cons.mpr ⟨lw_p34, List.forall_mem_cons.mpr ⟨lw_p35, List.forall_mem_cons.mpr ⟨lw_p36, List.forall_mem_cons.mpr ⟨lw_p37, List.forall_mem_cons.mpr ⟨lw_p38, List.forall_mem_cons.mpr ⟨lw_p39, List.forall_mem_cons.mpr ⟨lw_p40, List.forall_mem_cons.mpr ⟨lw_p41, List.forall_mem_cons.mpr ⟨lw_p42, List.forall_mem_cons.mpr ⟨lw_p43, List.forall_mem_cons.mpr ⟨lw_p44, List.forall_mem_cons.mpr ⟨lw_p45, List.forall_mem_cons.mpr ⟨lw_p46, List.forall_mem_cons.mpr ⟨lw_p47, fun _ h => absurd h List.not_mem_nil⟩⟩⟩⟩⟩⟩⟩⟩⟩⟩⟩⟩⟩⟩⟩⟩
theorem lw_p48 : lw_okq (⟨"ExtrasOfficeModel", "isRoom", "()Z"⟩, 68) := ⟨⟨by decide +kernel, by decide +kernel⟩, List.mem_of_getElem? (i := 1053) (by decide +kernel), List.mem_of_getElem? (i := 1431) (by decide +kernel), List.mem_of_getElem? (i := 1432) (by decide +kernel)⟩
theorem lw_p49 : lw_okq (⟨"ExtrasOfficeModel", "mends", "(IIII)Z"⟩, 68) := ⟨⟨by decide +kernel, by decide +kernel⟩, List.mem_of_getElem? (i := 1053) (by decide +kernel), List.mem_of_getElem? (i := 1443) (by decide +kernel), List.mem_of_getElem? (i := 1444) (by decide +kernel)⟩
theorem lw_p50 : lw_okq (⟨"ExtrasOfficeModel", "readTerm", "()V"⟩, 68) := ⟨⟨by decide +kernel, by decide +kernel⟩, List.mem_of_getElem? (i := 1053) (by decide +kernel), List.mem_of_getElem? (i := 1455) (by decide +kernel), List.mem_of_getElem? (i := 1456) (by decide +kernel)⟩
theorem lw_p51 : lw_okq (⟨"ExtrasOfficeModel", "dresses", "(I)V"⟩, 68) := ⟨⟨by decide +kernel, by decide +kernel⟩, List.mem_of_getElem? (i := 1053) (by decide +kernel), List.mem_of_getElem? (i := 1474) (by decide +kernel), List.mem_of_getElem? (i := 1475) (by decide +kernel)⟩
theorem lw_p52 : lw_okq (⟨"ExtrasOfficeModel", "nextComing", "()I"⟩, 68) := ⟨⟨by decide +kernel, by decide +kernel⟩, List.mem_of_getElem? (i := 1053) (by decide +kernel), List.mem_of_getElem? (i := 1478) (by decide +kernel), List.mem_of_getElem? (i := 1479) (by decide +kernel)⟩
theorem lw_p53 : lw_okq (⟨"ExtrasOfficeModel", "isRecord", "(II)Z"⟩, 68) := ⟨⟨by decide +kernel, by decide +kernel⟩, List.mem_of_getElem? (i := 1053) (by decide +kernel), List.mem_of_getElem? (i := 1487) (by decide +kernel), List.mem_of_getElem? (i := 1488) (by decide +kernel)⟩
theorem lw_p54 : lw_okq (⟨"ExtrasOfficeModel", "worth", "(III)I"⟩, 68) := ⟨⟨by decide +kernel, by decide +kernel⟩, List.mem_of_getElem? (i := 1053) (by decide +kernel), List.mem_of_getElem? (i := 1491) (by decide +kernel), List.mem_of_getElem? (i := 1492) (by decide +kernel)⟩
theorem lw_p55 : lw_okq (⟨"ExtrasOfficeModel", "allCalled", "()I"⟩, 68) := ⟨⟨by decide +kernel, by decide +kernel⟩, List.mem_of_getElem? (i := 1053) (by decide +kernel), List.mem_of_getElem? (i := 1518) (by decide +kernel), List.mem_of_getElem? (i := 1519) (by decide +kernel)⟩
def lw_privs_4 : List (MethodName × Nat) := [(⟨"ExtrasOfficeModel", "isRoom", "()Z"⟩, 68), (⟨"ExtrasOfficeModel", "mends", "(IIII)Z"⟩, 68), (⟨"ExtrasOfficeModel", "readTerm", "()V"⟩, 68), (⟨"ExtrasOfficeModel", "dresses", "(I)V"⟩, 68), (⟨"ExtrasOfficeModel", "nextComing", "()I"⟩, 68), (⟨"ExtrasOfficeModel", "isRecord", "(II)Z"⟩, 68), (⟨"ExtrasOfficeModel", "worth", "(III)I"⟩, 68), (⟨"ExtrasOfficeModel", "allCalled", "()I"⟩, 68)]
theorem lw_r4 : ∀ q ∈ lw_privs_4, lw_okq q := List.forall_mem_cons.mpr ⟨lw_p48, List.forall_mem_cons.mpr ⟨lw_p49, List.forall_mem_cons.mpr ⟨lw_p50, List.forall_mem_cons.mpr ⟨lw_p51, List.forall_mem_cons.mpr ⟨lw_p52, List.forall_mem_cons.mpr ⟨lw_p53, List.forall_mem_cons.mpr ⟨lw_p54, List.forall_mem_cons.mpr ⟨lw_p55, fun _ h => absurd h List.not_mem_nil⟩⟩⟩⟩⟩⟩⟩⟩
def lw_privs : List (MethodName × Nat) := lw_privs_1 ++ (lw_privs_2 ++ (lw_privs_3 ++ (lw_privs_4)))
def lw_tbl : List Cond := k2_sels lw_privs ++ tables_1
theorem lw_privs_ok : ∀ q ∈ lw_privs, lw_okq q := by
  show ∀ q ∈ lw_privs_1 ++ (lw_privs_2 ++ (lw_privs_3 ++ (lw_privs_4))), lw_okq q
  exact List.forall_mem_append.mpr ⟨lw_r1, List.forall_mem_append.mpr ⟨lw_r2, List.forall_mem_append.mpr ⟨lw_r3, lw_r4⟩⟩⟩

def RX0 : String := "ExtrasOffice$Agreement"
def TX0 : u_T := fun k => match k with
  | 0 => ("ExtrasOffice$Agreement", "number", "I", true)
  | _ => ("ExtrasOffice$Agreement", "terms", "Ljava/util/ArrayList;", true)
def tyX0 : Nat → FieldType := fun k => match k with
  | 0 => .int
  | _ => .object "java/util/ArrayList"
abbrev wsX00 : List Cond := u_ws RX0 TX0 2
theorem nmX0 : ∀ a, a < 2 → ∀ b, b < 2 → a ≠ b → (TX0 a).2.1 ≠ (TX0 b).2.1 := by decide +kernel
theorem tyX0_ok : ∀ k, k < 2 → parseFieldDescriptor (TX0 k).2.2.1 = some (tyX0 k) := by decide +kernel
abbrev cX0_init : ByteArray := prog_2_method_1_code
def yX0_init : MethodName := ⟨RX0, "<init>", "(I)V"⟩
abbrev cX0_readFrom : ByteArray := prog_2_method_2_code
def yX0_readFrom : MethodName := ⟨RX0, "readFrom", "(LExtrasOffice$Tokens;)Z"⟩
abbrev cX0_worth : ByteArray := prog_2_method_3_code
def yX0_worth : MethodName := ⟨RX0, "worth", "(II)I"⟩
def RX1 : String := "ExtrasOffice$Ask"
def TX1 : u_T := fun k => match k with
  | 0 => ("ExtrasOffice$Ask", "number", "I", true)
  | 1 => ("ExtrasOffice$Ask", "scene", "I", false)
  | 2 => ("ExtrasOffice$Ask", "callAt", "I", false)
  | 3 => ("ExtrasOffice$Ask", "minutes", "I", false)
  | 4 => ("ExtrasOffice$Ask", "wants", "I", false)
  | 5 => ("ExtrasOffice$Ask", "steps", "[I", false)
  | 6 => ("ExtrasOffice$Ask", "held", "I", false)
  | 7 => ("ExtrasOffice$Ask", "begun", "I", false)
  | _ => ("ExtrasOffice$Ask", "rowLength", "I", false)
def tyX1 : Nat → FieldType := fun k => match k with
  | 0 => .int
  | 1 => .int
  | 2 => .int
  | 3 => .int
  | 4 => .int
  | 5 => .array .int
  | 6 => .int
  | 7 => .int
  | _ => .int
abbrev wsX10 : List Cond := u_ws RX1 TX1 9
theorem nmX1 : ∀ a, a < 9 → ∀ b, b < 9 → a ≠ b → (TX1 a).2.1 ≠ (TX1 b).2.1 := by decide +kernel
theorem tyX1_ok : ∀ k, k < 9 → parseFieldDescriptor (TX1 k).2.2.1 = some (tyX1 k) := by decide +kernel
abbrev cX1_init : ByteArray := prog_3_method_1_code
def yX1_init : MethodName := ⟨RX1, "<init>", "(I)V"⟩
abbrev cX1_highest : ByteArray := prog_3_method_2_code
def yX1_highest : MethodName := ⟨RX1, "highest", "(I)I"⟩
abbrev cX1_takeSteps : ByteArray := prog_3_method_3_code
def yX1_takeSteps : MethodName := ⟨RX1, "takeSteps", "(LExtrasOffice$Row;)V"⟩
abbrev cX1_isOpenTo : ByteArray := prog_3_method_4_code
def yX1_isOpenTo : MethodName := ⟨RX1, "isOpenTo", "(LExtrasOffice$Person;I)Z"⟩
abbrev cX1_suits : ByteArray := prog_3_method_5_code
def yX1_suits : MethodName := ⟨RX1, "suits", "(LExtrasOffice$Person;)Z"⟩
abbrev cX1_holds : ByteArray := prog_3_method_6_code
def yX1_holds : MethodName := ⟨RX1, "holds", "(IILExtrasOffice$Person;)Z"⟩
abbrev cX1_answer : ByteArray := prog_3_method_7_code
def yX1_answer : MethodName := ⟨RX1, "answer", "(I)I"⟩
def RX2 : String := "ExtrasOffice$AskReader"
def TX2 : u_T := fun k => match k with
  | 0 => ("ExtrasOffice$AskReader", "tokens", "LExtrasOffice$Tokens;", true)
  | _ => ("ExtrasOffice$AskReader", "steps", "LExtrasOffice$Row;", true)
def tyX2 : Nat → FieldType := fun k => match k with
  | 0 => .object "ExtrasOffice$Tokens"
  | _ => .object "ExtrasOffice$Row"
abbrev wsX20 : List Cond := u_ws RX2 TX2 2
theorem nmX2 : ∀ a, a < 2 → ∀ b, b < 2 → a ≠ b → (TX2 a).2.1 ≠ (TX2 b).2.1 := by decide +kernel
theorem tyX2_ok : ∀ k, k < 2 → parseFieldDescriptor (TX2 k).2.2.1 = some (tyX2 k) := by decide +kernel
abbrev cX2_init : ByteArray := prog_4_method_1_code
def yX2_init : MethodName := ⟨RX2, "<init>", "(LExtrasOffice$Tokens;)V"⟩
abbrev cX2_read : ByteArray := prog_4_method_2_code
def yX2_read : MethodName := ⟨RX2, "read", "()Ljava/util/ArrayList;"⟩
abbrev cX2_readHead : ByteArray := prog_4_method_3_code
def yX2_readHead : MethodName := ⟨RX2, "readHead", "(LExtrasOffice$Ask;)Z"⟩
abbrev cX2_readAny : ByteArray := prog_4_method_4_code
def yX2_readAny : MethodName := ⟨RX2, "readAny", "(I)Z"⟩
abbrev cX2_readOne : ByteArray := prog_4_method_5_code
def yX2_readOne : MethodName := ⟨RX2, "readOne", "(I)Z"⟩
abbrev cX2_readMark : ByteArray := prog_4_method_6_code
def yX2_readMark : MethodName := ⟨RX2, "readMark", "()Z"⟩
abbrev cX2_markHere : ByteArray := prog_4_method_7_code
def yX2_markHere : MethodName := ⟨RX2, "markHere", "()I"⟩
def RX3 : String := "ExtrasOffice$Dressing"
def TX3 : u_T := fun k => match k with
  | 0 => ("ExtrasOffice$Dressing", "byNumber", "Ljava/util/ArrayList;", true)
  | 1 => ("ExtrasOffice$Dressing", "byComing", "Ljava/util/ArrayList;", true)
  | _ => ("ExtrasOffice$Dressing", "dresserFree", "[I", true)
def tyX3 : Nat → FieldType := fun k => match k with
  | 0 => .object "java/util/ArrayList"
  | 1 => .object "java/util/ArrayList"
  | _ => .array .int
abbrev wsX30 : List Cond := u_ws RX3 TX3 3
theorem nmX3 : ∀ a, a < 3 → ∀ b, b < 3 → a ≠ b → (TX3 a).2.1 ≠ (TX3 b).2.1 := by decide +kernel
theorem tyX3_ok : ∀ k, k < 3 → parseFieldDescriptor (TX3 k).2.2.1 = some (tyX3 k) := by decide +kernel
abbrev cX3_init : ByteArray := prog_5_method_1_code
def yX3_init : MethodName := ⟨RX3, "<init>", "()V"⟩
abbrev cX3_comeAll : ByteArray := prog_5_method_2_code
def yX3_comeAll : MethodName := ⟨RX3, "comeAll", "(Ljava/util/ArrayList;II)V"⟩
abbrev cX3_following : ByteArray := prog_5_method_3_code
def yX3_following : MethodName := ⟨RX3, "following", "(I)I"⟩
abbrev cX3_queue : ByteArray := prog_5_method_4_code
def yX3_queue : MethodName := ⟨RX3, "queue", "(LExtrasOffice$Turn;)V"⟩
abbrev cX3_dressAll : ByteArray := prog_5_method_5_code
def yX3_dressAll : MethodName := ⟨RX3, "dressAll", "(I)V"⟩
abbrev cX3_firstFree : ByteArray := prog_5_method_6_code
def yX3_firstFree : MethodName := ⟨RX3, "firstFree", "(I)I"⟩
def RX4 : String := "ExtrasOffice$Facts"
def TX4 : u_T := fun k => match k with
  | 0 => ("ExtrasOffice$Facts", "who", "LExtrasOffice$Row;", true)
  | 1 => ("ExtrasOffice$Facts", "where", "LExtrasOffice$Row;", true)
  | _ => ("ExtrasOffice$Facts", "told", "I", false)
def tyX4 : Nat → FieldType := fun k => match k with
  | 0 => .object "ExtrasOffice$Row"
  | 1 => .object "ExtrasOffice$Row"
  | _ => .int
abbrev wsX40 : List Cond := u_ws RX4 TX4 3
theorem nmX4 : ∀ a, a < 3 → ∀ b, b < 3 → a ≠ b → (TX4 a).2.1 ≠ (TX4 b).2.1 := by decide +kernel
theorem tyX4_ok : ∀ k, k < 3 → parseFieldDescriptor (TX4 k).2.2.1 = some (tyX4 k) := by decide +kernel
abbrev cX4_init : ByteArray := prog_6_method_1_code
def yX4_init : MethodName := ⟨RX4, "<init>", "()V"⟩
abbrev cX4_size : ByteArray := prog_6_method_2_code
def yX4_size : MethodName := ⟨RX4, "size", "()I"⟩
abbrev cX4_add : ByteArray := prog_6_method_3_code
def yX4_add : MethodName := ⟨RX4, "add", "(LExtrasOffice$Person;I)I"⟩
abbrev cX4_howOften : ByteArray := prog_6_method_4_code
def yX4_howOften : MethodName := ⟨RX4, "howOften", "(III)I"⟩
def RX5 : String := "ExtrasOffice$Person"
def TX5 : u_T := fun k => match k with
  | 0 => ("ExtrasOffice$Person", "number", "I", true)
  | 1 => ("ExtrasOffice$Person", "age", "I", true)
  | 2 => ("ExtrasOffice$Person", "tall", "I", true)
  | 3 => ("ExtrasOffice$Person", "looks", "I", true)
  | 4 => ("ExtrasOffice$Person", "home", "I", true)
  | 5 => ("ExtrasOffice$Person", "slow", "I", true)
  | 6 => ("ExtrasOffice$Person", "isAway", "Z", false)
  | 7 => ("ExtrasOffice$Person", "turns", "I", false)
  | 8 => ("ExtrasOffice$Person", "freeFrom", "I", false)
  | 9 => ("ExtrasOffice$Person", "scenes", "I", false)
  | 10 => ("ExtrasOffice$Person", "open", "I", false)
  | _ => ("ExtrasOffice$Person", "inAsk", "LExtrasOffice$Ask;", false)
def tyX5 : Nat → FieldType := fun k => match k with
  | 0 => .int
  | 1 => .int
  | 2 => .int
  | 3 => .int
  | 4 => .int
  | 5 => .int
  | 6 => .boolean
  | 7 => .int
  | 8 => .int
  | 9 => .int
  | 10 => .int
  | _ => .object "ExtrasOffice$Ask"
abbrev wsX50 : List Cond := u_ws RX5 TX5 12
theorem nmX5 : ∀ a, a < 12 → ∀ b, b < 12 → a ≠ b → (TX5 a).2.1 ≠ (TX5 b).2.1 := by decide +kernel
theorem tyX5_ok : ∀ k, k < 12 → parseFieldDescriptor (TX5 k).2.2.1 = some (tyX5 k) := by decide +kernel
abbrev cX5_init : ByteArray := prog_7_method_1_code
def yX5_init : MethodName := ⟨RX5, "<init>", "(IIIIII)V"⟩
abbrev cX5_wasIn : ByteArray := prog_7_method_2_code
def yX5_wasIn : MethodName := ⟨RX5, "wasIn", "(I)Z"⟩
abbrev cX5_canBeIn : ByteArray := prog_7_method_3_code
def yX5_canBeIn : MethodName := ⟨RX5, "canBeIn", "(LExtrasOffice$Ask;)Z"⟩
abbrev cX5_moveTo : ByteArray := prog_7_method_4_code
def yX5_moveTo : MethodName := ⟨RX5, "moveTo", "(LExtrasOffice$Ask;)V"⟩
abbrev cX5_answer : ByteArray := prog_7_method_5_code
def yX5_answer : MethodName := ⟨RX5, "answer", "(I)I"⟩
def RX6 : String := "ExtrasOffice$Plan"
def TX6 : u_T := fun k => match k with
  | 0 => ("ExtrasOffice$Plan", "asks", "Ljava/util/ArrayList;", false)
  | 1 => ("ExtrasOffice$Plan", "moves", "LExtrasOffice$Row;", true)
  | 2 => ("ExtrasOffice$Plan", "people", "Ljava/util/ArrayList;", true)
  | _ => ("ExtrasOffice$Plan", "tried", "I", false)
def tyX6 : Nat → FieldType := fun k => match k with
  | 0 => .object "java/util/ArrayList"
  | 1 => .object "ExtrasOffice$Row"
  | 2 => .object "java/util/ArrayList"
  | _ => .int
abbrev wsX60 : List Cond := u_ws RX6 TX6 4
theorem nmX6 : ∀ a, a < 4 → ∀ b, b < 4 → a ≠ b → (TX6 a).2.1 ≠ (TX6 b).2.1 := by decide +kernel
theorem tyX6_ok : ∀ k, k < 4 → parseFieldDescriptor (TX6 k).2.2.1 = some (tyX6 k) := by decide +kernel
abbrev cX6_init : ByteArray := prog_8_method_1_code
def yX6_init : MethodName := ⟨RX6, "<init>", "(Ljava/util/ArrayList;)V"⟩
abbrev cX6_find : ByteArray := prog_8_method_2_code
def yX6_find : MethodName := ⟨RX6, "find", "(I)LExtrasOffice$Ask;"⟩
abbrev cX6_size : ByteArray := prog_8_method_3_code
def yX6_size : MethodName := ⟨RX6, "size", "()I"⟩
abbrev cX6_startWith : ByteArray := prog_8_method_4_code
def yX6_startWith : MethodName := ⟨RX6, "startWith", "(Ljava/util/ArrayList;)V"⟩
abbrev cX6_dismissAll : ByteArray := prog_8_method_5_code
def yX6_dismissAll : MethodName := ⟨RX6, "dismissAll", "()V"⟩
abbrev cX6_lookWhoIsOpen : ByteArray := prog_8_method_6_code
def yX6_lookWhoIsOpen : MethodName := ⟨RX6, "lookWhoIsOpen", "(I)V"⟩
abbrev cX6_layFor : ByteArray := prog_8_method_7_code
def yX6_layFor : MethodName := ⟨RX6, "layFor", "(I)V"⟩
abbrev cX6_seatAllInLeast : ByteArray := prog_8_method_8_code
def yX6_seatAllInLeast : MethodName := ⟨RX6, "seatAllInLeast", "()V"⟩
abbrev cX6_seat : ByteArray := prog_8_method_9_code
def yX6_seat : MethodName := ⟨RX6, "seat", "(LExtrasOffice$Person;I)V"⟩
abbrev cX6_seatElsewhere : ByteArray := prog_8_method_10_code
def yX6_seatElsewhere : MethodName := ⟨RX6, "seatElsewhere", "(LExtrasOffice$Person;II)Z"⟩
abbrev cX6_makeRoom : ByteArray := prog_8_method_11_code
def yX6_makeRoom : MethodName := ⟨RX6, "makeRoom", "(LExtrasOffice$Ask;II)Z"⟩
abbrev cX6_mend : ByteArray := prog_8_method_12_code
def yX6_mend : MethodName := ⟨RX6, "mend", "(LExtrasOffice$Ask;I)V"⟩
abbrev cX6_measureRows : ByteArray := prog_8_method_13_code
def yX6_measureRows : MethodName := ⟨RX6, "measureRows", "()V"⟩
abbrev cX6_firstOfRow : ByteArray := prog_8_method_14_code
def yX6_firstOfRow : MethodName := ⟨RX6, "firstOfRow", "(LExtrasOffice$Ask;I)LExtrasOffice$Person;"⟩
def RX7 : String := "ExtrasOffice$Row"
def TX7 : u_T := fun k => match k with
  | 0 => ("ExtrasOffice$Row", "numbers", "[I", true)
  | _ => ("ExtrasOffice$Row", "size", "I", false)
def tyX7 : Nat → FieldType := fun k => match k with
  | 0 => .array .int
  | _ => .int
abbrev wsX70 : List Cond := u_ws RX7 TX7 2
theorem nmX7 : ∀ a, a < 2 → ∀ b, b < 2 → a ≠ b → (TX7 a).2.1 ≠ (TX7 b).2.1 := by decide +kernel
theorem tyX7_ok : ∀ k, k < 2 → parseFieldDescriptor (TX7 k).2.2.1 = some (tyX7 k) := by decide +kernel
abbrev cX7_init : ByteArray := prog_9_method_1_code
def yX7_init : MethodName := ⟨RX7, "<init>", "(I)V"⟩
abbrev cX7_add : ByteArray := prog_9_method_2_code
def yX7_add : MethodName := ⟨RX7, "add", "(I)V"⟩
abbrev cX7_at : ByteArray := prog_9_method_3_code
def yX7_at : MethodName := ⟨RX7, "at", "(I)I"⟩
def RX8 : String := "ExtrasOffice$Term"
def TX8 : u_T := fun k => match k with
  | 0 => ("ExtrasOffice$Term", "kind", "I", true)
  | 1 => ("ExtrasOffice$Term", "minute", "I", false)
  | 2 => ("ExtrasOffice$Term", "number", "I", false)
  | _ => ("ExtrasOffice$Term", "isUp", "Z", false)
def tyX8 : Nat → FieldType := fun k => match k with
  | 0 => .int
  | 1 => .int
  | 2 => .int
  | _ => .boolean
abbrev wsX80 : List Cond := u_ws RX8 TX8 4
theorem nmX8 : ∀ a, a < 4 → ∀ b, b < 4 → a ≠ b → (TX8 a).2.1 ≠ (TX8 b).2.1 := by decide +kernel
theorem tyX8_ok : ∀ k, k < 4 → parseFieldDescriptor (TX8 k).2.2.1 = some (tyX8 k) := by decide +kernel
abbrev cX8_init : ByteArray := prog_10_method_1_code
def yX8_init : MethodName := ⟨RX8, "<init>", "(I)V"⟩
abbrev cX8_kindAt : ByteArray := prog_10_method_2_code
def yX8_kindAt : MethodName := ⟨RX8, "kindAt", "(LExtrasOffice$Tokens;)I"⟩
abbrev cX8_readNumbers : ByteArray := prog_10_method_3_code
def yX8_readNumbers : MethodName := ⟨RX8, "readNumbers", "(LExtrasOffice$Tokens;)Z"⟩
abbrev cX8_worth : ByteArray := prog_10_method_4_code
def yX8_worth : MethodName := ⟨RX8, "worth", "(II)I"⟩
abbrev cX8_quarters : ByteArray := prog_10_method_5_code
def yX8_quarters : MethodName := ⟨RX8, "quarters", "(I)I"⟩
def RX9 : String := "ExtrasOffice$Tokens"
def TX9 : u_T := fun k => match k with
  | 0 => ("ExtrasOffice$Tokens", "fault", "I", false)
  | 1 => ("ExtrasOffice$Tokens", "faultPlace", "I", false)
  | 2 => ("ExtrasOffice$Tokens", "tape", "LExtrasOffice$Row;", true)
  | 3 => ("ExtrasOffice$Tokens", "kind", "I", false)
  | 4 => ("ExtrasOffice$Tokens", "start", "I", false)
  | 5 => ("ExtrasOffice$Tokens", "next", "I", false)
  | _ => ("ExtrasOffice$Tokens", "value", "I", false)
def tyX9 : Nat → FieldType := fun k => match k with
  | 0 => .int
  | 1 => .int
  | 2 => .object "ExtrasOffice$Row"
  | 3 => .int
  | 4 => .int
  | 5 => .int
  | _ => .int
abbrev wsX90 : List Cond := u_ws RX9 TX9 7
theorem nmX9 : ∀ a, a < 7 → ∀ b, b < 7 → a ≠ b → (TX9 a).2.1 ≠ (TX9 b).2.1 := by decide +kernel
theorem tyX9_ok : ∀ k, k < 7 → parseFieldDescriptor (TX9 k).2.2.1 = some (tyX9 k) := by decide +kernel
abbrev cX9_init : ByteArray := prog_11_method_1_code
def yX9_init : MethodName := ⟨RX9, "<init>", "(LExtrasOffice$Row;)V"⟩
abbrev cX9_begin : ByteArray := prog_11_method_2_code
def yX9_begin : MethodName := ⟨RX9, "begin", "()V"⟩
abbrev cX9_advance : ByteArray := prog_11_method_3_code
def yX9_advance : MethodName := ⟨RX9, "advance", "()V"⟩
abbrev cX9_kindOf : ByteArray := prog_11_method_4_code
def yX9_kindOf : MethodName := ⟨RX9, "kindOf", "(I)I"⟩
abbrev cX9_atEnd : ByteArray := prog_11_method_5_code
def yX9_atEnd : MethodName := ⟨RX9, "atEnd", "()Z"⟩
abbrev cX9_isWord : ByteArray := prog_11_method_6_code
def yX9_isWord : MethodName := ⟨RX9, "isWord", "(Ljava/lang/String;)Z"⟩
abbrev cX9_isSign : ByteArray := prog_11_method_7_code
def yX9_isSign : MethodName := ⟨RX9, "isSign", "(C)Z"⟩
abbrev cX9_passWord : ByteArray := prog_11_method_8_code
def yX9_passWord : MethodName := ⟨RX9, "passWord", "(Ljava/lang/String;)Z"⟩
abbrev cX9_passSign : ByteArray := prog_11_method_9_code
def yX9_passSign : MethodName := ⟨RX9, "passSign", "(C)Z"⟩
abbrev cX9_passNumber : ByteArray := prog_11_method_10_code
def yX9_passNumber : MethodName := ⟨RX9, "passNumber", "(II)I"⟩
abbrev cX9_passNumberAfter : ByteArray := prog_11_method_11_code
def yX9_passNumberAfter : MethodName := ⟨RX9, "passNumberAfter", "(Ljava/lang/String;II)I"⟩
abbrev cX9_fail : ByteArray := prog_11_method_12_code
def yX9_fail : MethodName := ⟨RX9, "fail", "(I)Z"⟩
def RX10 : String := "ExtrasOffice$Turn"
def TX10 : u_T := fun k => match k with
  | 0 => ("ExtrasOffice$Turn", "who", "LExtrasOffice$Person;", true)
  | 1 => ("ExtrasOffice$Turn", "day", "I", true)
  | 2 => ("ExtrasOffice$Turn", "ask", "LExtrasOffice$Ask;", true)
  | 3 => ("ExtrasOffice$Turn", "scene", "I", true)
  | 4 => ("ExtrasOffice$Turn", "coming", "I", false)
  | 5 => ("ExtrasOffice$Turn", "dressed", "I", false)
  | 6 => ("ExtrasOffice$Turn", "begun", "I", false)
  | 7 => ("ExtrasOffice$Turn", "sent", "I", false)
  | _ => ("ExtrasOffice$Turn", "agreement", "LExtrasOffice$Agreement;", false)
def tyX10 : Nat → FieldType := fun k => match k with
  | 0 => .object "ExtrasOffice$Person"
  | 1 => .int
  | 2 => .object "ExtrasOffice$Ask"
  | 3 => .int
  | 4 => .int
  | 5 => .int
  | 6 => .int
  | 7 => .int
  | _ => .object "ExtrasOffice$Agreement"
abbrev wsX100 : List Cond := u_ws RX10 TX10 9
theorem nmX10 : ∀ a, a < 9 → ∀ b, b < 9 → a ≠ b → (TX10 a).2.1 ≠ (TX10 b).2.1 := by decide +kernel
theorem tyX10_ok : ∀ k, k < 9 → parseFieldDescriptor (TX10 k).2.2.1 = some (tyX10 k) := by decide +kernel
abbrev cX10_init : ByteArray := prog_12_method_1_code
def yX10_init : MethodName := ⟨RX10, "<init>", "(LExtrasOffice$Person;ILExtrasOffice$Ask;)V"⟩
abbrev cX10_send : ByteArray := prog_12_method_2_code
def yX10_send : MethodName := ⟨RX10, "send", "(LExtrasOffice$Agreement;)V"⟩
abbrev cX10_earned : ByteArray := prog_12_method_3_code
def yX10_earned : MethodName := ⟨RX10, "earned", "()I"⟩
abbrev cX10_answer : ByteArray := prog_12_method_4_code
def yX10_answer : MethodName := ⟨RX10, "answer", "(I)I"⟩
def RX11 : String := "ExtrasOffice"
def TX11 : u_T := fun k => match k with
  | 0 => ("ExtrasOffice", "people", "Ljava/util/ArrayList;", true)
  | 1 => ("ExtrasOffice", "tape", "LExtrasOffice$Row;", true)
  | 2 => ("ExtrasOffice", "tokens", "LExtrasOffice$Tokens;", true)
  | 3 => ("ExtrasOffice", "askReader", "LExtrasOffice$AskReader;", true)
  | 4 => ("ExtrasOffice", "agreements", "Ljava/util/ArrayList;", true)
  | 5 => ("ExtrasOffice", "facts", "LExtrasOffice$Facts;", true)
  | 6 => ("ExtrasOffice", "plan", "LExtrasOffice$Plan;", true)
  | 7 => ("ExtrasOffice", "dressing", "LExtrasOffice$Dressing;", true)
  | 8 => ("ExtrasOffice", "records", "Ljava/util/ArrayList;", true)
  | 9 => ("ExtrasOffice", "lacking", "LExtrasOffice$Row;", true)
  | _ => ("ExtrasOffice", "day", "I", false)
def tyX11 : Nat → FieldType := fun k => match k with
  | 0 => .object "java/util/ArrayList"
  | 1 => .object "ExtrasOffice$Row"
  | 2 => .object "ExtrasOffice$Tokens"
  | 3 => .object "ExtrasOffice$AskReader"
  | 4 => .object "java/util/ArrayList"
  | 5 => .object "ExtrasOffice$Facts"
  | 6 => .object "ExtrasOffice$Plan"
  | 7 => .object "ExtrasOffice$Dressing"
  | 8 => .object "java/util/ArrayList"
  | 9 => .object "ExtrasOffice$Row"
  | _ => .int
abbrev wsX110 : List Cond := u_ws RX11 TX11 11
theorem nmX11 : ∀ a, a < 11 → ∀ b, b < 11 → a ≠ b → (TX11 a).2.1 ≠ (TX11 b).2.1 := by decide +kernel
theorem tyX11_ok : ∀ k, k < 11 → parseFieldDescriptor (TX11 k).2.2.1 = some (tyX11 k) := by decide +kernel
abbrev cX11_init : ByteArray := prog_1_method_1_code
def yX11_init : MethodName := ⟨RX11, "<init>", "()V"⟩
abbrev cX11_person : ByteArray := prog_1_method_2_code
def yX11_person : MethodName := ⟨RX11, "person", "(IIIII)I"⟩
abbrev cX11_away : ByteArray := prog_1_method_3_code
def yX11_away : MethodName := ⟨RX11, "away", "(IZ)Z"⟩
abbrev cX11_feed : ByteArray := prog_1_method_4_code
def yX11_feed : MethodName := ⟨RX11, "feed", "(IIIII)I"⟩
abbrev cX11_end : ByteArray := prog_1_method_5_code
def yX11_end : MethodName := ⟨RX11, "end", "(I)I"⟩
abbrev cX11_asks : ByteArray := prog_1_method_6_code
def yX11_asks : MethodName := ⟨RX11, "asks", "()I"⟩
abbrev cX11_agree : ByteArray := prog_1_method_7_code
def yX11_agree : MethodName := ⟨RX11, "agree", "()I"⟩
abbrev cX11_place : ByteArray := prog_1_method_8_code
def yX11_place : MethodName := ⟨RX11, "place", "()I"⟩
abbrev cX11_fits : ByteArray := prog_1_method_9_code
def yX11_fits : MethodName := ⟨RX11, "fits", "(III)I"⟩
abbrev cX11_lay : ByteArray := prog_1_method_10_code
def yX11_lay : MethodName := ⟨RX11, "lay", "()I"⟩
abbrev cX11_called : ByteArray := prog_1_method_11_code
def yX11_called : MethodName := ⟨RX11, "called", "(I)I"⟩
abbrev cX11_no : ByteArray := prog_1_method_12_code
def yX11_no : MethodName := ⟨RX11, "no", "(I)I"⟩
abbrev cX11_moved : ByteArray := prog_1_method_13_code
def yX11_moved : MethodName := ⟨RX11, "moved", "(I)I"⟩
abbrev cX11_step : ByteArray := prog_1_method_14_code
def yX11_step : MethodName := ⟨RX11, "step", "(II)I"⟩
abbrev cX11_record : ByteArray := prog_1_method_15_code
def yX11_record : MethodName := ⟨RX11, "record", "(III)I"⟩
abbrev cX11_tell : ByteArray := prog_1_method_16_code
def yX11_tell : MethodName := ⟨RX11, "tell", "(II)I"⟩
abbrev cX11_seen : ByteArray := prog_1_method_17_code
def yX11_seen : MethodName := ⟨RX11, "seen", "(III)I"⟩
abbrev cX11_retake : ByteArray := prog_1_method_18_code
def yX11_retake : MethodName := ⟨RX11, "retake", "(II)I"⟩
abbrev cX11_lacks : ByteArray := prog_1_method_19_code
def yX11_lacks : MethodName := ⟨RX11, "lacks", "(I)I"⟩
abbrev cX11_buses : ByteArray := prog_1_method_20_code
def yX11_buses : MethodName := ⟨RX11, "buses", "(II)I"⟩
abbrev cX11_ask : ByteArray := prog_1_method_21_code
def yX11_ask : MethodName := ⟨RX11, "ask", "(II)I"⟩
abbrev cX11_about : ByteArray := prog_1_method_22_code
def yX11_about : MethodName := ⟨RX11, "about", "(II)I"⟩
abbrev cX11_pay : ByteArray := prog_1_method_23_code
def yX11_pay : MethodName := ⟨RX11, "pay", "(III)J"⟩
abbrev cX11_count : ByteArray := prog_1_method_24_code
def yX11_count : MethodName := ⟨RX11, "count", "(I)I"⟩
abbrev cX11_within : ByteArray := prog_1_method_25_code
def yX11_within : MethodName := ⟨RX11, "within", "(III)Z"⟩
abbrev cX11_isScene : ByteArray := prog_1_method_26_code
def yX11_isScene : MethodName := ⟨RX11, "isScene", "(I)Z"⟩
abbrev cX11_find : ByteArray := prog_1_method_27_code
def yX11_find : MethodName := ⟨RX11, "find", "(I)LExtrasOffice$Person;"⟩
abbrev cX11_findRecord : ByteArray := prog_1_method_28_code
def yX11_findRecord : MethodName := ⟨RX11, "findRecord", "(II)LExtrasOffice$Turn;"⟩
abbrev cX11_addBytes : ByteArray := prog_1_method_29_code
def yX11_addBytes : MethodName := ⟨RX11, "addBytes", "(I)V"⟩
abbrev cX11_sendAll : ByteArray := prog_1_method_30_code
def yX11_sendAll : MethodName := ⟨RX11, "sendAll", "()I"⟩
def RX12 : String := "ExtrasOfficeModel"
def TX12 : u_T := fun k => match k with
  | 0 => ("ExtrasOfficeModel", "thrown", "I", false)
  | 1 => ("ExtrasOfficeModel", "people", "I", false)
  | 2 => ("ExtrasOfficeModel", "day", "I", false)
  | 3 => ("ExtrasOfficeModel", "age", "[I", true)
  | 4 => ("ExtrasOfficeModel", "tall", "[I", true)
  | 5 => ("ExtrasOfficeModel", "looks", "[I", true)
  | 6 => ("ExtrasOfficeModel", "home", "[I", true)
  | 7 => ("ExtrasOfficeModel", "slow", "[I", true)
  | 8 => ("ExtrasOfficeModel", "isAway", "[Z", true)
  | 9 => ("ExtrasOfficeModel", "turns", "[I", true)
  | 10 => ("ExtrasOfficeModel", "free", "[I", true)
  | 11 => ("ExtrasOfficeModel", "called", "[I", true)
  | 12 => ("ExtrasOfficeModel", "facts", "I", false)
  | 13 => ("ExtrasOfficeModel", "told", "I", false)
  | 14 => ("ExtrasOfficeModel", "factPerson", "[I", true)
  | 15 => ("ExtrasOfficeModel", "factScene", "[I", true)
  | 16 => ("ExtrasOfficeModel", "tape", "[B", true)
  | 17 => ("ExtrasOfficeModel", "taped", "I", false)
  | 18 => ("ExtrasOfficeModel", "row", "[B", false)
  | 19 => ("ExtrasOfficeModel", "size", "I", false)
  | 20 => ("ExtrasOfficeModel", "at", "I", false)
  | 21 => ("ExtrasOfficeModel", "place", "I", false)
  | 22 => ("ExtrasOfficeModel", "sort", "I", false)
  | 23 => ("ExtrasOfficeModel", "value", "I", false)
  | 24 => ("ExtrasOfficeModel", "fault", "I", false)
  | 25 => ("ExtrasOfficeModel", "faultPlace", "I", false)
  | 26 => ("ExtrasOfficeModel", "lastPlace", "I", false)
  | 27 => ("ExtrasOfficeModel", "reading", "Z", false)
  | 28 => ("ExtrasOfficeModel", "whose", "I", false)
  | 29 => ("ExtrasOfficeModel", "asks", "I", false)
  | 30 => ("ExtrasOfficeModel", "text", "[B", true)
  | 31 => ("ExtrasOfficeModel", "textSize", "I", false)
  | 32 => ("ExtrasOfficeModel", "scene", "[I", true)
  | 33 => ("ExtrasOfficeModel", "minute", "[I", true)
  | 34 => ("ExtrasOfficeModel", "takes", "[I", true)
  | 35 => ("ExtrasOfficeModel", "many", "[I", true)
  | 36 => ("ExtrasOfficeModel", "begins", "[I", true)
  | 37 => ("ExtrasOfficeModel", "newAsks", "I", false)
  | 38 => ("ExtrasOfficeModel", "newScene", "[I", true)
  | 39 => ("ExtrasOfficeModel", "newMinute", "[I", true)
  | 40 => ("ExtrasOfficeModel", "newTakes", "[I", true)
  | 41 => ("ExtrasOfficeModel", "newMany", "[I", true)
  | 42 => ("ExtrasOfficeModel", "newBegins", "[I", true)
  | 43 => ("ExtrasOfficeModel", "may", "[I", true)
  | 44 => ("ExtrasOfficeModel", "wanted", "[Z", true)
  | 45 => ("ExtrasOfficeModel", "room", "[I", true)
  | 46 => ("ExtrasOfficeModel", "asked", "[Z", true)
  | 47 => ("ExtrasOfficeModel", "moved", "[I", true)
  | 48 => ("ExtrasOfficeModel", "movers", "I", false)
  | 49 => ("ExtrasOfficeModel", "agreements", "I", false)
  | 50 => ("ExtrasOfficeModel", "terms", "[I", true)
  | 51 => ("ExtrasOfficeModel", "termKind", "[I", true)
  | 52 => ("ExtrasOfficeModel", "termMinutes", "[I", true)
  | 53 => ("ExtrasOfficeModel", "termNumber", "[I", true)
  | 54 => ("ExtrasOfficeModel", "termUp", "[Z", true)
  | 55 => ("ExtrasOfficeModel", "records", "I", false)
  | 56 => ("ExtrasOfficeModel", "rScene", "[I", true)
  | 57 => ("ExtrasOfficeModel", "rComing", "[I", true)
  | 58 => ("ExtrasOfficeModel", "rDressed", "[I", true)
  | 59 => ("ExtrasOfficeModel", "rBegun", "[I", true)
  | 60 => ("ExtrasOfficeModel", "rSent", "[I", true)
  | 61 => ("ExtrasOfficeModel", "rAgreement", "[I", true)
  | 62 => ("ExtrasOfficeModel", "dresser", "[I", true)
  | 63 => ("ExtrasOfficeModel", "isDressed", "[Z", true)
  | 64 => ("ExtrasOfficeModel", "coming", "[I", true)
  | 65 => ("ExtrasOfficeModel", "dressed", "[I", true)
  | 66 => ("ExtrasOfficeModel", "lacking", "[I", true)
  | _ => ("ExtrasOfficeModel", "lacks", "I", false)
def tyX12 : Nat → FieldType := fun k => match k with
  | 0 => .int
  | 1 => .int
  | 2 => .int
  | 3 => .array .int
  | 4 => .array .int
  | 5 => .array .int
  | 6 => .array .int
  | 7 => .array .int
  | 8 => .array .boolean
  | 9 => .array .int
  | 10 => .array .int
  | 11 => .array .int
  | 12 => .int
  | 13 => .int
  | 14 => .array .int
  | 15 => .array .int
  | 16 => .array .byte
  | 17 => .int
  | 18 => .array .byte
  | 19 => .int
  | 20 => .int
  | 21 => .int
  | 22 => .int
  | 23 => .int
  | 24 => .int
  | 25 => .int
  | 26 => .int
  | 27 => .boolean
  | 28 => .int
  | 29 => .int
  | 30 => .array .byte
  | 31 => .int
  | 32 => .array .int
  | 33 => .array .int
  | 34 => .array .int
  | 35 => .array .int
  | 36 => .array .int
  | 37 => .int
  | 38 => .array .int
  | 39 => .array .int
  | 40 => .array .int
  | 41 => .array .int
  | 42 => .array .int
  | 43 => .array .int
  | 44 => .array .boolean
  | 45 => .array .int
  | 46 => .array .boolean
  | 47 => .array .int
  | 48 => .int
  | 49 => .int
  | 50 => .array .int
  | 51 => .array .int
  | 52 => .array .int
  | 53 => .array .int
  | 54 => .array .boolean
  | 55 => .int
  | 56 => .array .int
  | 57 => .array .int
  | 58 => .array .int
  | 59 => .array .int
  | 60 => .array .int
  | 61 => .array .int
  | 62 => .array .int
  | 63 => .array .boolean
  | 64 => .array .int
  | 65 => .array .int
  | 66 => .array .int
  | _ => .int
abbrev wsX120 : List Cond := u_ws RX12 TX12 68
theorem nmX12 : ∀ a, a < 68 → ∀ b, b < 68 → a ≠ b → (TX12 a).2.1 ≠ (TX12 b).2.1 := by decide +kernel
theorem tyX12_ok : ∀ k, k < 68 → parseFieldDescriptor (TX12 k).2.2.1 = some (tyX12 k) := by decide +kernel
abbrev cX12_thrown : ByteArray := prog_14_method_1_code
def yX12_thrown : MethodName := ⟨RX12, "thrown", "()I"⟩
abbrev cX12_within : ByteArray := prog_14_method_2_code
def yX12_within : MethodName := ⟨RX12, "within", "(III)Z"⟩
abbrev cX12_init : ByteArray := prog_14_method_3_code
def yX12_init : MethodName := ⟨RX12, "<init>", "()V"⟩
abbrev cX12_person : ByteArray := prog_14_method_4_code
def yX12_person : MethodName := ⟨RX12, "person", "(IIIII)I"⟩
abbrev cX12_isPerson : ByteArray := prog_14_method_5_code
def yX12_isPerson : MethodName := ⟨RX12, "isPerson", "(I)Z"⟩
abbrev cX12_away : ByteArray := prog_14_method_6_code
def yX12_away : MethodName := ⟨RX12, "away", "(IZ)Z"⟩
abbrev cX12_about : ByteArray := prog_14_method_7_code
def yX12_about : MethodName := ⟨RX12, "about", "(II)I"⟩
abbrev cX12_fact : ByteArray := prog_14_method_8_code
def yX12_fact : MethodName := ⟨RX12, "fact", "(II)I"⟩
abbrev cX12_tell : ByteArray := prog_14_method_9_code
def yX12_tell : MethodName := ⟨RX12, "tell", "(II)I"⟩
abbrev cX12_times : ByteArray := prog_14_method_10_code
def yX12_times : MethodName := ⟨RX12, "times", "(III)I"⟩
abbrev cX12_seen : ByteArray := prog_14_method_11_code
def yX12_seen : MethodName := ⟨RX12, "seen", "(III)I"⟩
abbrev cX12_feed : ByteArray := prog_14_method_12_code
def yX12_feed : MethodName := ⟨RX12, "feed", "(IIIII)I"⟩
abbrev cX12_end : ByteArray := prog_14_method_13_code
def yX12_end : MethodName := ⟨RX12, "end", "(I)I"⟩
abbrev cX12_see : ByteArray := prog_14_method_14_code
def yX12_see : MethodName := ⟨RX12, "see", "(I)I"⟩
abbrev cX12_isSmall : ByteArray := prog_14_method_15_code
def yX12_isSmall : MethodName := ⟨RX12, "isSmall", "(I)Z"⟩
abbrev cX12_isDigit : ByteArray := prog_14_method_16_code
def yX12_isDigit : MethodName := ⟨RX12, "isDigit", "(I)Z"⟩
abbrev cX12_next : ByteArray := prog_14_method_17_code
def yX12_next : MethodName := ⟨RX12, "next", "()V"⟩
abbrev cX12_starts : ByteArray := prog_14_method_18_code
def yX12_starts : MethodName := ⟨RX12, "starts", "([BII)V"⟩
abbrev cX12_isWord : ByteArray := prog_14_method_19_code
def yX12_isWord : MethodName := ⟨RX12, "isWord", "(Ljava/lang/String;)Z"⟩
abbrev cX12_is : ByteArray := prog_14_method_20_code
def yX12_is : MethodName := ⟨RX12, "is", "(I)Z"⟩
abbrev cX12_fails : ByteArray := prog_14_method_21_code
def yX12_fails : MethodName := ⟨RX12, "fails", "(I)V"⟩
abbrev cX12_wants : ByteArray := prog_14_method_22_code
def yX12_wants : MethodName := ⟨RX12, "wants", "(I)V"⟩
abbrev cX12_wants_ : ByteArray := prog_14_method_23_code
def yX12_wants_ : MethodName := ⟨RX12, "wants", "(Ljava/lang/String;)V"⟩
abbrev cX12_number : ByteArray := prog_14_method_24_code
def yX12_number : MethodName := ⟨RX12, "number", "(II)I"⟩
abbrev cX12_either : ByteArray := prog_14_method_25_code
def yX12_either : MethodName := ⟨RX12, "either", "(I)Z"⟩
abbrev cX12_all : ByteArray := prog_14_method_26_code
def yX12_all : MethodName := ⟨RX12, "all", "(I)Z"⟩
abbrev cX12_one : ByteArray := prog_14_method_27_code
def yX12_one : MethodName := ⟨RX12, "one", "(I)Z"⟩
abbrev cX12_readAsk : ByteArray := prog_14_method_28_code
def yX12_readAsk : MethodName := ⟨RX12, "readAsk", "()V"⟩
abbrev cX12_nobody : ByteArray := prog_14_method_29_code
def yX12_nobody : MethodName := ⟨RX12, "nobody", "()V"⟩
abbrev cX12_asks : ByteArray := prog_14_method_30_code
def yX12_asks : MethodName := ⟨RX12, "asks", "()I"⟩
abbrev cX12_place : ByteArray := prog_14_method_31_code
def yX12_place : MethodName := ⟨RX12, "place", "()I"⟩
abbrev cX12_doesFit : ByteArray := prog_14_method_32_code
def yX12_doesFit : MethodName := ⟨RX12, "doesFit", "(II)Z"⟩
abbrev cX12_canBe : ByteArray := prog_14_method_33_code
def yX12_canBe : MethodName := ⟨RX12, "canBe", "(II)Z"⟩
abbrev cX12_isAsk : ByteArray := prog_14_method_34_code
def yX12_isAsk : MethodName := ⟨RX12, "isAsk", "(I)Z"⟩
abbrev cX12_fits : ByteArray := prog_14_method_35_code
def yX12_fits : MethodName := ⟨RX12, "fits", "(III)I"⟩
abbrev cX12_calledIn : ByteArray := prog_14_method_36_code
def yX12_calledIn : MethodName := ⟨RX12, "calledIn", "(I)I"⟩
abbrev cX12_ask : ByteArray := prog_14_method_37_code
def yX12_ask : MethodName := ⟨RX12, "ask", "(II)I"⟩
abbrev cX12_isRoom : ByteArray := prog_14_method_38_code
def yX12_isRoom : MethodName := ⟨RX12, "isRoom", "()Z"⟩
abbrev cX12_first : ByteArray := prog_14_method_39_code
def yX12_first : MethodName := ⟨RX12, "first", "()I"⟩
abbrev cX12_reckons : ByteArray := prog_14_method_40_code
def yX12_reckons : MethodName := ⟨RX12, "reckons", "()V"⟩
abbrev cX12_lay : ByteArray := prog_14_method_41_code
def yX12_lay : MethodName := ⟨RX12, "lay", "()I"⟩
abbrev cX12_called : ByteArray := prog_14_method_42_code
def yX12_called : MethodName := ⟨RX12, "called", "(I)I"⟩
abbrev cX12_mends : ByteArray := prog_14_method_43_code
def yX12_mends : MethodName := ⟨RX12, "mends", "(IIII)Z"⟩
abbrev cX12_no : ByteArray := prog_14_method_44_code
def yX12_no : MethodName := ⟨RX12, "no", "(I)I"⟩
abbrev cX12_moved : ByteArray := prog_14_method_45_code
def yX12_moved : MethodName := ⟨RX12, "moved", "(I)I"⟩
abbrev cX12_readTerm : ByteArray := prog_14_method_46_code
def yX12_readTerm : MethodName := ⟨RX12, "readTerm", "()V"⟩
abbrev cX12_agree : ByteArray := prog_14_method_47_code
def yX12_agree : MethodName := ⟨RX12, "agree", "()I"⟩
abbrev cX12_quarters : ByteArray := prog_14_method_48_code
def yX12_quarters : MethodName := ⟨RX12, "quarters", "(IZ)I"⟩
abbrev cX12_worth : ByteArray := prog_14_method_49_code
def yX12_worth : MethodName := ⟨RX12, "worth", "(III)I"⟩
abbrev cX12_next_ : ByteArray := prog_14_method_50_code
def yX12_next_ : MethodName := ⟨RX12, "next", "(I)I"⟩
abbrev cX12_dresses : ByteArray := prog_14_method_51_code
def yX12_dresses : MethodName := ⟨RX12, "dresses", "(I)V"⟩
abbrev cX12_nextComing : ByteArray := prog_14_method_52_code
def yX12_nextComing : MethodName := ⟨RX12, "nextComing", "()I"⟩
abbrev cX12_step : ByteArray := prog_14_method_53_code
def yX12_step : MethodName := ⟨RX12, "step", "(II)I"⟩
abbrev cX12_isRecord : ByteArray := prog_14_method_54_code
def yX12_isRecord : MethodName := ⟨RX12, "isRecord", "(II)Z"⟩
abbrev cX12_record : ByteArray := prog_14_method_55_code
def yX12_record : MethodName := ⟨RX12, "record", "(III)I"⟩
abbrev cX12_pay : ByteArray := prog_14_method_56_code
def yX12_pay : MethodName := ⟨RX12, "pay", "(III)J"⟩
abbrev cX12_retake : ByteArray := prog_14_method_57_code
def yX12_retake : MethodName := ⟨RX12, "retake", "(II)I"⟩
abbrev cX12_lacks : ByteArray := prog_14_method_58_code
def yX12_lacks : MethodName := ⟨RX12, "lacks", "(I)I"⟩
abbrev cX12_buses : ByteArray := prog_14_method_59_code
def yX12_buses : MethodName := ⟨RX12, "buses", "(II)I"⟩
abbrev cX12_allCalled : ByteArray := prog_14_method_60_code
def yX12_allCalled : MethodName := ⟨RX12, "allCalled", "()I"⟩
abbrev cX12_count : ByteArray := prog_14_method_61_code
def yX12_count : MethodName := ⟨RX12, "count", "(I)I"⟩
def RJx145de : String := "java/io/Serializable"
def TJx145de : u_T := fun k => match k with
  | _ => ("", "", "", false)
def tyJx145de : Nat → FieldType := fun k => match k with
  | _ => .int
abbrev wsJx145de0 : List Cond := u_ws RJx145de TJx145de 0
theorem nmJx145de : ∀ a, a < 0 → ∀ b, b < 0 → a ≠ b → (TJx145de a).2.1 ≠ (TJx145de b).2.1 := by decide +kernel
theorem tyJx145de_ok : ∀ k, k < 0 → parseFieldDescriptor (TJx145de k).2.2.1 = some (tyJx145de k) := by decide +kernel
def RJx9f9b0 : String := "java/lang/CharSequence"
def TJx9f9b0 : u_T := fun k => match k with
  | _ => ("", "", "", false)
def tyJx9f9b0 : Nat → FieldType := fun k => match k with
  | _ => .int
abbrev wsJx9f9b00 : List Cond := u_ws RJx9f9b0 TJx9f9b0 0
theorem nmJx9f9b0 : ∀ a, a < 0 → ∀ b, b < 0 → a ≠ b → (TJx9f9b0 a).2.1 ≠ (TJx9f9b0 b).2.1 := by decide +kernel
theorem tyJx9f9b0_ok : ∀ k, k < 0 → parseFieldDescriptor (TJx9f9b0 k).2.2.1 = some (tyJx9f9b0 k) := by decide +kernel
def RJx8e188 : String := "java/lang/Cloneable"
def TJx8e188 : u_T := fun k => match k with
  | _ => ("", "", "", false)
def tyJx8e188 : Nat → FieldType := fun k => match k with
  | _ => .int
abbrev wsJx8e1880 : List Cond := u_ws RJx8e188 TJx8e188 0
theorem nmJx8e188 : ∀ a, a < 0 → ∀ b, b < 0 → a ≠ b → (TJx8e188 a).2.1 ≠ (TJx8e188 b).2.1 := by decide +kernel
theorem tyJx8e188_ok : ∀ k, k < 0 → parseFieldDescriptor (TJx8e188 k).2.2.1 = some (tyJx8e188 k) := by decide +kernel
def RJxb160c : String := "java/lang/Comparable"
def TJxb160c : u_T := fun k => match k with
  | _ => ("", "", "", false)
def tyJxb160c : Nat → FieldType := fun k => match k with
  | _ => .int
abbrev wsJxb160c0 : List Cond := u_ws RJxb160c TJxb160c 0
theorem nmJxb160c : ∀ a, a < 0 → ∀ b, b < 0 → a ≠ b → (TJxb160c a).2.1 ≠ (TJxb160c b).2.1 := by decide +kernel
theorem tyJxb160c_ok : ∀ k, k < 0 → parseFieldDescriptor (TJxb160c k).2.2.1 = some (tyJxb160c k) := by decide +kernel
def RJxab1ab : String := "java/lang/Iterable"
def TJxab1ab : u_T := fun k => match k with
  | _ => ("", "", "", false)
def tyJxab1ab : Nat → FieldType := fun k => match k with
  | _ => .int
abbrev wsJxab1ab0 : List Cond := u_ws RJxab1ab TJxab1ab 0
theorem nmJxab1ab : ∀ a, a < 0 → ∀ b, b < 0 → a ≠ b → (TJxab1ab a).2.1 ≠ (TJxab1ab b).2.1 := by decide +kernel
theorem tyJxab1ab_ok : ∀ k, k < 0 → parseFieldDescriptor (TJxab1ab k).2.2.1 = some (tyJxab1ab k) := by decide +kernel
def RJ9 : String := "java/lang/Math"
def TJ9 : u_T := fun k => match k with
  | _ => ("", "", "", false)
def tyJ9 : Nat → FieldType := fun k => match k with
  | _ => .int
abbrev wsJ90 : List Cond := u_ws RJ9 TJ9 0
theorem nmJ9 : ∀ a, a < 0 → ∀ b, b < 0 → a ≠ b → (TJ9 a).2.1 ≠ (TJ9 b).2.1 := by decide +kernel
theorem tyJ9_ok : ∀ k, k < 0 → parseFieldDescriptor (TJ9 k).2.2.1 = some (tyJ9 k) := by decide +kernel
abbrev cJ9_max_7cf53 : ByteArray := prog_21_method_65_code
def yJ9_max_7cf53 : MethodName := ⟨RJ9, "max", "(II)I"⟩
abbrev cJ9_min_7cf53 : ByteArray := prog_21_method_69_code
def yJ9_min_7cf53 : MethodName := ⟨RJ9, "min", "(II)I"⟩
def RJ0 : String := "java/lang/String"
def TJ0 : u_T := fun k => match k with
  | _ => ("", "", "", false)
def tyJ0 : Nat → FieldType := fun k => match k with
  | _ => .int
abbrev wsJ00 : List Cond := u_ws RJ0 TJ0 0
theorem nmJ0 : ∀ a, a < 0 → ∀ b, b < 0 → a ≠ b → (TJ0 a).2.1 ≠ (TJ0 b).2.1 := by decide +kernel
theorem tyJ0_ok : ∀ k, k < 0 → parseFieldDescriptor (TJ0 k).2.2.1 = some (tyJ0 k) := by decide +kernel
abbrev cJ0_length_8abf5 : ByteArray := prog_23_method_54_code
def yJ0_length_8abf5 : MethodName := ⟨RJ0, "length", "()I"⟩
abbrev cJ0_charAt_5068e : ByteArray := prog_23_method_56_code
def yJ0_charAt_5068e : MethodName := ⟨RJ0, "charAt", "(I)C"⟩
abbrev cJ0_coder_7d493 : ByteArray := prog_23_method_152_code
def yJ0_coder_7d493 : MethodName := ⟨RJ0, "coder", "()B"⟩
abbrev cJ0_isLatin1_aae02 : ByteArray := prog_23_method_154_code
def yJ0_isLatin1_aae02 : MethodName := ⟨RJ0, "isLatin1", "()Z"⟩
abbrev cJ0_checkIndex_df160 : ByteArray := prog_23_method_155_code
def yJ0_checkIndex_df160 : MethodName := ⟨RJ0, "checkIndex", "(II)V"⟩
def RJ1 : String := "java/lang/StringLatin1"
def TJ1 : u_T := fun k => match k with
  | _ => ("", "", "", false)
def tyJ1 : Nat → FieldType := fun k => match k with
  | _ => .int
abbrev wsJ10 : List Cond := u_ws RJ1 TJ1 0
theorem nmJ1 : ∀ a, a < 0 → ∀ b, b < 0 → a ≠ b → (TJ1 a).2.1 ≠ (TJ1 b).2.1 := by decide +kernel
theorem tyJ1_ok : ∀ k, k < 0 → parseFieldDescriptor (TJ1 k).2.2.1 = some (tyJ1 k) := by decide +kernel
abbrev cJ1_charAt_3b067 : ByteArray := prog_24_method_2_code
def yJ1_charAt_3b067 : MethodName := ⟨RJ1, "charAt", "([BI)C"⟩
def RJ2 : String := "java/lang/StringUTF16"
def TJ2 : u_T := fun k => match k with
  | _ => ("", "", "", false)
def tyJ2 : Nat → FieldType := fun k => match k with
  | _ => .int
abbrev wsJ20 : List Cond := u_ws RJ2 TJ2 0
theorem nmJ2 : ∀ a, a < 0 → ∀ b, b < 0 → a ≠ b → (TJ2 a).2.1 ≠ (TJ2 b).2.1 := by decide +kernel
theorem tyJ2_ok : ∀ k, k < 0 → parseFieldDescriptor (TJ2 k).2.2.1 = some (tyJ2 k) := by decide +kernel
abbrev cJ2_getChar_3b067 : ByteArray := prog_25_method_5_code
def yJ2_getChar_3b067 : MethodName := ⟨RJ2, "getChar", "([BI)C"⟩
abbrev cJ2_length_9d52b : ByteArray := prog_25_method_6_code
def yJ2_length_9d52b : MethodName := ⟨RJ2, "length", "([B)I"⟩
abbrev cJ2_charAt_3b067 : ByteArray := prog_25_method_83_code
def yJ2_charAt_3b067 : MethodName := ⟨RJ2, "charAt", "([BI)C"⟩
abbrev cJ2_checkIndex_2214a : ByteArray := prog_25_method_91_code
def yJ2_checkIndex_2214a : MethodName := ⟨RJ2, "checkIndex", "(I[B)V"⟩
def RJ10 : String := "java/lang/System"
def TJ10 : u_T := fun k => match k with
  | _ => ("", "", "", false)
def tyJ10 : Nat → FieldType := fun k => match k with
  | _ => .int
abbrev wsJ100 : List Cond := u_ws RJ10 TJ10 0
theorem nmJ10 : ∀ a, a < 0 → ∀ b, b < 0 → a ≠ b → (TJ10 a).2.1 ≠ (TJ10 b).2.1 := by decide +kernel
theorem tyJ10_ok : ∀ k, k < 0 → parseFieldDescriptor (TJ10 k).2.2.1 = some (tyJ10 k) := by decide +kernel
def RJxfd54e : String := "java/lang/constant/Constable"
def TJxfd54e : u_T := fun k => match k with
  | _ => ("", "", "", false)
def tyJxfd54e : Nat → FieldType := fun k => match k with
  | _ => .int
abbrev wsJxfd54e0 : List Cond := u_ws RJxfd54e TJxfd54e 0
theorem nmJxfd54e : ∀ a, a < 0 → ∀ b, b < 0 → a ≠ b → (TJxfd54e a).2.1 ≠ (TJxfd54e b).2.1 := by decide +kernel
theorem tyJxfd54e_ok : ∀ k, k < 0 → parseFieldDescriptor (TJxfd54e k).2.2.1 = some (tyJxfd54e k) := by decide +kernel
def RJx3cf43 : String := "java/lang/constant/ConstantDesc"
def TJx3cf43 : u_T := fun k => match k with
  | _ => ("", "", "", false)
def tyJx3cf43 : Nat → FieldType := fun k => match k with
  | _ => .int
abbrev wsJx3cf430 : List Cond := u_ws RJx3cf43 TJx3cf43 0
theorem nmJx3cf43 : ∀ a, a < 0 → ∀ b, b < 0 → a ≠ b → (TJx3cf43 a).2.1 ≠ (TJx3cf43 b).2.1 := by decide +kernel
theorem tyJx3cf43_ok : ∀ k, k < 0 → parseFieldDescriptor (TJx3cf43 k).2.2.1 = some (tyJx3cf43 k) := by decide +kernel
def RJxa1e45 : String := "java/util/AbstractCollection"
def TJxa1e45 : u_T := fun k => match k with
  | _ => ("", "", "", false)
def tyJxa1e45 : Nat → FieldType := fun k => match k with
  | _ => .int
abbrev wsJxa1e450 : List Cond := u_ws RJxa1e45 TJxa1e45 0
theorem nmJxa1e45 : ∀ a, a < 0 → ∀ b, b < 0 → a ≠ b → (TJxa1e45 a).2.1 ≠ (TJxa1e45 b).2.1 := by decide +kernel
theorem tyJxa1e45_ok : ∀ k, k < 0 → parseFieldDescriptor (TJxa1e45 k).2.2.1 = some (tyJxa1e45 k) := by decide +kernel
abbrev cJxa1e45_init_da8c8 : ByteArray := prog_30_method_1_code
def yJxa1e45_init_da8c8 : MethodName := ⟨RJxa1e45, "<init>", "()V"⟩
def RJxc12de : String := "java/util/AbstractList"
def TJxc12de : u_T := fun k => match k with
  | _ => ("", "", "", false)
def tyJxc12de : Nat → FieldType := fun k => match k with
  | _ => .int
abbrev wsJxc12de0 : List Cond := u_ws RJxc12de TJxc12de 0
theorem nmJxc12de : ∀ a, a < 0 → ∀ b, b < 0 → a ≠ b → (TJxc12de a).2.1 ≠ (TJxc12de b).2.1 := by decide +kernel
theorem tyJxc12de_ok : ∀ k, k < 0 → parseFieldDescriptor (TJxc12de k).2.2.1 = some (tyJxc12de k) := by decide +kernel
abbrev cJxc12de_init_da8c8 : ByteArray := prog_31_method_1_code
def yJxc12de_init_da8c8 : MethodName := ⟨RJxc12de, "<init>", "()V"⟩
def RJx4a65c : String := "java/util/ArrayList"
def TJx4a65c : u_T := fun k => match k with
  | 0 => ("java/util/AbstractList", "modCount", "I", false)
  | 1 => ("java/util/ArrayList", "elementData", "[Ljava/lang/Object;", false)
  | _ => ("java/util/ArrayList", "size", "I", false)
def tyJx4a65c : Nat → FieldType := fun k => match k with
  | 0 => .int
  | 1 => .array (.object "java/lang/Object")
  | _ => .int
abbrev wsJx4a65c0 : List Cond := u_ws RJx4a65c TJx4a65c 3
theorem nmJx4a65c : ∀ a, a < 3 → ∀ b, b < 3 → a ≠ b → (TJx4a65c a).2.1 ≠ (TJx4a65c b).2.1 := by decide +kernel
theorem tyJx4a65c_ok : ∀ k, k < 3 → parseFieldDescriptor (TJx4a65c k).2.2.1 = some (tyJx4a65c k) := by decide +kernel
abbrev cJx4a65c_init_da8c8 : ByteArray := prog_32_method_2_code
def yJx4a65c_init_da8c8 : MethodName := ⟨RJx4a65c, "<init>", "()V"⟩
abbrev cJx4a65c_grow_92f84 : ByteArray := prog_32_method_6_code
def yJx4a65c_grow_92f84 : MethodName := ⟨RJx4a65c, "grow", "(I)[Ljava/lang/Object;"⟩
abbrev cJx4a65c_grow_d5877 : ByteArray := prog_32_method_7_code
def yJx4a65c_grow_d5877 : MethodName := ⟨RJx4a65c, "grow", "()[Ljava/lang/Object;"⟩
abbrev cJx4a65c_size_8abf5 : ByteArray := prog_32_method_8_code
def yJx4a65c_size_8abf5 : MethodName := ⟨RJx4a65c, "size", "()I"⟩
abbrev cJx4a65c_isEmpty_aae02 : ByteArray := prog_32_method_9_code
def yJx4a65c_isEmpty_aae02 : MethodName := ⟨RJx4a65c, "isEmpty", "()Z"⟩
abbrev cJx4a65c_elementData_915e3 : ByteArray := prog_32_method_18_code
def yJx4a65c_elementData_915e3 : MethodName := ⟨RJx4a65c, "elementData", "(I)Ljava/lang/Object;"⟩
abbrev cJx4a65c_get_915e3 : ByteArray := prog_32_method_20_code
def yJx4a65c_get_915e3 : MethodName := ⟨RJx4a65c, "get", "(I)Ljava/lang/Object;"⟩
abbrev cJx4a65c_add_72be8 : ByteArray := prog_32_method_24_code
def yJx4a65c_add_72be8 : MethodName := ⟨RJx4a65c, "add", "(Ljava/lang/Object;[Ljava/lang/Object;I)V"⟩
abbrev cJx4a65c_add_9ea2d : ByteArray := prog_32_method_25_code
def yJx4a65c_add_9ea2d : MethodName := ⟨RJx4a65c, "add", "(Ljava/lang/Object;)Z"⟩
abbrev cJx4a65c_add_7a177 : ByteArray := prog_32_method_26_code
def yJx4a65c_add_7a177 : MethodName := ⟨RJx4a65c, "add", "(ILjava/lang/Object;)V"⟩
abbrev cJx4a65c_clear_da8c8 : ByteArray := prog_32_method_40_code
def yJx4a65c_clear_da8c8 : MethodName := ⟨RJx4a65c, "clear", "()V"⟩
abbrev cJx4a65c_rangeCheckForAdd_d00df : ByteArray := prog_32_method_45_code
def yJx4a65c_rangeCheckForAdd_d00df : MethodName := ⟨RJx4a65c, "rangeCheckForAdd", "(I)V"⟩
def RJ7 : String := "java/util/Arrays"
def TJ7 : u_T := fun k => match k with
  | _ => ("", "", "", false)
def tyJ7 : Nat → FieldType := fun k => match k with
  | _ => .int
abbrev wsJ70 : List Cond := u_ws RJ7 TJ7 0
theorem nmJ7 : ∀ a, a < 0 → ∀ b, b < 0 → a ≠ b → (TJ7 a).2.1 ≠ (TJ7 b).2.1 := by decide +kernel
theorem tyJ7_ok : ∀ k, k < 0 → parseFieldDescriptor (TJ7 k).2.2.1 = some (tyJ7 k) := by decide +kernel
abbrev cJ7_copyOf_1904c : ByteArray := prog_33_method_119_code
def yJ7_copyOf_1904c : MethodName := ⟨RJ7, "copyOf", "([Ljava/lang/Object;I)[Ljava/lang/Object;"⟩
abbrev cJ7_copyOf_6403c : ByteArray := prog_33_method_120_code
def yJ7_copyOf_6403c : MethodName := ⟨RJ7, "copyOf", "([Ljava/lang/Object;ILjava/lang/Class;)[Ljava/lang/Object;"⟩
def RJx5ef63 : String := "java/util/Collection"
def TJx5ef63 : u_T := fun k => match k with
  | _ => ("", "", "", false)
def tyJx5ef63 : Nat → FieldType := fun k => match k with
  | _ => .int
abbrev wsJx5ef630 : List Cond := u_ws RJx5ef63 TJx5ef63 0
theorem nmJx5ef63 : ∀ a, a < 0 → ∀ b, b < 0 → a ≠ b → (TJx5ef63 a).2.1 ≠ (TJx5ef63 b).2.1 := by decide +kernel
theorem tyJx5ef63_ok : ∀ k, k < 0 → parseFieldDescriptor (TJx5ef63 k).2.2.1 = some (tyJx5ef63 k) := by decide +kernel
def RJxbd725 : String := "java/util/List"
def TJxbd725 : u_T := fun k => match k with
  | _ => ("", "", "", false)
def tyJxbd725 : Nat → FieldType := fun k => match k with
  | _ => .int
abbrev wsJxbd7250 : List Cond := u_ws RJxbd725 TJxbd725 0
theorem nmJxbd725 : ∀ a, a < 0 → ∀ b, b < 0 → a ≠ b → (TJxbd725 a).2.1 ≠ (TJxbd725 b).2.1 := by decide +kernel
theorem tyJxbd725_ok : ∀ k, k < 0 → parseFieldDescriptor (TJxbd725 k).2.2.1 = some (tyJxbd725 k) := by decide +kernel
def RJ15 : String := "java/util/Objects"
def TJ15 : u_T := fun k => match k with
  | _ => ("", "", "", false)
def tyJ15 : Nat → FieldType := fun k => match k with
  | _ => .int
abbrev wsJ150 : List Cond := u_ws RJ15 TJ15 0
theorem nmJ15 : ∀ a, a < 0 → ∀ b, b < 0 → a ≠ b → (TJ15 a).2.1 ≠ (TJ15 b).2.1 := by decide +kernel
theorem tyJ15_ok : ∀ k, k < 0 → parseFieldDescriptor (TJ15 k).2.2.1 = some (tyJ15 k) := by decide +kernel
abbrev cJ15_checkIndex_7cf53 : ByteArray := prog_37_method_17_code
def yJ15_checkIndex_7cf53 : MethodName := ⟨RJ15, "checkIndex", "(II)I"⟩
def RJxf0a74 : String := "java/util/RandomAccess"
def TJxf0a74 : u_T := fun k => match k with
  | _ => ("", "", "", false)
def tyJxf0a74 : Nat → FieldType := fun k => match k with
  | _ => .int
abbrev wsJxf0a740 : List Cond := u_ws RJxf0a74 TJxf0a74 0
theorem nmJxf0a74 : ∀ a, a < 0 → ∀ b, b < 0 → a ≠ b → (TJxf0a74 a).2.1 ≠ (TJxf0a74 b).2.1 := by decide +kernel
theorem tyJxf0a74_ok : ∀ k, k < 0 → parseFieldDescriptor (TJxf0a74 k).2.2.1 = some (tyJxf0a74 k) := by decide +kernel
def RJxa66e6 : String := "java/util/SequencedCollection"
def TJxa66e6 : u_T := fun k => match k with
  | _ => ("", "", "", false)
def tyJxa66e6 : Nat → FieldType := fun k => match k with
  | _ => .int
abbrev wsJxa66e60 : List Cond := u_ws RJxa66e6 TJxa66e6 0
theorem nmJxa66e6 : ∀ a, a < 0 → ∀ b, b < 0 → a ≠ b → (TJxa66e6 a).2.1 ≠ (TJxa66e6 b).2.1 := by decide +kernel
theorem tyJxa66e6_ok : ∀ k, k < 0 → parseFieldDescriptor (TJxa66e6 k).2.2.1 = some (tyJxa66e6 k) := by decide +kernel
def RJ8 : String := "jdk/internal/util/ArraysSupport"
def TJ8 : u_T := fun k => match k with
  | _ => ("", "", "", false)
def tyJ8 : Nat → FieldType := fun k => match k with
  | _ => .int
abbrev wsJ80 : List Cond := u_ws RJ8 TJ8 0
theorem nmJ8 : ∀ a, a < 0 → ∀ b, b < 0 → a ≠ b → (TJ8 a).2.1 ≠ (TJ8 b).2.1 := by decide +kernel
theorem tyJ8_ok : ∀ k, k < 0 → parseFieldDescriptor (TJ8 k).2.2.1 = some (tyJ8 k) := by decide +kernel
abbrev cJ8_newLength_cabcc : ByteArray := prog_40_method_27_code
def yJ8_newLength_cabcc : MethodName := ⟨RJ8, "newLength", "(III)I"⟩
abbrev cJ8_hugeLength_7cf53 : ByteArray := prog_40_method_28_code
def yJ8_hugeLength_7cf53 : MethodName := ⟨RJ8, "hugeLength", "(II)I"⟩
def RJ3 : String := "jdk/internal/util/Preconditions"
def TJ3 : u_T := fun k => match k with
  | _ => ("", "", "", false)
def tyJ3 : Nat → FieldType := fun k => match k with
  | _ => .int
abbrev wsJ30 : List Cond := u_ws RJ3 TJ3 0
theorem nmJ3 : ∀ a, a < 0 → ∀ b, b < 0 → a ≠ b → (TJ3 a).2.1 ≠ (TJ3 b).2.1 := by decide +kernel
theorem tyJ3_ok : ∀ k, k < 0 → parseFieldDescriptor (TJ3 k).2.2.1 = some (tyJ3 k) := by decide +kernel
abbrev cJ3_checkIndex_8e157 : ByteArray := prog_41_method_11_code
def yJ3_checkIndex_8e157 : MethodName := ⟨RJ3, "checkIndex", "(IILjava/util/function/BiFunction;)I"⟩
def RL : String := "ExtrasOfficeLaw"
abbrev cL_seen : ByteArray := method_3_code
def yL_seen : MethodName := ⟨RL, "seen", "(LExtrasOffice;III[J)I"⟩
abbrev cL_law : ByteArray := code
def yL_law : MethodName := ⟨RL, "law", "([I)Z"⟩
abbrev vwCl : List vw_C := [(RJx4a65c, TJx4a65c, 3), (RX0, TX0, 2), (RX1, TX1, 9), (RX2, TX2, 2), (RX3, TX3, 3), (RX4, TX4, 3), (RX5, TX5, 12), (RX6, TX6, 4), (RX7, TX7, 2), (RX8, TX8, 4), (RX9, TX9, 7), (RX10, TX10, 9), (RX11, TX11, 11), (RX12, TX12, 68)]
end
section
/-! words of the tables; methods -/
/-- all words of the tables that last -/
def TW : List Cond := lw_tbl.filter goodWord
theorem tw_of {w : Cond} (h : w ∈ lw_tbl) (g : goodWord w = true) : w ∈ TW := List.mem_filter.mpr ⟨h, g⟩
theorem tw_at {w : Cond} (i : Nat) (h : decide (lw_tbl[i]? = some w) = true) (g : goodWord w = true) : w ∈ TW := tw_of (List.mem_of_getElem? (of_decide_eq_true h)) g
theorem tw_good {w : Cond} (h : w ∈ TW) : (w.onTables && w.keeps) = true ∨ ∃ ty, w = .arrayClass ty := good_of_word (List.mem_filter.mp h).2
theorem tw_GoodIn {ws : List Cond} (h : ∀ w ∈ ws, w ∈ TW) : GoodIn TW ws := fun w hw => ⟨h w hw, tw_good (h w hw)⟩
/-- a method: name, code, locals, what it answers -/
abbrev Mth : Type := MethodName × ByteArray × Nat × Option FieldType
def mY (M : Mth) : MethodName := M.1
def mC (M : Mth) : ByteArray := M.2.1
def mL (M : Mth) : Nat := M.2.2.1
def mR (M : Mth) : Option FieldType := M.2.2.2
def mO (M : Mth) : String := M.1.cls
/-- a field's place in the tables -/
def FLo (own : String) (c f idx : Nat) : Prop := ∃ (r : vw_C) (ref : String), vwCl[c]? = some r ∧ f < r.2.2 ∧ Cond.fieldLink own idx ref (r.2.1 f).2.1 (r.2.1 f).2.2.1 ∈ TW ∧ ((r.2.1 f).1 = ref ∨ Cond.sameField ref (r.2.1 f).1 (r.2.1 f).2.1 (r.2.1 f).2.2.1 ∈ TW)
/-- what the tables say of a callee -/
def MW (M' : Mth) (n : Nat) : Prop := Cond.code (mY M') (mC M') (mL M') (mR M') ∈ TW ∧ Cond.initialized (mY M').cls ∈ TW ∧ mL M' ≤ 22 ∧ ((mY M').cls ≠ "java/lang/invoke/MethodHandle" ∧ (mY M').cls ≠ "java/lang/invoke/VarHandle" ∧ (parseMethodDescriptor (mY M').desc).map (fun d => d.parameters.length) = some n)

theorem tk_in : ∀ (k : Nat) (w : Cond), w ∈ ([tables_1_1, tables_1_2, tables_1_3, tables_1_4, tables_1_5, tables_1_6, tables_1_7].getD k []) → w ∈ lw_tbl := by
  intro k w h
  have h1 : w ∈ tables_1 := by
    unfold tables_1
    rcases k with _ | _ | _ | _ | _ | _ | _ | k
    · exact List.mem_append_left _ h
    · exact List.mem_append_right _ (List.mem_append_left _ h)
    · exact List.mem_append_right _ (List.mem_append_right _ (List.mem_append_left _ h))
    · exact List.mem_append_right _ (List.mem_append_right _ (List.mem_append_right _ (List.mem_append_left _ h)))
    · exact List.mem_append_right _ (List.mem_append_right _ (List.mem_append_right _ (List.mem_append_right _ (List.mem_append_left _ h))))
    · exact List.mem_append_right _ (List.mem_append_right _ (List.mem_append_right _ (List.mem_append_right _ (List.mem_append_right _ (List.mem_append_left _ h)))))
    · exact List.mem_append_right _ (List.mem_append_right _ (List.mem_append_right _ (List.mem_append_right _ (List.mem_append_right _ (List.mem_append_right _ h)))))
    · cases h
  exact List.mem_append_right _ h1
/-- a word by its table and place -/
theorem tw_k {w : Cond} (k i : Nat) (h : decide (([tables_1_1, tables_1_2, tables_1_3, tables_1_4, tables_1_5, tables_1_6, tables_1_7].getD k [])[i]? = some w) = true) (g : goodWord w = true) : w ∈ TW := tw_of (tk_in k w (List.mem_of_getElem? (of_decide_eq_true h))) g
theorem tw_s {w : Cond} (i : Nat) (h : decide ((k2_sels lw_privs)[i]? = some w) = true) (g : goodWord w = true) : w ∈ TW := tw_of (List.mem_append_left _ (List.mem_of_getElem? (of_decide_eq_true h))) g
def nestW : List (String × Nat × MethodName × String) := [("ExtrasOffice", 48, yX4_init, "ExtrasOffice"), ("ExtrasOffice", 64, yX3_init, "ExtrasOffice"), ("ExtrasOffice$Tokens", 71, yX11_within, "ExtrasOffice")]
end
section
/-! Methods, and their places in the tables. -/
abbrev M_J0_charAt_5068e : Mth := (yJ0_charAt_5068e, cJ0_charAt_5068e, 2, (some .char))
abbrev M_J0_checkIndex_df160 : Mth := (yJ0_checkIndex_df160, cJ0_checkIndex_df160, 2, none)
abbrev M_J0_coder_7d493 : Mth := (yJ0_coder_7d493, cJ0_coder_7d493, 1, (some .byte))
abbrev M_J0_isLatin1_aae02 : Mth := (yJ0_isLatin1_aae02, cJ0_isLatin1_aae02, 1, (some .boolean))
abbrev M_J0_length_8abf5 : Mth := (yJ0_length_8abf5, cJ0_length_8abf5, 1, (some .int))
abbrev M_J15_checkIndex_7cf53 : Mth := (yJ15_checkIndex_7cf53, cJ15_checkIndex_7cf53, 2, (some .int))
abbrev M_J1_charAt_3b067 : Mth := (yJ1_charAt_3b067, cJ1_charAt_3b067, 2, (some .char))
abbrev M_J2_charAt_3b067 : Mth := (yJ2_charAt_3b067, cJ2_charAt_3b067, 2, (some .char))
abbrev M_J2_checkIndex_2214a : Mth := (yJ2_checkIndex_2214a, cJ2_checkIndex_2214a, 2, none)
abbrev M_J2_getChar_3b067 : Mth := (yJ2_getChar_3b067, cJ2_getChar_3b067, 2, (some .char))
abbrev M_J2_length_9d52b : Mth := (yJ2_length_9d52b, cJ2_length_9d52b, 1, (some .int))
abbrev M_J3_checkIndex_8e157 : Mth := (yJ3_checkIndex_8e157, cJ3_checkIndex_8e157, 3, (some .int))
abbrev M_J7_copyOf_1904c : Mth := (yJ7_copyOf_1904c, cJ7_copyOf_1904c, 2, (some (.array (.object "java/lang/Object"))))
abbrev M_J7_copyOf_6403c : Mth := (yJ7_copyOf_6403c, cJ7_copyOf_6403c, 4, (some (.array (.object "java/lang/Object"))))
abbrev M_J8_hugeLength_7cf53 : Mth := (yJ8_hugeLength_7cf53, cJ8_hugeLength_7cf53, 3, (some .int))
abbrev M_J8_newLength_cabcc : Mth := (yJ8_newLength_cabcc, cJ8_newLength_cabcc, 4, (some .int))
abbrev M_J9_max_7cf53 : Mth := (yJ9_max_7cf53, cJ9_max_7cf53, 2, (some .int))
abbrev M_J9_min_7cf53 : Mth := (yJ9_min_7cf53, cJ9_min_7cf53, 2, (some .int))
abbrev M_Jx4a65c_add_72be8 : Mth := (yJx4a65c_add_72be8, cJx4a65c_add_72be8, 4, none)
abbrev M_Jx4a65c_add_7a177 : Mth := (yJx4a65c_add_7a177, cJx4a65c_add_7a177, 5, none)
abbrev M_Jx4a65c_add_9ea2d : Mth := (yJx4a65c_add_9ea2d, cJx4a65c_add_9ea2d, 2, (some .boolean))
abbrev M_Jx4a65c_clear_da8c8 : Mth := (yJx4a65c_clear_da8c8, cJx4a65c_clear_da8c8, 4, none)
abbrev M_Jx4a65c_elementData_915e3 : Mth := (yJx4a65c_elementData_915e3, cJx4a65c_elementData_915e3, 2, (some (.object "java/lang/Object")))
abbrev M_Jx4a65c_get_915e3 : Mth := (yJx4a65c_get_915e3, cJx4a65c_get_915e3, 2, (some (.object "java/lang/Object")))
abbrev M_Jx4a65c_grow_92f84 : Mth := (yJx4a65c_grow_92f84, cJx4a65c_grow_92f84, 4, (some (.array (.object "java/lang/Object"))))
abbrev M_Jx4a65c_grow_d5877 : Mth := (yJx4a65c_grow_d5877, cJx4a65c_grow_d5877, 1, (some (.array (.object "java/lang/Object"))))
abbrev M_Jx4a65c_init_da8c8 : Mth := (yJx4a65c_init_da8c8, cJx4a65c_init_da8c8, 1, none)
abbrev M_Jx4a65c_isEmpty_aae02 : Mth := (yJx4a65c_isEmpty_aae02, cJx4a65c_isEmpty_aae02, 1, (some .boolean))
abbrev M_Jx4a65c_rangeCheckForAdd_d00df : Mth := (yJx4a65c_rangeCheckForAdd_d00df, cJx4a65c_rangeCheckForAdd_d00df, 2, none)
abbrev M_Jx4a65c_size_8abf5 : Mth := (yJx4a65c_size_8abf5, cJx4a65c_size_8abf5, 1, (some .int))
abbrev M_Jxa1e45_init_da8c8 : Mth := (yJxa1e45_init_da8c8, cJxa1e45_init_da8c8, 1, none)
abbrev M_Jxc12de_init_da8c8 : Mth := (yJxc12de_init_da8c8, cJxc12de_init_da8c8, 1, none)
abbrev M_L_law : Mth := (yL_law, cL_law, 7, some .boolean)
abbrev M_L_seen : Mth := (yL_seen, cL_seen, 6, (some .int))
abbrev M_X0_init : Mth := (yX0_init, cX0_init, 2, none)
abbrev M_X0_readFrom : Mth := (yX0_readFrom, cX0_readFrom, 4, (some .boolean))
abbrev M_X0_worth : Mth := (yX0_worth, cX0_worth, 5, (some .int))
abbrev M_X10_answer : Mth := (yX10_answer, cX10_answer, 2, (some .int))
abbrev M_X10_earned : Mth := (yX10_earned, cX10_earned, 1, (some .int))
abbrev M_X10_init : Mth := (yX10_init, cX10_init, 4, none)
abbrev M_X10_send : Mth := (yX10_send, cX10_send, 2, none)
abbrev M_X11_about : Mth := (yX11_about, cX11_about, 4, (some .int))
abbrev M_X11_addBytes : Mth := (yX11_addBytes, cX11_addBytes, 3, none)
abbrev M_X11_agree : Mth := (yX11_agree, cX11_agree, 3, (some .int))
abbrev M_X11_ask : Mth := (yX11_ask, cX11_ask, 4, (some .int))
abbrev M_X11_asks : Mth := (yX11_asks, cX11_asks, 2, (some .int))
abbrev M_X11_away : Mth := (yX11_away, cX11_away, 4, (some .boolean))
abbrev M_X11_buses : Mth := (yX11_buses, cX11_buses, 6, (some .int))
abbrev M_X11_called : Mth := (yX11_called, cX11_called, 3, (some .int))
abbrev M_X11_count : Mth := (yX11_count, cX11_count, 2, (some .int))
abbrev M_X11_end : Mth := (yX11_end, cX11_end, 2, (some .int))
abbrev M_X11_feed : Mth := (yX11_feed, cX11_feed, 6, (some .int))
abbrev M_X11_find : Mth := (yX11_find, cX11_find, 2, (some (.object "ExtrasOffice$Person")))
abbrev M_X11_findRecord : Mth := (yX11_findRecord, cX11_findRecord, 5, (some (.object "ExtrasOffice$Turn")))
abbrev M_X11_fits : Mth := (yX11_fits, cX11_fits, 7, (some .int))
abbrev M_X11_init : Mth := (yX11_init, cX11_init, 1, none)
abbrev M_X11_isScene : Mth := (yX11_isScene, cX11_isScene, 1, (some .boolean))
abbrev M_X11_lacks : Mth := (yX11_lacks, cX11_lacks, 2, (some .int))
abbrev M_X11_lay : Mth := (yX11_lay, cX11_lay, 1, (some .int))
abbrev M_X11_moved : Mth := (yX11_moved, cX11_moved, 2, (some .int))
abbrev M_X11_no : Mth := (yX11_no, cX11_no, 4, (some .int))
abbrev M_X11_pay : Mth := (yX11_pay, cX11_pay, 8, (some .long))
abbrev M_X11_person : Mth := (yX11_person, cX11_person, 8, (some .int))
abbrev M_X11_place : Mth := (yX11_place, cX11_place, 1, (some .int))
abbrev M_X11_record : Mth := (yX11_record, cX11_record, 5, (some .int))
abbrev M_X11_retake : Mth := (yX11_retake, cX11_retake, 6, (some .int))
abbrev M_X11_seen : Mth := (yX11_seen, cX11_seen, 4, (some .int))
abbrev M_X11_sendAll : Mth := (yX11_sendAll, cX11_sendAll, 5, (some .int))
abbrev M_X11_step : Mth := (yX11_step, cX11_step, 4, (some .int))
abbrev M_X11_tell : Mth := (yX11_tell, cX11_tell, 4, (some .int))
abbrev M_X11_within : Mth := (yX11_within, cX11_within, 3, (some .boolean))
abbrev M_X12_about : Mth := (yX12_about, cX12_about, 3, (some .int))
abbrev M_X12_agree : Mth := (yX12_agree, cX12_agree, 1, (some .int))
abbrev M_X12_all : Mth := (yX12_all, cX12_all, 4, (some .boolean))
abbrev M_X12_allCalled : Mth := (yX12_allCalled, cX12_allCalled, 3, (some .int))
abbrev M_X12_ask : Mth := (yX12_ask, cX12_ask, 3, (some .int))
abbrev M_X12_asks : Mth := (yX12_asks, cX12_asks, 3, (some .int))
abbrev M_X12_away : Mth := (yX12_away, cX12_away, 3, (some .boolean))
abbrev M_X12_buses : Mth := (yX12_buses, cX12_buses, 5, (some .int))
abbrev M_X12_called : Mth := (yX12_called, cX12_called, 2, (some .int))
abbrev M_X12_calledIn : Mth := (yX12_calledIn, cX12_calledIn, 4, (some .int))
abbrev M_X12_canBe : Mth := (yX12_canBe, cX12_canBe, 3, (some .boolean))
abbrev M_X12_count : Mth := (yX12_count, cX12_count, 2, (some .int))
abbrev M_X12_doesFit : Mth := (yX12_doesFit, cX12_doesFit, 3, (some .boolean))
abbrev M_X12_dresses : Mth := (yX12_dresses, cX12_dresses, 5, none)
abbrev M_X12_either : Mth := (yX12_either, cX12_either, 4, (some .boolean))
abbrev M_X12_end : Mth := (yX12_end, cX12_end, 2, (some .int))
abbrev M_X12_fact : Mth := (yX12_fact, cX12_fact, 3, (some .int))
abbrev M_X12_fails : Mth := (yX12_fails, cX12_fails, 2, none)
abbrev M_X12_feed : Mth := (yX12_feed, cX12_feed, 8, (some .int))
abbrev M_X12_first : Mth := (yX12_first, cX12_first, 3, (some .int))
abbrev M_X12_fits : Mth := (yX12_fits, cX12_fits, 4, (some .int))
abbrev M_X12_init : Mth := (yX12_init, cX12_init, 1, none)
abbrev M_X12_is : Mth := (yX12_is, cX12_is, 2, (some .boolean))
abbrev M_X12_isAsk : Mth := (yX12_isAsk, cX12_isAsk, 2, (some .boolean))
abbrev M_X12_isDigit : Mth := (yX12_isDigit, cX12_isDigit, 1, (some .boolean))
abbrev M_X12_isPerson : Mth := (yX12_isPerson, cX12_isPerson, 2, (some .boolean))
abbrev M_X12_isRecord : Mth := (yX12_isRecord, cX12_isRecord, 3, (some .boolean))
abbrev M_X12_isRoom : Mth := (yX12_isRoom, cX12_isRoom, 5, (some .boolean))
abbrev M_X12_isSmall : Mth := (yX12_isSmall, cX12_isSmall, 1, (some .boolean))
abbrev M_X12_isWord : Mth := (yX12_isWord, cX12_isWord, 3, (some .boolean))
abbrev M_X12_lacks : Mth := (yX12_lacks, cX12_lacks, 2, (some .int))
abbrev M_X12_lay : Mth := (yX12_lay, cX12_lay, 5, (some .int))
abbrev M_X12_mends : Mth := (yX12_mends, cX12_mends, 7, (some .boolean))
abbrev M_X12_moved : Mth := (yX12_moved, cX12_moved, 2, (some .int))
abbrev M_X12_next : Mth := (yX12_next, cX12_next, 2, none)
abbrev M_X12_nextComing : Mth := (yX12_nextComing, cX12_nextComing, 3, (some .int))
abbrev M_X12_next_ : Mth := (yX12_next_, cX12_next_, 1, (some .int))
abbrev M_X12_no : Mth := (yX12_no, cX12_no, 6, (some .int))
abbrev M_X12_nobody : Mth := (yX12_nobody, cX12_nobody, 2, none)
abbrev M_X12_number : Mth := (yX12_number, cX12_number, 4, (some .int))
abbrev M_X12_one : Mth := (yX12_one, cX12_one, 7, (some .boolean))
abbrev M_X12_pay : Mth := (yX12_pay, cX12_pay, 7, (some .long))
abbrev M_X12_person : Mth := (yX12_person, cX12_person, 6, (some .int))
abbrev M_X12_place : Mth := (yX12_place, cX12_place, 1, (some .int))
abbrev M_X12_quarters : Mth := (yX12_quarters, cX12_quarters, 2, (some .int))
abbrev M_X12_readAsk : Mth := (yX12_readAsk, cX12_readAsk, 2, none)
abbrev M_X12_readTerm : Mth := (yX12_readTerm, cX12_readTerm, 3, none)
abbrev M_X12_reckons : Mth := (yX12_reckons, cX12_reckons, 3, none)
abbrev M_X12_record : Mth := (yX12_record, cX12_record, 5, (some .int))
abbrev M_X12_retake : Mth := (yX12_retake, cX12_retake, 4, (some .int))
abbrev M_X12_see : Mth := (yX12_see, cX12_see, 2, (some .int))
abbrev M_X12_seen : Mth := (yX12_seen, cX12_seen, 4, (some .int))
abbrev M_X12_starts : Mth := (yX12_starts, cX12_starts, 4, none)
abbrev M_X12_step : Mth := (yX12_step, cX12_step, 9, (some .int))
abbrev M_X12_tell : Mth := (yX12_tell, cX12_tell, 3, (some .int))
abbrev M_X12_thrown : Mth := (yX12_thrown, cX12_thrown, 1, (some .int))
abbrev M_X12_times : Mth := (yX12_times, cX12_times, 6, (some .int))
abbrev M_X12_wants : Mth := (yX12_wants, cX12_wants, 2, none)
abbrev M_X12_wants_ : Mth := (yX12_wants_, cX12_wants_, 2, none)
abbrev M_X12_within : Mth := (yX12_within, cX12_within, 3, (some .boolean))
abbrev M_X12_worth : Mth := (yX12_worth, cX12_worth, 8, (some .int))
abbrev M_X1_answer : Mth := (yX1_answer, cX1_answer, 2, (some .int))
abbrev M_X1_highest : Mth := (yX1_highest, cX1_highest, 1, (some .int))
abbrev M_X1_holds : Mth := (yX1_holds, cX1_holds, 3, (some .boolean))
abbrev M_X1_init : Mth := (yX1_init, cX1_init, 2, none)
abbrev M_X1_isOpenTo : Mth := (yX1_isOpenTo, cX1_isOpenTo, 3, (some .boolean))
abbrev M_X1_suits : Mth := (yX1_suits, cX1_suits, 8, (some .boolean))
abbrev M_X1_takeSteps : Mth := (yX1_takeSteps, cX1_takeSteps, 3, none)
abbrev M_X2_init : Mth := (yX2_init, cX2_init, 2, none)
abbrev M_X2_markHere : Mth := (yX2_markHere, cX2_markHere, 1, (some .int))
abbrev M_X2_read : Mth := (yX2_read, cX2_read, 4, (some (.object "java/util/ArrayList")))
abbrev M_X2_readAny : Mth := (yX2_readAny, cX2_readAny, 5, (some .boolean))
abbrev M_X2_readHead : Mth := (yX2_readHead, cX2_readHead, 2, (some .boolean))
abbrev M_X2_readMark : Mth := (yX2_readMark, cX2_readMark, 3, (some .boolean))
abbrev M_X2_readOne : Mth := (yX2_readOne, cX2_readOne, 3, (some .boolean))
abbrev M_X3_comeAll : Mth := (yX3_comeAll, cX3_comeAll, 8, none)
abbrev M_X3_dressAll : Mth := (yX3_dressAll, cX3_dressAll, 5, none)
abbrev M_X3_firstFree : Mth := (yX3_firstFree, cX3_firstFree, 4, (some .int))
abbrev M_X3_following : Mth := (yX3_following, cX3_following, 1, (some .int))
abbrev M_X3_init : Mth := (yX3_init, cX3_init, 1, none)
abbrev M_X3_queue : Mth := (yX3_queue, cX3_queue, 3, none)
abbrev M_X4_add : Mth := (yX4_add, cX4_add, 3, (some .int))
abbrev M_X4_howOften : Mth := (yX4_howOften, cX4_howOften, 6, (some .int))
abbrev M_X4_init : Mth := (yX4_init, cX4_init, 1, none)
abbrev M_X4_size : Mth := (yX4_size, cX4_size, 1, (some .int))
abbrev M_X5_answer : Mth := (yX5_answer, cX5_answer, 2, (some .int))
abbrev M_X5_canBeIn : Mth := (yX5_canBeIn, cX5_canBeIn, 2, (some .boolean))
abbrev M_X5_init : Mth := (yX5_init, cX5_init, 7, none)
abbrev M_X5_moveTo : Mth := (yX5_moveTo, cX5_moveTo, 2, none)
abbrev M_X5_wasIn : Mth := (yX5_wasIn, cX5_wasIn, 2, (some .boolean))
abbrev M_X6_dismissAll : Mth := (yX6_dismissAll, cX6_dismissAll, 2, none)
abbrev M_X6_find : Mth := (yX6_find, cX6_find, 2, (some (.object "ExtrasOffice$Ask")))
abbrev M_X6_firstOfRow : Mth := (yX6_firstOfRow, cX6_firstOfRow, 6, (some (.object "ExtrasOffice$Person")))
abbrev M_X6_init : Mth := (yX6_init, cX6_init, 2, none)
abbrev M_X6_layFor : Mth := (yX6_layFor, cX6_layFor, 4, none)
abbrev M_X6_lookWhoIsOpen : Mth := (yX6_lookWhoIsOpen, cX6_lookWhoIsOpen, 5, none)
abbrev M_X6_makeRoom : Mth := (yX6_makeRoom, cX6_makeRoom, 6, (some .boolean))
abbrev M_X6_measureRows : Mth := (yX6_measureRows, cX6_measureRows, 4, none)
abbrev M_X6_mend : Mth := (yX6_mend, cX6_mend, 7, none)
abbrev M_X6_seat : Mth := (yX6_seat, cX6_seat, 3, none)
abbrev M_X6_seatAllInLeast : Mth := (yX6_seatAllInLeast, cX6_seatAllInLeast, 3, none)
abbrev M_X6_seatElsewhere : Mth := (yX6_seatElsewhere, cX6_seatElsewhere, 6, (some .boolean))
abbrev M_X6_size : Mth := (yX6_size, cX6_size, 3, (some .int))
abbrev M_X6_startWith : Mth := (yX6_startWith, cX6_startWith, 2, none)
abbrev M_X7_add : Mth := (yX7_add, cX7_add, 2, none)
abbrev M_X7_at : Mth := (yX7_at, cX7_at, 2, (some .int))
abbrev M_X7_init : Mth := (yX7_init, cX7_init, 2, none)
abbrev M_X8_init : Mth := (yX8_init, cX8_init, 2, none)
abbrev M_X8_kindAt : Mth := (yX8_kindAt, cX8_kindAt, 1, (some .int))
abbrev M_X8_quarters : Mth := (yX8_quarters, cX8_quarters, 2, (some .int))
abbrev M_X8_readNumbers : Mth := (yX8_readNumbers, cX8_readNumbers, 2, (some .boolean))
abbrev M_X8_worth : Mth := (yX8_worth, cX8_worth, 3, (some .int))
abbrev M_X9_advance : Mth := (yX9_advance, cX9_advance, 1, none)
abbrev M_X9_atEnd : Mth := (yX9_atEnd, cX9_atEnd, 1, (some .boolean))
abbrev M_X9_begin : Mth := (yX9_begin, cX9_begin, 1, none)
abbrev M_X9_fail : Mth := (yX9_fail, cX9_fail, 2, (some .boolean))
abbrev M_X9_init : Mth := (yX9_init, cX9_init, 2, none)
abbrev M_X9_isSign : Mth := (yX9_isSign, cX9_isSign, 2, (some .boolean))
abbrev M_X9_isWord : Mth := (yX9_isWord, cX9_isWord, 3, (some .boolean))
abbrev M_X9_kindOf : Mth := (yX9_kindOf, cX9_kindOf, 1, (some .int))
abbrev M_X9_passNumber : Mth := (yX9_passNumber, cX9_passNumber, 4, (some .int))
abbrev M_X9_passNumberAfter : Mth := (yX9_passNumberAfter, cX9_passNumberAfter, 4, (some .int))
abbrev M_X9_passSign : Mth := (yX9_passSign, cX9_passSign, 2, (some .boolean))
abbrev M_X9_passWord : Mth := (yX9_passWord, cX9_passWord, 2, (some .boolean))
theorem mw_J0_charAt_5068e : MW M_J0_charAt_5068e 1 := ⟨(tw_k 1 208 (by decide +kernel) (by decide +kernel)), (tw_k 0 19 (by decide +kernel) (by decide +kernel)), by decide, by decide, by decide, by decide +kernel⟩
theorem mw_J0_checkIndex_df160 : MW M_J0_checkIndex_df160 2 := ⟨(tw_k 1 218 (by decide +kernel) (by decide +kernel)), (tw_k 0 19 (by decide +kernel) (by decide +kernel)), by decide, by decide, by decide, by decide +kernel⟩
theorem mw_J0_coder_7d493 : MW M_J0_coder_7d493 0 := ⟨(tw_k 1 202 (by decide +kernel) (by decide +kernel)), (tw_k 0 19 (by decide +kernel) (by decide +kernel)), by decide, by decide, by decide, by decide +kernel⟩
theorem mw_J0_isLatin1_aae02 : MW M_J0_isLatin1_aae02 0 := ⟨(tw_k 1 212 (by decide +kernel) (by decide +kernel)), (tw_k 0 19 (by decide +kernel) (by decide +kernel)), by decide, by decide, by decide, by decide +kernel⟩
theorem mw_J0_length_8abf5 : MW M_J0_length_8abf5 0 := ⟨(tw_k 1 198 (by decide +kernel) (by decide +kernel)), (tw_k 0 19 (by decide +kernel) (by decide +kernel)), by decide, by decide, by decide, by decide +kernel⟩
theorem mw_J15_checkIndex_7cf53 : MW M_J15_checkIndex_7cf53 2 := ⟨(tw_k 1 137 (by decide +kernel) (by decide +kernel)), (tw_k 0 17 (by decide +kernel) (by decide +kernel)), by decide, by decide, by decide, by decide +kernel⟩
theorem mw_J1_charAt_3b067 : MW M_J1_charAt_3b067 2 := ⟨(tw_k 1 215 (by decide +kernel) (by decide +kernel)), (tw_k 0 20 (by decide +kernel) (by decide +kernel)), by decide, by decide, by decide, by decide +kernel⟩
theorem mw_J2_charAt_3b067 : MW M_J2_charAt_3b067 2 := ⟨(tw_k 1 224 (by decide +kernel) (by decide +kernel)), (tw_k 0 21 (by decide +kernel) (by decide +kernel)), by decide, by decide, by decide, by decide +kernel⟩
theorem mw_J2_checkIndex_2214a : MW M_J2_checkIndex_2214a 2 := ⟨(tw_k 1 227 (by decide +kernel) (by decide +kernel)), (tw_k 0 21 (by decide +kernel) (by decide +kernel)), by decide, by decide, by decide, by decide +kernel⟩
theorem mw_J2_getChar_3b067 : MW M_J2_getChar_3b067 2 := ⟨(tw_k 1 234 (by decide +kernel) (by decide +kernel)), (tw_k 0 21 (by decide +kernel) (by decide +kernel)), by decide, by decide, by decide, by decide +kernel⟩
theorem mw_J2_length_9d52b : MW M_J2_length_9d52b 1 := ⟨(tw_k 1 230 (by decide +kernel) (by decide +kernel)), (tw_k 0 21 (by decide +kernel) (by decide +kernel)), by decide, by decide, by decide, by decide +kernel⟩
theorem mw_J3_checkIndex_8e157 : MW M_J3_checkIndex_8e157 3 := ⟨(tw_k 1 140 (by decide +kernel) (by decide +kernel)), (tw_k 0 18 (by decide +kernel) (by decide +kernel)), by decide, by decide, by decide, by decide +kernel⟩
theorem mw_J7_copyOf_1904c : MW M_J7_copyOf_1904c 2 := ⟨(tw_k 1 89 (by decide +kernel) (by decide +kernel)), (tw_k 0 15 (by decide +kernel) (by decide +kernel)), by decide, by decide, by decide, by decide +kernel⟩
theorem mw_J7_copyOf_6403c : MW M_J7_copyOf_6403c 3 := ⟨(tw_k 1 111 (by decide +kernel) (by decide +kernel)), (tw_k 0 15 (by decide +kernel) (by decide +kernel)), by decide, by decide, by decide, by decide +kernel⟩
theorem mw_J8_hugeLength_7cf53 : MW M_J8_hugeLength_7cf53 2 := ⟨(tw_k 1 86 (by decide +kernel) (by decide +kernel)), (tw_k 0 13 (by decide +kernel) (by decide +kernel)), by decide, by decide, by decide, by decide +kernel⟩
theorem mw_J8_newLength_cabcc : MW M_J8_newLength_cabcc 3 := ⟨(tw_k 1 79 (by decide +kernel) (by decide +kernel)), (tw_k 0 13 (by decide +kernel) (by decide +kernel)), by decide, by decide, by decide, by decide +kernel⟩
theorem mw_J9_max_7cf53 : MW M_J9_max_7cf53 2 := ⟨(tw_k 1 82 (by decide +kernel) (by decide +kernel)), (tw_k 0 14 (by decide +kernel) (by decide +kernel)), by decide, by decide, by decide, by decide +kernel⟩
theorem mw_J9_min_7cf53 : MW M_J9_min_7cf53 2 := ⟨(tw_k 1 117 (by decide +kernel) (by decide +kernel)), (tw_k 0 14 (by decide +kernel) (by decide +kernel)), by decide, by decide, by decide, by decide +kernel⟩
theorem mw_Jx4a65c_add_72be8 : MW M_Jx4a65c_add_72be8 3 := ⟨(tw_k 1 68 (by decide +kernel) (by decide +kernel)), (tw_k 0 4 (by decide +kernel) (by decide +kernel)), by decide, by decide, by decide, by decide +kernel⟩
theorem mw_Jx4a65c_add_7a177 : MW M_Jx4a65c_add_7a177 2 := ⟨(tw_k 3 141 (by decide +kernel) (by decide +kernel)), (tw_k 0 4 (by decide +kernel) (by decide +kernel)), by decide, by decide, by decide, by decide +kernel⟩
theorem mw_Jx4a65c_add_9ea2d : MW M_Jx4a65c_add_9ea2d 1 := ⟨(tw_k 1 64 (by decide +kernel) (by decide +kernel)), (tw_k 0 4 (by decide +kernel) (by decide +kernel)), by decide, by decide, by decide, by decide +kernel⟩
theorem mw_Jx4a65c_clear_da8c8 : MW M_Jx4a65c_clear_da8c8 0 := ⟨(tw_k 3 83 (by decide +kernel) (by decide +kernel)), (tw_k 0 4 (by decide +kernel) (by decide +kernel)), by decide, by decide, by decide, by decide +kernel⟩
theorem mw_Jx4a65c_elementData_915e3 : MW M_Jx4a65c_elementData_915e3 1 := ⟨(tw_k 1 144 (by decide +kernel) (by decide +kernel)), (tw_k 0 4 (by decide +kernel) (by decide +kernel)), by decide, by decide, by decide, by decide +kernel⟩
theorem mw_Jx4a65c_get_915e3 : MW M_Jx4a65c_get_915e3 1 := ⟨(tw_k 1 134 (by decide +kernel) (by decide +kernel)), (tw_k 0 4 (by decide +kernel) (by decide +kernel)), by decide, by decide, by decide, by decide +kernel⟩
theorem mw_Jx4a65c_grow_92f84 : MW M_Jx4a65c_grow_92f84 1 := ⟨(tw_k 1 76 (by decide +kernel) (by decide +kernel)), (tw_k 0 4 (by decide +kernel) (by decide +kernel)), by decide, by decide, by decide, by decide +kernel⟩
theorem mw_Jx4a65c_grow_d5877 : MW M_Jx4a65c_grow_d5877 0 := ⟨(tw_k 1 72 (by decide +kernel) (by decide +kernel)), (tw_k 0 4 (by decide +kernel) (by decide +kernel)), by decide, by decide, by decide, by decide +kernel⟩
theorem mw_Jx4a65c_init_da8c8 : MW M_Jx4a65c_init_da8c8 0 := ⟨(tw_k 0 42 (by decide +kernel) (by decide +kernel)), (tw_k 0 4 (by decide +kernel) (by decide +kernel)), by decide, by decide, by decide, by decide +kernel⟩
theorem mw_Jx4a65c_isEmpty_aae02 : MW M_Jx4a65c_isEmpty_aae02 0 := ⟨(tw_k 3 11 (by decide +kernel) (by decide +kernel)), (tw_k 0 4 (by decide +kernel) (by decide +kernel)), by decide, by decide, by decide, by decide +kernel⟩
theorem mw_Jx4a65c_rangeCheckForAdd_d00df : MW M_Jx4a65c_rangeCheckForAdd_d00df 1 := ⟨(tw_k 3 145 (by decide +kernel) (by decide +kernel)), (tw_k 0 4 (by decide +kernel) (by decide +kernel)), by decide, by decide, by decide, by decide +kernel⟩
theorem mw_Jx4a65c_size_8abf5 : MW M_Jx4a65c_size_8abf5 0 := ⟨(tw_k 0 236 (by decide +kernel) (by decide +kernel)), (tw_k 0 4 (by decide +kernel) (by decide +kernel)), by decide, by decide, by decide, by decide +kernel⟩
theorem mw_Jxa1e45_init_da8c8 : MW M_Jxa1e45_init_da8c8 0 := ⟨(tw_k 0 48 (by decide +kernel) (by decide +kernel)), (tw_k 0 2 (by decide +kernel) (by decide +kernel)), by decide, by decide, by decide, by decide +kernel⟩
theorem mw_Jxc12de_init_da8c8 : MW M_Jxc12de_init_da8c8 0 := ⟨(tw_k 0 45 (by decide +kernel) (by decide +kernel)), (tw_k 0 3 (by decide +kernel) (by decide +kernel)), by decide, by decide, by decide, by decide +kernel⟩
-- no words of L_law
-- no words of L_seen
theorem mw_X0_init : MW M_X0_init 1 := ⟨(tw_k 2 151 (by decide +kernel) (by decide +kernel)), (tw_k 0 23 (by decide +kernel) (by decide +kernel)), by decide, by decide, by decide, by decide +kernel⟩
theorem mw_X0_readFrom : MW M_X0_readFrom 1 := ⟨(tw_k 2 167 (by decide +kernel) (by decide +kernel)), (tw_k 0 23 (by decide +kernel) (by decide +kernel)), by decide, by decide, by decide, by decide +kernel⟩
theorem mw_X0_worth : MW M_X0_worth 2 := ⟨(tw_k 3 190 (by decide +kernel) (by decide +kernel)), (tw_k 0 23 (by decide +kernel) (by decide +kernel)), by decide, by decide, by decide, by decide +kernel⟩
theorem mw_X10_answer : MW M_X10_answer 1 := ⟨(tw_k 3 182 (by decide +kernel) (by decide +kernel)), (tw_k 0 25 (by decide +kernel) (by decide +kernel)), by decide, by decide, by decide, by decide +kernel⟩
theorem mw_X10_earned : MW M_X10_earned 0 := ⟨(tw_k 3 186 (by decide +kernel) (by decide +kernel)), (tw_k 0 25 (by decide +kernel) (by decide +kernel)), by decide, by decide, by decide, by decide +kernel⟩
theorem mw_X10_init : MW M_X10_init 3 := ⟨(tw_k 3 95 (by decide +kernel) (by decide +kernel)), (tw_k 0 25 (by decide +kernel) (by decide +kernel)), by decide, by decide, by decide, by decide +kernel⟩
theorem mw_X10_send : MW M_X10_send 1 := ⟨(tw_k 3 164 (by decide +kernel) (by decide +kernel)), (tw_k 0 25 (by decide +kernel) (by decide +kernel)), by decide, by decide, by decide, by decide +kernel⟩
theorem mw_X11_about : MW M_X11_about 2 := ⟨(tw_k 3 232 (by decide +kernel) (by decide +kernel)), (tw_k 0 1 (by decide +kernel) (by decide +kernel)), by decide, by decide, by decide, by decide +kernel⟩
theorem mw_X11_addBytes : MW M_X11_addBytes 1 := ⟨(tw_k 1 152 (by decide +kernel) (by decide +kernel)), (tw_k 0 1 (by decide +kernel) (by decide +kernel)), by decide, by decide, by decide, by decide +kernel⟩
theorem mw_X11_agree : MW M_X11_agree 0 := ⟨(tw_k 2 146 (by decide +kernel) (by decide +kernel)), (tw_k 0 1 (by decide +kernel) (by decide +kernel)), by decide, by decide, by decide, by decide +kernel⟩
theorem mw_X11_ask : MW M_X11_ask 2 := ⟨(tw_k 3 224 (by decide +kernel) (by decide +kernel)), (tw_k 0 1 (by decide +kernel) (by decide +kernel)), by decide, by decide, by decide, by decide +kernel⟩
theorem mw_X11_asks : MW M_X11_asks 0 := ⟨(tw_k 1 164 (by decide +kernel) (by decide +kernel)), (tw_k 0 1 (by decide +kernel) (by decide +kernel)), by decide, by decide, by decide, by decide +kernel⟩
theorem mw_X11_away : MW M_X11_away 2 := ⟨(tw_k 1 126 (by decide +kernel) (by decide +kernel)), (tw_k 0 1 (by decide +kernel) (by decide +kernel)), by decide, by decide, by decide, by decide +kernel⟩
theorem mw_X11_buses : MW M_X11_buses 2 := ⟨(tw_k 3 220 (by decide +kernel) (by decide +kernel)), (tw_k 0 1 (by decide +kernel) (by decide +kernel)), by decide, by decide, by decide, by decide +kernel⟩
theorem mw_X11_called : MW M_X11_called 1 := ⟨(tw_k 3 48 (by decide +kernel) (by decide +kernel)), (tw_k 0 1 (by decide +kernel) (by decide +kernel)), by decide, by decide, by decide, by decide +kernel⟩
theorem mw_X11_count : MW M_X11_count 1 := ⟨(tw_k 4 5 (by decide +kernel) (by decide +kernel)), (tw_k 0 1 (by decide +kernel) (by decide +kernel)), by decide, by decide, by decide, by decide +kernel⟩
theorem mw_X11_end : MW M_X11_end 1 := ⟨(tw_k 1 160 (by decide +kernel) (by decide +kernel)), (tw_k 0 1 (by decide +kernel) (by decide +kernel)), by decide, by decide, by decide, by decide +kernel⟩
theorem mw_X11_feed : MW M_X11_feed 5 := ⟨(tw_k 1 148 (by decide +kernel) (by decide +kernel)), (tw_k 0 1 (by decide +kernel) (by decide +kernel)), by decide, by decide, by decide, by decide +kernel⟩
theorem mw_X11_find : MW M_X11_find 1 := ⟨(tw_k 1 130 (by decide +kernel) (by decide +kernel)), (tw_k 0 1 (by decide +kernel) (by decide +kernel)), by decide, by decide, by decide, by decide +kernel⟩
theorem mw_X11_findRecord : MW M_X11_findRecord 2 := ⟨(tw_k 3 178 (by decide +kernel) (by decide +kernel)), (tw_k 0 1 (by decide +kernel) (by decide +kernel)), by decide, by decide, by decide, by decide +kernel⟩
theorem mw_X11_fits : MW M_X11_fits 3 := ⟨(tw_k 2 220 (by decide +kernel) (by decide +kernel)), (tw_k 0 1 (by decide +kernel) (by decide +kernel)), by decide, by decide, by decide, by decide +kernel⟩
theorem mw_X11_init : MW M_X11_init 0 := ⟨(tw_k 0 34 (by decide +kernel) (by decide +kernel)), (tw_k 0 1 (by decide +kernel) (by decide +kernel)), by decide, by decide, by decide, by decide +kernel⟩
theorem mw_X11_isScene : MW M_X11_isScene 1 := ⟨(tw_k 3 207 (by decide +kernel) (by decide +kernel)), (tw_k 0 1 (by decide +kernel) (by decide +kernel)), by decide, by decide, by decide, by decide +kernel⟩
theorem mw_X11_lacks : MW M_X11_lacks 1 := ⟨(tw_k 3 216 (by decide +kernel) (by decide +kernel)), (tw_k 0 1 (by decide +kernel) (by decide +kernel)), by decide, by decide, by decide, by decide +kernel⟩
theorem mw_X11_lay : MW M_X11_lay 0 := ⟨(tw_k 3 7 (by decide +kernel) (by decide +kernel)), (tw_k 0 1 (by decide +kernel) (by decide +kernel)), by decide, by decide, by decide, by decide +kernel⟩
theorem mw_X11_moved : MW M_X11_moved 1 := ⟨(tw_k 3 70 (by decide +kernel) (by decide +kernel)), (tw_k 0 1 (by decide +kernel) (by decide +kernel)), by decide, by decide, by decide, by decide +kernel⟩
theorem mw_X11_no : MW M_X11_no 1 := ⟨(tw_k 3 52 (by decide +kernel) (by decide +kernel)), (tw_k 0 1 (by decide +kernel) (by decide +kernel)), by decide, by decide, by decide, by decide +kernel⟩
theorem mw_X11_pay : MW M_X11_pay 3 := ⟨(tw_k 4 0 (by decide +kernel) (by decide +kernel)), (tw_k 0 1 (by decide +kernel) (by decide +kernel)), by decide, by decide, by decide, by decide +kernel⟩
theorem mw_X11_person : MW M_X11_person 5 := ⟨(tw_k 0 228 (by decide +kernel) (by decide +kernel)), (tw_k 0 1 (by decide +kernel) (by decide +kernel)), by decide, by decide, by decide, by decide +kernel⟩
theorem mw_X11_place : MW M_X11_place 0 := ⟨(tw_k 2 216 (by decide +kernel) (by decide +kernel)), (tw_k 0 1 (by decide +kernel) (by decide +kernel)), by decide, by decide, by decide, by decide +kernel⟩
theorem mw_X11_record : MW M_X11_record 3 := ⟨(tw_k 3 174 (by decide +kernel) (by decide +kernel)), (tw_k 0 1 (by decide +kernel) (by decide +kernel)), by decide, by decide, by decide, by decide +kernel⟩
theorem mw_X11_retake : MW M_X11_retake 2 := ⟨(tw_k 3 211 (by decide +kernel) (by decide +kernel)), (tw_k 0 1 (by decide +kernel) (by decide +kernel)), by decide, by decide, by decide, by decide +kernel⟩
theorem mw_X11_seen : MW M_X11_seen 3 := ⟨(tw_k 4 17 (by decide +kernel) (by decide +kernel)), (tw_k 0 1 (by decide +kernel) (by decide +kernel)), by decide, by decide, by decide, by decide +kernel⟩
theorem mw_X11_sendAll : MW M_X11_sendAll 0 := ⟨(tw_k 3 159 (by decide +kernel) (by decide +kernel)), (tw_k 0 1 (by decide +kernel) (by decide +kernel)), by decide, by decide, by decide, by decide +kernel⟩
theorem mw_X11_step : MW M_X11_step 2 := ⟨(tw_k 3 75 (by decide +kernel) (by decide +kernel)), (tw_k 0 1 (by decide +kernel) (by decide +kernel)), by decide, by decide, by decide, by decide +kernel⟩
theorem mw_X11_tell : MW M_X11_tell 2 := ⟨(tw_k 3 204 (by decide +kernel) (by decide +kernel)), (tw_k 0 1 (by decide +kernel) (by decide +kernel)), by decide, by decide, by decide, by decide +kernel⟩
theorem mw_X11_within : MW M_X11_within 3 := ⟨(tw_k 0 231 (by decide +kernel) (by decide +kernel)), (tw_k 0 1 (by decide +kernel) (by decide +kernel)), by decide, by decide, by decide, by decide +kernel⟩
theorem mw_X12_about : MW M_X12_about 2 := ⟨(tw_k 5 83 (by decide +kernel) (by decide +kernel)), (tw_k 0 11 (by decide +kernel) (by decide +kernel)), by decide, by decide, by decide, by decide +kernel⟩
theorem mw_X12_agree : MW M_X12_agree 0 := ⟨(tw_k 6 13 (by decide +kernel) (by decide +kernel)), (tw_k 0 11 (by decide +kernel) (by decide +kernel)), by decide, by decide, by decide, by decide +kernel⟩
theorem mw_X12_all : MW M_X12_all 1 := ⟨(tw_k 5 167 (by decide +kernel) (by decide +kernel)), (tw_k 0 11 (by decide +kernel) (by decide +kernel)), by decide, by decide, by decide, by decide +kernel⟩
theorem mw_X12_allCalled : MW M_X12_allCalled 0 := ⟨(tw_k 6 80 (by decide +kernel) (by decide +kernel)), (tw_k 0 11 (by decide +kernel) (by decide +kernel)), by decide, by decide, by decide, by decide +kernel⟩
theorem mw_X12_ask : MW M_X12_ask 2 := ⟨(tw_k 5 213 (by decide +kernel) (by decide +kernel)), (tw_k 0 11 (by decide +kernel) (by decide +kernel)), by decide, by decide, by decide, by decide +kernel⟩
theorem mw_X12_asks : MW M_X12_asks 0 := ⟨(tw_k 5 111 (by decide +kernel) (by decide +kernel)), (tw_k 0 11 (by decide +kernel) (by decide +kernel)), by decide, by decide, by decide, by decide +kernel⟩
theorem mw_X12_away : MW M_X12_away 2 := ⟨(tw_k 5 75 (by decide +kernel) (by decide +kernel)), (tw_k 0 11 (by decide +kernel) (by decide +kernel)), by decide, by decide, by decide, by decide +kernel⟩
theorem mw_X12_buses : MW M_X12_buses 2 := ⟨(tw_k 6 72 (by decide +kernel) (by decide +kernel)), (tw_k 0 11 (by decide +kernel) (by decide +kernel)), by decide, by decide, by decide, by decide +kernel⟩
theorem mw_X12_called : MW M_X12_called 1 := ⟨(tw_k 5 237 (by decide +kernel) (by decide +kernel)), (tw_k 0 11 (by decide +kernel) (by decide +kernel)), by decide, by decide, by decide, by decide +kernel⟩
theorem mw_X12_calledIn : MW M_X12_calledIn 1 := ⟨(tw_k 5 217 (by decide +kernel) (by decide +kernel)), (tw_k 0 11 (by decide +kernel) (by decide +kernel)), by decide, by decide, by decide, by decide +kernel⟩
theorem mw_X12_canBe : MW M_X12_canBe 2 := ⟨(tw_k 5 209 (by decide +kernel) (by decide +kernel)), (tw_k 0 11 (by decide +kernel) (by decide +kernel)), by decide, by decide, by decide, by decide +kernel⟩
theorem mw_X12_count : MW M_X12_count 1 := ⟨(tw_k 6 76 (by decide +kernel) (by decide +kernel)), (tw_k 0 11 (by decide +kernel) (by decide +kernel)), by decide, by decide, by decide, by decide +kernel⟩
theorem mw_X12_doesFit : MW M_X12_doesFit 2 := ⟨(tw_k 5 205 (by decide +kernel) (by decide +kernel)), (tw_k 0 11 (by decide +kernel) (by decide +kernel)), by decide, by decide, by decide, by decide +kernel⟩
theorem mw_X12_dresses : MW M_X12_dresses 1 := ⟨(tw_k 6 36 (by decide +kernel) (by decide +kernel)), (tw_k 0 11 (by decide +kernel) (by decide +kernel)), by decide, by decide, by decide, by decide +kernel⟩
theorem mw_X12_either : MW M_X12_either 1 := ⟨(tw_k 5 163 (by decide +kernel) (by decide +kernel)), (tw_k 0 11 (by decide +kernel) (by decide +kernel)), by decide, by decide, by decide, by decide +kernel⟩
theorem mw_X12_end : MW M_X12_end 1 := ⟨(tw_k 5 107 (by decide +kernel) (by decide +kernel)), (tw_k 0 11 (by decide +kernel) (by decide +kernel)), by decide, by decide, by decide, by decide +kernel⟩
theorem mw_X12_fact : MW M_X12_fact 2 := ⟨(tw_k 5 91 (by decide +kernel) (by decide +kernel)), (tw_k 0 11 (by decide +kernel) (by decide +kernel)), by decide, by decide, by decide, by decide +kernel⟩
theorem mw_X12_fails : MW M_X12_fails 1 := ⟨(tw_k 5 144 (by decide +kernel) (by decide +kernel)), (tw_k 0 11 (by decide +kernel) (by decide +kernel)), by decide, by decide, by decide, by decide +kernel⟩
theorem mw_X12_feed : MW M_X12_feed 5 := ⟨(tw_k 5 103 (by decide +kernel) (by decide +kernel)), (tw_k 0 11 (by decide +kernel) (by decide +kernel)), by decide, by decide, by decide, by decide +kernel⟩
theorem mw_X12_first : MW M_X12_first 0 := ⟨(tw_k 5 229 (by decide +kernel) (by decide +kernel)), (tw_k 0 11 (by decide +kernel) (by decide +kernel)), by decide, by decide, by decide, by decide +kernel⟩
theorem mw_X12_fits : MW M_X12_fits 3 := ⟨(tw_k 5 197 (by decide +kernel) (by decide +kernel)), (tw_k 0 11 (by decide +kernel) (by decide +kernel)), by decide, by decide, by decide, by decide +kernel⟩
theorem mw_X12_init : MW M_X12_init 0 := ⟨(tw_k 4 96 (by decide +kernel) (by decide +kernel)), (tw_k 0 11 (by decide +kernel) (by decide +kernel)), by decide, by decide, by decide, by decide +kernel⟩
theorem mw_X12_is : MW M_X12_is 1 := ⟨(tw_k 5 159 (by decide +kernel) (by decide +kernel)), (tw_k 0 11 (by decide +kernel) (by decide +kernel)), by decide, by decide, by decide, by decide +kernel⟩
theorem mw_X12_isAsk : MW M_X12_isAsk 1 := ⟨(tw_k 5 201 (by decide +kernel) (by decide +kernel)), (tw_k 0 11 (by decide +kernel) (by decide +kernel)), by decide, by decide, by decide, by decide +kernel⟩
theorem mw_X12_isDigit : MW M_X12_isDigit 1 := ⟨(tw_k 5 129 (by decide +kernel) (by decide +kernel)), (tw_k 0 11 (by decide +kernel) (by decide +kernel)), by decide, by decide, by decide, by decide +kernel⟩
theorem mw_X12_isPerson : MW M_X12_isPerson 1 := ⟨(tw_k 5 79 (by decide +kernel) (by decide +kernel)), (tw_k 0 11 (by decide +kernel) (by decide +kernel)), by decide, by decide, by decide, by decide +kernel⟩
theorem mw_X12_isRecord : MW M_X12_isRecord 2 := ⟨(tw_k 6 49 (by decide +kernel) (by decide +kernel)), (tw_k 0 11 (by decide +kernel) (by decide +kernel)), by decide, by decide, by decide, by decide +kernel⟩
theorem mw_X12_isRoom : MW M_X12_isRoom 0 := ⟨(tw_k 5 233 (by decide +kernel) (by decide +kernel)), (tw_k 0 11 (by decide +kernel) (by decide +kernel)), by decide, by decide, by decide, by decide +kernel⟩
theorem mw_X12_isSmall : MW M_X12_isSmall 1 := ⟨(tw_k 5 122 (by decide +kernel) (by decide +kernel)), (tw_k 0 11 (by decide +kernel) (by decide +kernel)), by decide, by decide, by decide, by decide +kernel⟩
theorem mw_X12_isWord : MW M_X12_isWord 1 := ⟨(tw_k 5 138 (by decide +kernel) (by decide +kernel)), (tw_k 0 11 (by decide +kernel) (by decide +kernel)), by decide, by decide, by decide, by decide +kernel⟩
theorem mw_X12_lacks : MW M_X12_lacks 1 := ⟨(tw_k 6 68 (by decide +kernel) (by decide +kernel)), (tw_k 0 11 (by decide +kernel) (by decide +kernel)), by decide, by decide, by decide, by decide +kernel⟩
theorem mw_X12_lay : MW M_X12_lay 0 := ⟨(tw_k 5 221 (by decide +kernel) (by decide +kernel)), (tw_k 0 11 (by decide +kernel) (by decide +kernel)), by decide, by decide, by decide, by decide +kernel⟩
theorem mw_X12_mends : MW M_X12_mends 4 := ⟨(tw_k 6 5 (by decide +kernel) (by decide +kernel)), (tw_k 0 11 (by decide +kernel) (by decide +kernel)), by decide, by decide, by decide, by decide +kernel⟩
theorem mw_X12_moved : MW M_X12_moved 1 := ⟨(tw_k 6 9 (by decide +kernel) (by decide +kernel)), (tw_k 0 11 (by decide +kernel) (by decide +kernel)), by decide, by decide, by decide, by decide +kernel⟩
theorem mw_X12_next : MW M_X12_next 0 := ⟨(tw_k 5 119 (by decide +kernel) (by decide +kernel)), (tw_k 0 11 (by decide +kernel) (by decide +kernel)), by decide, by decide, by decide, by decide +kernel⟩
theorem mw_X12_nextComing : MW M_X12_nextComing 0 := ⟨(tw_k 6 40 (by decide +kernel) (by decide +kernel)), (tw_k 0 11 (by decide +kernel) (by decide +kernel)), by decide, by decide, by decide, by decide +kernel⟩
theorem mw_X12_next_ : MW M_X12_next_ 1 := ⟨(tw_k 6 31 (by decide +kernel) (by decide +kernel)), (tw_k 0 11 (by decide +kernel) (by decide +kernel)), by decide, by decide, by decide, by decide +kernel⟩
theorem mw_X12_no : MW M_X12_no 1 := ⟨(tw_k 6 1 (by decide +kernel) (by decide +kernel)), (tw_k 0 11 (by decide +kernel) (by decide +kernel)), by decide, by decide, by decide, by decide +kernel⟩
theorem mw_X12_nobody : MW M_X12_nobody 0 := ⟨(tw_k 5 189 (by decide +kernel) (by decide +kernel)), (tw_k 0 11 (by decide +kernel) (by decide +kernel)), by decide, by decide, by decide, by decide +kernel⟩
theorem mw_X12_number : MW M_X12_number 2 := ⟨(tw_k 5 148 (by decide +kernel) (by decide +kernel)), (tw_k 0 11 (by decide +kernel) (by decide +kernel)), by decide, by decide, by decide, by decide +kernel⟩
theorem mw_X12_one : MW M_X12_one 1 := ⟨(tw_k 5 171 (by decide +kernel) (by decide +kernel)), (tw_k 0 11 (by decide +kernel) (by decide +kernel)), by decide, by decide, by decide, by decide +kernel⟩
theorem mw_X12_pay : MW M_X12_pay 3 := ⟨(tw_k 6 60 (by decide +kernel) (by decide +kernel)), (tw_k 0 11 (by decide +kernel) (by decide +kernel)), by decide, by decide, by decide, by decide +kernel⟩
theorem mw_X12_person : MW M_X12_person 5 := ⟨(tw_k 5 67 (by decide +kernel) (by decide +kernel)), (tw_k 0 11 (by decide +kernel) (by decide +kernel)), by decide, by decide, by decide, by decide +kernel⟩
theorem mw_X12_place : MW M_X12_place 0 := ⟨(tw_k 5 193 (by decide +kernel) (by decide +kernel)), (tw_k 0 11 (by decide +kernel) (by decide +kernel)), by decide, by decide, by decide, by decide +kernel⟩
theorem mw_X12_quarters : MW M_X12_quarters 2 := ⟨(tw_k 6 56 (by decide +kernel) (by decide +kernel)), (tw_k 0 11 (by decide +kernel) (by decide +kernel)), by decide, by decide, by decide, by decide +kernel⟩
theorem mw_X12_readAsk : MW M_X12_readAsk 0 := ⟨(tw_k 5 133 (by decide +kernel) (by decide +kernel)), (tw_k 0 11 (by decide +kernel) (by decide +kernel)), by decide, by decide, by decide, by decide +kernel⟩
theorem mw_X12_readTerm : MW M_X12_readTerm 0 := ⟨(tw_k 6 17 (by decide +kernel) (by decide +kernel)), (tw_k 0 11 (by decide +kernel) (by decide +kernel)), by decide, by decide, by decide, by decide +kernel⟩
theorem mw_X12_reckons : MW M_X12_reckons 0 := ⟨(tw_k 5 225 (by decide +kernel) (by decide +kernel)), (tw_k 0 11 (by decide +kernel) (by decide +kernel)), by decide, by decide, by decide, by decide +kernel⟩
theorem mw_X12_record : MW M_X12_record 3 := ⟨(tw_k 6 45 (by decide +kernel) (by decide +kernel)), (tw_k 0 11 (by decide +kernel) (by decide +kernel)), by decide, by decide, by decide, by decide +kernel⟩
theorem mw_X12_retake : MW M_X12_retake 2 := ⟨(tw_k 6 64 (by decide +kernel) (by decide +kernel)), (tw_k 0 11 (by decide +kernel) (by decide +kernel)), by decide, by decide, by decide, by decide +kernel⟩
theorem mw_X12_see : MW M_X12_see 1 := ⟨(tw_k 5 126 (by decide +kernel) (by decide +kernel)), (tw_k 0 11 (by decide +kernel) (by decide +kernel)), by decide, by decide, by decide, by decide +kernel⟩
theorem mw_X12_seen : MW M_X12_seen 3 := ⟨(tw_k 5 95 (by decide +kernel) (by decide +kernel)), (tw_k 0 11 (by decide +kernel) (by decide +kernel)), by decide, by decide, by decide, by decide +kernel⟩
theorem mw_X12_starts : MW M_X12_starts 3 := ⟨(tw_k 5 115 (by decide +kernel) (by decide +kernel)), (tw_k 0 11 (by decide +kernel) (by decide +kernel)), by decide, by decide, by decide, by decide +kernel⟩
theorem mw_X12_step : MW M_X12_step 2 := ⟨(tw_k 6 28 (by decide +kernel) (by decide +kernel)), (tw_k 0 11 (by decide +kernel) (by decide +kernel)), by decide, by decide, by decide, by decide +kernel⟩
theorem mw_X12_tell : MW M_X12_tell 2 := ⟨(tw_k 5 87 (by decide +kernel) (by decide +kernel)), (tw_k 0 11 (by decide +kernel) (by decide +kernel)), by decide, by decide, by decide, by decide +kernel⟩
theorem mw_X12_thrown : MW M_X12_thrown 0 := ⟨(tw_k 4 91 (by decide +kernel) (by decide +kernel)), (tw_k 0 11 (by decide +kernel) (by decide +kernel)), by decide, by decide, by decide, by decide +kernel⟩
theorem mw_X12_times : MW M_X12_times 3 := ⟨(tw_k 5 99 (by decide +kernel) (by decide +kernel)), (tw_k 0 11 (by decide +kernel) (by decide +kernel)), by decide, by decide, by decide, by decide +kernel⟩
theorem mw_X12_wants : MW M_X12_wants 1 := ⟨(tw_k 5 176 (by decide +kernel) (by decide +kernel)), (tw_k 0 11 (by decide +kernel) (by decide +kernel)), by decide, by decide, by decide, by decide +kernel⟩
theorem mw_X12_wants_ : MW M_X12_wants_ 1 := ⟨(tw_k 5 153 (by decide +kernel) (by decide +kernel)), (tw_k 0 11 (by decide +kernel) (by decide +kernel)), by decide, by decide, by decide, by decide +kernel⟩
theorem mw_X12_within : MW M_X12_within 3 := ⟨(tw_k 5 70 (by decide +kernel) (by decide +kernel)), (tw_k 0 11 (by decide +kernel) (by decide +kernel)), by decide, by decide, by decide, by decide +kernel⟩
theorem mw_X12_worth : MW M_X12_worth 3 := ⟨(tw_k 6 53 (by decide +kernel) (by decide +kernel)), (tw_k 0 11 (by decide +kernel) (by decide +kernel)), by decide, by decide, by decide, by decide +kernel⟩
theorem mw_X1_answer : MW M_X1_answer 1 := ⟨(tw_k 3 228 (by decide +kernel) (by decide +kernel)), (tw_k 0 22 (by decide +kernel) (by decide +kernel)), by decide, by decide, by decide, by decide +kernel⟩
theorem mw_X1_highest : MW M_X1_highest 1 := ⟨(tw_k 2 111 (by decide +kernel) (by decide +kernel)), (tw_k 0 22 (by decide +kernel) (by decide +kernel)), by decide, by decide, by decide, by decide +kernel⟩
theorem mw_X1_holds : MW M_X1_holds 3 := ⟨(tw_k 2 234 (by decide +kernel) (by decide +kernel)), (tw_k 0 22 (by decide +kernel) (by decide +kernel)), by decide, by decide, by decide, by decide +kernel⟩
theorem mw_X1_init : MW M_X1_init 1 := ⟨(tw_k 2 9 (by decide +kernel) (by decide +kernel)), (tw_k 0 22 (by decide +kernel) (by decide +kernel)), by decide, by decide, by decide, by decide +kernel⟩
theorem mw_X1_isOpenTo : MW M_X1_isOpenTo 2 := ⟨(tw_k 3 2 (by decide +kernel) (by decide +kernel)), (tw_k 0 22 (by decide +kernel) (by decide +kernel)), by decide, by decide, by decide, by decide +kernel⟩
theorem mw_X1_suits : MW M_X1_suits 1 := ⟨(tw_k 2 229 (by decide +kernel) (by decide +kernel)), (tw_k 0 22 (by decide +kernel) (by decide +kernel)), by decide, by decide, by decide, by decide +kernel⟩
theorem mw_X1_takeSteps : MW M_X1_takeSteps 1 := ⟨(tw_k 2 124 (by decide +kernel) (by decide +kernel)), (tw_k 0 22 (by decide +kernel) (by decide +kernel)), by decide, by decide, by decide, by decide +kernel⟩
theorem mw_X2_init : MW M_X2_init 1 := ⟨(tw_k 0 118 (by decide +kernel) (by decide +kernel)), (tw_k 0 7 (by decide +kernel) (by decide +kernel)), by decide, by decide, by decide, by decide +kernel⟩
theorem mw_X2_markHere : MW M_X2_markHere 0 := ⟨(tw_k 2 101 (by decide +kernel) (by decide +kernel)), (tw_k 0 7 (by decide +kernel) (by decide +kernel)), by decide, by decide, by decide, by decide +kernel⟩
theorem mw_X2_read : MW M_X2_read 0 := ⟨(tw_k 1 168 (by decide +kernel) (by decide +kernel)), (tw_k 0 7 (by decide +kernel) (by decide +kernel)), by decide, by decide, by decide, by decide +kernel⟩
theorem mw_X2_readAny : MW M_X2_readAny 1 := ⟨(tw_k 2 87 (by decide +kernel) (by decide +kernel)), (tw_k 0 7 (by decide +kernel) (by decide +kernel)), by decide, by decide, by decide, by decide +kernel⟩
theorem mw_X2_readHead : MW M_X2_readHead 1 := ⟨(tw_k 2 57 (by decide +kernel) (by decide +kernel)), (tw_k 0 7 (by decide +kernel) (by decide +kernel)), by decide, by decide, by decide, by decide +kernel⟩
theorem mw_X2_readMark : MW M_X2_readMark 0 := ⟨(tw_k 2 97 (by decide +kernel) (by decide +kernel)), (tw_k 0 7 (by decide +kernel) (by decide +kernel)), by decide, by decide, by decide, by decide +kernel⟩
theorem mw_X2_readOne : MW M_X2_readOne 1 := ⟨(tw_k 2 91 (by decide +kernel) (by decide +kernel)), (tw_k 0 7 (by decide +kernel) (by decide +kernel)), by decide, by decide, by decide, by decide +kernel⟩
theorem mw_X3_comeAll : MW M_X3_comeAll 3 := ⟨(tw_k 3 79 (by decide +kernel) (by decide +kernel)), (tw_k 0 10 (by decide +kernel) (by decide +kernel)), by decide, by decide, by decide, by decide +kernel⟩
theorem mw_X3_dressAll : MW M_X3_dressAll 1 := ⟨(tw_k 3 150 (by decide +kernel) (by decide +kernel)), (tw_k 0 10 (by decide +kernel) (by decide +kernel)), by decide, by decide, by decide, by decide +kernel⟩
theorem mw_X3_firstFree : MW M_X3_firstFree 1 := ⟨(tw_k 3 154 (by decide +kernel) (by decide +kernel)), (tw_k 0 10 (by decide +kernel) (by decide +kernel)), by decide, by decide, by decide, by decide +kernel⟩
theorem mw_X3_following : MW M_X3_following 1 := ⟨(tw_k 3 89 (by decide +kernel) (by decide +kernel)), (tw_k 0 10 (by decide +kernel) (by decide +kernel)), by decide, by decide, by decide, by decide +kernel⟩
theorem mw_X3_init : MW M_X3_init 0 := ⟨(tw_k 0 176 (by decide +kernel) (by decide +kernel)), (tw_k 0 10 (by decide +kernel) (by decide +kernel)), by decide, by decide, by decide, by decide +kernel⟩
theorem mw_X3_queue : MW M_X3_queue 1 := ⟨(tw_k 3 137 (by decide +kernel) (by decide +kernel)), (tw_k 0 10 (by decide +kernel) (by decide +kernel)), by decide, by decide, by decide, by decide +kernel⟩
theorem mw_X4_add : MW M_X4_add 2 := ⟨(tw_k 3 168 (by decide +kernel) (by decide +kernel)), (tw_k 0 8 (by decide +kernel) (by decide +kernel)), by decide, by decide, by decide, by decide +kernel⟩
theorem mw_X4_howOften : MW M_X4_howOften 3 := ⟨(tw_k 4 86 (by decide +kernel) (by decide +kernel)), (tw_k 0 8 (by decide +kernel) (by decide +kernel)), by decide, by decide, by decide, by decide +kernel⟩
theorem mw_X4_init : MW M_X4_init 0 := ⟨(tw_k 0 133 (by decide +kernel) (by decide +kernel)), (tw_k 0 8 (by decide +kernel) (by decide +kernel)), by decide, by decide, by decide, by decide +kernel⟩
theorem mw_X4_size : MW M_X4_size 0 := ⟨(tw_k 4 9 (by decide +kernel) (by decide +kernel)), (tw_k 0 8 (by decide +kernel) (by decide +kernel)), by decide, by decide, by decide, by decide +kernel⟩
theorem mw_X5_answer : MW M_X5_answer 1 := ⟨(tw_k 3 236 (by decide +kernel) (by decide +kernel)), (tw_k 0 12 (by decide +kernel) (by decide +kernel)), by decide, by decide, by decide, by decide +kernel⟩
theorem mw_X5_canBeIn : MW M_X5_canBeIn 1 := ⟨(tw_k 3 32 (by decide +kernel) (by decide +kernel)), (tw_k 0 12 (by decide +kernel) (by decide +kernel)), by decide, by decide, by decide, by decide +kernel⟩
theorem mw_X5_init : MW M_X5_init 6 := ⟨(tw_k 1 1 (by decide +kernel) (by decide +kernel)), (tw_k 0 12 (by decide +kernel) (by decide +kernel)), by decide, by decide, by decide, by decide +kernel⟩
theorem mw_X5_moveTo : MW M_X5_moveTo 1 := ⟨(tw_k 2 142 (by decide +kernel) (by decide +kernel)), (tw_k 0 12 (by decide +kernel) (by decide +kernel)), by decide, by decide, by decide, by decide +kernel⟩
theorem mw_X5_wasIn : MW M_X5_wasIn 1 := ⟨(tw_k 2 238 (by decide +kernel) (by decide +kernel)), (tw_k 0 12 (by decide +kernel) (by decide +kernel)), by decide, by decide, by decide, by decide +kernel⟩
theorem mw_X6_dismissAll : MW M_X6_dismissAll 0 := ⟨(tw_k 2 135 (by decide +kernel) (by decide +kernel)), (tw_k 0 9 (by decide +kernel) (by decide +kernel)), by decide, by decide, by decide, by decide +kernel⟩
theorem mw_X6_find : MW M_X6_find 1 := ⟨(tw_k 2 224 (by decide +kernel) (by decide +kernel)), (tw_k 0 9 (by decide +kernel) (by decide +kernel)), by decide, by decide, by decide, by decide +kernel⟩
theorem mw_X6_firstOfRow : MW M_X6_firstOfRow 2 := ⟨(tw_k 3 65 (by decide +kernel) (by decide +kernel)), (tw_k 0 9 (by decide +kernel) (by decide +kernel)), by decide, by decide, by decide, by decide +kernel⟩
theorem mw_X6_init : MW M_X6_init 1 := ⟨(tw_k 0 151 (by decide +kernel) (by decide +kernel)), (tw_k 0 9 (by decide +kernel) (by decide +kernel)), by decide, by decide, by decide, by decide +kernel⟩
theorem mw_X6_layFor : MW M_X6_layFor 1 := ⟨(tw_k 3 15 (by decide +kernel) (by decide +kernel)), (tw_k 0 9 (by decide +kernel) (by decide +kernel)), by decide, by decide, by decide, by decide +kernel⟩
theorem mw_X6_lookWhoIsOpen : MW M_X6_lookWhoIsOpen 1 := ⟨(tw_k 3 19 (by decide +kernel) (by decide +kernel)), (tw_k 0 9 (by decide +kernel) (by decide +kernel)), by decide, by decide, by decide, by decide +kernel⟩
theorem mw_X6_makeRoom : MW M_X6_makeRoom 3 := ⟨(tw_k 3 36 (by decide +kernel) (by decide +kernel)), (tw_k 0 9 (by decide +kernel) (by decide +kernel)), by decide, by decide, by decide, by decide +kernel⟩
theorem mw_X6_measureRows : MW M_X6_measureRows 0 := ⟨(tw_k 3 61 (by decide +kernel) (by decide +kernel)), (tw_k 0 9 (by decide +kernel) (by decide +kernel)), by decide, by decide, by decide, by decide +kernel⟩
theorem mw_X6_mend : MW M_X6_mend 2 := ⟨(tw_k 3 57 (by decide +kernel) (by decide +kernel)), (tw_k 0 9 (by decide +kernel) (by decide +kernel)), by decide, by decide, by decide, by decide +kernel⟩
theorem mw_X6_seat : MW M_X6_seat 2 := ⟨(tw_k 3 24 (by decide +kernel) (by decide +kernel)), (tw_k 0 9 (by decide +kernel) (by decide +kernel)), by decide, by decide, by decide, by decide +kernel⟩
theorem mw_X6_seatAllInLeast : MW M_X6_seatAllInLeast 0 := ⟨(tw_k 3 40 (by decide +kernel) (by decide +kernel)), (tw_k 0 9 (by decide +kernel) (by decide +kernel)), by decide, by decide, by decide, by decide +kernel⟩
theorem mw_X6_seatElsewhere : MW M_X6_seatElsewhere 3 := ⟨(tw_k 3 28 (by decide +kernel) (by decide +kernel)), (tw_k 0 9 (by decide +kernel) (by decide +kernel)), by decide, by decide, by decide, by decide +kernel⟩
theorem mw_X6_size : MW M_X6_size 0 := ⟨(tw_k 3 44 (by decide +kernel) (by decide +kernel)), (tw_k 0 9 (by decide +kernel) (by decide +kernel)), by decide, by decide, by decide, by decide +kernel⟩
theorem mw_X6_startWith : MW M_X6_startWith 1 := ⟨(tw_k 2 131 (by decide +kernel) (by decide +kernel)), (tw_k 0 9 (by decide +kernel) (by decide +kernel)), by decide, by decide, by decide, by decide +kernel⟩
theorem mw_X7_add : MW M_X7_add 1 := ⟨(tw_k 1 156 (by decide +kernel) (by decide +kernel)), (tw_k 0 5 (by decide +kernel) (by decide +kernel)), by decide, by decide, by decide, by decide +kernel⟩
theorem mw_X7_at : MW M_X7_at 1 := ⟨(tw_k 1 182 (by decide +kernel) (by decide +kernel)), (tw_k 0 5 (by decide +kernel) (by decide +kernel)), by decide, by decide, by decide, by decide +kernel⟩
theorem mw_X7_init : MW M_X7_init 1 := ⟨(tw_k 0 68 (by decide +kernel) (by decide +kernel)), (tw_k 0 5 (by decide +kernel) (by decide +kernel)), by decide, by decide, by decide, by decide +kernel⟩
theorem mw_X8_init : MW M_X8_init 1 := ⟨(tw_k 2 182 (by decide +kernel) (by decide +kernel)), (tw_k 0 24 (by decide +kernel) (by decide +kernel)), by decide, by decide, by decide, by decide +kernel⟩
theorem mw_X8_kindAt : MW M_X8_kindAt 1 := ⟨(tw_k 2 174 (by decide +kernel) (by decide +kernel)), (tw_k 0 24 (by decide +kernel) (by decide +kernel)), by decide, by decide, by decide, by decide +kernel⟩
theorem mw_X8_quarters : MW M_X8_quarters 1 := ⟨(tw_k 3 200 (by decide +kernel) (by decide +kernel)), (tw_k 0 24 (by decide +kernel) (by decide +kernel)), by decide, by decide, by decide, by decide +kernel⟩
theorem mw_X8_readNumbers : MW M_X8_readNumbers 1 := ⟨(tw_k 2 203 (by decide +kernel) (by decide +kernel)), (tw_k 0 24 (by decide +kernel) (by decide +kernel)), by decide, by decide, by decide, by decide +kernel⟩
theorem mw_X8_worth : MW M_X8_worth 2 := ⟨(tw_k 3 196 (by decide +kernel) (by decide +kernel)), (tw_k 0 24 (by decide +kernel) (by decide +kernel)), by decide, by decide, by decide, by decide +kernel⟩
theorem mw_X9_advance : MW M_X9_advance 0 := ⟨(tw_k 1 178 (by decide +kernel) (by decide +kernel)), (tw_k 0 6 (by decide +kernel) (by decide +kernel)), by decide, by decide, by decide, by decide +kernel⟩
theorem mw_X9_atEnd : MW M_X9_atEnd 0 := ⟨(tw_k 1 189 (by decide +kernel) (by decide +kernel)), (tw_k 0 6 (by decide +kernel) (by decide +kernel)), by decide, by decide, by decide, by decide +kernel⟩
theorem mw_X9_begin : MW M_X9_begin 0 := ⟨(tw_k 1 174 (by decide +kernel) (by decide +kernel)), (tw_k 0 6 (by decide +kernel) (by decide +kernel)), by decide, by decide, by decide, by decide +kernel⟩
theorem mw_X9_fail : MW M_X9_fail 1 := ⟨(tw_k 2 4 (by decide +kernel) (by decide +kernel)), (tw_k 0 6 (by decide +kernel) (by decide +kernel)), by decide, by decide, by decide, by decide +kernel⟩
theorem mw_X9_init : MW M_X9_init 1 := ⟨(tw_k 0 88 (by decide +kernel) (by decide +kernel)), (tw_k 0 6 (by decide +kernel) (by decide +kernel)), by decide, by decide, by decide, by decide +kernel⟩
theorem mw_X9_isSign : MW M_X9_isSign 1 := ⟨(tw_k 2 83 (by decide +kernel) (by decide +kernel)), (tw_k 0 6 (by decide +kernel) (by decide +kernel)), by decide, by decide, by decide, by decide +kernel⟩
theorem mw_X9_isWord : MW M_X9_isWord 1 := ⟨(tw_k 1 194 (by decide +kernel) (by decide +kernel)), (tw_k 0 6 (by decide +kernel) (by decide +kernel)), by decide, by decide, by decide, by decide +kernel⟩
theorem mw_X9_kindOf : MW M_X9_kindOf 1 := ⟨(tw_k 1 185 (by decide +kernel) (by decide +kernel)), (tw_k 0 6 (by decide +kernel) (by decide +kernel)), by decide, by decide, by decide, by decide +kernel⟩
theorem mw_X9_passNumber : MW M_X9_passNumber 2 := ⟨(tw_k 2 71 (by decide +kernel) (by decide +kernel)), (tw_k 0 6 (by decide +kernel) (by decide +kernel)), by decide, by decide, by decide, by decide +kernel⟩
theorem mw_X9_passNumberAfter : MW M_X9_passNumberAfter 3 := ⟨(tw_k 2 61 (by decide +kernel) (by decide +kernel)), (tw_k 0 6 (by decide +kernel) (by decide +kernel)), by decide, by decide, by decide, by decide +kernel⟩
theorem mw_X9_passSign : MW M_X9_passSign 1 := ⟨(tw_k 2 79 (by decide +kernel) (by decide +kernel)), (tw_k 0 6 (by decide +kernel) (by decide +kernel)), by decide, by decide, by decide, by decide +kernel⟩
theorem mw_X9_passWord : MW M_X9_passWord 1 := ⟨(tw_k 2 65 (by decide +kernel) (by decide +kernel)), (tw_k 0 6 (by decide +kernel) (by decide +kernel)), by decide, by decide, by decide, by decide +kernel⟩
theorem fl_RJx4a65c_48 : FLo RJx4a65c 0 2 48 := ⟨(RJx4a65c, TJx4a65c, 3), "java/util/ArrayList", rfl, by decide, (tw_k 0 53 (by decide +kernel) (by decide +kernel)), Or.inl rfl⟩
theorem fl_RJx4a65c_63 : FLo RJx4a65c 0 0 63 := ⟨(RJx4a65c, TJx4a65c, 3), "java/util/ArrayList", rfl, by decide, (tw_k 0 55 (by decide +kernel) (by decide +kernel)), Or.inr (tw_k 0 56 (by decide +kernel) (by decide +kernel))⟩
theorem fl_RJx4a65c_9 : FLo RJx4a65c 0 1 9 := ⟨(RJx4a65c, TJx4a65c, 3), "java/util/ArrayList", rfl, by decide, (tw_k 0 52 (by decide +kernel) (by decide +kernel)), Or.inl rfl⟩
theorem fl_RJxc12de_7 : FLo RJxc12de 0 0 7 := ⟨(RJx4a65c, TJx4a65c, 3), "java/util/AbstractList", rfl, by decide, (tw_k 0 54 (by decide +kernel) (by decide +kernel)), Or.inl rfl⟩
theorem fl_RX0_12 : FLo RX0 1 1 12 := ⟨(RX0, TX0, 2), "ExtrasOffice$Agreement", rfl, by decide, (tw_k 2 158 (by decide +kernel) (by decide +kernel)), Or.inl rfl⟩
theorem fl_RX0_18 : FLo RX0 1 0 18 := ⟨(RX0, TX0, 2), "ExtrasOffice$Agreement", rfl, by decide, (tw_k 2 155 (by decide +kernel) (by decide +kernel)), Or.inl rfl⟩
theorem fl_RX0_40 : FLo RX0 9 0 40 := ⟨(RX8, TX8, 4), "ExtrasOffice$Term", rfl, by decide, (tw_k 2 185 (by decide +kernel) (by decide +kernel)), Or.inl rfl⟩
theorem fl_RX10_15 : FLo RX10 11 1 15 := ⟨(RX10, TX10, 9), "ExtrasOffice$Turn", rfl, by decide, (tw_k 3 100 (by decide +kernel) (by decide +kernel)), Or.inl rfl⟩
theorem fl_RX10_19 : FLo RX10 11 2 19 := ⟨(RX10, TX10, 9), "ExtrasOffice$Turn", rfl, by decide, (tw_k 3 102 (by decide +kernel) (by decide +kernel)), Or.inl rfl⟩
theorem fl_RX10_23 : FLo RX10 2 1 23 := ⟨(RX1, TX1, 9), "ExtrasOffice$Ask", rfl, by decide, (tw_k 2 15 (by decide +kernel) (by decide +kernel)), Or.inl rfl⟩
theorem fl_RX10_28 : FLo RX10 11 3 28 := ⟨(RX10, TX10, 9), "ExtrasOffice$Turn", rfl, by decide, (tw_k 3 104 (by decide +kernel) (by decide +kernel)), Or.inl rfl⟩
theorem fl_RX10_29 : FLo RX10 2 7 29 := ⟨(RX1, TX1, 9), "ExtrasOffice$Ask", rfl, by decide, (tw_k 2 31 (by decide +kernel) (by decide +kernel)), Or.inl rfl⟩
theorem fl_RX10_32 : FLo RX10 11 6 32 := ⟨(RX10, TX10, 9), "ExtrasOffice$Turn", rfl, by decide, (tw_k 3 110 (by decide +kernel) (by decide +kernel)), Or.inl rfl⟩
theorem fl_RX10_33 : FLo RX10 2 3 33 := ⟨(RX1, TX1, 9), "ExtrasOffice$Ask", rfl, by decide, (tw_k 2 21 (by decide +kernel) (by decide +kernel)), Or.inl rfl⟩
theorem fl_RX10_36 : FLo RX10 11 7 36 := ⟨(RX10, TX10, 9), "ExtrasOffice$Turn", rfl, by decide, (tw_k 3 111 (by decide +kernel) (by decide +kernel)), Or.inl rfl⟩
theorem fl_RX10_39 : FLo RX10 11 8 39 := ⟨(RX10, TX10, 9), "ExtrasOffice$Turn", rfl, by decide, (tw_k 3 113 (by decide +kernel) (by decide +kernel)), Or.inl rfl⟩
theorem fl_RX10_43 : FLo RX10 6 7 43 := ⟨(RX5, TX5, 12), "ExtrasOffice$Person", rfl, by decide, (tw_k 1 21 (by decide +kernel) (by decide +kernel)), Or.inl rfl⟩
theorem fl_RX10_48 : FLo RX10 6 8 48 := ⟨(RX5, TX5, 12), "ExtrasOffice$Person", rfl, by decide, (tw_k 1 24 (by decide +kernel) (by decide +kernel)), Or.inl rfl⟩
theorem fl_RX10_51 : FLo RX10 11 4 51 := ⟨(RX10, TX10, 9), "ExtrasOffice$Turn", rfl, by decide, (tw_k 3 107 (by decide +kernel) (by decide +kernel)), Or.inl rfl⟩
theorem fl_RX10_60 : FLo RX10 11 5 60 := ⟨(RX10, TX10, 9), "ExtrasOffice$Turn", rfl, by decide, (tw_k 3 108 (by decide +kernel) (by decide +kernel)), Or.inl rfl⟩
theorem fl_RX10_63 : FLo RX10 1 0 63 := ⟨(RX0, TX0, 2), "ExtrasOffice$Agreement", rfl, by decide, (tw_k 2 156 (by decide +kernel) (by decide +kernel)), Or.inl rfl⟩
theorem fl_RX10_9 : FLo RX10 11 0 9 := ⟨(RX10, TX10, 9), "ExtrasOffice$Turn", rfl, by decide, (tw_k 3 97 (by decide +kernel) (by decide +kernel)), Or.inl rfl⟩
theorem fl_RX11_10 : FLo RX11 12 0 10 := ⟨(RX11, TX11, 11), "ExtrasOffice", rfl, by decide, (tw_k 0 191 (by decide +kernel) (by decide +kernel)), Or.inl rfl⟩
theorem fl_RX11_101 : FLo RX11 6 6 101 := ⟨(RX5, TX5, 12), "ExtrasOffice$Person", rfl, by decide, (tw_k 1 18 (by decide +kernel) (by decide +kernel)), Or.inl rfl⟩
theorem fl_RX11_105 : FLo RX11 8 1 105 := ⟨(RX7, TX7, 2), "ExtrasOffice$Row", rfl, by decide, (tw_k 0 76 (by decide +kernel) (by decide +kernel)), Or.inl rfl⟩
theorem fl_RX11_115 : FLo RX11 10 0 115 := ⟨(RX9, TX9, 7), "ExtrasOffice$Tokens", rfl, by decide, (tw_k 0 91 (by decide +kernel) (by decide +kernel)), Or.inl rfl⟩
theorem fl_RX11_128 : FLo RX11 1 0 128 := ⟨(RX0, TX0, 2), "ExtrasOffice$Agreement", rfl, by decide, (tw_k 2 157 (by decide +kernel) (by decide +kernel)), Or.inl rfl⟩
theorem fl_RX11_131 : FLo RX11 10 1 131 := ⟨(RX9, TX9, 7), "ExtrasOffice$Tokens", rfl, by decide, (tw_k 0 93 (by decide +kernel) (by decide +kernel)), Or.inl rfl⟩
theorem fl_RX11_143 : FLo RX11 12 10 143 := ⟨(RX11, TX11, 11), "ExtrasOffice", rfl, by decide, (tw_k 0 201 (by decide +kernel) (by decide +kernel)), Or.inl rfl⟩
theorem fl_RX11_150 : FLo RX11 7 0 150 := ⟨(RX6, TX6, 4), "ExtrasOffice$Plan", rfl, by decide, (tw_k 0 158 (by decide +kernel) (by decide +kernel)), Or.inl rfl⟩
theorem fl_RX11_161 : FLo RX11 2 0 161 := ⟨(RX1, TX1, 9), "ExtrasOffice$Ask", rfl, by decide, (tw_k 2 14 (by decide +kernel) (by decide +kernel)), Or.inl rfl⟩
theorem fl_RX11_170 : FLo RX11 7 1 170 := ⟨(RX6, TX6, 4), "ExtrasOffice$Plan", rfl, by decide, (tw_k 0 160 (by decide +kernel) (by decide +kernel)), Or.inl rfl⟩
theorem fl_RX11_200 : FLo RX11 5 2 200 := ⟨(RX4, TX4, 3), "ExtrasOffice$Facts", rfl, by decide, (tw_k 0 139 (by decide +kernel) (by decide +kernel)), Or.inl rfl⟩
theorem fl_RX11_21 : FLo RX11 12 1 21 := ⟨(RX11, TX11, 11), "ExtrasOffice", rfl, by decide, (tw_k 0 192 (by decide +kernel) (by decide +kernel)), Or.inl rfl⟩
theorem fl_RX11_222 : FLo RX11 6 8 222 := ⟨(RX5, TX5, 12), "ExtrasOffice$Person", rfl, by decide, (tw_k 1 27 (by decide +kernel) (by decide +kernel)), Or.inl rfl⟩
theorem fl_RX11_230 : FLo RX11 6 4 230 := ⟨(RX5, TX5, 12), "ExtrasOffice$Person", rfl, by decide, (tw_k 1 15 (by decide +kernel) (by decide +kernel)), Or.inl rfl⟩
theorem fl_RX11_235 : FLo RX11 11 0 235 := ⟨(RX10, TX10, 9), "ExtrasOffice$Turn", rfl, by decide, (tw_k 3 99 (by decide +kernel) (by decide +kernel)), Or.inl rfl⟩
theorem fl_RX11_239 : FLo RX11 6 0 239 := ⟨(RX5, TX5, 12), "ExtrasOffice$Person", rfl, by decide, (tw_k 1 6 (by decide +kernel) (by decide +kernel)), Or.inl rfl⟩
theorem fl_RX11_240 : FLo RX11 11 1 240 := ⟨(RX10, TX10, 9), "ExtrasOffice$Turn", rfl, by decide, (tw_k 3 101 (by decide +kernel) (by decide +kernel)), Or.inl rfl⟩
theorem fl_RX11_244 : FLo RX11 4 0 244 := ⟨(RX3, TX3, 3), "ExtrasOffice$Dressing", rfl, by decide, (tw_k 0 181 (by decide +kernel) (by decide +kernel)), Or.inl rfl⟩
theorem fl_RX11_251 : FLo RX11 11 3 251 := ⟨(RX10, TX10, 9), "ExtrasOffice$Turn", rfl, by decide, (tw_k 3 105 (by decide +kernel) (by decide +kernel)), Or.inl rfl⟩
theorem fl_RX11_254 : FLo RX11 11 7 254 := ⟨(RX10, TX10, 9), "ExtrasOffice$Turn", rfl, by decide, (tw_k 3 112 (by decide +kernel) (by decide +kernel)), Or.inl rfl⟩
theorem fl_RX11_30 : FLo RX11 12 2 30 := ⟨(RX11, TX11, 11), "ExtrasOffice", rfl, by decide, (tw_k 0 193 (by decide +kernel) (by decide +kernel)), Or.inl rfl⟩
theorem fl_RX11_39 : FLo RX11 12 3 39 := ⟨(RX11, TX11, 11), "ExtrasOffice", rfl, by decide, (tw_k 0 194 (by decide +kernel) (by decide +kernel)), Or.inl rfl⟩
theorem fl_RX11_43 : FLo RX11 12 4 43 := ⟨(RX11, TX11, 11), "ExtrasOffice", rfl, by decide, (tw_k 0 195 (by decide +kernel) (by decide +kernel)), Or.inl rfl⟩
theorem fl_RX11_49 : FLo RX11 12 5 49 := ⟨(RX11, TX11, 11), "ExtrasOffice", rfl, by decide, (tw_k 0 196 (by decide +kernel) (by decide +kernel)), Or.inl rfl⟩
theorem fl_RX11_58 : FLo RX11 12 6 58 := ⟨(RX11, TX11, 11), "ExtrasOffice", rfl, by decide, (tw_k 0 197 (by decide +kernel) (by decide +kernel)), Or.inl rfl⟩
theorem fl_RX11_65 : FLo RX11 12 7 65 := ⟨(RX11, TX11, 11), "ExtrasOffice", rfl, by decide, (tw_k 0 198 (by decide +kernel) (by decide +kernel)), Or.inl rfl⟩
theorem fl_RX11_69 : FLo RX11 12 8 69 := ⟨(RX11, TX11, 11), "ExtrasOffice", rfl, by decide, (tw_k 0 199 (by decide +kernel) (by decide +kernel)), Or.inl rfl⟩
theorem fl_RX11_72 : FLo RX11 12 9 72 := ⟨(RX11, TX11, 11), "ExtrasOffice", rfl, by decide, (tw_k 0 200 (by decide +kernel) (by decide +kernel)), Or.inl rfl⟩
theorem fl_RX11_97 : FLo RX11 6 11 97 := ⟨(RX5, TX5, 12), "ExtrasOffice$Person", rfl, by decide, (tw_k 1 33 (by decide +kernel) (by decide +kernel)), Or.inl rfl⟩
theorem fl_RX12_1 : FLo RX12 13 0 1 := ⟨(RX12, TX12, 68), "ExtrasOfficeModel", rfl, by decide, (tw_k 4 98 (by decide +kernel) (by decide +kernel)), Or.inl rfl⟩
theorem fl_RX12_100 : FLo RX12 13 47 100 := ⟨(RX12, TX12, 68), "ExtrasOfficeModel", rfl, by decide, (tw_k 4 145 (by decide +kernel) (by decide +kernel)), Or.inl rfl⟩
theorem fl_RX12_103 : FLo RX12 13 50 103 := ⟨(RX12, TX12, 68), "ExtrasOfficeModel", rfl, by decide, (tw_k 4 148 (by decide +kernel) (by decide +kernel)), Or.inl rfl⟩
theorem fl_RX12_106 : FLo RX12 13 51 106 := ⟨(RX12, TX12, 68), "ExtrasOfficeModel", rfl, by decide, (tw_k 4 149 (by decide +kernel) (by decide +kernel)), Or.inl rfl⟩
theorem fl_RX12_109 : FLo RX12 13 52 109 := ⟨(RX12, TX12, 68), "ExtrasOfficeModel", rfl, by decide, (tw_k 4 150 (by decide +kernel) (by decide +kernel)), Or.inl rfl⟩
theorem fl_RX12_112 : FLo RX12 13 53 112 := ⟨(RX12, TX12, 68), "ExtrasOfficeModel", rfl, by decide, (tw_k 4 151 (by decide +kernel) (by decide +kernel)), Or.inl rfl⟩
theorem fl_RX12_115 : FLo RX12 13 54 115 := ⟨(RX12, TX12, 68), "ExtrasOfficeModel", rfl, by decide, (tw_k 4 152 (by decide +kernel) (by decide +kernel)), Or.inl rfl⟩
theorem fl_RX12_118 : FLo RX12 13 56 118 := ⟨(RX12, TX12, 68), "ExtrasOfficeModel", rfl, by decide, (tw_k 4 154 (by decide +kernel) (by decide +kernel)), Or.inl rfl⟩
theorem fl_RX12_121 : FLo RX12 13 57 121 := ⟨(RX12, TX12, 68), "ExtrasOfficeModel", rfl, by decide, (tw_k 4 155 (by decide +kernel) (by decide +kernel)), Or.inl rfl⟩
theorem fl_RX12_124 : FLo RX12 13 58 124 := ⟨(RX12, TX12, 68), "ExtrasOfficeModel", rfl, by decide, (tw_k 4 156 (by decide +kernel) (by decide +kernel)), Or.inl rfl⟩
theorem fl_RX12_127 : FLo RX12 13 59 127 := ⟨(RX12, TX12, 68), "ExtrasOfficeModel", rfl, by decide, (tw_k 4 157 (by decide +kernel) (by decide +kernel)), Or.inl rfl⟩
theorem fl_RX12_13 : FLo RX12 13 3 13 := ⟨(RX12, TX12, 68), "ExtrasOfficeModel", rfl, by decide, (tw_k 4 101 (by decide +kernel) (by decide +kernel)), Or.inl rfl⟩
theorem fl_RX12_130 : FLo RX12 13 60 130 := ⟨(RX12, TX12, 68), "ExtrasOfficeModel", rfl, by decide, (tw_k 4 158 (by decide +kernel) (by decide +kernel)), Or.inl rfl⟩
theorem fl_RX12_133 : FLo RX12 13 61 133 := ⟨(RX12, TX12, 68), "ExtrasOfficeModel", rfl, by decide, (tw_k 4 159 (by decide +kernel) (by decide +kernel)), Or.inl rfl⟩
theorem fl_RX12_136 : FLo RX12 13 62 136 := ⟨(RX12, TX12, 68), "ExtrasOfficeModel", rfl, by decide, (tw_k 4 160 (by decide +kernel) (by decide +kernel)), Or.inl rfl⟩
theorem fl_RX12_139 : FLo RX12 13 63 139 := ⟨(RX12, TX12, 68), "ExtrasOfficeModel", rfl, by decide, (tw_k 4 161 (by decide +kernel) (by decide +kernel)), Or.inl rfl⟩
theorem fl_RX12_142 : FLo RX12 13 64 142 := ⟨(RX12, TX12, 68), "ExtrasOfficeModel", rfl, by decide, (tw_k 4 162 (by decide +kernel) (by decide +kernel)), Or.inl rfl⟩
theorem fl_RX12_145 : FLo RX12 13 65 145 := ⟨(RX12, TX12, 68), "ExtrasOfficeModel", rfl, by decide, (tw_k 4 163 (by decide +kernel) (by decide +kernel)), Or.inl rfl⟩
theorem fl_RX12_148 : FLo RX12 13 66 148 := ⟨(RX12, TX12, 68), "ExtrasOfficeModel", rfl, by decide, (tw_k 4 164 (by decide +kernel) (by decide +kernel)), Or.inl rfl⟩
theorem fl_RX12_151 : FLo RX12 13 1 151 := ⟨(RX12, TX12, 68), "ExtrasOfficeModel", rfl, by decide, (tw_k 4 99 (by decide +kernel) (by decide +kernel)), Or.inl rfl⟩
theorem fl_RX12_163 : FLo RX12 13 12 163 := ⟨(RX12, TX12, 68), "ExtrasOfficeModel", rfl, by decide, (tw_k 4 110 (by decide +kernel) (by decide +kernel)), Or.inl rfl⟩
theorem fl_RX12_166 : FLo RX12 13 13 166 := ⟨(RX12, TX12, 68), "ExtrasOfficeModel", rfl, by decide, (tw_k 4 111 (by decide +kernel) (by decide +kernel)), Or.inl rfl⟩
theorem fl_RX12_17 : FLo RX12 13 4 17 := ⟨(RX12, TX12, 68), "ExtrasOfficeModel", rfl, by decide, (tw_k 4 102 (by decide +kernel) (by decide +kernel)), Or.inl rfl⟩
theorem fl_RX12_177 : FLo RX12 13 17 177 := ⟨(RX12, TX12, 68), "ExtrasOfficeModel", rfl, by decide, (tw_k 4 115 (by decide +kernel) (by decide +kernel)), Or.inl rfl⟩
theorem fl_RX12_180 : FLo RX12 13 19 180 := ⟨(RX12, TX12, 68), "ExtrasOfficeModel", rfl, by decide, (tw_k 4 117 (by decide +kernel) (by decide +kernel)), Or.inl rfl⟩
theorem fl_RX12_183 : FLo RX12 13 18 183 := ⟨(RX12, TX12, 68), "ExtrasOfficeModel", rfl, by decide, (tw_k 4 116 (by decide +kernel) (by decide +kernel)), Or.inl rfl⟩
theorem fl_RX12_186 : FLo RX12 13 20 186 := ⟨(RX12, TX12, 68), "ExtrasOfficeModel", rfl, by decide, (tw_k 4 118 (by decide +kernel) (by decide +kernel)), Or.inl rfl⟩
theorem fl_RX12_189 : FLo RX12 13 21 189 := ⟨(RX12, TX12, 68), "ExtrasOfficeModel", rfl, by decide, (tw_k 4 119 (by decide +kernel) (by decide +kernel)), Or.inl rfl⟩
theorem fl_RX12_192 : FLo RX12 13 22 192 := ⟨(RX12, TX12, 68), "ExtrasOfficeModel", rfl, by decide, (tw_k 4 120 (by decide +kernel) (by decide +kernel)), Or.inl rfl⟩
theorem fl_RX12_20 : FLo RX12 13 5 20 := ⟨(RX12, TX12, 68), "ExtrasOfficeModel", rfl, by decide, (tw_k 4 103 (by decide +kernel) (by decide +kernel)), Or.inl rfl⟩
theorem fl_RX12_205 : FLo RX12 13 23 205 := ⟨(RX12, TX12, 68), "ExtrasOfficeModel", rfl, by decide, (tw_k 4 121 (by decide +kernel) (by decide +kernel)), Or.inl rfl⟩
theorem fl_RX12_221 : FLo RX12 13 24 221 := ⟨(RX12, TX12, 68), "ExtrasOfficeModel", rfl, by decide, (tw_k 4 122 (by decide +kernel) (by decide +kernel)), Or.inl rfl⟩
theorem fl_RX12_224 : FLo RX12 13 25 224 := ⟨(RX12, TX12, 68), "ExtrasOfficeModel", rfl, by decide, (tw_k 4 123 (by decide +kernel) (by decide +kernel)), Or.inl rfl⟩
theorem fl_RX12_23 : FLo RX12 13 6 23 := ⟨(RX12, TX12, 68), "ExtrasOfficeModel", rfl, by decide, (tw_k 4 104 (by decide +kernel) (by decide +kernel)), Or.inl rfl⟩
theorem fl_RX12_26 : FLo RX12 13 7 26 := ⟨(RX12, TX12, 68), "ExtrasOfficeModel", rfl, by decide, (tw_k 4 105 (by decide +kernel) (by decide +kernel)), Or.inl rfl⟩
theorem fl_RX12_263 : FLo RX12 13 27 263 := ⟨(RX12, TX12, 68), "ExtrasOfficeModel", rfl, by decide, (tw_k 4 125 (by decide +kernel) (by decide +kernel)), Or.inl rfl⟩
theorem fl_RX12_267 : FLo RX12 13 28 267 := ⟨(RX12, TX12, 68), "ExtrasOfficeModel", rfl, by decide, (tw_k 4 126 (by decide +kernel) (by decide +kernel)), Or.inl rfl⟩
theorem fl_RX12_277 : FLo RX12 13 37 277 := ⟨(RX12, TX12, 68), "ExtrasOfficeModel", rfl, by decide, (tw_k 4 135 (by decide +kernel) (by decide +kernel)), Or.inl rfl⟩
theorem fl_RX12_29 : FLo RX12 13 8 29 := ⟨(RX12, TX12, 68), "ExtrasOfficeModel", rfl, by decide, (tw_k 4 106 (by decide +kernel) (by decide +kernel)), Or.inl rfl⟩
theorem fl_RX12_295 : FLo RX12 13 31 295 := ⟨(RX12, TX12, 68), "ExtrasOfficeModel", rfl, by decide, (tw_k 4 129 (by decide +kernel) (by decide +kernel)), Or.inl rfl⟩
theorem fl_RX12_298 : FLo RX12 13 29 298 := ⟨(RX12, TX12, 68), "ExtrasOfficeModel", rfl, by decide, (tw_k 4 127 (by decide +kernel) (by decide +kernel)), Or.inl rfl⟩
theorem fl_RX12_304 : FLo RX12 13 2 304 := ⟨(RX12, TX12, 68), "ExtrasOfficeModel", rfl, by decide, (tw_k 4 100 (by decide +kernel) (by decide +kernel)), Or.inl rfl⟩
theorem fl_RX12_33 : FLo RX12 13 9 33 := ⟨(RX12, TX12, 68), "ExtrasOfficeModel", rfl, by decide, (tw_k 4 107 (by decide +kernel) (by decide +kernel)), Or.inl rfl⟩
theorem fl_RX12_334 : FLo RX12 13 48 334 := ⟨(RX12, TX12, 68), "ExtrasOfficeModel", rfl, by decide, (tw_k 4 146 (by decide +kernel) (by decide +kernel)), Or.inl rfl⟩
theorem fl_RX12_345 : FLo RX12 13 49 345 := ⟨(RX12, TX12, 68), "ExtrasOfficeModel", rfl, by decide, (tw_k 4 147 (by decide +kernel) (by decide +kernel)), Or.inl rfl⟩
theorem fl_RX12_36 : FLo RX12 13 10 36 := ⟨(RX12, TX12, 68), "ExtrasOfficeModel", rfl, by decide, (tw_k 4 108 (by decide +kernel) (by decide +kernel)), Or.inl rfl⟩
theorem fl_RX12_375 : FLo RX12 13 55 375 := ⟨(RX12, TX12, 68), "ExtrasOfficeModel", rfl, by decide, (tw_k 4 153 (by decide +kernel) (by decide +kernel)), Or.inl rfl⟩
theorem fl_RX12_384 : FLo RX12 13 67 384 := ⟨(RX12, TX12, 68), "ExtrasOfficeModel", rfl, by decide, (tw_k 4 165 (by decide +kernel) (by decide +kernel)), Or.inl rfl⟩
theorem fl_RX12_39 : FLo RX12 13 11 39 := ⟨(RX12, TX12, 68), "ExtrasOfficeModel", rfl, by decide, (tw_k 4 109 (by decide +kernel) (by decide +kernel)), Or.inl rfl⟩
theorem fl_RX12_42 : FLo RX12 13 14 42 := ⟨(RX12, TX12, 68), "ExtrasOfficeModel", rfl, by decide, (tw_k 4 112 (by decide +kernel) (by decide +kernel)), Or.inl rfl⟩
theorem fl_RX12_45 : FLo RX12 13 15 45 := ⟨(RX12, TX12, 68), "ExtrasOfficeModel", rfl, by decide, (tw_k 4 113 (by decide +kernel) (by decide +kernel)), Or.inl rfl⟩
theorem fl_RX12_48 : FLo RX12 13 16 48 := ⟨(RX12, TX12, 68), "ExtrasOfficeModel", rfl, by decide, (tw_k 4 114 (by decide +kernel) (by decide +kernel)), Or.inl rfl⟩
theorem fl_RX12_52 : FLo RX12 13 26 52 := ⟨(RX12, TX12, 68), "ExtrasOfficeModel", rfl, by decide, (tw_k 4 124 (by decide +kernel) (by decide +kernel)), Or.inl rfl⟩
theorem fl_RX12_55 : FLo RX12 13 30 55 := ⟨(RX12, TX12, 68), "ExtrasOfficeModel", rfl, by decide, (tw_k 4 128 (by decide +kernel) (by decide +kernel)), Or.inl rfl⟩
theorem fl_RX12_58 : FLo RX12 13 32 58 := ⟨(RX12, TX12, 68), "ExtrasOfficeModel", rfl, by decide, (tw_k 4 130 (by decide +kernel) (by decide +kernel)), Or.inl rfl⟩
theorem fl_RX12_61 : FLo RX12 13 33 61 := ⟨(RX12, TX12, 68), "ExtrasOfficeModel", rfl, by decide, (tw_k 4 131 (by decide +kernel) (by decide +kernel)), Or.inl rfl⟩
theorem fl_RX12_64 : FLo RX12 13 34 64 := ⟨(RX12, TX12, 68), "ExtrasOfficeModel", rfl, by decide, (tw_k 4 132 (by decide +kernel) (by decide +kernel)), Or.inl rfl⟩
theorem fl_RX12_67 : FLo RX12 13 35 67 := ⟨(RX12, TX12, 68), "ExtrasOfficeModel", rfl, by decide, (tw_k 4 133 (by decide +kernel) (by decide +kernel)), Or.inl rfl⟩
theorem fl_RX12_70 : FLo RX12 13 36 70 := ⟨(RX12, TX12, 68), "ExtrasOfficeModel", rfl, by decide, (tw_k 4 134 (by decide +kernel) (by decide +kernel)), Or.inl rfl⟩
theorem fl_RX12_73 : FLo RX12 13 38 73 := ⟨(RX12, TX12, 68), "ExtrasOfficeModel", rfl, by decide, (tw_k 4 136 (by decide +kernel) (by decide +kernel)), Or.inl rfl⟩
theorem fl_RX12_76 : FLo RX12 13 39 76 := ⟨(RX12, TX12, 68), "ExtrasOfficeModel", rfl, by decide, (tw_k 4 137 (by decide +kernel) (by decide +kernel)), Or.inl rfl⟩
theorem fl_RX12_79 : FLo RX12 13 40 79 := ⟨(RX12, TX12, 68), "ExtrasOfficeModel", rfl, by decide, (tw_k 4 138 (by decide +kernel) (by decide +kernel)), Or.inl rfl⟩
theorem fl_RX12_82 : FLo RX12 13 41 82 := ⟨(RX12, TX12, 68), "ExtrasOfficeModel", rfl, by decide, (tw_k 4 139 (by decide +kernel) (by decide +kernel)), Or.inl rfl⟩
theorem fl_RX12_85 : FLo RX12 13 42 85 := ⟨(RX12, TX12, 68), "ExtrasOfficeModel", rfl, by decide, (tw_k 4 140 (by decide +kernel) (by decide +kernel)), Or.inl rfl⟩
theorem fl_RX12_88 : FLo RX12 13 43 88 := ⟨(RX12, TX12, 68), "ExtrasOfficeModel", rfl, by decide, (tw_k 4 141 (by decide +kernel) (by decide +kernel)), Or.inl rfl⟩
theorem fl_RX12_91 : FLo RX12 13 44 91 := ⟨(RX12, TX12, 68), "ExtrasOfficeModel", rfl, by decide, (tw_k 4 142 (by decide +kernel) (by decide +kernel)), Or.inl rfl⟩
theorem fl_RX12_94 : FLo RX12 13 45 94 := ⟨(RX12, TX12, 68), "ExtrasOfficeModel", rfl, by decide, (tw_k 4 143 (by decide +kernel) (by decide +kernel)), Or.inl rfl⟩
theorem fl_RX12_97 : FLo RX12 13 46 97 := ⟨(RX12, TX12, 68), "ExtrasOfficeModel", rfl, by decide, (tw_k 4 144 (by decide +kernel) (by decide +kernel)), Or.inl rfl⟩
theorem fl_RX1_15 : FLo RX1 2 0 15 := ⟨(RX1, TX1, 9), "ExtrasOffice$Ask", rfl, by decide, (tw_k 2 11 (by decide +kernel) (by decide +kernel)), Or.inl rfl⟩
theorem fl_RX1_22 : FLo RX1 8 1 22 := ⟨(RX7, TX7, 2), "ExtrasOffice$Row", rfl, by decide, (tw_k 0 74 (by decide +kernel) (by decide +kernel)), Or.inl rfl⟩
theorem fl_RX1_37 : FLo RX1 6 6 37 := ⟨(RX5, TX5, 12), "ExtrasOffice$Person", rfl, by decide, (tw_k 1 19 (by decide +kernel) (by decide +kernel)), Or.inl rfl⟩
theorem fl_RX1_43 : FLo RX1 6 8 43 := ⟨(RX5, TX5, 12), "ExtrasOffice$Person", rfl, by decide, (tw_k 1 25 (by decide +kernel) (by decide +kernel)), Or.inl rfl⟩
theorem fl_RX1_46 : FLo RX1 2 2 46 := ⟨(RX1, TX1, 9), "ExtrasOffice$Ask", rfl, by decide, (tw_k 2 20 (by decide +kernel) (by decide +kernel)), Or.inl rfl⟩
theorem fl_RX1_60 : FLo RX1 6 3 60 := ⟨(RX5, TX5, 12), "ExtrasOffice$Person", rfl, by decide, (tw_k 1 12 (by decide +kernel) (by decide +kernel)), Or.inl rfl⟩
theorem fl_RX1_63 : FLo RX1 6 4 63 := ⟨(RX5, TX5, 12), "ExtrasOffice$Person", rfl, by decide, (tw_k 1 14 (by decide +kernel) (by decide +kernel)), Or.inl rfl⟩
theorem fl_RX1_70 : FLo RX1 6 1 70 := ⟨(RX5, TX5, 12), "ExtrasOffice$Person", rfl, by decide, (tw_k 1 8 (by decide +kernel) (by decide +kernel)), Or.inl rfl⟩
theorem fl_RX1_73 : FLo RX1 6 2 73 := ⟨(RX5, TX5, 12), "ExtrasOffice$Person", rfl, by decide, (tw_k 1 10 (by decide +kernel) (by decide +kernel)), Or.inl rfl⟩
theorem fl_RX1_76 : FLo RX1 2 1 76 := ⟨(RX1, TX1, 9), "ExtrasOffice$Ask", rfl, by decide, (tw_k 2 17 (by decide +kernel) (by decide +kernel)), Or.inl rfl⟩
theorem fl_RX1_79 : FLo RX1 2 3 79 := ⟨(RX1, TX1, 9), "ExtrasOffice$Ask", rfl, by decide, (tw_k 2 23 (by decide +kernel) (by decide +kernel)), Or.inl rfl⟩
theorem fl_RX1_82 : FLo RX1 2 4 82 := ⟨(RX1, TX1, 9), "ExtrasOffice$Ask", rfl, by decide, (tw_k 2 25 (by decide +kernel) (by decide +kernel)), Or.inl rfl⟩
theorem fl_RX1_85 : FLo RX1 2 6 85 := ⟨(RX1, TX1, 9), "ExtrasOffice$Ask", rfl, by decide, (tw_k 2 30 (by decide +kernel) (by decide +kernel)), Or.inl rfl⟩
theorem fl_RX1_9 : FLo RX1 2 5 9 := ⟨(RX1, TX1, 9), "ExtrasOffice$Ask", rfl, by decide, (tw_k 2 27 (by decide +kernel) (by decide +kernel)), Or.inl rfl⟩
theorem fl_RX2_14 : FLo RX2 3 1 14 := ⟨(RX2, TX2, 2), "ExtrasOffice$AskReader", rfl, by decide, (tw_k 0 123 (by decide +kernel) (by decide +kernel)), Or.inl rfl⟩
theorem fl_RX2_20 : FLo RX2 3 0 20 := ⟨(RX2, TX2, 2), "ExtrasOffice$AskReader", rfl, by decide, (tw_k 0 122 (by decide +kernel) (by decide +kernel)), Or.inl rfl⟩
theorem fl_RX2_49 : FLo RX2 8 1 49 := ⟨(RX7, TX7, 2), "ExtrasOffice$Row", rfl, by decide, (tw_k 0 73 (by decide +kernel) (by decide +kernel)), Or.inl rfl⟩
theorem fl_RX2_76 : FLo RX2 2 1 76 := ⟨(RX1, TX1, 9), "ExtrasOffice$Ask", rfl, by decide, (tw_k 2 16 (by decide +kernel) (by decide +kernel)), Or.inl rfl⟩
theorem fl_RX2_80 : FLo RX2 2 2 80 := ⟨(RX1, TX1, 9), "ExtrasOffice$Ask", rfl, by decide, (tw_k 2 19 (by decide +kernel) (by decide +kernel)), Or.inl rfl⟩
theorem fl_RX2_85 : FLo RX2 2 3 85 := ⟨(RX1, TX1, 9), "ExtrasOffice$Ask", rfl, by decide, (tw_k 2 22 (by decide +kernel) (by decide +kernel)), Or.inl rfl⟩
theorem fl_RX2_90 : FLo RX2 2 4 90 := ⟨(RX1, TX1, 9), "ExtrasOffice$Ask", rfl, by decide, (tw_k 2 24 (by decide +kernel) (by decide +kernel)), Or.inl rfl⟩
theorem fl_RX3_12 : FLo RX3 4 0 12 := ⟨(RX3, TX3, 3), "ExtrasOffice$Dressing", rfl, by decide, (tw_k 0 180 (by decide +kernel) (by decide +kernel)), Or.inl rfl⟩
theorem fl_RX3_18 : FLo RX3 4 1 18 := ⟨(RX3, TX3, 3), "ExtrasOffice$Dressing", rfl, by decide, (tw_k 0 182 (by decide +kernel) (by decide +kernel)), Or.inl rfl⟩
theorem fl_RX3_21 : FLo RX3 4 2 21 := ⟨(RX3, TX3, 3), "ExtrasOffice$Dressing", rfl, by decide, (tw_k 0 183 (by decide +kernel) (by decide +kernel)), Or.inl rfl⟩
theorem fl_RX3_38 : FLo RX3 6 11 38 := ⟨(RX5, TX5, 12), "ExtrasOffice$Person", rfl, by decide, (tw_k 1 32 (by decide +kernel) (by decide +kernel)), Or.inl rfl⟩
theorem fl_RX3_51 : FLo RX3 2 2 51 := ⟨(RX1, TX1, 9), "ExtrasOffice$Ask", rfl, by decide, (tw_k 2 18 (by decide +kernel) (by decide +kernel)), Or.inl rfl⟩
theorem fl_RX3_57 : FLo RX3 11 4 57 := ⟨(RX10, TX10, 9), "ExtrasOffice$Turn", rfl, by decide, (tw_k 3 106 (by decide +kernel) (by decide +kernel)), Or.inl rfl⟩
theorem fl_RX3_81 : FLo RX3 11 0 81 := ⟨(RX10, TX10, 9), "ExtrasOffice$Turn", rfl, by decide, (tw_k 3 98 (by decide +kernel) (by decide +kernel)), Or.inl rfl⟩
theorem fl_RX3_85 : FLo RX3 6 5 85 := ⟨(RX5, TX5, 12), "ExtrasOffice$Person", rfl, by decide, (tw_k 1 17 (by decide +kernel) (by decide +kernel)), Or.inl rfl⟩
theorem fl_RX3_88 : FLo RX3 11 5 88 := ⟨(RX10, TX10, 9), "ExtrasOffice$Turn", rfl, by decide, (tw_k 3 109 (by decide +kernel) (by decide +kernel)), Or.inl rfl⟩
theorem fl_RX3_91 : FLo RX3 11 2 91 := ⟨(RX10, TX10, 9), "ExtrasOffice$Turn", rfl, by decide, (tw_k 3 103 (by decide +kernel) (by decide +kernel)), Or.inl rfl⟩
theorem fl_RX3_94 : FLo RX3 2 7 94 := ⟨(RX1, TX1, 9), "ExtrasOffice$Ask", rfl, by decide, (tw_k 2 32 (by decide +kernel) (by decide +kernel)), Or.inl rfl⟩
theorem fl_RX4_14 : FLo RX4 5 0 14 := ⟨(RX4, TX4, 3), "ExtrasOffice$Facts", rfl, by decide, (tw_k 0 137 (by decide +kernel) (by decide +kernel)), Or.inl rfl⟩
theorem fl_RX4_20 : FLo RX4 5 1 20 := ⟨(RX4, TX4, 3), "ExtrasOffice$Facts", rfl, by decide, (tw_k 0 138 (by decide +kernel) (by decide +kernel)), Or.inl rfl⟩
theorem fl_RX4_23 : FLo RX4 8 1 23 := ⟨(RX7, TX7, 2), "ExtrasOffice$Row", rfl, by decide, (tw_k 0 72 (by decide +kernel) (by decide +kernel)), Or.inl rfl⟩
theorem fl_RX4_27 : FLo RX4 6 0 27 := ⟨(RX5, TX5, 12), "ExtrasOffice$Person", rfl, by decide, (tw_k 1 4 (by decide +kernel) (by decide +kernel)), Or.inl rfl⟩
theorem fl_RX4_35 : FLo RX4 6 9 35 := ⟨(RX5, TX5, 12), "ExtrasOffice$Person", rfl, by decide, (tw_k 1 29 (by decide +kernel) (by decide +kernel)), Or.inl rfl⟩
theorem fl_RX5_15 : FLo RX5 6 1 15 := ⟨(RX5, TX5, 12), "ExtrasOffice$Person", rfl, by decide, (tw_k 1 7 (by decide +kernel) (by decide +kernel)), Or.inl rfl⟩
theorem fl_RX5_18 : FLo RX5 6 2 18 := ⟨(RX5, TX5, 12), "ExtrasOffice$Person", rfl, by decide, (tw_k 1 9 (by decide +kernel) (by decide +kernel)), Or.inl rfl⟩
theorem fl_RX5_21 : FLo RX5 6 3 21 := ⟨(RX5, TX5, 12), "ExtrasOffice$Person", rfl, by decide, (tw_k 1 11 (by decide +kernel) (by decide +kernel)), Or.inl rfl⟩
theorem fl_RX5_24 : FLo RX5 6 4 24 := ⟨(RX5, TX5, 12), "ExtrasOffice$Person", rfl, by decide, (tw_k 1 13 (by decide +kernel) (by decide +kernel)), Or.inl rfl⟩
theorem fl_RX5_27 : FLo RX5 6 5 27 := ⟨(RX5, TX5, 12), "ExtrasOffice$Person", rfl, by decide, (tw_k 1 16 (by decide +kernel) (by decide +kernel)), Or.inl rfl⟩
theorem fl_RX5_30 : FLo RX5 6 9 30 := ⟨(RX5, TX5, 12), "ExtrasOffice$Person", rfl, by decide, (tw_k 1 28 (by decide +kernel) (by decide +kernel)), Or.inl rfl⟩
theorem fl_RX5_33 : FLo RX5 6 10 33 := ⟨(RX5, TX5, 12), "ExtrasOffice$Person", rfl, by decide, (tw_k 1 30 (by decide +kernel) (by decide +kernel)), Or.inl rfl⟩
theorem fl_RX5_36 : FLo RX5 2 0 36 := ⟨(RX1, TX1, 9), "ExtrasOffice$Ask", rfl, by decide, (tw_k 2 12 (by decide +kernel) (by decide +kernel)), Or.inl rfl⟩
theorem fl_RX5_39 : FLo RX5 6 11 39 := ⟨(RX5, TX5, 12), "ExtrasOffice$Person", rfl, by decide, (tw_k 1 34 (by decide +kernel) (by decide +kernel)), Or.inl rfl⟩
theorem fl_RX5_43 : FLo RX5 2 6 43 := ⟨(RX1, TX1, 9), "ExtrasOffice$Ask", rfl, by decide, (tw_k 2 29 (by decide +kernel) (by decide +kernel)), Or.inl rfl⟩
theorem fl_RX5_46 : FLo RX5 6 6 46 := ⟨(RX5, TX5, 12), "ExtrasOffice$Person", rfl, by decide, (tw_k 1 20 (by decide +kernel) (by decide +kernel)), Or.inl rfl⟩
theorem fl_RX5_50 : FLo RX5 6 7 50 := ⟨(RX5, TX5, 12), "ExtrasOffice$Person", rfl, by decide, (tw_k 1 22 (by decide +kernel) (by decide +kernel)), Or.inl rfl⟩
theorem fl_RX5_53 : FLo RX5 6 8 53 := ⟨(RX5, TX5, 12), "ExtrasOffice$Person", rfl, by decide, (tw_k 1 26 (by decide +kernel) (by decide +kernel)), Or.inl rfl⟩
theorem fl_RX5_9 : FLo RX5 6 0 9 := ⟨(RX5, TX5, 12), "ExtrasOffice$Person", rfl, by decide, (tw_k 1 3 (by decide +kernel) (by decide +kernel)), Or.inl rfl⟩
theorem fl_RX6_101 : FLo RX6 8 1 101 := ⟨(RX7, TX7, 2), "ExtrasOffice$Row", rfl, by decide, (tw_k 0 77 (by decide +kernel) (by decide +kernel)), Or.inl rfl⟩
theorem fl_RX6_103 : FLo RX6 2 8 103 := ⟨(RX1, TX1, 9), "ExtrasOffice$Ask", rfl, by decide, (tw_k 2 33 (by decide +kernel) (by decide +kernel)), Or.inl rfl⟩
theorem fl_RX6_110 : FLo RX6 6 0 110 := ⟨(RX5, TX5, 12), "ExtrasOffice$Person", rfl, by decide, (tw_k 1 5 (by decide +kernel) (by decide +kernel)), Or.inl rfl⟩
theorem fl_RX6_12 : FLo RX6 7 0 12 := ⟨(RX6, TX6, 4), "ExtrasOffice$Plan", rfl, by decide, (tw_k 0 157 (by decide +kernel) (by decide +kernel)), Or.inl rfl⟩
theorem fl_RX6_23 : FLo RX6 7 1 23 := ⟨(RX6, TX6, 4), "ExtrasOffice$Plan", rfl, by decide, (tw_k 0 159 (by decide +kernel) (by decide +kernel)), Or.inl rfl⟩
theorem fl_RX6_27 : FLo RX6 7 2 27 := ⟨(RX6, TX6, 4), "ExtrasOffice$Plan", rfl, by decide, (tw_k 0 161 (by decide +kernel) (by decide +kernel)), Or.inl rfl⟩
theorem fl_RX6_40 : FLo RX6 2 6 40 := ⟨(RX1, TX1, 9), "ExtrasOffice$Ask", rfl, by decide, (tw_k 2 28 (by decide +kernel) (by decide +kernel)), Or.inl rfl⟩
theorem fl_RX6_53 : FLo RX6 6 10 53 := ⟨(RX5, TX5, 12), "ExtrasOffice$Person", rfl, by decide, (tw_k 1 31 (by decide +kernel) (by decide +kernel)), Or.inl rfl⟩
theorem fl_RX6_63 : FLo RX6 6 7 63 := ⟨(RX5, TX5, 12), "ExtrasOffice$Person", rfl, by decide, (tw_k 1 23 (by decide +kernel) (by decide +kernel)), Or.inl rfl⟩
theorem fl_RX6_73 : FLo RX6 6 11 73 := ⟨(RX5, TX5, 12), "ExtrasOffice$Person", rfl, by decide, (tw_k 1 35 (by decide +kernel) (by decide +kernel)), Or.inl rfl⟩
theorem fl_RX6_77 : FLo RX6 7 3 77 := ⟨(RX6, TX6, 4), "ExtrasOffice$Plan", rfl, by decide, (tw_k 0 162 (by decide +kernel) (by decide +kernel)), Or.inl rfl⟩
theorem fl_RX6_92 : FLo RX6 2 4 92 := ⟨(RX1, TX1, 9), "ExtrasOffice$Ask", rfl, by decide, (tw_k 2 26 (by decide +kernel) (by decide +kernel)), Or.inl rfl⟩
theorem fl_RX6_95 : FLo RX6 2 0 95 := ⟨(RX1, TX1, 9), "ExtrasOffice$Ask", rfl, by decide, (tw_k 2 13 (by decide +kernel) (by decide +kernel)), Or.inl rfl⟩
theorem fl_RX7_15 : FLo RX7 8 1 15 := ⟨(RX7, TX7, 2), "ExtrasOffice$Row", rfl, by decide, (tw_k 0 71 (by decide +kernel) (by decide +kernel)), Or.inl rfl⟩
theorem fl_RX7_9 : FLo RX7 8 0 9 := ⟨(RX7, TX7, 2), "ExtrasOffice$Row", rfl, by decide, (tw_k 0 70 (by decide +kernel) (by decide +kernel)), Or.inl rfl⟩
theorem fl_RX8_34 : FLo RX8 9 2 34 := ⟨(RX8, TX8, 4), "ExtrasOffice$Term", rfl, by decide, (tw_k 2 187 (by decide +kernel) (by decide +kernel)), Or.inl rfl⟩
theorem fl_RX8_37 : FLo RX8 9 1 37 := ⟨(RX8, TX8, 4), "ExtrasOffice$Term", rfl, by decide, (tw_k 2 186 (by decide +kernel) (by decide +kernel)), Or.inl rfl⟩
theorem fl_RX8_48 : FLo RX8 9 3 48 := ⟨(RX8, TX8, 4), "ExtrasOffice$Term", rfl, by decide, (tw_k 2 188 (by decide +kernel) (by decide +kernel)), Or.inl rfl⟩
theorem fl_RX8_9 : FLo RX8 9 0 9 := ⟨(RX8, TX8, 4), "ExtrasOffice$Term", rfl, by decide, (tw_k 2 184 (by decide +kernel) (by decide +kernel)), Or.inl rfl⟩
theorem fl_RX9_15 : FLo RX9 10 2 15 := ⟨(RX9, TX9, 7), "ExtrasOffice$Tokens", rfl, by decide, (tw_k 0 94 (by decide +kernel) (by decide +kernel)), Or.inl rfl⟩
theorem fl_RX9_19 : FLo RX9 10 0 19 := ⟨(RX9, TX9, 7), "ExtrasOffice$Tokens", rfl, by decide, (tw_k 0 90 (by decide +kernel) (by decide +kernel)), Or.inl rfl⟩
theorem fl_RX9_22 : FLo RX9 10 5 22 := ⟨(RX9, TX9, 7), "ExtrasOffice$Tokens", rfl, by decide, (tw_k 0 97 (by decide +kernel) (by decide +kernel)), Or.inl rfl⟩
theorem fl_RX9_28 : FLo RX9 10 4 28 := ⟨(RX9, TX9, 7), "ExtrasOffice$Tokens", rfl, by decide, (tw_k 0 96 (by decide +kernel) (by decide +kernel)), Or.inl rfl⟩
theorem fl_RX9_31 : FLo RX9 8 1 31 := ⟨(RX7, TX7, 2), "ExtrasOffice$Row", rfl, by decide, (tw_k 0 75 (by decide +kernel) (by decide +kernel)), Or.inl rfl⟩
theorem fl_RX9_43 : FLo RX9 10 3 43 := ⟨(RX9, TX9, 7), "ExtrasOffice$Tokens", rfl, by decide, (tw_k 0 95 (by decide +kernel) (by decide +kernel)), Or.inl rfl⟩
theorem fl_RX9_46 : FLo RX9 10 6 46 := ⟨(RX9, TX9, 7), "ExtrasOffice$Tokens", rfl, by decide, (tw_k 0 98 (by decide +kernel) (by decide +kernel)), Or.inl rfl⟩
theorem fl_RX9_9 : FLo RX9 10 1 9 := ⟨(RX9, TX9, 7), "ExtrasOffice$Tokens", rfl, by decide, (tw_k 0 92 (by decide +kernel) (by decide +kernel)), Or.inl rfl⟩
theorem ml_RJ15_105 : Cond.methodLink RJ15 105 yJ3_checkIndex_8e157 ∈ TW ∧ Cond.static yJ3_checkIndex_8e157 ∈ TW := ⟨(tw_k 1 138 (by decide +kernel) (by decide +kernel)), (tw_k 1 139 (by decide +kernel) (by decide +kernel))⟩
theorem ml_RJ7_300 : Cond.methodLink RJ7 300 yJ7_copyOf_6403c ∈ TW ∧ Cond.static yJ7_copyOf_6403c ∈ TW := ⟨(tw_k 1 109 (by decide +kernel) (by decide +kernel)), (tw_k 1 110 (by decide +kernel) (by decide +kernel))⟩
theorem ml_RJ7_304 : Cond.methodLink RJ7 304 yJ9_min_7cf53 ∈ TW ∧ Cond.static yJ9_min_7cf53 ∈ TW := ⟨(tw_k 1 115 (by decide +kernel) (by decide +kernel)), (tw_k 1 116 (by decide +kernel) (by decide +kernel))⟩
theorem ml_RJ8_194 : Cond.methodLink RJ8 194 yJ9_max_7cf53 ∈ TW ∧ Cond.static yJ9_max_7cf53 ∈ TW := ⟨(tw_k 1 80 (by decide +kernel) (by decide +kernel)), (tw_k 1 81 (by decide +kernel) (by decide +kernel))⟩
theorem ml_RJ8_201 : Cond.methodLink RJ8 201 yJ8_hugeLength_7cf53 ∈ TW ∧ Cond.static yJ8_hugeLength_7cf53 ∈ TW := ⟨(tw_k 1 84 (by decide +kernel) (by decide +kernel)), (tw_k 1 85 (by decide +kernel) (by decide +kernel))⟩
theorem ml_RJx4a65c_1 : Cond.methodLink RJx4a65c 1 yJxc12de_init_da8c8 ∈ TW ∧ Cond.instanceMethod yJxc12de_init_da8c8 ∈ TW := ⟨(tw_k 0 43 (by decide +kernel) (by decide +kernel)), (tw_k 0 44 (by decide +kernel) (by decide +kernel))⟩
theorem ml_RJx4a65c_118 : Cond.methodLink RJx4a65c 118 yJ15_checkIndex_7cf53 ∈ TW ∧ Cond.static yJ15_checkIndex_7cf53 ∈ TW := ⟨(tw_k 1 135 (by decide +kernel) (by decide +kernel)), (tw_k 1 136 (by decide +kernel) (by decide +kernel))⟩
theorem ml_RJx4a65c_123 : Cond.methodLink RJx4a65c 123 yJx4a65c_elementData_915e3 ∈ TW ∧ Cond.instanceMethod yJx4a65c_elementData_915e3 ∈ TW ∧ Cond.selects RJx4a65c yJx4a65c_elementData_915e3 yJx4a65c_elementData_915e3 ∈ TW := ⟨(tw_k 1 141 (by decide +kernel) (by decide +kernel)), (tw_k 1 142 (by decide +kernel) (by decide +kernel)), (tw_k 1 143 (by decide +kernel) (by decide +kernel))⟩
theorem ml_RJx4a65c_129 : Cond.methodLink RJx4a65c 129 yJx4a65c_grow_d5877 ∈ TW ∧ Cond.instanceMethod yJx4a65c_grow_d5877 ∈ TW ∧ Cond.selects RJx4a65c yJx4a65c_grow_d5877 yJx4a65c_grow_d5877 ∈ TW := ⟨(tw_k 1 69 (by decide +kernel) (by decide +kernel)), (tw_k 1 71 (by decide +kernel) (by decide +kernel)), (tw_s 1 (by decide +kernel) (by decide +kernel))⟩
theorem ml_RJx4a65c_131 : Cond.methodLink RJx4a65c 131 yJx4a65c_add_72be8 ∈ TW ∧ Cond.instanceMethod yJx4a65c_add_72be8 ∈ TW ∧ Cond.selects RJx4a65c yJx4a65c_add_72be8 yJx4a65c_add_72be8 ∈ TW := ⟨(tw_k 1 65 (by decide +kernel) (by decide +kernel)), (tw_k 1 67 (by decide +kernel) (by decide +kernel)), (tw_s 0 (by decide +kernel) (by decide +kernel))⟩
theorem ml_RJx4a65c_135 : Cond.methodLink RJx4a65c 135 yJx4a65c_rangeCheckForAdd_d00df ∈ TW ∧ Cond.instanceMethod yJx4a65c_rangeCheckForAdd_d00df ∈ TW ∧ Cond.selects RJx4a65c yJx4a65c_rangeCheckForAdd_d00df yJx4a65c_rangeCheckForAdd_d00df ∈ TW := ⟨(tw_k 3 142 (by decide +kernel) (by decide +kernel)), (tw_k 3 144 (by decide +kernel) (by decide +kernel)), (tw_s 19 (by decide +kernel) (by decide +kernel))⟩
theorem ml_RJx4a65c_66 : Cond.methodLink RJx4a65c 66 yJ7_copyOf_1904c ∈ TW ∧ Cond.static yJ7_copyOf_1904c ∈ TW := ⟨(tw_k 1 87 (by decide +kernel) (by decide +kernel)), (tw_k 1 88 (by decide +kernel) (by decide +kernel))⟩
theorem ml_RJx4a65c_69 : Cond.methodLink RJx4a65c 69 yJx4a65c_grow_92f84 ∈ TW ∧ Cond.instanceMethod yJx4a65c_grow_92f84 ∈ TW ∧ Cond.selects RJx4a65c yJx4a65c_grow_92f84 yJx4a65c_grow_92f84 ∈ TW := ⟨(tw_k 1 73 (by decide +kernel) (by decide +kernel)), (tw_k 1 75 (by decide +kernel) (by decide +kernel)), (tw_s 2 (by decide +kernel) (by decide +kernel))⟩
theorem ml_RJx4a65c_73 : Cond.methodLink RJx4a65c 73 yJ8_newLength_cabcc ∈ TW ∧ Cond.static yJ8_newLength_cabcc ∈ TW := ⟨(tw_k 1 77 (by decide +kernel) (by decide +kernel)), (tw_k 1 78 (by decide +kernel) (by decide +kernel))⟩
theorem ml_RJx4a65c_79 : Cond.methodLink RJx4a65c 79 yJ9_max_7cf53 ∈ TW ∧ Cond.static yJ9_max_7cf53 ∈ TW := ⟨(tw_k 1 121 (by decide +kernel) (by decide +kernel)), (tw_k 1 81 (by decide +kernel) (by decide +kernel))⟩
theorem ml_RJxc12de_1 : Cond.methodLink RJxc12de 1 yJxa1e45_init_da8c8 ∈ TW ∧ Cond.instanceMethod yJxa1e45_init_da8c8 ∈ TW := ⟨(tw_k 0 46 (by decide +kernel) (by decide +kernel)), (tw_k 0 47 (by decide +kernel) (by decide +kernel))⟩
theorem ml_RX0_11 : Cond.methodLink RX0 11 yJx4a65c_init_da8c8 ∈ TW ∧ Cond.instanceMethod yJx4a65c_init_da8c8 ∈ TW := ⟨(tw_k 2 154 (by decide +kernel) (by decide +kernel)), (tw_k 0 41 (by decide +kernel) (by decide +kernel))⟩
theorem ml_RX0_22 : Cond.methodLink RX0 22 yX9_begin ∈ TW ∧ Cond.instanceMethod yX9_begin ∈ TW ∧ Cond.selects RX9 yX9_begin yX9_begin ∈ TW := ⟨(tw_k 2 168 (by decide +kernel) (by decide +kernel)), (tw_k 1 172 (by decide +kernel) (by decide +kernel)), (tw_k 1 173 (by decide +kernel) (by decide +kernel))⟩
theorem ml_RX0_27 : Cond.methodLink RX0 27 yX9_atEnd ∈ TW ∧ Cond.instanceMethod yX9_atEnd ∈ TW ∧ Cond.selects RX9 yX9_atEnd yX9_atEnd ∈ TW := ⟨(tw_k 2 169 (by decide +kernel) (by decide +kernel)), (tw_k 1 187 (by decide +kernel) (by decide +kernel)), (tw_k 1 188 (by decide +kernel) (by decide +kernel))⟩
theorem ml_RX0_33 : Cond.methodLink RX0 33 yX8_kindAt ∈ TW ∧ Cond.static yX8_kindAt ∈ TW := ⟨(tw_k 2 172 (by decide +kernel) (by decide +kernel)), (tw_k 2 173 (by decide +kernel) (by decide +kernel))⟩
theorem ml_RX0_37 : Cond.methodLink RX0 37 yX8_init ∈ TW ∧ Cond.instanceMethod yX8_init ∈ TW := ⟨(tw_k 2 180 (by decide +kernel) (by decide +kernel)), (tw_k 2 181 (by decide +kernel) (by decide +kernel))⟩
theorem ml_RX0_43 : Cond.methodLink RX0 43 yX9_fail ∈ TW ∧ Cond.instanceMethod yX9_fail ∈ TW ∧ Cond.selects RX9 yX9_fail yX9_fail ∈ TW := ⟨(tw_k 2 198 (by decide +kernel) (by decide +kernel)), (tw_k 2 2 (by decide +kernel) (by decide +kernel)), (tw_k 2 3 (by decide +kernel) (by decide +kernel))⟩
theorem ml_RX0_47 : Cond.methodLink RX0 47 yX9_advance ∈ TW ∧ Cond.instanceMethod yX9_advance ∈ TW ∧ Cond.selects RX9 yX9_advance yX9_advance ∈ TW := ⟨(tw_k 2 199 (by decide +kernel) (by decide +kernel)), (tw_k 1 176 (by decide +kernel) (by decide +kernel)), (tw_k 1 177 (by decide +kernel) (by decide +kernel))⟩
theorem ml_RX0_50 : Cond.methodLink RX0 50 yX8_readNumbers ∈ TW ∧ Cond.instanceMethod yX8_readNumbers ∈ TW ∧ Cond.selects RX8 yX8_readNumbers yX8_readNumbers ∈ TW := ⟨(tw_k 2 200 (by decide +kernel) (by decide +kernel)), (tw_k 2 201 (by decide +kernel) (by decide +kernel)), (tw_k 2 202 (by decide +kernel) (by decide +kernel))⟩
theorem ml_RX0_54 : Cond.methodLink RX0 54 yX9_passSign ∈ TW ∧ Cond.instanceMethod yX9_passSign ∈ TW ∧ Cond.selects RX9 yX9_passSign yX9_passSign ∈ TW := ⟨(tw_k 2 211 (by decide +kernel) (by decide +kernel)), (tw_k 2 77 (by decide +kernel) (by decide +kernel)), (tw_k 2 78 (by decide +kernel) (by decide +kernel))⟩
theorem ml_RX0_58 : Cond.methodLink RX0 58 yJx4a65c_add_9ea2d ∈ TW ∧ Cond.instanceMethod yJx4a65c_add_9ea2d ∈ TW ∧ Cond.selects RJx4a65c yJx4a65c_add_9ea2d yJx4a65c_add_9ea2d ∈ TW := ⟨(tw_k 2 212 (by decide +kernel) (by decide +kernel)), (tw_k 1 62 (by decide +kernel) (by decide +kernel)), (tw_k 1 63 (by decide +kernel) (by decide +kernel))⟩
theorem ml_RX0_62 : Cond.methodLink RX0 62 yJx4a65c_size_8abf5 ∈ TW ∧ Cond.instanceMethod yJx4a65c_size_8abf5 ∈ TW ∧ Cond.selects RJx4a65c yJx4a65c_size_8abf5 yJx4a65c_size_8abf5 ∈ TW := ⟨(tw_k 3 191 (by decide +kernel) (by decide +kernel)), (tw_k 0 234 (by decide +kernel) (by decide +kernel)), (tw_k 0 235 (by decide +kernel) (by decide +kernel))⟩
theorem ml_RX0_66 : Cond.methodLink RX0 66 yJx4a65c_get_915e3 ∈ TW ∧ Cond.instanceMethod yJx4a65c_get_915e3 ∈ TW ∧ Cond.selects RJx4a65c yJx4a65c_get_915e3 yJx4a65c_get_915e3 ∈ TW := ⟨(tw_k 3 192 (by decide +kernel) (by decide +kernel)), (tw_k 1 132 (by decide +kernel) (by decide +kernel)), (tw_k 1 133 (by decide +kernel) (by decide +kernel))⟩
theorem ml_RX0_70 : Cond.methodLink RX0 70 yX8_worth ∈ TW ∧ Cond.instanceMethod yX8_worth ∈ TW ∧ Cond.selects RX8 yX8_worth yX8_worth ∈ TW := ⟨(tw_k 3 193 (by decide +kernel) (by decide +kernel)), (tw_k 3 194 (by decide +kernel) (by decide +kernel)), (tw_k 3 195 (by decide +kernel) (by decide +kernel))⟩
theorem ml_RX10_54 : Cond.methodLink RX10 54 yX0_worth ∈ TW ∧ Cond.instanceMethod yX0_worth ∈ TW ∧ Cond.selects RX0 yX0_worth yX0_worth ∈ TW := ⟨(tw_k 3 187 (by decide +kernel) (by decide +kernel)), (tw_k 3 188 (by decide +kernel) (by decide +kernel)), (tw_k 3 189 (by decide +kernel) (by decide +kernel))⟩
theorem ml_RX10_66 : Cond.methodLink RX10 66 yX10_earned ∈ TW ∧ Cond.instanceMethod yX10_earned ∈ TW ∧ Cond.selects RX10 yX10_earned yX10_earned ∈ TW := ⟨(tw_k 3 183 (by decide +kernel) (by decide +kernel)), (tw_k 3 184 (by decide +kernel) (by decide +kernel)), (tw_k 3 185 (by decide +kernel) (by decide +kernel))⟩
theorem ml_RX11_108 : Cond.methodLink RX11 108 yX11_addBytes ∈ TW ∧ Cond.instanceMethod yX11_addBytes ∈ TW ∧ Cond.selects RX11 yX11_addBytes yX11_addBytes ∈ TW := ⟨(tw_k 1 149 (by decide +kernel) (by decide +kernel)), (tw_k 1 151 (by decide +kernel) (by decide +kernel)), (tw_s 4 (by decide +kernel) (by decide +kernel))⟩
theorem ml_RX11_111 : Cond.methodLink RX11 111 yX2_read ∈ TW ∧ Cond.instanceMethod yX2_read ∈ TW ∧ Cond.selects RX2 yX2_read yX2_read ∈ TW := ⟨(tw_k 1 165 (by decide +kernel) (by decide +kernel)), (tw_k 1 166 (by decide +kernel) (by decide +kernel)), (tw_k 1 167 (by decide +kernel) (by decide +kernel))⟩
theorem ml_RX11_118 : Cond.methodLink RX11 118 yX6_startWith ∈ TW ∧ Cond.instanceMethod yX6_startWith ∈ TW ∧ Cond.selects RX6 yX6_startWith yX6_startWith ∈ TW := ⟨(tw_k 2 128 (by decide +kernel) (by decide +kernel)), (tw_k 2 129 (by decide +kernel) (by decide +kernel)), (tw_k 2 130 (by decide +kernel) (by decide +kernel))⟩
theorem ml_RX11_123 : Cond.methodLink RX11 123 yX0_init ∈ TW ∧ Cond.instanceMethod yX0_init ∈ TW := ⟨(tw_k 2 149 (by decide +kernel) (by decide +kernel)), (tw_k 2 150 (by decide +kernel) (by decide +kernel))⟩
theorem ml_RX11_124 : Cond.methodLink RX11 124 yX0_readFrom ∈ TW ∧ Cond.instanceMethod yX0_readFrom ∈ TW ∧ Cond.selects RX0 yX0_readFrom yX0_readFrom ∈ TW := ⟨(tw_k 2 164 (by decide +kernel) (by decide +kernel)), (tw_k 2 165 (by decide +kernel) (by decide +kernel)), (tw_k 2 166 (by decide +kernel) (by decide +kernel))⟩
theorem ml_RX11_134 : Cond.methodLink RX11 134 yX6_find ∈ TW ∧ Cond.instanceMethod yX6_find ∈ TW ∧ Cond.selects RX6 yX6_find yX6_find ∈ TW := ⟨(tw_k 2 221 (by decide +kernel) (by decide +kernel)), (tw_k 2 222 (by decide +kernel) (by decide +kernel)), (tw_k 2 223 (by decide +kernel) (by decide +kernel))⟩
theorem ml_RX11_137 : Cond.methodLink RX11 137 yX1_suits ∈ TW ∧ Cond.instanceMethod yX1_suits ∈ TW ∧ Cond.selects RX1 yX1_suits yX1_suits ∈ TW := ⟨(tw_k 2 226 (by decide +kernel) (by decide +kernel)), (tw_k 2 227 (by decide +kernel) (by decide +kernel)), (tw_k 2 228 (by decide +kernel) (by decide +kernel))⟩
theorem ml_RX11_146 : Cond.methodLink RX11 146 yX1_isOpenTo ∈ TW ∧ Cond.instanceMethod yX1_isOpenTo ∈ TW ∧ Cond.selects RX1 yX1_isOpenTo yX1_isOpenTo ∈ TW := ⟨(tw_k 2 239 (by decide +kernel) (by decide +kernel)), (tw_k 3 0 (by decide +kernel) (by decide +kernel)), (tw_k 3 1 (by decide +kernel) (by decide +kernel))⟩
theorem ml_RX11_153 : Cond.methodLink RX11 153 yJx4a65c_isEmpty_aae02 ∈ TW ∧ Cond.instanceMethod yJx4a65c_isEmpty_aae02 ∈ TW ∧ Cond.selects RJx4a65c yJx4a65c_isEmpty_aae02 yJx4a65c_isEmpty_aae02 ∈ TW := ⟨(tw_k 3 8 (by decide +kernel) (by decide +kernel)), (tw_k 3 9 (by decide +kernel) (by decide +kernel)), (tw_k 3 10 (by decide +kernel) (by decide +kernel))⟩
theorem ml_RX11_157 : Cond.methodLink RX11 157 yX6_layFor ∈ TW ∧ Cond.instanceMethod yX6_layFor ∈ TW ∧ Cond.selects RX6 yX6_layFor yX6_layFor ∈ TW := ⟨(tw_k 3 12 (by decide +kernel) (by decide +kernel)), (tw_k 3 13 (by decide +kernel) (by decide +kernel)), (tw_k 3 14 (by decide +kernel) (by decide +kernel))⟩
theorem ml_RX11_160 : Cond.methodLink RX11 160 yX6_size ∈ TW ∧ Cond.instanceMethod yX6_size ∈ TW ∧ Cond.selects RX6 yX6_size yX6_size ∈ TW := ⟨(tw_k 3 41 (by decide +kernel) (by decide +kernel)), (tw_k 3 42 (by decide +kernel) (by decide +kernel)), (tw_k 3 43 (by decide +kernel) (by decide +kernel))⟩
theorem ml_RX11_162 : Cond.methodLink RX11 162 yX5_moveTo ∈ TW ∧ Cond.instanceMethod yX5_moveTo ∈ TW ∧ Cond.selects RX5 yX5_moveTo yX5_moveTo ∈ TW := ⟨(tw_k 3 53 (by decide +kernel) (by decide +kernel)), (tw_k 2 140 (by decide +kernel) (by decide +kernel)), (tw_k 2 141 (by decide +kernel) (by decide +kernel))⟩
theorem ml_RX11_166 : Cond.methodLink RX11 166 yX6_mend ∈ TW ∧ Cond.instanceMethod yX6_mend ∈ TW ∧ Cond.selects RX6 yX6_mend yX6_mend ∈ TW := ⟨(tw_k 3 54 (by decide +kernel) (by decide +kernel)), (tw_k 3 55 (by decide +kernel) (by decide +kernel)), (tw_k 3 56 (by decide +kernel) (by decide +kernel))⟩
theorem ml_RX11_173 : Cond.methodLink RX11 173 yX7_at ∈ TW ∧ Cond.instanceMethod yX7_at ∈ TW ∧ Cond.selects RX7 yX7_at yX7_at ∈ TW := ⟨(tw_k 3 71 (by decide +kernel) (by decide +kernel)), (tw_k 1 180 (by decide +kernel) (by decide +kernel)), (tw_k 1 181 (by decide +kernel) (by decide +kernel))⟩
theorem ml_RX11_177 : Cond.methodLink RX11 177 yX3_comeAll ∈ TW ∧ Cond.instanceMethod yX3_comeAll ∈ TW ∧ Cond.selects RX3 yX3_comeAll yX3_comeAll ∈ TW := ⟨(tw_k 3 76 (by decide +kernel) (by decide +kernel)), (tw_k 3 77 (by decide +kernel) (by decide +kernel)), (tw_k 3 78 (by decide +kernel) (by decide +kernel))⟩
theorem ml_RX11_18 : Cond.methodLink RX11 18 yX7_init ∈ TW ∧ Cond.instanceMethod yX7_init ∈ TW := ⟨(tw_k 0 66 (by decide +kernel) (by decide +kernel)), (tw_k 0 67 (by decide +kernel) (by decide +kernel))⟩
theorem ml_RX11_181 : Cond.methodLink RX11 181 yX3_dressAll ∈ TW ∧ Cond.instanceMethod yX3_dressAll ∈ TW ∧ Cond.selects RX3 yX3_dressAll yX3_dressAll ∈ TW := ⟨(tw_k 3 147 (by decide +kernel) (by decide +kernel)), (tw_k 3 148 (by decide +kernel) (by decide +kernel)), (tw_k 3 149 (by decide +kernel) (by decide +kernel))⟩
theorem ml_RX11_184 : Cond.methodLink RX11 184 yX11_sendAll ∈ TW ∧ Cond.instanceMethod yX11_sendAll ∈ TW ∧ Cond.selects RX11 yX11_sendAll yX11_sendAll ∈ TW := ⟨(tw_k 3 156 (by decide +kernel) (by decide +kernel)), (tw_k 3 158 (by decide +kernel) (by decide +kernel)), (tw_s 21 (by decide +kernel) (by decide +kernel))⟩
theorem ml_RX11_187 : Cond.methodLink RX11 187 yX11_findRecord ∈ TW ∧ Cond.instanceMethod yX11_findRecord ∈ TW ∧ Cond.selects RX11 yX11_findRecord yX11_findRecord ∈ TW := ⟨(tw_k 3 175 (by decide +kernel) (by decide +kernel)), (tw_k 3 177 (by decide +kernel) (by decide +kernel)), (tw_s 22 (by decide +kernel) (by decide +kernel))⟩
theorem ml_RX11_191 : Cond.methodLink RX11 191 yX10_answer ∈ TW ∧ Cond.instanceMethod yX10_answer ∈ TW ∧ Cond.selects RX10 yX10_answer yX10_answer ∈ TW := ⟨(tw_k 3 179 (by decide +kernel) (by decide +kernel)), (tw_k 3 180 (by decide +kernel) (by decide +kernel)), (tw_k 3 181 (by decide +kernel) (by decide +kernel))⟩
theorem ml_RX11_196 : Cond.methodLink RX11 196 yX11_isScene ∈ TW ∧ Cond.static yX11_isScene ∈ TW := ⟨(tw_k 3 205 (by decide +kernel) (by decide +kernel)), (tw_k 3 206 (by decide +kernel) (by decide +kernel))⟩
theorem ml_RX11_203 : Cond.methodLink RX11 203 yX4_add ∈ TW ∧ Cond.instanceMethod yX4_add ∈ TW ∧ Cond.selects RX4 yX4_add yX4_add ∈ TW := ⟨(tw_k 3 165 (by decide +kernel) (by decide +kernel)), (tw_k 3 166 (by decide +kernel) (by decide +kernel)), (tw_k 3 167 (by decide +kernel) (by decide +kernel))⟩
theorem ml_RX11_206 : Cond.methodLink RX11 206 yX4_size ∈ TW ∧ Cond.instanceMethod yX4_size ∈ TW ∧ Cond.selects RX4 yX4_size yX4_size ∈ TW := ⟨(tw_k 4 6 (by decide +kernel) (by decide +kernel)), (tw_k 4 7 (by decide +kernel) (by decide +kernel)), (tw_k 4 8 (by decide +kernel) (by decide +kernel))⟩
theorem ml_RX11_218 : Cond.methodLink RX11 218 yJx4a65c_get_915e3 ∈ TW ∧ Cond.instanceMethod yJx4a65c_get_915e3 ∈ TW ∧ Cond.selects RJx4a65c yJx4a65c_get_915e3 yJx4a65c_get_915e3 ∈ TW := ⟨(tw_k 1 131 (by decide +kernel) (by decide +kernel)), (tw_k 1 132 (by decide +kernel) (by decide +kernel)), (tw_k 1 133 (by decide +kernel) (by decide +kernel))⟩
theorem ml_RX11_225 : Cond.methodLink RX11 225 yX5_wasIn ∈ TW ∧ Cond.instanceMethod yX5_wasIn ∈ TW ∧ Cond.selects RX5 yX5_wasIn yX5_wasIn ∈ TW := ⟨(tw_k 3 212 (by decide +kernel) (by decide +kernel)), (tw_k 2 236 (by decide +kernel) (by decide +kernel)), (tw_k 2 237 (by decide +kernel) (by decide +kernel))⟩
theorem ml_RX11_228 : Cond.methodLink RX11 228 yX7_add ∈ TW ∧ Cond.instanceMethod yX7_add ∈ TW ∧ Cond.selects RX7 yX7_add yX7_add ∈ TW := ⟨(tw_k 1 153 (by decide +kernel) (by decide +kernel)), (tw_k 1 154 (by decide +kernel) (by decide +kernel)), (tw_k 1 155 (by decide +kernel) (by decide +kernel))⟩
theorem ml_RX11_233 : Cond.methodLink RX11 233 yX1_answer ∈ TW ∧ Cond.instanceMethod yX1_answer ∈ TW ∧ Cond.selects RX1 yX1_answer yX1_answer ∈ TW := ⟨(tw_k 3 225 (by decide +kernel) (by decide +kernel)), (tw_k 3 226 (by decide +kernel) (by decide +kernel)), (tw_k 3 227 (by decide +kernel) (by decide +kernel))⟩
theorem ml_RX11_234 : Cond.methodLink RX11 234 yX5_answer ∈ TW ∧ Cond.instanceMethod yX5_answer ∈ TW ∧ Cond.selects RX5 yX5_answer yX5_answer ∈ TW := ⟨(tw_k 3 233 (by decide +kernel) (by decide +kernel)), (tw_k 3 234 (by decide +kernel) (by decide +kernel)), (tw_k 3 235 (by decide +kernel) (by decide +kernel))⟩
theorem ml_RX11_241 : Cond.methodLink RX11 241 yX10_earned ∈ TW ∧ Cond.instanceMethod yX10_earned ∈ TW ∧ Cond.selects RX10 yX10_earned yX10_earned ∈ TW := ⟨(tw_k 4 1 (by decide +kernel) (by decide +kernel)), (tw_k 3 184 (by decide +kernel) (by decide +kernel)), (tw_k 3 185 (by decide +kernel) (by decide +kernel))⟩
theorem ml_RX11_247 : Cond.methodLink RX11 247 yX10_send ∈ TW ∧ Cond.instanceMethod yX10_send ∈ TW ∧ Cond.selects RX10 yX10_send yX10_send ∈ TW := ⟨(tw_k 3 161 (by decide +kernel) (by decide +kernel)), (tw_k 3 162 (by decide +kernel) (by decide +kernel)), (tw_k 3 163 (by decide +kernel) (by decide +kernel))⟩
theorem ml_RX11_257 : Cond.methodLink RX11 257 yJ9_max_7cf53 ∈ TW ∧ Cond.static yJ9_max_7cf53 ∈ TW := ⟨(tw_k 3 170 (by decide +kernel) (by decide +kernel)), (tw_k 1 81 (by decide +kernel) (by decide +kernel))⟩
theorem ml_RX11_27 : Cond.methodLink RX11 27 yX9_init ∈ TW ∧ Cond.instanceMethod yX9_init ∈ TW := ⟨(tw_k 0 86 (by decide +kernel) (by decide +kernel)), (tw_k 0 87 (by decide +kernel) (by decide +kernel))⟩
theorem ml_RX11_36 : Cond.methodLink RX11 36 yX2_init ∈ TW ∧ Cond.instanceMethod yX2_init ∈ TW := ⟨(tw_k 0 116 (by decide +kernel) (by decide +kernel)), (tw_k 0 117 (by decide +kernel) (by decide +kernel))⟩
theorem ml_RX11_48 : (RX11, 48, yX4_init, "ExtrasOffice") ∈ nestW ∧ Cond.instanceMethod yX4_init ∈ TW := ⟨(by decide +kernel), (tw_k 0 132 (by decide +kernel) (by decide +kernel))⟩
theorem ml_RX11_55 : Cond.methodLink RX11 55 yX6_init ∈ TW ∧ Cond.instanceMethod yX6_init ∈ TW := ⟨(tw_k 0 149 (by decide +kernel) (by decide +kernel)), (tw_k 0 150 (by decide +kernel) (by decide +kernel))⟩
theorem ml_RX11_64 : (RX11, 64, yX3_init, "ExtrasOffice") ∈ nestW ∧ Cond.instanceMethod yX3_init ∈ TW := ⟨(by decide +kernel), (tw_k 0 175 (by decide +kernel) (by decide +kernel))⟩
theorem ml_RX11_75 : Cond.methodLink RX11 75 yX11_within ∈ TW ∧ Cond.static yX11_within ∈ TW := ⟨(tw_k 0 229 (by decide +kernel) (by decide +kernel)), (tw_k 0 230 (by decide +kernel) (by decide +kernel))⟩
theorem ml_RX11_80 : Cond.methodLink RX11 80 yJx4a65c_size_8abf5 ∈ TW ∧ Cond.instanceMethod yJx4a65c_size_8abf5 ∈ TW ∧ Cond.selects RJx4a65c yJx4a65c_size_8abf5 yJx4a65c_size_8abf5 ∈ TW := ⟨(tw_k 0 233 (by decide +kernel) (by decide +kernel)), (tw_k 0 234 (by decide +kernel) (by decide +kernel)), (tw_k 0 235 (by decide +kernel) (by decide +kernel))⟩
theorem ml_RX11_86 : Cond.methodLink RX11 86 yX5_init ∈ TW ∧ Cond.instanceMethod yX5_init ∈ TW := ⟨(tw_k 0 239 (by decide +kernel) (by decide +kernel)), (tw_k 1 0 (by decide +kernel) (by decide +kernel))⟩
theorem ml_RX11_89 : Cond.methodLink RX11 89 yJx4a65c_add_9ea2d ∈ TW ∧ Cond.instanceMethod yJx4a65c_add_9ea2d ∈ TW ∧ Cond.selects RJx4a65c yJx4a65c_add_9ea2d yJx4a65c_add_9ea2d ∈ TW := ⟨(tw_k 1 61 (by decide +kernel) (by decide +kernel)), (tw_k 1 62 (by decide +kernel) (by decide +kernel)), (tw_k 1 63 (by decide +kernel) (by decide +kernel))⟩
theorem ml_RX11_9 : Cond.methodLink RX11 9 yJx4a65c_init_da8c8 ∈ TW ∧ Cond.instanceMethod yJx4a65c_init_da8c8 ∈ TW := ⟨(tw_k 0 40 (by decide +kernel) (by decide +kernel)), (tw_k 0 41 (by decide +kernel) (by decide +kernel))⟩
theorem ml_RX11_93 : Cond.methodLink RX11 93 yX11_find ∈ TW ∧ Cond.instanceMethod yX11_find ∈ TW ∧ Cond.selects RX11 yX11_find yX11_find ∈ TW := ⟨(tw_k 1 127 (by decide +kernel) (by decide +kernel)), (tw_k 1 129 (by decide +kernel) (by decide +kernel)), (tw_s 3 (by decide +kernel) (by decide +kernel))⟩
theorem ml_RX12_154 : Cond.methodLink RX12 154 yX12_within ∈ TW ∧ Cond.static yX12_within ∈ TW := ⟨(tw_k 5 68 (by decide +kernel) (by decide +kernel)), (tw_k 5 69 (by decide +kernel) (by decide +kernel))⟩
theorem ml_RX12_159 : Cond.methodLink RX12 159 yX12_isPerson ∈ TW ∧ Cond.instanceMethod yX12_isPerson ∈ TW ∧ Cond.selects RX12 yX12_isPerson yX12_isPerson ∈ TW := ⟨(tw_k 5 76 (by decide +kernel) (by decide +kernel)), (tw_k 5 78 (by decide +kernel) (by decide +kernel)), (tw_s 25 (by decide +kernel) (by decide +kernel))⟩
theorem ml_RX12_169 : Cond.methodLink RX12 169 yX12_fact ∈ TW ∧ Cond.instanceMethod yX12_fact ∈ TW ∧ Cond.selects RX12 yX12_fact yX12_fact ∈ TW := ⟨(tw_k 5 88 (by decide +kernel) (by decide +kernel)), (tw_k 5 90 (by decide +kernel) (by decide +kernel)), (tw_s 26 (by decide +kernel) (by decide +kernel))⟩
theorem ml_RX12_173 : Cond.methodLink RX12 173 yX12_times ∈ TW ∧ Cond.instanceMethod yX12_times ∈ TW ∧ Cond.selects RX12 yX12_times yX12_times ∈ TW := ⟨(tw_k 5 96 (by decide +kernel) (by decide +kernel)), (tw_k 5 98 (by decide +kernel) (by decide +kernel)), (tw_s 27 (by decide +kernel) (by decide +kernel))⟩
theorem ml_RX12_195 : Cond.methodLink RX12 195 yX12_isSmall ∈ TW ∧ Cond.static yX12_isSmall ∈ TW := ⟨(tw_k 5 120 (by decide +kernel) (by decide +kernel)), (tw_k 5 121 (by decide +kernel) (by decide +kernel))⟩
theorem ml_RX12_198 : Cond.methodLink RX12 198 yX12_see ∈ TW ∧ Cond.instanceMethod yX12_see ∈ TW ∧ Cond.selects RX12 yX12_see yX12_see ∈ TW := ⟨(tw_k 5 123 (by decide +kernel) (by decide +kernel)), (tw_k 5 125 (by decide +kernel) (by decide +kernel)), (tw_s 30 (by decide +kernel) (by decide +kernel))⟩
theorem ml_RX12_202 : Cond.methodLink RX12 202 yX12_isDigit ∈ TW ∧ Cond.static yX12_isDigit ∈ TW := ⟨(tw_k 5 127 (by decide +kernel) (by decide +kernel)), (tw_k 5 128 (by decide +kernel) (by decide +kernel))⟩
theorem ml_RX12_208 : Cond.methodLink RX12 208 yX12_next ∈ TW ∧ Cond.instanceMethod yX12_next ∈ TW ∧ Cond.selects RX12 yX12_next yX12_next ∈ TW := ⟨(tw_k 5 116 (by decide +kernel) (by decide +kernel)), (tw_k 5 118 (by decide +kernel) (by decide +kernel)), (tw_s 29 (by decide +kernel) (by decide +kernel))⟩
theorem ml_RX12_211 : Cond.methodLink RX12 211 yJ0_length_8abf5 ∈ TW ∧ Cond.instanceMethod yJ0_length_8abf5 ∈ TW ∧ Cond.selects RJ0 yJ0_length_8abf5 yJ0_length_8abf5 ∈ TW := ⟨(tw_k 5 139 (by decide +kernel) (by decide +kernel)), (tw_k 1 196 (by decide +kernel) (by decide +kernel)), (tw_k 1 197 (by decide +kernel) (by decide +kernel))⟩
theorem ml_RX12_217 : Cond.methodLink RX12 217 yJ0_charAt_5068e ∈ TW ∧ Cond.instanceMethod yJ0_charAt_5068e ∈ TW ∧ Cond.selects RJ0 yJ0_charAt_5068e yJ0_charAt_5068e ∈ TW := ⟨(tw_k 5 140 (by decide +kernel) (by decide +kernel)), (tw_k 1 206 (by decide +kernel) (by decide +kernel)), (tw_k 1 207 (by decide +kernel) (by decide +kernel))⟩
theorem ml_RX12_227 : Cond.methodLink RX12 227 yX12_is ∈ TW ∧ Cond.instanceMethod yX12_is ∈ TW ∧ Cond.selects RX12 yX12_is yX12_is ∈ TW := ⟨(tw_k 5 156 (by decide +kernel) (by decide +kernel)), (tw_k 5 158 (by decide +kernel) (by decide +kernel)), (tw_s 36 (by decide +kernel) (by decide +kernel))⟩
theorem ml_RX12_230 : Cond.methodLink RX12 230 yX12_fails ∈ TW ∧ Cond.instanceMethod yX12_fails ∈ TW ∧ Cond.selects RX12 yX12_fails yX12_fails ∈ TW := ⟨(tw_k 5 141 (by decide +kernel) (by decide +kernel)), (tw_k 5 143 (by decide +kernel) (by decide +kernel)), (tw_s 33 (by decide +kernel) (by decide +kernel))⟩
theorem ml_RX12_234 : Cond.methodLink RX12 234 yX12_isWord ∈ TW ∧ Cond.instanceMethod yX12_isWord ∈ TW ∧ Cond.selects RX12 yX12_isWord yX12_isWord ∈ TW := ⟨(tw_k 5 135 (by decide +kernel) (by decide +kernel)), (tw_k 5 137 (by decide +kernel) (by decide +kernel)), (tw_s 32 (by decide +kernel) (by decide +kernel))⟩
theorem ml_RX12_238 : Cond.methodLink RX12 238 yX12_all ∈ TW ∧ Cond.instanceMethod yX12_all ∈ TW ∧ Cond.selects RX12 yX12_all yX12_all ∈ TW := ⟨(tw_k 5 164 (by decide +kernel) (by decide +kernel)), (tw_k 5 166 (by decide +kernel) (by decide +kernel)), (tw_s 38 (by decide +kernel) (by decide +kernel))⟩
theorem ml_RX12_243 : Cond.methodLink RX12 243 yX12_one ∈ TW ∧ Cond.instanceMethod yX12_one ∈ TW ∧ Cond.selects RX12 yX12_one yX12_one ∈ TW := ⟨(tw_k 5 168 (by decide +kernel) (by decide +kernel)), (tw_k 5 170 (by decide +kernel) (by decide +kernel)), (tw_s 39 (by decide +kernel) (by decide +kernel))⟩
theorem ml_RX12_250 : Cond.methodLink RX12 250 yX12_either ∈ TW ∧ Cond.instanceMethod yX12_either ∈ TW ∧ Cond.selects RX12 yX12_either yX12_either ∈ TW := ⟨(tw_k 5 160 (by decide +kernel) (by decide +kernel)), (tw_k 5 162 (by decide +kernel) (by decide +kernel)), (tw_s 37 (by decide +kernel) (by decide +kernel))⟩
theorem ml_RX12_253 : Cond.methodLink RX12 253 yX12_wants ∈ TW ∧ Cond.instanceMethod yX12_wants ∈ TW ∧ Cond.selects RX12 yX12_wants yX12_wants ∈ TW := ⟨(tw_k 5 173 (by decide +kernel) (by decide +kernel)), (tw_k 5 175 (by decide +kernel) (by decide +kernel)), (tw_s 40 (by decide +kernel) (by decide +kernel))⟩
theorem ml_RX12_260 : Cond.methodLink RX12 260 yX12_number ∈ TW ∧ Cond.instanceMethod yX12_number ∈ TW ∧ Cond.selects RX12 yX12_number yX12_number ∈ TW := ⟨(tw_k 5 145 (by decide +kernel) (by decide +kernel)), (tw_k 5 147 (by decide +kernel) (by decide +kernel)), (tw_s 34 (by decide +kernel) (by decide +kernel))⟩
theorem ml_RX12_281 : Cond.methodLink RX12 281 yX12_wants_ ∈ TW ∧ Cond.instanceMethod yX12_wants_ ∈ TW ∧ Cond.selects RX12 yX12_wants_ yX12_wants_ ∈ TW := ⟨(tw_k 5 150 (by decide +kernel) (by decide +kernel)), (tw_k 5 152 (by decide +kernel) (by decide +kernel)), (tw_s 35 (by decide +kernel) (by decide +kernel))⟩
theorem ml_RX12_288 : Cond.methodLink RX12 288 yX12_starts ∈ TW ∧ Cond.instanceMethod yX12_starts ∈ TW ∧ Cond.selects RX12 yX12_starts yX12_starts ∈ TW := ⟨(tw_k 5 112 (by decide +kernel) (by decide +kernel)), (tw_k 5 114 (by decide +kernel) (by decide +kernel)), (tw_s 28 (by decide +kernel) (by decide +kernel))⟩
theorem ml_RX12_292 : Cond.methodLink RX12 292 yX12_readAsk ∈ TW ∧ Cond.instanceMethod yX12_readAsk ∈ TW ∧ Cond.selects RX12 yX12_readAsk yX12_readAsk ∈ TW := ⟨(tw_k 5 130 (by decide +kernel) (by decide +kernel)), (tw_k 5 132 (by decide +kernel) (by decide +kernel)), (tw_s 31 (by decide +kernel) (by decide +kernel))⟩
theorem ml_RX12_301 : Cond.methodLink RX12 301 yX12_nobody ∈ TW ∧ Cond.instanceMethod yX12_nobody ∈ TW ∧ Cond.selects RX12 yX12_nobody yX12_nobody ∈ TW := ⟨(tw_k 5 186 (by decide +kernel) (by decide +kernel)), (tw_k 5 188 (by decide +kernel) (by decide +kernel)), (tw_s 41 (by decide +kernel) (by decide +kernel))⟩
theorem ml_RX12_307 : Cond.methodLink RX12 307 yX12_doesFit ∈ TW ∧ Cond.instanceMethod yX12_doesFit ∈ TW ∧ Cond.selects RX12 yX12_doesFit yX12_doesFit ∈ TW := ⟨(tw_k 5 202 (by decide +kernel) (by decide +kernel)), (tw_k 5 204 (by decide +kernel) (by decide +kernel)), (tw_s 43 (by decide +kernel) (by decide +kernel))⟩
theorem ml_RX12_311 : Cond.methodLink RX12 311 yX12_isAsk ∈ TW ∧ Cond.instanceMethod yX12_isAsk ∈ TW ∧ Cond.selects RX12 yX12_isAsk yX12_isAsk ∈ TW := ⟨(tw_k 5 198 (by decide +kernel) (by decide +kernel)), (tw_k 5 200 (by decide +kernel) (by decide +kernel)), (tw_s 42 (by decide +kernel) (by decide +kernel))⟩
theorem ml_RX12_314 : Cond.methodLink RX12 314 yX12_canBe ∈ TW ∧ Cond.instanceMethod yX12_canBe ∈ TW ∧ Cond.selects RX12 yX12_canBe yX12_canBe ∈ TW := ⟨(tw_k 5 206 (by decide +kernel) (by decide +kernel)), (tw_k 5 208 (by decide +kernel) (by decide +kernel)), (tw_s 44 (by decide +kernel) (by decide +kernel))⟩
theorem ml_RX12_317 : Cond.methodLink RX12 317 yX12_calledIn ∈ TW ∧ Cond.instanceMethod yX12_calledIn ∈ TW ∧ Cond.selects RX12 yX12_calledIn yX12_calledIn ∈ TW := ⟨(tw_k 5 214 (by decide +kernel) (by decide +kernel)), (tw_k 5 216 (by decide +kernel) (by decide +kernel)), (tw_s 45 (by decide +kernel) (by decide +kernel))⟩
theorem ml_RX12_320 : Cond.methodLink RX12 320 yX12_reckons ∈ TW ∧ Cond.instanceMethod yX12_reckons ∈ TW ∧ Cond.selects RX12 yX12_reckons yX12_reckons ∈ TW := ⟨(tw_k 5 222 (by decide +kernel) (by decide +kernel)), (tw_k 5 224 (by decide +kernel) (by decide +kernel)), (tw_s 46 (by decide +kernel) (by decide +kernel))⟩
theorem ml_RX12_323 : Cond.methodLink RX12 323 yX12_first ∈ TW ∧ Cond.instanceMethod yX12_first ∈ TW ∧ Cond.selects RX12 yX12_first yX12_first ∈ TW := ⟨(tw_k 5 226 (by decide +kernel) (by decide +kernel)), (tw_k 5 228 (by decide +kernel) (by decide +kernel)), (tw_s 47 (by decide +kernel) (by decide +kernel))⟩
theorem ml_RX12_326 : Cond.methodLink RX12 326 yX12_isRoom ∈ TW ∧ Cond.instanceMethod yX12_isRoom ∈ TW ∧ Cond.selects RX12 yX12_isRoom yX12_isRoom ∈ TW := ⟨(tw_k 5 230 (by decide +kernel) (by decide +kernel)), (tw_k 5 232 (by decide +kernel) (by decide +kernel)), (tw_s 48 (by decide +kernel) (by decide +kernel))⟩
theorem ml_RX12_330 : Cond.methodLink RX12 330 yX12_mends ∈ TW ∧ Cond.instanceMethod yX12_mends ∈ TW ∧ Cond.selects RX12 yX12_mends yX12_mends ∈ TW := ⟨(tw_k 6 2 (by decide +kernel) (by decide +kernel)), (tw_k 6 4 (by decide +kernel) (by decide +kernel)), (tw_s 49 (by decide +kernel) (by decide +kernel))⟩
theorem ml_RX12_354 : Cond.methodLink RX12 354 yX12_readTerm ∈ TW ∧ Cond.instanceMethod yX12_readTerm ∈ TW ∧ Cond.selects RX12 yX12_readTerm yX12_readTerm ∈ TW := ⟨(tw_k 6 14 (by decide +kernel) (by decide +kernel)), (tw_k 6 16 (by decide +kernel) (by decide +kernel)), (tw_s 50 (by decide +kernel) (by decide +kernel))⟩
theorem ml_RX12_357 : Cond.methodLink RX12 357 yX12_quarters ∈ TW ∧ Cond.static yX12_quarters ∈ TW := ⟨(tw_k 6 54 (by decide +kernel) (by decide +kernel)), (tw_k 6 55 (by decide +kernel) (by decide +kernel))⟩
theorem ml_RX12_362 : Cond.methodLink RX12 362 yX12_nextComing ∈ TW ∧ Cond.instanceMethod yX12_nextComing ∈ TW ∧ Cond.selects RX12 yX12_nextComing yX12_nextComing ∈ TW := ⟨(tw_k 6 37 (by decide +kernel) (by decide +kernel)), (tw_k 6 39 (by decide +kernel) (by decide +kernel)), (tw_s 52 (by decide +kernel) (by decide +kernel))⟩
theorem ml_RX12_365 : Cond.methodLink RX12 365 yJ9_max_7cf53 ∈ TW ∧ Cond.static yJ9_max_7cf53 ∈ TW := ⟨(tw_k 6 41 (by decide +kernel) (by decide +kernel)), (tw_k 1 81 (by decide +kernel) (by decide +kernel))⟩
theorem ml_RX12_370 : Cond.methodLink RX12 370 yX12_next_ ∈ TW ∧ Cond.static yX12_next_ ∈ TW := ⟨(tw_k 6 29 (by decide +kernel) (by decide +kernel)), (tw_k 6 30 (by decide +kernel) (by decide +kernel))⟩
theorem ml_RX12_372 : Cond.methodLink RX12 372 yX12_dresses ∈ TW ∧ Cond.instanceMethod yX12_dresses ∈ TW ∧ Cond.selects RX12 yX12_dresses yX12_dresses ∈ TW := ⟨(tw_k 6 33 (by decide +kernel) (by decide +kernel)), (tw_k 6 35 (by decide +kernel) (by decide +kernel)), (tw_s 51 (by decide +kernel) (by decide +kernel))⟩
theorem ml_RX12_378 : Cond.methodLink RX12 378 yX12_isRecord ∈ TW ∧ Cond.instanceMethod yX12_isRecord ∈ TW ∧ Cond.selects RX12 yX12_isRecord yX12_isRecord ∈ TW := ⟨(tw_k 6 46 (by decide +kernel) (by decide +kernel)), (tw_k 6 48 (by decide +kernel) (by decide +kernel)), (tw_s 53 (by decide +kernel) (by decide +kernel))⟩
theorem ml_RX12_381 : Cond.methodLink RX12 381 yX12_worth ∈ TW ∧ Cond.instanceMethod yX12_worth ∈ TW ∧ Cond.selects RX12 yX12_worth yX12_worth ∈ TW := ⟨(tw_k 6 50 (by decide +kernel) (by decide +kernel)), (tw_k 6 52 (by decide +kernel) (by decide +kernel)), (tw_s 54 (by decide +kernel) (by decide +kernel))⟩
theorem ml_RX12_387 : Cond.methodLink RX12 387 yX12_allCalled ∈ TW ∧ Cond.instanceMethod yX12_allCalled ∈ TW ∧ Cond.selects RX12 yX12_allCalled yX12_allCalled ∈ TW := ⟨(tw_k 6 77 (by decide +kernel) (by decide +kernel)), (tw_k 6 79 (by decide +kernel) (by decide +kernel)), (tw_s 55 (by decide +kernel) (by decide +kernel))⟩
theorem ml_RX1_27 : Cond.methodLink RX1 27 yJ9_max_7cf53 ∈ TW ∧ Cond.static yJ9_max_7cf53 ∈ TW := ⟨(tw_k 2 125 (by decide +kernel) (by decide +kernel)), (tw_k 1 81 (by decide +kernel) (by decide +kernel))⟩
theorem ml_RX1_33 : Cond.methodLink RX1 33 yX7_at ∈ TW ∧ Cond.instanceMethod yX7_at ∈ TW ∧ Cond.selects RX7 yX7_at yX7_at ∈ TW := ⟨(tw_k 2 126 (by decide +kernel) (by decide +kernel)), (tw_k 1 180 (by decide +kernel) (by decide +kernel)), (tw_k 1 181 (by decide +kernel) (by decide +kernel))⟩
theorem ml_RX1_49 : Cond.methodLink RX1 49 yX1_suits ∈ TW ∧ Cond.instanceMethod yX1_suits ∈ TW ∧ Cond.selects RX1 yX1_suits yX1_suits ∈ TW := ⟨(tw_k 3 3 (by decide +kernel) (by decide +kernel)), (tw_k 2 227 (by decide +kernel) (by decide +kernel)), (tw_k 2 228 (by decide +kernel) (by decide +kernel))⟩
theorem ml_RX1_56 : Cond.methodLink RX1 56 yX1_holds ∈ TW ∧ Cond.static yX1_holds ∈ TW := ⟨(tw_k 2 232 (by decide +kernel) (by decide +kernel)), (tw_k 2 233 (by decide +kernel) (by decide +kernel))⟩
theorem ml_RX1_66 : Cond.methodLink RX1 66 yX5_wasIn ∈ TW ∧ Cond.instanceMethod yX5_wasIn ∈ TW ∧ Cond.selects RX5 yX5_wasIn yX5_wasIn ∈ TW := ⟨(tw_k 2 235 (by decide +kernel) (by decide +kernel)), (tw_k 2 236 (by decide +kernel) (by decide +kernel)), (tw_k 2 237 (by decide +kernel) (by decide +kernel))⟩
theorem ml_RX2_104 : Cond.methodLink RX2 104 yX9_advance ∈ TW ∧ Cond.instanceMethod yX9_advance ∈ TW ∧ Cond.selects RX9 yX9_advance yX9_advance ∈ TW := ⟨(tw_k 2 108 (by decide +kernel) (by decide +kernel)), (tw_k 1 176 (by decide +kernel) (by decide +kernel)), (tw_k 1 177 (by decide +kernel) (by decide +kernel))⟩
theorem ml_RX2_109 : Cond.methodLink RX2 109 yX9_isSign ∈ TW ∧ Cond.instanceMethod yX9_isSign ∈ TW ∧ Cond.selects RX9 yX9_isSign yX9_isSign ∈ TW := ⟨(tw_k 2 93 (by decide +kernel) (by decide +kernel)), (tw_k 2 81 (by decide +kernel) (by decide +kernel)), (tw_k 2 82 (by decide +kernel) (by decide +kernel))⟩
theorem ml_RX2_11 : Cond.methodLink RX2 11 yX7_init ∈ TW ∧ Cond.instanceMethod yX7_init ∈ TW := ⟨(tw_k 0 121 (by decide +kernel) (by decide +kernel)), (tw_k 0 67 (by decide +kernel) (by decide +kernel))⟩
theorem ml_RX2_112 : Cond.methodLink RX2 112 yX2_readMark ∈ TW ∧ Cond.instanceMethod yX2_readMark ∈ TW ∧ Cond.selects RX2 yX2_readMark yX2_readMark ∈ TW := ⟨(tw_k 2 94 (by decide +kernel) (by decide +kernel)), (tw_k 2 96 (by decide +kernel) (by decide +kernel)), (tw_s 8 (by decide +kernel) (by decide +kernel))⟩
theorem ml_RX2_116 : Cond.methodLink RX2 116 yX2_markHere ∈ TW ∧ Cond.instanceMethod yX2_markHere ∈ TW ∧ Cond.selects RX2 yX2_markHere yX2_markHere ∈ TW := ⟨(tw_k 2 98 (by decide +kernel) (by decide +kernel)), (tw_k 2 100 (by decide +kernel) (by decide +kernel)), (tw_s 9 (by decide +kernel) (by decide +kernel))⟩
theorem ml_RX2_120 : Cond.methodLink RX2 120 yX1_highest ∈ TW ∧ Cond.static yX1_highest ∈ TW := ⟨(tw_k 2 109 (by decide +kernel) (by decide +kernel)), (tw_k 2 110 (by decide +kernel) (by decide +kernel))⟩
theorem ml_RX2_124 : Cond.methodLink RX2 124 yX9_passNumber ∈ TW ∧ Cond.instanceMethod yX9_passNumber ∈ TW ∧ Cond.selects RX9 yX9_passNumber yX9_passNumber ∈ TW := ⟨(tw_k 2 113 (by decide +kernel) (by decide +kernel)), (tw_k 2 69 (by decide +kernel) (by decide +kernel)), (tw_k 2 70 (by decide +kernel) (by decide +kernel))⟩
theorem ml_RX2_26 : Cond.methodLink RX2 26 yJx4a65c_init_da8c8 ∈ TW ∧ Cond.instanceMethod yJx4a65c_init_da8c8 ∈ TW := ⟨(tw_k 1 170 (by decide +kernel) (by decide +kernel)), (tw_k 0 41 (by decide +kernel) (by decide +kernel))⟩
theorem ml_RX2_27 : Cond.methodLink RX2 27 yX9_begin ∈ TW ∧ Cond.instanceMethod yX9_begin ∈ TW ∧ Cond.selects RX9 yX9_begin yX9_begin ∈ TW := ⟨(tw_k 1 171 (by decide +kernel) (by decide +kernel)), (tw_k 1 172 (by decide +kernel) (by decide +kernel)), (tw_k 1 173 (by decide +kernel) (by decide +kernel))⟩
theorem ml_RX2_32 : Cond.methodLink RX2 32 yX9_atEnd ∈ TW ∧ Cond.instanceMethod yX9_atEnd ∈ TW ∧ Cond.selects RX9 yX9_atEnd yX9_atEnd ∈ TW := ⟨(tw_k 1 186 (by decide +kernel) (by decide +kernel)), (tw_k 1 187 (by decide +kernel) (by decide +kernel)), (tw_k 1 188 (by decide +kernel) (by decide +kernel))⟩
theorem ml_RX2_38 : Cond.methodLink RX2 38 yX9_isWord ∈ TW ∧ Cond.instanceMethod yX9_isWord ∈ TW ∧ Cond.selects RX9 yX9_isWord yX9_isWord ∈ TW := ⟨(tw_k 1 191 (by decide +kernel) (by decide +kernel)), (tw_k 1 192 (by decide +kernel) (by decide +kernel)), (tw_k 1 193 (by decide +kernel) (by decide +kernel))⟩
theorem ml_RX2_42 : Cond.methodLink RX2 42 yX9_fail ∈ TW ∧ Cond.instanceMethod yX9_fail ∈ TW ∧ Cond.selects RX9 yX9_fail yX9_fail ∈ TW := ⟨(tw_k 2 1 (by decide +kernel) (by decide +kernel)), (tw_k 2 2 (by decide +kernel) (by decide +kernel)), (tw_k 2 3 (by decide +kernel) (by decide +kernel))⟩
theorem ml_RX2_48 : Cond.methodLink RX2 48 yX1_init ∈ TW ∧ Cond.instanceMethod yX1_init ∈ TW := ⟨(tw_k 2 7 (by decide +kernel) (by decide +kernel)), (tw_k 2 8 (by decide +kernel) (by decide +kernel))⟩
theorem ml_RX2_53 : Cond.methodLink RX2 53 yX2_readHead ∈ TW ∧ Cond.instanceMethod yX2_readHead ∈ TW ∧ Cond.selects RX2 yX2_readHead yX2_readHead ∈ TW := ⟨(tw_k 2 54 (by decide +kernel) (by decide +kernel)), (tw_k 2 56 (by decide +kernel) (by decide +kernel)), (tw_s 5 (by decide +kernel) (by decide +kernel))⟩
theorem ml_RX2_57 : Cond.methodLink RX2 57 yX2_readAny ∈ TW ∧ Cond.instanceMethod yX2_readAny ∈ TW ∧ Cond.selects RX2 yX2_readAny yX2_readAny ∈ TW := ⟨(tw_k 2 84 (by decide +kernel) (by decide +kernel)), (tw_k 2 86 (by decide +kernel) (by decide +kernel)), (tw_s 6 (by decide +kernel) (by decide +kernel))⟩
theorem ml_RX2_60 : Cond.methodLink RX2 60 yX9_passSign ∈ TW ∧ Cond.instanceMethod yX9_passSign ∈ TW ∧ Cond.selects RX9 yX9_passSign yX9_passSign ∈ TW := ⟨(tw_k 2 76 (by decide +kernel) (by decide +kernel)), (tw_k 2 77 (by decide +kernel) (by decide +kernel)), (tw_k 2 78 (by decide +kernel) (by decide +kernel))⟩
theorem ml_RX2_64 : Cond.methodLink RX2 64 yX1_takeSteps ∈ TW ∧ Cond.instanceMethod yX1_takeSteps ∈ TW ∧ Cond.selects RX1 yX1_takeSteps yX1_takeSteps ∈ TW := ⟨(tw_k 2 121 (by decide +kernel) (by decide +kernel)), (tw_k 2 122 (by decide +kernel) (by decide +kernel)), (tw_k 2 123 (by decide +kernel) (by decide +kernel))⟩
theorem ml_RX2_68 : Cond.methodLink RX2 68 yJx4a65c_add_9ea2d ∈ TW ∧ Cond.instanceMethod yJx4a65c_add_9ea2d ∈ TW ∧ Cond.selects RJx4a65c yJx4a65c_add_9ea2d yJx4a65c_add_9ea2d ∈ TW := ⟨(tw_k 2 127 (by decide +kernel) (by decide +kernel)), (tw_k 1 62 (by decide +kernel) (by decide +kernel)), (tw_k 1 63 (by decide +kernel) (by decide +kernel))⟩
theorem ml_RX2_72 : Cond.methodLink RX2 72 yX9_passNumberAfter ∈ TW ∧ Cond.instanceMethod yX9_passNumberAfter ∈ TW ∧ Cond.selects RX9 yX9_passNumberAfter yX9_passNumberAfter ∈ TW := ⟨(tw_k 2 58 (by decide +kernel) (by decide +kernel)), (tw_k 2 59 (by decide +kernel) (by decide +kernel)), (tw_k 2 60 (by decide +kernel) (by decide +kernel))⟩
theorem ml_RX2_93 : Cond.methodLink RX2 93 yX2_readOne ∈ TW ∧ Cond.instanceMethod yX2_readOne ∈ TW ∧ Cond.selects RX2 yX2_readOne yX2_readOne ∈ TW := ⟨(tw_k 2 88 (by decide +kernel) (by decide +kernel)), (tw_k 2 90 (by decide +kernel) (by decide +kernel)), (tw_s 7 (by decide +kernel) (by decide +kernel))⟩
theorem ml_RX2_97 : Cond.methodLink RX2 97 yX7_add ∈ TW ∧ Cond.instanceMethod yX7_add ∈ TW ∧ Cond.selects RX7 yX7_add yX7_add ∈ TW := ⟨(tw_k 2 115 (by decide +kernel) (by decide +kernel)), (tw_k 1 154 (by decide +kernel) (by decide +kernel)), (tw_k 1 155 (by decide +kernel) (by decide +kernel))⟩
theorem ml_RX3_11 : Cond.methodLink RX3 11 yJx4a65c_init_da8c8 ∈ TW ∧ Cond.instanceMethod yJx4a65c_init_da8c8 ∈ TW := ⟨(tw_k 0 179 (by decide +kernel) (by decide +kernel)), (tw_k 0 41 (by decide +kernel) (by decide +kernel))⟩
theorem ml_RX3_25 : Cond.methodLink RX3 25 yJx4a65c_clear_da8c8 ∈ TW ∧ Cond.instanceMethod yJx4a65c_clear_da8c8 ∈ TW ∧ Cond.selects RJx4a65c yJx4a65c_clear_da8c8 yJx4a65c_clear_da8c8 ∈ TW := ⟨(tw_k 3 80 (by decide +kernel) (by decide +kernel)), (tw_k 3 81 (by decide +kernel) (by decide +kernel)), (tw_k 3 82 (by decide +kernel) (by decide +kernel))⟩
theorem ml_RX3_28 : Cond.methodLink RX3 28 yJx4a65c_size_8abf5 ∈ TW ∧ Cond.instanceMethod yJx4a65c_size_8abf5 ∈ TW ∧ Cond.selects RJx4a65c yJx4a65c_size_8abf5 yJx4a65c_size_8abf5 ∈ TW := ⟨(tw_k 3 84 (by decide +kernel) (by decide +kernel)), (tw_k 0 234 (by decide +kernel) (by decide +kernel)), (tw_k 0 235 (by decide +kernel) (by decide +kernel))⟩
theorem ml_RX3_32 : Cond.methodLink RX3 32 yJx4a65c_get_915e3 ∈ TW ∧ Cond.instanceMethod yJx4a65c_get_915e3 ∈ TW ∧ Cond.selects RJx4a65c yJx4a65c_get_915e3 yJx4a65c_get_915e3 ∈ TW := ⟨(tw_k 3 85 (by decide +kernel) (by decide +kernel)), (tw_k 1 132 (by decide +kernel) (by decide +kernel)), (tw_k 1 133 (by decide +kernel) (by decide +kernel))⟩
theorem ml_RX3_42 : Cond.methodLink RX3 42 yX3_following ∈ TW ∧ Cond.static yX3_following ∈ TW := ⟨(tw_k 3 87 (by decide +kernel) (by decide +kernel)), (tw_k 3 88 (by decide +kernel) (by decide +kernel))⟩
theorem ml_RX3_48 : Cond.methodLink RX3 48 yX10_init ∈ TW ∧ Cond.instanceMethod yX10_init ∈ TW := ⟨(tw_k 3 93 (by decide +kernel) (by decide +kernel)), (tw_k 3 94 (by decide +kernel) (by decide +kernel))⟩
theorem ml_RX3_60 : Cond.methodLink RX3 60 yJx4a65c_add_9ea2d ∈ TW ∧ Cond.instanceMethod yJx4a65c_add_9ea2d ∈ TW ∧ Cond.selects RJx4a65c yJx4a65c_add_9ea2d yJx4a65c_add_9ea2d ∈ TW := ⟨(tw_k 3 133 (by decide +kernel) (by decide +kernel)), (tw_k 1 62 (by decide +kernel) (by decide +kernel)), (tw_k 1 63 (by decide +kernel) (by decide +kernel))⟩
theorem ml_RX3_64 : Cond.methodLink RX3 64 yX3_queue ∈ TW ∧ Cond.instanceMethod yX3_queue ∈ TW ∧ Cond.selects RX3 yX3_queue yX3_queue ∈ TW := ⟨(tw_k 3 134 (by decide +kernel) (by decide +kernel)), (tw_k 3 136 (by decide +kernel) (by decide +kernel)), (tw_s 18 (by decide +kernel) (by decide +kernel))⟩
theorem ml_RX3_69 : Cond.methodLink RX3 69 yJx4a65c_add_7a177 ∈ TW ∧ Cond.instanceMethod yJx4a65c_add_7a177 ∈ TW ∧ Cond.selects RJx4a65c yJx4a65c_add_7a177 yJx4a65c_add_7a177 ∈ TW := ⟨(tw_k 3 138 (by decide +kernel) (by decide +kernel)), (tw_k 3 139 (by decide +kernel) (by decide +kernel)), (tw_k 3 140 (by decide +kernel) (by decide +kernel))⟩
theorem ml_RX3_72 : Cond.methodLink RX3 72 yX3_firstFree ∈ TW ∧ Cond.instanceMethod yX3_firstFree ∈ TW ∧ Cond.selects RX3 yX3_firstFree yX3_firstFree ∈ TW := ⟨(tw_k 3 151 (by decide +kernel) (by decide +kernel)), (tw_k 3 153 (by decide +kernel) (by decide +kernel)), (tw_s 20 (by decide +kernel) (by decide +kernel))⟩
theorem ml_RX3_75 : Cond.methodLink RX3 75 yJ9_max_7cf53 ∈ TW ∧ Cond.static yJ9_max_7cf53 ∈ TW := ⟨(tw_k 3 155 (by decide +kernel) (by decide +kernel)), (tw_k 1 81 (by decide +kernel) (by decide +kernel))⟩
theorem ml_RX4_11 : Cond.methodLink RX4 11 yX7_init ∈ TW ∧ Cond.instanceMethod yX7_init ∈ TW := ⟨(tw_k 0 136 (by decide +kernel) (by decide +kernel)), (tw_k 0 67 (by decide +kernel) (by decide +kernel))⟩
theorem ml_RX4_32 : Cond.methodLink RX4 32 yX7_add ∈ TW ∧ Cond.instanceMethod yX7_add ∈ TW ∧ Cond.selects RX7 yX7_add yX7_add ∈ TW := ⟨(tw_k 3 169 (by decide +kernel) (by decide +kernel)), (tw_k 1 154 (by decide +kernel) (by decide +kernel)), (tw_k 1 155 (by decide +kernel) (by decide +kernel))⟩
theorem ml_RX4_38 : Cond.methodLink RX4 38 yX7_at ∈ TW ∧ Cond.instanceMethod yX7_at ∈ TW ∧ Cond.selects RX7 yX7_at yX7_at ∈ TW := ⟨(tw_k 4 87 (by decide +kernel) (by decide +kernel)), (tw_k 1 180 (by decide +kernel) (by decide +kernel)), (tw_k 1 181 (by decide +kernel) (by decide +kernel))⟩
theorem ml_RX6_106 : Cond.methodLink RX6 106 yX6_firstOfRow ∈ TW ∧ Cond.instanceMethod yX6_firstOfRow ∈ TW ∧ Cond.selects RX6 yX6_firstOfRow yX6_firstOfRow ∈ TW := ⟨(tw_k 3 62 (by decide +kernel) (by decide +kernel)), (tw_k 3 64 (by decide +kernel) (by decide +kernel)), (tw_s 17 (by decide +kernel) (by decide +kernel))⟩
theorem ml_RX6_11 : Cond.methodLink RX6 11 yJx4a65c_init_da8c8 ∈ TW ∧ Cond.instanceMethod yJx4a65c_init_da8c8 ∈ TW := ⟨(tw_k 0 154 (by decide +kernel) (by decide +kernel)), (tw_k 0 41 (by decide +kernel) (by decide +kernel))⟩
theorem ml_RX6_111 : Cond.methodLink RX6 111 yX7_add ∈ TW ∧ Cond.instanceMethod yX7_add ∈ TW ∧ Cond.selects RX7 yX7_add yX7_add ∈ TW := ⟨(tw_k 3 66 (by decide +kernel) (by decide +kernel)), (tw_k 1 154 (by decide +kernel) (by decide +kernel)), (tw_k 1 155 (by decide +kernel) (by decide +kernel))⟩
theorem ml_RX6_20 : Cond.methodLink RX6 20 yX7_init ∈ TW ∧ Cond.instanceMethod yX7_init ∈ TW := ⟨(tw_k 0 156 (by decide +kernel) (by decide +kernel)), (tw_k 0 67 (by decide +kernel) (by decide +kernel))⟩
theorem ml_RX6_30 : Cond.methodLink RX6 30 yJx4a65c_size_8abf5 ∈ TW ∧ Cond.instanceMethod yJx4a65c_size_8abf5 ∈ TW ∧ Cond.selects RJx4a65c yJx4a65c_size_8abf5 yJx4a65c_size_8abf5 ∈ TW := ⟨(tw_k 2 136 (by decide +kernel) (by decide +kernel)), (tw_k 0 234 (by decide +kernel) (by decide +kernel)), (tw_k 0 235 (by decide +kernel) (by decide +kernel))⟩
theorem ml_RX6_34 : Cond.methodLink RX6 34 yJx4a65c_get_915e3 ∈ TW ∧ Cond.instanceMethod yJx4a65c_get_915e3 ∈ TW ∧ Cond.selects RJx4a65c yJx4a65c_get_915e3 yJx4a65c_get_915e3 ∈ TW := ⟨(tw_k 2 137 (by decide +kernel) (by decide +kernel)), (tw_k 1 132 (by decide +kernel) (by decide +kernel)), (tw_k 1 133 (by decide +kernel) (by decide +kernel))⟩
theorem ml_RX6_44 : Cond.methodLink RX6 44 yX6_dismissAll ∈ TW ∧ Cond.instanceMethod yX6_dismissAll ∈ TW ∧ Cond.selects RX6 yX6_dismissAll yX6_dismissAll ∈ TW := ⟨(tw_k 2 132 (by decide +kernel) (by decide +kernel)), (tw_k 2 134 (by decide +kernel) (by decide +kernel)), (tw_s 10 (by decide +kernel) (by decide +kernel))⟩
theorem ml_RX6_49 : Cond.methodLink RX6 49 yX5_moveTo ∈ TW ∧ Cond.instanceMethod yX5_moveTo ∈ TW ∧ Cond.selects RX5 yX5_moveTo yX5_moveTo ∈ TW := ⟨(tw_k 2 139 (by decide +kernel) (by decide +kernel)), (tw_k 2 140 (by decide +kernel) (by decide +kernel)), (tw_k 2 141 (by decide +kernel) (by decide +kernel))⟩
theorem ml_RX6_56 : Cond.methodLink RX6 56 yX1_isOpenTo ∈ TW ∧ Cond.instanceMethod yX1_isOpenTo ∈ TW ∧ Cond.selects RX1 yX1_isOpenTo yX1_isOpenTo ∈ TW := ⟨(tw_k 3 20 (by decide +kernel) (by decide +kernel)), (tw_k 3 0 (by decide +kernel) (by decide +kernel)), (tw_k 3 1 (by decide +kernel) (by decide +kernel))⟩
theorem ml_RX6_60 : Cond.methodLink RX6 60 yX6_lookWhoIsOpen ∈ TW ∧ Cond.instanceMethod yX6_lookWhoIsOpen ∈ TW ∧ Cond.selects RX6 yX6_lookWhoIsOpen yX6_lookWhoIsOpen ∈ TW := ⟨(tw_k 3 16 (by decide +kernel) (by decide +kernel)), (tw_k 3 18 (by decide +kernel) (by decide +kernel)), (tw_s 11 (by decide +kernel) (by decide +kernel))⟩
theorem ml_RX6_66 : Cond.methodLink RX6 66 yX6_seat ∈ TW ∧ Cond.instanceMethod yX6_seat ∈ TW ∧ Cond.selects RX6 yX6_seat yX6_seat ∈ TW := ⟨(tw_k 3 21 (by decide +kernel) (by decide +kernel)), (tw_k 3 23 (by decide +kernel) (by decide +kernel)), (tw_s 12 (by decide +kernel) (by decide +kernel))⟩
theorem ml_RX6_70 : Cond.methodLink RX6 70 yX6_seatAllInLeast ∈ TW ∧ Cond.instanceMethod yX6_seatAllInLeast ∈ TW ∧ Cond.selects RX6 yX6_seatAllInLeast yX6_seatAllInLeast ∈ TW := ⟨(tw_k 3 37 (by decide +kernel) (by decide +kernel)), (tw_k 3 39 (by decide +kernel) (by decide +kernel)), (tw_s 15 (by decide +kernel) (by decide +kernel))⟩
theorem ml_RX6_80 : Cond.methodLink RX6 80 yX6_seatElsewhere ∈ TW ∧ Cond.instanceMethod yX6_seatElsewhere ∈ TW ∧ Cond.selects RX6 yX6_seatElsewhere yX6_seatElsewhere ∈ TW := ⟨(tw_k 3 25 (by decide +kernel) (by decide +kernel)), (tw_k 3 27 (by decide +kernel) (by decide +kernel)), (tw_s 13 (by decide +kernel) (by decide +kernel))⟩
theorem ml_RX6_84 : Cond.methodLink RX6 84 yX5_canBeIn ∈ TW ∧ Cond.instanceMethod yX5_canBeIn ∈ TW ∧ Cond.selects RX5 yX5_canBeIn yX5_canBeIn ∈ TW := ⟨(tw_k 3 29 (by decide +kernel) (by decide +kernel)), (tw_k 3 30 (by decide +kernel) (by decide +kernel)), (tw_k 3 31 (by decide +kernel) (by decide +kernel))⟩
theorem ml_RX6_88 : Cond.methodLink RX6 88 yX6_makeRoom ∈ TW ∧ Cond.instanceMethod yX6_makeRoom ∈ TW ∧ Cond.selects RX6 yX6_makeRoom yX6_makeRoom ∈ TW := ⟨(tw_k 3 33 (by decide +kernel) (by decide +kernel)), (tw_k 3 35 (by decide +kernel) (by decide +kernel)), (tw_s 14 (by decide +kernel) (by decide +kernel))⟩
theorem ml_RX6_98 : Cond.methodLink RX6 98 yX6_measureRows ∈ TW ∧ Cond.instanceMethod yX6_measureRows ∈ TW ∧ Cond.selects RX6 yX6_measureRows yX6_measureRows ∈ TW := ⟨(tw_k 3 58 (by decide +kernel) (by decide +kernel)), (tw_k 3 60 (by decide +kernel) (by decide +kernel)), (tw_s 16 (by decide +kernel) (by decide +kernel))⟩
theorem ml_RX8_17 : Cond.methodLink RX8 17 yX9_isWord ∈ TW ∧ Cond.instanceMethod yX9_isWord ∈ TW ∧ Cond.selects RX9 yX9_isWord yX9_isWord ∈ TW := ⟨(tw_k 2 176 (by decide +kernel) (by decide +kernel)), (tw_k 1 192 (by decide +kernel) (by decide +kernel)), (tw_k 1 193 (by decide +kernel) (by decide +kernel))⟩
theorem ml_RX8_30 : Cond.methodLink RX8 30 yX9_passNumber ∈ TW ∧ Cond.instanceMethod yX9_passNumber ∈ TW ∧ Cond.selects RX9 yX9_passNumber yX9_passNumber ∈ TW := ⟨(tw_k 2 205 (by decide +kernel) (by decide +kernel)), (tw_k 2 69 (by decide +kernel) (by decide +kernel)), (tw_k 2 70 (by decide +kernel) (by decide +kernel))⟩
theorem ml_RX8_42 : Cond.methodLink RX8 42 yX9_passNumberAfter ∈ TW ∧ Cond.instanceMethod yX9_passNumberAfter ∈ TW ∧ Cond.selects RX9 yX9_passNumberAfter yX9_passNumberAfter ∈ TW := ⟨(tw_k 2 207 (by decide +kernel) (by decide +kernel)), (tw_k 2 59 (by decide +kernel) (by decide +kernel)), (tw_k 2 60 (by decide +kernel) (by decide +kernel))⟩
theorem ml_RX8_54 : Cond.methodLink RX8 54 yX9_passWord ∈ TW ∧ Cond.instanceMethod yX9_passWord ∈ TW ∧ Cond.selects RX9 yX9_passWord yX9_passWord ∈ TW := ⟨(tw_k 2 210 (by decide +kernel) (by decide +kernel)), (tw_k 2 63 (by decide +kernel) (by decide +kernel)), (tw_k 2 64 (by decide +kernel) (by decide +kernel))⟩
theorem ml_RX8_57 : Cond.methodLink RX8 57 yX8_quarters ∈ TW ∧ Cond.instanceMethod yX8_quarters ∈ TW ∧ Cond.selects RX8 yX8_quarters yX8_quarters ∈ TW := ⟨(tw_k 3 197 (by decide +kernel) (by decide +kernel)), (tw_k 3 199 (by decide +kernel) (by decide +kernel)), (tw_s 23 (by decide +kernel) (by decide +kernel))⟩
theorem ml_RX9_25 : Cond.methodLink RX9 25 yX9_advance ∈ TW ∧ Cond.instanceMethod yX9_advance ∈ TW ∧ Cond.selects RX9 yX9_advance yX9_advance ∈ TW := ⟨(tw_k 1 175 (by decide +kernel) (by decide +kernel)), (tw_k 1 176 (by decide +kernel) (by decide +kernel)), (tw_k 1 177 (by decide +kernel) (by decide +kernel))⟩
theorem ml_RX9_36 : Cond.methodLink RX9 36 yX7_at ∈ TW ∧ Cond.instanceMethod yX7_at ∈ TW ∧ Cond.selects RX7 yX7_at yX7_at ∈ TW := ⟨(tw_k 1 179 (by decide +kernel) (by decide +kernel)), (tw_k 1 180 (by decide +kernel) (by decide +kernel)), (tw_k 1 181 (by decide +kernel) (by decide +kernel))⟩
theorem ml_RX9_40 : Cond.methodLink RX9 40 yX9_kindOf ∈ TW ∧ Cond.static yX9_kindOf ∈ TW := ⟨(tw_k 1 183 (by decide +kernel) (by decide +kernel)), (tw_k 1 184 (by decide +kernel) (by decide +kernel))⟩
theorem ml_RX9_49 : Cond.methodLink RX9 49 yJ0_length_8abf5 ∈ TW ∧ Cond.instanceMethod yJ0_length_8abf5 ∈ TW ∧ Cond.selects RJ0 yJ0_length_8abf5 yJ0_length_8abf5 ∈ TW := ⟨(tw_k 1 195 (by decide +kernel) (by decide +kernel)), (tw_k 1 196 (by decide +kernel) (by decide +kernel)), (tw_k 1 197 (by decide +kernel) (by decide +kernel))⟩
theorem ml_RX9_55 : Cond.methodLink RX9 55 yJ0_charAt_5068e ∈ TW ∧ Cond.instanceMethod yJ0_charAt_5068e ∈ TW ∧ Cond.selects RJ0 yJ0_charAt_5068e yJ0_charAt_5068e ∈ TW := ⟨(tw_k 1 205 (by decide +kernel) (by decide +kernel)), (tw_k 1 206 (by decide +kernel) (by decide +kernel)), (tw_k 1 207 (by decide +kernel) (by decide +kernel))⟩
theorem ml_RX9_59 : Cond.methodLink RX9 59 yX9_isWord ∈ TW ∧ Cond.instanceMethod yX9_isWord ∈ TW ∧ Cond.selects RX9 yX9_isWord yX9_isWord ∈ TW := ⟨(tw_k 2 66 (by decide +kernel) (by decide +kernel)), (tw_k 1 192 (by decide +kernel) (by decide +kernel)), (tw_k 1 193 (by decide +kernel) (by decide +kernel))⟩
theorem ml_RX9_63 : Cond.methodLink RX9 63 yX9_fail ∈ TW ∧ Cond.instanceMethod yX9_fail ∈ TW ∧ Cond.selects RX9 yX9_fail yX9_fail ∈ TW := ⟨(tw_k 2 67 (by decide +kernel) (by decide +kernel)), (tw_k 2 2 (by decide +kernel) (by decide +kernel)), (tw_k 2 3 (by decide +kernel) (by decide +kernel))⟩
theorem ml_RX9_67 : Cond.methodLink RX9 67 yX9_isSign ∈ TW ∧ Cond.instanceMethod yX9_isSign ∈ TW ∧ Cond.selects RX9 yX9_isSign yX9_isSign ∈ TW := ⟨(tw_k 2 80 (by decide +kernel) (by decide +kernel)), (tw_k 2 81 (by decide +kernel) (by decide +kernel)), (tw_k 2 82 (by decide +kernel) (by decide +kernel))⟩
theorem ml_RX9_71 : (RX9, 71, yX11_within, "ExtrasOffice") ∈ nestW ∧ Cond.static yX11_within ∈ TW := ⟨(by decide +kernel), (tw_k 0 230 (by decide +kernel) (by decide +kernel))⟩
theorem ml_RX9_75 : Cond.methodLink RX9 75 yX9_passWord ∈ TW ∧ Cond.instanceMethod yX9_passWord ∈ TW ∧ Cond.selects RX9 yX9_passWord yX9_passWord ∈ TW := ⟨(tw_k 2 62 (by decide +kernel) (by decide +kernel)), (tw_k 2 63 (by decide +kernel) (by decide +kernel)), (tw_k 2 64 (by decide +kernel) (by decide +kernel))⟩
theorem ml_RX9_78 : Cond.methodLink RX9 78 yX9_passNumber ∈ TW ∧ Cond.instanceMethod yX9_passNumber ∈ TW ∧ Cond.selects RX9 yX9_passNumber yX9_passNumber ∈ TW := ⟨(tw_k 2 68 (by decide +kernel) (by decide +kernel)), (tw_k 2 69 (by decide +kernel) (by decide +kernel)), (tw_k 2 70 (by decide +kernel) (by decide +kernel))⟩
theorem cl_RJ7_110 : Cond.classLink RJ7 110 "[Ljava/lang/Object;" ∈ TW := (tw_k 1 112 (by decide +kernel) (by decide +kernel))
theorem cl_RJ7_2 : Cond.classLink RJ7 2 "java/lang/Object" ∈ TW := (tw_k 1 114 (by decide +kernel) (by decide +kernel))
theorem cl_RJx4a65c_7 : Cond.classLink RJx4a65c 7 "java/lang/Object" ∈ TW := (tw_k 1 122 (by decide +kernel) (by decide +kernel))
theorem cl_RX0_31 : Cond.classLink RX0 31 "ExtrasOffice$Term" ∈ TW := (tw_k 2 170 (by decide +kernel) (by decide +kernel))
theorem cl_RX11_121 : Cond.classLink RX11 121 "ExtrasOffice$Agreement" ∈ TW := (tw_k 2 147 (by decide +kernel) (by decide +kernel))
theorem cl_RX11_192 : Cond.classLink RX11 192 "ExtrasOffice$Turn" ∈ TW := (tw_k 3 160 (by decide +kernel) (by decide +kernel))
theorem cl_RX11_84 : Cond.classLink RX11 84 "ExtrasOffice$Person" ∈ TW := (tw_k 0 237 (by decide +kernel) (by decide +kernel))
theorem cl_RX3_36 : Cond.classLink RX3 36 "ExtrasOffice$Person" ∈ TW := (tw_k 3 86 (by decide +kernel) (by decide +kernel))
theorem cl_RX3_46 : Cond.classLink RX3 46 "ExtrasOffice$Turn" ∈ TW := (tw_k 3 91 (by decide +kernel) (by decide +kernel))
theorem cl_RX6_38 : Cond.classLink RX6 38 "ExtrasOffice$Ask" ∈ TW := (tw_k 2 225 (by decide +kernel) (by decide +kernel))
theorem cl_RX6_47 : Cond.classLink RX6 47 "ExtrasOffice$Person" ∈ TW := (tw_k 2 138 (by decide +kernel) (by decide +kernel))
theorem ct_RJ8_200 : Cond.constant RJ8 200 (2147483639) ∈ TW := (tw_k 1 83 (by decide +kernel) (by decide +kernel))
theorem ct_RX11_79 : Cond.constant RX11 79 (65535) ∈ TW := (tw_k 0 232 (by decide +kernel) (by decide +kernel))
theorem ct_RX12_158 : Cond.constant RX12 158 (65535) ∈ TW := (tw_k 5 71 (by decide +kernel) (by decide +kernel))
theorem ct_RX12_275 : Cond.constant RX12 275 (99999) ∈ TW := (tw_k 5 183 (by decide +kernel) (by decide +kernel))
theorem ct_RX12_361 : Cond.constant RX12 361 (1103515245) ∈ TW := (tw_k 6 32 (by decide +kernel) (by decide +kernel))
theorem ct_RX1_21 : Cond.constant RX1 21 (99999) ∈ TW := (tw_k 2 112 (by decide +kernel) (by decide +kernel))
theorem ct_RX1_53 : Cond.constant RX1 53 (100000) ∈ TW := (tw_k 2 230 (by decide +kernel) (by decide +kernel))
theorem ct_RX1_54 : Cond.constantLong RX1 54 (-2) ∈ TW := (tw_k 2 231 (by decide +kernel) (by decide +kernel))
theorem ct_RX2_101 : Cond.constant RX2 101 (1000000) ∈ TW := (tw_k 2 119 (by decide +kernel) (by decide +kernel))
theorem ct_RX2_115 : Cond.constant RX2 115 (800000) ∈ TW := (tw_k 2 116 (by decide +kernel) (by decide +kernel))
theorem ct_RX2_128 : Cond.constant RX2 128 (100000) ∈ TW := (tw_k 2 114 (by decide +kernel) (by decide +kernel))
theorem ct_RX2_96 : Cond.constant RX2 96 (900000) ∈ TW := (tw_k 2 117 (by decide +kernel) (by decide +kernel))
theorem ct_RX3_68 : Cond.constant RX3 68 (1103515245) ∈ TW := (tw_k 3 90 (by decide +kernel) (by decide +kernel))
theorem ct_RX8_29 : Cond.constant RX8 29 (99999) ∈ TW := (tw_k 2 204 (by decide +kernel) (by decide +kernel))
theorem ac_boolean : Cond.arrayClass .boolean ∈ TW := (tw_k 5 63 (by decide +kernel) (by decide +kernel))
theorem ac_byte : Cond.arrayClass .byte ∈ TW := (tw_k 2 53 (by decide +kernel) (by decide +kernel))
theorem ac_int : Cond.arrayClass .int ∈ TW := (tw_k 0 83 (by decide +kernel) (by decide +kernel))
theorem gc_RJ7_86 : Cond.methodLink RJ7 86 ⟨"java/lang/Object", "getClass", "()Ljava/lang/Class;"⟩ ∈ TW ∧ Cond.selects "[Ljava/lang/Object;" ⟨"java/lang/Object", "getClass", "()Ljava/lang/Class;"⟩ ⟨"java/lang/Object", "getClass", "()Ljava/lang/Class;"⟩ ∈ TW ∧ Cond.instanceMethod ⟨"java/lang/Object", "getClass", "()Ljava/lang/Class;"⟩ ∈ TW ∧ Cond.native ⟨"java/lang/Object", "getClass", "()Ljava/lang/Class;"⟩ ∈ TW := ⟨(tw_k 1 90 (by decide +kernel) (by decide +kernel)), (tw_k 6 101 (by decide +kernel) (by decide +kernel)), (tw_k 1 91 (by decide +kernel) (by decide +kernel)), (tw_k 1 108 (by decide +kernel) (by decide +kernel))⟩
theorem gs_RJx4a65c_39 : Cond.fieldLink RJx4a65c 39 "java/util/ArrayList" "DEFAULTCAPACITY_EMPTY_ELEMENTDATA" "[Ljava/lang/Object;" ∈ TW := (tw_k 0 50 (by decide +kernel) (by decide +kernel))
theorem nw_RX0_31 : Cond.classLink RX0 31 RX8 ∈ TW ∧ Cond.instantiable RX8 4 ∈ TW ∧ Cond.initialized RX8 ∈ TW := ⟨(tw_k 2 170 (by decide +kernel) (by decide +kernel)), (tw_k 2 171 (by decide +kernel) (by decide +kernel)), (tw_k 0 24 (by decide +kernel) (by decide +kernel))⟩
theorem nw_RX0_9 : Cond.classLink RX0 9 RJx4a65c ∈ TW ∧ Cond.instantiable RJx4a65c 3 ∈ TW ∧ Cond.initialized RJx4a65c ∈ TW := ⟨(tw_k 2 153 (by decide +kernel) (by decide +kernel)), (tw_k 0 39 (by decide +kernel) (by decide +kernel)), (tw_k 0 4 (by decide +kernel) (by decide +kernel))⟩
theorem nw_RX11_121 : Cond.classLink RX11 121 RX0 ∈ TW ∧ Cond.instantiable RX0 2 ∈ TW ∧ Cond.initialized RX0 ∈ TW := ⟨(tw_k 2 147 (by decide +kernel) (by decide +kernel)), (tw_k 2 148 (by decide +kernel) (by decide +kernel)), (tw_k 0 23 (by decide +kernel) (by decide +kernel))⟩
theorem nw_RX11_16 : Cond.classLink RX11 16 RX7 ∈ TW ∧ Cond.instantiable RX7 2 ∈ TW ∧ Cond.initialized RX7 ∈ TW := ⟨(tw_k 0 64 (by decide +kernel) (by decide +kernel)), (tw_k 0 65 (by decide +kernel) (by decide +kernel)), (tw_k 0 5 (by decide +kernel) (by decide +kernel))⟩
theorem nw_RX11_25 : Cond.classLink RX11 25 RX9 ∈ TW ∧ Cond.instantiable RX9 7 ∈ TW ∧ Cond.initialized RX9 ∈ TW := ⟨(tw_k 0 84 (by decide +kernel) (by decide +kernel)), (tw_k 0 85 (by decide +kernel) (by decide +kernel)), (tw_k 0 6 (by decide +kernel) (by decide +kernel))⟩
theorem nw_RX11_34 : Cond.classLink RX11 34 RX2 ∈ TW ∧ Cond.instantiable RX2 2 ∈ TW ∧ Cond.initialized RX2 ∈ TW := ⟨(tw_k 0 114 (by decide +kernel) (by decide +kernel)), (tw_k 0 115 (by decide +kernel) (by decide +kernel)), (tw_k 0 7 (by decide +kernel) (by decide +kernel))⟩
theorem nw_RX11_46 : Cond.classLink RX11 46 RX4 ∈ TW ∧ Cond.instantiable RX4 3 ∈ TW ∧ Cond.initialized RX4 ∈ TW := ⟨(tw_k 0 129 (by decide +kernel) (by decide +kernel)), (tw_k 0 130 (by decide +kernel) (by decide +kernel)), (tw_k 0 8 (by decide +kernel) (by decide +kernel))⟩
theorem nw_RX11_53 : Cond.classLink RX11 53 RX6 ∈ TW ∧ Cond.instantiable RX6 4 ∈ TW ∧ Cond.initialized RX6 ∈ TW := ⟨(tw_k 0 147 (by decide +kernel) (by decide +kernel)), (tw_k 0 148 (by decide +kernel) (by decide +kernel)), (tw_k 0 9 (by decide +kernel) (by decide +kernel))⟩
theorem nw_RX11_62 : Cond.classLink RX11 62 RX3 ∈ TW ∧ Cond.instantiable RX3 3 ∈ TW ∧ Cond.initialized RX3 ∈ TW := ⟨(tw_k 0 172 (by decide +kernel) (by decide +kernel)), (tw_k 0 173 (by decide +kernel) (by decide +kernel)), (tw_k 0 10 (by decide +kernel) (by decide +kernel))⟩
theorem nw_RX11_7 : Cond.classLink RX11 7 RJx4a65c ∈ TW ∧ Cond.instantiable RJx4a65c 3 ∈ TW ∧ Cond.initialized RJx4a65c ∈ TW := ⟨(tw_k 0 38 (by decide +kernel) (by decide +kernel)), (tw_k 0 39 (by decide +kernel) (by decide +kernel)), (tw_k 0 4 (by decide +kernel) (by decide +kernel))⟩
theorem nw_RX11_84 : Cond.classLink RX11 84 RX5 ∈ TW ∧ Cond.instantiable RX5 12 ∈ TW ∧ Cond.initialized RX5 ∈ TW := ⟨(tw_k 0 237 (by decide +kernel) (by decide +kernel)), (tw_k 0 238 (by decide +kernel) (by decide +kernel)), (tw_k 0 12 (by decide +kernel) (by decide +kernel))⟩
theorem nw_RX2_24 : Cond.classLink RX2 24 RJx4a65c ∈ TW ∧ Cond.instantiable RJx4a65c 3 ∈ TW ∧ Cond.initialized RJx4a65c ∈ TW := ⟨(tw_k 1 169 (by decide +kernel) (by decide +kernel)), (tw_k 0 39 (by decide +kernel) (by decide +kernel)), (tw_k 0 4 (by decide +kernel) (by decide +kernel))⟩
theorem nw_RX2_46 : Cond.classLink RX2 46 RX1 ∈ TW ∧ Cond.instantiable RX1 9 ∈ TW ∧ Cond.initialized RX1 ∈ TW := ⟨(tw_k 2 5 (by decide +kernel) (by decide +kernel)), (tw_k 2 6 (by decide +kernel) (by decide +kernel)), (tw_k 0 22 (by decide +kernel) (by decide +kernel))⟩
theorem nw_RX2_9 : Cond.classLink RX2 9 RX7 ∈ TW ∧ Cond.instantiable RX7 2 ∈ TW ∧ Cond.initialized RX7 ∈ TW := ⟨(tw_k 0 120 (by decide +kernel) (by decide +kernel)), (tw_k 0 65 (by decide +kernel) (by decide +kernel)), (tw_k 0 5 (by decide +kernel) (by decide +kernel))⟩
theorem nw_RX3_46 : Cond.classLink RX3 46 RX10 ∈ TW ∧ Cond.instantiable RX10 9 ∈ TW ∧ Cond.initialized RX10 ∈ TW := ⟨(tw_k 3 91 (by decide +kernel) (by decide +kernel)), (tw_k 3 92 (by decide +kernel) (by decide +kernel)), (tw_k 0 25 (by decide +kernel) (by decide +kernel))⟩
theorem nw_RX3_9 : Cond.classLink RX3 9 RJx4a65c ∈ TW ∧ Cond.instantiable RJx4a65c 3 ∈ TW ∧ Cond.initialized RJx4a65c ∈ TW := ⟨(tw_k 0 178 (by decide +kernel) (by decide +kernel)), (tw_k 0 39 (by decide +kernel) (by decide +kernel)), (tw_k 0 4 (by decide +kernel) (by decide +kernel))⟩
theorem nw_RX4_9 : Cond.classLink RX4 9 RX7 ∈ TW ∧ Cond.instantiable RX7 2 ∈ TW ∧ Cond.initialized RX7 ∈ TW := ⟨(tw_k 0 135 (by decide +kernel) (by decide +kernel)), (tw_k 0 65 (by decide +kernel) (by decide +kernel)), (tw_k 0 5 (by decide +kernel) (by decide +kernel))⟩
theorem nw_RX6_18 : Cond.classLink RX6 18 RX7 ∈ TW ∧ Cond.instantiable RX7 2 ∈ TW ∧ Cond.initialized RX7 ∈ TW := ⟨(tw_k 0 155 (by decide +kernel) (by decide +kernel)), (tw_k 0 65 (by decide +kernel) (by decide +kernel)), (tw_k 0 5 (by decide +kernel) (by decide +kernel))⟩
theorem nw_RX6_9 : Cond.classLink RX6 9 RJx4a65c ∈ TW ∧ Cond.instantiable RJx4a65c 3 ∈ TW ∧ Cond.initialized RJx4a65c ∈ TW := ⟨(tw_k 0 153 (by decide +kernel) (by decide +kernel)), (tw_k 0 39 (by decide +kernel) (by decide +kernel)), (tw_k 0 4 (by decide +kernel) (by decide +kernel))⟩
theorem oi_RJxa1e45_1 : Cond.methodLink RJxa1e45 1 Lib.objectInit ∈ TW ∧ Cond.instanceMethod Lib.objectInit ∈ TW ∧ Cond.code Lib.objectInit ⟨#[0xb1]⟩ 1 none ∈ TW := ⟨(tw_k 0 49 (by decide +kernel) (by decide +kernel)), (tw_k 0 36 (by decide +kernel) (by decide +kernel)), (tw_k 0 37 (by decide +kernel) (by decide +kernel))⟩
theorem oi_RX0_3 : Cond.methodLink RX0 3 Lib.objectInit ∈ TW ∧ Cond.instanceMethod Lib.objectInit ∈ TW ∧ Cond.code Lib.objectInit ⟨#[0xb1]⟩ 1 none ∈ TW := ⟨(tw_k 2 152 (by decide +kernel) (by decide +kernel)), (tw_k 0 36 (by decide +kernel) (by decide +kernel)), (tw_k 0 37 (by decide +kernel) (by decide +kernel))⟩
theorem oi_RX10_3 : Cond.methodLink RX10 3 Lib.objectInit ∈ TW ∧ Cond.instanceMethod Lib.objectInit ∈ TW ∧ Cond.code Lib.objectInit ⟨#[0xb1]⟩ 1 none ∈ TW := ⟨(tw_k 3 96 (by decide +kernel) (by decide +kernel)), (tw_k 0 36 (by decide +kernel) (by decide +kernel)), (tw_k 0 37 (by decide +kernel) (by decide +kernel))⟩
theorem oi_RX11_1 : Cond.methodLink RX11 1 Lib.objectInit ∈ TW ∧ Cond.instanceMethod Lib.objectInit ∈ TW ∧ Cond.code Lib.objectInit ⟨#[0xb1]⟩ 1 none ∈ TW := ⟨(tw_k 0 35 (by decide +kernel) (by decide +kernel)), (tw_k 0 36 (by decide +kernel) (by decide +kernel)), (tw_k 0 37 (by decide +kernel) (by decide +kernel))⟩
theorem oi_RX12_7 : Cond.methodLink RX12 7 Lib.objectInit ∈ TW ∧ Cond.instanceMethod Lib.objectInit ∈ TW ∧ Cond.code Lib.objectInit ⟨#[0xb1]⟩ 1 none ∈ TW := ⟨(tw_k 4 97 (by decide +kernel) (by decide +kernel)), (tw_k 0 36 (by decide +kernel) (by decide +kernel)), (tw_k 0 37 (by decide +kernel) (by decide +kernel))⟩
theorem oi_RX1_3 : Cond.methodLink RX1 3 Lib.objectInit ∈ TW ∧ Cond.instanceMethod Lib.objectInit ∈ TW ∧ Cond.code Lib.objectInit ⟨#[0xb1]⟩ 1 none ∈ TW := ⟨(tw_k 2 10 (by decide +kernel) (by decide +kernel)), (tw_k 0 36 (by decide +kernel) (by decide +kernel)), (tw_k 0 37 (by decide +kernel) (by decide +kernel))⟩
theorem oi_RX2_3 : Cond.methodLink RX2 3 Lib.objectInit ∈ TW ∧ Cond.instanceMethod Lib.objectInit ∈ TW ∧ Cond.code Lib.objectInit ⟨#[0xb1]⟩ 1 none ∈ TW := ⟨(tw_k 0 119 (by decide +kernel) (by decide +kernel)), (tw_k 0 36 (by decide +kernel) (by decide +kernel)), (tw_k 0 37 (by decide +kernel) (by decide +kernel))⟩
theorem oi_RX3_3 : Cond.methodLink RX3 3 Lib.objectInit ∈ TW ∧ Cond.instanceMethod Lib.objectInit ∈ TW ∧ Cond.code Lib.objectInit ⟨#[0xb1]⟩ 1 none ∈ TW := ⟨(tw_k 0 177 (by decide +kernel) (by decide +kernel)), (tw_k 0 36 (by decide +kernel) (by decide +kernel)), (tw_k 0 37 (by decide +kernel) (by decide +kernel))⟩
theorem oi_RX4_3 : Cond.methodLink RX4 3 Lib.objectInit ∈ TW ∧ Cond.instanceMethod Lib.objectInit ∈ TW ∧ Cond.code Lib.objectInit ⟨#[0xb1]⟩ 1 none ∈ TW := ⟨(tw_k 0 134 (by decide +kernel) (by decide +kernel)), (tw_k 0 36 (by decide +kernel) (by decide +kernel)), (tw_k 0 37 (by decide +kernel) (by decide +kernel))⟩
theorem oi_RX5_3 : Cond.methodLink RX5 3 Lib.objectInit ∈ TW ∧ Cond.instanceMethod Lib.objectInit ∈ TW ∧ Cond.code Lib.objectInit ⟨#[0xb1]⟩ 1 none ∈ TW := ⟨(tw_k 1 2 (by decide +kernel) (by decide +kernel)), (tw_k 0 36 (by decide +kernel) (by decide +kernel)), (tw_k 0 37 (by decide +kernel) (by decide +kernel))⟩
theorem oi_RX6_3 : Cond.methodLink RX6 3 Lib.objectInit ∈ TW ∧ Cond.instanceMethod Lib.objectInit ∈ TW ∧ Cond.code Lib.objectInit ⟨#[0xb1]⟩ 1 none ∈ TW := ⟨(tw_k 0 152 (by decide +kernel) (by decide +kernel)), (tw_k 0 36 (by decide +kernel) (by decide +kernel)), (tw_k 0 37 (by decide +kernel) (by decide +kernel))⟩
theorem oi_RX7_3 : Cond.methodLink RX7 3 Lib.objectInit ∈ TW ∧ Cond.instanceMethod Lib.objectInit ∈ TW ∧ Cond.code Lib.objectInit ⟨#[0xb1]⟩ 1 none ∈ TW := ⟨(tw_k 0 69 (by decide +kernel) (by decide +kernel)), (tw_k 0 36 (by decide +kernel) (by decide +kernel)), (tw_k 0 37 (by decide +kernel) (by decide +kernel))⟩
theorem oi_RX8_3 : Cond.methodLink RX8 3 Lib.objectInit ∈ TW ∧ Cond.instanceMethod Lib.objectInit ∈ TW ∧ Cond.code Lib.objectInit ⟨#[0xb1]⟩ 1 none ∈ TW := ⟨(tw_k 2 183 (by decide +kernel) (by decide +kernel)), (tw_k 0 36 (by decide +kernel) (by decide +kernel)), (tw_k 0 37 (by decide +kernel) (by decide +kernel))⟩
theorem oi_RX9_3 : Cond.methodLink RX9 3 Lib.objectInit ∈ TW ∧ Cond.instanceMethod Lib.objectInit ∈ TW ∧ Cond.code Lib.objectInit ⟨#[0xb1]⟩ 1 none ∈ TW := ⟨(tw_k 0 89 (by decide +kernel) (by decide +kernel)), (tw_k 0 36 (by decide +kernel) (by decide +kernel)), (tw_k 0 37 (by decide +kernel) (by decide +kernel))⟩
theorem sc_RJ7_150 : Cond.methodLink RJ7 150 arraycopyName ∈ TW ∧ Cond.native arraycopyName ∈ TW ∧ Cond.static arraycopyName ∈ TW ∧ Cond.initialized "java/lang/System" ∈ TW := ⟨(tw_k 1 118 (by decide +kernel) (by decide +kernel)), (tw_k 1 120 (by decide +kernel) (by decide +kernel)), (tw_k 1 119 (by decide +kernel) (by decide +kernel)), (tw_k 0 16 (by decide +kernel) (by decide +kernel))⟩
theorem sc_RJx4a65c_112 : Cond.methodLink RJx4a65c 112 arraycopyName ∈ TW ∧ Cond.native arraycopyName ∈ TW ∧ Cond.static arraycopyName ∈ TW ∧ Cond.initialized "java/lang/System" ∈ TW := ⟨(tw_k 3 146 (by decide +kernel) (by decide +kernel)), (tw_k 1 120 (by decide +kernel) (by decide +kernel)), (tw_k 1 119 (by decide +kernel) (by decide +kernel)), (tw_k 0 16 (by decide +kernel) (by decide +kernel))⟩
end
section
/-! decode rows -/
theorem d_J0_charAt_5068e_0 : decode (mC M_J0_charAt_5068e) 0 = .ok (.aload_n 0, 1) := by decide +kernel
theorem d_J0_charAt_5068e_1 : decode (mC M_J0_charAt_5068e) 1 = .ok (.invokevirtual 492, 3) := by decide +kernel
theorem d_J0_charAt_5068e_4 : decode (mC M_J0_charAt_5068e) 4 = .ok (.ifCond .eq 12, 3) := by decide +kernel
theorem d_J0_charAt_5068e_7 : decode (mC M_J0_charAt_5068e) 7 = .ok (.aload_n 0, 1) := by decide +kernel
theorem d_J0_charAt_5068e_8 : decode (mC M_J0_charAt_5068e) 8 = .ok (.getfield 9, 3) := by decide +kernel
theorem d_J0_charAt_5068e_11 : decode (mC M_J0_charAt_5068e) 11 = .ok (.iload_n 1, 1) := by decide +kernel
theorem d_J0_charAt_5068e_12 : decode (mC M_J0_charAt_5068e) 12 = .ok (.invokestatic 495, 3) := by decide +kernel
theorem d_J0_charAt_5068e_15 : decode (mC M_J0_charAt_5068e) 15 = .ok (.ireturn, 1) := by decide +kernel
theorem d_J0_charAt_5068e_16 : decode (mC M_J0_charAt_5068e) 16 = .ok (.aload_n 0, 1) := by decide +kernel
theorem d_J0_charAt_5068e_17 : decode (mC M_J0_charAt_5068e) 17 = .ok (.getfield 9, 3) := by decide +kernel
theorem d_J0_charAt_5068e_20 : decode (mC M_J0_charAt_5068e) 20 = .ok (.iload_n 1, 1) := by decide +kernel
theorem d_J0_charAt_5068e_21 : decode (mC M_J0_charAt_5068e) 21 = .ok (.invokestatic 498, 3) := by decide +kernel
theorem d_J0_charAt_5068e_24 : decode (mC M_J0_charAt_5068e) 24 = .ok (.ireturn, 1) := by decide +kernel
theorem d_J0_checkIndex_df160_0 : decode (mC M_J0_checkIndex_df160) 0 = .ok (.iload_n 0, 1) := by decide +kernel
theorem d_J0_checkIndex_df160_1 : decode (mC M_J0_checkIndex_df160) 1 = .ok (.iload_n 1, 1) := by decide +kernel
theorem d_J0_checkIndex_df160_2 : decode (mC M_J0_checkIndex_df160) 2 = .ok (.getstatic 1053, 3) := by decide +kernel
theorem d_J0_checkIndex_df160_5 : decode (mC M_J0_checkIndex_df160) 5 = .ok (.invokestatic 1059, 3) := by decide +kernel
theorem d_J0_checkIndex_df160_8 : decode (mC M_J0_checkIndex_df160) 8 = .ok (.pop, 1) := by decide +kernel
theorem d_J0_checkIndex_df160_9 : decode (mC M_J0_checkIndex_df160) 9 = .ok (.return_, 1) := by decide +kernel
theorem d_J0_coder_7d493_0 : decode (mC M_J0_coder_7d493) 0 = .ok (.getstatic 38, 3) := by decide +kernel
theorem d_J0_coder_7d493_3 : decode (mC M_J0_coder_7d493) 3 = .ok (.ifCond .eq 10, 3) := by decide +kernel
theorem d_J0_coder_7d493_6 : decode (mC M_J0_coder_7d493) 6 = .ok (.aload_n 0, 1) := by decide +kernel
theorem d_J0_coder_7d493_7 : decode (mC M_J0_coder_7d493) 7 = .ok (.getfield 15, 3) := by decide +kernel
theorem d_J0_coder_7d493_10 : decode (mC M_J0_coder_7d493) 10 = .ok (.goto 4, 3) := by decide +kernel
theorem d_J0_coder_7d493_13 : decode (mC M_J0_coder_7d493) 13 = .ok (.iconst 1, 1) := by decide +kernel
theorem d_J0_coder_7d493_14 : decode (mC M_J0_coder_7d493) 14 = .ok (.ireturn, 1) := by decide +kernel
theorem d_J0_isLatin1_aae02_0 : decode (mC M_J0_isLatin1_aae02) 0 = .ok (.getstatic 38, 3) := by decide +kernel
theorem d_J0_isLatin1_aae02_3 : decode (mC M_J0_isLatin1_aae02) 3 = .ok (.ifCond .eq 14, 3) := by decide +kernel
theorem d_J0_isLatin1_aae02_6 : decode (mC M_J0_isLatin1_aae02) 6 = .ok (.aload_n 0, 1) := by decide +kernel
theorem d_J0_isLatin1_aae02_7 : decode (mC M_J0_isLatin1_aae02) 7 = .ok (.getfield 15, 3) := by decide +kernel
theorem d_J0_isLatin1_aae02_10 : decode (mC M_J0_isLatin1_aae02) 10 = .ok (.ifCond .ne 7, 3) := by decide +kernel
theorem d_J0_isLatin1_aae02_13 : decode (mC M_J0_isLatin1_aae02) 13 = .ok (.iconst 1, 1) := by decide +kernel
theorem d_J0_isLatin1_aae02_14 : decode (mC M_J0_isLatin1_aae02) 14 = .ok (.goto 4, 3) := by decide +kernel
theorem d_J0_isLatin1_aae02_17 : decode (mC M_J0_isLatin1_aae02) 17 = .ok (.iconst 0, 1) := by decide +kernel
theorem d_J0_isLatin1_aae02_18 : decode (mC M_J0_isLatin1_aae02) 18 = .ok (.ireturn, 1) := by decide +kernel
theorem d_J0_length_8abf5_0 : decode (mC M_J0_length_8abf5) 0 = .ok (.aload_n 0, 1) := by decide +kernel
theorem d_J0_length_8abf5_1 : decode (mC M_J0_length_8abf5) 1 = .ok (.getfield 9, 3) := by decide +kernel
theorem d_J0_length_8abf5_4 : decode (mC M_J0_length_8abf5) 4 = .ok (.arraylength, 1) := by decide +kernel
theorem d_J0_length_8abf5_5 : decode (mC M_J0_length_8abf5) 5 = .ok (.aload_n 0, 1) := by decide +kernel
theorem d_J0_length_8abf5_6 : decode (mC M_J0_length_8abf5) 6 = .ok (.invokevirtual 335, 3) := by decide +kernel
theorem d_J0_length_8abf5_9 : decode (mC M_J0_length_8abf5) 9 = .ok (.ishr, 1) := by decide +kernel
theorem d_J0_length_8abf5_10 : decode (mC M_J0_length_8abf5) 10 = .ok (.ireturn, 1) := by decide +kernel
theorem d_J15_checkIndex_7cf53_0 : decode (mC M_J15_checkIndex_7cf53) 0 = .ok (.iload_n 0, 1) := by decide +kernel
theorem d_J15_checkIndex_7cf53_1 : decode (mC M_J15_checkIndex_7cf53) 1 = .ok (.iload_n 1, 1) := by decide +kernel
theorem d_J15_checkIndex_7cf53_2 : decode (mC M_J15_checkIndex_7cf53) 2 = .ok (.aconst_null, 1) := by decide +kernel
theorem d_J15_checkIndex_7cf53_3 : decode (mC M_J15_checkIndex_7cf53) 3 = .ok (.invokestatic 105, 3) := by decide +kernel
theorem d_J15_checkIndex_7cf53_6 : decode (mC M_J15_checkIndex_7cf53) 6 = .ok (.ireturn, 1) := by decide +kernel
theorem d_J1_charAt_3b067_0 : decode (mC M_J1_charAt_3b067) 0 = .ok (.iload_n 1, 1) := by decide +kernel
theorem d_J1_charAt_3b067_1 : decode (mC M_J1_charAt_3b067) 1 = .ok (.aload_n 0, 1) := by decide +kernel
theorem d_J1_charAt_3b067_2 : decode (mC M_J1_charAt_3b067) 2 = .ok (.arraylength, 1) := by decide +kernel
theorem d_J1_charAt_3b067_3 : decode (mC M_J1_charAt_3b067) 3 = .ok (.invokestatic 9, 3) := by decide +kernel
theorem d_J1_charAt_3b067_6 : decode (mC M_J1_charAt_3b067) 6 = .ok (.aload_n 0, 1) := by decide +kernel
theorem d_J1_charAt_3b067_7 : decode (mC M_J1_charAt_3b067) 7 = .ok (.iload_n 1, 1) := by decide +kernel
theorem d_J1_charAt_3b067_8 : decode (mC M_J1_charAt_3b067) 8 = .ok (.baload, 1) := by decide +kernel
theorem d_J1_charAt_3b067_9 : decode (mC M_J1_charAt_3b067) 9 = .ok (.sipush 255, 3) := by decide +kernel
theorem d_J1_charAt_3b067_12 : decode (mC M_J1_charAt_3b067) 12 = .ok (.iand, 1) := by decide +kernel
theorem d_J1_charAt_3b067_13 : decode (mC M_J1_charAt_3b067) 13 = .ok (.i2c, 1) := by decide +kernel
theorem d_J1_charAt_3b067_14 : decode (mC M_J1_charAt_3b067) 14 = .ok (.ireturn, 1) := by decide +kernel
theorem d_J2_charAt_3b067_0 : decode (mC M_J2_charAt_3b067) 0 = .ok (.iload_n 1, 1) := by decide +kernel
theorem d_J2_charAt_3b067_1 : decode (mC M_J2_charAt_3b067) 1 = .ok (.aload_n 0, 1) := by decide +kernel
theorem d_J2_charAt_3b067_2 : decode (mC M_J2_charAt_3b067) 2 = .ok (.invokestatic 67, 3) := by decide +kernel
theorem d_J2_charAt_3b067_5 : decode (mC M_J2_charAt_3b067) 5 = .ok (.aload_n 0, 1) := by decide +kernel
theorem d_J2_charAt_3b067_6 : decode (mC M_J2_charAt_3b067) 6 = .ok (.iload_n 1, 1) := by decide +kernel
theorem d_J2_charAt_3b067_7 : decode (mC M_J2_charAt_3b067) 7 = .ok (.invokestatic 71, 3) := by decide +kernel
theorem d_J2_charAt_3b067_10 : decode (mC M_J2_charAt_3b067) 10 = .ok (.ireturn, 1) := by decide +kernel
theorem d_J2_checkIndex_2214a_0 : decode (mC M_J2_checkIndex_2214a) 0 = .ok (.iload_n 0, 1) := by decide +kernel
theorem d_J2_checkIndex_2214a_1 : decode (mC M_J2_checkIndex_2214a) 1 = .ok (.aload_n 1, 1) := by decide +kernel
theorem d_J2_checkIndex_2214a_2 : decode (mC M_J2_checkIndex_2214a) 2 = .ok (.invokestatic 48, 3) := by decide +kernel
theorem d_J2_checkIndex_2214a_5 : decode (mC M_J2_checkIndex_2214a) 5 = .ok (.invokestatic 414, 3) := by decide +kernel
theorem d_J2_checkIndex_2214a_8 : decode (mC M_J2_checkIndex_2214a) 8 = .ok (.return_, 1) := by decide +kernel
theorem d_J2_getChar_3b067_0 : decode (mC M_J2_getChar_3b067) 0 = .ok (.getstatic 44, 3) := by decide +kernel
theorem d_J2_getChar_3b067_3 : decode (mC M_J2_getChar_3b067) 3 = .ok (.ifCond .ne 25, 3) := by decide +kernel
theorem d_J2_getChar_3b067_6 : decode (mC M_J2_getChar_3b067) 6 = .ok (.iload_n 1, 1) := by decide +kernel
theorem d_J2_getChar_3b067_7 : decode (mC M_J2_getChar_3b067) 7 = .ok (.ifCond .lt 11, 3) := by decide +kernel
theorem d_J2_getChar_3b067_10 : decode (mC M_J2_getChar_3b067) 10 = .ok (.iload_n 1, 1) := by decide +kernel
theorem d_J2_getChar_3b067_11 : decode (mC M_J2_getChar_3b067) 11 = .ok (.aload_n 0, 1) := by decide +kernel
theorem d_J2_getChar_3b067_12 : decode (mC M_J2_getChar_3b067) 12 = .ok (.invokestatic 48, 3) := by decide +kernel
theorem d_J2_getChar_3b067_15 : decode (mC M_J2_getChar_3b067) 15 = .ok (.if_icmp .lt 13, 3) := by decide +kernel
theorem d_J2_getChar_3b067_18 : decode (mC M_J2_getChar_3b067) 18 = .ok (.new 52, 3) := by decide +kernel
theorem d_J2_getChar_3b067_21 : decode (mC M_J2_getChar_3b067) 21 = .ok (.dup, 1) := by decide +kernel
theorem d_J2_getChar_3b067_22 : decode (mC M_J2_getChar_3b067) 22 = .ok (.ldc 54, 2) := by decide +kernel
theorem d_J2_getChar_3b067_24 : decode (mC M_J2_getChar_3b067) 24 = .ok (.invokespecial 56, 3) := by decide +kernel
theorem d_J2_getChar_3b067_27 : decode (mC M_J2_getChar_3b067) 27 = .ok (.athrow, 1) := by decide +kernel
theorem d_J2_getChar_3b067_28 : decode (mC M_J2_getChar_3b067) 28 = .ok (.iload_n 1, 1) := by decide +kernel
theorem d_J2_getChar_3b067_29 : decode (mC M_J2_getChar_3b067) 29 = .ok (.iconst 1, 1) := by decide +kernel
theorem d_J2_getChar_3b067_30 : decode (mC M_J2_getChar_3b067) 30 = .ok (.ishl, 1) := by decide +kernel
theorem d_J2_getChar_3b067_31 : decode (mC M_J2_getChar_3b067) 31 = .ok (.istore_n 1, 1) := by decide +kernel
theorem d_J2_getChar_3b067_32 : decode (mC M_J2_getChar_3b067) 32 = .ok (.aload_n 0, 1) := by decide +kernel
theorem d_J2_getChar_3b067_33 : decode (mC M_J2_getChar_3b067) 33 = .ok (.iload_n 1, 1) := by decide +kernel
theorem d_J2_getChar_3b067_34 : decode (mC M_J2_getChar_3b067) 34 = .ok (.iinc 1 1, 3) := by decide +kernel
theorem d_J2_getChar_3b067_37 : decode (mC M_J2_getChar_3b067) 37 = .ok (.baload, 1) := by decide +kernel
theorem d_J2_getChar_3b067_38 : decode (mC M_J2_getChar_3b067) 38 = .ok (.sipush 255, 3) := by decide +kernel
theorem d_J2_getChar_3b067_41 : decode (mC M_J2_getChar_3b067) 41 = .ok (.iand, 1) := by decide +kernel
theorem d_J2_getChar_3b067_42 : decode (mC M_J2_getChar_3b067) 42 = .ok (.getstatic 59, 3) := by decide +kernel
theorem d_J2_getChar_3b067_45 : decode (mC M_J2_getChar_3b067) 45 = .ok (.ishl, 1) := by decide +kernel
theorem d_J2_getChar_3b067_46 : decode (mC M_J2_getChar_3b067) 46 = .ok (.aload_n 0, 1) := by decide +kernel
theorem d_J2_getChar_3b067_47 : decode (mC M_J2_getChar_3b067) 47 = .ok (.iload_n 1, 1) := by decide +kernel
theorem d_J2_getChar_3b067_48 : decode (mC M_J2_getChar_3b067) 48 = .ok (.baload, 1) := by decide +kernel
theorem d_J2_getChar_3b067_49 : decode (mC M_J2_getChar_3b067) 49 = .ok (.sipush 255, 3) := by decide +kernel
theorem d_J2_getChar_3b067_52 : decode (mC M_J2_getChar_3b067) 52 = .ok (.iand, 1) := by decide +kernel
theorem d_J2_getChar_3b067_53 : decode (mC M_J2_getChar_3b067) 53 = .ok (.getstatic 63, 3) := by decide +kernel
theorem d_J2_getChar_3b067_56 : decode (mC M_J2_getChar_3b067) 56 = .ok (.ishl, 1) := by decide +kernel
theorem d_J2_getChar_3b067_57 : decode (mC M_J2_getChar_3b067) 57 = .ok (.ior, 1) := by decide +kernel
theorem d_J2_getChar_3b067_58 : decode (mC M_J2_getChar_3b067) 58 = .ok (.i2c, 1) := by decide +kernel
theorem d_J2_getChar_3b067_59 : decode (mC M_J2_getChar_3b067) 59 = .ok (.ireturn, 1) := by decide +kernel
theorem d_J2_length_9d52b_0 : decode (mC M_J2_length_9d52b) 0 = .ok (.aload_n 0, 1) := by decide +kernel
theorem d_J2_length_9d52b_1 : decode (mC M_J2_length_9d52b) 1 = .ok (.arraylength, 1) := by decide +kernel
theorem d_J2_length_9d52b_2 : decode (mC M_J2_length_9d52b) 2 = .ok (.iconst 1, 1) := by decide +kernel
theorem d_J2_length_9d52b_3 : decode (mC M_J2_length_9d52b) 3 = .ok (.ishr, 1) := by decide +kernel
theorem d_J2_length_9d52b_4 : decode (mC M_J2_length_9d52b) 4 = .ok (.ireturn, 1) := by decide +kernel
theorem d_J3_checkIndex_8e157_0 : decode (mC M_J3_checkIndex_8e157) 0 = .ok (.iload_n 0, 1) := by decide +kernel
theorem d_J3_checkIndex_8e157_1 : decode (mC M_J3_checkIndex_8e157) 1 = .ok (.ifCond .lt 8, 3) := by decide +kernel
theorem d_J3_checkIndex_8e157_4 : decode (mC M_J3_checkIndex_8e157) 4 = .ok (.iload_n 0, 1) := by decide +kernel
theorem d_J3_checkIndex_8e157_5 : decode (mC M_J3_checkIndex_8e157) 5 = .ok (.iload_n 1, 1) := by decide +kernel
theorem d_J3_checkIndex_8e157_6 : decode (mC M_J3_checkIndex_8e157) 6 = .ok (.if_icmp .lt 10, 3) := by decide +kernel
theorem d_J3_checkIndex_8e157_9 : decode (mC M_J3_checkIndex_8e157) 9 = .ok (.aload_n 2, 1) := by decide +kernel
theorem d_J3_checkIndex_8e157_10 : decode (mC M_J3_checkIndex_8e157) 10 = .ok (.iload_n 0, 1) := by decide +kernel
theorem d_J3_checkIndex_8e157_11 : decode (mC M_J3_checkIndex_8e157) 11 = .ok (.iload_n 1, 1) := by decide +kernel
theorem d_J3_checkIndex_8e157_12 : decode (mC M_J3_checkIndex_8e157) 12 = .ok (.invokestatic 95, 3) := by decide +kernel
theorem d_J3_checkIndex_8e157_15 : decode (mC M_J3_checkIndex_8e157) 15 = .ok (.athrow, 1) := by decide +kernel
theorem d_J3_checkIndex_8e157_16 : decode (mC M_J3_checkIndex_8e157) 16 = .ok (.iload_n 0, 1) := by decide +kernel
theorem d_J3_checkIndex_8e157_17 : decode (mC M_J3_checkIndex_8e157) 17 = .ok (.ireturn, 1) := by decide +kernel
theorem d_J7_copyOf_1904c_0 : decode (mC M_J7_copyOf_1904c) 0 = .ok (.aload_n 0, 1) := by decide +kernel
theorem d_J7_copyOf_1904c_1 : decode (mC M_J7_copyOf_1904c) 1 = .ok (.iload_n 1, 1) := by decide +kernel
theorem d_J7_copyOf_1904c_2 : decode (mC M_J7_copyOf_1904c) 2 = .ok (.aload_n 0, 1) := by decide +kernel
theorem d_J7_copyOf_1904c_3 : decode (mC M_J7_copyOf_1904c) 3 = .ok (.invokevirtual 86, 3) := by decide +kernel
theorem d_J7_copyOf_1904c_6 : decode (mC M_J7_copyOf_1904c) 6 = .ok (.invokestatic 300, 3) := by decide +kernel
theorem d_J7_copyOf_1904c_9 : decode (mC M_J7_copyOf_1904c) 9 = .ok (.areturn, 1) := by decide +kernel
theorem d_J7_copyOf_6403c_0 : decode (mC M_J7_copyOf_6403c) 0 = .ok (.aload_n 2, 1) := by decide +kernel
theorem d_J7_copyOf_6403c_1 : decode (mC M_J7_copyOf_6403c) 1 = .ok (.ldc 110, 2) := by decide +kernel
theorem d_J7_copyOf_6403c_3 : decode (mC M_J7_copyOf_6403c) 3 = .ok (.if_acmp .ne 10, 3) := by decide +kernel
theorem d_J7_copyOf_6403c_6 : decode (mC M_J7_copyOf_6403c) 6 = .ok (.iload_n 1, 1) := by decide +kernel
theorem d_J7_copyOf_6403c_7 : decode (mC M_J7_copyOf_6403c) 7 = .ok (.anewarray 2, 3) := by decide +kernel
theorem d_J7_copyOf_6403c_10 : decode (mC M_J7_copyOf_6403c) 10 = .ok (.goto 14, 3) := by decide +kernel
theorem d_J7_copyOf_6403c_13 : decode (mC M_J7_copyOf_6403c) 13 = .ok (.aload_n 2, 1) := by decide +kernel
theorem d_J7_copyOf_6403c_14 : decode (mC M_J7_copyOf_6403c) 14 = .ok (.invokevirtual 90, 3) := by decide +kernel
theorem d_J7_copyOf_6403c_17 : decode (mC M_J7_copyOf_6403c) 17 = .ok (.iload_n 1, 1) := by decide +kernel
theorem d_J7_copyOf_6403c_18 : decode (mC M_J7_copyOf_6403c) 18 = .ok (.invokestatic 95, 3) := by decide +kernel
theorem d_J7_copyOf_6403c_21 : decode (mC M_J7_copyOf_6403c) 21 = .ok (.checkcast 110, 3) := by decide +kernel
theorem d_J7_copyOf_6403c_24 : decode (mC M_J7_copyOf_6403c) 24 = .ok (.astore_n 3, 1) := by decide +kernel
theorem d_J7_copyOf_6403c_25 : decode (mC M_J7_copyOf_6403c) 25 = .ok (.aload_n 0, 1) := by decide +kernel
theorem d_J7_copyOf_6403c_26 : decode (mC M_J7_copyOf_6403c) 26 = .ok (.iconst 0, 1) := by decide +kernel
theorem d_J7_copyOf_6403c_27 : decode (mC M_J7_copyOf_6403c) 27 = .ok (.aload_n 3, 1) := by decide +kernel
theorem d_J7_copyOf_6403c_28 : decode (mC M_J7_copyOf_6403c) 28 = .ok (.iconst 0, 1) := by decide +kernel
theorem d_J7_copyOf_6403c_29 : decode (mC M_J7_copyOf_6403c) 29 = .ok (.aload_n 0, 1) := by decide +kernel
theorem d_J7_copyOf_6403c_30 : decode (mC M_J7_copyOf_6403c) 30 = .ok (.arraylength, 1) := by decide +kernel
theorem d_J7_copyOf_6403c_31 : decode (mC M_J7_copyOf_6403c) 31 = .ok (.iload_n 1, 1) := by decide +kernel
theorem d_J7_copyOf_6403c_32 : decode (mC M_J7_copyOf_6403c) 32 = .ok (.invokestatic 304, 3) := by decide +kernel
theorem d_J7_copyOf_6403c_35 : decode (mC M_J7_copyOf_6403c) 35 = .ok (.invokestatic 150, 3) := by decide +kernel
theorem d_J7_copyOf_6403c_38 : decode (mC M_J7_copyOf_6403c) 38 = .ok (.aload_n 3, 1) := by decide +kernel
theorem d_J7_copyOf_6403c_39 : decode (mC M_J7_copyOf_6403c) 39 = .ok (.areturn, 1) := by decide +kernel
theorem d_J8_hugeLength_7cf53_0 : decode (mC M_J8_hugeLength_7cf53) 0 = .ok (.iload_n 0, 1) := by decide +kernel
theorem d_J8_hugeLength_7cf53_1 : decode (mC M_J8_hugeLength_7cf53) 1 = .ok (.iload_n 1, 1) := by decide +kernel
theorem d_J8_hugeLength_7cf53_2 : decode (mC M_J8_hugeLength_7cf53) 2 = .ok (.iadd, 1) := by decide +kernel
theorem d_J8_hugeLength_7cf53_3 : decode (mC M_J8_hugeLength_7cf53) 3 = .ok (.istore_n 2, 1) := by decide +kernel
theorem d_J8_hugeLength_7cf53_4 : decode (mC M_J8_hugeLength_7cf53) 4 = .ok (.iload_n 2, 1) := by decide +kernel
theorem d_J8_hugeLength_7cf53_5 : decode (mC M_J8_hugeLength_7cf53) 5 = .ok (.ifCond .ge 44, 3) := by decide +kernel
theorem d_J8_hugeLength_7cf53_8 : decode (mC M_J8_hugeLength_7cf53) 8 = .ok (.new 204, 3) := by decide +kernel
theorem d_J8_hugeLength_7cf53_11 : decode (mC M_J8_hugeLength_7cf53) 11 = .ok (.dup, 1) := by decide +kernel
theorem d_J8_hugeLength_7cf53_12 : decode (mC M_J8_hugeLength_7cf53) 12 = .ok (.new 89, 3) := by decide +kernel
theorem d_J8_hugeLength_7cf53_15 : decode (mC M_J8_hugeLength_7cf53) 15 = .ok (.dup, 1) := by decide +kernel
theorem d_J8_hugeLength_7cf53_16 : decode (mC M_J8_hugeLength_7cf53) 16 = .ok (.invokespecial 91, 3) := by decide +kernel
theorem d_J8_hugeLength_7cf53_19 : decode (mC M_J8_hugeLength_7cf53) 19 = .ok (.ldc 206, 2) := by decide +kernel
theorem d_J8_hugeLength_7cf53_21 : decode (mC M_J8_hugeLength_7cf53) 21 = .ok (.invokevirtual 94, 3) := by decide +kernel
theorem d_J8_hugeLength_7cf53_24 : decode (mC M_J8_hugeLength_7cf53) 24 = .ok (.iload_n 0, 1) := by decide +kernel
theorem d_J8_hugeLength_7cf53_25 : decode (mC M_J8_hugeLength_7cf53) 25 = .ok (.invokevirtual 98, 3) := by decide +kernel
theorem d_J8_hugeLength_7cf53_28 : decode (mC M_J8_hugeLength_7cf53) 28 = .ok (.ldc 208, 2) := by decide +kernel
theorem d_J8_hugeLength_7cf53_30 : decode (mC M_J8_hugeLength_7cf53) 30 = .ok (.invokevirtual 94, 3) := by decide +kernel
theorem d_J8_hugeLength_7cf53_33 : decode (mC M_J8_hugeLength_7cf53) 33 = .ok (.iload_n 1, 1) := by decide +kernel
theorem d_J8_hugeLength_7cf53_34 : decode (mC M_J8_hugeLength_7cf53) 34 = .ok (.invokevirtual 98, 3) := by decide +kernel
theorem d_J8_hugeLength_7cf53_37 : decode (mC M_J8_hugeLength_7cf53) 37 = .ok (.ldc 210, 2) := by decide +kernel
theorem d_J8_hugeLength_7cf53_39 : decode (mC M_J8_hugeLength_7cf53) 39 = .ok (.invokevirtual 94, 3) := by decide +kernel
theorem d_J8_hugeLength_7cf53_42 : decode (mC M_J8_hugeLength_7cf53) 42 = .ok (.invokevirtual 101, 3) := by decide +kernel
theorem d_J8_hugeLength_7cf53_45 : decode (mC M_J8_hugeLength_7cf53) 45 = .ok (.invokespecial 212, 3) := by decide +kernel
theorem d_J8_hugeLength_7cf53_48 : decode (mC M_J8_hugeLength_7cf53) 48 = .ok (.athrow, 1) := by decide +kernel
theorem d_J8_hugeLength_7cf53_49 : decode (mC M_J8_hugeLength_7cf53) 49 = .ok (.iload_n 2, 1) := by decide +kernel
theorem d_J8_hugeLength_7cf53_50 : decode (mC M_J8_hugeLength_7cf53) 50 = .ok (.ldc 200, 2) := by decide +kernel
theorem d_J8_hugeLength_7cf53_52 : decode (mC M_J8_hugeLength_7cf53) 52 = .ok (.if_icmp .gt 6, 3) := by decide +kernel
theorem d_J8_hugeLength_7cf53_55 : decode (mC M_J8_hugeLength_7cf53) 55 = .ok (.ldc 200, 2) := by decide +kernel
theorem d_J8_hugeLength_7cf53_57 : decode (mC M_J8_hugeLength_7cf53) 57 = .ok (.ireturn, 1) := by decide +kernel
theorem d_J8_hugeLength_7cf53_58 : decode (mC M_J8_hugeLength_7cf53) 58 = .ok (.iload_n 2, 1) := by decide +kernel
theorem d_J8_hugeLength_7cf53_59 : decode (mC M_J8_hugeLength_7cf53) 59 = .ok (.ireturn, 1) := by decide +kernel
theorem d_J8_newLength_cabcc_0 : decode (mC M_J8_newLength_cabcc) 0 = .ok (.iload_n 0, 1) := by decide +kernel
theorem d_J8_newLength_cabcc_1 : decode (mC M_J8_newLength_cabcc) 1 = .ok (.iload_n 1, 1) := by decide +kernel
theorem d_J8_newLength_cabcc_2 : decode (mC M_J8_newLength_cabcc) 2 = .ok (.iload_n 2, 1) := by decide +kernel
theorem d_J8_newLength_cabcc_3 : decode (mC M_J8_newLength_cabcc) 3 = .ok (.invokestatic 194, 3) := by decide +kernel
theorem d_J8_newLength_cabcc_6 : decode (mC M_J8_newLength_cabcc) 6 = .ok (.iadd, 1) := by decide +kernel
theorem d_J8_newLength_cabcc_7 : decode (mC M_J8_newLength_cabcc) 7 = .ok (.istore_n 3, 1) := by decide +kernel
theorem d_J8_newLength_cabcc_8 : decode (mC M_J8_newLength_cabcc) 8 = .ok (.iconst 0, 1) := by decide +kernel
theorem d_J8_newLength_cabcc_9 : decode (mC M_J8_newLength_cabcc) 9 = .ok (.iload_n 3, 1) := by decide +kernel
theorem d_J8_newLength_cabcc_10 : decode (mC M_J8_newLength_cabcc) 10 = .ok (.if_icmp .ge 11, 3) := by decide +kernel
theorem d_J8_newLength_cabcc_13 : decode (mC M_J8_newLength_cabcc) 13 = .ok (.iload_n 3, 1) := by decide +kernel
theorem d_J8_newLength_cabcc_14 : decode (mC M_J8_newLength_cabcc) 14 = .ok (.ldc 200, 2) := by decide +kernel
theorem d_J8_newLength_cabcc_16 : decode (mC M_J8_newLength_cabcc) 16 = .ok (.if_icmp .gt 5, 3) := by decide +kernel
theorem d_J8_newLength_cabcc_19 : decode (mC M_J8_newLength_cabcc) 19 = .ok (.iload_n 3, 1) := by decide +kernel
theorem d_J8_newLength_cabcc_20 : decode (mC M_J8_newLength_cabcc) 20 = .ok (.ireturn, 1) := by decide +kernel
theorem d_J8_newLength_cabcc_21 : decode (mC M_J8_newLength_cabcc) 21 = .ok (.iload_n 0, 1) := by decide +kernel
theorem d_J8_newLength_cabcc_22 : decode (mC M_J8_newLength_cabcc) 22 = .ok (.iload_n 1, 1) := by decide +kernel
theorem d_J8_newLength_cabcc_23 : decode (mC M_J8_newLength_cabcc) 23 = .ok (.invokestatic 201, 3) := by decide +kernel
theorem d_J8_newLength_cabcc_26 : decode (mC M_J8_newLength_cabcc) 26 = .ok (.ireturn, 1) := by decide +kernel
theorem d_J9_max_7cf53_0 : decode (mC M_J9_max_7cf53) 0 = .ok (.iload_n 0, 1) := by decide +kernel
theorem d_J9_max_7cf53_1 : decode (mC M_J9_max_7cf53) 1 = .ok (.iload_n 1, 1) := by decide +kernel
theorem d_J9_max_7cf53_2 : decode (mC M_J9_max_7cf53) 2 = .ok (.if_icmp .lt 7, 3) := by decide +kernel
theorem d_J9_max_7cf53_5 : decode (mC M_J9_max_7cf53) 5 = .ok (.iload_n 0, 1) := by decide +kernel
theorem d_J9_max_7cf53_6 : decode (mC M_J9_max_7cf53) 6 = .ok (.goto 4, 3) := by decide +kernel
theorem d_J9_max_7cf53_9 : decode (mC M_J9_max_7cf53) 9 = .ok (.iload_n 1, 1) := by decide +kernel
theorem d_J9_max_7cf53_10 : decode (mC M_J9_max_7cf53) 10 = .ok (.ireturn, 1) := by decide +kernel
theorem d_J9_min_7cf53_0 : decode (mC M_J9_min_7cf53) 0 = .ok (.iload_n 0, 1) := by decide +kernel
theorem d_J9_min_7cf53_1 : decode (mC M_J9_min_7cf53) 1 = .ok (.iload_n 1, 1) := by decide +kernel
theorem d_J9_min_7cf53_2 : decode (mC M_J9_min_7cf53) 2 = .ok (.if_icmp .gt 7, 3) := by decide +kernel
theorem d_J9_min_7cf53_5 : decode (mC M_J9_min_7cf53) 5 = .ok (.iload_n 0, 1) := by decide +kernel
theorem d_J9_min_7cf53_6 : decode (mC M_J9_min_7cf53) 6 = .ok (.goto 4, 3) := by decide +kernel
theorem d_J9_min_7cf53_9 : decode (mC M_J9_min_7cf53) 9 = .ok (.iload_n 1, 1) := by decide +kernel
theorem d_J9_min_7cf53_10 : decode (mC M_J9_min_7cf53) 10 = .ok (.ireturn, 1) := by decide +kernel
theorem d_Jx4a65c_add_72be8_0 : decode (mC M_Jx4a65c_add_72be8) 0 = .ok (.iload_n 3, 1) := by decide +kernel
theorem d_Jx4a65c_add_72be8_1 : decode (mC M_Jx4a65c_add_72be8) 1 = .ok (.aload_n 2, 1) := by decide +kernel
theorem d_Jx4a65c_add_72be8_2 : decode (mC M_Jx4a65c_add_72be8) 2 = .ok (.arraylength, 1) := by decide +kernel
theorem d_Jx4a65c_add_72be8_3 : decode (mC M_Jx4a65c_add_72be8) 3 = .ok (.if_icmp .ne 8, 3) := by decide +kernel
theorem d_Jx4a65c_add_72be8_6 : decode (mC M_Jx4a65c_add_72be8) 6 = .ok (.aload_n 0, 1) := by decide +kernel
theorem d_Jx4a65c_add_72be8_7 : decode (mC M_Jx4a65c_add_72be8) 7 = .ok (.invokevirtual 129, 3) := by decide +kernel
theorem d_Jx4a65c_add_72be8_10 : decode (mC M_Jx4a65c_add_72be8) 10 = .ok (.astore_n 2, 1) := by decide +kernel
theorem d_Jx4a65c_add_72be8_11 : decode (mC M_Jx4a65c_add_72be8) 11 = .ok (.aload_n 2, 1) := by decide +kernel
theorem d_Jx4a65c_add_72be8_12 : decode (mC M_Jx4a65c_add_72be8) 12 = .ok (.iload_n 3, 1) := by decide +kernel
theorem d_Jx4a65c_add_72be8_13 : decode (mC M_Jx4a65c_add_72be8) 13 = .ok (.aload_n 1, 1) := by decide +kernel
theorem d_Jx4a65c_add_72be8_14 : decode (mC M_Jx4a65c_add_72be8) 14 = .ok (.aastore, 1) := by decide +kernel
theorem d_Jx4a65c_add_72be8_15 : decode (mC M_Jx4a65c_add_72be8) 15 = .ok (.aload_n 0, 1) := by decide +kernel
theorem d_Jx4a65c_add_72be8_16 : decode (mC M_Jx4a65c_add_72be8) 16 = .ok (.iload_n 3, 1) := by decide +kernel
theorem d_Jx4a65c_add_72be8_17 : decode (mC M_Jx4a65c_add_72be8) 17 = .ok (.iconst 1, 1) := by decide +kernel
theorem d_Jx4a65c_add_72be8_18 : decode (mC M_Jx4a65c_add_72be8) 18 = .ok (.iadd, 1) := by decide +kernel
theorem d_Jx4a65c_add_72be8_19 : decode (mC M_Jx4a65c_add_72be8) 19 = .ok (.putfield 48, 3) := by decide +kernel
theorem d_Jx4a65c_add_72be8_22 : decode (mC M_Jx4a65c_add_72be8) 22 = .ok (.return_, 1) := by decide +kernel
theorem d_Jx4a65c_add_7a177_0 : decode (mC M_Jx4a65c_add_7a177) 0 = .ok (.aload_n 0, 1) := by decide +kernel
theorem d_Jx4a65c_add_7a177_1 : decode (mC M_Jx4a65c_add_7a177) 1 = .ok (.iload_n 1, 1) := by decide +kernel
theorem d_Jx4a65c_add_7a177_2 : decode (mC M_Jx4a65c_add_7a177) 2 = .ok (.invokevirtual 135, 3) := by decide +kernel
theorem d_Jx4a65c_add_7a177_5 : decode (mC M_Jx4a65c_add_7a177) 5 = .ok (.aload_n 0, 1) := by decide +kernel
theorem d_Jx4a65c_add_7a177_6 : decode (mC M_Jx4a65c_add_7a177) 6 = .ok (.dup, 1) := by decide +kernel
theorem d_Jx4a65c_add_7a177_7 : decode (mC M_Jx4a65c_add_7a177) 7 = .ok (.getfield 63, 3) := by decide +kernel
theorem d_Jx4a65c_add_7a177_10 : decode (mC M_Jx4a65c_add_7a177) 10 = .ok (.iconst 1, 1) := by decide +kernel
theorem d_Jx4a65c_add_7a177_11 : decode (mC M_Jx4a65c_add_7a177) 11 = .ok (.iadd, 1) := by decide +kernel
theorem d_Jx4a65c_add_7a177_12 : decode (mC M_Jx4a65c_add_7a177) 12 = .ok (.putfield 63, 3) := by decide +kernel
theorem d_Jx4a65c_add_7a177_15 : decode (mC M_Jx4a65c_add_7a177) 15 = .ok (.aload_n 0, 1) := by decide +kernel
theorem d_Jx4a65c_add_7a177_16 : decode (mC M_Jx4a65c_add_7a177) 16 = .ok (.getfield 48, 3) := by decide +kernel
theorem d_Jx4a65c_add_7a177_19 : decode (mC M_Jx4a65c_add_7a177) 19 = .ok (.dup, 1) := by decide +kernel
theorem d_Jx4a65c_add_7a177_20 : decode (mC M_Jx4a65c_add_7a177) 20 = .ok (.istore_n 3, 1) := by decide +kernel
theorem d_Jx4a65c_add_7a177_21 : decode (mC M_Jx4a65c_add_7a177) 21 = .ok (.aload_n 0, 1) := by decide +kernel
theorem d_Jx4a65c_add_7a177_22 : decode (mC M_Jx4a65c_add_7a177) 22 = .ok (.getfield 9, 3) := by decide +kernel
theorem d_Jx4a65c_add_7a177_25 : decode (mC M_Jx4a65c_add_7a177) 25 = .ok (.dup, 1) := by decide +kernel
theorem d_Jx4a65c_add_7a177_26 : decode (mC M_Jx4a65c_add_7a177) 26 = .ok (.astore 4, 2) := by decide +kernel
theorem d_Jx4a65c_add_7a177_28 : decode (mC M_Jx4a65c_add_7a177) 28 = .ok (.arraylength, 1) := by decide +kernel
theorem d_Jx4a65c_add_7a177_29 : decode (mC M_Jx4a65c_add_7a177) 29 = .ok (.if_icmp .ne 9, 3) := by decide +kernel
theorem d_Jx4a65c_add_7a177_32 : decode (mC M_Jx4a65c_add_7a177) 32 = .ok (.aload_n 0, 1) := by decide +kernel
theorem d_Jx4a65c_add_7a177_33 : decode (mC M_Jx4a65c_add_7a177) 33 = .ok (.invokevirtual 129, 3) := by decide +kernel
theorem d_Jx4a65c_add_7a177_36 : decode (mC M_Jx4a65c_add_7a177) 36 = .ok (.astore 4, 2) := by decide +kernel
theorem d_Jx4a65c_add_7a177_38 : decode (mC M_Jx4a65c_add_7a177) 38 = .ok (.aload 4, 2) := by decide +kernel
theorem d_Jx4a65c_add_7a177_40 : decode (mC M_Jx4a65c_add_7a177) 40 = .ok (.iload_n 1, 1) := by decide +kernel
theorem d_Jx4a65c_add_7a177_41 : decode (mC M_Jx4a65c_add_7a177) 41 = .ok (.aload 4, 2) := by decide +kernel
theorem d_Jx4a65c_add_7a177_43 : decode (mC M_Jx4a65c_add_7a177) 43 = .ok (.iload_n 1, 1) := by decide +kernel
theorem d_Jx4a65c_add_7a177_44 : decode (mC M_Jx4a65c_add_7a177) 44 = .ok (.iconst 1, 1) := by decide +kernel
theorem d_Jx4a65c_add_7a177_45 : decode (mC M_Jx4a65c_add_7a177) 45 = .ok (.iadd, 1) := by decide +kernel
theorem d_Jx4a65c_add_7a177_46 : decode (mC M_Jx4a65c_add_7a177) 46 = .ok (.iload_n 3, 1) := by decide +kernel
theorem d_Jx4a65c_add_7a177_47 : decode (mC M_Jx4a65c_add_7a177) 47 = .ok (.iload_n 1, 1) := by decide +kernel
theorem d_Jx4a65c_add_7a177_48 : decode (mC M_Jx4a65c_add_7a177) 48 = .ok (.isub, 1) := by decide +kernel
theorem d_Jx4a65c_add_7a177_49 : decode (mC M_Jx4a65c_add_7a177) 49 = .ok (.invokestatic 112, 3) := by decide +kernel
theorem d_Jx4a65c_add_7a177_52 : decode (mC M_Jx4a65c_add_7a177) 52 = .ok (.aload 4, 2) := by decide +kernel
theorem d_Jx4a65c_add_7a177_54 : decode (mC M_Jx4a65c_add_7a177) 54 = .ok (.iload_n 1, 1) := by decide +kernel
theorem d_Jx4a65c_add_7a177_55 : decode (mC M_Jx4a65c_add_7a177) 55 = .ok (.aload_n 2, 1) := by decide +kernel
theorem d_Jx4a65c_add_7a177_56 : decode (mC M_Jx4a65c_add_7a177) 56 = .ok (.aastore, 1) := by decide +kernel
theorem d_Jx4a65c_add_7a177_57 : decode (mC M_Jx4a65c_add_7a177) 57 = .ok (.aload_n 0, 1) := by decide +kernel
theorem d_Jx4a65c_add_7a177_58 : decode (mC M_Jx4a65c_add_7a177) 58 = .ok (.iload_n 3, 1) := by decide +kernel
theorem d_Jx4a65c_add_7a177_59 : decode (mC M_Jx4a65c_add_7a177) 59 = .ok (.iconst 1, 1) := by decide +kernel
theorem d_Jx4a65c_add_7a177_60 : decode (mC M_Jx4a65c_add_7a177) 60 = .ok (.iadd, 1) := by decide +kernel
theorem d_Jx4a65c_add_7a177_61 : decode (mC M_Jx4a65c_add_7a177) 61 = .ok (.putfield 48, 3) := by decide +kernel
theorem d_Jx4a65c_add_7a177_64 : decode (mC M_Jx4a65c_add_7a177) 64 = .ok (.return_, 1) := by decide +kernel
theorem d_Jx4a65c_add_9ea2d_0 : decode (mC M_Jx4a65c_add_9ea2d) 0 = .ok (.aload_n 0, 1) := by decide +kernel
theorem d_Jx4a65c_add_9ea2d_1 : decode (mC M_Jx4a65c_add_9ea2d) 1 = .ok (.dup, 1) := by decide +kernel
theorem d_Jx4a65c_add_9ea2d_2 : decode (mC M_Jx4a65c_add_9ea2d) 2 = .ok (.getfield 63, 3) := by decide +kernel
theorem d_Jx4a65c_add_9ea2d_5 : decode (mC M_Jx4a65c_add_9ea2d) 5 = .ok (.iconst 1, 1) := by decide +kernel
theorem d_Jx4a65c_add_9ea2d_6 : decode (mC M_Jx4a65c_add_9ea2d) 6 = .ok (.iadd, 1) := by decide +kernel
theorem d_Jx4a65c_add_9ea2d_7 : decode (mC M_Jx4a65c_add_9ea2d) 7 = .ok (.putfield 63, 3) := by decide +kernel
theorem d_Jx4a65c_add_9ea2d_10 : decode (mC M_Jx4a65c_add_9ea2d) 10 = .ok (.aload_n 0, 1) := by decide +kernel
theorem d_Jx4a65c_add_9ea2d_11 : decode (mC M_Jx4a65c_add_9ea2d) 11 = .ok (.aload_n 1, 1) := by decide +kernel
theorem d_Jx4a65c_add_9ea2d_12 : decode (mC M_Jx4a65c_add_9ea2d) 12 = .ok (.aload_n 0, 1) := by decide +kernel
theorem d_Jx4a65c_add_9ea2d_13 : decode (mC M_Jx4a65c_add_9ea2d) 13 = .ok (.getfield 9, 3) := by decide +kernel
theorem d_Jx4a65c_add_9ea2d_16 : decode (mC M_Jx4a65c_add_9ea2d) 16 = .ok (.aload_n 0, 1) := by decide +kernel
theorem d_Jx4a65c_add_9ea2d_17 : decode (mC M_Jx4a65c_add_9ea2d) 17 = .ok (.getfield 48, 3) := by decide +kernel
theorem d_Jx4a65c_add_9ea2d_20 : decode (mC M_Jx4a65c_add_9ea2d) 20 = .ok (.invokevirtual 131, 3) := by decide +kernel
theorem d_Jx4a65c_add_9ea2d_23 : decode (mC M_Jx4a65c_add_9ea2d) 23 = .ok (.iconst 1, 1) := by decide +kernel
theorem d_Jx4a65c_add_9ea2d_24 : decode (mC M_Jx4a65c_add_9ea2d) 24 = .ok (.ireturn, 1) := by decide +kernel
theorem d_Jx4a65c_clear_da8c8_0 : decode (mC M_Jx4a65c_clear_da8c8) 0 = .ok (.aload_n 0, 1) := by decide +kernel
theorem d_Jx4a65c_clear_da8c8_1 : decode (mC M_Jx4a65c_clear_da8c8) 1 = .ok (.dup, 1) := by decide +kernel
theorem d_Jx4a65c_clear_da8c8_2 : decode (mC M_Jx4a65c_clear_da8c8) 2 = .ok (.getfield 63, 3) := by decide +kernel
theorem d_Jx4a65c_clear_da8c8_5 : decode (mC M_Jx4a65c_clear_da8c8) 5 = .ok (.iconst 1, 1) := by decide +kernel
theorem d_Jx4a65c_clear_da8c8_6 : decode (mC M_Jx4a65c_clear_da8c8) 6 = .ok (.iadd, 1) := by decide +kernel
theorem d_Jx4a65c_clear_da8c8_7 : decode (mC M_Jx4a65c_clear_da8c8) 7 = .ok (.putfield 63, 3) := by decide +kernel
theorem d_Jx4a65c_clear_da8c8_10 : decode (mC M_Jx4a65c_clear_da8c8) 10 = .ok (.aload_n 0, 1) := by decide +kernel
theorem d_Jx4a65c_clear_da8c8_11 : decode (mC M_Jx4a65c_clear_da8c8) 11 = .ok (.getfield 9, 3) := by decide +kernel
theorem d_Jx4a65c_clear_da8c8_14 : decode (mC M_Jx4a65c_clear_da8c8) 14 = .ok (.astore_n 1, 1) := by decide +kernel
theorem d_Jx4a65c_clear_da8c8_15 : decode (mC M_Jx4a65c_clear_da8c8) 15 = .ok (.aload_n 0, 1) := by decide +kernel
theorem d_Jx4a65c_clear_da8c8_16 : decode (mC M_Jx4a65c_clear_da8c8) 16 = .ok (.getfield 48, 3) := by decide +kernel
theorem d_Jx4a65c_clear_da8c8_19 : decode (mC M_Jx4a65c_clear_da8c8) 19 = .ok (.istore_n 2, 1) := by decide +kernel
theorem d_Jx4a65c_clear_da8c8_20 : decode (mC M_Jx4a65c_clear_da8c8) 20 = .ok (.aload_n 0, 1) := by decide +kernel
theorem d_Jx4a65c_clear_da8c8_21 : decode (mC M_Jx4a65c_clear_da8c8) 21 = .ok (.iconst 0, 1) := by decide +kernel
theorem d_Jx4a65c_clear_da8c8_22 : decode (mC M_Jx4a65c_clear_da8c8) 22 = .ok (.dup_x1, 1) := by decide +kernel
theorem d_Jx4a65c_clear_da8c8_23 : decode (mC M_Jx4a65c_clear_da8c8) 23 = .ok (.putfield 48, 3) := by decide +kernel
theorem d_Jx4a65c_clear_da8c8_26 : decode (mC M_Jx4a65c_clear_da8c8) 26 = .ok (.istore_n 3, 1) := by decide +kernel
theorem d_Jx4a65c_clear_da8c8_27 : decode (mC M_Jx4a65c_clear_da8c8) 27 = .ok (.iload_n 3, 1) := by decide +kernel
theorem d_Jx4a65c_clear_da8c8_28 : decode (mC M_Jx4a65c_clear_da8c8) 28 = .ok (.iload_n 2, 1) := by decide +kernel
theorem d_Jx4a65c_clear_da8c8_29 : decode (mC M_Jx4a65c_clear_da8c8) 29 = .ok (.if_icmp .ge 13, 3) := by decide +kernel
theorem d_Jx4a65c_clear_da8c8_32 : decode (mC M_Jx4a65c_clear_da8c8) 32 = .ok (.aload_n 1, 1) := by decide +kernel
theorem d_Jx4a65c_clear_da8c8_33 : decode (mC M_Jx4a65c_clear_da8c8) 33 = .ok (.iload_n 3, 1) := by decide +kernel
theorem d_Jx4a65c_clear_da8c8_34 : decode (mC M_Jx4a65c_clear_da8c8) 34 = .ok (.aconst_null, 1) := by decide +kernel
theorem d_Jx4a65c_clear_da8c8_35 : decode (mC M_Jx4a65c_clear_da8c8) 35 = .ok (.aastore, 1) := by decide +kernel
theorem d_Jx4a65c_clear_da8c8_36 : decode (mC M_Jx4a65c_clear_da8c8) 36 = .ok (.iinc 3 1, 3) := by decide +kernel
theorem d_Jx4a65c_clear_da8c8_39 : decode (mC M_Jx4a65c_clear_da8c8) 39 = .ok (.goto (-12), 3) := by decide +kernel
theorem d_Jx4a65c_clear_da8c8_42 : decode (mC M_Jx4a65c_clear_da8c8) 42 = .ok (.return_, 1) := by decide +kernel
theorem d_Jx4a65c_elementData_915e3_0 : decode (mC M_Jx4a65c_elementData_915e3) 0 = .ok (.aload_n 0, 1) := by decide +kernel
theorem d_Jx4a65c_elementData_915e3_1 : decode (mC M_Jx4a65c_elementData_915e3) 1 = .ok (.getfield 9, 3) := by decide +kernel
theorem d_Jx4a65c_elementData_915e3_4 : decode (mC M_Jx4a65c_elementData_915e3) 4 = .ok (.iload_n 1, 1) := by decide +kernel
theorem d_Jx4a65c_elementData_915e3_5 : decode (mC M_Jx4a65c_elementData_915e3) 5 = .ok (.aaload, 1) := by decide +kernel
theorem d_Jx4a65c_elementData_915e3_6 : decode (mC M_Jx4a65c_elementData_915e3) 6 = .ok (.areturn, 1) := by decide +kernel
theorem d_Jx4a65c_get_915e3_0 : decode (mC M_Jx4a65c_get_915e3) 0 = .ok (.iload_n 1, 1) := by decide +kernel
theorem d_Jx4a65c_get_915e3_1 : decode (mC M_Jx4a65c_get_915e3) 1 = .ok (.aload_n 0, 1) := by decide +kernel
theorem d_Jx4a65c_get_915e3_2 : decode (mC M_Jx4a65c_get_915e3) 2 = .ok (.getfield 48, 3) := by decide +kernel
theorem d_Jx4a65c_get_915e3_5 : decode (mC M_Jx4a65c_get_915e3) 5 = .ok (.invokestatic 118, 3) := by decide +kernel
theorem d_Jx4a65c_get_915e3_8 : decode (mC M_Jx4a65c_get_915e3) 8 = .ok (.pop, 1) := by decide +kernel
theorem d_Jx4a65c_get_915e3_9 : decode (mC M_Jx4a65c_get_915e3) 9 = .ok (.aload_n 0, 1) := by decide +kernel
theorem d_Jx4a65c_get_915e3_10 : decode (mC M_Jx4a65c_get_915e3) 10 = .ok (.iload_n 1, 1) := by decide +kernel
theorem d_Jx4a65c_get_915e3_11 : decode (mC M_Jx4a65c_get_915e3) 11 = .ok (.invokevirtual 123, 3) := by decide +kernel
theorem d_Jx4a65c_get_915e3_14 : decode (mC M_Jx4a65c_get_915e3) 14 = .ok (.areturn, 1) := by decide +kernel
theorem d_Jx4a65c_grow_92f84_0 : decode (mC M_Jx4a65c_grow_92f84) 0 = .ok (.aload_n 0, 1) := by decide +kernel
theorem d_Jx4a65c_grow_92f84_1 : decode (mC M_Jx4a65c_grow_92f84) 1 = .ok (.getfield 9, 3) := by decide +kernel
theorem d_Jx4a65c_grow_92f84_4 : decode (mC M_Jx4a65c_grow_92f84) 4 = .ok (.arraylength, 1) := by decide +kernel
theorem d_Jx4a65c_grow_92f84_5 : decode (mC M_Jx4a65c_grow_92f84) 5 = .ok (.istore_n 2, 1) := by decide +kernel
theorem d_Jx4a65c_grow_92f84_6 : decode (mC M_Jx4a65c_grow_92f84) 6 = .ok (.iload_n 2, 1) := by decide +kernel
theorem d_Jx4a65c_grow_92f84_7 : decode (mC M_Jx4a65c_grow_92f84) 7 = .ok (.ifCond .gt 13, 3) := by decide +kernel
theorem d_Jx4a65c_grow_92f84_10 : decode (mC M_Jx4a65c_grow_92f84) 10 = .ok (.aload_n 0, 1) := by decide +kernel
theorem d_Jx4a65c_grow_92f84_11 : decode (mC M_Jx4a65c_grow_92f84) 11 = .ok (.getfield 9, 3) := by decide +kernel
theorem d_Jx4a65c_grow_92f84_14 : decode (mC M_Jx4a65c_grow_92f84) 14 = .ok (.getstatic 39, 3) := by decide +kernel
theorem d_Jx4a65c_grow_92f84_17 : decode (mC M_Jx4a65c_grow_92f84) 17 = .ok (.if_acmp .eq 28, 3) := by decide +kernel
theorem d_Jx4a65c_grow_92f84_20 : decode (mC M_Jx4a65c_grow_92f84) 20 = .ok (.iload_n 2, 1) := by decide +kernel
theorem d_Jx4a65c_grow_92f84_21 : decode (mC M_Jx4a65c_grow_92f84) 21 = .ok (.iload_n 1, 1) := by decide +kernel
theorem d_Jx4a65c_grow_92f84_22 : decode (mC M_Jx4a65c_grow_92f84) 22 = .ok (.iload_n 2, 1) := by decide +kernel
theorem d_Jx4a65c_grow_92f84_23 : decode (mC M_Jx4a65c_grow_92f84) 23 = .ok (.isub, 1) := by decide +kernel
theorem d_Jx4a65c_grow_92f84_24 : decode (mC M_Jx4a65c_grow_92f84) 24 = .ok (.iload_n 2, 1) := by decide +kernel
theorem d_Jx4a65c_grow_92f84_25 : decode (mC M_Jx4a65c_grow_92f84) 25 = .ok (.iconst 1, 1) := by decide +kernel
theorem d_Jx4a65c_grow_92f84_26 : decode (mC M_Jx4a65c_grow_92f84) 26 = .ok (.ishr, 1) := by decide +kernel
theorem d_Jx4a65c_grow_92f84_27 : decode (mC M_Jx4a65c_grow_92f84) 27 = .ok (.invokestatic 73, 3) := by decide +kernel
theorem d_Jx4a65c_grow_92f84_30 : decode (mC M_Jx4a65c_grow_92f84) 30 = .ok (.istore_n 3, 1) := by decide +kernel
theorem d_Jx4a65c_grow_92f84_31 : decode (mC M_Jx4a65c_grow_92f84) 31 = .ok (.aload_n 0, 1) := by decide +kernel
theorem d_Jx4a65c_grow_92f84_32 : decode (mC M_Jx4a65c_grow_92f84) 32 = .ok (.aload_n 0, 1) := by decide +kernel
theorem d_Jx4a65c_grow_92f84_33 : decode (mC M_Jx4a65c_grow_92f84) 33 = .ok (.getfield 9, 3) := by decide +kernel
theorem d_Jx4a65c_grow_92f84_36 : decode (mC M_Jx4a65c_grow_92f84) 36 = .ok (.iload_n 3, 1) := by decide +kernel
theorem d_Jx4a65c_grow_92f84_37 : decode (mC M_Jx4a65c_grow_92f84) 37 = .ok (.invokestatic 66, 3) := by decide +kernel
theorem d_Jx4a65c_grow_92f84_40 : decode (mC M_Jx4a65c_grow_92f84) 40 = .ok (.dup_x1, 1) := by decide +kernel
theorem d_Jx4a65c_grow_92f84_41 : decode (mC M_Jx4a65c_grow_92f84) 41 = .ok (.putfield 9, 3) := by decide +kernel
theorem d_Jx4a65c_grow_92f84_44 : decode (mC M_Jx4a65c_grow_92f84) 44 = .ok (.areturn, 1) := by decide +kernel
theorem d_Jx4a65c_grow_92f84_45 : decode (mC M_Jx4a65c_grow_92f84) 45 = .ok (.aload_n 0, 1) := by decide +kernel
theorem d_Jx4a65c_grow_92f84_46 : decode (mC M_Jx4a65c_grow_92f84) 46 = .ok (.bipush 10, 2) := by decide +kernel
theorem d_Jx4a65c_grow_92f84_48 : decode (mC M_Jx4a65c_grow_92f84) 48 = .ok (.iload_n 1, 1) := by decide +kernel
theorem d_Jx4a65c_grow_92f84_49 : decode (mC M_Jx4a65c_grow_92f84) 49 = .ok (.invokestatic 79, 3) := by decide +kernel
theorem d_Jx4a65c_grow_92f84_52 : decode (mC M_Jx4a65c_grow_92f84) 52 = .ok (.anewarray 7, 3) := by decide +kernel
theorem d_Jx4a65c_grow_92f84_55 : decode (mC M_Jx4a65c_grow_92f84) 55 = .ok (.dup_x1, 1) := by decide +kernel
theorem d_Jx4a65c_grow_92f84_56 : decode (mC M_Jx4a65c_grow_92f84) 56 = .ok (.putfield 9, 3) := by decide +kernel
theorem d_Jx4a65c_grow_92f84_59 : decode (mC M_Jx4a65c_grow_92f84) 59 = .ok (.areturn, 1) := by decide +kernel
theorem d_Jx4a65c_grow_d5877_0 : decode (mC M_Jx4a65c_grow_d5877) 0 = .ok (.aload_n 0, 1) := by decide +kernel
theorem d_Jx4a65c_grow_d5877_1 : decode (mC M_Jx4a65c_grow_d5877) 1 = .ok (.aload_n 0, 1) := by decide +kernel
theorem d_Jx4a65c_grow_d5877_2 : decode (mC M_Jx4a65c_grow_d5877) 2 = .ok (.getfield 48, 3) := by decide +kernel
theorem d_Jx4a65c_grow_d5877_5 : decode (mC M_Jx4a65c_grow_d5877) 5 = .ok (.iconst 1, 1) := by decide +kernel
theorem d_Jx4a65c_grow_d5877_6 : decode (mC M_Jx4a65c_grow_d5877) 6 = .ok (.iadd, 1) := by decide +kernel
theorem d_Jx4a65c_grow_d5877_7 : decode (mC M_Jx4a65c_grow_d5877) 7 = .ok (.invokevirtual 69, 3) := by decide +kernel
theorem d_Jx4a65c_grow_d5877_10 : decode (mC M_Jx4a65c_grow_d5877) 10 = .ok (.areturn, 1) := by decide +kernel
theorem d_Jx4a65c_init_da8c8_0 : decode (mC M_Jx4a65c_init_da8c8) 0 = .ok (.aload_n 0, 1) := by decide +kernel
theorem d_Jx4a65c_init_da8c8_1 : decode (mC M_Jx4a65c_init_da8c8) 1 = .ok (.invokespecial 1, 3) := by decide +kernel
theorem d_Jx4a65c_init_da8c8_4 : decode (mC M_Jx4a65c_init_da8c8) 4 = .ok (.aload_n 0, 1) := by decide +kernel
theorem d_Jx4a65c_init_da8c8_5 : decode (mC M_Jx4a65c_init_da8c8) 5 = .ok (.getstatic 39, 3) := by decide +kernel
theorem d_Jx4a65c_init_da8c8_8 : decode (mC M_Jx4a65c_init_da8c8) 8 = .ok (.putfield 9, 3) := by decide +kernel
theorem d_Jx4a65c_init_da8c8_11 : decode (mC M_Jx4a65c_init_da8c8) 11 = .ok (.return_, 1) := by decide +kernel
theorem d_Jx4a65c_isEmpty_aae02_0 : decode (mC M_Jx4a65c_isEmpty_aae02) 0 = .ok (.aload_n 0, 1) := by decide +kernel
theorem d_Jx4a65c_isEmpty_aae02_1 : decode (mC M_Jx4a65c_isEmpty_aae02) 1 = .ok (.getfield 48, 3) := by decide +kernel
theorem d_Jx4a65c_isEmpty_aae02_4 : decode (mC M_Jx4a65c_isEmpty_aae02) 4 = .ok (.ifCond .ne 7, 3) := by decide +kernel
theorem d_Jx4a65c_isEmpty_aae02_7 : decode (mC M_Jx4a65c_isEmpty_aae02) 7 = .ok (.iconst 1, 1) := by decide +kernel
theorem d_Jx4a65c_isEmpty_aae02_8 : decode (mC M_Jx4a65c_isEmpty_aae02) 8 = .ok (.goto 4, 3) := by decide +kernel
theorem d_Jx4a65c_isEmpty_aae02_11 : decode (mC M_Jx4a65c_isEmpty_aae02) 11 = .ok (.iconst 0, 1) := by decide +kernel
theorem d_Jx4a65c_isEmpty_aae02_12 : decode (mC M_Jx4a65c_isEmpty_aae02) 12 = .ok (.ireturn, 1) := by decide +kernel
theorem d_Jx4a65c_rangeCheckForAdd_d00df_0 : decode (mC M_Jx4a65c_rangeCheckForAdd_d00df) 0 = .ok (.iload_n 1, 1) := by decide +kernel
theorem d_Jx4a65c_rangeCheckForAdd_d00df_1 : decode (mC M_Jx4a65c_rangeCheckForAdd_d00df) 1 = .ok (.aload_n 0, 1) := by decide +kernel
theorem d_Jx4a65c_rangeCheckForAdd_d00df_2 : decode (mC M_Jx4a65c_rangeCheckForAdd_d00df) 2 = .ok (.getfield 48, 3) := by decide +kernel
theorem d_Jx4a65c_rangeCheckForAdd_d00df_5 : decode (mC M_Jx4a65c_rangeCheckForAdd_d00df) 5 = .ok (.if_icmp .gt 7, 3) := by decide +kernel
theorem d_Jx4a65c_rangeCheckForAdd_d00df_8 : decode (mC M_Jx4a65c_rangeCheckForAdd_d00df) 8 = .ok (.iload_n 1, 1) := by decide +kernel
theorem d_Jx4a65c_rangeCheckForAdd_d00df_9 : decode (mC M_Jx4a65c_rangeCheckForAdd_d00df) 9 = .ok (.ifCond .ge 16, 3) := by decide +kernel
theorem d_Jx4a65c_rangeCheckForAdd_d00df_12 : decode (mC M_Jx4a65c_rangeCheckForAdd_d00df) 12 = .ok (.new 187, 3) := by decide +kernel
theorem d_Jx4a65c_rangeCheckForAdd_d00df_15 : decode (mC M_Jx4a65c_rangeCheckForAdd_d00df) 15 = .ok (.dup, 1) := by decide +kernel
theorem d_Jx4a65c_rangeCheckForAdd_d00df_16 : decode (mC M_Jx4a65c_rangeCheckForAdd_d00df) 16 = .ok (.aload_n 0, 1) := by decide +kernel
theorem d_Jx4a65c_rangeCheckForAdd_d00df_17 : decode (mC M_Jx4a65c_rangeCheckForAdd_d00df) 17 = .ok (.iload_n 1, 1) := by decide +kernel
theorem d_Jx4a65c_rangeCheckForAdd_d00df_18 : decode (mC M_Jx4a65c_rangeCheckForAdd_d00df) 18 = .ok (.invokevirtual 198, 3) := by decide +kernel
theorem d_Jx4a65c_rangeCheckForAdd_d00df_21 : decode (mC M_Jx4a65c_rangeCheckForAdd_d00df) 21 = .ok (.invokespecial 193, 3) := by decide +kernel
theorem d_Jx4a65c_rangeCheckForAdd_d00df_24 : decode (mC M_Jx4a65c_rangeCheckForAdd_d00df) 24 = .ok (.athrow, 1) := by decide +kernel
theorem d_Jx4a65c_rangeCheckForAdd_d00df_25 : decode (mC M_Jx4a65c_rangeCheckForAdd_d00df) 25 = .ok (.return_, 1) := by decide +kernel
theorem d_Jx4a65c_size_8abf5_0 : decode (mC M_Jx4a65c_size_8abf5) 0 = .ok (.aload_n 0, 1) := by decide +kernel
theorem d_Jx4a65c_size_8abf5_1 : decode (mC M_Jx4a65c_size_8abf5) 1 = .ok (.getfield 48, 3) := by decide +kernel
theorem d_Jx4a65c_size_8abf5_4 : decode (mC M_Jx4a65c_size_8abf5) 4 = .ok (.ireturn, 1) := by decide +kernel
theorem d_Jxa1e45_init_da8c8_0 : decode (mC M_Jxa1e45_init_da8c8) 0 = .ok (.aload_n 0, 1) := by decide +kernel
theorem d_Jxa1e45_init_da8c8_1 : decode (mC M_Jxa1e45_init_da8c8) 1 = .ok (.invokespecial 1, 3) := by decide +kernel
theorem d_Jxa1e45_init_da8c8_4 : decode (mC M_Jxa1e45_init_da8c8) 4 = .ok (.return_, 1) := by decide +kernel
theorem d_Jxc12de_init_da8c8_0 : decode (mC M_Jxc12de_init_da8c8) 0 = .ok (.aload_n 0, 1) := by decide +kernel
theorem d_Jxc12de_init_da8c8_1 : decode (mC M_Jxc12de_init_da8c8) 1 = .ok (.invokespecial 1, 3) := by decide +kernel
theorem d_Jxc12de_init_da8c8_4 : decode (mC M_Jxc12de_init_da8c8) 4 = .ok (.aload_n 0, 1) := by decide +kernel
theorem d_Jxc12de_init_da8c8_5 : decode (mC M_Jxc12de_init_da8c8) 5 = .ok (.iconst 0, 1) := by decide +kernel
theorem d_Jxc12de_init_da8c8_6 : decode (mC M_Jxc12de_init_da8c8) 6 = .ok (.putfield 7, 3) := by decide +kernel
theorem d_Jxc12de_init_da8c8_9 : decode (mC M_Jxc12de_init_da8c8) 9 = .ok (.return_, 1) := by decide +kernel
def lawc : ByteArray := ⟨⟨[0xbb, 0x00, 0x08, 0x59, 0xb7, 0x00, 0x0f, 0x4c, 0xbb, 0x00, 0x10, 0x59, 0xb7, 0x00, 0x12, 0x4d, 0x04, 0xbc, 0x0b, 0x4e, 0x03, 0x36, 0x04, 0x15, 0x04, 0x2a, 0xbe, 0x10, 0x06, 0x64, 0xa3, 0x03, 0xcf, 0x2a, 0x15, 0x04, 0x2e, 0x10, 0x1f, 0x7e, 0xaa, 0x00, 0x00, 0x00, 0x00, 0x00, 0x03, 0xbf, 0x00, 0x00, 0x00, 0x00, 0x00, 0x00, 0x00, 0x16, 0x00, 0x00, 0x00, 0x6c, 0x00, 0x00, 0x00, 0xb5, 0x00, 0x00, 0x00, 0xea, 0x00, 0x00, 0x01, 0x33, 0x00, 0x00, 0x01, 0x4c, 0x00, 0x00, 0x01, 0x59, 0x00, 0x00, 0x01, 0x66, 0x00, 0x00, 0x01, 0x73, 0x00, 0x00, 0x01, 0xa4, 0x00, 0x00, 0x01, 0xb1, 0x00, 0x00, 0x01, 0xca, 0x00, 0x00, 0x01, 0xe3, 0x00, 0x00, 0x01, 0xfc, 0x00, 0x00, 0x02, 0x21, 0x00, 0x00, 0x02, 0x52, 0x00, 0x00, 0x02, 0x77, 0x00, 0x00, 0x02, 0xc7, 0x00, 0x00, 0x02, 0xec, 0x00, 0x00, 0x03, 0x05, 0x00, 0x00, 0x03, 0x2a, 0x00, 0x00, 0x03, 0x4f, 0x00, 0x00, 0x03, 0x74, 0x00, 0x00, 0x03, 0xa6, 0x2b, 0x2a, 0x15, 0x04, 0x04, 0x60, 0x2e, 0x2a, 0x15, 0x04, 0x05, 0x60, 0x2e, 0x2a, 0x15, 0x04, 0x06, 0x60, 0x2e, 0x2a, 0x15, 0x04, 0x07, 0x60, 0x2e, 0x2a, 0x15, 0x04, 0x08, 0x60, 0x2e, 0xb6, 0x00, 0x13, 0x2c, 0x2a, 0x15, 0x04, 0x04, 0x60, 0x2e, 0x2a, 0x15, 0x04, 0x05, 0x60, 0x2e, 0x2a, 0x15, 0x04, 0x06, 0x60, 0x2e, 0x2a, 0x15, 0x04, 0x07, 0x60, 0x2e, 0x2a, 0x15, 0x04, 0x08, 0x60, 0x2e, 0xb6, 0x00, 0x17, 0x9f, 0x03, 0x0f, 0x03, 0xac, 0x2b, 0x2a, 0x15, 0x04, 0x04, 0x60, 0x2e, 0x2a, 0x15, 0x04, 0x05, 0x60, 0x2e, 0x99, 0x00, 0x07, 0x04, 0xa7, 0x00, 0x04, 0x03, 0xb6, 0x00, 0x18, 0x2c, 0x2a, 0x15, 0x04, 0x04, 0x60, 0x2e, 0x2a, 0x15, 0x04, 0x05, 0x60, 0x2e, 0x99, 0x00, 0x07, 0x04, 0xa7, 0x00, 0x04, 0x03, 0xb6, 0x00, 0x1c, 0x9f, 0x02, 0xda, 0x03, 0xac, 0x2b, 0x2a, 0x15, 0x04, 0x04, 0x60, 0x2e, 0x2a, 0x15, 0x04, 0x05, 0x60, 0x2e, 0x2a, 0x15, 0x04, 0x06, 0x60, 0x2e, 0x2a, 0x15, 0x04, 0x07, 0x60, 0x2e, 0x2a, 0x15, 0x04, 0x08, 0x60, 0x2e, 0xb6, 0x00, 0x1d, 0x2c, 0x2a, 0x15, 0x04, 0x04, 0x60, 0x2e, 0x2a, 0x15, 0x04, 0x05, 0x60, 0x2e, 0x2a, 0x15, 0x04, 0x06, 0x60, 0x2e, 0x2a, 0x15, 0x04, 0x07, 0x60, 0x2e, 0x2a, 0x15, 0x04, 0x08, 0x60, 0x2e, 0xb6, 0x00, 0x20, 0x9f, 0x02, 0x91, 0x03, 0xac, 0x2b, 0x2a, 0x15, 0x04, 0x04, 0x60, 0x2e, 0xb6, 0x00, 0x21, 0x2c, 0x2a, 0x15, 0x04, 0x04, 0x60, 0x2e, 0xb6, 0x00, 0x25, 0x9f, 0x02, 0x78, 0x03, 0xac, 0x2b, 0xb6, 0x00, 0x26, 0x2c, 0xb6, 0x00, 0x2a, 0x9f, 0x02, 0x6b, 0x03, 0xac, 0x2b, 0xb6, 0x00, 0x2b, 0x2c, 0xb6, 0x00, 0x2e, 0x9f, 0x02, 0x5e, 0x03, 0xac, 0x2b, 0xb6, 0x00, 0x2f, 0x2c, 0xb6, 0x00, 0x32, 0x9f, 0x02, 0x51, 0x03, 0xac, 0x2b, 0x2a, 0x15, 0x04, 0x04, 0x60, 0x2e, 0x2a, 0x15, 0x04, 0x05, 0x60, 0x2e, 0x2a, 0x15, 0x04, 0x06, 0x60, 0x2e, 0xb6, 0x00, 0x33, 0x2c, 0x2a, 0x15, 0x04, 0x04, 0x60, 0x2e, 0x2a, 0x15, 0x04, 0x05, 0x60, 0x2e, 0x2a, 0x15, 0x04, 0x06, 0x60, 0x2e, 0xb6, 0x00, 0x36, 0x9f, 0x02, 0x20, 0x03, 0xac, 0x2b, 0xb6, 0x00, 0x37, 0x2c, 0xb6, 0x00, 0x3a, 0x9f, 0x02, 0x13, 0x03, 0xac, 0x2b, 0x2a, 0x15, 0x04, 0x04, 0x60, 0x2e, 0xb6, 0x00, 0x3b, 0x2c, 0x2a, 0x15, 0x04, 0x04, 0x60, 0x2e, 0xb6, 0x00, 0x3e, 0x9f, 0x01, 0xfa, 0x03, 0xac, 0x2b, 0x2a, 0x15, 0x04, 0x04, 0x60, 0x2e, 0xb6, 0x00, 0x3f, 0x2c, 0x2a, 0x15, 0x04, 0x04, 0x60, 0x2e, 0xb6, 0x00, 0x42, 0x9f, 0x01, 0xe1, 0x03, 0xac, 0x2b, 0x2a, 0x15, 0x04, 0x04, 0x60, 0x2e, 0xb6, 0x00, 0x43, 0x2c, 0x2a, 0x15, 0x04, 0x04, 0x60, 0x2e, 0xb6, 0x00, 0x46, 0x9f, 0x01, 0xc8, 0x03, 0xac, 0x2b, 0x2a, 0x15, 0x04, 0x04, 0x60, 0x2e, 0x2a, 0x15, 0x04, 0x05, 0x60, 0x2e, 0xb6, 0x00, 0x47, 0x2c, 0x2a, 0x15, 0x04, 0x04, 0x60, 0x2e, 0x2a, 0x15, 0x04, 0x05, 0x60, 0x2e, 0xb6, 0x00, 0x4b, 0x9f, 0x01, 0xa3, 0x03, 0xac, 0x2b, 0x2a, 0x15, 0x04, 0x04, 0x60, 0x2e, 0x2a, 0x15, 0x04, 0x05, 0x60, 0x2e, 0x2a, 0x15, 0x04, 0x06, 0x60, 0x2e, 0xb6, 0x00, 0x4c, 0x2c, 0x2a, 0x15, 0x04, 0x04, 0x60, 0x2e, 0x2a, 0x15, 0x04, 0x05, 0x60, 0x2e, 0x2a, 0x15, 0x04, 0x06, 0x60, 0x2e, 0xb6, 0x00, 0x4f, 0x9f, 0x01, 0x72, 0x03, 0xac, 0x2b, 0x2a, 0x15, 0x04, 0x04, 0x60, 0x2e, 0x2a, 0x15, 0x04, 0x05, 0x60, 0x2e, 0xb6, 0x00, 0x50, 0x2c, 0x2a, 0x15, 0x04, 0x04, 0x60, 0x2e, 0x2a, 0x15, 0x04, 0x05, 0x60, 0x2e, 0xb6, 0x00, 0x53, 0x9f, 0x01, 0x4d, 0x03, 0xac, 0x2b, 0x2a, 0x15, 0x04, 0x04, 0x60, 0x2e, 0x2a, 0x15, 0x04, 0x05, 0x60, 0x2e, 0x2a, 0x15, 0x04, 0x06, 0x60, 0x2e, 0x2d, 0xb8, 0x00, 0x54, 0x36, 0x05, 0x2c, 0x2a, 0x15, 0x04, 0x04, 0x60, 0x2e, 0x2a, 0x15, 0x04, 0x05, 0x60, 0x2e, 0x2a, 0x15, 0x04, 0x06, 0x60, 0x2e, 0xb6, 0x00, 0x59, 0x36, 0x06, 0x2c, 0xb6, 0x00, 0x5a, 0x15, 0x05, 0x9f, 0x00, 0x05, 0x03, 0xac, 0x15, 0x05, 0x9a, 0x00, 0x0f, 0x2d, 0x03, 0x2f, 0x15, 0x06, 0x85, 0x94, 0x99, 0x00, 0x05, 0x03, 0xac, 0xa7, 0x00, 0xfb, 0x2b, 0x2a, 0x15, 0x04, 0x04, 0x60, 0x2e, 0x2a, 0x15, 0x04, 0x05, 0x60, 0x2e, 0xb6, 0x00, 0x5d, 0x2c, 0x2a, 0x15, 0x04, 0x04, 0x60, 0x2e, 0x2a, 0x15, 0x04, 0x05, 0x60, 0x2e, 0xb6, 0x00, 0x60, 0x9f, 0x00, 0xd8, 0x03, 0xac, 0x2b, 0x2a, 0x15, 0x04, 0x04, 0x60, 0x2e, 0xb6, 0x00, 0x61, 0x2c, 0x2a, 0x15, 0x04, 0x04, 0x60, 0x2e, 0xb6, 0x00, 0x64, 0x9f, 0x00, 0xbf, 0x03, 0xac, 0x2b, 0x2a, 0x15, 0x04, 0x04, 0x60, 0x2e, 0x2a, 0x15, 0x04, 0x05, 0x60, 0x2e, 0xb6, 0x00, 0x65, 0x2c, 0x2a, 0x15, 0x04, 0x04, 0x60, 0x2e, 0x2a, 0x15, 0x04, 0x05, 0x60, 0x2e, 0xb6, 0x00, 0x68, 0x9f, 0x00, 0x9a, 0x03, 0xac, 0x2b, 0x2a, 0x15, 0x04, 0x04, 0x60, 0x2e, 0x2a, 0x15, 0x04, 0x05, 0x60, 0x2e, 0xb6, 0x00, 0x69, 0x2c, 0x2a, 0x15, 0x04, 0x04, 0x60, 0x2e, 0x2a, 0x15, 0x04, 0x05, 0x60, 0x2e, 0xb6, 0x00, 0x6c, 0x9f, 0x00, 0x75, 0x03, 0xac, 0x2b, 0x2a, 0x15, 0x04, 0x04, 0x60, 0x2e, 0x2a, 0x15, 0x04, 0x05, 0x60, 0x2e, 0xb6, 0x00, 0x6d, 0x2c, 0x2a, 0x15, 0x04, 0x04, 0x60, 0x2e, 0x2a, 0x15, 0x04, 0x05, 0x60, 0x2e, 0xb6, 0x00, 0x70, 0x9f, 0x00, 0x50, 0x03, 0xac, 0x2b, 0x2a, 0x15, 0x04, 0x04, 0x60, 0x2e, 0x2a, 0x15, 0x04, 0x05, 0x60, 0x2e, 0x2a, 0x15, 0x04, 0x06, 0x60, 0x2e, 0xb6, 0x00, 0x71, 0x2c, 0x2a, 0x15, 0x04, 0x04, 0x60, 0x2e, 0x2a, 0x15, 0x04, 0x05, 0x60, 0x2e, 0x2a, 0x15, 0x04, 0x06, 0x60, 0x2e, 0xb6, 0x00, 0x75, 0x94, 0x99, 0x00, 0x1e, 0x03, 0xac, 0x2b, 0x2a, 0x15, 0x04, 0x04, 0x60, 0x2e, 0xb6, 0x00, 0x76, 0x2c, 0x2a, 0x15, 0x04, 0x04, 0x60, 0x2e, 0xb6, 0x00, 0x79, 0x9f, 0x00, 0x05, 0x03, 0xac, 0x84, 0x04, 0x06, 0xa7, 0xfc, 0x2d, 0x04, 0xac]⟩⟩
theorem lawc_eq : mC M_L_law = lawc := by decide +kernel
theorem d_L_law_0 : decode (mC M_L_law) 0 = .ok (.new 8, 3) := (congrArg (fun b => decode b 0) lawc_eq).trans (by decide +kernel)
theorem d_L_law_3 : decode (mC M_L_law) 3 = .ok (.dup, 1) := (congrArg (fun b => decode b 3) lawc_eq).trans (by decide +kernel)
theorem d_L_law_4 : decode (mC M_L_law) 4 = .ok (.invokespecial 15, 3) := (congrArg (fun b => decode b 4) lawc_eq).trans (by decide +kernel)
theorem d_L_law_7 : decode (mC M_L_law) 7 = .ok (.astore_n 1, 1) := (congrArg (fun b => decode b 7) lawc_eq).trans (by decide +kernel)
theorem d_L_law_8 : decode (mC M_L_law) 8 = .ok (.new 16, 3) := (congrArg (fun b => decode b 8) lawc_eq).trans (by decide +kernel)
theorem d_L_law_11 : decode (mC M_L_law) 11 = .ok (.dup, 1) := (congrArg (fun b => decode b 11) lawc_eq).trans (by decide +kernel)
theorem d_L_law_12 : decode (mC M_L_law) 12 = .ok (.invokespecial 18, 3) := (congrArg (fun b => decode b 12) lawc_eq).trans (by decide +kernel)
theorem d_L_law_15 : decode (mC M_L_law) 15 = .ok (.astore_n 2, 1) := (congrArg (fun b => decode b 15) lawc_eq).trans (by decide +kernel)
theorem d_L_law_16 : decode (mC M_L_law) 16 = .ok (.iconst 1, 1) := (congrArg (fun b => decode b 16) lawc_eq).trans (by decide +kernel)
theorem d_L_law_17 : decode (mC M_L_law) 17 = .ok (.newarray .long, 2) := (congrArg (fun b => decode b 17) lawc_eq).trans (by decide +kernel)
theorem d_L_law_19 : decode (mC M_L_law) 19 = .ok (.astore_n 3, 1) := (congrArg (fun b => decode b 19) lawc_eq).trans (by decide +kernel)
theorem d_L_law_20 : decode (mC M_L_law) 20 = .ok (.iconst 0, 1) := (congrArg (fun b => decode b 20) lawc_eq).trans (by decide +kernel)
theorem d_L_law_21 : decode (mC M_L_law) 21 = .ok (.istore 4, 2) := (congrArg (fun b => decode b 21) lawc_eq).trans (by decide +kernel)
theorem d_L_law_23 : decode (mC M_L_law) 23 = .ok (.iload 4, 2) := (congrArg (fun b => decode b 23) lawc_eq).trans (by decide +kernel)
theorem d_L_law_25 : decode (mC M_L_law) 25 = .ok (.aload_n 0, 1) := (congrArg (fun b => decode b 25) lawc_eq).trans (by decide +kernel)
theorem d_L_law_26 : decode (mC M_L_law) 26 = .ok (.arraylength, 1) := (congrArg (fun b => decode b 26) lawc_eq).trans (by decide +kernel)
theorem d_L_law_27 : decode (mC M_L_law) 27 = .ok (.bipush 6, 2) := (congrArg (fun b => decode b 27) lawc_eq).trans (by decide +kernel)
theorem d_L_law_29 : decode (mC M_L_law) 29 = .ok (.isub, 1) := (congrArg (fun b => decode b 29) lawc_eq).trans (by decide +kernel)
theorem d_L_law_30 : decode (mC M_L_law) 30 = .ok (.if_icmp .gt 975, 3) := (congrArg (fun b => decode b 30) lawc_eq).trans (by decide +kernel)
theorem d_L_law_33 : decode (mC M_L_law) 33 = .ok (.aload_n 0, 1) := (congrArg (fun b => decode b 33) lawc_eq).trans (by decide +kernel)
theorem d_L_law_34 : decode (mC M_L_law) 34 = .ok (.iload 4, 2) := (congrArg (fun b => decode b 34) lawc_eq).trans (by decide +kernel)
theorem d_L_law_36 : decode (mC M_L_law) 36 = .ok (.iaload, 1) := (congrArg (fun b => decode b 36) lawc_eq).trans (by decide +kernel)
theorem d_L_law_37 : decode (mC M_L_law) 37 = .ok (.bipush 31, 2) := (congrArg (fun b => decode b 37) lawc_eq).trans (by decide +kernel)
theorem d_L_law_39 : decode (mC M_L_law) 39 = .ok (.iand, 1) := (congrArg (fun b => decode b 39) lawc_eq).trans (by decide +kernel)
theorem d_L_law_40 : decode (mC M_L_law) 40 = .ok (.tableswitch 959 0 22 #[108, 181, 234, 307, 332, 345, 358, 371, 420, 433, 458, 483, 508, 545, 594, 631, 711, 748, 773, 810, 847, 884, 934], 108) := (congrArg (fun b => decode b 40) lawc_eq).trans (by decide +kernel)
theorem d_L_law_148 : decode (mC M_L_law) 148 = .ok (.aload_n 1, 1) := (congrArg (fun b => decode b 148) lawc_eq).trans (by decide +kernel)
theorem d_L_law_149 : decode (mC M_L_law) 149 = .ok (.aload_n 0, 1) := (congrArg (fun b => decode b 149) lawc_eq).trans (by decide +kernel)
theorem d_L_law_150 : decode (mC M_L_law) 150 = .ok (.iload 4, 2) := (congrArg (fun b => decode b 150) lawc_eq).trans (by decide +kernel)
theorem d_L_law_152 : decode (mC M_L_law) 152 = .ok (.iconst 1, 1) := (congrArg (fun b => decode b 152) lawc_eq).trans (by decide +kernel)
theorem d_L_law_153 : decode (mC M_L_law) 153 = .ok (.iadd, 1) := (congrArg (fun b => decode b 153) lawc_eq).trans (by decide +kernel)
theorem d_L_law_154 : decode (mC M_L_law) 154 = .ok (.iaload, 1) := (congrArg (fun b => decode b 154) lawc_eq).trans (by decide +kernel)
theorem d_L_law_155 : decode (mC M_L_law) 155 = .ok (.aload_n 0, 1) := (congrArg (fun b => decode b 155) lawc_eq).trans (by decide +kernel)
theorem d_L_law_156 : decode (mC M_L_law) 156 = .ok (.iload 4, 2) := (congrArg (fun b => decode b 156) lawc_eq).trans (by decide +kernel)
theorem d_L_law_158 : decode (mC M_L_law) 158 = .ok (.iconst 2, 1) := (congrArg (fun b => decode b 158) lawc_eq).trans (by decide +kernel)
theorem d_L_law_159 : decode (mC M_L_law) 159 = .ok (.iadd, 1) := (congrArg (fun b => decode b 159) lawc_eq).trans (by decide +kernel)
theorem d_L_law_160 : decode (mC M_L_law) 160 = .ok (.iaload, 1) := (congrArg (fun b => decode b 160) lawc_eq).trans (by decide +kernel)
theorem d_L_law_161 : decode (mC M_L_law) 161 = .ok (.aload_n 0, 1) := (congrArg (fun b => decode b 161) lawc_eq).trans (by decide +kernel)
theorem d_L_law_162 : decode (mC M_L_law) 162 = .ok (.iload 4, 2) := (congrArg (fun b => decode b 162) lawc_eq).trans (by decide +kernel)
theorem d_L_law_164 : decode (mC M_L_law) 164 = .ok (.iconst 3, 1) := (congrArg (fun b => decode b 164) lawc_eq).trans (by decide +kernel)
theorem d_L_law_165 : decode (mC M_L_law) 165 = .ok (.iadd, 1) := (congrArg (fun b => decode b 165) lawc_eq).trans (by decide +kernel)
theorem d_L_law_166 : decode (mC M_L_law) 166 = .ok (.iaload, 1) := (congrArg (fun b => decode b 166) lawc_eq).trans (by decide +kernel)
theorem d_L_law_167 : decode (mC M_L_law) 167 = .ok (.aload_n 0, 1) := (congrArg (fun b => decode b 167) lawc_eq).trans (by decide +kernel)
theorem d_L_law_168 : decode (mC M_L_law) 168 = .ok (.iload 4, 2) := (congrArg (fun b => decode b 168) lawc_eq).trans (by decide +kernel)
theorem d_L_law_170 : decode (mC M_L_law) 170 = .ok (.iconst 4, 1) := (congrArg (fun b => decode b 170) lawc_eq).trans (by decide +kernel)
theorem d_L_law_171 : decode (mC M_L_law) 171 = .ok (.iadd, 1) := (congrArg (fun b => decode b 171) lawc_eq).trans (by decide +kernel)
theorem d_L_law_172 : decode (mC M_L_law) 172 = .ok (.iaload, 1) := (congrArg (fun b => decode b 172) lawc_eq).trans (by decide +kernel)
theorem d_L_law_173 : decode (mC M_L_law) 173 = .ok (.aload_n 0, 1) := (congrArg (fun b => decode b 173) lawc_eq).trans (by decide +kernel)
theorem d_L_law_174 : decode (mC M_L_law) 174 = .ok (.iload 4, 2) := (congrArg (fun b => decode b 174) lawc_eq).trans (by decide +kernel)
theorem d_L_law_176 : decode (mC M_L_law) 176 = .ok (.iconst 5, 1) := (congrArg (fun b => decode b 176) lawc_eq).trans (by decide +kernel)
theorem d_L_law_177 : decode (mC M_L_law) 177 = .ok (.iadd, 1) := (congrArg (fun b => decode b 177) lawc_eq).trans (by decide +kernel)
theorem d_L_law_178 : decode (mC M_L_law) 178 = .ok (.iaload, 1) := (congrArg (fun b => decode b 178) lawc_eq).trans (by decide +kernel)
theorem d_L_law_179 : decode (mC M_L_law) 179 = .ok (.invokevirtual 19, 3) := (congrArg (fun b => decode b 179) lawc_eq).trans (by decide +kernel)
theorem d_L_law_182 : decode (mC M_L_law) 182 = .ok (.aload_n 2, 1) := (congrArg (fun b => decode b 182) lawc_eq).trans (by decide +kernel)
theorem d_L_law_183 : decode (mC M_L_law) 183 = .ok (.aload_n 0, 1) := (congrArg (fun b => decode b 183) lawc_eq).trans (by decide +kernel)
theorem d_L_law_184 : decode (mC M_L_law) 184 = .ok (.iload 4, 2) := (congrArg (fun b => decode b 184) lawc_eq).trans (by decide +kernel)
theorem d_L_law_186 : decode (mC M_L_law) 186 = .ok (.iconst 1, 1) := (congrArg (fun b => decode b 186) lawc_eq).trans (by decide +kernel)
theorem d_L_law_187 : decode (mC M_L_law) 187 = .ok (.iadd, 1) := (congrArg (fun b => decode b 187) lawc_eq).trans (by decide +kernel)
theorem d_L_law_188 : decode (mC M_L_law) 188 = .ok (.iaload, 1) := (congrArg (fun b => decode b 188) lawc_eq).trans (by decide +kernel)
theorem d_L_law_189 : decode (mC M_L_law) 189 = .ok (.aload_n 0, 1) := (congrArg (fun b => decode b 189) lawc_eq).trans (by decide +kernel)
theorem d_L_law_190 : decode (mC M_L_law) 190 = .ok (.iload 4, 2) := (congrArg (fun b => decode b 190) lawc_eq).trans (by decide +kernel)
theorem d_L_law_192 : decode (mC M_L_law) 192 = .ok (.iconst 2, 1) := (congrArg (fun b => decode b 192) lawc_eq).trans (by decide +kernel)
theorem d_L_law_193 : decode (mC M_L_law) 193 = .ok (.iadd, 1) := (congrArg (fun b => decode b 193) lawc_eq).trans (by decide +kernel)
theorem d_L_law_194 : decode (mC M_L_law) 194 = .ok (.iaload, 1) := (congrArg (fun b => decode b 194) lawc_eq).trans (by decide +kernel)
theorem d_L_law_195 : decode (mC M_L_law) 195 = .ok (.aload_n 0, 1) := (congrArg (fun b => decode b 195) lawc_eq).trans (by decide +kernel)
theorem d_L_law_196 : decode (mC M_L_law) 196 = .ok (.iload 4, 2) := (congrArg (fun b => decode b 196) lawc_eq).trans (by decide +kernel)
theorem d_L_law_198 : decode (mC M_L_law) 198 = .ok (.iconst 3, 1) := (congrArg (fun b => decode b 198) lawc_eq).trans (by decide +kernel)
theorem d_L_law_199 : decode (mC M_L_law) 199 = .ok (.iadd, 1) := (congrArg (fun b => decode b 199) lawc_eq).trans (by decide +kernel)
theorem d_L_law_200 : decode (mC M_L_law) 200 = .ok (.iaload, 1) := (congrArg (fun b => decode b 200) lawc_eq).trans (by decide +kernel)
theorem d_L_law_201 : decode (mC M_L_law) 201 = .ok (.aload_n 0, 1) := (congrArg (fun b => decode b 201) lawc_eq).trans (by decide +kernel)
theorem d_L_law_202 : decode (mC M_L_law) 202 = .ok (.iload 4, 2) := (congrArg (fun b => decode b 202) lawc_eq).trans (by decide +kernel)
theorem d_L_law_204 : decode (mC M_L_law) 204 = .ok (.iconst 4, 1) := (congrArg (fun b => decode b 204) lawc_eq).trans (by decide +kernel)
theorem d_L_law_205 : decode (mC M_L_law) 205 = .ok (.iadd, 1) := (congrArg (fun b => decode b 205) lawc_eq).trans (by decide +kernel)
theorem d_L_law_206 : decode (mC M_L_law) 206 = .ok (.iaload, 1) := (congrArg (fun b => decode b 206) lawc_eq).trans (by decide +kernel)
theorem d_L_law_207 : decode (mC M_L_law) 207 = .ok (.aload_n 0, 1) := (congrArg (fun b => decode b 207) lawc_eq).trans (by decide +kernel)
theorem d_L_law_208 : decode (mC M_L_law) 208 = .ok (.iload 4, 2) := (congrArg (fun b => decode b 208) lawc_eq).trans (by decide +kernel)
theorem d_L_law_210 : decode (mC M_L_law) 210 = .ok (.iconst 5, 1) := (congrArg (fun b => decode b 210) lawc_eq).trans (by decide +kernel)
theorem d_L_law_211 : decode (mC M_L_law) 211 = .ok (.iadd, 1) := (congrArg (fun b => decode b 211) lawc_eq).trans (by decide +kernel)
theorem d_L_law_212 : decode (mC M_L_law) 212 = .ok (.iaload, 1) := (congrArg (fun b => decode b 212) lawc_eq).trans (by decide +kernel)
theorem d_L_law_213 : decode (mC M_L_law) 213 = .ok (.invokevirtual 23, 3) := (congrArg (fun b => decode b 213) lawc_eq).trans (by decide +kernel)
theorem d_L_law_216 : decode (mC M_L_law) 216 = .ok (.if_icmp .eq 783, 3) := (congrArg (fun b => decode b 216) lawc_eq).trans (by decide +kernel)
theorem d_L_law_219 : decode (mC M_L_law) 219 = .ok (.iconst 0, 1) := (congrArg (fun b => decode b 219) lawc_eq).trans (by decide +kernel)
theorem d_L_law_220 : decode (mC M_L_law) 220 = .ok (.ireturn, 1) := (congrArg (fun b => decode b 220) lawc_eq).trans (by decide +kernel)
theorem d_L_law_221 : decode (mC M_L_law) 221 = .ok (.aload_n 1, 1) := (congrArg (fun b => decode b 221) lawc_eq).trans (by decide +kernel)
theorem d_L_law_222 : decode (mC M_L_law) 222 = .ok (.aload_n 0, 1) := (congrArg (fun b => decode b 222) lawc_eq).trans (by decide +kernel)
theorem d_L_law_223 : decode (mC M_L_law) 223 = .ok (.iload 4, 2) := (congrArg (fun b => decode b 223) lawc_eq).trans (by decide +kernel)
theorem d_L_law_225 : decode (mC M_L_law) 225 = .ok (.iconst 1, 1) := (congrArg (fun b => decode b 225) lawc_eq).trans (by decide +kernel)
theorem d_L_law_226 : decode (mC M_L_law) 226 = .ok (.iadd, 1) := (congrArg (fun b => decode b 226) lawc_eq).trans (by decide +kernel)
theorem d_L_law_227 : decode (mC M_L_law) 227 = .ok (.iaload, 1) := (congrArg (fun b => decode b 227) lawc_eq).trans (by decide +kernel)
theorem d_L_law_228 : decode (mC M_L_law) 228 = .ok (.aload_n 0, 1) := (congrArg (fun b => decode b 228) lawc_eq).trans (by decide +kernel)
theorem d_L_law_229 : decode (mC M_L_law) 229 = .ok (.iload 4, 2) := (congrArg (fun b => decode b 229) lawc_eq).trans (by decide +kernel)
theorem d_L_law_231 : decode (mC M_L_law) 231 = .ok (.iconst 2, 1) := (congrArg (fun b => decode b 231) lawc_eq).trans (by decide +kernel)
theorem d_L_law_232 : decode (mC M_L_law) 232 = .ok (.iadd, 1) := (congrArg (fun b => decode b 232) lawc_eq).trans (by decide +kernel)
theorem d_L_law_233 : decode (mC M_L_law) 233 = .ok (.iaload, 1) := (congrArg (fun b => decode b 233) lawc_eq).trans (by decide +kernel)
theorem d_L_law_234 : decode (mC M_L_law) 234 = .ok (.ifCond .eq 7, 3) := (congrArg (fun b => decode b 234) lawc_eq).trans (by decide +kernel)
theorem d_L_law_237 : decode (mC M_L_law) 237 = .ok (.iconst 1, 1) := (congrArg (fun b => decode b 237) lawc_eq).trans (by decide +kernel)
theorem d_L_law_238 : decode (mC M_L_law) 238 = .ok (.goto 4, 3) := (congrArg (fun b => decode b 238) lawc_eq).trans (by decide +kernel)
theorem d_L_law_241 : decode (mC M_L_law) 241 = .ok (.iconst 0, 1) := (congrArg (fun b => decode b 241) lawc_eq).trans (by decide +kernel)
theorem d_L_law_242 : decode (mC M_L_law) 242 = .ok (.invokevirtual 24, 3) := (congrArg (fun b => decode b 242) lawc_eq).trans (by decide +kernel)
theorem d_L_law_245 : decode (mC M_L_law) 245 = .ok (.aload_n 2, 1) := (congrArg (fun b => decode b 245) lawc_eq).trans (by decide +kernel)
theorem d_L_law_246 : decode (mC M_L_law) 246 = .ok (.aload_n 0, 1) := (congrArg (fun b => decode b 246) lawc_eq).trans (by decide +kernel)
theorem d_L_law_247 : decode (mC M_L_law) 247 = .ok (.iload 4, 2) := (congrArg (fun b => decode b 247) lawc_eq).trans (by decide +kernel)
theorem d_L_law_249 : decode (mC M_L_law) 249 = .ok (.iconst 1, 1) := (congrArg (fun b => decode b 249) lawc_eq).trans (by decide +kernel)
theorem d_L_law_250 : decode (mC M_L_law) 250 = .ok (.iadd, 1) := (congrArg (fun b => decode b 250) lawc_eq).trans (by decide +kernel)
theorem d_L_law_251 : decode (mC M_L_law) 251 = .ok (.iaload, 1) := (congrArg (fun b => decode b 251) lawc_eq).trans (by decide +kernel)
theorem d_L_law_252 : decode (mC M_L_law) 252 = .ok (.aload_n 0, 1) := (congrArg (fun b => decode b 252) lawc_eq).trans (by decide +kernel)
theorem d_L_law_253 : decode (mC M_L_law) 253 = .ok (.iload 4, 2) := (congrArg (fun b => decode b 253) lawc_eq).trans (by decide +kernel)
theorem d_L_law_255 : decode (mC M_L_law) 255 = .ok (.iconst 2, 1) := (congrArg (fun b => decode b 255) lawc_eq).trans (by decide +kernel)
theorem d_L_law_256 : decode (mC M_L_law) 256 = .ok (.iadd, 1) := (congrArg (fun b => decode b 256) lawc_eq).trans (by decide +kernel)
theorem d_L_law_257 : decode (mC M_L_law) 257 = .ok (.iaload, 1) := (congrArg (fun b => decode b 257) lawc_eq).trans (by decide +kernel)
theorem d_L_law_258 : decode (mC M_L_law) 258 = .ok (.ifCond .eq 7, 3) := (congrArg (fun b => decode b 258) lawc_eq).trans (by decide +kernel)
theorem d_L_law_261 : decode (mC M_L_law) 261 = .ok (.iconst 1, 1) := (congrArg (fun b => decode b 261) lawc_eq).trans (by decide +kernel)
theorem d_L_law_262 : decode (mC M_L_law) 262 = .ok (.goto 4, 3) := (congrArg (fun b => decode b 262) lawc_eq).trans (by decide +kernel)
theorem d_L_law_265 : decode (mC M_L_law) 265 = .ok (.iconst 0, 1) := (congrArg (fun b => decode b 265) lawc_eq).trans (by decide +kernel)
theorem d_L_law_266 : decode (mC M_L_law) 266 = .ok (.invokevirtual 28, 3) := (congrArg (fun b => decode b 266) lawc_eq).trans (by decide +kernel)
theorem d_L_law_269 : decode (mC M_L_law) 269 = .ok (.if_icmp .eq 730, 3) := (congrArg (fun b => decode b 269) lawc_eq).trans (by decide +kernel)
theorem d_L_law_272 : decode (mC M_L_law) 272 = .ok (.iconst 0, 1) := (congrArg (fun b => decode b 272) lawc_eq).trans (by decide +kernel)
theorem d_L_law_273 : decode (mC M_L_law) 273 = .ok (.ireturn, 1) := (congrArg (fun b => decode b 273) lawc_eq).trans (by decide +kernel)
theorem d_L_law_274 : decode (mC M_L_law) 274 = .ok (.aload_n 1, 1) := (congrArg (fun b => decode b 274) lawc_eq).trans (by decide +kernel)
theorem d_L_law_275 : decode (mC M_L_law) 275 = .ok (.aload_n 0, 1) := (congrArg (fun b => decode b 275) lawc_eq).trans (by decide +kernel)
theorem d_L_law_276 : decode (mC M_L_law) 276 = .ok (.iload 4, 2) := (congrArg (fun b => decode b 276) lawc_eq).trans (by decide +kernel)
theorem d_L_law_278 : decode (mC M_L_law) 278 = .ok (.iconst 1, 1) := (congrArg (fun b => decode b 278) lawc_eq).trans (by decide +kernel)
theorem d_L_law_279 : decode (mC M_L_law) 279 = .ok (.iadd, 1) := (congrArg (fun b => decode b 279) lawc_eq).trans (by decide +kernel)
theorem d_L_law_280 : decode (mC M_L_law) 280 = .ok (.iaload, 1) := (congrArg (fun b => decode b 280) lawc_eq).trans (by decide +kernel)
theorem d_L_law_281 : decode (mC M_L_law) 281 = .ok (.aload_n 0, 1) := (congrArg (fun b => decode b 281) lawc_eq).trans (by decide +kernel)
theorem d_L_law_282 : decode (mC M_L_law) 282 = .ok (.iload 4, 2) := (congrArg (fun b => decode b 282) lawc_eq).trans (by decide +kernel)
theorem d_L_law_284 : decode (mC M_L_law) 284 = .ok (.iconst 2, 1) := (congrArg (fun b => decode b 284) lawc_eq).trans (by decide +kernel)
theorem d_L_law_285 : decode (mC M_L_law) 285 = .ok (.iadd, 1) := (congrArg (fun b => decode b 285) lawc_eq).trans (by decide +kernel)
theorem d_L_law_286 : decode (mC M_L_law) 286 = .ok (.iaload, 1) := (congrArg (fun b => decode b 286) lawc_eq).trans (by decide +kernel)
theorem d_L_law_287 : decode (mC M_L_law) 287 = .ok (.aload_n 0, 1) := (congrArg (fun b => decode b 287) lawc_eq).trans (by decide +kernel)
theorem d_L_law_288 : decode (mC M_L_law) 288 = .ok (.iload 4, 2) := (congrArg (fun b => decode b 288) lawc_eq).trans (by decide +kernel)
theorem d_L_law_290 : decode (mC M_L_law) 290 = .ok (.iconst 3, 1) := (congrArg (fun b => decode b 290) lawc_eq).trans (by decide +kernel)
theorem d_L_law_291 : decode (mC M_L_law) 291 = .ok (.iadd, 1) := (congrArg (fun b => decode b 291) lawc_eq).trans (by decide +kernel)
theorem d_L_law_292 : decode (mC M_L_law) 292 = .ok (.iaload, 1) := (congrArg (fun b => decode b 292) lawc_eq).trans (by decide +kernel)
theorem d_L_law_293 : decode (mC M_L_law) 293 = .ok (.aload_n 0, 1) := (congrArg (fun b => decode b 293) lawc_eq).trans (by decide +kernel)
theorem d_L_law_294 : decode (mC M_L_law) 294 = .ok (.iload 4, 2) := (congrArg (fun b => decode b 294) lawc_eq).trans (by decide +kernel)
theorem d_L_law_296 : decode (mC M_L_law) 296 = .ok (.iconst 4, 1) := (congrArg (fun b => decode b 296) lawc_eq).trans (by decide +kernel)
theorem d_L_law_297 : decode (mC M_L_law) 297 = .ok (.iadd, 1) := (congrArg (fun b => decode b 297) lawc_eq).trans (by decide +kernel)
theorem d_L_law_298 : decode (mC M_L_law) 298 = .ok (.iaload, 1) := (congrArg (fun b => decode b 298) lawc_eq).trans (by decide +kernel)
theorem d_L_law_299 : decode (mC M_L_law) 299 = .ok (.aload_n 0, 1) := (congrArg (fun b => decode b 299) lawc_eq).trans (by decide +kernel)
theorem d_L_law_300 : decode (mC M_L_law) 300 = .ok (.iload 4, 2) := (congrArg (fun b => decode b 300) lawc_eq).trans (by decide +kernel)
theorem d_L_law_302 : decode (mC M_L_law) 302 = .ok (.iconst 5, 1) := (congrArg (fun b => decode b 302) lawc_eq).trans (by decide +kernel)
theorem d_L_law_303 : decode (mC M_L_law) 303 = .ok (.iadd, 1) := (congrArg (fun b => decode b 303) lawc_eq).trans (by decide +kernel)
theorem d_L_law_304 : decode (mC M_L_law) 304 = .ok (.iaload, 1) := (congrArg (fun b => decode b 304) lawc_eq).trans (by decide +kernel)
theorem d_L_law_305 : decode (mC M_L_law) 305 = .ok (.invokevirtual 29, 3) := (congrArg (fun b => decode b 305) lawc_eq).trans (by decide +kernel)
theorem d_L_law_308 : decode (mC M_L_law) 308 = .ok (.aload_n 2, 1) := (congrArg (fun b => decode b 308) lawc_eq).trans (by decide +kernel)
theorem d_L_law_309 : decode (mC M_L_law) 309 = .ok (.aload_n 0, 1) := (congrArg (fun b => decode b 309) lawc_eq).trans (by decide +kernel)
theorem d_L_law_310 : decode (mC M_L_law) 310 = .ok (.iload 4, 2) := (congrArg (fun b => decode b 310) lawc_eq).trans (by decide +kernel)
theorem d_L_law_312 : decode (mC M_L_law) 312 = .ok (.iconst 1, 1) := (congrArg (fun b => decode b 312) lawc_eq).trans (by decide +kernel)
theorem d_L_law_313 : decode (mC M_L_law) 313 = .ok (.iadd, 1) := (congrArg (fun b => decode b 313) lawc_eq).trans (by decide +kernel)
theorem d_L_law_314 : decode (mC M_L_law) 314 = .ok (.iaload, 1) := (congrArg (fun b => decode b 314) lawc_eq).trans (by decide +kernel)
theorem d_L_law_315 : decode (mC M_L_law) 315 = .ok (.aload_n 0, 1) := (congrArg (fun b => decode b 315) lawc_eq).trans (by decide +kernel)
theorem d_L_law_316 : decode (mC M_L_law) 316 = .ok (.iload 4, 2) := (congrArg (fun b => decode b 316) lawc_eq).trans (by decide +kernel)
theorem d_L_law_318 : decode (mC M_L_law) 318 = .ok (.iconst 2, 1) := (congrArg (fun b => decode b 318) lawc_eq).trans (by decide +kernel)
theorem d_L_law_319 : decode (mC M_L_law) 319 = .ok (.iadd, 1) := (congrArg (fun b => decode b 319) lawc_eq).trans (by decide +kernel)
theorem d_L_law_320 : decode (mC M_L_law) 320 = .ok (.iaload, 1) := (congrArg (fun b => decode b 320) lawc_eq).trans (by decide +kernel)
theorem d_L_law_321 : decode (mC M_L_law) 321 = .ok (.aload_n 0, 1) := (congrArg (fun b => decode b 321) lawc_eq).trans (by decide +kernel)
theorem d_L_law_322 : decode (mC M_L_law) 322 = .ok (.iload 4, 2) := (congrArg (fun b => decode b 322) lawc_eq).trans (by decide +kernel)
theorem d_L_law_324 : decode (mC M_L_law) 324 = .ok (.iconst 3, 1) := (congrArg (fun b => decode b 324) lawc_eq).trans (by decide +kernel)
theorem d_L_law_325 : decode (mC M_L_law) 325 = .ok (.iadd, 1) := (congrArg (fun b => decode b 325) lawc_eq).trans (by decide +kernel)
theorem d_L_law_326 : decode (mC M_L_law) 326 = .ok (.iaload, 1) := (congrArg (fun b => decode b 326) lawc_eq).trans (by decide +kernel)
theorem d_L_law_327 : decode (mC M_L_law) 327 = .ok (.aload_n 0, 1) := (congrArg (fun b => decode b 327) lawc_eq).trans (by decide +kernel)
theorem d_L_law_328 : decode (mC M_L_law) 328 = .ok (.iload 4, 2) := (congrArg (fun b => decode b 328) lawc_eq).trans (by decide +kernel)
theorem d_L_law_330 : decode (mC M_L_law) 330 = .ok (.iconst 4, 1) := (congrArg (fun b => decode b 330) lawc_eq).trans (by decide +kernel)
theorem d_L_law_331 : decode (mC M_L_law) 331 = .ok (.iadd, 1) := (congrArg (fun b => decode b 331) lawc_eq).trans (by decide +kernel)
theorem d_L_law_332 : decode (mC M_L_law) 332 = .ok (.iaload, 1) := (congrArg (fun b => decode b 332) lawc_eq).trans (by decide +kernel)
theorem d_L_law_333 : decode (mC M_L_law) 333 = .ok (.aload_n 0, 1) := (congrArg (fun b => decode b 333) lawc_eq).trans (by decide +kernel)
theorem d_L_law_334 : decode (mC M_L_law) 334 = .ok (.iload 4, 2) := (congrArg (fun b => decode b 334) lawc_eq).trans (by decide +kernel)
theorem d_L_law_336 : decode (mC M_L_law) 336 = .ok (.iconst 5, 1) := (congrArg (fun b => decode b 336) lawc_eq).trans (by decide +kernel)
theorem d_L_law_337 : decode (mC M_L_law) 337 = .ok (.iadd, 1) := (congrArg (fun b => decode b 337) lawc_eq).trans (by decide +kernel)
theorem d_L_law_338 : decode (mC M_L_law) 338 = .ok (.iaload, 1) := (congrArg (fun b => decode b 338) lawc_eq).trans (by decide +kernel)
theorem d_L_law_339 : decode (mC M_L_law) 339 = .ok (.invokevirtual 32, 3) := (congrArg (fun b => decode b 339) lawc_eq).trans (by decide +kernel)
theorem d_L_law_342 : decode (mC M_L_law) 342 = .ok (.if_icmp .eq 657, 3) := (congrArg (fun b => decode b 342) lawc_eq).trans (by decide +kernel)
theorem d_L_law_345 : decode (mC M_L_law) 345 = .ok (.iconst 0, 1) := (congrArg (fun b => decode b 345) lawc_eq).trans (by decide +kernel)
theorem d_L_law_346 : decode (mC M_L_law) 346 = .ok (.ireturn, 1) := (congrArg (fun b => decode b 346) lawc_eq).trans (by decide +kernel)
theorem d_L_law_347 : decode (mC M_L_law) 347 = .ok (.aload_n 1, 1) := (congrArg (fun b => decode b 347) lawc_eq).trans (by decide +kernel)
theorem d_L_law_348 : decode (mC M_L_law) 348 = .ok (.aload_n 0, 1) := (congrArg (fun b => decode b 348) lawc_eq).trans (by decide +kernel)
theorem d_L_law_349 : decode (mC M_L_law) 349 = .ok (.iload 4, 2) := (congrArg (fun b => decode b 349) lawc_eq).trans (by decide +kernel)
theorem d_L_law_351 : decode (mC M_L_law) 351 = .ok (.iconst 1, 1) := (congrArg (fun b => decode b 351) lawc_eq).trans (by decide +kernel)
theorem d_L_law_352 : decode (mC M_L_law) 352 = .ok (.iadd, 1) := (congrArg (fun b => decode b 352) lawc_eq).trans (by decide +kernel)
theorem d_L_law_353 : decode (mC M_L_law) 353 = .ok (.iaload, 1) := (congrArg (fun b => decode b 353) lawc_eq).trans (by decide +kernel)
theorem d_L_law_354 : decode (mC M_L_law) 354 = .ok (.invokevirtual 33, 3) := (congrArg (fun b => decode b 354) lawc_eq).trans (by decide +kernel)
theorem d_L_law_357 : decode (mC M_L_law) 357 = .ok (.aload_n 2, 1) := (congrArg (fun b => decode b 357) lawc_eq).trans (by decide +kernel)
theorem d_L_law_358 : decode (mC M_L_law) 358 = .ok (.aload_n 0, 1) := (congrArg (fun b => decode b 358) lawc_eq).trans (by decide +kernel)
theorem d_L_law_359 : decode (mC M_L_law) 359 = .ok (.iload 4, 2) := (congrArg (fun b => decode b 359) lawc_eq).trans (by decide +kernel)
theorem d_L_law_361 : decode (mC M_L_law) 361 = .ok (.iconst 1, 1) := (congrArg (fun b => decode b 361) lawc_eq).trans (by decide +kernel)
theorem d_L_law_362 : decode (mC M_L_law) 362 = .ok (.iadd, 1) := (congrArg (fun b => decode b 362) lawc_eq).trans (by decide +kernel)
theorem d_L_law_363 : decode (mC M_L_law) 363 = .ok (.iaload, 1) := (congrArg (fun b => decode b 363) lawc_eq).trans (by decide +kernel)
theorem d_L_law_364 : decode (mC M_L_law) 364 = .ok (.invokevirtual 37, 3) := (congrArg (fun b => decode b 364) lawc_eq).trans (by decide +kernel)
theorem d_L_law_367 : decode (mC M_L_law) 367 = .ok (.if_icmp .eq 632, 3) := (congrArg (fun b => decode b 367) lawc_eq).trans (by decide +kernel)
theorem d_L_law_370 : decode (mC M_L_law) 370 = .ok (.iconst 0, 1) := (congrArg (fun b => decode b 370) lawc_eq).trans (by decide +kernel)
theorem d_L_law_371 : decode (mC M_L_law) 371 = .ok (.ireturn, 1) := (congrArg (fun b => decode b 371) lawc_eq).trans (by decide +kernel)
theorem d_L_law_372 : decode (mC M_L_law) 372 = .ok (.aload_n 1, 1) := (congrArg (fun b => decode b 372) lawc_eq).trans (by decide +kernel)
theorem d_L_law_373 : decode (mC M_L_law) 373 = .ok (.invokevirtual 38, 3) := (congrArg (fun b => decode b 373) lawc_eq).trans (by decide +kernel)
theorem d_L_law_376 : decode (mC M_L_law) 376 = .ok (.aload_n 2, 1) := (congrArg (fun b => decode b 376) lawc_eq).trans (by decide +kernel)
theorem d_L_law_377 : decode (mC M_L_law) 377 = .ok (.invokevirtual 42, 3) := (congrArg (fun b => decode b 377) lawc_eq).trans (by decide +kernel)
theorem d_L_law_380 : decode (mC M_L_law) 380 = .ok (.if_icmp .eq 619, 3) := (congrArg (fun b => decode b 380) lawc_eq).trans (by decide +kernel)
theorem d_L_law_383 : decode (mC M_L_law) 383 = .ok (.iconst 0, 1) := (congrArg (fun b => decode b 383) lawc_eq).trans (by decide +kernel)
theorem d_L_law_384 : decode (mC M_L_law) 384 = .ok (.ireturn, 1) := (congrArg (fun b => decode b 384) lawc_eq).trans (by decide +kernel)
theorem d_L_law_385 : decode (mC M_L_law) 385 = .ok (.aload_n 1, 1) := (congrArg (fun b => decode b 385) lawc_eq).trans (by decide +kernel)
theorem d_L_law_386 : decode (mC M_L_law) 386 = .ok (.invokevirtual 43, 3) := (congrArg (fun b => decode b 386) lawc_eq).trans (by decide +kernel)
theorem d_L_law_389 : decode (mC M_L_law) 389 = .ok (.aload_n 2, 1) := (congrArg (fun b => decode b 389) lawc_eq).trans (by decide +kernel)
theorem d_L_law_390 : decode (mC M_L_law) 390 = .ok (.invokevirtual 46, 3) := (congrArg (fun b => decode b 390) lawc_eq).trans (by decide +kernel)
theorem d_L_law_393 : decode (mC M_L_law) 393 = .ok (.if_icmp .eq 606, 3) := (congrArg (fun b => decode b 393) lawc_eq).trans (by decide +kernel)
theorem d_L_law_396 : decode (mC M_L_law) 396 = .ok (.iconst 0, 1) := (congrArg (fun b => decode b 396) lawc_eq).trans (by decide +kernel)
theorem d_L_law_397 : decode (mC M_L_law) 397 = .ok (.ireturn, 1) := (congrArg (fun b => decode b 397) lawc_eq).trans (by decide +kernel)
theorem d_L_law_398 : decode (mC M_L_law) 398 = .ok (.aload_n 1, 1) := (congrArg (fun b => decode b 398) lawc_eq).trans (by decide +kernel)
theorem d_L_law_399 : decode (mC M_L_law) 399 = .ok (.invokevirtual 47, 3) := (congrArg (fun b => decode b 399) lawc_eq).trans (by decide +kernel)
theorem d_L_law_402 : decode (mC M_L_law) 402 = .ok (.aload_n 2, 1) := (congrArg (fun b => decode b 402) lawc_eq).trans (by decide +kernel)
theorem d_L_law_403 : decode (mC M_L_law) 403 = .ok (.invokevirtual 50, 3) := (congrArg (fun b => decode b 403) lawc_eq).trans (by decide +kernel)
theorem d_L_law_406 : decode (mC M_L_law) 406 = .ok (.if_icmp .eq 593, 3) := (congrArg (fun b => decode b 406) lawc_eq).trans (by decide +kernel)
theorem d_L_law_409 : decode (mC M_L_law) 409 = .ok (.iconst 0, 1) := (congrArg (fun b => decode b 409) lawc_eq).trans (by decide +kernel)
theorem d_L_law_410 : decode (mC M_L_law) 410 = .ok (.ireturn, 1) := (congrArg (fun b => decode b 410) lawc_eq).trans (by decide +kernel)
theorem d_L_law_411 : decode (mC M_L_law) 411 = .ok (.aload_n 1, 1) := (congrArg (fun b => decode b 411) lawc_eq).trans (by decide +kernel)
theorem d_L_law_412 : decode (mC M_L_law) 412 = .ok (.aload_n 0, 1) := (congrArg (fun b => decode b 412) lawc_eq).trans (by decide +kernel)
theorem d_L_law_413 : decode (mC M_L_law) 413 = .ok (.iload 4, 2) := (congrArg (fun b => decode b 413) lawc_eq).trans (by decide +kernel)
theorem d_L_law_415 : decode (mC M_L_law) 415 = .ok (.iconst 1, 1) := (congrArg (fun b => decode b 415) lawc_eq).trans (by decide +kernel)
theorem d_L_law_416 : decode (mC M_L_law) 416 = .ok (.iadd, 1) := (congrArg (fun b => decode b 416) lawc_eq).trans (by decide +kernel)
theorem d_L_law_417 : decode (mC M_L_law) 417 = .ok (.iaload, 1) := (congrArg (fun b => decode b 417) lawc_eq).trans (by decide +kernel)
theorem d_L_law_418 : decode (mC M_L_law) 418 = .ok (.aload_n 0, 1) := (congrArg (fun b => decode b 418) lawc_eq).trans (by decide +kernel)
theorem d_L_law_419 : decode (mC M_L_law) 419 = .ok (.iload 4, 2) := (congrArg (fun b => decode b 419) lawc_eq).trans (by decide +kernel)
theorem d_L_law_421 : decode (mC M_L_law) 421 = .ok (.iconst 2, 1) := (congrArg (fun b => decode b 421) lawc_eq).trans (by decide +kernel)
theorem d_L_law_422 : decode (mC M_L_law) 422 = .ok (.iadd, 1) := (congrArg (fun b => decode b 422) lawc_eq).trans (by decide +kernel)
theorem d_L_law_423 : decode (mC M_L_law) 423 = .ok (.iaload, 1) := (congrArg (fun b => decode b 423) lawc_eq).trans (by decide +kernel)
theorem d_L_law_424 : decode (mC M_L_law) 424 = .ok (.aload_n 0, 1) := (congrArg (fun b => decode b 424) lawc_eq).trans (by decide +kernel)
theorem d_L_law_425 : decode (mC M_L_law) 425 = .ok (.iload 4, 2) := (congrArg (fun b => decode b 425) lawc_eq).trans (by decide +kernel)
theorem d_L_law_427 : decode (mC M_L_law) 427 = .ok (.iconst 3, 1) := (congrArg (fun b => decode b 427) lawc_eq).trans (by decide +kernel)
theorem d_L_law_428 : decode (mC M_L_law) 428 = .ok (.iadd, 1) := (congrArg (fun b => decode b 428) lawc_eq).trans (by decide +kernel)
theorem d_L_law_429 : decode (mC M_L_law) 429 = .ok (.iaload, 1) := (congrArg (fun b => decode b 429) lawc_eq).trans (by decide +kernel)
theorem d_L_law_430 : decode (mC M_L_law) 430 = .ok (.invokevirtual 51, 3) := (congrArg (fun b => decode b 430) lawc_eq).trans (by decide +kernel)
theorem d_L_law_433 : decode (mC M_L_law) 433 = .ok (.aload_n 2, 1) := (congrArg (fun b => decode b 433) lawc_eq).trans (by decide +kernel)
theorem d_L_law_434 : decode (mC M_L_law) 434 = .ok (.aload_n 0, 1) := (congrArg (fun b => decode b 434) lawc_eq).trans (by decide +kernel)
theorem d_L_law_435 : decode (mC M_L_law) 435 = .ok (.iload 4, 2) := (congrArg (fun b => decode b 435) lawc_eq).trans (by decide +kernel)
theorem d_L_law_437 : decode (mC M_L_law) 437 = .ok (.iconst 1, 1) := (congrArg (fun b => decode b 437) lawc_eq).trans (by decide +kernel)
theorem d_L_law_438 : decode (mC M_L_law) 438 = .ok (.iadd, 1) := (congrArg (fun b => decode b 438) lawc_eq).trans (by decide +kernel)
theorem d_L_law_439 : decode (mC M_L_law) 439 = .ok (.iaload, 1) := (congrArg (fun b => decode b 439) lawc_eq).trans (by decide +kernel)
theorem d_L_law_440 : decode (mC M_L_law) 440 = .ok (.aload_n 0, 1) := (congrArg (fun b => decode b 440) lawc_eq).trans (by decide +kernel)
theorem d_L_law_441 : decode (mC M_L_law) 441 = .ok (.iload 4, 2) := (congrArg (fun b => decode b 441) lawc_eq).trans (by decide +kernel)
theorem d_L_law_443 : decode (mC M_L_law) 443 = .ok (.iconst 2, 1) := (congrArg (fun b => decode b 443) lawc_eq).trans (by decide +kernel)
theorem d_L_law_444 : decode (mC M_L_law) 444 = .ok (.iadd, 1) := (congrArg (fun b => decode b 444) lawc_eq).trans (by decide +kernel)
theorem d_L_law_445 : decode (mC M_L_law) 445 = .ok (.iaload, 1) := (congrArg (fun b => decode b 445) lawc_eq).trans (by decide +kernel)
theorem d_L_law_446 : decode (mC M_L_law) 446 = .ok (.aload_n 0, 1) := (congrArg (fun b => decode b 446) lawc_eq).trans (by decide +kernel)
theorem d_L_law_447 : decode (mC M_L_law) 447 = .ok (.iload 4, 2) := (congrArg (fun b => decode b 447) lawc_eq).trans (by decide +kernel)
theorem d_L_law_449 : decode (mC M_L_law) 449 = .ok (.iconst 3, 1) := (congrArg (fun b => decode b 449) lawc_eq).trans (by decide +kernel)
theorem d_L_law_450 : decode (mC M_L_law) 450 = .ok (.iadd, 1) := (congrArg (fun b => decode b 450) lawc_eq).trans (by decide +kernel)
theorem d_L_law_451 : decode (mC M_L_law) 451 = .ok (.iaload, 1) := (congrArg (fun b => decode b 451) lawc_eq).trans (by decide +kernel)
theorem d_L_law_452 : decode (mC M_L_law) 452 = .ok (.invokevirtual 54, 3) := (congrArg (fun b => decode b 452) lawc_eq).trans (by decide +kernel)
theorem d_L_law_455 : decode (mC M_L_law) 455 = .ok (.if_icmp .eq 544, 3) := (congrArg (fun b => decode b 455) lawc_eq).trans (by decide +kernel)
theorem d_L_law_458 : decode (mC M_L_law) 458 = .ok (.iconst 0, 1) := (congrArg (fun b => decode b 458) lawc_eq).trans (by decide +kernel)
theorem d_L_law_459 : decode (mC M_L_law) 459 = .ok (.ireturn, 1) := (congrArg (fun b => decode b 459) lawc_eq).trans (by decide +kernel)
theorem d_L_law_460 : decode (mC M_L_law) 460 = .ok (.aload_n 1, 1) := (congrArg (fun b => decode b 460) lawc_eq).trans (by decide +kernel)
theorem d_L_law_461 : decode (mC M_L_law) 461 = .ok (.invokevirtual 55, 3) := (congrArg (fun b => decode b 461) lawc_eq).trans (by decide +kernel)
theorem d_L_law_464 : decode (mC M_L_law) 464 = .ok (.aload_n 2, 1) := (congrArg (fun b => decode b 464) lawc_eq).trans (by decide +kernel)
theorem d_L_law_465 : decode (mC M_L_law) 465 = .ok (.invokevirtual 58, 3) := (congrArg (fun b => decode b 465) lawc_eq).trans (by decide +kernel)
theorem d_L_law_468 : decode (mC M_L_law) 468 = .ok (.if_icmp .eq 531, 3) := (congrArg (fun b => decode b 468) lawc_eq).trans (by decide +kernel)
theorem d_L_law_471 : decode (mC M_L_law) 471 = .ok (.iconst 0, 1) := (congrArg (fun b => decode b 471) lawc_eq).trans (by decide +kernel)
theorem d_L_law_472 : decode (mC M_L_law) 472 = .ok (.ireturn, 1) := (congrArg (fun b => decode b 472) lawc_eq).trans (by decide +kernel)
theorem d_L_law_473 : decode (mC M_L_law) 473 = .ok (.aload_n 1, 1) := (congrArg (fun b => decode b 473) lawc_eq).trans (by decide +kernel)
theorem d_L_law_474 : decode (mC M_L_law) 474 = .ok (.aload_n 0, 1) := (congrArg (fun b => decode b 474) lawc_eq).trans (by decide +kernel)
theorem d_L_law_475 : decode (mC M_L_law) 475 = .ok (.iload 4, 2) := (congrArg (fun b => decode b 475) lawc_eq).trans (by decide +kernel)
theorem d_L_law_477 : decode (mC M_L_law) 477 = .ok (.iconst 1, 1) := (congrArg (fun b => decode b 477) lawc_eq).trans (by decide +kernel)
theorem d_L_law_478 : decode (mC M_L_law) 478 = .ok (.iadd, 1) := (congrArg (fun b => decode b 478) lawc_eq).trans (by decide +kernel)
theorem d_L_law_479 : decode (mC M_L_law) 479 = .ok (.iaload, 1) := (congrArg (fun b => decode b 479) lawc_eq).trans (by decide +kernel)
theorem d_L_law_480 : decode (mC M_L_law) 480 = .ok (.invokevirtual 59, 3) := (congrArg (fun b => decode b 480) lawc_eq).trans (by decide +kernel)
theorem d_L_law_483 : decode (mC M_L_law) 483 = .ok (.aload_n 2, 1) := (congrArg (fun b => decode b 483) lawc_eq).trans (by decide +kernel)
theorem d_L_law_484 : decode (mC M_L_law) 484 = .ok (.aload_n 0, 1) := (congrArg (fun b => decode b 484) lawc_eq).trans (by decide +kernel)
theorem d_L_law_485 : decode (mC M_L_law) 485 = .ok (.iload 4, 2) := (congrArg (fun b => decode b 485) lawc_eq).trans (by decide +kernel)
theorem d_L_law_487 : decode (mC M_L_law) 487 = .ok (.iconst 1, 1) := (congrArg (fun b => decode b 487) lawc_eq).trans (by decide +kernel)
theorem d_L_law_488 : decode (mC M_L_law) 488 = .ok (.iadd, 1) := (congrArg (fun b => decode b 488) lawc_eq).trans (by decide +kernel)
theorem d_L_law_489 : decode (mC M_L_law) 489 = .ok (.iaload, 1) := (congrArg (fun b => decode b 489) lawc_eq).trans (by decide +kernel)
theorem d_L_law_490 : decode (mC M_L_law) 490 = .ok (.invokevirtual 62, 3) := (congrArg (fun b => decode b 490) lawc_eq).trans (by decide +kernel)
theorem d_L_law_493 : decode (mC M_L_law) 493 = .ok (.if_icmp .eq 506, 3) := (congrArg (fun b => decode b 493) lawc_eq).trans (by decide +kernel)
theorem d_L_law_496 : decode (mC M_L_law) 496 = .ok (.iconst 0, 1) := (congrArg (fun b => decode b 496) lawc_eq).trans (by decide +kernel)
theorem d_L_law_497 : decode (mC M_L_law) 497 = .ok (.ireturn, 1) := (congrArg (fun b => decode b 497) lawc_eq).trans (by decide +kernel)
theorem d_L_law_498 : decode (mC M_L_law) 498 = .ok (.aload_n 1, 1) := (congrArg (fun b => decode b 498) lawc_eq).trans (by decide +kernel)
theorem d_L_law_499 : decode (mC M_L_law) 499 = .ok (.aload_n 0, 1) := (congrArg (fun b => decode b 499) lawc_eq).trans (by decide +kernel)
theorem d_L_law_500 : decode (mC M_L_law) 500 = .ok (.iload 4, 2) := (congrArg (fun b => decode b 500) lawc_eq).trans (by decide +kernel)
theorem d_L_law_502 : decode (mC M_L_law) 502 = .ok (.iconst 1, 1) := (congrArg (fun b => decode b 502) lawc_eq).trans (by decide +kernel)
theorem d_L_law_503 : decode (mC M_L_law) 503 = .ok (.iadd, 1) := (congrArg (fun b => decode b 503) lawc_eq).trans (by decide +kernel)
theorem d_L_law_504 : decode (mC M_L_law) 504 = .ok (.iaload, 1) := (congrArg (fun b => decode b 504) lawc_eq).trans (by decide +kernel)
theorem d_L_law_505 : decode (mC M_L_law) 505 = .ok (.invokevirtual 63, 3) := (congrArg (fun b => decode b 505) lawc_eq).trans (by decide +kernel)
theorem d_L_law_508 : decode (mC M_L_law) 508 = .ok (.aload_n 2, 1) := (congrArg (fun b => decode b 508) lawc_eq).trans (by decide +kernel)
theorem d_L_law_509 : decode (mC M_L_law) 509 = .ok (.aload_n 0, 1) := (congrArg (fun b => decode b 509) lawc_eq).trans (by decide +kernel)
theorem d_L_law_510 : decode (mC M_L_law) 510 = .ok (.iload 4, 2) := (congrArg (fun b => decode b 510) lawc_eq).trans (by decide +kernel)
theorem d_L_law_512 : decode (mC M_L_law) 512 = .ok (.iconst 1, 1) := (congrArg (fun b => decode b 512) lawc_eq).trans (by decide +kernel)
theorem d_L_law_513 : decode (mC M_L_law) 513 = .ok (.iadd, 1) := (congrArg (fun b => decode b 513) lawc_eq).trans (by decide +kernel)
theorem d_L_law_514 : decode (mC M_L_law) 514 = .ok (.iaload, 1) := (congrArg (fun b => decode b 514) lawc_eq).trans (by decide +kernel)
theorem d_L_law_515 : decode (mC M_L_law) 515 = .ok (.invokevirtual 66, 3) := (congrArg (fun b => decode b 515) lawc_eq).trans (by decide +kernel)
theorem d_L_law_518 : decode (mC M_L_law) 518 = .ok (.if_icmp .eq 481, 3) := (congrArg (fun b => decode b 518) lawc_eq).trans (by decide +kernel)
theorem d_L_law_521 : decode (mC M_L_law) 521 = .ok (.iconst 0, 1) := (congrArg (fun b => decode b 521) lawc_eq).trans (by decide +kernel)
theorem d_L_law_522 : decode (mC M_L_law) 522 = .ok (.ireturn, 1) := (congrArg (fun b => decode b 522) lawc_eq).trans (by decide +kernel)
theorem d_L_law_523 : decode (mC M_L_law) 523 = .ok (.aload_n 1, 1) := (congrArg (fun b => decode b 523) lawc_eq).trans (by decide +kernel)
theorem d_L_law_524 : decode (mC M_L_law) 524 = .ok (.aload_n 0, 1) := (congrArg (fun b => decode b 524) lawc_eq).trans (by decide +kernel)
theorem d_L_law_525 : decode (mC M_L_law) 525 = .ok (.iload 4, 2) := (congrArg (fun b => decode b 525) lawc_eq).trans (by decide +kernel)
theorem d_L_law_527 : decode (mC M_L_law) 527 = .ok (.iconst 1, 1) := (congrArg (fun b => decode b 527) lawc_eq).trans (by decide +kernel)
theorem d_L_law_528 : decode (mC M_L_law) 528 = .ok (.iadd, 1) := (congrArg (fun b => decode b 528) lawc_eq).trans (by decide +kernel)
theorem d_L_law_529 : decode (mC M_L_law) 529 = .ok (.iaload, 1) := (congrArg (fun b => decode b 529) lawc_eq).trans (by decide +kernel)
theorem d_L_law_530 : decode (mC M_L_law) 530 = .ok (.invokevirtual 67, 3) := (congrArg (fun b => decode b 530) lawc_eq).trans (by decide +kernel)
theorem d_L_law_533 : decode (mC M_L_law) 533 = .ok (.aload_n 2, 1) := (congrArg (fun b => decode b 533) lawc_eq).trans (by decide +kernel)
theorem d_L_law_534 : decode (mC M_L_law) 534 = .ok (.aload_n 0, 1) := (congrArg (fun b => decode b 534) lawc_eq).trans (by decide +kernel)
theorem d_L_law_535 : decode (mC M_L_law) 535 = .ok (.iload 4, 2) := (congrArg (fun b => decode b 535) lawc_eq).trans (by decide +kernel)
theorem d_L_law_537 : decode (mC M_L_law) 537 = .ok (.iconst 1, 1) := (congrArg (fun b => decode b 537) lawc_eq).trans (by decide +kernel)
theorem d_L_law_538 : decode (mC M_L_law) 538 = .ok (.iadd, 1) := (congrArg (fun b => decode b 538) lawc_eq).trans (by decide +kernel)
theorem d_L_law_539 : decode (mC M_L_law) 539 = .ok (.iaload, 1) := (congrArg (fun b => decode b 539) lawc_eq).trans (by decide +kernel)
theorem d_L_law_540 : decode (mC M_L_law) 540 = .ok (.invokevirtual 70, 3) := (congrArg (fun b => decode b 540) lawc_eq).trans (by decide +kernel)
theorem d_L_law_543 : decode (mC M_L_law) 543 = .ok (.if_icmp .eq 456, 3) := (congrArg (fun b => decode b 543) lawc_eq).trans (by decide +kernel)
theorem d_L_law_546 : decode (mC M_L_law) 546 = .ok (.iconst 0, 1) := (congrArg (fun b => decode b 546) lawc_eq).trans (by decide +kernel)
theorem d_L_law_547 : decode (mC M_L_law) 547 = .ok (.ireturn, 1) := (congrArg (fun b => decode b 547) lawc_eq).trans (by decide +kernel)
theorem d_L_law_548 : decode (mC M_L_law) 548 = .ok (.aload_n 1, 1) := (congrArg (fun b => decode b 548) lawc_eq).trans (by decide +kernel)
theorem d_L_law_549 : decode (mC M_L_law) 549 = .ok (.aload_n 0, 1) := (congrArg (fun b => decode b 549) lawc_eq).trans (by decide +kernel)
theorem d_L_law_550 : decode (mC M_L_law) 550 = .ok (.iload 4, 2) := (congrArg (fun b => decode b 550) lawc_eq).trans (by decide +kernel)
theorem d_L_law_552 : decode (mC M_L_law) 552 = .ok (.iconst 1, 1) := (congrArg (fun b => decode b 552) lawc_eq).trans (by decide +kernel)
theorem d_L_law_553 : decode (mC M_L_law) 553 = .ok (.iadd, 1) := (congrArg (fun b => decode b 553) lawc_eq).trans (by decide +kernel)
theorem d_L_law_554 : decode (mC M_L_law) 554 = .ok (.iaload, 1) := (congrArg (fun b => decode b 554) lawc_eq).trans (by decide +kernel)
theorem d_L_law_555 : decode (mC M_L_law) 555 = .ok (.aload_n 0, 1) := (congrArg (fun b => decode b 555) lawc_eq).trans (by decide +kernel)
theorem d_L_law_556 : decode (mC M_L_law) 556 = .ok (.iload 4, 2) := (congrArg (fun b => decode b 556) lawc_eq).trans (by decide +kernel)
theorem d_L_law_558 : decode (mC M_L_law) 558 = .ok (.iconst 2, 1) := (congrArg (fun b => decode b 558) lawc_eq).trans (by decide +kernel)
theorem d_L_law_559 : decode (mC M_L_law) 559 = .ok (.iadd, 1) := (congrArg (fun b => decode b 559) lawc_eq).trans (by decide +kernel)
theorem d_L_law_560 : decode (mC M_L_law) 560 = .ok (.iaload, 1) := (congrArg (fun b => decode b 560) lawc_eq).trans (by decide +kernel)
theorem d_L_law_561 : decode (mC M_L_law) 561 = .ok (.invokevirtual 71, 3) := (congrArg (fun b => decode b 561) lawc_eq).trans (by decide +kernel)
theorem d_L_law_564 : decode (mC M_L_law) 564 = .ok (.aload_n 2, 1) := (congrArg (fun b => decode b 564) lawc_eq).trans (by decide +kernel)
theorem d_L_law_565 : decode (mC M_L_law) 565 = .ok (.aload_n 0, 1) := (congrArg (fun b => decode b 565) lawc_eq).trans (by decide +kernel)
theorem d_L_law_566 : decode (mC M_L_law) 566 = .ok (.iload 4, 2) := (congrArg (fun b => decode b 566) lawc_eq).trans (by decide +kernel)
theorem d_L_law_568 : decode (mC M_L_law) 568 = .ok (.iconst 1, 1) := (congrArg (fun b => decode b 568) lawc_eq).trans (by decide +kernel)
theorem d_L_law_569 : decode (mC M_L_law) 569 = .ok (.iadd, 1) := (congrArg (fun b => decode b 569) lawc_eq).trans (by decide +kernel)
theorem d_L_law_570 : decode (mC M_L_law) 570 = .ok (.iaload, 1) := (congrArg (fun b => decode b 570) lawc_eq).trans (by decide +kernel)
theorem d_L_law_571 : decode (mC M_L_law) 571 = .ok (.aload_n 0, 1) := (congrArg (fun b => decode b 571) lawc_eq).trans (by decide +kernel)
theorem d_L_law_572 : decode (mC M_L_law) 572 = .ok (.iload 4, 2) := (congrArg (fun b => decode b 572) lawc_eq).trans (by decide +kernel)
theorem d_L_law_574 : decode (mC M_L_law) 574 = .ok (.iconst 2, 1) := (congrArg (fun b => decode b 574) lawc_eq).trans (by decide +kernel)
theorem d_L_law_575 : decode (mC M_L_law) 575 = .ok (.iadd, 1) := (congrArg (fun b => decode b 575) lawc_eq).trans (by decide +kernel)
theorem d_L_law_576 : decode (mC M_L_law) 576 = .ok (.iaload, 1) := (congrArg (fun b => decode b 576) lawc_eq).trans (by decide +kernel)
theorem d_L_law_577 : decode (mC M_L_law) 577 = .ok (.invokevirtual 75, 3) := (congrArg (fun b => decode b 577) lawc_eq).trans (by decide +kernel)
theorem d_L_law_580 : decode (mC M_L_law) 580 = .ok (.if_icmp .eq 419, 3) := (congrArg (fun b => decode b 580) lawc_eq).trans (by decide +kernel)
theorem d_L_law_583 : decode (mC M_L_law) 583 = .ok (.iconst 0, 1) := (congrArg (fun b => decode b 583) lawc_eq).trans (by decide +kernel)
theorem d_L_law_584 : decode (mC M_L_law) 584 = .ok (.ireturn, 1) := (congrArg (fun b => decode b 584) lawc_eq).trans (by decide +kernel)
theorem d_L_law_585 : decode (mC M_L_law) 585 = .ok (.aload_n 1, 1) := (congrArg (fun b => decode b 585) lawc_eq).trans (by decide +kernel)
theorem d_L_law_586 : decode (mC M_L_law) 586 = .ok (.aload_n 0, 1) := (congrArg (fun b => decode b 586) lawc_eq).trans (by decide +kernel)
theorem d_L_law_587 : decode (mC M_L_law) 587 = .ok (.iload 4, 2) := (congrArg (fun b => decode b 587) lawc_eq).trans (by decide +kernel)
theorem d_L_law_589 : decode (mC M_L_law) 589 = .ok (.iconst 1, 1) := (congrArg (fun b => decode b 589) lawc_eq).trans (by decide +kernel)
theorem d_L_law_590 : decode (mC M_L_law) 590 = .ok (.iadd, 1) := (congrArg (fun b => decode b 590) lawc_eq).trans (by decide +kernel)
theorem d_L_law_591 : decode (mC M_L_law) 591 = .ok (.iaload, 1) := (congrArg (fun b => decode b 591) lawc_eq).trans (by decide +kernel)
theorem d_L_law_592 : decode (mC M_L_law) 592 = .ok (.aload_n 0, 1) := (congrArg (fun b => decode b 592) lawc_eq).trans (by decide +kernel)
theorem d_L_law_593 : decode (mC M_L_law) 593 = .ok (.iload 4, 2) := (congrArg (fun b => decode b 593) lawc_eq).trans (by decide +kernel)
theorem d_L_law_595 : decode (mC M_L_law) 595 = .ok (.iconst 2, 1) := (congrArg (fun b => decode b 595) lawc_eq).trans (by decide +kernel)
theorem d_L_law_596 : decode (mC M_L_law) 596 = .ok (.iadd, 1) := (congrArg (fun b => decode b 596) lawc_eq).trans (by decide +kernel)
theorem d_L_law_597 : decode (mC M_L_law) 597 = .ok (.iaload, 1) := (congrArg (fun b => decode b 597) lawc_eq).trans (by decide +kernel)
theorem d_L_law_598 : decode (mC M_L_law) 598 = .ok (.aload_n 0, 1) := (congrArg (fun b => decode b 598) lawc_eq).trans (by decide +kernel)
theorem d_L_law_599 : decode (mC M_L_law) 599 = .ok (.iload 4, 2) := (congrArg (fun b => decode b 599) lawc_eq).trans (by decide +kernel)
theorem d_L_law_601 : decode (mC M_L_law) 601 = .ok (.iconst 3, 1) := (congrArg (fun b => decode b 601) lawc_eq).trans (by decide +kernel)
theorem d_L_law_602 : decode (mC M_L_law) 602 = .ok (.iadd, 1) := (congrArg (fun b => decode b 602) lawc_eq).trans (by decide +kernel)
theorem d_L_law_603 : decode (mC M_L_law) 603 = .ok (.iaload, 1) := (congrArg (fun b => decode b 603) lawc_eq).trans (by decide +kernel)
theorem d_L_law_604 : decode (mC M_L_law) 604 = .ok (.invokevirtual 76, 3) := (congrArg (fun b => decode b 604) lawc_eq).trans (by decide +kernel)
theorem d_L_law_607 : decode (mC M_L_law) 607 = .ok (.aload_n 2, 1) := (congrArg (fun b => decode b 607) lawc_eq).trans (by decide +kernel)
theorem d_L_law_608 : decode (mC M_L_law) 608 = .ok (.aload_n 0, 1) := (congrArg (fun b => decode b 608) lawc_eq).trans (by decide +kernel)
theorem d_L_law_609 : decode (mC M_L_law) 609 = .ok (.iload 4, 2) := (congrArg (fun b => decode b 609) lawc_eq).trans (by decide +kernel)
theorem d_L_law_611 : decode (mC M_L_law) 611 = .ok (.iconst 1, 1) := (congrArg (fun b => decode b 611) lawc_eq).trans (by decide +kernel)
theorem d_L_law_612 : decode (mC M_L_law) 612 = .ok (.iadd, 1) := (congrArg (fun b => decode b 612) lawc_eq).trans (by decide +kernel)
theorem d_L_law_613 : decode (mC M_L_law) 613 = .ok (.iaload, 1) := (congrArg (fun b => decode b 613) lawc_eq).trans (by decide +kernel)
theorem d_L_law_614 : decode (mC M_L_law) 614 = .ok (.aload_n 0, 1) := (congrArg (fun b => decode b 614) lawc_eq).trans (by decide +kernel)
theorem d_L_law_615 : decode (mC M_L_law) 615 = .ok (.iload 4, 2) := (congrArg (fun b => decode b 615) lawc_eq).trans (by decide +kernel)
theorem d_L_law_617 : decode (mC M_L_law) 617 = .ok (.iconst 2, 1) := (congrArg (fun b => decode b 617) lawc_eq).trans (by decide +kernel)
theorem d_L_law_618 : decode (mC M_L_law) 618 = .ok (.iadd, 1) := (congrArg (fun b => decode b 618) lawc_eq).trans (by decide +kernel)
theorem d_L_law_619 : decode (mC M_L_law) 619 = .ok (.iaload, 1) := (congrArg (fun b => decode b 619) lawc_eq).trans (by decide +kernel)
theorem d_L_law_620 : decode (mC M_L_law) 620 = .ok (.aload_n 0, 1) := (congrArg (fun b => decode b 620) lawc_eq).trans (by decide +kernel)
theorem d_L_law_621 : decode (mC M_L_law) 621 = .ok (.iload 4, 2) := (congrArg (fun b => decode b 621) lawc_eq).trans (by decide +kernel)
theorem d_L_law_623 : decode (mC M_L_law) 623 = .ok (.iconst 3, 1) := (congrArg (fun b => decode b 623) lawc_eq).trans (by decide +kernel)
theorem d_L_law_624 : decode (mC M_L_law) 624 = .ok (.iadd, 1) := (congrArg (fun b => decode b 624) lawc_eq).trans (by decide +kernel)
theorem d_L_law_625 : decode (mC M_L_law) 625 = .ok (.iaload, 1) := (congrArg (fun b => decode b 625) lawc_eq).trans (by decide +kernel)
theorem d_L_law_626 : decode (mC M_L_law) 626 = .ok (.invokevirtual 79, 3) := (congrArg (fun b => decode b 626) lawc_eq).trans (by decide +kernel)
theorem d_L_law_629 : decode (mC M_L_law) 629 = .ok (.if_icmp .eq 370, 3) := (congrArg (fun b => decode b 629) lawc_eq).trans (by decide +kernel)
theorem d_L_law_632 : decode (mC M_L_law) 632 = .ok (.iconst 0, 1) := (congrArg (fun b => decode b 632) lawc_eq).trans (by decide +kernel)
theorem d_L_law_633 : decode (mC M_L_law) 633 = .ok (.ireturn, 1) := (congrArg (fun b => decode b 633) lawc_eq).trans (by decide +kernel)
theorem d_L_law_634 : decode (mC M_L_law) 634 = .ok (.aload_n 1, 1) := (congrArg (fun b => decode b 634) lawc_eq).trans (by decide +kernel)
theorem d_L_law_635 : decode (mC M_L_law) 635 = .ok (.aload_n 0, 1) := (congrArg (fun b => decode b 635) lawc_eq).trans (by decide +kernel)
theorem d_L_law_636 : decode (mC M_L_law) 636 = .ok (.iload 4, 2) := (congrArg (fun b => decode b 636) lawc_eq).trans (by decide +kernel)
theorem d_L_law_638 : decode (mC M_L_law) 638 = .ok (.iconst 1, 1) := (congrArg (fun b => decode b 638) lawc_eq).trans (by decide +kernel)
theorem d_L_law_639 : decode (mC M_L_law) 639 = .ok (.iadd, 1) := (congrArg (fun b => decode b 639) lawc_eq).trans (by decide +kernel)
theorem d_L_law_640 : decode (mC M_L_law) 640 = .ok (.iaload, 1) := (congrArg (fun b => decode b 640) lawc_eq).trans (by decide +kernel)
theorem d_L_law_641 : decode (mC M_L_law) 641 = .ok (.aload_n 0, 1) := (congrArg (fun b => decode b 641) lawc_eq).trans (by decide +kernel)
theorem d_L_law_642 : decode (mC M_L_law) 642 = .ok (.iload 4, 2) := (congrArg (fun b => decode b 642) lawc_eq).trans (by decide +kernel)
theorem d_L_law_644 : decode (mC M_L_law) 644 = .ok (.iconst 2, 1) := (congrArg (fun b => decode b 644) lawc_eq).trans (by decide +kernel)
theorem d_L_law_645 : decode (mC M_L_law) 645 = .ok (.iadd, 1) := (congrArg (fun b => decode b 645) lawc_eq).trans (by decide +kernel)
theorem d_L_law_646 : decode (mC M_L_law) 646 = .ok (.iaload, 1) := (congrArg (fun b => decode b 646) lawc_eq).trans (by decide +kernel)
theorem d_L_law_647 : decode (mC M_L_law) 647 = .ok (.invokevirtual 80, 3) := (congrArg (fun b => decode b 647) lawc_eq).trans (by decide +kernel)
theorem d_L_law_650 : decode (mC M_L_law) 650 = .ok (.aload_n 2, 1) := (congrArg (fun b => decode b 650) lawc_eq).trans (by decide +kernel)
theorem d_L_law_651 : decode (mC M_L_law) 651 = .ok (.aload_n 0, 1) := (congrArg (fun b => decode b 651) lawc_eq).trans (by decide +kernel)
theorem d_L_law_652 : decode (mC M_L_law) 652 = .ok (.iload 4, 2) := (congrArg (fun b => decode b 652) lawc_eq).trans (by decide +kernel)
theorem d_L_law_654 : decode (mC M_L_law) 654 = .ok (.iconst 1, 1) := (congrArg (fun b => decode b 654) lawc_eq).trans (by decide +kernel)
theorem d_L_law_655 : decode (mC M_L_law) 655 = .ok (.iadd, 1) := (congrArg (fun b => decode b 655) lawc_eq).trans (by decide +kernel)
theorem d_L_law_656 : decode (mC M_L_law) 656 = .ok (.iaload, 1) := (congrArg (fun b => decode b 656) lawc_eq).trans (by decide +kernel)
theorem d_L_law_657 : decode (mC M_L_law) 657 = .ok (.aload_n 0, 1) := (congrArg (fun b => decode b 657) lawc_eq).trans (by decide +kernel)
theorem d_L_law_658 : decode (mC M_L_law) 658 = .ok (.iload 4, 2) := (congrArg (fun b => decode b 658) lawc_eq).trans (by decide +kernel)
theorem d_L_law_660 : decode (mC M_L_law) 660 = .ok (.iconst 2, 1) := (congrArg (fun b => decode b 660) lawc_eq).trans (by decide +kernel)
theorem d_L_law_661 : decode (mC M_L_law) 661 = .ok (.iadd, 1) := (congrArg (fun b => decode b 661) lawc_eq).trans (by decide +kernel)
theorem d_L_law_662 : decode (mC M_L_law) 662 = .ok (.iaload, 1) := (congrArg (fun b => decode b 662) lawc_eq).trans (by decide +kernel)
theorem d_L_law_663 : decode (mC M_L_law) 663 = .ok (.invokevirtual 83, 3) := (congrArg (fun b => decode b 663) lawc_eq).trans (by decide +kernel)
theorem d_L_law_666 : decode (mC M_L_law) 666 = .ok (.if_icmp .eq 333, 3) := (congrArg (fun b => decode b 666) lawc_eq).trans (by decide +kernel)
theorem d_L_law_669 : decode (mC M_L_law) 669 = .ok (.iconst 0, 1) := (congrArg (fun b => decode b 669) lawc_eq).trans (by decide +kernel)
theorem d_L_law_670 : decode (mC M_L_law) 670 = .ok (.ireturn, 1) := (congrArg (fun b => decode b 670) lawc_eq).trans (by decide +kernel)
theorem d_L_law_671 : decode (mC M_L_law) 671 = .ok (.aload_n 1, 1) := (congrArg (fun b => decode b 671) lawc_eq).trans (by decide +kernel)
theorem d_L_law_672 : decode (mC M_L_law) 672 = .ok (.aload_n 0, 1) := (congrArg (fun b => decode b 672) lawc_eq).trans (by decide +kernel)
theorem d_L_law_673 : decode (mC M_L_law) 673 = .ok (.iload 4, 2) := (congrArg (fun b => decode b 673) lawc_eq).trans (by decide +kernel)
theorem d_L_law_675 : decode (mC M_L_law) 675 = .ok (.iconst 1, 1) := (congrArg (fun b => decode b 675) lawc_eq).trans (by decide +kernel)
theorem d_L_law_676 : decode (mC M_L_law) 676 = .ok (.iadd, 1) := (congrArg (fun b => decode b 676) lawc_eq).trans (by decide +kernel)
theorem d_L_law_677 : decode (mC M_L_law) 677 = .ok (.iaload, 1) := (congrArg (fun b => decode b 677) lawc_eq).trans (by decide +kernel)
theorem d_L_law_678 : decode (mC M_L_law) 678 = .ok (.aload_n 0, 1) := (congrArg (fun b => decode b 678) lawc_eq).trans (by decide +kernel)
theorem d_L_law_679 : decode (mC M_L_law) 679 = .ok (.iload 4, 2) := (congrArg (fun b => decode b 679) lawc_eq).trans (by decide +kernel)
theorem d_L_law_681 : decode (mC M_L_law) 681 = .ok (.iconst 2, 1) := (congrArg (fun b => decode b 681) lawc_eq).trans (by decide +kernel)
theorem d_L_law_682 : decode (mC M_L_law) 682 = .ok (.iadd, 1) := (congrArg (fun b => decode b 682) lawc_eq).trans (by decide +kernel)
theorem d_L_law_683 : decode (mC M_L_law) 683 = .ok (.iaload, 1) := (congrArg (fun b => decode b 683) lawc_eq).trans (by decide +kernel)
theorem d_L_law_684 : decode (mC M_L_law) 684 = .ok (.aload_n 0, 1) := (congrArg (fun b => decode b 684) lawc_eq).trans (by decide +kernel)
theorem d_L_law_685 : decode (mC M_L_law) 685 = .ok (.iload 4, 2) := (congrArg (fun b => decode b 685) lawc_eq).trans (by decide +kernel)
theorem d_L_law_687 : decode (mC M_L_law) 687 = .ok (.iconst 3, 1) := (congrArg (fun b => decode b 687) lawc_eq).trans (by decide +kernel)
theorem d_L_law_688 : decode (mC M_L_law) 688 = .ok (.iadd, 1) := (congrArg (fun b => decode b 688) lawc_eq).trans (by decide +kernel)
theorem d_L_law_689 : decode (mC M_L_law) 689 = .ok (.iaload, 1) := (congrArg (fun b => decode b 689) lawc_eq).trans (by decide +kernel)
theorem d_L_law_690 : decode (mC M_L_law) 690 = .ok (.aload_n 3, 1) := (congrArg (fun b => decode b 690) lawc_eq).trans (by decide +kernel)
theorem d_L_law_691 : decode (mC M_L_law) 691 = .ok (.invokestatic 84, 3) := (congrArg (fun b => decode b 691) lawc_eq).trans (by decide +kernel)
theorem d_L_law_694 : decode (mC M_L_law) 694 = .ok (.istore 5, 2) := (congrArg (fun b => decode b 694) lawc_eq).trans (by decide +kernel)
theorem d_L_law_696 : decode (mC M_L_law) 696 = .ok (.aload_n 2, 1) := (congrArg (fun b => decode b 696) lawc_eq).trans (by decide +kernel)
theorem d_L_law_697 : decode (mC M_L_law) 697 = .ok (.aload_n 0, 1) := (congrArg (fun b => decode b 697) lawc_eq).trans (by decide +kernel)
theorem d_L_law_698 : decode (mC M_L_law) 698 = .ok (.iload 4, 2) := (congrArg (fun b => decode b 698) lawc_eq).trans (by decide +kernel)
theorem d_L_law_700 : decode (mC M_L_law) 700 = .ok (.iconst 1, 1) := (congrArg (fun b => decode b 700) lawc_eq).trans (by decide +kernel)
theorem d_L_law_701 : decode (mC M_L_law) 701 = .ok (.iadd, 1) := (congrArg (fun b => decode b 701) lawc_eq).trans (by decide +kernel)
theorem d_L_law_702 : decode (mC M_L_law) 702 = .ok (.iaload, 1) := (congrArg (fun b => decode b 702) lawc_eq).trans (by decide +kernel)
theorem d_L_law_703 : decode (mC M_L_law) 703 = .ok (.aload_n 0, 1) := (congrArg (fun b => decode b 703) lawc_eq).trans (by decide +kernel)
theorem d_L_law_704 : decode (mC M_L_law) 704 = .ok (.iload 4, 2) := (congrArg (fun b => decode b 704) lawc_eq).trans (by decide +kernel)
theorem d_L_law_706 : decode (mC M_L_law) 706 = .ok (.iconst 2, 1) := (congrArg (fun b => decode b 706) lawc_eq).trans (by decide +kernel)
theorem d_L_law_707 : decode (mC M_L_law) 707 = .ok (.iadd, 1) := (congrArg (fun b => decode b 707) lawc_eq).trans (by decide +kernel)
theorem d_L_law_708 : decode (mC M_L_law) 708 = .ok (.iaload, 1) := (congrArg (fun b => decode b 708) lawc_eq).trans (by decide +kernel)
theorem d_L_law_709 : decode (mC M_L_law) 709 = .ok (.aload_n 0, 1) := (congrArg (fun b => decode b 709) lawc_eq).trans (by decide +kernel)
theorem d_L_law_710 : decode (mC M_L_law) 710 = .ok (.iload 4, 2) := (congrArg (fun b => decode b 710) lawc_eq).trans (by decide +kernel)
theorem d_L_law_712 : decode (mC M_L_law) 712 = .ok (.iconst 3, 1) := (congrArg (fun b => decode b 712) lawc_eq).trans (by decide +kernel)
theorem d_L_law_713 : decode (mC M_L_law) 713 = .ok (.iadd, 1) := (congrArg (fun b => decode b 713) lawc_eq).trans (by decide +kernel)
theorem d_L_law_714 : decode (mC M_L_law) 714 = .ok (.iaload, 1) := (congrArg (fun b => decode b 714) lawc_eq).trans (by decide +kernel)
theorem d_L_law_715 : decode (mC M_L_law) 715 = .ok (.invokevirtual 89, 3) := (congrArg (fun b => decode b 715) lawc_eq).trans (by decide +kernel)
theorem d_L_law_718 : decode (mC M_L_law) 718 = .ok (.istore 6, 2) := (congrArg (fun b => decode b 718) lawc_eq).trans (by decide +kernel)
theorem d_L_law_720 : decode (mC M_L_law) 720 = .ok (.aload_n 2, 1) := (congrArg (fun b => decode b 720) lawc_eq).trans (by decide +kernel)
theorem d_L_law_721 : decode (mC M_L_law) 721 = .ok (.invokevirtual 90, 3) := (congrArg (fun b => decode b 721) lawc_eq).trans (by decide +kernel)
theorem d_L_law_724 : decode (mC M_L_law) 724 = .ok (.iload 5, 2) := (congrArg (fun b => decode b 724) lawc_eq).trans (by decide +kernel)
theorem d_L_law_726 : decode (mC M_L_law) 726 = .ok (.if_icmp .eq 5, 3) := (congrArg (fun b => decode b 726) lawc_eq).trans (by decide +kernel)
theorem d_L_law_729 : decode (mC M_L_law) 729 = .ok (.iconst 0, 1) := (congrArg (fun b => decode b 729) lawc_eq).trans (by decide +kernel)
theorem d_L_law_730 : decode (mC M_L_law) 730 = .ok (.ireturn, 1) := (congrArg (fun b => decode b 730) lawc_eq).trans (by decide +kernel)
theorem d_L_law_731 : decode (mC M_L_law) 731 = .ok (.iload 5, 2) := (congrArg (fun b => decode b 731) lawc_eq).trans (by decide +kernel)
theorem d_L_law_733 : decode (mC M_L_law) 733 = .ok (.ifCond .ne 15, 3) := (congrArg (fun b => decode b 733) lawc_eq).trans (by decide +kernel)
theorem d_L_law_736 : decode (mC M_L_law) 736 = .ok (.aload_n 3, 1) := (congrArg (fun b => decode b 736) lawc_eq).trans (by decide +kernel)
theorem d_L_law_737 : decode (mC M_L_law) 737 = .ok (.iconst 0, 1) := (congrArg (fun b => decode b 737) lawc_eq).trans (by decide +kernel)
theorem d_L_law_738 : decode (mC M_L_law) 738 = .ok (.laload, 1) := (congrArg (fun b => decode b 738) lawc_eq).trans (by decide +kernel)
theorem d_L_law_739 : decode (mC M_L_law) 739 = .ok (.iload 6, 2) := (congrArg (fun b => decode b 739) lawc_eq).trans (by decide +kernel)
theorem d_L_law_741 : decode (mC M_L_law) 741 = .ok (.i2l, 1) := (congrArg (fun b => decode b 741) lawc_eq).trans (by decide +kernel)
theorem d_L_law_742 : decode (mC M_L_law) 742 = .ok (.lcmp, 1) := (congrArg (fun b => decode b 742) lawc_eq).trans (by decide +kernel)
theorem d_L_law_743 : decode (mC M_L_law) 743 = .ok (.ifCond .eq 5, 3) := (congrArg (fun b => decode b 743) lawc_eq).trans (by decide +kernel)
theorem d_L_law_746 : decode (mC M_L_law) 746 = .ok (.iconst 0, 1) := (congrArg (fun b => decode b 746) lawc_eq).trans (by decide +kernel)
theorem d_L_law_747 : decode (mC M_L_law) 747 = .ok (.ireturn, 1) := (congrArg (fun b => decode b 747) lawc_eq).trans (by decide +kernel)
theorem d_L_law_748 : decode (mC M_L_law) 748 = .ok (.goto 251, 3) := (congrArg (fun b => decode b 748) lawc_eq).trans (by decide +kernel)
theorem d_L_law_751 : decode (mC M_L_law) 751 = .ok (.aload_n 1, 1) := (congrArg (fun b => decode b 751) lawc_eq).trans (by decide +kernel)
theorem d_L_law_752 : decode (mC M_L_law) 752 = .ok (.aload_n 0, 1) := (congrArg (fun b => decode b 752) lawc_eq).trans (by decide +kernel)
theorem d_L_law_753 : decode (mC M_L_law) 753 = .ok (.iload 4, 2) := (congrArg (fun b => decode b 753) lawc_eq).trans (by decide +kernel)
theorem d_L_law_755 : decode (mC M_L_law) 755 = .ok (.iconst 1, 1) := (congrArg (fun b => decode b 755) lawc_eq).trans (by decide +kernel)
theorem d_L_law_756 : decode (mC M_L_law) 756 = .ok (.iadd, 1) := (congrArg (fun b => decode b 756) lawc_eq).trans (by decide +kernel)
theorem d_L_law_757 : decode (mC M_L_law) 757 = .ok (.iaload, 1) := (congrArg (fun b => decode b 757) lawc_eq).trans (by decide +kernel)
theorem d_L_law_758 : decode (mC M_L_law) 758 = .ok (.aload_n 0, 1) := (congrArg (fun b => decode b 758) lawc_eq).trans (by decide +kernel)
theorem d_L_law_759 : decode (mC M_L_law) 759 = .ok (.iload 4, 2) := (congrArg (fun b => decode b 759) lawc_eq).trans (by decide +kernel)
theorem d_L_law_761 : decode (mC M_L_law) 761 = .ok (.iconst 2, 1) := (congrArg (fun b => decode b 761) lawc_eq).trans (by decide +kernel)
theorem d_L_law_762 : decode (mC M_L_law) 762 = .ok (.iadd, 1) := (congrArg (fun b => decode b 762) lawc_eq).trans (by decide +kernel)
theorem d_L_law_763 : decode (mC M_L_law) 763 = .ok (.iaload, 1) := (congrArg (fun b => decode b 763) lawc_eq).trans (by decide +kernel)
theorem d_L_law_764 : decode (mC M_L_law) 764 = .ok (.invokevirtual 93, 3) := (congrArg (fun b => decode b 764) lawc_eq).trans (by decide +kernel)
theorem d_L_law_767 : decode (mC M_L_law) 767 = .ok (.aload_n 2, 1) := (congrArg (fun b => decode b 767) lawc_eq).trans (by decide +kernel)
theorem d_L_law_768 : decode (mC M_L_law) 768 = .ok (.aload_n 0, 1) := (congrArg (fun b => decode b 768) lawc_eq).trans (by decide +kernel)
theorem d_L_law_769 : decode (mC M_L_law) 769 = .ok (.iload 4, 2) := (congrArg (fun b => decode b 769) lawc_eq).trans (by decide +kernel)
theorem d_L_law_771 : decode (mC M_L_law) 771 = .ok (.iconst 1, 1) := (congrArg (fun b => decode b 771) lawc_eq).trans (by decide +kernel)
theorem d_L_law_772 : decode (mC M_L_law) 772 = .ok (.iadd, 1) := (congrArg (fun b => decode b 772) lawc_eq).trans (by decide +kernel)
theorem d_L_law_773 : decode (mC M_L_law) 773 = .ok (.iaload, 1) := (congrArg (fun b => decode b 773) lawc_eq).trans (by decide +kernel)
theorem d_L_law_774 : decode (mC M_L_law) 774 = .ok (.aload_n 0, 1) := (congrArg (fun b => decode b 774) lawc_eq).trans (by decide +kernel)
theorem d_L_law_775 : decode (mC M_L_law) 775 = .ok (.iload 4, 2) := (congrArg (fun b => decode b 775) lawc_eq).trans (by decide +kernel)
theorem d_L_law_777 : decode (mC M_L_law) 777 = .ok (.iconst 2, 1) := (congrArg (fun b => decode b 777) lawc_eq).trans (by decide +kernel)
theorem d_L_law_778 : decode (mC M_L_law) 778 = .ok (.iadd, 1) := (congrArg (fun b => decode b 778) lawc_eq).trans (by decide +kernel)
theorem d_L_law_779 : decode (mC M_L_law) 779 = .ok (.iaload, 1) := (congrArg (fun b => decode b 779) lawc_eq).trans (by decide +kernel)
theorem d_L_law_780 : decode (mC M_L_law) 780 = .ok (.invokevirtual 96, 3) := (congrArg (fun b => decode b 780) lawc_eq).trans (by decide +kernel)
theorem d_L_law_783 : decode (mC M_L_law) 783 = .ok (.if_icmp .eq 216, 3) := (congrArg (fun b => decode b 783) lawc_eq).trans (by decide +kernel)
theorem d_L_law_786 : decode (mC M_L_law) 786 = .ok (.iconst 0, 1) := (congrArg (fun b => decode b 786) lawc_eq).trans (by decide +kernel)
theorem d_L_law_787 : decode (mC M_L_law) 787 = .ok (.ireturn, 1) := (congrArg (fun b => decode b 787) lawc_eq).trans (by decide +kernel)
theorem d_L_law_788 : decode (mC M_L_law) 788 = .ok (.aload_n 1, 1) := (congrArg (fun b => decode b 788) lawc_eq).trans (by decide +kernel)
theorem d_L_law_789 : decode (mC M_L_law) 789 = .ok (.aload_n 0, 1) := (congrArg (fun b => decode b 789) lawc_eq).trans (by decide +kernel)
theorem d_L_law_790 : decode (mC M_L_law) 790 = .ok (.iload 4, 2) := (congrArg (fun b => decode b 790) lawc_eq).trans (by decide +kernel)
theorem d_L_law_792 : decode (mC M_L_law) 792 = .ok (.iconst 1, 1) := (congrArg (fun b => decode b 792) lawc_eq).trans (by decide +kernel)
theorem d_L_law_793 : decode (mC M_L_law) 793 = .ok (.iadd, 1) := (congrArg (fun b => decode b 793) lawc_eq).trans (by decide +kernel)
theorem d_L_law_794 : decode (mC M_L_law) 794 = .ok (.iaload, 1) := (congrArg (fun b => decode b 794) lawc_eq).trans (by decide +kernel)
theorem d_L_law_795 : decode (mC M_L_law) 795 = .ok (.invokevirtual 97, 3) := (congrArg (fun b => decode b 795) lawc_eq).trans (by decide +kernel)
theorem d_L_law_798 : decode (mC M_L_law) 798 = .ok (.aload_n 2, 1) := (congrArg (fun b => decode b 798) lawc_eq).trans (by decide +kernel)
theorem d_L_law_799 : decode (mC M_L_law) 799 = .ok (.aload_n 0, 1) := (congrArg (fun b => decode b 799) lawc_eq).trans (by decide +kernel)
theorem d_L_law_800 : decode (mC M_L_law) 800 = .ok (.iload 4, 2) := (congrArg (fun b => decode b 800) lawc_eq).trans (by decide +kernel)
theorem d_L_law_802 : decode (mC M_L_law) 802 = .ok (.iconst 1, 1) := (congrArg (fun b => decode b 802) lawc_eq).trans (by decide +kernel)
theorem d_L_law_803 : decode (mC M_L_law) 803 = .ok (.iadd, 1) := (congrArg (fun b => decode b 803) lawc_eq).trans (by decide +kernel)
theorem d_L_law_804 : decode (mC M_L_law) 804 = .ok (.iaload, 1) := (congrArg (fun b => decode b 804) lawc_eq).trans (by decide +kernel)
theorem d_L_law_805 : decode (mC M_L_law) 805 = .ok (.invokevirtual 100, 3) := (congrArg (fun b => decode b 805) lawc_eq).trans (by decide +kernel)
theorem d_L_law_808 : decode (mC M_L_law) 808 = .ok (.if_icmp .eq 191, 3) := (congrArg (fun b => decode b 808) lawc_eq).trans (by decide +kernel)
theorem d_L_law_811 : decode (mC M_L_law) 811 = .ok (.iconst 0, 1) := (congrArg (fun b => decode b 811) lawc_eq).trans (by decide +kernel)
theorem d_L_law_812 : decode (mC M_L_law) 812 = .ok (.ireturn, 1) := (congrArg (fun b => decode b 812) lawc_eq).trans (by decide +kernel)
theorem d_L_law_813 : decode (mC M_L_law) 813 = .ok (.aload_n 1, 1) := (congrArg (fun b => decode b 813) lawc_eq).trans (by decide +kernel)
theorem d_L_law_814 : decode (mC M_L_law) 814 = .ok (.aload_n 0, 1) := (congrArg (fun b => decode b 814) lawc_eq).trans (by decide +kernel)
theorem d_L_law_815 : decode (mC M_L_law) 815 = .ok (.iload 4, 2) := (congrArg (fun b => decode b 815) lawc_eq).trans (by decide +kernel)
theorem d_L_law_817 : decode (mC M_L_law) 817 = .ok (.iconst 1, 1) := (congrArg (fun b => decode b 817) lawc_eq).trans (by decide +kernel)
theorem d_L_law_818 : decode (mC M_L_law) 818 = .ok (.iadd, 1) := (congrArg (fun b => decode b 818) lawc_eq).trans (by decide +kernel)
theorem d_L_law_819 : decode (mC M_L_law) 819 = .ok (.iaload, 1) := (congrArg (fun b => decode b 819) lawc_eq).trans (by decide +kernel)
theorem d_L_law_820 : decode (mC M_L_law) 820 = .ok (.aload_n 0, 1) := (congrArg (fun b => decode b 820) lawc_eq).trans (by decide +kernel)
theorem d_L_law_821 : decode (mC M_L_law) 821 = .ok (.iload 4, 2) := (congrArg (fun b => decode b 821) lawc_eq).trans (by decide +kernel)
theorem d_L_law_823 : decode (mC M_L_law) 823 = .ok (.iconst 2, 1) := (congrArg (fun b => decode b 823) lawc_eq).trans (by decide +kernel)
theorem d_L_law_824 : decode (mC M_L_law) 824 = .ok (.iadd, 1) := (congrArg (fun b => decode b 824) lawc_eq).trans (by decide +kernel)
theorem d_L_law_825 : decode (mC M_L_law) 825 = .ok (.iaload, 1) := (congrArg (fun b => decode b 825) lawc_eq).trans (by decide +kernel)
theorem d_L_law_826 : decode (mC M_L_law) 826 = .ok (.invokevirtual 101, 3) := (congrArg (fun b => decode b 826) lawc_eq).trans (by decide +kernel)
theorem d_L_law_829 : decode (mC M_L_law) 829 = .ok (.aload_n 2, 1) := (congrArg (fun b => decode b 829) lawc_eq).trans (by decide +kernel)
theorem d_L_law_830 : decode (mC M_L_law) 830 = .ok (.aload_n 0, 1) := (congrArg (fun b => decode b 830) lawc_eq).trans (by decide +kernel)
theorem d_L_law_831 : decode (mC M_L_law) 831 = .ok (.iload 4, 2) := (congrArg (fun b => decode b 831) lawc_eq).trans (by decide +kernel)
theorem d_L_law_833 : decode (mC M_L_law) 833 = .ok (.iconst 1, 1) := (congrArg (fun b => decode b 833) lawc_eq).trans (by decide +kernel)
theorem d_L_law_834 : decode (mC M_L_law) 834 = .ok (.iadd, 1) := (congrArg (fun b => decode b 834) lawc_eq).trans (by decide +kernel)
theorem d_L_law_835 : decode (mC M_L_law) 835 = .ok (.iaload, 1) := (congrArg (fun b => decode b 835) lawc_eq).trans (by decide +kernel)
theorem d_L_law_836 : decode (mC M_L_law) 836 = .ok (.aload_n 0, 1) := (congrArg (fun b => decode b 836) lawc_eq).trans (by decide +kernel)
theorem d_L_law_837 : decode (mC M_L_law) 837 = .ok (.iload 4, 2) := (congrArg (fun b => decode b 837) lawc_eq).trans (by decide +kernel)
theorem d_L_law_839 : decode (mC M_L_law) 839 = .ok (.iconst 2, 1) := (congrArg (fun b => decode b 839) lawc_eq).trans (by decide +kernel)
theorem d_L_law_840 : decode (mC M_L_law) 840 = .ok (.iadd, 1) := (congrArg (fun b => decode b 840) lawc_eq).trans (by decide +kernel)
theorem d_L_law_841 : decode (mC M_L_law) 841 = .ok (.iaload, 1) := (congrArg (fun b => decode b 841) lawc_eq).trans (by decide +kernel)
theorem d_L_law_842 : decode (mC M_L_law) 842 = .ok (.invokevirtual 104, 3) := (congrArg (fun b => decode b 842) lawc_eq).trans (by decide +kernel)
theorem d_L_law_845 : decode (mC M_L_law) 845 = .ok (.if_icmp .eq 154, 3) := (congrArg (fun b => decode b 845) lawc_eq).trans (by decide +kernel)
theorem d_L_law_848 : decode (mC M_L_law) 848 = .ok (.iconst 0, 1) := (congrArg (fun b => decode b 848) lawc_eq).trans (by decide +kernel)
theorem d_L_law_849 : decode (mC M_L_law) 849 = .ok (.ireturn, 1) := (congrArg (fun b => decode b 849) lawc_eq).trans (by decide +kernel)
theorem d_L_law_850 : decode (mC M_L_law) 850 = .ok (.aload_n 1, 1) := (congrArg (fun b => decode b 850) lawc_eq).trans (by decide +kernel)
theorem d_L_law_851 : decode (mC M_L_law) 851 = .ok (.aload_n 0, 1) := (congrArg (fun b => decode b 851) lawc_eq).trans (by decide +kernel)
theorem d_L_law_852 : decode (mC M_L_law) 852 = .ok (.iload 4, 2) := (congrArg (fun b => decode b 852) lawc_eq).trans (by decide +kernel)
theorem d_L_law_854 : decode (mC M_L_law) 854 = .ok (.iconst 1, 1) := (congrArg (fun b => decode b 854) lawc_eq).trans (by decide +kernel)
theorem d_L_law_855 : decode (mC M_L_law) 855 = .ok (.iadd, 1) := (congrArg (fun b => decode b 855) lawc_eq).trans (by decide +kernel)
theorem d_L_law_856 : decode (mC M_L_law) 856 = .ok (.iaload, 1) := (congrArg (fun b => decode b 856) lawc_eq).trans (by decide +kernel)
theorem d_L_law_857 : decode (mC M_L_law) 857 = .ok (.aload_n 0, 1) := (congrArg (fun b => decode b 857) lawc_eq).trans (by decide +kernel)
theorem d_L_law_858 : decode (mC M_L_law) 858 = .ok (.iload 4, 2) := (congrArg (fun b => decode b 858) lawc_eq).trans (by decide +kernel)
theorem d_L_law_860 : decode (mC M_L_law) 860 = .ok (.iconst 2, 1) := (congrArg (fun b => decode b 860) lawc_eq).trans (by decide +kernel)
theorem d_L_law_861 : decode (mC M_L_law) 861 = .ok (.iadd, 1) := (congrArg (fun b => decode b 861) lawc_eq).trans (by decide +kernel)
theorem d_L_law_862 : decode (mC M_L_law) 862 = .ok (.iaload, 1) := (congrArg (fun b => decode b 862) lawc_eq).trans (by decide +kernel)
theorem d_L_law_863 : decode (mC M_L_law) 863 = .ok (.invokevirtual 105, 3) := (congrArg (fun b => decode b 863) lawc_eq).trans (by decide +kernel)
theorem d_L_law_866 : decode (mC M_L_law) 866 = .ok (.aload_n 2, 1) := (congrArg (fun b => decode b 866) lawc_eq).trans (by decide +kernel)
theorem d_L_law_867 : decode (mC M_L_law) 867 = .ok (.aload_n 0, 1) := (congrArg (fun b => decode b 867) lawc_eq).trans (by decide +kernel)
theorem d_L_law_868 : decode (mC M_L_law) 868 = .ok (.iload 4, 2) := (congrArg (fun b => decode b 868) lawc_eq).trans (by decide +kernel)
theorem d_L_law_870 : decode (mC M_L_law) 870 = .ok (.iconst 1, 1) := (congrArg (fun b => decode b 870) lawc_eq).trans (by decide +kernel)
theorem d_L_law_871 : decode (mC M_L_law) 871 = .ok (.iadd, 1) := (congrArg (fun b => decode b 871) lawc_eq).trans (by decide +kernel)
theorem d_L_law_872 : decode (mC M_L_law) 872 = .ok (.iaload, 1) := (congrArg (fun b => decode b 872) lawc_eq).trans (by decide +kernel)
theorem d_L_law_873 : decode (mC M_L_law) 873 = .ok (.aload_n 0, 1) := (congrArg (fun b => decode b 873) lawc_eq).trans (by decide +kernel)
theorem d_L_law_874 : decode (mC M_L_law) 874 = .ok (.iload 4, 2) := (congrArg (fun b => decode b 874) lawc_eq).trans (by decide +kernel)
theorem d_L_law_876 : decode (mC M_L_law) 876 = .ok (.iconst 2, 1) := (congrArg (fun b => decode b 876) lawc_eq).trans (by decide +kernel)
theorem d_L_law_877 : decode (mC M_L_law) 877 = .ok (.iadd, 1) := (congrArg (fun b => decode b 877) lawc_eq).trans (by decide +kernel)
theorem d_L_law_878 : decode (mC M_L_law) 878 = .ok (.iaload, 1) := (congrArg (fun b => decode b 878) lawc_eq).trans (by decide +kernel)
theorem d_L_law_879 : decode (mC M_L_law) 879 = .ok (.invokevirtual 108, 3) := (congrArg (fun b => decode b 879) lawc_eq).trans (by decide +kernel)
theorem d_L_law_882 : decode (mC M_L_law) 882 = .ok (.if_icmp .eq 117, 3) := (congrArg (fun b => decode b 882) lawc_eq).trans (by decide +kernel)
theorem d_L_law_885 : decode (mC M_L_law) 885 = .ok (.iconst 0, 1) := (congrArg (fun b => decode b 885) lawc_eq).trans (by decide +kernel)
theorem d_L_law_886 : decode (mC M_L_law) 886 = .ok (.ireturn, 1) := (congrArg (fun b => decode b 886) lawc_eq).trans (by decide +kernel)
theorem d_L_law_887 : decode (mC M_L_law) 887 = .ok (.aload_n 1, 1) := (congrArg (fun b => decode b 887) lawc_eq).trans (by decide +kernel)
theorem d_L_law_888 : decode (mC M_L_law) 888 = .ok (.aload_n 0, 1) := (congrArg (fun b => decode b 888) lawc_eq).trans (by decide +kernel)
theorem d_L_law_889 : decode (mC M_L_law) 889 = .ok (.iload 4, 2) := (congrArg (fun b => decode b 889) lawc_eq).trans (by decide +kernel)
theorem d_L_law_891 : decode (mC M_L_law) 891 = .ok (.iconst 1, 1) := (congrArg (fun b => decode b 891) lawc_eq).trans (by decide +kernel)
theorem d_L_law_892 : decode (mC M_L_law) 892 = .ok (.iadd, 1) := (congrArg (fun b => decode b 892) lawc_eq).trans (by decide +kernel)
theorem d_L_law_893 : decode (mC M_L_law) 893 = .ok (.iaload, 1) := (congrArg (fun b => decode b 893) lawc_eq).trans (by decide +kernel)
theorem d_L_law_894 : decode (mC M_L_law) 894 = .ok (.aload_n 0, 1) := (congrArg (fun b => decode b 894) lawc_eq).trans (by decide +kernel)
theorem d_L_law_895 : decode (mC M_L_law) 895 = .ok (.iload 4, 2) := (congrArg (fun b => decode b 895) lawc_eq).trans (by decide +kernel)
theorem d_L_law_897 : decode (mC M_L_law) 897 = .ok (.iconst 2, 1) := (congrArg (fun b => decode b 897) lawc_eq).trans (by decide +kernel)
theorem d_L_law_898 : decode (mC M_L_law) 898 = .ok (.iadd, 1) := (congrArg (fun b => decode b 898) lawc_eq).trans (by decide +kernel)
theorem d_L_law_899 : decode (mC M_L_law) 899 = .ok (.iaload, 1) := (congrArg (fun b => decode b 899) lawc_eq).trans (by decide +kernel)
theorem d_L_law_900 : decode (mC M_L_law) 900 = .ok (.invokevirtual 109, 3) := (congrArg (fun b => decode b 900) lawc_eq).trans (by decide +kernel)
theorem d_L_law_903 : decode (mC M_L_law) 903 = .ok (.aload_n 2, 1) := (congrArg (fun b => decode b 903) lawc_eq).trans (by decide +kernel)
theorem d_L_law_904 : decode (mC M_L_law) 904 = .ok (.aload_n 0, 1) := (congrArg (fun b => decode b 904) lawc_eq).trans (by decide +kernel)
theorem d_L_law_905 : decode (mC M_L_law) 905 = .ok (.iload 4, 2) := (congrArg (fun b => decode b 905) lawc_eq).trans (by decide +kernel)
theorem d_L_law_907 : decode (mC M_L_law) 907 = .ok (.iconst 1, 1) := (congrArg (fun b => decode b 907) lawc_eq).trans (by decide +kernel)
theorem d_L_law_908 : decode (mC M_L_law) 908 = .ok (.iadd, 1) := (congrArg (fun b => decode b 908) lawc_eq).trans (by decide +kernel)
theorem d_L_law_909 : decode (mC M_L_law) 909 = .ok (.iaload, 1) := (congrArg (fun b => decode b 909) lawc_eq).trans (by decide +kernel)
theorem d_L_law_910 : decode (mC M_L_law) 910 = .ok (.aload_n 0, 1) := (congrArg (fun b => decode b 910) lawc_eq).trans (by decide +kernel)
theorem d_L_law_911 : decode (mC M_L_law) 911 = .ok (.iload 4, 2) := (congrArg (fun b => decode b 911) lawc_eq).trans (by decide +kernel)
theorem d_L_law_913 : decode (mC M_L_law) 913 = .ok (.iconst 2, 1) := (congrArg (fun b => decode b 913) lawc_eq).trans (by decide +kernel)
theorem d_L_law_914 : decode (mC M_L_law) 914 = .ok (.iadd, 1) := (congrArg (fun b => decode b 914) lawc_eq).trans (by decide +kernel)
theorem d_L_law_915 : decode (mC M_L_law) 915 = .ok (.iaload, 1) := (congrArg (fun b => decode b 915) lawc_eq).trans (by decide +kernel)
theorem d_L_law_916 : decode (mC M_L_law) 916 = .ok (.invokevirtual 112, 3) := (congrArg (fun b => decode b 916) lawc_eq).trans (by decide +kernel)
theorem d_L_law_919 : decode (mC M_L_law) 919 = .ok (.if_icmp .eq 80, 3) := (congrArg (fun b => decode b 919) lawc_eq).trans (by decide +kernel)
theorem d_L_law_922 : decode (mC M_L_law) 922 = .ok (.iconst 0, 1) := (congrArg (fun b => decode b 922) lawc_eq).trans (by decide +kernel)
theorem d_L_law_923 : decode (mC M_L_law) 923 = .ok (.ireturn, 1) := (congrArg (fun b => decode b 923) lawc_eq).trans (by decide +kernel)
theorem d_L_law_924 : decode (mC M_L_law) 924 = .ok (.aload_n 1, 1) := (congrArg (fun b => decode b 924) lawc_eq).trans (by decide +kernel)
theorem d_L_law_925 : decode (mC M_L_law) 925 = .ok (.aload_n 0, 1) := (congrArg (fun b => decode b 925) lawc_eq).trans (by decide +kernel)
theorem d_L_law_926 : decode (mC M_L_law) 926 = .ok (.iload 4, 2) := (congrArg (fun b => decode b 926) lawc_eq).trans (by decide +kernel)
theorem d_L_law_928 : decode (mC M_L_law) 928 = .ok (.iconst 1, 1) := (congrArg (fun b => decode b 928) lawc_eq).trans (by decide +kernel)
theorem d_L_law_929 : decode (mC M_L_law) 929 = .ok (.iadd, 1) := (congrArg (fun b => decode b 929) lawc_eq).trans (by decide +kernel)
theorem d_L_law_930 : decode (mC M_L_law) 930 = .ok (.iaload, 1) := (congrArg (fun b => decode b 930) lawc_eq).trans (by decide +kernel)
theorem d_L_law_931 : decode (mC M_L_law) 931 = .ok (.aload_n 0, 1) := (congrArg (fun b => decode b 931) lawc_eq).trans (by decide +kernel)
theorem d_L_law_932 : decode (mC M_L_law) 932 = .ok (.iload 4, 2) := (congrArg (fun b => decode b 932) lawc_eq).trans (by decide +kernel)
theorem d_L_law_934 : decode (mC M_L_law) 934 = .ok (.iconst 2, 1) := (congrArg (fun b => decode b 934) lawc_eq).trans (by decide +kernel)
theorem d_L_law_935 : decode (mC M_L_law) 935 = .ok (.iadd, 1) := (congrArg (fun b => decode b 935) lawc_eq).trans (by decide +kernel)
theorem d_L_law_936 : decode (mC M_L_law) 936 = .ok (.iaload, 1) := (congrArg (fun b => decode b 936) lawc_eq).trans (by decide +kernel)
theorem d_L_law_937 : decode (mC M_L_law) 937 = .ok (.aload_n 0, 1) := (congrArg (fun b => decode b 937) lawc_eq).trans (by decide +kernel)
theorem d_L_law_938 : decode (mC M_L_law) 938 = .ok (.iload 4, 2) := (congrArg (fun b => decode b 938) lawc_eq).trans (by decide +kernel)
theorem d_L_law_940 : decode (mC M_L_law) 940 = .ok (.iconst 3, 1) := (congrArg (fun b => decode b 940) lawc_eq).trans (by decide +kernel)
theorem d_L_law_941 : decode (mC M_L_law) 941 = .ok (.iadd, 1) := (congrArg (fun b => decode b 941) lawc_eq).trans (by decide +kernel)
theorem d_L_law_942 : decode (mC M_L_law) 942 = .ok (.iaload, 1) := (congrArg (fun b => decode b 942) lawc_eq).trans (by decide +kernel)
theorem d_L_law_943 : decode (mC M_L_law) 943 = .ok (.invokevirtual 113, 3) := (congrArg (fun b => decode b 943) lawc_eq).trans (by decide +kernel)
theorem d_L_law_946 : decode (mC M_L_law) 946 = .ok (.aload_n 2, 1) := (congrArg (fun b => decode b 946) lawc_eq).trans (by decide +kernel)
theorem d_L_law_947 : decode (mC M_L_law) 947 = .ok (.aload_n 0, 1) := (congrArg (fun b => decode b 947) lawc_eq).trans (by decide +kernel)
theorem d_L_law_948 : decode (mC M_L_law) 948 = .ok (.iload 4, 2) := (congrArg (fun b => decode b 948) lawc_eq).trans (by decide +kernel)
theorem d_L_law_950 : decode (mC M_L_law) 950 = .ok (.iconst 1, 1) := (congrArg (fun b => decode b 950) lawc_eq).trans (by decide +kernel)
theorem d_L_law_951 : decode (mC M_L_law) 951 = .ok (.iadd, 1) := (congrArg (fun b => decode b 951) lawc_eq).trans (by decide +kernel)
theorem d_L_law_952 : decode (mC M_L_law) 952 = .ok (.iaload, 1) := (congrArg (fun b => decode b 952) lawc_eq).trans (by decide +kernel)
theorem d_L_law_953 : decode (mC M_L_law) 953 = .ok (.aload_n 0, 1) := (congrArg (fun b => decode b 953) lawc_eq).trans (by decide +kernel)
theorem d_L_law_954 : decode (mC M_L_law) 954 = .ok (.iload 4, 2) := (congrArg (fun b => decode b 954) lawc_eq).trans (by decide +kernel)
theorem d_L_law_956 : decode (mC M_L_law) 956 = .ok (.iconst 2, 1) := (congrArg (fun b => decode b 956) lawc_eq).trans (by decide +kernel)
theorem d_L_law_957 : decode (mC M_L_law) 957 = .ok (.iadd, 1) := (congrArg (fun b => decode b 957) lawc_eq).trans (by decide +kernel)
theorem d_L_law_958 : decode (mC M_L_law) 958 = .ok (.iaload, 1) := (congrArg (fun b => decode b 958) lawc_eq).trans (by decide +kernel)
theorem d_L_law_959 : decode (mC M_L_law) 959 = .ok (.aload_n 0, 1) := (congrArg (fun b => decode b 959) lawc_eq).trans (by decide +kernel)
theorem d_L_law_960 : decode (mC M_L_law) 960 = .ok (.iload 4, 2) := (congrArg (fun b => decode b 960) lawc_eq).trans (by decide +kernel)
theorem d_L_law_962 : decode (mC M_L_law) 962 = .ok (.iconst 3, 1) := (congrArg (fun b => decode b 962) lawc_eq).trans (by decide +kernel)
theorem d_L_law_963 : decode (mC M_L_law) 963 = .ok (.iadd, 1) := (congrArg (fun b => decode b 963) lawc_eq).trans (by decide +kernel)
theorem d_L_law_964 : decode (mC M_L_law) 964 = .ok (.iaload, 1) := (congrArg (fun b => decode b 964) lawc_eq).trans (by decide +kernel)
theorem d_L_law_965 : decode (mC M_L_law) 965 = .ok (.invokevirtual 117, 3) := (congrArg (fun b => decode b 965) lawc_eq).trans (by decide +kernel)
theorem d_L_law_968 : decode (mC M_L_law) 968 = .ok (.lcmp, 1) := (congrArg (fun b => decode b 968) lawc_eq).trans (by decide +kernel)
theorem d_L_law_969 : decode (mC M_L_law) 969 = .ok (.ifCond .eq 30, 3) := (congrArg (fun b => decode b 969) lawc_eq).trans (by decide +kernel)
theorem d_L_law_972 : decode (mC M_L_law) 972 = .ok (.iconst 0, 1) := (congrArg (fun b => decode b 972) lawc_eq).trans (by decide +kernel)
theorem d_L_law_973 : decode (mC M_L_law) 973 = .ok (.ireturn, 1) := (congrArg (fun b => decode b 973) lawc_eq).trans (by decide +kernel)
theorem d_L_law_974 : decode (mC M_L_law) 974 = .ok (.aload_n 1, 1) := (congrArg (fun b => decode b 974) lawc_eq).trans (by decide +kernel)
theorem d_L_law_975 : decode (mC M_L_law) 975 = .ok (.aload_n 0, 1) := (congrArg (fun b => decode b 975) lawc_eq).trans (by decide +kernel)
theorem d_L_law_976 : decode (mC M_L_law) 976 = .ok (.iload 4, 2) := (congrArg (fun b => decode b 976) lawc_eq).trans (by decide +kernel)
theorem d_L_law_978 : decode (mC M_L_law) 978 = .ok (.iconst 1, 1) := (congrArg (fun b => decode b 978) lawc_eq).trans (by decide +kernel)
theorem d_L_law_979 : decode (mC M_L_law) 979 = .ok (.iadd, 1) := (congrArg (fun b => decode b 979) lawc_eq).trans (by decide +kernel)
theorem d_L_law_980 : decode (mC M_L_law) 980 = .ok (.iaload, 1) := (congrArg (fun b => decode b 980) lawc_eq).trans (by decide +kernel)
theorem d_L_law_981 : decode (mC M_L_law) 981 = .ok (.invokevirtual 118, 3) := (congrArg (fun b => decode b 981) lawc_eq).trans (by decide +kernel)
theorem d_L_law_984 : decode (mC M_L_law) 984 = .ok (.aload_n 2, 1) := (congrArg (fun b => decode b 984) lawc_eq).trans (by decide +kernel)
theorem d_L_law_985 : decode (mC M_L_law) 985 = .ok (.aload_n 0, 1) := (congrArg (fun b => decode b 985) lawc_eq).trans (by decide +kernel)
theorem d_L_law_986 : decode (mC M_L_law) 986 = .ok (.iload 4, 2) := (congrArg (fun b => decode b 986) lawc_eq).trans (by decide +kernel)
theorem d_L_law_988 : decode (mC M_L_law) 988 = .ok (.iconst 1, 1) := (congrArg (fun b => decode b 988) lawc_eq).trans (by decide +kernel)
theorem d_L_law_989 : decode (mC M_L_law) 989 = .ok (.iadd, 1) := (congrArg (fun b => decode b 989) lawc_eq).trans (by decide +kernel)
theorem d_L_law_990 : decode (mC M_L_law) 990 = .ok (.iaload, 1) := (congrArg (fun b => decode b 990) lawc_eq).trans (by decide +kernel)
theorem d_L_law_991 : decode (mC M_L_law) 991 = .ok (.invokevirtual 121, 3) := (congrArg (fun b => decode b 991) lawc_eq).trans (by decide +kernel)
theorem d_L_law_994 : decode (mC M_L_law) 994 = .ok (.if_icmp .eq 5, 3) := (congrArg (fun b => decode b 994) lawc_eq).trans (by decide +kernel)
theorem d_L_law_997 : decode (mC M_L_law) 997 = .ok (.iconst 0, 1) := (congrArg (fun b => decode b 997) lawc_eq).trans (by decide +kernel)
theorem d_L_law_998 : decode (mC M_L_law) 998 = .ok (.ireturn, 1) := (congrArg (fun b => decode b 998) lawc_eq).trans (by decide +kernel)
theorem d_L_law_999 : decode (mC M_L_law) 999 = .ok (.iinc 4 6, 3) := (congrArg (fun b => decode b 999) lawc_eq).trans (by decide +kernel)
theorem d_L_law_1002 : decode (mC M_L_law) 1002 = .ok (.goto (-979), 3) := (congrArg (fun b => decode b 1002) lawc_eq).trans (by decide +kernel)
theorem d_L_law_1005 : decode (mC M_L_law) 1005 = .ok (.iconst 1, 1) := (congrArg (fun b => decode b 1005) lawc_eq).trans (by decide +kernel)
theorem d_L_law_1006 : decode (mC M_L_law) 1006 = .ok (.ireturn, 1) := (congrArg (fun b => decode b 1006) lawc_eq).trans (by decide +kernel)
theorem d_L_seen_0 : decode (mC M_L_seen) 0 = .ok (.aload 4, 2) := by decide +kernel
theorem d_L_seen_2 : decode (mC M_L_seen) 2 = .ok (.iconst 0, 1) := by decide +kernel
theorem d_L_seen_3 : decode (mC M_L_seen) 3 = .ok (.aload_n 0, 1) := by decide +kernel
theorem d_L_seen_4 : decode (mC M_L_seen) 4 = .ok (.iload_n 1, 1) := by decide +kernel
theorem d_L_seen_5 : decode (mC M_L_seen) 5 = .ok (.iload_n 2, 1) := by decide +kernel
theorem d_L_seen_6 : decode (mC M_L_seen) 6 = .ok (.iload_n 3, 1) := by decide +kernel
theorem d_L_seen_7 : decode (mC M_L_seen) 7 = .ok (.invokevirtual 7, 3) := by decide +kernel
theorem d_L_seen_10 : decode (mC M_L_seen) 10 = .ok (.i2l, 1) := by decide +kernel
theorem d_L_seen_11 : decode (mC M_L_seen) 11 = .ok (.lastore, 1) := by decide +kernel
theorem d_L_seen_12 : decode (mC M_L_seen) 12 = .ok (.goto 7, 3) := by decide +kernel
theorem d_L_seen_15 : decode (mC M_L_seen) 15 = .ok (.astore 5, 2) := by decide +kernel
theorem d_L_seen_17 : decode (mC M_L_seen) 17 = .ok (.iconst 1, 1) := by decide +kernel
theorem d_L_seen_18 : decode (mC M_L_seen) 18 = .ok (.ireturn, 1) := by decide +kernel
theorem d_L_seen_19 : decode (mC M_L_seen) 19 = .ok (.iconst 0, 1) := by decide +kernel
theorem d_L_seen_20 : decode (mC M_L_seen) 20 = .ok (.ireturn, 1) := by decide +kernel
theorem d_X0_init_0 : decode (mC M_X0_init) 0 = .ok (.aload_n 0, 1) := by decide +kernel
theorem d_X0_init_1 : decode (mC M_X0_init) 1 = .ok (.invokespecial 3, 3) := by decide +kernel
theorem d_X0_init_4 : decode (mC M_X0_init) 4 = .ok (.aload_n 0, 1) := by decide +kernel
theorem d_X0_init_5 : decode (mC M_X0_init) 5 = .ok (.new 9, 3) := by decide +kernel
theorem d_X0_init_8 : decode (mC M_X0_init) 8 = .ok (.dup, 1) := by decide +kernel
theorem d_X0_init_9 : decode (mC M_X0_init) 9 = .ok (.invokespecial 11, 3) := by decide +kernel
theorem d_X0_init_12 : decode (mC M_X0_init) 12 = .ok (.putfield 12, 3) := by decide +kernel
theorem d_X0_init_15 : decode (mC M_X0_init) 15 = .ok (.aload_n 0, 1) := by decide +kernel
theorem d_X0_init_16 : decode (mC M_X0_init) 16 = .ok (.iload_n 1, 1) := by decide +kernel
theorem d_X0_init_17 : decode (mC M_X0_init) 17 = .ok (.putfield 18, 3) := by decide +kernel
theorem d_X0_init_20 : decode (mC M_X0_init) 20 = .ok (.return_, 1) := by decide +kernel
theorem d_X0_readFrom_0 : decode (mC M_X0_readFrom) 0 = .ok (.aload_n 1, 1) := by decide +kernel
theorem d_X0_readFrom_1 : decode (mC M_X0_readFrom) 1 = .ok (.invokevirtual 22, 3) := by decide +kernel
theorem d_X0_readFrom_4 : decode (mC M_X0_readFrom) 4 = .ok (.iconst 0, 1) := by decide +kernel
theorem d_X0_readFrom_5 : decode (mC M_X0_readFrom) 5 = .ok (.istore_n 2, 1) := by decide +kernel
theorem d_X0_readFrom_6 : decode (mC M_X0_readFrom) 6 = .ok (.iload_n 2, 1) := by decide +kernel
theorem d_X0_readFrom_7 : decode (mC M_X0_readFrom) 7 = .ok (.bipush 8, 2) := by decide +kernel
theorem d_X0_readFrom_9 : decode (mC M_X0_readFrom) 9 = .ok (.if_icmp .gt 86, 3) := by decide +kernel
theorem d_X0_readFrom_12 : decode (mC M_X0_readFrom) 12 = .ok (.aload_n 1, 1) := by decide +kernel
theorem d_X0_readFrom_13 : decode (mC M_X0_readFrom) 13 = .ok (.invokevirtual 27, 3) := by decide +kernel
theorem d_X0_readFrom_16 : decode (mC M_X0_readFrom) 16 = .ok (.ifCond .ne 79, 3) := by decide +kernel
theorem d_X0_readFrom_19 : decode (mC M_X0_readFrom) 19 = .ok (.new 31, 3) := by decide +kernel
theorem d_X0_readFrom_22 : decode (mC M_X0_readFrom) 22 = .ok (.dup, 1) := by decide +kernel
theorem d_X0_readFrom_23 : decode (mC M_X0_readFrom) 23 = .ok (.aload_n 1, 1) := by decide +kernel
theorem d_X0_readFrom_24 : decode (mC M_X0_readFrom) 24 = .ok (.invokestatic 33, 3) := by decide +kernel
theorem d_X0_readFrom_27 : decode (mC M_X0_readFrom) 27 = .ok (.invokespecial 37, 3) := by decide +kernel
theorem d_X0_readFrom_30 : decode (mC M_X0_readFrom) 30 = .ok (.astore_n 3, 1) := by decide +kernel
theorem d_X0_readFrom_31 : decode (mC M_X0_readFrom) 31 = .ok (.aload_n 3, 1) := by decide +kernel
theorem d_X0_readFrom_32 : decode (mC M_X0_readFrom) 32 = .ok (.getfield 40, 3) := by decide +kernel
theorem d_X0_readFrom_35 : decode (mC M_X0_readFrom) 35 = .ok (.iconst (-1), 1) := by decide +kernel
theorem d_X0_readFrom_36 : decode (mC M_X0_readFrom) 36 = .ok (.if_icmp .ne 9, 3) := by decide +kernel
theorem d_X0_readFrom_39 : decode (mC M_X0_readFrom) 39 = .ok (.aload_n 1, 1) := by decide +kernel
theorem d_X0_readFrom_40 : decode (mC M_X0_readFrom) 40 = .ok (.iconst 1, 1) := by decide +kernel
theorem d_X0_readFrom_41 : decode (mC M_X0_readFrom) 41 = .ok (.invokevirtual 43, 3) := by decide +kernel
theorem d_X0_readFrom_44 : decode (mC M_X0_readFrom) 44 = .ok (.ireturn, 1) := by decide +kernel
theorem d_X0_readFrom_45 : decode (mC M_X0_readFrom) 45 = .ok (.iload_n 2, 1) := by decide +kernel
theorem d_X0_readFrom_46 : decode (mC M_X0_readFrom) 46 = .ok (.bipush 8, 2) := by decide +kernel
theorem d_X0_readFrom_48 : decode (mC M_X0_readFrom) 48 = .ok (.if_icmp .ne 9, 3) := by decide +kernel
theorem d_X0_readFrom_51 : decode (mC M_X0_readFrom) 51 = .ok (.aload_n 1, 1) := by decide +kernel
theorem d_X0_readFrom_52 : decode (mC M_X0_readFrom) 52 = .ok (.iconst 2, 1) := by decide +kernel
theorem d_X0_readFrom_53 : decode (mC M_X0_readFrom) 53 = .ok (.invokevirtual 43, 3) := by decide +kernel
theorem d_X0_readFrom_56 : decode (mC M_X0_readFrom) 56 = .ok (.ireturn, 1) := by decide +kernel
theorem d_X0_readFrom_57 : decode (mC M_X0_readFrom) 57 = .ok (.aload_n 1, 1) := by decide +kernel
theorem d_X0_readFrom_58 : decode (mC M_X0_readFrom) 58 = .ok (.invokevirtual 47, 3) := by decide +kernel
theorem d_X0_readFrom_61 : decode (mC M_X0_readFrom) 61 = .ok (.aload_n 3, 1) := by decide +kernel
theorem d_X0_readFrom_62 : decode (mC M_X0_readFrom) 62 = .ok (.aload_n 1, 1) := by decide +kernel
theorem d_X0_readFrom_63 : decode (mC M_X0_readFrom) 63 = .ok (.invokevirtual 50, 3) := by decide +kernel
theorem d_X0_readFrom_66 : decode (mC M_X0_readFrom) 66 = .ok (.ifCond .eq 12, 3) := by decide +kernel
theorem d_X0_readFrom_69 : decode (mC M_X0_readFrom) 69 = .ok (.aload_n 1, 1) := by decide +kernel
theorem d_X0_readFrom_70 : decode (mC M_X0_readFrom) 70 = .ok (.bipush 59, 2) := by decide +kernel
theorem d_X0_readFrom_72 : decode (mC M_X0_readFrom) 72 = .ok (.invokevirtual 54, 3) := by decide +kernel
theorem d_X0_readFrom_75 : decode (mC M_X0_readFrom) 75 = .ok (.ifCond .ne 5, 3) := by decide +kernel
theorem d_X0_readFrom_78 : decode (mC M_X0_readFrom) 78 = .ok (.iconst 0, 1) := by decide +kernel
theorem d_X0_readFrom_79 : decode (mC M_X0_readFrom) 79 = .ok (.ireturn, 1) := by decide +kernel
theorem d_X0_readFrom_80 : decode (mC M_X0_readFrom) 80 = .ok (.aload_n 0, 1) := by decide +kernel
theorem d_X0_readFrom_81 : decode (mC M_X0_readFrom) 81 = .ok (.getfield 12, 3) := by decide +kernel
theorem d_X0_readFrom_84 : decode (mC M_X0_readFrom) 84 = .ok (.aload_n 3, 1) := by decide +kernel
theorem d_X0_readFrom_85 : decode (mC M_X0_readFrom) 85 = .ok (.invokevirtual 58, 3) := by decide +kernel
theorem d_X0_readFrom_88 : decode (mC M_X0_readFrom) 88 = .ok (.pop, 1) := by decide +kernel
theorem d_X0_readFrom_89 : decode (mC M_X0_readFrom) 89 = .ok (.iinc 2 1, 3) := by decide +kernel
theorem d_X0_readFrom_92 : decode (mC M_X0_readFrom) 92 = .ok (.goto (-86), 3) := by decide +kernel
theorem d_X0_readFrom_95 : decode (mC M_X0_readFrom) 95 = .ok (.iconst 1, 1) := by decide +kernel
theorem d_X0_readFrom_96 : decode (mC M_X0_readFrom) 96 = .ok (.ireturn, 1) := by decide +kernel
theorem d_X0_worth_0 : decode (mC M_X0_worth) 0 = .ok (.iconst 0, 1) := by decide +kernel
theorem d_X0_worth_1 : decode (mC M_X0_worth) 1 = .ok (.istore_n 3, 1) := by decide +kernel
theorem d_X0_worth_2 : decode (mC M_X0_worth) 2 = .ok (.iconst 0, 1) := by decide +kernel
theorem d_X0_worth_3 : decode (mC M_X0_worth) 3 = .ok (.istore 4, 2) := by decide +kernel
theorem d_X0_worth_5 : decode (mC M_X0_worth) 5 = .ok (.iload 4, 2) := by decide +kernel
theorem d_X0_worth_7 : decode (mC M_X0_worth) 7 = .ok (.aload_n 0, 1) := by decide +kernel
theorem d_X0_worth_8 : decode (mC M_X0_worth) 8 = .ok (.getfield 12, 3) := by decide +kernel
theorem d_X0_worth_11 : decode (mC M_X0_worth) 11 = .ok (.invokevirtual 62, 3) := by decide +kernel
theorem d_X0_worth_14 : decode (mC M_X0_worth) 14 = .ok (.if_icmp .ge 29, 3) := by decide +kernel
theorem d_X0_worth_17 : decode (mC M_X0_worth) 17 = .ok (.iload_n 3, 1) := by decide +kernel
theorem d_X0_worth_18 : decode (mC M_X0_worth) 18 = .ok (.aload_n 0, 1) := by decide +kernel
theorem d_X0_worth_19 : decode (mC M_X0_worth) 19 = .ok (.getfield 12, 3) := by decide +kernel
theorem d_X0_worth_22 : decode (mC M_X0_worth) 22 = .ok (.iload 4, 2) := by decide +kernel
theorem d_X0_worth_24 : decode (mC M_X0_worth) 24 = .ok (.invokevirtual 66, 3) := by decide +kernel
theorem d_X0_worth_27 : decode (mC M_X0_worth) 27 = .ok (.checkcast 31, 3) := by decide +kernel
theorem d_X0_worth_30 : decode (mC M_X0_worth) 30 = .ok (.iload_n 1, 1) := by decide +kernel
theorem d_X0_worth_31 : decode (mC M_X0_worth) 31 = .ok (.iload_n 2, 1) := by decide +kernel
theorem d_X0_worth_32 : decode (mC M_X0_worth) 32 = .ok (.invokevirtual 70, 3) := by decide +kernel
theorem d_X0_worth_35 : decode (mC M_X0_worth) 35 = .ok (.iadd, 1) := by decide +kernel
theorem d_X0_worth_36 : decode (mC M_X0_worth) 36 = .ok (.istore_n 3, 1) := by decide +kernel
theorem d_X0_worth_37 : decode (mC M_X0_worth) 37 = .ok (.iinc 4 1, 3) := by decide +kernel
theorem d_X0_worth_40 : decode (mC M_X0_worth) 40 = .ok (.goto (-35), 3) := by decide +kernel
theorem d_X0_worth_43 : decode (mC M_X0_worth) 43 = .ok (.iload_n 3, 1) := by decide +kernel
theorem d_X0_worth_44 : decode (mC M_X0_worth) 44 = .ok (.ireturn, 1) := by decide +kernel
theorem d_X10_answer_0 : decode (mC M_X10_answer) 0 = .ok (.iload_n 1, 1) := by decide +kernel
theorem d_X10_answer_1 : decode (mC M_X10_answer) 1 = .ok (.tableswitch 92 0 6 #[43, 48, 53, 58, 63, 68, 87], 43) := by decide +kernel
theorem d_X10_answer_44 : decode (mC M_X10_answer) 44 = .ok (.aload_n 0, 1) := by decide +kernel
theorem d_X10_answer_45 : decode (mC M_X10_answer) 45 = .ok (.getfield 28, 3) := by decide +kernel
theorem d_X10_answer_48 : decode (mC M_X10_answer) 48 = .ok (.ireturn, 1) := by decide +kernel
theorem d_X10_answer_49 : decode (mC M_X10_answer) 49 = .ok (.aload_n 0, 1) := by decide +kernel
theorem d_X10_answer_50 : decode (mC M_X10_answer) 50 = .ok (.getfield 51, 3) := by decide +kernel
theorem d_X10_answer_53 : decode (mC M_X10_answer) 53 = .ok (.ireturn, 1) := by decide +kernel
theorem d_X10_answer_54 : decode (mC M_X10_answer) 54 = .ok (.aload_n 0, 1) := by decide +kernel
theorem d_X10_answer_55 : decode (mC M_X10_answer) 55 = .ok (.getfield 60, 3) := by decide +kernel
theorem d_X10_answer_58 : decode (mC M_X10_answer) 58 = .ok (.ireturn, 1) := by decide +kernel
theorem d_X10_answer_59 : decode (mC M_X10_answer) 59 = .ok (.aload_n 0, 1) := by decide +kernel
theorem d_X10_answer_60 : decode (mC M_X10_answer) 60 = .ok (.getfield 32, 3) := by decide +kernel
theorem d_X10_answer_63 : decode (mC M_X10_answer) 63 = .ok (.ireturn, 1) := by decide +kernel
theorem d_X10_answer_64 : decode (mC M_X10_answer) 64 = .ok (.aload_n 0, 1) := by decide +kernel
theorem d_X10_answer_65 : decode (mC M_X10_answer) 65 = .ok (.getfield 36, 3) := by decide +kernel
theorem d_X10_answer_68 : decode (mC M_X10_answer) 68 = .ok (.ireturn, 1) := by decide +kernel
theorem d_X10_answer_69 : decode (mC M_X10_answer) 69 = .ok (.aload_n 0, 1) := by decide +kernel
theorem d_X10_answer_70 : decode (mC M_X10_answer) 70 = .ok (.getfield 39, 3) := by decide +kernel
theorem d_X10_answer_73 : decode (mC M_X10_answer) 73 = .ok (.ifnonnull 7, 3) := by decide +kernel
theorem d_X10_answer_76 : decode (mC M_X10_answer) 76 = .ok (.iconst (-1), 1) := by decide +kernel
theorem d_X10_answer_77 : decode (mC M_X10_answer) 77 = .ok (.goto 10, 3) := by decide +kernel
theorem d_X10_answer_80 : decode (mC M_X10_answer) 80 = .ok (.aload_n 0, 1) := by decide +kernel
theorem d_X10_answer_81 : decode (mC M_X10_answer) 81 = .ok (.getfield 39, 3) := by decide +kernel
theorem d_X10_answer_84 : decode (mC M_X10_answer) 84 = .ok (.getfield 63, 3) := by decide +kernel
theorem d_X10_answer_87 : decode (mC M_X10_answer) 87 = .ok (.ireturn, 1) := by decide +kernel
theorem d_X10_answer_88 : decode (mC M_X10_answer) 88 = .ok (.aload_n 0, 1) := by decide +kernel
theorem d_X10_answer_89 : decode (mC M_X10_answer) 89 = .ok (.invokevirtual 66, 3) := by decide +kernel
theorem d_X10_answer_92 : decode (mC M_X10_answer) 92 = .ok (.ireturn, 1) := by decide +kernel
theorem d_X10_answer_93 : decode (mC M_X10_answer) 93 = .ok (.iconst (-1), 1) := by decide +kernel
theorem d_X10_answer_94 : decode (mC M_X10_answer) 94 = .ok (.ireturn, 1) := by decide +kernel
theorem d_X10_earned_0 : decode (mC M_X10_earned) 0 = .ok (.aload_n 0, 1) := by decide +kernel
theorem d_X10_earned_1 : decode (mC M_X10_earned) 1 = .ok (.getfield 39, 3) := by decide +kernel
theorem d_X10_earned_4 : decode (mC M_X10_earned) 4 = .ok (.ifnonnull 7, 3) := by decide +kernel
theorem d_X10_earned_7 : decode (mC M_X10_earned) 7 = .ok (.iconst 0, 1) := by decide +kernel
theorem d_X10_earned_8 : decode (mC M_X10_earned) 8 = .ok (.goto 18, 3) := by decide +kernel
theorem d_X10_earned_11 : decode (mC M_X10_earned) 11 = .ok (.aload_n 0, 1) := by decide +kernel
theorem d_X10_earned_12 : decode (mC M_X10_earned) 12 = .ok (.getfield 39, 3) := by decide +kernel
theorem d_X10_earned_15 : decode (mC M_X10_earned) 15 = .ok (.aload_n 0, 1) := by decide +kernel
theorem d_X10_earned_16 : decode (mC M_X10_earned) 16 = .ok (.getfield 51, 3) := by decide +kernel
theorem d_X10_earned_19 : decode (mC M_X10_earned) 19 = .ok (.aload_n 0, 1) := by decide +kernel
theorem d_X10_earned_20 : decode (mC M_X10_earned) 20 = .ok (.getfield 36, 3) := by decide +kernel
theorem d_X10_earned_23 : decode (mC M_X10_earned) 23 = .ok (.invokevirtual 54, 3) := by decide +kernel
theorem d_X10_earned_26 : decode (mC M_X10_earned) 26 = .ok (.ireturn, 1) := by decide +kernel
theorem d_X10_init_0 : decode (mC M_X10_init) 0 = .ok (.aload_n 0, 1) := by decide +kernel
theorem d_X10_init_1 : decode (mC M_X10_init) 1 = .ok (.invokespecial 3, 3) := by decide +kernel
theorem d_X10_init_4 : decode (mC M_X10_init) 4 = .ok (.aload_n 0, 1) := by decide +kernel
theorem d_X10_init_5 : decode (mC M_X10_init) 5 = .ok (.aload_n 1, 1) := by decide +kernel
theorem d_X10_init_6 : decode (mC M_X10_init) 6 = .ok (.putfield 9, 3) := by decide +kernel
theorem d_X10_init_9 : decode (mC M_X10_init) 9 = .ok (.aload_n 0, 1) := by decide +kernel
theorem d_X10_init_10 : decode (mC M_X10_init) 10 = .ok (.iload_n 2, 1) := by decide +kernel
theorem d_X10_init_11 : decode (mC M_X10_init) 11 = .ok (.putfield 15, 3) := by decide +kernel
theorem d_X10_init_14 : decode (mC M_X10_init) 14 = .ok (.aload_n 0, 1) := by decide +kernel
theorem d_X10_init_15 : decode (mC M_X10_init) 15 = .ok (.aload_n 3, 1) := by decide +kernel
theorem d_X10_init_16 : decode (mC M_X10_init) 16 = .ok (.putfield 19, 3) := by decide +kernel
theorem d_X10_init_19 : decode (mC M_X10_init) 19 = .ok (.aload_n 0, 1) := by decide +kernel
theorem d_X10_init_20 : decode (mC M_X10_init) 20 = .ok (.aload_n 3, 1) := by decide +kernel
theorem d_X10_init_21 : decode (mC M_X10_init) 21 = .ok (.getfield 23, 3) := by decide +kernel
theorem d_X10_init_24 : decode (mC M_X10_init) 24 = .ok (.putfield 28, 3) := by decide +kernel
theorem d_X10_init_27 : decode (mC M_X10_init) 27 = .ok (.return_, 1) := by decide +kernel
theorem d_X10_send_0 : decode (mC M_X10_send) 0 = .ok (.aload_n 0, 1) := by decide +kernel
theorem d_X10_send_1 : decode (mC M_X10_send) 1 = .ok (.aload_n 0, 1) := by decide +kernel
theorem d_X10_send_2 : decode (mC M_X10_send) 2 = .ok (.getfield 19, 3) := by decide +kernel
theorem d_X10_send_5 : decode (mC M_X10_send) 5 = .ok (.getfield 29, 3) := by decide +kernel
theorem d_X10_send_8 : decode (mC M_X10_send) 8 = .ok (.putfield 32, 3) := by decide +kernel
theorem d_X10_send_11 : decode (mC M_X10_send) 11 = .ok (.aload_n 0, 1) := by decide +kernel
theorem d_X10_send_12 : decode (mC M_X10_send) 12 = .ok (.aload_n 0, 1) := by decide +kernel
theorem d_X10_send_13 : decode (mC M_X10_send) 13 = .ok (.getfield 32, 3) := by decide +kernel
theorem d_X10_send_16 : decode (mC M_X10_send) 16 = .ok (.aload_n 0, 1) := by decide +kernel
theorem d_X10_send_17 : decode (mC M_X10_send) 17 = .ok (.getfield 19, 3) := by decide +kernel
theorem d_X10_send_20 : decode (mC M_X10_send) 20 = .ok (.getfield 33, 3) := by decide +kernel
theorem d_X10_send_23 : decode (mC M_X10_send) 23 = .ok (.iadd, 1) := by decide +kernel
theorem d_X10_send_24 : decode (mC M_X10_send) 24 = .ok (.putfield 36, 3) := by decide +kernel
theorem d_X10_send_27 : decode (mC M_X10_send) 27 = .ok (.aload_n 0, 1) := by decide +kernel
theorem d_X10_send_28 : decode (mC M_X10_send) 28 = .ok (.aload_n 1, 1) := by decide +kernel
theorem d_X10_send_29 : decode (mC M_X10_send) 29 = .ok (.putfield 39, 3) := by decide +kernel
theorem d_X10_send_32 : decode (mC M_X10_send) 32 = .ok (.aload_n 0, 1) := by decide +kernel
theorem d_X10_send_33 : decode (mC M_X10_send) 33 = .ok (.getfield 9, 3) := by decide +kernel
theorem d_X10_send_36 : decode (mC M_X10_send) 36 = .ok (.dup, 1) := by decide +kernel
theorem d_X10_send_37 : decode (mC M_X10_send) 37 = .ok (.getfield 43, 3) := by decide +kernel
theorem d_X10_send_40 : decode (mC M_X10_send) 40 = .ok (.iconst 1, 1) := by decide +kernel
theorem d_X10_send_41 : decode (mC M_X10_send) 41 = .ok (.iadd, 1) := by decide +kernel
theorem d_X10_send_42 : decode (mC M_X10_send) 42 = .ok (.putfield 43, 3) := by decide +kernel
theorem d_X10_send_45 : decode (mC M_X10_send) 45 = .ok (.aload_n 0, 1) := by decide +kernel
theorem d_X10_send_46 : decode (mC M_X10_send) 46 = .ok (.getfield 9, 3) := by decide +kernel
theorem d_X10_send_49 : decode (mC M_X10_send) 49 = .ok (.sipush 1440, 3) := by decide +kernel
theorem d_X10_send_52 : decode (mC M_X10_send) 52 = .ok (.aload_n 0, 1) := by decide +kernel
theorem d_X10_send_53 : decode (mC M_X10_send) 53 = .ok (.getfield 15, 3) := by decide +kernel
theorem d_X10_send_56 : decode (mC M_X10_send) 56 = .ok (.imul, 1) := by decide +kernel
theorem d_X10_send_57 : decode (mC M_X10_send) 57 = .ok (.aload_n 0, 1) := by decide +kernel
theorem d_X10_send_58 : decode (mC M_X10_send) 58 = .ok (.getfield 36, 3) := by decide +kernel
theorem d_X10_send_61 : decode (mC M_X10_send) 61 = .ok (.iadd, 1) := by decide +kernel
theorem d_X10_send_62 : decode (mC M_X10_send) 62 = .ok (.sipush 660, 3) := by decide +kernel
theorem d_X10_send_65 : decode (mC M_X10_send) 65 = .ok (.iadd, 1) := by decide +kernel
theorem d_X10_send_66 : decode (mC M_X10_send) 66 = .ok (.putfield 48, 3) := by decide +kernel
theorem d_X10_send_69 : decode (mC M_X10_send) 69 = .ok (.return_, 1) := by decide +kernel
theorem d_X11_about_0 : decode (mC M_X11_about) 0 = .ok (.aload_n 0, 1) := by decide +kernel
theorem d_X11_about_1 : decode (mC M_X11_about) 1 = .ok (.iload_n 1, 1) := by decide +kernel
theorem d_X11_about_2 : decode (mC M_X11_about) 2 = .ok (.invokevirtual 93, 3) := by decide +kernel
theorem d_X11_about_5 : decode (mC M_X11_about) 5 = .ok (.astore_n 3, 1) := by decide +kernel
theorem d_X11_about_6 : decode (mC M_X11_about) 6 = .ok (.aload_n 3, 1) := by decide +kernel
theorem d_X11_about_7 : decode (mC M_X11_about) 7 = .ok (.ifnonnull 7, 3) := by decide +kernel
theorem d_X11_about_10 : decode (mC M_X11_about) 10 = .ok (.iconst (-1), 1) := by decide +kernel
theorem d_X11_about_11 : decode (mC M_X11_about) 11 = .ok (.goto 8, 3) := by decide +kernel
theorem d_X11_about_14 : decode (mC M_X11_about) 14 = .ok (.aload_n 3, 1) := by decide +kernel
theorem d_X11_about_15 : decode (mC M_X11_about) 15 = .ok (.iload_n 2, 1) := by decide +kernel
theorem d_X11_about_16 : decode (mC M_X11_about) 16 = .ok (.invokevirtual 234, 3) := by decide +kernel
theorem d_X11_about_19 : decode (mC M_X11_about) 19 = .ok (.ireturn, 1) := by decide +kernel
theorem d_X11_addBytes_0 : decode (mC M_X11_addBytes) 0 = .ok (.bipush 24, 2) := by decide +kernel
theorem d_X11_addBytes_2 : decode (mC M_X11_addBytes) 2 = .ok (.istore_n 2, 1) := by decide +kernel
theorem d_X11_addBytes_3 : decode (mC M_X11_addBytes) 3 = .ok (.iload_n 2, 1) := by decide +kernel
theorem d_X11_addBytes_4 : decode (mC M_X11_addBytes) 4 = .ok (.ifCond .lt 23, 3) := by decide +kernel
theorem d_X11_addBytes_7 : decode (mC M_X11_addBytes) 7 = .ok (.aload_n 0, 1) := by decide +kernel
theorem d_X11_addBytes_8 : decode (mC M_X11_addBytes) 8 = .ok (.getfield 21, 3) := by decide +kernel
theorem d_X11_addBytes_11 : decode (mC M_X11_addBytes) 11 = .ok (.iload_n 1, 1) := by decide +kernel
theorem d_X11_addBytes_12 : decode (mC M_X11_addBytes) 12 = .ok (.iload_n 2, 1) := by decide +kernel
theorem d_X11_addBytes_13 : decode (mC M_X11_addBytes) 13 = .ok (.iushr, 1) := by decide +kernel
theorem d_X11_addBytes_14 : decode (mC M_X11_addBytes) 14 = .ok (.sipush 255, 3) := by decide +kernel
theorem d_X11_addBytes_17 : decode (mC M_X11_addBytes) 17 = .ok (.iand, 1) := by decide +kernel
theorem d_X11_addBytes_18 : decode (mC M_X11_addBytes) 18 = .ok (.invokevirtual 228, 3) := by decide +kernel
theorem d_X11_addBytes_21 : decode (mC M_X11_addBytes) 21 = .ok (.iinc 2 (-8), 3) := by decide +kernel
theorem d_X11_addBytes_24 : decode (mC M_X11_addBytes) 24 = .ok (.goto (-21), 3) := by decide +kernel
theorem d_X11_addBytes_27 : decode (mC M_X11_addBytes) 27 = .ok (.return_, 1) := by decide +kernel
theorem d_X11_agree_0 : decode (mC M_X11_agree) 0 = .ok (.aload_n 0, 1) := by decide +kernel
theorem d_X11_agree_1 : decode (mC M_X11_agree) 1 = .ok (.getfield 43, 3) := by decide +kernel
theorem d_X11_agree_4 : decode (mC M_X11_agree) 4 = .ok (.invokevirtual 80, 3) := by decide +kernel
theorem d_X11_agree_7 : decode (mC M_X11_agree) 7 = .ok (.bipush 30, 2) := by decide +kernel
theorem d_X11_agree_9 : decode (mC M_X11_agree) 9 = .ok (.if_icmp .lt 6, 3) := by decide +kernel
theorem d_X11_agree_12 : decode (mC M_X11_agree) 12 = .ok (.bipush (-2), 2) := by decide +kernel
theorem d_X11_agree_14 : decode (mC M_X11_agree) 14 = .ok (.ireturn, 1) := by decide +kernel
theorem d_X11_agree_15 : decode (mC M_X11_agree) 15 = .ok (.new 121, 3) := by decide +kernel
theorem d_X11_agree_18 : decode (mC M_X11_agree) 18 = .ok (.dup, 1) := by decide +kernel
theorem d_X11_agree_19 : decode (mC M_X11_agree) 19 = .ok (.aload_n 0, 1) := by decide +kernel
theorem d_X11_agree_20 : decode (mC M_X11_agree) 20 = .ok (.getfield 43, 3) := by decide +kernel
theorem d_X11_agree_23 : decode (mC M_X11_agree) 23 = .ok (.invokevirtual 80, 3) := by decide +kernel
theorem d_X11_agree_26 : decode (mC M_X11_agree) 26 = .ok (.invokespecial 123, 3) := by decide +kernel
theorem d_X11_agree_29 : decode (mC M_X11_agree) 29 = .ok (.astore_n 1, 1) := by decide +kernel
theorem d_X11_agree_30 : decode (mC M_X11_agree) 30 = .ok (.aload_n 1, 1) := by decide +kernel
theorem d_X11_agree_31 : decode (mC M_X11_agree) 31 = .ok (.aload_n 0, 1) := by decide +kernel
theorem d_X11_agree_32 : decode (mC M_X11_agree) 32 = .ok (.getfield 30, 3) := by decide +kernel
theorem d_X11_agree_35 : decode (mC M_X11_agree) 35 = .ok (.invokevirtual 124, 3) := by decide +kernel
theorem d_X11_agree_38 : decode (mC M_X11_agree) 38 = .ok (.istore_n 2, 1) := by decide +kernel
theorem d_X11_agree_39 : decode (mC M_X11_agree) 39 = .ok (.aload_n 0, 1) := by decide +kernel
theorem d_X11_agree_40 : decode (mC M_X11_agree) 40 = .ok (.getfield 21, 3) := by decide +kernel
theorem d_X11_agree_43 : decode (mC M_X11_agree) 43 = .ok (.iconst 0, 1) := by decide +kernel
theorem d_X11_agree_44 : decode (mC M_X11_agree) 44 = .ok (.putfield 105, 3) := by decide +kernel
theorem d_X11_agree_47 : decode (mC M_X11_agree) 47 = .ok (.iload_n 2, 1) := by decide +kernel
theorem d_X11_agree_48 : decode (mC M_X11_agree) 48 = .ok (.ifCond .ne 14, 3) := by decide +kernel
theorem d_X11_agree_51 : decode (mC M_X11_agree) 51 = .ok (.bipush (-2), 2) := by decide +kernel
theorem d_X11_agree_53 : decode (mC M_X11_agree) 53 = .ok (.aload_n 0, 1) := by decide +kernel
theorem d_X11_agree_54 : decode (mC M_X11_agree) 54 = .ok (.getfield 30, 3) := by decide +kernel
theorem d_X11_agree_57 : decode (mC M_X11_agree) 57 = .ok (.getfield 115, 3) := by decide +kernel
theorem d_X11_agree_60 : decode (mC M_X11_agree) 60 = .ok (.isub, 1) := by decide +kernel
theorem d_X11_agree_61 : decode (mC M_X11_agree) 61 = .ok (.ireturn, 1) := by decide +kernel
theorem d_X11_agree_62 : decode (mC M_X11_agree) 62 = .ok (.aload_n 0, 1) := by decide +kernel
theorem d_X11_agree_63 : decode (mC M_X11_agree) 63 = .ok (.getfield 43, 3) := by decide +kernel
theorem d_X11_agree_66 : decode (mC M_X11_agree) 66 = .ok (.aload_n 1, 1) := by decide +kernel
theorem d_X11_agree_67 : decode (mC M_X11_agree) 67 = .ok (.invokevirtual 89, 3) := by decide +kernel
theorem d_X11_agree_70 : decode (mC M_X11_agree) 70 = .ok (.pop, 1) := by decide +kernel
theorem d_X11_agree_71 : decode (mC M_X11_agree) 71 = .ok (.aload_n 1, 1) := by decide +kernel
theorem d_X11_agree_72 : decode (mC M_X11_agree) 72 = .ok (.getfield 128, 3) := by decide +kernel
theorem d_X11_agree_75 : decode (mC M_X11_agree) 75 = .ok (.ireturn, 1) := by decide +kernel
theorem d_X11_ask_0 : decode (mC M_X11_ask) 0 = .ok (.aload_n 0, 1) := by decide +kernel
theorem d_X11_ask_1 : decode (mC M_X11_ask) 1 = .ok (.getfield 58, 3) := by decide +kernel
theorem d_X11_ask_4 : decode (mC M_X11_ask) 4 = .ok (.iload_n 1, 1) := by decide +kernel
theorem d_X11_ask_5 : decode (mC M_X11_ask) 5 = .ok (.invokevirtual 134, 3) := by decide +kernel
theorem d_X11_ask_8 : decode (mC M_X11_ask) 8 = .ok (.astore_n 3, 1) := by decide +kernel
theorem d_X11_ask_9 : decode (mC M_X11_ask) 9 = .ok (.aload_n 3, 1) := by decide +kernel
theorem d_X11_ask_10 : decode (mC M_X11_ask) 10 = .ok (.ifnonnull 7, 3) := by decide +kernel
theorem d_X11_ask_13 : decode (mC M_X11_ask) 13 = .ok (.iconst (-1), 1) := by decide +kernel
theorem d_X11_ask_14 : decode (mC M_X11_ask) 14 = .ok (.goto 8, 3) := by decide +kernel
theorem d_X11_ask_17 : decode (mC M_X11_ask) 17 = .ok (.aload_n 3, 1) := by decide +kernel
theorem d_X11_ask_18 : decode (mC M_X11_ask) 18 = .ok (.iload_n 2, 1) := by decide +kernel
theorem d_X11_ask_19 : decode (mC M_X11_ask) 19 = .ok (.invokevirtual 233, 3) := by decide +kernel
theorem d_X11_ask_22 : decode (mC M_X11_ask) 22 = .ok (.ireturn, 1) := by decide +kernel
theorem d_X11_asks_0 : decode (mC M_X11_asks) 0 = .ok (.aload_n 0, 1) := by decide +kernel
theorem d_X11_asks_1 : decode (mC M_X11_asks) 1 = .ok (.getfield 39, 3) := by decide +kernel
theorem d_X11_asks_4 : decode (mC M_X11_asks) 4 = .ok (.invokevirtual 111, 3) := by decide +kernel
theorem d_X11_asks_7 : decode (mC M_X11_asks) 7 = .ok (.astore_n 1, 1) := by decide +kernel
theorem d_X11_asks_8 : decode (mC M_X11_asks) 8 = .ok (.aload_n 0, 1) := by decide +kernel
theorem d_X11_asks_9 : decode (mC M_X11_asks) 9 = .ok (.getfield 21, 3) := by decide +kernel
theorem d_X11_asks_12 : decode (mC M_X11_asks) 12 = .ok (.iconst 0, 1) := by decide +kernel
theorem d_X11_asks_13 : decode (mC M_X11_asks) 13 = .ok (.putfield 105, 3) := by decide +kernel
theorem d_X11_asks_16 : decode (mC M_X11_asks) 16 = .ok (.aload_n 1, 1) := by decide +kernel
theorem d_X11_asks_17 : decode (mC M_X11_asks) 17 = .ok (.ifnonnull 14, 3) := by decide +kernel
theorem d_X11_asks_20 : decode (mC M_X11_asks) 20 = .ok (.bipush (-2), 2) := by decide +kernel
theorem d_X11_asks_22 : decode (mC M_X11_asks) 22 = .ok (.aload_n 0, 1) := by decide +kernel
theorem d_X11_asks_23 : decode (mC M_X11_asks) 23 = .ok (.getfield 30, 3) := by decide +kernel
theorem d_X11_asks_26 : decode (mC M_X11_asks) 26 = .ok (.getfield 115, 3) := by decide +kernel
theorem d_X11_asks_29 : decode (mC M_X11_asks) 29 = .ok (.isub, 1) := by decide +kernel
theorem d_X11_asks_30 : decode (mC M_X11_asks) 30 = .ok (.ireturn, 1) := by decide +kernel
theorem d_X11_asks_31 : decode (mC M_X11_asks) 31 = .ok (.aload_n 0, 1) := by decide +kernel
theorem d_X11_asks_32 : decode (mC M_X11_asks) 32 = .ok (.getfield 58, 3) := by decide +kernel
theorem d_X11_asks_35 : decode (mC M_X11_asks) 35 = .ok (.aload_n 1, 1) := by decide +kernel
theorem d_X11_asks_36 : decode (mC M_X11_asks) 36 = .ok (.invokevirtual 118, 3) := by decide +kernel
theorem d_X11_asks_39 : decode (mC M_X11_asks) 39 = .ok (.aload_n 1, 1) := by decide +kernel
theorem d_X11_asks_40 : decode (mC M_X11_asks) 40 = .ok (.invokevirtual 80, 3) := by decide +kernel
theorem d_X11_asks_43 : decode (mC M_X11_asks) 43 = .ok (.ireturn, 1) := by decide +kernel
theorem d_X11_away_0 : decode (mC M_X11_away) 0 = .ok (.aload_n 0, 1) := by decide +kernel
theorem d_X11_away_1 : decode (mC M_X11_away) 1 = .ok (.iload_n 1, 1) := by decide +kernel
theorem d_X11_away_2 : decode (mC M_X11_away) 2 = .ok (.invokevirtual 93, 3) := by decide +kernel
theorem d_X11_away_5 : decode (mC M_X11_away) 5 = .ok (.astore_n 3, 1) := by decide +kernel
theorem d_X11_away_6 : decode (mC M_X11_away) 6 = .ok (.aload_n 3, 1) := by decide +kernel
theorem d_X11_away_7 : decode (mC M_X11_away) 7 = .ok (.ifnull 10, 3) := by decide +kernel
theorem d_X11_away_10 : decode (mC M_X11_away) 10 = .ok (.aload_n 3, 1) := by decide +kernel
theorem d_X11_away_11 : decode (mC M_X11_away) 11 = .ok (.getfield 97, 3) := by decide +kernel
theorem d_X11_away_14 : decode (mC M_X11_away) 14 = .ok (.ifnull 5, 3) := by decide +kernel
theorem d_X11_away_17 : decode (mC M_X11_away) 17 = .ok (.iconst 0, 1) := by decide +kernel
theorem d_X11_away_18 : decode (mC M_X11_away) 18 = .ok (.ireturn, 1) := by decide +kernel
theorem d_X11_away_19 : decode (mC M_X11_away) 19 = .ok (.aload_n 3, 1) := by decide +kernel
theorem d_X11_away_20 : decode (mC M_X11_away) 20 = .ok (.iload_n 2, 1) := by decide +kernel
theorem d_X11_away_21 : decode (mC M_X11_away) 21 = .ok (.putfield 101, 3) := by decide +kernel
theorem d_X11_away_24 : decode (mC M_X11_away) 24 = .ok (.iconst 1, 1) := by decide +kernel
theorem d_X11_away_25 : decode (mC M_X11_away) 25 = .ok (.ireturn, 1) := by decide +kernel
theorem d_X11_buses_0 : decode (mC M_X11_buses) 0 = .ok (.iload_n 1, 1) := by decide +kernel
theorem d_X11_buses_1 : decode (mC M_X11_buses) 1 = .ok (.iconst 0, 1) := by decide +kernel
theorem d_X11_buses_2 : decode (mC M_X11_buses) 2 = .ok (.iconst 3, 1) := by decide +kernel
theorem d_X11_buses_3 : decode (mC M_X11_buses) 3 = .ok (.invokestatic 75, 3) := by decide +kernel
theorem d_X11_buses_6 : decode (mC M_X11_buses) 6 = .ok (.ifCond .eq 13, 3) := by decide +kernel
theorem d_X11_buses_9 : decode (mC M_X11_buses) 9 = .ok (.iload_n 2, 1) := by decide +kernel
theorem d_X11_buses_10 : decode (mC M_X11_buses) 10 = .ok (.iconst 1, 1) := by decide +kernel
theorem d_X11_buses_11 : decode (mC M_X11_buses) 11 = .ok (.bipush 100, 2) := by decide +kernel
theorem d_X11_buses_13 : decode (mC M_X11_buses) 13 = .ok (.invokestatic 75, 3) := by decide +kernel
theorem d_X11_buses_16 : decode (mC M_X11_buses) 16 = .ok (.ifCond .ne 5, 3) := by decide +kernel
theorem d_X11_buses_19 : decode (mC M_X11_buses) 19 = .ok (.iconst (-1), 1) := by decide +kernel
theorem d_X11_buses_20 : decode (mC M_X11_buses) 20 = .ok (.ireturn, 1) := by decide +kernel
theorem d_X11_buses_21 : decode (mC M_X11_buses) 21 = .ok (.iconst 0, 1) := by decide +kernel
theorem d_X11_buses_22 : decode (mC M_X11_buses) 22 = .ok (.istore_n 3, 1) := by decide +kernel
theorem d_X11_buses_23 : decode (mC M_X11_buses) 23 = .ok (.iconst 0, 1) := by decide +kernel
theorem d_X11_buses_24 : decode (mC M_X11_buses) 24 = .ok (.istore 4, 2) := by decide +kernel
theorem d_X11_buses_26 : decode (mC M_X11_buses) 26 = .ok (.iload 4, 2) := by decide +kernel
theorem d_X11_buses_28 : decode (mC M_X11_buses) 28 = .ok (.aload_n 0, 1) := by decide +kernel
theorem d_X11_buses_29 : decode (mC M_X11_buses) 29 = .ok (.getfield 10, 3) := by decide +kernel
theorem d_X11_buses_32 : decode (mC M_X11_buses) 32 = .ok (.invokevirtual 80, 3) := by decide +kernel
theorem d_X11_buses_35 : decode (mC M_X11_buses) 35 = .ok (.if_icmp .ge 43, 3) := by decide +kernel
theorem d_X11_buses_38 : decode (mC M_X11_buses) 38 = .ok (.aload_n 0, 1) := by decide +kernel
theorem d_X11_buses_39 : decode (mC M_X11_buses) 39 = .ok (.getfield 10, 3) := by decide +kernel
theorem d_X11_buses_42 : decode (mC M_X11_buses) 42 = .ok (.iload 4, 2) := by decide +kernel
theorem d_X11_buses_44 : decode (mC M_X11_buses) 44 = .ok (.invokevirtual 218, 3) := by decide +kernel
theorem d_X11_buses_47 : decode (mC M_X11_buses) 47 = .ok (.checkcast 84, 3) := by decide +kernel
theorem d_X11_buses_50 : decode (mC M_X11_buses) 50 = .ok (.astore 5, 2) := by decide +kernel
theorem d_X11_buses_52 : decode (mC M_X11_buses) 52 = .ok (.aload 5, 2) := by decide +kernel
theorem d_X11_buses_54 : decode (mC M_X11_buses) 54 = .ok (.getfield 97, 3) := by decide +kernel
theorem d_X11_buses_57 : decode (mC M_X11_buses) 57 = .ok (.ifnull 15, 3) := by decide +kernel
theorem d_X11_buses_60 : decode (mC M_X11_buses) 60 = .ok (.aload 5, 2) := by decide +kernel
theorem d_X11_buses_62 : decode (mC M_X11_buses) 62 = .ok (.getfield 230, 3) := by decide +kernel
theorem d_X11_buses_65 : decode (mC M_X11_buses) 65 = .ok (.iload_n 1, 1) := by decide +kernel
theorem d_X11_buses_66 : decode (mC M_X11_buses) 66 = .ok (.if_icmp .ne 6, 3) := by decide +kernel
theorem d_X11_buses_69 : decode (mC M_X11_buses) 69 = .ok (.iinc 3 1, 3) := by decide +kernel
theorem d_X11_buses_72 : decode (mC M_X11_buses) 72 = .ok (.iinc 4 1, 3) := by decide +kernel
theorem d_X11_buses_75 : decode (mC M_X11_buses) 75 = .ok (.goto (-49), 3) := by decide +kernel
theorem d_X11_buses_78 : decode (mC M_X11_buses) 78 = .ok (.iload_n 3, 1) := by decide +kernel
theorem d_X11_buses_79 : decode (mC M_X11_buses) 79 = .ok (.iload_n 2, 1) := by decide +kernel
theorem d_X11_buses_80 : decode (mC M_X11_buses) 80 = .ok (.iadd, 1) := by decide +kernel
theorem d_X11_buses_81 : decode (mC M_X11_buses) 81 = .ok (.iconst 1, 1) := by decide +kernel
theorem d_X11_buses_82 : decode (mC M_X11_buses) 82 = .ok (.isub, 1) := by decide +kernel
theorem d_X11_buses_83 : decode (mC M_X11_buses) 83 = .ok (.iload_n 2, 1) := by decide +kernel
theorem d_X11_buses_84 : decode (mC M_X11_buses) 84 = .ok (.idiv, 1) := by decide +kernel
theorem d_X11_buses_85 : decode (mC M_X11_buses) 85 = .ok (.ireturn, 1) := by decide +kernel
theorem d_X11_called_0 : decode (mC M_X11_called) 0 = .ok (.aload_n 0, 1) := by decide +kernel
theorem d_X11_called_1 : decode (mC M_X11_called) 1 = .ok (.iload_n 1, 1) := by decide +kernel
theorem d_X11_called_2 : decode (mC M_X11_called) 2 = .ok (.invokevirtual 93, 3) := by decide +kernel
theorem d_X11_called_5 : decode (mC M_X11_called) 5 = .ok (.astore_n 2, 1) := by decide +kernel
theorem d_X11_called_6 : decode (mC M_X11_called) 6 = .ok (.aload_n 2, 1) := by decide +kernel
theorem d_X11_called_7 : decode (mC M_X11_called) 7 = .ok (.ifnull 10, 3) := by decide +kernel
theorem d_X11_called_10 : decode (mC M_X11_called) 10 = .ok (.aload_n 2, 1) := by decide +kernel
theorem d_X11_called_11 : decode (mC M_X11_called) 11 = .ok (.getfield 97, 3) := by decide +kernel
theorem d_X11_called_14 : decode (mC M_X11_called) 14 = .ok (.ifnonnull 7, 3) := by decide +kernel
theorem d_X11_called_17 : decode (mC M_X11_called) 17 = .ok (.iconst (-1), 1) := by decide +kernel
theorem d_X11_called_18 : decode (mC M_X11_called) 18 = .ok (.goto 10, 3) := by decide +kernel
theorem d_X11_called_21 : decode (mC M_X11_called) 21 = .ok (.aload_n 2, 1) := by decide +kernel
theorem d_X11_called_22 : decode (mC M_X11_called) 22 = .ok (.getfield 97, 3) := by decide +kernel
theorem d_X11_called_25 : decode (mC M_X11_called) 25 = .ok (.getfield 161, 3) := by decide +kernel
theorem d_X11_called_28 : decode (mC M_X11_called) 28 = .ok (.ireturn, 1) := by decide +kernel
theorem d_X11_count_0 : decode (mC M_X11_count) 0 = .ok (.iload_n 1, 1) := by decide +kernel
theorem d_X11_count_1 : decode (mC M_X11_count) 1 = .ok (.tableswitch 111 0 7 #[47, 55, 66, 74, 82, 87, 95, 103], 47) := by decide +kernel
theorem d_X11_count_48 : decode (mC M_X11_count) 48 = .ok (.aload_n 0, 1) := by decide +kernel
theorem d_X11_count_49 : decode (mC M_X11_count) 49 = .ok (.getfield 10, 3) := by decide +kernel
theorem d_X11_count_52 : decode (mC M_X11_count) 52 = .ok (.invokevirtual 80, 3) := by decide +kernel
theorem d_X11_count_55 : decode (mC M_X11_count) 55 = .ok (.ireturn, 1) := by decide +kernel
theorem d_X11_count_56 : decode (mC M_X11_count) 56 = .ok (.aload_n 0, 1) := by decide +kernel
theorem d_X11_count_57 : decode (mC M_X11_count) 57 = .ok (.getfield 58, 3) := by decide +kernel
theorem d_X11_count_60 : decode (mC M_X11_count) 60 = .ok (.getfield 150, 3) := by decide +kernel
theorem d_X11_count_63 : decode (mC M_X11_count) 63 = .ok (.invokevirtual 80, 3) := by decide +kernel
theorem d_X11_count_66 : decode (mC M_X11_count) 66 = .ok (.ireturn, 1) := by decide +kernel
theorem d_X11_count_67 : decode (mC M_X11_count) 67 = .ok (.aload_n 0, 1) := by decide +kernel
theorem d_X11_count_68 : decode (mC M_X11_count) 68 = .ok (.getfield 43, 3) := by decide +kernel
theorem d_X11_count_71 : decode (mC M_X11_count) 71 = .ok (.invokevirtual 80, 3) := by decide +kernel
theorem d_X11_count_74 : decode (mC M_X11_count) 74 = .ok (.ireturn, 1) := by decide +kernel
theorem d_X11_count_75 : decode (mC M_X11_count) 75 = .ok (.aload_n 0, 1) := by decide +kernel
theorem d_X11_count_76 : decode (mC M_X11_count) 76 = .ok (.getfield 49, 3) := by decide +kernel
theorem d_X11_count_79 : decode (mC M_X11_count) 79 = .ok (.invokevirtual 206, 3) := by decide +kernel
theorem d_X11_count_82 : decode (mC M_X11_count) 82 = .ok (.ireturn, 1) := by decide +kernel
theorem d_X11_count_83 : decode (mC M_X11_count) 83 = .ok (.aload_n 0, 1) := by decide +kernel
theorem d_X11_count_84 : decode (mC M_X11_count) 84 = .ok (.getfield 143, 3) := by decide +kernel
theorem d_X11_count_87 : decode (mC M_X11_count) 87 = .ok (.ireturn, 1) := by decide +kernel
theorem d_X11_count_88 : decode (mC M_X11_count) 88 = .ok (.aload_n 0, 1) := by decide +kernel
theorem d_X11_count_89 : decode (mC M_X11_count) 89 = .ok (.getfield 58, 3) := by decide +kernel
theorem d_X11_count_92 : decode (mC M_X11_count) 92 = .ok (.invokevirtual 160, 3) := by decide +kernel
theorem d_X11_count_95 : decode (mC M_X11_count) 95 = .ok (.ireturn, 1) := by decide +kernel
theorem d_X11_count_96 : decode (mC M_X11_count) 96 = .ok (.aload_n 0, 1) := by decide +kernel
theorem d_X11_count_97 : decode (mC M_X11_count) 97 = .ok (.getfield 21, 3) := by decide +kernel
theorem d_X11_count_100 : decode (mC M_X11_count) 100 = .ok (.getfield 105, 3) := by decide +kernel
theorem d_X11_count_103 : decode (mC M_X11_count) 103 = .ok (.ireturn, 1) := by decide +kernel
theorem d_X11_count_104 : decode (mC M_X11_count) 104 = .ok (.aload_n 0, 1) := by decide +kernel
theorem d_X11_count_105 : decode (mC M_X11_count) 105 = .ok (.getfield 69, 3) := by decide +kernel
theorem d_X11_count_108 : decode (mC M_X11_count) 108 = .ok (.invokevirtual 80, 3) := by decide +kernel
theorem d_X11_count_111 : decode (mC M_X11_count) 111 = .ok (.ireturn, 1) := by decide +kernel
theorem d_X11_count_112 : decode (mC M_X11_count) 112 = .ok (.iconst (-1), 1) := by decide +kernel
theorem d_X11_count_113 : decode (mC M_X11_count) 113 = .ok (.ireturn, 1) := by decide +kernel
theorem d_X11_end_0 : decode (mC M_X11_end) 0 = .ok (.iload_n 1, 1) := by decide +kernel
theorem d_X11_end_1 : decode (mC M_X11_end) 1 = .ok (.iconst 0, 1) := by decide +kernel
theorem d_X11_end_2 : decode (mC M_X11_end) 2 = .ok (.aload_n 0, 1) := by decide +kernel
theorem d_X11_end_3 : decode (mC M_X11_end) 3 = .ok (.getfield 21, 3) := by decide +kernel
theorem d_X11_end_6 : decode (mC M_X11_end) 6 = .ok (.getfield 105, 3) := by decide +kernel
theorem d_X11_end_9 : decode (mC M_X11_end) 9 = .ok (.invokestatic 75, 3) := by decide +kernel
theorem d_X11_end_12 : decode (mC M_X11_end) 12 = .ok (.ifCond .ne 5, 3) := by decide +kernel
theorem d_X11_end_15 : decode (mC M_X11_end) 15 = .ok (.iconst (-1), 1) := by decide +kernel
theorem d_X11_end_16 : decode (mC M_X11_end) 16 = .ok (.ireturn, 1) := by decide +kernel
theorem d_X11_end_17 : decode (mC M_X11_end) 17 = .ok (.aload_n 0, 1) := by decide +kernel
theorem d_X11_end_18 : decode (mC M_X11_end) 18 = .ok (.getfield 21, 3) := by decide +kernel
theorem d_X11_end_21 : decode (mC M_X11_end) 21 = .ok (.iload_n 1, 1) := by decide +kernel
theorem d_X11_end_22 : decode (mC M_X11_end) 22 = .ok (.putfield 105, 3) := by decide +kernel
theorem d_X11_end_25 : decode (mC M_X11_end) 25 = .ok (.iload_n 1, 1) := by decide +kernel
theorem d_X11_end_26 : decode (mC M_X11_end) 26 = .ok (.ireturn, 1) := by decide +kernel
theorem d_X11_feed_0 : decode (mC M_X11_feed) 0 = .ok (.aload_n 0, 1) := by decide +kernel
theorem d_X11_feed_1 : decode (mC M_X11_feed) 1 = .ok (.getfield 21, 3) := by decide +kernel
theorem d_X11_feed_4 : decode (mC M_X11_feed) 4 = .ok (.getfield 105, 3) := by decide +kernel
theorem d_X11_feed_7 : decode (mC M_X11_feed) 7 = .ok (.bipush 20, 2) := by decide +kernel
theorem d_X11_feed_9 : decode (mC M_X11_feed) 9 = .ok (.iadd, 1) := by decide +kernel
theorem d_X11_feed_10 : decode (mC M_X11_feed) 10 = .ok (.sipush 1000, 3) := by decide +kernel
theorem d_X11_feed_13 : decode (mC M_X11_feed) 13 = .ok (.if_icmp .le 5, 3) := by decide +kernel
theorem d_X11_feed_16 : decode (mC M_X11_feed) 16 = .ok (.iconst (-1), 1) := by decide +kernel
theorem d_X11_feed_17 : decode (mC M_X11_feed) 17 = .ok (.ireturn, 1) := by decide +kernel
theorem d_X11_feed_18 : decode (mC M_X11_feed) 18 = .ok (.aload_n 0, 1) := by decide +kernel
theorem d_X11_feed_19 : decode (mC M_X11_feed) 19 = .ok (.iload_n 1, 1) := by decide +kernel
theorem d_X11_feed_20 : decode (mC M_X11_feed) 20 = .ok (.invokevirtual 108, 3) := by decide +kernel
theorem d_X11_feed_23 : decode (mC M_X11_feed) 23 = .ok (.aload_n 0, 1) := by decide +kernel
theorem d_X11_feed_24 : decode (mC M_X11_feed) 24 = .ok (.iload_n 2, 1) := by decide +kernel
theorem d_X11_feed_25 : decode (mC M_X11_feed) 25 = .ok (.invokevirtual 108, 3) := by decide +kernel
theorem d_X11_feed_28 : decode (mC M_X11_feed) 28 = .ok (.aload_n 0, 1) := by decide +kernel
theorem d_X11_feed_29 : decode (mC M_X11_feed) 29 = .ok (.iload_n 3, 1) := by decide +kernel
theorem d_X11_feed_30 : decode (mC M_X11_feed) 30 = .ok (.invokevirtual 108, 3) := by decide +kernel
theorem d_X11_feed_33 : decode (mC M_X11_feed) 33 = .ok (.aload_n 0, 1) := by decide +kernel
theorem d_X11_feed_34 : decode (mC M_X11_feed) 34 = .ok (.iload 4, 2) := by decide +kernel
theorem d_X11_feed_36 : decode (mC M_X11_feed) 36 = .ok (.invokevirtual 108, 3) := by decide +kernel
theorem d_X11_feed_39 : decode (mC M_X11_feed) 39 = .ok (.aload_n 0, 1) := by decide +kernel
theorem d_X11_feed_40 : decode (mC M_X11_feed) 40 = .ok (.iload 5, 2) := by decide +kernel
theorem d_X11_feed_42 : decode (mC M_X11_feed) 42 = .ok (.invokevirtual 108, 3) := by decide +kernel
theorem d_X11_feed_45 : decode (mC M_X11_feed) 45 = .ok (.aload_n 0, 1) := by decide +kernel
theorem d_X11_feed_46 : decode (mC M_X11_feed) 46 = .ok (.getfield 21, 3) := by decide +kernel
theorem d_X11_feed_49 : decode (mC M_X11_feed) 49 = .ok (.getfield 105, 3) := by decide +kernel
theorem d_X11_feed_52 : decode (mC M_X11_feed) 52 = .ok (.ireturn, 1) := by decide +kernel
theorem d_X11_find_0 : decode (mC M_X11_find) 0 = .ok (.iload_n 1, 1) := by decide +kernel
theorem d_X11_find_1 : decode (mC M_X11_find) 1 = .ok (.ifCond .lt 28, 3) := by decide +kernel
theorem d_X11_find_4 : decode (mC M_X11_find) 4 = .ok (.iload_n 1, 1) := by decide +kernel
theorem d_X11_find_5 : decode (mC M_X11_find) 5 = .ok (.aload_n 0, 1) := by decide +kernel
theorem d_X11_find_6 : decode (mC M_X11_find) 6 = .ok (.getfield 10, 3) := by decide +kernel
theorem d_X11_find_9 : decode (mC M_X11_find) 9 = .ok (.invokevirtual 80, 3) := by decide +kernel
theorem d_X11_find_12 : decode (mC M_X11_find) 12 = .ok (.if_icmp .ge 17, 3) := by decide +kernel
theorem d_X11_find_15 : decode (mC M_X11_find) 15 = .ok (.aload_n 0, 1) := by decide +kernel
theorem d_X11_find_16 : decode (mC M_X11_find) 16 = .ok (.getfield 10, 3) := by decide +kernel
theorem d_X11_find_19 : decode (mC M_X11_find) 19 = .ok (.iload_n 1, 1) := by decide +kernel
theorem d_X11_find_20 : decode (mC M_X11_find) 20 = .ok (.invokevirtual 218, 3) := by decide +kernel
theorem d_X11_find_23 : decode (mC M_X11_find) 23 = .ok (.checkcast 84, 3) := by decide +kernel
theorem d_X11_find_26 : decode (mC M_X11_find) 26 = .ok (.goto 4, 3) := by decide +kernel
theorem d_X11_find_29 : decode (mC M_X11_find) 29 = .ok (.aconst_null, 1) := by decide +kernel
theorem d_X11_find_30 : decode (mC M_X11_find) 30 = .ok (.areturn, 1) := by decide +kernel
theorem d_X11_findRecord_0 : decode (mC M_X11_findRecord) 0 = .ok (.iconst 0, 1) := by decide +kernel
theorem d_X11_findRecord_1 : decode (mC M_X11_findRecord) 1 = .ok (.istore_n 3, 1) := by decide +kernel
theorem d_X11_findRecord_2 : decode (mC M_X11_findRecord) 2 = .ok (.iload_n 3, 1) := by decide +kernel
theorem d_X11_findRecord_3 : decode (mC M_X11_findRecord) 3 = .ok (.aload_n 0, 1) := by decide +kernel
theorem d_X11_findRecord_4 : decode (mC M_X11_findRecord) 4 = .ok (.getfield 69, 3) := by decide +kernel
theorem d_X11_findRecord_7 : decode (mC M_X11_findRecord) 7 = .ok (.invokevirtual 80, 3) := by decide +kernel
theorem d_X11_findRecord_10 : decode (mC M_X11_findRecord) 10 = .ok (.if_icmp .ge 46, 3) := by decide +kernel
theorem d_X11_findRecord_13 : decode (mC M_X11_findRecord) 13 = .ok (.aload_n 0, 1) := by decide +kernel
theorem d_X11_findRecord_14 : decode (mC M_X11_findRecord) 14 = .ok (.getfield 69, 3) := by decide +kernel
theorem d_X11_findRecord_17 : decode (mC M_X11_findRecord) 17 = .ok (.iload_n 3, 1) := by decide +kernel
theorem d_X11_findRecord_18 : decode (mC M_X11_findRecord) 18 = .ok (.invokevirtual 218, 3) := by decide +kernel
theorem d_X11_findRecord_21 : decode (mC M_X11_findRecord) 21 = .ok (.checkcast 192, 3) := by decide +kernel
theorem d_X11_findRecord_24 : decode (mC M_X11_findRecord) 24 = .ok (.astore 4, 2) := by decide +kernel
theorem d_X11_findRecord_26 : decode (mC M_X11_findRecord) 26 = .ok (.aload 4, 2) := by decide +kernel
theorem d_X11_findRecord_28 : decode (mC M_X11_findRecord) 28 = .ok (.getfield 235, 3) := by decide +kernel
theorem d_X11_findRecord_31 : decode (mC M_X11_findRecord) 31 = .ok (.getfield 239, 3) := by decide +kernel
theorem d_X11_findRecord_34 : decode (mC M_X11_findRecord) 34 = .ok (.iload_n 1, 1) := by decide +kernel
theorem d_X11_findRecord_35 : decode (mC M_X11_findRecord) 35 = .ok (.if_icmp .ne 15, 3) := by decide +kernel
theorem d_X11_findRecord_38 : decode (mC M_X11_findRecord) 38 = .ok (.aload 4, 2) := by decide +kernel
theorem d_X11_findRecord_40 : decode (mC M_X11_findRecord) 40 = .ok (.getfield 240, 3) := by decide +kernel
theorem d_X11_findRecord_43 : decode (mC M_X11_findRecord) 43 = .ok (.iload_n 2, 1) := by decide +kernel
theorem d_X11_findRecord_44 : decode (mC M_X11_findRecord) 44 = .ok (.if_icmp .ne 6, 3) := by decide +kernel
theorem d_X11_findRecord_47 : decode (mC M_X11_findRecord) 47 = .ok (.aload 4, 2) := by decide +kernel
theorem d_X11_findRecord_49 : decode (mC M_X11_findRecord) 49 = .ok (.areturn, 1) := by decide +kernel
theorem d_X11_findRecord_50 : decode (mC M_X11_findRecord) 50 = .ok (.iinc 3 1, 3) := by decide +kernel
theorem d_X11_findRecord_53 : decode (mC M_X11_findRecord) 53 = .ok (.goto (-51), 3) := by decide +kernel
theorem d_X11_findRecord_56 : decode (mC M_X11_findRecord) 56 = .ok (.aconst_null, 1) := by decide +kernel
theorem d_X11_findRecord_57 : decode (mC M_X11_findRecord) 57 = .ok (.areturn, 1) := by decide +kernel
theorem d_X11_fits_0 : decode (mC M_X11_fits) 0 = .ok (.aload_n 0, 1) := by decide +kernel
theorem d_X11_fits_1 : decode (mC M_X11_fits) 1 = .ok (.iload_n 1, 1) := by decide +kernel
theorem d_X11_fits_2 : decode (mC M_X11_fits) 2 = .ok (.invokevirtual 93, 3) := by decide +kernel
theorem d_X11_fits_5 : decode (mC M_X11_fits) 5 = .ok (.astore 4, 2) := by decide +kernel
theorem d_X11_fits_7 : decode (mC M_X11_fits) 7 = .ok (.aload_n 0, 1) := by decide +kernel
theorem d_X11_fits_8 : decode (mC M_X11_fits) 8 = .ok (.getfield 58, 3) := by decide +kernel
theorem d_X11_fits_11 : decode (mC M_X11_fits) 11 = .ok (.iload_n 2, 1) := by decide +kernel
theorem d_X11_fits_12 : decode (mC M_X11_fits) 12 = .ok (.invokevirtual 134, 3) := by decide +kernel
theorem d_X11_fits_15 : decode (mC M_X11_fits) 15 = .ok (.astore 5, 2) := by decide +kernel
theorem d_X11_fits_17 : decode (mC M_X11_fits) 17 = .ok (.aload 4, 2) := by decide +kernel
theorem d_X11_fits_19 : decode (mC M_X11_fits) 19 = .ok (.ifnull 17, 3) := by decide +kernel
theorem d_X11_fits_22 : decode (mC M_X11_fits) 22 = .ok (.aload 5, 2) := by decide +kernel
theorem d_X11_fits_24 : decode (mC M_X11_fits) 24 = .ok (.ifnull 12, 3) := by decide +kernel
theorem d_X11_fits_27 : decode (mC M_X11_fits) 27 = .ok (.iload_n 3, 1) := by decide +kernel
theorem d_X11_fits_28 : decode (mC M_X11_fits) 28 = .ok (.iconst 0, 1) := by decide +kernel
theorem d_X11_fits_29 : decode (mC M_X11_fits) 29 = .ok (.iconst 1, 1) := by decide +kernel
theorem d_X11_fits_30 : decode (mC M_X11_fits) 30 = .ok (.invokestatic 75, 3) := by decide +kernel
theorem d_X11_fits_33 : decode (mC M_X11_fits) 33 = .ok (.ifCond .ne 5, 3) := by decide +kernel
theorem d_X11_fits_36 : decode (mC M_X11_fits) 36 = .ok (.iconst (-1), 1) := by decide +kernel
theorem d_X11_fits_37 : decode (mC M_X11_fits) 37 = .ok (.ireturn, 1) := by decide +kernel
theorem d_X11_fits_38 : decode (mC M_X11_fits) 38 = .ok (.iload_n 3, 1) := by decide +kernel
theorem d_X11_fits_39 : decode (mC M_X11_fits) 39 = .ok (.ifCond .ne 13, 3) := by decide +kernel
theorem d_X11_fits_42 : decode (mC M_X11_fits) 42 = .ok (.aload 5, 2) := by decide +kernel
theorem d_X11_fits_44 : decode (mC M_X11_fits) 44 = .ok (.aload 4, 2) := by decide +kernel
theorem d_X11_fits_46 : decode (mC M_X11_fits) 46 = .ok (.invokevirtual 137, 3) := by decide +kernel
theorem d_X11_fits_49 : decode (mC M_X11_fits) 49 = .ok (.goto 14, 3) := by decide +kernel
theorem d_X11_fits_52 : decode (mC M_X11_fits) 52 = .ok (.aload 5, 2) := by decide +kernel
theorem d_X11_fits_54 : decode (mC M_X11_fits) 54 = .ok (.aload 4, 2) := by decide +kernel
theorem d_X11_fits_56 : decode (mC M_X11_fits) 56 = .ok (.aload_n 0, 1) := by decide +kernel
theorem d_X11_fits_57 : decode (mC M_X11_fits) 57 = .ok (.getfield 143, 3) := by decide +kernel
theorem d_X11_fits_60 : decode (mC M_X11_fits) 60 = .ok (.invokevirtual 146, 3) := by decide +kernel
theorem d_X11_fits_63 : decode (mC M_X11_fits) 63 = .ok (.istore 6, 2) := by decide +kernel
theorem d_X11_fits_65 : decode (mC M_X11_fits) 65 = .ok (.iload 6, 2) := by decide +kernel
theorem d_X11_fits_67 : decode (mC M_X11_fits) 67 = .ok (.ifCond .eq 7, 3) := by decide +kernel
theorem d_X11_fits_70 : decode (mC M_X11_fits) 70 = .ok (.iconst 1, 1) := by decide +kernel
theorem d_X11_fits_71 : decode (mC M_X11_fits) 71 = .ok (.goto 4, 3) := by decide +kernel
theorem d_X11_fits_74 : decode (mC M_X11_fits) 74 = .ok (.iconst 0, 1) := by decide +kernel
theorem d_X11_fits_75 : decode (mC M_X11_fits) 75 = .ok (.ireturn, 1) := by decide +kernel
theorem d_X11_init_0 : decode (mC M_X11_init) 0 = .ok (.aload_n 0, 1) := by decide +kernel
theorem d_X11_init_1 : decode (mC M_X11_init) 1 = .ok (.invokespecial 1, 3) := by decide +kernel
theorem d_X11_init_4 : decode (mC M_X11_init) 4 = .ok (.aload_n 0, 1) := by decide +kernel
theorem d_X11_init_5 : decode (mC M_X11_init) 5 = .ok (.new 7, 3) := by decide +kernel
theorem d_X11_init_8 : decode (mC M_X11_init) 8 = .ok (.dup, 1) := by decide +kernel
theorem d_X11_init_9 : decode (mC M_X11_init) 9 = .ok (.invokespecial 9, 3) := by decide +kernel
theorem d_X11_init_12 : decode (mC M_X11_init) 12 = .ok (.putfield 10, 3) := by decide +kernel
theorem d_X11_init_15 : decode (mC M_X11_init) 15 = .ok (.aload_n 0, 1) := by decide +kernel
theorem d_X11_init_16 : decode (mC M_X11_init) 16 = .ok (.new 16, 3) := by decide +kernel
theorem d_X11_init_19 : decode (mC M_X11_init) 19 = .ok (.dup, 1) := by decide +kernel
theorem d_X11_init_20 : decode (mC M_X11_init) 20 = .ok (.sipush 1000, 3) := by decide +kernel
theorem d_X11_init_23 : decode (mC M_X11_init) 23 = .ok (.invokespecial 18, 3) := by decide +kernel
theorem d_X11_init_26 : decode (mC M_X11_init) 26 = .ok (.putfield 21, 3) := by decide +kernel
theorem d_X11_init_29 : decode (mC M_X11_init) 29 = .ok (.aload_n 0, 1) := by decide +kernel
theorem d_X11_init_30 : decode (mC M_X11_init) 30 = .ok (.new 25, 3) := by decide +kernel
theorem d_X11_init_33 : decode (mC M_X11_init) 33 = .ok (.dup, 1) := by decide +kernel
theorem d_X11_init_34 : decode (mC M_X11_init) 34 = .ok (.aload_n 0, 1) := by decide +kernel
theorem d_X11_init_35 : decode (mC M_X11_init) 35 = .ok (.getfield 21, 3) := by decide +kernel
theorem d_X11_init_38 : decode (mC M_X11_init) 38 = .ok (.invokespecial 27, 3) := by decide +kernel
theorem d_X11_init_41 : decode (mC M_X11_init) 41 = .ok (.putfield 30, 3) := by decide +kernel
theorem d_X11_init_44 : decode (mC M_X11_init) 44 = .ok (.aload_n 0, 1) := by decide +kernel
theorem d_X11_init_45 : decode (mC M_X11_init) 45 = .ok (.new 34, 3) := by decide +kernel
theorem d_X11_init_48 : decode (mC M_X11_init) 48 = .ok (.dup, 1) := by decide +kernel
theorem d_X11_init_49 : decode (mC M_X11_init) 49 = .ok (.aload_n 0, 1) := by decide +kernel
theorem d_X11_init_50 : decode (mC M_X11_init) 50 = .ok (.getfield 30, 3) := by decide +kernel
theorem d_X11_init_53 : decode (mC M_X11_init) 53 = .ok (.invokespecial 36, 3) := by decide +kernel
theorem d_X11_init_56 : decode (mC M_X11_init) 56 = .ok (.putfield 39, 3) := by decide +kernel
theorem d_X11_init_59 : decode (mC M_X11_init) 59 = .ok (.aload_n 0, 1) := by decide +kernel
theorem d_X11_init_60 : decode (mC M_X11_init) 60 = .ok (.new 7, 3) := by decide +kernel
theorem d_X11_init_63 : decode (mC M_X11_init) 63 = .ok (.dup, 1) := by decide +kernel
theorem d_X11_init_64 : decode (mC M_X11_init) 64 = .ok (.invokespecial 9, 3) := by decide +kernel
theorem d_X11_init_67 : decode (mC M_X11_init) 67 = .ok (.putfield 43, 3) := by decide +kernel
theorem d_X11_init_70 : decode (mC M_X11_init) 70 = .ok (.aload_n 0, 1) := by decide +kernel
theorem d_X11_init_71 : decode (mC M_X11_init) 71 = .ok (.new 46, 3) := by decide +kernel
theorem d_X11_init_74 : decode (mC M_X11_init) 74 = .ok (.dup, 1) := by decide +kernel
theorem d_X11_init_75 : decode (mC M_X11_init) 75 = .ok (.invokespecial 48, 3) := by decide +kernel
theorem d_X11_init_78 : decode (mC M_X11_init) 78 = .ok (.putfield 49, 3) := by decide +kernel
theorem d_X11_init_81 : decode (mC M_X11_init) 81 = .ok (.aload_n 0, 1) := by decide +kernel
theorem d_X11_init_82 : decode (mC M_X11_init) 82 = .ok (.new 53, 3) := by decide +kernel
theorem d_X11_init_85 : decode (mC M_X11_init) 85 = .ok (.dup, 1) := by decide +kernel
theorem d_X11_init_86 : decode (mC M_X11_init) 86 = .ok (.aload_n 0, 1) := by decide +kernel
theorem d_X11_init_87 : decode (mC M_X11_init) 87 = .ok (.getfield 10, 3) := by decide +kernel
theorem d_X11_init_90 : decode (mC M_X11_init) 90 = .ok (.invokespecial 55, 3) := by decide +kernel
theorem d_X11_init_93 : decode (mC M_X11_init) 93 = .ok (.putfield 58, 3) := by decide +kernel
theorem d_X11_init_96 : decode (mC M_X11_init) 96 = .ok (.aload_n 0, 1) := by decide +kernel
theorem d_X11_init_97 : decode (mC M_X11_init) 97 = .ok (.new 62, 3) := by decide +kernel
theorem d_X11_init_100 : decode (mC M_X11_init) 100 = .ok (.dup, 1) := by decide +kernel
theorem d_X11_init_101 : decode (mC M_X11_init) 101 = .ok (.invokespecial 64, 3) := by decide +kernel
theorem d_X11_init_104 : decode (mC M_X11_init) 104 = .ok (.putfield 65, 3) := by decide +kernel
theorem d_X11_init_107 : decode (mC M_X11_init) 107 = .ok (.aload_n 0, 1) := by decide +kernel
theorem d_X11_init_108 : decode (mC M_X11_init) 108 = .ok (.new 7, 3) := by decide +kernel
theorem d_X11_init_111 : decode (mC M_X11_init) 111 = .ok (.dup, 1) := by decide +kernel
theorem d_X11_init_112 : decode (mC M_X11_init) 112 = .ok (.invokespecial 9, 3) := by decide +kernel
theorem d_X11_init_115 : decode (mC M_X11_init) 115 = .ok (.putfield 69, 3) := by decide +kernel
theorem d_X11_init_118 : decode (mC M_X11_init) 118 = .ok (.aload_n 0, 1) := by decide +kernel
theorem d_X11_init_119 : decode (mC M_X11_init) 119 = .ok (.new 16, 3) := by decide +kernel
theorem d_X11_init_122 : decode (mC M_X11_init) 122 = .ok (.dup, 1) := by decide +kernel
theorem d_X11_init_123 : decode (mC M_X11_init) 123 = .ok (.bipush 40, 2) := by decide +kernel
theorem d_X11_init_125 : decode (mC M_X11_init) 125 = .ok (.invokespecial 18, 3) := by decide +kernel
theorem d_X11_init_128 : decode (mC M_X11_init) 128 = .ok (.putfield 72, 3) := by decide +kernel
theorem d_X11_init_131 : decode (mC M_X11_init) 131 = .ok (.return_, 1) := by decide +kernel
theorem d_X11_isScene_0 : decode (mC M_X11_isScene) 0 = .ok (.iload_n 0, 1) := by decide +kernel
theorem d_X11_isScene_1 : decode (mC M_X11_isScene) 1 = .ok (.iconst 0, 1) := by decide +kernel
theorem d_X11_isScene_2 : decode (mC M_X11_isScene) 2 = .ok (.bipush 19, 2) := by decide +kernel
theorem d_X11_isScene_4 : decode (mC M_X11_isScene) 4 = .ok (.invokestatic 75, 3) := by decide +kernel
theorem d_X11_isScene_7 : decode (mC M_X11_isScene) 7 = .ok (.ireturn, 1) := by decide +kernel
theorem d_X11_lacks_0 : decode (mC M_X11_lacks) 0 = .ok (.aload_n 0, 1) := by decide +kernel
theorem d_X11_lacks_1 : decode (mC M_X11_lacks) 1 = .ok (.getfield 72, 3) := by decide +kernel
theorem d_X11_lacks_4 : decode (mC M_X11_lacks) 4 = .ok (.iload_n 1, 1) := by decide +kernel
theorem d_X11_lacks_5 : decode (mC M_X11_lacks) 5 = .ok (.invokevirtual 173, 3) := by decide +kernel
theorem d_X11_lacks_8 : decode (mC M_X11_lacks) 8 = .ok (.ireturn, 1) := by decide +kernel
theorem d_X11_lay_0 : decode (mC M_X11_lay) 0 = .ok (.aload_n 0, 1) := by decide +kernel
theorem d_X11_lay_1 : decode (mC M_X11_lay) 1 = .ok (.getfield 58, 3) := by decide +kernel
theorem d_X11_lay_4 : decode (mC M_X11_lay) 4 = .ok (.getfield 150, 3) := by decide +kernel
theorem d_X11_lay_7 : decode (mC M_X11_lay) 7 = .ok (.invokevirtual 153, 3) := by decide +kernel
theorem d_X11_lay_10 : decode (mC M_X11_lay) 10 = .ok (.ifCond .eq 5, 3) := by decide +kernel
theorem d_X11_lay_13 : decode (mC M_X11_lay) 13 = .ok (.iconst (-1), 1) := by decide +kernel
theorem d_X11_lay_14 : decode (mC M_X11_lay) 14 = .ok (.ireturn, 1) := by decide +kernel
theorem d_X11_lay_15 : decode (mC M_X11_lay) 15 = .ok (.aload_n 0, 1) := by decide +kernel
theorem d_X11_lay_16 : decode (mC M_X11_lay) 16 = .ok (.getfield 58, 3) := by decide +kernel
theorem d_X11_lay_19 : decode (mC M_X11_lay) 19 = .ok (.aload_n 0, 1) := by decide +kernel
theorem d_X11_lay_20 : decode (mC M_X11_lay) 20 = .ok (.getfield 143, 3) := by decide +kernel
theorem d_X11_lay_23 : decode (mC M_X11_lay) 23 = .ok (.invokevirtual 157, 3) := by decide +kernel
theorem d_X11_lay_26 : decode (mC M_X11_lay) 26 = .ok (.aload_n 0, 1) := by decide +kernel
theorem d_X11_lay_27 : decode (mC M_X11_lay) 27 = .ok (.getfield 58, 3) := by decide +kernel
theorem d_X11_lay_30 : decode (mC M_X11_lay) 30 = .ok (.invokevirtual 160, 3) := by decide +kernel
theorem d_X11_lay_33 : decode (mC M_X11_lay) 33 = .ok (.ireturn, 1) := by decide +kernel
theorem d_X11_moved_0 : decode (mC M_X11_moved) 0 = .ok (.aload_n 0, 1) := by decide +kernel
theorem d_X11_moved_1 : decode (mC M_X11_moved) 1 = .ok (.getfield 58, 3) := by decide +kernel
theorem d_X11_moved_4 : decode (mC M_X11_moved) 4 = .ok (.getfield 170, 3) := by decide +kernel
theorem d_X11_moved_7 : decode (mC M_X11_moved) 7 = .ok (.iload_n 1, 1) := by decide +kernel
theorem d_X11_moved_8 : decode (mC M_X11_moved) 8 = .ok (.invokevirtual 173, 3) := by decide +kernel
theorem d_X11_moved_11 : decode (mC M_X11_moved) 11 = .ok (.ireturn, 1) := by decide +kernel
theorem d_X11_no_0 : decode (mC M_X11_no) 0 = .ok (.aload_n 0, 1) := by decide +kernel
theorem d_X11_no_1 : decode (mC M_X11_no) 1 = .ok (.iload_n 1, 1) := by decide +kernel
theorem d_X11_no_2 : decode (mC M_X11_no) 2 = .ok (.invokevirtual 93, 3) := by decide +kernel
theorem d_X11_no_5 : decode (mC M_X11_no) 5 = .ok (.astore_n 2, 1) := by decide +kernel
theorem d_X11_no_6 : decode (mC M_X11_no) 6 = .ok (.aload_n 2, 1) := by decide +kernel
theorem d_X11_no_7 : decode (mC M_X11_no) 7 = .ok (.ifnull 10, 3) := by decide +kernel
theorem d_X11_no_10 : decode (mC M_X11_no) 10 = .ok (.aload_n 2, 1) := by decide +kernel
theorem d_X11_no_11 : decode (mC M_X11_no) 11 = .ok (.getfield 97, 3) := by decide +kernel
theorem d_X11_no_14 : decode (mC M_X11_no) 14 = .ok (.ifnonnull 5, 3) := by decide +kernel
theorem d_X11_no_17 : decode (mC M_X11_no) 17 = .ok (.iconst (-1), 1) := by decide +kernel
theorem d_X11_no_18 : decode (mC M_X11_no) 18 = .ok (.ireturn, 1) := by decide +kernel
theorem d_X11_no_19 : decode (mC M_X11_no) 19 = .ok (.aload_n 2, 1) := by decide +kernel
theorem d_X11_no_20 : decode (mC M_X11_no) 20 = .ok (.getfield 97, 3) := by decide +kernel
theorem d_X11_no_23 : decode (mC M_X11_no) 23 = .ok (.astore_n 3, 1) := by decide +kernel
theorem d_X11_no_24 : decode (mC M_X11_no) 24 = .ok (.aload_n 2, 1) := by decide +kernel
theorem d_X11_no_25 : decode (mC M_X11_no) 25 = .ok (.aconst_null, 1) := by decide +kernel
theorem d_X11_no_26 : decode (mC M_X11_no) 26 = .ok (.invokevirtual 162, 3) := by decide +kernel
theorem d_X11_no_29 : decode (mC M_X11_no) 29 = .ok (.aload_n 2, 1) := by decide +kernel
theorem d_X11_no_30 : decode (mC M_X11_no) 30 = .ok (.iconst 1, 1) := by decide +kernel
theorem d_X11_no_31 : decode (mC M_X11_no) 31 = .ok (.putfield 101, 3) := by decide +kernel
theorem d_X11_no_34 : decode (mC M_X11_no) 34 = .ok (.aload_n 0, 1) := by decide +kernel
theorem d_X11_no_35 : decode (mC M_X11_no) 35 = .ok (.getfield 58, 3) := by decide +kernel
theorem d_X11_no_38 : decode (mC M_X11_no) 38 = .ok (.aload_n 3, 1) := by decide +kernel
theorem d_X11_no_39 : decode (mC M_X11_no) 39 = .ok (.aload_n 0, 1) := by decide +kernel
theorem d_X11_no_40 : decode (mC M_X11_no) 40 = .ok (.getfield 143, 3) := by decide +kernel
theorem d_X11_no_43 : decode (mC M_X11_no) 43 = .ok (.invokevirtual 166, 3) := by decide +kernel
theorem d_X11_no_46 : decode (mC M_X11_no) 46 = .ok (.aload_n 0, 1) := by decide +kernel
theorem d_X11_no_47 : decode (mC M_X11_no) 47 = .ok (.getfield 58, 3) := by decide +kernel
theorem d_X11_no_50 : decode (mC M_X11_no) 50 = .ok (.getfield 170, 3) := by decide +kernel
theorem d_X11_no_53 : decode (mC M_X11_no) 53 = .ok (.getfield 105, 3) := by decide +kernel
theorem d_X11_no_56 : decode (mC M_X11_no) 56 = .ok (.ireturn, 1) := by decide +kernel
theorem d_X11_pay_0 : decode (mC M_X11_pay) 0 = .ok (.lconst 0, 1) := by decide +kernel
theorem d_X11_pay_1 : decode (mC M_X11_pay) 1 = .ok (.lstore 4, 2) := by decide +kernel
theorem d_X11_pay_3 : decode (mC M_X11_pay) 3 = .ok (.iconst 0, 1) := by decide +kernel
theorem d_X11_pay_4 : decode (mC M_X11_pay) 4 = .ok (.istore 6, 2) := by decide +kernel
theorem d_X11_pay_6 : decode (mC M_X11_pay) 6 = .ok (.iload 6, 2) := by decide +kernel
theorem d_X11_pay_8 : decode (mC M_X11_pay) 8 = .ok (.aload_n 0, 1) := by decide +kernel
theorem d_X11_pay_9 : decode (mC M_X11_pay) 9 = .ok (.getfield 69, 3) := by decide +kernel
theorem d_X11_pay_12 : decode (mC M_X11_pay) 12 = .ok (.invokevirtual 80, 3) := by decide +kernel
theorem d_X11_pay_15 : decode (mC M_X11_pay) 15 = .ok (.if_icmp .ge 59, 3) := by decide +kernel
theorem d_X11_pay_18 : decode (mC M_X11_pay) 18 = .ok (.aload_n 0, 1) := by decide +kernel
theorem d_X11_pay_19 : decode (mC M_X11_pay) 19 = .ok (.getfield 69, 3) := by decide +kernel
theorem d_X11_pay_22 : decode (mC M_X11_pay) 22 = .ok (.iload 6, 2) := by decide +kernel
theorem d_X11_pay_24 : decode (mC M_X11_pay) 24 = .ok (.invokevirtual 218, 3) := by decide +kernel
theorem d_X11_pay_27 : decode (mC M_X11_pay) 27 = .ok (.checkcast 192, 3) := by decide +kernel
theorem d_X11_pay_30 : decode (mC M_X11_pay) 30 = .ok (.astore 7, 2) := by decide +kernel
theorem d_X11_pay_32 : decode (mC M_X11_pay) 32 = .ok (.aload 7, 2) := by decide +kernel
theorem d_X11_pay_34 : decode (mC M_X11_pay) 34 = .ok (.getfield 235, 3) := by decide +kernel
theorem d_X11_pay_37 : decode (mC M_X11_pay) 37 = .ok (.getfield 239, 3) := by decide +kernel
theorem d_X11_pay_40 : decode (mC M_X11_pay) 40 = .ok (.iload_n 1, 1) := by decide +kernel
theorem d_X11_pay_41 : decode (mC M_X11_pay) 41 = .ok (.if_icmp .ne 27, 3) := by decide +kernel
theorem d_X11_pay_44 : decode (mC M_X11_pay) 44 = .ok (.aload 7, 2) := by decide +kernel
theorem d_X11_pay_46 : decode (mC M_X11_pay) 46 = .ok (.getfield 240, 3) := by decide +kernel
theorem d_X11_pay_49 : decode (mC M_X11_pay) 49 = .ok (.iload_n 2, 1) := by decide +kernel
theorem d_X11_pay_50 : decode (mC M_X11_pay) 50 = .ok (.iload_n 3, 1) := by decide +kernel
theorem d_X11_pay_51 : decode (mC M_X11_pay) 51 = .ok (.invokestatic 75, 3) := by decide +kernel
theorem d_X11_pay_54 : decode (mC M_X11_pay) 54 = .ok (.ifCond .eq 14, 3) := by decide +kernel
theorem d_X11_pay_57 : decode (mC M_X11_pay) 57 = .ok (.lload 4, 2) := by decide +kernel
theorem d_X11_pay_59 : decode (mC M_X11_pay) 59 = .ok (.aload 7, 2) := by decide +kernel
theorem d_X11_pay_61 : decode (mC M_X11_pay) 61 = .ok (.invokevirtual 241, 3) := by decide +kernel
theorem d_X11_pay_64 : decode (mC M_X11_pay) 64 = .ok (.i2l, 1) := by decide +kernel
theorem d_X11_pay_65 : decode (mC M_X11_pay) 65 = .ok (.ladd, 1) := by decide +kernel
theorem d_X11_pay_66 : decode (mC M_X11_pay) 66 = .ok (.lstore 4, 2) := by decide +kernel
theorem d_X11_pay_68 : decode (mC M_X11_pay) 68 = .ok (.iinc 6 1, 3) := by decide +kernel
theorem d_X11_pay_71 : decode (mC M_X11_pay) 71 = .ok (.goto (-65), 3) := by decide +kernel
theorem d_X11_pay_74 : decode (mC M_X11_pay) 74 = .ok (.lload 4, 2) := by decide +kernel
theorem d_X11_pay_76 : decode (mC M_X11_pay) 76 = .ok (.lreturn, 1) := by decide +kernel
theorem d_X11_person_0 : decode (mC M_X11_person) 0 = .ok (.iload_n 1, 1) := by decide +kernel
theorem d_X11_person_1 : decode (mC M_X11_person) 1 = .ok (.iconst 0, 1) := by decide +kernel
theorem d_X11_person_2 : decode (mC M_X11_person) 2 = .ok (.bipush 99, 2) := by decide +kernel
theorem d_X11_person_4 : decode (mC M_X11_person) 4 = .ok (.invokestatic 75, 3) := by decide +kernel
theorem d_X11_person_7 : decode (mC M_X11_person) 7 = .ok (.ifCond .eq 50, 3) := by decide +kernel
theorem d_X11_person_10 : decode (mC M_X11_person) 10 = .ok (.iload_n 2, 1) := by decide +kernel
theorem d_X11_person_11 : decode (mC M_X11_person) 11 = .ok (.bipush 50, 2) := by decide +kernel
theorem d_X11_person_13 : decode (mC M_X11_person) 13 = .ok (.sipush 230, 3) := by decide +kernel
theorem d_X11_person_16 : decode (mC M_X11_person) 16 = .ok (.invokestatic 75, 3) := by decide +kernel
theorem d_X11_person_19 : decode (mC M_X11_person) 19 = .ok (.ifCond .eq 38, 3) := by decide +kernel
theorem d_X11_person_22 : decode (mC M_X11_person) 22 = .ok (.iload_n 3, 1) := by decide +kernel
theorem d_X11_person_23 : decode (mC M_X11_person) 23 = .ok (.iconst 0, 1) := by decide +kernel
theorem d_X11_person_24 : decode (mC M_X11_person) 24 = .ok (.ldc 79, 2) := by decide +kernel
theorem d_X11_person_26 : decode (mC M_X11_person) 26 = .ok (.invokestatic 75, 3) := by decide +kernel
theorem d_X11_person_29 : decode (mC M_X11_person) 29 = .ok (.ifCond .eq 28, 3) := by decide +kernel
theorem d_X11_person_32 : decode (mC M_X11_person) 32 = .ok (.iload 4, 2) := by decide +kernel
theorem d_X11_person_34 : decode (mC M_X11_person) 34 = .ok (.iconst 0, 1) := by decide +kernel
theorem d_X11_person_35 : decode (mC M_X11_person) 35 = .ok (.iconst 3, 1) := by decide +kernel
theorem d_X11_person_36 : decode (mC M_X11_person) 36 = .ok (.invokestatic 75, 3) := by decide +kernel
theorem d_X11_person_39 : decode (mC M_X11_person) 39 = .ok (.ifCond .eq 18, 3) := by decide +kernel
theorem d_X11_person_42 : decode (mC M_X11_person) 42 = .ok (.iload 5, 2) := by decide +kernel
theorem d_X11_person_44 : decode (mC M_X11_person) 44 = .ok (.iconst 1, 1) := by decide +kernel
theorem d_X11_person_45 : decode (mC M_X11_person) 45 = .ok (.bipush 30, 2) := by decide +kernel
theorem d_X11_person_47 : decode (mC M_X11_person) 47 = .ok (.invokestatic 75, 3) := by decide +kernel
theorem d_X11_person_50 : decode (mC M_X11_person) 50 = .ok (.ifCond .eq 7, 3) := by decide +kernel
theorem d_X11_person_53 : decode (mC M_X11_person) 53 = .ok (.iconst 1, 1) := by decide +kernel
theorem d_X11_person_54 : decode (mC M_X11_person) 54 = .ok (.goto 4, 3) := by decide +kernel
theorem d_X11_person_57 : decode (mC M_X11_person) 57 = .ok (.iconst 0, 1) := by decide +kernel
theorem d_X11_person_58 : decode (mC M_X11_person) 58 = .ok (.istore 6, 2) := by decide +kernel
theorem d_X11_person_60 : decode (mC M_X11_person) 60 = .ok (.iload 6, 2) := by decide +kernel
theorem d_X11_person_62 : decode (mC M_X11_person) 62 = .ok (.ifCond .eq 15, 3) := by decide +kernel
theorem d_X11_person_65 : decode (mC M_X11_person) 65 = .ok (.aload_n 0, 1) := by decide +kernel
theorem d_X11_person_66 : decode (mC M_X11_person) 66 = .ok (.getfield 10, 3) := by decide +kernel
theorem d_X11_person_69 : decode (mC M_X11_person) 69 = .ok (.invokevirtual 80, 3) := by decide +kernel
theorem d_X11_person_72 : decode (mC M_X11_person) 72 = .ok (.bipush 40, 2) := by decide +kernel
theorem d_X11_person_74 : decode (mC M_X11_person) 74 = .ok (.if_icmp .lt 5, 3) := by decide +kernel
theorem d_X11_person_77 : decode (mC M_X11_person) 77 = .ok (.iconst (-1), 1) := by decide +kernel
theorem d_X11_person_78 : decode (mC M_X11_person) 78 = .ok (.ireturn, 1) := by decide +kernel
theorem d_X11_person_79 : decode (mC M_X11_person) 79 = .ok (.aload_n 0, 1) := by decide +kernel
theorem d_X11_person_80 : decode (mC M_X11_person) 80 = .ok (.getfield 10, 3) := by decide +kernel
theorem d_X11_person_83 : decode (mC M_X11_person) 83 = .ok (.invokevirtual 80, 3) := by decide +kernel
theorem d_X11_person_86 : decode (mC M_X11_person) 86 = .ok (.istore 7, 2) := by decide +kernel
theorem d_X11_person_88 : decode (mC M_X11_person) 88 = .ok (.aload_n 0, 1) := by decide +kernel
theorem d_X11_person_89 : decode (mC M_X11_person) 89 = .ok (.getfield 10, 3) := by decide +kernel
theorem d_X11_person_92 : decode (mC M_X11_person) 92 = .ok (.new 84, 3) := by decide +kernel
theorem d_X11_person_95 : decode (mC M_X11_person) 95 = .ok (.dup, 1) := by decide +kernel
theorem d_X11_person_96 : decode (mC M_X11_person) 96 = .ok (.iload 7, 2) := by decide +kernel
theorem d_X11_person_98 : decode (mC M_X11_person) 98 = .ok (.iload_n 1, 1) := by decide +kernel
theorem d_X11_person_99 : decode (mC M_X11_person) 99 = .ok (.iload_n 2, 1) := by decide +kernel
theorem d_X11_person_100 : decode (mC M_X11_person) 100 = .ok (.iload_n 3, 1) := by decide +kernel
theorem d_X11_person_101 : decode (mC M_X11_person) 101 = .ok (.iload 4, 2) := by decide +kernel
theorem d_X11_person_103 : decode (mC M_X11_person) 103 = .ok (.iload 5, 2) := by decide +kernel
theorem d_X11_person_105 : decode (mC M_X11_person) 105 = .ok (.invokespecial 86, 3) := by decide +kernel
theorem d_X11_person_108 : decode (mC M_X11_person) 108 = .ok (.invokevirtual 89, 3) := by decide +kernel
theorem d_X11_person_111 : decode (mC M_X11_person) 111 = .ok (.pop, 1) := by decide +kernel
theorem d_X11_person_112 : decode (mC M_X11_person) 112 = .ok (.iload 7, 2) := by decide +kernel
theorem d_X11_person_114 : decode (mC M_X11_person) 114 = .ok (.ireturn, 1) := by decide +kernel
theorem d_X11_place_0 : decode (mC M_X11_place) 0 = .ok (.aload_n 0, 1) := by decide +kernel
theorem d_X11_place_1 : decode (mC M_X11_place) 1 = .ok (.getfield 30, 3) := by decide +kernel
theorem d_X11_place_4 : decode (mC M_X11_place) 4 = .ok (.getfield 131, 3) := by decide +kernel
theorem d_X11_place_7 : decode (mC M_X11_place) 7 = .ok (.ireturn, 1) := by decide +kernel
theorem d_X11_record_0 : decode (mC M_X11_record) 0 = .ok (.aload_n 0, 1) := by decide +kernel
theorem d_X11_record_1 : decode (mC M_X11_record) 1 = .ok (.iload_n 1, 1) := by decide +kernel
theorem d_X11_record_2 : decode (mC M_X11_record) 2 = .ok (.iload_n 2, 1) := by decide +kernel
theorem d_X11_record_3 : decode (mC M_X11_record) 3 = .ok (.invokevirtual 187, 3) := by decide +kernel
theorem d_X11_record_6 : decode (mC M_X11_record) 6 = .ok (.astore 4, 2) := by decide +kernel
theorem d_X11_record_8 : decode (mC M_X11_record) 8 = .ok (.aload 4, 2) := by decide +kernel
theorem d_X11_record_10 : decode (mC M_X11_record) 10 = .ok (.ifnonnull 7, 3) := by decide +kernel
theorem d_X11_record_13 : decode (mC M_X11_record) 13 = .ok (.iconst (-1), 1) := by decide +kernel
theorem d_X11_record_14 : decode (mC M_X11_record) 14 = .ok (.goto 9, 3) := by decide +kernel
theorem d_X11_record_17 : decode (mC M_X11_record) 17 = .ok (.aload 4, 2) := by decide +kernel
theorem d_X11_record_19 : decode (mC M_X11_record) 19 = .ok (.iload_n 3, 1) := by decide +kernel
theorem d_X11_record_20 : decode (mC M_X11_record) 20 = .ok (.invokevirtual 191, 3) := by decide +kernel
theorem d_X11_record_23 : decode (mC M_X11_record) 23 = .ok (.ireturn, 1) := by decide +kernel
theorem d_X11_retake_0 : decode (mC M_X11_retake) 0 = .ok (.iload_n 1, 1) := by decide +kernel
theorem d_X11_retake_1 : decode (mC M_X11_retake) 1 = .ok (.invokestatic 196, 3) := by decide +kernel
theorem d_X11_retake_4 : decode (mC M_X11_retake) 4 = .ok (.ifCond .eq 14, 3) := by decide +kernel
theorem d_X11_retake_7 : decode (mC M_X11_retake) 7 = .ok (.iload_n 2, 1) := by decide +kernel
theorem d_X11_retake_8 : decode (mC M_X11_retake) 8 = .ok (.iconst 0, 1) := by decide +kernel
theorem d_X11_retake_9 : decode (mC M_X11_retake) 9 = .ok (.sipush 1439, 3) := by decide +kernel
theorem d_X11_retake_12 : decode (mC M_X11_retake) 12 = .ok (.invokestatic 75, 3) := by decide +kernel
theorem d_X11_retake_15 : decode (mC M_X11_retake) 15 = .ok (.ifCond .ne 5, 3) := by decide +kernel
theorem d_X11_retake_18 : decode (mC M_X11_retake) 18 = .ok (.iconst (-1), 1) := by decide +kernel
theorem d_X11_retake_19 : decode (mC M_X11_retake) 19 = .ok (.ireturn, 1) := by decide +kernel
theorem d_X11_retake_20 : decode (mC M_X11_retake) 20 = .ok (.aload_n 0, 1) := by decide +kernel
theorem d_X11_retake_21 : decode (mC M_X11_retake) 21 = .ok (.getfield 72, 3) := by decide +kernel
theorem d_X11_retake_24 : decode (mC M_X11_retake) 24 = .ok (.iconst 0, 1) := by decide +kernel
theorem d_X11_retake_25 : decode (mC M_X11_retake) 25 = .ok (.putfield 105, 3) := by decide +kernel
theorem d_X11_retake_28 : decode (mC M_X11_retake) 28 = .ok (.iconst 0, 1) := by decide +kernel
theorem d_X11_retake_29 : decode (mC M_X11_retake) 29 = .ok (.istore_n 3, 1) := by decide +kernel
theorem d_X11_retake_30 : decode (mC M_X11_retake) 30 = .ok (.iload_n 3, 1) := by decide +kernel
theorem d_X11_retake_31 : decode (mC M_X11_retake) 31 = .ok (.aload_n 0, 1) := by decide +kernel
theorem d_X11_retake_32 : decode (mC M_X11_retake) 32 = .ok (.getfield 10, 3) := by decide +kernel
theorem d_X11_retake_35 : decode (mC M_X11_retake) 35 = .ok (.invokevirtual 80, 3) := by decide +kernel
theorem d_X11_retake_38 : decode (mC M_X11_retake) 38 = .ok (.if_icmp .ge 77, 3) := by decide +kernel
theorem d_X11_retake_41 : decode (mC M_X11_retake) 41 = .ok (.aload_n 0, 1) := by decide +kernel
theorem d_X11_retake_42 : decode (mC M_X11_retake) 42 = .ok (.getfield 10, 3) := by decide +kernel
theorem d_X11_retake_45 : decode (mC M_X11_retake) 45 = .ok (.iload_n 3, 1) := by decide +kernel
theorem d_X11_retake_46 : decode (mC M_X11_retake) 46 = .ok (.invokevirtual 218, 3) := by decide +kernel
theorem d_X11_retake_49 : decode (mC M_X11_retake) 49 = .ok (.checkcast 84, 3) := by decide +kernel
theorem d_X11_retake_52 : decode (mC M_X11_retake) 52 = .ok (.astore 4, 2) := by decide +kernel
theorem d_X11_retake_54 : decode (mC M_X11_retake) 54 = .ok (.aload 4, 2) := by decide +kernel
theorem d_X11_retake_56 : decode (mC M_X11_retake) 56 = .ok (.getfield 101, 3) := by decide +kernel
theorem d_X11_retake_59 : decode (mC M_X11_retake) 59 = .ok (.ifCond .ne 25, 3) := by decide +kernel
theorem d_X11_retake_62 : decode (mC M_X11_retake) 62 = .ok (.aload 4, 2) := by decide +kernel
theorem d_X11_retake_64 : decode (mC M_X11_retake) 64 = .ok (.getfield 222, 3) := by decide +kernel
theorem d_X11_retake_67 : decode (mC M_X11_retake) 67 = .ok (.sipush 1440, 3) := by decide +kernel
theorem d_X11_retake_70 : decode (mC M_X11_retake) 70 = .ok (.aload_n 0, 1) := by decide +kernel
theorem d_X11_retake_71 : decode (mC M_X11_retake) 71 = .ok (.getfield 143, 3) := by decide +kernel
theorem d_X11_retake_74 : decode (mC M_X11_retake) 74 = .ok (.imul, 1) := by decide +kernel
theorem d_X11_retake_75 : decode (mC M_X11_retake) 75 = .ok (.iload_n 2, 1) := by decide +kernel
theorem d_X11_retake_76 : decode (mC M_X11_retake) 76 = .ok (.iadd, 1) := by decide +kernel
theorem d_X11_retake_77 : decode (mC M_X11_retake) 77 = .ok (.if_icmp .gt 7, 3) := by decide +kernel
theorem d_X11_retake_80 : decode (mC M_X11_retake) 80 = .ok (.iconst 1, 1) := by decide +kernel
theorem d_X11_retake_81 : decode (mC M_X11_retake) 81 = .ok (.goto 4, 3) := by decide +kernel
theorem d_X11_retake_84 : decode (mC M_X11_retake) 84 = .ok (.iconst 0, 1) := by decide +kernel
theorem d_X11_retake_85 : decode (mC M_X11_retake) 85 = .ok (.istore 5, 2) := by decide +kernel
theorem d_X11_retake_87 : decode (mC M_X11_retake) 87 = .ok (.aload 4, 2) := by decide +kernel
theorem d_X11_retake_89 : decode (mC M_X11_retake) 89 = .ok (.iload_n 1, 1) := by decide +kernel
theorem d_X11_retake_90 : decode (mC M_X11_retake) 90 = .ok (.invokevirtual 225, 3) := by decide +kernel
theorem d_X11_retake_93 : decode (mC M_X11_retake) 93 = .ok (.ifCond .eq 16, 3) := by decide +kernel
theorem d_X11_retake_96 : decode (mC M_X11_retake) 96 = .ok (.iload 5, 2) := by decide +kernel
theorem d_X11_retake_98 : decode (mC M_X11_retake) 98 = .ok (.ifCond .ne 11, 3) := by decide +kernel
theorem d_X11_retake_101 : decode (mC M_X11_retake) 101 = .ok (.aload_n 0, 1) := by decide +kernel
theorem d_X11_retake_102 : decode (mC M_X11_retake) 102 = .ok (.getfield 72, 3) := by decide +kernel
theorem d_X11_retake_105 : decode (mC M_X11_retake) 105 = .ok (.iload_n 3, 1) := by decide +kernel
theorem d_X11_retake_106 : decode (mC M_X11_retake) 106 = .ok (.invokevirtual 228, 3) := by decide +kernel
theorem d_X11_retake_109 : decode (mC M_X11_retake) 109 = .ok (.iinc 3 1, 3) := by decide +kernel
theorem d_X11_retake_112 : decode (mC M_X11_retake) 112 = .ok (.goto (-82), 3) := by decide +kernel
theorem d_X11_retake_115 : decode (mC M_X11_retake) 115 = .ok (.aload_n 0, 1) := by decide +kernel
theorem d_X11_retake_116 : decode (mC M_X11_retake) 116 = .ok (.getfield 72, 3) := by decide +kernel
theorem d_X11_retake_119 : decode (mC M_X11_retake) 119 = .ok (.getfield 105, 3) := by decide +kernel
theorem d_X11_retake_122 : decode (mC M_X11_retake) 122 = .ok (.ireturn, 1) := by decide +kernel
theorem d_X11_seen_0 : decode (mC M_X11_seen) 0 = .ok (.aload_n 0, 1) := by decide +kernel
theorem d_X11_seen_1 : decode (mC M_X11_seen) 1 = .ok (.iload_n 1, 1) := by decide +kernel
theorem d_X11_seen_2 : decode (mC M_X11_seen) 2 = .ok (.invokevirtual 93, 3) := by decide +kernel
theorem d_X11_seen_5 : decode (mC M_X11_seen) 5 = .ok (.ifnull 25, 3) := by decide +kernel
theorem d_X11_seen_8 : decode (mC M_X11_seen) 8 = .ok (.iload_n 2, 1) := by decide +kernel
theorem d_X11_seen_9 : decode (mC M_X11_seen) 9 = .ok (.invokestatic 196, 3) := by decide +kernel
theorem d_X11_seen_12 : decode (mC M_X11_seen) 12 = .ok (.ifCond .eq 18, 3) := by decide +kernel
theorem d_X11_seen_15 : decode (mC M_X11_seen) 15 = .ok (.iload_n 3, 1) := by decide +kernel
theorem d_X11_seen_16 : decode (mC M_X11_seen) 16 = .ok (.iconst 0, 1) := by decide +kernel
theorem d_X11_seen_17 : decode (mC M_X11_seen) 17 = .ok (.aload_n 0, 1) := by decide +kernel
theorem d_X11_seen_18 : decode (mC M_X11_seen) 18 = .ok (.getfield 49, 3) := by decide +kernel
theorem d_X11_seen_21 : decode (mC M_X11_seen) 21 = .ok (.invokevirtual 206, 3) := by decide +kernel
theorem d_X11_seen_24 : decode (mC M_X11_seen) 24 = .ok (.invokestatic 75, 3) := by decide +kernel
theorem d_X11_seen_27 : decode (mC M_X11_seen) 27 = .ok (.ifCond .ne 13, 3) := by decide +kernel
theorem d_X11_seen_30 : decode (mC M_X11_seen) 30 = .ok (.new 207, 3) := by decide +kernel
theorem d_X11_seen_33 : decode (mC M_X11_seen) 33 = .ok (.dup, 1) := by decide +kernel
theorem d_X11_seen_34 : decode (mC M_X11_seen) 34 = .ok (.ldc 209, 2) := by decide +kernel
theorem d_X11_seen_36 : decode (mC M_X11_seen) 36 = .ok (.invokespecial 211, 3) := by decide +kernel
theorem d_X11_seen_39 : decode (mC M_X11_seen) 39 = .ok (.athrow, 1) := by decide +kernel
theorem d_X11_seen_40 : decode (mC M_X11_seen) 40 = .ok (.aload_n 0, 1) := by decide +kernel
theorem d_X11_seen_41 : decode (mC M_X11_seen) 41 = .ok (.getfield 49, 3) := by decide +kernel
theorem d_X11_seen_44 : decode (mC M_X11_seen) 44 = .ok (.iload_n 1, 1) := by decide +kernel
theorem d_X11_seen_45 : decode (mC M_X11_seen) 45 = .ok (.iload_n 2, 1) := by decide +kernel
theorem d_X11_seen_46 : decode (mC M_X11_seen) 46 = .ok (.iload_n 3, 1) := by decide +kernel
theorem d_X11_seen_47 : decode (mC M_X11_seen) 47 = .ok (.invokevirtual 214, 3) := by decide +kernel
theorem d_X11_seen_50 : decode (mC M_X11_seen) 50 = .ok (.ireturn, 1) := by decide +kernel
theorem d_X11_sendAll_0 : decode (mC M_X11_sendAll) 0 = .ok (.aload_n 0, 1) := by decide +kernel
theorem d_X11_sendAll_1 : decode (mC M_X11_sendAll) 1 = .ok (.getfield 43, 3) := by decide +kernel
theorem d_X11_sendAll_4 : decode (mC M_X11_sendAll) 4 = .ok (.invokevirtual 153, 3) := by decide +kernel
theorem d_X11_sendAll_7 : decode (mC M_X11_sendAll) 7 = .ok (.ifCond .eq 7, 3) := by decide +kernel
theorem d_X11_sendAll_10 : decode (mC M_X11_sendAll) 10 = .ok (.aconst_null, 1) := by decide +kernel
theorem d_X11_sendAll_11 : decode (mC M_X11_sendAll) 11 = .ok (.goto 22, 3) := by decide +kernel
theorem d_X11_sendAll_14 : decode (mC M_X11_sendAll) 14 = .ok (.aload_n 0, 1) := by decide +kernel
theorem d_X11_sendAll_15 : decode (mC M_X11_sendAll) 15 = .ok (.getfield 43, 3) := by decide +kernel
theorem d_X11_sendAll_18 : decode (mC M_X11_sendAll) 18 = .ok (.aload_n 0, 1) := by decide +kernel
theorem d_X11_sendAll_19 : decode (mC M_X11_sendAll) 19 = .ok (.getfield 43, 3) := by decide +kernel
theorem d_X11_sendAll_22 : decode (mC M_X11_sendAll) 22 = .ok (.invokevirtual 80, 3) := by decide +kernel
theorem d_X11_sendAll_25 : decode (mC M_X11_sendAll) 25 = .ok (.iconst 1, 1) := by decide +kernel
theorem d_X11_sendAll_26 : decode (mC M_X11_sendAll) 26 = .ok (.isub, 1) := by decide +kernel
theorem d_X11_sendAll_27 : decode (mC M_X11_sendAll) 27 = .ok (.invokevirtual 218, 3) := by decide +kernel
theorem d_X11_sendAll_30 : decode (mC M_X11_sendAll) 30 = .ok (.checkcast 121, 3) := by decide +kernel
theorem d_X11_sendAll_33 : decode (mC M_X11_sendAll) 33 = .ok (.astore_n 1, 1) := by decide +kernel
theorem d_X11_sendAll_34 : decode (mC M_X11_sendAll) 34 = .ok (.iconst (-1), 1) := by decide +kernel
theorem d_X11_sendAll_35 : decode (mC M_X11_sendAll) 35 = .ok (.istore_n 2, 1) := by decide +kernel
theorem d_X11_sendAll_36 : decode (mC M_X11_sendAll) 36 = .ok (.iconst 0, 1) := by decide +kernel
theorem d_X11_sendAll_37 : decode (mC M_X11_sendAll) 37 = .ok (.istore_n 3, 1) := by decide +kernel
theorem d_X11_sendAll_38 : decode (mC M_X11_sendAll) 38 = .ok (.iload_n 3, 1) := by decide +kernel
theorem d_X11_sendAll_39 : decode (mC M_X11_sendAll) 39 = .ok (.aload_n 0, 1) := by decide +kernel
theorem d_X11_sendAll_40 : decode (mC M_X11_sendAll) 40 = .ok (.getfield 65, 3) := by decide +kernel
theorem d_X11_sendAll_43 : decode (mC M_X11_sendAll) 43 = .ok (.getfield 244, 3) := by decide +kernel
theorem d_X11_sendAll_46 : decode (mC M_X11_sendAll) 46 = .ok (.invokevirtual 80, 3) := by decide +kernel
theorem d_X11_sendAll_49 : decode (mC M_X11_sendAll) 49 = .ok (.if_icmp .ge 69, 3) := by decide +kernel
theorem d_X11_sendAll_52 : decode (mC M_X11_sendAll) 52 = .ok (.aload_n 0, 1) := by decide +kernel
theorem d_X11_sendAll_53 : decode (mC M_X11_sendAll) 53 = .ok (.getfield 65, 3) := by decide +kernel
theorem d_X11_sendAll_56 : decode (mC M_X11_sendAll) 56 = .ok (.getfield 244, 3) := by decide +kernel
theorem d_X11_sendAll_59 : decode (mC M_X11_sendAll) 59 = .ok (.iload_n 3, 1) := by decide +kernel
theorem d_X11_sendAll_60 : decode (mC M_X11_sendAll) 60 = .ok (.invokevirtual 218, 3) := by decide +kernel
theorem d_X11_sendAll_63 : decode (mC M_X11_sendAll) 63 = .ok (.checkcast 192, 3) := by decide +kernel
theorem d_X11_sendAll_66 : decode (mC M_X11_sendAll) 66 = .ok (.astore 4, 2) := by decide +kernel
theorem d_X11_sendAll_68 : decode (mC M_X11_sendAll) 68 = .ok (.aload 4, 2) := by decide +kernel
theorem d_X11_sendAll_70 : decode (mC M_X11_sendAll) 70 = .ok (.aload_n 1, 1) := by decide +kernel
theorem d_X11_sendAll_71 : decode (mC M_X11_sendAll) 71 = .ok (.invokevirtual 247, 3) := by decide +kernel
theorem d_X11_sendAll_74 : decode (mC M_X11_sendAll) 74 = .ok (.aload_n 0, 1) := by decide +kernel
theorem d_X11_sendAll_75 : decode (mC M_X11_sendAll) 75 = .ok (.getfield 49, 3) := by decide +kernel
theorem d_X11_sendAll_78 : decode (mC M_X11_sendAll) 78 = .ok (.aload 4, 2) := by decide +kernel
theorem d_X11_sendAll_80 : decode (mC M_X11_sendAll) 80 = .ok (.getfield 235, 3) := by decide +kernel
theorem d_X11_sendAll_83 : decode (mC M_X11_sendAll) 83 = .ok (.aload 4, 2) := by decide +kernel
theorem d_X11_sendAll_85 : decode (mC M_X11_sendAll) 85 = .ok (.getfield 251, 3) := by decide +kernel
theorem d_X11_sendAll_88 : decode (mC M_X11_sendAll) 88 = .ok (.invokevirtual 203, 3) := by decide +kernel
theorem d_X11_sendAll_91 : decode (mC M_X11_sendAll) 91 = .ok (.pop, 1) := by decide +kernel
theorem d_X11_sendAll_92 : decode (mC M_X11_sendAll) 92 = .ok (.aload_n 0, 1) := by decide +kernel
theorem d_X11_sendAll_93 : decode (mC M_X11_sendAll) 93 = .ok (.getfield 69, 3) := by decide +kernel
theorem d_X11_sendAll_96 : decode (mC M_X11_sendAll) 96 = .ok (.aload 4, 2) := by decide +kernel
theorem d_X11_sendAll_98 : decode (mC M_X11_sendAll) 98 = .ok (.invokevirtual 89, 3) := by decide +kernel
theorem d_X11_sendAll_101 : decode (mC M_X11_sendAll) 101 = .ok (.pop, 1) := by decide +kernel
theorem d_X11_sendAll_102 : decode (mC M_X11_sendAll) 102 = .ok (.iload_n 2, 1) := by decide +kernel
theorem d_X11_sendAll_103 : decode (mC M_X11_sendAll) 103 = .ok (.aload 4, 2) := by decide +kernel
theorem d_X11_sendAll_105 : decode (mC M_X11_sendAll) 105 = .ok (.getfield 254, 3) := by decide +kernel
theorem d_X11_sendAll_108 : decode (mC M_X11_sendAll) 108 = .ok (.invokestatic 257, 3) := by decide +kernel
theorem d_X11_sendAll_111 : decode (mC M_X11_sendAll) 111 = .ok (.istore_n 2, 1) := by decide +kernel
theorem d_X11_sendAll_112 : decode (mC M_X11_sendAll) 112 = .ok (.iinc 3 1, 3) := by decide +kernel
theorem d_X11_sendAll_115 : decode (mC M_X11_sendAll) 115 = .ok (.goto (-77), 3) := by decide +kernel
theorem d_X11_sendAll_118 : decode (mC M_X11_sendAll) 118 = .ok (.iload_n 2, 1) := by decide +kernel
theorem d_X11_sendAll_119 : decode (mC M_X11_sendAll) 119 = .ok (.ireturn, 1) := by decide +kernel
theorem d_X11_step_0 : decode (mC M_X11_step) 0 = .ok (.iload_n 1, 1) := by decide +kernel
theorem d_X11_step_1 : decode (mC M_X11_step) 1 = .ok (.iconst 1, 1) := by decide +kernel
theorem d_X11_step_2 : decode (mC M_X11_step) 2 = .ok (.iconst 5, 1) := by decide +kernel
theorem d_X11_step_3 : decode (mC M_X11_step) 3 = .ok (.invokestatic 75, 3) := by decide +kernel
theorem d_X11_step_6 : decode (mC M_X11_step) 6 = .ok (.ifCond .eq 22, 3) := by decide +kernel
theorem d_X11_step_9 : decode (mC M_X11_step) 9 = .ok (.aload_n 0, 1) := by decide +kernel
theorem d_X11_step_10 : decode (mC M_X11_step) 10 = .ok (.getfield 58, 3) := by decide +kernel
theorem d_X11_step_13 : decode (mC M_X11_step) 13 = .ok (.invokevirtual 160, 3) := by decide +kernel
theorem d_X11_step_16 : decode (mC M_X11_step) 16 = .ok (.ifCond .eq 12, 3) := by decide +kernel
theorem d_X11_step_19 : decode (mC M_X11_step) 19 = .ok (.aload_n 0, 1) := by decide +kernel
theorem d_X11_step_20 : decode (mC M_X11_step) 20 = .ok (.getfield 143, 3) := by decide +kernel
theorem d_X11_step_23 : decode (mC M_X11_step) 23 = .ok (.bipush 60, 2) := by decide +kernel
theorem d_X11_step_25 : decode (mC M_X11_step) 25 = .ok (.if_icmp .lt 5, 3) := by decide +kernel
theorem d_X11_step_28 : decode (mC M_X11_step) 28 = .ok (.iconst (-1), 1) := by decide +kernel
theorem d_X11_step_29 : decode (mC M_X11_step) 29 = .ok (.ireturn, 1) := by decide +kernel
theorem d_X11_step_30 : decode (mC M_X11_step) 30 = .ok (.aload_n 0, 1) := by decide +kernel
theorem d_X11_step_31 : decode (mC M_X11_step) 31 = .ok (.getfield 65, 3) := by decide +kernel
theorem d_X11_step_34 : decode (mC M_X11_step) 34 = .ok (.aload_n 0, 1) := by decide +kernel
theorem d_X11_step_35 : decode (mC M_X11_step) 35 = .ok (.getfield 10, 3) := by decide +kernel
theorem d_X11_step_38 : decode (mC M_X11_step) 38 = .ok (.iload_n 2, 1) := by decide +kernel
theorem d_X11_step_39 : decode (mC M_X11_step) 39 = .ok (.aload_n 0, 1) := by decide +kernel
theorem d_X11_step_40 : decode (mC M_X11_step) 40 = .ok (.getfield 143, 3) := by decide +kernel
theorem d_X11_step_43 : decode (mC M_X11_step) 43 = .ok (.invokevirtual 177, 3) := by decide +kernel
theorem d_X11_step_46 : decode (mC M_X11_step) 46 = .ok (.aload_n 0, 1) := by decide +kernel
theorem d_X11_step_47 : decode (mC M_X11_step) 47 = .ok (.getfield 65, 3) := by decide +kernel
theorem d_X11_step_50 : decode (mC M_X11_step) 50 = .ok (.iload_n 1, 1) := by decide +kernel
theorem d_X11_step_51 : decode (mC M_X11_step) 51 = .ok (.invokevirtual 181, 3) := by decide +kernel
theorem d_X11_step_54 : decode (mC M_X11_step) 54 = .ok (.aload_n 0, 1) := by decide +kernel
theorem d_X11_step_55 : decode (mC M_X11_step) 55 = .ok (.invokevirtual 184, 3) := by decide +kernel
theorem d_X11_step_58 : decode (mC M_X11_step) 58 = .ok (.istore_n 3, 1) := by decide +kernel
theorem d_X11_step_59 : decode (mC M_X11_step) 59 = .ok (.aload_n 0, 1) := by decide +kernel
theorem d_X11_step_60 : decode (mC M_X11_step) 60 = .ok (.getfield 58, 3) := by decide +kernel
theorem d_X11_step_63 : decode (mC M_X11_step) 63 = .ok (.new 7, 3) := by decide +kernel
theorem d_X11_step_66 : decode (mC M_X11_step) 66 = .ok (.dup, 1) := by decide +kernel
theorem d_X11_step_67 : decode (mC M_X11_step) 67 = .ok (.invokespecial 9, 3) := by decide +kernel
theorem d_X11_step_70 : decode (mC M_X11_step) 70 = .ok (.invokevirtual 118, 3) := by decide +kernel
theorem d_X11_step_73 : decode (mC M_X11_step) 73 = .ok (.aload_n 0, 1) := by decide +kernel
theorem d_X11_step_74 : decode (mC M_X11_step) 74 = .ok (.dup, 1) := by decide +kernel
theorem d_X11_step_75 : decode (mC M_X11_step) 75 = .ok (.getfield 143, 3) := by decide +kernel
theorem d_X11_step_78 : decode (mC M_X11_step) 78 = .ok (.iconst 1, 1) := by decide +kernel
theorem d_X11_step_79 : decode (mC M_X11_step) 79 = .ok (.iadd, 1) := by decide +kernel
theorem d_X11_step_80 : decode (mC M_X11_step) 80 = .ok (.putfield 143, 3) := by decide +kernel
theorem d_X11_step_83 : decode (mC M_X11_step) 83 = .ok (.iload_n 3, 1) := by decide +kernel
theorem d_X11_step_84 : decode (mC M_X11_step) 84 = .ok (.ireturn, 1) := by decide +kernel
theorem d_X11_tell_0 : decode (mC M_X11_tell) 0 = .ok (.aload_n 0, 1) := by decide +kernel
theorem d_X11_tell_1 : decode (mC M_X11_tell) 1 = .ok (.iload_n 1, 1) := by decide +kernel
theorem d_X11_tell_2 : decode (mC M_X11_tell) 2 = .ok (.invokevirtual 93, 3) := by decide +kernel
theorem d_X11_tell_5 : decode (mC M_X11_tell) 5 = .ok (.astore_n 3, 1) := by decide +kernel
theorem d_X11_tell_6 : decode (mC M_X11_tell) 6 = .ok (.aload_n 3, 1) := by decide +kernel
theorem d_X11_tell_7 : decode (mC M_X11_tell) 7 = .ok (.ifnull 23, 3) := by decide +kernel
theorem d_X11_tell_10 : decode (mC M_X11_tell) 10 = .ok (.iload_n 2, 1) := by decide +kernel
theorem d_X11_tell_11 : decode (mC M_X11_tell) 11 = .ok (.invokestatic 196, 3) := by decide +kernel
theorem d_X11_tell_14 : decode (mC M_X11_tell) 14 = .ok (.ifCond .eq 16, 3) := by decide +kernel
theorem d_X11_tell_17 : decode (mC M_X11_tell) 17 = .ok (.aload_n 0, 1) := by decide +kernel
theorem d_X11_tell_18 : decode (mC M_X11_tell) 18 = .ok (.getfield 49, 3) := by decide +kernel
theorem d_X11_tell_21 : decode (mC M_X11_tell) 21 = .ok (.getfield 200, 3) := by decide +kernel
theorem d_X11_tell_24 : decode (mC M_X11_tell) 24 = .ok (.sipush 200, 3) := by decide +kernel
theorem d_X11_tell_27 : decode (mC M_X11_tell) 27 = .ok (.if_icmp .lt 5, 3) := by decide +kernel
theorem d_X11_tell_30 : decode (mC M_X11_tell) 30 = .ok (.iconst (-1), 1) := by decide +kernel
theorem d_X11_tell_31 : decode (mC M_X11_tell) 31 = .ok (.ireturn, 1) := by decide +kernel
theorem d_X11_tell_32 : decode (mC M_X11_tell) 32 = .ok (.aload_n 0, 1) := by decide +kernel
theorem d_X11_tell_33 : decode (mC M_X11_tell) 33 = .ok (.getfield 49, 3) := by decide +kernel
theorem d_X11_tell_36 : decode (mC M_X11_tell) 36 = .ok (.dup, 1) := by decide +kernel
theorem d_X11_tell_37 : decode (mC M_X11_tell) 37 = .ok (.getfield 200, 3) := by decide +kernel
theorem d_X11_tell_40 : decode (mC M_X11_tell) 40 = .ok (.iconst 1, 1) := by decide +kernel
theorem d_X11_tell_41 : decode (mC M_X11_tell) 41 = .ok (.iadd, 1) := by decide +kernel
theorem d_X11_tell_42 : decode (mC M_X11_tell) 42 = .ok (.putfield 200, 3) := by decide +kernel
theorem d_X11_tell_45 : decode (mC M_X11_tell) 45 = .ok (.aload_n 0, 1) := by decide +kernel
theorem d_X11_tell_46 : decode (mC M_X11_tell) 46 = .ok (.getfield 49, 3) := by decide +kernel
theorem d_X11_tell_49 : decode (mC M_X11_tell) 49 = .ok (.aload_n 3, 1) := by decide +kernel
theorem d_X11_tell_50 : decode (mC M_X11_tell) 50 = .ok (.iload_n 2, 1) := by decide +kernel
theorem d_X11_tell_51 : decode (mC M_X11_tell) 51 = .ok (.invokevirtual 203, 3) := by decide +kernel
theorem d_X11_tell_54 : decode (mC M_X11_tell) 54 = .ok (.ireturn, 1) := by decide +kernel
theorem d_X11_within_0 : decode (mC M_X11_within) 0 = .ok (.iload_n 0, 1) := by decide +kernel
theorem d_X11_within_1 : decode (mC M_X11_within) 1 = .ok (.iload_n 1, 1) := by decide +kernel
theorem d_X11_within_2 : decode (mC M_X11_within) 2 = .ok (.if_icmp .lt 12, 3) := by decide +kernel
theorem d_X11_within_5 : decode (mC M_X11_within) 5 = .ok (.iload_n 0, 1) := by decide +kernel
theorem d_X11_within_6 : decode (mC M_X11_within) 6 = .ok (.iload_n 2, 1) := by decide +kernel
theorem d_X11_within_7 : decode (mC M_X11_within) 7 = .ok (.if_icmp .gt 7, 3) := by decide +kernel
theorem d_X11_within_10 : decode (mC M_X11_within) 10 = .ok (.iconst 1, 1) := by decide +kernel
theorem d_X11_within_11 : decode (mC M_X11_within) 11 = .ok (.goto 4, 3) := by decide +kernel
theorem d_X11_within_14 : decode (mC M_X11_within) 14 = .ok (.iconst 0, 1) := by decide +kernel
theorem d_X11_within_15 : decode (mC M_X11_within) 15 = .ok (.ireturn, 1) := by decide +kernel
theorem d_X12_about_0 : decode (mC M_X12_about) 0 = .ok (.aload_n 0, 1) := by decide +kernel
theorem d_X12_about_1 : decode (mC M_X12_about) 1 = .ok (.iconst 0, 1) := by decide +kernel
theorem d_X12_about_2 : decode (mC M_X12_about) 2 = .ok (.putfield 1, 3) := by decide +kernel
theorem d_X12_about_5 : decode (mC M_X12_about) 5 = .ok (.aload_n 0, 1) := by decide +kernel
theorem d_X12_about_6 : decode (mC M_X12_about) 6 = .ok (.iload_n 1, 1) := by decide +kernel
theorem d_X12_about_7 : decode (mC M_X12_about) 7 = .ok (.invokevirtual 159, 3) := by decide +kernel
theorem d_X12_about_10 : decode (mC M_X12_about) 10 = .ok (.ifCond .ne 5, 3) := by decide +kernel
theorem d_X12_about_13 : decode (mC M_X12_about) 13 = .ok (.iconst (-1), 1) := by decide +kernel
theorem d_X12_about_14 : decode (mC M_X12_about) 14 = .ok (.ireturn, 1) := by decide +kernel
theorem d_X12_about_15 : decode (mC M_X12_about) 15 = .ok (.iload_n 2, 1) := by decide +kernel
theorem d_X12_about_16 : decode (mC M_X12_about) 16 = .ok (.tableswitch 112 0 7 #[48, 55, 62, 69, 76, 83, 98, 105], 48) := by decide +kernel
theorem d_X12_about_64 : decode (mC M_X12_about) 64 = .ok (.aload_n 0, 1) := by decide +kernel
theorem d_X12_about_65 : decode (mC M_X12_about) 65 = .ok (.getfield 13, 3) := by decide +kernel
theorem d_X12_about_68 : decode (mC M_X12_about) 68 = .ok (.iload_n 1, 1) := by decide +kernel
theorem d_X12_about_69 : decode (mC M_X12_about) 69 = .ok (.iaload, 1) := by decide +kernel
theorem d_X12_about_70 : decode (mC M_X12_about) 70 = .ok (.ireturn, 1) := by decide +kernel
theorem d_X12_about_71 : decode (mC M_X12_about) 71 = .ok (.aload_n 0, 1) := by decide +kernel
theorem d_X12_about_72 : decode (mC M_X12_about) 72 = .ok (.getfield 17, 3) := by decide +kernel
theorem d_X12_about_75 : decode (mC M_X12_about) 75 = .ok (.iload_n 1, 1) := by decide +kernel
theorem d_X12_about_76 : decode (mC M_X12_about) 76 = .ok (.iaload, 1) := by decide +kernel
theorem d_X12_about_77 : decode (mC M_X12_about) 77 = .ok (.ireturn, 1) := by decide +kernel
theorem d_X12_about_78 : decode (mC M_X12_about) 78 = .ok (.aload_n 0, 1) := by decide +kernel
theorem d_X12_about_79 : decode (mC M_X12_about) 79 = .ok (.getfield 20, 3) := by decide +kernel
theorem d_X12_about_82 : decode (mC M_X12_about) 82 = .ok (.iload_n 1, 1) := by decide +kernel
theorem d_X12_about_83 : decode (mC M_X12_about) 83 = .ok (.iaload, 1) := by decide +kernel
theorem d_X12_about_84 : decode (mC M_X12_about) 84 = .ok (.ireturn, 1) := by decide +kernel
theorem d_X12_about_85 : decode (mC M_X12_about) 85 = .ok (.aload_n 0, 1) := by decide +kernel
theorem d_X12_about_86 : decode (mC M_X12_about) 86 = .ok (.getfield 23, 3) := by decide +kernel
theorem d_X12_about_89 : decode (mC M_X12_about) 89 = .ok (.iload_n 1, 1) := by decide +kernel
theorem d_X12_about_90 : decode (mC M_X12_about) 90 = .ok (.iaload, 1) := by decide +kernel
theorem d_X12_about_91 : decode (mC M_X12_about) 91 = .ok (.ireturn, 1) := by decide +kernel
theorem d_X12_about_92 : decode (mC M_X12_about) 92 = .ok (.aload_n 0, 1) := by decide +kernel
theorem d_X12_about_93 : decode (mC M_X12_about) 93 = .ok (.getfield 26, 3) := by decide +kernel
theorem d_X12_about_96 : decode (mC M_X12_about) 96 = .ok (.iload_n 1, 1) := by decide +kernel
theorem d_X12_about_97 : decode (mC M_X12_about) 97 = .ok (.iaload, 1) := by decide +kernel
theorem d_X12_about_98 : decode (mC M_X12_about) 98 = .ok (.ireturn, 1) := by decide +kernel
theorem d_X12_about_99 : decode (mC M_X12_about) 99 = .ok (.aload_n 0, 1) := by decide +kernel
theorem d_X12_about_100 : decode (mC M_X12_about) 100 = .ok (.getfield 29, 3) := by decide +kernel
theorem d_X12_about_103 : decode (mC M_X12_about) 103 = .ok (.iload_n 1, 1) := by decide +kernel
theorem d_X12_about_104 : decode (mC M_X12_about) 104 = .ok (.baload, 1) := by decide +kernel
theorem d_X12_about_105 : decode (mC M_X12_about) 105 = .ok (.ifCond .eq 7, 3) := by decide +kernel
theorem d_X12_about_108 : decode (mC M_X12_about) 108 = .ok (.iconst 1, 1) := by decide +kernel
theorem d_X12_about_109 : decode (mC M_X12_about) 109 = .ok (.goto 4, 3) := by decide +kernel
theorem d_X12_about_112 : decode (mC M_X12_about) 112 = .ok (.iconst 0, 1) := by decide +kernel
theorem d_X12_about_113 : decode (mC M_X12_about) 113 = .ok (.ireturn, 1) := by decide +kernel
theorem d_X12_about_114 : decode (mC M_X12_about) 114 = .ok (.aload_n 0, 1) := by decide +kernel
theorem d_X12_about_115 : decode (mC M_X12_about) 115 = .ok (.getfield 33, 3) := by decide +kernel
theorem d_X12_about_118 : decode (mC M_X12_about) 118 = .ok (.iload_n 1, 1) := by decide +kernel
theorem d_X12_about_119 : decode (mC M_X12_about) 119 = .ok (.iaload, 1) := by decide +kernel
theorem d_X12_about_120 : decode (mC M_X12_about) 120 = .ok (.ireturn, 1) := by decide +kernel
theorem d_X12_about_121 : decode (mC M_X12_about) 121 = .ok (.aload_n 0, 1) := by decide +kernel
theorem d_X12_about_122 : decode (mC M_X12_about) 122 = .ok (.getfield 36, 3) := by decide +kernel
theorem d_X12_about_125 : decode (mC M_X12_about) 125 = .ok (.iload_n 1, 1) := by decide +kernel
theorem d_X12_about_126 : decode (mC M_X12_about) 126 = .ok (.iaload, 1) := by decide +kernel
theorem d_X12_about_127 : decode (mC M_X12_about) 127 = .ok (.ireturn, 1) := by decide +kernel
theorem d_X12_about_128 : decode (mC M_X12_about) 128 = .ok (.iconst (-1), 1) := by decide +kernel
theorem d_X12_about_129 : decode (mC M_X12_about) 129 = .ok (.ireturn, 1) := by decide +kernel
theorem d_X12_agree_0 : decode (mC M_X12_agree) 0 = .ok (.aload_n 0, 1) := by decide +kernel
theorem d_X12_agree_1 : decode (mC M_X12_agree) 1 = .ok (.iconst 0, 1) := by decide +kernel
theorem d_X12_agree_2 : decode (mC M_X12_agree) 2 = .ok (.putfield 1, 3) := by decide +kernel
theorem d_X12_agree_5 : decode (mC M_X12_agree) 5 = .ok (.aload_n 0, 1) := by decide +kernel
theorem d_X12_agree_6 : decode (mC M_X12_agree) 6 = .ok (.getfield 345, 3) := by decide +kernel
theorem d_X12_agree_9 : decode (mC M_X12_agree) 9 = .ok (.bipush 30, 2) := by decide +kernel
theorem d_X12_agree_11 : decode (mC M_X12_agree) 11 = .ok (.if_icmp .ne 6, 3) := by decide +kernel
theorem d_X12_agree_14 : decode (mC M_X12_agree) 14 = .ok (.bipush (-2), 2) := by decide +kernel
theorem d_X12_agree_16 : decode (mC M_X12_agree) 16 = .ok (.ireturn, 1) := by decide +kernel
theorem d_X12_agree_17 : decode (mC M_X12_agree) 17 = .ok (.aload_n 0, 1) := by decide +kernel
theorem d_X12_agree_18 : decode (mC M_X12_agree) 18 = .ok (.iconst 0, 1) := by decide +kernel
theorem d_X12_agree_19 : decode (mC M_X12_agree) 19 = .ok (.putfield 221, 3) := by decide +kernel
theorem d_X12_agree_22 : decode (mC M_X12_agree) 22 = .ok (.aload_n 0, 1) := by decide +kernel
theorem d_X12_agree_23 : decode (mC M_X12_agree) 23 = .ok (.getfield 103, 3) := by decide +kernel
theorem d_X12_agree_26 : decode (mC M_X12_agree) 26 = .ok (.aload_n 0, 1) := by decide +kernel
theorem d_X12_agree_27 : decode (mC M_X12_agree) 27 = .ok (.getfield 345, 3) := by decide +kernel
theorem d_X12_agree_30 : decode (mC M_X12_agree) 30 = .ok (.iconst 0, 1) := by decide +kernel
theorem d_X12_agree_31 : decode (mC M_X12_agree) 31 = .ok (.iastore, 1) := by decide +kernel
theorem d_X12_agree_32 : decode (mC M_X12_agree) 32 = .ok (.aload_n 0, 1) := by decide +kernel
theorem d_X12_agree_33 : decode (mC M_X12_agree) 33 = .ok (.aload_n 0, 1) := by decide +kernel
theorem d_X12_agree_34 : decode (mC M_X12_agree) 34 = .ok (.getfield 48, 3) := by decide +kernel
theorem d_X12_agree_37 : decode (mC M_X12_agree) 37 = .ok (.aload_n 0, 1) := by decide +kernel
theorem d_X12_agree_38 : decode (mC M_X12_agree) 38 = .ok (.getfield 177, 3) := by decide +kernel
theorem d_X12_agree_41 : decode (mC M_X12_agree) 41 = .ok (.iconst 0, 1) := by decide +kernel
theorem d_X12_agree_42 : decode (mC M_X12_agree) 42 = .ok (.invokevirtual 288, 3) := by decide +kernel
theorem d_X12_agree_45 : decode (mC M_X12_agree) 45 = .ok (.aload_n 0, 1) := by decide +kernel
theorem d_X12_agree_46 : decode (mC M_X12_agree) 46 = .ok (.getfield 221, 3) := by decide +kernel
theorem d_X12_agree_49 : decode (mC M_X12_agree) 49 = .ok (.ifCond .ne 17, 3) := by decide +kernel
theorem d_X12_agree_52 : decode (mC M_X12_agree) 52 = .ok (.aload_n 0, 1) := by decide +kernel
theorem d_X12_agree_53 : decode (mC M_X12_agree) 53 = .ok (.getfield 192, 3) := by decide +kernel
theorem d_X12_agree_56 : decode (mC M_X12_agree) 56 = .ok (.ifCond .eq 10, 3) := by decide +kernel
theorem d_X12_agree_59 : decode (mC M_X12_agree) 59 = .ok (.aload_n 0, 1) := by decide +kernel
theorem d_X12_agree_60 : decode (mC M_X12_agree) 60 = .ok (.invokevirtual 354, 3) := by decide +kernel
theorem d_X12_agree_63 : decode (mC M_X12_agree) 63 = .ok (.goto (-18), 3) := by decide +kernel
theorem d_X12_agree_66 : decode (mC M_X12_agree) 66 = .ok (.aload_n 0, 1) := by decide +kernel
theorem d_X12_agree_67 : decode (mC M_X12_agree) 67 = .ok (.iconst 0, 1) := by decide +kernel
theorem d_X12_agree_68 : decode (mC M_X12_agree) 68 = .ok (.putfield 177, 3) := by decide +kernel
theorem d_X12_agree_71 : decode (mC M_X12_agree) 71 = .ok (.aload_n 0, 1) := by decide +kernel
theorem d_X12_agree_72 : decode (mC M_X12_agree) 72 = .ok (.aload_n 0, 1) := by decide +kernel
theorem d_X12_agree_73 : decode (mC M_X12_agree) 73 = .ok (.getfield 221, 3) := by decide +kernel
theorem d_X12_agree_76 : decode (mC M_X12_agree) 76 = .ok (.ifCond .ne 7, 3) := by decide +kernel
theorem d_X12_agree_79 : decode (mC M_X12_agree) 79 = .ok (.iconst (-1), 1) := by decide +kernel
theorem d_X12_agree_80 : decode (mC M_X12_agree) 80 = .ok (.goto 7, 3) := by decide +kernel
theorem d_X12_agree_83 : decode (mC M_X12_agree) 83 = .ok (.aload_n 0, 1) := by decide +kernel
theorem d_X12_agree_84 : decode (mC M_X12_agree) 84 = .ok (.getfield 224, 3) := by decide +kernel
theorem d_X12_agree_87 : decode (mC M_X12_agree) 87 = .ok (.putfield 52, 3) := by decide +kernel
theorem d_X12_agree_90 : decode (mC M_X12_agree) 90 = .ok (.aload_n 0, 1) := by decide +kernel
theorem d_X12_agree_91 : decode (mC M_X12_agree) 91 = .ok (.getfield 221, 3) := by decide +kernel
theorem d_X12_agree_94 : decode (mC M_X12_agree) 94 = .ok (.ifCond .eq 11, 3) := by decide +kernel
theorem d_X12_agree_97 : decode (mC M_X12_agree) 97 = .ok (.bipush (-2), 2) := by decide +kernel
theorem d_X12_agree_99 : decode (mC M_X12_agree) 99 = .ok (.aload_n 0, 1) := by decide +kernel
theorem d_X12_agree_100 : decode (mC M_X12_agree) 100 = .ok (.getfield 221, 3) := by decide +kernel
theorem d_X12_agree_103 : decode (mC M_X12_agree) 103 = .ok (.isub, 1) := by decide +kernel
theorem d_X12_agree_104 : decode (mC M_X12_agree) 104 = .ok (.ireturn, 1) := by decide +kernel
theorem d_X12_agree_105 : decode (mC M_X12_agree) 105 = .ok (.aload_n 0, 1) := by decide +kernel
theorem d_X12_agree_106 : decode (mC M_X12_agree) 106 = .ok (.dup, 1) := by decide +kernel
theorem d_X12_agree_107 : decode (mC M_X12_agree) 107 = .ok (.getfield 345, 3) := by decide +kernel
theorem d_X12_agree_110 : decode (mC M_X12_agree) 110 = .ok (.iconst 1, 1) := by decide +kernel
theorem d_X12_agree_111 : decode (mC M_X12_agree) 111 = .ok (.iadd, 1) := by decide +kernel
theorem d_X12_agree_112 : decode (mC M_X12_agree) 112 = .ok (.putfield 345, 3) := by decide +kernel
theorem d_X12_agree_115 : decode (mC M_X12_agree) 115 = .ok (.aload_n 0, 1) := by decide +kernel
theorem d_X12_agree_116 : decode (mC M_X12_agree) 116 = .ok (.getfield 345, 3) := by decide +kernel
theorem d_X12_agree_119 : decode (mC M_X12_agree) 119 = .ok (.iconst 1, 1) := by decide +kernel
theorem d_X12_agree_120 : decode (mC M_X12_agree) 120 = .ok (.isub, 1) := by decide +kernel
theorem d_X12_agree_121 : decode (mC M_X12_agree) 121 = .ok (.ireturn, 1) := by decide +kernel
theorem d_X12_all_0 : decode (mC M_X12_all) 0 = .ok (.aload_n 0, 1) := by decide +kernel
theorem d_X12_all_1 : decode (mC M_X12_all) 1 = .ok (.iload_n 1, 1) := by decide +kernel
theorem d_X12_all_2 : decode (mC M_X12_all) 2 = .ok (.invokevirtual 243, 3) := by decide +kernel
theorem d_X12_all_5 : decode (mC M_X12_all) 5 = .ok (.istore_n 2, 1) := by decide +kernel
theorem d_X12_all_6 : decode (mC M_X12_all) 6 = .ok (.aload_n 0, 1) := by decide +kernel
theorem d_X12_all_7 : decode (mC M_X12_all) 7 = .ok (.getfield 221, 3) := by decide +kernel
theorem d_X12_all_10 : decode (mC M_X12_all) 10 = .ok (.ifCond .ne 39, 3) := by decide +kernel
theorem d_X12_all_13 : decode (mC M_X12_all) 13 = .ok (.aload_n 0, 1) := by decide +kernel
theorem d_X12_all_14 : decode (mC M_X12_all) 14 = .ok (.ldc 246, 2) := by decide +kernel
theorem d_X12_all_16 : decode (mC M_X12_all) 16 = .ok (.invokevirtual 234, 3) := by decide +kernel
theorem d_X12_all_19 : decode (mC M_X12_all) 19 = .ok (.ifCond .eq 30, 3) := by decide +kernel
theorem d_X12_all_22 : decode (mC M_X12_all) 22 = .ok (.aload_n 0, 1) := by decide +kernel
theorem d_X12_all_23 : decode (mC M_X12_all) 23 = .ok (.invokevirtual 208, 3) := by decide +kernel
theorem d_X12_all_26 : decode (mC M_X12_all) 26 = .ok (.aload_n 0, 1) := by decide +kernel
theorem d_X12_all_27 : decode (mC M_X12_all) 27 = .ok (.iload_n 1, 1) := by decide +kernel
theorem d_X12_all_28 : decode (mC M_X12_all) 28 = .ok (.invokevirtual 243, 3) := by decide +kernel
theorem d_X12_all_31 : decode (mC M_X12_all) 31 = .ok (.istore_n 3, 1) := by decide +kernel
theorem d_X12_all_32 : decode (mC M_X12_all) 32 = .ok (.iload_n 2, 1) := by decide +kernel
theorem d_X12_all_33 : decode (mC M_X12_all) 33 = .ok (.ifCond .eq 11, 3) := by decide +kernel
theorem d_X12_all_36 : decode (mC M_X12_all) 36 = .ok (.iload_n 3, 1) := by decide +kernel
theorem d_X12_all_37 : decode (mC M_X12_all) 37 = .ok (.ifCond .eq 7, 3) := by decide +kernel
theorem d_X12_all_40 : decode (mC M_X12_all) 40 = .ok (.iconst 1, 1) := by decide +kernel
theorem d_X12_all_41 : decode (mC M_X12_all) 41 = .ok (.goto 4, 3) := by decide +kernel
theorem d_X12_all_44 : decode (mC M_X12_all) 44 = .ok (.iconst 0, 1) := by decide +kernel
theorem d_X12_all_45 : decode (mC M_X12_all) 45 = .ok (.istore_n 2, 1) := by decide +kernel
theorem d_X12_all_46 : decode (mC M_X12_all) 46 = .ok (.goto (-40), 3) := by decide +kernel
theorem d_X12_all_49 : decode (mC M_X12_all) 49 = .ok (.iload_n 2, 1) := by decide +kernel
theorem d_X12_all_50 : decode (mC M_X12_all) 50 = .ok (.ireturn, 1) := by decide +kernel
theorem d_X12_allCalled_0 : decode (mC M_X12_allCalled) 0 = .ok (.iconst 0, 1) := by decide +kernel
theorem d_X12_allCalled_1 : decode (mC M_X12_allCalled) 1 = .ok (.istore_n 1, 1) := by decide +kernel
theorem d_X12_allCalled_2 : decode (mC M_X12_allCalled) 2 = .ok (.iconst 0, 1) := by decide +kernel
theorem d_X12_allCalled_3 : decode (mC M_X12_allCalled) 3 = .ok (.istore_n 2, 1) := by decide +kernel
theorem d_X12_allCalled_4 : decode (mC M_X12_allCalled) 4 = .ok (.iload_n 2, 1) := by decide +kernel
theorem d_X12_allCalled_5 : decode (mC M_X12_allCalled) 5 = .ok (.aload_n 0, 1) := by decide +kernel
theorem d_X12_allCalled_6 : decode (mC M_X12_allCalled) 6 = .ok (.getfield 151, 3) := by decide +kernel
theorem d_X12_allCalled_9 : decode (mC M_X12_allCalled) 9 = .ok (.if_icmp .ge 22, 3) := by decide +kernel
theorem d_X12_allCalled_12 : decode (mC M_X12_allCalled) 12 = .ok (.aload_n 0, 1) := by decide +kernel
theorem d_X12_allCalled_13 : decode (mC M_X12_allCalled) 13 = .ok (.getfield 39, 3) := by decide +kernel
theorem d_X12_allCalled_16 : decode (mC M_X12_allCalled) 16 = .ok (.iload_n 2, 1) := by decide +kernel
theorem d_X12_allCalled_17 : decode (mC M_X12_allCalled) 17 = .ok (.iaload, 1) := by decide +kernel
theorem d_X12_allCalled_18 : decode (mC M_X12_allCalled) 18 = .ok (.iconst (-1), 1) := by decide +kernel
theorem d_X12_allCalled_19 : decode (mC M_X12_allCalled) 19 = .ok (.if_icmp .eq 6, 3) := by decide +kernel
theorem d_X12_allCalled_22 : decode (mC M_X12_allCalled) 22 = .ok (.iinc 1 1, 3) := by decide +kernel
theorem d_X12_allCalled_25 : decode (mC M_X12_allCalled) 25 = .ok (.iinc 2 1, 3) := by decide +kernel
theorem d_X12_allCalled_28 : decode (mC M_X12_allCalled) 28 = .ok (.goto (-24), 3) := by decide +kernel
theorem d_X12_allCalled_31 : decode (mC M_X12_allCalled) 31 = .ok (.iload_n 1, 1) := by decide +kernel
theorem d_X12_allCalled_32 : decode (mC M_X12_allCalled) 32 = .ok (.ireturn, 1) := by decide +kernel
theorem d_X12_ask_0 : decode (mC M_X12_ask) 0 = .ok (.aload_n 0, 1) := by decide +kernel
theorem d_X12_ask_1 : decode (mC M_X12_ask) 1 = .ok (.iconst 0, 1) := by decide +kernel
theorem d_X12_ask_2 : decode (mC M_X12_ask) 2 = .ok (.putfield 1, 3) := by decide +kernel
theorem d_X12_ask_5 : decode (mC M_X12_ask) 5 = .ok (.aload_n 0, 1) := by decide +kernel
theorem d_X12_ask_6 : decode (mC M_X12_ask) 6 = .ok (.iload_n 1, 1) := by decide +kernel
theorem d_X12_ask_7 : decode (mC M_X12_ask) 7 = .ok (.invokevirtual 311, 3) := by decide +kernel
theorem d_X12_ask_10 : decode (mC M_X12_ask) 10 = .ok (.ifCond .ne 5, 3) := by decide +kernel
theorem d_X12_ask_13 : decode (mC M_X12_ask) 13 = .ok (.iconst (-1), 1) := by decide +kernel
theorem d_X12_ask_14 : decode (mC M_X12_ask) 14 = .ok (.ireturn, 1) := by decide +kernel
theorem d_X12_ask_15 : decode (mC M_X12_ask) 15 = .ok (.iload_n 2, 1) := by decide +kernel
theorem d_X12_ask_16 : decode (mC M_X12_ask) 16 = .ok (.tableswitch 70 0 4 #[36, 43, 50, 57, 64], 36) := by decide +kernel
theorem d_X12_ask_52 : decode (mC M_X12_ask) 52 = .ok (.aload_n 0, 1) := by decide +kernel
theorem d_X12_ask_53 : decode (mC M_X12_ask) 53 = .ok (.getfield 58, 3) := by decide +kernel
theorem d_X12_ask_56 : decode (mC M_X12_ask) 56 = .ok (.iload_n 1, 1) := by decide +kernel
theorem d_X12_ask_57 : decode (mC M_X12_ask) 57 = .ok (.iaload, 1) := by decide +kernel
theorem d_X12_ask_58 : decode (mC M_X12_ask) 58 = .ok (.ireturn, 1) := by decide +kernel
theorem d_X12_ask_59 : decode (mC M_X12_ask) 59 = .ok (.aload_n 0, 1) := by decide +kernel
theorem d_X12_ask_60 : decode (mC M_X12_ask) 60 = .ok (.getfield 61, 3) := by decide +kernel
theorem d_X12_ask_63 : decode (mC M_X12_ask) 63 = .ok (.iload_n 1, 1) := by decide +kernel
theorem d_X12_ask_64 : decode (mC M_X12_ask) 64 = .ok (.iaload, 1) := by decide +kernel
theorem d_X12_ask_65 : decode (mC M_X12_ask) 65 = .ok (.ireturn, 1) := by decide +kernel
theorem d_X12_ask_66 : decode (mC M_X12_ask) 66 = .ok (.aload_n 0, 1) := by decide +kernel
theorem d_X12_ask_67 : decode (mC M_X12_ask) 67 = .ok (.getfield 64, 3) := by decide +kernel
theorem d_X12_ask_70 : decode (mC M_X12_ask) 70 = .ok (.iload_n 1, 1) := by decide +kernel
theorem d_X12_ask_71 : decode (mC M_X12_ask) 71 = .ok (.iaload, 1) := by decide +kernel
theorem d_X12_ask_72 : decode (mC M_X12_ask) 72 = .ok (.ireturn, 1) := by decide +kernel
theorem d_X12_ask_73 : decode (mC M_X12_ask) 73 = .ok (.aload_n 0, 1) := by decide +kernel
theorem d_X12_ask_74 : decode (mC M_X12_ask) 74 = .ok (.getfield 67, 3) := by decide +kernel
theorem d_X12_ask_77 : decode (mC M_X12_ask) 77 = .ok (.iload_n 1, 1) := by decide +kernel
theorem d_X12_ask_78 : decode (mC M_X12_ask) 78 = .ok (.iaload, 1) := by decide +kernel
theorem d_X12_ask_79 : decode (mC M_X12_ask) 79 = .ok (.ireturn, 1) := by decide +kernel
theorem d_X12_ask_80 : decode (mC M_X12_ask) 80 = .ok (.aload_n 0, 1) := by decide +kernel
theorem d_X12_ask_81 : decode (mC M_X12_ask) 81 = .ok (.iload_n 1, 1) := by decide +kernel
theorem d_X12_ask_82 : decode (mC M_X12_ask) 82 = .ok (.invokevirtual 317, 3) := by decide +kernel
theorem d_X12_ask_85 : decode (mC M_X12_ask) 85 = .ok (.ireturn, 1) := by decide +kernel
theorem d_X12_ask_86 : decode (mC M_X12_ask) 86 = .ok (.iconst (-1), 1) := by decide +kernel
theorem d_X12_ask_87 : decode (mC M_X12_ask) 87 = .ok (.ireturn, 1) := by decide +kernel
theorem d_X12_asks_0 : decode (mC M_X12_asks) 0 = .ok (.aload_n 0, 1) := by decide +kernel
theorem d_X12_asks_1 : decode (mC M_X12_asks) 1 = .ok (.iconst 0, 1) := by decide +kernel
theorem d_X12_asks_2 : decode (mC M_X12_asks) 2 = .ok (.putfield 1, 3) := by decide +kernel
theorem d_X12_asks_5 : decode (mC M_X12_asks) 5 = .ok (.aload_n 0, 1) := by decide +kernel
theorem d_X12_asks_6 : decode (mC M_X12_asks) 6 = .ok (.iconst 0, 1) := by decide +kernel
theorem d_X12_asks_7 : decode (mC M_X12_asks) 7 = .ok (.putfield 221, 3) := by decide +kernel
theorem d_X12_asks_10 : decode (mC M_X12_asks) 10 = .ok (.aload_n 0, 1) := by decide +kernel
theorem d_X12_asks_11 : decode (mC M_X12_asks) 11 = .ok (.iconst 1, 1) := by decide +kernel
theorem d_X12_asks_12 : decode (mC M_X12_asks) 12 = .ok (.putfield 263, 3) := by decide +kernel
theorem d_X12_asks_15 : decode (mC M_X12_asks) 15 = .ok (.aload_n 0, 1) := by decide +kernel
theorem d_X12_asks_16 : decode (mC M_X12_asks) 16 = .ok (.iconst 0, 1) := by decide +kernel
theorem d_X12_asks_17 : decode (mC M_X12_asks) 17 = .ok (.putfield 277, 3) := by decide +kernel
theorem d_X12_asks_20 : decode (mC M_X12_asks) 20 = .ok (.aload_n 0, 1) := by decide +kernel
theorem d_X12_asks_21 : decode (mC M_X12_asks) 21 = .ok (.aload_n 0, 1) := by decide +kernel
theorem d_X12_asks_22 : decode (mC M_X12_asks) 22 = .ok (.getfield 48, 3) := by decide +kernel
theorem d_X12_asks_25 : decode (mC M_X12_asks) 25 = .ok (.aload_n 0, 1) := by decide +kernel
theorem d_X12_asks_26 : decode (mC M_X12_asks) 26 = .ok (.getfield 177, 3) := by decide +kernel
theorem d_X12_asks_29 : decode (mC M_X12_asks) 29 = .ok (.iconst 0, 1) := by decide +kernel
theorem d_X12_asks_30 : decode (mC M_X12_asks) 30 = .ok (.invokevirtual 288, 3) := by decide +kernel
theorem d_X12_asks_33 : decode (mC M_X12_asks) 33 = .ok (.aload_n 0, 1) := by decide +kernel
theorem d_X12_asks_34 : decode (mC M_X12_asks) 34 = .ok (.getfield 221, 3) := by decide +kernel
theorem d_X12_asks_37 : decode (mC M_X12_asks) 37 = .ok (.ifCond .ne 17, 3) := by decide +kernel
theorem d_X12_asks_40 : decode (mC M_X12_asks) 40 = .ok (.aload_n 0, 1) := by decide +kernel
theorem d_X12_asks_41 : decode (mC M_X12_asks) 41 = .ok (.getfield 192, 3) := by decide +kernel
theorem d_X12_asks_44 : decode (mC M_X12_asks) 44 = .ok (.ifCond .eq 10, 3) := by decide +kernel
theorem d_X12_asks_47 : decode (mC M_X12_asks) 47 = .ok (.aload_n 0, 1) := by decide +kernel
theorem d_X12_asks_48 : decode (mC M_X12_asks) 48 = .ok (.invokevirtual 292, 3) := by decide +kernel
theorem d_X12_asks_51 : decode (mC M_X12_asks) 51 = .ok (.goto (-18), 3) := by decide +kernel
theorem d_X12_asks_54 : decode (mC M_X12_asks) 54 = .ok (.aload_n 0, 1) := by decide +kernel
theorem d_X12_asks_55 : decode (mC M_X12_asks) 55 = .ok (.getfield 177, 3) := by decide +kernel
theorem d_X12_asks_58 : decode (mC M_X12_asks) 58 = .ok (.istore_n 1, 1) := by decide +kernel
theorem d_X12_asks_59 : decode (mC M_X12_asks) 59 = .ok (.aload_n 0, 1) := by decide +kernel
theorem d_X12_asks_60 : decode (mC M_X12_asks) 60 = .ok (.iconst 0, 1) := by decide +kernel
theorem d_X12_asks_61 : decode (mC M_X12_asks) 61 = .ok (.putfield 177, 3) := by decide +kernel
theorem d_X12_asks_64 : decode (mC M_X12_asks) 64 = .ok (.aload_n 0, 1) := by decide +kernel
theorem d_X12_asks_65 : decode (mC M_X12_asks) 65 = .ok (.aload_n 0, 1) := by decide +kernel
theorem d_X12_asks_66 : decode (mC M_X12_asks) 66 = .ok (.getfield 221, 3) := by decide +kernel
theorem d_X12_asks_69 : decode (mC M_X12_asks) 69 = .ok (.ifCond .ne 7, 3) := by decide +kernel
theorem d_X12_asks_72 : decode (mC M_X12_asks) 72 = .ok (.iconst (-1), 1) := by decide +kernel
theorem d_X12_asks_73 : decode (mC M_X12_asks) 73 = .ok (.goto 7, 3) := by decide +kernel
theorem d_X12_asks_76 : decode (mC M_X12_asks) 76 = .ok (.aload_n 0, 1) := by decide +kernel
theorem d_X12_asks_77 : decode (mC M_X12_asks) 77 = .ok (.getfield 224, 3) := by decide +kernel
theorem d_X12_asks_80 : decode (mC M_X12_asks) 80 = .ok (.putfield 52, 3) := by decide +kernel
theorem d_X12_asks_83 : decode (mC M_X12_asks) 83 = .ok (.aload_n 0, 1) := by decide +kernel
theorem d_X12_asks_84 : decode (mC M_X12_asks) 84 = .ok (.getfield 221, 3) := by decide +kernel
theorem d_X12_asks_87 : decode (mC M_X12_asks) 87 = .ok (.ifCond .eq 11, 3) := by decide +kernel
theorem d_X12_asks_90 : decode (mC M_X12_asks) 90 = .ok (.bipush (-2), 2) := by decide +kernel
theorem d_X12_asks_92 : decode (mC M_X12_asks) 92 = .ok (.aload_n 0, 1) := by decide +kernel
theorem d_X12_asks_93 : decode (mC M_X12_asks) 93 = .ok (.getfield 221, 3) := by decide +kernel
theorem d_X12_asks_96 : decode (mC M_X12_asks) 96 = .ok (.isub, 1) := by decide +kernel
theorem d_X12_asks_97 : decode (mC M_X12_asks) 97 = .ok (.ireturn, 1) := by decide +kernel
theorem d_X12_asks_98 : decode (mC M_X12_asks) 98 = .ok (.iconst 0, 1) := by decide +kernel
theorem d_X12_asks_99 : decode (mC M_X12_asks) 99 = .ok (.istore_n 2, 1) := by decide +kernel
theorem d_X12_asks_100 : decode (mC M_X12_asks) 100 = .ok (.iload_n 2, 1) := by decide +kernel
theorem d_X12_asks_101 : decode (mC M_X12_asks) 101 = .ok (.iload_n 1, 1) := by decide +kernel
theorem d_X12_asks_102 : decode (mC M_X12_asks) 102 = .ok (.if_icmp .ge 21, 3) := by decide +kernel
theorem d_X12_asks_105 : decode (mC M_X12_asks) 105 = .ok (.aload_n 0, 1) := by decide +kernel
theorem d_X12_asks_106 : decode (mC M_X12_asks) 106 = .ok (.getfield 55, 3) := by decide +kernel
theorem d_X12_asks_109 : decode (mC M_X12_asks) 109 = .ok (.iload_n 2, 1) := by decide +kernel
theorem d_X12_asks_110 : decode (mC M_X12_asks) 110 = .ok (.aload_n 0, 1) := by decide +kernel
theorem d_X12_asks_111 : decode (mC M_X12_asks) 111 = .ok (.getfield 48, 3) := by decide +kernel
theorem d_X12_asks_114 : decode (mC M_X12_asks) 114 = .ok (.iload_n 2, 1) := by decide +kernel
theorem d_X12_asks_115 : decode (mC M_X12_asks) 115 = .ok (.baload, 1) := by decide +kernel
theorem d_X12_asks_116 : decode (mC M_X12_asks) 116 = .ok (.bastore, 1) := by decide +kernel
theorem d_X12_asks_117 : decode (mC M_X12_asks) 117 = .ok (.iinc 2 1, 3) := by decide +kernel
theorem d_X12_asks_120 : decode (mC M_X12_asks) 120 = .ok (.goto (-20), 3) := by decide +kernel
theorem d_X12_asks_123 : decode (mC M_X12_asks) 123 = .ok (.aload_n 0, 1) := by decide +kernel
theorem d_X12_asks_124 : decode (mC M_X12_asks) 124 = .ok (.iload_n 1, 1) := by decide +kernel
theorem d_X12_asks_125 : decode (mC M_X12_asks) 125 = .ok (.putfield 295, 3) := by decide +kernel
theorem d_X12_asks_128 : decode (mC M_X12_asks) 128 = .ok (.aload_n 0, 1) := by decide +kernel
theorem d_X12_asks_129 : decode (mC M_X12_asks) 129 = .ok (.aload_n 0, 1) := by decide +kernel
theorem d_X12_asks_130 : decode (mC M_X12_asks) 130 = .ok (.getfield 277, 3) := by decide +kernel
theorem d_X12_asks_133 : decode (mC M_X12_asks) 133 = .ok (.putfield 298, 3) := by decide +kernel
theorem d_X12_asks_136 : decode (mC M_X12_asks) 136 = .ok (.iconst 0, 1) := by decide +kernel
theorem d_X12_asks_137 : decode (mC M_X12_asks) 137 = .ok (.istore_n 2, 1) := by decide +kernel
theorem d_X12_asks_138 : decode (mC M_X12_asks) 138 = .ok (.iload_n 2, 1) := by decide +kernel
theorem d_X12_asks_139 : decode (mC M_X12_asks) 139 = .ok (.aload_n 0, 1) := by decide +kernel
theorem d_X12_asks_140 : decode (mC M_X12_asks) 140 = .ok (.getfield 298, 3) := by decide +kernel
theorem d_X12_asks_143 : decode (mC M_X12_asks) 143 = .ok (.if_icmp .ge 69, 3) := by decide +kernel
end
section
theorem d_X12_asks_146 : decode (mC M_X12_asks) 146 = .ok (.aload_n 0, 1) := by decide +kernel
theorem d_X12_asks_147 : decode (mC M_X12_asks) 147 = .ok (.getfield 58, 3) := by decide +kernel
theorem d_X12_asks_150 : decode (mC M_X12_asks) 150 = .ok (.iload_n 2, 1) := by decide +kernel
theorem d_X12_asks_151 : decode (mC M_X12_asks) 151 = .ok (.aload_n 0, 1) := by decide +kernel
theorem d_X12_asks_152 : decode (mC M_X12_asks) 152 = .ok (.getfield 73, 3) := by decide +kernel
theorem d_X12_asks_155 : decode (mC M_X12_asks) 155 = .ok (.iload_n 2, 1) := by decide +kernel
theorem d_X12_asks_156 : decode (mC M_X12_asks) 156 = .ok (.iaload, 1) := by decide +kernel
theorem d_X12_asks_157 : decode (mC M_X12_asks) 157 = .ok (.iastore, 1) := by decide +kernel
theorem d_X12_asks_158 : decode (mC M_X12_asks) 158 = .ok (.aload_n 0, 1) := by decide +kernel
theorem d_X12_asks_159 : decode (mC M_X12_asks) 159 = .ok (.getfield 61, 3) := by decide +kernel
theorem d_X12_asks_162 : decode (mC M_X12_asks) 162 = .ok (.iload_n 2, 1) := by decide +kernel
theorem d_X12_asks_163 : decode (mC M_X12_asks) 163 = .ok (.aload_n 0, 1) := by decide +kernel
theorem d_X12_asks_164 : decode (mC M_X12_asks) 164 = .ok (.getfield 76, 3) := by decide +kernel
theorem d_X12_asks_167 : decode (mC M_X12_asks) 167 = .ok (.iload_n 2, 1) := by decide +kernel
theorem d_X12_asks_168 : decode (mC M_X12_asks) 168 = .ok (.iaload, 1) := by decide +kernel
theorem d_X12_asks_169 : decode (mC M_X12_asks) 169 = .ok (.iastore, 1) := by decide +kernel
theorem d_X12_asks_170 : decode (mC M_X12_asks) 170 = .ok (.aload_n 0, 1) := by decide +kernel
theorem d_X12_asks_171 : decode (mC M_X12_asks) 171 = .ok (.getfield 64, 3) := by decide +kernel
theorem d_X12_asks_174 : decode (mC M_X12_asks) 174 = .ok (.iload_n 2, 1) := by decide +kernel
theorem d_X12_asks_175 : decode (mC M_X12_asks) 175 = .ok (.aload_n 0, 1) := by decide +kernel
theorem d_X12_asks_176 : decode (mC M_X12_asks) 176 = .ok (.getfield 79, 3) := by decide +kernel
theorem d_X12_asks_179 : decode (mC M_X12_asks) 179 = .ok (.iload_n 2, 1) := by decide +kernel
theorem d_X12_asks_180 : decode (mC M_X12_asks) 180 = .ok (.iaload, 1) := by decide +kernel
theorem d_X12_asks_181 : decode (mC M_X12_asks) 181 = .ok (.iastore, 1) := by decide +kernel
theorem d_X12_asks_182 : decode (mC M_X12_asks) 182 = .ok (.aload_n 0, 1) := by decide +kernel
theorem d_X12_asks_183 : decode (mC M_X12_asks) 183 = .ok (.getfield 67, 3) := by decide +kernel
theorem d_X12_asks_186 : decode (mC M_X12_asks) 186 = .ok (.iload_n 2, 1) := by decide +kernel
theorem d_X12_asks_187 : decode (mC M_X12_asks) 187 = .ok (.aload_n 0, 1) := by decide +kernel
theorem d_X12_asks_188 : decode (mC M_X12_asks) 188 = .ok (.getfield 82, 3) := by decide +kernel
theorem d_X12_asks_191 : decode (mC M_X12_asks) 191 = .ok (.iload_n 2, 1) := by decide +kernel
theorem d_X12_asks_192 : decode (mC M_X12_asks) 192 = .ok (.iaload, 1) := by decide +kernel
theorem d_X12_asks_193 : decode (mC M_X12_asks) 193 = .ok (.iastore, 1) := by decide +kernel
theorem d_X12_asks_194 : decode (mC M_X12_asks) 194 = .ok (.aload_n 0, 1) := by decide +kernel
theorem d_X12_asks_195 : decode (mC M_X12_asks) 195 = .ok (.getfield 70, 3) := by decide +kernel
theorem d_X12_asks_198 : decode (mC M_X12_asks) 198 = .ok (.iload_n 2, 1) := by decide +kernel
theorem d_X12_asks_199 : decode (mC M_X12_asks) 199 = .ok (.aload_n 0, 1) := by decide +kernel
theorem d_X12_asks_200 : decode (mC M_X12_asks) 200 = .ok (.getfield 85, 3) := by decide +kernel
theorem d_X12_asks_203 : decode (mC M_X12_asks) 203 = .ok (.iload_n 2, 1) := by decide +kernel
theorem d_X12_asks_204 : decode (mC M_X12_asks) 204 = .ok (.iaload, 1) := by decide +kernel
theorem d_X12_asks_205 : decode (mC M_X12_asks) 205 = .ok (.iastore, 1) := by decide +kernel
theorem d_X12_asks_206 : decode (mC M_X12_asks) 206 = .ok (.iinc 2 1, 3) := by decide +kernel
theorem d_X12_asks_209 : decode (mC M_X12_asks) 209 = .ok (.goto (-71), 3) := by decide +kernel
theorem d_X12_asks_212 : decode (mC M_X12_asks) 212 = .ok (.aload_n 0, 1) := by decide +kernel
theorem d_X12_asks_213 : decode (mC M_X12_asks) 213 = .ok (.invokevirtual 301, 3) := by decide +kernel
theorem d_X12_asks_216 : decode (mC M_X12_asks) 216 = .ok (.aload_n 0, 1) := by decide +kernel
theorem d_X12_asks_217 : decode (mC M_X12_asks) 217 = .ok (.getfield 298, 3) := by decide +kernel
theorem d_X12_asks_220 : decode (mC M_X12_asks) 220 = .ok (.ireturn, 1) := by decide +kernel
theorem d_X12_away_0 : decode (mC M_X12_away) 0 = .ok (.aload_n 0, 1) := by decide +kernel
theorem d_X12_away_1 : decode (mC M_X12_away) 1 = .ok (.iconst 0, 1) := by decide +kernel
theorem d_X12_away_2 : decode (mC M_X12_away) 2 = .ok (.putfield 1, 3) := by decide +kernel
theorem d_X12_away_5 : decode (mC M_X12_away) 5 = .ok (.aload_n 0, 1) := by decide +kernel
theorem d_X12_away_6 : decode (mC M_X12_away) 6 = .ok (.iload_n 1, 1) := by decide +kernel
theorem d_X12_away_7 : decode (mC M_X12_away) 7 = .ok (.invokevirtual 159, 3) := by decide +kernel
theorem d_X12_away_10 : decode (mC M_X12_away) 10 = .ok (.ifCond .eq 13, 3) := by decide +kernel
theorem d_X12_away_13 : decode (mC M_X12_away) 13 = .ok (.aload_n 0, 1) := by decide +kernel
theorem d_X12_away_14 : decode (mC M_X12_away) 14 = .ok (.getfield 39, 3) := by decide +kernel
theorem d_X12_away_17 : decode (mC M_X12_away) 17 = .ok (.iload_n 1, 1) := by decide +kernel
theorem d_X12_away_18 : decode (mC M_X12_away) 18 = .ok (.iaload, 1) := by decide +kernel
theorem d_X12_away_19 : decode (mC M_X12_away) 19 = .ok (.iconst (-1), 1) := by decide +kernel
theorem d_X12_away_20 : decode (mC M_X12_away) 20 = .ok (.if_icmp .eq 5, 3) := by decide +kernel
theorem d_X12_away_23 : decode (mC M_X12_away) 23 = .ok (.iconst 0, 1) := by decide +kernel
theorem d_X12_away_24 : decode (mC M_X12_away) 24 = .ok (.ireturn, 1) := by decide +kernel
theorem d_X12_away_25 : decode (mC M_X12_away) 25 = .ok (.aload_n 0, 1) := by decide +kernel
theorem d_X12_away_26 : decode (mC M_X12_away) 26 = .ok (.getfield 29, 3) := by decide +kernel
theorem d_X12_away_29 : decode (mC M_X12_away) 29 = .ok (.iload_n 1, 1) := by decide +kernel
theorem d_X12_away_30 : decode (mC M_X12_away) 30 = .ok (.iload_n 2, 1) := by decide +kernel
theorem d_X12_away_31 : decode (mC M_X12_away) 31 = .ok (.bastore, 1) := by decide +kernel
theorem d_X12_away_32 : decode (mC M_X12_away) 32 = .ok (.iconst 1, 1) := by decide +kernel
theorem d_X12_away_33 : decode (mC M_X12_away) 33 = .ok (.ireturn, 1) := by decide +kernel
theorem d_X12_buses_0 : decode (mC M_X12_buses) 0 = .ok (.aload_n 0, 1) := by decide +kernel
theorem d_X12_buses_1 : decode (mC M_X12_buses) 1 = .ok (.iconst 0, 1) := by decide +kernel
theorem d_X12_buses_2 : decode (mC M_X12_buses) 2 = .ok (.putfield 1, 3) := by decide +kernel
theorem d_X12_buses_5 : decode (mC M_X12_buses) 5 = .ok (.iload_n 1, 1) := by decide +kernel
theorem d_X12_buses_6 : decode (mC M_X12_buses) 6 = .ok (.iconst 0, 1) := by decide +kernel
theorem d_X12_buses_7 : decode (mC M_X12_buses) 7 = .ok (.iconst 3, 1) := by decide +kernel
theorem d_X12_buses_8 : decode (mC M_X12_buses) 8 = .ok (.invokestatic 154, 3) := by decide +kernel
theorem d_X12_buses_11 : decode (mC M_X12_buses) 11 = .ok (.ifCond .eq 13, 3) := by decide +kernel
theorem d_X12_buses_14 : decode (mC M_X12_buses) 14 = .ok (.iload_n 2, 1) := by decide +kernel
theorem d_X12_buses_15 : decode (mC M_X12_buses) 15 = .ok (.iconst 1, 1) := by decide +kernel
theorem d_X12_buses_16 : decode (mC M_X12_buses) 16 = .ok (.bipush 100, 2) := by decide +kernel
theorem d_X12_buses_18 : decode (mC M_X12_buses) 18 = .ok (.invokestatic 154, 3) := by decide +kernel
theorem d_X12_buses_21 : decode (mC M_X12_buses) 21 = .ok (.ifCond .ne 5, 3) := by decide +kernel
theorem d_X12_buses_24 : decode (mC M_X12_buses) 24 = .ok (.iconst (-1), 1) := by decide +kernel
theorem d_X12_buses_25 : decode (mC M_X12_buses) 25 = .ok (.ireturn, 1) := by decide +kernel
theorem d_X12_buses_26 : decode (mC M_X12_buses) 26 = .ok (.iconst 0, 1) := by decide +kernel
theorem d_X12_buses_27 : decode (mC M_X12_buses) 27 = .ok (.istore_n 3, 1) := by decide +kernel
theorem d_X12_buses_28 : decode (mC M_X12_buses) 28 = .ok (.iconst 0, 1) := by decide +kernel
theorem d_X12_buses_29 : decode (mC M_X12_buses) 29 = .ok (.istore 4, 2) := by decide +kernel
theorem d_X12_buses_31 : decode (mC M_X12_buses) 31 = .ok (.iload 4, 2) := by decide +kernel
theorem d_X12_buses_33 : decode (mC M_X12_buses) 33 = .ok (.aload_n 0, 1) := by decide +kernel
theorem d_X12_buses_34 : decode (mC M_X12_buses) 34 = .ok (.getfield 151, 3) := by decide +kernel
theorem d_X12_buses_37 : decode (mC M_X12_buses) 37 = .ok (.if_icmp .ge 34, 3) := by decide +kernel
theorem d_X12_buses_40 : decode (mC M_X12_buses) 40 = .ok (.aload_n 0, 1) := by decide +kernel
theorem d_X12_buses_41 : decode (mC M_X12_buses) 41 = .ok (.getfield 39, 3) := by decide +kernel
theorem d_X12_buses_44 : decode (mC M_X12_buses) 44 = .ok (.iload 4, 2) := by decide +kernel
theorem d_X12_buses_46 : decode (mC M_X12_buses) 46 = .ok (.iaload, 1) := by decide +kernel
theorem d_X12_buses_47 : decode (mC M_X12_buses) 47 = .ok (.iconst (-1), 1) := by decide +kernel
theorem d_X12_buses_48 : decode (mC M_X12_buses) 48 = .ok (.if_icmp .eq 17, 3) := by decide +kernel
theorem d_X12_buses_51 : decode (mC M_X12_buses) 51 = .ok (.aload_n 0, 1) := by decide +kernel
theorem d_X12_buses_52 : decode (mC M_X12_buses) 52 = .ok (.getfield 23, 3) := by decide +kernel
theorem d_X12_buses_55 : decode (mC M_X12_buses) 55 = .ok (.iload 4, 2) := by decide +kernel
theorem d_X12_buses_57 : decode (mC M_X12_buses) 57 = .ok (.iaload, 1) := by decide +kernel
theorem d_X12_buses_58 : decode (mC M_X12_buses) 58 = .ok (.iload_n 1, 1) := by decide +kernel
theorem d_X12_buses_59 : decode (mC M_X12_buses) 59 = .ok (.if_icmp .ne 6, 3) := by decide +kernel
theorem d_X12_buses_62 : decode (mC M_X12_buses) 62 = .ok (.iinc 3 1, 3) := by decide +kernel
theorem d_X12_buses_65 : decode (mC M_X12_buses) 65 = .ok (.iinc 4 1, 3) := by decide +kernel
theorem d_X12_buses_68 : decode (mC M_X12_buses) 68 = .ok (.goto (-37), 3) := by decide +kernel
theorem d_X12_buses_71 : decode (mC M_X12_buses) 71 = .ok (.iload_n 3, 1) := by decide +kernel
theorem d_X12_buses_72 : decode (mC M_X12_buses) 72 = .ok (.iload_n 2, 1) := by decide +kernel
theorem d_X12_buses_73 : decode (mC M_X12_buses) 73 = .ok (.iadd, 1) := by decide +kernel
theorem d_X12_buses_74 : decode (mC M_X12_buses) 74 = .ok (.iconst 1, 1) := by decide +kernel
theorem d_X12_buses_75 : decode (mC M_X12_buses) 75 = .ok (.isub, 1) := by decide +kernel
theorem d_X12_buses_76 : decode (mC M_X12_buses) 76 = .ok (.iload_n 2, 1) := by decide +kernel
theorem d_X12_buses_77 : decode (mC M_X12_buses) 77 = .ok (.idiv, 1) := by decide +kernel
theorem d_X12_buses_78 : decode (mC M_X12_buses) 78 = .ok (.ireturn, 1) := by decide +kernel
theorem d_X12_called_0 : decode (mC M_X12_called) 0 = .ok (.aload_n 0, 1) := by decide +kernel
theorem d_X12_called_1 : decode (mC M_X12_called) 1 = .ok (.iconst 0, 1) := by decide +kernel
theorem d_X12_called_2 : decode (mC M_X12_called) 2 = .ok (.putfield 1, 3) := by decide +kernel
theorem d_X12_called_5 : decode (mC M_X12_called) 5 = .ok (.aload_n 0, 1) := by decide +kernel
theorem d_X12_called_6 : decode (mC M_X12_called) 6 = .ok (.iload_n 1, 1) := by decide +kernel
theorem d_X12_called_7 : decode (mC M_X12_called) 7 = .ok (.invokevirtual 159, 3) := by decide +kernel
theorem d_X12_called_10 : decode (mC M_X12_called) 10 = .ok (.ifCond .eq 12, 3) := by decide +kernel
theorem d_X12_called_13 : decode (mC M_X12_called) 13 = .ok (.aload_n 0, 1) := by decide +kernel
theorem d_X12_called_14 : decode (mC M_X12_called) 14 = .ok (.getfield 39, 3) := by decide +kernel
theorem d_X12_called_17 : decode (mC M_X12_called) 17 = .ok (.iload_n 1, 1) := by decide +kernel
theorem d_X12_called_18 : decode (mC M_X12_called) 18 = .ok (.iaload, 1) := by decide +kernel
theorem d_X12_called_19 : decode (mC M_X12_called) 19 = .ok (.goto 4, 3) := by decide +kernel
theorem d_X12_called_22 : decode (mC M_X12_called) 22 = .ok (.iconst (-1), 1) := by decide +kernel
theorem d_X12_called_23 : decode (mC M_X12_called) 23 = .ok (.ireturn, 1) := by decide +kernel
theorem d_X12_calledIn_0 : decode (mC M_X12_calledIn) 0 = .ok (.iconst 0, 1) := by decide +kernel
theorem d_X12_calledIn_1 : decode (mC M_X12_calledIn) 1 = .ok (.istore_n 2, 1) := by decide +kernel
theorem d_X12_calledIn_2 : decode (mC M_X12_calledIn) 2 = .ok (.iconst 0, 1) := by decide +kernel
theorem d_X12_calledIn_3 : decode (mC M_X12_calledIn) 3 = .ok (.istore_n 3, 1) := by decide +kernel
theorem d_X12_calledIn_4 : decode (mC M_X12_calledIn) 4 = .ok (.iload_n 3, 1) := by decide +kernel
theorem d_X12_calledIn_5 : decode (mC M_X12_calledIn) 5 = .ok (.aload_n 0, 1) := by decide +kernel
theorem d_X12_calledIn_6 : decode (mC M_X12_calledIn) 6 = .ok (.getfield 151, 3) := by decide +kernel
theorem d_X12_calledIn_9 : decode (mC M_X12_calledIn) 9 = .ok (.if_icmp .ge 22, 3) := by decide +kernel
theorem d_X12_calledIn_12 : decode (mC M_X12_calledIn) 12 = .ok (.aload_n 0, 1) := by decide +kernel
theorem d_X12_calledIn_13 : decode (mC M_X12_calledIn) 13 = .ok (.getfield 39, 3) := by decide +kernel
theorem d_X12_calledIn_16 : decode (mC M_X12_calledIn) 16 = .ok (.iload_n 3, 1) := by decide +kernel
theorem d_X12_calledIn_17 : decode (mC M_X12_calledIn) 17 = .ok (.iaload, 1) := by decide +kernel
theorem d_X12_calledIn_18 : decode (mC M_X12_calledIn) 18 = .ok (.iload_n 1, 1) := by decide +kernel
theorem d_X12_calledIn_19 : decode (mC M_X12_calledIn) 19 = .ok (.if_icmp .ne 6, 3) := by decide +kernel
theorem d_X12_calledIn_22 : decode (mC M_X12_calledIn) 22 = .ok (.iinc 2 1, 3) := by decide +kernel
theorem d_X12_calledIn_25 : decode (mC M_X12_calledIn) 25 = .ok (.iinc 3 1, 3) := by decide +kernel
theorem d_X12_calledIn_28 : decode (mC M_X12_calledIn) 28 = .ok (.goto (-24), 3) := by decide +kernel
theorem d_X12_calledIn_31 : decode (mC M_X12_calledIn) 31 = .ok (.iload_n 2, 1) := by decide +kernel
theorem d_X12_calledIn_32 : decode (mC M_X12_calledIn) 32 = .ok (.ireturn, 1) := by decide +kernel
theorem d_X12_canBe_0 : decode (mC M_X12_canBe) 0 = .ok (.aload_n 0, 1) := by decide +kernel
theorem d_X12_canBe_1 : decode (mC M_X12_canBe) 1 = .ok (.getfield 29, 3) := by decide +kernel
theorem d_X12_canBe_4 : decode (mC M_X12_canBe) 4 = .ok (.iload_n 1, 1) := by decide +kernel
theorem d_X12_canBe_5 : decode (mC M_X12_canBe) 5 = .ok (.baload, 1) := by decide +kernel
theorem d_X12_canBe_6 : decode (mC M_X12_canBe) 6 = .ok (.ifCond .ne 40, 3) := by decide +kernel
theorem d_X12_canBe_9 : decode (mC M_X12_canBe) 9 = .ok (.aload_n 0, 1) := by decide +kernel
theorem d_X12_canBe_10 : decode (mC M_X12_canBe) 10 = .ok (.getfield 36, 3) := by decide +kernel
theorem d_X12_canBe_13 : decode (mC M_X12_canBe) 13 = .ok (.iload_n 1, 1) := by decide +kernel
theorem d_X12_canBe_14 : decode (mC M_X12_canBe) 14 = .ok (.iaload, 1) := by decide +kernel
theorem d_X12_canBe_15 : decode (mC M_X12_canBe) 15 = .ok (.sipush 1440, 3) := by decide +kernel
theorem d_X12_canBe_18 : decode (mC M_X12_canBe) 18 = .ok (.aload_n 0, 1) := by decide +kernel
theorem d_X12_canBe_19 : decode (mC M_X12_canBe) 19 = .ok (.getfield 304, 3) := by decide +kernel
theorem d_X12_canBe_22 : decode (mC M_X12_canBe) 22 = .ok (.imul, 1) := by decide +kernel
theorem d_X12_canBe_23 : decode (mC M_X12_canBe) 23 = .ok (.aload_n 0, 1) := by decide +kernel
theorem d_X12_canBe_24 : decode (mC M_X12_canBe) 24 = .ok (.getfield 61, 3) := by decide +kernel
theorem d_X12_canBe_27 : decode (mC M_X12_canBe) 27 = .ok (.iload_n 2, 1) := by decide +kernel
theorem d_X12_canBe_28 : decode (mC M_X12_canBe) 28 = .ok (.iaload, 1) := by decide +kernel
theorem d_X12_canBe_29 : decode (mC M_X12_canBe) 29 = .ok (.iadd, 1) := by decide +kernel
theorem d_X12_canBe_30 : decode (mC M_X12_canBe) 30 = .ok (.if_icmp .gt 16, 3) := by decide +kernel
theorem d_X12_canBe_33 : decode (mC M_X12_canBe) 33 = .ok (.aload_n 0, 1) := by decide +kernel
theorem d_X12_canBe_34 : decode (mC M_X12_canBe) 34 = .ok (.iload_n 1, 1) := by decide +kernel
theorem d_X12_canBe_35 : decode (mC M_X12_canBe) 35 = .ok (.iload_n 2, 1) := by decide +kernel
theorem d_X12_canBe_36 : decode (mC M_X12_canBe) 36 = .ok (.invokevirtual 307, 3) := by decide +kernel
theorem d_X12_canBe_39 : decode (mC M_X12_canBe) 39 = .ok (.ifCond .eq 7, 3) := by decide +kernel
theorem d_X12_canBe_42 : decode (mC M_X12_canBe) 42 = .ok (.iconst 1, 1) := by decide +kernel
theorem d_X12_canBe_43 : decode (mC M_X12_canBe) 43 = .ok (.goto 4, 3) := by decide +kernel
theorem d_X12_canBe_46 : decode (mC M_X12_canBe) 46 = .ok (.iconst 0, 1) := by decide +kernel
theorem d_X12_canBe_47 : decode (mC M_X12_canBe) 47 = .ok (.ireturn, 1) := by decide +kernel
theorem d_X12_count_0 : decode (mC M_X12_count) 0 = .ok (.aload_n 0, 1) := by decide +kernel
theorem d_X12_count_1 : decode (mC M_X12_count) 1 = .ok (.iconst 0, 1) := by decide +kernel
theorem d_X12_count_2 : decode (mC M_X12_count) 2 = .ok (.putfield 1, 3) := by decide +kernel
theorem d_X12_count_5 : decode (mC M_X12_count) 5 = .ok (.iload_n 1, 1) := by decide +kernel
theorem d_X12_count_6 : decode (mC M_X12_count) 6 = .ok (.tableswitch 86 0 7 #[46, 51, 56, 61, 66, 71, 76, 81], 46) := by decide +kernel
theorem d_X12_count_52 : decode (mC M_X12_count) 52 = .ok (.aload_n 0, 1) := by decide +kernel
theorem d_X12_count_53 : decode (mC M_X12_count) 53 = .ok (.getfield 151, 3) := by decide +kernel
theorem d_X12_count_56 : decode (mC M_X12_count) 56 = .ok (.ireturn, 1) := by decide +kernel
theorem d_X12_count_57 : decode (mC M_X12_count) 57 = .ok (.aload_n 0, 1) := by decide +kernel
theorem d_X12_count_58 : decode (mC M_X12_count) 58 = .ok (.getfield 298, 3) := by decide +kernel
theorem d_X12_count_61 : decode (mC M_X12_count) 61 = .ok (.ireturn, 1) := by decide +kernel
theorem d_X12_count_62 : decode (mC M_X12_count) 62 = .ok (.aload_n 0, 1) := by decide +kernel
theorem d_X12_count_63 : decode (mC M_X12_count) 63 = .ok (.getfield 345, 3) := by decide +kernel
theorem d_X12_count_66 : decode (mC M_X12_count) 66 = .ok (.ireturn, 1) := by decide +kernel
theorem d_X12_count_67 : decode (mC M_X12_count) 67 = .ok (.aload_n 0, 1) := by decide +kernel
theorem d_X12_count_68 : decode (mC M_X12_count) 68 = .ok (.getfield 163, 3) := by decide +kernel
theorem d_X12_count_71 : decode (mC M_X12_count) 71 = .ok (.ireturn, 1) := by decide +kernel
theorem d_X12_count_72 : decode (mC M_X12_count) 72 = .ok (.aload_n 0, 1) := by decide +kernel
theorem d_X12_count_73 : decode (mC M_X12_count) 73 = .ok (.getfield 304, 3) := by decide +kernel
theorem d_X12_count_76 : decode (mC M_X12_count) 76 = .ok (.ireturn, 1) := by decide +kernel
theorem d_X12_count_77 : decode (mC M_X12_count) 77 = .ok (.aload_n 0, 1) := by decide +kernel
theorem d_X12_count_78 : decode (mC M_X12_count) 78 = .ok (.invokevirtual 387, 3) := by decide +kernel
theorem d_X12_count_81 : decode (mC M_X12_count) 81 = .ok (.ireturn, 1) := by decide +kernel
theorem d_X12_count_82 : decode (mC M_X12_count) 82 = .ok (.aload_n 0, 1) := by decide +kernel
theorem d_X12_count_83 : decode (mC M_X12_count) 83 = .ok (.getfield 177, 3) := by decide +kernel
theorem d_X12_count_86 : decode (mC M_X12_count) 86 = .ok (.ireturn, 1) := by decide +kernel
theorem d_X12_count_87 : decode (mC M_X12_count) 87 = .ok (.aload_n 0, 1) := by decide +kernel
theorem d_X12_count_88 : decode (mC M_X12_count) 88 = .ok (.getfield 375, 3) := by decide +kernel
theorem d_X12_count_91 : decode (mC M_X12_count) 91 = .ok (.ireturn, 1) := by decide +kernel
theorem d_X12_count_92 : decode (mC M_X12_count) 92 = .ok (.iconst (-1), 1) := by decide +kernel
theorem d_X12_count_93 : decode (mC M_X12_count) 93 = .ok (.ireturn, 1) := by decide +kernel
theorem d_X12_doesFit_0 : decode (mC M_X12_doesFit) 0 = .ok (.aload_n 0, 1) := by decide +kernel
theorem d_X12_doesFit_1 : decode (mC M_X12_doesFit) 1 = .ok (.iconst 0, 1) := by decide +kernel
theorem d_X12_doesFit_2 : decode (mC M_X12_doesFit) 2 = .ok (.putfield 221, 3) := by decide +kernel
theorem d_X12_doesFit_5 : decode (mC M_X12_doesFit) 5 = .ok (.aload_n 0, 1) := by decide +kernel
theorem d_X12_doesFit_6 : decode (mC M_X12_doesFit) 6 = .ok (.iconst 0, 1) := by decide +kernel
theorem d_X12_doesFit_7 : decode (mC M_X12_doesFit) 7 = .ok (.putfield 263, 3) := by decide +kernel
theorem d_X12_doesFit_10 : decode (mC M_X12_doesFit) 10 = .ok (.aload_n 0, 1) := by decide +kernel
theorem d_X12_doesFit_11 : decode (mC M_X12_doesFit) 11 = .ok (.iload_n 1, 1) := by decide +kernel
theorem d_X12_doesFit_12 : decode (mC M_X12_doesFit) 12 = .ok (.putfield 267, 3) := by decide +kernel
theorem d_X12_doesFit_15 : decode (mC M_X12_doesFit) 15 = .ok (.aload_n 0, 1) := by decide +kernel
theorem d_X12_doesFit_16 : decode (mC M_X12_doesFit) 16 = .ok (.aload_n 0, 1) := by decide +kernel
theorem d_X12_doesFit_17 : decode (mC M_X12_doesFit) 17 = .ok (.getfield 55, 3) := by decide +kernel
theorem d_X12_doesFit_20 : decode (mC M_X12_doesFit) 20 = .ok (.aload_n 0, 1) := by decide +kernel
theorem d_X12_doesFit_21 : decode (mC M_X12_doesFit) 21 = .ok (.getfield 295, 3) := by decide +kernel
theorem d_X12_doesFit_24 : decode (mC M_X12_doesFit) 24 = .ok (.aload_n 0, 1) := by decide +kernel
theorem d_X12_doesFit_25 : decode (mC M_X12_doesFit) 25 = .ok (.getfield 70, 3) := by decide +kernel
theorem d_X12_doesFit_28 : decode (mC M_X12_doesFit) 28 = .ok (.iload_n 2, 1) := by decide +kernel
theorem d_X12_doesFit_29 : decode (mC M_X12_doesFit) 29 = .ok (.iaload, 1) := by decide +kernel
theorem d_X12_doesFit_30 : decode (mC M_X12_doesFit) 30 = .ok (.invokevirtual 288, 3) := by decide +kernel
theorem d_X12_doesFit_33 : decode (mC M_X12_doesFit) 33 = .ok (.aload_n 0, 1) := by decide +kernel
theorem d_X12_doesFit_34 : decode (mC M_X12_doesFit) 34 = .ok (.iconst 0, 1) := by decide +kernel
theorem d_X12_doesFit_35 : decode (mC M_X12_doesFit) 35 = .ok (.invokevirtual 250, 3) := by decide +kernel
theorem d_X12_doesFit_38 : decode (mC M_X12_doesFit) 38 = .ok (.ireturn, 1) := by decide +kernel
theorem d_X12_dresses_0 : decode (mC M_X12_dresses) 0 = .ok (.iconst 0, 1) := by decide +kernel
theorem d_X12_dresses_1 : decode (mC M_X12_dresses) 1 = .ok (.istore_n 2, 1) := by decide +kernel
theorem d_X12_dresses_2 : decode (mC M_X12_dresses) 2 = .ok (.iload_n 2, 1) := by decide +kernel
theorem d_X12_dresses_3 : decode (mC M_X12_dresses) 3 = .ok (.iload_n 1, 1) := by decide +kernel
theorem d_X12_dresses_4 : decode (mC M_X12_dresses) 4 = .ok (.if_icmp .ge 16, 3) := by decide +kernel
theorem d_X12_dresses_7 : decode (mC M_X12_dresses) 7 = .ok (.aload_n 0, 1) := by decide +kernel
theorem d_X12_dresses_8 : decode (mC M_X12_dresses) 8 = .ok (.getfield 136, 3) := by decide +kernel
theorem d_X12_dresses_11 : decode (mC M_X12_dresses) 11 = .ok (.iload_n 2, 1) := by decide +kernel
theorem d_X12_dresses_12 : decode (mC M_X12_dresses) 12 = .ok (.iconst 0, 1) := by decide +kernel
theorem d_X12_dresses_13 : decode (mC M_X12_dresses) 13 = .ok (.iastore, 1) := by decide +kernel
theorem d_X12_dresses_14 : decode (mC M_X12_dresses) 14 = .ok (.iinc 2 1, 3) := by decide +kernel
theorem d_X12_dresses_17 : decode (mC M_X12_dresses) 17 = .ok (.goto (-15), 3) := by decide +kernel
theorem d_X12_dresses_20 : decode (mC M_X12_dresses) 20 = .ok (.iconst 0, 1) := by decide +kernel
theorem d_X12_dresses_21 : decode (mC M_X12_dresses) 21 = .ok (.istore_n 2, 1) := by decide +kernel
theorem d_X12_dresses_22 : decode (mC M_X12_dresses) 22 = .ok (.iload_n 2, 1) := by decide +kernel
theorem d_X12_dresses_23 : decode (mC M_X12_dresses) 23 = .ok (.aload_n 0, 1) := by decide +kernel
theorem d_X12_dresses_24 : decode (mC M_X12_dresses) 24 = .ok (.getfield 151, 3) := by decide +kernel
theorem d_X12_dresses_27 : decode (mC M_X12_dresses) 27 = .ok (.if_icmp .ge 16, 3) := by decide +kernel
theorem d_X12_dresses_30 : decode (mC M_X12_dresses) 30 = .ok (.aload_n 0, 1) := by decide +kernel
theorem d_X12_dresses_31 : decode (mC M_X12_dresses) 31 = .ok (.getfield 139, 3) := by decide +kernel
theorem d_X12_dresses_34 : decode (mC M_X12_dresses) 34 = .ok (.iload_n 2, 1) := by decide +kernel
theorem d_X12_dresses_35 : decode (mC M_X12_dresses) 35 = .ok (.iconst 0, 1) := by decide +kernel
theorem d_X12_dresses_36 : decode (mC M_X12_dresses) 36 = .ok (.bastore, 1) := by decide +kernel
theorem d_X12_dresses_37 : decode (mC M_X12_dresses) 37 = .ok (.iinc 2 1, 3) := by decide +kernel
theorem d_X12_dresses_40 : decode (mC M_X12_dresses) 40 = .ok (.goto (-18), 3) := by decide +kernel
theorem d_X12_dresses_43 : decode (mC M_X12_dresses) 43 = .ok (.aload_n 0, 1) := by decide +kernel
theorem d_X12_dresses_44 : decode (mC M_X12_dresses) 44 = .ok (.invokevirtual 362, 3) := by decide +kernel
theorem d_X12_dresses_47 : decode (mC M_X12_dresses) 47 = .ok (.istore_n 2, 1) := by decide +kernel
theorem d_X12_dresses_48 : decode (mC M_X12_dresses) 48 = .ok (.iload_n 2, 1) := by decide +kernel
theorem d_X12_dresses_49 : decode (mC M_X12_dresses) 49 = .ok (.iconst (-1), 1) := by decide +kernel
theorem d_X12_dresses_50 : decode (mC M_X12_dresses) 50 = .ok (.if_icmp .eq 94, 3) := by decide +kernel
theorem d_X12_dresses_53 : decode (mC M_X12_dresses) 53 = .ok (.iconst 0, 1) := by decide +kernel
theorem d_X12_dresses_54 : decode (mC M_X12_dresses) 54 = .ok (.istore_n 3, 1) := by decide +kernel
theorem d_X12_dresses_55 : decode (mC M_X12_dresses) 55 = .ok (.iconst 1, 1) := by decide +kernel
theorem d_X12_dresses_56 : decode (mC M_X12_dresses) 56 = .ok (.istore 4, 2) := by decide +kernel
theorem d_X12_dresses_58 : decode (mC M_X12_dresses) 58 = .ok (.iload 4, 2) := by decide +kernel
theorem d_X12_dresses_60 : decode (mC M_X12_dresses) 60 = .ok (.iload_n 1, 1) := by decide +kernel
theorem d_X12_dresses_61 : decode (mC M_X12_dresses) 61 = .ok (.if_icmp .ge 28, 3) := by decide +kernel
theorem d_X12_dresses_64 : decode (mC M_X12_dresses) 64 = .ok (.aload_n 0, 1) := by decide +kernel
theorem d_X12_dresses_65 : decode (mC M_X12_dresses) 65 = .ok (.getfield 136, 3) := by decide +kernel
theorem d_X12_dresses_68 : decode (mC M_X12_dresses) 68 = .ok (.iload 4, 2) := by decide +kernel
theorem d_X12_dresses_70 : decode (mC M_X12_dresses) 70 = .ok (.iaload, 1) := by decide +kernel
theorem d_X12_dresses_71 : decode (mC M_X12_dresses) 71 = .ok (.aload_n 0, 1) := by decide +kernel
theorem d_X12_dresses_72 : decode (mC M_X12_dresses) 72 = .ok (.getfield 136, 3) := by decide +kernel
theorem d_X12_dresses_75 : decode (mC M_X12_dresses) 75 = .ok (.iload_n 3, 1) := by decide +kernel
theorem d_X12_dresses_76 : decode (mC M_X12_dresses) 76 = .ok (.iaload, 1) := by decide +kernel
theorem d_X12_dresses_77 : decode (mC M_X12_dresses) 77 = .ok (.if_icmp .ge 6, 3) := by decide +kernel
theorem d_X12_dresses_80 : decode (mC M_X12_dresses) 80 = .ok (.iload 4, 2) := by decide +kernel
theorem d_X12_dresses_82 : decode (mC M_X12_dresses) 82 = .ok (.istore_n 3, 1) := by decide +kernel
theorem d_X12_dresses_83 : decode (mC M_X12_dresses) 83 = .ok (.iinc 4 1, 3) := by decide +kernel
theorem d_X12_dresses_86 : decode (mC M_X12_dresses) 86 = .ok (.goto (-28), 3) := by decide +kernel
theorem d_X12_dresses_89 : decode (mC M_X12_dresses) 89 = .ok (.aload_n 0, 1) := by decide +kernel
theorem d_X12_dresses_90 : decode (mC M_X12_dresses) 90 = .ok (.getfield 145, 3) := by decide +kernel
theorem d_X12_dresses_93 : decode (mC M_X12_dresses) 93 = .ok (.iload_n 2, 1) := by decide +kernel
theorem d_X12_dresses_94 : decode (mC M_X12_dresses) 94 = .ok (.aload_n 0, 1) := by decide +kernel
theorem d_X12_dresses_95 : decode (mC M_X12_dresses) 95 = .ok (.getfield 136, 3) := by decide +kernel
theorem d_X12_dresses_98 : decode (mC M_X12_dresses) 98 = .ok (.iload_n 3, 1) := by decide +kernel
theorem d_X12_dresses_99 : decode (mC M_X12_dresses) 99 = .ok (.iaload, 1) := by decide +kernel
theorem d_X12_dresses_100 : decode (mC M_X12_dresses) 100 = .ok (.aload_n 0, 1) := by decide +kernel
theorem d_X12_dresses_101 : decode (mC M_X12_dresses) 101 = .ok (.getfield 142, 3) := by decide +kernel
theorem d_X12_dresses_104 : decode (mC M_X12_dresses) 104 = .ok (.iload_n 2, 1) := by decide +kernel
theorem d_X12_dresses_105 : decode (mC M_X12_dresses) 105 = .ok (.iaload, 1) := by decide +kernel
theorem d_X12_dresses_106 : decode (mC M_X12_dresses) 106 = .ok (.invokestatic 365, 3) := by decide +kernel
theorem d_X12_dresses_109 : decode (mC M_X12_dresses) 109 = .ok (.aload_n 0, 1) := by decide +kernel
theorem d_X12_dresses_110 : decode (mC M_X12_dresses) 110 = .ok (.getfield 26, 3) := by decide +kernel
theorem d_X12_dresses_113 : decode (mC M_X12_dresses) 113 = .ok (.iload_n 2, 1) := by decide +kernel
theorem d_X12_dresses_114 : decode (mC M_X12_dresses) 114 = .ok (.iaload, 1) := by decide +kernel
theorem d_X12_dresses_115 : decode (mC M_X12_dresses) 115 = .ok (.iadd, 1) := by decide +kernel
theorem d_X12_dresses_116 : decode (mC M_X12_dresses) 116 = .ok (.iastore, 1) := by decide +kernel
theorem d_X12_dresses_117 : decode (mC M_X12_dresses) 117 = .ok (.aload_n 0, 1) := by decide +kernel
theorem d_X12_dresses_118 : decode (mC M_X12_dresses) 118 = .ok (.getfield 136, 3) := by decide +kernel
theorem d_X12_dresses_121 : decode (mC M_X12_dresses) 121 = .ok (.iload_n 3, 1) := by decide +kernel
theorem d_X12_dresses_122 : decode (mC M_X12_dresses) 122 = .ok (.aload_n 0, 1) := by decide +kernel
theorem d_X12_dresses_123 : decode (mC M_X12_dresses) 123 = .ok (.getfield 145, 3) := by decide +kernel
theorem d_X12_dresses_126 : decode (mC M_X12_dresses) 126 = .ok (.iload_n 2, 1) := by decide +kernel
theorem d_X12_dresses_127 : decode (mC M_X12_dresses) 127 = .ok (.iaload, 1) := by decide +kernel
theorem d_X12_dresses_128 : decode (mC M_X12_dresses) 128 = .ok (.iastore, 1) := by decide +kernel
theorem d_X12_dresses_129 : decode (mC M_X12_dresses) 129 = .ok (.aload_n 0, 1) := by decide +kernel
theorem d_X12_dresses_130 : decode (mC M_X12_dresses) 130 = .ok (.getfield 139, 3) := by decide +kernel
theorem d_X12_dresses_133 : decode (mC M_X12_dresses) 133 = .ok (.iload_n 2, 1) := by decide +kernel
theorem d_X12_dresses_134 : decode (mC M_X12_dresses) 134 = .ok (.iconst 1, 1) := by decide +kernel
theorem d_X12_dresses_135 : decode (mC M_X12_dresses) 135 = .ok (.bastore, 1) := by decide +kernel
theorem d_X12_dresses_136 : decode (mC M_X12_dresses) 136 = .ok (.aload_n 0, 1) := by decide +kernel
theorem d_X12_dresses_137 : decode (mC M_X12_dresses) 137 = .ok (.invokevirtual 362, 3) := by decide +kernel
theorem d_X12_dresses_140 : decode (mC M_X12_dresses) 140 = .ok (.istore_n 2, 1) := by decide +kernel
theorem d_X12_dresses_141 : decode (mC M_X12_dresses) 141 = .ok (.goto (-93), 3) := by decide +kernel
theorem d_X12_dresses_144 : decode (mC M_X12_dresses) 144 = .ok (.return_, 1) := by decide +kernel
theorem d_X12_either_0 : decode (mC M_X12_either) 0 = .ok (.aload_n 0, 1) := by decide +kernel
theorem d_X12_either_1 : decode (mC M_X12_either) 1 = .ok (.iload_n 1, 1) := by decide +kernel
theorem d_X12_either_2 : decode (mC M_X12_either) 2 = .ok (.invokevirtual 238, 3) := by decide +kernel
theorem d_X12_either_5 : decode (mC M_X12_either) 5 = .ok (.istore_n 2, 1) := by decide +kernel
theorem d_X12_either_6 : decode (mC M_X12_either) 6 = .ok (.aload_n 0, 1) := by decide +kernel
theorem d_X12_either_7 : decode (mC M_X12_either) 7 = .ok (.getfield 221, 3) := by decide +kernel
theorem d_X12_either_10 : decode (mC M_X12_either) 10 = .ok (.ifCond .ne 39, 3) := by decide +kernel
theorem d_X12_either_13 : decode (mC M_X12_either) 13 = .ok (.aload_n 0, 1) := by decide +kernel
theorem d_X12_either_14 : decode (mC M_X12_either) 14 = .ok (.ldc 241, 2) := by decide +kernel
theorem d_X12_either_16 : decode (mC M_X12_either) 16 = .ok (.invokevirtual 234, 3) := by decide +kernel
theorem d_X12_either_19 : decode (mC M_X12_either) 19 = .ok (.ifCond .eq 30, 3) := by decide +kernel
theorem d_X12_either_22 : decode (mC M_X12_either) 22 = .ok (.aload_n 0, 1) := by decide +kernel
theorem d_X12_either_23 : decode (mC M_X12_either) 23 = .ok (.invokevirtual 208, 3) := by decide +kernel
theorem d_X12_either_26 : decode (mC M_X12_either) 26 = .ok (.aload_n 0, 1) := by decide +kernel
theorem d_X12_either_27 : decode (mC M_X12_either) 27 = .ok (.iload_n 1, 1) := by decide +kernel
theorem d_X12_either_28 : decode (mC M_X12_either) 28 = .ok (.invokevirtual 238, 3) := by decide +kernel
theorem d_X12_either_31 : decode (mC M_X12_either) 31 = .ok (.istore_n 3, 1) := by decide +kernel
theorem d_X12_either_32 : decode (mC M_X12_either) 32 = .ok (.iload_n 2, 1) := by decide +kernel
theorem d_X12_either_33 : decode (mC M_X12_either) 33 = .ok (.ifCond .ne 7, 3) := by decide +kernel
theorem d_X12_either_36 : decode (mC M_X12_either) 36 = .ok (.iload_n 3, 1) := by decide +kernel
theorem d_X12_either_37 : decode (mC M_X12_either) 37 = .ok (.ifCond .eq 7, 3) := by decide +kernel
theorem d_X12_either_40 : decode (mC M_X12_either) 40 = .ok (.iconst 1, 1) := by decide +kernel
theorem d_X12_either_41 : decode (mC M_X12_either) 41 = .ok (.goto 4, 3) := by decide +kernel
theorem d_X12_either_44 : decode (mC M_X12_either) 44 = .ok (.iconst 0, 1) := by decide +kernel
theorem d_X12_either_45 : decode (mC M_X12_either) 45 = .ok (.istore_n 2, 1) := by decide +kernel
theorem d_X12_either_46 : decode (mC M_X12_either) 46 = .ok (.goto (-40), 3) := by decide +kernel
theorem d_X12_either_49 : decode (mC M_X12_either) 49 = .ok (.iload_n 2, 1) := by decide +kernel
theorem d_X12_either_50 : decode (mC M_X12_either) 50 = .ok (.ireturn, 1) := by decide +kernel
theorem d_X12_end_0 : decode (mC M_X12_end) 0 = .ok (.aload_n 0, 1) := by decide +kernel
theorem d_X12_end_1 : decode (mC M_X12_end) 1 = .ok (.iconst 0, 1) := by decide +kernel
theorem d_X12_end_2 : decode (mC M_X12_end) 2 = .ok (.putfield 1, 3) := by decide +kernel
theorem d_X12_end_5 : decode (mC M_X12_end) 5 = .ok (.iload_n 1, 1) := by decide +kernel
theorem d_X12_end_6 : decode (mC M_X12_end) 6 = .ok (.ifCond .lt 11, 3) := by decide +kernel
theorem d_X12_end_9 : decode (mC M_X12_end) 9 = .ok (.iload_n 1, 1) := by decide +kernel
theorem d_X12_end_10 : decode (mC M_X12_end) 10 = .ok (.aload_n 0, 1) := by decide +kernel
theorem d_X12_end_11 : decode (mC M_X12_end) 11 = .ok (.getfield 177, 3) := by decide +kernel
theorem d_X12_end_14 : decode (mC M_X12_end) 14 = .ok (.if_icmp .le 5, 3) := by decide +kernel
theorem d_X12_end_17 : decode (mC M_X12_end) 17 = .ok (.iconst (-1), 1) := by decide +kernel
theorem d_X12_end_18 : decode (mC M_X12_end) 18 = .ok (.ireturn, 1) := by decide +kernel
theorem d_X12_end_19 : decode (mC M_X12_end) 19 = .ok (.aload_n 0, 1) := by decide +kernel
theorem d_X12_end_20 : decode (mC M_X12_end) 20 = .ok (.iload_n 1, 1) := by decide +kernel
theorem d_X12_end_21 : decode (mC M_X12_end) 21 = .ok (.putfield 177, 3) := by decide +kernel
theorem d_X12_end_24 : decode (mC M_X12_end) 24 = .ok (.iload_n 1, 1) := by decide +kernel
theorem d_X12_end_25 : decode (mC M_X12_end) 25 = .ok (.ireturn, 1) := by decide +kernel
theorem d_X12_fact_0 : decode (mC M_X12_fact) 0 = .ok (.aload_n 0, 1) := by decide +kernel
theorem d_X12_fact_1 : decode (mC M_X12_fact) 1 = .ok (.getfield 42, 3) := by decide +kernel
theorem d_X12_fact_4 : decode (mC M_X12_fact) 4 = .ok (.aload_n 0, 1) := by decide +kernel
theorem d_X12_fact_5 : decode (mC M_X12_fact) 5 = .ok (.getfield 163, 3) := by decide +kernel
theorem d_X12_fact_8 : decode (mC M_X12_fact) 8 = .ok (.iload_n 1, 1) := by decide +kernel
theorem d_X12_fact_9 : decode (mC M_X12_fact) 9 = .ok (.iastore, 1) := by decide +kernel
theorem d_X12_fact_10 : decode (mC M_X12_fact) 10 = .ok (.aload_n 0, 1) := by decide +kernel
theorem d_X12_fact_11 : decode (mC M_X12_fact) 11 = .ok (.getfield 45, 3) := by decide +kernel
theorem d_X12_fact_14 : decode (mC M_X12_fact) 14 = .ok (.aload_n 0, 1) := by decide +kernel
theorem d_X12_fact_15 : decode (mC M_X12_fact) 15 = .ok (.getfield 163, 3) := by decide +kernel
theorem d_X12_fact_18 : decode (mC M_X12_fact) 18 = .ok (.iload_n 2, 1) := by decide +kernel
theorem d_X12_fact_19 : decode (mC M_X12_fact) 19 = .ok (.iastore, 1) := by decide +kernel
theorem d_X12_fact_20 : decode (mC M_X12_fact) 20 = .ok (.aload_n 0, 1) := by decide +kernel
theorem d_X12_fact_21 : decode (mC M_X12_fact) 21 = .ok (.dup, 1) := by decide +kernel
theorem d_X12_fact_22 : decode (mC M_X12_fact) 22 = .ok (.getfield 163, 3) := by decide +kernel
theorem d_X12_fact_25 : decode (mC M_X12_fact) 25 = .ok (.iconst 1, 1) := by decide +kernel
theorem d_X12_fact_26 : decode (mC M_X12_fact) 26 = .ok (.iadd, 1) := by decide +kernel
theorem d_X12_fact_27 : decode (mC M_X12_fact) 27 = .ok (.putfield 163, 3) := by decide +kernel
theorem d_X12_fact_30 : decode (mC M_X12_fact) 30 = .ok (.aload_n 0, 1) := by decide +kernel
theorem d_X12_fact_31 : decode (mC M_X12_fact) 31 = .ok (.getfield 163, 3) := by decide +kernel
theorem d_X12_fact_34 : decode (mC M_X12_fact) 34 = .ok (.iconst 1, 1) := by decide +kernel
theorem d_X12_fact_35 : decode (mC M_X12_fact) 35 = .ok (.isub, 1) := by decide +kernel
theorem d_X12_fact_36 : decode (mC M_X12_fact) 36 = .ok (.ireturn, 1) := by decide +kernel
theorem d_X12_fails_0 : decode (mC M_X12_fails) 0 = .ok (.aload_n 0, 1) := by decide +kernel
theorem d_X12_fails_1 : decode (mC M_X12_fails) 1 = .ok (.getfield 221, 3) := by decide +kernel
theorem d_X12_fails_4 : decode (mC M_X12_fails) 4 = .ok (.ifCond .eq 4, 3) := by decide +kernel
theorem d_X12_fails_7 : decode (mC M_X12_fails) 7 = .ok (.return_, 1) := by decide +kernel
theorem d_X12_fails_8 : decode (mC M_X12_fails) 8 = .ok (.aload_n 0, 1) := by decide +kernel
theorem d_X12_fails_9 : decode (mC M_X12_fails) 9 = .ok (.iload_n 1, 1) := by decide +kernel
theorem d_X12_fails_10 : decode (mC M_X12_fails) 10 = .ok (.putfield 221, 3) := by decide +kernel
theorem d_X12_fails_13 : decode (mC M_X12_fails) 13 = .ok (.aload_n 0, 1) := by decide +kernel
theorem d_X12_fails_14 : decode (mC M_X12_fails) 14 = .ok (.aload_n 0, 1) := by decide +kernel
theorem d_X12_fails_15 : decode (mC M_X12_fails) 15 = .ok (.getfield 189, 3) := by decide +kernel
theorem d_X12_fails_18 : decode (mC M_X12_fails) 18 = .ok (.putfield 224, 3) := by decide +kernel
theorem d_X12_fails_21 : decode (mC M_X12_fails) 21 = .ok (.return_, 1) := by decide +kernel
theorem d_X12_feed_0 : decode (mC M_X12_feed) 0 = .ok (.aload_n 0, 1) := by decide +kernel
theorem d_X12_feed_1 : decode (mC M_X12_feed) 1 = .ok (.iconst 0, 1) := by decide +kernel
theorem d_X12_feed_2 : decode (mC M_X12_feed) 2 = .ok (.putfield 1, 3) := by decide +kernel
theorem d_X12_feed_5 : decode (mC M_X12_feed) 5 = .ok (.aload_n 0, 1) := by decide +kernel
theorem d_X12_feed_6 : decode (mC M_X12_feed) 6 = .ok (.getfield 177, 3) := by decide +kernel
theorem d_X12_feed_9 : decode (mC M_X12_feed) 9 = .ok (.bipush 20, 2) := by decide +kernel
theorem d_X12_feed_11 : decode (mC M_X12_feed) 11 = .ok (.iadd, 1) := by decide +kernel
theorem d_X12_feed_12 : decode (mC M_X12_feed) 12 = .ok (.sipush 1000, 3) := by decide +kernel
theorem d_X12_feed_15 : decode (mC M_X12_feed) 15 = .ok (.if_icmp .le 5, 3) := by decide +kernel
theorem d_X12_feed_18 : decode (mC M_X12_feed) 18 = .ok (.iconst (-1), 1) := by decide +kernel
theorem d_X12_feed_19 : decode (mC M_X12_feed) 19 = .ok (.ireturn, 1) := by decide +kernel
theorem d_X12_feed_20 : decode (mC M_X12_feed) 20 = .ok (.iconst 0, 1) := by decide +kernel
theorem d_X12_feed_21 : decode (mC M_X12_feed) 21 = .ok (.istore 6, 2) := by decide +kernel
theorem d_X12_feed_23 : decode (mC M_X12_feed) 23 = .ok (.iload 6, 2) := by decide +kernel
theorem d_X12_feed_25 : decode (mC M_X12_feed) 25 = .ok (.bipush 20, 2) := by decide +kernel
theorem d_X12_feed_27 : decode (mC M_X12_feed) 27 = .ok (.if_icmp .ge 90, 3) := by decide +kernel
theorem d_X12_feed_30 : decode (mC M_X12_feed) 30 = .ok (.iload 6, 2) := by decide +kernel
theorem d_X12_feed_32 : decode (mC M_X12_feed) 32 = .ok (.iconst 4, 1) := by decide +kernel
theorem d_X12_feed_33 : decode (mC M_X12_feed) 33 = .ok (.if_icmp .ge 7, 3) := by decide +kernel
theorem d_X12_feed_36 : decode (mC M_X12_feed) 36 = .ok (.iload_n 1, 1) := by decide +kernel
theorem d_X12_feed_37 : decode (mC M_X12_feed) 37 = .ok (.goto 39, 3) := by decide +kernel
theorem d_X12_feed_40 : decode (mC M_X12_feed) 40 = .ok (.iload 6, 2) := by decide +kernel
theorem d_X12_feed_42 : decode (mC M_X12_feed) 42 = .ok (.bipush 8, 2) := by decide +kernel
theorem d_X12_feed_44 : decode (mC M_X12_feed) 44 = .ok (.if_icmp .ge 7, 3) := by decide +kernel
theorem d_X12_feed_47 : decode (mC M_X12_feed) 47 = .ok (.iload_n 2, 1) := by decide +kernel
theorem d_X12_feed_48 : decode (mC M_X12_feed) 48 = .ok (.goto 28, 3) := by decide +kernel
theorem d_X12_feed_51 : decode (mC M_X12_feed) 51 = .ok (.iload 6, 2) := by decide +kernel
theorem d_X12_feed_53 : decode (mC M_X12_feed) 53 = .ok (.bipush 12, 2) := by decide +kernel
theorem d_X12_feed_55 : decode (mC M_X12_feed) 55 = .ok (.if_icmp .ge 7, 3) := by decide +kernel
theorem d_X12_feed_58 : decode (mC M_X12_feed) 58 = .ok (.iload_n 3, 1) := by decide +kernel
theorem d_X12_feed_59 : decode (mC M_X12_feed) 59 = .ok (.goto 17, 3) := by decide +kernel
theorem d_X12_feed_62 : decode (mC M_X12_feed) 62 = .ok (.iload 6, 2) := by decide +kernel
theorem d_X12_feed_64 : decode (mC M_X12_feed) 64 = .ok (.bipush 16, 2) := by decide +kernel
theorem d_X12_feed_66 : decode (mC M_X12_feed) 66 = .ok (.if_icmp .ge 8, 3) := by decide +kernel
theorem d_X12_feed_69 : decode (mC M_X12_feed) 69 = .ok (.iload 4, 2) := by decide +kernel
theorem d_X12_feed_71 : decode (mC M_X12_feed) 71 = .ok (.goto 5, 3) := by decide +kernel
theorem d_X12_feed_74 : decode (mC M_X12_feed) 74 = .ok (.iload 5, 2) := by decide +kernel
theorem d_X12_feed_76 : decode (mC M_X12_feed) 76 = .ok (.istore 7, 2) := by decide +kernel
theorem d_X12_feed_78 : decode (mC M_X12_feed) 78 = .ok (.aload_n 0, 1) := by decide +kernel
theorem d_X12_feed_79 : decode (mC M_X12_feed) 79 = .ok (.getfield 48, 3) := by decide +kernel
theorem d_X12_feed_82 : decode (mC M_X12_feed) 82 = .ok (.aload_n 0, 1) := by decide +kernel
theorem d_X12_feed_83 : decode (mC M_X12_feed) 83 = .ok (.getfield 177, 3) := by decide +kernel
theorem d_X12_feed_86 : decode (mC M_X12_feed) 86 = .ok (.iload 7, 2) := by decide +kernel
theorem d_X12_feed_88 : decode (mC M_X12_feed) 88 = .ok (.bipush 24, 2) := by decide +kernel
theorem d_X12_feed_90 : decode (mC M_X12_feed) 90 = .ok (.bipush 8, 2) := by decide +kernel
theorem d_X12_feed_92 : decode (mC M_X12_feed) 92 = .ok (.iload 6, 2) := by decide +kernel
theorem d_X12_feed_94 : decode (mC M_X12_feed) 94 = .ok (.iconst 4, 1) := by decide +kernel
theorem d_X12_feed_95 : decode (mC M_X12_feed) 95 = .ok (.irem, 1) := by decide +kernel
theorem d_X12_feed_96 : decode (mC M_X12_feed) 96 = .ok (.imul, 1) := by decide +kernel
theorem d_X12_feed_97 : decode (mC M_X12_feed) 97 = .ok (.isub, 1) := by decide +kernel
theorem d_X12_feed_98 : decode (mC M_X12_feed) 98 = .ok (.ishr, 1) := by decide +kernel
theorem d_X12_feed_99 : decode (mC M_X12_feed) 99 = .ok (.i2b, 1) := by decide +kernel
theorem d_X12_feed_100 : decode (mC M_X12_feed) 100 = .ok (.bastore, 1) := by decide +kernel
theorem d_X12_feed_101 : decode (mC M_X12_feed) 101 = .ok (.aload_n 0, 1) := by decide +kernel
theorem d_X12_feed_102 : decode (mC M_X12_feed) 102 = .ok (.dup, 1) := by decide +kernel
theorem d_X12_feed_103 : decode (mC M_X12_feed) 103 = .ok (.getfield 177, 3) := by decide +kernel
theorem d_X12_feed_106 : decode (mC M_X12_feed) 106 = .ok (.iconst 1, 1) := by decide +kernel
theorem d_X12_feed_107 : decode (mC M_X12_feed) 107 = .ok (.iadd, 1) := by decide +kernel
theorem d_X12_feed_108 : decode (mC M_X12_feed) 108 = .ok (.putfield 177, 3) := by decide +kernel
theorem d_X12_feed_111 : decode (mC M_X12_feed) 111 = .ok (.iinc 6 1, 3) := by decide +kernel
theorem d_X12_feed_114 : decode (mC M_X12_feed) 114 = .ok (.goto (-91), 3) := by decide +kernel
theorem d_X12_feed_117 : decode (mC M_X12_feed) 117 = .ok (.aload_n 0, 1) := by decide +kernel
theorem d_X12_feed_118 : decode (mC M_X12_feed) 118 = .ok (.getfield 177, 3) := by decide +kernel
theorem d_X12_feed_121 : decode (mC M_X12_feed) 121 = .ok (.ireturn, 1) := by decide +kernel
theorem d_X12_first_0 : decode (mC M_X12_first) 0 = .ok (.iconst (-1), 1) := by decide +kernel
theorem d_X12_first_1 : decode (mC M_X12_first) 1 = .ok (.istore_n 1, 1) := by decide +kernel
theorem d_X12_first_2 : decode (mC M_X12_first) 2 = .ok (.iconst 0, 1) := by decide +kernel
theorem d_X12_first_3 : decode (mC M_X12_first) 3 = .ok (.istore_n 2, 1) := by decide +kernel
theorem d_X12_first_4 : decode (mC M_X12_first) 4 = .ok (.iload_n 2, 1) := by decide +kernel
theorem d_X12_first_5 : decode (mC M_X12_first) 5 = .ok (.aload_n 0, 1) := by decide +kernel
theorem d_X12_first_6 : decode (mC M_X12_first) 6 = .ok (.getfield 151, 3) := by decide +kernel
theorem d_X12_first_9 : decode (mC M_X12_first) 9 = .ok (.if_icmp .ge 40, 3) := by decide +kernel
theorem d_X12_first_12 : decode (mC M_X12_first) 12 = .ok (.aload_n 0, 1) := by decide +kernel
theorem d_X12_first_13 : decode (mC M_X12_first) 13 = .ok (.getfield 97, 3) := by decide +kernel
theorem d_X12_first_16 : decode (mC M_X12_first) 16 = .ok (.iload_n 2, 1) := by decide +kernel
theorem d_X12_first_17 : decode (mC M_X12_first) 17 = .ok (.baload, 1) := by decide +kernel
theorem d_X12_first_18 : decode (mC M_X12_first) 18 = .ok (.ifCond .ne 25, 3) := by decide +kernel
theorem d_X12_first_21 : decode (mC M_X12_first) 21 = .ok (.iload_n 1, 1) := by decide +kernel
theorem d_X12_first_22 : decode (mC M_X12_first) 22 = .ok (.iconst (-1), 1) := by decide +kernel
theorem d_X12_first_23 : decode (mC M_X12_first) 23 = .ok (.if_icmp .eq 18, 3) := by decide +kernel
theorem d_X12_first_26 : decode (mC M_X12_first) 26 = .ok (.aload_n 0, 1) := by decide +kernel
theorem d_X12_first_27 : decode (mC M_X12_first) 27 = .ok (.getfield 33, 3) := by decide +kernel
theorem d_X12_first_30 : decode (mC M_X12_first) 30 = .ok (.iload_n 2, 1) := by decide +kernel
theorem d_X12_first_31 : decode (mC M_X12_first) 31 = .ok (.iaload, 1) := by decide +kernel
theorem d_X12_first_32 : decode (mC M_X12_first) 32 = .ok (.aload_n 0, 1) := by decide +kernel
theorem d_X12_first_33 : decode (mC M_X12_first) 33 = .ok (.getfield 33, 3) := by decide +kernel
theorem d_X12_first_36 : decode (mC M_X12_first) 36 = .ok (.iload_n 1, 1) := by decide +kernel
theorem d_X12_first_37 : decode (mC M_X12_first) 37 = .ok (.iaload, 1) := by decide +kernel
theorem d_X12_first_38 : decode (mC M_X12_first) 38 = .ok (.if_icmp .ge 5, 3) := by decide +kernel
theorem d_X12_first_41 : decode (mC M_X12_first) 41 = .ok (.iload_n 2, 1) := by decide +kernel
theorem d_X12_first_42 : decode (mC M_X12_first) 42 = .ok (.istore_n 1, 1) := by decide +kernel
theorem d_X12_first_43 : decode (mC M_X12_first) 43 = .ok (.iinc 2 1, 3) := by decide +kernel
theorem d_X12_first_46 : decode (mC M_X12_first) 46 = .ok (.goto (-42), 3) := by decide +kernel
theorem d_X12_first_49 : decode (mC M_X12_first) 49 = .ok (.iload_n 1, 1) := by decide +kernel
theorem d_X12_first_50 : decode (mC M_X12_first) 50 = .ok (.ireturn, 1) := by decide +kernel
theorem d_X12_fits_0 : decode (mC M_X12_fits) 0 = .ok (.aload_n 0, 1) := by decide +kernel
theorem d_X12_fits_1 : decode (mC M_X12_fits) 1 = .ok (.iconst 0, 1) := by decide +kernel
theorem d_X12_fits_2 : decode (mC M_X12_fits) 2 = .ok (.putfield 1, 3) := by decide +kernel
theorem d_X12_fits_5 : decode (mC M_X12_fits) 5 = .ok (.aload_n 0, 1) := by decide +kernel
theorem d_X12_fits_6 : decode (mC M_X12_fits) 6 = .ok (.iload_n 1, 1) := by decide +kernel
theorem d_X12_fits_7 : decode (mC M_X12_fits) 7 = .ok (.invokevirtual 159, 3) := by decide +kernel
theorem d_X12_fits_10 : decode (mC M_X12_fits) 10 = .ok (.ifCond .eq 20, 3) := by decide +kernel
theorem d_X12_fits_13 : decode (mC M_X12_fits) 13 = .ok (.aload_n 0, 1) := by decide +kernel
theorem d_X12_fits_14 : decode (mC M_X12_fits) 14 = .ok (.iload_n 2, 1) := by decide +kernel
theorem d_X12_fits_15 : decode (mC M_X12_fits) 15 = .ok (.invokevirtual 311, 3) := by decide +kernel
theorem d_X12_fits_18 : decode (mC M_X12_fits) 18 = .ok (.ifCond .eq 12, 3) := by decide +kernel
theorem d_X12_fits_21 : decode (mC M_X12_fits) 21 = .ok (.iload_n 3, 1) := by decide +kernel
theorem d_X12_fits_22 : decode (mC M_X12_fits) 22 = .ok (.iconst 0, 1) := by decide +kernel
theorem d_X12_fits_23 : decode (mC M_X12_fits) 23 = .ok (.iconst 1, 1) := by decide +kernel
theorem d_X12_fits_24 : decode (mC M_X12_fits) 24 = .ok (.invokestatic 154, 3) := by decide +kernel
theorem d_X12_fits_27 : decode (mC M_X12_fits) 27 = .ok (.ifCond .ne 5, 3) := by decide +kernel
theorem d_X12_fits_30 : decode (mC M_X12_fits) 30 = .ok (.iconst (-1), 1) := by decide +kernel
theorem d_X12_fits_31 : decode (mC M_X12_fits) 31 = .ok (.ireturn, 1) := by decide +kernel
theorem d_X12_fits_32 : decode (mC M_X12_fits) 32 = .ok (.iload_n 3, 1) := by decide +kernel
theorem d_X12_fits_33 : decode (mC M_X12_fits) 33 = .ok (.ifCond .ne 15, 3) := by decide +kernel
theorem d_X12_fits_36 : decode (mC M_X12_fits) 36 = .ok (.aload_n 0, 1) := by decide +kernel
theorem d_X12_fits_37 : decode (mC M_X12_fits) 37 = .ok (.iload_n 1, 1) := by decide +kernel
theorem d_X12_fits_38 : decode (mC M_X12_fits) 38 = .ok (.iload_n 2, 1) := by decide +kernel
theorem d_X12_fits_39 : decode (mC M_X12_fits) 39 = .ok (.invokevirtual 307, 3) := by decide +kernel
theorem d_X12_fits_42 : decode (mC M_X12_fits) 42 = .ok (.ifCond .eq 19, 3) := by decide +kernel
theorem d_X12_fits_45 : decode (mC M_X12_fits) 45 = .ok (.goto 12, 3) := by decide +kernel
theorem d_X12_fits_48 : decode (mC M_X12_fits) 48 = .ok (.aload_n 0, 1) := by decide +kernel
theorem d_X12_fits_49 : decode (mC M_X12_fits) 49 = .ok (.iload_n 1, 1) := by decide +kernel
theorem d_X12_fits_50 : decode (mC M_X12_fits) 50 = .ok (.iload_n 2, 1) := by decide +kernel
theorem d_X12_fits_51 : decode (mC M_X12_fits) 51 = .ok (.invokevirtual 314, 3) := by decide +kernel
theorem d_X12_fits_54 : decode (mC M_X12_fits) 54 = .ok (.ifCond .eq 7, 3) := by decide +kernel
theorem d_X12_fits_57 : decode (mC M_X12_fits) 57 = .ok (.iconst 1, 1) := by decide +kernel
theorem d_X12_fits_58 : decode (mC M_X12_fits) 58 = .ok (.goto 4, 3) := by decide +kernel
theorem d_X12_fits_61 : decode (mC M_X12_fits) 61 = .ok (.iconst 0, 1) := by decide +kernel
theorem d_X12_fits_62 : decode (mC M_X12_fits) 62 = .ok (.ireturn, 1) := by decide +kernel
theorem d_X12_init_0 : decode (mC M_X12_init) 0 = .ok (.aload_n 0, 1) := by decide +kernel
theorem d_X12_init_1 : decode (mC M_X12_init) 1 = .ok (.invokespecial 7, 3) := by decide +kernel
theorem d_X12_init_4 : decode (mC M_X12_init) 4 = .ok (.aload_n 0, 1) := by decide +kernel
theorem d_X12_init_5 : decode (mC M_X12_init) 5 = .ok (.bipush 40, 2) := by decide +kernel
theorem d_X12_init_7 : decode (mC M_X12_init) 7 = .ok (.newarray .int, 2) := by decide +kernel
theorem d_X12_init_9 : decode (mC M_X12_init) 9 = .ok (.putfield 13, 3) := by decide +kernel
theorem d_X12_init_12 : decode (mC M_X12_init) 12 = .ok (.aload_n 0, 1) := by decide +kernel
theorem d_X12_init_13 : decode (mC M_X12_init) 13 = .ok (.bipush 40, 2) := by decide +kernel
theorem d_X12_init_15 : decode (mC M_X12_init) 15 = .ok (.newarray .int, 2) := by decide +kernel
theorem d_X12_init_17 : decode (mC M_X12_init) 17 = .ok (.putfield 17, 3) := by decide +kernel
theorem d_X12_init_20 : decode (mC M_X12_init) 20 = .ok (.aload_n 0, 1) := by decide +kernel
theorem d_X12_init_21 : decode (mC M_X12_init) 21 = .ok (.bipush 40, 2) := by decide +kernel
theorem d_X12_init_23 : decode (mC M_X12_init) 23 = .ok (.newarray .int, 2) := by decide +kernel
theorem d_X12_init_25 : decode (mC M_X12_init) 25 = .ok (.putfield 20, 3) := by decide +kernel
theorem d_X12_init_28 : decode (mC M_X12_init) 28 = .ok (.aload_n 0, 1) := by decide +kernel
theorem d_X12_init_29 : decode (mC M_X12_init) 29 = .ok (.bipush 40, 2) := by decide +kernel
theorem d_X12_init_31 : decode (mC M_X12_init) 31 = .ok (.newarray .int, 2) := by decide +kernel
theorem d_X12_init_33 : decode (mC M_X12_init) 33 = .ok (.putfield 23, 3) := by decide +kernel
theorem d_X12_init_36 : decode (mC M_X12_init) 36 = .ok (.aload_n 0, 1) := by decide +kernel
theorem d_X12_init_37 : decode (mC M_X12_init) 37 = .ok (.bipush 40, 2) := by decide +kernel
theorem d_X12_init_39 : decode (mC M_X12_init) 39 = .ok (.newarray .int, 2) := by decide +kernel
theorem d_X12_init_41 : decode (mC M_X12_init) 41 = .ok (.putfield 26, 3) := by decide +kernel
theorem d_X12_init_44 : decode (mC M_X12_init) 44 = .ok (.aload_n 0, 1) := by decide +kernel
theorem d_X12_init_45 : decode (mC M_X12_init) 45 = .ok (.bipush 40, 2) := by decide +kernel
theorem d_X12_init_47 : decode (mC M_X12_init) 47 = .ok (.newarray .boolean, 2) := by decide +kernel
theorem d_X12_init_49 : decode (mC M_X12_init) 49 = .ok (.putfield 29, 3) := by decide +kernel
theorem d_X12_init_52 : decode (mC M_X12_init) 52 = .ok (.aload_n 0, 1) := by decide +kernel
theorem d_X12_init_53 : decode (mC M_X12_init) 53 = .ok (.bipush 40, 2) := by decide +kernel
theorem d_X12_init_55 : decode (mC M_X12_init) 55 = .ok (.newarray .int, 2) := by decide +kernel
theorem d_X12_init_57 : decode (mC M_X12_init) 57 = .ok (.putfield 33, 3) := by decide +kernel
theorem d_X12_init_60 : decode (mC M_X12_init) 60 = .ok (.aload_n 0, 1) := by decide +kernel
theorem d_X12_init_61 : decode (mC M_X12_init) 61 = .ok (.bipush 40, 2) := by decide +kernel
theorem d_X12_init_63 : decode (mC M_X12_init) 63 = .ok (.newarray .int, 2) := by decide +kernel
theorem d_X12_init_65 : decode (mC M_X12_init) 65 = .ok (.putfield 36, 3) := by decide +kernel
theorem d_X12_init_68 : decode (mC M_X12_init) 68 = .ok (.aload_n 0, 1) := by decide +kernel
theorem d_X12_init_69 : decode (mC M_X12_init) 69 = .ok (.bipush 40, 2) := by decide +kernel
theorem d_X12_init_71 : decode (mC M_X12_init) 71 = .ok (.newarray .int, 2) := by decide +kernel
theorem d_X12_init_73 : decode (mC M_X12_init) 73 = .ok (.putfield 39, 3) := by decide +kernel
theorem d_X12_init_76 : decode (mC M_X12_init) 76 = .ok (.aload_n 0, 1) := by decide +kernel
theorem d_X12_init_77 : decode (mC M_X12_init) 77 = .ok (.sipush 2600, 3) := by decide +kernel
theorem d_X12_init_80 : decode (mC M_X12_init) 80 = .ok (.newarray .int, 2) := by decide +kernel
theorem d_X12_init_82 : decode (mC M_X12_init) 82 = .ok (.putfield 42, 3) := by decide +kernel
theorem d_X12_init_85 : decode (mC M_X12_init) 85 = .ok (.aload_n 0, 1) := by decide +kernel
theorem d_X12_init_86 : decode (mC M_X12_init) 86 = .ok (.sipush 2600, 3) := by decide +kernel
theorem d_X12_init_89 : decode (mC M_X12_init) 89 = .ok (.newarray .int, 2) := by decide +kernel
theorem d_X12_init_91 : decode (mC M_X12_init) 91 = .ok (.putfield 45, 3) := by decide +kernel
theorem d_X12_init_94 : decode (mC M_X12_init) 94 = .ok (.aload_n 0, 1) := by decide +kernel
theorem d_X12_init_95 : decode (mC M_X12_init) 95 = .ok (.sipush 1000, 3) := by decide +kernel
theorem d_X12_init_98 : decode (mC M_X12_init) 98 = .ok (.newarray .byte, 2) := by decide +kernel
theorem d_X12_init_100 : decode (mC M_X12_init) 100 = .ok (.putfield 48, 3) := by decide +kernel
theorem d_X12_init_103 : decode (mC M_X12_init) 103 = .ok (.aload_n 0, 1) := by decide +kernel
theorem d_X12_init_104 : decode (mC M_X12_init) 104 = .ok (.iconst (-1), 1) := by decide +kernel
theorem d_X12_init_105 : decode (mC M_X12_init) 105 = .ok (.putfield 52, 3) := by decide +kernel
theorem d_X12_init_108 : decode (mC M_X12_init) 108 = .ok (.aload_n 0, 1) := by decide +kernel
theorem d_X12_init_109 : decode (mC M_X12_init) 109 = .ok (.sipush 1000, 3) := by decide +kernel
theorem d_X12_init_112 : decode (mC M_X12_init) 112 = .ok (.newarray .byte, 2) := by decide +kernel
theorem d_X12_init_114 : decode (mC M_X12_init) 114 = .ok (.putfield 55, 3) := by decide +kernel
theorem d_X12_init_117 : decode (mC M_X12_init) 117 = .ok (.aload_n 0, 1) := by decide +kernel
theorem d_X12_init_118 : decode (mC M_X12_init) 118 = .ok (.bipush 6, 2) := by decide +kernel
theorem d_X12_init_120 : decode (mC M_X12_init) 120 = .ok (.newarray .int, 2) := by decide +kernel
theorem d_X12_init_122 : decode (mC M_X12_init) 122 = .ok (.putfield 58, 3) := by decide +kernel
theorem d_X12_init_125 : decode (mC M_X12_init) 125 = .ok (.aload_n 0, 1) := by decide +kernel
theorem d_X12_init_126 : decode (mC M_X12_init) 126 = .ok (.bipush 6, 2) := by decide +kernel
theorem d_X12_init_128 : decode (mC M_X12_init) 128 = .ok (.newarray .int, 2) := by decide +kernel
theorem d_X12_init_130 : decode (mC M_X12_init) 130 = .ok (.putfield 61, 3) := by decide +kernel
theorem d_X12_init_133 : decode (mC M_X12_init) 133 = .ok (.aload_n 0, 1) := by decide +kernel
theorem d_X12_init_134 : decode (mC M_X12_init) 134 = .ok (.bipush 6, 2) := by decide +kernel
theorem d_X12_init_136 : decode (mC M_X12_init) 136 = .ok (.newarray .int, 2) := by decide +kernel
theorem d_X12_init_138 : decode (mC M_X12_init) 138 = .ok (.putfield 64, 3) := by decide +kernel
theorem d_X12_init_141 : decode (mC M_X12_init) 141 = .ok (.aload_n 0, 1) := by decide +kernel
theorem d_X12_init_142 : decode (mC M_X12_init) 142 = .ok (.bipush 6, 2) := by decide +kernel
theorem d_X12_init_144 : decode (mC M_X12_init) 144 = .ok (.newarray .int, 2) := by decide +kernel
theorem d_X12_init_146 : decode (mC M_X12_init) 146 = .ok (.putfield 67, 3) := by decide +kernel
theorem d_X12_init_149 : decode (mC M_X12_init) 149 = .ok (.aload_n 0, 1) := by decide +kernel
theorem d_X12_init_150 : decode (mC M_X12_init) 150 = .ok (.bipush 6, 2) := by decide +kernel
theorem d_X12_init_152 : decode (mC M_X12_init) 152 = .ok (.newarray .int, 2) := by decide +kernel
theorem d_X12_init_154 : decode (mC M_X12_init) 154 = .ok (.putfield 70, 3) := by decide +kernel
theorem d_X12_init_157 : decode (mC M_X12_init) 157 = .ok (.aload_n 0, 1) := by decide +kernel
theorem d_X12_init_158 : decode (mC M_X12_init) 158 = .ok (.bipush 6, 2) := by decide +kernel
theorem d_X12_init_160 : decode (mC M_X12_init) 160 = .ok (.newarray .int, 2) := by decide +kernel
theorem d_X12_init_162 : decode (mC M_X12_init) 162 = .ok (.putfield 73, 3) := by decide +kernel
theorem d_X12_init_165 : decode (mC M_X12_init) 165 = .ok (.aload_n 0, 1) := by decide +kernel
theorem d_X12_init_166 : decode (mC M_X12_init) 166 = .ok (.bipush 6, 2) := by decide +kernel
theorem d_X12_init_168 : decode (mC M_X12_init) 168 = .ok (.newarray .int, 2) := by decide +kernel
theorem d_X12_init_170 : decode (mC M_X12_init) 170 = .ok (.putfield 76, 3) := by decide +kernel
theorem d_X12_init_173 : decode (mC M_X12_init) 173 = .ok (.aload_n 0, 1) := by decide +kernel
theorem d_X12_init_174 : decode (mC M_X12_init) 174 = .ok (.bipush 6, 2) := by decide +kernel
theorem d_X12_init_176 : decode (mC M_X12_init) 176 = .ok (.newarray .int, 2) := by decide +kernel
theorem d_X12_init_178 : decode (mC M_X12_init) 178 = .ok (.putfield 79, 3) := by decide +kernel
theorem d_X12_init_181 : decode (mC M_X12_init) 181 = .ok (.aload_n 0, 1) := by decide +kernel
theorem d_X12_init_182 : decode (mC M_X12_init) 182 = .ok (.bipush 6, 2) := by decide +kernel
theorem d_X12_init_184 : decode (mC M_X12_init) 184 = .ok (.newarray .int, 2) := by decide +kernel
theorem d_X12_init_186 : decode (mC M_X12_init) 186 = .ok (.putfield 82, 3) := by decide +kernel
theorem d_X12_init_189 : decode (mC M_X12_init) 189 = .ok (.aload_n 0, 1) := by decide +kernel
theorem d_X12_init_190 : decode (mC M_X12_init) 190 = .ok (.bipush 6, 2) := by decide +kernel
theorem d_X12_init_192 : decode (mC M_X12_init) 192 = .ok (.newarray .int, 2) := by decide +kernel
theorem d_X12_init_194 : decode (mC M_X12_init) 194 = .ok (.putfield 85, 3) := by decide +kernel
theorem d_X12_init_197 : decode (mC M_X12_init) 197 = .ok (.aload_n 0, 1) := by decide +kernel
theorem d_X12_init_198 : decode (mC M_X12_init) 198 = .ok (.bipush 40, 2) := by decide +kernel
theorem d_X12_init_200 : decode (mC M_X12_init) 200 = .ok (.newarray .int, 2) := by decide +kernel
theorem d_X12_init_202 : decode (mC M_X12_init) 202 = .ok (.putfield 88, 3) := by decide +kernel
theorem d_X12_init_205 : decode (mC M_X12_init) 205 = .ok (.aload_n 0, 1) := by decide +kernel
theorem d_X12_init_206 : decode (mC M_X12_init) 206 = .ok (.bipush 40, 2) := by decide +kernel
theorem d_X12_init_208 : decode (mC M_X12_init) 208 = .ok (.newarray .boolean, 2) := by decide +kernel
theorem d_X12_init_210 : decode (mC M_X12_init) 210 = .ok (.putfield 91, 3) := by decide +kernel
theorem d_X12_init_213 : decode (mC M_X12_init) 213 = .ok (.aload_n 0, 1) := by decide +kernel
theorem d_X12_init_214 : decode (mC M_X12_init) 214 = .ok (.bipush 6, 2) := by decide +kernel
theorem d_X12_init_216 : decode (mC M_X12_init) 216 = .ok (.newarray .int, 2) := by decide +kernel
theorem d_X12_init_218 : decode (mC M_X12_init) 218 = .ok (.putfield 94, 3) := by decide +kernel
theorem d_X12_init_221 : decode (mC M_X12_init) 221 = .ok (.aload_n 0, 1) := by decide +kernel
theorem d_X12_init_222 : decode (mC M_X12_init) 222 = .ok (.bipush 40, 2) := by decide +kernel
theorem d_X12_init_224 : decode (mC M_X12_init) 224 = .ok (.newarray .boolean, 2) := by decide +kernel
theorem d_X12_init_226 : decode (mC M_X12_init) 226 = .ok (.putfield 97, 3) := by decide +kernel
theorem d_X12_init_229 : decode (mC M_X12_init) 229 = .ok (.aload_n 0, 1) := by decide +kernel
theorem d_X12_init_230 : decode (mC M_X12_init) 230 = .ok (.bipush 40, 2) := by decide +kernel
theorem d_X12_init_232 : decode (mC M_X12_init) 232 = .ok (.newarray .int, 2) := by decide +kernel
theorem d_X12_init_234 : decode (mC M_X12_init) 234 = .ok (.putfield 100, 3) := by decide +kernel
theorem d_X12_init_237 : decode (mC M_X12_init) 237 = .ok (.aload_n 0, 1) := by decide +kernel
theorem d_X12_init_238 : decode (mC M_X12_init) 238 = .ok (.bipush 30, 2) := by decide +kernel
theorem d_X12_init_240 : decode (mC M_X12_init) 240 = .ok (.newarray .int, 2) := by decide +kernel
theorem d_X12_init_242 : decode (mC M_X12_init) 242 = .ok (.putfield 103, 3) := by decide +kernel
theorem d_X12_init_245 : decode (mC M_X12_init) 245 = .ok (.aload_n 0, 1) := by decide +kernel
theorem d_X12_init_246 : decode (mC M_X12_init) 246 = .ok (.sipush 240, 3) := by decide +kernel
theorem d_X12_init_249 : decode (mC M_X12_init) 249 = .ok (.newarray .int, 2) := by decide +kernel
theorem d_X12_init_251 : decode (mC M_X12_init) 251 = .ok (.putfield 106, 3) := by decide +kernel
theorem d_X12_init_254 : decode (mC M_X12_init) 254 = .ok (.aload_n 0, 1) := by decide +kernel
theorem d_X12_init_255 : decode (mC M_X12_init) 255 = .ok (.sipush 240, 3) := by decide +kernel
theorem d_X12_init_258 : decode (mC M_X12_init) 258 = .ok (.newarray .int, 2) := by decide +kernel
theorem d_X12_init_260 : decode (mC M_X12_init) 260 = .ok (.putfield 109, 3) := by decide +kernel
theorem d_X12_init_263 : decode (mC M_X12_init) 263 = .ok (.aload_n 0, 1) := by decide +kernel
theorem d_X12_init_264 : decode (mC M_X12_init) 264 = .ok (.sipush 240, 3) := by decide +kernel
theorem d_X12_init_267 : decode (mC M_X12_init) 267 = .ok (.newarray .int, 2) := by decide +kernel
theorem d_X12_init_269 : decode (mC M_X12_init) 269 = .ok (.putfield 112, 3) := by decide +kernel
theorem d_X12_init_272 : decode (mC M_X12_init) 272 = .ok (.aload_n 0, 1) := by decide +kernel
theorem d_X12_init_273 : decode (mC M_X12_init) 273 = .ok (.sipush 240, 3) := by decide +kernel
theorem d_X12_init_276 : decode (mC M_X12_init) 276 = .ok (.newarray .boolean, 2) := by decide +kernel
theorem d_X12_init_278 : decode (mC M_X12_init) 278 = .ok (.putfield 115, 3) := by decide +kernel
theorem d_X12_init_281 : decode (mC M_X12_init) 281 = .ok (.aload_n 0, 1) := by decide +kernel
theorem d_X12_init_282 : decode (mC M_X12_init) 282 = .ok (.sipush 2400, 3) := by decide +kernel
theorem d_X12_init_285 : decode (mC M_X12_init) 285 = .ok (.newarray .int, 2) := by decide +kernel
theorem d_X12_init_287 : decode (mC M_X12_init) 287 = .ok (.putfield 118, 3) := by decide +kernel
theorem d_X12_init_290 : decode (mC M_X12_init) 290 = .ok (.aload_n 0, 1) := by decide +kernel
theorem d_X12_init_291 : decode (mC M_X12_init) 291 = .ok (.sipush 2400, 3) := by decide +kernel
theorem d_X12_init_294 : decode (mC M_X12_init) 294 = .ok (.newarray .int, 2) := by decide +kernel
theorem d_X12_init_296 : decode (mC M_X12_init) 296 = .ok (.putfield 121, 3) := by decide +kernel
theorem d_X12_init_299 : decode (mC M_X12_init) 299 = .ok (.aload_n 0, 1) := by decide +kernel
theorem d_X12_init_300 : decode (mC M_X12_init) 300 = .ok (.sipush 2400, 3) := by decide +kernel
theorem d_X12_init_303 : decode (mC M_X12_init) 303 = .ok (.newarray .int, 2) := by decide +kernel
theorem d_X12_init_305 : decode (mC M_X12_init) 305 = .ok (.putfield 124, 3) := by decide +kernel
theorem d_X12_init_308 : decode (mC M_X12_init) 308 = .ok (.aload_n 0, 1) := by decide +kernel
theorem d_X12_init_309 : decode (mC M_X12_init) 309 = .ok (.sipush 2400, 3) := by decide +kernel
theorem d_X12_init_312 : decode (mC M_X12_init) 312 = .ok (.newarray .int, 2) := by decide +kernel
theorem d_X12_init_314 : decode (mC M_X12_init) 314 = .ok (.putfield 127, 3) := by decide +kernel
theorem d_X12_init_317 : decode (mC M_X12_init) 317 = .ok (.aload_n 0, 1) := by decide +kernel
theorem d_X12_init_318 : decode (mC M_X12_init) 318 = .ok (.sipush 2400, 3) := by decide +kernel
theorem d_X12_init_321 : decode (mC M_X12_init) 321 = .ok (.newarray .int, 2) := by decide +kernel
theorem d_X12_init_323 : decode (mC M_X12_init) 323 = .ok (.putfield 130, 3) := by decide +kernel
theorem d_X12_init_326 : decode (mC M_X12_init) 326 = .ok (.aload_n 0, 1) := by decide +kernel
theorem d_X12_init_327 : decode (mC M_X12_init) 327 = .ok (.sipush 2400, 3) := by decide +kernel
theorem d_X12_init_330 : decode (mC M_X12_init) 330 = .ok (.newarray .int, 2) := by decide +kernel
theorem d_X12_init_332 : decode (mC M_X12_init) 332 = .ok (.putfield 133, 3) := by decide +kernel
theorem d_X12_init_335 : decode (mC M_X12_init) 335 = .ok (.aload_n 0, 1) := by decide +kernel
theorem d_X12_init_336 : decode (mC M_X12_init) 336 = .ok (.iconst 5, 1) := by decide +kernel
theorem d_X12_init_337 : decode (mC M_X12_init) 337 = .ok (.newarray .int, 2) := by decide +kernel
theorem d_X12_init_339 : decode (mC M_X12_init) 339 = .ok (.putfield 136, 3) := by decide +kernel
theorem d_X12_init_342 : decode (mC M_X12_init) 342 = .ok (.aload_n 0, 1) := by decide +kernel
theorem d_X12_init_343 : decode (mC M_X12_init) 343 = .ok (.bipush 40, 2) := by decide +kernel
theorem d_X12_init_345 : decode (mC M_X12_init) 345 = .ok (.newarray .boolean, 2) := by decide +kernel
theorem d_X12_init_347 : decode (mC M_X12_init) 347 = .ok (.putfield 139, 3) := by decide +kernel
theorem d_X12_init_350 : decode (mC M_X12_init) 350 = .ok (.aload_n 0, 1) := by decide +kernel
theorem d_X12_init_351 : decode (mC M_X12_init) 351 = .ok (.bipush 40, 2) := by decide +kernel
theorem d_X12_init_353 : decode (mC M_X12_init) 353 = .ok (.newarray .int, 2) := by decide +kernel
theorem d_X12_init_355 : decode (mC M_X12_init) 355 = .ok (.putfield 142, 3) := by decide +kernel
theorem d_X12_init_358 : decode (mC M_X12_init) 358 = .ok (.aload_n 0, 1) := by decide +kernel
theorem d_X12_init_359 : decode (mC M_X12_init) 359 = .ok (.bipush 40, 2) := by decide +kernel
theorem d_X12_init_361 : decode (mC M_X12_init) 361 = .ok (.newarray .int, 2) := by decide +kernel
theorem d_X12_init_363 : decode (mC M_X12_init) 363 = .ok (.putfield 145, 3) := by decide +kernel
theorem d_X12_init_366 : decode (mC M_X12_init) 366 = .ok (.aload_n 0, 1) := by decide +kernel
theorem d_X12_init_367 : decode (mC M_X12_init) 367 = .ok (.bipush 40, 2) := by decide +kernel
theorem d_X12_init_369 : decode (mC M_X12_init) 369 = .ok (.newarray .int, 2) := by decide +kernel
theorem d_X12_init_371 : decode (mC M_X12_init) 371 = .ok (.putfield 148, 3) := by decide +kernel
theorem d_X12_init_374 : decode (mC M_X12_init) 374 = .ok (.return_, 1) := by decide +kernel
theorem d_X12_is_0 : decode (mC M_X12_is) 0 = .ok (.aload_n 0, 1) := by decide +kernel
theorem d_X12_is_1 : decode (mC M_X12_is) 1 = .ok (.getfield 192, 3) := by decide +kernel
theorem d_X12_is_4 : decode (mC M_X12_is) 4 = .ok (.iconst 4, 1) := by decide +kernel
theorem d_X12_is_5 : decode (mC M_X12_is) 5 = .ok (.if_icmp .ne 15, 3) := by decide +kernel
theorem d_X12_is_8 : decode (mC M_X12_is) 8 = .ok (.aload_n 0, 1) := by decide +kernel
theorem d_X12_is_9 : decode (mC M_X12_is) 9 = .ok (.getfield 205, 3) := by decide +kernel
theorem d_X12_is_12 : decode (mC M_X12_is) 12 = .ok (.iload_n 1, 1) := by decide +kernel
theorem d_X12_is_13 : decode (mC M_X12_is) 13 = .ok (.if_icmp .ne 7, 3) := by decide +kernel
theorem d_X12_is_16 : decode (mC M_X12_is) 16 = .ok (.iconst 1, 1) := by decide +kernel
theorem d_X12_is_17 : decode (mC M_X12_is) 17 = .ok (.goto 4, 3) := by decide +kernel
theorem d_X12_is_20 : decode (mC M_X12_is) 20 = .ok (.iconst 0, 1) := by decide +kernel
theorem d_X12_is_21 : decode (mC M_X12_is) 21 = .ok (.ireturn, 1) := by decide +kernel
theorem d_X12_isAsk_0 : decode (mC M_X12_isAsk) 0 = .ok (.iload_n 1, 1) := by decide +kernel
theorem d_X12_isAsk_1 : decode (mC M_X12_isAsk) 1 = .ok (.ifCond .lt 15, 3) := by decide +kernel
theorem d_X12_isAsk_4 : decode (mC M_X12_isAsk) 4 = .ok (.iload_n 1, 1) := by decide +kernel
theorem d_X12_isAsk_5 : decode (mC M_X12_isAsk) 5 = .ok (.aload_n 0, 1) := by decide +kernel
theorem d_X12_isAsk_6 : decode (mC M_X12_isAsk) 6 = .ok (.getfield 298, 3) := by decide +kernel
theorem d_X12_isAsk_9 : decode (mC M_X12_isAsk) 9 = .ok (.if_icmp .ge 7, 3) := by decide +kernel
theorem d_X12_isAsk_12 : decode (mC M_X12_isAsk) 12 = .ok (.iconst 1, 1) := by decide +kernel
theorem d_X12_isAsk_13 : decode (mC M_X12_isAsk) 13 = .ok (.goto 4, 3) := by decide +kernel
theorem d_X12_isAsk_16 : decode (mC M_X12_isAsk) 16 = .ok (.iconst 0, 1) := by decide +kernel
theorem d_X12_isAsk_17 : decode (mC M_X12_isAsk) 17 = .ok (.ireturn, 1) := by decide +kernel
theorem d_X12_isDigit_0 : decode (mC M_X12_isDigit) 0 = .ok (.iload_n 0, 1) := by decide +kernel
theorem d_X12_isDigit_1 : decode (mC M_X12_isDigit) 1 = .ok (.bipush 48, 2) := by decide +kernel
theorem d_X12_isDigit_3 : decode (mC M_X12_isDigit) 3 = .ok (.if_icmp .lt 13, 3) := by decide +kernel
theorem d_X12_isDigit_6 : decode (mC M_X12_isDigit) 6 = .ok (.iload_n 0, 1) := by decide +kernel
theorem d_X12_isDigit_7 : decode (mC M_X12_isDigit) 7 = .ok (.bipush 57, 2) := by decide +kernel
theorem d_X12_isDigit_9 : decode (mC M_X12_isDigit) 9 = .ok (.if_icmp .gt 7, 3) := by decide +kernel
theorem d_X12_isDigit_12 : decode (mC M_X12_isDigit) 12 = .ok (.iconst 1, 1) := by decide +kernel
theorem d_X12_isDigit_13 : decode (mC M_X12_isDigit) 13 = .ok (.goto 4, 3) := by decide +kernel
theorem d_X12_isDigit_16 : decode (mC M_X12_isDigit) 16 = .ok (.iconst 0, 1) := by decide +kernel
theorem d_X12_isDigit_17 : decode (mC M_X12_isDigit) 17 = .ok (.ireturn, 1) := by decide +kernel
theorem d_X12_isPerson_0 : decode (mC M_X12_isPerson) 0 = .ok (.iload_n 1, 1) := by decide +kernel
theorem d_X12_isPerson_1 : decode (mC M_X12_isPerson) 1 = .ok (.ifCond .lt 15, 3) := by decide +kernel
theorem d_X12_isPerson_4 : decode (mC M_X12_isPerson) 4 = .ok (.iload_n 1, 1) := by decide +kernel
theorem d_X12_isPerson_5 : decode (mC M_X12_isPerson) 5 = .ok (.aload_n 0, 1) := by decide +kernel
theorem d_X12_isPerson_6 : decode (mC M_X12_isPerson) 6 = .ok (.getfield 151, 3) := by decide +kernel
theorem d_X12_isPerson_9 : decode (mC M_X12_isPerson) 9 = .ok (.if_icmp .ge 7, 3) := by decide +kernel
theorem d_X12_isPerson_12 : decode (mC M_X12_isPerson) 12 = .ok (.iconst 1, 1) := by decide +kernel
theorem d_X12_isPerson_13 : decode (mC M_X12_isPerson) 13 = .ok (.goto 4, 3) := by decide +kernel
theorem d_X12_isPerson_16 : decode (mC M_X12_isPerson) 16 = .ok (.iconst 0, 1) := by decide +kernel
theorem d_X12_isPerson_17 : decode (mC M_X12_isPerson) 17 = .ok (.ireturn, 1) := by decide +kernel
theorem d_X12_isRecord_0 : decode (mC M_X12_isRecord) 0 = .ok (.aload_n 0, 1) := by decide +kernel
theorem d_X12_isRecord_1 : decode (mC M_X12_isRecord) 1 = .ok (.iload_n 1, 1) := by decide +kernel
theorem d_X12_isRecord_2 : decode (mC M_X12_isRecord) 2 = .ok (.invokevirtual 159, 3) := by decide +kernel
theorem d_X12_isRecord_5 : decode (mC M_X12_isRecord) 5 = .ok (.ifCond .eq 34, 3) := by decide +kernel
theorem d_X12_isRecord_8 : decode (mC M_X12_isRecord) 8 = .ok (.iload_n 2, 1) := by decide +kernel
theorem d_X12_isRecord_9 : decode (mC M_X12_isRecord) 9 = .ok (.ifCond .lt 30, 3) := by decide +kernel
theorem d_X12_isRecord_12 : decode (mC M_X12_isRecord) 12 = .ok (.iload_n 2, 1) := by decide +kernel
theorem d_X12_isRecord_13 : decode (mC M_X12_isRecord) 13 = .ok (.aload_n 0, 1) := by decide +kernel
theorem d_X12_isRecord_14 : decode (mC M_X12_isRecord) 14 = .ok (.getfield 304, 3) := by decide +kernel
theorem d_X12_isRecord_17 : decode (mC M_X12_isRecord) 17 = .ok (.if_icmp .ge 22, 3) := by decide +kernel
theorem d_X12_isRecord_20 : decode (mC M_X12_isRecord) 20 = .ok (.aload_n 0, 1) := by decide +kernel
theorem d_X12_isRecord_21 : decode (mC M_X12_isRecord) 21 = .ok (.getfield 118, 3) := by decide +kernel
theorem d_X12_isRecord_24 : decode (mC M_X12_isRecord) 24 = .ok (.bipush 40, 2) := by decide +kernel
theorem d_X12_isRecord_26 : decode (mC M_X12_isRecord) 26 = .ok (.iload_n 2, 1) := by decide +kernel
theorem d_X12_isRecord_27 : decode (mC M_X12_isRecord) 27 = .ok (.imul, 1) := by decide +kernel
theorem d_X12_isRecord_28 : decode (mC M_X12_isRecord) 28 = .ok (.iload_n 1, 1) := by decide +kernel
theorem d_X12_isRecord_29 : decode (mC M_X12_isRecord) 29 = .ok (.iadd, 1) := by decide +kernel
theorem d_X12_isRecord_30 : decode (mC M_X12_isRecord) 30 = .ok (.iaload, 1) := by decide +kernel
theorem d_X12_isRecord_31 : decode (mC M_X12_isRecord) 31 = .ok (.iconst (-1), 1) := by decide +kernel
theorem d_X12_isRecord_32 : decode (mC M_X12_isRecord) 32 = .ok (.if_icmp .eq 7, 3) := by decide +kernel
theorem d_X12_isRecord_35 : decode (mC M_X12_isRecord) 35 = .ok (.iconst 1, 1) := by decide +kernel
theorem d_X12_isRecord_36 : decode (mC M_X12_isRecord) 36 = .ok (.goto 4, 3) := by decide +kernel
theorem d_X12_isRecord_39 : decode (mC M_X12_isRecord) 39 = .ok (.iconst 0, 1) := by decide +kernel
theorem d_X12_isRecord_40 : decode (mC M_X12_isRecord) 40 = .ok (.ireturn, 1) := by decide +kernel
theorem d_X12_isRoom_0 : decode (mC M_X12_isRoom) 0 = .ok (.iconst 0, 1) := by decide +kernel
theorem d_X12_isRoom_1 : decode (mC M_X12_isRoom) 1 = .ok (.istore_n 1, 1) := by decide +kernel
theorem d_X12_isRoom_2 : decode (mC M_X12_isRoom) 2 = .ok (.iload_n 1, 1) := by decide +kernel
theorem d_X12_isRoom_3 : decode (mC M_X12_isRoom) 3 = .ok (.iconst 1, 1) := by decide +kernel
theorem d_X12_isRoom_4 : decode (mC M_X12_isRoom) 4 = .ok (.aload_n 0, 1) := by decide +kernel
theorem d_X12_isRoom_5 : decode (mC M_X12_isRoom) 5 = .ok (.getfield 298, 3) := by decide +kernel
theorem d_X12_isRoom_8 : decode (mC M_X12_isRoom) 8 = .ok (.ishl, 1) := by decide +kernel
theorem d_X12_isRoom_9 : decode (mC M_X12_isRoom) 9 = .ok (.if_icmp .ge 99, 3) := by decide +kernel
theorem d_X12_isRoom_12 : decode (mC M_X12_isRoom) 12 = .ok (.iconst 0, 1) := by decide +kernel
theorem d_X12_isRoom_13 : decode (mC M_X12_isRoom) 13 = .ok (.istore_n 2, 1) := by decide +kernel
theorem d_X12_isRoom_14 : decode (mC M_X12_isRoom) 14 = .ok (.iconst 0, 1) := by decide +kernel
theorem d_X12_isRoom_15 : decode (mC M_X12_isRoom) 15 = .ok (.istore_n 3, 1) := by decide +kernel
theorem d_X12_isRoom_16 : decode (mC M_X12_isRoom) 16 = .ok (.iload_n 3, 1) := by decide +kernel
theorem d_X12_isRoom_17 : decode (mC M_X12_isRoom) 17 = .ok (.aload_n 0, 1) := by decide +kernel
theorem d_X12_isRoom_18 : decode (mC M_X12_isRoom) 18 = .ok (.getfield 298, 3) := by decide +kernel
theorem d_X12_isRoom_21 : decode (mC M_X12_isRoom) 21 = .ok (.if_icmp .ge 27, 3) := by decide +kernel
theorem d_X12_isRoom_24 : decode (mC M_X12_isRoom) 24 = .ok (.iload_n 1, 1) := by decide +kernel
theorem d_X12_isRoom_25 : decode (mC M_X12_isRoom) 25 = .ok (.iload_n 3, 1) := by decide +kernel
theorem d_X12_isRoom_26 : decode (mC M_X12_isRoom) 26 = .ok (.ishr, 1) := by decide +kernel
theorem d_X12_isRoom_27 : decode (mC M_X12_isRoom) 27 = .ok (.iconst 1, 1) := by decide +kernel
theorem d_X12_isRoom_28 : decode (mC M_X12_isRoom) 28 = .ok (.iand, 1) := by decide +kernel
theorem d_X12_isRoom_29 : decode (mC M_X12_isRoom) 29 = .ok (.iconst 1, 1) := by decide +kernel
theorem d_X12_isRoom_30 : decode (mC M_X12_isRoom) 30 = .ok (.if_icmp .ne 12, 3) := by decide +kernel
theorem d_X12_isRoom_33 : decode (mC M_X12_isRoom) 33 = .ok (.iload_n 2, 1) := by decide +kernel
theorem d_X12_isRoom_34 : decode (mC M_X12_isRoom) 34 = .ok (.aload_n 0, 1) := by decide +kernel
theorem d_X12_isRoom_35 : decode (mC M_X12_isRoom) 35 = .ok (.getfield 94, 3) := by decide +kernel
theorem d_X12_isRoom_38 : decode (mC M_X12_isRoom) 38 = .ok (.iload_n 3, 1) := by decide +kernel
theorem d_X12_isRoom_39 : decode (mC M_X12_isRoom) 39 = .ok (.iaload, 1) := by decide +kernel
theorem d_X12_isRoom_40 : decode (mC M_X12_isRoom) 40 = .ok (.iadd, 1) := by decide +kernel
theorem d_X12_isRoom_41 : decode (mC M_X12_isRoom) 41 = .ok (.istore_n 2, 1) := by decide +kernel
theorem d_X12_isRoom_42 : decode (mC M_X12_isRoom) 42 = .ok (.iinc 3 1, 3) := by decide +kernel
theorem d_X12_isRoom_45 : decode (mC M_X12_isRoom) 45 = .ok (.goto (-29), 3) := by decide +kernel
theorem d_X12_isRoom_48 : decode (mC M_X12_isRoom) 48 = .ok (.iconst 0, 1) := by decide +kernel
theorem d_X12_isRoom_49 : decode (mC M_X12_isRoom) 49 = .ok (.istore_n 3, 1) := by decide +kernel
theorem d_X12_isRoom_50 : decode (mC M_X12_isRoom) 50 = .ok (.iconst 0, 1) := by decide +kernel
theorem d_X12_isRoom_51 : decode (mC M_X12_isRoom) 51 = .ok (.istore 4, 2) := by decide +kernel
theorem d_X12_isRoom_53 : decode (mC M_X12_isRoom) 53 = .ok (.iload 4, 2) := by decide +kernel
theorem d_X12_isRoom_55 : decode (mC M_X12_isRoom) 55 = .ok (.aload_n 0, 1) := by decide +kernel
theorem d_X12_isRoom_56 : decode (mC M_X12_isRoom) 56 = .ok (.getfield 151, 3) := by decide +kernel
theorem d_X12_isRoom_59 : decode (mC M_X12_isRoom) 59 = .ok (.if_icmp .ge 36, 3) := by decide +kernel
theorem d_X12_isRoom_62 : decode (mC M_X12_isRoom) 62 = .ok (.aload_n 0, 1) := by decide +kernel
theorem d_X12_isRoom_63 : decode (mC M_X12_isRoom) 63 = .ok (.getfield 91, 3) := by decide +kernel
theorem d_X12_isRoom_66 : decode (mC M_X12_isRoom) 66 = .ok (.iload 4, 2) := by decide +kernel
theorem d_X12_isRoom_68 : decode (mC M_X12_isRoom) 68 = .ok (.baload, 1) := by decide +kernel
theorem d_X12_isRoom_69 : decode (mC M_X12_isRoom) 69 = .ok (.ifCond .eq 20, 3) := by decide +kernel
theorem d_X12_isRoom_72 : decode (mC M_X12_isRoom) 72 = .ok (.aload_n 0, 1) := by decide +kernel
theorem d_X12_isRoom_73 : decode (mC M_X12_isRoom) 73 = .ok (.getfield 88, 3) := by decide +kernel
theorem d_X12_isRoom_76 : decode (mC M_X12_isRoom) 76 = .ok (.iload 4, 2) := by decide +kernel
theorem d_X12_isRoom_78 : decode (mC M_X12_isRoom) 78 = .ok (.iaload, 1) := by decide +kernel
theorem d_X12_isRoom_79 : decode (mC M_X12_isRoom) 79 = .ok (.iload_n 1, 1) := by decide +kernel
theorem d_X12_isRoom_80 : decode (mC M_X12_isRoom) 80 = .ok (.iconst (-1), 1) := by decide +kernel
theorem d_X12_isRoom_81 : decode (mC M_X12_isRoom) 81 = .ok (.ixor, 1) := by decide +kernel
theorem d_X12_isRoom_82 : decode (mC M_X12_isRoom) 82 = .ok (.iand, 1) := by decide +kernel
theorem d_X12_isRoom_83 : decode (mC M_X12_isRoom) 83 = .ok (.ifCond .ne 6, 3) := by decide +kernel
theorem d_X12_isRoom_86 : decode (mC M_X12_isRoom) 86 = .ok (.iinc 3 1, 3) := by decide +kernel
theorem d_X12_isRoom_89 : decode (mC M_X12_isRoom) 89 = .ok (.iinc 4 1, 3) := by decide +kernel
theorem d_X12_isRoom_92 : decode (mC M_X12_isRoom) 92 = .ok (.goto (-39), 3) := by decide +kernel
theorem d_X12_isRoom_95 : decode (mC M_X12_isRoom) 95 = .ok (.iload_n 3, 1) := by decide +kernel
theorem d_X12_isRoom_96 : decode (mC M_X12_isRoom) 96 = .ok (.iload_n 2, 1) := by decide +kernel
theorem d_X12_isRoom_97 : decode (mC M_X12_isRoom) 97 = .ok (.if_icmp .le 5, 3) := by decide +kernel
theorem d_X12_isRoom_100 : decode (mC M_X12_isRoom) 100 = .ok (.iconst 0, 1) := by decide +kernel
theorem d_X12_isRoom_101 : decode (mC M_X12_isRoom) 101 = .ok (.ireturn, 1) := by decide +kernel
theorem d_X12_isRoom_102 : decode (mC M_X12_isRoom) 102 = .ok (.iinc 1 1, 3) := by decide +kernel
theorem d_X12_isRoom_105 : decode (mC M_X12_isRoom) 105 = .ok (.goto (-103), 3) := by decide +kernel
theorem d_X12_isRoom_108 : decode (mC M_X12_isRoom) 108 = .ok (.iconst 1, 1) := by decide +kernel
theorem d_X12_isRoom_109 : decode (mC M_X12_isRoom) 109 = .ok (.ireturn, 1) := by decide +kernel
theorem d_X12_isSmall_0 : decode (mC M_X12_isSmall) 0 = .ok (.iload_n 0, 1) := by decide +kernel
theorem d_X12_isSmall_1 : decode (mC M_X12_isSmall) 1 = .ok (.bipush 97, 2) := by decide +kernel
theorem d_X12_isSmall_3 : decode (mC M_X12_isSmall) 3 = .ok (.if_icmp .lt 13, 3) := by decide +kernel
theorem d_X12_isSmall_6 : decode (mC M_X12_isSmall) 6 = .ok (.iload_n 0, 1) := by decide +kernel
theorem d_X12_isSmall_7 : decode (mC M_X12_isSmall) 7 = .ok (.bipush 122, 2) := by decide +kernel
theorem d_X12_isSmall_9 : decode (mC M_X12_isSmall) 9 = .ok (.if_icmp .gt 7, 3) := by decide +kernel
theorem d_X12_isSmall_12 : decode (mC M_X12_isSmall) 12 = .ok (.iconst 1, 1) := by decide +kernel
theorem d_X12_isSmall_13 : decode (mC M_X12_isSmall) 13 = .ok (.goto 4, 3) := by decide +kernel
theorem d_X12_isSmall_16 : decode (mC M_X12_isSmall) 16 = .ok (.iconst 0, 1) := by decide +kernel
theorem d_X12_isSmall_17 : decode (mC M_X12_isSmall) 17 = .ok (.ireturn, 1) := by decide +kernel
theorem d_X12_isWord_0 : decode (mC M_X12_isWord) 0 = .ok (.aload_n 0, 1) := by decide +kernel
theorem d_X12_isWord_1 : decode (mC M_X12_isWord) 1 = .ok (.getfield 192, 3) := by decide +kernel
theorem d_X12_isWord_4 : decode (mC M_X12_isWord) 4 = .ok (.iconst 3, 1) := by decide +kernel
theorem d_X12_isWord_5 : decode (mC M_X12_isWord) 5 = .ok (.if_icmp .ne 19, 3) := by decide +kernel
theorem d_X12_isWord_8 : decode (mC M_X12_isWord) 8 = .ok (.aload_n 0, 1) := by decide +kernel
theorem d_X12_isWord_9 : decode (mC M_X12_isWord) 9 = .ok (.getfield 186, 3) := by decide +kernel
theorem d_X12_isWord_12 : decode (mC M_X12_isWord) 12 = .ok (.aload_n 0, 1) := by decide +kernel
theorem d_X12_isWord_13 : decode (mC M_X12_isWord) 13 = .ok (.getfield 189, 3) := by decide +kernel
theorem d_X12_isWord_16 : decode (mC M_X12_isWord) 16 = .ok (.isub, 1) := by decide +kernel
theorem d_X12_isWord_17 : decode (mC M_X12_isWord) 17 = .ok (.aload_n 1, 1) := by decide +kernel
theorem d_X12_isWord_18 : decode (mC M_X12_isWord) 18 = .ok (.invokevirtual 211, 3) := by decide +kernel
theorem d_X12_isWord_21 : decode (mC M_X12_isWord) 21 = .ok (.if_icmp .eq 5, 3) := by decide +kernel
theorem d_X12_isWord_24 : decode (mC M_X12_isWord) 24 = .ok (.iconst 0, 1) := by decide +kernel
theorem d_X12_isWord_25 : decode (mC M_X12_isWord) 25 = .ok (.ireturn, 1) := by decide +kernel
theorem d_X12_isWord_26 : decode (mC M_X12_isWord) 26 = .ok (.iconst 0, 1) := by decide +kernel
theorem d_X12_isWord_27 : decode (mC M_X12_isWord) 27 = .ok (.istore_n 2, 1) := by decide +kernel
theorem d_X12_isWord_28 : decode (mC M_X12_isWord) 28 = .ok (.iload_n 2, 1) := by decide +kernel
theorem d_X12_isWord_29 : decode (mC M_X12_isWord) 29 = .ok (.aload_n 1, 1) := by decide +kernel
theorem d_X12_isWord_30 : decode (mC M_X12_isWord) 30 = .ok (.invokevirtual 211, 3) := by decide +kernel
theorem d_X12_isWord_33 : decode (mC M_X12_isWord) 33 = .ok (.if_icmp .ge 30, 3) := by decide +kernel
theorem d_X12_isWord_36 : decode (mC M_X12_isWord) 36 = .ok (.aload_n 0, 1) := by decide +kernel
theorem d_X12_isWord_37 : decode (mC M_X12_isWord) 37 = .ok (.getfield 183, 3) := by decide +kernel
theorem d_X12_isWord_40 : decode (mC M_X12_isWord) 40 = .ok (.aload_n 0, 1) := by decide +kernel
theorem d_X12_isWord_41 : decode (mC M_X12_isWord) 41 = .ok (.getfield 189, 3) := by decide +kernel
theorem d_X12_isWord_44 : decode (mC M_X12_isWord) 44 = .ok (.iload_n 2, 1) := by decide +kernel
theorem d_X12_isWord_45 : decode (mC M_X12_isWord) 45 = .ok (.iadd, 1) := by decide +kernel
theorem d_X12_isWord_46 : decode (mC M_X12_isWord) 46 = .ok (.baload, 1) := by decide +kernel
theorem d_X12_isWord_47 : decode (mC M_X12_isWord) 47 = .ok (.aload_n 1, 1) := by decide +kernel
theorem d_X12_isWord_48 : decode (mC M_X12_isWord) 48 = .ok (.iload_n 2, 1) := by decide +kernel
theorem d_X12_isWord_49 : decode (mC M_X12_isWord) 49 = .ok (.invokevirtual 217, 3) := by decide +kernel
theorem d_X12_isWord_52 : decode (mC M_X12_isWord) 52 = .ok (.if_icmp .eq 5, 3) := by decide +kernel
theorem d_X12_isWord_55 : decode (mC M_X12_isWord) 55 = .ok (.iconst 0, 1) := by decide +kernel
theorem d_X12_isWord_56 : decode (mC M_X12_isWord) 56 = .ok (.ireturn, 1) := by decide +kernel
theorem d_X12_isWord_57 : decode (mC M_X12_isWord) 57 = .ok (.iinc 2 1, 3) := by decide +kernel
theorem d_X12_isWord_60 : decode (mC M_X12_isWord) 60 = .ok (.goto (-32), 3) := by decide +kernel
theorem d_X12_isWord_63 : decode (mC M_X12_isWord) 63 = .ok (.iconst 1, 1) := by decide +kernel
theorem d_X12_isWord_64 : decode (mC M_X12_isWord) 64 = .ok (.ireturn, 1) := by decide +kernel
theorem d_X12_lacks_0 : decode (mC M_X12_lacks) 0 = .ok (.aload_n 0, 1) := by decide +kernel
theorem d_X12_lacks_1 : decode (mC M_X12_lacks) 1 = .ok (.iconst 0, 1) := by decide +kernel
theorem d_X12_lacks_2 : decode (mC M_X12_lacks) 2 = .ok (.putfield 1, 3) := by decide +kernel
theorem d_X12_lacks_5 : decode (mC M_X12_lacks) 5 = .ok (.iload_n 1, 1) := by decide +kernel
theorem d_X12_lacks_6 : decode (mC M_X12_lacks) 6 = .ok (.ifCond .lt 20, 3) := by decide +kernel
theorem d_X12_lacks_9 : decode (mC M_X12_lacks) 9 = .ok (.iload_n 1, 1) := by decide +kernel
theorem d_X12_lacks_10 : decode (mC M_X12_lacks) 10 = .ok (.aload_n 0, 1) := by decide +kernel
theorem d_X12_lacks_11 : decode (mC M_X12_lacks) 11 = .ok (.getfield 384, 3) := by decide +kernel
theorem d_X12_lacks_14 : decode (mC M_X12_lacks) 14 = .ok (.if_icmp .ge 12, 3) := by decide +kernel
theorem d_X12_lacks_17 : decode (mC M_X12_lacks) 17 = .ok (.aload_n 0, 1) := by decide +kernel
theorem d_X12_lacks_18 : decode (mC M_X12_lacks) 18 = .ok (.getfield 148, 3) := by decide +kernel
theorem d_X12_lacks_21 : decode (mC M_X12_lacks) 21 = .ok (.iload_n 1, 1) := by decide +kernel
theorem d_X12_lacks_22 : decode (mC M_X12_lacks) 22 = .ok (.iaload, 1) := by decide +kernel
theorem d_X12_lacks_23 : decode (mC M_X12_lacks) 23 = .ok (.goto 4, 3) := by decide +kernel
theorem d_X12_lacks_26 : decode (mC M_X12_lacks) 26 = .ok (.iconst (-1), 1) := by decide +kernel
theorem d_X12_lacks_27 : decode (mC M_X12_lacks) 27 = .ok (.ireturn, 1) := by decide +kernel
theorem d_X12_lay_0 : decode (mC M_X12_lay) 0 = .ok (.aload_n 0, 1) := by decide +kernel
theorem d_X12_lay_1 : decode (mC M_X12_lay) 1 = .ok (.iconst 0, 1) := by decide +kernel
theorem d_X12_lay_2 : decode (mC M_X12_lay) 2 = .ok (.putfield 1, 3) := by decide +kernel
theorem d_X12_lay_5 : decode (mC M_X12_lay) 5 = .ok (.aload_n 0, 1) := by decide +kernel
theorem d_X12_lay_6 : decode (mC M_X12_lay) 6 = .ok (.getfield 298, 3) := by decide +kernel
theorem d_X12_lay_9 : decode (mC M_X12_lay) 9 = .ok (.ifCond .ne 5, 3) := by decide +kernel
theorem d_X12_lay_12 : decode (mC M_X12_lay) 12 = .ok (.iconst (-1), 1) := by decide +kernel
theorem d_X12_lay_13 : decode (mC M_X12_lay) 13 = .ok (.ireturn, 1) := by decide +kernel
theorem d_X12_lay_14 : decode (mC M_X12_lay) 14 = .ok (.aload_n 0, 1) := by decide +kernel
theorem d_X12_lay_15 : decode (mC M_X12_lay) 15 = .ok (.invokevirtual 320, 3) := by decide +kernel
theorem d_X12_lay_18 : decode (mC M_X12_lay) 18 = .ok (.iconst 0, 1) := by decide +kernel
theorem d_X12_lay_19 : decode (mC M_X12_lay) 19 = .ok (.istore_n 1, 1) := by decide +kernel
theorem d_X12_lay_20 : decode (mC M_X12_lay) 20 = .ok (.iload_n 1, 1) := by decide +kernel
theorem d_X12_lay_21 : decode (mC M_X12_lay) 21 = .ok (.aload_n 0, 1) := by decide +kernel
theorem d_X12_lay_22 : decode (mC M_X12_lay) 22 = .ok (.getfield 151, 3) := by decide +kernel
theorem d_X12_lay_25 : decode (mC M_X12_lay) 25 = .ok (.if_icmp .ge 30, 3) := by decide +kernel
theorem d_X12_lay_28 : decode (mC M_X12_lay) 28 = .ok (.aload_n 0, 1) := by decide +kernel
theorem d_X12_lay_29 : decode (mC M_X12_lay) 29 = .ok (.getfield 91, 3) := by decide +kernel
theorem d_X12_lay_32 : decode (mC M_X12_lay) 32 = .ok (.iload_n 1, 1) := by decide +kernel
theorem d_X12_lay_33 : decode (mC M_X12_lay) 33 = .ok (.iconst 0, 1) := by decide +kernel
theorem d_X12_lay_34 : decode (mC M_X12_lay) 34 = .ok (.bastore, 1) := by decide +kernel
theorem d_X12_lay_35 : decode (mC M_X12_lay) 35 = .ok (.aload_n 0, 1) := by decide +kernel
theorem d_X12_lay_36 : decode (mC M_X12_lay) 36 = .ok (.getfield 97, 3) := by decide +kernel
theorem d_X12_lay_39 : decode (mC M_X12_lay) 39 = .ok (.iload_n 1, 1) := by decide +kernel
theorem d_X12_lay_40 : decode (mC M_X12_lay) 40 = .ok (.iconst 0, 1) := by decide +kernel
theorem d_X12_lay_41 : decode (mC M_X12_lay) 41 = .ok (.bastore, 1) := by decide +kernel
theorem d_X12_lay_42 : decode (mC M_X12_lay) 42 = .ok (.aload_n 0, 1) := by decide +kernel
theorem d_X12_lay_43 : decode (mC M_X12_lay) 43 = .ok (.getfield 39, 3) := by decide +kernel
theorem d_X12_lay_46 : decode (mC M_X12_lay) 46 = .ok (.iload_n 1, 1) := by decide +kernel
theorem d_X12_lay_47 : decode (mC M_X12_lay) 47 = .ok (.iconst (-1), 1) := by decide +kernel
theorem d_X12_lay_48 : decode (mC M_X12_lay) 48 = .ok (.iastore, 1) := by decide +kernel
theorem d_X12_lay_49 : decode (mC M_X12_lay) 49 = .ok (.iinc 1 1, 3) := by decide +kernel
theorem d_X12_lay_52 : decode (mC M_X12_lay) 52 = .ok (.goto (-32), 3) := by decide +kernel
theorem d_X12_lay_55 : decode (mC M_X12_lay) 55 = .ok (.iconst 0, 1) := by decide +kernel
theorem d_X12_lay_56 : decode (mC M_X12_lay) 56 = .ok (.istore_n 1, 1) := by decide +kernel
theorem d_X12_lay_57 : decode (mC M_X12_lay) 57 = .ok (.iload_n 1, 1) := by decide +kernel
theorem d_X12_lay_58 : decode (mC M_X12_lay) 58 = .ok (.aload_n 0, 1) := by decide +kernel
theorem d_X12_lay_59 : decode (mC M_X12_lay) 59 = .ok (.getfield 298, 3) := by decide +kernel
theorem d_X12_lay_62 : decode (mC M_X12_lay) 62 = .ok (.if_icmp .ge 21, 3) := by decide +kernel
theorem d_X12_lay_65 : decode (mC M_X12_lay) 65 = .ok (.aload_n 0, 1) := by decide +kernel
theorem d_X12_lay_66 : decode (mC M_X12_lay) 66 = .ok (.getfield 94, 3) := by decide +kernel
theorem d_X12_lay_69 : decode (mC M_X12_lay) 69 = .ok (.iload_n 1, 1) := by decide +kernel
theorem d_X12_lay_70 : decode (mC M_X12_lay) 70 = .ok (.aload_n 0, 1) := by decide +kernel
theorem d_X12_lay_71 : decode (mC M_X12_lay) 71 = .ok (.getfield 67, 3) := by decide +kernel
theorem d_X12_lay_74 : decode (mC M_X12_lay) 74 = .ok (.iload_n 1, 1) := by decide +kernel
theorem d_X12_lay_75 : decode (mC M_X12_lay) 75 = .ok (.iaload, 1) := by decide +kernel
theorem d_X12_lay_76 : decode (mC M_X12_lay) 76 = .ok (.iastore, 1) := by decide +kernel
theorem d_X12_lay_77 : decode (mC M_X12_lay) 77 = .ok (.iinc 1 1, 3) := by decide +kernel
theorem d_X12_lay_80 : decode (mC M_X12_lay) 80 = .ok (.goto (-23), 3) := by decide +kernel
theorem d_X12_lay_83 : decode (mC M_X12_lay) 83 = .ok (.iconst 0, 1) := by decide +kernel
theorem d_X12_lay_84 : decode (mC M_X12_lay) 84 = .ok (.istore_n 1, 1) := by decide +kernel
theorem d_X12_lay_85 : decode (mC M_X12_lay) 85 = .ok (.iconst 0, 1) := by decide +kernel
theorem d_X12_lay_86 : decode (mC M_X12_lay) 86 = .ok (.istore_n 2, 1) := by decide +kernel
theorem d_X12_lay_87 : decode (mC M_X12_lay) 87 = .ok (.iload_n 2, 1) := by decide +kernel
theorem d_X12_lay_88 : decode (mC M_X12_lay) 88 = .ok (.aload_n 0, 1) := by decide +kernel
theorem d_X12_lay_89 : decode (mC M_X12_lay) 89 = .ok (.getfield 151, 3) := by decide +kernel
theorem d_X12_lay_92 : decode (mC M_X12_lay) 92 = .ok (.if_icmp .ge 50, 3) := by decide +kernel
theorem d_X12_lay_95 : decode (mC M_X12_lay) 95 = .ok (.aload_n 0, 1) := by decide +kernel
theorem d_X12_lay_96 : decode (mC M_X12_lay) 96 = .ok (.invokevirtual 323, 3) := by decide +kernel
theorem d_X12_lay_99 : decode (mC M_X12_lay) 99 = .ok (.istore_n 3, 1) := by decide +kernel
theorem d_X12_lay_100 : decode (mC M_X12_lay) 100 = .ok (.aload_n 0, 1) := by decide +kernel
theorem d_X12_lay_101 : decode (mC M_X12_lay) 101 = .ok (.getfield 97, 3) := by decide +kernel
theorem d_X12_lay_104 : decode (mC M_X12_lay) 104 = .ok (.iload_n 3, 1) := by decide +kernel
theorem d_X12_lay_105 : decode (mC M_X12_lay) 105 = .ok (.iconst 1, 1) := by decide +kernel
theorem d_X12_lay_106 : decode (mC M_X12_lay) 106 = .ok (.bastore, 1) := by decide +kernel
theorem d_X12_lay_107 : decode (mC M_X12_lay) 107 = .ok (.aload_n 0, 1) := by decide +kernel
theorem d_X12_lay_108 : decode (mC M_X12_lay) 108 = .ok (.getfield 91, 3) := by decide +kernel
theorem d_X12_lay_111 : decode (mC M_X12_lay) 111 = .ok (.iload_n 3, 1) := by decide +kernel
theorem d_X12_lay_112 : decode (mC M_X12_lay) 112 = .ok (.iconst 1, 1) := by decide +kernel
theorem d_X12_lay_113 : decode (mC M_X12_lay) 113 = .ok (.bastore, 1) := by decide +kernel
theorem d_X12_lay_114 : decode (mC M_X12_lay) 114 = .ok (.aload_n 0, 1) := by decide +kernel
theorem d_X12_lay_115 : decode (mC M_X12_lay) 115 = .ok (.getfield 91, 3) := by decide +kernel
theorem d_X12_lay_118 : decode (mC M_X12_lay) 118 = .ok (.iload_n 3, 1) := by decide +kernel
theorem d_X12_lay_119 : decode (mC M_X12_lay) 119 = .ok (.aload_n 0, 1) := by decide +kernel
theorem d_X12_lay_120 : decode (mC M_X12_lay) 120 = .ok (.invokevirtual 326, 3) := by decide +kernel
theorem d_X12_lay_123 : decode (mC M_X12_lay) 123 = .ok (.bastore, 1) := by decide +kernel
theorem d_X12_lay_124 : decode (mC M_X12_lay) 124 = .ok (.aload_n 0, 1) := by decide +kernel
theorem d_X12_lay_125 : decode (mC M_X12_lay) 125 = .ok (.getfield 91, 3) := by decide +kernel
theorem d_X12_lay_128 : decode (mC M_X12_lay) 128 = .ok (.iload_n 3, 1) := by decide +kernel
theorem d_X12_lay_129 : decode (mC M_X12_lay) 129 = .ok (.baload, 1) := by decide +kernel
theorem d_X12_lay_130 : decode (mC M_X12_lay) 130 = .ok (.ifCond .eq 6, 3) := by decide +kernel
theorem d_X12_lay_133 : decode (mC M_X12_lay) 133 = .ok (.iinc 1 1, 3) := by decide +kernel
theorem d_X12_lay_136 : decode (mC M_X12_lay) 136 = .ok (.iinc 2 1, 3) := by decide +kernel
theorem d_X12_lay_139 : decode (mC M_X12_lay) 139 = .ok (.goto (-52), 3) := by decide +kernel
theorem d_X12_lay_142 : decode (mC M_X12_lay) 142 = .ok (.iconst 0, 1) := by decide +kernel
theorem d_X12_lay_143 : decode (mC M_X12_lay) 143 = .ok (.istore_n 2, 1) := by decide +kernel
theorem d_X12_lay_144 : decode (mC M_X12_lay) 144 = .ok (.iload_n 2, 1) := by decide +kernel
theorem d_X12_lay_145 : decode (mC M_X12_lay) 145 = .ok (.aload_n 0, 1) := by decide +kernel
theorem d_X12_lay_146 : decode (mC M_X12_lay) 146 = .ok (.getfield 151, 3) := by decide +kernel
theorem d_X12_lay_149 : decode (mC M_X12_lay) 149 = .ok (.if_icmp .ge 122, 3) := by decide +kernel
theorem d_X12_lay_152 : decode (mC M_X12_lay) 152 = .ok (.aload_n 0, 1) := by decide +kernel
theorem d_X12_lay_153 : decode (mC M_X12_lay) 153 = .ok (.getfield 91, 3) := by decide +kernel
theorem d_X12_lay_156 : decode (mC M_X12_lay) 156 = .ok (.iload_n 2, 1) := by decide +kernel
theorem d_X12_lay_157 : decode (mC M_X12_lay) 157 = .ok (.baload, 1) := by decide +kernel
theorem d_X12_lay_158 : decode (mC M_X12_lay) 158 = .ok (.ifCond .ne 6, 3) := by decide +kernel
theorem d_X12_lay_161 : decode (mC M_X12_lay) 161 = .ok (.goto 104, 3) := by decide +kernel
theorem d_X12_lay_164 : decode (mC M_X12_lay) 164 = .ok (.aload_n 0, 1) := by decide +kernel
theorem d_X12_lay_165 : decode (mC M_X12_lay) 165 = .ok (.getfield 91, 3) := by decide +kernel
theorem d_X12_lay_168 : decode (mC M_X12_lay) 168 = .ok (.iload_n 2, 1) := by decide +kernel
theorem d_X12_lay_169 : decode (mC M_X12_lay) 169 = .ok (.iconst 0, 1) := by decide +kernel
theorem d_X12_lay_170 : decode (mC M_X12_lay) 170 = .ok (.bastore, 1) := by decide +kernel
theorem d_X12_lay_171 : decode (mC M_X12_lay) 171 = .ok (.iconst 0, 1) := by decide +kernel
theorem d_X12_lay_172 : decode (mC M_X12_lay) 172 = .ok (.istore_n 3, 1) := by decide +kernel
theorem d_X12_lay_173 : decode (mC M_X12_lay) 173 = .ok (.iconst 0, 1) := by decide +kernel
theorem d_X12_lay_174 : decode (mC M_X12_lay) 174 = .ok (.istore 4, 2) := by decide +kernel
theorem d_X12_lay_176 : decode (mC M_X12_lay) 176 = .ok (.iload 4, 2) := by decide +kernel
theorem d_X12_lay_178 : decode (mC M_X12_lay) 178 = .ok (.ifCond .ne 80, 3) := by decide +kernel
theorem d_X12_lay_181 : decode (mC M_X12_lay) 181 = .ok (.aload_n 0, 1) := by decide +kernel
theorem d_X12_lay_182 : decode (mC M_X12_lay) 182 = .ok (.getfield 88, 3) := by decide +kernel
theorem d_X12_lay_185 : decode (mC M_X12_lay) 185 = .ok (.iload_n 2, 1) := by decide +kernel
theorem d_X12_lay_186 : decode (mC M_X12_lay) 186 = .ok (.iaload, 1) := by decide +kernel
theorem d_X12_lay_187 : decode (mC M_X12_lay) 187 = .ok (.iload_n 3, 1) := by decide +kernel
theorem d_X12_lay_188 : decode (mC M_X12_lay) 188 = .ok (.ishr, 1) := by decide +kernel
theorem d_X12_lay_189 : decode (mC M_X12_lay) 189 = .ok (.iconst 1, 1) := by decide +kernel
theorem d_X12_lay_190 : decode (mC M_X12_lay) 190 = .ok (.iand, 1) := by decide +kernel
theorem d_X12_lay_191 : decode (mC M_X12_lay) 191 = .ok (.iconst 1, 1) := by decide +kernel
theorem d_X12_lay_192 : decode (mC M_X12_lay) 192 = .ok (.if_icmp .ne 16, 3) := by decide +kernel
theorem d_X12_lay_195 : decode (mC M_X12_lay) 195 = .ok (.aload_n 0, 1) := by decide +kernel
theorem d_X12_lay_196 : decode (mC M_X12_lay) 196 = .ok (.getfield 94, 3) := by decide +kernel
theorem d_X12_lay_199 : decode (mC M_X12_lay) 199 = .ok (.iload_n 3, 1) := by decide +kernel
theorem d_X12_lay_200 : decode (mC M_X12_lay) 200 = .ok (.iaload, 1) := by decide +kernel
theorem d_X12_lay_201 : decode (mC M_X12_lay) 201 = .ok (.ifCond .le 7, 3) := by decide +kernel
theorem d_X12_lay_204 : decode (mC M_X12_lay) 204 = .ok (.iconst 1, 1) := by decide +kernel
theorem d_X12_lay_205 : decode (mC M_X12_lay) 205 = .ok (.goto 4, 3) := by decide +kernel
theorem d_X12_lay_208 : decode (mC M_X12_lay) 208 = .ok (.iconst 0, 1) := by decide +kernel
theorem d_X12_lay_209 : decode (mC M_X12_lay) 209 = .ok (.istore 4, 2) := by decide +kernel
theorem d_X12_lay_211 : decode (mC M_X12_lay) 211 = .ok (.iload 4, 2) := by decide +kernel
theorem d_X12_lay_213 : decode (mC M_X12_lay) 213 = .ok (.ifCond .eq 34, 3) := by decide +kernel
theorem d_X12_lay_216 : decode (mC M_X12_lay) 216 = .ok (.aload_n 0, 1) := by decide +kernel
theorem d_X12_lay_217 : decode (mC M_X12_lay) 217 = .ok (.getfield 94, 3) := by decide +kernel
theorem d_X12_lay_220 : decode (mC M_X12_lay) 220 = .ok (.iload_n 3, 1) := by decide +kernel
theorem d_X12_lay_221 : decode (mC M_X12_lay) 221 = .ok (.dup2, 1) := by decide +kernel
theorem d_X12_lay_222 : decode (mC M_X12_lay) 222 = .ok (.iaload, 1) := by decide +kernel
theorem d_X12_lay_223 : decode (mC M_X12_lay) 223 = .ok (.iconst 1, 1) := by decide +kernel
theorem d_X12_lay_224 : decode (mC M_X12_lay) 224 = .ok (.isub, 1) := by decide +kernel
theorem d_X12_lay_225 : decode (mC M_X12_lay) 225 = .ok (.iastore, 1) := by decide +kernel
theorem d_X12_lay_226 : decode (mC M_X12_lay) 226 = .ok (.aload_n 0, 1) := by decide +kernel
theorem d_X12_lay_227 : decode (mC M_X12_lay) 227 = .ok (.invokevirtual 326, 3) := by decide +kernel
theorem d_X12_lay_230 : decode (mC M_X12_lay) 230 = .ok (.istore 4, 2) := by decide +kernel
theorem d_X12_lay_232 : decode (mC M_X12_lay) 232 = .ok (.iload 4, 2) := by decide +kernel
theorem d_X12_lay_234 : decode (mC M_X12_lay) 234 = .ok (.ifCond .ne 13, 3) := by decide +kernel
theorem d_X12_lay_237 : decode (mC M_X12_lay) 237 = .ok (.aload_n 0, 1) := by decide +kernel
theorem d_X12_lay_238 : decode (mC M_X12_lay) 238 = .ok (.getfield 94, 3) := by decide +kernel
theorem d_X12_lay_241 : decode (mC M_X12_lay) 241 = .ok (.iload_n 3, 1) := by decide +kernel
theorem d_X12_lay_242 : decode (mC M_X12_lay) 242 = .ok (.dup2, 1) := by decide +kernel
theorem d_X12_lay_243 : decode (mC M_X12_lay) 243 = .ok (.iaload, 1) := by decide +kernel
theorem d_X12_lay_244 : decode (mC M_X12_lay) 244 = .ok (.iconst 1, 1) := by decide +kernel
theorem d_X12_lay_245 : decode (mC M_X12_lay) 245 = .ok (.iadd, 1) := by decide +kernel
theorem d_X12_lay_246 : decode (mC M_X12_lay) 246 = .ok (.iastore, 1) := by decide +kernel
theorem d_X12_lay_247 : decode (mC M_X12_lay) 247 = .ok (.iload 4, 2) := by decide +kernel
theorem d_X12_lay_249 : decode (mC M_X12_lay) 249 = .ok (.ifCond .ne (-73), 3) := by decide +kernel
theorem d_X12_lay_252 : decode (mC M_X12_lay) 252 = .ok (.iinc 3 1, 3) := by decide +kernel
theorem d_X12_lay_255 : decode (mC M_X12_lay) 255 = .ok (.goto (-79), 3) := by decide +kernel
theorem d_X12_lay_258 : decode (mC M_X12_lay) 258 = .ok (.aload_n 0, 1) := by decide +kernel
theorem d_X12_lay_259 : decode (mC M_X12_lay) 259 = .ok (.getfield 39, 3) := by decide +kernel
theorem d_X12_lay_262 : decode (mC M_X12_lay) 262 = .ok (.iload_n 2, 1) := by decide +kernel
theorem d_X12_lay_263 : decode (mC M_X12_lay) 263 = .ok (.iload_n 3, 1) := by decide +kernel
theorem d_X12_lay_264 : decode (mC M_X12_lay) 264 = .ok (.iastore, 1) := by decide +kernel
theorem d_X12_lay_265 : decode (mC M_X12_lay) 265 = .ok (.iinc 2 1, 3) := by decide +kernel
theorem d_X12_lay_268 : decode (mC M_X12_lay) 268 = .ok (.goto (-124), 3) := by decide +kernel
theorem d_X12_lay_271 : decode (mC M_X12_lay) 271 = .ok (.iload_n 1, 1) := by decide +kernel
theorem d_X12_lay_272 : decode (mC M_X12_lay) 272 = .ok (.ireturn, 1) := by decide +kernel
theorem d_X12_mends_0 : decode (mC M_X12_mends) 0 = .ok (.iconst 0, 1) := by decide +kernel
theorem d_X12_mends_1 : decode (mC M_X12_mends) 1 = .ok (.istore 5, 2) := by decide +kernel
theorem d_X12_mends_3 : decode (mC M_X12_mends) 3 = .ok (.iload 5, 2) := by decide +kernel
theorem d_X12_mends_5 : decode (mC M_X12_mends) 5 = .ok (.aload_n 0, 1) := by decide +kernel
theorem d_X12_mends_6 : decode (mC M_X12_mends) 6 = .ok (.getfield 151, 3) := by decide +kernel
theorem d_X12_mends_9 : decode (mC M_X12_mends) 9 = .ok (.if_icmp .ge 141, 3) := by decide +kernel
theorem d_X12_mends_12 : decode (mC M_X12_mends) 12 = .ok (.aload_n 0, 1) := by decide +kernel
theorem d_X12_mends_13 : decode (mC M_X12_mends) 13 = .ok (.getfield 39, 3) := by decide +kernel
theorem d_X12_mends_16 : decode (mC M_X12_mends) 16 = .ok (.iload 5, 2) := by decide +kernel
theorem d_X12_mends_18 : decode (mC M_X12_mends) 18 = .ok (.iaload, 1) := by decide +kernel
theorem d_X12_mends_19 : decode (mC M_X12_mends) 19 = .ok (.iload_n 1, 1) := by decide +kernel
theorem d_X12_mends_20 : decode (mC M_X12_mends) 20 = .ok (.if_icmp .eq 124, 3) := by decide +kernel
theorem d_X12_mends_23 : decode (mC M_X12_mends) 23 = .ok (.aload_n 0, 1) := by decide +kernel
theorem d_X12_mends_24 : decode (mC M_X12_mends) 24 = .ok (.getfield 88, 3) := by decide +kernel
theorem d_X12_mends_27 : decode (mC M_X12_mends) 27 = .ok (.iload 5, 2) := by decide +kernel
theorem d_X12_mends_29 : decode (mC M_X12_mends) 29 = .ok (.iaload, 1) := by decide +kernel
theorem d_X12_mends_30 : decode (mC M_X12_mends) 30 = .ok (.iload_n 1, 1) := by decide +kernel
theorem d_X12_mends_31 : decode (mC M_X12_mends) 31 = .ok (.ishr, 1) := by decide +kernel
theorem d_X12_mends_32 : decode (mC M_X12_mends) 32 = .ok (.iconst 1, 1) := by decide +kernel
theorem d_X12_mends_33 : decode (mC M_X12_mends) 33 = .ok (.iand, 1) := by decide +kernel
theorem d_X12_mends_34 : decode (mC M_X12_mends) 34 = .ok (.ifCond .ne 6, 3) := by decide +kernel
theorem d_X12_mends_37 : decode (mC M_X12_mends) 37 = .ok (.goto 107, 3) := by decide +kernel
theorem d_X12_mends_40 : decode (mC M_X12_mends) 40 = .ok (.aload_n 0, 1) := by decide +kernel
theorem d_X12_mends_41 : decode (mC M_X12_mends) 41 = .ok (.getfield 39, 3) := by decide +kernel
theorem d_X12_mends_44 : decode (mC M_X12_mends) 44 = .ok (.iload 5, 2) := by decide +kernel
theorem d_X12_mends_46 : decode (mC M_X12_mends) 46 = .ok (.iaload, 1) := by decide +kernel
theorem d_X12_mends_47 : decode (mC M_X12_mends) 47 = .ok (.iconst (-1), 1) := by decide +kernel
theorem d_X12_mends_48 : decode (mC M_X12_mends) 48 = .ok (.if_icmp .ne 7, 3) := by decide +kernel
theorem d_X12_mends_51 : decode (mC M_X12_mends) 51 = .ok (.iconst 1, 1) := by decide +kernel
theorem d_X12_mends_52 : decode (mC M_X12_mends) 52 = .ok (.goto 4, 3) := by decide +kernel
theorem d_X12_mends_55 : decode (mC M_X12_mends) 55 = .ok (.iconst 0, 1) := by decide +kernel
theorem d_X12_mends_56 : decode (mC M_X12_mends) 56 = .ok (.istore 6, 2) := by decide +kernel
theorem d_X12_mends_58 : decode (mC M_X12_mends) 58 = .ok (.iload 6, 2) := by decide +kernel
theorem d_X12_mends_60 : decode (mC M_X12_mends) 60 = .ok (.iload_n 3, 1) := by decide +kernel
theorem d_X12_mends_61 : decode (mC M_X12_mends) 61 = .ok (.iconst 1, 1) := by decide +kernel
theorem d_X12_mends_62 : decode (mC M_X12_mends) 62 = .ok (.if_icmp .ne 7, 3) := by decide +kernel
theorem d_X12_mends_65 : decode (mC M_X12_mends) 65 = .ok (.iconst 1, 1) := by decide +kernel
theorem d_X12_mends_66 : decode (mC M_X12_mends) 66 = .ok (.goto 4, 3) := by decide +kernel
theorem d_X12_mends_69 : decode (mC M_X12_mends) 69 = .ok (.iconst 0, 1) := by decide +kernel
theorem d_X12_mends_70 : decode (mC M_X12_mends) 70 = .ok (.if_icmp .ne 74, 3) := by decide +kernel
theorem d_X12_mends_73 : decode (mC M_X12_mends) 73 = .ok (.iload 6, 2) := by decide +kernel
theorem d_X12_mends_75 : decode (mC M_X12_mends) 75 = .ok (.ifCond .ne 22, 3) := by decide +kernel
theorem d_X12_mends_78 : decode (mC M_X12_mends) 78 = .ok (.iload 4, 2) := by decide +kernel
theorem d_X12_mends_80 : decode (mC M_X12_mends) 80 = .ok (.aload_n 0, 1) := by decide +kernel
theorem d_X12_mends_81 : decode (mC M_X12_mends) 81 = .ok (.getfield 39, 3) := by decide +kernel
theorem d_X12_mends_84 : decode (mC M_X12_mends) 84 = .ok (.iload 5, 2) := by decide +kernel
theorem d_X12_mends_86 : decode (mC M_X12_mends) 86 = .ok (.iaload, 1) := by decide +kernel
theorem d_X12_mends_87 : decode (mC M_X12_mends) 87 = .ok (.ishr, 1) := by decide +kernel
theorem d_X12_mends_88 : decode (mC M_X12_mends) 88 = .ok (.iconst 1, 1) := by decide +kernel
theorem d_X12_mends_89 : decode (mC M_X12_mends) 89 = .ok (.iand, 1) := by decide +kernel
theorem d_X12_mends_90 : decode (mC M_X12_mends) 90 = .ok (.iconst 1, 1) := by decide +kernel
theorem d_X12_mends_91 : decode (mC M_X12_mends) 91 = .ok (.if_icmp .ne 6, 3) := by decide +kernel
theorem d_X12_mends_94 : decode (mC M_X12_mends) 94 = .ok (.goto 50, 3) := by decide +kernel
theorem d_X12_mends_97 : decode (mC M_X12_mends) 97 = .ok (.aload_n 0, 1) := by decide +kernel
theorem d_X12_mends_98 : decode (mC M_X12_mends) 98 = .ok (.getfield 100, 3) := by decide +kernel
theorem d_X12_mends_101 : decode (mC M_X12_mends) 101 = .ok (.iload_n 2, 1) := by decide +kernel
theorem d_X12_mends_102 : decode (mC M_X12_mends) 102 = .ok (.iload 5, 2) := by decide +kernel
theorem d_X12_mends_104 : decode (mC M_X12_mends) 104 = .ok (.iastore, 1) := by decide +kernel
theorem d_X12_mends_105 : decode (mC M_X12_mends) 105 = .ok (.iload 6, 2) := by decide +kernel
theorem d_X12_mends_107 : decode (mC M_X12_mends) 107 = .ok (.ifCond .ne 35, 3) := by decide +kernel
theorem d_X12_mends_110 : decode (mC M_X12_mends) 110 = .ok (.aload_n 0, 1) := by decide +kernel
theorem d_X12_mends_111 : decode (mC M_X12_mends) 111 = .ok (.aload_n 0, 1) := by decide +kernel
theorem d_X12_mends_112 : decode (mC M_X12_mends) 112 = .ok (.getfield 39, 3) := by decide +kernel
theorem d_X12_mends_115 : decode (mC M_X12_mends) 115 = .ok (.iload 5, 2) := by decide +kernel
theorem d_X12_mends_117 : decode (mC M_X12_mends) 117 = .ok (.iaload, 1) := by decide +kernel
theorem d_X12_mends_118 : decode (mC M_X12_mends) 118 = .ok (.iload_n 2, 1) := by decide +kernel
theorem d_X12_mends_119 : decode (mC M_X12_mends) 119 = .ok (.iconst 1, 1) := by decide +kernel
theorem d_X12_mends_120 : decode (mC M_X12_mends) 120 = .ok (.iadd, 1) := by decide +kernel
theorem d_X12_mends_121 : decode (mC M_X12_mends) 121 = .ok (.iload_n 3, 1) := by decide +kernel
theorem d_X12_mends_122 : decode (mC M_X12_mends) 122 = .ok (.iconst 1, 1) := by decide +kernel
theorem d_X12_mends_123 : decode (mC M_X12_mends) 123 = .ok (.isub, 1) := by decide +kernel
theorem d_X12_mends_124 : decode (mC M_X12_mends) 124 = .ok (.iload 4, 2) := by decide +kernel
theorem d_X12_mends_126 : decode (mC M_X12_mends) 126 = .ok (.iconst 1, 1) := by decide +kernel
theorem d_X12_mends_127 : decode (mC M_X12_mends) 127 = .ok (.aload_n 0, 1) := by decide +kernel
theorem d_X12_mends_128 : decode (mC M_X12_mends) 128 = .ok (.getfield 39, 3) := by decide +kernel
theorem d_X12_mends_131 : decode (mC M_X12_mends) 131 = .ok (.iload 5, 2) := by decide +kernel
theorem d_X12_mends_133 : decode (mC M_X12_mends) 133 = .ok (.iaload, 1) := by decide +kernel
theorem d_X12_mends_134 : decode (mC M_X12_mends) 134 = .ok (.ishl, 1) := by decide +kernel
theorem d_X12_mends_135 : decode (mC M_X12_mends) 135 = .ok (.ior, 1) := by decide +kernel
theorem d_X12_mends_136 : decode (mC M_X12_mends) 136 = .ok (.invokevirtual 330, 3) := by decide +kernel
theorem d_X12_mends_139 : decode (mC M_X12_mends) 139 = .ok (.ifCond .eq 5, 3) := by decide +kernel
theorem d_X12_mends_142 : decode (mC M_X12_mends) 142 = .ok (.iconst 1, 1) := by decide +kernel
theorem d_X12_mends_143 : decode (mC M_X12_mends) 143 = .ok (.ireturn, 1) := by decide +kernel
theorem d_X12_mends_144 : decode (mC M_X12_mends) 144 = .ok (.iinc 5 1, 3) := by decide +kernel
theorem d_X12_mends_147 : decode (mC M_X12_mends) 147 = .ok (.goto (-144), 3) := by decide +kernel
theorem d_X12_mends_150 : decode (mC M_X12_mends) 150 = .ok (.iconst 0, 1) := by decide +kernel
theorem d_X12_mends_151 : decode (mC M_X12_mends) 151 = .ok (.ireturn, 1) := by decide +kernel
theorem d_X12_moved_0 : decode (mC M_X12_moved) 0 = .ok (.aload_n 0, 1) := by decide +kernel
theorem d_X12_moved_1 : decode (mC M_X12_moved) 1 = .ok (.iconst 0, 1) := by decide +kernel
theorem d_X12_moved_2 : decode (mC M_X12_moved) 2 = .ok (.putfield 1, 3) := by decide +kernel
theorem d_X12_moved_5 : decode (mC M_X12_moved) 5 = .ok (.iload_n 1, 1) := by decide +kernel
theorem d_X12_moved_6 : decode (mC M_X12_moved) 6 = .ok (.ifCond .lt 20, 3) := by decide +kernel
theorem d_X12_moved_9 : decode (mC M_X12_moved) 9 = .ok (.iload_n 1, 1) := by decide +kernel
theorem d_X12_moved_10 : decode (mC M_X12_moved) 10 = .ok (.aload_n 0, 1) := by decide +kernel
theorem d_X12_moved_11 : decode (mC M_X12_moved) 11 = .ok (.getfield 334, 3) := by decide +kernel
theorem d_X12_moved_14 : decode (mC M_X12_moved) 14 = .ok (.if_icmp .ge 12, 3) := by decide +kernel
theorem d_X12_moved_17 : decode (mC M_X12_moved) 17 = .ok (.aload_n 0, 1) := by decide +kernel
theorem d_X12_moved_18 : decode (mC M_X12_moved) 18 = .ok (.getfield 100, 3) := by decide +kernel
theorem d_X12_moved_21 : decode (mC M_X12_moved) 21 = .ok (.iload_n 1, 1) := by decide +kernel
theorem d_X12_moved_22 : decode (mC M_X12_moved) 22 = .ok (.iaload, 1) := by decide +kernel
theorem d_X12_moved_23 : decode (mC M_X12_moved) 23 = .ok (.goto 4, 3) := by decide +kernel
theorem d_X12_moved_26 : decode (mC M_X12_moved) 26 = .ok (.iconst (-1), 1) := by decide +kernel
theorem d_X12_moved_27 : decode (mC M_X12_moved) 27 = .ok (.ireturn, 1) := by decide +kernel
theorem d_X12_next_0 : decode (mC M_X12_next) 0 = .ok (.aload_n 0, 1) := by decide +kernel
theorem d_X12_next_1 : decode (mC M_X12_next) 1 = .ok (.getfield 186, 3) := by decide +kernel
theorem d_X12_next_4 : decode (mC M_X12_next) 4 = .ok (.aload_n 0, 1) := by decide +kernel
theorem d_X12_next_5 : decode (mC M_X12_next) 5 = .ok (.getfield 180, 3) := by decide +kernel
theorem d_X12_next_8 : decode (mC M_X12_next) 8 = .ok (.if_icmp .ge 44, 3) := by decide +kernel
theorem d_X12_next_11 : decode (mC M_X12_next) 11 = .ok (.aload_n 0, 1) := by decide +kernel
theorem d_X12_next_12 : decode (mC M_X12_next) 12 = .ok (.getfield 183, 3) := by decide +kernel
theorem d_X12_next_15 : decode (mC M_X12_next) 15 = .ok (.aload_n 0, 1) := by decide +kernel
theorem d_X12_next_16 : decode (mC M_X12_next) 16 = .ok (.getfield 186, 3) := by decide +kernel
theorem d_X12_next_19 : decode (mC M_X12_next) 19 = .ok (.baload, 1) := by decide +kernel
theorem d_X12_next_20 : decode (mC M_X12_next) 20 = .ok (.bipush 32, 2) := by decide +kernel
theorem d_X12_next_22 : decode (mC M_X12_next) 22 = .ok (.if_icmp .eq 17, 3) := by decide +kernel
theorem d_X12_next_25 : decode (mC M_X12_next) 25 = .ok (.aload_n 0, 1) := by decide +kernel
theorem d_X12_next_26 : decode (mC M_X12_next) 26 = .ok (.getfield 183, 3) := by decide +kernel
theorem d_X12_next_29 : decode (mC M_X12_next) 29 = .ok (.aload_n 0, 1) := by decide +kernel
theorem d_X12_next_30 : decode (mC M_X12_next) 30 = .ok (.getfield 186, 3) := by decide +kernel
theorem d_X12_next_33 : decode (mC M_X12_next) 33 = .ok (.baload, 1) := by decide +kernel
theorem d_X12_next_34 : decode (mC M_X12_next) 34 = .ok (.bipush 10, 2) := by decide +kernel
theorem d_X12_next_36 : decode (mC M_X12_next) 36 = .ok (.if_icmp .ne 16, 3) := by decide +kernel
theorem d_X12_next_39 : decode (mC M_X12_next) 39 = .ok (.aload_n 0, 1) := by decide +kernel
theorem d_X12_next_40 : decode (mC M_X12_next) 40 = .ok (.dup, 1) := by decide +kernel
theorem d_X12_next_41 : decode (mC M_X12_next) 41 = .ok (.getfield 186, 3) := by decide +kernel
theorem d_X12_next_44 : decode (mC M_X12_next) 44 = .ok (.iconst 1, 1) := by decide +kernel
theorem d_X12_next_45 : decode (mC M_X12_next) 45 = .ok (.iadd, 1) := by decide +kernel
theorem d_X12_next_46 : decode (mC M_X12_next) 46 = .ok (.putfield 186, 3) := by decide +kernel
theorem d_X12_next_49 : decode (mC M_X12_next) 49 = .ok (.goto (-49), 3) := by decide +kernel
theorem d_X12_next_52 : decode (mC M_X12_next) 52 = .ok (.aload_n 0, 1) := by decide +kernel
theorem d_X12_next_53 : decode (mC M_X12_next) 53 = .ok (.aload_n 0, 1) := by decide +kernel
theorem d_X12_next_54 : decode (mC M_X12_next) 54 = .ok (.getfield 186, 3) := by decide +kernel
theorem d_X12_next_57 : decode (mC M_X12_next) 57 = .ok (.putfield 189, 3) := by decide +kernel
theorem d_X12_next_60 : decode (mC M_X12_next) 60 = .ok (.aload_n 0, 1) := by decide +kernel
theorem d_X12_next_61 : decode (mC M_X12_next) 61 = .ok (.getfield 186, 3) := by decide +kernel
theorem d_X12_next_64 : decode (mC M_X12_next) 64 = .ok (.aload_n 0, 1) := by decide +kernel
theorem d_X12_next_65 : decode (mC M_X12_next) 65 = .ok (.getfield 180, 3) := by decide +kernel
theorem d_X12_next_68 : decode (mC M_X12_next) 68 = .ok (.if_icmp .lt 9, 3) := by decide +kernel
theorem d_X12_next_71 : decode (mC M_X12_next) 71 = .ok (.aload_n 0, 1) := by decide +kernel
theorem d_X12_next_72 : decode (mC M_X12_next) 72 = .ok (.iconst 0, 1) := by decide +kernel
theorem d_X12_next_73 : decode (mC M_X12_next) 73 = .ok (.putfield 192, 3) := by decide +kernel
theorem d_X12_next_76 : decode (mC M_X12_next) 76 = .ok (.return_, 1) := by decide +kernel
theorem d_X12_next_77 : decode (mC M_X12_next) 77 = .ok (.aload_n 0, 1) := by decide +kernel
theorem d_X12_next_78 : decode (mC M_X12_next) 78 = .ok (.getfield 183, 3) := by decide +kernel
theorem d_X12_next_81 : decode (mC M_X12_next) 81 = .ok (.aload_n 0, 1) := by decide +kernel
theorem d_X12_next_82 : decode (mC M_X12_next) 82 = .ok (.getfield 186, 3) := by decide +kernel
theorem d_X12_next_85 : decode (mC M_X12_next) 85 = .ok (.baload, 1) := by decide +kernel
theorem d_X12_next_86 : decode (mC M_X12_next) 86 = .ok (.istore_n 1, 1) := by decide +kernel
theorem d_X12_next_87 : decode (mC M_X12_next) 87 = .ok (.aload_n 0, 1) := by decide +kernel
theorem d_X12_next_88 : decode (mC M_X12_next) 88 = .ok (.dup, 1) := by decide +kernel
theorem d_X12_next_89 : decode (mC M_X12_next) 89 = .ok (.getfield 186, 3) := by decide +kernel
theorem d_X12_next_92 : decode (mC M_X12_next) 92 = .ok (.iconst 1, 1) := by decide +kernel
theorem d_X12_next_93 : decode (mC M_X12_next) 93 = .ok (.iadd, 1) := by decide +kernel
theorem d_X12_next_94 : decode (mC M_X12_next) 94 = .ok (.putfield 186, 3) := by decide +kernel
theorem d_X12_next_97 : decode (mC M_X12_next) 97 = .ok (.iload_n 1, 1) := by decide +kernel
theorem d_X12_next_98 : decode (mC M_X12_next) 98 = .ok (.invokestatic 195, 3) := by decide +kernel
theorem d_X12_next_101 : decode (mC M_X12_next) 101 = .ok (.ifCond .eq 38, 3) := by decide +kernel
theorem d_X12_next_104 : decode (mC M_X12_next) 104 = .ok (.aload_n 0, 1) := by decide +kernel
theorem d_X12_next_105 : decode (mC M_X12_next) 105 = .ok (.aload_n 0, 1) := by decide +kernel
theorem d_X12_next_106 : decode (mC M_X12_next) 106 = .ok (.getfield 186, 3) := by decide +kernel
theorem d_X12_next_109 : decode (mC M_X12_next) 109 = .ok (.invokevirtual 198, 3) := by decide +kernel
theorem d_X12_next_112 : decode (mC M_X12_next) 112 = .ok (.invokestatic 195, 3) := by decide +kernel
theorem d_X12_next_115 : decode (mC M_X12_next) 115 = .ok (.ifCond .eq 16, 3) := by decide +kernel
theorem d_X12_next_118 : decode (mC M_X12_next) 118 = .ok (.aload_n 0, 1) := by decide +kernel
theorem d_X12_next_119 : decode (mC M_X12_next) 119 = .ok (.dup, 1) := by decide +kernel
theorem d_X12_next_120 : decode (mC M_X12_next) 120 = .ok (.getfield 186, 3) := by decide +kernel
theorem d_X12_next_123 : decode (mC M_X12_next) 123 = .ok (.iconst 1, 1) := by decide +kernel
theorem d_X12_next_124 : decode (mC M_X12_next) 124 = .ok (.iadd, 1) := by decide +kernel
theorem d_X12_next_125 : decode (mC M_X12_next) 125 = .ok (.putfield 186, 3) := by decide +kernel
theorem d_X12_next_128 : decode (mC M_X12_next) 128 = .ok (.goto (-24), 3) := by decide +kernel
theorem d_X12_next_131 : decode (mC M_X12_next) 131 = .ok (.aload_n 0, 1) := by decide +kernel
theorem d_X12_next_132 : decode (mC M_X12_next) 132 = .ok (.iconst 3, 1) := by decide +kernel
theorem d_X12_next_133 : decode (mC M_X12_next) 133 = .ok (.putfield 192, 3) := by decide +kernel
theorem d_X12_next_136 : decode (mC M_X12_next) 136 = .ok (.goto 156, 3) := by decide +kernel
theorem d_X12_next_139 : decode (mC M_X12_next) 139 = .ok (.iload_n 1, 1) := by decide +kernel
theorem d_X12_next_140 : decode (mC M_X12_next) 140 = .ok (.invokestatic 202, 3) := by decide +kernel
theorem d_X12_next_143 : decode (mC M_X12_next) 143 = .ok (.ifCond .eq 99, 3) := by decide +kernel
theorem d_X12_next_146 : decode (mC M_X12_next) 146 = .ok (.aload_n 0, 1) := by decide +kernel
theorem d_X12_next_147 : decode (mC M_X12_next) 147 = .ok (.iload_n 1, 1) := by decide +kernel
theorem d_X12_next_148 : decode (mC M_X12_next) 148 = .ok (.bipush 48, 2) := by decide +kernel
theorem d_X12_next_150 : decode (mC M_X12_next) 150 = .ok (.isub, 1) := by decide +kernel
theorem d_X12_next_151 : decode (mC M_X12_next) 151 = .ok (.putfield 205, 3) := by decide +kernel
theorem d_X12_next_154 : decode (mC M_X12_next) 154 = .ok (.aload_n 0, 1) := by decide +kernel
theorem d_X12_next_155 : decode (mC M_X12_next) 155 = .ok (.aload_n 0, 1) := by decide +kernel
theorem d_X12_next_156 : decode (mC M_X12_next) 156 = .ok (.getfield 186, 3) := by decide +kernel
theorem d_X12_next_159 : decode (mC M_X12_next) 159 = .ok (.invokevirtual 198, 3) := by decide +kernel
theorem d_X12_next_162 : decode (mC M_X12_next) 162 = .ok (.invokestatic 202, 3) := by decide +kernel
theorem d_X12_next_165 : decode (mC M_X12_next) 165 = .ok (.ifCond .eq 52, 3) := by decide +kernel
theorem d_X12_next_168 : decode (mC M_X12_next) 168 = .ok (.aload_n 0, 1) := by decide +kernel
theorem d_X12_next_169 : decode (mC M_X12_next) 169 = .ok (.getfield 186, 3) := by decide +kernel
theorem d_X12_next_172 : decode (mC M_X12_next) 172 = .ok (.aload_n 0, 1) := by decide +kernel
theorem d_X12_next_173 : decode (mC M_X12_next) 173 = .ok (.getfield 189, 3) := by decide +kernel
theorem d_X12_next_176 : decode (mC M_X12_next) 176 = .ok (.isub, 1) := by decide +kernel
theorem d_X12_next_177 : decode (mC M_X12_next) 177 = .ok (.iconst 5, 1) := by decide +kernel
theorem d_X12_next_178 : decode (mC M_X12_next) 178 = .ok (.if_icmp .ge 26, 3) := by decide +kernel
theorem d_X12_next_181 : decode (mC M_X12_next) 181 = .ok (.aload_n 0, 1) := by decide +kernel
theorem d_X12_next_182 : decode (mC M_X12_next) 182 = .ok (.bipush 10, 2) := by decide +kernel
theorem d_X12_next_184 : decode (mC M_X12_next) 184 = .ok (.aload_n 0, 1) := by decide +kernel
theorem d_X12_next_185 : decode (mC M_X12_next) 185 = .ok (.getfield 205, 3) := by decide +kernel
theorem d_X12_next_188 : decode (mC M_X12_next) 188 = .ok (.imul, 1) := by decide +kernel
theorem d_X12_next_189 : decode (mC M_X12_next) 189 = .ok (.aload_n 0, 1) := by decide +kernel
theorem d_X12_next_190 : decode (mC M_X12_next) 190 = .ok (.aload_n 0, 1) := by decide +kernel
theorem d_X12_next_191 : decode (mC M_X12_next) 191 = .ok (.getfield 186, 3) := by decide +kernel
theorem d_X12_next_194 : decode (mC M_X12_next) 194 = .ok (.invokevirtual 198, 3) := by decide +kernel
theorem d_X12_next_197 : decode (mC M_X12_next) 197 = .ok (.iadd, 1) := by decide +kernel
theorem d_X12_next_198 : decode (mC M_X12_next) 198 = .ok (.bipush 48, 2) := by decide +kernel
theorem d_X12_next_200 : decode (mC M_X12_next) 200 = .ok (.isub, 1) := by decide +kernel
theorem d_X12_next_201 : decode (mC M_X12_next) 201 = .ok (.putfield 205, 3) := by decide +kernel
theorem d_X12_next_204 : decode (mC M_X12_next) 204 = .ok (.aload_n 0, 1) := by decide +kernel
theorem d_X12_next_205 : decode (mC M_X12_next) 205 = .ok (.dup, 1) := by decide +kernel
theorem d_X12_next_206 : decode (mC M_X12_next) 206 = .ok (.getfield 186, 3) := by decide +kernel
theorem d_X12_next_209 : decode (mC M_X12_next) 209 = .ok (.iconst 1, 1) := by decide +kernel
theorem d_X12_next_210 : decode (mC M_X12_next) 210 = .ok (.iadd, 1) := by decide +kernel
theorem d_X12_next_211 : decode (mC M_X12_next) 211 = .ok (.putfield 186, 3) := by decide +kernel
theorem d_X12_next_214 : decode (mC M_X12_next) 214 = .ok (.goto (-60), 3) := by decide +kernel
theorem d_X12_next_217 : decode (mC M_X12_next) 217 = .ok (.aload_n 0, 1) := by decide +kernel
theorem d_X12_next_218 : decode (mC M_X12_next) 218 = .ok (.aload_n 0, 1) := by decide +kernel
theorem d_X12_next_219 : decode (mC M_X12_next) 219 = .ok (.getfield 186, 3) := by decide +kernel
theorem d_X12_next_222 : decode (mC M_X12_next) 222 = .ok (.aload_n 0, 1) := by decide +kernel
theorem d_X12_next_223 : decode (mC M_X12_next) 223 = .ok (.getfield 189, 3) := by decide +kernel
theorem d_X12_next_226 : decode (mC M_X12_next) 226 = .ok (.isub, 1) := by decide +kernel
theorem d_X12_next_227 : decode (mC M_X12_next) 227 = .ok (.iconst 5, 1) := by decide +kernel
theorem d_X12_next_228 : decode (mC M_X12_next) 228 = .ok (.if_icmp .le 7, 3) := by decide +kernel
theorem d_X12_next_231 : decode (mC M_X12_next) 231 = .ok (.iconst 1, 1) := by decide +kernel
theorem d_X12_next_232 : decode (mC M_X12_next) 232 = .ok (.goto 4, 3) := by decide +kernel
theorem d_X12_next_235 : decode (mC M_X12_next) 235 = .ok (.iconst 2, 1) := by decide +kernel
theorem d_X12_next_236 : decode (mC M_X12_next) 236 = .ok (.putfield 192, 3) := by decide +kernel
theorem d_X12_next_239 : decode (mC M_X12_next) 239 = .ok (.goto 53, 3) := by decide +kernel
theorem d_X12_next_242 : decode (mC M_X12_next) 242 = .ok (.aload_n 0, 1) := by decide +kernel
theorem d_X12_next_243 : decode (mC M_X12_next) 243 = .ok (.iload_n 1, 1) := by decide +kernel
theorem d_X12_next_244 : decode (mC M_X12_next) 244 = .ok (.putfield 205, 3) := by decide +kernel
theorem d_X12_next_247 : decode (mC M_X12_next) 247 = .ok (.aload_n 0, 1) := by decide +kernel
theorem d_X12_next_248 : decode (mC M_X12_next) 248 = .ok (.iload_n 1, 1) := by decide +kernel
theorem d_X12_next_249 : decode (mC M_X12_next) 249 = .ok (.bipush 40, 2) := by decide +kernel
theorem d_X12_next_251 : decode (mC M_X12_next) 251 = .ok (.if_icmp .eq 33, 3) := by decide +kernel
theorem d_X12_next_254 : decode (mC M_X12_next) 254 = .ok (.iload_n 1, 1) := by decide +kernel
theorem d_X12_next_255 : decode (mC M_X12_next) 255 = .ok (.bipush 41, 2) := by decide +kernel
theorem d_X12_next_257 : decode (mC M_X12_next) 257 = .ok (.if_icmp .eq 27, 3) := by decide +kernel
theorem d_X12_next_260 : decode (mC M_X12_next) 260 = .ok (.iload_n 1, 1) := by decide +kernel
theorem d_X12_next_261 : decode (mC M_X12_next) 261 = .ok (.bipush 58, 2) := by decide +kernel
theorem d_X12_next_263 : decode (mC M_X12_next) 263 = .ok (.if_icmp .eq 21, 3) := by decide +kernel
theorem d_X12_next_266 : decode (mC M_X12_next) 266 = .ok (.iload_n 1, 1) := by decide +kernel
theorem d_X12_next_267 : decode (mC M_X12_next) 267 = .ok (.bipush 59, 2) := by decide +kernel
theorem d_X12_next_269 : decode (mC M_X12_next) 269 = .ok (.if_icmp .eq 15, 3) := by decide +kernel
theorem d_X12_next_272 : decode (mC M_X12_next) 272 = .ok (.iload_n 1, 1) := by decide +kernel
theorem d_X12_next_273 : decode (mC M_X12_next) 273 = .ok (.bipush 60, 2) := by decide +kernel
theorem d_X12_next_275 : decode (mC M_X12_next) 275 = .ok (.if_icmp .eq 9, 3) := by decide +kernel
theorem d_X12_next_278 : decode (mC M_X12_next) 278 = .ok (.iload_n 1, 1) := by decide +kernel
theorem d_X12_next_279 : decode (mC M_X12_next) 279 = .ok (.bipush 62, 2) := by decide +kernel
theorem d_X12_next_281 : decode (mC M_X12_next) 281 = .ok (.if_icmp .ne 7, 3) := by decide +kernel
theorem d_X12_next_284 : decode (mC M_X12_next) 284 = .ok (.iconst 4, 1) := by decide +kernel
theorem d_X12_next_285 : decode (mC M_X12_next) 285 = .ok (.goto 4, 3) := by decide +kernel
theorem d_X12_next_288 : decode (mC M_X12_next) 288 = .ok (.iconst 1, 1) := by decide +kernel
theorem d_X12_next_289 : decode (mC M_X12_next) 289 = .ok (.putfield 192, 3) := by decide +kernel
theorem d_X12_next_292 : decode (mC M_X12_next) 292 = .ok (.return_, 1) := by decide +kernel
theorem d_X12_nextComing_0 : decode (mC M_X12_nextComing) 0 = .ok (.iconst (-1), 1) := by decide +kernel
theorem d_X12_nextComing_1 : decode (mC M_X12_nextComing) 1 = .ok (.istore_n 1, 1) := by decide +kernel
theorem d_X12_nextComing_2 : decode (mC M_X12_nextComing) 2 = .ok (.iconst 0, 1) := by decide +kernel
theorem d_X12_nextComing_3 : decode (mC M_X12_nextComing) 3 = .ok (.istore_n 2, 1) := by decide +kernel
theorem d_X12_nextComing_4 : decode (mC M_X12_nextComing) 4 = .ok (.iload_n 2, 1) := by decide +kernel
theorem d_X12_nextComing_5 : decode (mC M_X12_nextComing) 5 = .ok (.aload_n 0, 1) := by decide +kernel
theorem d_X12_nextComing_6 : decode (mC M_X12_nextComing) 6 = .ok (.getfield 151, 3) := by decide +kernel
theorem d_X12_nextComing_9 : decode (mC M_X12_nextComing) 9 = .ok (.if_icmp .ge 50, 3) := by decide +kernel
theorem d_X12_nextComing_12 : decode (mC M_X12_nextComing) 12 = .ok (.aload_n 0, 1) := by decide +kernel
theorem d_X12_nextComing_13 : decode (mC M_X12_nextComing) 13 = .ok (.getfield 39, 3) := by decide +kernel
theorem d_X12_nextComing_16 : decode (mC M_X12_nextComing) 16 = .ok (.iload_n 2, 1) := by decide +kernel
theorem d_X12_nextComing_17 : decode (mC M_X12_nextComing) 17 = .ok (.iaload, 1) := by decide +kernel
theorem d_X12_nextComing_18 : decode (mC M_X12_nextComing) 18 = .ok (.iconst (-1), 1) := by decide +kernel
theorem d_X12_nextComing_19 : decode (mC M_X12_nextComing) 19 = .ok (.if_icmp .eq 34, 3) := by decide +kernel
theorem d_X12_nextComing_22 : decode (mC M_X12_nextComing) 22 = .ok (.aload_n 0, 1) := by decide +kernel
theorem d_X12_nextComing_23 : decode (mC M_X12_nextComing) 23 = .ok (.getfield 139, 3) := by decide +kernel
theorem d_X12_nextComing_26 : decode (mC M_X12_nextComing) 26 = .ok (.iload_n 2, 1) := by decide +kernel
theorem d_X12_nextComing_27 : decode (mC M_X12_nextComing) 27 = .ok (.baload, 1) := by decide +kernel
theorem d_X12_nextComing_28 : decode (mC M_X12_nextComing) 28 = .ok (.ifCond .ne 25, 3) := by decide +kernel
theorem d_X12_nextComing_31 : decode (mC M_X12_nextComing) 31 = .ok (.iload_n 1, 1) := by decide +kernel
theorem d_X12_nextComing_32 : decode (mC M_X12_nextComing) 32 = .ok (.iconst (-1), 1) := by decide +kernel
theorem d_X12_nextComing_33 : decode (mC M_X12_nextComing) 33 = .ok (.if_icmp .eq 18, 3) := by decide +kernel
theorem d_X12_nextComing_36 : decode (mC M_X12_nextComing) 36 = .ok (.aload_n 0, 1) := by decide +kernel
theorem d_X12_nextComing_37 : decode (mC M_X12_nextComing) 37 = .ok (.getfield 142, 3) := by decide +kernel
theorem d_X12_nextComing_40 : decode (mC M_X12_nextComing) 40 = .ok (.iload_n 2, 1) := by decide +kernel
theorem d_X12_nextComing_41 : decode (mC M_X12_nextComing) 41 = .ok (.iaload, 1) := by decide +kernel
theorem d_X12_nextComing_42 : decode (mC M_X12_nextComing) 42 = .ok (.aload_n 0, 1) := by decide +kernel
theorem d_X12_nextComing_43 : decode (mC M_X12_nextComing) 43 = .ok (.getfield 142, 3) := by decide +kernel
theorem d_X12_nextComing_46 : decode (mC M_X12_nextComing) 46 = .ok (.iload_n 1, 1) := by decide +kernel
theorem d_X12_nextComing_47 : decode (mC M_X12_nextComing) 47 = .ok (.iaload, 1) := by decide +kernel
theorem d_X12_nextComing_48 : decode (mC M_X12_nextComing) 48 = .ok (.if_icmp .ge 5, 3) := by decide +kernel
theorem d_X12_nextComing_51 : decode (mC M_X12_nextComing) 51 = .ok (.iload_n 2, 1) := by decide +kernel
theorem d_X12_nextComing_52 : decode (mC M_X12_nextComing) 52 = .ok (.istore_n 1, 1) := by decide +kernel
theorem d_X12_nextComing_53 : decode (mC M_X12_nextComing) 53 = .ok (.iinc 2 1, 3) := by decide +kernel
theorem d_X12_nextComing_56 : decode (mC M_X12_nextComing) 56 = .ok (.goto (-52), 3) := by decide +kernel
theorem d_X12_nextComing_59 : decode (mC M_X12_nextComing) 59 = .ok (.iload_n 1, 1) := by decide +kernel
theorem d_X12_nextComing_60 : decode (mC M_X12_nextComing) 60 = .ok (.ireturn, 1) := by decide +kernel
theorem d_X12_next__0 : decode (mC M_X12_next_) 0 = .ok (.iload_n 0, 1) := by decide +kernel
theorem d_X12_next__1 : decode (mC M_X12_next_) 1 = .ok (.ldc_w 361, 3) := by decide +kernel
theorem d_X12_next__4 : decode (mC M_X12_next_) 4 = .ok (.imul, 1) := by decide +kernel
theorem d_X12_next__5 : decode (mC M_X12_next_) 5 = .ok (.sipush 12345, 3) := by decide +kernel
theorem d_X12_next__8 : decode (mC M_X12_next_) 8 = .ok (.iadd, 1) := by decide +kernel
theorem d_X12_next__9 : decode (mC M_X12_next_) 9 = .ok (.ireturn, 1) := by decide +kernel
theorem d_X12_no_0 : decode (mC M_X12_no) 0 = .ok (.aload_n 0, 1) := by decide +kernel
theorem d_X12_no_1 : decode (mC M_X12_no) 1 = .ok (.iconst 0, 1) := by decide +kernel
theorem d_X12_no_2 : decode (mC M_X12_no) 2 = .ok (.putfield 1, 3) := by decide +kernel
theorem d_X12_no_5 : decode (mC M_X12_no) 5 = .ok (.aload_n 0, 1) := by decide +kernel
theorem d_X12_no_6 : decode (mC M_X12_no) 6 = .ok (.iload_n 1, 1) := by decide +kernel
theorem d_X12_no_7 : decode (mC M_X12_no) 7 = .ok (.invokevirtual 159, 3) := by decide +kernel
theorem d_X12_no_10 : decode (mC M_X12_no) 10 = .ok (.ifCond .eq 13, 3) := by decide +kernel
theorem d_X12_no_13 : decode (mC M_X12_no) 13 = .ok (.aload_n 0, 1) := by decide +kernel
theorem d_X12_no_14 : decode (mC M_X12_no) 14 = .ok (.getfield 39, 3) := by decide +kernel
theorem d_X12_no_17 : decode (mC M_X12_no) 17 = .ok (.iload_n 1, 1) := by decide +kernel
theorem d_X12_no_18 : decode (mC M_X12_no) 18 = .ok (.iaload, 1) := by decide +kernel
theorem d_X12_no_19 : decode (mC M_X12_no) 19 = .ok (.iconst (-1), 1) := by decide +kernel
theorem d_X12_no_20 : decode (mC M_X12_no) 20 = .ok (.if_icmp .ne 5, 3) := by decide +kernel
theorem d_X12_no_23 : decode (mC M_X12_no) 23 = .ok (.iconst (-1), 1) := by decide +kernel
theorem d_X12_no_24 : decode (mC M_X12_no) 24 = .ok (.ireturn, 1) := by decide +kernel
theorem d_X12_no_25 : decode (mC M_X12_no) 25 = .ok (.aload_n 0, 1) := by decide +kernel
theorem d_X12_no_26 : decode (mC M_X12_no) 26 = .ok (.getfield 39, 3) := by decide +kernel
theorem d_X12_no_29 : decode (mC M_X12_no) 29 = .ok (.iload_n 1, 1) := by decide +kernel
theorem d_X12_no_30 : decode (mC M_X12_no) 30 = .ok (.iaload, 1) := by decide +kernel
theorem d_X12_no_31 : decode (mC M_X12_no) 31 = .ok (.istore_n 2, 1) := by decide +kernel
theorem d_X12_no_32 : decode (mC M_X12_no) 32 = .ok (.aload_n 0, 1) := by decide +kernel
theorem d_X12_no_33 : decode (mC M_X12_no) 33 = .ok (.getfield 39, 3) := by decide +kernel
theorem d_X12_no_36 : decode (mC M_X12_no) 36 = .ok (.iload_n 1, 1) := by decide +kernel
theorem d_X12_no_37 : decode (mC M_X12_no) 37 = .ok (.iconst (-1), 1) := by decide +kernel
theorem d_X12_no_38 : decode (mC M_X12_no) 38 = .ok (.iastore, 1) := by decide +kernel
theorem d_X12_no_39 : decode (mC M_X12_no) 39 = .ok (.aload_n 0, 1) := by decide +kernel
theorem d_X12_no_40 : decode (mC M_X12_no) 40 = .ok (.getfield 29, 3) := by decide +kernel
theorem d_X12_no_43 : decode (mC M_X12_no) 43 = .ok (.iload_n 1, 1) := by decide +kernel
theorem d_X12_no_44 : decode (mC M_X12_no) 44 = .ok (.iconst 1, 1) := by decide +kernel
theorem d_X12_no_45 : decode (mC M_X12_no) 45 = .ok (.bastore, 1) := by decide +kernel
theorem d_X12_no_46 : decode (mC M_X12_no) 46 = .ok (.aload_n 0, 1) := by decide +kernel
theorem d_X12_no_47 : decode (mC M_X12_no) 47 = .ok (.iconst 0, 1) := by decide +kernel
theorem d_X12_no_48 : decode (mC M_X12_no) 48 = .ok (.putfield 334, 3) := by decide +kernel
theorem d_X12_no_51 : decode (mC M_X12_no) 51 = .ok (.aload_n 0, 1) := by decide +kernel
theorem d_X12_no_52 : decode (mC M_X12_no) 52 = .ok (.invokevirtual 320, 3) := by decide +kernel
theorem d_X12_no_55 : decode (mC M_X12_no) 55 = .ok (.iconst 1, 1) := by decide +kernel
theorem d_X12_no_56 : decode (mC M_X12_no) 56 = .ok (.istore_n 3, 1) := by decide +kernel
theorem d_X12_no_57 : decode (mC M_X12_no) 57 = .ok (.iload_n 3, 1) := by decide +kernel
theorem d_X12_no_58 : decode (mC M_X12_no) 58 = .ok (.aload_n 0, 1) := by decide +kernel
theorem d_X12_no_59 : decode (mC M_X12_no) 59 = .ok (.getfield 298, 3) := by decide +kernel
theorem d_X12_no_62 : decode (mC M_X12_no) 62 = .ok (.if_icmp .gt 34, 3) := by decide +kernel
theorem d_X12_no_65 : decode (mC M_X12_no) 65 = .ok (.aload_n 0, 1) := by decide +kernel
theorem d_X12_no_66 : decode (mC M_X12_no) 66 = .ok (.getfield 334, 3) := by decide +kernel
theorem d_X12_no_69 : decode (mC M_X12_no) 69 = .ok (.ifCond .ne 27, 3) := by decide +kernel
theorem d_X12_no_72 : decode (mC M_X12_no) 72 = .ok (.aload_n 0, 1) := by decide +kernel
theorem d_X12_no_73 : decode (mC M_X12_no) 73 = .ok (.iload_n 2, 1) := by decide +kernel
theorem d_X12_no_74 : decode (mC M_X12_no) 74 = .ok (.iconst 0, 1) := by decide +kernel
theorem d_X12_no_75 : decode (mC M_X12_no) 75 = .ok (.iload_n 3, 1) := by decide +kernel
theorem d_X12_no_76 : decode (mC M_X12_no) 76 = .ok (.iconst 1, 1) := by decide +kernel
theorem d_X12_no_77 : decode (mC M_X12_no) 77 = .ok (.iload_n 2, 1) := by decide +kernel
theorem d_X12_no_78 : decode (mC M_X12_no) 78 = .ok (.ishl, 1) := by decide +kernel
theorem d_X12_no_79 : decode (mC M_X12_no) 79 = .ok (.invokevirtual 330, 3) := by decide +kernel
theorem d_X12_no_82 : decode (mC M_X12_no) 82 = .ok (.ifCond .eq 8, 3) := by decide +kernel
theorem d_X12_no_85 : decode (mC M_X12_no) 85 = .ok (.aload_n 0, 1) := by decide +kernel
theorem d_X12_no_86 : decode (mC M_X12_no) 86 = .ok (.iload_n 3, 1) := by decide +kernel
theorem d_X12_no_87 : decode (mC M_X12_no) 87 = .ok (.putfield 334, 3) := by decide +kernel
theorem d_X12_no_90 : decode (mC M_X12_no) 90 = .ok (.iinc 3 1, 3) := by decide +kernel
theorem d_X12_no_93 : decode (mC M_X12_no) 93 = .ok (.goto (-36), 3) := by decide +kernel
theorem d_X12_no_96 : decode (mC M_X12_no) 96 = .ok (.iload_n 2, 1) := by decide +kernel
theorem d_X12_no_97 : decode (mC M_X12_no) 97 = .ok (.istore_n 3, 1) := by decide +kernel
theorem d_X12_no_98 : decode (mC M_X12_no) 98 = .ok (.iconst 0, 1) := by decide +kernel
theorem d_X12_no_99 : decode (mC M_X12_no) 99 = .ok (.istore 4, 2) := by decide +kernel
theorem d_X12_no_101 : decode (mC M_X12_no) 101 = .ok (.iload 4, 2) := by decide +kernel
theorem d_X12_no_103 : decode (mC M_X12_no) 103 = .ok (.aload_n 0, 1) := by decide +kernel
theorem d_X12_no_104 : decode (mC M_X12_no) 104 = .ok (.getfield 334, 3) := by decide +kernel
theorem d_X12_no_107 : decode (mC M_X12_no) 107 = .ok (.if_icmp .ge 39, 3) := by decide +kernel
theorem d_X12_no_110 : decode (mC M_X12_no) 110 = .ok (.aload_n 0, 1) := by decide +kernel
theorem d_X12_no_111 : decode (mC M_X12_no) 111 = .ok (.getfield 39, 3) := by decide +kernel
theorem d_X12_no_114 : decode (mC M_X12_no) 114 = .ok (.aload_n 0, 1) := by decide +kernel
theorem d_X12_no_115 : decode (mC M_X12_no) 115 = .ok (.getfield 100, 3) := by decide +kernel
theorem d_X12_no_118 : decode (mC M_X12_no) 118 = .ok (.iload 4, 2) := by decide +kernel
theorem d_X12_no_120 : decode (mC M_X12_no) 120 = .ok (.iaload, 1) := by decide +kernel
theorem d_X12_no_121 : decode (mC M_X12_no) 121 = .ok (.iaload, 1) := by decide +kernel
theorem d_X12_no_122 : decode (mC M_X12_no) 122 = .ok (.istore 5, 2) := by decide +kernel
theorem d_X12_no_124 : decode (mC M_X12_no) 124 = .ok (.aload_n 0, 1) := by decide +kernel
theorem d_X12_no_125 : decode (mC M_X12_no) 125 = .ok (.getfield 39, 3) := by decide +kernel
theorem d_X12_no_128 : decode (mC M_X12_no) 128 = .ok (.aload_n 0, 1) := by decide +kernel
theorem d_X12_no_129 : decode (mC M_X12_no) 129 = .ok (.getfield 100, 3) := by decide +kernel
theorem d_X12_no_132 : decode (mC M_X12_no) 132 = .ok (.iload 4, 2) := by decide +kernel
theorem d_X12_no_134 : decode (mC M_X12_no) 134 = .ok (.iaload, 1) := by decide +kernel
theorem d_X12_no_135 : decode (mC M_X12_no) 135 = .ok (.iload_n 3, 1) := by decide +kernel
theorem d_X12_no_136 : decode (mC M_X12_no) 136 = .ok (.iastore, 1) := by decide +kernel
theorem d_X12_no_137 : decode (mC M_X12_no) 137 = .ok (.iload 5, 2) := by decide +kernel
theorem d_X12_no_139 : decode (mC M_X12_no) 139 = .ok (.istore_n 3, 1) := by decide +kernel
theorem d_X12_no_140 : decode (mC M_X12_no) 140 = .ok (.iinc 4 1, 3) := by decide +kernel
theorem d_X12_no_143 : decode (mC M_X12_no) 143 = .ok (.goto (-42), 3) := by decide +kernel
theorem d_X12_no_146 : decode (mC M_X12_no) 146 = .ok (.aload_n 0, 1) := by decide +kernel
theorem d_X12_no_147 : decode (mC M_X12_no) 147 = .ok (.getfield 334, 3) := by decide +kernel
theorem d_X12_no_150 : decode (mC M_X12_no) 150 = .ok (.ireturn, 1) := by decide +kernel
theorem d_X12_nobody_0 : decode (mC M_X12_nobody) 0 = .ok (.iconst 0, 1) := by decide +kernel
theorem d_X12_nobody_1 : decode (mC M_X12_nobody) 1 = .ok (.istore_n 1, 1) := by decide +kernel
theorem d_X12_nobody_2 : decode (mC M_X12_nobody) 2 = .ok (.iload_n 1, 1) := by decide +kernel
theorem d_X12_nobody_3 : decode (mC M_X12_nobody) 3 = .ok (.bipush 40, 2) := by decide +kernel
theorem d_X12_nobody_5 : decode (mC M_X12_nobody) 5 = .ok (.if_icmp .ge 16, 3) := by decide +kernel
theorem d_X12_nobody_8 : decode (mC M_X12_nobody) 8 = .ok (.aload_n 0, 1) := by decide +kernel
theorem d_X12_nobody_9 : decode (mC M_X12_nobody) 9 = .ok (.getfield 39, 3) := by decide +kernel
theorem d_X12_nobody_12 : decode (mC M_X12_nobody) 12 = .ok (.iload_n 1, 1) := by decide +kernel
theorem d_X12_nobody_13 : decode (mC M_X12_nobody) 13 = .ok (.iconst (-1), 1) := by decide +kernel
theorem d_X12_nobody_14 : decode (mC M_X12_nobody) 14 = .ok (.iastore, 1) := by decide +kernel
theorem d_X12_nobody_15 : decode (mC M_X12_nobody) 15 = .ok (.iinc 1 1, 3) := by decide +kernel
theorem d_X12_nobody_18 : decode (mC M_X12_nobody) 18 = .ok (.goto (-16), 3) := by decide +kernel
theorem d_X12_nobody_21 : decode (mC M_X12_nobody) 21 = .ok (.return_, 1) := by decide +kernel
theorem d_X12_number_0 : decode (mC M_X12_number) 0 = .ok (.aload_n 0, 1) := by decide +kernel
theorem d_X12_number_1 : decode (mC M_X12_number) 1 = .ok (.getfield 221, 3) := by decide +kernel
theorem d_X12_number_4 : decode (mC M_X12_number) 4 = .ok (.ifCond .eq 5, 3) := by decide +kernel
theorem d_X12_number_7 : decode (mC M_X12_number) 7 = .ok (.iconst 0, 1) := by decide +kernel
theorem d_X12_number_8 : decode (mC M_X12_number) 8 = .ok (.ireturn, 1) := by decide +kernel
theorem d_X12_number_9 : decode (mC M_X12_number) 9 = .ok (.aload_n 0, 1) := by decide +kernel
theorem d_X12_number_10 : decode (mC M_X12_number) 10 = .ok (.getfield 192, 3) := by decide +kernel
theorem d_X12_number_13 : decode (mC M_X12_number) 13 = .ok (.iconst 2, 1) := by decide +kernel
theorem d_X12_number_14 : decode (mC M_X12_number) 14 = .ok (.if_icmp .eq 10, 3) := by decide +kernel
theorem d_X12_number_17 : decode (mC M_X12_number) 17 = .ok (.aload_n 0, 1) := by decide +kernel
theorem d_X12_number_18 : decode (mC M_X12_number) 18 = .ok (.iconst 1, 1) := by decide +kernel
theorem d_X12_number_19 : decode (mC M_X12_number) 19 = .ok (.invokevirtual 230, 3) := by decide +kernel
theorem d_X12_number_22 : decode (mC M_X12_number) 22 = .ok (.iconst 0, 1) := by decide +kernel
theorem d_X12_number_23 : decode (mC M_X12_number) 23 = .ok (.ireturn, 1) := by decide +kernel
theorem d_X12_number_24 : decode (mC M_X12_number) 24 = .ok (.aload_n 0, 1) := by decide +kernel
theorem d_X12_number_25 : decode (mC M_X12_number) 25 = .ok (.getfield 205, 3) := by decide +kernel
theorem d_X12_number_28 : decode (mC M_X12_number) 28 = .ok (.iload_n 1, 1) := by decide +kernel
theorem d_X12_number_29 : decode (mC M_X12_number) 29 = .ok (.iload_n 2, 1) := by decide +kernel
theorem d_X12_number_30 : decode (mC M_X12_number) 30 = .ok (.invokestatic 154, 3) := by decide +kernel
theorem d_X12_number_33 : decode (mC M_X12_number) 33 = .ok (.ifCond .ne 10, 3) := by decide +kernel
theorem d_X12_number_36 : decode (mC M_X12_number) 36 = .ok (.aload_n 0, 1) := by decide +kernel
theorem d_X12_number_37 : decode (mC M_X12_number) 37 = .ok (.iconst 2, 1) := by decide +kernel
theorem d_X12_number_38 : decode (mC M_X12_number) 38 = .ok (.invokevirtual 230, 3) := by decide +kernel
theorem d_X12_number_41 : decode (mC M_X12_number) 41 = .ok (.iconst 0, 1) := by decide +kernel
theorem d_X12_number_42 : decode (mC M_X12_number) 42 = .ok (.ireturn, 1) := by decide +kernel
theorem d_X12_number_43 : decode (mC M_X12_number) 43 = .ok (.aload_n 0, 1) := by decide +kernel
theorem d_X12_number_44 : decode (mC M_X12_number) 44 = .ok (.getfield 205, 3) := by decide +kernel
theorem d_X12_number_47 : decode (mC M_X12_number) 47 = .ok (.istore_n 3, 1) := by decide +kernel
theorem d_X12_number_48 : decode (mC M_X12_number) 48 = .ok (.aload_n 0, 1) := by decide +kernel
theorem d_X12_number_49 : decode (mC M_X12_number) 49 = .ok (.invokevirtual 208, 3) := by decide +kernel
theorem d_X12_number_52 : decode (mC M_X12_number) 52 = .ok (.iload_n 3, 1) := by decide +kernel
theorem d_X12_number_53 : decode (mC M_X12_number) 53 = .ok (.ireturn, 1) := by decide +kernel
theorem d_X12_one_0 : decode (mC M_X12_one) 0 = .ok (.aload_n 0, 1) := by decide +kernel
theorem d_X12_one_1 : decode (mC M_X12_one) 1 = .ok (.getfield 221, 3) := by decide +kernel
theorem d_X12_one_4 : decode (mC M_X12_one) 4 = .ok (.ifCond .eq 5, 3) := by decide +kernel
theorem d_X12_one_7 : decode (mC M_X12_one) 7 = .ok (.iconst 0, 1) := by decide +kernel
theorem d_X12_one_8 : decode (mC M_X12_one) 8 = .ok (.ireturn, 1) := by decide +kernel
theorem d_X12_one_9 : decode (mC M_X12_one) 9 = .ok (.aload_n 0, 1) := by decide +kernel
theorem d_X12_one_10 : decode (mC M_X12_one) 10 = .ok (.ldc 248, 2) := by decide +kernel
theorem d_X12_one_12 : decode (mC M_X12_one) 12 = .ok (.invokevirtual 234, 3) := by decide +kernel
theorem d_X12_one_15 : decode (mC M_X12_one) 15 = .ok (.istore_n 2, 1) := by decide +kernel
theorem d_X12_one_16 : decode (mC M_X12_one) 16 = .ok (.iload_n 2, 1) := by decide +kernel
theorem d_X12_one_17 : decode (mC M_X12_one) 17 = .ok (.ifCond .ne 12, 3) := by decide +kernel
theorem d_X12_one_20 : decode (mC M_X12_one) 20 = .ok (.aload_n 0, 1) := by decide +kernel
theorem d_X12_one_21 : decode (mC M_X12_one) 21 = .ok (.bipush 40, 2) := by decide +kernel
theorem d_X12_one_23 : decode (mC M_X12_one) 23 = .ok (.invokevirtual 227, 3) := by decide +kernel
theorem d_X12_one_26 : decode (mC M_X12_one) 26 = .ok (.ifCond .eq 56, 3) := by decide +kernel
theorem d_X12_one_29 : decode (mC M_X12_one) 29 = .ok (.iload_n 1, 1) := by decide +kernel
theorem d_X12_one_30 : decode (mC M_X12_one) 30 = .ok (.bipush 8, 2) := by decide +kernel
theorem d_X12_one_32 : decode (mC M_X12_one) 32 = .ok (.if_icmp .ne 10, 3) := by decide +kernel
theorem d_X12_one_35 : decode (mC M_X12_one) 35 = .ok (.aload_n 0, 1) := by decide +kernel
theorem d_X12_one_36 : decode (mC M_X12_one) 36 = .ok (.iconst 2, 1) := by decide +kernel
theorem d_X12_one_37 : decode (mC M_X12_one) 37 = .ok (.invokevirtual 230, 3) := by decide +kernel
theorem d_X12_one_40 : decode (mC M_X12_one) 40 = .ok (.iconst 0, 1) := by decide +kernel
theorem d_X12_one_41 : decode (mC M_X12_one) 41 = .ok (.ireturn, 1) := by decide +kernel
theorem d_X12_one_42 : decode (mC M_X12_one) 42 = .ok (.aload_n 0, 1) := by decide +kernel
theorem d_X12_one_43 : decode (mC M_X12_one) 43 = .ok (.invokevirtual 208, 3) := by decide +kernel
theorem d_X12_one_46 : decode (mC M_X12_one) 46 = .ok (.iload_n 2, 1) := by decide +kernel
theorem d_X12_one_47 : decode (mC M_X12_one) 47 = .ok (.ifCond .eq 19, 3) := by decide +kernel
theorem d_X12_one_50 : decode (mC M_X12_one) 50 = .ok (.aload_n 0, 1) := by decide +kernel
theorem d_X12_one_51 : decode (mC M_X12_one) 51 = .ok (.iload_n 1, 1) := by decide +kernel
theorem d_X12_one_52 : decode (mC M_X12_one) 52 = .ok (.iconst 1, 1) := by decide +kernel
theorem d_X12_one_53 : decode (mC M_X12_one) 53 = .ok (.iadd, 1) := by decide +kernel
theorem d_X12_one_54 : decode (mC M_X12_one) 54 = .ok (.invokevirtual 243, 3) := by decide +kernel
theorem d_X12_one_57 : decode (mC M_X12_one) 57 = .ok (.ifCond .ne 7, 3) := by decide +kernel
theorem d_X12_one_60 : decode (mC M_X12_one) 60 = .ok (.iconst 1, 1) := by decide +kernel
theorem d_X12_one_61 : decode (mC M_X12_one) 61 = .ok (.goto 4, 3) := by decide +kernel
theorem d_X12_one_64 : decode (mC M_X12_one) 64 = .ok (.iconst 0, 1) := by decide +kernel
theorem d_X12_one_65 : decode (mC M_X12_one) 65 = .ok (.ireturn, 1) := by decide +kernel
theorem d_X12_one_66 : decode (mC M_X12_one) 66 = .ok (.aload_n 0, 1) := by decide +kernel
theorem d_X12_one_67 : decode (mC M_X12_one) 67 = .ok (.iload_n 1, 1) := by decide +kernel
theorem d_X12_one_68 : decode (mC M_X12_one) 68 = .ok (.iconst 1, 1) := by decide +kernel
theorem d_X12_one_69 : decode (mC M_X12_one) 69 = .ok (.iadd, 1) := by decide +kernel
theorem d_X12_one_70 : decode (mC M_X12_one) 70 = .ok (.invokevirtual 250, 3) := by decide +kernel
theorem d_X12_one_73 : decode (mC M_X12_one) 73 = .ok (.istore_n 3, 1) := by decide +kernel
theorem d_X12_one_74 : decode (mC M_X12_one) 74 = .ok (.aload_n 0, 1) := by decide +kernel
theorem d_X12_one_75 : decode (mC M_X12_one) 75 = .ok (.bipush 41, 2) := by decide +kernel
theorem d_X12_one_77 : decode (mC M_X12_one) 77 = .ok (.invokevirtual 253, 3) := by decide +kernel
theorem d_X12_one_80 : decode (mC M_X12_one) 80 = .ok (.iload_n 3, 1) := by decide +kernel
theorem d_X12_one_81 : decode (mC M_X12_one) 81 = .ok (.ireturn, 1) := by decide +kernel
theorem d_X12_one_82 : decode (mC M_X12_one) 82 = .ok (.aload_n 0, 1) := by decide +kernel
theorem d_X12_one_83 : decode (mC M_X12_one) 83 = .ok (.ldc_w 256, 3) := by decide +kernel
theorem d_X12_one_86 : decode (mC M_X12_one) 86 = .ok (.invokevirtual 234, 3) := by decide +kernel
theorem d_X12_one_89 : decode (mC M_X12_one) 89 = .ok (.ifCond .eq 9, 3) := by decide +kernel
theorem d_X12_one_92 : decode (mC M_X12_one) 92 = .ok (.aload_n 0, 1) := by decide +kernel
theorem d_X12_one_93 : decode (mC M_X12_one) 93 = .ok (.invokevirtual 208, 3) := by decide +kernel
theorem d_X12_one_96 : decode (mC M_X12_one) 96 = .ok (.iconst 1, 1) := by decide +kernel
theorem d_X12_one_97 : decode (mC M_X12_one) 97 = .ok (.ireturn, 1) := by decide +kernel
theorem d_X12_one_98 : decode (mC M_X12_one) 98 = .ok (.aload_n 0, 1) := by decide +kernel
theorem d_X12_one_99 : decode (mC M_X12_one) 99 = .ok (.ldc_w 258, 3) := by decide +kernel
theorem d_X12_one_102 : decode (mC M_X12_one) 102 = .ok (.invokevirtual 234, 3) := by decide +kernel
theorem d_X12_one_105 : decode (mC M_X12_one) 105 = .ok (.ifCond .eq 45, 3) := by decide +kernel
theorem d_X12_one_108 : decode (mC M_X12_one) 108 = .ok (.aload_n 0, 1) := by decide +kernel
theorem d_X12_one_109 : decode (mC M_X12_one) 109 = .ok (.invokevirtual 208, 3) := by decide +kernel
theorem d_X12_one_112 : decode (mC M_X12_one) 112 = .ok (.aload_n 0, 1) := by decide +kernel
theorem d_X12_one_113 : decode (mC M_X12_one) 113 = .ok (.iconst 0, 1) := by decide +kernel
theorem d_X12_one_114 : decode (mC M_X12_one) 114 = .ok (.bipush 15, 2) := by decide +kernel
theorem d_X12_one_116 : decode (mC M_X12_one) 116 = .ok (.invokevirtual 260, 3) := by decide +kernel
theorem d_X12_one_119 : decode (mC M_X12_one) 119 = .ok (.istore_n 3, 1) := by decide +kernel
theorem d_X12_one_120 : decode (mC M_X12_one) 120 = .ok (.aload_n 0, 1) := by decide +kernel
theorem d_X12_one_121 : decode (mC M_X12_one) 121 = .ok (.getfield 263, 3) := by decide +kernel
theorem d_X12_one_124 : decode (mC M_X12_one) 124 = .ok (.ifCond .ne 24, 3) := by decide +kernel
theorem d_X12_one_127 : decode (mC M_X12_one) 127 = .ok (.aload_n 0, 1) := by decide +kernel
theorem d_X12_one_128 : decode (mC M_X12_one) 128 = .ok (.getfield 20, 3) := by decide +kernel
theorem d_X12_one_131 : decode (mC M_X12_one) 131 = .ok (.aload_n 0, 1) := by decide +kernel
theorem d_X12_one_132 : decode (mC M_X12_one) 132 = .ok (.getfield 267, 3) := by decide +kernel
theorem d_X12_one_135 : decode (mC M_X12_one) 135 = .ok (.iaload, 1) := by decide +kernel
theorem d_X12_one_136 : decode (mC M_X12_one) 136 = .ok (.iload_n 3, 1) := by decide +kernel
theorem d_X12_one_137 : decode (mC M_X12_one) 137 = .ok (.ishr, 1) := by decide +kernel
theorem d_X12_one_138 : decode (mC M_X12_one) 138 = .ok (.iconst 1, 1) := by decide +kernel
theorem d_X12_one_139 : decode (mC M_X12_one) 139 = .ok (.iand, 1) := by decide +kernel
theorem d_X12_one_140 : decode (mC M_X12_one) 140 = .ok (.iconst 1, 1) := by decide +kernel
theorem d_X12_one_141 : decode (mC M_X12_one) 141 = .ok (.if_icmp .ne 7, 3) := by decide +kernel
theorem d_X12_one_144 : decode (mC M_X12_one) 144 = .ok (.iconst 1, 1) := by decide +kernel
theorem d_X12_one_145 : decode (mC M_X12_one) 145 = .ok (.goto 4, 3) := by decide +kernel
theorem d_X12_one_148 : decode (mC M_X12_one) 148 = .ok (.iconst 0, 1) := by decide +kernel
theorem d_X12_one_149 : decode (mC M_X12_one) 149 = .ok (.ireturn, 1) := by decide +kernel
theorem d_X12_one_150 : decode (mC M_X12_one) 150 = .ok (.aload_n 0, 1) := by decide +kernel
theorem d_X12_one_151 : decode (mC M_X12_one) 151 = .ok (.ldc_w 270, 3) := by decide +kernel
theorem d_X12_one_154 : decode (mC M_X12_one) 154 = .ok (.invokevirtual 234, 3) := by decide +kernel
theorem d_X12_one_157 : decode (mC M_X12_one) 157 = .ok (.ifCond .eq 40, 3) := by decide +kernel
theorem d_X12_one_160 : decode (mC M_X12_one) 160 = .ok (.aload_n 0, 1) := by decide +kernel
theorem d_X12_one_161 : decode (mC M_X12_one) 161 = .ok (.invokevirtual 208, 3) := by decide +kernel
theorem d_X12_one_164 : decode (mC M_X12_one) 164 = .ok (.aload_n 0, 1) := by decide +kernel
theorem d_X12_one_165 : decode (mC M_X12_one) 165 = .ok (.iconst 0, 1) := by decide +kernel
theorem d_X12_one_166 : decode (mC M_X12_one) 166 = .ok (.iconst 3, 1) := by decide +kernel
theorem d_X12_one_167 : decode (mC M_X12_one) 167 = .ok (.invokevirtual 260, 3) := by decide +kernel
theorem d_X12_one_170 : decode (mC M_X12_one) 170 = .ok (.istore_n 3, 1) := by decide +kernel
theorem d_X12_one_171 : decode (mC M_X12_one) 171 = .ok (.aload_n 0, 1) := by decide +kernel
theorem d_X12_one_172 : decode (mC M_X12_one) 172 = .ok (.getfield 263, 3) := by decide +kernel
theorem d_X12_one_175 : decode (mC M_X12_one) 175 = .ok (.ifCond .ne 20, 3) := by decide +kernel
theorem d_X12_one_178 : decode (mC M_X12_one) 178 = .ok (.aload_n 0, 1) := by decide +kernel
theorem d_X12_one_179 : decode (mC M_X12_one) 179 = .ok (.getfield 23, 3) := by decide +kernel
theorem d_X12_one_182 : decode (mC M_X12_one) 182 = .ok (.aload_n 0, 1) := by decide +kernel
theorem d_X12_one_183 : decode (mC M_X12_one) 183 = .ok (.getfield 267, 3) := by decide +kernel
theorem d_X12_one_186 : decode (mC M_X12_one) 186 = .ok (.iaload, 1) := by decide +kernel
theorem d_X12_one_187 : decode (mC M_X12_one) 187 = .ok (.iload_n 3, 1) := by decide +kernel
theorem d_X12_one_188 : decode (mC M_X12_one) 188 = .ok (.if_icmp .ne 7, 3) := by decide +kernel
theorem d_X12_one_191 : decode (mC M_X12_one) 191 = .ok (.iconst 1, 1) := by decide +kernel
theorem d_X12_one_192 : decode (mC M_X12_one) 192 = .ok (.goto 4, 3) := by decide +kernel
theorem d_X12_one_195 : decode (mC M_X12_one) 195 = .ok (.iconst 0, 1) := by decide +kernel
theorem d_X12_one_196 : decode (mC M_X12_one) 196 = .ok (.ireturn, 1) := by decide +kernel
theorem d_X12_one_197 : decode (mC M_X12_one) 197 = .ok (.aload_n 0, 1) := by decide +kernel
theorem d_X12_one_198 : decode (mC M_X12_one) 198 = .ok (.ldc_w 271, 3) := by decide +kernel
theorem d_X12_one_201 : decode (mC M_X12_one) 201 = .ok (.invokevirtual 234, 3) := by decide +kernel
theorem d_X12_one_204 : decode (mC M_X12_one) 204 = .ok (.ifCond .eq 44, 3) := by decide +kernel
theorem d_X12_one_207 : decode (mC M_X12_one) 207 = .ok (.aload_n 0, 1) := by decide +kernel
theorem d_X12_one_208 : decode (mC M_X12_one) 208 = .ok (.invokevirtual 208, 3) := by decide +kernel
theorem d_X12_one_211 : decode (mC M_X12_one) 211 = .ok (.aload_n 0, 1) := by decide +kernel
theorem d_X12_one_212 : decode (mC M_X12_one) 212 = .ok (.iconst 0, 1) := by decide +kernel
theorem d_X12_one_213 : decode (mC M_X12_one) 213 = .ok (.bipush 19, 2) := by decide +kernel
theorem d_X12_one_215 : decode (mC M_X12_one) 215 = .ok (.invokevirtual 260, 3) := by decide +kernel
theorem d_X12_one_218 : decode (mC M_X12_one) 218 = .ok (.istore_n 3, 1) := by decide +kernel
theorem d_X12_one_219 : decode (mC M_X12_one) 219 = .ok (.aload_n 0, 1) := by decide +kernel
theorem d_X12_one_220 : decode (mC M_X12_one) 220 = .ok (.getfield 263, 3) := by decide +kernel
theorem d_X12_one_223 : decode (mC M_X12_one) 223 = .ok (.ifCond .ne 23, 3) := by decide +kernel
theorem d_X12_one_226 : decode (mC M_X12_one) 226 = .ok (.aload_n 0, 1) := by decide +kernel
theorem d_X12_one_227 : decode (mC M_X12_one) 227 = .ok (.aload_n 0, 1) := by decide +kernel
theorem d_X12_one_228 : decode (mC M_X12_one) 228 = .ok (.getfield 267, 3) := by decide +kernel
theorem d_X12_one_231 : decode (mC M_X12_one) 231 = .ok (.iload_n 3, 1) := by decide +kernel
theorem d_X12_one_232 : decode (mC M_X12_one) 232 = .ok (.aload_n 0, 1) := by decide +kernel
theorem d_X12_one_233 : decode (mC M_X12_one) 233 = .ok (.getfield 163, 3) := by decide +kernel
theorem d_X12_one_236 : decode (mC M_X12_one) 236 = .ok (.invokevirtual 173, 3) := by decide +kernel
theorem d_X12_one_239 : decode (mC M_X12_one) 239 = .ok (.ifCond .le 7, 3) := by decide +kernel
theorem d_X12_one_242 : decode (mC M_X12_one) 242 = .ok (.iconst 1, 1) := by decide +kernel
theorem d_X12_one_243 : decode (mC M_X12_one) 243 = .ok (.goto 4, 3) := by decide +kernel
theorem d_X12_one_246 : decode (mC M_X12_one) 246 = .ok (.iconst 0, 1) := by decide +kernel
theorem d_X12_one_247 : decode (mC M_X12_one) 247 = .ok (.ireturn, 1) := by decide +kernel
theorem d_X12_one_248 : decode (mC M_X12_one) 248 = .ok (.aload_n 0, 1) := by decide +kernel
theorem d_X12_one_249 : decode (mC M_X12_one) 249 = .ok (.ldc_w 273, 3) := by decide +kernel
theorem d_X12_one_252 : decode (mC M_X12_one) 252 = .ok (.invokevirtual 234, 3) := by decide +kernel
theorem d_X12_one_255 : decode (mC M_X12_one) 255 = .ok (.istore_n 3, 1) := by decide +kernel
theorem d_X12_one_256 : decode (mC M_X12_one) 256 = .ok (.iload_n 3, 1) := by decide +kernel
theorem d_X12_one_257 : decode (mC M_X12_one) 257 = .ok (.ifCond .ne 20, 3) := by decide +kernel
theorem d_X12_one_260 : decode (mC M_X12_one) 260 = .ok (.aload_n 0, 1) := by decide +kernel
theorem d_X12_one_261 : decode (mC M_X12_one) 261 = .ok (.ldc_w 274, 3) := by decide +kernel
theorem d_X12_one_264 : decode (mC M_X12_one) 264 = .ok (.invokevirtual 234, 3) := by decide +kernel
theorem d_X12_one_267 : decode (mC M_X12_one) 267 = .ok (.ifCond .ne 10, 3) := by decide +kernel
theorem d_X12_one_270 : decode (mC M_X12_one) 270 = .ok (.aload_n 0, 1) := by decide +kernel
theorem d_X12_one_271 : decode (mC M_X12_one) 271 = .ok (.iconst 1, 1) := by decide +kernel
theorem d_X12_one_272 : decode (mC M_X12_one) 272 = .ok (.invokevirtual 230, 3) := by decide +kernel
theorem d_X12_one_275 : decode (mC M_X12_one) 275 = .ok (.iconst 0, 1) := by decide +kernel
theorem d_X12_one_276 : decode (mC M_X12_one) 276 = .ok (.ireturn, 1) := by decide +kernel
theorem d_X12_one_277 : decode (mC M_X12_one) 277 = .ok (.aload_n 0, 1) := by decide +kernel
theorem d_X12_one_278 : decode (mC M_X12_one) 278 = .ok (.invokevirtual 208, 3) := by decide +kernel
theorem d_X12_one_281 : decode (mC M_X12_one) 281 = .ok (.aload_n 0, 1) := by decide +kernel
theorem d_X12_one_282 : decode (mC M_X12_one) 282 = .ok (.bipush 60, 2) := by decide +kernel
theorem d_X12_one_284 : decode (mC M_X12_one) 284 = .ok (.invokevirtual 227, 3) := by decide +kernel
theorem d_X12_one_287 : decode (mC M_X12_one) 287 = .ok (.istore 4, 2) := by decide +kernel
theorem d_X12_one_289 : decode (mC M_X12_one) 289 = .ok (.iload 4, 2) := by decide +kernel
theorem d_X12_one_291 : decode (mC M_X12_one) 291 = .ok (.ifCond .ne 19, 3) := by decide +kernel
theorem d_X12_one_294 : decode (mC M_X12_one) 294 = .ok (.aload_n 0, 1) := by decide +kernel
theorem d_X12_one_295 : decode (mC M_X12_one) 295 = .ok (.bipush 62, 2) := by decide +kernel
theorem d_X12_one_297 : decode (mC M_X12_one) 297 = .ok (.invokevirtual 227, 3) := by decide +kernel
theorem d_X12_one_300 : decode (mC M_X12_one) 300 = .ok (.ifCond .ne 10, 3) := by decide +kernel
theorem d_X12_one_303 : decode (mC M_X12_one) 303 = .ok (.aload_n 0, 1) := by decide +kernel
theorem d_X12_one_304 : decode (mC M_X12_one) 304 = .ok (.iconst 1, 1) := by decide +kernel
theorem d_X12_one_305 : decode (mC M_X12_one) 305 = .ok (.invokevirtual 230, 3) := by decide +kernel
theorem d_X12_one_308 : decode (mC M_X12_one) 308 = .ok (.iconst 0, 1) := by decide +kernel
theorem d_X12_one_309 : decode (mC M_X12_one) 309 = .ok (.ireturn, 1) := by decide +kernel
theorem d_X12_one_310 : decode (mC M_X12_one) 310 = .ok (.aload_n 0, 1) := by decide +kernel
theorem d_X12_one_311 : decode (mC M_X12_one) 311 = .ok (.invokevirtual 208, 3) := by decide +kernel
theorem d_X12_one_314 : decode (mC M_X12_one) 314 = .ok (.aload_n 0, 1) := by decide +kernel
theorem d_X12_one_315 : decode (mC M_X12_one) 315 = .ok (.iconst 0, 1) := by decide +kernel
theorem d_X12_one_316 : decode (mC M_X12_one) 316 = .ok (.ldc_w 275, 3) := by decide +kernel
theorem d_X12_one_319 : decode (mC M_X12_one) 319 = .ok (.invokevirtual 260, 3) := by decide +kernel
theorem d_X12_one_322 : decode (mC M_X12_one) 322 = .ok (.istore 5, 2) := by decide +kernel
theorem d_X12_one_324 : decode (mC M_X12_one) 324 = .ok (.aload_n 0, 1) := by decide +kernel
theorem d_X12_one_325 : decode (mC M_X12_one) 325 = .ok (.getfield 263, 3) := by decide +kernel
theorem d_X12_one_328 : decode (mC M_X12_one) 328 = .ok (.ifCond .eq 5, 3) := by decide +kernel
theorem d_X12_one_331 : decode (mC M_X12_one) 331 = .ok (.iconst 0, 1) := by decide +kernel
theorem d_X12_one_332 : decode (mC M_X12_one) 332 = .ok (.ireturn, 1) := by decide +kernel
theorem d_X12_one_333 : decode (mC M_X12_one) 333 = .ok (.iload_n 3, 1) := by decide +kernel
theorem d_X12_one_334 : decode (mC M_X12_one) 334 = .ok (.ifCond .eq 15, 3) := by decide +kernel
theorem d_X12_one_337 : decode (mC M_X12_one) 337 = .ok (.aload_n 0, 1) := by decide +kernel
theorem d_X12_one_338 : decode (mC M_X12_one) 338 = .ok (.getfield 13, 3) := by decide +kernel
theorem d_X12_one_341 : decode (mC M_X12_one) 341 = .ok (.aload_n 0, 1) := by decide +kernel
theorem d_X12_one_342 : decode (mC M_X12_one) 342 = .ok (.getfield 267, 3) := by decide +kernel
theorem d_X12_one_345 : decode (mC M_X12_one) 345 = .ok (.iaload, 1) := by decide +kernel
theorem d_X12_one_346 : decode (mC M_X12_one) 346 = .ok (.goto 12, 3) := by decide +kernel
theorem d_X12_one_349 : decode (mC M_X12_one) 349 = .ok (.aload_n 0, 1) := by decide +kernel
theorem d_X12_one_350 : decode (mC M_X12_one) 350 = .ok (.getfield 17, 3) := by decide +kernel
theorem d_X12_one_353 : decode (mC M_X12_one) 353 = .ok (.aload_n 0, 1) := by decide +kernel
theorem d_X12_one_354 : decode (mC M_X12_one) 354 = .ok (.getfield 267, 3) := by decide +kernel
theorem d_X12_one_357 : decode (mC M_X12_one) 357 = .ok (.iaload, 1) := by decide +kernel
theorem d_X12_one_358 : decode (mC M_X12_one) 358 = .ok (.istore 6, 2) := by decide +kernel
theorem d_X12_one_360 : decode (mC M_X12_one) 360 = .ok (.iload 4, 2) := by decide +kernel
theorem d_X12_one_362 : decode (mC M_X12_one) 362 = .ok (.ifCond .eq 18, 3) := by decide +kernel
theorem d_X12_one_365 : decode (mC M_X12_one) 365 = .ok (.iload 6, 2) := by decide +kernel
theorem d_X12_one_367 : decode (mC M_X12_one) 367 = .ok (.iload 5, 2) := by decide +kernel
theorem d_X12_one_369 : decode (mC M_X12_one) 369 = .ok (.if_icmp .ge 7, 3) := by decide +kernel
theorem d_X12_one_372 : decode (mC M_X12_one) 372 = .ok (.iconst 1, 1) := by decide +kernel
theorem d_X12_one_373 : decode (mC M_X12_one) 373 = .ok (.goto 19, 3) := by decide +kernel
theorem d_X12_one_376 : decode (mC M_X12_one) 376 = .ok (.iconst 0, 1) := by decide +kernel
theorem d_X12_one_377 : decode (mC M_X12_one) 377 = .ok (.goto 15, 3) := by decide +kernel
theorem d_X12_one_380 : decode (mC M_X12_one) 380 = .ok (.iload 6, 2) := by decide +kernel
theorem d_X12_one_382 : decode (mC M_X12_one) 382 = .ok (.iload 5, 2) := by decide +kernel
theorem d_X12_one_384 : decode (mC M_X12_one) 384 = .ok (.if_icmp .le 7, 3) := by decide +kernel
theorem d_X12_one_387 : decode (mC M_X12_one) 387 = .ok (.iconst 1, 1) := by decide +kernel
theorem d_X12_one_388 : decode (mC M_X12_one) 388 = .ok (.goto 4, 3) := by decide +kernel
theorem d_X12_one_391 : decode (mC M_X12_one) 391 = .ok (.iconst 0, 1) := by decide +kernel
theorem d_X12_one_392 : decode (mC M_X12_one) 392 = .ok (.ireturn, 1) := by decide +kernel
theorem d_X12_pay_0 : decode (mC M_X12_pay) 0 = .ok (.aload_n 0, 1) := by decide +kernel
theorem d_X12_pay_1 : decode (mC M_X12_pay) 1 = .ok (.iconst 0, 1) := by decide +kernel
theorem d_X12_pay_2 : decode (mC M_X12_pay) 2 = .ok (.putfield 1, 3) := by decide +kernel
theorem d_X12_pay_5 : decode (mC M_X12_pay) 5 = .ok (.lconst 0, 1) := by decide +kernel
theorem d_X12_pay_6 : decode (mC M_X12_pay) 6 = .ok (.lstore 4, 2) := by decide +kernel
theorem d_X12_pay_8 : decode (mC M_X12_pay) 8 = .ok (.iconst 0, 1) := by decide +kernel
theorem d_X12_pay_9 : decode (mC M_X12_pay) 9 = .ok (.istore 6, 2) := by decide +kernel
theorem d_X12_pay_11 : decode (mC M_X12_pay) 11 = .ok (.iload 6, 2) := by decide +kernel
theorem d_X12_pay_13 : decode (mC M_X12_pay) 13 = .ok (.aload_n 0, 1) := by decide +kernel
theorem d_X12_pay_14 : decode (mC M_X12_pay) 14 = .ok (.getfield 304, 3) := by decide +kernel
theorem d_X12_pay_17 : decode (mC M_X12_pay) 17 = .ok (.if_icmp .ge 77, 3) := by decide +kernel
theorem d_X12_pay_20 : decode (mC M_X12_pay) 20 = .ok (.iload 6, 2) := by decide +kernel
theorem d_X12_pay_22 : decode (mC M_X12_pay) 22 = .ok (.iload_n 2, 1) := by decide +kernel
theorem d_X12_pay_23 : decode (mC M_X12_pay) 23 = .ok (.if_icmp .lt 65, 3) := by decide +kernel
theorem d_X12_pay_26 : decode (mC M_X12_pay) 26 = .ok (.iload 6, 2) := by decide +kernel
theorem d_X12_pay_28 : decode (mC M_X12_pay) 28 = .ok (.iload_n 3, 1) := by decide +kernel
theorem d_X12_pay_29 : decode (mC M_X12_pay) 29 = .ok (.if_icmp .gt 59, 3) := by decide +kernel
theorem d_X12_pay_32 : decode (mC M_X12_pay) 32 = .ok (.aload_n 0, 1) := by decide +kernel
theorem d_X12_pay_33 : decode (mC M_X12_pay) 33 = .ok (.iload_n 1, 1) := by decide +kernel
theorem d_X12_pay_34 : decode (mC M_X12_pay) 34 = .ok (.iload 6, 2) := by decide +kernel
theorem d_X12_pay_36 : decode (mC M_X12_pay) 36 = .ok (.invokevirtual 378, 3) := by decide +kernel
theorem d_X12_pay_39 : decode (mC M_X12_pay) 39 = .ok (.ifCond .eq 49, 3) := by decide +kernel
theorem d_X12_pay_42 : decode (mC M_X12_pay) 42 = .ok (.lload 4, 2) := by decide +kernel
theorem d_X12_pay_44 : decode (mC M_X12_pay) 44 = .ok (.aload_n 0, 1) := by decide +kernel
theorem d_X12_pay_45 : decode (mC M_X12_pay) 45 = .ok (.aload_n 0, 1) := by decide +kernel
theorem d_X12_pay_46 : decode (mC M_X12_pay) 46 = .ok (.getfield 133, 3) := by decide +kernel
theorem d_X12_pay_49 : decode (mC M_X12_pay) 49 = .ok (.bipush 40, 2) := by decide +kernel
theorem d_X12_pay_51 : decode (mC M_X12_pay) 51 = .ok (.iload 6, 2) := by decide +kernel
theorem d_X12_pay_53 : decode (mC M_X12_pay) 53 = .ok (.imul, 1) := by decide +kernel
theorem d_X12_pay_54 : decode (mC M_X12_pay) 54 = .ok (.iload_n 1, 1) := by decide +kernel
theorem d_X12_pay_55 : decode (mC M_X12_pay) 55 = .ok (.iadd, 1) := by decide +kernel
theorem d_X12_pay_56 : decode (mC M_X12_pay) 56 = .ok (.iaload, 1) := by decide +kernel
theorem d_X12_pay_57 : decode (mC M_X12_pay) 57 = .ok (.aload_n 0, 1) := by decide +kernel
theorem d_X12_pay_58 : decode (mC M_X12_pay) 58 = .ok (.getfield 121, 3) := by decide +kernel
theorem d_X12_pay_61 : decode (mC M_X12_pay) 61 = .ok (.bipush 40, 2) := by decide +kernel
theorem d_X12_pay_63 : decode (mC M_X12_pay) 63 = .ok (.iload 6, 2) := by decide +kernel
theorem d_X12_pay_65 : decode (mC M_X12_pay) 65 = .ok (.imul, 1) := by decide +kernel
theorem d_X12_pay_66 : decode (mC M_X12_pay) 66 = .ok (.iload_n 1, 1) := by decide +kernel
theorem d_X12_pay_67 : decode (mC M_X12_pay) 67 = .ok (.iadd, 1) := by decide +kernel
theorem d_X12_pay_68 : decode (mC M_X12_pay) 68 = .ok (.iaload, 1) := by decide +kernel
theorem d_X12_pay_69 : decode (mC M_X12_pay) 69 = .ok (.aload_n 0, 1) := by decide +kernel
theorem d_X12_pay_70 : decode (mC M_X12_pay) 70 = .ok (.getfield 130, 3) := by decide +kernel
theorem d_X12_pay_73 : decode (mC M_X12_pay) 73 = .ok (.bipush 40, 2) := by decide +kernel
theorem d_X12_pay_75 : decode (mC M_X12_pay) 75 = .ok (.iload 6, 2) := by decide +kernel
theorem d_X12_pay_77 : decode (mC M_X12_pay) 77 = .ok (.imul, 1) := by decide +kernel
theorem d_X12_pay_78 : decode (mC M_X12_pay) 78 = .ok (.iload_n 1, 1) := by decide +kernel
theorem d_X12_pay_79 : decode (mC M_X12_pay) 79 = .ok (.iadd, 1) := by decide +kernel
theorem d_X12_pay_80 : decode (mC M_X12_pay) 80 = .ok (.iaload, 1) := by decide +kernel
theorem d_X12_pay_81 : decode (mC M_X12_pay) 81 = .ok (.invokevirtual 381, 3) := by decide +kernel
theorem d_X12_pay_84 : decode (mC M_X12_pay) 84 = .ok (.i2l, 1) := by decide +kernel
theorem d_X12_pay_85 : decode (mC M_X12_pay) 85 = .ok (.ladd, 1) := by decide +kernel
theorem d_X12_pay_86 : decode (mC M_X12_pay) 86 = .ok (.lstore 4, 2) := by decide +kernel
theorem d_X12_pay_88 : decode (mC M_X12_pay) 88 = .ok (.iinc 6 1, 3) := by decide +kernel
theorem d_X12_pay_91 : decode (mC M_X12_pay) 91 = .ok (.goto (-80), 3) := by decide +kernel
theorem d_X12_pay_94 : decode (mC M_X12_pay) 94 = .ok (.lload 4, 2) := by decide +kernel
theorem d_X12_pay_96 : decode (mC M_X12_pay) 96 = .ok (.lreturn, 1) := by decide +kernel
theorem d_X12_person_0 : decode (mC M_X12_person) 0 = .ok (.aload_n 0, 1) := by decide +kernel
theorem d_X12_person_1 : decode (mC M_X12_person) 1 = .ok (.iconst 0, 1) := by decide +kernel
theorem d_X12_person_2 : decode (mC M_X12_person) 2 = .ok (.putfield 1, 3) := by decide +kernel
theorem d_X12_person_5 : decode (mC M_X12_person) 5 = .ok (.aload_n 0, 1) := by decide +kernel
theorem d_X12_person_6 : decode (mC M_X12_person) 6 = .ok (.getfield 151, 3) := by decide +kernel
theorem d_X12_person_9 : decode (mC M_X12_person) 9 = .ok (.bipush 40, 2) := by decide +kernel
theorem d_X12_person_11 : decode (mC M_X12_person) 11 = .ok (.if_icmp .eq 56, 3) := by decide +kernel
theorem d_X12_person_14 : decode (mC M_X12_person) 14 = .ok (.iload_n 1, 1) := by decide +kernel
theorem d_X12_person_15 : decode (mC M_X12_person) 15 = .ok (.iconst 0, 1) := by decide +kernel
theorem d_X12_person_16 : decode (mC M_X12_person) 16 = .ok (.bipush 99, 2) := by decide +kernel
theorem d_X12_person_18 : decode (mC M_X12_person) 18 = .ok (.invokestatic 154, 3) := by decide +kernel
theorem d_X12_person_21 : decode (mC M_X12_person) 21 = .ok (.ifCond .eq 46, 3) := by decide +kernel
theorem d_X12_person_24 : decode (mC M_X12_person) 24 = .ok (.iload_n 2, 1) := by decide +kernel
theorem d_X12_person_25 : decode (mC M_X12_person) 25 = .ok (.bipush 50, 2) := by decide +kernel
theorem d_X12_person_27 : decode (mC M_X12_person) 27 = .ok (.sipush 230, 3) := by decide +kernel
theorem d_X12_person_30 : decode (mC M_X12_person) 30 = .ok (.invokestatic 154, 3) := by decide +kernel
theorem d_X12_person_33 : decode (mC M_X12_person) 33 = .ok (.ifCond .eq 34, 3) := by decide +kernel
theorem d_X12_person_36 : decode (mC M_X12_person) 36 = .ok (.iload_n 3, 1) := by decide +kernel
theorem d_X12_person_37 : decode (mC M_X12_person) 37 = .ok (.iconst 0, 1) := by decide +kernel
theorem d_X12_person_38 : decode (mC M_X12_person) 38 = .ok (.ldc 158, 2) := by decide +kernel
theorem d_X12_person_40 : decode (mC M_X12_person) 40 = .ok (.invokestatic 154, 3) := by decide +kernel
theorem d_X12_person_43 : decode (mC M_X12_person) 43 = .ok (.ifCond .eq 24, 3) := by decide +kernel
theorem d_X12_person_46 : decode (mC M_X12_person) 46 = .ok (.iload 4, 2) := by decide +kernel
theorem d_X12_person_48 : decode (mC M_X12_person) 48 = .ok (.iconst 0, 1) := by decide +kernel
theorem d_X12_person_49 : decode (mC M_X12_person) 49 = .ok (.iconst 3, 1) := by decide +kernel
theorem d_X12_person_50 : decode (mC M_X12_person) 50 = .ok (.invokestatic 154, 3) := by decide +kernel
theorem d_X12_person_53 : decode (mC M_X12_person) 53 = .ok (.ifCond .eq 14, 3) := by decide +kernel
theorem d_X12_person_56 : decode (mC M_X12_person) 56 = .ok (.iload 5, 2) := by decide +kernel
theorem d_X12_person_58 : decode (mC M_X12_person) 58 = .ok (.iconst 1, 1) := by decide +kernel
theorem d_X12_person_59 : decode (mC M_X12_person) 59 = .ok (.bipush 30, 2) := by decide +kernel
theorem d_X12_person_61 : decode (mC M_X12_person) 61 = .ok (.invokestatic 154, 3) := by decide +kernel
theorem d_X12_person_64 : decode (mC M_X12_person) 64 = .ok (.ifCond .ne 5, 3) := by decide +kernel
theorem d_X12_person_67 : decode (mC M_X12_person) 67 = .ok (.iconst (-1), 1) := by decide +kernel
theorem d_X12_person_68 : decode (mC M_X12_person) 68 = .ok (.ireturn, 1) := by decide +kernel
theorem d_X12_person_69 : decode (mC M_X12_person) 69 = .ok (.aload_n 0, 1) := by decide +kernel
theorem d_X12_person_70 : decode (mC M_X12_person) 70 = .ok (.getfield 13, 3) := by decide +kernel
theorem d_X12_person_73 : decode (mC M_X12_person) 73 = .ok (.aload_n 0, 1) := by decide +kernel
theorem d_X12_person_74 : decode (mC M_X12_person) 74 = .ok (.getfield 151, 3) := by decide +kernel
theorem d_X12_person_77 : decode (mC M_X12_person) 77 = .ok (.iload_n 1, 1) := by decide +kernel
theorem d_X12_person_78 : decode (mC M_X12_person) 78 = .ok (.iastore, 1) := by decide +kernel
theorem d_X12_person_79 : decode (mC M_X12_person) 79 = .ok (.aload_n 0, 1) := by decide +kernel
theorem d_X12_person_80 : decode (mC M_X12_person) 80 = .ok (.getfield 17, 3) := by decide +kernel
theorem d_X12_person_83 : decode (mC M_X12_person) 83 = .ok (.aload_n 0, 1) := by decide +kernel
theorem d_X12_person_84 : decode (mC M_X12_person) 84 = .ok (.getfield 151, 3) := by decide +kernel
theorem d_X12_person_87 : decode (mC M_X12_person) 87 = .ok (.iload_n 2, 1) := by decide +kernel
theorem d_X12_person_88 : decode (mC M_X12_person) 88 = .ok (.iastore, 1) := by decide +kernel
theorem d_X12_person_89 : decode (mC M_X12_person) 89 = .ok (.aload_n 0, 1) := by decide +kernel
theorem d_X12_person_90 : decode (mC M_X12_person) 90 = .ok (.getfield 20, 3) := by decide +kernel
theorem d_X12_person_93 : decode (mC M_X12_person) 93 = .ok (.aload_n 0, 1) := by decide +kernel
theorem d_X12_person_94 : decode (mC M_X12_person) 94 = .ok (.getfield 151, 3) := by decide +kernel
theorem d_X12_person_97 : decode (mC M_X12_person) 97 = .ok (.iload_n 3, 1) := by decide +kernel
theorem d_X12_person_98 : decode (mC M_X12_person) 98 = .ok (.iastore, 1) := by decide +kernel
theorem d_X12_person_99 : decode (mC M_X12_person) 99 = .ok (.aload_n 0, 1) := by decide +kernel
theorem d_X12_person_100 : decode (mC M_X12_person) 100 = .ok (.getfield 23, 3) := by decide +kernel
theorem d_X12_person_103 : decode (mC M_X12_person) 103 = .ok (.aload_n 0, 1) := by decide +kernel
theorem d_X12_person_104 : decode (mC M_X12_person) 104 = .ok (.getfield 151, 3) := by decide +kernel
theorem d_X12_person_107 : decode (mC M_X12_person) 107 = .ok (.iload 4, 2) := by decide +kernel
theorem d_X12_person_109 : decode (mC M_X12_person) 109 = .ok (.iastore, 1) := by decide +kernel
theorem d_X12_person_110 : decode (mC M_X12_person) 110 = .ok (.aload_n 0, 1) := by decide +kernel
theorem d_X12_person_111 : decode (mC M_X12_person) 111 = .ok (.getfield 26, 3) := by decide +kernel
theorem d_X12_person_114 : decode (mC M_X12_person) 114 = .ok (.aload_n 0, 1) := by decide +kernel
theorem d_X12_person_115 : decode (mC M_X12_person) 115 = .ok (.getfield 151, 3) := by decide +kernel
theorem d_X12_person_118 : decode (mC M_X12_person) 118 = .ok (.iload 5, 2) := by decide +kernel
theorem d_X12_person_120 : decode (mC M_X12_person) 120 = .ok (.iastore, 1) := by decide +kernel
theorem d_X12_person_121 : decode (mC M_X12_person) 121 = .ok (.aload_n 0, 1) := by decide +kernel
theorem d_X12_person_122 : decode (mC M_X12_person) 122 = .ok (.getfield 39, 3) := by decide +kernel
theorem d_X12_person_125 : decode (mC M_X12_person) 125 = .ok (.aload_n 0, 1) := by decide +kernel
theorem d_X12_person_126 : decode (mC M_X12_person) 126 = .ok (.getfield 151, 3) := by decide +kernel
theorem d_X12_person_129 : decode (mC M_X12_person) 129 = .ok (.iconst (-1), 1) := by decide +kernel
theorem d_X12_person_130 : decode (mC M_X12_person) 130 = .ok (.iastore, 1) := by decide +kernel
theorem d_X12_person_131 : decode (mC M_X12_person) 131 = .ok (.aload_n 0, 1) := by decide +kernel
theorem d_X12_person_132 : decode (mC M_X12_person) 132 = .ok (.dup, 1) := by decide +kernel
theorem d_X12_person_133 : decode (mC M_X12_person) 133 = .ok (.getfield 151, 3) := by decide +kernel
theorem d_X12_person_136 : decode (mC M_X12_person) 136 = .ok (.iconst 1, 1) := by decide +kernel
theorem d_X12_person_137 : decode (mC M_X12_person) 137 = .ok (.iadd, 1) := by decide +kernel
theorem d_X12_person_138 : decode (mC M_X12_person) 138 = .ok (.putfield 151, 3) := by decide +kernel
theorem d_X12_person_141 : decode (mC M_X12_person) 141 = .ok (.aload_n 0, 1) := by decide +kernel
theorem d_X12_person_142 : decode (mC M_X12_person) 142 = .ok (.getfield 151, 3) := by decide +kernel
theorem d_X12_person_145 : decode (mC M_X12_person) 145 = .ok (.iconst 1, 1) := by decide +kernel
theorem d_X12_person_146 : decode (mC M_X12_person) 146 = .ok (.isub, 1) := by decide +kernel
theorem d_X12_person_147 : decode (mC M_X12_person) 147 = .ok (.ireturn, 1) := by decide +kernel
theorem d_X12_place_0 : decode (mC M_X12_place) 0 = .ok (.aload_n 0, 1) := by decide +kernel
theorem d_X12_place_1 : decode (mC M_X12_place) 1 = .ok (.iconst 0, 1) := by decide +kernel
theorem d_X12_place_2 : decode (mC M_X12_place) 2 = .ok (.putfield 1, 3) := by decide +kernel
theorem d_X12_place_5 : decode (mC M_X12_place) 5 = .ok (.aload_n 0, 1) := by decide +kernel
theorem d_X12_place_6 : decode (mC M_X12_place) 6 = .ok (.getfield 52, 3) := by decide +kernel
theorem d_X12_place_9 : decode (mC M_X12_place) 9 = .ok (.ireturn, 1) := by decide +kernel
theorem d_X12_quarters_0 : decode (mC M_X12_quarters) 0 = .ok (.iload_n 0, 1) := by decide +kernel
theorem d_X12_quarters_1 : decode (mC M_X12_quarters) 1 = .ok (.ifCond .gt 7, 3) := by decide +kernel
theorem d_X12_quarters_4 : decode (mC M_X12_quarters) 4 = .ok (.iconst 0, 1) := by decide +kernel
theorem d_X12_quarters_5 : decode (mC M_X12_quarters) 5 = .ok (.goto 21, 3) := by decide +kernel
theorem d_X12_quarters_8 : decode (mC M_X12_quarters) 8 = .ok (.iload_n 1, 1) := by decide +kernel
theorem d_X12_quarters_9 : decode (mC M_X12_quarters) 9 = .ok (.ifCond .eq 13, 3) := by decide +kernel
theorem d_X12_quarters_12 : decode (mC M_X12_quarters) 12 = .ok (.iload_n 0, 1) := by decide +kernel
theorem d_X12_quarters_13 : decode (mC M_X12_quarters) 13 = .ok (.bipush 14, 2) := by decide +kernel
theorem d_X12_quarters_15 : decode (mC M_X12_quarters) 15 = .ok (.iadd, 1) := by decide +kernel
theorem d_X12_quarters_16 : decode (mC M_X12_quarters) 16 = .ok (.bipush 15, 2) := by decide +kernel
theorem d_X12_quarters_18 : decode (mC M_X12_quarters) 18 = .ok (.idiv, 1) := by decide +kernel
theorem d_X12_quarters_19 : decode (mC M_X12_quarters) 19 = .ok (.goto 7, 3) := by decide +kernel
theorem d_X12_quarters_22 : decode (mC M_X12_quarters) 22 = .ok (.iload_n 0, 1) := by decide +kernel
theorem d_X12_quarters_23 : decode (mC M_X12_quarters) 23 = .ok (.bipush 15, 2) := by decide +kernel
theorem d_X12_quarters_25 : decode (mC M_X12_quarters) 25 = .ok (.idiv, 1) := by decide +kernel
theorem d_X12_quarters_26 : decode (mC M_X12_quarters) 26 = .ok (.ireturn, 1) := by decide +kernel
theorem d_X12_readAsk_0 : decode (mC M_X12_readAsk) 0 = .ok (.aload_n 0, 1) := by decide +kernel
theorem d_X12_readAsk_1 : decode (mC M_X12_readAsk) 1 = .ok (.ldc_w 276, 3) := by decide +kernel
theorem d_X12_readAsk_4 : decode (mC M_X12_readAsk) 4 = .ok (.invokevirtual 234, 3) := by decide +kernel
theorem d_X12_readAsk_7 : decode (mC M_X12_readAsk) 7 = .ok (.ifCond .ne 9, 3) := by decide +kernel
theorem d_X12_readAsk_10 : decode (mC M_X12_readAsk) 10 = .ok (.aload_n 0, 1) := by decide +kernel
theorem d_X12_readAsk_11 : decode (mC M_X12_readAsk) 11 = .ok (.iconst 1, 1) := by decide +kernel
theorem d_X12_readAsk_12 : decode (mC M_X12_readAsk) 12 = .ok (.invokevirtual 230, 3) := by decide +kernel
theorem d_X12_readAsk_15 : decode (mC M_X12_readAsk) 15 = .ok (.return_, 1) := by decide +kernel
theorem d_X12_readAsk_16 : decode (mC M_X12_readAsk) 16 = .ok (.aload_n 0, 1) := by decide +kernel
theorem d_X12_readAsk_17 : decode (mC M_X12_readAsk) 17 = .ok (.getfield 277, 3) := by decide +kernel
theorem d_X12_readAsk_20 : decode (mC M_X12_readAsk) 20 = .ok (.bipush 6, 2) := by decide +kernel
theorem d_X12_readAsk_22 : decode (mC M_X12_readAsk) 22 = .ok (.if_icmp .ne 9, 3) := by decide +kernel
theorem d_X12_readAsk_25 : decode (mC M_X12_readAsk) 25 = .ok (.aload_n 0, 1) := by decide +kernel
theorem d_X12_readAsk_26 : decode (mC M_X12_readAsk) 26 = .ok (.iconst 2, 1) := by decide +kernel
theorem d_X12_readAsk_27 : decode (mC M_X12_readAsk) 27 = .ok (.invokevirtual 230, 3) := by decide +kernel
theorem d_X12_readAsk_30 : decode (mC M_X12_readAsk) 30 = .ok (.return_, 1) := by decide +kernel
theorem d_X12_readAsk_31 : decode (mC M_X12_readAsk) 31 = .ok (.aload_n 0, 1) := by decide +kernel
theorem d_X12_readAsk_32 : decode (mC M_X12_readAsk) 32 = .ok (.getfield 277, 3) := by decide +kernel
theorem d_X12_readAsk_35 : decode (mC M_X12_readAsk) 35 = .ok (.istore_n 1, 1) := by decide +kernel
theorem d_X12_readAsk_36 : decode (mC M_X12_readAsk) 36 = .ok (.aload_n 0, 1) := by decide +kernel
theorem d_X12_readAsk_37 : decode (mC M_X12_readAsk) 37 = .ok (.invokevirtual 208, 3) := by decide +kernel
theorem d_X12_readAsk_40 : decode (mC M_X12_readAsk) 40 = .ok (.aload_n 0, 1) := by decide +kernel
theorem d_X12_readAsk_41 : decode (mC M_X12_readAsk) 41 = .ok (.getfield 73, 3) := by decide +kernel
theorem d_X12_readAsk_44 : decode (mC M_X12_readAsk) 44 = .ok (.iload_n 1, 1) := by decide +kernel
theorem d_X12_readAsk_45 : decode (mC M_X12_readAsk) 45 = .ok (.aload_n 0, 1) := by decide +kernel
theorem d_X12_readAsk_46 : decode (mC M_X12_readAsk) 46 = .ok (.iconst 0, 1) := by decide +kernel
theorem d_X12_readAsk_47 : decode (mC M_X12_readAsk) 47 = .ok (.bipush 19, 2) := by decide +kernel
theorem d_X12_readAsk_49 : decode (mC M_X12_readAsk) 49 = .ok (.invokevirtual 260, 3) := by decide +kernel
theorem d_X12_readAsk_52 : decode (mC M_X12_readAsk) 52 = .ok (.iastore, 1) := by decide +kernel
theorem d_X12_readAsk_53 : decode (mC M_X12_readAsk) 53 = .ok (.aload_n 0, 1) := by decide +kernel
theorem d_X12_readAsk_54 : decode (mC M_X12_readAsk) 54 = .ok (.ldc_w 280, 3) := by decide +kernel
theorem d_X12_readAsk_57 : decode (mC M_X12_readAsk) 57 = .ok (.invokevirtual 281, 3) := by decide +kernel
theorem d_X12_readAsk_60 : decode (mC M_X12_readAsk) 60 = .ok (.aload_n 0, 1) := by decide +kernel
theorem d_X12_readAsk_61 : decode (mC M_X12_readAsk) 61 = .ok (.getfield 76, 3) := by decide +kernel
theorem d_X12_readAsk_64 : decode (mC M_X12_readAsk) 64 = .ok (.iload_n 1, 1) := by decide +kernel
theorem d_X12_readAsk_65 : decode (mC M_X12_readAsk) 65 = .ok (.aload_n 0, 1) := by decide +kernel
theorem d_X12_readAsk_66 : decode (mC M_X12_readAsk) 66 = .ok (.iconst 0, 1) := by decide +kernel
theorem d_X12_readAsk_67 : decode (mC M_X12_readAsk) 67 = .ok (.sipush 1439, 3) := by decide +kernel
theorem d_X12_readAsk_70 : decode (mC M_X12_readAsk) 70 = .ok (.invokevirtual 260, 3) := by decide +kernel
theorem d_X12_readAsk_73 : decode (mC M_X12_readAsk) 73 = .ok (.iastore, 1) := by decide +kernel
theorem d_X12_readAsk_74 : decode (mC M_X12_readAsk) 74 = .ok (.aload_n 0, 1) := by decide +kernel
theorem d_X12_readAsk_75 : decode (mC M_X12_readAsk) 75 = .ok (.ldc_w 284, 3) := by decide +kernel
theorem d_X12_readAsk_78 : decode (mC M_X12_readAsk) 78 = .ok (.invokevirtual 281, 3) := by decide +kernel
theorem d_X12_readAsk_81 : decode (mC M_X12_readAsk) 81 = .ok (.aload_n 0, 1) := by decide +kernel
theorem d_X12_readAsk_82 : decode (mC M_X12_readAsk) 82 = .ok (.getfield 79, 3) := by decide +kernel
theorem d_X12_readAsk_85 : decode (mC M_X12_readAsk) 85 = .ok (.iload_n 1, 1) := by decide +kernel
theorem d_X12_readAsk_86 : decode (mC M_X12_readAsk) 86 = .ok (.aload_n 0, 1) := by decide +kernel
theorem d_X12_readAsk_87 : decode (mC M_X12_readAsk) 87 = .ok (.iconst 1, 1) := by decide +kernel
theorem d_X12_readAsk_88 : decode (mC M_X12_readAsk) 88 = .ok (.sipush 600, 3) := by decide +kernel
theorem d_X12_readAsk_91 : decode (mC M_X12_readAsk) 91 = .ok (.invokevirtual 260, 3) := by decide +kernel
theorem d_X12_readAsk_94 : decode (mC M_X12_readAsk) 94 = .ok (.iastore, 1) := by decide +kernel
theorem d_X12_readAsk_95 : decode (mC M_X12_readAsk) 95 = .ok (.aload_n 0, 1) := by decide +kernel
theorem d_X12_readAsk_96 : decode (mC M_X12_readAsk) 96 = .ok (.ldc_w 286, 3) := by decide +kernel
theorem d_X12_readAsk_99 : decode (mC M_X12_readAsk) 99 = .ok (.invokevirtual 281, 3) := by decide +kernel
theorem d_X12_readAsk_102 : decode (mC M_X12_readAsk) 102 = .ok (.aload_n 0, 1) := by decide +kernel
theorem d_X12_readAsk_103 : decode (mC M_X12_readAsk) 103 = .ok (.getfield 82, 3) := by decide +kernel
theorem d_X12_readAsk_106 : decode (mC M_X12_readAsk) 106 = .ok (.iload_n 1, 1) := by decide +kernel
theorem d_X12_readAsk_107 : decode (mC M_X12_readAsk) 107 = .ok (.aload_n 0, 1) := by decide +kernel
theorem d_X12_readAsk_108 : decode (mC M_X12_readAsk) 108 = .ok (.iconst 1, 1) := by decide +kernel
theorem d_X12_readAsk_109 : decode (mC M_X12_readAsk) 109 = .ok (.bipush 8, 2) := by decide +kernel
theorem d_X12_readAsk_111 : decode (mC M_X12_readAsk) 111 = .ok (.invokevirtual 260, 3) := by decide +kernel
theorem d_X12_readAsk_114 : decode (mC M_X12_readAsk) 114 = .ok (.iastore, 1) := by decide +kernel
theorem d_X12_readAsk_115 : decode (mC M_X12_readAsk) 115 = .ok (.aload_n 0, 1) := by decide +kernel
theorem d_X12_readAsk_116 : decode (mC M_X12_readAsk) 116 = .ok (.getfield 221, 3) := by decide +kernel
theorem d_X12_readAsk_119 : decode (mC M_X12_readAsk) 119 = .ok (.ifCond .ne 17, 3) := by decide +kernel
theorem d_X12_readAsk_122 : decode (mC M_X12_readAsk) 122 = .ok (.aload_n 0, 1) := by decide +kernel
theorem d_X12_readAsk_123 : decode (mC M_X12_readAsk) 123 = .ok (.bipush 58, 2) := by decide +kernel
theorem d_X12_readAsk_125 : decode (mC M_X12_readAsk) 125 = .ok (.invokevirtual 227, 3) := by decide +kernel
theorem d_X12_readAsk_128 : decode (mC M_X12_readAsk) 128 = .ok (.ifCond .ne 8, 3) := by decide +kernel
theorem d_X12_readAsk_131 : decode (mC M_X12_readAsk) 131 = .ok (.aload_n 0, 1) := by decide +kernel
theorem d_X12_readAsk_132 : decode (mC M_X12_readAsk) 132 = .ok (.iconst 1, 1) := by decide +kernel
theorem d_X12_readAsk_133 : decode (mC M_X12_readAsk) 133 = .ok (.invokevirtual 230, 3) := by decide +kernel
theorem d_X12_readAsk_136 : decode (mC M_X12_readAsk) 136 = .ok (.aload_n 0, 1) := by decide +kernel
theorem d_X12_readAsk_137 : decode (mC M_X12_readAsk) 137 = .ok (.getfield 221, 3) := by decide +kernel
theorem d_X12_readAsk_140 : decode (mC M_X12_readAsk) 140 = .ok (.ifCond .eq 4, 3) := by decide +kernel
theorem d_X12_readAsk_143 : decode (mC M_X12_readAsk) 143 = .ok (.return_, 1) := by decide +kernel
theorem d_X12_readAsk_144 : decode (mC M_X12_readAsk) 144 = .ok (.aload_n 0, 1) := by decide +kernel
theorem d_X12_readAsk_145 : decode (mC M_X12_readAsk) 145 = .ok (.getfield 85, 3) := by decide +kernel
theorem d_X12_readAsk_148 : decode (mC M_X12_readAsk) 148 = .ok (.iload_n 1, 1) := by decide +kernel
theorem d_X12_readAsk_149 : decode (mC M_X12_readAsk) 149 = .ok (.aload_n 0, 1) := by decide +kernel
theorem d_X12_readAsk_150 : decode (mC M_X12_readAsk) 150 = .ok (.getfield 186, 3) := by decide +kernel
theorem d_X12_readAsk_153 : decode (mC M_X12_readAsk) 153 = .ok (.iastore, 1) := by decide +kernel
theorem d_X12_readAsk_154 : decode (mC M_X12_readAsk) 154 = .ok (.aload_n 0, 1) := by decide +kernel
theorem d_X12_readAsk_155 : decode (mC M_X12_readAsk) 155 = .ok (.invokevirtual 208, 3) := by decide +kernel
theorem d_X12_readAsk_158 : decode (mC M_X12_readAsk) 158 = .ok (.aload_n 0, 1) := by decide +kernel
theorem d_X12_readAsk_159 : decode (mC M_X12_readAsk) 159 = .ok (.iconst 0, 1) := by decide +kernel
theorem d_X12_readAsk_160 : decode (mC M_X12_readAsk) 160 = .ok (.invokevirtual 250, 3) := by decide +kernel
theorem d_X12_readAsk_163 : decode (mC M_X12_readAsk) 163 = .ok (.pop, 1) := by decide +kernel
theorem d_X12_readAsk_164 : decode (mC M_X12_readAsk) 164 = .ok (.aload_n 0, 1) := by decide +kernel
theorem d_X12_readAsk_165 : decode (mC M_X12_readAsk) 165 = .ok (.bipush 59, 2) := by decide +kernel
theorem d_X12_readAsk_167 : decode (mC M_X12_readAsk) 167 = .ok (.invokevirtual 253, 3) := by decide +kernel
theorem d_X12_readAsk_170 : decode (mC M_X12_readAsk) 170 = .ok (.aload_n 0, 1) := by decide +kernel
theorem d_X12_readAsk_171 : decode (mC M_X12_readAsk) 171 = .ok (.dup, 1) := by decide +kernel
theorem d_X12_readAsk_172 : decode (mC M_X12_readAsk) 172 = .ok (.getfield 277, 3) := by decide +kernel
theorem d_X12_readAsk_175 : decode (mC M_X12_readAsk) 175 = .ok (.iconst 1, 1) := by decide +kernel
theorem d_X12_readAsk_176 : decode (mC M_X12_readAsk) 176 = .ok (.iadd, 1) := by decide +kernel
theorem d_X12_readAsk_177 : decode (mC M_X12_readAsk) 177 = .ok (.putfield 277, 3) := by decide +kernel
theorem d_X12_readAsk_180 : decode (mC M_X12_readAsk) 180 = .ok (.return_, 1) := by decide +kernel
theorem d_X12_readTerm_0 : decode (mC M_X12_readTerm) 0 = .ok (.aload_n 0, 1) := by decide +kernel
theorem d_X12_readTerm_1 : decode (mC M_X12_readTerm) 1 = .ok (.ldc_w 337, 3) := by decide +kernel
theorem d_X12_readTerm_4 : decode (mC M_X12_readTerm) 4 = .ok (.invokevirtual 234, 3) := by decide +kernel
theorem d_X12_readTerm_7 : decode (mC M_X12_readTerm) 7 = .ok (.ifCond .eq 7, 3) := by decide +kernel
theorem d_X12_readTerm_10 : decode (mC M_X12_readTerm) 10 = .ok (.iconst 0, 1) := by decide +kernel
theorem d_X12_readTerm_11 : decode (mC M_X12_readTerm) 11 = .ok (.goto 46, 3) := by decide +kernel
theorem d_X12_readTerm_14 : decode (mC M_X12_readTerm) 14 = .ok (.aload_n 0, 1) := by decide +kernel
theorem d_X12_readTerm_15 : decode (mC M_X12_readTerm) 15 = .ok (.ldc_w 339, 3) := by decide +kernel
theorem d_X12_readTerm_18 : decode (mC M_X12_readTerm) 18 = .ok (.invokevirtual 234, 3) := by decide +kernel
theorem d_X12_readTerm_21 : decode (mC M_X12_readTerm) 21 = .ok (.ifCond .eq 7, 3) := by decide +kernel
theorem d_X12_readTerm_24 : decode (mC M_X12_readTerm) 24 = .ok (.iconst 1, 1) := by decide +kernel
theorem d_X12_readTerm_25 : decode (mC M_X12_readTerm) 25 = .ok (.goto 32, 3) := by decide +kernel
theorem d_X12_readTerm_28 : decode (mC M_X12_readTerm) 28 = .ok (.aload_n 0, 1) := by decide +kernel
theorem d_X12_readTerm_29 : decode (mC M_X12_readTerm) 29 = .ok (.ldc_w 341, 3) := by decide +kernel
theorem d_X12_readTerm_32 : decode (mC M_X12_readTerm) 32 = .ok (.invokevirtual 234, 3) := by decide +kernel
theorem d_X12_readTerm_35 : decode (mC M_X12_readTerm) 35 = .ok (.ifCond .eq 7, 3) := by decide +kernel
theorem d_X12_readTerm_38 : decode (mC M_X12_readTerm) 38 = .ok (.iconst 2, 1) := by decide +kernel
theorem d_X12_readTerm_39 : decode (mC M_X12_readTerm) 39 = .ok (.goto 18, 3) := by decide +kernel
theorem d_X12_readTerm_42 : decode (mC M_X12_readTerm) 42 = .ok (.aload_n 0, 1) := by decide +kernel
theorem d_X12_readTerm_43 : decode (mC M_X12_readTerm) 43 = .ok (.ldc_w 343, 3) := by decide +kernel
theorem d_X12_readTerm_46 : decode (mC M_X12_readTerm) 46 = .ok (.invokevirtual 234, 3) := by decide +kernel
theorem d_X12_readTerm_49 : decode (mC M_X12_readTerm) 49 = .ok (.ifCond .eq 7, 3) := by decide +kernel
theorem d_X12_readTerm_52 : decode (mC M_X12_readTerm) 52 = .ok (.iconst 3, 1) := by decide +kernel
theorem d_X12_readTerm_53 : decode (mC M_X12_readTerm) 53 = .ok (.goto 4, 3) := by decide +kernel
theorem d_X12_readTerm_56 : decode (mC M_X12_readTerm) 56 = .ok (.iconst (-1), 1) := by decide +kernel
theorem d_X12_readTerm_57 : decode (mC M_X12_readTerm) 57 = .ok (.istore_n 1, 1) := by decide +kernel
theorem d_X12_readTerm_58 : decode (mC M_X12_readTerm) 58 = .ok (.iload_n 1, 1) := by decide +kernel
theorem d_X12_readTerm_59 : decode (mC M_X12_readTerm) 59 = .ok (.iconst (-1), 1) := by decide +kernel
theorem d_X12_readTerm_60 : decode (mC M_X12_readTerm) 60 = .ok (.if_icmp .ne 9, 3) := by decide +kernel
theorem d_X12_readTerm_63 : decode (mC M_X12_readTerm) 63 = .ok (.aload_n 0, 1) := by decide +kernel
theorem d_X12_readTerm_64 : decode (mC M_X12_readTerm) 64 = .ok (.iconst 1, 1) := by decide +kernel
theorem d_X12_readTerm_65 : decode (mC M_X12_readTerm) 65 = .ok (.invokevirtual 230, 3) := by decide +kernel
theorem d_X12_readTerm_68 : decode (mC M_X12_readTerm) 68 = .ok (.return_, 1) := by decide +kernel
theorem d_X12_readTerm_69 : decode (mC M_X12_readTerm) 69 = .ok (.aload_n 0, 1) := by decide +kernel
theorem d_X12_readTerm_70 : decode (mC M_X12_readTerm) 70 = .ok (.getfield 103, 3) := by decide +kernel
theorem d_X12_readTerm_73 : decode (mC M_X12_readTerm) 73 = .ok (.aload_n 0, 1) := by decide +kernel
theorem d_X12_readTerm_74 : decode (mC M_X12_readTerm) 74 = .ok (.getfield 345, 3) := by decide +kernel
theorem d_X12_readTerm_77 : decode (mC M_X12_readTerm) 77 = .ok (.iaload, 1) := by decide +kernel
theorem d_X12_readTerm_78 : decode (mC M_X12_readTerm) 78 = .ok (.bipush 8, 2) := by decide +kernel
theorem d_X12_readTerm_80 : decode (mC M_X12_readTerm) 80 = .ok (.if_icmp .ne 9, 3) := by decide +kernel
theorem d_X12_readTerm_83 : decode (mC M_X12_readTerm) 83 = .ok (.aload_n 0, 1) := by decide +kernel
theorem d_X12_readTerm_84 : decode (mC M_X12_readTerm) 84 = .ok (.iconst 2, 1) := by decide +kernel
theorem d_X12_readTerm_85 : decode (mC M_X12_readTerm) 85 = .ok (.invokevirtual 230, 3) := by decide +kernel
theorem d_X12_readTerm_88 : decode (mC M_X12_readTerm) 88 = .ok (.return_, 1) := by decide +kernel
theorem d_X12_readTerm_89 : decode (mC M_X12_readTerm) 89 = .ok (.bipush 8, 2) := by decide +kernel
theorem d_X12_readTerm_91 : decode (mC M_X12_readTerm) 91 = .ok (.aload_n 0, 1) := by decide +kernel
theorem d_X12_readTerm_92 : decode (mC M_X12_readTerm) 92 = .ok (.getfield 345, 3) := by decide +kernel
theorem d_X12_readTerm_95 : decode (mC M_X12_readTerm) 95 = .ok (.imul, 1) := by decide +kernel
theorem d_X12_readTerm_96 : decode (mC M_X12_readTerm) 96 = .ok (.aload_n 0, 1) := by decide +kernel
theorem d_X12_readTerm_97 : decode (mC M_X12_readTerm) 97 = .ok (.getfield 103, 3) := by decide +kernel
theorem d_X12_readTerm_100 : decode (mC M_X12_readTerm) 100 = .ok (.aload_n 0, 1) := by decide +kernel
theorem d_X12_readTerm_101 : decode (mC M_X12_readTerm) 101 = .ok (.getfield 345, 3) := by decide +kernel
theorem d_X12_readTerm_104 : decode (mC M_X12_readTerm) 104 = .ok (.iaload, 1) := by decide +kernel
theorem d_X12_readTerm_105 : decode (mC M_X12_readTerm) 105 = .ok (.iadd, 1) := by decide +kernel
theorem d_X12_readTerm_106 : decode (mC M_X12_readTerm) 106 = .ok (.istore_n 2, 1) := by decide +kernel
theorem d_X12_readTerm_107 : decode (mC M_X12_readTerm) 107 = .ok (.aload_n 0, 1) := by decide +kernel
theorem d_X12_readTerm_108 : decode (mC M_X12_readTerm) 108 = .ok (.invokevirtual 208, 3) := by decide +kernel
theorem d_X12_readTerm_111 : decode (mC M_X12_readTerm) 111 = .ok (.aload_n 0, 1) := by decide +kernel
theorem d_X12_readTerm_112 : decode (mC M_X12_readTerm) 112 = .ok (.getfield 106, 3) := by decide +kernel
theorem d_X12_readTerm_115 : decode (mC M_X12_readTerm) 115 = .ok (.iload_n 2, 1) := by decide +kernel
theorem d_X12_readTerm_116 : decode (mC M_X12_readTerm) 116 = .ok (.iload_n 1, 1) := by decide +kernel
theorem d_X12_readTerm_117 : decode (mC M_X12_readTerm) 117 = .ok (.iastore, 1) := by decide +kernel
theorem d_X12_readTerm_118 : decode (mC M_X12_readTerm) 118 = .ok (.aload_n 0, 1) := by decide +kernel
theorem d_X12_readTerm_119 : decode (mC M_X12_readTerm) 119 = .ok (.getfield 109, 3) := by decide +kernel
theorem d_X12_readTerm_122 : decode (mC M_X12_readTerm) 122 = .ok (.iload_n 2, 1) := by decide +kernel
theorem d_X12_readTerm_123 : decode (mC M_X12_readTerm) 123 = .ok (.iconst 0, 1) := by decide +kernel
theorem d_X12_readTerm_124 : decode (mC M_X12_readTerm) 124 = .ok (.iastore, 1) := by decide +kernel
theorem d_X12_readTerm_125 : decode (mC M_X12_readTerm) 125 = .ok (.aload_n 0, 1) := by decide +kernel
theorem d_X12_readTerm_126 : decode (mC M_X12_readTerm) 126 = .ok (.getfield 115, 3) := by decide +kernel
theorem d_X12_readTerm_129 : decode (mC M_X12_readTerm) 129 = .ok (.iload_n 2, 1) := by decide +kernel
theorem d_X12_readTerm_130 : decode (mC M_X12_readTerm) 130 = .ok (.iconst 0, 1) := by decide +kernel
theorem d_X12_readTerm_131 : decode (mC M_X12_readTerm) 131 = .ok (.bastore, 1) := by decide +kernel
theorem d_X12_readTerm_132 : decode (mC M_X12_readTerm) 132 = .ok (.iload_n 1, 1) := by decide +kernel
theorem d_X12_readTerm_133 : decode (mC M_X12_readTerm) 133 = .ok (.ifCond .le 24, 3) := by decide +kernel
theorem d_X12_readTerm_136 : decode (mC M_X12_readTerm) 136 = .ok (.aload_n 0, 1) := by decide +kernel
theorem d_X12_readTerm_137 : decode (mC M_X12_readTerm) 137 = .ok (.getfield 109, 3) := by decide +kernel
theorem d_X12_readTerm_140 : decode (mC M_X12_readTerm) 140 = .ok (.iload_n 2, 1) := by decide +kernel
theorem d_X12_readTerm_141 : decode (mC M_X12_readTerm) 141 = .ok (.aload_n 0, 1) := by decide +kernel
theorem d_X12_readTerm_142 : decode (mC M_X12_readTerm) 142 = .ok (.iconst 0, 1) := by decide +kernel
theorem d_X12_readTerm_143 : decode (mC M_X12_readTerm) 143 = .ok (.ldc_w 275, 3) := by decide +kernel
theorem d_X12_readTerm_146 : decode (mC M_X12_readTerm) 146 = .ok (.invokevirtual 260, 3) := by decide +kernel
theorem d_X12_readTerm_149 : decode (mC M_X12_readTerm) 149 = .ok (.iastore, 1) := by decide +kernel
theorem d_X12_readTerm_150 : decode (mC M_X12_readTerm) 150 = .ok (.aload_n 0, 1) := by decide +kernel
theorem d_X12_readTerm_151 : decode (mC M_X12_readTerm) 151 = .ok (.ldc_w 348, 3) := by decide +kernel
theorem d_X12_readTerm_154 : decode (mC M_X12_readTerm) 154 = .ok (.invokevirtual 281, 3) := by decide +kernel
theorem d_X12_readTerm_157 : decode (mC M_X12_readTerm) 157 = .ok (.aload_n 0, 1) := by decide +kernel
theorem d_X12_readTerm_158 : decode (mC M_X12_readTerm) 158 = .ok (.getfield 112, 3) := by decide +kernel
theorem d_X12_readTerm_161 : decode (mC M_X12_readTerm) 161 = .ok (.iload_n 2, 1) := by decide +kernel
theorem d_X12_readTerm_162 : decode (mC M_X12_readTerm) 162 = .ok (.aload_n 0, 1) := by decide +kernel
theorem d_X12_readTerm_163 : decode (mC M_X12_readTerm) 163 = .ok (.iconst 0, 1) := by decide +kernel
theorem d_X12_readTerm_164 : decode (mC M_X12_readTerm) 164 = .ok (.ldc_w 275, 3) := by decide +kernel
theorem d_X12_readTerm_167 : decode (mC M_X12_readTerm) 167 = .ok (.invokevirtual 260, 3) := by decide +kernel
theorem d_X12_readTerm_170 : decode (mC M_X12_readTerm) 170 = .ok (.iastore, 1) := by decide +kernel
theorem d_X12_readTerm_171 : decode (mC M_X12_readTerm) 171 = .ok (.iload_n 1, 1) := by decide +kernel
theorem d_X12_readTerm_172 : decode (mC M_X12_readTerm) 172 = .ok (.ifCond .le 54, 3) := by decide +kernel
theorem d_X12_readTerm_175 : decode (mC M_X12_readTerm) 175 = .ok (.aload_n 0, 1) := by decide +kernel
theorem d_X12_readTerm_176 : decode (mC M_X12_readTerm) 176 = .ok (.getfield 221, 3) := by decide +kernel
theorem d_X12_readTerm_179 : decode (mC M_X12_readTerm) 179 = .ok (.ifCond .ne 47, 3) := by decide +kernel
theorem d_X12_readTerm_182 : decode (mC M_X12_readTerm) 182 = .ok (.aload_n 0, 1) := by decide +kernel
theorem d_X12_readTerm_183 : decode (mC M_X12_readTerm) 183 = .ok (.getfield 115, 3) := by decide +kernel
theorem d_X12_readTerm_186 : decode (mC M_X12_readTerm) 186 = .ok (.iload_n 2, 1) := by decide +kernel
theorem d_X12_readTerm_187 : decode (mC M_X12_readTerm) 187 = .ok (.aload_n 0, 1) := by decide +kernel
theorem d_X12_readTerm_188 : decode (mC M_X12_readTerm) 188 = .ok (.ldc_w 350, 3) := by decide +kernel
theorem d_X12_readTerm_191 : decode (mC M_X12_readTerm) 191 = .ok (.invokevirtual 234, 3) := by decide +kernel
theorem d_X12_readTerm_194 : decode (mC M_X12_readTerm) 194 = .ok (.bastore, 1) := by decide +kernel
theorem d_X12_readTerm_195 : decode (mC M_X12_readTerm) 195 = .ok (.aload_n 0, 1) := by decide +kernel
theorem d_X12_readTerm_196 : decode (mC M_X12_readTerm) 196 = .ok (.getfield 115, 3) := by decide +kernel
theorem d_X12_readTerm_199 : decode (mC M_X12_readTerm) 199 = .ok (.iload_n 2, 1) := by decide +kernel
theorem d_X12_readTerm_200 : decode (mC M_X12_readTerm) 200 = .ok (.baload, 1) := by decide +kernel
theorem d_X12_readTerm_201 : decode (mC M_X12_readTerm) 201 = .ok (.ifCond .ne 21, 3) := by decide +kernel
theorem d_X12_readTerm_204 : decode (mC M_X12_readTerm) 204 = .ok (.aload_n 0, 1) := by decide +kernel
theorem d_X12_readTerm_205 : decode (mC M_X12_readTerm) 205 = .ok (.ldc_w 352, 3) := by decide +kernel
theorem d_X12_readTerm_208 : decode (mC M_X12_readTerm) 208 = .ok (.invokevirtual 234, 3) := by decide +kernel
theorem d_X12_readTerm_211 : decode (mC M_X12_readTerm) 211 = .ok (.ifCond .ne 11, 3) := by decide +kernel
theorem d_X12_readTerm_214 : decode (mC M_X12_readTerm) 214 = .ok (.aload_n 0, 1) := by decide +kernel
theorem d_X12_readTerm_215 : decode (mC M_X12_readTerm) 215 = .ok (.iconst 1, 1) := by decide +kernel
theorem d_X12_readTerm_216 : decode (mC M_X12_readTerm) 216 = .ok (.invokevirtual 230, 3) := by decide +kernel
theorem d_X12_readTerm_219 : decode (mC M_X12_readTerm) 219 = .ok (.goto 7, 3) := by decide +kernel
theorem d_X12_readTerm_222 : decode (mC M_X12_readTerm) 222 = .ok (.aload_n 0, 1) := by decide +kernel
theorem d_X12_readTerm_223 : decode (mC M_X12_readTerm) 223 = .ok (.invokevirtual 208, 3) := by decide +kernel
theorem d_X12_readTerm_226 : decode (mC M_X12_readTerm) 226 = .ok (.aload_n 0, 1) := by decide +kernel
theorem d_X12_readTerm_227 : decode (mC M_X12_readTerm) 227 = .ok (.bipush 59, 2) := by decide +kernel
theorem d_X12_readTerm_229 : decode (mC M_X12_readTerm) 229 = .ok (.invokevirtual 253, 3) := by decide +kernel
theorem d_X12_readTerm_232 : decode (mC M_X12_readTerm) 232 = .ok (.aload_n 0, 1) := by decide +kernel
theorem d_X12_readTerm_233 : decode (mC M_X12_readTerm) 233 = .ok (.getfield 103, 3) := by decide +kernel
theorem d_X12_readTerm_236 : decode (mC M_X12_readTerm) 236 = .ok (.aload_n 0, 1) := by decide +kernel
theorem d_X12_readTerm_237 : decode (mC M_X12_readTerm) 237 = .ok (.getfield 345, 3) := by decide +kernel
theorem d_X12_readTerm_240 : decode (mC M_X12_readTerm) 240 = .ok (.dup2, 1) := by decide +kernel
theorem d_X12_readTerm_241 : decode (mC M_X12_readTerm) 241 = .ok (.iaload, 1) := by decide +kernel
theorem d_X12_readTerm_242 : decode (mC M_X12_readTerm) 242 = .ok (.iconst 1, 1) := by decide +kernel
theorem d_X12_readTerm_243 : decode (mC M_X12_readTerm) 243 = .ok (.iadd, 1) := by decide +kernel
theorem d_X12_readTerm_244 : decode (mC M_X12_readTerm) 244 = .ok (.iastore, 1) := by decide +kernel
theorem d_X12_readTerm_245 : decode (mC M_X12_readTerm) 245 = .ok (.return_, 1) := by decide +kernel
theorem d_X12_reckons_0 : decode (mC M_X12_reckons) 0 = .ok (.iconst 0, 1) := by decide +kernel
theorem d_X12_reckons_1 : decode (mC M_X12_reckons) 1 = .ok (.istore_n 1, 1) := by decide +kernel
theorem d_X12_reckons_2 : decode (mC M_X12_reckons) 2 = .ok (.iload_n 1, 1) := by decide +kernel
theorem d_X12_reckons_3 : decode (mC M_X12_reckons) 3 = .ok (.aload_n 0, 1) := by decide +kernel
theorem d_X12_reckons_4 : decode (mC M_X12_reckons) 4 = .ok (.getfield 151, 3) := by decide +kernel
theorem d_X12_reckons_7 : decode (mC M_X12_reckons) 7 = .ok (.if_icmp .ge 53, 3) := by decide +kernel
theorem d_X12_reckons_10 : decode (mC M_X12_reckons) 10 = .ok (.aload_n 0, 1) := by decide +kernel
theorem d_X12_reckons_11 : decode (mC M_X12_reckons) 11 = .ok (.getfield 88, 3) := by decide +kernel
theorem d_X12_reckons_14 : decode (mC M_X12_reckons) 14 = .ok (.iload_n 1, 1) := by decide +kernel
theorem d_X12_reckons_15 : decode (mC M_X12_reckons) 15 = .ok (.iconst 0, 1) := by decide +kernel
theorem d_X12_reckons_16 : decode (mC M_X12_reckons) 16 = .ok (.iastore, 1) := by decide +kernel
theorem d_X12_reckons_17 : decode (mC M_X12_reckons) 17 = .ok (.iconst 0, 1) := by decide +kernel
theorem d_X12_reckons_18 : decode (mC M_X12_reckons) 18 = .ok (.istore_n 2, 1) := by decide +kernel
theorem d_X12_reckons_19 : decode (mC M_X12_reckons) 19 = .ok (.iload_n 2, 1) := by decide +kernel
theorem d_X12_reckons_20 : decode (mC M_X12_reckons) 20 = .ok (.aload_n 0, 1) := by decide +kernel
theorem d_X12_reckons_21 : decode (mC M_X12_reckons) 21 = .ok (.getfield 298, 3) := by decide +kernel
theorem d_X12_reckons_24 : decode (mC M_X12_reckons) 24 = .ok (.if_icmp .ge 30, 3) := by decide +kernel
theorem d_X12_reckons_27 : decode (mC M_X12_reckons) 27 = .ok (.aload_n 0, 1) := by decide +kernel
theorem d_X12_reckons_28 : decode (mC M_X12_reckons) 28 = .ok (.iload_n 1, 1) := by decide +kernel
theorem d_X12_reckons_29 : decode (mC M_X12_reckons) 29 = .ok (.iload_n 2, 1) := by decide +kernel
theorem d_X12_reckons_30 : decode (mC M_X12_reckons) 30 = .ok (.invokevirtual 314, 3) := by decide +kernel
theorem d_X12_reckons_33 : decode (mC M_X12_reckons) 33 = .ok (.ifCond .eq 15, 3) := by decide +kernel
theorem d_X12_reckons_36 : decode (mC M_X12_reckons) 36 = .ok (.aload_n 0, 1) := by decide +kernel
theorem d_X12_reckons_37 : decode (mC M_X12_reckons) 37 = .ok (.getfield 88, 3) := by decide +kernel
theorem d_X12_reckons_40 : decode (mC M_X12_reckons) 40 = .ok (.iload_n 1, 1) := by decide +kernel
theorem d_X12_reckons_41 : decode (mC M_X12_reckons) 41 = .ok (.dup2, 1) := by decide +kernel
theorem d_X12_reckons_42 : decode (mC M_X12_reckons) 42 = .ok (.iaload, 1) := by decide +kernel
theorem d_X12_reckons_43 : decode (mC M_X12_reckons) 43 = .ok (.iconst 1, 1) := by decide +kernel
theorem d_X12_reckons_44 : decode (mC M_X12_reckons) 44 = .ok (.iload_n 2, 1) := by decide +kernel
theorem d_X12_reckons_45 : decode (mC M_X12_reckons) 45 = .ok (.ishl, 1) := by decide +kernel
theorem d_X12_reckons_46 : decode (mC M_X12_reckons) 46 = .ok (.ior, 1) := by decide +kernel
theorem d_X12_reckons_47 : decode (mC M_X12_reckons) 47 = .ok (.iastore, 1) := by decide +kernel
theorem d_X12_reckons_48 : decode (mC M_X12_reckons) 48 = .ok (.iinc 2 1, 3) := by decide +kernel
theorem d_X12_reckons_51 : decode (mC M_X12_reckons) 51 = .ok (.goto (-32), 3) := by decide +kernel
theorem d_X12_reckons_54 : decode (mC M_X12_reckons) 54 = .ok (.iinc 1 1, 3) := by decide +kernel
theorem d_X12_reckons_57 : decode (mC M_X12_reckons) 57 = .ok (.goto (-55), 3) := by decide +kernel
theorem d_X12_reckons_60 : decode (mC M_X12_reckons) 60 = .ok (.return_, 1) := by decide +kernel
theorem d_X12_record_0 : decode (mC M_X12_record) 0 = .ok (.aload_n 0, 1) := by decide +kernel
theorem d_X12_record_1 : decode (mC M_X12_record) 1 = .ok (.iconst 0, 1) := by decide +kernel
theorem d_X12_record_2 : decode (mC M_X12_record) 2 = .ok (.putfield 1, 3) := by decide +kernel
theorem d_X12_record_5 : decode (mC M_X12_record) 5 = .ok (.aload_n 0, 1) := by decide +kernel
theorem d_X12_record_6 : decode (mC M_X12_record) 6 = .ok (.iload_n 1, 1) := by decide +kernel
theorem d_X12_record_7 : decode (mC M_X12_record) 7 = .ok (.iload_n 2, 1) := by decide +kernel
theorem d_X12_record_8 : decode (mC M_X12_record) 8 = .ok (.invokevirtual 378, 3) := by decide +kernel
theorem d_X12_record_11 : decode (mC M_X12_record) 11 = .ok (.ifCond .ne 5, 3) := by decide +kernel
theorem d_X12_record_14 : decode (mC M_X12_record) 14 = .ok (.iconst (-1), 1) := by decide +kernel
theorem d_X12_record_15 : decode (mC M_X12_record) 15 = .ok (.ireturn, 1) := by decide +kernel
theorem d_X12_record_16 : decode (mC M_X12_record) 16 = .ok (.bipush 40, 2) := by decide +kernel
theorem d_X12_record_18 : decode (mC M_X12_record) 18 = .ok (.iload_n 2, 1) := by decide +kernel
theorem d_X12_record_19 : decode (mC M_X12_record) 19 = .ok (.imul, 1) := by decide +kernel
theorem d_X12_record_20 : decode (mC M_X12_record) 20 = .ok (.iload_n 1, 1) := by decide +kernel
theorem d_X12_record_21 : decode (mC M_X12_record) 21 = .ok (.iadd, 1) := by decide +kernel
theorem d_X12_record_22 : decode (mC M_X12_record) 22 = .ok (.istore 4, 2) := by decide +kernel
theorem d_X12_record_24 : decode (mC M_X12_record) 24 = .ok (.iload_n 3, 1) := by decide +kernel
theorem d_X12_record_25 : decode (mC M_X12_record) 25 = .ok (.tableswitch 117 0 6 #[43, 51, 59, 67, 75, 83, 91], 43) := by decide +kernel
theorem d_X12_record_68 : decode (mC M_X12_record) 68 = .ok (.aload_n 0, 1) := by decide +kernel
theorem d_X12_record_69 : decode (mC M_X12_record) 69 = .ok (.getfield 118, 3) := by decide +kernel
theorem d_X12_record_72 : decode (mC M_X12_record) 72 = .ok (.iload 4, 2) := by decide +kernel
theorem d_X12_record_74 : decode (mC M_X12_record) 74 = .ok (.iaload, 1) := by decide +kernel
theorem d_X12_record_75 : decode (mC M_X12_record) 75 = .ok (.ireturn, 1) := by decide +kernel
theorem d_X12_record_76 : decode (mC M_X12_record) 76 = .ok (.aload_n 0, 1) := by decide +kernel
theorem d_X12_record_77 : decode (mC M_X12_record) 77 = .ok (.getfield 121, 3) := by decide +kernel
theorem d_X12_record_80 : decode (mC M_X12_record) 80 = .ok (.iload 4, 2) := by decide +kernel
theorem d_X12_record_82 : decode (mC M_X12_record) 82 = .ok (.iaload, 1) := by decide +kernel
theorem d_X12_record_83 : decode (mC M_X12_record) 83 = .ok (.ireturn, 1) := by decide +kernel
theorem d_X12_record_84 : decode (mC M_X12_record) 84 = .ok (.aload_n 0, 1) := by decide +kernel
theorem d_X12_record_85 : decode (mC M_X12_record) 85 = .ok (.getfield 124, 3) := by decide +kernel
theorem d_X12_record_88 : decode (mC M_X12_record) 88 = .ok (.iload 4, 2) := by decide +kernel
theorem d_X12_record_90 : decode (mC M_X12_record) 90 = .ok (.iaload, 1) := by decide +kernel
theorem d_X12_record_91 : decode (mC M_X12_record) 91 = .ok (.ireturn, 1) := by decide +kernel
theorem d_X12_record_92 : decode (mC M_X12_record) 92 = .ok (.aload_n 0, 1) := by decide +kernel
theorem d_X12_record_93 : decode (mC M_X12_record) 93 = .ok (.getfield 127, 3) := by decide +kernel
theorem d_X12_record_96 : decode (mC M_X12_record) 96 = .ok (.iload 4, 2) := by decide +kernel
theorem d_X12_record_98 : decode (mC M_X12_record) 98 = .ok (.iaload, 1) := by decide +kernel
theorem d_X12_record_99 : decode (mC M_X12_record) 99 = .ok (.ireturn, 1) := by decide +kernel
theorem d_X12_record_100 : decode (mC M_X12_record) 100 = .ok (.aload_n 0, 1) := by decide +kernel
theorem d_X12_record_101 : decode (mC M_X12_record) 101 = .ok (.getfield 130, 3) := by decide +kernel
theorem d_X12_record_104 : decode (mC M_X12_record) 104 = .ok (.iload 4, 2) := by decide +kernel
theorem d_X12_record_106 : decode (mC M_X12_record) 106 = .ok (.iaload, 1) := by decide +kernel
theorem d_X12_record_107 : decode (mC M_X12_record) 107 = .ok (.ireturn, 1) := by decide +kernel
theorem d_X12_record_108 : decode (mC M_X12_record) 108 = .ok (.aload_n 0, 1) := by decide +kernel
theorem d_X12_record_109 : decode (mC M_X12_record) 109 = .ok (.getfield 133, 3) := by decide +kernel
theorem d_X12_record_112 : decode (mC M_X12_record) 112 = .ok (.iload 4, 2) := by decide +kernel
theorem d_X12_record_114 : decode (mC M_X12_record) 114 = .ok (.iaload, 1) := by decide +kernel
theorem d_X12_record_115 : decode (mC M_X12_record) 115 = .ok (.ireturn, 1) := by decide +kernel
theorem d_X12_record_116 : decode (mC M_X12_record) 116 = .ok (.aload_n 0, 1) := by decide +kernel
theorem d_X12_record_117 : decode (mC M_X12_record) 117 = .ok (.aload_n 0, 1) := by decide +kernel
theorem d_X12_record_118 : decode (mC M_X12_record) 118 = .ok (.getfield 133, 3) := by decide +kernel
theorem d_X12_record_121 : decode (mC M_X12_record) 121 = .ok (.iload 4, 2) := by decide +kernel
theorem d_X12_record_123 : decode (mC M_X12_record) 123 = .ok (.iaload, 1) := by decide +kernel
theorem d_X12_record_124 : decode (mC M_X12_record) 124 = .ok (.aload_n 0, 1) := by decide +kernel
theorem d_X12_record_125 : decode (mC M_X12_record) 125 = .ok (.getfield 121, 3) := by decide +kernel
theorem d_X12_record_128 : decode (mC M_X12_record) 128 = .ok (.iload 4, 2) := by decide +kernel
theorem d_X12_record_130 : decode (mC M_X12_record) 130 = .ok (.iaload, 1) := by decide +kernel
theorem d_X12_record_131 : decode (mC M_X12_record) 131 = .ok (.aload_n 0, 1) := by decide +kernel
theorem d_X12_record_132 : decode (mC M_X12_record) 132 = .ok (.getfield 130, 3) := by decide +kernel
theorem d_X12_record_135 : decode (mC M_X12_record) 135 = .ok (.iload 4, 2) := by decide +kernel
theorem d_X12_record_137 : decode (mC M_X12_record) 137 = .ok (.iaload, 1) := by decide +kernel
theorem d_X12_record_138 : decode (mC M_X12_record) 138 = .ok (.invokevirtual 381, 3) := by decide +kernel
theorem d_X12_record_141 : decode (mC M_X12_record) 141 = .ok (.ireturn, 1) := by decide +kernel
theorem d_X12_record_142 : decode (mC M_X12_record) 142 = .ok (.iconst (-1), 1) := by decide +kernel
theorem d_X12_record_143 : decode (mC M_X12_record) 143 = .ok (.ireturn, 1) := by decide +kernel
theorem d_X12_retake_0 : decode (mC M_X12_retake) 0 = .ok (.aload_n 0, 1) := by decide +kernel
theorem d_X12_retake_1 : decode (mC M_X12_retake) 1 = .ok (.iconst 0, 1) := by decide +kernel
theorem d_X12_retake_2 : decode (mC M_X12_retake) 2 = .ok (.putfield 1, 3) := by decide +kernel
theorem d_X12_retake_5 : decode (mC M_X12_retake) 5 = .ok (.iload_n 1, 1) := by decide +kernel
theorem d_X12_retake_6 : decode (mC M_X12_retake) 6 = .ok (.iconst 0, 1) := by decide +kernel
theorem d_X12_retake_7 : decode (mC M_X12_retake) 7 = .ok (.bipush 19, 2) := by decide +kernel
theorem d_X12_retake_9 : decode (mC M_X12_retake) 9 = .ok (.invokestatic 154, 3) := by decide +kernel
theorem d_X12_retake_12 : decode (mC M_X12_retake) 12 = .ok (.ifCond .eq 14, 3) := by decide +kernel
theorem d_X12_retake_15 : decode (mC M_X12_retake) 15 = .ok (.iload_n 2, 1) := by decide +kernel
theorem d_X12_retake_16 : decode (mC M_X12_retake) 16 = .ok (.iconst 0, 1) := by decide +kernel
theorem d_X12_retake_17 : decode (mC M_X12_retake) 17 = .ok (.sipush 1439, 3) := by decide +kernel
theorem d_X12_retake_20 : decode (mC M_X12_retake) 20 = .ok (.invokestatic 154, 3) := by decide +kernel
theorem d_X12_retake_23 : decode (mC M_X12_retake) 23 = .ok (.ifCond .ne 5, 3) := by decide +kernel
theorem d_X12_retake_26 : decode (mC M_X12_retake) 26 = .ok (.iconst (-1), 1) := by decide +kernel
theorem d_X12_retake_27 : decode (mC M_X12_retake) 27 = .ok (.ireturn, 1) := by decide +kernel
theorem d_X12_retake_28 : decode (mC M_X12_retake) 28 = .ok (.aload_n 0, 1) := by decide +kernel
theorem d_X12_retake_29 : decode (mC M_X12_retake) 29 = .ok (.iconst 0, 1) := by decide +kernel
theorem d_X12_retake_30 : decode (mC M_X12_retake) 30 = .ok (.putfield 384, 3) := by decide +kernel
theorem d_X12_retake_33 : decode (mC M_X12_retake) 33 = .ok (.iconst 0, 1) := by decide +kernel
theorem d_X12_retake_34 : decode (mC M_X12_retake) 34 = .ok (.istore_n 3, 1) := by decide +kernel
theorem d_X12_retake_35 : decode (mC M_X12_retake) 35 = .ok (.iload_n 3, 1) := by decide +kernel
theorem d_X12_retake_36 : decode (mC M_X12_retake) 36 = .ok (.aload_n 0, 1) := by decide +kernel
theorem d_X12_retake_37 : decode (mC M_X12_retake) 37 = .ok (.getfield 151, 3) := by decide +kernel
theorem d_X12_retake_40 : decode (mC M_X12_retake) 40 = .ok (.if_icmp .ge 73, 3) := by decide +kernel
theorem d_X12_retake_43 : decode (mC M_X12_retake) 43 = .ok (.aload_n 0, 1) := by decide +kernel
theorem d_X12_retake_44 : decode (mC M_X12_retake) 44 = .ok (.iload_n 3, 1) := by decide +kernel
theorem d_X12_retake_45 : decode (mC M_X12_retake) 45 = .ok (.iload_n 1, 1) := by decide +kernel
theorem d_X12_retake_46 : decode (mC M_X12_retake) 46 = .ok (.aload_n 0, 1) := by decide +kernel
theorem d_X12_retake_47 : decode (mC M_X12_retake) 47 = .ok (.getfield 163, 3) := by decide +kernel
theorem d_X12_retake_50 : decode (mC M_X12_retake) 50 = .ok (.invokevirtual 173, 3) := by decide +kernel
theorem d_X12_retake_53 : decode (mC M_X12_retake) 53 = .ok (.ifCond .eq 54, 3) := by decide +kernel
theorem d_X12_retake_56 : decode (mC M_X12_retake) 56 = .ok (.aload_n 0, 1) := by decide +kernel
theorem d_X12_retake_57 : decode (mC M_X12_retake) 57 = .ok (.getfield 29, 3) := by decide +kernel
theorem d_X12_retake_60 : decode (mC M_X12_retake) 60 = .ok (.iload_n 3, 1) := by decide +kernel
theorem d_X12_retake_61 : decode (mC M_X12_retake) 61 = .ok (.baload, 1) := by decide +kernel
theorem d_X12_retake_62 : decode (mC M_X12_retake) 62 = .ok (.ifCond .ne 25, 3) := by decide +kernel
theorem d_X12_retake_65 : decode (mC M_X12_retake) 65 = .ok (.aload_n 0, 1) := by decide +kernel
theorem d_X12_retake_66 : decode (mC M_X12_retake) 66 = .ok (.getfield 36, 3) := by decide +kernel
theorem d_X12_retake_69 : decode (mC M_X12_retake) 69 = .ok (.iload_n 3, 1) := by decide +kernel
theorem d_X12_retake_70 : decode (mC M_X12_retake) 70 = .ok (.iaload, 1) := by decide +kernel
theorem d_X12_retake_71 : decode (mC M_X12_retake) 71 = .ok (.sipush 1440, 3) := by decide +kernel
theorem d_X12_retake_74 : decode (mC M_X12_retake) 74 = .ok (.aload_n 0, 1) := by decide +kernel
theorem d_X12_retake_75 : decode (mC M_X12_retake) 75 = .ok (.getfield 304, 3) := by decide +kernel
theorem d_X12_retake_78 : decode (mC M_X12_retake) 78 = .ok (.imul, 1) := by decide +kernel
theorem d_X12_retake_79 : decode (mC M_X12_retake) 79 = .ok (.iload_n 2, 1) := by decide +kernel
theorem d_X12_retake_80 : decode (mC M_X12_retake) 80 = .ok (.iadd, 1) := by decide +kernel
theorem d_X12_retake_81 : decode (mC M_X12_retake) 81 = .ok (.if_icmp .gt 6, 3) := by decide +kernel
theorem d_X12_retake_84 : decode (mC M_X12_retake) 84 = .ok (.goto 23, 3) := by decide +kernel
theorem d_X12_retake_87 : decode (mC M_X12_retake) 87 = .ok (.aload_n 0, 1) := by decide +kernel
theorem d_X12_retake_88 : decode (mC M_X12_retake) 88 = .ok (.getfield 148, 3) := by decide +kernel
theorem d_X12_retake_91 : decode (mC M_X12_retake) 91 = .ok (.aload_n 0, 1) := by decide +kernel
theorem d_X12_retake_92 : decode (mC M_X12_retake) 92 = .ok (.getfield 384, 3) := by decide +kernel
theorem d_X12_retake_95 : decode (mC M_X12_retake) 95 = .ok (.iload_n 3, 1) := by decide +kernel
theorem d_X12_retake_96 : decode (mC M_X12_retake) 96 = .ok (.iastore, 1) := by decide +kernel
theorem d_X12_retake_97 : decode (mC M_X12_retake) 97 = .ok (.aload_n 0, 1) := by decide +kernel
theorem d_X12_retake_98 : decode (mC M_X12_retake) 98 = .ok (.dup, 1) := by decide +kernel
theorem d_X12_retake_99 : decode (mC M_X12_retake) 99 = .ok (.getfield 384, 3) := by decide +kernel
theorem d_X12_retake_102 : decode (mC M_X12_retake) 102 = .ok (.iconst 1, 1) := by decide +kernel
theorem d_X12_retake_103 : decode (mC M_X12_retake) 103 = .ok (.iadd, 1) := by decide +kernel
theorem d_X12_retake_104 : decode (mC M_X12_retake) 104 = .ok (.putfield 384, 3) := by decide +kernel
theorem d_X12_retake_107 : decode (mC M_X12_retake) 107 = .ok (.iinc 3 1, 3) := by decide +kernel
theorem d_X12_retake_110 : decode (mC M_X12_retake) 110 = .ok (.goto (-75), 3) := by decide +kernel
theorem d_X12_retake_113 : decode (mC M_X12_retake) 113 = .ok (.aload_n 0, 1) := by decide +kernel
theorem d_X12_retake_114 : decode (mC M_X12_retake) 114 = .ok (.getfield 384, 3) := by decide +kernel
theorem d_X12_retake_117 : decode (mC M_X12_retake) 117 = .ok (.ireturn, 1) := by decide +kernel
theorem d_X12_see_0 : decode (mC M_X12_see) 0 = .ok (.iload_n 1, 1) := by decide +kernel
theorem d_X12_see_1 : decode (mC M_X12_see) 1 = .ok (.aload_n 0, 1) := by decide +kernel
theorem d_X12_see_2 : decode (mC M_X12_see) 2 = .ok (.getfield 180, 3) := by decide +kernel
theorem d_X12_see_5 : decode (mC M_X12_see) 5 = .ok (.if_icmp .ge 12, 3) := by decide +kernel
theorem d_X12_see_8 : decode (mC M_X12_see) 8 = .ok (.aload_n 0, 1) := by decide +kernel
theorem d_X12_see_9 : decode (mC M_X12_see) 9 = .ok (.getfield 183, 3) := by decide +kernel
theorem d_X12_see_12 : decode (mC M_X12_see) 12 = .ok (.iload_n 1, 1) := by decide +kernel
theorem d_X12_see_13 : decode (mC M_X12_see) 13 = .ok (.baload, 1) := by decide +kernel
theorem d_X12_see_14 : decode (mC M_X12_see) 14 = .ok (.goto 4, 3) := by decide +kernel
theorem d_X12_see_17 : decode (mC M_X12_see) 17 = .ok (.iconst 0, 1) := by decide +kernel
theorem d_X12_see_18 : decode (mC M_X12_see) 18 = .ok (.ireturn, 1) := by decide +kernel
theorem d_X12_seen_0 : decode (mC M_X12_seen) 0 = .ok (.aload_n 0, 1) := by decide +kernel
theorem d_X12_seen_1 : decode (mC M_X12_seen) 1 = .ok (.aload_n 0, 1) := by decide +kernel
theorem d_X12_seen_2 : decode (mC M_X12_seen) 2 = .ok (.iload_n 1, 1) := by decide +kernel
theorem d_X12_seen_3 : decode (mC M_X12_seen) 3 = .ok (.invokevirtual 159, 3) := by decide +kernel
theorem d_X12_seen_6 : decode (mC M_X12_seen) 6 = .ok (.ifCond .eq 29, 3) := by decide +kernel
theorem d_X12_seen_9 : decode (mC M_X12_seen) 9 = .ok (.iload_n 2, 1) := by decide +kernel
theorem d_X12_seen_10 : decode (mC M_X12_seen) 10 = .ok (.iconst 0, 1) := by decide +kernel
theorem d_X12_seen_11 : decode (mC M_X12_seen) 11 = .ok (.bipush 19, 2) := by decide +kernel
theorem d_X12_seen_13 : decode (mC M_X12_seen) 13 = .ok (.invokestatic 154, 3) := by decide +kernel
theorem d_X12_seen_16 : decode (mC M_X12_seen) 16 = .ok (.ifCond .eq 19, 3) := by decide +kernel
theorem d_X12_seen_19 : decode (mC M_X12_seen) 19 = .ok (.iload_n 3, 1) := by decide +kernel
theorem d_X12_seen_20 : decode (mC M_X12_seen) 20 = .ok (.iconst 0, 1) := by decide +kernel
theorem d_X12_seen_21 : decode (mC M_X12_seen) 21 = .ok (.aload_n 0, 1) := by decide +kernel
theorem d_X12_seen_22 : decode (mC M_X12_seen) 22 = .ok (.getfield 163, 3) := by decide +kernel
theorem d_X12_seen_25 : decode (mC M_X12_seen) 25 = .ok (.invokestatic 154, 3) := by decide +kernel
theorem d_X12_seen_28 : decode (mC M_X12_seen) 28 = .ok (.ifCond .eq 7, 3) := by decide +kernel
theorem d_X12_seen_31 : decode (mC M_X12_seen) 31 = .ok (.iconst 0, 1) := by decide +kernel
theorem d_X12_seen_32 : decode (mC M_X12_seen) 32 = .ok (.goto 4, 3) := by decide +kernel
theorem d_X12_seen_35 : decode (mC M_X12_seen) 35 = .ok (.iconst 1, 1) := by decide +kernel
theorem d_X12_seen_36 : decode (mC M_X12_seen) 36 = .ok (.putfield 1, 3) := by decide +kernel
theorem d_X12_seen_39 : decode (mC M_X12_seen) 39 = .ok (.aload_n 0, 1) := by decide +kernel
theorem d_X12_seen_40 : decode (mC M_X12_seen) 40 = .ok (.getfield 1, 3) := by decide +kernel
theorem d_X12_seen_43 : decode (mC M_X12_seen) 43 = .ok (.ifCond .le 7, 3) := by decide +kernel
theorem d_X12_seen_46 : decode (mC M_X12_seen) 46 = .ok (.iconst 0, 1) := by decide +kernel
theorem d_X12_seen_47 : decode (mC M_X12_seen) 47 = .ok (.goto 10, 3) := by decide +kernel
theorem d_X12_seen_50 : decode (mC M_X12_seen) 50 = .ok (.aload_n 0, 1) := by decide +kernel
theorem d_X12_seen_51 : decode (mC M_X12_seen) 51 = .ok (.iload_n 1, 1) := by decide +kernel
theorem d_X12_seen_52 : decode (mC M_X12_seen) 52 = .ok (.iload_n 2, 1) := by decide +kernel
theorem d_X12_seen_53 : decode (mC M_X12_seen) 53 = .ok (.iload_n 3, 1) := by decide +kernel
theorem d_X12_seen_54 : decode (mC M_X12_seen) 54 = .ok (.invokevirtual 173, 3) := by decide +kernel
theorem d_X12_seen_57 : decode (mC M_X12_seen) 57 = .ok (.ireturn, 1) := by decide +kernel
theorem d_X12_starts_0 : decode (mC M_X12_starts) 0 = .ok (.aload_n 0, 1) := by decide +kernel
theorem d_X12_starts_1 : decode (mC M_X12_starts) 1 = .ok (.aload_n 1, 1) := by decide +kernel
theorem d_X12_starts_2 : decode (mC M_X12_starts) 2 = .ok (.putfield 183, 3) := by decide +kernel
theorem d_X12_starts_5 : decode (mC M_X12_starts) 5 = .ok (.aload_n 0, 1) := by decide +kernel
theorem d_X12_starts_6 : decode (mC M_X12_starts) 6 = .ok (.iload_n 2, 1) := by decide +kernel
theorem d_X12_starts_7 : decode (mC M_X12_starts) 7 = .ok (.putfield 180, 3) := by decide +kernel
theorem d_X12_starts_10 : decode (mC M_X12_starts) 10 = .ok (.aload_n 0, 1) := by decide +kernel
theorem d_X12_starts_11 : decode (mC M_X12_starts) 11 = .ok (.iload_n 3, 1) := by decide +kernel
theorem d_X12_starts_12 : decode (mC M_X12_starts) 12 = .ok (.putfield 186, 3) := by decide +kernel
theorem d_X12_starts_15 : decode (mC M_X12_starts) 15 = .ok (.aload_n 0, 1) := by decide +kernel
theorem d_X12_starts_16 : decode (mC M_X12_starts) 16 = .ok (.invokevirtual 208, 3) := by decide +kernel
theorem d_X12_starts_19 : decode (mC M_X12_starts) 19 = .ok (.return_, 1) := by decide +kernel
theorem d_X12_step_0 : decode (mC M_X12_step) 0 = .ok (.aload_n 0, 1) := by decide +kernel
theorem d_X12_step_1 : decode (mC M_X12_step) 1 = .ok (.iconst 0, 1) := by decide +kernel
theorem d_X12_step_2 : decode (mC M_X12_step) 2 = .ok (.putfield 1, 3) := by decide +kernel
theorem d_X12_step_5 : decode (mC M_X12_step) 5 = .ok (.iconst 0, 1) := by decide +kernel
theorem d_X12_step_6 : decode (mC M_X12_step) 6 = .ok (.istore_n 3, 1) := by decide +kernel
theorem d_X12_step_7 : decode (mC M_X12_step) 7 = .ok (.iconst 0, 1) := by decide +kernel
theorem d_X12_step_8 : decode (mC M_X12_step) 8 = .ok (.istore 4, 2) := by decide +kernel
theorem d_X12_step_10 : decode (mC M_X12_step) 10 = .ok (.iload 4, 2) := by decide +kernel
theorem d_X12_step_12 : decode (mC M_X12_step) 12 = .ok (.aload_n 0, 1) := by decide +kernel
theorem d_X12_step_13 : decode (mC M_X12_step) 13 = .ok (.getfield 151, 3) := by decide +kernel
theorem d_X12_step_16 : decode (mC M_X12_step) 16 = .ok (.if_icmp .ge 30, 3) := by decide +kernel
theorem d_X12_step_19 : decode (mC M_X12_step) 19 = .ok (.iload_n 3, 1) := by decide +kernel
theorem d_X12_step_20 : decode (mC M_X12_step) 20 = .ok (.ifCond .ne 14, 3) := by decide +kernel
end
section
theorem d_X12_step_23 : decode (mC M_X12_step) 23 = .ok (.aload_n 0, 1) := by decide +kernel
theorem d_X12_step_24 : decode (mC M_X12_step) 24 = .ok (.getfield 39, 3) := by decide +kernel
theorem d_X12_step_27 : decode (mC M_X12_step) 27 = .ok (.iload 4, 2) := by decide +kernel
theorem d_X12_step_29 : decode (mC M_X12_step) 29 = .ok (.iaload, 1) := by decide +kernel
theorem d_X12_step_30 : decode (mC M_X12_step) 30 = .ok (.iconst (-1), 1) := by decide +kernel
theorem d_X12_step_31 : decode (mC M_X12_step) 31 = .ok (.if_icmp .eq 7, 3) := by decide +kernel
theorem d_X12_step_34 : decode (mC M_X12_step) 34 = .ok (.iconst 1, 1) := by decide +kernel
theorem d_X12_step_35 : decode (mC M_X12_step) 35 = .ok (.goto 4, 3) := by decide +kernel
theorem d_X12_step_38 : decode (mC M_X12_step) 38 = .ok (.iconst 0, 1) := by decide +kernel
theorem d_X12_step_39 : decode (mC M_X12_step) 39 = .ok (.istore_n 3, 1) := by decide +kernel
theorem d_X12_step_40 : decode (mC M_X12_step) 40 = .ok (.iinc 4 1, 3) := by decide +kernel
theorem d_X12_step_43 : decode (mC M_X12_step) 43 = .ok (.goto (-33), 3) := by decide +kernel
theorem d_X12_step_46 : decode (mC M_X12_step) 46 = .ok (.iload_n 1, 1) := by decide +kernel
theorem d_X12_step_47 : decode (mC M_X12_step) 47 = .ok (.iconst 1, 1) := by decide +kernel
theorem d_X12_step_48 : decode (mC M_X12_step) 48 = .ok (.iconst 5, 1) := by decide +kernel
theorem d_X12_step_49 : decode (mC M_X12_step) 49 = .ok (.invokestatic 154, 3) := by decide +kernel
theorem d_X12_step_52 : decode (mC M_X12_step) 52 = .ok (.ifCond .eq 16, 3) := by decide +kernel
theorem d_X12_step_55 : decode (mC M_X12_step) 55 = .ok (.iload_n 3, 1) := by decide +kernel
theorem d_X12_step_56 : decode (mC M_X12_step) 56 = .ok (.ifCond .eq 12, 3) := by decide +kernel
theorem d_X12_step_59 : decode (mC M_X12_step) 59 = .ok (.aload_n 0, 1) := by decide +kernel
theorem d_X12_step_60 : decode (mC M_X12_step) 60 = .ok (.getfield 304, 3) := by decide +kernel
theorem d_X12_step_63 : decode (mC M_X12_step) 63 = .ok (.bipush 60, 2) := by decide +kernel
theorem d_X12_step_65 : decode (mC M_X12_step) 65 = .ok (.if_icmp .ne 5, 3) := by decide +kernel
theorem d_X12_step_68 : decode (mC M_X12_step) 68 = .ok (.iconst (-1), 1) := by decide +kernel
theorem d_X12_step_69 : decode (mC M_X12_step) 69 = .ok (.ireturn, 1) := by decide +kernel
theorem d_X12_step_70 : decode (mC M_X12_step) 70 = .ok (.iconst 0, 1) := by decide +kernel
theorem d_X12_step_71 : decode (mC M_X12_step) 71 = .ok (.istore 4, 2) := by decide +kernel
theorem d_X12_step_73 : decode (mC M_X12_step) 73 = .ok (.iload 4, 2) := by decide +kernel
theorem d_X12_step_75 : decode (mC M_X12_step) 75 = .ok (.aload_n 0, 1) := by decide +kernel
theorem d_X12_step_76 : decode (mC M_X12_step) 76 = .ok (.getfield 151, 3) := by decide +kernel
theorem d_X12_step_79 : decode (mC M_X12_step) 79 = .ok (.if_icmp .ge 64, 3) := by decide +kernel
theorem d_X12_step_82 : decode (mC M_X12_step) 82 = .ok (.aload_n 0, 1) := by decide +kernel
theorem d_X12_step_83 : decode (mC M_X12_step) 83 = .ok (.getfield 39, 3) := by decide +kernel
theorem d_X12_step_86 : decode (mC M_X12_step) 86 = .ok (.iload 4, 2) := by decide +kernel
theorem d_X12_step_88 : decode (mC M_X12_step) 88 = .ok (.iaload, 1) := by decide +kernel
theorem d_X12_step_89 : decode (mC M_X12_step) 89 = .ok (.iconst (-1), 1) := by decide +kernel
theorem d_X12_step_90 : decode (mC M_X12_step) 90 = .ok (.if_icmp .eq 47, 3) := by decide +kernel
theorem d_X12_step_93 : decode (mC M_X12_step) 93 = .ok (.aload_n 0, 1) := by decide +kernel
theorem d_X12_step_94 : decode (mC M_X12_step) 94 = .ok (.getfield 142, 3) := by decide +kernel
theorem d_X12_step_97 : decode (mC M_X12_step) 97 = .ok (.iload 4, 2) := by decide +kernel
theorem d_X12_step_99 : decode (mC M_X12_step) 99 = .ok (.aload_n 0, 1) := by decide +kernel
theorem d_X12_step_100 : decode (mC M_X12_step) 100 = .ok (.getfield 61, 3) := by decide +kernel
theorem d_X12_step_103 : decode (mC M_X12_step) 103 = .ok (.aload_n 0, 1) := by decide +kernel
theorem d_X12_step_104 : decode (mC M_X12_step) 104 = .ok (.getfield 39, 3) := by decide +kernel
theorem d_X12_step_107 : decode (mC M_X12_step) 107 = .ok (.iload 4, 2) := by decide +kernel
theorem d_X12_step_109 : decode (mC M_X12_step) 109 = .ok (.iaload, 1) := by decide +kernel
theorem d_X12_step_110 : decode (mC M_X12_step) 110 = .ok (.iaload, 1) := by decide +kernel
theorem d_X12_step_111 : decode (mC M_X12_step) 111 = .ok (.iload_n 2, 1) := by decide +kernel
theorem d_X12_step_112 : decode (mC M_X12_step) 112 = .ok (.bipush 31, 2) := by decide +kernel
theorem d_X12_step_114 : decode (mC M_X12_step) 114 = .ok (.iload 4, 2) := by decide +kernel
theorem d_X12_step_116 : decode (mC M_X12_step) 116 = .ok (.imul, 1) := by decide +kernel
theorem d_X12_step_117 : decode (mC M_X12_step) 117 = .ok (.iadd, 1) := by decide +kernel
theorem d_X12_step_118 : decode (mC M_X12_step) 118 = .ok (.bipush 7, 2) := by decide +kernel
theorem d_X12_step_120 : decode (mC M_X12_step) 120 = .ok (.aload_n 0, 1) := by decide +kernel
theorem d_X12_step_121 : decode (mC M_X12_step) 121 = .ok (.getfield 304, 3) := by decide +kernel
theorem d_X12_step_124 : decode (mC M_X12_step) 124 = .ok (.imul, 1) := by decide +kernel
theorem d_X12_step_125 : decode (mC M_X12_step) 125 = .ok (.iadd, 1) := by decide +kernel
theorem d_X12_step_126 : decode (mC M_X12_step) 126 = .ok (.invokestatic 370, 3) := by decide +kernel
theorem d_X12_step_129 : decode (mC M_X12_step) 129 = .ok (.bipush 16, 2) := by decide +kernel
theorem d_X12_step_131 : decode (mC M_X12_step) 131 = .ok (.iushr, 1) := by decide +kernel
theorem d_X12_step_132 : decode (mC M_X12_step) 132 = .ok (.bipush 20, 2) := by decide +kernel
theorem d_X12_step_134 : decode (mC M_X12_step) 134 = .ok (.irem, 1) := by decide +kernel
theorem d_X12_step_135 : decode (mC M_X12_step) 135 = .ok (.iadd, 1) := by decide +kernel
theorem d_X12_step_136 : decode (mC M_X12_step) 136 = .ok (.iastore, 1) := by decide +kernel
theorem d_X12_step_137 : decode (mC M_X12_step) 137 = .ok (.iinc 4 1, 3) := by decide +kernel
theorem d_X12_step_140 : decode (mC M_X12_step) 140 = .ok (.goto (-67), 3) := by decide +kernel
theorem d_X12_step_143 : decode (mC M_X12_step) 143 = .ok (.aload_n 0, 1) := by decide +kernel
theorem d_X12_step_144 : decode (mC M_X12_step) 144 = .ok (.iload_n 1, 1) := by decide +kernel
theorem d_X12_step_145 : decode (mC M_X12_step) 145 = .ok (.invokevirtual 372, 3) := by decide +kernel
theorem d_X12_step_148 : decode (mC M_X12_step) 148 = .ok (.iconst 0, 1) := by decide +kernel
theorem d_X12_step_149 : decode (mC M_X12_step) 149 = .ok (.istore 4, 2) := by decide +kernel
theorem d_X12_step_151 : decode (mC M_X12_step) 151 = .ok (.iconst 0, 1) := by decide +kernel
theorem d_X12_step_152 : decode (mC M_X12_step) 152 = .ok (.istore 5, 2) := by decide +kernel
theorem d_X12_step_154 : decode (mC M_X12_step) 154 = .ok (.iload 5, 2) := by decide +kernel
theorem d_X12_step_156 : decode (mC M_X12_step) 156 = .ok (.aload_n 0, 1) := by decide +kernel
theorem d_X12_step_157 : decode (mC M_X12_step) 157 = .ok (.getfield 151, 3) := by decide +kernel
theorem d_X12_step_160 : decode (mC M_X12_step) 160 = .ok (.if_icmp .ge 263, 3) := by decide +kernel
theorem d_X12_step_163 : decode (mC M_X12_step) 163 = .ok (.bipush 40, 2) := by decide +kernel
theorem d_X12_step_165 : decode (mC M_X12_step) 165 = .ok (.aload_n 0, 1) := by decide +kernel
theorem d_X12_step_166 : decode (mC M_X12_step) 166 = .ok (.getfield 304, 3) := by decide +kernel
theorem d_X12_step_169 : decode (mC M_X12_step) 169 = .ok (.imul, 1) := by decide +kernel
theorem d_X12_step_170 : decode (mC M_X12_step) 170 = .ok (.iload 5, 2) := by decide +kernel
theorem d_X12_step_172 : decode (mC M_X12_step) 172 = .ok (.iadd, 1) := by decide +kernel
theorem d_X12_step_173 : decode (mC M_X12_step) 173 = .ok (.istore 6, 2) := by decide +kernel
theorem d_X12_step_175 : decode (mC M_X12_step) 175 = .ok (.aload_n 0, 1) := by decide +kernel
theorem d_X12_step_176 : decode (mC M_X12_step) 176 = .ok (.getfield 118, 3) := by decide +kernel
theorem d_X12_step_179 : decode (mC M_X12_step) 179 = .ok (.iload 6, 2) := by decide +kernel
theorem d_X12_step_181 : decode (mC M_X12_step) 181 = .ok (.iconst (-1), 1) := by decide +kernel
theorem d_X12_step_182 : decode (mC M_X12_step) 182 = .ok (.iastore, 1) := by decide +kernel
theorem d_X12_step_183 : decode (mC M_X12_step) 183 = .ok (.aload_n 0, 1) := by decide +kernel
theorem d_X12_step_184 : decode (mC M_X12_step) 184 = .ok (.getfield 39, 3) := by decide +kernel
theorem d_X12_step_187 : decode (mC M_X12_step) 187 = .ok (.iload 5, 2) := by decide +kernel
theorem d_X12_step_189 : decode (mC M_X12_step) 189 = .ok (.iaload, 1) := by decide +kernel
theorem d_X12_step_190 : decode (mC M_X12_step) 190 = .ok (.iconst (-1), 1) := by decide +kernel
theorem d_X12_step_191 : decode (mC M_X12_step) 191 = .ok (.if_icmp .ne 6, 3) := by decide +kernel
theorem d_X12_step_194 : decode (mC M_X12_step) 194 = .ok (.goto 223, 3) := by decide +kernel
theorem d_X12_step_197 : decode (mC M_X12_step) 197 = .ok (.iconst 0, 1) := by decide +kernel
theorem d_X12_step_198 : decode (mC M_X12_step) 198 = .ok (.istore 7, 2) := by decide +kernel
theorem d_X12_step_200 : decode (mC M_X12_step) 200 = .ok (.iconst 0, 1) := by decide +kernel
theorem d_X12_step_201 : decode (mC M_X12_step) 201 = .ok (.istore 8, 2) := by decide +kernel
theorem d_X12_step_203 : decode (mC M_X12_step) 203 = .ok (.iload 8, 2) := by decide +kernel
theorem d_X12_step_205 : decode (mC M_X12_step) 205 = .ok (.aload_n 0, 1) := by decide +kernel
theorem d_X12_step_206 : decode (mC M_X12_step) 206 = .ok (.getfield 151, 3) := by decide +kernel
theorem d_X12_step_209 : decode (mC M_X12_step) 209 = .ok (.if_icmp .ge 40, 3) := by decide +kernel
theorem d_X12_step_212 : decode (mC M_X12_step) 212 = .ok (.aload_n 0, 1) := by decide +kernel
theorem d_X12_step_213 : decode (mC M_X12_step) 213 = .ok (.getfield 39, 3) := by decide +kernel
theorem d_X12_step_216 : decode (mC M_X12_step) 216 = .ok (.iload 8, 2) := by decide +kernel
theorem d_X12_step_218 : decode (mC M_X12_step) 218 = .ok (.iaload, 1) := by decide +kernel
theorem d_X12_step_219 : decode (mC M_X12_step) 219 = .ok (.aload_n 0, 1) := by decide +kernel
theorem d_X12_step_220 : decode (mC M_X12_step) 220 = .ok (.getfield 39, 3) := by decide +kernel
theorem d_X12_step_223 : decode (mC M_X12_step) 223 = .ok (.iload 5, 2) := by decide +kernel
theorem d_X12_step_225 : decode (mC M_X12_step) 225 = .ok (.iaload, 1) := by decide +kernel
theorem d_X12_step_226 : decode (mC M_X12_step) 226 = .ok (.if_icmp .ne 17, 3) := by decide +kernel
theorem d_X12_step_229 : decode (mC M_X12_step) 229 = .ok (.iload 7, 2) := by decide +kernel
theorem d_X12_step_231 : decode (mC M_X12_step) 231 = .ok (.aload_n 0, 1) := by decide +kernel
theorem d_X12_step_232 : decode (mC M_X12_step) 232 = .ok (.getfield 145, 3) := by decide +kernel
theorem d_X12_step_235 : decode (mC M_X12_step) 235 = .ok (.iload 8, 2) := by decide +kernel
theorem d_X12_step_237 : decode (mC M_X12_step) 237 = .ok (.iaload, 1) := by decide +kernel
theorem d_X12_step_238 : decode (mC M_X12_step) 238 = .ok (.invokestatic 365, 3) := by decide +kernel
theorem d_X12_step_241 : decode (mC M_X12_step) 241 = .ok (.istore 7, 2) := by decide +kernel
theorem d_X12_step_243 : decode (mC M_X12_step) 243 = .ok (.iinc 8 1, 3) := by decide +kernel
theorem d_X12_step_246 : decode (mC M_X12_step) 246 = .ok (.goto (-43), 3) := by decide +kernel
theorem d_X12_step_249 : decode (mC M_X12_step) 249 = .ok (.aload_n 0, 1) := by decide +kernel
theorem d_X12_step_250 : decode (mC M_X12_step) 250 = .ok (.getfield 118, 3) := by decide +kernel
theorem d_X12_step_253 : decode (mC M_X12_step) 253 = .ok (.iload 6, 2) := by decide +kernel
theorem d_X12_step_255 : decode (mC M_X12_step) 255 = .ok (.aload_n 0, 1) := by decide +kernel
theorem d_X12_step_256 : decode (mC M_X12_step) 256 = .ok (.getfield 58, 3) := by decide +kernel
theorem d_X12_step_259 : decode (mC M_X12_step) 259 = .ok (.aload_n 0, 1) := by decide +kernel
theorem d_X12_step_260 : decode (mC M_X12_step) 260 = .ok (.getfield 39, 3) := by decide +kernel
theorem d_X12_step_263 : decode (mC M_X12_step) 263 = .ok (.iload 5, 2) := by decide +kernel
theorem d_X12_step_265 : decode (mC M_X12_step) 265 = .ok (.iaload, 1) := by decide +kernel
theorem d_X12_step_266 : decode (mC M_X12_step) 266 = .ok (.iaload, 1) := by decide +kernel
theorem d_X12_step_267 : decode (mC M_X12_step) 267 = .ok (.iastore, 1) := by decide +kernel
theorem d_X12_step_268 : decode (mC M_X12_step) 268 = .ok (.aload_n 0, 1) := by decide +kernel
theorem d_X12_step_269 : decode (mC M_X12_step) 269 = .ok (.getfield 121, 3) := by decide +kernel
theorem d_X12_step_272 : decode (mC M_X12_step) 272 = .ok (.iload 6, 2) := by decide +kernel
theorem d_X12_step_274 : decode (mC M_X12_step) 274 = .ok (.aload_n 0, 1) := by decide +kernel
theorem d_X12_step_275 : decode (mC M_X12_step) 275 = .ok (.getfield 142, 3) := by decide +kernel
theorem d_X12_step_278 : decode (mC M_X12_step) 278 = .ok (.iload 5, 2) := by decide +kernel
theorem d_X12_step_280 : decode (mC M_X12_step) 280 = .ok (.iaload, 1) := by decide +kernel
theorem d_X12_step_281 : decode (mC M_X12_step) 281 = .ok (.iastore, 1) := by decide +kernel
theorem d_X12_step_282 : decode (mC M_X12_step) 282 = .ok (.aload_n 0, 1) := by decide +kernel
theorem d_X12_step_283 : decode (mC M_X12_step) 283 = .ok (.getfield 124, 3) := by decide +kernel
theorem d_X12_step_286 : decode (mC M_X12_step) 286 = .ok (.iload 6, 2) := by decide +kernel
theorem d_X12_step_288 : decode (mC M_X12_step) 288 = .ok (.aload_n 0, 1) := by decide +kernel
theorem d_X12_step_289 : decode (mC M_X12_step) 289 = .ok (.getfield 145, 3) := by decide +kernel
theorem d_X12_step_292 : decode (mC M_X12_step) 292 = .ok (.iload 5, 2) := by decide +kernel
theorem d_X12_step_294 : decode (mC M_X12_step) 294 = .ok (.iaload, 1) := by decide +kernel
theorem d_X12_step_295 : decode (mC M_X12_step) 295 = .ok (.iastore, 1) := by decide +kernel
theorem d_X12_step_296 : decode (mC M_X12_step) 296 = .ok (.aload_n 0, 1) := by decide +kernel
theorem d_X12_step_297 : decode (mC M_X12_step) 297 = .ok (.getfield 127, 3) := by decide +kernel
theorem d_X12_step_300 : decode (mC M_X12_step) 300 = .ok (.iload 6, 2) := by decide +kernel
theorem d_X12_step_302 : decode (mC M_X12_step) 302 = .ok (.iload 7, 2) := by decide +kernel
theorem d_X12_step_304 : decode (mC M_X12_step) 304 = .ok (.iastore, 1) := by decide +kernel
theorem d_X12_step_305 : decode (mC M_X12_step) 305 = .ok (.aload_n 0, 1) := by decide +kernel
theorem d_X12_step_306 : decode (mC M_X12_step) 306 = .ok (.getfield 130, 3) := by decide +kernel
theorem d_X12_step_309 : decode (mC M_X12_step) 309 = .ok (.iload 6, 2) := by decide +kernel
theorem d_X12_step_311 : decode (mC M_X12_step) 311 = .ok (.iload 7, 2) := by decide +kernel
theorem d_X12_step_313 : decode (mC M_X12_step) 313 = .ok (.aload_n 0, 1) := by decide +kernel
theorem d_X12_step_314 : decode (mC M_X12_step) 314 = .ok (.getfield 64, 3) := by decide +kernel
theorem d_X12_step_317 : decode (mC M_X12_step) 317 = .ok (.aload_n 0, 1) := by decide +kernel
theorem d_X12_step_318 : decode (mC M_X12_step) 318 = .ok (.getfield 39, 3) := by decide +kernel
theorem d_X12_step_321 : decode (mC M_X12_step) 321 = .ok (.iload 5, 2) := by decide +kernel
theorem d_X12_step_323 : decode (mC M_X12_step) 323 = .ok (.iaload, 1) := by decide +kernel
theorem d_X12_step_324 : decode (mC M_X12_step) 324 = .ok (.iaload, 1) := by decide +kernel
theorem d_X12_step_325 : decode (mC M_X12_step) 325 = .ok (.iadd, 1) := by decide +kernel
theorem d_X12_step_326 : decode (mC M_X12_step) 326 = .ok (.iastore, 1) := by decide +kernel
theorem d_X12_step_327 : decode (mC M_X12_step) 327 = .ok (.aload_n 0, 1) := by decide +kernel
theorem d_X12_step_328 : decode (mC M_X12_step) 328 = .ok (.getfield 133, 3) := by decide +kernel
theorem d_X12_step_331 : decode (mC M_X12_step) 331 = .ok (.iload 6, 2) := by decide +kernel
theorem d_X12_step_333 : decode (mC M_X12_step) 333 = .ok (.aload_n 0, 1) := by decide +kernel
theorem d_X12_step_334 : decode (mC M_X12_step) 334 = .ok (.getfield 345, 3) := by decide +kernel
theorem d_X12_step_337 : decode (mC M_X12_step) 337 = .ok (.iconst 1, 1) := by decide +kernel
theorem d_X12_step_338 : decode (mC M_X12_step) 338 = .ok (.isub, 1) := by decide +kernel
theorem d_X12_step_339 : decode (mC M_X12_step) 339 = .ok (.iastore, 1) := by decide +kernel
theorem d_X12_step_340 : decode (mC M_X12_step) 340 = .ok (.iload 4, 2) := by decide +kernel
theorem d_X12_step_342 : decode (mC M_X12_step) 342 = .ok (.aload_n 0, 1) := by decide +kernel
theorem d_X12_step_343 : decode (mC M_X12_step) 343 = .ok (.getfield 130, 3) := by decide +kernel
theorem d_X12_step_346 : decode (mC M_X12_step) 346 = .ok (.iload 6, 2) := by decide +kernel
theorem d_X12_step_348 : decode (mC M_X12_step) 348 = .ok (.iaload, 1) := by decide +kernel
theorem d_X12_step_349 : decode (mC M_X12_step) 349 = .ok (.invokestatic 365, 3) := by decide +kernel
theorem d_X12_step_352 : decode (mC M_X12_step) 352 = .ok (.istore 4, 2) := by decide +kernel
theorem d_X12_step_354 : decode (mC M_X12_step) 354 = .ok (.aload_n 0, 1) := by decide +kernel
theorem d_X12_step_355 : decode (mC M_X12_step) 355 = .ok (.dup, 1) := by decide +kernel
theorem d_X12_step_356 : decode (mC M_X12_step) 356 = .ok (.getfield 375, 3) := by decide +kernel
theorem d_X12_step_359 : decode (mC M_X12_step) 359 = .ok (.iconst 1, 1) := by decide +kernel
theorem d_X12_step_360 : decode (mC M_X12_step) 360 = .ok (.iadd, 1) := by decide +kernel
theorem d_X12_step_361 : decode (mC M_X12_step) 361 = .ok (.putfield 375, 3) := by decide +kernel
theorem d_X12_step_364 : decode (mC M_X12_step) 364 = .ok (.aload_n 0, 1) := by decide +kernel
theorem d_X12_step_365 : decode (mC M_X12_step) 365 = .ok (.getfield 33, 3) := by decide +kernel
theorem d_X12_step_368 : decode (mC M_X12_step) 368 = .ok (.iload 5, 2) := by decide +kernel
theorem d_X12_step_370 : decode (mC M_X12_step) 370 = .ok (.dup2, 1) := by decide +kernel
theorem d_X12_step_371 : decode (mC M_X12_step) 371 = .ok (.iaload, 1) := by decide +kernel
theorem d_X12_step_372 : decode (mC M_X12_step) 372 = .ok (.iconst 1, 1) := by decide +kernel
theorem d_X12_step_373 : decode (mC M_X12_step) 373 = .ok (.iadd, 1) := by decide +kernel
theorem d_X12_step_374 : decode (mC M_X12_step) 374 = .ok (.iastore, 1) := by decide +kernel
theorem d_X12_step_375 : decode (mC M_X12_step) 375 = .ok (.aload_n 0, 1) := by decide +kernel
theorem d_X12_step_376 : decode (mC M_X12_step) 376 = .ok (.getfield 36, 3) := by decide +kernel
theorem d_X12_step_379 : decode (mC M_X12_step) 379 = .ok (.iload 5, 2) := by decide +kernel
theorem d_X12_step_381 : decode (mC M_X12_step) 381 = .ok (.sipush 1440, 3) := by decide +kernel
theorem d_X12_step_384 : decode (mC M_X12_step) 384 = .ok (.aload_n 0, 1) := by decide +kernel
theorem d_X12_step_385 : decode (mC M_X12_step) 385 = .ok (.getfield 304, 3) := by decide +kernel
theorem d_X12_step_388 : decode (mC M_X12_step) 388 = .ok (.imul, 1) := by decide +kernel
theorem d_X12_step_389 : decode (mC M_X12_step) 389 = .ok (.aload_n 0, 1) := by decide +kernel
theorem d_X12_step_390 : decode (mC M_X12_step) 390 = .ok (.getfield 130, 3) := by decide +kernel
theorem d_X12_step_393 : decode (mC M_X12_step) 393 = .ok (.iload 6, 2) := by decide +kernel
theorem d_X12_step_395 : decode (mC M_X12_step) 395 = .ok (.iaload, 1) := by decide +kernel
theorem d_X12_step_396 : decode (mC M_X12_step) 396 = .ok (.iadd, 1) := by decide +kernel
theorem d_X12_step_397 : decode (mC M_X12_step) 397 = .ok (.sipush 660, 3) := by decide +kernel
theorem d_X12_step_400 : decode (mC M_X12_step) 400 = .ok (.iadd, 1) := by decide +kernel
theorem d_X12_step_401 : decode (mC M_X12_step) 401 = .ok (.iastore, 1) := by decide +kernel
theorem d_X12_step_402 : decode (mC M_X12_step) 402 = .ok (.aload_n 0, 1) := by decide +kernel
theorem d_X12_step_403 : decode (mC M_X12_step) 403 = .ok (.iload 5, 2) := by decide +kernel
theorem d_X12_step_405 : decode (mC M_X12_step) 405 = .ok (.aload_n 0, 1) := by decide +kernel
theorem d_X12_step_406 : decode (mC M_X12_step) 406 = .ok (.getfield 118, 3) := by decide +kernel
theorem d_X12_step_409 : decode (mC M_X12_step) 409 = .ok (.iload 6, 2) := by decide +kernel
theorem d_X12_step_411 : decode (mC M_X12_step) 411 = .ok (.iaload, 1) := by decide +kernel
theorem d_X12_step_412 : decode (mC M_X12_step) 412 = .ok (.invokevirtual 169, 3) := by decide +kernel
theorem d_X12_step_415 : decode (mC M_X12_step) 415 = .ok (.istore 8, 2) := by decide +kernel
theorem d_X12_step_417 : decode (mC M_X12_step) 417 = .ok (.iinc 5 1, 3) := by decide +kernel
theorem d_X12_step_420 : decode (mC M_X12_step) 420 = .ok (.goto (-266), 3) := by decide +kernel
theorem d_X12_step_423 : decode (mC M_X12_step) 423 = .ok (.aload_n 0, 1) := by decide +kernel
theorem d_X12_step_424 : decode (mC M_X12_step) 424 = .ok (.getfield 151, 3) := by decide +kernel
theorem d_X12_step_427 : decode (mC M_X12_step) 427 = .ok (.istore 5, 2) := by decide +kernel
theorem d_X12_step_429 : decode (mC M_X12_step) 429 = .ok (.iload 5, 2) := by decide +kernel
theorem d_X12_step_431 : decode (mC M_X12_step) 431 = .ok (.bipush 40, 2) := by decide +kernel
theorem d_X12_step_433 : decode (mC M_X12_step) 433 = .ok (.if_icmp .ge 25, 3) := by decide +kernel
theorem d_X12_step_436 : decode (mC M_X12_step) 436 = .ok (.aload_n 0, 1) := by decide +kernel
theorem d_X12_step_437 : decode (mC M_X12_step) 437 = .ok (.getfield 118, 3) := by decide +kernel
theorem d_X12_step_440 : decode (mC M_X12_step) 440 = .ok (.bipush 40, 2) := by decide +kernel
theorem d_X12_step_442 : decode (mC M_X12_step) 442 = .ok (.aload_n 0, 1) := by decide +kernel
theorem d_X12_step_443 : decode (mC M_X12_step) 443 = .ok (.getfield 304, 3) := by decide +kernel
theorem d_X12_step_446 : decode (mC M_X12_step) 446 = .ok (.imul, 1) := by decide +kernel
theorem d_X12_step_447 : decode (mC M_X12_step) 447 = .ok (.iload 5, 2) := by decide +kernel
theorem d_X12_step_449 : decode (mC M_X12_step) 449 = .ok (.iadd, 1) := by decide +kernel
theorem d_X12_step_450 : decode (mC M_X12_step) 450 = .ok (.iconst (-1), 1) := by decide +kernel
theorem d_X12_step_451 : decode (mC M_X12_step) 451 = .ok (.iastore, 1) := by decide +kernel
theorem d_X12_step_452 : decode (mC M_X12_step) 452 = .ok (.iinc 5 1, 3) := by decide +kernel
theorem d_X12_step_455 : decode (mC M_X12_step) 455 = .ok (.goto (-26), 3) := by decide +kernel
theorem d_X12_step_458 : decode (mC M_X12_step) 458 = .ok (.aload_n 0, 1) := by decide +kernel
theorem d_X12_step_459 : decode (mC M_X12_step) 459 = .ok (.dup, 1) := by decide +kernel
theorem d_X12_step_460 : decode (mC M_X12_step) 460 = .ok (.getfield 304, 3) := by decide +kernel
theorem d_X12_step_463 : decode (mC M_X12_step) 463 = .ok (.iconst 1, 1) := by decide +kernel
theorem d_X12_step_464 : decode (mC M_X12_step) 464 = .ok (.iadd, 1) := by decide +kernel
theorem d_X12_step_465 : decode (mC M_X12_step) 465 = .ok (.putfield 304, 3) := by decide +kernel
theorem d_X12_step_468 : decode (mC M_X12_step) 468 = .ok (.aload_n 0, 1) := by decide +kernel
theorem d_X12_step_469 : decode (mC M_X12_step) 469 = .ok (.iconst 0, 1) := by decide +kernel
theorem d_X12_step_470 : decode (mC M_X12_step) 470 = .ok (.putfield 298, 3) := by decide +kernel
theorem d_X12_step_473 : decode (mC M_X12_step) 473 = .ok (.aload_n 0, 1) := by decide +kernel
theorem d_X12_step_474 : decode (mC M_X12_step) 474 = .ok (.invokevirtual 301, 3) := by decide +kernel
theorem d_X12_step_477 : decode (mC M_X12_step) 477 = .ok (.iload 4, 2) := by decide +kernel
theorem d_X12_step_479 : decode (mC M_X12_step) 479 = .ok (.ireturn, 1) := by decide +kernel
theorem d_X12_tell_0 : decode (mC M_X12_tell) 0 = .ok (.aload_n 0, 1) := by decide +kernel
theorem d_X12_tell_1 : decode (mC M_X12_tell) 1 = .ok (.iconst 0, 1) := by decide +kernel
theorem d_X12_tell_2 : decode (mC M_X12_tell) 2 = .ok (.putfield 1, 3) := by decide +kernel
theorem d_X12_tell_5 : decode (mC M_X12_tell) 5 = .ok (.aload_n 0, 1) := by decide +kernel
theorem d_X12_tell_6 : decode (mC M_X12_tell) 6 = .ok (.iload_n 1, 1) := by decide +kernel
theorem d_X12_tell_7 : decode (mC M_X12_tell) 7 = .ok (.invokevirtual 159, 3) := by decide +kernel
theorem d_X12_tell_10 : decode (mC M_X12_tell) 10 = .ok (.ifCond .eq 23, 3) := by decide +kernel
theorem d_X12_tell_13 : decode (mC M_X12_tell) 13 = .ok (.iload_n 2, 1) := by decide +kernel
theorem d_X12_tell_14 : decode (mC M_X12_tell) 14 = .ok (.iconst 0, 1) := by decide +kernel
theorem d_X12_tell_15 : decode (mC M_X12_tell) 15 = .ok (.bipush 19, 2) := by decide +kernel
theorem d_X12_tell_17 : decode (mC M_X12_tell) 17 = .ok (.invokestatic 154, 3) := by decide +kernel
theorem d_X12_tell_20 : decode (mC M_X12_tell) 20 = .ok (.ifCond .eq 13, 3) := by decide +kernel
theorem d_X12_tell_23 : decode (mC M_X12_tell) 23 = .ok (.aload_n 0, 1) := by decide +kernel
theorem d_X12_tell_24 : decode (mC M_X12_tell) 24 = .ok (.getfield 166, 3) := by decide +kernel
theorem d_X12_tell_27 : decode (mC M_X12_tell) 27 = .ok (.sipush 200, 3) := by decide +kernel
theorem d_X12_tell_30 : decode (mC M_X12_tell) 30 = .ok (.if_icmp .ne 5, 3) := by decide +kernel
theorem d_X12_tell_33 : decode (mC M_X12_tell) 33 = .ok (.iconst (-1), 1) := by decide +kernel
theorem d_X12_tell_34 : decode (mC M_X12_tell) 34 = .ok (.ireturn, 1) := by decide +kernel
theorem d_X12_tell_35 : decode (mC M_X12_tell) 35 = .ok (.aload_n 0, 1) := by decide +kernel
theorem d_X12_tell_36 : decode (mC M_X12_tell) 36 = .ok (.dup, 1) := by decide +kernel
theorem d_X12_tell_37 : decode (mC M_X12_tell) 37 = .ok (.getfield 166, 3) := by decide +kernel
theorem d_X12_tell_40 : decode (mC M_X12_tell) 40 = .ok (.iconst 1, 1) := by decide +kernel
theorem d_X12_tell_41 : decode (mC M_X12_tell) 41 = .ok (.iadd, 1) := by decide +kernel
theorem d_X12_tell_42 : decode (mC M_X12_tell) 42 = .ok (.putfield 166, 3) := by decide +kernel
theorem d_X12_tell_45 : decode (mC M_X12_tell) 45 = .ok (.aload_n 0, 1) := by decide +kernel
theorem d_X12_tell_46 : decode (mC M_X12_tell) 46 = .ok (.iload_n 1, 1) := by decide +kernel
theorem d_X12_tell_47 : decode (mC M_X12_tell) 47 = .ok (.iload_n 2, 1) := by decide +kernel
theorem d_X12_tell_48 : decode (mC M_X12_tell) 48 = .ok (.invokevirtual 169, 3) := by decide +kernel
theorem d_X12_tell_51 : decode (mC M_X12_tell) 51 = .ok (.ireturn, 1) := by decide +kernel
theorem d_X12_thrown_0 : decode (mC M_X12_thrown) 0 = .ok (.aload_n 0, 1) := by decide +kernel
theorem d_X12_thrown_1 : decode (mC M_X12_thrown) 1 = .ok (.getfield 1, 3) := by decide +kernel
theorem d_X12_thrown_4 : decode (mC M_X12_thrown) 4 = .ok (.ireturn, 1) := by decide +kernel
theorem d_X12_times_0 : decode (mC M_X12_times) 0 = .ok (.iconst 0, 1) := by decide +kernel
theorem d_X12_times_1 : decode (mC M_X12_times) 1 = .ok (.istore 4, 2) := by decide +kernel
theorem d_X12_times_3 : decode (mC M_X12_times) 3 = .ok (.iconst 0, 1) := by decide +kernel
theorem d_X12_times_4 : decode (mC M_X12_times) 4 = .ok (.istore 5, 2) := by decide +kernel
theorem d_X12_times_6 : decode (mC M_X12_times) 6 = .ok (.iload 5, 2) := by decide +kernel
theorem d_X12_times_8 : decode (mC M_X12_times) 8 = .ok (.iload_n 3, 1) := by decide +kernel
theorem d_X12_times_9 : decode (mC M_X12_times) 9 = .ok (.if_icmp .ge 34, 3) := by decide +kernel
theorem d_X12_times_12 : decode (mC M_X12_times) 12 = .ok (.aload_n 0, 1) := by decide +kernel
theorem d_X12_times_13 : decode (mC M_X12_times) 13 = .ok (.getfield 42, 3) := by decide +kernel
theorem d_X12_times_16 : decode (mC M_X12_times) 16 = .ok (.iload 5, 2) := by decide +kernel
theorem d_X12_times_18 : decode (mC M_X12_times) 18 = .ok (.iaload, 1) := by decide +kernel
theorem d_X12_times_19 : decode (mC M_X12_times) 19 = .ok (.iload_n 1, 1) := by decide +kernel
theorem d_X12_times_20 : decode (mC M_X12_times) 20 = .ok (.if_icmp .ne 17, 3) := by decide +kernel
theorem d_X12_times_23 : decode (mC M_X12_times) 23 = .ok (.aload_n 0, 1) := by decide +kernel
theorem d_X12_times_24 : decode (mC M_X12_times) 24 = .ok (.getfield 45, 3) := by decide +kernel
theorem d_X12_times_27 : decode (mC M_X12_times) 27 = .ok (.iload 5, 2) := by decide +kernel
theorem d_X12_times_29 : decode (mC M_X12_times) 29 = .ok (.iaload, 1) := by decide +kernel
theorem d_X12_times_30 : decode (mC M_X12_times) 30 = .ok (.iload_n 2, 1) := by decide +kernel
theorem d_X12_times_31 : decode (mC M_X12_times) 31 = .ok (.if_icmp .ne 6, 3) := by decide +kernel
theorem d_X12_times_34 : decode (mC M_X12_times) 34 = .ok (.iinc 4 1, 3) := by decide +kernel
theorem d_X12_times_37 : decode (mC M_X12_times) 37 = .ok (.iinc 5 1, 3) := by decide +kernel
theorem d_X12_times_40 : decode (mC M_X12_times) 40 = .ok (.goto (-34), 3) := by decide +kernel
theorem d_X12_times_43 : decode (mC M_X12_times) 43 = .ok (.iload 4, 2) := by decide +kernel
theorem d_X12_times_45 : decode (mC M_X12_times) 45 = .ok (.ireturn, 1) := by decide +kernel
theorem d_X12_wants_0 : decode (mC M_X12_wants) 0 = .ok (.aload_n 0, 1) := by decide +kernel
theorem d_X12_wants_1 : decode (mC M_X12_wants) 1 = .ok (.getfield 221, 3) := by decide +kernel
theorem d_X12_wants_4 : decode (mC M_X12_wants) 4 = .ok (.ifCond .eq 4, 3) := by decide +kernel
theorem d_X12_wants_7 : decode (mC M_X12_wants) 7 = .ok (.return_, 1) := by decide +kernel
theorem d_X12_wants_8 : decode (mC M_X12_wants) 8 = .ok (.aload_n 0, 1) := by decide +kernel
theorem d_X12_wants_9 : decode (mC M_X12_wants) 9 = .ok (.iload_n 1, 1) := by decide +kernel
theorem d_X12_wants_10 : decode (mC M_X12_wants) 10 = .ok (.invokevirtual 227, 3) := by decide +kernel
theorem d_X12_wants_13 : decode (mC M_X12_wants) 13 = .ok (.ifCond .eq 10, 3) := by decide +kernel
theorem d_X12_wants_16 : decode (mC M_X12_wants) 16 = .ok (.aload_n 0, 1) := by decide +kernel
theorem d_X12_wants_17 : decode (mC M_X12_wants) 17 = .ok (.invokevirtual 208, 3) := by decide +kernel
theorem d_X12_wants_20 : decode (mC M_X12_wants) 20 = .ok (.goto 8, 3) := by decide +kernel
theorem d_X12_wants_23 : decode (mC M_X12_wants) 23 = .ok (.aload_n 0, 1) := by decide +kernel
theorem d_X12_wants_24 : decode (mC M_X12_wants) 24 = .ok (.iconst 1, 1) := by decide +kernel
theorem d_X12_wants_25 : decode (mC M_X12_wants) 25 = .ok (.invokevirtual 230, 3) := by decide +kernel
theorem d_X12_wants_28 : decode (mC M_X12_wants) 28 = .ok (.return_, 1) := by decide +kernel
theorem d_X12_wants__0 : decode (mC M_X12_wants_) 0 = .ok (.aload_n 0, 1) := by decide +kernel
theorem d_X12_wants__1 : decode (mC M_X12_wants_) 1 = .ok (.getfield 221, 3) := by decide +kernel
theorem d_X12_wants__4 : decode (mC M_X12_wants_) 4 = .ok (.ifCond .eq 4, 3) := by decide +kernel
theorem d_X12_wants__7 : decode (mC M_X12_wants_) 7 = .ok (.return_, 1) := by decide +kernel
theorem d_X12_wants__8 : decode (mC M_X12_wants_) 8 = .ok (.aload_n 0, 1) := by decide +kernel
theorem d_X12_wants__9 : decode (mC M_X12_wants_) 9 = .ok (.aload_n 1, 1) := by decide +kernel
theorem d_X12_wants__10 : decode (mC M_X12_wants_) 10 = .ok (.invokevirtual 234, 3) := by decide +kernel
theorem d_X12_wants__13 : decode (mC M_X12_wants_) 13 = .ok (.ifCond .eq 10, 3) := by decide +kernel
theorem d_X12_wants__16 : decode (mC M_X12_wants_) 16 = .ok (.aload_n 0, 1) := by decide +kernel
theorem d_X12_wants__17 : decode (mC M_X12_wants_) 17 = .ok (.invokevirtual 208, 3) := by decide +kernel
theorem d_X12_wants__20 : decode (mC M_X12_wants_) 20 = .ok (.goto 8, 3) := by decide +kernel
theorem d_X12_wants__23 : decode (mC M_X12_wants_) 23 = .ok (.aload_n 0, 1) := by decide +kernel
theorem d_X12_wants__24 : decode (mC M_X12_wants_) 24 = .ok (.iconst 1, 1) := by decide +kernel
theorem d_X12_wants__25 : decode (mC M_X12_wants_) 25 = .ok (.invokevirtual 230, 3) := by decide +kernel
theorem d_X12_wants__28 : decode (mC M_X12_wants_) 28 = .ok (.return_, 1) := by decide +kernel
theorem d_X12_within_0 : decode (mC M_X12_within) 0 = .ok (.iload_n 0, 1) := by decide +kernel
theorem d_X12_within_1 : decode (mC M_X12_within) 1 = .ok (.iload_n 1, 1) := by decide +kernel
theorem d_X12_within_2 : decode (mC M_X12_within) 2 = .ok (.if_icmp .lt 12, 3) := by decide +kernel
theorem d_X12_within_5 : decode (mC M_X12_within) 5 = .ok (.iload_n 0, 1) := by decide +kernel
theorem d_X12_within_6 : decode (mC M_X12_within) 6 = .ok (.iload_n 2, 1) := by decide +kernel
theorem d_X12_within_7 : decode (mC M_X12_within) 7 = .ok (.if_icmp .gt 7, 3) := by decide +kernel
theorem d_X12_within_10 : decode (mC M_X12_within) 10 = .ok (.iconst 1, 1) := by decide +kernel
theorem d_X12_within_11 : decode (mC M_X12_within) 11 = .ok (.goto 4, 3) := by decide +kernel
theorem d_X12_within_14 : decode (mC M_X12_within) 14 = .ok (.iconst 0, 1) := by decide +kernel
theorem d_X12_within_15 : decode (mC M_X12_within) 15 = .ok (.ireturn, 1) := by decide +kernel
theorem d_X12_worth_0 : decode (mC M_X12_worth) 0 = .ok (.iconst 0, 1) := by decide +kernel
theorem d_X12_worth_1 : decode (mC M_X12_worth) 1 = .ok (.istore 4, 2) := by decide +kernel
theorem d_X12_worth_3 : decode (mC M_X12_worth) 3 = .ok (.bipush 8, 2) := by decide +kernel
theorem d_X12_worth_5 : decode (mC M_X12_worth) 5 = .ok (.iload_n 1, 1) := by decide +kernel
theorem d_X12_worth_6 : decode (mC M_X12_worth) 6 = .ok (.imul, 1) := by decide +kernel
theorem d_X12_worth_7 : decode (mC M_X12_worth) 7 = .ok (.istore 5, 2) := by decide +kernel
theorem d_X12_worth_9 : decode (mC M_X12_worth) 9 = .ok (.iload_n 1, 1) := by decide +kernel
theorem d_X12_worth_10 : decode (mC M_X12_worth) 10 = .ok (.iconst (-1), 1) := by decide +kernel
theorem d_X12_worth_11 : decode (mC M_X12_worth) 11 = .ok (.if_icmp .eq 159, 3) := by decide +kernel
theorem d_X12_worth_14 : decode (mC M_X12_worth) 14 = .ok (.iload 5, 2) := by decide +kernel
theorem d_X12_worth_16 : decode (mC M_X12_worth) 16 = .ok (.bipush 8, 2) := by decide +kernel
theorem d_X12_worth_18 : decode (mC M_X12_worth) 18 = .ok (.iload_n 1, 1) := by decide +kernel
theorem d_X12_worth_19 : decode (mC M_X12_worth) 19 = .ok (.imul, 1) := by decide +kernel
theorem d_X12_worth_20 : decode (mC M_X12_worth) 20 = .ok (.aload_n 0, 1) := by decide +kernel
theorem d_X12_worth_21 : decode (mC M_X12_worth) 21 = .ok (.getfield 103, 3) := by decide +kernel
theorem d_X12_worth_24 : decode (mC M_X12_worth) 24 = .ok (.iload_n 1, 1) := by decide +kernel
theorem d_X12_worth_25 : decode (mC M_X12_worth) 25 = .ok (.iaload, 1) := by decide +kernel
theorem d_X12_worth_26 : decode (mC M_X12_worth) 26 = .ok (.iadd, 1) := by decide +kernel
theorem d_X12_worth_27 : decode (mC M_X12_worth) 27 = .ok (.if_icmp .ge 143, 3) := by decide +kernel
theorem d_X12_worth_30 : decode (mC M_X12_worth) 30 = .ok (.aload_n 0, 1) := by decide +kernel
theorem d_X12_worth_31 : decode (mC M_X12_worth) 31 = .ok (.getfield 109, 3) := by decide +kernel
theorem d_X12_worth_34 : decode (mC M_X12_worth) 34 = .ok (.iload 5, 2) := by decide +kernel
theorem d_X12_worth_36 : decode (mC M_X12_worth) 36 = .ok (.iaload, 1) := by decide +kernel
theorem d_X12_worth_37 : decode (mC M_X12_worth) 37 = .ok (.istore 6, 2) := by decide +kernel
theorem d_X12_worth_39 : decode (mC M_X12_worth) 39 = .ok (.aload_n 0, 1) := by decide +kernel
theorem d_X12_worth_40 : decode (mC M_X12_worth) 40 = .ok (.getfield 112, 3) := by decide +kernel
theorem d_X12_worth_43 : decode (mC M_X12_worth) 43 = .ok (.iload 5, 2) := by decide +kernel
theorem d_X12_worth_45 : decode (mC M_X12_worth) 45 = .ok (.iaload, 1) := by decide +kernel
theorem d_X12_worth_46 : decode (mC M_X12_worth) 46 = .ok (.istore 7, 2) := by decide +kernel
theorem d_X12_worth_48 : decode (mC M_X12_worth) 48 = .ok (.aload_n 0, 1) := by decide +kernel
theorem d_X12_worth_49 : decode (mC M_X12_worth) 49 = .ok (.getfield 106, 3) := by decide +kernel
theorem d_X12_worth_52 : decode (mC M_X12_worth) 52 = .ok (.iload 5, 2) := by decide +kernel
theorem d_X12_worth_54 : decode (mC M_X12_worth) 54 = .ok (.iaload, 1) := by decide +kernel
theorem d_X12_worth_55 : decode (mC M_X12_worth) 55 = .ok (.tableswitch 87 0 2 #[25, 35, 62], 25) := by decide +kernel
theorem d_X12_worth_80 : decode (mC M_X12_worth) 80 = .ok (.iload 4, 2) := by decide +kernel
theorem d_X12_worth_82 : decode (mC M_X12_worth) 82 = .ok (.iload 7, 2) := by decide +kernel
theorem d_X12_worth_84 : decode (mC M_X12_worth) 84 = .ok (.iadd, 1) := by decide +kernel
theorem d_X12_worth_85 : decode (mC M_X12_worth) 85 = .ok (.istore 4, 2) := by decide +kernel
theorem d_X12_worth_87 : decode (mC M_X12_worth) 87 = .ok (.goto 77, 3) := by decide +kernel
theorem d_X12_worth_90 : decode (mC M_X12_worth) 90 = .ok (.iload 4, 2) := by decide +kernel
theorem d_X12_worth_92 : decode (mC M_X12_worth) 92 = .ok (.iload 7, 2) := by decide +kernel
theorem d_X12_worth_94 : decode (mC M_X12_worth) 94 = .ok (.iload_n 3, 1) := by decide +kernel
theorem d_X12_worth_95 : decode (mC M_X12_worth) 95 = .ok (.iload_n 2, 1) := by decide +kernel
theorem d_X12_worth_96 : decode (mC M_X12_worth) 96 = .ok (.isub, 1) := by decide +kernel
theorem d_X12_worth_97 : decode (mC M_X12_worth) 97 = .ok (.iload 6, 2) := by decide +kernel
theorem d_X12_worth_99 : decode (mC M_X12_worth) 99 = .ok (.isub, 1) := by decide +kernel
theorem d_X12_worth_100 : decode (mC M_X12_worth) 100 = .ok (.aload_n 0, 1) := by decide +kernel
theorem d_X12_worth_101 : decode (mC M_X12_worth) 101 = .ok (.getfield 115, 3) := by decide +kernel
theorem d_X12_worth_104 : decode (mC M_X12_worth) 104 = .ok (.iload 5, 2) := by decide +kernel
theorem d_X12_worth_106 : decode (mC M_X12_worth) 106 = .ok (.baload, 1) := by decide +kernel
theorem d_X12_worth_107 : decode (mC M_X12_worth) 107 = .ok (.invokestatic 357, 3) := by decide +kernel
theorem d_X12_worth_110 : decode (mC M_X12_worth) 110 = .ok (.imul, 1) := by decide +kernel
theorem d_X12_worth_111 : decode (mC M_X12_worth) 111 = .ok (.iadd, 1) := by decide +kernel
theorem d_X12_worth_112 : decode (mC M_X12_worth) 112 = .ok (.istore 4, 2) := by decide +kernel
theorem d_X12_worth_114 : decode (mC M_X12_worth) 114 = .ok (.goto 50, 3) := by decide +kernel
theorem d_X12_worth_117 : decode (mC M_X12_worth) 117 = .ok (.iload 4, 2) := by decide +kernel
theorem d_X12_worth_119 : decode (mC M_X12_worth) 119 = .ok (.iload 7, 2) := by decide +kernel
theorem d_X12_worth_121 : decode (mC M_X12_worth) 121 = .ok (.iload 6, 2) := by decide +kernel
theorem d_X12_worth_123 : decode (mC M_X12_worth) 123 = .ok (.iload_n 2, 1) := by decide +kernel
theorem d_X12_worth_124 : decode (mC M_X12_worth) 124 = .ok (.isub, 1) := by decide +kernel
theorem d_X12_worth_125 : decode (mC M_X12_worth) 125 = .ok (.aload_n 0, 1) := by decide +kernel
theorem d_X12_worth_126 : decode (mC M_X12_worth) 126 = .ok (.getfield 115, 3) := by decide +kernel
theorem d_X12_worth_129 : decode (mC M_X12_worth) 129 = .ok (.iload 5, 2) := by decide +kernel
theorem d_X12_worth_131 : decode (mC M_X12_worth) 131 = .ok (.baload, 1) := by decide +kernel
theorem d_X12_worth_132 : decode (mC M_X12_worth) 132 = .ok (.invokestatic 357, 3) := by decide +kernel
theorem d_X12_worth_135 : decode (mC M_X12_worth) 135 = .ok (.imul, 1) := by decide +kernel
theorem d_X12_worth_136 : decode (mC M_X12_worth) 136 = .ok (.iadd, 1) := by decide +kernel
theorem d_X12_worth_137 : decode (mC M_X12_worth) 137 = .ok (.istore 4, 2) := by decide +kernel
theorem d_X12_worth_139 : decode (mC M_X12_worth) 139 = .ok (.goto 25, 3) := by decide +kernel
theorem d_X12_worth_142 : decode (mC M_X12_worth) 142 = .ok (.iload 4, 2) := by decide +kernel
theorem d_X12_worth_144 : decode (mC M_X12_worth) 144 = .ok (.iload 7, 2) := by decide +kernel
theorem d_X12_worth_146 : decode (mC M_X12_worth) 146 = .ok (.iload_n 3, 1) := by decide +kernel
theorem d_X12_worth_147 : decode (mC M_X12_worth) 147 = .ok (.iload 6, 2) := by decide +kernel
theorem d_X12_worth_149 : decode (mC M_X12_worth) 149 = .ok (.isub, 1) := by decide +kernel
theorem d_X12_worth_150 : decode (mC M_X12_worth) 150 = .ok (.aload_n 0, 1) := by decide +kernel
theorem d_X12_worth_151 : decode (mC M_X12_worth) 151 = .ok (.getfield 115, 3) := by decide +kernel
theorem d_X12_worth_154 : decode (mC M_X12_worth) 154 = .ok (.iload 5, 2) := by decide +kernel
theorem d_X12_worth_156 : decode (mC M_X12_worth) 156 = .ok (.baload, 1) := by decide +kernel
theorem d_X12_worth_157 : decode (mC M_X12_worth) 157 = .ok (.invokestatic 357, 3) := by decide +kernel
theorem d_X12_worth_160 : decode (mC M_X12_worth) 160 = .ok (.imul, 1) := by decide +kernel
theorem d_X12_worth_161 : decode (mC M_X12_worth) 161 = .ok (.iadd, 1) := by decide +kernel
theorem d_X12_worth_162 : decode (mC M_X12_worth) 162 = .ok (.istore 4, 2) := by decide +kernel
theorem d_X12_worth_164 : decode (mC M_X12_worth) 164 = .ok (.iinc 5 1, 3) := by decide +kernel
theorem d_X12_worth_167 : decode (mC M_X12_worth) 167 = .ok (.goto (-158), 3) := by decide +kernel
theorem d_X12_worth_170 : decode (mC M_X12_worth) 170 = .ok (.iload 4, 2) := by decide +kernel
theorem d_X12_worth_172 : decode (mC M_X12_worth) 172 = .ok (.ireturn, 1) := by decide +kernel
theorem d_X1_answer_0 : decode (mC M_X1_answer) 0 = .ok (.iload_n 1, 1) := by decide +kernel
theorem d_X1_answer_1 : decode (mC M_X1_answer) 1 = .ok (.tableswitch 60 0 4 #[35, 40, 45, 50, 55], 35) := by decide +kernel
theorem d_X1_answer_36 : decode (mC M_X1_answer) 36 = .ok (.aload_n 0, 1) := by decide +kernel
theorem d_X1_answer_37 : decode (mC M_X1_answer) 37 = .ok (.getfield 76, 3) := by decide +kernel
theorem d_X1_answer_40 : decode (mC M_X1_answer) 40 = .ok (.ireturn, 1) := by decide +kernel
theorem d_X1_answer_41 : decode (mC M_X1_answer) 41 = .ok (.aload_n 0, 1) := by decide +kernel
theorem d_X1_answer_42 : decode (mC M_X1_answer) 42 = .ok (.getfield 46, 3) := by decide +kernel
theorem d_X1_answer_45 : decode (mC M_X1_answer) 45 = .ok (.ireturn, 1) := by decide +kernel
theorem d_X1_answer_46 : decode (mC M_X1_answer) 46 = .ok (.aload_n 0, 1) := by decide +kernel
theorem d_X1_answer_47 : decode (mC M_X1_answer) 47 = .ok (.getfield 79, 3) := by decide +kernel
theorem d_X1_answer_50 : decode (mC M_X1_answer) 50 = .ok (.ireturn, 1) := by decide +kernel
theorem d_X1_answer_51 : decode (mC M_X1_answer) 51 = .ok (.aload_n 0, 1) := by decide +kernel
theorem d_X1_answer_52 : decode (mC M_X1_answer) 52 = .ok (.getfield 82, 3) := by decide +kernel
theorem d_X1_answer_55 : decode (mC M_X1_answer) 55 = .ok (.ireturn, 1) := by decide +kernel
theorem d_X1_answer_56 : decode (mC M_X1_answer) 56 = .ok (.aload_n 0, 1) := by decide +kernel
theorem d_X1_answer_57 : decode (mC M_X1_answer) 57 = .ok (.getfield 85, 3) := by decide +kernel
theorem d_X1_answer_60 : decode (mC M_X1_answer) 60 = .ok (.ireturn, 1) := by decide +kernel
theorem d_X1_answer_61 : decode (mC M_X1_answer) 61 = .ok (.iconst (-1), 1) := by decide +kernel
theorem d_X1_answer_62 : decode (mC M_X1_answer) 62 = .ok (.ireturn, 1) := by decide +kernel
theorem d_X1_highest_0 : decode (mC M_X1_highest) 0 = .ok (.iload_n 0, 1) := by decide +kernel
theorem d_X1_highest_1 : decode (mC M_X1_highest) 1 = .ok (.tableswitch 35 1 3 #[27, 30, 32], 27) := by decide +kernel
theorem d_X1_highest_28 : decode (mC M_X1_highest) 28 = .ok (.bipush 15, 2) := by decide +kernel
theorem d_X1_highest_30 : decode (mC M_X1_highest) 30 = .ok (.ireturn, 1) := by decide +kernel
theorem d_X1_highest_31 : decode (mC M_X1_highest) 31 = .ok (.iconst 3, 1) := by decide +kernel
theorem d_X1_highest_32 : decode (mC M_X1_highest) 32 = .ok (.ireturn, 1) := by decide +kernel
theorem d_X1_highest_33 : decode (mC M_X1_highest) 33 = .ok (.bipush 19, 2) := by decide +kernel
theorem d_X1_highest_35 : decode (mC M_X1_highest) 35 = .ok (.ireturn, 1) := by decide +kernel
theorem d_X1_highest_36 : decode (mC M_X1_highest) 36 = .ok (.ldc 21, 2) := by decide +kernel
theorem d_X1_highest_38 : decode (mC M_X1_highest) 38 = .ok (.ireturn, 1) := by decide +kernel
theorem d_X1_holds_0 : decode (mC M_X1_holds) 0 = .ok (.iload_n 0, 1) := by decide +kernel
theorem d_X1_holds_1 : decode (mC M_X1_holds) 1 = .ok (.tableswitch 137 1 7 #[43, 61, 75, 81, 95, 109, 123], 43) := by decide +kernel
theorem d_X1_holds_44 : decode (mC M_X1_holds) 44 = .ok (.aload_n 2, 1) := by decide +kernel
theorem d_X1_holds_45 : decode (mC M_X1_holds) 45 = .ok (.getfield 60, 3) := by decide +kernel
theorem d_X1_holds_48 : decode (mC M_X1_holds) 48 = .ok (.iload_n 1, 1) := by decide +kernel
theorem d_X1_holds_49 : decode (mC M_X1_holds) 49 = .ok (.ishr, 1) := by decide +kernel
theorem d_X1_holds_50 : decode (mC M_X1_holds) 50 = .ok (.iconst 1, 1) := by decide +kernel
theorem d_X1_holds_51 : decode (mC M_X1_holds) 51 = .ok (.iand, 1) := by decide +kernel
theorem d_X1_holds_52 : decode (mC M_X1_holds) 52 = .ok (.iconst 1, 1) := by decide +kernel
theorem d_X1_holds_53 : decode (mC M_X1_holds) 53 = .ok (.if_icmp .ne 7, 3) := by decide +kernel
theorem d_X1_holds_56 : decode (mC M_X1_holds) 56 = .ok (.iconst 1, 1) := by decide +kernel
theorem d_X1_holds_57 : decode (mC M_X1_holds) 57 = .ok (.goto 4, 3) := by decide +kernel
theorem d_X1_holds_60 : decode (mC M_X1_holds) 60 = .ok (.iconst 0, 1) := by decide +kernel
theorem d_X1_holds_61 : decode (mC M_X1_holds) 61 = .ok (.ireturn, 1) := by decide +kernel
theorem d_X1_holds_62 : decode (mC M_X1_holds) 62 = .ok (.aload_n 2, 1) := by decide +kernel
theorem d_X1_holds_63 : decode (mC M_X1_holds) 63 = .ok (.getfield 63, 3) := by decide +kernel
theorem d_X1_holds_66 : decode (mC M_X1_holds) 66 = .ok (.iload_n 1, 1) := by decide +kernel
theorem d_X1_holds_67 : decode (mC M_X1_holds) 67 = .ok (.if_icmp .ne 7, 3) := by decide +kernel
theorem d_X1_holds_70 : decode (mC M_X1_holds) 70 = .ok (.iconst 1, 1) := by decide +kernel
theorem d_X1_holds_71 : decode (mC M_X1_holds) 71 = .ok (.goto 4, 3) := by decide +kernel
theorem d_X1_holds_74 : decode (mC M_X1_holds) 74 = .ok (.iconst 0, 1) := by decide +kernel
theorem d_X1_holds_75 : decode (mC M_X1_holds) 75 = .ok (.ireturn, 1) := by decide +kernel
theorem d_X1_holds_76 : decode (mC M_X1_holds) 76 = .ok (.aload_n 2, 1) := by decide +kernel
theorem d_X1_holds_77 : decode (mC M_X1_holds) 77 = .ok (.iload_n 1, 1) := by decide +kernel
theorem d_X1_holds_78 : decode (mC M_X1_holds) 78 = .ok (.invokevirtual 66, 3) := by decide +kernel
theorem d_X1_holds_81 : decode (mC M_X1_holds) 81 = .ok (.ireturn, 1) := by decide +kernel
theorem d_X1_holds_82 : decode (mC M_X1_holds) 82 = .ok (.aload_n 2, 1) := by decide +kernel
theorem d_X1_holds_83 : decode (mC M_X1_holds) 83 = .ok (.getfield 70, 3) := by decide +kernel
theorem d_X1_holds_86 : decode (mC M_X1_holds) 86 = .ok (.iload_n 1, 1) := by decide +kernel
theorem d_X1_holds_87 : decode (mC M_X1_holds) 87 = .ok (.if_icmp .ge 7, 3) := by decide +kernel
theorem d_X1_holds_90 : decode (mC M_X1_holds) 90 = .ok (.iconst 1, 1) := by decide +kernel
theorem d_X1_holds_91 : decode (mC M_X1_holds) 91 = .ok (.goto 4, 3) := by decide +kernel
theorem d_X1_holds_94 : decode (mC M_X1_holds) 94 = .ok (.iconst 0, 1) := by decide +kernel
theorem d_X1_holds_95 : decode (mC M_X1_holds) 95 = .ok (.ireturn, 1) := by decide +kernel
theorem d_X1_holds_96 : decode (mC M_X1_holds) 96 = .ok (.aload_n 2, 1) := by decide +kernel
theorem d_X1_holds_97 : decode (mC M_X1_holds) 97 = .ok (.getfield 70, 3) := by decide +kernel
theorem d_X1_holds_100 : decode (mC M_X1_holds) 100 = .ok (.iload_n 1, 1) := by decide +kernel
theorem d_X1_holds_101 : decode (mC M_X1_holds) 101 = .ok (.if_icmp .le 7, 3) := by decide +kernel
theorem d_X1_holds_104 : decode (mC M_X1_holds) 104 = .ok (.iconst 1, 1) := by decide +kernel
theorem d_X1_holds_105 : decode (mC M_X1_holds) 105 = .ok (.goto 4, 3) := by decide +kernel
theorem d_X1_holds_108 : decode (mC M_X1_holds) 108 = .ok (.iconst 0, 1) := by decide +kernel
theorem d_X1_holds_109 : decode (mC M_X1_holds) 109 = .ok (.ireturn, 1) := by decide +kernel
theorem d_X1_holds_110 : decode (mC M_X1_holds) 110 = .ok (.aload_n 2, 1) := by decide +kernel
theorem d_X1_holds_111 : decode (mC M_X1_holds) 111 = .ok (.getfield 73, 3) := by decide +kernel
theorem d_X1_holds_114 : decode (mC M_X1_holds) 114 = .ok (.iload_n 1, 1) := by decide +kernel
theorem d_X1_holds_115 : decode (mC M_X1_holds) 115 = .ok (.if_icmp .ge 7, 3) := by decide +kernel
theorem d_X1_holds_118 : decode (mC M_X1_holds) 118 = .ok (.iconst 1, 1) := by decide +kernel
theorem d_X1_holds_119 : decode (mC M_X1_holds) 119 = .ok (.goto 4, 3) := by decide +kernel
theorem d_X1_holds_122 : decode (mC M_X1_holds) 122 = .ok (.iconst 0, 1) := by decide +kernel
theorem d_X1_holds_123 : decode (mC M_X1_holds) 123 = .ok (.ireturn, 1) := by decide +kernel
theorem d_X1_holds_124 : decode (mC M_X1_holds) 124 = .ok (.aload_n 2, 1) := by decide +kernel
theorem d_X1_holds_125 : decode (mC M_X1_holds) 125 = .ok (.getfield 73, 3) := by decide +kernel
theorem d_X1_holds_128 : decode (mC M_X1_holds) 128 = .ok (.iload_n 1, 1) := by decide +kernel
theorem d_X1_holds_129 : decode (mC M_X1_holds) 129 = .ok (.if_icmp .le 7, 3) := by decide +kernel
theorem d_X1_holds_132 : decode (mC M_X1_holds) 132 = .ok (.iconst 1, 1) := by decide +kernel
theorem d_X1_holds_133 : decode (mC M_X1_holds) 133 = .ok (.goto 4, 3) := by decide +kernel
theorem d_X1_holds_136 : decode (mC M_X1_holds) 136 = .ok (.iconst 0, 1) := by decide +kernel
theorem d_X1_holds_137 : decode (mC M_X1_holds) 137 = .ok (.ireturn, 1) := by decide +kernel
theorem d_X1_holds_138 : decode (mC M_X1_holds) 138 = .ok (.iconst 1, 1) := by decide +kernel
theorem d_X1_holds_139 : decode (mC M_X1_holds) 139 = .ok (.ireturn, 1) := by decide +kernel
theorem d_X1_init_0 : decode (mC M_X1_init) 0 = .ok (.aload_n 0, 1) := by decide +kernel
theorem d_X1_init_1 : decode (mC M_X1_init) 1 = .ok (.invokespecial 3, 3) := by decide +kernel
theorem d_X1_init_4 : decode (mC M_X1_init) 4 = .ok (.aload_n 0, 1) := by decide +kernel
theorem d_X1_init_5 : decode (mC M_X1_init) 5 = .ok (.iconst 0, 1) := by decide +kernel
theorem d_X1_init_6 : decode (mC M_X1_init) 6 = .ok (.newarray .int, 2) := by decide +kernel
theorem d_X1_init_8 : decode (mC M_X1_init) 8 = .ok (.putfield 9, 3) := by decide +kernel
theorem d_X1_init_11 : decode (mC M_X1_init) 11 = .ok (.aload_n 0, 1) := by decide +kernel
theorem d_X1_init_12 : decode (mC M_X1_init) 12 = .ok (.iload_n 1, 1) := by decide +kernel
theorem d_X1_init_13 : decode (mC M_X1_init) 13 = .ok (.putfield 15, 3) := by decide +kernel
theorem d_X1_init_16 : decode (mC M_X1_init) 16 = .ok (.return_, 1) := by decide +kernel
theorem d_X1_isOpenTo_0 : decode (mC M_X1_isOpenTo) 0 = .ok (.aload_n 1, 1) := by decide +kernel
theorem d_X1_isOpenTo_1 : decode (mC M_X1_isOpenTo) 1 = .ok (.getfield 37, 3) := by decide +kernel
theorem d_X1_isOpenTo_4 : decode (mC M_X1_isOpenTo) 4 = .ok (.ifCond .ne 32, 3) := by decide +kernel
theorem d_X1_isOpenTo_7 : decode (mC M_X1_isOpenTo) 7 = .ok (.aload_n 1, 1) := by decide +kernel
theorem d_X1_isOpenTo_8 : decode (mC M_X1_isOpenTo) 8 = .ok (.getfield 43, 3) := by decide +kernel
theorem d_X1_isOpenTo_11 : decode (mC M_X1_isOpenTo) 11 = .ok (.sipush 1440, 3) := by decide +kernel
theorem d_X1_isOpenTo_14 : decode (mC M_X1_isOpenTo) 14 = .ok (.iload_n 2, 1) := by decide +kernel
theorem d_X1_isOpenTo_15 : decode (mC M_X1_isOpenTo) 15 = .ok (.imul, 1) := by decide +kernel
theorem d_X1_isOpenTo_16 : decode (mC M_X1_isOpenTo) 16 = .ok (.aload_n 0, 1) := by decide +kernel
theorem d_X1_isOpenTo_17 : decode (mC M_X1_isOpenTo) 17 = .ok (.getfield 46, 3) := by decide +kernel
theorem d_X1_isOpenTo_20 : decode (mC M_X1_isOpenTo) 20 = .ok (.iadd, 1) := by decide +kernel
theorem d_X1_isOpenTo_21 : decode (mC M_X1_isOpenTo) 21 = .ok (.if_icmp .gt 15, 3) := by decide +kernel
theorem d_X1_isOpenTo_24 : decode (mC M_X1_isOpenTo) 24 = .ok (.aload_n 0, 1) := by decide +kernel
theorem d_X1_isOpenTo_25 : decode (mC M_X1_isOpenTo) 25 = .ok (.aload_n 1, 1) := by decide +kernel
theorem d_X1_isOpenTo_26 : decode (mC M_X1_isOpenTo) 26 = .ok (.invokevirtual 49, 3) := by decide +kernel
theorem d_X1_isOpenTo_29 : decode (mC M_X1_isOpenTo) 29 = .ok (.ifCond .eq 7, 3) := by decide +kernel
theorem d_X1_isOpenTo_32 : decode (mC M_X1_isOpenTo) 32 = .ok (.iconst 1, 1) := by decide +kernel
theorem d_X1_isOpenTo_33 : decode (mC M_X1_isOpenTo) 33 = .ok (.goto 4, 3) := by decide +kernel
theorem d_X1_isOpenTo_36 : decode (mC M_X1_isOpenTo) 36 = .ok (.iconst 0, 1) := by decide +kernel
theorem d_X1_isOpenTo_37 : decode (mC M_X1_isOpenTo) 37 = .ok (.ireturn, 1) := by decide +kernel
theorem d_X1_suits_0 : decode (mC M_X1_suits) 0 = .ok (.lconst 0, 1) := by decide +kernel
theorem d_X1_suits_1 : decode (mC M_X1_suits) 1 = .ok (.lstore_n 2, 1) := by decide +kernel
theorem d_X1_suits_2 : decode (mC M_X1_suits) 2 = .ok (.iconst 0, 1) := by decide +kernel
theorem d_X1_suits_3 : decode (mC M_X1_suits) 3 = .ok (.istore 4, 2) := by decide +kernel
theorem d_X1_suits_5 : decode (mC M_X1_suits) 5 = .ok (.iload 4, 2) := by decide +kernel
theorem d_X1_suits_7 : decode (mC M_X1_suits) 7 = .ok (.aload_n 0, 1) := by decide +kernel
theorem d_X1_suits_8 : decode (mC M_X1_suits) 8 = .ok (.getfield 9, 3) := by decide +kernel
theorem d_X1_suits_11 : decode (mC M_X1_suits) 11 = .ok (.arraylength, 1) := by decide +kernel
theorem d_X1_suits_12 : decode (mC M_X1_suits) 12 = .ok (.if_icmp .ge 108, 3) := by decide +kernel
theorem d_X1_suits_15 : decode (mC M_X1_suits) 15 = .ok (.aload_n 0, 1) := by decide +kernel
theorem d_X1_suits_16 : decode (mC M_X1_suits) 16 = .ok (.getfield 9, 3) := by decide +kernel
theorem d_X1_suits_19 : decode (mC M_X1_suits) 19 = .ok (.iload 4, 2) := by decide +kernel
theorem d_X1_suits_21 : decode (mC M_X1_suits) 21 = .ok (.iaload, 1) := by decide +kernel
theorem d_X1_suits_22 : decode (mC M_X1_suits) 22 = .ok (.ldc 53, 2) := by decide +kernel
theorem d_X1_suits_24 : decode (mC M_X1_suits) 24 = .ok (.idiv, 1) := by decide +kernel
theorem d_X1_suits_25 : decode (mC M_X1_suits) 25 = .ok (.istore 5, 2) := by decide +kernel
theorem d_X1_suits_27 : decode (mC M_X1_suits) 27 = .ok (.lload_n 2, 1) := by decide +kernel
theorem d_X1_suits_28 : decode (mC M_X1_suits) 28 = .ok (.lconst 1, 1) := by decide +kernel
theorem d_X1_suits_29 : decode (mC M_X1_suits) 29 = .ok (.land, 1) := by decide +kernel
theorem d_X1_suits_30 : decode (mC M_X1_suits) 30 = .ok (.lstore 6, 2) := by decide +kernel
theorem d_X1_suits_32 : decode (mC M_X1_suits) 32 = .ok (.iload 5, 2) := by decide +kernel
theorem d_X1_suits_34 : decode (mC M_X1_suits) 34 = .ok (.bipush 8, 2) := by decide +kernel
theorem d_X1_suits_36 : decode (mC M_X1_suits) 36 = .ok (.if_icmp .ne 10, 3) := by decide +kernel
theorem d_X1_suits_39 : decode (mC M_X1_suits) 39 = .ok (.lload_n 2, 1) := by decide +kernel
theorem d_X1_suits_40 : decode (mC M_X1_suits) 40 = .ok (.lconst 1, 1) := by decide +kernel
theorem d_X1_suits_41 : decode (mC M_X1_suits) 41 = .ok (.lxor, 1) := by decide +kernel
theorem d_X1_suits_42 : decode (mC M_X1_suits) 42 = .ok (.lstore_n 2, 1) := by decide +kernel
theorem d_X1_suits_43 : decode (mC M_X1_suits) 43 = .ok (.goto 71, 3) := by decide +kernel
theorem d_X1_suits_46 : decode (mC M_X1_suits) 46 = .ok (.iload 5, 2) := by decide +kernel
theorem d_X1_suits_48 : decode (mC M_X1_suits) 48 = .ok (.bipush 9, 2) := by decide +kernel
theorem d_X1_suits_50 : decode (mC M_X1_suits) 50 = .ok (.if_icmp .ne 17, 3) := by decide +kernel
theorem d_X1_suits_53 : decode (mC M_X1_suits) 53 = .ok (.lload_n 2, 1) := by decide +kernel
theorem d_X1_suits_54 : decode (mC M_X1_suits) 54 = .ok (.iconst 1, 1) := by decide +kernel
theorem d_X1_suits_55 : decode (mC M_X1_suits) 55 = .ok (.lushr, 1) := by decide +kernel
theorem d_X1_suits_56 : decode (mC M_X1_suits) 56 = .ok (.lload 6, 2) := by decide +kernel
theorem d_X1_suits_58 : decode (mC M_X1_suits) 58 = .ok (.ldc2_w 54, 3) := by decide +kernel
theorem d_X1_suits_61 : decode (mC M_X1_suits) 61 = .ok (.lor, 1) := by decide +kernel
theorem d_X1_suits_62 : decode (mC M_X1_suits) 62 = .ok (.land, 1) := by decide +kernel
theorem d_X1_suits_63 : decode (mC M_X1_suits) 63 = .ok (.lstore_n 2, 1) := by decide +kernel
theorem d_X1_suits_64 : decode (mC M_X1_suits) 64 = .ok (.goto 50, 3) := by decide +kernel
theorem d_X1_suits_67 : decode (mC M_X1_suits) 67 = .ok (.iload 5, 2) := by decide +kernel
theorem d_X1_suits_69 : decode (mC M_X1_suits) 69 = .ok (.bipush 10, 2) := by decide +kernel
theorem d_X1_suits_71 : decode (mC M_X1_suits) 71 = .ok (.if_icmp .ne 13, 3) := by decide +kernel
theorem d_X1_suits_74 : decode (mC M_X1_suits) 74 = .ok (.lload_n 2, 1) := by decide +kernel
theorem d_X1_suits_75 : decode (mC M_X1_suits) 75 = .ok (.iconst 1, 1) := by decide +kernel
theorem d_X1_suits_76 : decode (mC M_X1_suits) 76 = .ok (.lushr, 1) := by decide +kernel
theorem d_X1_suits_77 : decode (mC M_X1_suits) 77 = .ok (.lload 6, 2) := by decide +kernel
theorem d_X1_suits_79 : decode (mC M_X1_suits) 79 = .ok (.lor, 1) := by decide +kernel
theorem d_X1_suits_80 : decode (mC M_X1_suits) 80 = .ok (.lstore_n 2, 1) := by decide +kernel
theorem d_X1_suits_81 : decode (mC M_X1_suits) 81 = .ok (.goto 33, 3) := by decide +kernel
theorem d_X1_suits_84 : decode (mC M_X1_suits) 84 = .ok (.lload_n 2, 1) := by decide +kernel
theorem d_X1_suits_85 : decode (mC M_X1_suits) 85 = .ok (.iconst 1, 1) := by decide +kernel
theorem d_X1_suits_86 : decode (mC M_X1_suits) 86 = .ok (.lshl, 1) := by decide +kernel
theorem d_X1_suits_87 : decode (mC M_X1_suits) 87 = .ok (.iload 5, 2) := by decide +kernel
theorem d_X1_suits_89 : decode (mC M_X1_suits) 89 = .ok (.aload_n 0, 1) := by decide +kernel
theorem d_X1_suits_90 : decode (mC M_X1_suits) 90 = .ok (.getfield 9, 3) := by decide +kernel
theorem d_X1_suits_93 : decode (mC M_X1_suits) 93 = .ok (.iload 4, 2) := by decide +kernel
theorem d_X1_suits_95 : decode (mC M_X1_suits) 95 = .ok (.iaload, 1) := by decide +kernel
theorem d_X1_suits_96 : decode (mC M_X1_suits) 96 = .ok (.ldc 53, 2) := by decide +kernel
theorem d_X1_suits_98 : decode (mC M_X1_suits) 98 = .ok (.irem, 1) := by decide +kernel
theorem d_X1_suits_99 : decode (mC M_X1_suits) 99 = .ok (.aload_n 1, 1) := by decide +kernel
theorem d_X1_suits_100 : decode (mC M_X1_suits) 100 = .ok (.invokestatic 56, 3) := by decide +kernel
theorem d_X1_suits_103 : decode (mC M_X1_suits) 103 = .ok (.ifCond .eq 7, 3) := by decide +kernel
theorem d_X1_suits_106 : decode (mC M_X1_suits) 106 = .ok (.iconst 1, 1) := by decide +kernel
theorem d_X1_suits_107 : decode (mC M_X1_suits) 107 = .ok (.goto 4, 3) := by decide +kernel
theorem d_X1_suits_110 : decode (mC M_X1_suits) 110 = .ok (.iconst 0, 1) := by decide +kernel
theorem d_X1_suits_111 : decode (mC M_X1_suits) 111 = .ok (.i2l, 1) := by decide +kernel
theorem d_X1_suits_112 : decode (mC M_X1_suits) 112 = .ok (.lor, 1) := by decide +kernel
theorem d_X1_suits_113 : decode (mC M_X1_suits) 113 = .ok (.lstore_n 2, 1) := by decide +kernel
theorem d_X1_suits_114 : decode (mC M_X1_suits) 114 = .ok (.iinc 4 1, 3) := by decide +kernel
theorem d_X1_suits_117 : decode (mC M_X1_suits) 117 = .ok (.goto (-112), 3) := by decide +kernel
theorem d_X1_suits_120 : decode (mC M_X1_suits) 120 = .ok (.lload_n 2, 1) := by decide +kernel
theorem d_X1_suits_121 : decode (mC M_X1_suits) 121 = .ok (.lconst 1, 1) := by decide +kernel
theorem d_X1_suits_122 : decode (mC M_X1_suits) 122 = .ok (.land, 1) := by decide +kernel
theorem d_X1_suits_123 : decode (mC M_X1_suits) 123 = .ok (.lconst 1, 1) := by decide +kernel
theorem d_X1_suits_124 : decode (mC M_X1_suits) 124 = .ok (.lcmp, 1) := by decide +kernel
theorem d_X1_suits_125 : decode (mC M_X1_suits) 125 = .ok (.ifCond .ne 7, 3) := by decide +kernel
theorem d_X1_suits_128 : decode (mC M_X1_suits) 128 = .ok (.iconst 1, 1) := by decide +kernel
theorem d_X1_suits_129 : decode (mC M_X1_suits) 129 = .ok (.goto 4, 3) := by decide +kernel
theorem d_X1_suits_132 : decode (mC M_X1_suits) 132 = .ok (.iconst 0, 1) := by decide +kernel
theorem d_X1_suits_133 : decode (mC M_X1_suits) 133 = .ok (.ireturn, 1) := by decide +kernel
theorem d_X1_takeSteps_0 : decode (mC M_X1_takeSteps) 0 = .ok (.aload_n 0, 1) := by decide +kernel
theorem d_X1_takeSteps_1 : decode (mC M_X1_takeSteps) 1 = .ok (.aload_n 1, 1) := by decide +kernel
theorem d_X1_takeSteps_2 : decode (mC M_X1_takeSteps) 2 = .ok (.getfield 22, 3) := by decide +kernel
theorem d_X1_takeSteps_5 : decode (mC M_X1_takeSteps) 5 = .ok (.iconst 0, 1) := by decide +kernel
theorem d_X1_takeSteps_6 : decode (mC M_X1_takeSteps) 6 = .ok (.invokestatic 27, 3) := by decide +kernel
theorem d_X1_takeSteps_9 : decode (mC M_X1_takeSteps) 9 = .ok (.newarray .int, 2) := by decide +kernel
theorem d_X1_takeSteps_11 : decode (mC M_X1_takeSteps) 11 = .ok (.putfield 9, 3) := by decide +kernel
theorem d_X1_takeSteps_14 : decode (mC M_X1_takeSteps) 14 = .ok (.iconst 0, 1) := by decide +kernel
theorem d_X1_takeSteps_15 : decode (mC M_X1_takeSteps) 15 = .ok (.istore_n 2, 1) := by decide +kernel
theorem d_X1_takeSteps_16 : decode (mC M_X1_takeSteps) 16 = .ok (.iload_n 2, 1) := by decide +kernel
theorem d_X1_takeSteps_17 : decode (mC M_X1_takeSteps) 17 = .ok (.aload_n 0, 1) := by decide +kernel
theorem d_X1_takeSteps_18 : decode (mC M_X1_takeSteps) 18 = .ok (.getfield 9, 3) := by decide +kernel
theorem d_X1_takeSteps_21 : decode (mC M_X1_takeSteps) 21 = .ok (.arraylength, 1) := by decide +kernel
theorem d_X1_takeSteps_22 : decode (mC M_X1_takeSteps) 22 = .ok (.if_icmp .ge 20, 3) := by decide +kernel
theorem d_X1_takeSteps_25 : decode (mC M_X1_takeSteps) 25 = .ok (.aload_n 0, 1) := by decide +kernel
theorem d_X1_takeSteps_26 : decode (mC M_X1_takeSteps) 26 = .ok (.getfield 9, 3) := by decide +kernel
theorem d_X1_takeSteps_29 : decode (mC M_X1_takeSteps) 29 = .ok (.iload_n 2, 1) := by decide +kernel
theorem d_X1_takeSteps_30 : decode (mC M_X1_takeSteps) 30 = .ok (.aload_n 1, 1) := by decide +kernel
theorem d_X1_takeSteps_31 : decode (mC M_X1_takeSteps) 31 = .ok (.iload_n 2, 1) := by decide +kernel
theorem d_X1_takeSteps_32 : decode (mC M_X1_takeSteps) 32 = .ok (.invokevirtual 33, 3) := by decide +kernel
theorem d_X1_takeSteps_35 : decode (mC M_X1_takeSteps) 35 = .ok (.iastore, 1) := by decide +kernel
theorem d_X1_takeSteps_36 : decode (mC M_X1_takeSteps) 36 = .ok (.iinc 2 1, 3) := by decide +kernel
theorem d_X1_takeSteps_39 : decode (mC M_X1_takeSteps) 39 = .ok (.goto (-23), 3) := by decide +kernel
theorem d_X1_takeSteps_42 : decode (mC M_X1_takeSteps) 42 = .ok (.return_, 1) := by decide +kernel
theorem d_X2_init_0 : decode (mC M_X2_init) 0 = .ok (.aload_n 0, 1) := by decide +kernel
theorem d_X2_init_1 : decode (mC M_X2_init) 1 = .ok (.invokespecial 3, 3) := by decide +kernel
theorem d_X2_init_4 : decode (mC M_X2_init) 4 = .ok (.aload_n 0, 1) := by decide +kernel
theorem d_X2_init_5 : decode (mC M_X2_init) 5 = .ok (.new 9, 3) := by decide +kernel
theorem d_X2_init_8 : decode (mC M_X2_init) 8 = .ok (.dup, 1) := by decide +kernel
theorem d_X2_init_9 : decode (mC M_X2_init) 9 = .ok (.sipush 1000, 3) := by decide +kernel
theorem d_X2_init_12 : decode (mC M_X2_init) 12 = .ok (.invokespecial 11, 3) := by decide +kernel
theorem d_X2_init_15 : decode (mC M_X2_init) 15 = .ok (.putfield 14, 3) := by decide +kernel
theorem d_X2_init_18 : decode (mC M_X2_init) 18 = .ok (.aload_n 0, 1) := by decide +kernel
theorem d_X2_init_19 : decode (mC M_X2_init) 19 = .ok (.aload_n 1, 1) := by decide +kernel
theorem d_X2_init_20 : decode (mC M_X2_init) 20 = .ok (.putfield 20, 3) := by decide +kernel
theorem d_X2_init_23 : decode (mC M_X2_init) 23 = .ok (.return_, 1) := by decide +kernel
theorem d_X2_markHere_0 : decode (mC M_X2_markHere) 0 = .ok (.aload_n 0, 1) := by decide +kernel
theorem d_X2_markHere_1 : decode (mC M_X2_markHere) 1 = .ok (.getfield 20, 3) := by decide +kernel
theorem d_X2_markHere_4 : decode (mC M_X2_markHere) 4 = .ok (.ldc 129, 2) := by decide +kernel
theorem d_X2_markHere_6 : decode (mC M_X2_markHere) 6 = .ok (.invokevirtual 38, 3) := by decide +kernel
theorem d_X2_markHere_9 : decode (mC M_X2_markHere) 9 = .ok (.ifCond .eq 5, 3) := by decide +kernel
theorem d_X2_markHere_12 : decode (mC M_X2_markHere) 12 = .ok (.iconst 0, 1) := by decide +kernel
theorem d_X2_markHere_13 : decode (mC M_X2_markHere) 13 = .ok (.ireturn, 1) := by decide +kernel
theorem d_X2_markHere_14 : decode (mC M_X2_markHere) 14 = .ok (.aload_n 0, 1) := by decide +kernel
theorem d_X2_markHere_15 : decode (mC M_X2_markHere) 15 = .ok (.getfield 20, 3) := by decide +kernel
theorem d_X2_markHere_18 : decode (mC M_X2_markHere) 18 = .ok (.ldc 131, 2) := by decide +kernel
theorem d_X2_markHere_20 : decode (mC M_X2_markHere) 20 = .ok (.invokevirtual 38, 3) := by decide +kernel
theorem d_X2_markHere_23 : decode (mC M_X2_markHere) 23 = .ok (.ifCond .eq 5, 3) := by decide +kernel
theorem d_X2_markHere_26 : decode (mC M_X2_markHere) 26 = .ok (.iconst 1, 1) := by decide +kernel
theorem d_X2_markHere_27 : decode (mC M_X2_markHere) 27 = .ok (.ireturn, 1) := by decide +kernel
theorem d_X2_markHere_28 : decode (mC M_X2_markHere) 28 = .ok (.aload_n 0, 1) := by decide +kernel
theorem d_X2_markHere_29 : decode (mC M_X2_markHere) 29 = .ok (.getfield 20, 3) := by decide +kernel
theorem d_X2_markHere_32 : decode (mC M_X2_markHere) 32 = .ok (.ldc 133, 2) := by decide +kernel
theorem d_X2_markHere_34 : decode (mC M_X2_markHere) 34 = .ok (.invokevirtual 38, 3) := by decide +kernel
theorem d_X2_markHere_37 : decode (mC M_X2_markHere) 37 = .ok (.ifCond .eq 5, 3) := by decide +kernel
theorem d_X2_markHere_40 : decode (mC M_X2_markHere) 40 = .ok (.iconst 2, 1) := by decide +kernel
theorem d_X2_markHere_41 : decode (mC M_X2_markHere) 41 = .ok (.ireturn, 1) := by decide +kernel
theorem d_X2_markHere_42 : decode (mC M_X2_markHere) 42 = .ok (.aload_n 0, 1) := by decide +kernel
theorem d_X2_markHere_43 : decode (mC M_X2_markHere) 43 = .ok (.getfield 20, 3) := by decide +kernel
theorem d_X2_markHere_46 : decode (mC M_X2_markHere) 46 = .ok (.ldc 135, 2) := by decide +kernel
theorem d_X2_markHere_48 : decode (mC M_X2_markHere) 48 = .ok (.invokevirtual 38, 3) := by decide +kernel
theorem d_X2_markHere_51 : decode (mC M_X2_markHere) 51 = .ok (.ifCond .eq 5, 3) := by decide +kernel
theorem d_X2_markHere_54 : decode (mC M_X2_markHere) 54 = .ok (.iconst 3, 1) := by decide +kernel
theorem d_X2_markHere_55 : decode (mC M_X2_markHere) 55 = .ok (.ireturn, 1) := by decide +kernel
theorem d_X2_markHere_56 : decode (mC M_X2_markHere) 56 = .ok (.aload_n 0, 1) := by decide +kernel
theorem d_X2_markHere_57 : decode (mC M_X2_markHere) 57 = .ok (.getfield 20, 3) := by decide +kernel
theorem d_X2_markHere_60 : decode (mC M_X2_markHere) 60 = .ok (.ldc 137, 2) := by decide +kernel
theorem d_X2_markHere_62 : decode (mC M_X2_markHere) 62 = .ok (.invokevirtual 38, 3) := by decide +kernel
theorem d_X2_markHere_65 : decode (mC M_X2_markHere) 65 = .ok (.ifCond .eq 5, 3) := by decide +kernel
theorem d_X2_markHere_68 : decode (mC M_X2_markHere) 68 = .ok (.iconst 4, 1) := by decide +kernel
theorem d_X2_markHere_69 : decode (mC M_X2_markHere) 69 = .ok (.ireturn, 1) := by decide +kernel
theorem d_X2_markHere_70 : decode (mC M_X2_markHere) 70 = .ok (.aload_n 0, 1) := by decide +kernel
theorem d_X2_markHere_71 : decode (mC M_X2_markHere) 71 = .ok (.getfield 20, 3) := by decide +kernel
theorem d_X2_markHere_74 : decode (mC M_X2_markHere) 74 = .ok (.ldc 139, 2) := by decide +kernel
theorem d_X2_markHere_76 : decode (mC M_X2_markHere) 76 = .ok (.invokevirtual 38, 3) := by decide +kernel
theorem d_X2_markHere_79 : decode (mC M_X2_markHere) 79 = .ok (.ifCond .eq 8, 3) := by decide +kernel
theorem d_X2_markHere_82 : decode (mC M_X2_markHere) 82 = .ok (.bipush 6, 2) := by decide +kernel
theorem d_X2_markHere_84 : decode (mC M_X2_markHere) 84 = .ok (.goto 4, 3) := by decide +kernel
theorem d_X2_markHere_87 : decode (mC M_X2_markHere) 87 = .ok (.iconst (-1), 1) := by decide +kernel
theorem d_X2_markHere_88 : decode (mC M_X2_markHere) 88 = .ok (.ireturn, 1) := by decide +kernel
theorem d_X2_read_0 : decode (mC M_X2_read) 0 = .ok (.new 24, 3) := by decide +kernel
theorem d_X2_read_3 : decode (mC M_X2_read) 3 = .ok (.dup, 1) := by decide +kernel
theorem d_X2_read_4 : decode (mC M_X2_read) 4 = .ok (.invokespecial 26, 3) := by decide +kernel
theorem d_X2_read_7 : decode (mC M_X2_read) 7 = .ok (.astore_n 1, 1) := by decide +kernel
theorem d_X2_read_8 : decode (mC M_X2_read) 8 = .ok (.aload_n 0, 1) := by decide +kernel
theorem d_X2_read_9 : decode (mC M_X2_read) 9 = .ok (.getfield 20, 3) := by decide +kernel
theorem d_X2_read_12 : decode (mC M_X2_read) 12 = .ok (.invokevirtual 27, 3) := by decide +kernel
theorem d_X2_read_15 : decode (mC M_X2_read) 15 = .ok (.iconst 0, 1) := by decide +kernel
theorem d_X2_read_16 : decode (mC M_X2_read) 16 = .ok (.istore_n 2, 1) := by decide +kernel
theorem d_X2_read_17 : decode (mC M_X2_read) 17 = .ok (.iload_n 2, 1) := by decide +kernel
theorem d_X2_read_18 : decode (mC M_X2_read) 18 = .ok (.bipush 6, 2) := by decide +kernel
theorem d_X2_read_20 : decode (mC M_X2_read) 20 = .ok (.if_icmp .gt 109, 3) := by decide +kernel
theorem d_X2_read_23 : decode (mC M_X2_read) 23 = .ok (.aload_n 0, 1) := by decide +kernel
theorem d_X2_read_24 : decode (mC M_X2_read) 24 = .ok (.getfield 20, 3) := by decide +kernel
theorem d_X2_read_27 : decode (mC M_X2_read) 27 = .ok (.invokevirtual 32, 3) := by decide +kernel
theorem d_X2_read_30 : decode (mC M_X2_read) 30 = .ok (.ifCond .ne 99, 3) := by decide +kernel
theorem d_X2_read_33 : decode (mC M_X2_read) 33 = .ok (.iload_n 2, 1) := by decide +kernel
theorem d_X2_read_34 : decode (mC M_X2_read) 34 = .ok (.bipush 6, 2) := by decide +kernel
theorem d_X2_read_36 : decode (mC M_X2_read) 36 = .ok (.if_icmp .ne 26, 3) := by decide +kernel
theorem d_X2_read_39 : decode (mC M_X2_read) 39 = .ok (.aload_n 0, 1) := by decide +kernel
theorem d_X2_read_40 : decode (mC M_X2_read) 40 = .ok (.getfield 20, 3) := by decide +kernel
theorem d_X2_read_43 : decode (mC M_X2_read) 43 = .ok (.ldc 36, 2) := by decide +kernel
theorem d_X2_read_45 : decode (mC M_X2_read) 45 = .ok (.invokevirtual 38, 3) := by decide +kernel
theorem d_X2_read_48 : decode (mC M_X2_read) 48 = .ok (.ifCond .eq 14, 3) := by decide +kernel
theorem d_X2_read_51 : decode (mC M_X2_read) 51 = .ok (.aload_n 0, 1) := by decide +kernel
theorem d_X2_read_52 : decode (mC M_X2_read) 52 = .ok (.getfield 20, 3) := by decide +kernel
theorem d_X2_read_55 : decode (mC M_X2_read) 55 = .ok (.iconst 2, 1) := by decide +kernel
theorem d_X2_read_56 : decode (mC M_X2_read) 56 = .ok (.invokevirtual 42, 3) := by decide +kernel
theorem d_X2_read_59 : decode (mC M_X2_read) 59 = .ok (.pop, 1) := by decide +kernel
theorem d_X2_read_60 : decode (mC M_X2_read) 60 = .ok (.aconst_null, 1) := by decide +kernel
theorem d_X2_read_61 : decode (mC M_X2_read) 61 = .ok (.areturn, 1) := by decide +kernel
theorem d_X2_read_62 : decode (mC M_X2_read) 62 = .ok (.new 46, 3) := by decide +kernel
theorem d_X2_read_65 : decode (mC M_X2_read) 65 = .ok (.dup, 1) := by decide +kernel
theorem d_X2_read_66 : decode (mC M_X2_read) 66 = .ok (.iload_n 2, 1) := by decide +kernel
theorem d_X2_read_67 : decode (mC M_X2_read) 67 = .ok (.invokespecial 48, 3) := by decide +kernel
theorem d_X2_read_70 : decode (mC M_X2_read) 70 = .ok (.astore_n 3, 1) := by decide +kernel
theorem d_X2_read_71 : decode (mC M_X2_read) 71 = .ok (.aload_n 0, 1) := by decide +kernel
theorem d_X2_read_72 : decode (mC M_X2_read) 72 = .ok (.getfield 14, 3) := by decide +kernel
theorem d_X2_read_75 : decode (mC M_X2_read) 75 = .ok (.iconst 0, 1) := by decide +kernel
theorem d_X2_read_76 : decode (mC M_X2_read) 76 = .ok (.putfield 49, 3) := by decide +kernel
theorem d_X2_read_79 : decode (mC M_X2_read) 79 = .ok (.aload_n 0, 1) := by decide +kernel
theorem d_X2_read_80 : decode (mC M_X2_read) 80 = .ok (.aload_n 3, 1) := by decide +kernel
theorem d_X2_read_81 : decode (mC M_X2_read) 81 = .ok (.invokevirtual 53, 3) := by decide +kernel
theorem d_X2_read_84 : decode (mC M_X2_read) 84 = .ok (.ifCond .eq 23, 3) := by decide +kernel
theorem d_X2_read_87 : decode (mC M_X2_read) 87 = .ok (.aload_n 0, 1) := by decide +kernel
theorem d_X2_read_88 : decode (mC M_X2_read) 88 = .ok (.iconst 0, 1) := by decide +kernel
theorem d_X2_read_89 : decode (mC M_X2_read) 89 = .ok (.invokevirtual 57, 3) := by decide +kernel
theorem d_X2_read_92 : decode (mC M_X2_read) 92 = .ok (.ifCond .eq 15, 3) := by decide +kernel
theorem d_X2_read_95 : decode (mC M_X2_read) 95 = .ok (.aload_n 0, 1) := by decide +kernel
theorem d_X2_read_96 : decode (mC M_X2_read) 96 = .ok (.getfield 20, 3) := by decide +kernel
theorem d_X2_read_99 : decode (mC M_X2_read) 99 = .ok (.bipush 59, 2) := by decide +kernel
theorem d_X2_read_101 : decode (mC M_X2_read) 101 = .ok (.invokevirtual 60, 3) := by decide +kernel
theorem d_X2_read_104 : decode (mC M_X2_read) 104 = .ok (.ifCond .ne 5, 3) := by decide +kernel
theorem d_X2_read_107 : decode (mC M_X2_read) 107 = .ok (.aconst_null, 1) := by decide +kernel
theorem d_X2_read_108 : decode (mC M_X2_read) 108 = .ok (.areturn, 1) := by decide +kernel
theorem d_X2_read_109 : decode (mC M_X2_read) 109 = .ok (.aload_n 3, 1) := by decide +kernel
theorem d_X2_read_110 : decode (mC M_X2_read) 110 = .ok (.aload_n 0, 1) := by decide +kernel
theorem d_X2_read_111 : decode (mC M_X2_read) 111 = .ok (.getfield 14, 3) := by decide +kernel
theorem d_X2_read_114 : decode (mC M_X2_read) 114 = .ok (.invokevirtual 64, 3) := by decide +kernel
theorem d_X2_read_117 : decode (mC M_X2_read) 117 = .ok (.aload_n 1, 1) := by decide +kernel
theorem d_X2_read_118 : decode (mC M_X2_read) 118 = .ok (.aload_n 3, 1) := by decide +kernel
theorem d_X2_read_119 : decode (mC M_X2_read) 119 = .ok (.invokevirtual 68, 3) := by decide +kernel
theorem d_X2_read_122 : decode (mC M_X2_read) 122 = .ok (.pop, 1) := by decide +kernel
theorem d_X2_read_123 : decode (mC M_X2_read) 123 = .ok (.iinc 2 1, 3) := by decide +kernel
theorem d_X2_read_126 : decode (mC M_X2_read) 126 = .ok (.goto (-109), 3) := by decide +kernel
theorem d_X2_read_129 : decode (mC M_X2_read) 129 = .ok (.aload_n 1, 1) := by decide +kernel
theorem d_X2_read_130 : decode (mC M_X2_read) 130 = .ok (.areturn, 1) := by decide +kernel
theorem d_X2_readAny_0 : decode (mC M_X2_readAny) 0 = .ok (.iconst 0, 1) := by decide +kernel
theorem d_X2_readAny_1 : decode (mC M_X2_readAny) 1 = .ok (.istore_n 2, 1) := by decide +kernel
theorem d_X2_readAny_2 : decode (mC M_X2_readAny) 2 = .ok (.iconst 0, 1) := by decide +kernel
theorem d_X2_readAny_3 : decode (mC M_X2_readAny) 3 = .ok (.istore_n 3, 1) := by decide +kernel
theorem d_X2_readAny_4 : decode (mC M_X2_readAny) 4 = .ok (.iconst 0, 1) := by decide +kernel
theorem d_X2_readAny_5 : decode (mC M_X2_readAny) 5 = .ok (.istore 4, 2) := by decide +kernel
theorem d_X2_readAny_7 : decode (mC M_X2_readAny) 7 = .ok (.iload 4, 2) := by decide +kernel
theorem d_X2_readAny_9 : decode (mC M_X2_readAny) 9 = .ok (.sipush 1000, 3) := by decide +kernel
theorem d_X2_readAny_12 : decode (mC M_X2_readAny) 12 = .ok (.if_icmp .ge 94, 3) := by decide +kernel
theorem d_X2_readAny_15 : decode (mC M_X2_readAny) 15 = .ok (.aload_n 0, 1) := by decide +kernel
theorem d_X2_readAny_16 : decode (mC M_X2_readAny) 16 = .ok (.iload_n 1, 1) := by decide +kernel
theorem d_X2_readAny_17 : decode (mC M_X2_readAny) 17 = .ok (.invokevirtual 93, 3) := by decide +kernel
theorem d_X2_readAny_20 : decode (mC M_X2_readAny) 20 = .ok (.ifCond .ne 5, 3) := by decide +kernel
theorem d_X2_readAny_23 : decode (mC M_X2_readAny) 23 = .ok (.iconst 0, 1) := by decide +kernel
theorem d_X2_readAny_24 : decode (mC M_X2_readAny) 24 = .ok (.ireturn, 1) := by decide +kernel
theorem d_X2_readAny_25 : decode (mC M_X2_readAny) 25 = .ok (.iload_n 3, 1) := by decide +kernel
theorem d_X2_readAny_26 : decode (mC M_X2_readAny) 26 = .ok (.ifCond .eq 12, 3) := by decide +kernel
theorem d_X2_readAny_29 : decode (mC M_X2_readAny) 29 = .ok (.aload_n 0, 1) := by decide +kernel
theorem d_X2_readAny_30 : decode (mC M_X2_readAny) 30 = .ok (.getfield 14, 3) := by decide +kernel
theorem d_X2_readAny_33 : decode (mC M_X2_readAny) 33 = .ok (.ldc 96, 2) := by decide +kernel
theorem d_X2_readAny_35 : decode (mC M_X2_readAny) 35 = .ok (.invokevirtual 97, 3) := by decide +kernel
theorem d_X2_readAny_38 : decode (mC M_X2_readAny) 38 = .ok (.aload_n 0, 1) := by decide +kernel
theorem d_X2_readAny_39 : decode (mC M_X2_readAny) 39 = .ok (.getfield 20, 3) := by decide +kernel
theorem d_X2_readAny_42 : decode (mC M_X2_readAny) 42 = .ok (.ldc 99, 2) := by decide +kernel
theorem d_X2_readAny_44 : decode (mC M_X2_readAny) 44 = .ok (.invokevirtual 38, 3) := by decide +kernel
theorem d_X2_readAny_47 : decode (mC M_X2_readAny) 47 = .ok (.istore_n 3, 1) := by decide +kernel
theorem d_X2_readAny_48 : decode (mC M_X2_readAny) 48 = .ok (.iload_n 3, 1) := by decide +kernel
theorem d_X2_readAny_49 : decode (mC M_X2_readAny) 49 = .ok (.ifCond .ne 16, 3) := by decide +kernel
theorem d_X2_readAny_52 : decode (mC M_X2_readAny) 52 = .ok (.iload_n 2, 1) := by decide +kernel
theorem d_X2_readAny_53 : decode (mC M_X2_readAny) 53 = .ok (.ifCond .eq 12, 3) := by decide +kernel
theorem d_X2_readAny_56 : decode (mC M_X2_readAny) 56 = .ok (.aload_n 0, 1) := by decide +kernel
theorem d_X2_readAny_57 : decode (mC M_X2_readAny) 57 = .ok (.getfield 14, 3) := by decide +kernel
theorem d_X2_readAny_60 : decode (mC M_X2_readAny) 60 = .ok (.ldc 101, 2) := by decide +kernel
theorem d_X2_readAny_62 : decode (mC M_X2_readAny) 62 = .ok (.invokevirtual 97, 3) := by decide +kernel
theorem d_X2_readAny_65 : decode (mC M_X2_readAny) 65 = .ok (.iload_n 3, 1) := by decide +kernel
theorem d_X2_readAny_66 : decode (mC M_X2_readAny) 66 = .ok (.ifCond .eq 7, 3) := by decide +kernel
theorem d_X2_readAny_69 : decode (mC M_X2_readAny) 69 = .ok (.iload_n 2, 1) := by decide +kernel
theorem d_X2_readAny_70 : decode (mC M_X2_readAny) 70 = .ok (.goto 12, 3) := by decide +kernel
theorem d_X2_readAny_73 : decode (mC M_X2_readAny) 73 = .ok (.aload_n 0, 1) := by decide +kernel
theorem d_X2_readAny_74 : decode (mC M_X2_readAny) 74 = .ok (.getfield 20, 3) := by decide +kernel
theorem d_X2_readAny_77 : decode (mC M_X2_readAny) 77 = .ok (.ldc 102, 2) := by decide +kernel
theorem d_X2_readAny_79 : decode (mC M_X2_readAny) 79 = .ok (.invokevirtual 38, 3) := by decide +kernel
theorem d_X2_readAny_82 : decode (mC M_X2_readAny) 82 = .ok (.istore_n 2, 1) := by decide +kernel
theorem d_X2_readAny_83 : decode (mC M_X2_readAny) 83 = .ok (.iload_n 3, 1) := by decide +kernel
theorem d_X2_readAny_84 : decode (mC M_X2_readAny) 84 = .ok (.ifCond .ne 9, 3) := by decide +kernel
theorem d_X2_readAny_87 : decode (mC M_X2_readAny) 87 = .ok (.iload_n 2, 1) := by decide +kernel
theorem d_X2_readAny_88 : decode (mC M_X2_readAny) 88 = .ok (.ifCond .ne 5, 3) := by decide +kernel
theorem d_X2_readAny_91 : decode (mC M_X2_readAny) 91 = .ok (.iconst 1, 1) := by decide +kernel
theorem d_X2_readAny_92 : decode (mC M_X2_readAny) 92 = .ok (.ireturn, 1) := by decide +kernel
theorem d_X2_readAny_93 : decode (mC M_X2_readAny) 93 = .ok (.aload_n 0, 1) := by decide +kernel
theorem d_X2_readAny_94 : decode (mC M_X2_readAny) 94 = .ok (.getfield 20, 3) := by decide +kernel
theorem d_X2_readAny_97 : decode (mC M_X2_readAny) 97 = .ok (.invokevirtual 104, 3) := by decide +kernel
theorem d_X2_readAny_100 : decode (mC M_X2_readAny) 100 = .ok (.iinc 4 1, 3) := by decide +kernel
theorem d_X2_readAny_103 : decode (mC M_X2_readAny) 103 = .ok (.goto (-96), 3) := by decide +kernel
theorem d_X2_readAny_106 : decode (mC M_X2_readAny) 106 = .ok (.aload_n 0, 1) := by decide +kernel
theorem d_X2_readAny_107 : decode (mC M_X2_readAny) 107 = .ok (.getfield 20, 3) := by decide +kernel
theorem d_X2_readAny_110 : decode (mC M_X2_readAny) 110 = .ok (.iconst 1, 1) := by decide +kernel
theorem d_X2_readAny_111 : decode (mC M_X2_readAny) 111 = .ok (.invokevirtual 42, 3) := by decide +kernel
theorem d_X2_readAny_114 : decode (mC M_X2_readAny) 114 = .ok (.ireturn, 1) := by decide +kernel
theorem d_X2_readHead_0 : decode (mC M_X2_readHead) 0 = .ok (.aload_n 1, 1) := by decide +kernel
theorem d_X2_readHead_1 : decode (mC M_X2_readHead) 1 = .ok (.aload_n 0, 1) := by decide +kernel
theorem d_X2_readHead_2 : decode (mC M_X2_readHead) 2 = .ok (.getfield 20, 3) := by decide +kernel
theorem d_X2_readHead_5 : decode (mC M_X2_readHead) 5 = .ok (.ldc 36, 2) := by decide +kernel
theorem d_X2_readHead_7 : decode (mC M_X2_readHead) 7 = .ok (.iconst 0, 1) := by decide +kernel
theorem d_X2_readHead_8 : decode (mC M_X2_readHead) 8 = .ok (.bipush 19, 2) := by decide +kernel
theorem d_X2_readHead_10 : decode (mC M_X2_readHead) 10 = .ok (.invokevirtual 72, 3) := by decide +kernel
theorem d_X2_readHead_13 : decode (mC M_X2_readHead) 13 = .ok (.putfield 76, 3) := by decide +kernel
theorem d_X2_readHead_16 : decode (mC M_X2_readHead) 16 = .ok (.aload_n 1, 1) := by decide +kernel
theorem d_X2_readHead_17 : decode (mC M_X2_readHead) 17 = .ok (.getfield 76, 3) := by decide +kernel
theorem d_X2_readHead_20 : decode (mC M_X2_readHead) 20 = .ok (.iconst (-1), 1) := by decide +kernel
theorem d_X2_readHead_21 : decode (mC M_X2_readHead) 21 = .ok (.if_icmp .ne 5, 3) := by decide +kernel
theorem d_X2_readHead_24 : decode (mC M_X2_readHead) 24 = .ok (.iconst 0, 1) := by decide +kernel
theorem d_X2_readHead_25 : decode (mC M_X2_readHead) 25 = .ok (.ireturn, 1) := by decide +kernel
theorem d_X2_readHead_26 : decode (mC M_X2_readHead) 26 = .ok (.aload_n 1, 1) := by decide +kernel
theorem d_X2_readHead_27 : decode (mC M_X2_readHead) 27 = .ok (.aload_n 0, 1) := by decide +kernel
theorem d_X2_readHead_28 : decode (mC M_X2_readHead) 28 = .ok (.getfield 20, 3) := by decide +kernel
theorem d_X2_readHead_31 : decode (mC M_X2_readHead) 31 = .ok (.ldc 78, 2) := by decide +kernel
theorem d_X2_readHead_33 : decode (mC M_X2_readHead) 33 = .ok (.iconst 0, 1) := by decide +kernel
theorem d_X2_readHead_34 : decode (mC M_X2_readHead) 34 = .ok (.sipush 1439, 3) := by decide +kernel
theorem d_X2_readHead_37 : decode (mC M_X2_readHead) 37 = .ok (.invokevirtual 72, 3) := by decide +kernel
theorem d_X2_readHead_40 : decode (mC M_X2_readHead) 40 = .ok (.putfield 80, 3) := by decide +kernel
theorem d_X2_readHead_43 : decode (mC M_X2_readHead) 43 = .ok (.aload_n 1, 1) := by decide +kernel
theorem d_X2_readHead_44 : decode (mC M_X2_readHead) 44 = .ok (.getfield 80, 3) := by decide +kernel
theorem d_X2_readHead_47 : decode (mC M_X2_readHead) 47 = .ok (.iconst (-1), 1) := by decide +kernel
theorem d_X2_readHead_48 : decode (mC M_X2_readHead) 48 = .ok (.if_icmp .ne 5, 3) := by decide +kernel
theorem d_X2_readHead_51 : decode (mC M_X2_readHead) 51 = .ok (.iconst 0, 1) := by decide +kernel
theorem d_X2_readHead_52 : decode (mC M_X2_readHead) 52 = .ok (.ireturn, 1) := by decide +kernel
theorem d_X2_readHead_53 : decode (mC M_X2_readHead) 53 = .ok (.aload_n 1, 1) := by decide +kernel
theorem d_X2_readHead_54 : decode (mC M_X2_readHead) 54 = .ok (.aload_n 0, 1) := by decide +kernel
theorem d_X2_readHead_55 : decode (mC M_X2_readHead) 55 = .ok (.getfield 20, 3) := by decide +kernel
theorem d_X2_readHead_58 : decode (mC M_X2_readHead) 58 = .ok (.ldc 83, 2) := by decide +kernel
theorem d_X2_readHead_60 : decode (mC M_X2_readHead) 60 = .ok (.iconst 1, 1) := by decide +kernel
theorem d_X2_readHead_61 : decode (mC M_X2_readHead) 61 = .ok (.sipush 600, 3) := by decide +kernel
theorem d_X2_readHead_64 : decode (mC M_X2_readHead) 64 = .ok (.invokevirtual 72, 3) := by decide +kernel
theorem d_X2_readHead_67 : decode (mC M_X2_readHead) 67 = .ok (.putfield 85, 3) := by decide +kernel
theorem d_X2_readHead_70 : decode (mC M_X2_readHead) 70 = .ok (.aload_n 1, 1) := by decide +kernel
theorem d_X2_readHead_71 : decode (mC M_X2_readHead) 71 = .ok (.getfield 85, 3) := by decide +kernel
theorem d_X2_readHead_74 : decode (mC M_X2_readHead) 74 = .ok (.iconst (-1), 1) := by decide +kernel
theorem d_X2_readHead_75 : decode (mC M_X2_readHead) 75 = .ok (.if_icmp .ne 5, 3) := by decide +kernel
theorem d_X2_readHead_78 : decode (mC M_X2_readHead) 78 = .ok (.iconst 0, 1) := by decide +kernel
theorem d_X2_readHead_79 : decode (mC M_X2_readHead) 79 = .ok (.ireturn, 1) := by decide +kernel
theorem d_X2_readHead_80 : decode (mC M_X2_readHead) 80 = .ok (.aload_n 1, 1) := by decide +kernel
theorem d_X2_readHead_81 : decode (mC M_X2_readHead) 81 = .ok (.aload_n 0, 1) := by decide +kernel
theorem d_X2_readHead_82 : decode (mC M_X2_readHead) 82 = .ok (.getfield 20, 3) := by decide +kernel
theorem d_X2_readHead_85 : decode (mC M_X2_readHead) 85 = .ok (.ldc 88, 2) := by decide +kernel
theorem d_X2_readHead_87 : decode (mC M_X2_readHead) 87 = .ok (.iconst 1, 1) := by decide +kernel
theorem d_X2_readHead_88 : decode (mC M_X2_readHead) 88 = .ok (.bipush 8, 2) := by decide +kernel
theorem d_X2_readHead_90 : decode (mC M_X2_readHead) 90 = .ok (.invokevirtual 72, 3) := by decide +kernel
theorem d_X2_readHead_93 : decode (mC M_X2_readHead) 93 = .ok (.putfield 90, 3) := by decide +kernel
theorem d_X2_readHead_96 : decode (mC M_X2_readHead) 96 = .ok (.aload_n 1, 1) := by decide +kernel
theorem d_X2_readHead_97 : decode (mC M_X2_readHead) 97 = .ok (.getfield 90, 3) := by decide +kernel
theorem d_X2_readHead_100 : decode (mC M_X2_readHead) 100 = .ok (.iconst (-1), 1) := by decide +kernel
theorem d_X2_readHead_101 : decode (mC M_X2_readHead) 101 = .ok (.if_icmp .eq 19, 3) := by decide +kernel
theorem d_X2_readHead_104 : decode (mC M_X2_readHead) 104 = .ok (.aload_n 0, 1) := by decide +kernel
theorem d_X2_readHead_105 : decode (mC M_X2_readHead) 105 = .ok (.getfield 20, 3) := by decide +kernel
theorem d_X2_readHead_108 : decode (mC M_X2_readHead) 108 = .ok (.bipush 58, 2) := by decide +kernel
theorem d_X2_readHead_110 : decode (mC M_X2_readHead) 110 = .ok (.invokevirtual 60, 3) := by decide +kernel
theorem d_X2_readHead_113 : decode (mC M_X2_readHead) 113 = .ok (.ifCond .eq 7, 3) := by decide +kernel
theorem d_X2_readHead_116 : decode (mC M_X2_readHead) 116 = .ok (.iconst 1, 1) := by decide +kernel
theorem d_X2_readHead_117 : decode (mC M_X2_readHead) 117 = .ok (.goto 4, 3) := by decide +kernel
theorem d_X2_readHead_120 : decode (mC M_X2_readHead) 120 = .ok (.iconst 0, 1) := by decide +kernel
theorem d_X2_readHead_121 : decode (mC M_X2_readHead) 121 = .ok (.ireturn, 1) := by decide +kernel
theorem d_X2_readMark_0 : decode (mC M_X2_readMark) 0 = .ok (.aload_n 0, 1) := by decide +kernel
theorem d_X2_readMark_1 : decode (mC M_X2_readMark) 1 = .ok (.invokevirtual 116, 3) := by decide +kernel
theorem d_X2_readMark_4 : decode (mC M_X2_readMark) 4 = .ok (.istore_n 1, 1) := by decide +kernel
theorem d_X2_readMark_5 : decode (mC M_X2_readMark) 5 = .ok (.iload_n 1, 1) := by decide +kernel
theorem d_X2_readMark_6 : decode (mC M_X2_readMark) 6 = .ok (.iconst (-1), 1) := by decide +kernel
theorem d_X2_readMark_7 : decode (mC M_X2_readMark) 7 = .ok (.if_icmp .ne 12, 3) := by decide +kernel
theorem d_X2_readMark_10 : decode (mC M_X2_readMark) 10 = .ok (.aload_n 0, 1) := by decide +kernel
theorem d_X2_readMark_11 : decode (mC M_X2_readMark) 11 = .ok (.getfield 20, 3) := by decide +kernel
theorem d_X2_readMark_14 : decode (mC M_X2_readMark) 14 = .ok (.iconst 1, 1) := by decide +kernel
theorem d_X2_readMark_15 : decode (mC M_X2_readMark) 15 = .ok (.invokevirtual 42, 3) := by decide +kernel
theorem d_X2_readMark_18 : decode (mC M_X2_readMark) 18 = .ok (.ireturn, 1) := by decide +kernel
theorem d_X2_readMark_19 : decode (mC M_X2_readMark) 19 = .ok (.aload_n 0, 1) := by decide +kernel
theorem d_X2_readMark_20 : decode (mC M_X2_readMark) 20 = .ok (.getfield 20, 3) := by decide +kernel
theorem d_X2_readMark_23 : decode (mC M_X2_readMark) 23 = .ok (.invokevirtual 104, 3) := by decide +kernel
theorem d_X2_readMark_26 : decode (mC M_X2_readMark) 26 = .ok (.iload_n 1, 1) := by decide +kernel
theorem d_X2_readMark_27 : decode (mC M_X2_readMark) 27 = .ok (.iconst 4, 1) := by decide +kernel
theorem d_X2_readMark_28 : decode (mC M_X2_readMark) 28 = .ok (.if_icmp .eq 9, 3) := by decide +kernel
theorem d_X2_readMark_31 : decode (mC M_X2_readMark) 31 = .ok (.iload_n 1, 1) := by decide +kernel
theorem d_X2_readMark_32 : decode (mC M_X2_readMark) 32 = .ok (.bipush 6, 2) := by decide +kernel
theorem d_X2_readMark_34 : decode (mC M_X2_readMark) 34 = .ok (.if_icmp .ne 57, 3) := by decide +kernel
theorem d_X2_readMark_37 : decode (mC M_X2_readMark) 37 = .ok (.aload_n 0, 1) := by decide +kernel
theorem d_X2_readMark_38 : decode (mC M_X2_readMark) 38 = .ok (.getfield 20, 3) := by decide +kernel
theorem d_X2_readMark_41 : decode (mC M_X2_readMark) 41 = .ok (.bipush 60, 2) := by decide +kernel
theorem d_X2_readMark_43 : decode (mC M_X2_readMark) 43 = .ok (.invokevirtual 109, 3) := by decide +kernel
theorem d_X2_readMark_46 : decode (mC M_X2_readMark) 46 = .ok (.istore_n 2, 1) := by decide +kernel
theorem d_X2_readMark_47 : decode (mC M_X2_readMark) 47 = .ok (.iload_n 2, 1) := by decide +kernel
theorem d_X2_readMark_48 : decode (mC M_X2_readMark) 48 = .ok (.ifCond .ne 24, 3) := by decide +kernel
theorem d_X2_readMark_51 : decode (mC M_X2_readMark) 51 = .ok (.aload_n 0, 1) := by decide +kernel
theorem d_X2_readMark_52 : decode (mC M_X2_readMark) 52 = .ok (.getfield 20, 3) := by decide +kernel
theorem d_X2_readMark_55 : decode (mC M_X2_readMark) 55 = .ok (.bipush 62, 2) := by decide +kernel
theorem d_X2_readMark_57 : decode (mC M_X2_readMark) 57 = .ok (.invokevirtual 109, 3) := by decide +kernel
theorem d_X2_readMark_60 : decode (mC M_X2_readMark) 60 = .ok (.ifCond .ne 12, 3) := by decide +kernel
theorem d_X2_readMark_63 : decode (mC M_X2_readMark) 63 = .ok (.aload_n 0, 1) := by decide +kernel
theorem d_X2_readMark_64 : decode (mC M_X2_readMark) 64 = .ok (.getfield 20, 3) := by decide +kernel
theorem d_X2_readMark_67 : decode (mC M_X2_readMark) 67 = .ok (.iconst 1, 1) := by decide +kernel
theorem d_X2_readMark_68 : decode (mC M_X2_readMark) 68 = .ok (.invokevirtual 42, 3) := by decide +kernel
theorem d_X2_readMark_71 : decode (mC M_X2_readMark) 71 = .ok (.ireturn, 1) := by decide +kernel
theorem d_X2_readMark_72 : decode (mC M_X2_readMark) 72 = .ok (.aload_n 0, 1) := by decide +kernel
theorem d_X2_readMark_73 : decode (mC M_X2_readMark) 73 = .ok (.getfield 20, 3) := by decide +kernel
theorem d_X2_readMark_76 : decode (mC M_X2_readMark) 76 = .ok (.invokevirtual 104, 3) := by decide +kernel
theorem d_X2_readMark_79 : decode (mC M_X2_readMark) 79 = .ok (.iload_n 2, 1) := by decide +kernel
theorem d_X2_readMark_80 : decode (mC M_X2_readMark) 80 = .ok (.ifCond .eq 7, 3) := by decide +kernel
theorem d_X2_readMark_83 : decode (mC M_X2_readMark) 83 = .ok (.iload_n 1, 1) := by decide +kernel
theorem d_X2_readMark_84 : decode (mC M_X2_readMark) 84 = .ok (.goto 6, 3) := by decide +kernel
theorem d_X2_readMark_87 : decode (mC M_X2_readMark) 87 = .ok (.iload_n 1, 1) := by decide +kernel
theorem d_X2_readMark_88 : decode (mC M_X2_readMark) 88 = .ok (.iconst 1, 1) := by decide +kernel
theorem d_X2_readMark_89 : decode (mC M_X2_readMark) 89 = .ok (.iadd, 1) := by decide +kernel
theorem d_X2_readMark_90 : decode (mC M_X2_readMark) 90 = .ok (.istore_n 1, 1) := by decide +kernel
theorem d_X2_readMark_91 : decode (mC M_X2_readMark) 91 = .ok (.iload_n 1, 1) := by decide +kernel
theorem d_X2_readMark_92 : decode (mC M_X2_readMark) 92 = .ok (.ifCond .ne 7, 3) := by decide +kernel
theorem d_X2_readMark_95 : decode (mC M_X2_readMark) 95 = .ok (.iconst 0, 1) := by decide +kernel
theorem d_X2_readMark_96 : decode (mC M_X2_readMark) 96 = .ok (.goto 15, 3) := by decide +kernel
theorem d_X2_readMark_99 : decode (mC M_X2_readMark) 99 = .ok (.aload_n 0, 1) := by decide +kernel
theorem d_X2_readMark_100 : decode (mC M_X2_readMark) 100 = .ok (.getfield 20, 3) := by decide +kernel
theorem d_X2_readMark_103 : decode (mC M_X2_readMark) 103 = .ok (.iconst 0, 1) := by decide +kernel
theorem d_X2_readMark_104 : decode (mC M_X2_readMark) 104 = .ok (.iload_n 1, 1) := by decide +kernel
theorem d_X2_readMark_105 : decode (mC M_X2_readMark) 105 = .ok (.invokestatic 120, 3) := by decide +kernel
theorem d_X2_readMark_108 : decode (mC M_X2_readMark) 108 = .ok (.invokevirtual 124, 3) := by decide +kernel
theorem d_X2_readMark_111 : decode (mC M_X2_readMark) 111 = .ok (.istore_n 2, 1) := by decide +kernel
theorem d_X2_readMark_112 : decode (mC M_X2_readMark) 112 = .ok (.iload_n 2, 1) := by decide +kernel
theorem d_X2_readMark_113 : decode (mC M_X2_readMark) 113 = .ok (.iconst (-1), 1) := by decide +kernel
theorem d_X2_readMark_114 : decode (mC M_X2_readMark) 114 = .ok (.if_icmp .ne 5, 3) := by decide +kernel
theorem d_X2_readMark_117 : decode (mC M_X2_readMark) 117 = .ok (.iconst 0, 1) := by decide +kernel
theorem d_X2_readMark_118 : decode (mC M_X2_readMark) 118 = .ok (.ireturn, 1) := by decide +kernel
theorem d_X2_readMark_119 : decode (mC M_X2_readMark) 119 = .ok (.aload_n 0, 1) := by decide +kernel
theorem d_X2_readMark_120 : decode (mC M_X2_readMark) 120 = .ok (.getfield 14, 3) := by decide +kernel
theorem d_X2_readMark_123 : decode (mC M_X2_readMark) 123 = .ok (.iload_n 1, 1) := by decide +kernel
theorem d_X2_readMark_124 : decode (mC M_X2_readMark) 124 = .ok (.ldc 128, 2) := by decide +kernel
theorem d_X2_readMark_126 : decode (mC M_X2_readMark) 126 = .ok (.imul, 1) := by decide +kernel
theorem d_X2_readMark_127 : decode (mC M_X2_readMark) 127 = .ok (.iload_n 2, 1) := by decide +kernel
theorem d_X2_readMark_128 : decode (mC M_X2_readMark) 128 = .ok (.iadd, 1) := by decide +kernel
theorem d_X2_readMark_129 : decode (mC M_X2_readMark) 129 = .ok (.invokevirtual 97, 3) := by decide +kernel
theorem d_X2_readMark_132 : decode (mC M_X2_readMark) 132 = .ok (.iconst 1, 1) := by decide +kernel
theorem d_X2_readMark_133 : decode (mC M_X2_readMark) 133 = .ok (.ireturn, 1) := by decide +kernel
theorem d_X2_readOne_0 : decode (mC M_X2_readOne) 0 = .ok (.aload_n 0, 1) := by decide +kernel
theorem d_X2_readOne_1 : decode (mC M_X2_readOne) 1 = .ok (.getfield 20, 3) := by decide +kernel
theorem d_X2_readOne_4 : decode (mC M_X2_readOne) 4 = .ok (.ldc 107, 2) := by decide +kernel
theorem d_X2_readOne_6 : decode (mC M_X2_readOne) 6 = .ok (.invokevirtual 38, 3) := by decide +kernel
theorem d_X2_readOne_9 : decode (mC M_X2_readOne) 9 = .ok (.istore_n 2, 1) := by decide +kernel
theorem d_X2_readOne_10 : decode (mC M_X2_readOne) 10 = .ok (.iload_n 2, 1) := by decide +kernel
theorem d_X2_readOne_11 : decode (mC M_X2_readOne) 11 = .ok (.ifCond .ne 20, 3) := by decide +kernel
theorem d_X2_readOne_14 : decode (mC M_X2_readOne) 14 = .ok (.aload_n 0, 1) := by decide +kernel
theorem d_X2_readOne_15 : decode (mC M_X2_readOne) 15 = .ok (.getfield 20, 3) := by decide +kernel
theorem d_X2_readOne_18 : decode (mC M_X2_readOne) 18 = .ok (.bipush 40, 2) := by decide +kernel
theorem d_X2_readOne_20 : decode (mC M_X2_readOne) 20 = .ok (.invokevirtual 109, 3) := by decide +kernel
theorem d_X2_readOne_23 : decode (mC M_X2_readOne) 23 = .ok (.ifCond .ne 8, 3) := by decide +kernel
theorem d_X2_readOne_26 : decode (mC M_X2_readOne) 26 = .ok (.aload_n 0, 1) := by decide +kernel
theorem d_X2_readOne_27 : decode (mC M_X2_readOne) 27 = .ok (.invokevirtual 112, 3) := by decide +kernel
theorem d_X2_readOne_30 : decode (mC M_X2_readOne) 30 = .ok (.ireturn, 1) := by decide +kernel
theorem d_X2_readOne_31 : decode (mC M_X2_readOne) 31 = .ok (.iload_n 1, 1) := by decide +kernel
theorem d_X2_readOne_32 : decode (mC M_X2_readOne) 32 = .ok (.bipush 8, 2) := by decide +kernel
theorem d_X2_readOne_34 : decode (mC M_X2_readOne) 34 = .ok (.if_icmp .lt 12, 3) := by decide +kernel
theorem d_X2_readOne_37 : decode (mC M_X2_readOne) 37 = .ok (.aload_n 0, 1) := by decide +kernel
theorem d_X2_readOne_38 : decode (mC M_X2_readOne) 38 = .ok (.getfield 20, 3) := by decide +kernel
theorem d_X2_readOne_41 : decode (mC M_X2_readOne) 41 = .ok (.iconst 2, 1) := by decide +kernel
theorem d_X2_readOne_42 : decode (mC M_X2_readOne) 42 = .ok (.invokevirtual 42, 3) := by decide +kernel
theorem d_X2_readOne_45 : decode (mC M_X2_readOne) 45 = .ok (.ireturn, 1) := by decide +kernel
theorem d_X2_readOne_46 : decode (mC M_X2_readOne) 46 = .ok (.aload_n 0, 1) := by decide +kernel
theorem d_X2_readOne_47 : decode (mC M_X2_readOne) 47 = .ok (.getfield 20, 3) := by decide +kernel
theorem d_X2_readOne_50 : decode (mC M_X2_readOne) 50 = .ok (.invokevirtual 104, 3) := by decide +kernel
theorem d_X2_readOne_53 : decode (mC M_X2_readOne) 53 = .ok (.iload_n 2, 1) := by decide +kernel
theorem d_X2_readOne_54 : decode (mC M_X2_readOne) 54 = .ok (.ifCond .ne 31, 3) := by decide +kernel
theorem d_X2_readOne_57 : decode (mC M_X2_readOne) 57 = .ok (.aload_n 0, 1) := by decide +kernel
theorem d_X2_readOne_58 : decode (mC M_X2_readOne) 58 = .ok (.iload_n 1, 1) := by decide +kernel
theorem d_X2_readOne_59 : decode (mC M_X2_readOne) 59 = .ok (.iconst 1, 1) := by decide +kernel
theorem d_X2_readOne_60 : decode (mC M_X2_readOne) 60 = .ok (.iadd, 1) := by decide +kernel
theorem d_X2_readOne_61 : decode (mC M_X2_readOne) 61 = .ok (.invokevirtual 57, 3) := by decide +kernel
theorem d_X2_readOne_64 : decode (mC M_X2_readOne) 64 = .ok (.ifCond .eq 19, 3) := by decide +kernel
theorem d_X2_readOne_67 : decode (mC M_X2_readOne) 67 = .ok (.aload_n 0, 1) := by decide +kernel
theorem d_X2_readOne_68 : decode (mC M_X2_readOne) 68 = .ok (.getfield 20, 3) := by decide +kernel
theorem d_X2_readOne_71 : decode (mC M_X2_readOne) 71 = .ok (.bipush 41, 2) := by decide +kernel
theorem d_X2_readOne_73 : decode (mC M_X2_readOne) 73 = .ok (.invokevirtual 60, 3) := by decide +kernel
theorem d_X2_readOne_76 : decode (mC M_X2_readOne) 76 = .ok (.ifCond .eq 7, 3) := by decide +kernel
theorem d_X2_readOne_79 : decode (mC M_X2_readOne) 79 = .ok (.iconst 1, 1) := by decide +kernel
theorem d_X2_readOne_80 : decode (mC M_X2_readOne) 80 = .ok (.goto 4, 3) := by decide +kernel
theorem d_X2_readOne_83 : decode (mC M_X2_readOne) 83 = .ok (.iconst 0, 1) := by decide +kernel
theorem d_X2_readOne_84 : decode (mC M_X2_readOne) 84 = .ok (.ireturn, 1) := by decide +kernel
theorem d_X2_readOne_85 : decode (mC M_X2_readOne) 85 = .ok (.aload_n 0, 1) := by decide +kernel
theorem d_X2_readOne_86 : decode (mC M_X2_readOne) 86 = .ok (.iload_n 1, 1) := by decide +kernel
theorem d_X2_readOne_87 : decode (mC M_X2_readOne) 87 = .ok (.iconst 1, 1) := by decide +kernel
theorem d_X2_readOne_88 : decode (mC M_X2_readOne) 88 = .ok (.iadd, 1) := by decide +kernel
theorem d_X2_readOne_89 : decode (mC M_X2_readOne) 89 = .ok (.invokevirtual 93, 3) := by decide +kernel
theorem d_X2_readOne_92 : decode (mC M_X2_readOne) 92 = .ok (.ifCond .ne 5, 3) := by decide +kernel
theorem d_X2_readOne_95 : decode (mC M_X2_readOne) 95 = .ok (.iconst 0, 1) := by decide +kernel
theorem d_X2_readOne_96 : decode (mC M_X2_readOne) 96 = .ok (.ireturn, 1) := by decide +kernel
theorem d_X2_readOne_97 : decode (mC M_X2_readOne) 97 = .ok (.aload_n 0, 1) := by decide +kernel
theorem d_X2_readOne_98 : decode (mC M_X2_readOne) 98 = .ok (.getfield 14, 3) := by decide +kernel
theorem d_X2_readOne_101 : decode (mC M_X2_readOne) 101 = .ok (.ldc 115, 2) := by decide +kernel
theorem d_X2_readOne_103 : decode (mC M_X2_readOne) 103 = .ok (.invokevirtual 97, 3) := by decide +kernel
theorem d_X2_readOne_106 : decode (mC M_X2_readOne) 106 = .ok (.iconst 1, 1) := by decide +kernel
theorem d_X2_readOne_107 : decode (mC M_X2_readOne) 107 = .ok (.ireturn, 1) := by decide +kernel
theorem d_X3_comeAll_0 : decode (mC M_X3_comeAll) 0 = .ok (.aload_n 0, 1) := by decide +kernel
theorem d_X3_comeAll_1 : decode (mC M_X3_comeAll) 1 = .ok (.getfield 12, 3) := by decide +kernel
theorem d_X3_comeAll_4 : decode (mC M_X3_comeAll) 4 = .ok (.invokevirtual 25, 3) := by decide +kernel
theorem d_X3_comeAll_7 : decode (mC M_X3_comeAll) 7 = .ok (.aload_n 0, 1) := by decide +kernel
theorem d_X3_comeAll_8 : decode (mC M_X3_comeAll) 8 = .ok (.getfield 18, 3) := by decide +kernel
theorem d_X3_comeAll_11 : decode (mC M_X3_comeAll) 11 = .ok (.invokevirtual 25, 3) := by decide +kernel
theorem d_X3_comeAll_14 : decode (mC M_X3_comeAll) 14 = .ok (.iconst 0, 1) := by decide +kernel
theorem d_X3_comeAll_15 : decode (mC M_X3_comeAll) 15 = .ok (.istore 4, 2) := by decide +kernel
theorem d_X3_comeAll_17 : decode (mC M_X3_comeAll) 17 = .ok (.iload 4, 2) := by decide +kernel
theorem d_X3_comeAll_19 : decode (mC M_X3_comeAll) 19 = .ok (.aload_n 1, 1) := by decide +kernel
theorem d_X3_comeAll_20 : decode (mC M_X3_comeAll) 20 = .ok (.invokevirtual 28, 3) := by decide +kernel
theorem d_X3_comeAll_23 : decode (mC M_X3_comeAll) 23 = .ok (.if_icmp .ge 100, 3) := by decide +kernel
theorem d_X3_comeAll_26 : decode (mC M_X3_comeAll) 26 = .ok (.aload_n 1, 1) := by decide +kernel
theorem d_X3_comeAll_27 : decode (mC M_X3_comeAll) 27 = .ok (.iload 4, 2) := by decide +kernel
theorem d_X3_comeAll_29 : decode (mC M_X3_comeAll) 29 = .ok (.invokevirtual 32, 3) := by decide +kernel
theorem d_X3_comeAll_32 : decode (mC M_X3_comeAll) 32 = .ok (.checkcast 36, 3) := by decide +kernel
theorem d_X3_comeAll_35 : decode (mC M_X3_comeAll) 35 = .ok (.astore 5, 2) := by decide +kernel
theorem d_X3_comeAll_37 : decode (mC M_X3_comeAll) 37 = .ok (.aload 5, 2) := by decide +kernel
theorem d_X3_comeAll_39 : decode (mC M_X3_comeAll) 39 = .ok (.getfield 38, 3) := by decide +kernel
theorem d_X3_comeAll_42 : decode (mC M_X3_comeAll) 42 = .ok (.ifnull 75, 3) := by decide +kernel
theorem d_X3_comeAll_45 : decode (mC M_X3_comeAll) 45 = .ok (.iload_n 2, 1) := by decide +kernel
theorem d_X3_comeAll_46 : decode (mC M_X3_comeAll) 46 = .ok (.bipush 31, 2) := by decide +kernel
theorem d_X3_comeAll_48 : decode (mC M_X3_comeAll) 48 = .ok (.iload 4, 2) := by decide +kernel
theorem d_X3_comeAll_50 : decode (mC M_X3_comeAll) 50 = .ok (.imul, 1) := by decide +kernel
theorem d_X3_comeAll_51 : decode (mC M_X3_comeAll) 51 = .ok (.iadd, 1) := by decide +kernel
theorem d_X3_comeAll_52 : decode (mC M_X3_comeAll) 52 = .ok (.bipush 7, 2) := by decide +kernel
theorem d_X3_comeAll_54 : decode (mC M_X3_comeAll) 54 = .ok (.iload_n 3, 1) := by decide +kernel
theorem d_X3_comeAll_55 : decode (mC M_X3_comeAll) 55 = .ok (.imul, 1) := by decide +kernel
theorem d_X3_comeAll_56 : decode (mC M_X3_comeAll) 56 = .ok (.iadd, 1) := by decide +kernel
theorem d_X3_comeAll_57 : decode (mC M_X3_comeAll) 57 = .ok (.invokestatic 42, 3) := by decide +kernel
theorem d_X3_comeAll_60 : decode (mC M_X3_comeAll) 60 = .ok (.bipush 16, 2) := by decide +kernel
theorem d_X3_comeAll_62 : decode (mC M_X3_comeAll) 62 = .ok (.iushr, 1) := by decide +kernel
theorem d_X3_comeAll_63 : decode (mC M_X3_comeAll) 63 = .ok (.bipush 20, 2) := by decide +kernel
theorem d_X3_comeAll_65 : decode (mC M_X3_comeAll) 65 = .ok (.irem, 1) := by decide +kernel
theorem d_X3_comeAll_66 : decode (mC M_X3_comeAll) 66 = .ok (.istore 6, 2) := by decide +kernel
theorem d_X3_comeAll_68 : decode (mC M_X3_comeAll) 68 = .ok (.new 46, 3) := by decide +kernel
theorem d_X3_comeAll_71 : decode (mC M_X3_comeAll) 71 = .ok (.dup, 1) := by decide +kernel
theorem d_X3_comeAll_72 : decode (mC M_X3_comeAll) 72 = .ok (.aload 5, 2) := by decide +kernel
theorem d_X3_comeAll_74 : decode (mC M_X3_comeAll) 74 = .ok (.iload_n 3, 1) := by decide +kernel
theorem d_X3_comeAll_75 : decode (mC M_X3_comeAll) 75 = .ok (.aload 5, 2) := by decide +kernel
theorem d_X3_comeAll_77 : decode (mC M_X3_comeAll) 77 = .ok (.getfield 38, 3) := by decide +kernel
theorem d_X3_comeAll_80 : decode (mC M_X3_comeAll) 80 = .ok (.invokespecial 48, 3) := by decide +kernel
theorem d_X3_comeAll_83 : decode (mC M_X3_comeAll) 83 = .ok (.astore 7, 2) := by decide +kernel
theorem d_X3_comeAll_85 : decode (mC M_X3_comeAll) 85 = .ok (.aload 7, 2) := by decide +kernel
theorem d_X3_comeAll_87 : decode (mC M_X3_comeAll) 87 = .ok (.aload 5, 2) := by decide +kernel
theorem d_X3_comeAll_89 : decode (mC M_X3_comeAll) 89 = .ok (.getfield 38, 3) := by decide +kernel
theorem d_X3_comeAll_92 : decode (mC M_X3_comeAll) 92 = .ok (.getfield 51, 3) := by decide +kernel
theorem d_X3_comeAll_95 : decode (mC M_X3_comeAll) 95 = .ok (.iload 6, 2) := by decide +kernel
theorem d_X3_comeAll_97 : decode (mC M_X3_comeAll) 97 = .ok (.iadd, 1) := by decide +kernel
theorem d_X3_comeAll_98 : decode (mC M_X3_comeAll) 98 = .ok (.putfield 57, 3) := by decide +kernel
theorem d_X3_comeAll_101 : decode (mC M_X3_comeAll) 101 = .ok (.aload_n 0, 1) := by decide +kernel
theorem d_X3_comeAll_102 : decode (mC M_X3_comeAll) 102 = .ok (.getfield 12, 3) := by decide +kernel
theorem d_X3_comeAll_105 : decode (mC M_X3_comeAll) 105 = .ok (.aload 7, 2) := by decide +kernel
theorem d_X3_comeAll_107 : decode (mC M_X3_comeAll) 107 = .ok (.invokevirtual 60, 3) := by decide +kernel
theorem d_X3_comeAll_110 : decode (mC M_X3_comeAll) 110 = .ok (.pop, 1) := by decide +kernel
theorem d_X3_comeAll_111 : decode (mC M_X3_comeAll) 111 = .ok (.aload_n 0, 1) := by decide +kernel
theorem d_X3_comeAll_112 : decode (mC M_X3_comeAll) 112 = .ok (.aload 7, 2) := by decide +kernel
theorem d_X3_comeAll_114 : decode (mC M_X3_comeAll) 114 = .ok (.invokevirtual 64, 3) := by decide +kernel
theorem d_X3_comeAll_117 : decode (mC M_X3_comeAll) 117 = .ok (.iinc 4 1, 3) := by decide +kernel
theorem d_X3_comeAll_120 : decode (mC M_X3_comeAll) 120 = .ok (.goto (-103), 3) := by decide +kernel
theorem d_X3_comeAll_123 : decode (mC M_X3_comeAll) 123 = .ok (.return_, 1) := by decide +kernel
theorem d_X3_dressAll_0 : decode (mC M_X3_dressAll) 0 = .ok (.iconst 0, 1) := by decide +kernel
theorem d_X3_dressAll_1 : decode (mC M_X3_dressAll) 1 = .ok (.istore_n 2, 1) := by decide +kernel
theorem d_X3_dressAll_2 : decode (mC M_X3_dressAll) 2 = .ok (.iload_n 2, 1) := by decide +kernel
theorem d_X3_dressAll_3 : decode (mC M_X3_dressAll) 3 = .ok (.aload_n 0, 1) := by decide +kernel
theorem d_X3_dressAll_4 : decode (mC M_X3_dressAll) 4 = .ok (.getfield 21, 3) := by decide +kernel
theorem d_X3_dressAll_7 : decode (mC M_X3_dressAll) 7 = .ok (.arraylength, 1) := by decide +kernel
theorem d_X3_dressAll_8 : decode (mC M_X3_dressAll) 8 = .ok (.if_icmp .ge 16, 3) := by decide +kernel
theorem d_X3_dressAll_11 : decode (mC M_X3_dressAll) 11 = .ok (.aload_n 0, 1) := by decide +kernel
theorem d_X3_dressAll_12 : decode (mC M_X3_dressAll) 12 = .ok (.getfield 21, 3) := by decide +kernel
theorem d_X3_dressAll_15 : decode (mC M_X3_dressAll) 15 = .ok (.iload_n 2, 1) := by decide +kernel
theorem d_X3_dressAll_16 : decode (mC M_X3_dressAll) 16 = .ok (.iconst 0, 1) := by decide +kernel
theorem d_X3_dressAll_17 : decode (mC M_X3_dressAll) 17 = .ok (.iastore, 1) := by decide +kernel
theorem d_X3_dressAll_18 : decode (mC M_X3_dressAll) 18 = .ok (.iinc 2 1, 3) := by decide +kernel
theorem d_X3_dressAll_21 : decode (mC M_X3_dressAll) 21 = .ok (.goto (-19), 3) := by decide +kernel
theorem d_X3_dressAll_24 : decode (mC M_X3_dressAll) 24 = .ok (.iconst 0, 1) := by decide +kernel
theorem d_X3_dressAll_25 : decode (mC M_X3_dressAll) 25 = .ok (.istore_n 2, 1) := by decide +kernel
theorem d_X3_dressAll_26 : decode (mC M_X3_dressAll) 26 = .ok (.iload_n 2, 1) := by decide +kernel
theorem d_X3_dressAll_27 : decode (mC M_X3_dressAll) 27 = .ok (.aload_n 0, 1) := by decide +kernel
theorem d_X3_dressAll_28 : decode (mC M_X3_dressAll) 28 = .ok (.getfield 18, 3) := by decide +kernel
theorem d_X3_dressAll_31 : decode (mC M_X3_dressAll) 31 = .ok (.invokevirtual 28, 3) := by decide +kernel
theorem d_X3_dressAll_34 : decode (mC M_X3_dressAll) 34 = .ok (.if_icmp .ge 101, 3) := by decide +kernel
theorem d_X3_dressAll_37 : decode (mC M_X3_dressAll) 37 = .ok (.aload_n 0, 1) := by decide +kernel
theorem d_X3_dressAll_38 : decode (mC M_X3_dressAll) 38 = .ok (.getfield 18, 3) := by decide +kernel
theorem d_X3_dressAll_41 : decode (mC M_X3_dressAll) 41 = .ok (.iload_n 2, 1) := by decide +kernel
theorem d_X3_dressAll_42 : decode (mC M_X3_dressAll) 42 = .ok (.invokevirtual 32, 3) := by decide +kernel
theorem d_X3_dressAll_45 : decode (mC M_X3_dressAll) 45 = .ok (.checkcast 46, 3) := by decide +kernel
theorem d_X3_dressAll_48 : decode (mC M_X3_dressAll) 48 = .ok (.astore_n 3, 1) := by decide +kernel
theorem d_X3_dressAll_49 : decode (mC M_X3_dressAll) 49 = .ok (.aload_n 0, 1) := by decide +kernel
theorem d_X3_dressAll_50 : decode (mC M_X3_dressAll) 50 = .ok (.iload_n 1, 1) := by decide +kernel
theorem d_X3_dressAll_51 : decode (mC M_X3_dressAll) 51 = .ok (.invokevirtual 72, 3) := by decide +kernel
theorem d_X3_dressAll_54 : decode (mC M_X3_dressAll) 54 = .ok (.istore 4, 2) := by decide +kernel
theorem d_X3_dressAll_56 : decode (mC M_X3_dressAll) 56 = .ok (.iload 4, 2) := by decide +kernel
theorem d_X3_dressAll_58 : decode (mC M_X3_dressAll) 58 = .ok (.ifCond .lt 71, 3) := by decide +kernel
theorem d_X3_dressAll_61 : decode (mC M_X3_dressAll) 61 = .ok (.iload 4, 2) := by decide +kernel
theorem d_X3_dressAll_63 : decode (mC M_X3_dressAll) 63 = .ok (.aload_n 0, 1) := by decide +kernel
theorem d_X3_dressAll_64 : decode (mC M_X3_dressAll) 64 = .ok (.getfield 21, 3) := by decide +kernel
theorem d_X3_dressAll_67 : decode (mC M_X3_dressAll) 67 = .ok (.arraylength, 1) := by decide +kernel
theorem d_X3_dressAll_68 : decode (mC M_X3_dressAll) 68 = .ok (.if_icmp .ge 61, 3) := by decide +kernel
theorem d_X3_dressAll_71 : decode (mC M_X3_dressAll) 71 = .ok (.aload_n 3, 1) := by decide +kernel
theorem d_X3_dressAll_72 : decode (mC M_X3_dressAll) 72 = .ok (.aload_n 0, 1) := by decide +kernel
theorem d_X3_dressAll_73 : decode (mC M_X3_dressAll) 73 = .ok (.getfield 21, 3) := by decide +kernel
theorem d_X3_dressAll_76 : decode (mC M_X3_dressAll) 76 = .ok (.iload 4, 2) := by decide +kernel
theorem d_X3_dressAll_78 : decode (mC M_X3_dressAll) 78 = .ok (.iaload, 1) := by decide +kernel
theorem d_X3_dressAll_79 : decode (mC M_X3_dressAll) 79 = .ok (.aload_n 3, 1) := by decide +kernel
theorem d_X3_dressAll_80 : decode (mC M_X3_dressAll) 80 = .ok (.getfield 57, 3) := by decide +kernel
theorem d_X3_dressAll_83 : decode (mC M_X3_dressAll) 83 = .ok (.invokestatic 75, 3) := by decide +kernel
theorem d_X3_dressAll_86 : decode (mC M_X3_dressAll) 86 = .ok (.aload_n 3, 1) := by decide +kernel
theorem d_X3_dressAll_87 : decode (mC M_X3_dressAll) 87 = .ok (.getfield 81, 3) := by decide +kernel
theorem d_X3_dressAll_90 : decode (mC M_X3_dressAll) 90 = .ok (.getfield 85, 3) := by decide +kernel
theorem d_X3_dressAll_93 : decode (mC M_X3_dressAll) 93 = .ok (.iadd, 1) := by decide +kernel
theorem d_X3_dressAll_94 : decode (mC M_X3_dressAll) 94 = .ok (.putfield 88, 3) := by decide +kernel
theorem d_X3_dressAll_97 : decode (mC M_X3_dressAll) 97 = .ok (.aload_n 0, 1) := by decide +kernel
theorem d_X3_dressAll_98 : decode (mC M_X3_dressAll) 98 = .ok (.getfield 21, 3) := by decide +kernel
theorem d_X3_dressAll_101 : decode (mC M_X3_dressAll) 101 = .ok (.iload 4, 2) := by decide +kernel
theorem d_X3_dressAll_103 : decode (mC M_X3_dressAll) 103 = .ok (.aload_n 3, 1) := by decide +kernel
theorem d_X3_dressAll_104 : decode (mC M_X3_dressAll) 104 = .ok (.getfield 88, 3) := by decide +kernel
theorem d_X3_dressAll_107 : decode (mC M_X3_dressAll) 107 = .ok (.iastore, 1) := by decide +kernel
theorem d_X3_dressAll_108 : decode (mC M_X3_dressAll) 108 = .ok (.aload_n 3, 1) := by decide +kernel
theorem d_X3_dressAll_109 : decode (mC M_X3_dressAll) 109 = .ok (.getfield 91, 3) := by decide +kernel
theorem d_X3_dressAll_112 : decode (mC M_X3_dressAll) 112 = .ok (.aload_n 3, 1) := by decide +kernel
theorem d_X3_dressAll_113 : decode (mC M_X3_dressAll) 113 = .ok (.getfield 91, 3) := by decide +kernel
theorem d_X3_dressAll_116 : decode (mC M_X3_dressAll) 116 = .ok (.getfield 94, 3) := by decide +kernel
theorem d_X3_dressAll_119 : decode (mC M_X3_dressAll) 119 = .ok (.aload_n 3, 1) := by decide +kernel
theorem d_X3_dressAll_120 : decode (mC M_X3_dressAll) 120 = .ok (.getfield 88, 3) := by decide +kernel
theorem d_X3_dressAll_123 : decode (mC M_X3_dressAll) 123 = .ok (.invokestatic 75, 3) := by decide +kernel
theorem d_X3_dressAll_126 : decode (mC M_X3_dressAll) 126 = .ok (.putfield 94, 3) := by decide +kernel
theorem d_X3_dressAll_129 : decode (mC M_X3_dressAll) 129 = .ok (.iinc 2 1, 3) := by decide +kernel
theorem d_X3_dressAll_132 : decode (mC M_X3_dressAll) 132 = .ok (.goto (-106), 3) := by decide +kernel
theorem d_X3_dressAll_135 : decode (mC M_X3_dressAll) 135 = .ok (.return_, 1) := by decide +kernel
theorem d_X3_firstFree_0 : decode (mC M_X3_firstFree) 0 = .ok (.iconst 0, 1) := by decide +kernel
theorem d_X3_firstFree_1 : decode (mC M_X3_firstFree) 1 = .ok (.istore_n 2, 1) := by decide +kernel
theorem d_X3_firstFree_2 : decode (mC M_X3_firstFree) 2 = .ok (.iconst 1, 1) := by decide +kernel
theorem d_X3_firstFree_3 : decode (mC M_X3_firstFree) 3 = .ok (.istore_n 3, 1) := by decide +kernel
theorem d_X3_firstFree_4 : decode (mC M_X3_firstFree) 4 = .ok (.iload_n 3, 1) := by decide +kernel
theorem d_X3_firstFree_5 : decode (mC M_X3_firstFree) 5 = .ok (.iload_n 1, 1) := by decide +kernel
theorem d_X3_firstFree_6 : decode (mC M_X3_firstFree) 6 = .ok (.if_icmp .ge 35, 3) := by decide +kernel
theorem d_X3_firstFree_9 : decode (mC M_X3_firstFree) 9 = .ok (.iload_n 3, 1) := by decide +kernel
theorem d_X3_firstFree_10 : decode (mC M_X3_firstFree) 10 = .ok (.aload_n 0, 1) := by decide +kernel
theorem d_X3_firstFree_11 : decode (mC M_X3_firstFree) 11 = .ok (.getfield 21, 3) := by decide +kernel
theorem d_X3_firstFree_14 : decode (mC M_X3_firstFree) 14 = .ok (.arraylength, 1) := by decide +kernel
theorem d_X3_firstFree_15 : decode (mC M_X3_firstFree) 15 = .ok (.if_icmp .ge 26, 3) := by decide +kernel
theorem d_X3_firstFree_18 : decode (mC M_X3_firstFree) 18 = .ok (.aload_n 0, 1) := by decide +kernel
theorem d_X3_firstFree_19 : decode (mC M_X3_firstFree) 19 = .ok (.getfield 21, 3) := by decide +kernel
theorem d_X3_firstFree_22 : decode (mC M_X3_firstFree) 22 = .ok (.iload_n 3, 1) := by decide +kernel
theorem d_X3_firstFree_23 : decode (mC M_X3_firstFree) 23 = .ok (.iaload, 1) := by decide +kernel
theorem d_X3_firstFree_24 : decode (mC M_X3_firstFree) 24 = .ok (.aload_n 0, 1) := by decide +kernel
theorem d_X3_firstFree_25 : decode (mC M_X3_firstFree) 25 = .ok (.getfield 21, 3) := by decide +kernel
theorem d_X3_firstFree_28 : decode (mC M_X3_firstFree) 28 = .ok (.iload_n 2, 1) := by decide +kernel
theorem d_X3_firstFree_29 : decode (mC M_X3_firstFree) 29 = .ok (.iaload, 1) := by decide +kernel
theorem d_X3_firstFree_30 : decode (mC M_X3_firstFree) 30 = .ok (.if_icmp .ge 5, 3) := by decide +kernel
theorem d_X3_firstFree_33 : decode (mC M_X3_firstFree) 33 = .ok (.iload_n 3, 1) := by decide +kernel
theorem d_X3_firstFree_34 : decode (mC M_X3_firstFree) 34 = .ok (.istore_n 2, 1) := by decide +kernel
theorem d_X3_firstFree_35 : decode (mC M_X3_firstFree) 35 = .ok (.iinc 3 1, 3) := by decide +kernel
theorem d_X3_firstFree_38 : decode (mC M_X3_firstFree) 38 = .ok (.goto (-34), 3) := by decide +kernel
theorem d_X3_firstFree_41 : decode (mC M_X3_firstFree) 41 = .ok (.iload_n 2, 1) := by decide +kernel
theorem d_X3_firstFree_42 : decode (mC M_X3_firstFree) 42 = .ok (.ireturn, 1) := by decide +kernel
theorem d_X3_following_0 : decode (mC M_X3_following) 0 = .ok (.iload_n 0, 1) := by decide +kernel
theorem d_X3_following_1 : decode (mC M_X3_following) 1 = .ok (.ldc 68, 2) := by decide +kernel
theorem d_X3_following_3 : decode (mC M_X3_following) 3 = .ok (.imul, 1) := by decide +kernel
theorem d_X3_following_4 : decode (mC M_X3_following) 4 = .ok (.sipush 12345, 3) := by decide +kernel
theorem d_X3_following_7 : decode (mC M_X3_following) 7 = .ok (.iadd, 1) := by decide +kernel
theorem d_X3_following_8 : decode (mC M_X3_following) 8 = .ok (.ireturn, 1) := by decide +kernel
theorem d_X3_init_0 : decode (mC M_X3_init) 0 = .ok (.aload_n 0, 1) := by decide +kernel
theorem d_X3_init_1 : decode (mC M_X3_init) 1 = .ok (.invokespecial 3, 3) := by decide +kernel
theorem d_X3_init_4 : decode (mC M_X3_init) 4 = .ok (.aload_n 0, 1) := by decide +kernel
theorem d_X3_init_5 : decode (mC M_X3_init) 5 = .ok (.new 9, 3) := by decide +kernel
theorem d_X3_init_8 : decode (mC M_X3_init) 8 = .ok (.dup, 1) := by decide +kernel
theorem d_X3_init_9 : decode (mC M_X3_init) 9 = .ok (.invokespecial 11, 3) := by decide +kernel
theorem d_X3_init_12 : decode (mC M_X3_init) 12 = .ok (.putfield 12, 3) := by decide +kernel
theorem d_X3_init_15 : decode (mC M_X3_init) 15 = .ok (.aload_n 0, 1) := by decide +kernel
theorem d_X3_init_16 : decode (mC M_X3_init) 16 = .ok (.new 9, 3) := by decide +kernel
theorem d_X3_init_19 : decode (mC M_X3_init) 19 = .ok (.dup, 1) := by decide +kernel
theorem d_X3_init_20 : decode (mC M_X3_init) 20 = .ok (.invokespecial 11, 3) := by decide +kernel
theorem d_X3_init_23 : decode (mC M_X3_init) 23 = .ok (.putfield 18, 3) := by decide +kernel
theorem d_X3_init_26 : decode (mC M_X3_init) 26 = .ok (.aload_n 0, 1) := by decide +kernel
theorem d_X3_init_27 : decode (mC M_X3_init) 27 = .ok (.iconst 5, 1) := by decide +kernel
theorem d_X3_init_28 : decode (mC M_X3_init) 28 = .ok (.newarray .int, 2) := by decide +kernel
theorem d_X3_init_30 : decode (mC M_X3_init) 30 = .ok (.putfield 21, 3) := by decide +kernel
theorem d_X3_init_33 : decode (mC M_X3_init) 33 = .ok (.return_, 1) := by decide +kernel
theorem d_X3_queue_0 : decode (mC M_X3_queue) 0 = .ok (.iconst 0, 1) := by decide +kernel
theorem d_X3_queue_1 : decode (mC M_X3_queue) 1 = .ok (.istore_n 2, 1) := by decide +kernel
theorem d_X3_queue_2 : decode (mC M_X3_queue) 2 = .ok (.iload_n 2, 1) := by decide +kernel
theorem d_X3_queue_3 : decode (mC M_X3_queue) 3 = .ok (.aload_n 0, 1) := by decide +kernel
theorem d_X3_queue_4 : decode (mC M_X3_queue) 4 = .ok (.getfield 18, 3) := by decide +kernel
theorem d_X3_queue_7 : decode (mC M_X3_queue) 7 = .ok (.invokevirtual 28, 3) := by decide +kernel
theorem d_X3_queue_10 : decode (mC M_X3_queue) 10 = .ok (.if_icmp .ge 30, 3) := by decide +kernel
theorem d_X3_queue_13 : decode (mC M_X3_queue) 13 = .ok (.aload_n 0, 1) := by decide +kernel
theorem d_X3_queue_14 : decode (mC M_X3_queue) 14 = .ok (.getfield 18, 3) := by decide +kernel
theorem d_X3_queue_17 : decode (mC M_X3_queue) 17 = .ok (.iload_n 2, 1) := by decide +kernel
theorem d_X3_queue_18 : decode (mC M_X3_queue) 18 = .ok (.invokevirtual 32, 3) := by decide +kernel
theorem d_X3_queue_21 : decode (mC M_X3_queue) 21 = .ok (.checkcast 46, 3) := by decide +kernel
theorem d_X3_queue_24 : decode (mC M_X3_queue) 24 = .ok (.getfield 57, 3) := by decide +kernel
theorem d_X3_queue_27 : decode (mC M_X3_queue) 27 = .ok (.aload_n 1, 1) := by decide +kernel
theorem d_X3_queue_28 : decode (mC M_X3_queue) 28 = .ok (.getfield 57, 3) := by decide +kernel
theorem d_X3_queue_31 : decode (mC M_X3_queue) 31 = .ok (.if_icmp .gt 9, 3) := by decide +kernel
theorem d_X3_queue_34 : decode (mC M_X3_queue) 34 = .ok (.iinc 2 1, 3) := by decide +kernel
theorem d_X3_queue_37 : decode (mC M_X3_queue) 37 = .ok (.goto (-35), 3) := by decide +kernel
theorem d_X3_queue_40 : decode (mC M_X3_queue) 40 = .ok (.aload_n 0, 1) := by decide +kernel
theorem d_X3_queue_41 : decode (mC M_X3_queue) 41 = .ok (.getfield 18, 3) := by decide +kernel
theorem d_X3_queue_44 : decode (mC M_X3_queue) 44 = .ok (.iload_n 2, 1) := by decide +kernel
theorem d_X3_queue_45 : decode (mC M_X3_queue) 45 = .ok (.aload_n 1, 1) := by decide +kernel
theorem d_X3_queue_46 : decode (mC M_X3_queue) 46 = .ok (.invokevirtual 69, 3) := by decide +kernel
theorem d_X3_queue_49 : decode (mC M_X3_queue) 49 = .ok (.return_, 1) := by decide +kernel
theorem d_X4_add_0 : decode (mC M_X4_add) 0 = .ok (.aload_n 0, 1) := by decide +kernel
theorem d_X4_add_1 : decode (mC M_X4_add) 1 = .ok (.getfield 14, 3) := by decide +kernel
theorem d_X4_add_4 : decode (mC M_X4_add) 4 = .ok (.aload_n 1, 1) := by decide +kernel
theorem d_X4_add_5 : decode (mC M_X4_add) 5 = .ok (.getfield 27, 3) := by decide +kernel
theorem d_X4_add_8 : decode (mC M_X4_add) 8 = .ok (.invokevirtual 32, 3) := by decide +kernel
theorem d_X4_add_11 : decode (mC M_X4_add) 11 = .ok (.aload_n 0, 1) := by decide +kernel
theorem d_X4_add_12 : decode (mC M_X4_add) 12 = .ok (.getfield 20, 3) := by decide +kernel
theorem d_X4_add_15 : decode (mC M_X4_add) 15 = .ok (.iload_n 2, 1) := by decide +kernel
theorem d_X4_add_16 : decode (mC M_X4_add) 16 = .ok (.invokevirtual 32, 3) := by decide +kernel
theorem d_X4_add_19 : decode (mC M_X4_add) 19 = .ok (.aload_n 1, 1) := by decide +kernel
theorem d_X4_add_20 : decode (mC M_X4_add) 20 = .ok (.dup, 1) := by decide +kernel
theorem d_X4_add_21 : decode (mC M_X4_add) 21 = .ok (.getfield 35, 3) := by decide +kernel
theorem d_X4_add_24 : decode (mC M_X4_add) 24 = .ok (.iconst 1, 1) := by decide +kernel
theorem d_X4_add_25 : decode (mC M_X4_add) 25 = .ok (.iload_n 2, 1) := by decide +kernel
theorem d_X4_add_26 : decode (mC M_X4_add) 26 = .ok (.ishl, 1) := by decide +kernel
theorem d_X4_add_27 : decode (mC M_X4_add) 27 = .ok (.ior, 1) := by decide +kernel
theorem d_X4_add_28 : decode (mC M_X4_add) 28 = .ok (.putfield 35, 3) := by decide +kernel
theorem d_X4_add_31 : decode (mC M_X4_add) 31 = .ok (.aload_n 0, 1) := by decide +kernel
theorem d_X4_add_32 : decode (mC M_X4_add) 32 = .ok (.getfield 14, 3) := by decide +kernel
theorem d_X4_add_35 : decode (mC M_X4_add) 35 = .ok (.getfield 23, 3) := by decide +kernel
theorem d_X4_add_38 : decode (mC M_X4_add) 38 = .ok (.iconst 1, 1) := by decide +kernel
theorem d_X4_add_39 : decode (mC M_X4_add) 39 = .ok (.isub, 1) := by decide +kernel
theorem d_X4_add_40 : decode (mC M_X4_add) 40 = .ok (.ireturn, 1) := by decide +kernel
theorem d_X4_howOften_0 : decode (mC M_X4_howOften) 0 = .ok (.iconst 0, 1) := by decide +kernel
theorem d_X4_howOften_1 : decode (mC M_X4_howOften) 1 = .ok (.istore 4, 2) := by decide +kernel
theorem d_X4_howOften_3 : decode (mC M_X4_howOften) 3 = .ok (.iconst 0, 1) := by decide +kernel
theorem d_X4_howOften_4 : decode (mC M_X4_howOften) 4 = .ok (.istore 5, 2) := by decide +kernel
theorem d_X4_howOften_6 : decode (mC M_X4_howOften) 6 = .ok (.iload 5, 2) := by decide +kernel
theorem d_X4_howOften_8 : decode (mC M_X4_howOften) 8 = .ok (.iload_n 3, 1) := by decide +kernel
theorem d_X4_howOften_9 : decode (mC M_X4_howOften) 9 = .ok (.if_icmp .ge 50, 3) := by decide +kernel
theorem d_X4_howOften_12 : decode (mC M_X4_howOften) 12 = .ok (.iload 5, 2) := by decide +kernel
theorem d_X4_howOften_14 : decode (mC M_X4_howOften) 14 = .ok (.aload_n 0, 1) := by decide +kernel
theorem d_X4_howOften_15 : decode (mC M_X4_howOften) 15 = .ok (.getfield 14, 3) := by decide +kernel
theorem d_X4_howOften_18 : decode (mC M_X4_howOften) 18 = .ok (.getfield 23, 3) := by decide +kernel
theorem d_X4_howOften_21 : decode (mC M_X4_howOften) 21 = .ok (.if_icmp .ge 38, 3) := by decide +kernel
theorem d_X4_howOften_24 : decode (mC M_X4_howOften) 24 = .ok (.aload_n 0, 1) := by decide +kernel
theorem d_X4_howOften_25 : decode (mC M_X4_howOften) 25 = .ok (.getfield 14, 3) := by decide +kernel
theorem d_X4_howOften_28 : decode (mC M_X4_howOften) 28 = .ok (.iload 5, 2) := by decide +kernel
theorem d_X4_howOften_30 : decode (mC M_X4_howOften) 30 = .ok (.invokevirtual 38, 3) := by decide +kernel
theorem d_X4_howOften_33 : decode (mC M_X4_howOften) 33 = .ok (.iload_n 1, 1) := by decide +kernel
theorem d_X4_howOften_34 : decode (mC M_X4_howOften) 34 = .ok (.if_icmp .ne 19, 3) := by decide +kernel
theorem d_X4_howOften_37 : decode (mC M_X4_howOften) 37 = .ok (.aload_n 0, 1) := by decide +kernel
theorem d_X4_howOften_38 : decode (mC M_X4_howOften) 38 = .ok (.getfield 20, 3) := by decide +kernel
theorem d_X4_howOften_41 : decode (mC M_X4_howOften) 41 = .ok (.iload 5, 2) := by decide +kernel
theorem d_X4_howOften_43 : decode (mC M_X4_howOften) 43 = .ok (.invokevirtual 38, 3) := by decide +kernel
theorem d_X4_howOften_46 : decode (mC M_X4_howOften) 46 = .ok (.iload_n 2, 1) := by decide +kernel
theorem d_X4_howOften_47 : decode (mC M_X4_howOften) 47 = .ok (.if_icmp .ne 6, 3) := by decide +kernel
theorem d_X4_howOften_50 : decode (mC M_X4_howOften) 50 = .ok (.iinc 4 1, 3) := by decide +kernel
theorem d_X4_howOften_53 : decode (mC M_X4_howOften) 53 = .ok (.iinc 5 1, 3) := by decide +kernel
theorem d_X4_howOften_56 : decode (mC M_X4_howOften) 56 = .ok (.goto (-50), 3) := by decide +kernel
theorem d_X4_howOften_59 : decode (mC M_X4_howOften) 59 = .ok (.iload 4, 2) := by decide +kernel
theorem d_X4_howOften_61 : decode (mC M_X4_howOften) 61 = .ok (.ireturn, 1) := by decide +kernel
theorem d_X4_init_0 : decode (mC M_X4_init) 0 = .ok (.aload_n 0, 1) := by decide +kernel
theorem d_X4_init_1 : decode (mC M_X4_init) 1 = .ok (.invokespecial 3, 3) := by decide +kernel
theorem d_X4_init_4 : decode (mC M_X4_init) 4 = .ok (.aload_n 0, 1) := by decide +kernel
theorem d_X4_init_5 : decode (mC M_X4_init) 5 = .ok (.new 9, 3) := by decide +kernel
theorem d_X4_init_8 : decode (mC M_X4_init) 8 = .ok (.dup, 1) := by decide +kernel
theorem d_X4_init_9 : decode (mC M_X4_init) 9 = .ok (.sipush 2600, 3) := by decide +kernel
theorem d_X4_init_12 : decode (mC M_X4_init) 12 = .ok (.invokespecial 11, 3) := by decide +kernel
theorem d_X4_init_15 : decode (mC M_X4_init) 15 = .ok (.putfield 14, 3) := by decide +kernel
theorem d_X4_init_18 : decode (mC M_X4_init) 18 = .ok (.aload_n 0, 1) := by decide +kernel
theorem d_X4_init_19 : decode (mC M_X4_init) 19 = .ok (.new 9, 3) := by decide +kernel
theorem d_X4_init_22 : decode (mC M_X4_init) 22 = .ok (.dup, 1) := by decide +kernel
theorem d_X4_init_23 : decode (mC M_X4_init) 23 = .ok (.sipush 2600, 3) := by decide +kernel
theorem d_X4_init_26 : decode (mC M_X4_init) 26 = .ok (.invokespecial 11, 3) := by decide +kernel
theorem d_X4_init_29 : decode (mC M_X4_init) 29 = .ok (.putfield 20, 3) := by decide +kernel
theorem d_X4_init_32 : decode (mC M_X4_init) 32 = .ok (.return_, 1) := by decide +kernel
theorem d_X4_size_0 : decode (mC M_X4_size) 0 = .ok (.aload_n 0, 1) := by decide +kernel
theorem d_X4_size_1 : decode (mC M_X4_size) 1 = .ok (.getfield 14, 3) := by decide +kernel
theorem d_X4_size_4 : decode (mC M_X4_size) 4 = .ok (.getfield 23, 3) := by decide +kernel
theorem d_X4_size_7 : decode (mC M_X4_size) 7 = .ok (.ireturn, 1) := by decide +kernel
theorem d_X5_answer_0 : decode (mC M_X5_answer) 0 = .ok (.iload_n 1, 1) := by decide +kernel
theorem d_X5_answer_1 : decode (mC M_X5_answer) 1 = .ok (.tableswitch 95 0 7 #[47, 52, 57, 62, 67, 72, 85, 90], 47) := by decide +kernel
theorem d_X5_answer_48 : decode (mC M_X5_answer) 48 = .ok (.aload_n 0, 1) := by decide +kernel
theorem d_X5_answer_49 : decode (mC M_X5_answer) 49 = .ok (.getfield 15, 3) := by decide +kernel
theorem d_X5_answer_52 : decode (mC M_X5_answer) 52 = .ok (.ireturn, 1) := by decide +kernel
theorem d_X5_answer_53 : decode (mC M_X5_answer) 53 = .ok (.aload_n 0, 1) := by decide +kernel
theorem d_X5_answer_54 : decode (mC M_X5_answer) 54 = .ok (.getfield 18, 3) := by decide +kernel
theorem d_X5_answer_57 : decode (mC M_X5_answer) 57 = .ok (.ireturn, 1) := by decide +kernel
theorem d_X5_answer_58 : decode (mC M_X5_answer) 58 = .ok (.aload_n 0, 1) := by decide +kernel
theorem d_X5_answer_59 : decode (mC M_X5_answer) 59 = .ok (.getfield 21, 3) := by decide +kernel
theorem d_X5_answer_62 : decode (mC M_X5_answer) 62 = .ok (.ireturn, 1) := by decide +kernel
theorem d_X5_answer_63 : decode (mC M_X5_answer) 63 = .ok (.aload_n 0, 1) := by decide +kernel
theorem d_X5_answer_64 : decode (mC M_X5_answer) 64 = .ok (.getfield 24, 3) := by decide +kernel
theorem d_X5_answer_67 : decode (mC M_X5_answer) 67 = .ok (.ireturn, 1) := by decide +kernel
theorem d_X5_answer_68 : decode (mC M_X5_answer) 68 = .ok (.aload_n 0, 1) := by decide +kernel
theorem d_X5_answer_69 : decode (mC M_X5_answer) 69 = .ok (.getfield 27, 3) := by decide +kernel
theorem d_X5_answer_72 : decode (mC M_X5_answer) 72 = .ok (.ireturn, 1) := by decide +kernel
theorem d_X5_answer_73 : decode (mC M_X5_answer) 73 = .ok (.aload_n 0, 1) := by decide +kernel
theorem d_X5_answer_74 : decode (mC M_X5_answer) 74 = .ok (.getfield 46, 3) := by decide +kernel
theorem d_X5_answer_77 : decode (mC M_X5_answer) 77 = .ok (.ifCond .eq 7, 3) := by decide +kernel
theorem d_X5_answer_80 : decode (mC M_X5_answer) 80 = .ok (.iconst 1, 1) := by decide +kernel
theorem d_X5_answer_81 : decode (mC M_X5_answer) 81 = .ok (.goto 4, 3) := by decide +kernel
theorem d_X5_answer_84 : decode (mC M_X5_answer) 84 = .ok (.iconst 0, 1) := by decide +kernel
theorem d_X5_answer_85 : decode (mC M_X5_answer) 85 = .ok (.ireturn, 1) := by decide +kernel
theorem d_X5_answer_86 : decode (mC M_X5_answer) 86 = .ok (.aload_n 0, 1) := by decide +kernel
theorem d_X5_answer_87 : decode (mC M_X5_answer) 87 = .ok (.getfield 50, 3) := by decide +kernel
theorem d_X5_answer_90 : decode (mC M_X5_answer) 90 = .ok (.ireturn, 1) := by decide +kernel
theorem d_X5_answer_91 : decode (mC M_X5_answer) 91 = .ok (.aload_n 0, 1) := by decide +kernel
theorem d_X5_answer_92 : decode (mC M_X5_answer) 92 = .ok (.getfield 53, 3) := by decide +kernel
theorem d_X5_answer_95 : decode (mC M_X5_answer) 95 = .ok (.ireturn, 1) := by decide +kernel
theorem d_X5_answer_96 : decode (mC M_X5_answer) 96 = .ok (.iconst (-1), 1) := by decide +kernel
theorem d_X5_answer_97 : decode (mC M_X5_answer) 97 = .ok (.ireturn, 1) := by decide +kernel
theorem d_X5_canBeIn_0 : decode (mC M_X5_canBeIn) 0 = .ok (.aload_n 0, 1) := by decide +kernel
theorem d_X5_canBeIn_1 : decode (mC M_X5_canBeIn) 1 = .ok (.getfield 33, 3) := by decide +kernel
theorem d_X5_canBeIn_4 : decode (mC M_X5_canBeIn) 4 = .ok (.aload_n 1, 1) := by decide +kernel
theorem d_X5_canBeIn_5 : decode (mC M_X5_canBeIn) 5 = .ok (.getfield 36, 3) := by decide +kernel
theorem d_X5_canBeIn_8 : decode (mC M_X5_canBeIn) 8 = .ok (.ishr, 1) := by decide +kernel
theorem d_X5_canBeIn_9 : decode (mC M_X5_canBeIn) 9 = .ok (.iconst 1, 1) := by decide +kernel
theorem d_X5_canBeIn_10 : decode (mC M_X5_canBeIn) 10 = .ok (.iand, 1) := by decide +kernel
theorem d_X5_canBeIn_11 : decode (mC M_X5_canBeIn) 11 = .ok (.iconst 1, 1) := by decide +kernel
theorem d_X5_canBeIn_12 : decode (mC M_X5_canBeIn) 12 = .ok (.if_icmp .ne 7, 3) := by decide +kernel
theorem d_X5_canBeIn_15 : decode (mC M_X5_canBeIn) 15 = .ok (.iconst 1, 1) := by decide +kernel
theorem d_X5_canBeIn_16 : decode (mC M_X5_canBeIn) 16 = .ok (.goto 4, 3) := by decide +kernel
theorem d_X5_canBeIn_19 : decode (mC M_X5_canBeIn) 19 = .ok (.iconst 0, 1) := by decide +kernel
theorem d_X5_canBeIn_20 : decode (mC M_X5_canBeIn) 20 = .ok (.ireturn, 1) := by decide +kernel
theorem d_X5_init_0 : decode (mC M_X5_init) 0 = .ok (.aload_n 0, 1) := by decide +kernel
theorem d_X5_init_1 : decode (mC M_X5_init) 1 = .ok (.invokespecial 3, 3) := by decide +kernel
theorem d_X5_init_4 : decode (mC M_X5_init) 4 = .ok (.aload_n 0, 1) := by decide +kernel
theorem d_X5_init_5 : decode (mC M_X5_init) 5 = .ok (.iload_n 1, 1) := by decide +kernel
theorem d_X5_init_6 : decode (mC M_X5_init) 6 = .ok (.putfield 9, 3) := by decide +kernel
theorem d_X5_init_9 : decode (mC M_X5_init) 9 = .ok (.aload_n 0, 1) := by decide +kernel
theorem d_X5_init_10 : decode (mC M_X5_init) 10 = .ok (.iload_n 2, 1) := by decide +kernel
theorem d_X5_init_11 : decode (mC M_X5_init) 11 = .ok (.putfield 15, 3) := by decide +kernel
theorem d_X5_init_14 : decode (mC M_X5_init) 14 = .ok (.aload_n 0, 1) := by decide +kernel
theorem d_X5_init_15 : decode (mC M_X5_init) 15 = .ok (.iload_n 3, 1) := by decide +kernel
theorem d_X5_init_16 : decode (mC M_X5_init) 16 = .ok (.putfield 18, 3) := by decide +kernel
theorem d_X5_init_19 : decode (mC M_X5_init) 19 = .ok (.aload_n 0, 1) := by decide +kernel
theorem d_X5_init_20 : decode (mC M_X5_init) 20 = .ok (.iload 4, 2) := by decide +kernel
theorem d_X5_init_22 : decode (mC M_X5_init) 22 = .ok (.putfield 21, 3) := by decide +kernel
theorem d_X5_init_25 : decode (mC M_X5_init) 25 = .ok (.aload_n 0, 1) := by decide +kernel
theorem d_X5_init_26 : decode (mC M_X5_init) 26 = .ok (.iload 5, 2) := by decide +kernel
theorem d_X5_init_28 : decode (mC M_X5_init) 28 = .ok (.putfield 24, 3) := by decide +kernel
theorem d_X5_init_31 : decode (mC M_X5_init) 31 = .ok (.aload_n 0, 1) := by decide +kernel
theorem d_X5_init_32 : decode (mC M_X5_init) 32 = .ok (.iload 6, 2) := by decide +kernel
theorem d_X5_init_34 : decode (mC M_X5_init) 34 = .ok (.putfield 27, 3) := by decide +kernel
theorem d_X5_init_37 : decode (mC M_X5_init) 37 = .ok (.return_, 1) := by decide +kernel
theorem d_X5_moveTo_0 : decode (mC M_X5_moveTo) 0 = .ok (.aload_n 0, 1) := by decide +kernel
theorem d_X5_moveTo_1 : decode (mC M_X5_moveTo) 1 = .ok (.getfield 39, 3) := by decide +kernel
theorem d_X5_moveTo_4 : decode (mC M_X5_moveTo) 4 = .ok (.ifnull 16, 3) := by decide +kernel
theorem d_X5_moveTo_7 : decode (mC M_X5_moveTo) 7 = .ok (.aload_n 0, 1) := by decide +kernel
theorem d_X5_moveTo_8 : decode (mC M_X5_moveTo) 8 = .ok (.getfield 39, 3) := by decide +kernel
theorem d_X5_moveTo_11 : decode (mC M_X5_moveTo) 11 = .ok (.dup, 1) := by decide +kernel
theorem d_X5_moveTo_12 : decode (mC M_X5_moveTo) 12 = .ok (.getfield 43, 3) := by decide +kernel
theorem d_X5_moveTo_15 : decode (mC M_X5_moveTo) 15 = .ok (.iconst 1, 1) := by decide +kernel
theorem d_X5_moveTo_16 : decode (mC M_X5_moveTo) 16 = .ok (.isub, 1) := by decide +kernel
theorem d_X5_moveTo_17 : decode (mC M_X5_moveTo) 17 = .ok (.putfield 43, 3) := by decide +kernel
theorem d_X5_moveTo_20 : decode (mC M_X5_moveTo) 20 = .ok (.aload_n 0, 1) := by decide +kernel
theorem d_X5_moveTo_21 : decode (mC M_X5_moveTo) 21 = .ok (.aload_n 1, 1) := by decide +kernel
theorem d_X5_moveTo_22 : decode (mC M_X5_moveTo) 22 = .ok (.putfield 39, 3) := by decide +kernel
theorem d_X5_moveTo_25 : decode (mC M_X5_moveTo) 25 = .ok (.aload_n 1, 1) := by decide +kernel
theorem d_X5_moveTo_26 : decode (mC M_X5_moveTo) 26 = .ok (.ifnull 13, 3) := by decide +kernel
theorem d_X5_moveTo_29 : decode (mC M_X5_moveTo) 29 = .ok (.aload_n 1, 1) := by decide +kernel
theorem d_X5_moveTo_30 : decode (mC M_X5_moveTo) 30 = .ok (.dup, 1) := by decide +kernel
theorem d_X5_moveTo_31 : decode (mC M_X5_moveTo) 31 = .ok (.getfield 43, 3) := by decide +kernel
theorem d_X5_moveTo_34 : decode (mC M_X5_moveTo) 34 = .ok (.iconst 1, 1) := by decide +kernel
theorem d_X5_moveTo_35 : decode (mC M_X5_moveTo) 35 = .ok (.iadd, 1) := by decide +kernel
theorem d_X5_moveTo_36 : decode (mC M_X5_moveTo) 36 = .ok (.putfield 43, 3) := by decide +kernel
theorem d_X5_moveTo_39 : decode (mC M_X5_moveTo) 39 = .ok (.return_, 1) := by decide +kernel
theorem d_X5_wasIn_0 : decode (mC M_X5_wasIn) 0 = .ok (.aload_n 0, 1) := by decide +kernel
theorem d_X5_wasIn_1 : decode (mC M_X5_wasIn) 1 = .ok (.getfield 30, 3) := by decide +kernel
theorem d_X5_wasIn_4 : decode (mC M_X5_wasIn) 4 = .ok (.iload_n 1, 1) := by decide +kernel
theorem d_X5_wasIn_5 : decode (mC M_X5_wasIn) 5 = .ok (.ishr, 1) := by decide +kernel
theorem d_X5_wasIn_6 : decode (mC M_X5_wasIn) 6 = .ok (.iconst 1, 1) := by decide +kernel
theorem d_X5_wasIn_7 : decode (mC M_X5_wasIn) 7 = .ok (.iand, 1) := by decide +kernel
theorem d_X5_wasIn_8 : decode (mC M_X5_wasIn) 8 = .ok (.iconst 1, 1) := by decide +kernel
theorem d_X5_wasIn_9 : decode (mC M_X5_wasIn) 9 = .ok (.if_icmp .ne 7, 3) := by decide +kernel
theorem d_X5_wasIn_12 : decode (mC M_X5_wasIn) 12 = .ok (.iconst 1, 1) := by decide +kernel
theorem d_X5_wasIn_13 : decode (mC M_X5_wasIn) 13 = .ok (.goto 4, 3) := by decide +kernel
theorem d_X5_wasIn_16 : decode (mC M_X5_wasIn) 16 = .ok (.iconst 0, 1) := by decide +kernel
theorem d_X5_wasIn_17 : decode (mC M_X5_wasIn) 17 = .ok (.ireturn, 1) := by decide +kernel
theorem d_X6_dismissAll_0 : decode (mC M_X6_dismissAll) 0 = .ok (.iconst 0, 1) := by decide +kernel
theorem d_X6_dismissAll_1 : decode (mC M_X6_dismissAll) 1 = .ok (.istore_n 1, 1) := by decide +kernel
theorem d_X6_dismissAll_2 : decode (mC M_X6_dismissAll) 2 = .ok (.iload_n 1, 1) := by decide +kernel
theorem d_X6_dismissAll_3 : decode (mC M_X6_dismissAll) 3 = .ok (.aload_n 0, 1) := by decide +kernel
theorem d_X6_dismissAll_4 : decode (mC M_X6_dismissAll) 4 = .ok (.getfield 27, 3) := by decide +kernel
theorem d_X6_dismissAll_7 : decode (mC M_X6_dismissAll) 7 = .ok (.invokevirtual 30, 3) := by decide +kernel
theorem d_X6_dismissAll_10 : decode (mC M_X6_dismissAll) 10 = .ok (.if_icmp .ge 24, 3) := by decide +kernel
theorem d_X6_dismissAll_13 : decode (mC M_X6_dismissAll) 13 = .ok (.aload_n 0, 1) := by decide +kernel
theorem d_X6_dismissAll_14 : decode (mC M_X6_dismissAll) 14 = .ok (.getfield 27, 3) := by decide +kernel
theorem d_X6_dismissAll_17 : decode (mC M_X6_dismissAll) 17 = .ok (.iload_n 1, 1) := by decide +kernel
theorem d_X6_dismissAll_18 : decode (mC M_X6_dismissAll) 18 = .ok (.invokevirtual 34, 3) := by decide +kernel
theorem d_X6_dismissAll_21 : decode (mC M_X6_dismissAll) 21 = .ok (.checkcast 47, 3) := by decide +kernel
theorem d_X6_dismissAll_24 : decode (mC M_X6_dismissAll) 24 = .ok (.aconst_null, 1) := by decide +kernel
theorem d_X6_dismissAll_25 : decode (mC M_X6_dismissAll) 25 = .ok (.invokevirtual 49, 3) := by decide +kernel
theorem d_X6_dismissAll_28 : decode (mC M_X6_dismissAll) 28 = .ok (.iinc 1 1, 3) := by decide +kernel
theorem d_X6_dismissAll_31 : decode (mC M_X6_dismissAll) 31 = .ok (.goto (-29), 3) := by decide +kernel
theorem d_X6_dismissAll_34 : decode (mC M_X6_dismissAll) 34 = .ok (.return_, 1) := by decide +kernel
theorem d_X6_find_0 : decode (mC M_X6_find) 0 = .ok (.iload_n 1, 1) := by decide +kernel
theorem d_X6_find_1 : decode (mC M_X6_find) 1 = .ok (.ifCond .lt 28, 3) := by decide +kernel
theorem d_X6_find_4 : decode (mC M_X6_find) 4 = .ok (.iload_n 1, 1) := by decide +kernel
theorem d_X6_find_5 : decode (mC M_X6_find) 5 = .ok (.aload_n 0, 1) := by decide +kernel
theorem d_X6_find_6 : decode (mC M_X6_find) 6 = .ok (.getfield 12, 3) := by decide +kernel
theorem d_X6_find_9 : decode (mC M_X6_find) 9 = .ok (.invokevirtual 30, 3) := by decide +kernel
theorem d_X6_find_12 : decode (mC M_X6_find) 12 = .ok (.if_icmp .ge 17, 3) := by decide +kernel
theorem d_X6_find_15 : decode (mC M_X6_find) 15 = .ok (.aload_n 0, 1) := by decide +kernel
theorem d_X6_find_16 : decode (mC M_X6_find) 16 = .ok (.getfield 12, 3) := by decide +kernel
theorem d_X6_find_19 : decode (mC M_X6_find) 19 = .ok (.iload_n 1, 1) := by decide +kernel
theorem d_X6_find_20 : decode (mC M_X6_find) 20 = .ok (.invokevirtual 34, 3) := by decide +kernel
theorem d_X6_find_23 : decode (mC M_X6_find) 23 = .ok (.checkcast 38, 3) := by decide +kernel
theorem d_X6_find_26 : decode (mC M_X6_find) 26 = .ok (.goto 4, 3) := by decide +kernel
theorem d_X6_find_29 : decode (mC M_X6_find) 29 = .ok (.aconst_null, 1) := by decide +kernel
theorem d_X6_find_30 : decode (mC M_X6_find) 30 = .ok (.areturn, 1) := by decide +kernel
theorem d_X6_firstOfRow_0 : decode (mC M_X6_firstOfRow) 0 = .ok (.iconst 0, 1) := by decide +kernel
theorem d_X6_firstOfRow_1 : decode (mC M_X6_firstOfRow) 1 = .ok (.istore_n 3, 1) := by decide +kernel
theorem d_X6_firstOfRow_2 : decode (mC M_X6_firstOfRow) 2 = .ok (.iload_n 3, 1) := by decide +kernel
theorem d_X6_firstOfRow_3 : decode (mC M_X6_firstOfRow) 3 = .ok (.aload_n 0, 1) := by decide +kernel
theorem d_X6_firstOfRow_4 : decode (mC M_X6_firstOfRow) 4 = .ok (.getfield 27, 3) := by decide +kernel
theorem d_X6_firstOfRow_7 : decode (mC M_X6_firstOfRow) 7 = .ok (.invokevirtual 30, 3) := by decide +kernel
theorem d_X6_firstOfRow_10 : decode (mC M_X6_firstOfRow) 10 = .ok (.if_icmp .ge 90, 3) := by decide +kernel
theorem d_X6_firstOfRow_13 : decode (mC M_X6_firstOfRow) 13 = .ok (.aload_n 0, 1) := by decide +kernel
theorem d_X6_firstOfRow_14 : decode (mC M_X6_firstOfRow) 14 = .ok (.getfield 27, 3) := by decide +kernel
theorem d_X6_firstOfRow_17 : decode (mC M_X6_firstOfRow) 17 = .ok (.iload_n 3, 1) := by decide +kernel
theorem d_X6_firstOfRow_18 : decode (mC M_X6_firstOfRow) 18 = .ok (.invokevirtual 34, 3) := by decide +kernel
theorem d_X6_firstOfRow_21 : decode (mC M_X6_firstOfRow) 21 = .ok (.checkcast 47, 3) := by decide +kernel
theorem d_X6_firstOfRow_24 : decode (mC M_X6_firstOfRow) 24 = .ok (.astore 4, 2) := by decide +kernel
theorem d_X6_firstOfRow_26 : decode (mC M_X6_firstOfRow) 26 = .ok (.aload 4, 2) := by decide +kernel
theorem d_X6_firstOfRow_28 : decode (mC M_X6_firstOfRow) 28 = .ok (.getfield 73, 3) := by decide +kernel
theorem d_X6_firstOfRow_31 : decode (mC M_X6_firstOfRow) 31 = .ok (.ifnonnull 16, 3) := by decide +kernel
theorem d_X6_firstOfRow_34 : decode (mC M_X6_firstOfRow) 34 = .ok (.iload_n 2, 1) := by decide +kernel
theorem d_X6_firstOfRow_35 : decode (mC M_X6_firstOfRow) 35 = .ok (.iconst 1, 1) := by decide +kernel
theorem d_X6_firstOfRow_36 : decode (mC M_X6_firstOfRow) 36 = .ok (.if_icmp .ne 7, 3) := by decide +kernel
theorem d_X6_firstOfRow_39 : decode (mC M_X6_firstOfRow) 39 = .ok (.iconst 1, 1) := by decide +kernel
theorem d_X6_firstOfRow_40 : decode (mC M_X6_firstOfRow) 40 = .ok (.goto 26, 3) := by decide +kernel
theorem d_X6_firstOfRow_43 : decode (mC M_X6_firstOfRow) 43 = .ok (.iconst 0, 1) := by decide +kernel
theorem d_X6_firstOfRow_44 : decode (mC M_X6_firstOfRow) 44 = .ok (.goto 22, 3) := by decide +kernel
theorem d_X6_firstOfRow_47 : decode (mC M_X6_firstOfRow) 47 = .ok (.aload 4, 2) := by decide +kernel
theorem d_X6_firstOfRow_49 : decode (mC M_X6_firstOfRow) 49 = .ok (.getfield 73, 3) := by decide +kernel
theorem d_X6_firstOfRow_52 : decode (mC M_X6_firstOfRow) 52 = .ok (.getfield 103, 3) := by decide +kernel
theorem d_X6_firstOfRow_55 : decode (mC M_X6_firstOfRow) 55 = .ok (.iload_n 2, 1) := by decide +kernel
theorem d_X6_firstOfRow_56 : decode (mC M_X6_firstOfRow) 56 = .ok (.iconst 1, 1) := by decide +kernel
theorem d_X6_firstOfRow_57 : decode (mC M_X6_firstOfRow) 57 = .ok (.isub, 1) := by decide +kernel
theorem d_X6_firstOfRow_58 : decode (mC M_X6_firstOfRow) 58 = .ok (.if_icmp .ne 7, 3) := by decide +kernel
theorem d_X6_firstOfRow_61 : decode (mC M_X6_firstOfRow) 61 = .ok (.iconst 1, 1) := by decide +kernel
theorem d_X6_firstOfRow_62 : decode (mC M_X6_firstOfRow) 62 = .ok (.goto 4, 3) := by decide +kernel
theorem d_X6_firstOfRow_65 : decode (mC M_X6_firstOfRow) 65 = .ok (.iconst 0, 1) := by decide +kernel
theorem d_X6_firstOfRow_66 : decode (mC M_X6_firstOfRow) 66 = .ok (.istore 5, 2) := by decide +kernel
theorem d_X6_firstOfRow_68 : decode (mC M_X6_firstOfRow) 68 = .ok (.iload 5, 2) := by decide +kernel
theorem d_X6_firstOfRow_70 : decode (mC M_X6_firstOfRow) 70 = .ok (.ifCond .eq 24, 3) := by decide +kernel
theorem d_X6_firstOfRow_73 : decode (mC M_X6_firstOfRow) 73 = .ok (.aload 4, 2) := by decide +kernel
theorem d_X6_firstOfRow_75 : decode (mC M_X6_firstOfRow) 75 = .ok (.getfield 73, 3) := by decide +kernel
theorem d_X6_firstOfRow_78 : decode (mC M_X6_firstOfRow) 78 = .ok (.aload_n 1, 1) := by decide +kernel
theorem d_X6_firstOfRow_79 : decode (mC M_X6_firstOfRow) 79 = .ok (.if_acmp .eq 15, 3) := by decide +kernel
theorem d_X6_firstOfRow_82 : decode (mC M_X6_firstOfRow) 82 = .ok (.aload 4, 2) := by decide +kernel
theorem d_X6_firstOfRow_84 : decode (mC M_X6_firstOfRow) 84 = .ok (.aload_n 1, 1) := by decide +kernel
theorem d_X6_firstOfRow_85 : decode (mC M_X6_firstOfRow) 85 = .ok (.invokevirtual 84, 3) := by decide +kernel
theorem d_X6_firstOfRow_88 : decode (mC M_X6_firstOfRow) 88 = .ok (.ifCond .eq 6, 3) := by decide +kernel
theorem d_X6_firstOfRow_91 : decode (mC M_X6_firstOfRow) 91 = .ok (.aload 4, 2) := by decide +kernel
theorem d_X6_firstOfRow_93 : decode (mC M_X6_firstOfRow) 93 = .ok (.areturn, 1) := by decide +kernel
theorem d_X6_firstOfRow_94 : decode (mC M_X6_firstOfRow) 94 = .ok (.iinc 3 1, 3) := by decide +kernel
theorem d_X6_firstOfRow_97 : decode (mC M_X6_firstOfRow) 97 = .ok (.goto (-95), 3) := by decide +kernel
theorem d_X6_firstOfRow_100 : decode (mC M_X6_firstOfRow) 100 = .ok (.aconst_null, 1) := by decide +kernel
theorem d_X6_firstOfRow_101 : decode (mC M_X6_firstOfRow) 101 = .ok (.areturn, 1) := by decide +kernel
theorem d_X6_init_0 : decode (mC M_X6_init) 0 = .ok (.aload_n 0, 1) := by decide +kernel
theorem d_X6_init_1 : decode (mC M_X6_init) 1 = .ok (.invokespecial 3, 3) := by decide +kernel
theorem d_X6_init_4 : decode (mC M_X6_init) 4 = .ok (.aload_n 0, 1) := by decide +kernel
theorem d_X6_init_5 : decode (mC M_X6_init) 5 = .ok (.new 9, 3) := by decide +kernel
theorem d_X6_init_8 : decode (mC M_X6_init) 8 = .ok (.dup, 1) := by decide +kernel
theorem d_X6_init_9 : decode (mC M_X6_init) 9 = .ok (.invokespecial 11, 3) := by decide +kernel
theorem d_X6_init_12 : decode (mC M_X6_init) 12 = .ok (.putfield 12, 3) := by decide +kernel
theorem d_X6_init_15 : decode (mC M_X6_init) 15 = .ok (.aload_n 0, 1) := by decide +kernel
theorem d_X6_init_16 : decode (mC M_X6_init) 16 = .ok (.new 18, 3) := by decide +kernel
theorem d_X6_init_19 : decode (mC M_X6_init) 19 = .ok (.dup, 1) := by decide +kernel
theorem d_X6_init_20 : decode (mC M_X6_init) 20 = .ok (.bipush 6, 2) := by decide +kernel
theorem d_X6_init_22 : decode (mC M_X6_init) 22 = .ok (.invokespecial 20, 3) := by decide +kernel
theorem d_X6_init_25 : decode (mC M_X6_init) 25 = .ok (.putfield 23, 3) := by decide +kernel
theorem d_X6_init_28 : decode (mC M_X6_init) 28 = .ok (.aload_n 0, 1) := by decide +kernel
theorem d_X6_init_29 : decode (mC M_X6_init) 29 = .ok (.aload_n 1, 1) := by decide +kernel
theorem d_X6_init_30 : decode (mC M_X6_init) 30 = .ok (.putfield 27, 3) := by decide +kernel
theorem d_X6_init_33 : decode (mC M_X6_init) 33 = .ok (.return_, 1) := by decide +kernel
theorem d_X6_layFor_0 : decode (mC M_X6_layFor) 0 = .ok (.aload_n 0, 1) := by decide +kernel
theorem d_X6_layFor_1 : decode (mC M_X6_layFor) 1 = .ok (.invokevirtual 44, 3) := by decide +kernel
theorem d_X6_layFor_4 : decode (mC M_X6_layFor) 4 = .ok (.aload_n 0, 1) := by decide +kernel
theorem d_X6_layFor_5 : decode (mC M_X6_layFor) 5 = .ok (.iload_n 1, 1) := by decide +kernel
theorem d_X6_layFor_6 : decode (mC M_X6_layFor) 6 = .ok (.invokevirtual 60, 3) := by decide +kernel
theorem d_X6_layFor_9 : decode (mC M_X6_layFor) 9 = .ok (.iconst 0, 1) := by decide +kernel
theorem d_X6_layFor_10 : decode (mC M_X6_layFor) 10 = .ok (.istore_n 2, 1) := by decide +kernel
theorem d_X6_layFor_11 : decode (mC M_X6_layFor) 11 = .ok (.iload_n 2, 1) := by decide +kernel
theorem d_X6_layFor_12 : decode (mC M_X6_layFor) 12 = .ok (.bipush 60, 2) := by decide +kernel
theorem d_X6_layFor_14 : decode (mC M_X6_layFor) 14 = .ok (.if_icmp .gt 62, 3) := by decide +kernel
theorem d_X6_layFor_17 : decode (mC M_X6_layFor) 17 = .ok (.iconst 0, 1) := by decide +kernel
theorem d_X6_layFor_18 : decode (mC M_X6_layFor) 18 = .ok (.istore_n 3, 1) := by decide +kernel
theorem d_X6_layFor_19 : decode (mC M_X6_layFor) 19 = .ok (.iload_n 3, 1) := by decide +kernel
theorem d_X6_layFor_20 : decode (mC M_X6_layFor) 20 = .ok (.aload_n 0, 1) := by decide +kernel
theorem d_X6_layFor_21 : decode (mC M_X6_layFor) 21 = .ok (.getfield 27, 3) := by decide +kernel
theorem d_X6_layFor_24 : decode (mC M_X6_layFor) 24 = .ok (.invokevirtual 30, 3) := by decide +kernel
theorem d_X6_layFor_27 : decode (mC M_X6_layFor) 27 = .ok (.if_icmp .ge 43, 3) := by decide +kernel
theorem d_X6_layFor_30 : decode (mC M_X6_layFor) 30 = .ok (.aload_n 0, 1) := by decide +kernel
theorem d_X6_layFor_31 : decode (mC M_X6_layFor) 31 = .ok (.getfield 27, 3) := by decide +kernel
theorem d_X6_layFor_34 : decode (mC M_X6_layFor) 34 = .ok (.iload_n 3, 1) := by decide +kernel
theorem d_X6_layFor_35 : decode (mC M_X6_layFor) 35 = .ok (.invokevirtual 34, 3) := by decide +kernel
theorem d_X6_layFor_38 : decode (mC M_X6_layFor) 38 = .ok (.checkcast 47, 3) := by decide +kernel
theorem d_X6_layFor_41 : decode (mC M_X6_layFor) 41 = .ok (.getfield 63, 3) := by decide +kernel
theorem d_X6_layFor_44 : decode (mC M_X6_layFor) 44 = .ok (.iload_n 2, 1) := by decide +kernel
theorem d_X6_layFor_45 : decode (mC M_X6_layFor) 45 = .ok (.if_icmp .ne 19, 3) := by decide +kernel
theorem d_X6_layFor_48 : decode (mC M_X6_layFor) 48 = .ok (.aload_n 0, 1) := by decide +kernel
theorem d_X6_layFor_49 : decode (mC M_X6_layFor) 49 = .ok (.aload_n 0, 1) := by decide +kernel
theorem d_X6_layFor_50 : decode (mC M_X6_layFor) 50 = .ok (.getfield 27, 3) := by decide +kernel
theorem d_X6_layFor_53 : decode (mC M_X6_layFor) 53 = .ok (.iload_n 3, 1) := by decide +kernel
theorem d_X6_layFor_54 : decode (mC M_X6_layFor) 54 = .ok (.invokevirtual 34, 3) := by decide +kernel
theorem d_X6_layFor_57 : decode (mC M_X6_layFor) 57 = .ok (.checkcast 47, 3) := by decide +kernel
theorem d_X6_layFor_60 : decode (mC M_X6_layFor) 60 = .ok (.iconst (-1), 1) := by decide +kernel
theorem d_X6_layFor_61 : decode (mC M_X6_layFor) 61 = .ok (.invokevirtual 66, 3) := by decide +kernel
theorem d_X6_layFor_64 : decode (mC M_X6_layFor) 64 = .ok (.iinc 3 1, 3) := by decide +kernel
theorem d_X6_layFor_67 : decode (mC M_X6_layFor) 67 = .ok (.goto (-48), 3) := by decide +kernel
theorem d_X6_layFor_70 : decode (mC M_X6_layFor) 70 = .ok (.iinc 2 1, 3) := by decide +kernel
theorem d_X6_layFor_73 : decode (mC M_X6_layFor) 73 = .ok (.goto (-62), 3) := by decide +kernel
theorem d_X6_layFor_76 : decode (mC M_X6_layFor) 76 = .ok (.aload_n 0, 1) := by decide +kernel
theorem d_X6_layFor_77 : decode (mC M_X6_layFor) 77 = .ok (.invokevirtual 70, 3) := by decide +kernel
theorem d_X6_layFor_80 : decode (mC M_X6_layFor) 80 = .ok (.return_, 1) := by decide +kernel
theorem d_X6_lookWhoIsOpen_0 : decode (mC M_X6_lookWhoIsOpen) 0 = .ok (.iconst 0, 1) := by decide +kernel
theorem d_X6_lookWhoIsOpen_1 : decode (mC M_X6_lookWhoIsOpen) 1 = .ok (.istore_n 2, 1) := by decide +kernel
theorem d_X6_lookWhoIsOpen_2 : decode (mC M_X6_lookWhoIsOpen) 2 = .ok (.iload_n 2, 1) := by decide +kernel
theorem d_X6_lookWhoIsOpen_3 : decode (mC M_X6_lookWhoIsOpen) 3 = .ok (.aload_n 0, 1) := by decide +kernel
theorem d_X6_lookWhoIsOpen_4 : decode (mC M_X6_lookWhoIsOpen) 4 = .ok (.getfield 27, 3) := by decide +kernel
theorem d_X6_lookWhoIsOpen_7 : decode (mC M_X6_lookWhoIsOpen) 7 = .ok (.invokevirtual 30, 3) := by decide +kernel
theorem d_X6_lookWhoIsOpen_10 : decode (mC M_X6_lookWhoIsOpen) 10 = .ok (.if_icmp .ge 80, 3) := by decide +kernel
theorem d_X6_lookWhoIsOpen_13 : decode (mC M_X6_lookWhoIsOpen) 13 = .ok (.aload_n 0, 1) := by decide +kernel
theorem d_X6_lookWhoIsOpen_14 : decode (mC M_X6_lookWhoIsOpen) 14 = .ok (.getfield 27, 3) := by decide +kernel
theorem d_X6_lookWhoIsOpen_17 : decode (mC M_X6_lookWhoIsOpen) 17 = .ok (.iload_n 2, 1) := by decide +kernel
theorem d_X6_lookWhoIsOpen_18 : decode (mC M_X6_lookWhoIsOpen) 18 = .ok (.invokevirtual 34, 3) := by decide +kernel
theorem d_X6_lookWhoIsOpen_21 : decode (mC M_X6_lookWhoIsOpen) 21 = .ok (.checkcast 47, 3) := by decide +kernel
theorem d_X6_lookWhoIsOpen_24 : decode (mC M_X6_lookWhoIsOpen) 24 = .ok (.astore_n 3, 1) := by decide +kernel
theorem d_X6_lookWhoIsOpen_25 : decode (mC M_X6_lookWhoIsOpen) 25 = .ok (.aload_n 3, 1) := by decide +kernel
theorem d_X6_lookWhoIsOpen_26 : decode (mC M_X6_lookWhoIsOpen) 26 = .ok (.iconst 0, 1) := by decide +kernel
theorem d_X6_lookWhoIsOpen_27 : decode (mC M_X6_lookWhoIsOpen) 27 = .ok (.putfield 53, 3) := by decide +kernel
theorem d_X6_lookWhoIsOpen_30 : decode (mC M_X6_lookWhoIsOpen) 30 = .ok (.iconst 0, 1) := by decide +kernel
theorem d_X6_lookWhoIsOpen_31 : decode (mC M_X6_lookWhoIsOpen) 31 = .ok (.istore 4, 2) := by decide +kernel
theorem d_X6_lookWhoIsOpen_33 : decode (mC M_X6_lookWhoIsOpen) 33 = .ok (.iload 4, 2) := by decide +kernel
theorem d_X6_lookWhoIsOpen_35 : decode (mC M_X6_lookWhoIsOpen) 35 = .ok (.aload_n 0, 1) := by decide +kernel
theorem d_X6_lookWhoIsOpen_36 : decode (mC M_X6_lookWhoIsOpen) 36 = .ok (.getfield 12, 3) := by decide +kernel
theorem d_X6_lookWhoIsOpen_39 : decode (mC M_X6_lookWhoIsOpen) 39 = .ok (.invokevirtual 30, 3) := by decide +kernel
theorem d_X6_lookWhoIsOpen_42 : decode (mC M_X6_lookWhoIsOpen) 42 = .ok (.if_icmp .ge 42, 3) := by decide +kernel
theorem d_X6_lookWhoIsOpen_45 : decode (mC M_X6_lookWhoIsOpen) 45 = .ok (.aload_n 0, 1) := by decide +kernel
theorem d_X6_lookWhoIsOpen_46 : decode (mC M_X6_lookWhoIsOpen) 46 = .ok (.getfield 12, 3) := by decide +kernel
theorem d_X6_lookWhoIsOpen_49 : decode (mC M_X6_lookWhoIsOpen) 49 = .ok (.iload 4, 2) := by decide +kernel
theorem d_X6_lookWhoIsOpen_51 : decode (mC M_X6_lookWhoIsOpen) 51 = .ok (.invokevirtual 34, 3) := by decide +kernel
theorem d_X6_lookWhoIsOpen_54 : decode (mC M_X6_lookWhoIsOpen) 54 = .ok (.checkcast 38, 3) := by decide +kernel
theorem d_X6_lookWhoIsOpen_57 : decode (mC M_X6_lookWhoIsOpen) 57 = .ok (.aload_n 3, 1) := by decide +kernel
theorem d_X6_lookWhoIsOpen_58 : decode (mC M_X6_lookWhoIsOpen) 58 = .ok (.iload_n 1, 1) := by decide +kernel
theorem d_X6_lookWhoIsOpen_59 : decode (mC M_X6_lookWhoIsOpen) 59 = .ok (.invokevirtual 56, 3) := by decide +kernel
theorem d_X6_lookWhoIsOpen_62 : decode (mC M_X6_lookWhoIsOpen) 62 = .ok (.ifCond .eq 16, 3) := by decide +kernel
theorem d_X6_lookWhoIsOpen_65 : decode (mC M_X6_lookWhoIsOpen) 65 = .ok (.aload_n 3, 1) := by decide +kernel
theorem d_X6_lookWhoIsOpen_66 : decode (mC M_X6_lookWhoIsOpen) 66 = .ok (.dup, 1) := by decide +kernel
theorem d_X6_lookWhoIsOpen_67 : decode (mC M_X6_lookWhoIsOpen) 67 = .ok (.getfield 53, 3) := by decide +kernel
theorem d_X6_lookWhoIsOpen_70 : decode (mC M_X6_lookWhoIsOpen) 70 = .ok (.iconst 1, 1) := by decide +kernel
theorem d_X6_lookWhoIsOpen_71 : decode (mC M_X6_lookWhoIsOpen) 71 = .ok (.iload 4, 2) := by decide +kernel
theorem d_X6_lookWhoIsOpen_73 : decode (mC M_X6_lookWhoIsOpen) 73 = .ok (.ishl, 1) := by decide +kernel
theorem d_X6_lookWhoIsOpen_74 : decode (mC M_X6_lookWhoIsOpen) 74 = .ok (.ior, 1) := by decide +kernel
theorem d_X6_lookWhoIsOpen_75 : decode (mC M_X6_lookWhoIsOpen) 75 = .ok (.putfield 53, 3) := by decide +kernel
theorem d_X6_lookWhoIsOpen_78 : decode (mC M_X6_lookWhoIsOpen) 78 = .ok (.iinc 4 1, 3) := by decide +kernel
theorem d_X6_lookWhoIsOpen_81 : decode (mC M_X6_lookWhoIsOpen) 81 = .ok (.goto (-48), 3) := by decide +kernel
theorem d_X6_lookWhoIsOpen_84 : decode (mC M_X6_lookWhoIsOpen) 84 = .ok (.iinc 2 1, 3) := by decide +kernel
theorem d_X6_lookWhoIsOpen_87 : decode (mC M_X6_lookWhoIsOpen) 87 = .ok (.goto (-85), 3) := by decide +kernel
theorem d_X6_lookWhoIsOpen_90 : decode (mC M_X6_lookWhoIsOpen) 90 = .ok (.return_, 1) := by decide +kernel
theorem d_X6_makeRoom_0 : decode (mC M_X6_makeRoom) 0 = .ok (.aload_n 1, 1) := by decide +kernel
theorem d_X6_makeRoom_1 : decode (mC M_X6_makeRoom) 1 = .ok (.getfield 40, 3) := by decide +kernel
theorem d_X6_makeRoom_4 : decode (mC M_X6_makeRoom) 4 = .ok (.aload_n 1, 1) := by decide +kernel
theorem d_X6_makeRoom_5 : decode (mC M_X6_makeRoom) 5 = .ok (.getfield 92, 3) := by decide +kernel
theorem d_X6_makeRoom_8 : decode (mC M_X6_makeRoom) 8 = .ok (.if_icmp .ge 5, 3) := by decide +kernel
theorem d_X6_makeRoom_11 : decode (mC M_X6_makeRoom) 11 = .ok (.iconst 1, 1) := by decide +kernel
theorem d_X6_makeRoom_12 : decode (mC M_X6_makeRoom) 12 = .ok (.ireturn, 1) := by decide +kernel
theorem d_X6_makeRoom_13 : decode (mC M_X6_makeRoom) 13 = .ok (.aload_n 0, 1) := by decide +kernel
theorem d_X6_makeRoom_14 : decode (mC M_X6_makeRoom) 14 = .ok (.getfield 77, 3) := by decide +kernel
theorem d_X6_makeRoom_17 : decode (mC M_X6_makeRoom) 17 = .ok (.aload_n 1, 1) := by decide +kernel
theorem d_X6_makeRoom_18 : decode (mC M_X6_makeRoom) 18 = .ok (.getfield 95, 3) := by decide +kernel
theorem d_X6_makeRoom_21 : decode (mC M_X6_makeRoom) 21 = .ok (.ishr, 1) := by decide +kernel
theorem d_X6_makeRoom_22 : decode (mC M_X6_makeRoom) 22 = .ok (.iconst 1, 1) := by decide +kernel
theorem d_X6_makeRoom_23 : decode (mC M_X6_makeRoom) 23 = .ok (.iand, 1) := by decide +kernel
theorem d_X6_makeRoom_24 : decode (mC M_X6_makeRoom) 24 = .ok (.iconst 1, 1) := by decide +kernel
theorem d_X6_makeRoom_25 : decode (mC M_X6_makeRoom) 25 = .ok (.if_icmp .eq 9, 3) := by decide +kernel
theorem d_X6_makeRoom_28 : decode (mC M_X6_makeRoom) 28 = .ok (.iload_n 3, 1) := by decide +kernel
theorem d_X6_makeRoom_29 : decode (mC M_X6_makeRoom) 29 = .ok (.bipush 6, 2) := by decide +kernel
theorem d_X6_makeRoom_31 : decode (mC M_X6_makeRoom) 31 = .ok (.if_icmp .le 5, 3) := by decide +kernel
theorem d_X6_makeRoom_34 : decode (mC M_X6_makeRoom) 34 = .ok (.iconst 0, 1) := by decide +kernel
theorem d_X6_makeRoom_35 : decode (mC M_X6_makeRoom) 35 = .ok (.ireturn, 1) := by decide +kernel
theorem d_X6_makeRoom_36 : decode (mC M_X6_makeRoom) 36 = .ok (.aload_n 0, 1) := by decide +kernel
theorem d_X6_makeRoom_37 : decode (mC M_X6_makeRoom) 37 = .ok (.dup, 1) := by decide +kernel
theorem d_X6_makeRoom_38 : decode (mC M_X6_makeRoom) 38 = .ok (.getfield 77, 3) := by decide +kernel
theorem d_X6_makeRoom_41 : decode (mC M_X6_makeRoom) 41 = .ok (.iconst 1, 1) := by decide +kernel
theorem d_X6_makeRoom_42 : decode (mC M_X6_makeRoom) 42 = .ok (.aload_n 1, 1) := by decide +kernel
theorem d_X6_makeRoom_43 : decode (mC M_X6_makeRoom) 43 = .ok (.getfield 95, 3) := by decide +kernel
theorem d_X6_makeRoom_46 : decode (mC M_X6_makeRoom) 46 = .ok (.ishl, 1) := by decide +kernel
theorem d_X6_makeRoom_47 : decode (mC M_X6_makeRoom) 47 = .ok (.ior, 1) := by decide +kernel
theorem d_X6_makeRoom_48 : decode (mC M_X6_makeRoom) 48 = .ok (.putfield 77, 3) := by decide +kernel
theorem d_X6_makeRoom_51 : decode (mC M_X6_makeRoom) 51 = .ok (.iload_n 2, 1) := by decide +kernel
theorem d_X6_makeRoom_52 : decode (mC M_X6_makeRoom) 52 = .ok (.ifCond .ge 7, 3) := by decide +kernel
theorem d_X6_makeRoom_55 : decode (mC M_X6_makeRoom) 55 = .ok (.iconst 0, 1) := by decide +kernel
theorem d_X6_makeRoom_56 : decode (mC M_X6_makeRoom) 56 = .ok (.goto 6, 3) := by decide +kernel
theorem d_X6_makeRoom_59 : decode (mC M_X6_makeRoom) 59 = .ok (.iload_n 2, 1) := by decide +kernel
theorem d_X6_makeRoom_60 : decode (mC M_X6_makeRoom) 60 = .ok (.iconst 1, 1) := by decide +kernel
theorem d_X6_makeRoom_61 : decode (mC M_X6_makeRoom) 61 = .ok (.iadd, 1) := by decide +kernel
theorem d_X6_makeRoom_62 : decode (mC M_X6_makeRoom) 62 = .ok (.istore 4, 2) := by decide +kernel
theorem d_X6_makeRoom_64 : decode (mC M_X6_makeRoom) 64 = .ok (.iload 4, 2) := by decide +kernel
theorem d_X6_makeRoom_66 : decode (mC M_X6_makeRoom) 66 = .ok (.aload_n 0, 1) := by decide +kernel
theorem d_X6_makeRoom_67 : decode (mC M_X6_makeRoom) 67 = .ok (.getfield 27, 3) := by decide +kernel
theorem d_X6_makeRoom_70 : decode (mC M_X6_makeRoom) 70 = .ok (.invokevirtual 30, 3) := by decide +kernel
theorem d_X6_makeRoom_73 : decode (mC M_X6_makeRoom) 73 = .ok (.if_icmp .ge 45, 3) := by decide +kernel
theorem d_X6_makeRoom_76 : decode (mC M_X6_makeRoom) 76 = .ok (.aload_n 0, 1) := by decide +kernel
theorem d_X6_makeRoom_77 : decode (mC M_X6_makeRoom) 77 = .ok (.getfield 27, 3) := by decide +kernel
theorem d_X6_makeRoom_80 : decode (mC M_X6_makeRoom) 80 = .ok (.iload 4, 2) := by decide +kernel
theorem d_X6_makeRoom_82 : decode (mC M_X6_makeRoom) 82 = .ok (.invokevirtual 34, 3) := by decide +kernel
theorem d_X6_makeRoom_85 : decode (mC M_X6_makeRoom) 85 = .ok (.checkcast 47, 3) := by decide +kernel
theorem d_X6_makeRoom_88 : decode (mC M_X6_makeRoom) 88 = .ok (.astore 5, 2) := by decide +kernel
theorem d_X6_makeRoom_90 : decode (mC M_X6_makeRoom) 90 = .ok (.aload 5, 2) := by decide +kernel
theorem d_X6_makeRoom_92 : decode (mC M_X6_makeRoom) 92 = .ok (.getfield 73, 3) := by decide +kernel
theorem d_X6_makeRoom_95 : decode (mC M_X6_makeRoom) 95 = .ok (.aload_n 1, 1) := by decide +kernel
theorem d_X6_makeRoom_96 : decode (mC M_X6_makeRoom) 96 = .ok (.if_acmp .ne 16, 3) := by decide +kernel
theorem d_X6_makeRoom_99 : decode (mC M_X6_makeRoom) 99 = .ok (.aload_n 0, 1) := by decide +kernel
theorem d_X6_makeRoom_100 : decode (mC M_X6_makeRoom) 100 = .ok (.aload 5, 2) := by decide +kernel
theorem d_X6_makeRoom_102 : decode (mC M_X6_makeRoom) 102 = .ok (.iload_n 2, 1) := by decide +kernel
theorem d_X6_makeRoom_103 : decode (mC M_X6_makeRoom) 103 = .ok (.iload_n 3, 1) := by decide +kernel
theorem d_X6_makeRoom_104 : decode (mC M_X6_makeRoom) 104 = .ok (.invokevirtual 80, 3) := by decide +kernel
theorem d_X6_makeRoom_107 : decode (mC M_X6_makeRoom) 107 = .ok (.ifCond .eq 5, 3) := by decide +kernel
theorem d_X6_makeRoom_110 : decode (mC M_X6_makeRoom) 110 = .ok (.iconst 1, 1) := by decide +kernel
theorem d_X6_makeRoom_111 : decode (mC M_X6_makeRoom) 111 = .ok (.ireturn, 1) := by decide +kernel
theorem d_X6_makeRoom_112 : decode (mC M_X6_makeRoom) 112 = .ok (.iinc 4 1, 3) := by decide +kernel
theorem d_X6_makeRoom_115 : decode (mC M_X6_makeRoom) 115 = .ok (.goto (-51), 3) := by decide +kernel
theorem d_X6_makeRoom_118 : decode (mC M_X6_makeRoom) 118 = .ok (.iconst 0, 1) := by decide +kernel
theorem d_X6_makeRoom_119 : decode (mC M_X6_makeRoom) 119 = .ok (.ireturn, 1) := by decide +kernel
theorem d_X6_measureRows_0 : decode (mC M_X6_measureRows) 0 = .ok (.iconst 0, 1) := by decide +kernel
theorem d_X6_measureRows_1 : decode (mC M_X6_measureRows) 1 = .ok (.istore_n 1, 1) := by decide +kernel
theorem d_X6_measureRows_2 : decode (mC M_X6_measureRows) 2 = .ok (.iload_n 1, 1) := by decide +kernel
theorem d_X6_measureRows_3 : decode (mC M_X6_measureRows) 3 = .ok (.aload_n 0, 1) := by decide +kernel
theorem d_X6_measureRows_4 : decode (mC M_X6_measureRows) 4 = .ok (.getfield 12, 3) := by decide +kernel
theorem d_X6_measureRows_7 : decode (mC M_X6_measureRows) 7 = .ok (.invokevirtual 30, 3) := by decide +kernel
theorem d_X6_measureRows_10 : decode (mC M_X6_measureRows) 10 = .ok (.if_icmp .ge 24, 3) := by decide +kernel
theorem d_X6_measureRows_13 : decode (mC M_X6_measureRows) 13 = .ok (.aload_n 0, 1) := by decide +kernel
theorem d_X6_measureRows_14 : decode (mC M_X6_measureRows) 14 = .ok (.getfield 12, 3) := by decide +kernel
theorem d_X6_measureRows_17 : decode (mC M_X6_measureRows) 17 = .ok (.iload_n 1, 1) := by decide +kernel
theorem d_X6_measureRows_18 : decode (mC M_X6_measureRows) 18 = .ok (.invokevirtual 34, 3) := by decide +kernel
theorem d_X6_measureRows_21 : decode (mC M_X6_measureRows) 21 = .ok (.checkcast 38, 3) := by decide +kernel
theorem d_X6_measureRows_24 : decode (mC M_X6_measureRows) 24 = .ok (.iconst (-1), 1) := by decide +kernel
theorem d_X6_measureRows_25 : decode (mC M_X6_measureRows) 25 = .ok (.putfield 103, 3) := by decide +kernel
theorem d_X6_measureRows_28 : decode (mC M_X6_measureRows) 28 = .ok (.iinc 1 1, 3) := by decide +kernel
theorem d_X6_measureRows_31 : decode (mC M_X6_measureRows) 31 = .ok (.goto (-29), 3) := by decide +kernel
theorem d_X6_measureRows_34 : decode (mC M_X6_measureRows) 34 = .ok (.iconst 1, 1) := by decide +kernel
theorem d_X6_measureRows_35 : decode (mC M_X6_measureRows) 35 = .ok (.istore_n 1, 1) := by decide +kernel
theorem d_X6_measureRows_36 : decode (mC M_X6_measureRows) 36 = .ok (.iload_n 1, 1) := by decide +kernel
theorem d_X6_measureRows_37 : decode (mC M_X6_measureRows) 37 = .ok (.aload_n 0, 1) := by decide +kernel
theorem d_X6_measureRows_38 : decode (mC M_X6_measureRows) 38 = .ok (.getfield 12, 3) := by decide +kernel
theorem d_X6_measureRows_41 : decode (mC M_X6_measureRows) 41 = .ok (.invokevirtual 30, 3) := by decide +kernel
theorem d_X6_measureRows_44 : decode (mC M_X6_measureRows) 44 = .ok (.if_icmp .gt 62, 3) := by decide +kernel
theorem d_X6_measureRows_47 : decode (mC M_X6_measureRows) 47 = .ok (.iconst 0, 1) := by decide +kernel
theorem d_X6_measureRows_48 : decode (mC M_X6_measureRows) 48 = .ok (.istore_n 2, 1) := by decide +kernel
theorem d_X6_measureRows_49 : decode (mC M_X6_measureRows) 49 = .ok (.iload_n 2, 1) := by decide +kernel
theorem d_X6_measureRows_50 : decode (mC M_X6_measureRows) 50 = .ok (.aload_n 0, 1) := by decide +kernel
theorem d_X6_measureRows_51 : decode (mC M_X6_measureRows) 51 = .ok (.getfield 12, 3) := by decide +kernel
theorem d_X6_measureRows_54 : decode (mC M_X6_measureRows) 54 = .ok (.invokevirtual 30, 3) := by decide +kernel
theorem d_X6_measureRows_57 : decode (mC M_X6_measureRows) 57 = .ok (.if_icmp .ge 43, 3) := by decide +kernel
theorem d_X6_measureRows_60 : decode (mC M_X6_measureRows) 60 = .ok (.aload_n 0, 1) := by decide +kernel
theorem d_X6_measureRows_61 : decode (mC M_X6_measureRows) 61 = .ok (.getfield 12, 3) := by decide +kernel
theorem d_X6_measureRows_64 : decode (mC M_X6_measureRows) 64 = .ok (.iload_n 2, 1) := by decide +kernel
theorem d_X6_measureRows_65 : decode (mC M_X6_measureRows) 65 = .ok (.invokevirtual 34, 3) := by decide +kernel
theorem d_X6_measureRows_68 : decode (mC M_X6_measureRows) 68 = .ok (.checkcast 38, 3) := by decide +kernel
theorem d_X6_measureRows_71 : decode (mC M_X6_measureRows) 71 = .ok (.astore_n 3, 1) := by decide +kernel
theorem d_X6_measureRows_72 : decode (mC M_X6_measureRows) 72 = .ok (.aload_n 3, 1) := by decide +kernel
theorem d_X6_measureRows_73 : decode (mC M_X6_measureRows) 73 = .ok (.getfield 103, 3) := by decide +kernel
theorem d_X6_measureRows_76 : decode (mC M_X6_measureRows) 76 = .ok (.iconst (-1), 1) := by decide +kernel
theorem d_X6_measureRows_77 : decode (mC M_X6_measureRows) 77 = .ok (.if_icmp .ne 17, 3) := by decide +kernel
theorem d_X6_measureRows_80 : decode (mC M_X6_measureRows) 80 = .ok (.aload_n 0, 1) := by decide +kernel
theorem d_X6_measureRows_81 : decode (mC M_X6_measureRows) 81 = .ok (.aload_n 3, 1) := by decide +kernel
theorem d_X6_measureRows_82 : decode (mC M_X6_measureRows) 82 = .ok (.iload_n 1, 1) := by decide +kernel
theorem d_X6_measureRows_83 : decode (mC M_X6_measureRows) 83 = .ok (.invokevirtual 106, 3) := by decide +kernel
theorem d_X6_measureRows_86 : decode (mC M_X6_measureRows) 86 = .ok (.ifnull 8, 3) := by decide +kernel
theorem d_X6_measureRows_89 : decode (mC M_X6_measureRows) 89 = .ok (.aload_n 3, 1) := by decide +kernel
theorem d_X6_measureRows_90 : decode (mC M_X6_measureRows) 90 = .ok (.iload_n 1, 1) := by decide +kernel
theorem d_X6_measureRows_91 : decode (mC M_X6_measureRows) 91 = .ok (.putfield 103, 3) := by decide +kernel
theorem d_X6_measureRows_94 : decode (mC M_X6_measureRows) 94 = .ok (.iinc 2 1, 3) := by decide +kernel
theorem d_X6_measureRows_97 : decode (mC M_X6_measureRows) 97 = .ok (.goto (-48), 3) := by decide +kernel
theorem d_X6_measureRows_100 : decode (mC M_X6_measureRows) 100 = .ok (.iinc 1 1, 3) := by decide +kernel
theorem d_X6_measureRows_103 : decode (mC M_X6_measureRows) 103 = .ok (.goto (-67), 3) := by decide +kernel
theorem d_X6_measureRows_106 : decode (mC M_X6_measureRows) 106 = .ok (.return_, 1) := by decide +kernel
theorem d_X6_mend_0 : decode (mC M_X6_mend) 0 = .ok (.aload_n 0, 1) := by decide +kernel
theorem d_X6_mend_1 : decode (mC M_X6_mend) 1 = .ok (.iload_n 2, 1) := by decide +kernel
theorem d_X6_mend_2 : decode (mC M_X6_mend) 2 = .ok (.invokevirtual 60, 3) := by decide +kernel
theorem d_X6_mend_5 : decode (mC M_X6_mend) 5 = .ok (.aload_n 0, 1) := by decide +kernel
theorem d_X6_mend_6 : decode (mC M_X6_mend) 6 = .ok (.invokevirtual 98, 3) := by decide +kernel
theorem d_X6_mend_9 : decode (mC M_X6_mend) 9 = .ok (.aload_n 0, 1) := by decide +kernel
theorem d_X6_mend_10 : decode (mC M_X6_mend) 10 = .ok (.getfield 23, 3) := by decide +kernel
theorem d_X6_mend_13 : decode (mC M_X6_mend) 13 = .ok (.iconst 0, 1) := by decide +kernel
theorem d_X6_mend_14 : decode (mC M_X6_mend) 14 = .ok (.putfield 101, 3) := by decide +kernel
theorem d_X6_mend_17 : decode (mC M_X6_mend) 17 = .ok (.aload_n 1, 1) := by decide +kernel
theorem d_X6_mend_18 : decode (mC M_X6_mend) 18 = .ok (.astore_n 3, 1) := by decide +kernel
theorem d_X6_mend_19 : decode (mC M_X6_mend) 19 = .ok (.aload_n 1, 1) := by decide +kernel
theorem d_X6_mend_20 : decode (mC M_X6_mend) 20 = .ok (.getfield 103, 3) := by decide +kernel
theorem d_X6_mend_23 : decode (mC M_X6_mend) 23 = .ok (.istore 4, 2) := by decide +kernel
theorem d_X6_mend_25 : decode (mC M_X6_mend) 25 = .ok (.iload 4, 2) := by decide +kernel
theorem d_X6_mend_27 : decode (mC M_X6_mend) 27 = .ok (.ifCond .le 56, 3) := by decide +kernel
theorem d_X6_mend_30 : decode (mC M_X6_mend) 30 = .ok (.aload_n 3, 1) := by decide +kernel
theorem d_X6_mend_31 : decode (mC M_X6_mend) 31 = .ok (.ifnull 52, 3) := by decide +kernel
theorem d_X6_mend_34 : decode (mC M_X6_mend) 34 = .ok (.aload_n 0, 1) := by decide +kernel
theorem d_X6_mend_35 : decode (mC M_X6_mend) 35 = .ok (.aload_n 3, 1) := by decide +kernel
theorem d_X6_mend_36 : decode (mC M_X6_mend) 36 = .ok (.iload 4, 2) := by decide +kernel
theorem d_X6_mend_38 : decode (mC M_X6_mend) 38 = .ok (.invokevirtual 106, 3) := by decide +kernel
theorem d_X6_mend_41 : decode (mC M_X6_mend) 41 = .ok (.astore 5, 2) := by decide +kernel
theorem d_X6_mend_43 : decode (mC M_X6_mend) 43 = .ok (.aload 5, 2) := by decide +kernel
theorem d_X6_mend_45 : decode (mC M_X6_mend) 45 = .ok (.ifnonnull 4, 3) := by decide +kernel
theorem d_X6_mend_48 : decode (mC M_X6_mend) 48 = .ok (.return_, 1) := by decide +kernel
theorem d_X6_mend_49 : decode (mC M_X6_mend) 49 = .ok (.aload 5, 2) := by decide +kernel
theorem d_X6_mend_51 : decode (mC M_X6_mend) 51 = .ok (.getfield 73, 3) := by decide +kernel
theorem d_X6_mend_54 : decode (mC M_X6_mend) 54 = .ok (.astore 6, 2) := by decide +kernel
theorem d_X6_mend_56 : decode (mC M_X6_mend) 56 = .ok (.aload 5, 2) := by decide +kernel
theorem d_X6_mend_58 : decode (mC M_X6_mend) 58 = .ok (.aload_n 3, 1) := by decide +kernel
theorem d_X6_mend_59 : decode (mC M_X6_mend) 59 = .ok (.invokevirtual 49, 3) := by decide +kernel
theorem d_X6_mend_62 : decode (mC M_X6_mend) 62 = .ok (.aload_n 0, 1) := by decide +kernel
theorem d_X6_mend_63 : decode (mC M_X6_mend) 63 = .ok (.getfield 23, 3) := by decide +kernel
theorem d_X6_mend_66 : decode (mC M_X6_mend) 66 = .ok (.aload 5, 2) := by decide +kernel
theorem d_X6_mend_68 : decode (mC M_X6_mend) 68 = .ok (.getfield 110, 3) := by decide +kernel
theorem d_X6_mend_71 : decode (mC M_X6_mend) 71 = .ok (.invokevirtual 111, 3) := by decide +kernel
theorem d_X6_mend_74 : decode (mC M_X6_mend) 74 = .ok (.aload 6, 2) := by decide +kernel
theorem d_X6_mend_76 : decode (mC M_X6_mend) 76 = .ok (.astore_n 3, 1) := by decide +kernel
theorem d_X6_mend_77 : decode (mC M_X6_mend) 77 = .ok (.iinc 4 (-1), 3) := by decide +kernel
theorem d_X6_mend_80 : decode (mC M_X6_mend) 80 = .ok (.goto (-55), 3) := by decide +kernel
theorem d_X6_mend_83 : decode (mC M_X6_mend) 83 = .ok (.return_, 1) := by decide +kernel
theorem d_X6_seat_0 : decode (mC M_X6_seat) 0 = .ok (.aload_n 0, 1) := by decide +kernel
theorem d_X6_seat_1 : decode (mC M_X6_seat) 1 = .ok (.iconst 0, 1) := by decide +kernel
theorem d_X6_seat_2 : decode (mC M_X6_seat) 2 = .ok (.putfield 77, 3) := by decide +kernel
theorem d_X6_seat_5 : decode (mC M_X6_seat) 5 = .ok (.aload_n 0, 1) := by decide +kernel
theorem d_X6_seat_6 : decode (mC M_X6_seat) 6 = .ok (.aload_n 1, 1) := by decide +kernel
theorem d_X6_seat_7 : decode (mC M_X6_seat) 7 = .ok (.iload_n 2, 1) := by decide +kernel
theorem d_X6_seat_8 : decode (mC M_X6_seat) 8 = .ok (.iconst 0, 1) := by decide +kernel
theorem d_X6_seat_9 : decode (mC M_X6_seat) 9 = .ok (.invokevirtual 80, 3) := by decide +kernel
theorem d_X6_seat_12 : decode (mC M_X6_seat) 12 = .ok (.pop, 1) := by decide +kernel
theorem d_X6_seat_13 : decode (mC M_X6_seat) 13 = .ok (.return_, 1) := by decide +kernel
theorem d_X6_seatAllInLeast_0 : decode (mC M_X6_seatAllInLeast) 0 = .ok (.iconst 0, 1) := by decide +kernel
theorem d_X6_seatAllInLeast_1 : decode (mC M_X6_seatAllInLeast) 1 = .ok (.istore_n 1, 1) := by decide +kernel
theorem d_X6_seatAllInLeast_2 : decode (mC M_X6_seatAllInLeast) 2 = .ok (.iload_n 1, 1) := by decide +kernel
theorem d_X6_seatAllInLeast_3 : decode (mC M_X6_seatAllInLeast) 3 = .ok (.aload_n 0, 1) := by decide +kernel
theorem d_X6_seatAllInLeast_4 : decode (mC M_X6_seatAllInLeast) 4 = .ok (.getfield 27, 3) := by decide +kernel
theorem d_X6_seatAllInLeast_7 : decode (mC M_X6_seatAllInLeast) 7 = .ok (.invokevirtual 30, 3) := by decide +kernel
theorem d_X6_seatAllInLeast_10 : decode (mC M_X6_seatAllInLeast) 10 = .ok (.if_icmp .ge 39, 3) := by decide +kernel
theorem d_X6_seatAllInLeast_13 : decode (mC M_X6_seatAllInLeast) 13 = .ok (.aload_n 0, 1) := by decide +kernel
theorem d_X6_seatAllInLeast_14 : decode (mC M_X6_seatAllInLeast) 14 = .ok (.getfield 27, 3) := by decide +kernel
theorem d_X6_seatAllInLeast_17 : decode (mC M_X6_seatAllInLeast) 17 = .ok (.iload_n 1, 1) := by decide +kernel
theorem d_X6_seatAllInLeast_18 : decode (mC M_X6_seatAllInLeast) 18 = .ok (.invokevirtual 34, 3) := by decide +kernel
theorem d_X6_seatAllInLeast_21 : decode (mC M_X6_seatAllInLeast) 21 = .ok (.checkcast 47, 3) := by decide +kernel
theorem d_X6_seatAllInLeast_24 : decode (mC M_X6_seatAllInLeast) 24 = .ok (.astore_n 2, 1) := by decide +kernel
theorem d_X6_seatAllInLeast_25 : decode (mC M_X6_seatAllInLeast) 25 = .ok (.aload_n 2, 1) := by decide +kernel
theorem d_X6_seatAllInLeast_26 : decode (mC M_X6_seatAllInLeast) 26 = .ok (.getfield 73, 3) := by decide +kernel
theorem d_X6_seatAllInLeast_29 : decode (mC M_X6_seatAllInLeast) 29 = .ok (.ifnull 14, 3) := by decide +kernel
theorem d_X6_seatAllInLeast_32 : decode (mC M_X6_seatAllInLeast) 32 = .ok (.aload_n 2, 1) := by decide +kernel
theorem d_X6_seatAllInLeast_33 : decode (mC M_X6_seatAllInLeast) 33 = .ok (.aconst_null, 1) := by decide +kernel
theorem d_X6_seatAllInLeast_34 : decode (mC M_X6_seatAllInLeast) 34 = .ok (.invokevirtual 49, 3) := by decide +kernel
theorem d_X6_seatAllInLeast_37 : decode (mC M_X6_seatAllInLeast) 37 = .ok (.aload_n 0, 1) := by decide +kernel
theorem d_X6_seatAllInLeast_38 : decode (mC M_X6_seatAllInLeast) 38 = .ok (.aload_n 2, 1) := by decide +kernel
theorem d_X6_seatAllInLeast_39 : decode (mC M_X6_seatAllInLeast) 39 = .ok (.iload_n 1, 1) := by decide +kernel
theorem d_X6_seatAllInLeast_40 : decode (mC M_X6_seatAllInLeast) 40 = .ok (.invokevirtual 66, 3) := by decide +kernel
theorem d_X6_seatAllInLeast_43 : decode (mC M_X6_seatAllInLeast) 43 = .ok (.iinc 1 1, 3) := by decide +kernel
theorem d_X6_seatAllInLeast_46 : decode (mC M_X6_seatAllInLeast) 46 = .ok (.goto (-44), 3) := by decide +kernel
theorem d_X6_seatAllInLeast_49 : decode (mC M_X6_seatAllInLeast) 49 = .ok (.return_, 1) := by decide +kernel
theorem d_X6_seatElsewhere_0 : decode (mC M_X6_seatElsewhere) 0 = .ok (.iconst 0, 1) := by decide +kernel
theorem d_X6_seatElsewhere_1 : decode (mC M_X6_seatElsewhere) 1 = .ok (.istore 4, 2) := by decide +kernel
theorem d_X6_seatElsewhere_3 : decode (mC M_X6_seatElsewhere) 3 = .ok (.iload 4, 2) := by decide +kernel
theorem d_X6_seatElsewhere_5 : decode (mC M_X6_seatElsewhere) 5 = .ok (.aload_n 0, 1) := by decide +kernel
theorem d_X6_seatElsewhere_6 : decode (mC M_X6_seatElsewhere) 6 = .ok (.getfield 12, 3) := by decide +kernel
theorem d_X6_seatElsewhere_9 : decode (mC M_X6_seatElsewhere) 9 = .ok (.invokevirtual 30, 3) := by decide +kernel
theorem d_X6_seatElsewhere_12 : decode (mC M_X6_seatElsewhere) 12 = .ok (.if_icmp .ge 53, 3) := by decide +kernel
theorem d_X6_seatElsewhere_15 : decode (mC M_X6_seatElsewhere) 15 = .ok (.aload_n 0, 1) := by decide +kernel
theorem d_X6_seatElsewhere_16 : decode (mC M_X6_seatElsewhere) 16 = .ok (.getfield 12, 3) := by decide +kernel
theorem d_X6_seatElsewhere_19 : decode (mC M_X6_seatElsewhere) 19 = .ok (.iload 4, 2) := by decide +kernel
theorem d_X6_seatElsewhere_21 : decode (mC M_X6_seatElsewhere) 21 = .ok (.invokevirtual 34, 3) := by decide +kernel
theorem d_X6_seatElsewhere_24 : decode (mC M_X6_seatElsewhere) 24 = .ok (.checkcast 38, 3) := by decide +kernel
theorem d_X6_seatElsewhere_27 : decode (mC M_X6_seatElsewhere) 27 = .ok (.astore 5, 2) := by decide +kernel
theorem d_X6_seatElsewhere_29 : decode (mC M_X6_seatElsewhere) 29 = .ok (.aload_n 1, 1) := by decide +kernel
theorem d_X6_seatElsewhere_30 : decode (mC M_X6_seatElsewhere) 30 = .ok (.aload 5, 2) := by decide +kernel
theorem d_X6_seatElsewhere_32 : decode (mC M_X6_seatElsewhere) 32 = .ok (.invokevirtual 84, 3) := by decide +kernel
theorem d_X6_seatElsewhere_35 : decode (mC M_X6_seatElsewhere) 35 = .ok (.ifCond .eq 24, 3) := by decide +kernel
theorem d_X6_seatElsewhere_38 : decode (mC M_X6_seatElsewhere) 38 = .ok (.aload_n 0, 1) := by decide +kernel
theorem d_X6_seatElsewhere_39 : decode (mC M_X6_seatElsewhere) 39 = .ok (.aload 5, 2) := by decide +kernel
theorem d_X6_seatElsewhere_41 : decode (mC M_X6_seatElsewhere) 41 = .ok (.iload_n 2, 1) := by decide +kernel
theorem d_X6_seatElsewhere_42 : decode (mC M_X6_seatElsewhere) 42 = .ok (.iload_n 3, 1) := by decide +kernel
theorem d_X6_seatElsewhere_43 : decode (mC M_X6_seatElsewhere) 43 = .ok (.iconst 1, 1) := by decide +kernel
theorem d_X6_seatElsewhere_44 : decode (mC M_X6_seatElsewhere) 44 = .ok (.iadd, 1) := by decide +kernel
theorem d_X6_seatElsewhere_45 : decode (mC M_X6_seatElsewhere) 45 = .ok (.invokevirtual 88, 3) := by decide +kernel
theorem d_X6_seatElsewhere_48 : decode (mC M_X6_seatElsewhere) 48 = .ok (.ifCond .eq 11, 3) := by decide +kernel
theorem d_X6_seatElsewhere_51 : decode (mC M_X6_seatElsewhere) 51 = .ok (.aload_n 1, 1) := by decide +kernel
theorem d_X6_seatElsewhere_52 : decode (mC M_X6_seatElsewhere) 52 = .ok (.aload 5, 2) := by decide +kernel
theorem d_X6_seatElsewhere_54 : decode (mC M_X6_seatElsewhere) 54 = .ok (.invokevirtual 49, 3) := by decide +kernel
theorem d_X6_seatElsewhere_57 : decode (mC M_X6_seatElsewhere) 57 = .ok (.iconst 1, 1) := by decide +kernel
theorem d_X6_seatElsewhere_58 : decode (mC M_X6_seatElsewhere) 58 = .ok (.ireturn, 1) := by decide +kernel
theorem d_X6_seatElsewhere_59 : decode (mC M_X6_seatElsewhere) 59 = .ok (.iinc 4 1, 3) := by decide +kernel
theorem d_X6_seatElsewhere_62 : decode (mC M_X6_seatElsewhere) 62 = .ok (.goto (-59), 3) := by decide +kernel
theorem d_X6_seatElsewhere_65 : decode (mC M_X6_seatElsewhere) 65 = .ok (.iconst 0, 1) := by decide +kernel
theorem d_X6_seatElsewhere_66 : decode (mC M_X6_seatElsewhere) 66 = .ok (.ireturn, 1) := by decide +kernel
theorem d_X6_size_0 : decode (mC M_X6_size) 0 = .ok (.iconst 0, 1) := by decide +kernel
theorem d_X6_size_1 : decode (mC M_X6_size) 1 = .ok (.istore_n 1, 1) := by decide +kernel
theorem d_X6_size_2 : decode (mC M_X6_size) 2 = .ok (.iconst 0, 1) := by decide +kernel
theorem d_X6_size_3 : decode (mC M_X6_size) 3 = .ok (.istore_n 2, 1) := by decide +kernel
theorem d_X6_size_4 : decode (mC M_X6_size) 4 = .ok (.iload_n 2, 1) := by decide +kernel
theorem d_X6_size_5 : decode (mC M_X6_size) 5 = .ok (.aload_n 0, 1) := by decide +kernel
theorem d_X6_size_6 : decode (mC M_X6_size) 6 = .ok (.getfield 12, 3) := by decide +kernel
theorem d_X6_size_9 : decode (mC M_X6_size) 9 = .ok (.invokevirtual 30, 3) := by decide +kernel
theorem d_X6_size_12 : decode (mC M_X6_size) 12 = .ok (.if_icmp .ge 26, 3) := by decide +kernel
theorem d_X6_size_15 : decode (mC M_X6_size) 15 = .ok (.iload_n 1, 1) := by decide +kernel
theorem d_X6_size_16 : decode (mC M_X6_size) 16 = .ok (.aload_n 0, 1) := by decide +kernel
theorem d_X6_size_17 : decode (mC M_X6_size) 17 = .ok (.getfield 12, 3) := by decide +kernel
theorem d_X6_size_20 : decode (mC M_X6_size) 20 = .ok (.iload_n 2, 1) := by decide +kernel
theorem d_X6_size_21 : decode (mC M_X6_size) 21 = .ok (.invokevirtual 34, 3) := by decide +kernel
theorem d_X6_size_24 : decode (mC M_X6_size) 24 = .ok (.checkcast 38, 3) := by decide +kernel
theorem d_X6_size_27 : decode (mC M_X6_size) 27 = .ok (.getfield 40, 3) := by decide +kernel
theorem d_X6_size_30 : decode (mC M_X6_size) 30 = .ok (.iadd, 1) := by decide +kernel
theorem d_X6_size_31 : decode (mC M_X6_size) 31 = .ok (.istore_n 1, 1) := by decide +kernel
theorem d_X6_size_32 : decode (mC M_X6_size) 32 = .ok (.iinc 2 1, 3) := by decide +kernel
theorem d_X6_size_35 : decode (mC M_X6_size) 35 = .ok (.goto (-31), 3) := by decide +kernel
theorem d_X6_size_38 : decode (mC M_X6_size) 38 = .ok (.iload_n 1, 1) := by decide +kernel
theorem d_X6_size_39 : decode (mC M_X6_size) 39 = .ok (.ireturn, 1) := by decide +kernel
theorem d_X6_startWith_0 : decode (mC M_X6_startWith) 0 = .ok (.aload_n 0, 1) := by decide +kernel
theorem d_X6_startWith_1 : decode (mC M_X6_startWith) 1 = .ok (.invokevirtual 44, 3) := by decide +kernel
theorem d_X6_startWith_4 : decode (mC M_X6_startWith) 4 = .ok (.aload_n 0, 1) := by decide +kernel
theorem d_X6_startWith_5 : decode (mC M_X6_startWith) 5 = .ok (.aload_n 1, 1) := by decide +kernel
theorem d_X6_startWith_6 : decode (mC M_X6_startWith) 6 = .ok (.putfield 12, 3) := by decide +kernel
theorem d_X6_startWith_9 : decode (mC M_X6_startWith) 9 = .ok (.return_, 1) := by decide +kernel
theorem d_X7_add_0 : decode (mC M_X7_add) 0 = .ok (.aload_n 0, 1) := by decide +kernel
theorem d_X7_add_1 : decode (mC M_X7_add) 1 = .ok (.getfield 15, 3) := by decide +kernel
theorem d_X7_add_4 : decode (mC M_X7_add) 4 = .ok (.ifCond .lt 35, 3) := by decide +kernel
theorem d_X7_add_7 : decode (mC M_X7_add) 7 = .ok (.aload_n 0, 1) := by decide +kernel
theorem d_X7_add_8 : decode (mC M_X7_add) 8 = .ok (.getfield 15, 3) := by decide +kernel
theorem d_X7_add_11 : decode (mC M_X7_add) 11 = .ok (.aload_n 0, 1) := by decide +kernel
theorem d_X7_add_12 : decode (mC M_X7_add) 12 = .ok (.getfield 9, 3) := by decide +kernel
theorem d_X7_add_15 : decode (mC M_X7_add) 15 = .ok (.arraylength, 1) := by decide +kernel
theorem d_X7_add_16 : decode (mC M_X7_add) 16 = .ok (.if_icmp .ge 23, 3) := by decide +kernel
theorem d_X7_add_19 : decode (mC M_X7_add) 19 = .ok (.aload_n 0, 1) := by decide +kernel
theorem d_X7_add_20 : decode (mC M_X7_add) 20 = .ok (.getfield 9, 3) := by decide +kernel
theorem d_X7_add_23 : decode (mC M_X7_add) 23 = .ok (.aload_n 0, 1) := by decide +kernel
theorem d_X7_add_24 : decode (mC M_X7_add) 24 = .ok (.getfield 15, 3) := by decide +kernel
theorem d_X7_add_27 : decode (mC M_X7_add) 27 = .ok (.iload_n 1, 1) := by decide +kernel
theorem d_X7_add_28 : decode (mC M_X7_add) 28 = .ok (.iastore, 1) := by decide +kernel
theorem d_X7_add_29 : decode (mC M_X7_add) 29 = .ok (.aload_n 0, 1) := by decide +kernel
theorem d_X7_add_30 : decode (mC M_X7_add) 30 = .ok (.dup, 1) := by decide +kernel
theorem d_X7_add_31 : decode (mC M_X7_add) 31 = .ok (.getfield 15, 3) := by decide +kernel
theorem d_X7_add_34 : decode (mC M_X7_add) 34 = .ok (.iconst 1, 1) := by decide +kernel
theorem d_X7_add_35 : decode (mC M_X7_add) 35 = .ok (.iadd, 1) := by decide +kernel
theorem d_X7_add_36 : decode (mC M_X7_add) 36 = .ok (.putfield 15, 3) := by decide +kernel
theorem d_X7_add_39 : decode (mC M_X7_add) 39 = .ok (.return_, 1) := by decide +kernel
theorem d_X7_at_0 : decode (mC M_X7_at) 0 = .ok (.iload_n 1, 1) := by decide +kernel
theorem d_X7_at_1 : decode (mC M_X7_at) 1 = .ok (.ifCond .lt 29, 3) := by decide +kernel
theorem d_X7_at_4 : decode (mC M_X7_at) 4 = .ok (.iload_n 1, 1) := by decide +kernel
theorem d_X7_at_5 : decode (mC M_X7_at) 5 = .ok (.aload_n 0, 1) := by decide +kernel
theorem d_X7_at_6 : decode (mC M_X7_at) 6 = .ok (.getfield 15, 3) := by decide +kernel
theorem d_X7_at_9 : decode (mC M_X7_at) 9 = .ok (.if_icmp .ge 21, 3) := by decide +kernel
theorem d_X7_at_12 : decode (mC M_X7_at) 12 = .ok (.iload_n 1, 1) := by decide +kernel
theorem d_X7_at_13 : decode (mC M_X7_at) 13 = .ok (.aload_n 0, 1) := by decide +kernel
theorem d_X7_at_14 : decode (mC M_X7_at) 14 = .ok (.getfield 9, 3) := by decide +kernel
theorem d_X7_at_17 : decode (mC M_X7_at) 17 = .ok (.arraylength, 1) := by decide +kernel
theorem d_X7_at_18 : decode (mC M_X7_at) 18 = .ok (.if_icmp .ge 12, 3) := by decide +kernel
theorem d_X7_at_21 : decode (mC M_X7_at) 21 = .ok (.aload_n 0, 1) := by decide +kernel
theorem d_X7_at_22 : decode (mC M_X7_at) 22 = .ok (.getfield 9, 3) := by decide +kernel
theorem d_X7_at_25 : decode (mC M_X7_at) 25 = .ok (.iload_n 1, 1) := by decide +kernel
theorem d_X7_at_26 : decode (mC M_X7_at) 26 = .ok (.iaload, 1) := by decide +kernel
theorem d_X7_at_27 : decode (mC M_X7_at) 27 = .ok (.goto 4, 3) := by decide +kernel
theorem d_X7_at_30 : decode (mC M_X7_at) 30 = .ok (.iconst (-1), 1) := by decide +kernel
theorem d_X7_at_31 : decode (mC M_X7_at) 31 = .ok (.ireturn, 1) := by decide +kernel
theorem d_X7_init_0 : decode (mC M_X7_init) 0 = .ok (.aload_n 0, 1) := by decide +kernel
theorem d_X7_init_1 : decode (mC M_X7_init) 1 = .ok (.invokespecial 3, 3) := by decide +kernel
theorem d_X7_init_4 : decode (mC M_X7_init) 4 = .ok (.aload_n 0, 1) := by decide +kernel
theorem d_X7_init_5 : decode (mC M_X7_init) 5 = .ok (.iload_n 1, 1) := by decide +kernel
theorem d_X7_init_6 : decode (mC M_X7_init) 6 = .ok (.ifCond .lt 7, 3) := by decide +kernel
theorem d_X7_init_9 : decode (mC M_X7_init) 9 = .ok (.iload_n 1, 1) := by decide +kernel
theorem d_X7_init_10 : decode (mC M_X7_init) 10 = .ok (.goto 4, 3) := by decide +kernel
theorem d_X7_init_13 : decode (mC M_X7_init) 13 = .ok (.iconst 0, 1) := by decide +kernel
theorem d_X7_init_14 : decode (mC M_X7_init) 14 = .ok (.newarray .int, 2) := by decide +kernel
theorem d_X7_init_16 : decode (mC M_X7_init) 16 = .ok (.putfield 9, 3) := by decide +kernel
theorem d_X7_init_19 : decode (mC M_X7_init) 19 = .ok (.return_, 1) := by decide +kernel
theorem d_X8_init_0 : decode (mC M_X8_init) 0 = .ok (.aload_n 0, 1) := by decide +kernel
theorem d_X8_init_1 : decode (mC M_X8_init) 1 = .ok (.invokespecial 3, 3) := by decide +kernel
theorem d_X8_init_4 : decode (mC M_X8_init) 4 = .ok (.aload_n 0, 1) := by decide +kernel
theorem d_X8_init_5 : decode (mC M_X8_init) 5 = .ok (.iload_n 1, 1) := by decide +kernel
theorem d_X8_init_6 : decode (mC M_X8_init) 6 = .ok (.putfield 9, 3) := by decide +kernel
theorem d_X8_init_9 : decode (mC M_X8_init) 9 = .ok (.return_, 1) := by decide +kernel
theorem d_X8_kindAt_0 : decode (mC M_X8_kindAt) 0 = .ok (.aload_n 0, 1) := by decide +kernel
theorem d_X8_kindAt_1 : decode (mC M_X8_kindAt) 1 = .ok (.ldc 15, 2) := by decide +kernel
theorem d_X8_kindAt_3 : decode (mC M_X8_kindAt) 3 = .ok (.invokevirtual 17, 3) := by decide +kernel
theorem d_X8_kindAt_6 : decode (mC M_X8_kindAt) 6 = .ok (.ifCond .eq 5, 3) := by decide +kernel
theorem d_X8_kindAt_9 : decode (mC M_X8_kindAt) 9 = .ok (.iconst 0, 1) := by decide +kernel
theorem d_X8_kindAt_10 : decode (mC M_X8_kindAt) 10 = .ok (.ireturn, 1) := by decide +kernel
theorem d_X8_kindAt_11 : decode (mC M_X8_kindAt) 11 = .ok (.aload_n 0, 1) := by decide +kernel
theorem d_X8_kindAt_12 : decode (mC M_X8_kindAt) 12 = .ok (.ldc 23, 2) := by decide +kernel
theorem d_X8_kindAt_14 : decode (mC M_X8_kindAt) 14 = .ok (.invokevirtual 17, 3) := by decide +kernel
theorem d_X8_kindAt_17 : decode (mC M_X8_kindAt) 17 = .ok (.ifCond .eq 5, 3) := by decide +kernel
theorem d_X8_kindAt_20 : decode (mC M_X8_kindAt) 20 = .ok (.iconst 1, 1) := by decide +kernel
theorem d_X8_kindAt_21 : decode (mC M_X8_kindAt) 21 = .ok (.ireturn, 1) := by decide +kernel
theorem d_X8_kindAt_22 : decode (mC M_X8_kindAt) 22 = .ok (.aload_n 0, 1) := by decide +kernel
theorem d_X8_kindAt_23 : decode (mC M_X8_kindAt) 23 = .ok (.ldc 25, 2) := by decide +kernel
theorem d_X8_kindAt_25 : decode (mC M_X8_kindAt) 25 = .ok (.invokevirtual 17, 3) := by decide +kernel
theorem d_X8_kindAt_28 : decode (mC M_X8_kindAt) 28 = .ok (.ifCond .eq 5, 3) := by decide +kernel
theorem d_X8_kindAt_31 : decode (mC M_X8_kindAt) 31 = .ok (.iconst 2, 1) := by decide +kernel
theorem d_X8_kindAt_32 : decode (mC M_X8_kindAt) 32 = .ok (.ireturn, 1) := by decide +kernel
theorem d_X8_kindAt_33 : decode (mC M_X8_kindAt) 33 = .ok (.aload_n 0, 1) := by decide +kernel
theorem d_X8_kindAt_34 : decode (mC M_X8_kindAt) 34 = .ok (.ldc 27, 2) := by decide +kernel
theorem d_X8_kindAt_36 : decode (mC M_X8_kindAt) 36 = .ok (.invokevirtual 17, 3) := by decide +kernel
theorem d_X8_kindAt_39 : decode (mC M_X8_kindAt) 39 = .ok (.ifCond .eq 7, 3) := by decide +kernel
theorem d_X8_kindAt_42 : decode (mC M_X8_kindAt) 42 = .ok (.iconst 3, 1) := by decide +kernel
theorem d_X8_kindAt_43 : decode (mC M_X8_kindAt) 43 = .ok (.goto 4, 3) := by decide +kernel
theorem d_X8_kindAt_46 : decode (mC M_X8_kindAt) 46 = .ok (.iconst (-1), 1) := by decide +kernel
theorem d_X8_kindAt_47 : decode (mC M_X8_kindAt) 47 = .ok (.ireturn, 1) := by decide +kernel
theorem d_X8_quarters_0 : decode (mC M_X8_quarters) 0 = .ok (.iload_n 1, 1) := by decide +kernel
theorem d_X8_quarters_1 : decode (mC M_X8_quarters) 1 = .ok (.ifCond .gt 5, 3) := by decide +kernel
theorem d_X8_quarters_4 : decode (mC M_X8_quarters) 4 = .ok (.iconst 0, 1) := by decide +kernel
theorem d_X8_quarters_5 : decode (mC M_X8_quarters) 5 = .ok (.ireturn, 1) := by decide +kernel
theorem d_X8_quarters_6 : decode (mC M_X8_quarters) 6 = .ok (.aload_n 0, 1) := by decide +kernel
theorem d_X8_quarters_7 : decode (mC M_X8_quarters) 7 = .ok (.getfield 48, 3) := by decide +kernel
theorem d_X8_quarters_10 : decode (mC M_X8_quarters) 10 = .ok (.ifCond .eq 12, 3) := by decide +kernel
theorem d_X8_quarters_13 : decode (mC M_X8_quarters) 13 = .ok (.iload_n 1, 1) := by decide +kernel
theorem d_X8_quarters_14 : decode (mC M_X8_quarters) 14 = .ok (.bipush 15, 2) := by decide +kernel
theorem d_X8_quarters_16 : decode (mC M_X8_quarters) 16 = .ok (.iadd, 1) := by decide +kernel
theorem d_X8_quarters_17 : decode (mC M_X8_quarters) 17 = .ok (.iconst 1, 1) := by decide +kernel
theorem d_X8_quarters_18 : decode (mC M_X8_quarters) 18 = .ok (.isub, 1) := by decide +kernel
theorem d_X8_quarters_19 : decode (mC M_X8_quarters) 19 = .ok (.goto 4, 3) := by decide +kernel
theorem d_X8_quarters_22 : decode (mC M_X8_quarters) 22 = .ok (.iload_n 1, 1) := by decide +kernel
theorem d_X8_quarters_23 : decode (mC M_X8_quarters) 23 = .ok (.bipush 15, 2) := by decide +kernel
theorem d_X8_quarters_25 : decode (mC M_X8_quarters) 25 = .ok (.idiv, 1) := by decide +kernel
theorem d_X8_quarters_26 : decode (mC M_X8_quarters) 26 = .ok (.ireturn, 1) := by decide +kernel
theorem d_X8_readNumbers_0 : decode (mC M_X8_readNumbers) 0 = .ok (.aload_n 0, 1) := by decide +kernel
theorem d_X8_readNumbers_1 : decode (mC M_X8_readNumbers) 1 = .ok (.getfield 9, 3) := by decide +kernel
theorem d_X8_readNumbers_4 : decode (mC M_X8_readNumbers) 4 = .ok (.ifCond .ne 28, 3) := by decide +kernel
theorem d_X8_readNumbers_7 : decode (mC M_X8_readNumbers) 7 = .ok (.aload_n 0, 1) := by decide +kernel
theorem d_X8_readNumbers_8 : decode (mC M_X8_readNumbers) 8 = .ok (.aload_n 1, 1) := by decide +kernel
theorem d_X8_readNumbers_9 : decode (mC M_X8_readNumbers) 9 = .ok (.iconst 0, 1) := by decide +kernel
theorem d_X8_readNumbers_10 : decode (mC M_X8_readNumbers) 10 = .ok (.ldc 29, 2) := by decide +kernel
theorem d_X8_readNumbers_12 : decode (mC M_X8_readNumbers) 12 = .ok (.invokevirtual 30, 3) := by decide +kernel
theorem d_X8_readNumbers_15 : decode (mC M_X8_readNumbers) 15 = .ok (.putfield 34, 3) := by decide +kernel
theorem d_X8_readNumbers_18 : decode (mC M_X8_readNumbers) 18 = .ok (.aload_n 0, 1) := by decide +kernel
theorem d_X8_readNumbers_19 : decode (mC M_X8_readNumbers) 19 = .ok (.getfield 34, 3) := by decide +kernel
theorem d_X8_readNumbers_22 : decode (mC M_X8_readNumbers) 22 = .ok (.iconst (-1), 1) := by decide +kernel
theorem d_X8_readNumbers_23 : decode (mC M_X8_readNumbers) 23 = .ok (.if_icmp .eq 7, 3) := by decide +kernel
theorem d_X8_readNumbers_26 : decode (mC M_X8_readNumbers) 26 = .ok (.iconst 1, 1) := by decide +kernel
theorem d_X8_readNumbers_27 : decode (mC M_X8_readNumbers) 27 = .ok (.goto 4, 3) := by decide +kernel
theorem d_X8_readNumbers_30 : decode (mC M_X8_readNumbers) 30 = .ok (.iconst 0, 1) := by decide +kernel
theorem d_X8_readNumbers_31 : decode (mC M_X8_readNumbers) 31 = .ok (.ireturn, 1) := by decide +kernel
theorem d_X8_readNumbers_32 : decode (mC M_X8_readNumbers) 32 = .ok (.aload_n 0, 1) := by decide +kernel
theorem d_X8_readNumbers_33 : decode (mC M_X8_readNumbers) 33 = .ok (.aload_n 1, 1) := by decide +kernel
theorem d_X8_readNumbers_34 : decode (mC M_X8_readNumbers) 34 = .ok (.iconst 0, 1) := by decide +kernel
theorem d_X8_readNumbers_35 : decode (mC M_X8_readNumbers) 35 = .ok (.ldc 29, 2) := by decide +kernel
theorem d_X8_readNumbers_37 : decode (mC M_X8_readNumbers) 37 = .ok (.invokevirtual 30, 3) := by decide +kernel
theorem d_X8_readNumbers_40 : decode (mC M_X8_readNumbers) 40 = .ok (.putfield 37, 3) := by decide +kernel
theorem d_X8_readNumbers_43 : decode (mC M_X8_readNumbers) 43 = .ok (.aload_n 0, 1) := by decide +kernel
theorem d_X8_readNumbers_44 : decode (mC M_X8_readNumbers) 44 = .ok (.getfield 37, 3) := by decide +kernel
theorem d_X8_readNumbers_47 : decode (mC M_X8_readNumbers) 47 = .ok (.iconst (-1), 1) := by decide +kernel
theorem d_X8_readNumbers_48 : decode (mC M_X8_readNumbers) 48 = .ok (.if_icmp .ne 5, 3) := by decide +kernel
theorem d_X8_readNumbers_51 : decode (mC M_X8_readNumbers) 51 = .ok (.iconst 0, 1) := by decide +kernel
theorem d_X8_readNumbers_52 : decode (mC M_X8_readNumbers) 52 = .ok (.ireturn, 1) := by decide +kernel
theorem d_X8_readNumbers_53 : decode (mC M_X8_readNumbers) 53 = .ok (.aload_n 0, 1) := by decide +kernel
theorem d_X8_readNumbers_54 : decode (mC M_X8_readNumbers) 54 = .ok (.aload_n 1, 1) := by decide +kernel
theorem d_X8_readNumbers_55 : decode (mC M_X8_readNumbers) 55 = .ok (.ldc 40, 2) := by decide +kernel
theorem d_X8_readNumbers_57 : decode (mC M_X8_readNumbers) 57 = .ok (.iconst 0, 1) := by decide +kernel
theorem d_X8_readNumbers_58 : decode (mC M_X8_readNumbers) 58 = .ok (.ldc 29, 2) := by decide +kernel
theorem d_X8_readNumbers_60 : decode (mC M_X8_readNumbers) 60 = .ok (.invokevirtual 42, 3) := by decide +kernel
theorem d_X8_readNumbers_63 : decode (mC M_X8_readNumbers) 63 = .ok (.putfield 34, 3) := by decide +kernel
theorem d_X8_readNumbers_66 : decode (mC M_X8_readNumbers) 66 = .ok (.aload_n 0, 1) := by decide +kernel
theorem d_X8_readNumbers_67 : decode (mC M_X8_readNumbers) 67 = .ok (.getfield 34, 3) := by decide +kernel
theorem d_X8_readNumbers_70 : decode (mC M_X8_readNumbers) 70 = .ok (.iconst (-1), 1) := by decide +kernel
theorem d_X8_readNumbers_71 : decode (mC M_X8_readNumbers) 71 = .ok (.if_icmp .ne 5, 3) := by decide +kernel
theorem d_X8_readNumbers_74 : decode (mC M_X8_readNumbers) 74 = .ok (.iconst 0, 1) := by decide +kernel
theorem d_X8_readNumbers_75 : decode (mC M_X8_readNumbers) 75 = .ok (.ireturn, 1) := by decide +kernel
theorem d_X8_readNumbers_76 : decode (mC M_X8_readNumbers) 76 = .ok (.aload_n 0, 1) := by decide +kernel
theorem d_X8_readNumbers_77 : decode (mC M_X8_readNumbers) 77 = .ok (.aload_n 1, 1) := by decide +kernel
theorem d_X8_readNumbers_78 : decode (mC M_X8_readNumbers) 78 = .ok (.ldc 46, 2) := by decide +kernel
theorem d_X8_readNumbers_80 : decode (mC M_X8_readNumbers) 80 = .ok (.invokevirtual 17, 3) := by decide +kernel
theorem d_X8_readNumbers_83 : decode (mC M_X8_readNumbers) 83 = .ok (.putfield 48, 3) := by decide +kernel
theorem d_X8_readNumbers_86 : decode (mC M_X8_readNumbers) 86 = .ok (.aload_n 1, 1) := by decide +kernel
theorem d_X8_readNumbers_87 : decode (mC M_X8_readNumbers) 87 = .ok (.aload_n 0, 1) := by decide +kernel
theorem d_X8_readNumbers_88 : decode (mC M_X8_readNumbers) 88 = .ok (.getfield 48, 3) := by decide +kernel
theorem d_X8_readNumbers_91 : decode (mC M_X8_readNumbers) 91 = .ok (.ifCond .eq 8, 3) := by decide +kernel
theorem d_X8_readNumbers_94 : decode (mC M_X8_readNumbers) 94 = .ok (.ldc 46, 2) := by decide +kernel
theorem d_X8_readNumbers_96 : decode (mC M_X8_readNumbers) 96 = .ok (.goto 5, 3) := by decide +kernel
theorem d_X8_readNumbers_99 : decode (mC M_X8_readNumbers) 99 = .ok (.ldc 52, 2) := by decide +kernel
theorem d_X8_readNumbers_101 : decode (mC M_X8_readNumbers) 101 = .ok (.invokevirtual 54, 3) := by decide +kernel
theorem d_X8_readNumbers_104 : decode (mC M_X8_readNumbers) 104 = .ok (.ireturn, 1) := by decide +kernel
theorem d_X8_worth_0 : decode (mC M_X8_worth) 0 = .ok (.aload_n 0, 1) := by decide +kernel
theorem d_X8_worth_1 : decode (mC M_X8_worth) 1 = .ok (.getfield 9, 3) := by decide +kernel
theorem d_X8_worth_4 : decode (mC M_X8_worth) 4 = .ok (.tableswitch 87 0 3 #[32, 37, 55, 71], 32) := by decide +kernel
theorem d_X8_worth_36 : decode (mC M_X8_worth) 36 = .ok (.aload_n 0, 1) := by decide +kernel
theorem d_X8_worth_37 : decode (mC M_X8_worth) 37 = .ok (.getfield 34, 3) := by decide +kernel
theorem d_X8_worth_40 : decode (mC M_X8_worth) 40 = .ok (.ireturn, 1) := by decide +kernel
theorem d_X8_worth_41 : decode (mC M_X8_worth) 41 = .ok (.aload_n 0, 1) := by decide +kernel
theorem d_X8_worth_42 : decode (mC M_X8_worth) 42 = .ok (.iload_n 2, 1) := by decide +kernel
theorem d_X8_worth_43 : decode (mC M_X8_worth) 43 = .ok (.iload_n 1, 1) := by decide +kernel
theorem d_X8_worth_44 : decode (mC M_X8_worth) 44 = .ok (.isub, 1) := by decide +kernel
theorem d_X8_worth_45 : decode (mC M_X8_worth) 45 = .ok (.aload_n 0, 1) := by decide +kernel
theorem d_X8_worth_46 : decode (mC M_X8_worth) 46 = .ok (.getfield 37, 3) := by decide +kernel
theorem d_X8_worth_49 : decode (mC M_X8_worth) 49 = .ok (.isub, 1) := by decide +kernel
theorem d_X8_worth_50 : decode (mC M_X8_worth) 50 = .ok (.invokevirtual 57, 3) := by decide +kernel
theorem d_X8_worth_53 : decode (mC M_X8_worth) 53 = .ok (.aload_n 0, 1) := by decide +kernel
theorem d_X8_worth_54 : decode (mC M_X8_worth) 54 = .ok (.getfield 34, 3) := by decide +kernel
theorem d_X8_worth_57 : decode (mC M_X8_worth) 57 = .ok (.imul, 1) := by decide +kernel
theorem d_X8_worth_58 : decode (mC M_X8_worth) 58 = .ok (.ireturn, 1) := by decide +kernel
theorem d_X8_worth_59 : decode (mC M_X8_worth) 59 = .ok (.aload_n 0, 1) := by decide +kernel
theorem d_X8_worth_60 : decode (mC M_X8_worth) 60 = .ok (.aload_n 0, 1) := by decide +kernel
theorem d_X8_worth_61 : decode (mC M_X8_worth) 61 = .ok (.getfield 37, 3) := by decide +kernel
theorem d_X8_worth_64 : decode (mC M_X8_worth) 64 = .ok (.iload_n 1, 1) := by decide +kernel
theorem d_X8_worth_65 : decode (mC M_X8_worth) 65 = .ok (.isub, 1) := by decide +kernel
theorem d_X8_worth_66 : decode (mC M_X8_worth) 66 = .ok (.invokevirtual 57, 3) := by decide +kernel
theorem d_X8_worth_69 : decode (mC M_X8_worth) 69 = .ok (.aload_n 0, 1) := by decide +kernel
theorem d_X8_worth_70 : decode (mC M_X8_worth) 70 = .ok (.getfield 34, 3) := by decide +kernel
theorem d_X8_worth_73 : decode (mC M_X8_worth) 73 = .ok (.imul, 1) := by decide +kernel
theorem d_X8_worth_74 : decode (mC M_X8_worth) 74 = .ok (.ireturn, 1) := by decide +kernel
theorem d_X8_worth_75 : decode (mC M_X8_worth) 75 = .ok (.aload_n 0, 1) := by decide +kernel
theorem d_X8_worth_76 : decode (mC M_X8_worth) 76 = .ok (.iload_n 2, 1) := by decide +kernel
theorem d_X8_worth_77 : decode (mC M_X8_worth) 77 = .ok (.aload_n 0, 1) := by decide +kernel
theorem d_X8_worth_78 : decode (mC M_X8_worth) 78 = .ok (.getfield 37, 3) := by decide +kernel
theorem d_X8_worth_81 : decode (mC M_X8_worth) 81 = .ok (.isub, 1) := by decide +kernel
theorem d_X8_worth_82 : decode (mC M_X8_worth) 82 = .ok (.invokevirtual 57, 3) := by decide +kernel
theorem d_X8_worth_85 : decode (mC M_X8_worth) 85 = .ok (.aload_n 0, 1) := by decide +kernel
theorem d_X8_worth_86 : decode (mC M_X8_worth) 86 = .ok (.getfield 34, 3) := by decide +kernel
theorem d_X8_worth_89 : decode (mC M_X8_worth) 89 = .ok (.imul, 1) := by decide +kernel
theorem d_X8_worth_90 : decode (mC M_X8_worth) 90 = .ok (.ireturn, 1) := by decide +kernel
theorem d_X8_worth_91 : decode (mC M_X8_worth) 91 = .ok (.iconst 0, 1) := by decide +kernel
theorem d_X8_worth_92 : decode (mC M_X8_worth) 92 = .ok (.ireturn, 1) := by decide +kernel
theorem d_X9_advance_0 : decode (mC M_X9_advance) 0 = .ok (.aload_n 0, 1) := by decide +kernel
theorem d_X9_advance_1 : decode (mC M_X9_advance) 1 = .ok (.aload_n 0, 1) := by decide +kernel
theorem d_X9_advance_2 : decode (mC M_X9_advance) 2 = .ok (.getfield 22, 3) := by decide +kernel
theorem d_X9_advance_5 : decode (mC M_X9_advance) 5 = .ok (.putfield 28, 3) := by decide +kernel
theorem d_X9_advance_8 : decode (mC M_X9_advance) 8 = .ok (.aload_n 0, 1) := by decide +kernel
theorem d_X9_advance_9 : decode (mC M_X9_advance) 9 = .ok (.getfield 28, 3) := by decide +kernel
theorem d_X9_advance_12 : decode (mC M_X9_advance) 12 = .ok (.aload_n 0, 1) := by decide +kernel
theorem d_X9_advance_13 : decode (mC M_X9_advance) 13 = .ok (.getfield 15, 3) := by decide +kernel
theorem d_X9_advance_16 : decode (mC M_X9_advance) 16 = .ok (.getfield 31, 3) := by decide +kernel
theorem d_X9_advance_19 : decode (mC M_X9_advance) 19 = .ok (.if_icmp .ge 34, 3) := by decide +kernel
theorem d_X9_advance_22 : decode (mC M_X9_advance) 22 = .ok (.aload_n 0, 1) := by decide +kernel
theorem d_X9_advance_23 : decode (mC M_X9_advance) 23 = .ok (.getfield 15, 3) := by decide +kernel
theorem d_X9_advance_26 : decode (mC M_X9_advance) 26 = .ok (.aload_n 0, 1) := by decide +kernel
theorem d_X9_advance_27 : decode (mC M_X9_advance) 27 = .ok (.getfield 28, 3) := by decide +kernel
theorem d_X9_advance_30 : decode (mC M_X9_advance) 30 = .ok (.invokevirtual 36, 3) := by decide +kernel
theorem d_X9_advance_33 : decode (mC M_X9_advance) 33 = .ok (.invokestatic 40, 3) := by decide +kernel
theorem d_X9_advance_36 : decode (mC M_X9_advance) 36 = .ok (.iconst 1, 1) := by decide +kernel
theorem d_X9_advance_37 : decode (mC M_X9_advance) 37 = .ok (.if_icmp .ne 16, 3) := by decide +kernel
theorem d_X9_advance_40 : decode (mC M_X9_advance) 40 = .ok (.aload_n 0, 1) := by decide +kernel
theorem d_X9_advance_41 : decode (mC M_X9_advance) 41 = .ok (.dup, 1) := by decide +kernel
theorem d_X9_advance_42 : decode (mC M_X9_advance) 42 = .ok (.getfield 28, 3) := by decide +kernel
theorem d_X9_advance_45 : decode (mC M_X9_advance) 45 = .ok (.iconst 1, 1) := by decide +kernel
theorem d_X9_advance_46 : decode (mC M_X9_advance) 46 = .ok (.iadd, 1) := by decide +kernel
theorem d_X9_advance_47 : decode (mC M_X9_advance) 47 = .ok (.putfield 28, 3) := by decide +kernel
theorem d_X9_advance_50 : decode (mC M_X9_advance) 50 = .ok (.goto (-42), 3) := by decide +kernel
theorem d_X9_advance_53 : decode (mC M_X9_advance) 53 = .ok (.aload_n 0, 1) := by decide +kernel
theorem d_X9_advance_54 : decode (mC M_X9_advance) 54 = .ok (.aload_n 0, 1) := by decide +kernel
theorem d_X9_advance_55 : decode (mC M_X9_advance) 55 = .ok (.getfield 15, 3) := by decide +kernel
theorem d_X9_advance_58 : decode (mC M_X9_advance) 58 = .ok (.aload_n 0, 1) := by decide +kernel
theorem d_X9_advance_59 : decode (mC M_X9_advance) 59 = .ok (.getfield 28, 3) := by decide +kernel
theorem d_X9_advance_62 : decode (mC M_X9_advance) 62 = .ok (.invokevirtual 36, 3) := by decide +kernel
theorem d_X9_advance_65 : decode (mC M_X9_advance) 65 = .ok (.invokestatic 40, 3) := by decide +kernel
theorem d_X9_advance_68 : decode (mC M_X9_advance) 68 = .ok (.putfield 43, 3) := by decide +kernel
theorem d_X9_advance_71 : decode (mC M_X9_advance) 71 = .ok (.aload_n 0, 1) := by decide +kernel
theorem d_X9_advance_72 : decode (mC M_X9_advance) 72 = .ok (.iconst 0, 1) := by decide +kernel
theorem d_X9_advance_73 : decode (mC M_X9_advance) 73 = .ok (.putfield 46, 3) := by decide +kernel
theorem d_X9_advance_76 : decode (mC M_X9_advance) 76 = .ok (.aload_n 0, 1) := by decide +kernel
theorem d_X9_advance_77 : decode (mC M_X9_advance) 77 = .ok (.aload_n 0, 1) := by decide +kernel
theorem d_X9_advance_78 : decode (mC M_X9_advance) 78 = .ok (.getfield 43, 3) := by decide +kernel
theorem d_X9_advance_81 : decode (mC M_X9_advance) 81 = .ok (.iconst 4, 1) := by decide +kernel
theorem d_X9_advance_82 : decode (mC M_X9_advance) 82 = .ok (.if_icmp .ne 12, 3) := by decide +kernel
theorem d_X9_advance_85 : decode (mC M_X9_advance) 85 = .ok (.aload_n 0, 1) := by decide +kernel
theorem d_X9_advance_86 : decode (mC M_X9_advance) 86 = .ok (.getfield 28, 3) := by decide +kernel
theorem d_X9_advance_89 : decode (mC M_X9_advance) 89 = .ok (.iconst 1, 1) := by decide +kernel
theorem d_X9_advance_90 : decode (mC M_X9_advance) 90 = .ok (.iadd, 1) := by decide +kernel
theorem d_X9_advance_91 : decode (mC M_X9_advance) 91 = .ok (.goto 7, 3) := by decide +kernel
theorem d_X9_advance_94 : decode (mC M_X9_advance) 94 = .ok (.aload_n 0, 1) := by decide +kernel
theorem d_X9_advance_95 : decode (mC M_X9_advance) 95 = .ok (.getfield 28, 3) := by decide +kernel
theorem d_X9_advance_98 : decode (mC M_X9_advance) 98 = .ok (.putfield 22, 3) := by decide +kernel
theorem d_X9_advance_101 : decode (mC M_X9_advance) 101 = .ok (.aload_n 0, 1) := by decide +kernel
theorem d_X9_advance_102 : decode (mC M_X9_advance) 102 = .ok (.getfield 22, 3) := by decide +kernel
theorem d_X9_advance_105 : decode (mC M_X9_advance) 105 = .ok (.aload_n 0, 1) := by decide +kernel
theorem d_X9_advance_106 : decode (mC M_X9_advance) 106 = .ok (.getfield 15, 3) := by decide +kernel
theorem d_X9_advance_109 : decode (mC M_X9_advance) 109 = .ok (.getfield 31, 3) := by decide +kernel
theorem d_X9_advance_112 : decode (mC M_X9_advance) 112 = .ok (.if_icmp .ge 71, 3) := by decide +kernel
theorem d_X9_advance_115 : decode (mC M_X9_advance) 115 = .ok (.aload_n 0, 1) := by decide +kernel
theorem d_X9_advance_116 : decode (mC M_X9_advance) 116 = .ok (.getfield 43, 3) := by decide +kernel
theorem d_X9_advance_119 : decode (mC M_X9_advance) 119 = .ok (.iconst 4, 1) := by decide +kernel
theorem d_X9_advance_120 : decode (mC M_X9_advance) 120 = .ok (.if_icmp .eq 63, 3) := by decide +kernel
theorem d_X9_advance_123 : decode (mC M_X9_advance) 123 = .ok (.aload_n 0, 1) := by decide +kernel
theorem d_X9_advance_124 : decode (mC M_X9_advance) 124 = .ok (.getfield 15, 3) := by decide +kernel
theorem d_X9_advance_127 : decode (mC M_X9_advance) 127 = .ok (.aload_n 0, 1) := by decide +kernel
theorem d_X9_advance_128 : decode (mC M_X9_advance) 128 = .ok (.getfield 22, 3) := by decide +kernel
theorem d_X9_advance_131 : decode (mC M_X9_advance) 131 = .ok (.invokevirtual 36, 3) := by decide +kernel
theorem d_X9_advance_134 : decode (mC M_X9_advance) 134 = .ok (.invokestatic 40, 3) := by decide +kernel
theorem d_X9_advance_137 : decode (mC M_X9_advance) 137 = .ok (.aload_n 0, 1) := by decide +kernel
theorem d_X9_advance_138 : decode (mC M_X9_advance) 138 = .ok (.getfield 43, 3) := by decide +kernel
theorem d_X9_advance_141 : decode (mC M_X9_advance) 141 = .ok (.if_icmp .ne 42, 3) := by decide +kernel
theorem d_X9_advance_144 : decode (mC M_X9_advance) 144 = .ok (.aload_n 0, 1) := by decide +kernel
theorem d_X9_advance_145 : decode (mC M_X9_advance) 145 = .ok (.aload_n 0, 1) := by decide +kernel
theorem d_X9_advance_146 : decode (mC M_X9_advance) 146 = .ok (.getfield 46, 3) := by decide +kernel
theorem d_X9_advance_149 : decode (mC M_X9_advance) 149 = .ok (.bipush 10, 2) := by decide +kernel
theorem d_X9_advance_151 : decode (mC M_X9_advance) 151 = .ok (.imul, 1) := by decide +kernel
theorem d_X9_advance_152 : decode (mC M_X9_advance) 152 = .ok (.aload_n 0, 1) := by decide +kernel
theorem d_X9_advance_153 : decode (mC M_X9_advance) 153 = .ok (.getfield 15, 3) := by decide +kernel
theorem d_X9_advance_156 : decode (mC M_X9_advance) 156 = .ok (.aload_n 0, 1) := by decide +kernel
theorem d_X9_advance_157 : decode (mC M_X9_advance) 157 = .ok (.getfield 22, 3) := by decide +kernel
theorem d_X9_advance_160 : decode (mC M_X9_advance) 160 = .ok (.invokevirtual 36, 3) := by decide +kernel
theorem d_X9_advance_163 : decode (mC M_X9_advance) 163 = .ok (.iadd, 1) := by decide +kernel
theorem d_X9_advance_164 : decode (mC M_X9_advance) 164 = .ok (.bipush 48, 2) := by decide +kernel
theorem d_X9_advance_166 : decode (mC M_X9_advance) 166 = .ok (.isub, 1) := by decide +kernel
theorem d_X9_advance_167 : decode (mC M_X9_advance) 167 = .ok (.putfield 46, 3) := by decide +kernel
theorem d_X9_advance_170 : decode (mC M_X9_advance) 170 = .ok (.aload_n 0, 1) := by decide +kernel
theorem d_X9_advance_171 : decode (mC M_X9_advance) 171 = .ok (.dup, 1) := by decide +kernel
theorem d_X9_advance_172 : decode (mC M_X9_advance) 172 = .ok (.getfield 22, 3) := by decide +kernel
theorem d_X9_advance_175 : decode (mC M_X9_advance) 175 = .ok (.iconst 1, 1) := by decide +kernel
theorem d_X9_advance_176 : decode (mC M_X9_advance) 176 = .ok (.iadd, 1) := by decide +kernel
theorem d_X9_advance_177 : decode (mC M_X9_advance) 177 = .ok (.putfield 22, 3) := by decide +kernel
theorem d_X9_advance_180 : decode (mC M_X9_advance) 180 = .ok (.goto (-79), 3) := by decide +kernel
theorem d_X9_advance_183 : decode (mC M_X9_advance) 183 = .ok (.return_, 1) := by decide +kernel
theorem d_X9_atEnd_0 : decode (mC M_X9_atEnd) 0 = .ok (.aload_n 0, 1) := by decide +kernel
theorem d_X9_atEnd_1 : decode (mC M_X9_atEnd) 1 = .ok (.getfield 43, 3) := by decide +kernel
theorem d_X9_atEnd_4 : decode (mC M_X9_atEnd) 4 = .ok (.ifCond .ne 7, 3) := by decide +kernel
theorem d_X9_atEnd_7 : decode (mC M_X9_atEnd) 7 = .ok (.iconst 1, 1) := by decide +kernel
theorem d_X9_atEnd_8 : decode (mC M_X9_atEnd) 8 = .ok (.goto 4, 3) := by decide +kernel
theorem d_X9_atEnd_11 : decode (mC M_X9_atEnd) 11 = .ok (.iconst 0, 1) := by decide +kernel
theorem d_X9_atEnd_12 : decode (mC M_X9_atEnd) 12 = .ok (.ireturn, 1) := by decide +kernel
theorem d_X9_begin_0 : decode (mC M_X9_begin) 0 = .ok (.aload_n 0, 1) := by decide +kernel
theorem d_X9_begin_1 : decode (mC M_X9_begin) 1 = .ok (.iconst 0, 1) := by decide +kernel
theorem d_X9_begin_2 : decode (mC M_X9_begin) 2 = .ok (.putfield 19, 3) := by decide +kernel
theorem d_X9_begin_5 : decode (mC M_X9_begin) 5 = .ok (.aload_n 0, 1) := by decide +kernel
theorem d_X9_begin_6 : decode (mC M_X9_begin) 6 = .ok (.iconst (-1), 1) := by decide +kernel
theorem d_X9_begin_7 : decode (mC M_X9_begin) 7 = .ok (.putfield 9, 3) := by decide +kernel
theorem d_X9_begin_10 : decode (mC M_X9_begin) 10 = .ok (.aload_n 0, 1) := by decide +kernel
theorem d_X9_begin_11 : decode (mC M_X9_begin) 11 = .ok (.iconst 0, 1) := by decide +kernel
theorem d_X9_begin_12 : decode (mC M_X9_begin) 12 = .ok (.putfield 22, 3) := by decide +kernel
theorem d_X9_begin_15 : decode (mC M_X9_begin) 15 = .ok (.aload_n 0, 1) := by decide +kernel
theorem d_X9_begin_16 : decode (mC M_X9_begin) 16 = .ok (.invokevirtual 25, 3) := by decide +kernel
theorem d_X9_begin_19 : decode (mC M_X9_begin) 19 = .ok (.return_, 1) := by decide +kernel
theorem d_X9_fail_0 : decode (mC M_X9_fail) 0 = .ok (.aload_n 0, 1) := by decide +kernel
theorem d_X9_fail_1 : decode (mC M_X9_fail) 1 = .ok (.iload_n 1, 1) := by decide +kernel
theorem d_X9_fail_2 : decode (mC M_X9_fail) 2 = .ok (.putfield 19, 3) := by decide +kernel
theorem d_X9_fail_5 : decode (mC M_X9_fail) 5 = .ok (.aload_n 0, 1) := by decide +kernel
theorem d_X9_fail_6 : decode (mC M_X9_fail) 6 = .ok (.aload_n 0, 1) := by decide +kernel
theorem d_X9_fail_7 : decode (mC M_X9_fail) 7 = .ok (.getfield 28, 3) := by decide +kernel
theorem d_X9_fail_10 : decode (mC M_X9_fail) 10 = .ok (.putfield 9, 3) := by decide +kernel
theorem d_X9_fail_13 : decode (mC M_X9_fail) 13 = .ok (.iconst 0, 1) := by decide +kernel
theorem d_X9_fail_14 : decode (mC M_X9_fail) 14 = .ok (.ireturn, 1) := by decide +kernel
theorem d_X9_init_0 : decode (mC M_X9_init) 0 = .ok (.aload_n 0, 1) := by decide +kernel
theorem d_X9_init_1 : decode (mC M_X9_init) 1 = .ok (.invokespecial 3, 3) := by decide +kernel
theorem d_X9_init_4 : decode (mC M_X9_init) 4 = .ok (.aload_n 0, 1) := by decide +kernel
theorem d_X9_init_5 : decode (mC M_X9_init) 5 = .ok (.iconst (-1), 1) := by decide +kernel
theorem d_X9_init_6 : decode (mC M_X9_init) 6 = .ok (.putfield 9, 3) := by decide +kernel
theorem d_X9_init_9 : decode (mC M_X9_init) 9 = .ok (.aload_n 0, 1) := by decide +kernel
theorem d_X9_init_10 : decode (mC M_X9_init) 10 = .ok (.aload_n 1, 1) := by decide +kernel
theorem d_X9_init_11 : decode (mC M_X9_init) 11 = .ok (.putfield 15, 3) := by decide +kernel
theorem d_X9_init_14 : decode (mC M_X9_init) 14 = .ok (.return_, 1) := by decide +kernel
theorem d_X9_isSign_0 : decode (mC M_X9_isSign) 0 = .ok (.aload_n 0, 1) := by decide +kernel
theorem d_X9_isSign_1 : decode (mC M_X9_isSign) 1 = .ok (.getfield 43, 3) := by decide +kernel
theorem d_X9_isSign_4 : decode (mC M_X9_isSign) 4 = .ok (.iconst 4, 1) := by decide +kernel
theorem d_X9_isSign_5 : decode (mC M_X9_isSign) 5 = .ok (.if_icmp .ne 22, 3) := by decide +kernel
theorem d_X9_isSign_8 : decode (mC M_X9_isSign) 8 = .ok (.aload_n 0, 1) := by decide +kernel
theorem d_X9_isSign_9 : decode (mC M_X9_isSign) 9 = .ok (.getfield 15, 3) := by decide +kernel
theorem d_X9_isSign_12 : decode (mC M_X9_isSign) 12 = .ok (.aload_n 0, 1) := by decide +kernel
theorem d_X9_isSign_13 : decode (mC M_X9_isSign) 13 = .ok (.getfield 28, 3) := by decide +kernel
theorem d_X9_isSign_16 : decode (mC M_X9_isSign) 16 = .ok (.invokevirtual 36, 3) := by decide +kernel
theorem d_X9_isSign_19 : decode (mC M_X9_isSign) 19 = .ok (.iload_n 1, 1) := by decide +kernel
theorem d_X9_isSign_20 : decode (mC M_X9_isSign) 20 = .ok (.if_icmp .ne 7, 3) := by decide +kernel
theorem d_X9_isSign_23 : decode (mC M_X9_isSign) 23 = .ok (.iconst 1, 1) := by decide +kernel
theorem d_X9_isSign_24 : decode (mC M_X9_isSign) 24 = .ok (.goto 4, 3) := by decide +kernel
theorem d_X9_isSign_27 : decode (mC M_X9_isSign) 27 = .ok (.iconst 0, 1) := by decide +kernel
theorem d_X9_isSign_28 : decode (mC M_X9_isSign) 28 = .ok (.ireturn, 1) := by decide +kernel
theorem d_X9_isWord_0 : decode (mC M_X9_isWord) 0 = .ok (.aload_n 0, 1) := by decide +kernel
theorem d_X9_isWord_1 : decode (mC M_X9_isWord) 1 = .ok (.getfield 43, 3) := by decide +kernel
theorem d_X9_isWord_4 : decode (mC M_X9_isWord) 4 = .ok (.iconst 2, 1) := by decide +kernel
theorem d_X9_isWord_5 : decode (mC M_X9_isWord) 5 = .ok (.if_icmp .ne 19, 3) := by decide +kernel
theorem d_X9_isWord_8 : decode (mC M_X9_isWord) 8 = .ok (.aload_n 0, 1) := by decide +kernel
theorem d_X9_isWord_9 : decode (mC M_X9_isWord) 9 = .ok (.getfield 22, 3) := by decide +kernel
theorem d_X9_isWord_12 : decode (mC M_X9_isWord) 12 = .ok (.aload_n 0, 1) := by decide +kernel
theorem d_X9_isWord_13 : decode (mC M_X9_isWord) 13 = .ok (.getfield 28, 3) := by decide +kernel
theorem d_X9_isWord_16 : decode (mC M_X9_isWord) 16 = .ok (.isub, 1) := by decide +kernel
theorem d_X9_isWord_17 : decode (mC M_X9_isWord) 17 = .ok (.aload_n 1, 1) := by decide +kernel
theorem d_X9_isWord_18 : decode (mC M_X9_isWord) 18 = .ok (.invokevirtual 49, 3) := by decide +kernel
theorem d_X9_isWord_21 : decode (mC M_X9_isWord) 21 = .ok (.if_icmp .eq 5, 3) := by decide +kernel
theorem d_X9_isWord_24 : decode (mC M_X9_isWord) 24 = .ok (.iconst 0, 1) := by decide +kernel
theorem d_X9_isWord_25 : decode (mC M_X9_isWord) 25 = .ok (.ireturn, 1) := by decide +kernel
theorem d_X9_isWord_26 : decode (mC M_X9_isWord) 26 = .ok (.iconst 0, 1) := by decide +kernel
theorem d_X9_isWord_27 : decode (mC M_X9_isWord) 27 = .ok (.istore_n 2, 1) := by decide +kernel
theorem d_X9_isWord_28 : decode (mC M_X9_isWord) 28 = .ok (.iload_n 2, 1) := by decide +kernel
theorem d_X9_isWord_29 : decode (mC M_X9_isWord) 29 = .ok (.aload_n 1, 1) := by decide +kernel
theorem d_X9_isWord_30 : decode (mC M_X9_isWord) 30 = .ok (.invokevirtual 49, 3) := by decide +kernel
theorem d_X9_isWord_33 : decode (mC M_X9_isWord) 33 = .ok (.if_icmp .ge 32, 3) := by decide +kernel
theorem d_X9_isWord_36 : decode (mC M_X9_isWord) 36 = .ok (.aload_n 0, 1) := by decide +kernel
theorem d_X9_isWord_37 : decode (mC M_X9_isWord) 37 = .ok (.getfield 15, 3) := by decide +kernel
theorem d_X9_isWord_40 : decode (mC M_X9_isWord) 40 = .ok (.aload_n 0, 1) := by decide +kernel
theorem d_X9_isWord_41 : decode (mC M_X9_isWord) 41 = .ok (.getfield 28, 3) := by decide +kernel
theorem d_X9_isWord_44 : decode (mC M_X9_isWord) 44 = .ok (.iload_n 2, 1) := by decide +kernel
theorem d_X9_isWord_45 : decode (mC M_X9_isWord) 45 = .ok (.iadd, 1) := by decide +kernel
theorem d_X9_isWord_46 : decode (mC M_X9_isWord) 46 = .ok (.invokevirtual 36, 3) := by decide +kernel
theorem d_X9_isWord_49 : decode (mC M_X9_isWord) 49 = .ok (.aload_n 1, 1) := by decide +kernel
theorem d_X9_isWord_50 : decode (mC M_X9_isWord) 50 = .ok (.iload_n 2, 1) := by decide +kernel
theorem d_X9_isWord_51 : decode (mC M_X9_isWord) 51 = .ok (.invokevirtual 55, 3) := by decide +kernel
theorem d_X9_isWord_54 : decode (mC M_X9_isWord) 54 = .ok (.if_icmp .eq 5, 3) := by decide +kernel
theorem d_X9_isWord_57 : decode (mC M_X9_isWord) 57 = .ok (.iconst 0, 1) := by decide +kernel
theorem d_X9_isWord_58 : decode (mC M_X9_isWord) 58 = .ok (.ireturn, 1) := by decide +kernel
theorem d_X9_isWord_59 : decode (mC M_X9_isWord) 59 = .ok (.iinc 2 1, 3) := by decide +kernel
theorem d_X9_isWord_62 : decode (mC M_X9_isWord) 62 = .ok (.goto (-34), 3) := by decide +kernel
theorem d_X9_isWord_65 : decode (mC M_X9_isWord) 65 = .ok (.iconst 1, 1) := by decide +kernel
theorem d_X9_isWord_66 : decode (mC M_X9_isWord) 66 = .ok (.ireturn, 1) := by decide +kernel
theorem d_X9_kindOf_0 : decode (mC M_X9_kindOf) 0 = .ok (.iload_n 0, 1) := by decide +kernel
theorem d_X9_kindOf_1 : decode (mC M_X9_kindOf) 1 = .ok (.iconst (-1), 1) := by decide +kernel
theorem d_X9_kindOf_2 : decode (mC M_X9_kindOf) 2 = .ok (.if_icmp .ne 5, 3) := by decide +kernel
theorem d_X9_kindOf_5 : decode (mC M_X9_kindOf) 5 = .ok (.iconst 0, 1) := by decide +kernel
theorem d_X9_kindOf_6 : decode (mC M_X9_kindOf) 6 = .ok (.ireturn, 1) := by decide +kernel
theorem d_X9_kindOf_7 : decode (mC M_X9_kindOf) 7 = .ok (.iload_n 0, 1) := by decide +kernel
theorem d_X9_kindOf_8 : decode (mC M_X9_kindOf) 8 = .ok (.bipush 32, 2) := by decide +kernel
theorem d_X9_kindOf_10 : decode (mC M_X9_kindOf) 10 = .ok (.if_icmp .eq 9, 3) := by decide +kernel
theorem d_X9_kindOf_13 : decode (mC M_X9_kindOf) 13 = .ok (.iload_n 0, 1) := by decide +kernel
theorem d_X9_kindOf_14 : decode (mC M_X9_kindOf) 14 = .ok (.bipush 10, 2) := by decide +kernel
theorem d_X9_kindOf_16 : decode (mC M_X9_kindOf) 16 = .ok (.if_icmp .ne 5, 3) := by decide +kernel
theorem d_X9_kindOf_19 : decode (mC M_X9_kindOf) 19 = .ok (.iconst 1, 1) := by decide +kernel
theorem d_X9_kindOf_20 : decode (mC M_X9_kindOf) 20 = .ok (.ireturn, 1) := by decide +kernel
theorem d_X9_kindOf_21 : decode (mC M_X9_kindOf) 21 = .ok (.iload_n 0, 1) := by decide +kernel
theorem d_X9_kindOf_22 : decode (mC M_X9_kindOf) 22 = .ok (.bipush 97, 2) := by decide +kernel
theorem d_X9_kindOf_24 : decode (mC M_X9_kindOf) 24 = .ok (.if_icmp .lt 11, 3) := by decide +kernel
theorem d_X9_kindOf_27 : decode (mC M_X9_kindOf) 27 = .ok (.iload_n 0, 1) := by decide +kernel
theorem d_X9_kindOf_28 : decode (mC M_X9_kindOf) 28 = .ok (.bipush 122, 2) := by decide +kernel
theorem d_X9_kindOf_30 : decode (mC M_X9_kindOf) 30 = .ok (.if_icmp .gt 5, 3) := by decide +kernel
theorem d_X9_kindOf_33 : decode (mC M_X9_kindOf) 33 = .ok (.iconst 2, 1) := by decide +kernel
theorem d_X9_kindOf_34 : decode (mC M_X9_kindOf) 34 = .ok (.ireturn, 1) := by decide +kernel
theorem d_X9_kindOf_35 : decode (mC M_X9_kindOf) 35 = .ok (.iload_n 0, 1) := by decide +kernel
theorem d_X9_kindOf_36 : decode (mC M_X9_kindOf) 36 = .ok (.bipush 48, 2) := by decide +kernel
theorem d_X9_kindOf_38 : decode (mC M_X9_kindOf) 38 = .ok (.if_icmp .lt 13, 3) := by decide +kernel
theorem d_X9_kindOf_41 : decode (mC M_X9_kindOf) 41 = .ok (.iload_n 0, 1) := by decide +kernel
theorem d_X9_kindOf_42 : decode (mC M_X9_kindOf) 42 = .ok (.bipush 57, 2) := by decide +kernel
theorem d_X9_kindOf_44 : decode (mC M_X9_kindOf) 44 = .ok (.if_icmp .gt 7, 3) := by decide +kernel
theorem d_X9_kindOf_47 : decode (mC M_X9_kindOf) 47 = .ok (.iconst 3, 1) := by decide +kernel
theorem d_X9_kindOf_48 : decode (mC M_X9_kindOf) 48 = .ok (.goto 4, 3) := by decide +kernel
theorem d_X9_kindOf_51 : decode (mC M_X9_kindOf) 51 = .ok (.iconst 4, 1) := by decide +kernel
theorem d_X9_kindOf_52 : decode (mC M_X9_kindOf) 52 = .ok (.ireturn, 1) := by decide +kernel
theorem d_X9_passNumber_0 : decode (mC M_X9_passNumber) 0 = .ok (.aload_n 0, 1) := by decide +kernel
theorem d_X9_passNumber_1 : decode (mC M_X9_passNumber) 1 = .ok (.getfield 43, 3) := by decide +kernel
theorem d_X9_passNumber_4 : decode (mC M_X9_passNumber) 4 = .ok (.iconst 3, 1) := by decide +kernel
theorem d_X9_passNumber_5 : decode (mC M_X9_passNumber) 5 = .ok (.if_icmp .ne 16, 3) := by decide +kernel
theorem d_X9_passNumber_8 : decode (mC M_X9_passNumber) 8 = .ok (.aload_n 0, 1) := by decide +kernel
theorem d_X9_passNumber_9 : decode (mC M_X9_passNumber) 9 = .ok (.getfield 22, 3) := by decide +kernel
theorem d_X9_passNumber_12 : decode (mC M_X9_passNumber) 12 = .ok (.aload_n 0, 1) := by decide +kernel
theorem d_X9_passNumber_13 : decode (mC M_X9_passNumber) 13 = .ok (.getfield 28, 3) := by decide +kernel
theorem d_X9_passNumber_16 : decode (mC M_X9_passNumber) 16 = .ok (.isub, 1) := by decide +kernel
theorem d_X9_passNumber_17 : decode (mC M_X9_passNumber) 17 = .ok (.iconst 5, 1) := by decide +kernel
theorem d_X9_passNumber_18 : decode (mC M_X9_passNumber) 18 = .ok (.if_icmp .le 11, 3) := by decide +kernel
theorem d_X9_passNumber_21 : decode (mC M_X9_passNumber) 21 = .ok (.aload_n 0, 1) := by decide +kernel
theorem d_X9_passNumber_22 : decode (mC M_X9_passNumber) 22 = .ok (.iconst 1, 1) := by decide +kernel
theorem d_X9_passNumber_23 : decode (mC M_X9_passNumber) 23 = .ok (.invokevirtual 63, 3) := by decide +kernel
theorem d_X9_passNumber_26 : decode (mC M_X9_passNumber) 26 = .ok (.pop, 1) := by decide +kernel
theorem d_X9_passNumber_27 : decode (mC M_X9_passNumber) 27 = .ok (.iconst (-1), 1) := by decide +kernel
theorem d_X9_passNumber_28 : decode (mC M_X9_passNumber) 28 = .ok (.ireturn, 1) := by decide +kernel
theorem d_X9_passNumber_29 : decode (mC M_X9_passNumber) 29 = .ok (.aload_n 0, 1) := by decide +kernel
theorem d_X9_passNumber_30 : decode (mC M_X9_passNumber) 30 = .ok (.getfield 46, 3) := by decide +kernel
theorem d_X9_passNumber_33 : decode (mC M_X9_passNumber) 33 = .ok (.iload_n 1, 1) := by decide +kernel
theorem d_X9_passNumber_34 : decode (mC M_X9_passNumber) 34 = .ok (.iload_n 2, 1) := by decide +kernel
theorem d_X9_passNumber_35 : decode (mC M_X9_passNumber) 35 = .ok (.invokestatic 71, 3) := by decide +kernel
theorem d_X9_passNumber_38 : decode (mC M_X9_passNumber) 38 = .ok (.ifCond .ne 11, 3) := by decide +kernel
theorem d_X9_passNumber_41 : decode (mC M_X9_passNumber) 41 = .ok (.aload_n 0, 1) := by decide +kernel
theorem d_X9_passNumber_42 : decode (mC M_X9_passNumber) 42 = .ok (.iconst 2, 1) := by decide +kernel
theorem d_X9_passNumber_43 : decode (mC M_X9_passNumber) 43 = .ok (.invokevirtual 63, 3) := by decide +kernel
theorem d_X9_passNumber_46 : decode (mC M_X9_passNumber) 46 = .ok (.pop, 1) := by decide +kernel
theorem d_X9_passNumber_47 : decode (mC M_X9_passNumber) 47 = .ok (.iconst (-1), 1) := by decide +kernel
theorem d_X9_passNumber_48 : decode (mC M_X9_passNumber) 48 = .ok (.ireturn, 1) := by decide +kernel
theorem d_X9_passNumber_49 : decode (mC M_X9_passNumber) 49 = .ok (.aload_n 0, 1) := by decide +kernel
theorem d_X9_passNumber_50 : decode (mC M_X9_passNumber) 50 = .ok (.getfield 46, 3) := by decide +kernel
theorem d_X9_passNumber_53 : decode (mC M_X9_passNumber) 53 = .ok (.istore_n 3, 1) := by decide +kernel
theorem d_X9_passNumber_54 : decode (mC M_X9_passNumber) 54 = .ok (.aload_n 0, 1) := by decide +kernel
theorem d_X9_passNumber_55 : decode (mC M_X9_passNumber) 55 = .ok (.invokevirtual 25, 3) := by decide +kernel
theorem d_X9_passNumber_58 : decode (mC M_X9_passNumber) 58 = .ok (.iload_n 3, 1) := by decide +kernel
theorem d_X9_passNumber_59 : decode (mC M_X9_passNumber) 59 = .ok (.ireturn, 1) := by decide +kernel
theorem d_X9_passNumberAfter_0 : decode (mC M_X9_passNumberAfter) 0 = .ok (.aload_n 0, 1) := by decide +kernel
theorem d_X9_passNumberAfter_1 : decode (mC M_X9_passNumberAfter) 1 = .ok (.aload_n 1, 1) := by decide +kernel
theorem d_X9_passNumberAfter_2 : decode (mC M_X9_passNumberAfter) 2 = .ok (.invokevirtual 75, 3) := by decide +kernel
theorem d_X9_passNumberAfter_5 : decode (mC M_X9_passNumberAfter) 5 = .ok (.ifCond .eq 12, 3) := by decide +kernel
theorem d_X9_passNumberAfter_8 : decode (mC M_X9_passNumberAfter) 8 = .ok (.aload_n 0, 1) := by decide +kernel
theorem d_X9_passNumberAfter_9 : decode (mC M_X9_passNumberAfter) 9 = .ok (.iload_n 2, 1) := by decide +kernel
theorem d_X9_passNumberAfter_10 : decode (mC M_X9_passNumberAfter) 10 = .ok (.iload_n 3, 1) := by decide +kernel
theorem d_X9_passNumberAfter_11 : decode (mC M_X9_passNumberAfter) 11 = .ok (.invokevirtual 78, 3) := by decide +kernel
theorem d_X9_passNumberAfter_14 : decode (mC M_X9_passNumberAfter) 14 = .ok (.goto 4, 3) := by decide +kernel
theorem d_X9_passNumberAfter_17 : decode (mC M_X9_passNumberAfter) 17 = .ok (.iconst (-1), 1) := by decide +kernel
theorem d_X9_passNumberAfter_18 : decode (mC M_X9_passNumberAfter) 18 = .ok (.ireturn, 1) := by decide +kernel
theorem d_X9_passSign_0 : decode (mC M_X9_passSign) 0 = .ok (.aload_n 0, 1) := by decide +kernel
theorem d_X9_passSign_1 : decode (mC M_X9_passSign) 1 = .ok (.iload_n 1, 1) := by decide +kernel
theorem d_X9_passSign_2 : decode (mC M_X9_passSign) 2 = .ok (.invokevirtual 67, 3) := by decide +kernel
theorem d_X9_passSign_5 : decode (mC M_X9_passSign) 5 = .ok (.ifCond .ne 9, 3) := by decide +kernel
theorem d_X9_passSign_8 : decode (mC M_X9_passSign) 8 = .ok (.aload_n 0, 1) := by decide +kernel
theorem d_X9_passSign_9 : decode (mC M_X9_passSign) 9 = .ok (.iconst 1, 1) := by decide +kernel
theorem d_X9_passSign_10 : decode (mC M_X9_passSign) 10 = .ok (.invokevirtual 63, 3) := by decide +kernel
theorem d_X9_passSign_13 : decode (mC M_X9_passSign) 13 = .ok (.ireturn, 1) := by decide +kernel
theorem d_X9_passSign_14 : decode (mC M_X9_passSign) 14 = .ok (.aload_n 0, 1) := by decide +kernel
theorem d_X9_passSign_15 : decode (mC M_X9_passSign) 15 = .ok (.invokevirtual 25, 3) := by decide +kernel
theorem d_X9_passSign_18 : decode (mC M_X9_passSign) 18 = .ok (.iconst 1, 1) := by decide +kernel
theorem d_X9_passSign_19 : decode (mC M_X9_passSign) 19 = .ok (.ireturn, 1) := by decide +kernel
theorem d_X9_passWord_0 : decode (mC M_X9_passWord) 0 = .ok (.aload_n 0, 1) := by decide +kernel
theorem d_X9_passWord_1 : decode (mC M_X9_passWord) 1 = .ok (.aload_n 1, 1) := by decide +kernel
theorem d_X9_passWord_2 : decode (mC M_X9_passWord) 2 = .ok (.invokevirtual 59, 3) := by decide +kernel
theorem d_X9_passWord_5 : decode (mC M_X9_passWord) 5 = .ok (.ifCond .ne 9, 3) := by decide +kernel
theorem d_X9_passWord_8 : decode (mC M_X9_passWord) 8 = .ok (.aload_n 0, 1) := by decide +kernel
theorem d_X9_passWord_9 : decode (mC M_X9_passWord) 9 = .ok (.iconst 1, 1) := by decide +kernel
theorem d_X9_passWord_10 : decode (mC M_X9_passWord) 10 = .ok (.invokevirtual 63, 3) := by decide +kernel
theorem d_X9_passWord_13 : decode (mC M_X9_passWord) 13 = .ok (.ireturn, 1) := by decide +kernel
theorem d_X9_passWord_14 : decode (mC M_X9_passWord) 14 = .ok (.aload_n 0, 1) := by decide +kernel
theorem d_X9_passWord_15 : decode (mC M_X9_passWord) 15 = .ok (.invokevirtual 25, 3) := by decide +kernel
theorem d_X9_passWord_18 : decode (mC M_X9_passWord) 18 = .ok (.iconst 1, 1) := by decide +kernel
theorem d_X9_passWord_19 : decode (mC M_X9_passWord) 19 = .ok (.ireturn, 1) := by decide +kernel
end
