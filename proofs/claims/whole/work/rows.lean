section
-- ===== PART A: goes FIRST, ahead of the names: the tables' words, and 'selects' of the private methods out of them =====
/-- a private method of a class that the tables say can be made, by its rows of tables_1 -/
def lw_okq (q : MethodName × Nat) : Prop := (q.1.cls ≠ "java/lang/invoke/MethodHandle" ∧ q.1.cls ≠ "java/lang/invoke/VarHandle") ∧ Cond.instantiable q.1.cls q.2 ∈ tables_1 ∧ Cond.privateMethod q.1 ∈ tables_1 ∧ Cond.instanceMethod q.1 ∈ tables_1
theorem lw_p0 : lw_okq (⟨"Caretline$Editor", "refuse", "(I)I"⟩, 5) := ⟨⟨by decide +kernel, by decide +kernel⟩, List.mem_of_getElem? (i := 44) (by decide +kernel), List.mem_of_getElem? (i := 299) (by decide +kernel), List.mem_of_getElem? (i := 300) (by decide +kernel)⟩
theorem lw_p1 : lw_okq (⟨"Caretline$Lines", "common", "(III)I"⟩, 4) := ⟨⟨by decide +kernel, by decide +kernel⟩, List.mem_of_getElem? (i := 50) (by decide +kernel), List.mem_of_getElem? (i := 346) (by decide +kernel), List.mem_of_getElem? (i := 347) (by decide +kernel)⟩
theorem lw_p2 : lw_okq (⟨"Caretline$Editor", "conclude", "(III)V"⟩, 5) := ⟨⟨by decide +kernel, by decide +kernel⟩, List.mem_of_getElem? (i := 44) (by decide +kernel), List.mem_of_getElem? (i := 350) (by decide +kernel), List.mem_of_getElem? (i := 351) (by decide +kernel)⟩
theorem lw_p3 : lw_okq (⟨"java/util/ArrayList", "fastRemove", "([Ljava/lang/Object;I)V"⟩, 3) := ⟨⟨by decide +kernel, by decide +kernel⟩, List.mem_of_getElem? (i := 62) (by decide +kernel), List.mem_of_getElem? (i := 385) (by decide +kernel), List.mem_of_getElem? (i := 386) (by decide +kernel)⟩
theorem lw_p4 : lw_okq (⟨"java/util/ArrayList", "rangeCheckForAdd", "(I)V"⟩, 3) := ⟨⟨by decide +kernel, by decide +kernel⟩, List.mem_of_getElem? (i := 62) (by decide +kernel), List.mem_of_getElem? (i := 440) (by decide +kernel), List.mem_of_getElem? (i := 441) (by decide +kernel)⟩
theorem lw_p5 : lw_okq (⟨"java/lang/Throwable", "fillInStackTrace", "(I)Ljava/lang/Throwable;"⟩, 6) := ⟨⟨by decide +kernel, by decide +kernel⟩, List.mem_of_getElem? (i := 482) (by decide +kernel), List.mem_of_getElem? (i := 480) (by decide +kernel), List.mem_of_getElem? (i := 481) (by decide +kernel)⟩
theorem lw_p6 : lw_okq (⟨"java/util/ArrayList", "outOfBoundsMsg", "(I)Ljava/lang/String;"⟩, 3) := ⟨⟨by decide +kernel, by decide +kernel⟩, List.mem_of_getElem? (i := 62) (by decide +kernel), List.mem_of_getElem? (i := 485) (by decide +kernel), List.mem_of_getElem? (i := 486) (by decide +kernel)⟩
theorem lw_p7 : lw_okq (⟨"java/util/ArrayList", "grow", "()[Ljava/lang/Object;"⟩, 3) := ⟨⟨by decide +kernel, by decide +kernel⟩, List.mem_of_getElem? (i := 62) (by decide +kernel), List.mem_of_getElem? (i := 770) (by decide +kernel), List.mem_of_getElem? (i := 771) (by decide +kernel)⟩
theorem lw_p8 : lw_okq (⟨"java/util/ArrayList", "grow", "(I)[Ljava/lang/Object;"⟩, 3) := ⟨⟨by decide +kernel, by decide +kernel⟩, List.mem_of_getElem? (i := 62) (by decide +kernel), List.mem_of_getElem? (i := 774) (by decide +kernel), List.mem_of_getElem? (i := 775) (by decide +kernel)⟩
theorem lw_p9 : lw_okq (⟨"Caretline", "firstIndex", "(I)I"⟩, 8) := ⟨⟨by decide +kernel, by decide +kernel⟩, List.mem_of_getElem? (i := 36) (by decide +kernel), List.mem_of_getElem? (i := 968) (by decide +kernel), List.mem_of_getElem? (i := 969) (by decide +kernel)⟩
theorem lw_p10 : lw_okq (⟨"Caretline", "spell", "(I)V"⟩, 8) := ⟨⟨by decide +kernel, by decide +kernel⟩, List.mem_of_getElem? (i := 36) (by decide +kernel), List.mem_of_getElem? (i := 1005) (by decide +kernel), List.mem_of_getElem? (i := 1006) (by decide +kernel)⟩
theorem lw_p11 : lw_okq (⟨"Caretline", "put", "(C)V"⟩, 8) := ⟨⟨by decide +kernel, by decide +kernel⟩, List.mem_of_getElem? (i := 36) (by decide +kernel), List.mem_of_getElem? (i := 1010) (by decide +kernel), List.mem_of_getElem? (i := 1011) (by decide +kernel)⟩
theorem lw_p12 : lw_okq (⟨"Caretline$Script", "lengthen", "(III)V"⟩, 7) := ⟨⟨by decide +kernel, by decide +kernel⟩, List.mem_of_getElem? (i := 224) (by decide +kernel), List.mem_of_getElem? (i := 1155) (by decide +kernel), List.mem_of_getElem? (i := 1156) (by decide +kernel)⟩
theorem lw_p13 : lw_okq (⟨"Caretline$Script", "begin", "(III)V"⟩, 7) := ⟨⟨by decide +kernel, by decide +kernel⟩, List.mem_of_getElem? (i := 224) (by decide +kernel), List.mem_of_getElem? (i := 1162) (by decide +kernel), List.mem_of_getElem? (i := 1163) (by decide +kernel)⟩
theorem lw_p14 : lw_okq (⟨"Caretline$Script", "wantedBehind", "(II)I"⟩, 7) := ⟨⟨by decide +kernel, by decide +kernel⟩, List.mem_of_getElem? (i := 224) (by decide +kernel), List.mem_of_getElem? (i := 1187) (by decide +kernel), List.mem_of_getElem? (i := 1188) (by decide +kernel)⟩
theorem lw_p15 : lw_okq (⟨"Caretline$Script", "open", "(I)I"⟩, 7) := ⟨⟨by decide +kernel, by decide +kernel⟩, List.mem_of_getElem? (i := 224) (by decide +kernel), List.mem_of_getElem? (i := 1195) (by decide +kernel), List.mem_of_getElem? (i := 1196) (by decide +kernel)⟩
def lw_privs_1 : List (MethodName × Nat) := [(⟨"Caretline$Editor", "refuse", "(I)I"⟩, 5), (⟨"Caretline$Lines", "common", "(III)I"⟩, 4), (⟨"Caretline$Editor", "conclude", "(III)V"⟩, 5), (⟨"java/util/ArrayList", "fastRemove", "([Ljava/lang/Object;I)V"⟩, 3), (⟨"java/util/ArrayList", "rangeCheckForAdd", "(I)V"⟩, 3), (⟨"java/lang/Throwable", "fillInStackTrace", "(I)Ljava/lang/Throwable;"⟩, 6), (⟨"java/util/ArrayList", "outOfBoundsMsg", "(I)Ljava/lang/String;"⟩, 3), (⟨"java/util/ArrayList", "grow", "()[Ljava/lang/Object;"⟩, 3), (⟨"java/util/ArrayList", "grow", "(I)[Ljava/lang/Object;"⟩, 3), (⟨"Caretline", "firstIndex", "(I)I"⟩, 8), (⟨"Caretline", "spell", "(I)V"⟩, 8), (⟨"Caretline", "put", "(C)V"⟩, 8), (⟨"Caretline$Script", "lengthen", "(III)V"⟩, 7), (⟨"Caretline$Script", "begin", "(III)V"⟩, 7), (⟨"Caretline$Script", "wantedBehind", "(II)I"⟩, 7), (⟨"Caretline$Script", "open", "(I)I"⟩, 7)]
theorem lw_r1 : ∀ q ∈ lw_privs_1, lw_okq q := List.forall_mem_cons.mpr ⟨lw_p0, List.forall_mem_cons.mpr ⟨lw_p1, List.forall_mem_cons.mpr ⟨lw_p2, List.forall_mem_cons.mpr ⟨lw_p3, List.forall_mem_cons.mpr ⟨lw_p4, List.forall_mem_cons.mpr ⟨lw_p5, List.forall_mem_cons.mpr ⟨lw_p6, List.forall_mem_cons.mpr ⟨lw_p7, List.forall_mem_cons.mpr ⟨lw_p8, List.forall_mem_cons.mpr ⟨lw_p9, List.forall_mem_cons.mpr ⟨lw_p10, List.forall_mem_cons.mpr ⟨lw_p11, List.forall_mem_cons.mpr ⟨lw_p12, List.forall_mem_cons.mpr ⟨lw_p13, List.forall_mem_cons.mpr ⟨lw_p14, List.forall_mem_cons.mpr ⟨lw_p15, fun _ h => absurd h List.not_mem_nil⟩⟩⟩⟩⟩⟩⟩⟩⟩⟩⟩⟩⟩⟩⟩⟩
theorem lw_p16 : lw_okq (⟨"Caretline$Script", "close", "(I)I"⟩, 7) := ⟨⟨by decide +kernel, by decide +kernel⟩, List.mem_of_getElem? (i := 224) (by decide +kernel), List.mem_of_getElem? (i := 1199) (by decide +kernel), List.mem_of_getElem? (i := 1200) (by decide +kernel)⟩
theorem lw_p17 : lw_okq (⟨"Caretline$Script", "beginAct", "(II)I"⟩, 7) := ⟨⟨by decide +kernel, by decide +kernel⟩, List.mem_of_getElem? (i := 224) (by decide +kernel), List.mem_of_getElem? (i := 1203) (by decide +kernel), List.mem_of_getElem? (i := 1204) (by decide +kernel)⟩
theorem lw_p18 : lw_okq (⟨"Caretline", "perform", "(III)I"⟩, 8) := ⟨⟨by decide +kernel, by decide +kernel⟩, List.mem_of_getElem? (i := 36) (by decide +kernel), List.mem_of_getElem? (i := 1207) (by decide +kernel), List.mem_of_getElem? (i := 1208) (by decide +kernel)⟩
theorem lw_p19 : lw_okq (⟨"Caretline", "repeatUntilRefused", "(II)I"⟩, 8) := ⟨⟨by decide +kernel, by decide +kernel⟩, List.mem_of_getElem? (i := 36) (by decide +kernel), List.mem_of_getElem? (i := 1216) (by decide +kernel), List.mem_of_getElem? (i := 1217) (by decide +kernel)⟩
theorem lw_p20 : lw_okq (⟨"Caretline", "repeatTimes", "(II)I"⟩, 8) := ⟨⟨by decide +kernel, by decide +kernel⟩, List.mem_of_getElem? (i := 36) (by decide +kernel), List.mem_of_getElem? (i := 1220) (by decide +kernel), List.mem_of_getElem? (i := 1221) (by decide +kernel)⟩
theorem lw_p21 : lw_okq (⟨"Caretline", "attempt", "(II)I"⟩, 8) := ⟨⟨by decide +kernel, by decide +kernel⟩, List.mem_of_getElem? (i := 36) (by decide +kernel), List.mem_of_getElem? (i := 1224) (by decide +kernel), List.mem_of_getElem? (i := 1225) (by decide +kernel)⟩
theorem lw_p22 : lw_okq (⟨"CaretlineModel", "passes", "()I"⟩, 30) := ⟨⟨by decide +kernel, by decide +kernel⟩, List.mem_of_getElem? (i := 1280) (by decide +kernel), List.mem_of_getElem? (i := 1381) (by decide +kernel), List.mem_of_getElem? (i := 1382) (by decide +kernel)⟩
theorem lw_p23 : lw_okq (⟨"CaretlineModel", "refuses", "(I)I"⟩, 30) := ⟨⟨by decide +kernel, by decide +kernel⟩, List.mem_of_getElem? (i := 1280) (by decide +kernel), List.mem_of_getElem? (i := 1385) (by decide +kernel), List.mem_of_getElem? (i := 1386) (by decide +kernel)⟩
theorem lw_p24 : lw_okq (⟨"CaretlineModel", "keeps", "()V"⟩, 30) := ⟨⟨by decide +kernel, by decide +kernel⟩, List.mem_of_getElem? (i := 1280) (by decide +kernel), List.mem_of_getElem? (i := 1389) (by decide +kernel), List.mem_of_getElem? (i := 1390) (by decide +kernel)⟩
theorem lw_p25 : lw_okq (⟨"CaretlineModel", "many", "()I"⟩, 30) := ⟨⟨by decide +kernel, by decide +kernel⟩, List.mem_of_getElem? (i := 1280) (by decide +kernel), List.mem_of_getElem? (i := 1393) (by decide +kernel), List.mem_of_getElem? (i := 1394) (by decide +kernel)⟩
theorem lw_p26 : lw_okq (⟨"CaretlineModel", "wordIn", "(I)I"⟩, 30) := ⟨⟨by decide +kernel, by decide +kernel⟩, List.mem_of_getElem? (i := 1280) (by decide +kernel), List.mem_of_getElem? (i := 1397) (by decide +kernel), List.mem_of_getElem? (i := 1398) (by decide +kernel)⟩
theorem lw_p27 : lw_okq (⟨"CaretlineModel", "goesOn", "()V"⟩, 30) := ⟨⟨by decide +kernel, by decide +kernel⟩, List.mem_of_getElem? (i := 1280) (by decide +kernel), List.mem_of_getElem? (i := 1401) (by decide +kernel), List.mem_of_getElem? (i := 1402) (by decide +kernel)⟩
theorem lw_p28 : lw_okq (⟨"CaretlineModel", "passesBack", "()I"⟩, 30) := ⟨⟨by decide +kernel, by decide +kernel⟩, List.mem_of_getElem? (i := 1280) (by decide +kernel), List.mem_of_getElem? (i := 1409) (by decide +kernel), List.mem_of_getElem? (i := 1410) (by decide +kernel)⟩
theorem lw_p29 : lw_okq (⟨"CaretlineModel", "goesBack", "()V"⟩, 30) := ⟨⟨by decide +kernel, by decide +kernel⟩, List.mem_of_getElem? (i := 1280) (by decide +kernel), List.mem_of_getElem? (i := 1413) (by decide +kernel), List.mem_of_getElem? (i := 1414) (by decide +kernel)⟩
theorem lw_p30 : lw_okq (⟨"CaretlineModel", "noWord", "(I)Z"⟩, 30) := ⟨⟨by decide +kernel, by decide +kernel⟩, List.mem_of_getElem? (i := 1280) (by decide +kernel), List.mem_of_getElem? (i := 1421) (by decide +kernel), List.mem_of_getElem? (i := 1422) (by decide +kernel)⟩
theorem lw_p31 : lw_okq (⟨"CaretlineModel", "fails", "(ZI)Z"⟩, 30) := ⟨⟨by decide +kernel, by decide +kernel⟩, List.mem_of_getElem? (i := 1280) (by decide +kernel), List.mem_of_getElem? (i := 1434) (by decide +kernel), List.mem_of_getElem? (i := 1435) (by decide +kernel)⟩
def lw_privs_2 : List (MethodName × Nat) := [(⟨"Caretline$Script", "close", "(I)I"⟩, 7), (⟨"Caretline$Script", "beginAct", "(II)I"⟩, 7), (⟨"Caretline", "perform", "(III)I"⟩, 8), (⟨"Caretline", "repeatUntilRefused", "(II)I"⟩, 8), (⟨"Caretline", "repeatTimes", "(II)I"⟩, 8), (⟨"Caretline", "attempt", "(II)I"⟩, 8), (⟨"CaretlineModel", "passes", "()I"⟩, 30), (⟨"CaretlineModel", "refuses", "(I)I"⟩, 30), (⟨"CaretlineModel", "keeps", "()V"⟩, 30), (⟨"CaretlineModel", "many", "()I"⟩, 30), (⟨"CaretlineModel", "wordIn", "(I)I"⟩, 30), (⟨"CaretlineModel", "goesOn", "()V"⟩, 30), (⟨"CaretlineModel", "passesBack", "()I"⟩, 30), (⟨"CaretlineModel", "goesBack", "()V"⟩, 30), (⟨"CaretlineModel", "noWord", "(I)Z"⟩, 30), (⟨"CaretlineModel", "fails", "(ZI)Z"⟩, 30)]
theorem lw_r2 : ∀ q ∈ lw_privs_2, lw_okq q := List.forall_mem_cons.mpr ⟨lw_p16, List.forall_mem_cons.mpr ⟨lw_p17, List.forall_mem_cons.mpr ⟨lw_p18, List.forall_mem_cons.mpr ⟨lw_p19, List.forall_mem_cons.mpr ⟨lw_p20, List.forall_mem_cons.mpr ⟨lw_p21, List.forall_mem_cons.mpr ⟨lw_p22, List.forall_mem_cons.mpr ⟨lw_p23, List.forall_mem_cons.mpr ⟨lw_p24, List.forall_mem_cons.mpr ⟨lw_p25, List.forall_mem_cons.mpr ⟨lw_p26, List.forall_mem_cons.mpr ⟨lw_p27, List.forall_mem_cons.mpr ⟨lw_p28, List.forall_mem_cons.mpr ⟨lw_p29, List.forall_mem_cons.mpr ⟨lw_p30, List.forall_mem_cons.mpr ⟨lw_p31, fun _ h => absurd h List.not_mem_nil⟩⟩⟩⟩⟩⟩⟩⟩⟩⟩⟩⟩⟩⟩⟩⟩
theorem lw_p32 : lw_okq (⟨"CaretlineModel", "adds", "(I)I"⟩, 30) := ⟨⟨by decide +kernel, by decide +kernel⟩, List.mem_of_getElem? (i := 1280) (by decide +kernel), List.mem_of_getElem? (i := 1438) (by decide +kernel), List.mem_of_getElem? (i := 1439) (by decide +kernel)⟩
theorem lw_p33 : lw_okq (⟨"CaretlineModel", "sets", "(I)I"⟩, 30) := ⟨⟨by decide +kernel, by decide +kernel⟩, List.mem_of_getElem? (i := 1280) (by decide +kernel), List.mem_of_getElem? (i := 1446) (by decide +kernel), List.mem_of_getElem? (i := 1447) (by decide +kernel)⟩
theorem lw_p34 : lw_okq (⟨"CaretlineModel", "givenNow", "()I"⟩, 30) := ⟨⟨by decide +kernel, by decide +kernel⟩, List.mem_of_getElem? (i := 1280) (by decide +kernel), List.mem_of_getElem? (i := 1450) (by decide +kernel), List.mem_of_getElem? (i := 1451) (by decide +kernel)⟩
theorem lw_p35 : lw_okq (⟨"CaretlineModel", "removes", "()I"⟩, 30) := ⟨⟨by decide +kernel, by decide +kernel⟩, List.mem_of_getElem? (i := 1280) (by decide +kernel), List.mem_of_getElem? (i := 1458) (by decide +kernel), List.mem_of_getElem? (i := 1459) (by decide +kernel)⟩
theorem lw_p36 : lw_okq (⟨"CaretlineModel", "moves", "(I)I"⟩, 30) := ⟨⟨by decide +kernel, by decide +kernel⟩, List.mem_of_getElem? (i := 1280) (by decide +kernel), List.mem_of_getElem? (i := 1466) (by decide +kernel), List.mem_of_getElem? (i := 1467) (by decide +kernel)⟩
theorem lw_p37 : lw_okq (⟨"CaretlineModel", "goesTo", "(I)V"⟩, 30) := ⟨⟨by decide +kernel, by decide +kernel⟩, List.mem_of_getElem? (i := 1280) (by decide +kernel), List.mem_of_getElem? (i := 1470) (by decide +kernel), List.mem_of_getElem? (i := 1471) (by decide +kernel)⟩
theorem lw_p38 : lw_okq (⟨"CaretlineModel", "finds", "(IZ)I"⟩, 30) := ⟨⟨by decide +kernel, by decide +kernel⟩, List.mem_of_getElem? (i := 1280) (by decide +kernel), List.mem_of_getElem? (i := 1478) (by decide +kernel), List.mem_of_getElem? (i := 1479) (by decide +kernel)⟩
theorem lw_p39 : lw_okq (⟨"CaretlineModel", "swaps", "()I"⟩, 30) := ⟨⟨by decide +kernel, by decide +kernel⟩, List.mem_of_getElem? (i := 1280) (by decide +kernel), List.mem_of_getElem? (i := 1486) (by decide +kernel), List.mem_of_getElem? (i := 1487) (by decide +kernel)⟩
theorem lw_p40 : lw_okq (⟨"CaretlineModel", "takesBytes", "(I)V"⟩, 30) := ⟨⟨by decide +kernel, by decide +kernel⟩, List.mem_of_getElem? (i := 1280) (by decide +kernel), List.mem_of_getElem? (i := 1505) (by decide +kernel), List.mem_of_getElem? (i := 1506) (by decide +kernel)⟩
theorem lw_p41 : lw_okq (⟨"CaretlineModel", "reads", "()V"⟩, 30) := ⟨⟨by decide +kernel, by decide +kernel⟩, List.mem_of_getElem? (i := 1280) (by decide +kernel), List.mem_of_getElem? (i := 1517) (by decide +kernel), List.mem_of_getElem? (i := 1518) (by decide +kernel)⟩
theorem lw_p42 : lw_okq (⟨"CaretlineModel", "readsWord", "()V"⟩, 30) := ⟨⟨by decide +kernel, by decide +kernel⟩, List.mem_of_getElem? (i := 1280) (by decide +kernel), List.mem_of_getElem? (i := 1527) (by decide +kernel), List.mem_of_getElem? (i := 1528) (by decide +kernel)⟩
theorem lw_p43 : lw_okq (⟨"CaretlineModel", "readsNumber", "()V"⟩, 30) := ⟨⟨by decide +kernel, by decide +kernel⟩, List.mem_of_getElem? (i := 1280) (by decide +kernel), List.mem_of_getElem? (i := 1534) (by decide +kernel), List.mem_of_getElem? (i := 1535) (by decide +kernel)⟩
theorem lw_p44 : lw_okq (⟨"CaretlineModel", "clears", "()V"⟩, 30) := ⟨⟨by decide +kernel, by decide +kernel⟩, List.mem_of_getElem? (i := 1280) (by decide +kernel), List.mem_of_getElem? (i := 1541) (by decide +kernel), List.mem_of_getElem? (i := 1542) (by decide +kernel)⟩
theorem lw_p45 : lw_okq (⟨"CaretlineModel", "readsAll", "()Z"⟩, 30) := ⟨⟨by decide +kernel, by decide +kernel⟩, List.mem_of_getElem? (i := 1280) (by decide +kernel), List.mem_of_getElem? (i := 1549) (by decide +kernel), List.mem_of_getElem? (i := 1550) (by decide +kernel)⟩
theorem lw_p46 : lw_okq (⟨"CaretlineModel", "isSignNow", "(I)Z"⟩, 30) := ⟨⟨by decide +kernel, by decide +kernel⟩, List.mem_of_getElem? (i := 1280) (by decide +kernel), List.mem_of_getElem? (i := 1553) (by decide +kernel), List.mem_of_getElem? (i := 1554) (by decide +kernel)⟩
theorem lw_p47 : lw_okq (⟨"CaretlineModel", "keepsItem", "(II)V"⟩, 30) := ⟨⟨by decide +kernel, by decide +kernel⟩, List.mem_of_getElem? (i := 1280) (by decide +kernel), List.mem_of_getElem? (i := 1557) (by decide +kernel), List.mem_of_getElem? (i := 1558) (by decide +kernel)⟩
def lw_privs_3 : List (MethodName × Nat) := [(⟨"CaretlineModel", "adds", "(I)I"⟩, 30), (⟨"CaretlineModel", "sets", "(I)I"⟩, 30), (⟨"CaretlineModel", "givenNow", "()I"⟩, 30), (⟨"CaretlineModel", "removes", "()I"⟩, 30), (⟨"CaretlineModel", "moves", "(I)I"⟩, 30), (⟨"CaretlineModel", "goesTo", "(I)V"⟩, 30), (⟨"CaretlineModel", "finds", "(IZ)I"⟩, 30), (⟨"CaretlineModel", "swaps", "()I"⟩, 30), (⟨"CaretlineModel", "takesBytes", "(I)V"⟩, 30), (⟨"CaretlineModel", "reads", "()V"⟩, 30), (⟨"CaretlineModel", "readsWord", "()V"⟩, 30), (⟨"CaretlineModel", "readsNumber", "()V"⟩, 30), (⟨"CaretlineModel", "clears", "()V"⟩, 30), (⟨"CaretlineModel", "readsAll", "()Z"⟩, 30), (⟨"CaretlineModel", "isSignNow", "(I)Z"⟩, 30), (⟨"CaretlineModel", "keepsItem", "(II)V"⟩, 30)]
theorem lw_r3 : ∀ q ∈ lw_privs_3, lw_okq q := List.forall_mem_cons.mpr ⟨lw_p32, List.forall_mem_cons.mpr ⟨lw_p33, List.forall_mem_cons.mpr ⟨lw_p34, List.forall_mem_cons.mpr ⟨lw_p35, List.forall_mem_cons.mpr ⟨lw_p36, List.forall_mem_cons.mpr ⟨lw_p37, List.forall_mem_cons.mpr ⟨lw_p38, List.forall_mem_cons.mpr ⟨lw_p39, List.forall_mem_cons.mpr ⟨lw_p40, List.forall_mem_cons.mpr ⟨lw_p41, List.forall_mem_cons.mpr ⟨lw_p42, List.forall_mem_cons.mpr ⟨lw_p43, List.forall_mem_cons.mpr ⟨lw_p44, List.forall_mem_cons.mpr ⟨lw_p45, List.forall_mem_cons.mpr ⟨lw_p46, List.forall_mem_cons.mpr ⟨lw_p47, fun _ h => absurd h List.not_mem_nil⟩⟩⟩⟩⟩⟩⟩⟩⟩⟩⟩⟩⟩⟩⟩⟩
theorem lw_p48 : lw_okq (⟨"CaretlineModel", "readsItem", "(I)Z"⟩, 30) := ⟨⟨by decide +kernel, by decide +kernel⟩, List.mem_of_getElem? (i := 1280) (by decide +kernel), List.mem_of_getElem? (i := 1561) (by decide +kernel), List.mem_of_getElem? (i := 1562) (by decide +kernel)⟩
theorem lw_p49 : lw_okq (⟨"CaretlineModel", "opens", "(II)Z"⟩, 30) := ⟨⟨by decide +kernel, by decide +kernel⟩, List.mem_of_getElem? (i := 1280) (by decide +kernel), List.mem_of_getElem? (i := 1565) (by decide +kernel), List.mem_of_getElem? (i := 1566) (by decide +kernel)⟩
theorem lw_p50 : lw_okq (⟨"CaretlineModel", "runs", "()I"⟩, 30) := ⟨⟨by decide +kernel, by decide +kernel⟩, List.mem_of_getElem? (i := 1280) (by decide +kernel), List.mem_of_getElem? (i := 1569) (by decide +kernel), List.mem_of_getElem? (i := 1570) (by decide +kernel)⟩
theorem lw_p51 : lw_okq (⟨"CaretlineModel", "does", "(II)I"⟩, 30) := ⟨⟨by decide +kernel, by decide +kernel⟩, List.mem_of_getElem? (i := 1280) (by decide +kernel), List.mem_of_getElem? (i := 1573) (by decide +kernel), List.mem_of_getElem? (i := 1574) (by decide +kernel)⟩
theorem lw_p52 : lw_okq (⟨"CaretlineModel", "writesWord", "(I)V"⟩, 30) := ⟨⟨by decide +kernel, by decide +kernel⟩, List.mem_of_getElem? (i := 1280) (by decide +kernel), List.mem_of_getElem? (i := 1653) (by decide +kernel), List.mem_of_getElem? (i := 1654) (by decide +kernel)⟩
theorem lw_p53 : lw_okq (⟨"CaretlineModel", "writes", "(I)V"⟩, 30) := ⟨⟨by decide +kernel, by decide +kernel⟩, List.mem_of_getElem? (i := 1280) (by decide +kernel), List.mem_of_getElem? (i := 1657) (by decide +kernel), List.mem_of_getElem? (i := 1658) (by decide +kernel)⟩
def lw_privs_4 : List (MethodName × Nat) := [(⟨"CaretlineModel", "readsItem", "(I)Z"⟩, 30), (⟨"CaretlineModel", "opens", "(II)Z"⟩, 30), (⟨"CaretlineModel", "runs", "()I"⟩, 30), (⟨"CaretlineModel", "does", "(II)I"⟩, 30), (⟨"CaretlineModel", "writesWord", "(I)V"⟩, 30), (⟨"CaretlineModel", "writes", "(I)V"⟩, 30)]
theorem lw_r4 : ∀ q ∈ lw_privs_4, lw_okq q := List.forall_mem_cons.mpr ⟨lw_p48, List.forall_mem_cons.mpr ⟨lw_p49, List.forall_mem_cons.mpr ⟨lw_p50, List.forall_mem_cons.mpr ⟨lw_p51, List.forall_mem_cons.mpr ⟨lw_p52, List.forall_mem_cons.mpr ⟨lw_p53, fun _ h => absurd h List.not_mem_nil⟩⟩⟩⟩⟩⟩
def lw_privs : List (MethodName × Nat) := lw_privs_1 ++ (lw_privs_2 ++ (lw_privs_3 ++ (lw_privs_4)))
def lw_tbl : List Cond := k2_sels lw_privs ++ tables_1
theorem lw_privs_ok : ∀ q ∈ lw_privs, lw_okq q := by
  show ∀ q ∈ lw_privs_1 ++ (lw_privs_2 ++ (lw_privs_3 ++ (lw_privs_4))), lw_okq q
  exact List.forall_mem_append.mpr ⟨lw_r1, List.forall_mem_append.mpr ⟨lw_r2, List.forall_mem_append.mpr ⟨lw_r3, lw_r4⟩⟩⟩
/-- the streams that the claim lets the run draw from -/
abbrev lw_cs : List Choice := [Jvm.Choice.named "NaN.bits"]
theorem lw_bits : nanBits ∈ lw_cs := by first | decide | exact List.mem_cons_self | simp [lw_cs, nanBits]
-- ===== end of PART A; then your names; then what follows =====
end
section
def va_AOA (t : FieldType) (U : State) : Prop := (Cond.arrayOver (.array t)).before #[] U = true
theorem va_AOA.of {t : FieldType} {A : Array Value} {U : State} (h : (Cond.arrayOver (.array t)).before A U = true) : va_AOA t U := h
theorem va_AOA.use {t : FieldType} {A : Array Value} {U : State} (h : va_AOA t U) : (Cond.arrayOver (.array t)).before A U = true := h
/-! ===== BEGIN words of one list among another's, by their places ===== -/
theorem goodIn_r {big : List Cond} (ws : List Cond) (ps : List Nat) (hp : ws = ps.filterMap (fun i => big[i]?)) (h : ws.all goodWord = true) : GoodIn big ws := by
  intro w hw
  have h1 := List.all_eq_true.mp h w hw
  rw [hp] at hw
  obtain ⟨i, -, hi⟩ := List.mem_filterMap.mp hw
  have hm : w ∈ big := by first | exact List.mem_of_getElem? hi | exact List.getElem?_mem hi
  exact ⟨hm, good_of_word h1⟩
theorem goodIn_app {big a b : List Cond} (ha : GoodIn big a) (hb : GoodIn big b) : GoodIn big (a ++ b) := fun w h => (List.mem_append.mp h).elim (ha w) (hb w)
theorem goodIn_ca {big a b : List Cond} {c : Cond} (ha : GoodIn big (c :: a)) (hb : GoodIn big b) : GoodIn big (c :: (a ++ b)) := fun w h => (List.mem_cons.mp h).elim (fun e => ha w (List.mem_cons.mpr (Or.inl e))) (fun h => (List.mem_append.mp h).elim (fun h => ha w (List.mem_cons.mpr (Or.inr h))) (hb w))
theorem goodIn_sub {big ws : List Cond} (hm : ∀ w ∈ ws, w ∈ big) (h : ws.all goodWord = true) : GoodIn big ws := fun w hw => ⟨hm w hw, good_of_word (List.all_eq_true.mp h w hw)⟩
/-! ===== END ===== -/

/-! ===== BEGIN new T[n][m]: the outer array a place, the inner ones among the pooled ===== -/
/-- f, but v at every address of l -/
def vr_up {α : Type} (f : Nat → α) (l : List Nat) (v : α) : Nat → α := fun a => if a ∈ l then v else f a
theorem vr_up_in {α : Type} {f : Nat → α} {l : List Nat} {v : α} {a : Nat} (h : a ∈ l) : vr_up f l v a = v := if_pos h
theorem vr_up_ne {α : Type} {f : Nat → α} {l : List Nat} {v : α} {a : Nat} (h : a ∉ l) : vr_up f l v a = f a := if_neg h
theorem vr_rows {L l : List Nat} {f : Nat → va_E} {e : va_E} (h : ∀ a, a ∈ l → a ∉ L) : va_pl L f ++ l.map (fun a => (a, e)) = va_pl (L ++ l) (vr_up f l e) := by
  unfold va_pl
  rw [List.map_append]
  congr 1
  · apply List.map_congr_left
    intro a ha
    rw [vr_up_ne (fun q => h a q ha)]
  · apply List.map_congr_left
    intro a ha
    rw [vr_up_in ha]
theorem vr_lay {X rows : va_W} {x : Nat × va_E} {pl : va_W} {D : va_G} {cl : List vw_C} {H : Heap} (hP : va_P D cl (((X ++ pl) ++ [x]) ++ rows) H) : va_P D cl ((X ++ [x]) ++ (pl ++ rows)) H := by
  rw [List.append_assoc (X ++ pl)] at hP
  have h := va_P.swap hP
  rw [← List.append_assoc X] at h
  have h2 := va_P.swap h
  rw [List.append_assoc (X ++ [x])] at h2
  exact h2
theorem vr_layD {X rows : va_W} {x : Nat × va_E} {pl : va_W} {A : Nat → Prop} (hD : va_D A (((X ++ pl) ++ [x]) ++ rows)) : va_D A ((X ++ [x]) ++ (pl ++ rows)) := by
  rw [List.append_assoc (X ++ pl)] at hD
  have h := va_D.swap hD
  rw [← List.append_assoc X] at h
  have h2 := va_D.swap h
  rw [List.append_assoc (X ++ [x])] at h2
  exact h2
theorem vr_outer (c : ClassId) (N h0 : Nat) : ∀ i : Nat, Jvm.Free.Multi.outerC c N h0 i = arrV c N (fun j => va_rf (if j < i then some (h0 + 1 + j) else none))
  | 0 => by
    show ({ cls := c, slots := Array.replicate N .null, vm := .none } : Cell) = _
    rw [arrV_new]
    refine congrArg (arrV c N) (funext fun j => ?_)
    simp [va_rf]
  | i + 1 => by
    show (Jvm.Free.Multi.outerC c N h0 i).setSlot i (.ref (h0 + 1 + i)) = _
    rw [vr_outer c N h0 i, arrV_store]
    refine congrArg (arrV c N) (funext fun j => ?_)
    by_cases e : j = i
    · subst e
      simp [updV, va_rf]
    · by_cases h : j < i
      · simp [updV, e, h, Nat.lt_succ_of_lt h]
      · simp [updV, e, h, show ¬ j < i + 1 by omega]
section VGM
variable {p : Program} {l : Launch} {e : Env} {R : Room} {s : State} {m : MethodId} {args : Array Value} {below : List Frame} {meth : Method} {c : Code} {H : Heap} {locs : List Loc} {cells slots : Nat} {Q : State → Prop}
variable {cc : ByteArray} {pc : Nat} {ls : Array Slot} {rest : List Value} {D : va_G} {cl : List vw_C} {A : Nat → Prop} {a : Nat} {tys : List (ClassId × FieldType)} {ws : va_W} {H0 : Heap}
theorem va_mna {X : va_W} {L : List Nat} {f : Nat → va_E} {cc : ByteArray} (hexec : p.tables.exec = Jvm.exec) (hb : c.code = cc) {own : String} {index : Nat} {ty : FieldType} {cy : ClassId} (hown : s.vm.findClass own = some m.cls) (hclink : (Cond.classLink own index ("[" ++ (FieldType.array ty).toString)).before args s = true) (hover : va_AOA ty s) (harr : (Cond.arrayClass ty).before args s = true) (hcy : s.vm.findClass (FieldType.array ty).toString = some cy)
    (hK : va_K D cl tys s) (hP : va_P D cl (X ++ va_pl L f) H) (hD : va_D A (X ++ va_pl L f)) (hS : va_S A H0 H locs) (hA : ∀ q, H0.size ≤ q → A q) {n k : Int32} {N' K' : Nat} {z : vp_A} (hn : ¬ n < 0) (hk : ¬ k < 0) (hN : n.toNatClampNeg = N') (hM : k.toNatClampNeg = K')
    (hb1 : N' * 4 ≤ 536870912) (hb2 : K' * componentBytes ty ≤ 536870912) (hb3 : K' ≤ 536870912) (hdf : fits ty (defaultValue ty) = true) (hdd : (defaultValue ty).isDefault = true) (hcells : cells + (1 + N') ≤ R.cells) (hslots : slots + (N' + N' * K') ≤ R.slots) (hz : ∀ c : ClassId, Jvm.Free.Multi.innerC c K' (defaultValue ty) = vp_cell c z) (hdg : decode cc pc = .ok (.multianewarray index 2, 4))
    (kk : ∀ (q : Nat) (r : Nat → Nat) (cA : ClassId) (H1 : Heap), (∀ i j : Nat, i < N' → j < N' → r i = r j → i = j) → (∀ i : Nat, i < N' → r i ∉ L) → va_K D cl (tys ++ [(cA, .array ty)]) s →
      va_P D cl ((X ++ [(q, .inl (cA, N', .inr (.inr (.inr (.inr (fun i => if i < N' then some (r i) else none))))))]) ++ va_pl (L ++ (List.range N').map r) (vr_up f ((List.range N').map r) (.inl (cy, z)))) H1 → va_D A ((X ++ [(q, .inl (cA, N', .inr (.inr (.inr (.inr (fun i => if i < N' then some (r i) else none))))))]) ++ va_pl (L ++ (List.range N').map r) (vr_up f ((List.range N').map r) (.inl (cy, z)))) → va_S A H0 H1 locs →
      W p l e R s m args below meth c H1 locs (cells + 1 + N') (slots + N' + N' * K') Q (F0 m (pc + 4) ls (.ref q :: rest))) : W p l e R s m args below meth c H locs cells slots Q (F0 m pc ls (.int k :: .int n :: rest)) := by
  subst hN
  subst hM
  intro T hT Xs
  obtain ⟨vm₁, cA, comp, -, fA, fC, hO, -, X', step⟩ := Xs.multianewarray2F hexec hown hclink (va_AOA.use hover) harr (g := F0 m pc ls (.int k :: .int n :: rest)) rfl (by rw [hb]; exact hdg) rfl hn hk hb1 hb2 hb3 hdf hdd hcells hslots
  have ec : some cy = some comp := hcy.symm.trans fC
  cases ec
  generalize hF : Jvm.Free.Multi.fill (T.setVm vm₁) cA cy n.toNatClampNeg k.toNatClampNeg (defaultValue ty) n.toNatClampNeg = F at X' step
  have hTh : (T.setVm vm₁).heap = H := hT
  obtain ⟨f1, f2, -, -⟩ := Jvm.Free.Multi.fill_facts (T.setVm vm₁) cA cy n.toNatClampNeg k.toNatClampNeg (defaultValue ty) n.toNatClampNeg
  rw [hF, hTh] at f1 f2
  have hold : ∀ x : Nat, x < H.size → F.heap[x]? = H[x]? := fun x hx => by
    have := Jvm.Free.Multi.fill_old (T.setVm vm₁) cA cy n.toNatClampNeg k.toNatClampNeg (defaultValue ty) (a := x) (by rw [hTh]; exact hx) n.toNatClampNeg
    rw [hF, hTh] at this
    exact this
  have hrow : ∀ j : Nat, j < n.toNatClampNeg → F.heap[H.size + 1 + j]? = some (vp_cell cy z) := fun j hj => by
    have := Jvm.Free.Multi.fill_inner (T.setVm vm₁) cA cy n.toNatClampNeg k.toNatClampNeg (defaultValue ty) n.toNatClampNeg j hj
    rw [hF, hTh, hz] at this
    exact this
  have hout : Jvm.Free.Multi.outerC cA n.toNatClampNeg H.size n.toNatClampNeg = vp_cell cA (n.toNatClampNeg, .inr (.inr (.inr (.inr (fun i => if i < n.toNatClampNeg then some (H.size + 1 + i) else none))))) := by
    rw [vp_cell_q]
    exact vr_outer cA n.toNatClampNeg H.size n.toNatClampNeg
  rw [hout] at f2
  have hlt : ∀ a, a ∈ L → a < H.size := fun a ha => by
    obtain ⟨k9, hk9⟩ := va_pl_get (X := X) (f := f) ha
    exact (hP k9 _ hk9).lt
  have hnl : ∀ i : Nat, i < n.toNatClampNeg → H.size + 1 + i ∉ L := fun i _ h => by
    have := hlt _ h
    omega
  have hnm : ∀ a, a ∈ (List.range n.toNatClampNeg).map (fun i => H.size + 1 + i) → a ∉ L := fun a ha h => by
    obtain ⟨i, -, rfl⟩ := List.mem_map.mp ha
    have := hlt _ h
    omega
  have hP0 : va_P D cl (X ++ va_pl L f) F.heap := hP.kept (fun k9 x hx => hold x.1 ((hP k9 x hx).lt))
  have hP1 : va_P D cl ((X ++ va_pl L f) ++ [(H.size, .inl (cA, n.toNatClampNeg, .inr (.inr (.inr (.inr (fun i => if i < n.toNatClampNeg then some (H.size + 1 + i) else none))))))]) F.heap := hP0.app (fun k9 x hx => by
    have h0 : k9 < 1 := (List.getElem?_eq_some_iff.mp hx).1
    rw [show k9 = 0 by omega] at hx
    cases hx
    exact f2)
  have hP2 : va_P D cl (((X ++ va_pl L f) ++ [(H.size, .inl (cA, n.toNatClampNeg, .inr (.inr (.inr (.inr (fun i => if i < n.toNatClampNeg then some (H.size + 1 + i) else none))))))]) ++ ((List.range n.toNatClampNeg).map (fun i => H.size + 1 + i)).map (fun a => (a, .inl (cy, z)))) F.heap := hP1.app (fun k9 x hx => by
    obtain ⟨a, ha, rfl⟩ := List.mem_map.mp (List.mem_of_getElem? hx)
    obtain ⟨i, hi, rfl⟩ := List.mem_map.mp ha
    exact hrow i (List.mem_range.mp hi))
  have hD2 : va_D A (((X ++ va_pl L f) ++ [(H.size, .inl (cA, n.toNatClampNeg, .inr (.inr (.inr (.inr (fun i => if i < n.toNatClampNeg then some (H.size + 1 + i) else none))))))]) ++ ((List.range n.toNatClampNeg).map (fun i => H.size + 1 + i)).map (fun a => (a, .inl (cy, z)))) := by
    have hD1 := hD.push (e := .inl (cA, n.toNatClampNeg, .inr (.inr (.inr (.inr (fun i => if i < n.toNatClampNeg then some (H.size + 1 + i) else none)))))) hP rfl (hA _ hS.1)
    generalize hW1 : (X ++ va_pl L f) ++ [(H.size, .inl (cA, n.toNatClampNeg, .inr (.inr (.inr (.inr (fun i => if i < n.toNatClampNeg then some (H.size + 1 + i) else none))))))] = W1 at hD1 hP1 ⊢
    have hle : ∀ (k9 : Nat) (x : Nat × va_E), W1[k9]? = some x → x.1 ≤ H.size := fun k9 x hx => by
      rw [← hW1] at hx
      by_cases hl : k9 < (X ++ va_pl L f).length
      · rw [List.getElem?_append_left hl] at hx
        exact Nat.le_of_lt ((hP k9 x hx).lt)
      · rw [List.getElem?_append_right (by omega)] at hx
        have h0 : k9 - (X ++ va_pl L f).length < 1 := (List.getElem?_eq_some_iff.mp hx).1
        rw [show k9 - (X ++ va_pl L f).length = 0 by omega] at hx
        cases hx
        exact Nat.le_refl _
    have hr : ∀ (k9 : Nat) (x : Nat × va_E), (((List.range n.toNatClampNeg).map (fun i => H.size + 1 + i)).map (fun a => ((a, .inl (cy, z)) : Nat × va_E)))[k9]? = some x → x.1 = H.size + 1 + k9 := fun k9 x hx => by
      rw [List.getElem?_map, List.getElem?_map] at hx
      by_cases h9 : k9 < n.toNatClampNeg
      · rw [List.getElem?_range h9] at hx
        cases hx
        rfl
      · have hn0 : (List.range n.toNatClampNeg)[k9]? = none := List.getElem?_eq_none (by rw [List.length_range]; omega)
        rw [hn0] at hx
        cases hx
    refine ⟨fun i j x y hi hj hxy => ?_, fun k9 x hx => ?_⟩
    · by_cases h1 : i < W1.length <;> by_cases h2 : j < W1.length
      · rw [List.getElem?_append_left h1] at hi
        rw [List.getElem?_append_left h2] at hj
        exact hD1.1 i j x y hi hj hxy
      · rw [List.getElem?_append_left h1] at hi
        rw [List.getElem?_append_right (by omega)] at hj
        have := hle _ _ hi
        have := hr _ _ hj
        omega
      · rw [List.getElem?_append_right (by omega)] at hi
        rw [List.getElem?_append_left h2] at hj
        have := hle _ _ hj
        have := hr _ _ hi
        omega
      · rw [List.getElem?_append_right (by omega)] at hi hj
        have := hr _ _ hi
        have := hr _ _ hj
        omega
    · by_cases h1 : k9 < W1.length
      · rw [List.getElem?_append_left h1] at hx
        exact hD1.2 k9 x hx
      · rw [List.getElem?_append_right (by omega)] at hx
        have := hr _ _ hx
        exact hA _ (by have := hS.1; omega)
  have hAr : ArrOfT s cA (.array ty) := fun N9 z9 => by
    obtain ⟨-, k9, hk9, cm9, hkk9⟩ := (hO 0 0 0).1
    exact ⟨(fun q hq => by cases hq), k9, hk9, cm9, hkk9⟩
  have hK2 : va_K D cl (tys ++ [(cA, .array ty)]) s := ⟨hK.1, fun k9 x hx => by
    by_cases hl : k9 < tys.length
    · rw [List.getElem?_append_left hl] at hx
      exact hK.2 k9 x hx
    · rw [List.getElem?_append_right (by omega)] at hx
      have h0 : k9 - tys.length < 1 := (List.getElem?_eq_some_iff.mp hx).1
      rw [show k9 - tys.length = 0 by omega] at hx
      cases hx
      exact ⟨hAr, fA⟩⟩
  obtain ⟨t, a1, b1⟩ := kk H.size (fun i => H.size + 1 + i) cA F.heap (fun i j _ _ h => by have h9 : H.size + 1 + i = H.size + 1 + j := h; omega) hnl hK2 (by rw [← vr_rows hnm]; exact vr_lay hP2) (by rw [← vr_rows hnm]; exact vr_layD hD2) ⟨by rw [f1]; have := hS.1; omega, fun x h1 h2 => (hold x (Nat.lt_of_lt_of_le h1 hS.1)).trans (hS.2.1 x h1 h2), hS.2.2⟩ F rfl X'
  refine ⟨t, step t ?_, b1⟩
  have e : T.heap.size = H.size := by rw [hT]
  rw [e]
  exact a1
end VGM
/-! ===== END ===== -/

/-! ===== BEGIN exceptions that leave a method, and their catching by the caller (launches without stack traces) ===== -/
section VXA
/-! The laws vx_back, vx_callV, vx_callS, vx_callSW, vx_throw0, vx_throwS follow proofs of the library, with one case more: JvmDerived/Free/Laws.lean (Back.of_free), Shelf42/LK1.lean (callV, callS), Shelf/KitTraced.lean (throwNew0V, throwNewS). -/
/-- where a method has thrown q: the class by its name, the cell, what was written, the world -/
def vx_T (XC : String → State → State → Prop) (st : State) (q : Addr) (t : State) (mc ms : Nat) (free : Addr → Prop) : Prop :=
  ∃ (E : String) (ce : Cell) (L : List Loc), XC E st t ∧ t.heap[q]? = some ce ∧ ce.vm = .none ∧ st.vm.findClass E = some ce.cls ∧ st.WarmedH t.vm ∧ st.sameButNew ({ t with vm := st.vm } : State) L mc ms ∧ ∀ z ∈ L, free z.base
def vx_Q (Qc : Array Value → State → Outcome → State → Prop) (XC : String → State → State → Prop) (mc ms : Nat) (free : Addr → Prop) : Array Value → State → Outcome → State → Prop := fun a st o t =>
  (Qc a st o t ∧ ∃ L, FrameEnd st o t L mc ms ∧ ∀ q ∈ L, free q.base) ∨ ∃ q, o = .threw q ∧ vx_T XC st q t mc ms free
/-- a callee that returns or throws -/
def vx_Met (l : Launch) (y : MethodName) (ws : List Cond) (rm : Room) (Pc : Array Value → State → Prop) (Qc : Array Value → State → Outcome → State → Prop) (XC : String → State → State → Prop) (mc ms : Nat) (free : Addr → Prop) : Prop :=
  MetFree l y (headSpec ws rm) Pc (fun _ _ _ _ _ => True) (vx_Q Qc XC mc ms free)
def vx_Post (XC : String → State → State → Prop) (mc ms : Nat) (free : Addr → Prop) : Pt → Array Value → Addr → Pt → Prop := fun A a q B =>
  ∃ (g : JFrame) (mk : MethodId) (t : State) (L : List Loc) (E : String) (ce : Cell), B.U.heap = t.heap ∧ B.U.vm = t.vm ∧ XC E (A.U.calling g mk a) t ∧ t.heap[q]? = some ce ∧ ce.vm = .none ∧ A.U.vm.findClass E = some ce.cls ∧ B.locs = A.locs ++ L ∧ (∀ z ∈ L, free z.base) ∧ B.cells = A.cells + mc ∧ B.slots = A.slots + ms
def vx_Back (l : Launch) (R : Room) (p : Program) (e : Env) (below : List Frame) (s : State) (sargs : Array Value) (y : MethodName) (len W9 : Nat)
    (Pre : Pt → Array Value → Prop) (Post : Pt → Array Value → Option Value → Pt → Prop) (PostX : Pt → Array Value → Addr → Pt → Prop) : Prop :=
  ∀ (m : MethodId) (meth : Method) (c : Code) (A : Pt) (g : JFrame) (ig : Instr) (mk : MethodId) (a : Array Value),
    Stand p l e R s m sargs below meth c A.U A.locs A.cells A.slots → g.method = m → g.locals.size = c.maxLocals → decode c.code g.pc = .ok (ig, len) →
    2 * g.monitorRoom + (g.stack.map fun v => v.category).sum ≤ W9 → A.U.methodNamed? y = some mk → Pre A a →
    (∃ (v : Option Value) (B : Pt), Stand p l e R s m sargs below meth c B.U B.locs B.cells B.slots ∧ Post A a v B ∧
      Steps p.tables e below (doInvoke e (A.U.setTop g) [] mk a).1 (B.U.setTop { g with pc := g.pc + len, stack := v.toList ++ g.stack })) ∨
    (∃ (q : Addr) (B : Pt), Stand p l e R s m sargs below meth c B.U B.locs B.cells B.slots ∧ PostX A a q B ∧
      Steps p.tables e below (doInvoke e (A.U.setTop g) [] mk a).1 ((B.U.setTop g).pushFrame (.throwing q)))
section Payer
variable {l : Launch} {R : Room} {p : Program} {e : Env} {below : List Frame} {s : State} {sargs : Array Value} {y : MethodName} {len W9 : Nat}
theorem vx_back {ws : List Cond} {rm : Room} {Pc : Array Value → State → Prop} {Qc : Array Value → State → Outcome → State → Prop} {XC : String → State → State → Prop} {mc ms : Nat} {free : Addr → Prop} {bytes : ByteArray} {maxL : Nat} {ret : Option FieldType}
    (hM : vx_Met l y ws rm Pc Qc XC mc ms free) (hblind : FrameBlind Pc) (hrc : rm.cells = mc) (hrs : rm.slots = ms)
    (hframes : rm.frames + 1 ≤ R.frames) (hlocals : W9 + (maxL + 11) + rm.locals ≤ R.locals)
    (hws : ∀ w ∈ ws, ∀ a' U, s.WarmedH U.vm → w.before a' U = true) (hcode : Cond.code y bytes maxL ret ∈ ws) (hinit : ∀ a' U, s.WarmedH U.vm → (Cond.initialized y.cls).before a' U = true) :
    vx_Back l R p e below s sargs y len W9 (PreOf R mc ms Pc) (PostOf Qc mc ms free) (vx_Post XC mc ms free) := by
  intro m meth c A g ig mk a X hg hsize hdg hW hn hp
  have h1 : (headSpec ws rm).pre.before a A.U = true := atoms_intro fun w hw => hws w hw _ _ X.warmed
  have h2 : (Cond.code y bytes maxL ret).before a A.U = true := hws _ hcode _ _ X.warmed
  have h3 : (Cond.initialized y.cls).before a A.U = true := hinit _ _ X.warmed
  have h4 : A.cells + (headSpec ws rm).room.cells ≤ R.cells := by rw [show (headSpec ws rm).room.cells = mc from hrc]; exact hp.1
  have h5 : A.slots + (headSpec ws rm).room.slots ≤ R.slots := by rw [show (headSpec ws rm).room.slots = ms from hrs]; exact hp.2.1
  have hPc : Pc a (A.U.calling g mk a) := hblind _ _ _ _ hp.2.2
  obtain ⟨U, Ls, c0, s0⟩ := A
  dsimp only [Pt.U, Pt.locs, Pt.cells, Pt.slots] at h1 h2 h3 h4 h5 X hn hPc ⊢
  obtain ⟨methY, cY, hmY, hcY, -, hlY, -, -, -, -⟩ := Cond.code_spec hn h2
  obtain ⟨kY, hkY, -⟩ := className_of_methodNamed hn
  have hinitY : kY.init = .initialized := Cond.initialized_spec (findClass_of_methodNamed hn) hkY h3
  have h : At U g.method c below := by rw [hg]; exact X.here
  have hlocals9 : W9 + (maxL + 11) + (headSpec ws rm).room.locals ≤ R.locals := hlocals
  have happ : (headSpec ws rm).appliesLoose y e.platform (U.calling g mk a) = true :=
    Spec.appliesLoose_calling (g := g) h hdg hn hkY hinitY
      (X.room_calling (g := g) (R' := (headSpec ws rm).room) hsize hmY hcY hframes (by rw [hlY]; omega) h4 h5) h1
  obtain ⟨mid, hmid⟩ := h.above
  have hfr : (U.setTop g).frames = (.java g :: mid) ++ below := by rw [State.frames_setTop' g h.top, hmid]; rfl
  obtain ⟨o, s₂, hsteps, -, hend, hq⟩ := Steps.callFree hM p X.admits X.cas X.clock (acts := []) hfr happ hPc trivial
  have hq' : vx_Q Qc XC mc ms free a (U.calling g mk a) o s₂ := hq
  rw [State.frames_setTop' g h.top] at hend
  obtain ⟨g₀, hg0⟩ := Option.isSome_iff_exists.mp h.top
  obtain ⟨r, hr⟩ := State.topJava?_eq_some.mp hg0
  have hr' : (({ U with heap := s₂.heap, slotsUsed := s₂.slotsUsed } : State).setVm s₂.vm).frames = .java g₀ :: r := hr
  rcases hq' with ⟨hqc, L, hfe, hL⟩ | ⟨q, rfl, E, ce, L, hx, hce, hcv, hcl, hW₂, hsm, hL⟩
  · obtain ⟨⟨v, rfl⟩, hW₂, e2, q2, q3, q4, q5, q6⟩ := id hfe
    have e3 : s₂ = ({ (U.calling g mk a).setFrames s₂.frames with heap := s₂.heap, slotsUsed := s₂.slotsUsed } : State).setVm s₂.vm := by
      have : s₂ = ({ s₂ with vm := (U.calling g mk a).vm } : State).setVm s₂.vm := rfl
      rw [e2] at this
      exact this
    obtain ⟨c₂, i₂, len₂, hc₂, hd₂, hf₂⟩ := hend
    have hW' : U.WarmedH s₂.vm := hW₂
    have hcc : c₂ = c := by
      have h1 : s₂.code? g.method = U.code? g.method := by
        rw [State.code?_eq, State.code?_eq, hW'.alike.method?]
      exact Option.some.inj (hc₂.symm.trans (h1.trans h.code))
    subst hcc
    have hlen : len₂ = len := by rw [hdg] at hd₂; cases hd₂; rfl
    subst hlen
    have hs₂ : s₂ = (({ U with heap := s₂.heap, slotsUsed := s₂.slotsUsed } : State).setVm s₂.vm).setTop { g with pc := g.pc + len₂, stack := v.toList ++ g.stack } := by
      refine e3.trans ?_
      rw [hf₂, State.calling_eq h.top, State.setFrames_setFrames, State.setTop_of_frames _ hr', hr]
      rfl
    have hsame : U.sameButNew ({ U with heap := s₂.heap, slotsUsed := s₂.slotsUsed } : State) L mc ms := by
      refine ⟨?_, q2, q3, q4, q5, q6⟩
      obtain ⟨t, ht, -⟩ := State.frames_cons hr
      show ({ U with heap := s₂.heap, slotsUsed := s₂.slotsUsed } : State) = { U.setFrames U.frames with heap := s₂.heap, slotsUsed := s₂.slotsUsed }
      rw [State.setFrames_self ht]
    subst hg
    refine Or.inl ⟨v, ⟨(({ U with heap := s₂.heap, slotsUsed := s₂.slotsUsed } : State).setVm s₂.vm), Ls ++ L, c0 + mc, s0 + ms⟩,
      ⟨X.admits, X.cas, X.clock, X.frames, X.room, X.hears, X.method, X.code, (X.here.setHeapUsed s₂.heap s₂.slotsUsed).setVm hW'.alike, X.tail, State.WarmedH.trans X.warmed hW', X.limits, X.bytes, X.same.trans (hsame.setVm s.vm)⟩,
      ⟨g, mk, s₂, L, rfl, rfl, hqc, rfl, hL, rfl, rfl⟩, ?_⟩
    show Steps p.tables e below _ ((({ U with heap := s₂.heap, slotsUsed := s₂.slotsUsed } : State).setVm s₂.vm).setTop { g with pc := g.pc + len₂, stack := v.toList ++ g.stack })
    rw [← hs₂]
    exact hsteps
  · obtain ⟨e2, q2, q3, q4, q5, q6⟩ := id hsm
    have e3 : s₂ = ({ (U.calling g mk a).setFrames s₂.frames with heap := s₂.heap, slotsUsed := s₂.slotsUsed } : State).setVm s₂.vm := by
      have : s₂ = ({ s₂ with vm := (U.calling g mk a).vm } : State).setVm s₂.vm := rfl
      rw [e2] at this
      exact this
    have hf₂ : s₂.frames = .throwing q :: .java g :: U.frames.tail := hend
    have hW' : U.WarmedH s₂.vm := hW₂
    have hs₂ : s₂ = ((({ U with heap := s₂.heap, slotsUsed := s₂.slotsUsed } : State).setVm s₂.vm).setTop g).pushFrame (.throwing q) := by
      refine e3.trans ?_
      rw [hf₂, State.calling_eq h.top, State.setFrames_setFrames, State.pushFrame, State.frames_setTop _ hr', State.setTop_of_frames _ hr', State.setFrames_setFrames, hr]
      rfl
    have hsame : U.sameButNew ({ U with heap := s₂.heap, slotsUsed := s₂.slotsUsed } : State) L mc ms := by
      refine ⟨?_, q2, q3, q4, q5, q6⟩
      obtain ⟨t, ht, -⟩ := State.frames_cons hr
      show ({ U with heap := s₂.heap, slotsUsed := s₂.slotsUsed } : State) = { U.setFrames U.frames with heap := s₂.heap, slotsUsed := s₂.slotsUsed }
      rw [State.setFrames_self ht]
    subst hg
    refine Or.inr ⟨q, ⟨(({ U with heap := s₂.heap, slotsUsed := s₂.slotsUsed } : State).setVm s₂.vm), Ls ++ L, c0 + mc, s0 + ms⟩,
      ⟨X.admits, X.cas, X.clock, X.frames, X.room, X.hears, X.method, X.code, (X.here.setHeapUsed s₂.heap s₂.slotsUsed).setVm hW'.alike, X.tail, State.WarmedH.trans X.warmed hW', X.limits, X.bytes, X.same.trans (hsame.setVm s.vm)⟩,
      ⟨g, mk, s₂, L, E, ce, rfl, rfl, hx, hce, hcv, hcl, rfl, hL, rfl, rfl⟩, ?_⟩
    show Steps p.tables e below _ (((({ U with heap := s₂.heap, slotsUsed := s₂.slotsUsed } : State).setVm s₂.vm).setTop g).pushFrame (.throwing q))
    rw [← hs₂]
    exact hsteps
end Payer
section Calls
variable {p : Program} {l : Launch} {e : Env} {R : Room} {s : State} {m : MethodId} {args : Array Value} {below : List Frame} {meth : Method} {c : Code} {T : State} {locs : List Loc} {cells slots : Nat}
theorem vx_callV (X : Stand p l e R s m args below meth c T locs cells slots) (hexec : p.tables.exec = Jvm.exec) {own C : String} {index : Nat} {y : MethodName} {bytes : ByteArray} {maxL : Nat} {ret : Option FieldType}
    (hown : s.vm.findClass own = some m.cls) (hlink : (Cond.methodLink own index y).before args s = true) (hinst : (Cond.instanceMethod y).before args s = true) (hsel : (Cond.selects C y y).before args s = true)
    (hcode : (Cond.code y bytes maxL ret).before args s = true) (hy : y.cls ≠ "java/lang/invoke/MethodHandle" ∧ y.cls ≠ "java/lang/invoke/VarHandle")
    {W9 : Nat} {Pre : Pt → Array Value → Prop} {Post : Pt → Array Value → Option Value → Pt → Prop} {PostX : Pt → Array Value → Addr → Pt → Prop} (hK : vx_Back l R p e below s args y 3 W9 Pre Post PostX)
    {b : Addr} {cellB : Cell} (hcell : T.heap[b]? = some cellB) (hobj : cellB.vm.isStatics = false) (hcls : s.vm.findClass C = some cellB.cls)
    {g : JFrame} (hg : g.method = m) (hsize : g.locals.size = c.maxLocals) {argsL rest : List Value} (hlen : ∀ sig, parseMethodDescriptor y.desc = some sig → argsL.length = sig.parameters.length)
    (hstack : g.stack = argsL.reverse ++ .ref b :: rest) (hW : 2 * g.monitorRoom + (rest.map fun v => v.category).sum ≤ W9) (hdg : decode c.code g.pc = .ok (.invokevirtual index, 3))
    (hpre : ∀ vm₁, s.WarmedH vm₁ → Pre ⟨T.setVm vm₁, locs, cells, slots⟩ (Value.ref b :: argsL).toArray) :
    (∃ (v : Option Value) (vm₁ : Vm) (B : Pt), s.WarmedH vm₁ ∧ Stand p l e R s m args below meth c B.U B.locs B.cells B.slots ∧ Post ⟨T.setVm vm₁, locs, cells, slots⟩ (Value.ref b :: argsL).toArray v B ∧
      ∀ target, Steps p.tables e below (B.U.setTop { g with pc := g.pc + 3, stack := v.toList ++ rest }) target → Steps p.tables e below (T.setTop g) target) ∨
    (∃ (q : Addr) (vm₁ : Vm) (B : Pt), s.WarmedH vm₁ ∧ Stand p l e R s m args below meth c B.U B.locs B.cells B.slots ∧ PostX ⟨T.setVm vm₁, locs, cells, slots⟩ (Value.ref b :: argsL).toArray q B ∧
      Steps p.tables e below (T.setTop g) ((B.U.setTop { g with stack := rest }).pushFrame (.throwing q))) := by
  obtain ⟨mk, methM, hnamed, hmethM, hstM, habM⟩ := Cond.instanceMethod_spec hinst
  obtain ⟨methM', cM, hmethM', -, -, -, -, -, -, hsigM⟩ := Cond.code_spec hnamed hcode
  cases hmethM.symm.trans hmethM'
  obtain ⟨c2, r2, m2, q1, q2, q3, q4, kP, hkP, hkPi⟩ := Cond.selects_spec hsel
  cases hcls.symm.trans q1
  cases (State.methodFound?_of_named hnamed hy).symm.trans q2
  cases hnamed.symm.trans q3
  have hselP : selectMethod e.platform s.vm cellB.cls mk = .method mk := by rw [Launch.admits_selectMethod X.admits]; exact q4
  obtain ⟨vm₁, X₁, hstep₁⟩ := X.invokevirtual hexec hown hlink hnamed hmethM hstM hkP hkPi hy (a := b) (cell := cellB) hcell
    (fun z h => by rw [h] at hobj; cases hobj) hselP hmethM habM hkP hkPi (g := g) hg (argsL := argsL) (rest := rest) (hlen _ hsigM) hstack hdg
  rcases hK m meth c ⟨T.setVm vm₁, locs, cells, slots⟩ { g with stack := rest } (.invokevirtual index) mk (Value.ref b :: argsL).toArray X₁ hg hsize hdg hW (X₁.named hnamed) (hpre vm₁ X₁.warmed) with ⟨v, B, X', hpost, hsteps⟩ | ⟨q, B, X', hpost, hsteps⟩
  · exact Or.inl ⟨v, vm₁, B, X₁.warmed, X', hpost, fun target h => hstep₁ _ fun acts => by rw [doInvoke_state]; exact hsteps.trans h⟩
  · exact Or.inr ⟨q, vm₁, B, X₁.warmed, X', hpost, hstep₁ _ fun acts => by rw [doInvoke_state]; exact hsteps⟩
theorem vx_callS (X : Stand p l e R s m args below meth c T locs cells slots) (hexec : p.tables.exec = Jvm.exec) {own : String} {index : Nat} {y : MethodName} {bytes : ByteArray} {maxL : Nat} {ret : Option FieldType}
    (hown : s.vm.findClass own = some m.cls) (hlink : (Cond.methodLink own index y).before args s = true) (hstat : (Cond.static y).before args s = true) (hinit : (Cond.initialized y.cls).before args s = true)
    (hcode : (Cond.code y bytes maxL ret).before args s = true) (hy : y.cls ≠ "java/lang/invoke/MethodHandle" ∧ y.cls ≠ "java/lang/invoke/VarHandle")
    {W9 : Nat} {Pre : Pt → Array Value → Prop} {Post : Pt → Array Value → Option Value → Pt → Prop} {PostX : Pt → Array Value → Addr → Pt → Prop} (hK : vx_Back l R p e below s args y 3 W9 Pre Post PostX)
    {g : JFrame} (hg : g.method = m) (hsize : g.locals.size = c.maxLocals) {argsL rest : List Value} (hlen : ∀ sig, parseMethodDescriptor y.desc = some sig → argsL.length = sig.parameters.length)
    (hstack : g.stack = argsL.reverse ++ rest) (hW : 2 * g.monitorRoom + (rest.map fun v => v.category).sum ≤ W9) (hdg : decode c.code g.pc = .ok (.invokestatic index, 3))
    (hpre : ∀ vm₁, s.WarmedH vm₁ → Pre ⟨T.setVm vm₁, locs, cells, slots⟩ argsL.toArray) :
    (∃ (v : Option Value) (vm₁ : Vm) (B : Pt), s.WarmedH vm₁ ∧ Stand p l e R s m args below meth c B.U B.locs B.cells B.slots ∧ Post ⟨T.setVm vm₁, locs, cells, slots⟩ argsL.toArray v B ∧
      ∀ target, Steps p.tables e below (B.U.setTop { g with pc := g.pc + 3, stack := v.toList ++ rest }) target → Steps p.tables e below (T.setTop g) target) ∨
    (∃ (q : Addr) (vm₁ : Vm) (B : Pt), s.WarmedH vm₁ ∧ Stand p l e R s m args below meth c B.U B.locs B.cells B.slots ∧ PostX ⟨T.setVm vm₁, locs, cells, slots⟩ argsL.toArray q B ∧
      Steps p.tables e below (T.setTop g) ((B.U.setTop { g with stack := rest }).pushFrame (.throwing q))) := by
  obtain ⟨mk, hnamed⟩ := Cond.code_named hcode
  obtain ⟨methM, cM, hmethM, -, -, -, -, -, -, hsigM⟩ := Cond.code_spec hnamed hcode
  have hstatic : methM.isStatic = true := Cond.static_spec hnamed hmethM hstat
  obtain ⟨kP, hkP, -⟩ := className_of_methodNamed hnamed
  have hinitP : kP.init = .initialized := Cond.initialized_spec (findClass_of_methodNamed hnamed) hkP hinit
  obtain ⟨vm₁, X₁, hstep₁⟩ := X.invokestatic hexec hown hlink hnamed hmethM hstatic hkP hinitP hy (g := g) hg (argsL := argsL) (rest := rest) (hlen _ hsigM) hstack hdg
  rcases hK m meth c ⟨T.setVm vm₁, locs, cells, slots⟩ { g with stack := rest } (.invokestatic index) mk argsL.toArray X₁ hg hsize hdg hW (X₁.named hnamed) (hpre vm₁ X₁.warmed) with ⟨v, B, X', hpost, hsteps⟩ | ⟨q, B, X', hpost, hsteps⟩
  · exact Or.inl ⟨v, vm₁, B, X₁.warmed, X', hpost, fun target h => hstep₁ _ fun acts => by rw [doInvoke_state]; exact hsteps.trans h⟩
  · exact Or.inr ⟨q, vm₁, B, X₁.warmed, X', hpost, hstep₁ _ fun acts => by rw [doInvoke_state]; exact hsteps⟩
end Calls
theorem vx_cls {s : State} {T : State} {vm₁ : Vm} {E : String} {k : ClassId} (hW : s.WarmedH vm₁) (h : (T.setVm vm₁).vm.findClass E = some k) : s.vm.findClass E = some k := by
  have h1 : vm₁.findClass E = some k := h
  rw [hW.alike.findClass] at h1
  exact h1
/-- the method's frame g, with q thrown over it -/
def vx_W (p : Program) (l : Launch) (e : Env) (R : Room) (s : State) (m : MethodId) (args : Array Value) (below : List Frame) (meth : Method) (c : Code) (H : Heap) (locs : List Loc) (cells slots : Nat) (Q : State → Prop) (g : JFrame) (q : Addr) : Prop :=
  ∀ T : State, T.heap = H → Stand p l e R s m args below meth c T locs cells slots → ∃ t, Steps p.tables e below ((T.setTop g).pushFrame (.throwing q)) t ∧ Q t
def vx_Run (p : Program) (l : Launch) (e : Env) (R : Room) (s : State) (m : MethodId) (args : Array Value) (below : List Frame) (meth : Method) (c : Code) (H : Heap) (locs : List Loc) (cells slots mc ms : Nat) (g : JFrame) (rest : List Value) (Qa : State → Outcome → State → Prop) (XC : String → State → State → Prop) (free : Addr → Prop) : Prop :=
  ∀ T : State, T.heap = H → Stand p l e R s m args below meth c T locs cells slots →
    (∃ (v : Option Value) (st₀ t T' : State) (L : List Loc), st₀.heap = H ∧ Stand p l e R s m args below meth c T' (locs ++ L) (cells + mc) (slots + ms) ∧ (∀ q ∈ L, free q.base) ∧ T'.heap = t.heap ∧ T'.vm = t.vm ∧ Qa st₀ (.returned v) t ∧
      Goes p e below T g T' { g with pc := g.pc + 3, stack := v.toList ++ rest }) ∨
    (∃ (q : Addr) (st₀ t T' : State) (L : List Loc) (E : String) (ce : Cell), st₀.heap = H ∧ Stand p l e R s m args below meth c T' (locs ++ L) (cells + mc) (slots + ms) ∧ (∀ z ∈ L, free z.base) ∧ T'.heap = t.heap ∧ T'.vm = t.vm ∧ XC E st₀ t ∧ t.heap[q]? = some ce ∧ ce.vm = .none ∧ s.vm.findClass E = some ce.cls ∧
      Steps p.tables e below (T.setTop g) ((T'.setTop { g with stack := rest }).pushFrame (.throwing q)))
def vx_X {S : Type} (px : S → Prop) (B : String → S → State → Prop) (A : Nat → Prop) : String → State → State → Prop := fun E st t => ∃ u : S, px u ∧ B E u t ∧ va_F A st t
section Runs
variable {p : Program} {l : Launch} {e : Env} {R : Room} {s : State} {m : MethodId} {args : Array Value} {below : List Frame} {meth : Method} {c : Code} {H : Heap} {locs : List Loc} {cells slots : Nat}
variable {y : MethodName} {bytes cc : ByteArray} {maxL nL mc ms n index : Nat} {ret : Option FieldType} {ws : List Cond} {rm : Room} {Pc : Array Value → State → Prop} {Qc : Array Value → State → Outcome → State → Prop} {XC : String → State → State → Prop} {free : Addr → Prop} {Ts : List Cond} {own C : String} {b : Addr} {As rest : List Value} {g : JFrame}
theorem vx_callBack (cb : CallB R s args own index y bytes maxL ret ws rm mc ms n) (hM : vx_Met l y ws rm Pc Qc XC mc ms free) (hbl : FrameBlind Pc) : vx_Back l R p e below s args y 3 8 (PreOf R mc ms Pc) (PostOf Qc mc ms free) (vx_Post XC mc ms free) := by
  obtain ⟨hrc, hrs, hfr, hlo, hws, hcw, -, hini, -⟩ := cb
  exact vx_back (bytes := bytes) (maxL := maxL) (ret := ret) hM hbl hrc hrs hfr hlo hws hcw (fun a' U hW => word_at hW (Or.inl (by first | rfl | simp [Cond.onTables, Cond.keeps, Cond.steady])) hini)
theorem vx_runV (S : CallFix p m c cc nL s args Ts own) (hM : vx_Met l y ws rm Pc Qc XC mc ms free) (cw : CallW R s args own C index y bytes maxL ret ws rm mc ms n) (hp : PreV s H C b Pc As)
    (hg : g.method = m) (hn : As.length = n) (hsize : g.locals.size = nL) (hstack : g.stack = As.reverse ++ .ref b :: rest) (hW : 2 * g.monitorRoom + (rest.map fun v => v.category).sum ≤ 8) (hdg : decode cc g.pc = .ok (.invokevirtual index, 3)) (hf : cells + mc ≤ R.cells ∧ slots + ms ≤ R.slots) :
    vx_Run p l e R s m args below meth c H locs cells slots mc ms g rest (Qc (Value.ref b :: As).toArray) XC free := by
  have hK : vx_Back l R p e below s args y 3 8 (PreOf R mc ms Pc) (PostOf Qc mc ms free) (vx_Post XC mc ms free) := vx_callBack cw.1 hM hp.1
  obtain ⟨⟨-, -, -, -, -, -, hcode, -, hy, hlen, hl⟩, hin, hse⟩ := cw
  obtain ⟨hx, hb, hml, ho, -⟩ := S
  obtain ⟨-, ⟨cellB, hcB, hoB, hclB⟩, hPc⟩ := hp
  intro T hT X
  rcases vx_callV X hx (C := C) (bytes := bytes) (maxL := maxL) (ret := ret) ho hl hin hse hcode hy hK (by rw [hT]; exact hcB) hoB hclB hg (hsize.trans hml.symm) (argsL := As) (rest := rest) (fun sig h => hn.trans (hlen sig h)) hstack hW (by rw [hb]; exact hdg)
    (fun vm₁ hW₁ => ⟨hf.1, hf.2, hPc (T.setVm vm₁) hT hW₁⟩) with ⟨v, vm₁, ⟨U', l2, c2, s2⟩, hW₁, X', ⟨g', mk, t, L, e1, e2, hq, h1, hL, h2, h3⟩, st⟩ | ⟨q, vm₁, ⟨U', l2, c2, s2⟩, hW₁, X', ⟨g', mk, t, L, E, ce, e1, e2, hq, hce, hcv, hcl, h1, hL, h2, h3⟩, st⟩
  · dsimp only [Pt.U, Pt.locs, Pt.cells, Pt.slots] at X' e1 e2 h1 h2 h3 st
    subst h1; subst h2; subst h3
    exact Or.inl ⟨v, (T.setVm vm₁).calling g' mk (Value.ref b :: As).toArray, t, U', L, hT, X', hL, e1, e2, hq, st⟩
  · dsimp only [Pt.U, Pt.locs, Pt.cells, Pt.slots] at X' e1 e2 h1 h2 h3 st hcl
    subst h1; subst h2; subst h3
    exact Or.inr ⟨q, (T.setVm vm₁).calling g' mk (Value.ref b :: As).toArray, t, U', L, E, ce, hT, X', hL, e1, e2, hq, hce, hcv, vx_cls hW₁ hcl, st⟩
theorem vx_runS (S : CallFix p m c cc nL s args Ts own) (hM : vx_Met l y ws rm Pc Qc XC mc ms free) (cw : CallB R s args own index y bytes maxL ret ws rm mc ms n ∧ (Cond.static y).before args s = true) (hp : PreS s H Pc As)
    (hg : g.method = m) (hn : As.length = n) (hsize : g.locals.size = nL) (hstack : g.stack = As.reverse ++ rest) (hW : 2 * g.monitorRoom + (rest.map fun v => v.category).sum ≤ 8) (hdg : decode cc g.pc = .ok (.invokestatic index, 3)) (hf : cells + mc ≤ R.cells ∧ slots + ms ≤ R.slots) :
    vx_Run p l e R s m args below meth c H locs cells slots mc ms g rest (Qc As.toArray) XC free := by
  have hK : vx_Back l R p e below s args y 3 8 (PreOf R mc ms Pc) (PostOf Qc mc ms free) (vx_Post XC mc ms free) := vx_callBack cw.1 hM hp.1
  obtain ⟨⟨-, -, -, -, -, -, hcode, hini, hy, hlen, hl⟩, hstt⟩ := cw
  obtain ⟨hx, hb, hml, ho, -⟩ := S
  intro T hT X
  rcases vx_callS X hx (bytes := bytes) (maxL := maxL) (ret := ret) ho hl hstt hini hcode hy hK hg (hsize.trans hml.symm) (argsL := As) (rest := rest) (fun sig h => hn.trans (hlen sig h)) hstack hW (by rw [hb]; exact hdg)
    (fun vm₁ hW₁ => ⟨hf.1, hf.2, hp.2 (T.setVm vm₁) hT hW₁⟩) with ⟨v, vm₁, ⟨U', l2, c2, s2⟩, hW₁, X', ⟨g', mk, t, L, e1, e2, hq, h1, hL, h2, h3⟩, st⟩ | ⟨q, vm₁, ⟨U', l2, c2, s2⟩, hW₁, X', ⟨g', mk, t, L, E, ce, e1, e2, hq, hce, hcv, hcl, h1, hL, h2, h3⟩, st⟩
  · dsimp only [Pt.U, Pt.locs, Pt.cells, Pt.slots] at X' e1 e2 h1 h2 h3 st
    subst h1; subst h2; subst h3
    exact Or.inl ⟨v, (T.setVm vm₁).calling g' mk As.toArray, t, U', L, hT, X', hL, e1, e2, hq, st⟩
  · dsimp only [Pt.U, Pt.locs, Pt.cells, Pt.slots] at X' e1 e2 h1 h2 h3 st hcl
    subst h1; subst h2; subst h3
    exact Or.inr ⟨q, (T.setVm vm₁).calling g' mk As.toArray, t, U', L, E, ce, hT, X', hL, e1, e2, hq, hce, hcv, vx_cls hW₁ hcl, st⟩
end Runs
section Rows
variable {p : Program} {l : Launch} {e : Env} {R : Room} {s : State} {m : MethodId} {args : Array Value} {below : List Frame} {meth : Method} {c : Code} {H : Heap} {locs : List Loc} {cells slots : Nat} {Q : State → Prop}
variable {mc ms : Nat} {free : Addr → Prop} {A0 A1 : Nat → Prop} {H0 : Heap} {a : Array Value} {pc : Nat} {ls : Array Slot} {st0 rest : List Value}
theorem vx_keep {st₀ t T' : State} {L : List Loc} (h0 : st₀.heap = H) (e1 : T'.heap = t.heap) (hS : va_S A0 H0 H locs) (hA : ∀ q, q < H.size → A1 q → A0 q) (hf : ∀ q, free q → A0 q) (hL : ∀ q ∈ L, free q.base) (hF : va_F A1 st₀ t) :
    H.size ≤ T'.heap.size ∧ (∀ q : Nat, q < H.size → ¬ A1 q → T'.heap[q]? = H[q]?) ∧ va_S A0 H0 T'.heap (locs ++ L) := by
  obtain ⟨hz, hk⟩ := hF
  rw [h0] at hz hk
  exact ⟨by rw [e1]; exact hz, fun q h1 h2 => by rw [e1]; exact hk q h1 h2,
    ⟨Nat.le_trans hS.1 (by rw [e1]; exact hz), fun q h1 h2 => by rw [e1, hk q (Nat.lt_of_lt_of_le h1 hS.1) (fun z => h2 (hA q (Nat.lt_of_lt_of_le h1 hS.1) z))]; exact hS.2.1 q h1 h2, fun q hq => by
      rcases List.mem_append.mp hq with h | h
      · exact hS.2.2 q h
      · exact hf _ (hL q h)⟩⟩
theorem vx_calli {S SX : Type} {post : Int32 → S → Prop} {px : SX → Prop} {B : S → State → Prop} {BX : String → SX → State → Prop} {AX : Nat → Prop} (hr : vx_Run p l e R s m args below meth c H locs cells slots mc ms (F0 m pc ls st0) rest (va_Qi post B A1 a) (vx_X px BX AX) free) (hS : va_S A0 H0 H locs) (hA : ∀ q, q < H.size → A1 q → A0 q) (hf : ∀ q, free q → A0 q) (hAX : ∀ q, q < H.size → AX q → A0 q)
    (kx : ∀ (E : String) (ce : Cell) (q9 : Addr) (u : SX) (t : State) (H1 : Heap) (locs1 : List Loc), t.heap = H1 → s.vm.Alike t.vm → px u → BX E u t → H.size ≤ H1.size → (∀ q : Nat, q < H.size → ¬ AX q → H1[q]? = H[q]?) → va_S A0 H0 H1 locs1 → H1[q9]? = some ce → ce.vm = .none → s.vm.findClass E = some ce.cls → vx_W p l e R s m args below meth c H1 locs1 (cells + mc) (slots + ms) Q (F0 m pc ls rest) q9)
    (kk : ∀ (r : Int32) (u : S) (t : State) (H1 : Heap) (locs1 : List Loc), t.heap = H1 → s.vm.Alike t.vm → post r u → B u t → H.size ≤ H1.size → (∀ q : Nat, q < H.size → ¬ A1 q → H1[q]? = H[q]?) → va_S A0 H0 H1 locs1 → W p l e R s m args below meth c H1 locs1 (cells + mc) (slots + ms) Q (F0 m (pc + 3) ls (.int r :: rest))) : W p l e R s m args below meth c H locs cells slots Q (F0 m pc ls st0) := by
  intro T hT X
  rcases hr T hT X with ⟨v, st₀, t, T', L, h0, X', hL, e1, e2, ⟨⟨r, u, hv, hp, hb⟩, hF⟩, st⟩ | ⟨q, st₀, t, T', L, E, ce, h0, X', hL, e1, e2, ⟨u, hp, hb, hF⟩, hce, hcv, hcl, st⟩
  · cases hv
    obtain ⟨k1, k2, k3⟩ := vx_keep h0 e1 hS hA hf hL hF
    obtain ⟨t2, a1, b1⟩ := kk r u t T'.heap (locs ++ L) e1.symm (by rw [← e2]; exact X'.warmed.alike) hp hb k1 k2 k3 T' rfl X'
    exact ⟨t2, st t2 a1, b1⟩
  · obtain ⟨k1, k2, k3⟩ := vx_keep h0 e1 hS hAX hf hL hF
    obtain ⟨t2, a1, b1⟩ := kx E ce q u t T'.heap (locs ++ L) e1.symm (by rw [← e2]; exact X'.warmed.alike) hp hb k1 k2 k3 (by rw [e1]; exact hce) hcv hcl T' rfl X'
    exact ⟨t2, st.trans a1, b1⟩
theorem vx_calll {S SX : Type} {post : Int64 → S → Prop} {px : SX → Prop} {B : S → State → Prop} {BX : String → SX → State → Prop} {AX : Nat → Prop} (hr : vx_Run p l e R s m args below meth c H locs cells slots mc ms (F0 m pc ls st0) rest (va_Ql post B A1 a) (vx_X px BX AX) free) (hS : va_S A0 H0 H locs) (hA : ∀ q, q < H.size → A1 q → A0 q) (hf : ∀ q, free q → A0 q) (hAX : ∀ q, q < H.size → AX q → A0 q)
    (kx : ∀ (E : String) (ce : Cell) (q9 : Addr) (u : SX) (t : State) (H1 : Heap) (locs1 : List Loc), t.heap = H1 → s.vm.Alike t.vm → px u → BX E u t → H.size ≤ H1.size → (∀ q : Nat, q < H.size → ¬ AX q → H1[q]? = H[q]?) → va_S A0 H0 H1 locs1 → H1[q9]? = some ce → ce.vm = .none → s.vm.findClass E = some ce.cls → vx_W p l e R s m args below meth c H1 locs1 (cells + mc) (slots + ms) Q (F0 m pc ls rest) q9)
    (kk : ∀ (r : Int64) (u : S) (t : State) (H1 : Heap) (locs1 : List Loc), t.heap = H1 → s.vm.Alike t.vm → post r u → B u t → H.size ≤ H1.size → (∀ q : Nat, q < H.size → ¬ A1 q → H1[q]? = H[q]?) → va_S A0 H0 H1 locs1 → W p l e R s m args below meth c H1 locs1 (cells + mc) (slots + ms) Q (F0 m (pc + 3) ls (.long r :: rest))) : W p l e R s m args below meth c H locs cells slots Q (F0 m pc ls st0) := by
  intro T hT X
  rcases hr T hT X with ⟨v, st₀, t, T', L, h0, X', hL, e1, e2, ⟨⟨r, u, hv, hp, hb⟩, hF⟩, st⟩ | ⟨q, st₀, t, T', L, E, ce, h0, X', hL, e1, e2, ⟨u, hp, hb, hF⟩, hce, hcv, hcl, st⟩
  · cases hv
    obtain ⟨k1, k2, k3⟩ := vx_keep h0 e1 hS hA hf hL hF
    obtain ⟨t2, a1, b1⟩ := kk r u t T'.heap (locs ++ L) e1.symm (by rw [← e2]; exact X'.warmed.alike) hp hb k1 k2 k3 T' rfl X'
    exact ⟨t2, st t2 a1, b1⟩
  · obtain ⟨k1, k2, k3⟩ := vx_keep h0 e1 hS hAX hf hL hF
    obtain ⟨t2, a1, b1⟩ := kx E ce q u t T'.heap (locs ++ L) e1.symm (by rw [← e2]; exact X'.warmed.alike) hp hb k1 k2 k3 (by rw [e1]; exact hce) hcv hcl T' rfl X'
    exact ⟨t2, st.trans a1, b1⟩
theorem vx_callf {S SX : Type} {post : UInt32 → S → Prop} {px : SX → Prop} {B : S → State → Prop} {BX : String → SX → State → Prop} {AX : Nat → Prop} (hr : vx_Run p l e R s m args below meth c H locs cells slots mc ms (F0 m pc ls st0) rest (va_Qf post B A1 a) (vx_X px BX AX) free) (hS : va_S A0 H0 H locs) (hA : ∀ q, q < H.size → A1 q → A0 q) (hf : ∀ q, free q → A0 q) (hAX : ∀ q, q < H.size → AX q → A0 q)
    (kx : ∀ (E : String) (ce : Cell) (q9 : Addr) (u : SX) (t : State) (H1 : Heap) (locs1 : List Loc), t.heap = H1 → s.vm.Alike t.vm → px u → BX E u t → H.size ≤ H1.size → (∀ q : Nat, q < H.size → ¬ AX q → H1[q]? = H[q]?) → va_S A0 H0 H1 locs1 → H1[q9]? = some ce → ce.vm = .none → s.vm.findClass E = some ce.cls → vx_W p l e R s m args below meth c H1 locs1 (cells + mc) (slots + ms) Q (F0 m pc ls rest) q9)
    (kk : ∀ (r : UInt32) (u : S) (t : State) (H1 : Heap) (locs1 : List Loc), t.heap = H1 → s.vm.Alike t.vm → post r u → B u t → H.size ≤ H1.size → (∀ q : Nat, q < H.size → ¬ A1 q → H1[q]? = H[q]?) → va_S A0 H0 H1 locs1 → W p l e R s m args below meth c H1 locs1 (cells + mc) (slots + ms) Q (F0 m (pc + 3) ls (.float r :: rest))) : W p l e R s m args below meth c H locs cells slots Q (F0 m pc ls st0) := by
  intro T hT X
  rcases hr T hT X with ⟨v, st₀, t, T', L, h0, X', hL, e1, e2, ⟨⟨r, u, hv, hp, hb⟩, hF⟩, st⟩ | ⟨q, st₀, t, T', L, E, ce, h0, X', hL, e1, e2, ⟨u, hp, hb, hF⟩, hce, hcv, hcl, st⟩
  · cases hv
    obtain ⟨k1, k2, k3⟩ := vx_keep h0 e1 hS hA hf hL hF
    obtain ⟨t2, a1, b1⟩ := kk r u t T'.heap (locs ++ L) e1.symm (by rw [← e2]; exact X'.warmed.alike) hp hb k1 k2 k3 T' rfl X'
    exact ⟨t2, st t2 a1, b1⟩
  · obtain ⟨k1, k2, k3⟩ := vx_keep h0 e1 hS hAX hf hL hF
    obtain ⟨t2, a1, b1⟩ := kx E ce q u t T'.heap (locs ++ L) e1.symm (by rw [← e2]; exact X'.warmed.alike) hp hb k1 k2 k3 (by rw [e1]; exact hce) hcv hcl T' rfl X'
    exact ⟨t2, st.trans a1, b1⟩
theorem vx_calld {S SX : Type} {post : UInt64 → S → Prop} {px : SX → Prop} {B : S → State → Prop} {BX : String → SX → State → Prop} {AX : Nat → Prop} (hr : vx_Run p l e R s m args below meth c H locs cells slots mc ms (F0 m pc ls st0) rest (va_Qd post B A1 a) (vx_X px BX AX) free) (hS : va_S A0 H0 H locs) (hA : ∀ q, q < H.size → A1 q → A0 q) (hf : ∀ q, free q → A0 q) (hAX : ∀ q, q < H.size → AX q → A0 q)
    (kx : ∀ (E : String) (ce : Cell) (q9 : Addr) (u : SX) (t : State) (H1 : Heap) (locs1 : List Loc), t.heap = H1 → s.vm.Alike t.vm → px u → BX E u t → H.size ≤ H1.size → (∀ q : Nat, q < H.size → ¬ AX q → H1[q]? = H[q]?) → va_S A0 H0 H1 locs1 → H1[q9]? = some ce → ce.vm = .none → s.vm.findClass E = some ce.cls → vx_W p l e R s m args below meth c H1 locs1 (cells + mc) (slots + ms) Q (F0 m pc ls rest) q9)
    (kk : ∀ (r : UInt64) (u : S) (t : State) (H1 : Heap) (locs1 : List Loc), t.heap = H1 → s.vm.Alike t.vm → post r u → B u t → H.size ≤ H1.size → (∀ q : Nat, q < H.size → ¬ A1 q → H1[q]? = H[q]?) → va_S A0 H0 H1 locs1 → W p l e R s m args below meth c H1 locs1 (cells + mc) (slots + ms) Q (F0 m (pc + 3) ls (.double r :: rest))) : W p l e R s m args below meth c H locs cells slots Q (F0 m pc ls st0) := by
  intro T hT X
  rcases hr T hT X with ⟨v, st₀, t, T', L, h0, X', hL, e1, e2, ⟨⟨r, u, hv, hp, hb⟩, hF⟩, st⟩ | ⟨q, st₀, t, T', L, E, ce, h0, X', hL, e1, e2, ⟨u, hp, hb, hF⟩, hce, hcv, hcl, st⟩
  · cases hv
    obtain ⟨k1, k2, k3⟩ := vx_keep h0 e1 hS hA hf hL hF
    obtain ⟨t2, a1, b1⟩ := kk r u t T'.heap (locs ++ L) e1.symm (by rw [← e2]; exact X'.warmed.alike) hp hb k1 k2 k3 T' rfl X'
    exact ⟨t2, st t2 a1, b1⟩
  · obtain ⟨k1, k2, k3⟩ := vx_keep h0 e1 hS hAX hf hL hF
    obtain ⟨t2, a1, b1⟩ := kx E ce q u t T'.heap (locs ++ L) e1.symm (by rw [← e2]; exact X'.warmed.alike) hp hb k1 k2 k3 (by rw [e1]; exact hce) hcv hcl T' rfl X'
    exact ⟨t2, st.trans a1, b1⟩
theorem vx_callv {S SX : Type} {post : S → Prop} {px : SX → Prop} {B : S → State → Prop} {BX : String → SX → State → Prop} {AX : Nat → Prop} (hr : vx_Run p l e R s m args below meth c H locs cells slots mc ms (F0 m pc ls st0) rest (va_Qv post B A1 a) (vx_X px BX AX) free) (hS : va_S A0 H0 H locs) (hA : ∀ q, q < H.size → A1 q → A0 q) (hf : ∀ q, free q → A0 q) (hAX : ∀ q, q < H.size → AX q → A0 q)
    (kx : ∀ (E : String) (ce : Cell) (q9 : Addr) (u : SX) (t : State) (H1 : Heap) (locs1 : List Loc), t.heap = H1 → s.vm.Alike t.vm → px u → BX E u t → H.size ≤ H1.size → (∀ q : Nat, q < H.size → ¬ AX q → H1[q]? = H[q]?) → va_S A0 H0 H1 locs1 → H1[q9]? = some ce → ce.vm = .none → s.vm.findClass E = some ce.cls → vx_W p l e R s m args below meth c H1 locs1 (cells + mc) (slots + ms) Q (F0 m pc ls rest) q9)
    (kk : ∀ (u : S) (t : State) (H1 : Heap) (locs1 : List Loc), t.heap = H1 → s.vm.Alike t.vm → post u → B u t → H.size ≤ H1.size → (∀ q : Nat, q < H.size → ¬ A1 q → H1[q]? = H[q]?) → va_S A0 H0 H1 locs1 → W p l e R s m args below meth c H1 locs1 (cells + mc) (slots + ms) Q (F0 m (pc + 3) ls (rest))) : W p l e R s m args below meth c H locs cells slots Q (F0 m pc ls st0) := by
  intro T hT X
  rcases hr T hT X with ⟨v, st₀, t, T', L, h0, X', hL, e1, e2, ⟨⟨u, hv, hp, hb⟩, hF⟩, st⟩ | ⟨q, st₀, t, T', L, E, ce, h0, X', hL, e1, e2, ⟨u, hp, hb, hF⟩, hce, hcv, hcl, st⟩
  · cases hv
    obtain ⟨k1, k2, k3⟩ := vx_keep h0 e1 hS hA hf hL hF
    obtain ⟨t2, a1, b1⟩ := kk u t T'.heap (locs ++ L) e1.symm (by rw [← e2]; exact X'.warmed.alike) hp hb k1 k2 k3 T' rfl X'
    exact ⟨t2, st t2 a1, b1⟩
  · obtain ⟨k1, k2, k3⟩ := vx_keep h0 e1 hS hAX hf hL hF
    obtain ⟨t2, a1, b1⟩ := kx E ce q u t T'.heap (locs ++ L) e1.symm (by rw [← e2]; exact X'.warmed.alike) hp hb k1 k2 k3 (by rw [e1]; exact hce) hcv hcl T' rfl X'
    exact ⟨t2, st.trans a1, b1⟩
/-- caught by the row x of this method's table; the rows ahead don't take it -/
theorem vx_catch {own name : String} {E : String} {ce : Cell} {q : Addr} (hown : s.vm.findClass own = some m.cls) (pre : List ExceptionTableEntry) (x : ExceptionTableEntry) (suf : List ExceptionTableEntry) (hsplit : c.exceptionTable.toList = pre ++ x :: suf)
    (hpass : ∀ z ∈ pre, covers z pc = false ∨ (z.catchType ≠ 0 ∧ ∃ nm : String, (Cond.classLink own z.catchType nm).before args s = true ∧ va_Nc E nm s)) (hx : covers x pc = true) (h0 : x.catchType ≠ 0)
    (hlink : (Cond.classLink own x.catchType name).before args s = true) (hcast : (Cond.castable E name).before args s = true) (hcell : H[q]? = some ce) (hv : ce.vm = .none) (hcl : s.vm.findClass E = some ce.cls)
    (kk : W p l e R s m args below meth c H locs cells slots Q (F0 m x.handlerPc ls [.ref q])) : vx_W p l e R s m args below meth c H locs cells slots Q (F0 m pc ls rest) q := by
  intro T hT X
  have hpl : e.platform.magicAccessors = ({} : Platform).magicAccessors := by rw [X.admits.platform]
  obtain ⟨c3, c4, hc3, hc4, hasg⟩ := Cond.castable_spec hcast
  cases Option.some.inj (hc3.symm.trans hcl)
  obtain ⟨c5, hc5, hcl5⟩ := Cond.classLink_spec hown hlink e.platform hpl
  cases Option.some.inj (hc4.symm.trans hc5)
  obtain ⟨vm', X', st⟩ := X.thenCaughtThrough q (g := F0 m pc ls rest) rfl (Steps.refl _) (by rw [hT]; exact hcell) (by rw [hv]; rfl) (by obtain ⟨k9, h9, -⟩ := Vm.findClass_spec hcl; exact ⟨k9, h9⟩) pre x suf hsplit
    (fun z hz => by
      rcases hpass z hz with h | ⟨hz0, nm, hl1, hn1⟩
      · exact Or.inl h
      · obtain ⟨c6, hc6, hcl6⟩ := Cond.classLink_spec hown hl1 e.platform hpl
        obtain ⟨a8, b8, h1, h2, h3⟩ := hn1
        cases Option.some.inj (h1.symm.trans hcl)
        cases Option.some.inj (h2.symm.trans hc6)
        exact Or.inr ⟨hz0, _, hcl6, h3⟩) hx (Or.inr ⟨h0, c4, hcl5, hasg⟩)
  obtain ⟨t, a1, b1⟩ := kk (T.setVm vm') hT X'
  exact ⟨t, st.trans a1, b1⟩
end Rows
section Ends
variable {p : Program} {l : Launch} {e : Env} {R : Room} {s : State} {m : MethodId} {args : Array Value} {below : List Frame} {meth : Method} {c : Code} {H : Heap} {locs : List Loc} {cells slots : Nat} {Q : State → Prop}
variable {mc ms : Nat} {free : Addr → Prop} {A0 A1 : Nat → Prop} {H0 : Heap} {a : Array Value} {ls : Array Slot} {st0 rest : List Value}
variable {Qc : Array Value → State → Outcome → State → Prop} {XC : String → State → State → Prop}
/-- what a body that may throw owes at its end -/
def vx_MQ (below : List Frame) (Qc : Array Value → State → Outcome → State → Prop) (XC : String → State → State → Prop) (a : Array Value) (s : State) (mc ms : Nat) (free : Addr → Prop) : State → Prop := fun t =>
  ∃ o, t.status = .running ∧ Ended t below o ∧ vx_Q Qc XC mc ms free a s o t
theorem vx_ret {g : JFrame} {mc ms : Nat} (k : W p l e R s m args below meth c H locs cells slots (MQ below Qc args s mc ms free) g) : W p l e R s m args below meth c H locs cells slots (vx_MQ below Qc XC args s mc ms free) g := by
  intro T hT X
  obtain ⟨t, a1, o, b1, b2, b3, b4⟩ := k T hT X
  exact ⟨t, a1, o, b1, b2, Or.inl ⟨b3, b4⟩⟩
/-- not caught here: it goes on to the caller -/
theorem vx_widen {g : JFrame} {q : Addr} {k n : Nat} (h1 : cells ≤ k) (h2 : slots ≤ n) (kk : vx_W p l e R s m args below meth c H locs k n Q g q) : vx_W p l e R s m args below meth c H locs cells slots Q g q := fun T hT X => kk T hT (stand_widen X h1 h2)
theorem vx_out {pc : Nat} {E : String} {ce : Cell} {q : Addr} {mc ms : Nat} (hout : ∀ x ∈ c.exceptionTable.toList, covers x pc = false) (hlocks : meth.locks = false) (hcell : H[q]? = some ce) (hv : ce.vm = .none) (hcl : s.vm.findClass E = some ce.cls)
    (hx : ∀ t : State, t.heap = H → s.vm.Alike t.vm → XC E s t) (hf : ∀ z ∈ locs, free z.base) (hc : cells ≤ mc) (hs : slots ≤ ms) :
    vx_W p l e R s m args below meth c H locs cells slots (vx_MQ below Qc XC args s mc ms free) (F0 m pc ls rest) q := by
  intro T hT X
  obtain ⟨st1, hrun, hend, hW, hsm⟩ := X.leaveThrown q (g := F0 m pc ls rest) rfl rfl rfl hout hlocks
  have hcell9 : (T.setFrames (.throwing q :: below)).heap[q]? = some ce := by
    show T.heap[q]? = some ce
    rw [hT]; exact hcell
  exact ⟨_, st1, .threw q, hrun, hend, Or.inr ⟨q, rfl, E, ce, locs, hx _ hT hW.alike, hcell9, hv, hcl, hW, hsm.mono hc hs, hf⟩⟩
theorem vx_frame {U : State} {k n : Nat} (h : s.sameButNew ({ U with vm := s.vm } : State) locs k n) : s.heap.size ≤ U.heap.size ∧ ∀ q : Nat, q < s.heap.size → (∀ z ∈ locs, z.base ≠ q) → U.heap[q]? = s.heap[q]? := by
  obtain ⟨-, h2, -, -, -, h6⟩ := h
  refine ⟨h2, fun q hq hz => ?_⟩
  obtain ⟨c9, e1, e2, e3, e4⟩ := h6 q _ (Array.getElem?_eq_getElem hq)
  have hs : c9.slots = (s.heap[q]).slots := Array.ext_getElem? fun i => e4 i fun hm => hz _ hm rfl
  have h9 : c9 = s.heap[q] := by
    rw [hs] at e2
    exact e2
  have e5 : U.heap[q]? = some c9 := e1
  rw [e5, h9, Array.getElem?_eq_getElem hq]
/-- the words of a throw but the four that speak of the heap -/
def vx_no (w : Cond) : Bool := decide (w ≠ .isRef (.static Bundle.tN "UNASSIGNED_STACK" Bundle.steD)) && decide (w ≠ .isRef (.static Bundle.tN "SUPPRESSED_SENTINEL" Bundle.listD)) && decide (w ≠ .laysStatic Bundle.tN "UNASSIGNED_STACK" Bundle.steD) && decide (w ≠ .laysStatic Bundle.tN "SUPPRESSED_SENTINEL" Bundle.listD)
def vx_at0 (own : String) (ic : Nat) (X : String) (names : List String) : List Cond := (Bundle.ownAtoms0 own ic X names).filter vx_no
def vx_atS (own : String) (ic : Nat) (X : String) (names : List String) : List Cond := (Bundle.ownAtoms own ic X names).filter vx_no
/-- a word that the tables alone decide, or a good one -/
def vx_ot (w : Cond) : Bool := w.onTables || goodWord w
theorem vx_ot_at {args a' : Array Value} {s U : State} {w : Cond} (hW : s.WarmedH U.vm) (hvm : s.vm = U.vm) (hg : vx_ot w = true) (h : w.before args s = true) : w.before a' U = true := by
  simp only [vx_ot, Bool.or_eq_true] at hg
  rcases hg with hg | hg
  · exact va_tabs hg hvm h
  · exact word_at hW (good_of_word hg) h
/-- a list's words: the good ones out of the method's own list, the others by premises of their own -/
theorem vx_hat {args : Array Value} {s : State} {L B : List Cond} (h1 : ∀ w ∈ L.filter goodWord, w.before args s = true) (h2 : ∀ w ∈ L.filter (fun w => !goodWord w), w ∈ B) (h3 : ∀ w ∈ B, w.before args s = true) : ∀ w ∈ L, w.before args s = true := by
  intro w hw
  by_cases g : goodWord w = true
  · exact h1 w (List.mem_filter.mpr ⟨hw, g⟩)
  · refine h3 w (h2 w (List.mem_filter.mpr ⟨hw, ?_⟩))
    show (!goodWord w) = true
    cases hgw : goodWord w
    · rfl
    · exact absurd hgw g
theorem vx_c {args : Array Value} {s : State} {w : Cond} {B : List Cond} (h : w.before args s = true) (t : ∀ w ∈ B, w.before args s = true) : ∀ w' ∈ w :: B, w'.before args s = true := fun w' h' => (List.mem_cons.mp h').elim (fun e => by rw [e]; exact h) (t w')
theorem vx_n {args : Array Value} {s : State} : ∀ w ∈ ([] : List Cond), w.before args s = true := fun _ h => nomatch h
theorem vx_own {args : Array Value} {s : State} {L : List Cond} (h1 : ∀ w ∈ L.filter vx_no, w.before args s = true)
    (hU : (Cond.isRef (.static Bundle.tN "UNASSIGNED_STACK" Bundle.steD)).before args s = true) (hN : (Cond.isRef (.static Bundle.tN "SUPPRESSED_SENTINEL" Bundle.listD)).before args s = true)
    (lU : (Cond.laysStatic Bundle.tN "UNASSIGNED_STACK" Bundle.steD).before args s = true) (lN : (Cond.laysStatic Bundle.tN "SUPPRESSED_SENTINEL" Bundle.listD).before args s = true) : ∀ w ∈ L, w.before args s = true := by
  intro w hw
  by_cases e1 : w = .isRef (.static Bundle.tN "UNASSIGNED_STACK" Bundle.steD)
  · rw [e1]; exact hU
  · by_cases e2 : w = .isRef (.static Bundle.tN "SUPPRESSED_SENTINEL" Bundle.listD)
    · rw [e2]; exact hN
    · by_cases e3 : w = .laysStatic Bundle.tN "UNASSIGNED_STACK" Bundle.steD
      · rw [e3]; exact lU
      · by_cases e4 : w = .laysStatic Bundle.tN "SUPPRESSED_SENTINEL" Bundle.listD
        · rw [e4]; exact lN
        · exact h1 w (List.mem_filter.mpr ⟨hw, by unfold vx_no; rw [decide_eq_true e1, decide_eq_true e2, decide_eq_true e3, decide_eq_true e4]; rfl⟩)
/-- where a static field lies, its class's statics cell in H -/
def vx_L (C n d : String) (A : Nat → Prop) (U : State) (H : Heap) : Prop := ∃ (c : ClassId) (k : Class) (i : Nat) (f : Field) (a : Nat) (cell : Cell), U.vm.findClass C = some c ∧ U.fieldFound? C n d = some (c, k, i, f) ∧ f.isStatic = true ∧ k.statics = some a ∧ H[a]? = some cell ∧ cell.vm.isStatics = true ∧ cell.cls = c ∧ f.slot < cell.slots.size ∧ k.staticTypes[f.slot]? = some f.type ∧ ¬ A a
theorem vx_L.moved {C n d : String} {A : Nat → Prop} {u U : State} {H : Heap} (hvm : u.vm.Alike U.vm) (h : vx_L C n d A u H) : vx_L C n d A U H := by
  obtain ⟨c, k, i, f, a, cell, h1, h2, h3, h4, h5, h6, h7, h8, h9, h10⟩ := h
  obtain ⟨k', hi', he⟩ := State.fieldFound?_setVm hvm h2
  exact ⟨c, k', i, f, a, cell, by rw [hvm.findClass]; exact h1, hi', h3, by rw [he]; exact h4, h5, h6, h7, h8, by rw [he]; exact h9, h10⟩
theorem vx_L.kept {C n d : String} {A : Nat → Prop} {U : State} {H H1 : Heap} (h : vx_L C n d A U H) (hq : ∀ a : Nat, a < H.size → ¬ A a → H1[a]? = H[a]?) : vx_L C n d A U H1 := by
  obtain ⟨c, k, i, f, a, cell, h1, h2, h3, h4, h5, h6, h7, h8, h9, h10⟩ := h
  exact ⟨c, k, i, f, a, cell, h1, h2, h3, h4, by rw [hq a (Array.getElem?_eq_some_iff.mp h5).1 h10]; exact h5, h6, h7, h8, h9, h10⟩
theorem vx_L.narrow {C n d : String} {A B : Nat → Prop} {U : State} {H : Heap} (h : vx_L C n d A U H) (hAB : ∀ q, B q → A q) : vx_L C n d B U H := by
  obtain ⟨c, k, i, f, a, cell, h1, h2, h3, h4, h5, h6, h7, h8, h9, h10⟩ := h
  exact ⟨c, k, i, f, a, cell, h1, h2, h3, h4, h5, h6, h7, h8, h9, fun z => h10 (hAB _ z)⟩
theorem vx_L.word {C n d : String} {A : Nat → Prop} {s : State} {args : Array Value} (h : vx_L C n d A s s.heap) : (Cond.laysStatic C n d).before args s = true := by
  obtain ⟨c, k, i, f, a, cell, h1, h2, h3, h4, h5, h6, h7, h8, h9, -⟩ := h
  show (Cond.laysStatic C n d).holds args s none s [] = true
  exact Cond.laysStatic_of h1 h2 h3 h4 h5 h6 h7 h8 h9
/-- .. and what it holds: null or some reference -/
def vx_Zq (C n d : String) (A : Nat → Prop) (U : State) (H : Heap) : Prop := va_Zq C n d A U H ∧ vx_L C n d A U H
theorem vx_Zq.moved {C n d : String} {A : Nat → Prop} {u U : State} {H : Heap} (hvm : u.vm.Alike U.vm) (h : vx_Zq C n d A u H) : vx_Zq C n d A U H := ⟨va_Zq.moved hvm h.1, vx_L.moved hvm h.2⟩
theorem vx_Zq.kept {C n d : String} {A : Nat → Prop} {U : State} {H H1 : Heap} (h : vx_Zq C n d A U H) (hq : ∀ a : Nat, a < H.size → ¬ A a → H1[a]? = H[a]?) : vx_Zq C n d A U H1 := ⟨va_Zq.kept h.1 hq, vx_L.kept h.2 hq⟩
theorem vx_Zq.narrow {C n d : String} {A B : Nat → Prop} {U : State} {H : Heap} (h : vx_Zq C n d A U H) (hAB : ∀ q, B q → A q) : vx_Zq C n d B U H := ⟨va_Zq.narrow h.1 hAB, vx_L.narrow h.2 hAB⟩
theorem vx_Zqof {args : Array Value} {s : State} {C n d : String} {A : Nat → Prop} (hl : (Cond.laysStatic C n d).before args s = true) (hini : (Cond.initialized C).before args s = true) (h : (Cond.isRef (.static C n d)).before args s = true) (hA : ∀ a : Nat, a < s.heap.size → ¬ A a) : vx_Zq C n d A s s.heap := by
  refine ⟨va_Zqof hl hini h hA, ?_⟩
  obtain ⟨c, k, i, f, a, cell, h1, h2, h3, h4, h5, h6, h7, h8, h9⟩ := Cond.laysStatic_spec hl
  exact ⟨c, k, i, f, a, cell, h1, h2, h3, h4, h5, h6, h7, h8, h9, hA a (Array.getElem?_eq_some_iff.mp h5).1⟩
theorem vx_isRef {C n d : String} {v : Value} {A : Nat → Prop} {s : State} {args : Array Value} (h : va_Z C n d v A s s.heap) (hv : v.isRef = true) : (Cond.isRef (.static C n d)).before args s = true := by
  obtain ⟨cf, kf, fi, f, a, cell, h1, h2, h3, h4, h5, h6, h7, -⟩ := h
  have he : (Term.static C n d).eval args s none [] s = some v := by
    simp [Term.eval, State.fieldNamed?, h1, h2, h4, h5, h6, h7]
  simp only [Cond.before, Cond.holds, Cond.value, he]
  cases v <;> simp_all [Value.isRef]
theorem vx_isRefq {C n d : String} {A : Nat → Prop} {s : State} {args : Array Value} (h : va_Zq C n d A s s.heap) : (Cond.isRef (.static C n d)).before args s = true := by
  rcases h with h | ⟨t, h⟩
  · exact vx_isRef h rfl
  · exact vx_isRef h rfl
/-- the same frame, seen from here: as if the method were called anew in this heap -/
theorem vx_rebase {T : State} (X : Stand p l e R s m args below meth c T locs cells slots) {R' : Room} (hf : R'.frames ≤ R.frames) (hl : R'.locals ≤ R.locals) (hc : cells + R'.cells ≤ R.cells) (hs : slots + R'.slots ≤ R.slots) :
    Stand p l e R' ((T.setVm s.vm).setFrames (.invoking m args :: below)) m args below meth c T [] 0 0 := by
  have htop : (T.setVm s.vm).topJava?.isSome := X.here.top
  have hF : ((T.setVm s.vm).setFrames (.invoking m args :: below)).frames = .invoking m args :: below := State.frames_setFrames _ (State.cur_lt_of_top htop)
  obtain ⟨g₀, hg0⟩ := Option.isSome_iff_exists.mp htop
  obtain ⟨r, hr⟩ := State.topJava?_eq_some.mp hg0
  have hl9 : e.platform.stackLimits (T.setVm s.vm).me = e.platform.stackLimits s.me := X.limits
  have hb9 : (T.setVm s.vm).me.stackBytes = s.me.stackBytes := X.bytes
  refine ⟨X.admits, X.cas, X.clock, hF, ?_, X.hears, X.method, X.code, X.here, X.tail, X.warmed, ?_, ?_, ?_⟩
  · have h := X.room
    have hU : ((T.setVm s.vm).setFrames (.invoking m args :: below)).localsInUse = s.localsInUse := by
      rw [State.localsInUse_invoking hF (meth := meth) (c := c) X.method X.code, State.localsInUse_invoking X.frames X.method X.code]
    simp only [State.hasRoom, Bool.and_eq_true, decide_eq_true_eq] at h ⊢
    obtain ⟨⟨⟨⟨h1, h2, h3, h4, h5, h6⟩, h7⟩, h8⟩, h9⟩ := h
    rw [X.frames, List.length_cons] at h2 h3
    have q1 := X.heapSize
    have q2 := X.used
    simp only [hF, hU, List.length_cons, State.stackLimits_setFrames, State.stackBytes_setFrames, hl9, hb9]
    refine ⟨⟨⟨⟨by omega, by omega, by omega, by omega, by omega, h6⟩, ?_⟩, ?_⟩, X.book⟩
    · show T.heap.size + R'.cells ≤ e.platform.maxCells
      omega
    · show T.slotsUsed + R'.slots ≤ e.platform.maxSlots
      omega
  · rw [State.stackLimits_setFrames]; rfl
  · rw [State.stackBytes_setFrames]; rfl
  · refine ⟨?_, Nat.le_refl _, Nat.le_refl _, ?_, ?_, fun a c9 h9 => ⟨c9, h9, rfl, rfl, fun _ _ => rfl⟩⟩
    · obtain ⟨t, ht, -⟩ := State.frames_cons hr
      show T.setVm s.vm = { ((T.setVm s.vm).setFrames (.invoking m args :: below)).setFrames (T.setVm s.vm).frames with heap := T.heap, slotsUsed := T.slotsUsed }
      rw [State.setFrames_setFrames, State.setFrames_self ht]
      rfl
    · show T.slotsUsed = T.slotsUsed + ((T.heap.toList.drop T.heap.size).map (·.slots.size)).sum
      rw [List.drop_eq_nil_of_le (Nat.le_of_eq Array.length_toList)]
      rfl
    · show ((T.heap.toList.drop T.heap.size).map (·.slots.size)).sum ≤ 0
      rw [List.drop_eq_nil_of_le (Nat.le_of_eq Array.length_toList)]
      exact Nat.le_refl _
/-- 'throw new E()': new; dup; invokespecial; athrow -/
theorem vx_throw0 {cc : ByteArray} {pc : Nat} (hexec : p.tables.exec = Jvm.exec) (hb : c.code = cc) (hl : l.stackTraces = false) {own cls : String} {names : List String} {ik ic mc ms : Nat} {A : Nat → Prop}
    (hown : s.vm.findClass own = some m.cls) (hcls : Bundle.fit cls = true) (hnames : ∀ n ∈ names, Bundle.fit n = true)
    (hk : (Cond.classLink own ik cls).before args s = true) (hini : (Cond.initialized cls).before args s = true) (hat : ∀ w ∈ vx_at0 own ic cls names, w.before args s = true)
    (hgood : ∀ w ∈ Cond.classLink own ik cls :: Cond.initialized cls :: vx_at0 own ic cls names, vx_ot w = true)
    (hU : vx_Zq Bundle.tN "UNASSIGNED_STACK" Bundle.steD A s s.heap) (hN : vx_Zq Bundle.tN "SUPPRESSED_SENTINEL" Bundle.listD A s s.heap) (hS : va_S A s.heap H locs) (hsize : ls.size = c.maxLocals)
    (d0 : decode cc pc = .ok (.new ik, 3)) (d3 : decode cc (pc + 3) = .ok (.dup, 1)) (d4 : decode cc (pc + 4) = .ok (.invokespecial ic, 3)) (d7 : decode cc (pc + 7) = .ok (.athrow, 1))
    (hout : ∀ x ∈ c.exceptionTable.toList, covers x (pc + 7) = false)
    (hRframes : names.length + 3 < R.frames) (hRlocals : (rest.map fun v => v.category).sum + (13 * (names.length + 1) + 42) ≤ R.locals) (hRcells : cells + 1 ≤ R.cells) (hRslots : slots + 6 ≤ R.slots) (hlocks : meth.locks = false)
    (hx : ∀ t : State, s.vm.Alike t.vm → H.size ≤ t.heap.size → (∀ q : Nat, q < H.size → t.heap[q]? = H[q]?) → XC cls s t)
    (hf : ∀ z ∈ locs, free z.base) (hc : cells + 1 ≤ mc) (hs : slots + 6 ≤ ms) :
    W p l e R s m args below meth c H locs cells slots (vx_MQ below Qc XC args s mc ms free) (F0 m pc ls rest) := by
  intro T hT X
  have htr : e.platform.stackTraces = false := (show e.platform.stackTraces = l.stackTraces by rw [X.admits.platform]).trans hl
  have Y := vx_rebase X (R' := { frames := R.frames, locals := R.locals, cells := 1, slots := 6 }) (Nat.le_refl _) (Nat.le_refl _) hRcells hRslots
  obtain ⟨s', hA⟩ : ∃ z, z = (T.setVm s.vm).setFrames (.invoking m args :: below) := ⟨_, rfl⟩
  rw [← hA] at Y
  have hvm : s'.vm = s.vm := by rw [hA]; rfl
  have hhp : s'.heap = H := by rw [hA]; exact hT
  have hW0 : s.WarmedH s'.vm := by rw [hvm]; exact State.WarmedH.refl s
  have hat' : ∀ w ∈ vx_at0 own ic cls names, w.before args s' = true := fun w hw => vx_ot_at hW0 hvm.symm (hgood w (List.mem_cons_of_mem _ (List.mem_cons_of_mem _ hw))) (hat w hw)
  have hk' : (Cond.classLink own ik cls).before args s' = true := vx_ot_at hW0 hvm.symm (hgood _ List.mem_cons_self) hk
  have hini' : (Cond.initialized cls).before args s' = true := vx_ot_at hW0 hvm.symm (hgood _ (List.mem_cons_of_mem _ List.mem_cons_self)) hini
  have hU' : vx_Zq Bundle.tN "UNASSIGNED_STACK" Bundle.steD A s' s'.heap := by rw [hhp]; exact vx_Zq.moved hW0.alike (hU.kept hS.2.1)
  have hN' : vx_Zq Bundle.tN "SUPPRESSED_SENTINEL" Bundle.listD A s' s'.heap := by rw [hhp]; exact vx_Zq.moved hW0.alike (hN.kept hS.2.1)
  have h : ∀ w ∈ Bundle.ownAtoms0 own ic cls names, w.before args s' = true := vx_own hat' (vx_isRefq hU'.1) (vx_isRefq hN'.1) hU'.2.word hN'.2.word
  have hown' : s'.vm.findClass own = some m.cls := by rw [hvm]; exact hown
  have hins : (Cond.instantiable cls 6).before args s' = true := h _ (by simp [Bundle.ownAtoms0])
  obtain ⟨vm₁, cX, kX, hfX, hkX, -, -, X₁, st1⟩ := Y.newCold hexec (own := own) (C := cls) (index := ik) (n := 6) hown' hk' hins hini'
    (g := F0 m pc ls rest) rfl (by rw [hb]; exact d0) (Nat.le_refl _) (Nat.le_refl _)
  generalize hT1 : (T.setVm vm₁).pushCell { cls := cX, slots := kX.instanceTypes.map defaultValue, vm := .none } = T1 at X₁ st1
  have hcat : (Value.ref T.heap.size).category = 1 := rfl
  have hcellA : T1.heap[T.heap.size]? = some (freshCell cX kX) := by rw [← hT1]; exact State.heap_pushCell_size _ _
  have d3' : decode c.code (pc + 3) = .ok (.dup, 1) := by rw [hb]; exact d3
  obtain ⟨U, hsteps, hrun, hend, hW, hsame, ce, hce, hO⟩ := X₁.ctorThrow0 hexec htr (own := own) (cls := cls) (names := names) (ic := ic) hown' hcls hnames h (fun x hx => nomatch hx) hfX hkX hcellA (by rw [hhp, hT]; exact Nat.le_refl _)
    (g := { method := m, pc := pc + 4, locals := ls, stack := .ref T.heap.size :: .ref T.heap.size :: rest, locked := none }) rfl hsize rfl rfl (rest := rest) rfl
    (by rw [hb]; exact d4) (by rw [hb]; exact d7) hout hRframes (by simp only [List.map_cons, List.sum_cons, hcat]; omega) hlocks
  obtain ⟨f1, f2⟩ := vx_frame hsame
  rw [hhp] at f1 f2
  have hWs : s.WarmedH U.vm := State.WarmedH.trans hW0 hW
  have hcl : s.vm.findClass cls = some ce.cls := by
    have h9 := hO.cls
    rw [hvm] at h9
    exact h9
  have hall : s.sameButNew ({ U with vm := s.vm } : State) locs mc ms := by
    subst hA
    obtain ⟨e1, e2⟩ := hsame
    rw [State.setFrames_setFrames] at e1
    have h2 : (T.setVm s.vm).sameButNew ({ U with vm := s.vm } : State) [] (0 + 1) (0 + 6) := ⟨e1, e2⟩
    have h3 := X.same.trans h2
    rw [List.append_nil] at h3
    exact h3.mono hc hs
  refine ⟨U, ?_, .threw T.heap.size, hrun, hend, Or.inr ⟨T.heap.size, rfl, cls, ce, locs, hx U hWs.alike f1 (fun q hq => f2 q hq (fun z hz => nomatch hz)), hce, hO.vm, hcl, hWs, hall, hf⟩⟩
  refine st1 _ ?_
  show Steps p.tables e below (T1.setTop { method := m, pc := pc + 3, locals := ls, stack := .ref T.heap.size :: rest, locked := none }) _
  jvm_step X₁.here [X₁.here.top, hexec, d3', Value.category]
  exact hsteps
/-- 'throw new E("text")': new; dup; ldc; invokespecial; athrow -/
theorem vx_throwS {cc : ByteArray} {pc : Nat} (hexec : p.tables.exec = Jvm.exec) (hb : c.code = cc) (hl : l.stackTraces = false) {own cls text : String} {names : List String} {ik is ic mc ms sa : Nat} {A : Nat → Prop}
    (hown : s.vm.findClass own = some m.cls) (hcls : Bundle.fit cls = true) (hnames : ∀ n ∈ names, Bundle.fit n = true)
    (hk : (Cond.classLink own ik cls).before args s = true) (hini : (Cond.initialized cls).before args s = true) (hstr : vk_R own is text sa s) (hat : ∀ w ∈ vx_atS own ic cls names, w.before args s = true)
    (hgood : ∀ w ∈ Cond.classLink own ik cls :: Cond.initialized cls :: vx_atS own ic cls names, vx_ot w = true)
    (hU : vx_Zq Bundle.tN "UNASSIGNED_STACK" Bundle.steD A s s.heap) (hN : vx_Zq Bundle.tN "SUPPRESSED_SENTINEL" Bundle.listD A s s.heap) (hS : va_S A s.heap H locs) (hsize : ls.size = c.maxLocals)
    (d0 : decode cc pc = .ok (.new ik, 3)) (d3 : decode cc (pc + 3) = .ok (.dup, 1)) (d4 : decode cc (pc + 4) = .ok (.ldc is, 2)) (d6 : decode cc (pc + 6) = .ok (.invokespecial ic, 3)) (d9 : decode cc (pc + 9) = .ok (.athrow, 1))
    (hout : ∀ x ∈ c.exceptionTable.toList, covers x (pc + 9) = false)
    (hRframes : names.length + 3 < R.frames) (hRlocals : (rest.map fun v => v.category).sum + (13 * (names.length + 1) + 43) ≤ R.locals) (hRcells : cells + 1 ≤ R.cells) (hRslots : slots + 6 ≤ R.slots) (hlocks : meth.locks = false)
    (hx : ∀ t : State, s.vm.Alike t.vm → H.size ≤ t.heap.size → (∀ q : Nat, q < H.size → t.heap[q]? = H[q]?) → XC cls s t)
    (hf : ∀ z ∈ locs, free z.base) (hc : cells + 1 ≤ mc) (hs : slots + 6 ≤ ms) :
    W p l e R s m args below meth c H locs cells slots (vx_MQ below Qc XC args s mc ms free) (F0 m pc ls rest) := by
  intro T hT X
  have htr : e.platform.stackTraces = false := (show e.platform.stackTraces = l.stackTraces by rw [X.admits.platform]).trans hl
  have Y := vx_rebase X (R' := { frames := R.frames, locals := R.locals, cells := 1, slots := 6 }) (Nat.le_refl _) (Nat.le_refl _) hRcells hRslots
  obtain ⟨s', hA⟩ : ∃ z, z = (T.setVm s.vm).setFrames (.invoking m args :: below) := ⟨_, rfl⟩
  rw [← hA] at Y
  have hvm : s'.vm = s.vm := by rw [hA]; rfl
  have hhp : s'.heap = H := by rw [hA]; exact hT
  have hW0 : s.WarmedH s'.vm := by rw [hvm]; exact State.WarmedH.refl s
  have hat' : ∀ w ∈ vx_atS own ic cls names, w.before args s' = true := fun w hw => vx_ot_at hW0 hvm.symm (hgood w (List.mem_cons_of_mem _ (List.mem_cons_of_mem _ hw))) (hat w hw)
  have hk' : (Cond.classLink own ik cls).before args s' = true := vx_ot_at hW0 hvm.symm (hgood _ List.mem_cons_self) hk
  have hini' : (Cond.initialized cls).before args s' = true := vx_ot_at hW0 hvm.symm (hgood _ (List.mem_cons_of_mem _ List.mem_cons_self)) hini
  have hU' : vx_Zq Bundle.tN "UNASSIGNED_STACK" Bundle.steD A s' s'.heap := by rw [hhp]; exact vx_Zq.moved hW0.alike (hU.kept hS.2.1)
  have hN' : vx_Zq Bundle.tN "SUPPRESSED_SENTINEL" Bundle.listD A s' s'.heap := by rw [hhp]; exact vx_Zq.moved hW0.alike (hN.kept hS.2.1)
  have h : ∀ w ∈ Bundle.ownAtoms own ic cls names, w.before args s' = true := vx_own hat' (vx_isRefq hU'.1) (vx_isRefq hN'.1) hU'.2.word hN'.2.word
  have hown' : s'.vm.findClass own = some m.cls := by rw [hvm]; exact hown
  have hins : (Cond.instantiable cls 6).before args s' = true := h _ (by simp [Bundle.ownAtoms])
  obtain ⟨vm₁, cX, kX, hfX, hkX, -, -, X₁, st1⟩ := Y.newCold hexec (own := own) (C := cls) (index := ik) (n := 6) hown' hk' hins hini'
    (g := F0 m pc ls rest) rfl (by rw [hb]; exact d0) (Nat.le_refl _) (Nat.le_refl _)
  generalize hT1 : (T.setVm vm₁).pushCell { cls := cX, slots := kX.instanceTypes.map defaultValue, vm := .none } = T1 at X₁ st1
  have hcat : (Value.ref T.heap.size).category = 1 := rfl
  have hcellA : T1.heap[T.heap.size]? = some (freshCell cX kX) := by rw [← hT1]; exact State.heap_pushCell_size _ _
  have d3' : decode c.code (pc + 3) = .ok (.dup, 1) := by rw [hb]; exact d3
  have d4' : decode c.code (pc + 4) = .ok (.ldc is, 2) := by rw [hb]; exact d4
  have hstr' : vk_R own is text sa s' := vk_R.warm hW0 hstr
  obtain ⟨U, hsteps, hrun, hend, hW, hsame, ce, hce, hO⟩ := X₁.ctorThrowS hexec htr (own := own) (cls := cls) (names := names) (ic := ic) hown' hcls hnames h (fun x hx => nomatch hx) hfX hkX hcellA (by rw [hhp, hT]; exact Nat.le_refl _) (msg := .ref sa) rfl
    (g := { method := m, pc := pc + 6, locals := ls, stack := .ref sa :: .ref T.heap.size :: .ref T.heap.size :: rest, locked := none }) rfl hsize rfl rfl (rest := rest) rfl
    (by rw [hb]; exact d6) (by rw [hb]; exact d9) hout hRframes (by simp only [List.map_cons, List.sum_cons, hcat]; omega) hlocks
  obtain ⟨f1, f2⟩ := vx_frame hsame
  rw [hhp] at f1 f2
  have hWs : s.WarmedH U.vm := State.WarmedH.trans hW0 hW
  have hcl : s.vm.findClass cls = some ce.cls := by
    have h9 := hO.cls
    rw [hvm] at h9
    exact h9
  have hall : s.sameButNew ({ U with vm := s.vm } : State) locs mc ms := by
    subst hA
    obtain ⟨e1, e2⟩ := hsame
    rw [State.setFrames_setFrames] at e1
    have h2 : (T.setVm s.vm).sameButNew ({ U with vm := s.vm } : State) [] (0 + 1) (0 + 6) := ⟨e1, e2⟩
    have h3 := X.same.trans h2
    rw [List.append_nil] at h3
    exact h3.mono hc hs
  refine ⟨U, ?_, .threw T.heap.size, hrun, hend, Or.inr ⟨T.heap.size, rfl, cls, ce, locs, hx U hWs.alike f1 (fun q hq => f2 q hq (fun z hz => nomatch hz)), hce, hO.vm, hcl, hWs, hall, hf⟩⟩
  refine st1 _ ?_
  show Steps p.tables e below (T1.setTop { method := m, pc := pc + 3, locals := ls, stack := .ref T.heap.size :: rest, locked := none }) _
  jvm_step X₁.here [X₁.here.top, hexec, d3', Value.category]
  exact X₁.ldcString hexec (own := own) (text := text) (index := is) (a := sa) hown' hstr'.1 hstr'.2
    (g := { method := m, pc := pc + 4, locals := ls, stack := .ref T.heap.size :: .ref T.heap.size :: rest, locked := none }) rfl d4' _ hsteps
/-- 'throw new E("text")', the text by a wide index -/
theorem vx_throwSW {cc : ByteArray} {pc : Nat} (hexec : p.tables.exec = Jvm.exec) (hb : c.code = cc) (hl : l.stackTraces = false) {own cls text : String} {names : List String} {ik is ic mc ms sa : Nat} {A : Nat → Prop}
    (hown : s.vm.findClass own = some m.cls) (hcls : Bundle.fit cls = true) (hnames : ∀ n ∈ names, Bundle.fit n = true)
    (hk : (Cond.classLink own ik cls).before args s = true) (hini : (Cond.initialized cls).before args s = true) (hstr : vk_R own is text sa s) (hat : ∀ w ∈ vx_atS own ic cls names, w.before args s = true)
    (hgood : ∀ w ∈ Cond.classLink own ik cls :: Cond.initialized cls :: vx_atS own ic cls names, vx_ot w = true)
    (hU : vx_Zq Bundle.tN "UNASSIGNED_STACK" Bundle.steD A s s.heap) (hN : vx_Zq Bundle.tN "SUPPRESSED_SENTINEL" Bundle.listD A s s.heap) (hS : va_S A s.heap H locs) (hsize : ls.size = c.maxLocals)
    (d0 : decode cc pc = .ok (.new ik, 3)) (d3 : decode cc (pc + 3) = .ok (.dup, 1)) (d4 : decode cc (pc + 4) = .ok (.ldc_w is, 3)) (d7 : decode cc (pc + 7) = .ok (.invokespecial ic, 3)) (d10 : decode cc (pc + 10) = .ok (.athrow, 1))
    (hout : ∀ x ∈ c.exceptionTable.toList, covers x (pc + 10) = false)
    (hRframes : names.length + 3 < R.frames) (hRlocals : (rest.map fun v => v.category).sum + (13 * (names.length + 1) + 43) ≤ R.locals) (hRcells : cells + 1 ≤ R.cells) (hRslots : slots + 6 ≤ R.slots) (hlocks : meth.locks = false)
    (hx : ∀ t : State, s.vm.Alike t.vm → H.size ≤ t.heap.size → (∀ q : Nat, q < H.size → t.heap[q]? = H[q]?) → XC cls s t)
    (hf : ∀ z ∈ locs, free z.base) (hc : cells + 1 ≤ mc) (hs : slots + 6 ≤ ms) :
    W p l e R s m args below meth c H locs cells slots (vx_MQ below Qc XC args s mc ms free) (F0 m pc ls rest) := by
  intro T hT X
  have htr : e.platform.stackTraces = false := (show e.platform.stackTraces = l.stackTraces by rw [X.admits.platform]).trans hl
  have Y := vx_rebase X (R' := { frames := R.frames, locals := R.locals, cells := 1, slots := 6 }) (Nat.le_refl _) (Nat.le_refl _) hRcells hRslots
  obtain ⟨s', hA⟩ : ∃ z, z = (T.setVm s.vm).setFrames (.invoking m args :: below) := ⟨_, rfl⟩
  rw [← hA] at Y
  have hvm : s'.vm = s.vm := by rw [hA]; rfl
  have hhp : s'.heap = H := by rw [hA]; exact hT
  have hW0 : s.WarmedH s'.vm := by rw [hvm]; exact State.WarmedH.refl s
  have hat' : ∀ w ∈ vx_atS own ic cls names, w.before args s' = true := fun w hw => vx_ot_at hW0 hvm.symm (hgood w (List.mem_cons_of_mem _ (List.mem_cons_of_mem _ hw))) (hat w hw)
  have hk' : (Cond.classLink own ik cls).before args s' = true := vx_ot_at hW0 hvm.symm (hgood _ List.mem_cons_self) hk
  have hini' : (Cond.initialized cls).before args s' = true := vx_ot_at hW0 hvm.symm (hgood _ (List.mem_cons_of_mem _ List.mem_cons_self)) hini
  have hU' : vx_Zq Bundle.tN "UNASSIGNED_STACK" Bundle.steD A s' s'.heap := by rw [hhp]; exact vx_Zq.moved hW0.alike (hU.kept hS.2.1)
  have hN' : vx_Zq Bundle.tN "SUPPRESSED_SENTINEL" Bundle.listD A s' s'.heap := by rw [hhp]; exact vx_Zq.moved hW0.alike (hN.kept hS.2.1)
  have h : ∀ w ∈ Bundle.ownAtoms own ic cls names, w.before args s' = true := vx_own hat' (vx_isRefq hU'.1) (vx_isRefq hN'.1) hU'.2.word hN'.2.word
  have hown' : s'.vm.findClass own = some m.cls := by rw [hvm]; exact hown
  have hins : (Cond.instantiable cls 6).before args s' = true := h _ (by simp [Bundle.ownAtoms])
  obtain ⟨vm₁, cX, kX, hfX, hkX, -, -, X₁, st1⟩ := Y.newCold hexec (own := own) (C := cls) (index := ik) (n := 6) hown' hk' hins hini'
    (g := F0 m pc ls rest) rfl (by rw [hb]; exact d0) (Nat.le_refl _) (Nat.le_refl _)
  generalize hT1 : (T.setVm vm₁).pushCell { cls := cX, slots := kX.instanceTypes.map defaultValue, vm := .none } = T1 at X₁ st1
  have hcat : (Value.ref T.heap.size).category = 1 := rfl
  have hcellA : T1.heap[T.heap.size]? = some (freshCell cX kX) := by rw [← hT1]; exact State.heap_pushCell_size _ _
  have d3' : decode c.code (pc + 3) = .ok (.dup, 1) := by rw [hb]; exact d3
  have d4' : decode c.code (pc + 4) = .ok (.ldc_w is, 3) := by rw [hb]; exact d4
  have hstr' : vk_R own is text sa s' := vk_R.warm hW0 hstr
  obtain ⟨U, hsteps, hrun, hend, hW, hsame, ce, hce, hO⟩ := X₁.ctorThrowS hexec htr (own := own) (cls := cls) (names := names) (ic := ic) hown' hcls hnames h (fun x hx => nomatch hx) hfX hkX hcellA (by rw [hhp, hT]; exact Nat.le_refl _) (msg := .ref sa) rfl
    (g := { method := m, pc := pc + 7, locals := ls, stack := .ref sa :: .ref T.heap.size :: .ref T.heap.size :: rest, locked := none }) rfl hsize rfl rfl (rest := rest) rfl
    (by rw [hb]; exact d7) (by rw [hb]; exact d10) hout hRframes (by simp only [List.map_cons, List.sum_cons, hcat]; omega) hlocks
  obtain ⟨f1, f2⟩ := vx_frame hsame
  rw [hhp] at f1 f2
  have hWs : s.WarmedH U.vm := State.WarmedH.trans hW0 hW
  have hcl : s.vm.findClass cls = some ce.cls := by
    have h9 := hO.cls
    rw [hvm] at h9
    exact h9
  have hall : s.sameButNew ({ U with vm := s.vm } : State) locs mc ms := by
    subst hA
    obtain ⟨e1, e2⟩ := hsame
    rw [State.setFrames_setFrames] at e1
    have h2 : (T.setVm s.vm).sameButNew ({ U with vm := s.vm } : State) [] (0 + 1) (0 + 6) := ⟨e1, e2⟩
    have h3 := X.same.trans h2
    rw [List.append_nil] at h3
    exact h3.mono hc hs
  refine ⟨U, ?_, .threw T.heap.size, hrun, hend, Or.inr ⟨T.heap.size, rfl, cls, ce, locs, hx U hWs.alike f1 (fun q hq => f2 q hq (fun z hz => nomatch hz)), hce, hO.vm, hcl, hWs, hall, hf⟩⟩
  refine st1 _ ?_
  show Steps p.tables e below (T1.setTop { method := m, pc := pc + 3, locals := ls, stack := .ref T.heap.size :: rest, locked := none }) _
  jvm_step X₁.here [X₁.here.top, hexec, d3', Value.category]
  exact X₁.ldcStringW hexec (own := own) (text := text) (index := is) (a := sa) hown' hstr'.1 hstr'.2
    (g := { method := m, pc := pc + 4, locals := ls, stack := .ref T.heap.size :: .ref T.heap.size :: rest, locked := none }) rfl d4' _ hsteps
end Ends
section Bodies
variable {l : Launch}
theorem vx_ofW {y : MethodName} {ws ws' : List Cond} {rm : Room} {Pc : Array Value → State → Prop} {Qc : Array Value → State → Outcome → State → Prop} {XC : String → State → State → Prop} {mc ms : Nat} {free : Addr → Prop} {cc : ByteArray} {maxL : Nat} {ret : Option FieldType}
    (hy : plainName y.cls = true) (hw : ws = Cond.code y cc maxL ret :: ws')
    (body : ∀ p e s m args below meth c s₁, BodyLoose p l y (headSpec ws rm) cc maxL ret e s m args below meth c s₁ → c.maxLocals = maxL → (∀ x ∈ c.exceptionTable.toList, False) → Pc args s →
      W p l e (headSpec ws rm).room s m args below meth c s.heap [] 0 0 (vx_MQ below Qc XC args s mc ms free) (entryFrame m args maxL)) : vx_Met l y ws rm Pc Qc XC mc ms free := by
  refine MetFree.of_bodyS (code := cc) (maxLocals := maxL) (ret := ret) hy ?_ ?_
  · intro args s m h hn
    obtain ⟨meth, c, h1, h2, h3, h4, h5, h6, -, -⟩ := Cond.code_spec hn (atoms_spec (ws := ws) h _ (by rw [hw]; exact List.mem_cons_self))
    exact ⟨meth, c, h1, h2, h3, h4, h5, h6⟩
  · intro p e s m args below meth c s₁ B hml hP _
    have hh0 : s₁.heap = s.heap := by rw [B.state]; rfl
    have ht : ∀ x ∈ c.exceptionTable.toList, False := by
      obtain ⟨meth9, c9, h1, h2, -, -, -, -, h7, -⟩ := Cond.code_spec B.named (atoms_spec (ws := ws) B.pre _ (by rw [hw]; exact List.mem_cons_self))
      cases Option.some.inj (h1.symm.trans B.method)
      cases Option.some.inj (h2.symm.trans (Stand.of_body B).code)
      intro x hx
      rw [Array.isEmpty_iff.mp h7] at hx
      cases hx
    obtain ⟨t, a1, o, b1, b2, b3⟩ := body p e s m args below meth c s₁ B hml ht hP s₁ hh0 (Stand.of_body B)
    exact ⟨t, o, a1, b1, b2, b3⟩
/-- the table of a body with handlers -/
theorem vx_table {p : Program} {x y : MethodName} {S : Spec} {cc bytes : ByteArray} {maxL maxL' : Nat} {ret ret' : Option FieldType} {e : Env} {s s₁ : State} {m : MethodId} {args : Array Value} {below : List Frame} {meth : Method} {c : Code} {hh : List (Nat × Nat × Nat × Nat)}
    (B : BodyLoose p l y S cc maxL ret e s m args below meth c s₁) (h : (Cond.codeWith y bytes maxL' ret' hh).before args s = true) : c.exceptionTable.toList = tableOf hh := by
  obtain ⟨m9, meth9, c9, hn9, h1, h2, -, -, h6, -⟩ := Cond.codeWith_spec h
  cases Option.some.inj (hn9.symm.trans B.named)
  cases Option.some.inj (h1.symm.trans B.method)
  cases Option.some.inj (h2.symm.trans (Stand.of_body B).code)
  rw [← h6, table_eq]
end Bodies
end VXA
/-! ===== END ===== -/
/-! ===== BEGIN a static call of a method with an exception table ===== -/
section VXS
variable {p : Program} {l : Launch} {e : Env} {R : Room} {s : State} {m : MethodId} {args : Array Value} {below : List Frame} {meth : Method} {c : Code} {T : State} {H : Heap} {locs : List Loc} {cells slots : Nat}
abbrev vx_CSW (R : Room) (s : State) (args : Array Value) (own : String) (index : Nat) (y : MethodName) (bytes : ByteArray) (maxL : Nat) (ret : Option FieldType) (hh : List (Nat × Nat × Nat × Nat)) (ws : List Cond) (rm : Room) (mc ms n : Nat) : Prop :=
  (rm.cells = mc ∧ rm.slots = ms ∧ rm.frames + 1 ≤ R.frames ∧ 8 + (maxL + 11) + rm.locals ≤ R.locals ∧ (∀ w ∈ ws, ∀ (a' : Array Value) (U : State), s.WarmedH U.vm → w.before a' U = true) ∧ Cond.codeWith y bytes maxL ret hh ∈ ws) ∧
  (Cond.codeWith y bytes maxL ret hh).before args s = true ∧ (Cond.initialized y.cls).before args s = true ∧ (y.cls ≠ "java/lang/invoke/MethodHandle" ∧ y.cls ≠ "java/lang/invoke/VarHandle") ∧
  (∀ sig, parseMethodDescriptor y.desc = some sig → n = sig.parameters.length) ∧ (Cond.methodLink own index y).before args s = true ∧ (Cond.static y).before args s = true
theorem vx_cwSW {own : String} {index maxL mc ms : Nat} {y : MethodName} {bytes : ByteArray} {ret : Option FieldType} {hh : List (Nat × Nat × Nat × Nat)} {Ts ws ws' : List Cond} {rm : Room} (n : Nat) (ht : ∀ w ∈ Ts, w.before args s = true) (hT : GoodIn Ts (va_wsS own index y ws)) (hw : ws = Cond.codeWith y bytes maxL ret hh :: ws') (hrc : rm.cells = mc) (hrs : rm.slots = ms)
    (hd : y.cls ≠ "java/lang/invoke/MethodHandle" ∧ y.cls ≠ "java/lang/invoke/VarHandle" ∧ (parseMethodDescriptor y.desc).map (fun d => d.parameters.length) = some n) (hR : rm.frames + 1 ≤ R.frames ∧ 8 + (maxL + 11) + rm.locals ≤ R.locals) :
    vx_CSW R s args own index y bytes maxL ret hh ws rm mc ms n := by
  have ok : ∀ w ∈ va_wsS own index y ws, w.before args s = true := fun w h => ht w (hT w h).1
  have hG : GoodIn Ts ws := fun w h => hT w (by unfold va_wsS; exact List.mem_append_right _ h)
  have hc : Cond.codeWith y bytes maxL ret hh ∈ ws := by rw [hw]; exact List.mem_cons_self
  refine ⟨⟨hrc, hrs, hR.1, hR.2, pay_in ht hG, hc⟩, ht _ (hG _ hc).1, ok _ (by simp [va_wsS]), ⟨hd.1, hd.2.1⟩, fun sig h => ?_, ok _ (by simp [va_wsS]), ok _ (by simp [va_wsS])⟩
  have h2 := hd.2.2
  rw [h] at h2
  exact (Option.some.inj h2).symm
theorem vx_callSW (X : Stand p l e R s m args below meth c T locs cells slots) (hexec : p.tables.exec = Jvm.exec) {own : String} {index : Nat} {y : MethodName} {bytes : ByteArray} {maxL : Nat} {ret : Option FieldType} {hh : List (Nat × Nat × Nat × Nat)}
    (hown : s.vm.findClass own = some m.cls) (hlink : (Cond.methodLink own index y).before args s = true) (hstat : (Cond.static y).before args s = true) (hinit : (Cond.initialized y.cls).before args s = true)
    (hcode : (Cond.codeWith y bytes maxL ret hh).before args s = true) (hy : y.cls ≠ "java/lang/invoke/MethodHandle" ∧ y.cls ≠ "java/lang/invoke/VarHandle")
    {W9 : Nat} {Pre : Pt → Array Value → Prop} {Post : Pt → Array Value → Option Value → Pt → Prop} (hK : Back l R p e below s args y 3 W9 Pre Post)
    {g : JFrame} (hg : g.method = m) (hsize : g.locals.size = c.maxLocals) {argsL rest : List Value} (hlen : ∀ sig, parseMethodDescriptor y.desc = some sig → argsL.length = sig.parameters.length)
    (hstack : g.stack = argsL.reverse ++ rest) (hW : 2 * g.monitorRoom + (rest.map fun v => v.category).sum ≤ W9) (hdg : decode c.code g.pc = .ok (.invokestatic index, 3))
    (hpre : ∀ vm₁, s.WarmedH vm₁ → Pre ⟨T.setVm vm₁, locs, cells, slots⟩ argsL.toArray) :
    ∃ (v : Option Value) (vm₁ : Vm) (B : Pt), s.WarmedH vm₁ ∧ Stand p l e R s m args below meth c B.U B.locs B.cells B.slots ∧ Post ⟨T.setVm vm₁, locs, cells, slots⟩ argsL.toArray v B ∧
      ∀ target, Steps p.tables e below (B.U.setTop { g with pc := g.pc + 3, stack := v.toList ++ rest }) target → Steps p.tables e below (T.setTop g) target := by
  obtain ⟨mk, methM, cM, hnamed, hmethM, -, -, -, -, -, -, hsigM⟩ := Cond.codeWith_spec hcode
  have hstatic : methM.isStatic = true := Cond.static_spec hnamed hmethM hstat
  obtain ⟨kP, hkP, -⟩ := className_of_methodNamed hnamed
  have hinitP : kP.init = .initialized := Cond.initialized_spec (findClass_of_methodNamed hnamed) hkP hinit
  obtain ⟨vm₁, X₁, hstep₁⟩ := X.invokestatic hexec hown hlink hnamed hmethM hstatic hkP hinitP hy (g := g) hg (argsL := argsL) (rest := rest) (hlen _ hsigM) hstack hdg
  obtain ⟨v, B, X', hpost, hsteps⟩ := hK m meth c ⟨T.setVm vm₁, locs, cells, slots⟩ { g with stack := rest } (.invokestatic index) mk argsL.toArray X₁ hg hsize hdg hW (X₁.named hnamed) (hpre vm₁ X₁.warmed)
  exact ⟨v, vm₁, B, X₁.warmed, X', hpost, fun target h => hstep₁ _ fun acts => by rw [doInvoke_state]; exact hsteps.trans h⟩
theorem vx_runSW {y : MethodName} {bytes cc : ByteArray} {maxL nL mc ms n index : Nat} {ret : Option FieldType} {hh : List (Nat × Nat × Nat × Nat)} {ws : List Cond} {rm : Room} {Pc : Array Value → State → Prop} {Qc : Array Value → State → Outcome → State → Prop} {free : Addr → Prop} {Ts : List Cond} {own : String} {As rest : List Value} {g : JFrame}
    (S : CallFix p m c cc nL s args Ts own) (hM : Met l y ws rm Pc Qc mc ms free) (cw : vx_CSW R s args own index y bytes maxL ret hh ws rm mc ms n) (hp : PreS s H Pc As)
    (hg : g.method = m) (hn : As.length = n) (hsize : g.locals.size = nL) (hstack : g.stack = As.reverse ++ rest) (hW : 2 * g.monitorRoom + (rest.map fun v => v.category).sum ≤ 8) (hdg : decode cc g.pc = .ok (.invokestatic index, 3)) (hf : cells + mc ≤ R.cells ∧ slots + ms ≤ R.slots) :
    va_Run p l e R s m args below meth c H locs cells slots mc ms g rest (Qc As.toArray) (free) := by
  obtain ⟨⟨hrc, hrs, hfr, hlo, hws, hcw⟩, hcode, hini, hy, hlen, hl, hstt⟩ := cw
  have hK : Back l R p e below s args y 3 8 (PreOf R mc ms Pc) (PostOf Qc mc ms free) := va_backW (hh := hh) (bytes := bytes) (maxL := maxL) (ret := ret) hM hp.1 hrc hrs hfr hlo hws hcw (fun a' U hW => word_at hW (Or.inl (by first | rfl | simp [Cond.onTables, Cond.keeps, Cond.steady])) hini)
  obtain ⟨hx, hb, hml, ho, -⟩ := S
  intro T hT X
  obtain ⟨v, vm₁, ⟨U', l2, c2, s2⟩, hW₁, X', ⟨g', mk, t, L, e1, e2, hq, h1, hL, h2, h3⟩, st⟩ := vx_callSW X hx (hh := hh) (bytes := bytes) (maxL := maxL) (ret := ret) ho hl hstt hini hcode hy hK hg (hsize.trans hml.symm) (argsL := As) (rest := rest) (fun sig h => hn.trans (hlen sig h)) hstack hW (by rw [hb]; exact hdg)
    (fun vm₁ hW₁ => ⟨hf.1, hf.2, hp.2 (T.setVm vm₁) hT hW₁⟩)
  dsimp only [Pt.U, Pt.locs, Pt.cells, Pt.slots] at X' e1 e2 h1 h2 h3 st
  subst h1; subst h2; subst h3
  exact ⟨v, (T.setVm vm₁).calling g' mk As.toArray, t, U', L, hT, X', hL, e1, e2, hq, st⟩
/-- not caught here, past rows that name other classes: it goes on to the caller -/
theorem vx_outP {p : Program} {l : Launch} {e : Env} {R : Room} {s : State} {m : MethodId} {args : Array Value} {below : List Frame} {meth : Method} {c : Code} {H : Heap} {locs : List Loc} {cells slots : Nat} {free : Addr → Prop} {ls : Array Slot} {rest : List Value} {Qc : Array Value → State → Outcome → State → Prop} {XC : String → State → State → Prop}
    {pc : Nat} {own E : String} {ce : Cell} {q : Addr} {mc ms : Nat} (hown : s.vm.findClass own = some m.cls) (hlocks : meth.locks = false)
    (hpass : ∀ z ∈ c.exceptionTable.toList, covers z pc = false ∨ (z.catchType ≠ 0 ∧ ∃ nm : String, (Cond.classLink own z.catchType nm).before args s = true ∧ va_Nc E nm s)) (hcell : H[q]? = some ce) (hv : ce.vm = .none) (hcl : s.vm.findClass E = some ce.cls)
    (hx : ∀ t : State, t.heap = H → s.vm.Alike t.vm → XC E s t) (hf : ∀ z ∈ locs, free z.base) (hc : cells ≤ mc) (hs : slots ≤ ms) :
    vx_W p l e R s m args below meth c H locs cells slots (vx_MQ below Qc XC args s mc ms free) (F0 m pc ls rest) q := by
  intro T hT X
  have hpl : e.platform.magicAccessors = ({} : Platform).magicAccessors := by rw [X.admits.platform]
  obtain ⟨vm', hW', X', st⟩ := X.outThrough hlocks q (g := F0 m pc ls rest) rfl rfl rfl (cell := ce) (by rw [hT]; exact hcell) (by rw [hv]; rfl)
    (by obtain ⟨k9, h9, -⟩ := Vm.findClass_spec hcl; exact ⟨k9, h9⟩) (fun z hz => by
      rcases hpass z hz with h | ⟨hz0, nm, hl1, hn1⟩
      · exact Or.inl h
      · obtain ⟨c6, hc6, hcl6⟩ := Cond.classLink_spec hown hl1 e.platform hpl
        obtain ⟨a8, b8, h1, h2, h3⟩ := hn1
        cases Option.some.inj (h1.symm.trans hcl)
        cases Option.some.inj (h2.symm.trans hc6)
        exact Or.inr ⟨hz0, _, hcl6, h3⟩)
  obtain ⟨g₀, hfr⟩ := X'.frames_eq
  have hcell9 : ((T.setVm vm').setFrames (.throwing q :: below)).heap[q]? = some ce := by
    show T.heap[q]? = some ce
    rw [hT]; exact hcell
  have hend : Ended ((T.setVm vm').setFrames (.throwing q :: below)) below (.threw q) := State.frames_setFrames _ (State.cur_lt_of_frames hfr)
  refine ⟨(T.setVm vm').setFrames (.throwing q :: below), ?_, .threw q, X'.here.running, hend, Or.inr ⟨q, rfl, E, ce, locs, hx _ hT (X'.ends _).1.alike, hcell9, hv, hcl, (X'.ends _).1, (X'.ends _).2.mono hc hs, hf⟩⟩
  rw [X.pushThrowing_eq]
  exact st
/-- a thing of a world lies in the heap -/
theorem vx_lt {D : va_G} {cl : List vw_C} {ws : va_W} {H1 : Heap} (h : va_P D cl ws H1) {k : Nat} {q : Nat × va_E} (hk : ws[k]? = some q) : q.1 < H1.size := (h k q hk).lt
end VXS
/-! ===== END ===== -/
/-! ===== BEGIN methods with a table of their own: called by a name, returning or throwing ===== -/
section VXH
/-! vx_backW, vx_callVX, vx_callSX, vx_callVW, vx_runVW, vx_runVX, vx_runSX, vx_ofWH follow the same proofs as their sisters above (Free/Laws.lean, Shelf42/LK1.lean); vx_outP calls Shelf42/NT130.lean (outThrough). -/
section
variable {l : Launch} {R : Room} {p : Program} {e : Env} {below : List Frame} {s : State} {sargs : Array Value} {y : MethodName} {len W9 : Nat}
theorem vx_backW {ws : List Cond} {rm : Room} {Pc : Array Value → State → Prop} {Qc : Array Value → State → Outcome → State → Prop} {XC : String → State → State → Prop} {mc ms : Nat} {free : Addr → Prop} {bytes : ByteArray} {maxL : Nat} {ret : Option FieldType} {hh : List (Nat × Nat × Nat × Nat)}
    (hM : vx_Met l y ws rm Pc Qc XC mc ms free) (hblind : FrameBlind Pc) (hrc : rm.cells = mc) (hrs : rm.slots = ms)
    (hframes : rm.frames + 1 ≤ R.frames) (hlocals : W9 + (maxL + 11) + rm.locals ≤ R.locals)
    (hws : ∀ w ∈ ws, ∀ a' U, s.WarmedH U.vm → w.before a' U = true) (hcode : Cond.codeWith y bytes maxL ret hh ∈ ws) (hinit : ∀ a' U, s.WarmedH U.vm → (Cond.initialized y.cls).before a' U = true) :
    vx_Back l R p e below s sargs y len W9 (PreOf R mc ms Pc) (PostOf Qc mc ms free) (vx_Post XC mc ms free) := by
  intro m meth c A g ig mk a X hg hsize hdg hW hn hp
  have h1 : (headSpec ws rm).pre.before a A.U = true := atoms_intro fun w hw => hws w hw _ _ X.warmed
  have h2 : (Cond.codeWith y bytes maxL ret hh).before a A.U = true := hws _ hcode _ _ X.warmed
  have h3 : (Cond.initialized y.cls).before a A.U = true := hinit _ _ X.warmed
  have h4 : A.cells + (headSpec ws rm).room.cells ≤ R.cells := by rw [show (headSpec ws rm).room.cells = mc from hrc]; exact hp.1
  have h5 : A.slots + (headSpec ws rm).room.slots ≤ R.slots := by rw [show (headSpec ws rm).room.slots = ms from hrs]; exact hp.2.1
  have hPc : Pc a (A.U.calling g mk a) := hblind _ _ _ _ hp.2.2
  obtain ⟨U, Ls, c0, s0⟩ := A
  dsimp only [Pt.U, Pt.locs, Pt.cells, Pt.slots] at h1 h2 h3 h4 h5 X hn hPc ⊢
  obtain ⟨m9, methY, cY, hn9, hmY, hcY, -, hlY, -⟩ := Cond.codeWith_spec h2
  cases Option.some.inj (hn9.symm.trans hn)
  obtain ⟨kY, hkY, -⟩ := className_of_methodNamed hn
  have hinitY : kY.init = .initialized := Cond.initialized_spec (findClass_of_methodNamed hn) hkY h3
  have h : At U g.method c below := by rw [hg]; exact X.here
  have hlocals9 : W9 + (maxL + 11) + (headSpec ws rm).room.locals ≤ R.locals := hlocals
  have happ : (headSpec ws rm).appliesLoose y e.platform (U.calling g mk a) = true :=
    Spec.appliesLoose_calling (g := g) h hdg hn hkY hinitY
      (X.room_calling (g := g) (R' := (headSpec ws rm).room) hsize hmY hcY hframes (by rw [hlY]; omega) h4 h5) h1
  obtain ⟨mid, hmid⟩ := h.above
  have hfr : (U.setTop g).frames = (.java g :: mid) ++ below := by rw [State.frames_setTop' g h.top, hmid]; rfl
  obtain ⟨o, s₂, hsteps, -, hend, hq⟩ := Steps.callFree hM p X.admits X.cas X.clock (acts := []) hfr happ hPc trivial
  have hq' : vx_Q Qc XC mc ms free a (U.calling g mk a) o s₂ := hq
  rw [State.frames_setTop' g h.top] at hend
  obtain ⟨g₀, hg0⟩ := Option.isSome_iff_exists.mp h.top
  obtain ⟨r, hr⟩ := State.topJava?_eq_some.mp hg0
  have hr' : (({ U with heap := s₂.heap, slotsUsed := s₂.slotsUsed } : State).setVm s₂.vm).frames = .java g₀ :: r := hr
  rcases hq' with ⟨hqc, L, hfe, hL⟩ | ⟨q, rfl, E, ce, L, hx, hce, hcv, hcl, hW₂, hsm, hL⟩
  · obtain ⟨⟨v, rfl⟩, hW₂, e2, q2, q3, q4, q5, q6⟩ := id hfe
    have e3 : s₂ = ({ (U.calling g mk a).setFrames s₂.frames with heap := s₂.heap, slotsUsed := s₂.slotsUsed } : State).setVm s₂.vm := by
      have : s₂ = ({ s₂ with vm := (U.calling g mk a).vm } : State).setVm s₂.vm := rfl
      rw [e2] at this
      exact this
    obtain ⟨c₂, i₂, len₂, hc₂, hd₂, hf₂⟩ := hend
    have hW' : U.WarmedH s₂.vm := hW₂
    have hcc : c₂ = c := by
      have h1 : s₂.code? g.method = U.code? g.method := by
        rw [State.code?_eq, State.code?_eq, hW'.alike.method?]
      exact Option.some.inj (hc₂.symm.trans (h1.trans h.code))
    subst hcc
    have hlen : len₂ = len := by rw [hdg] at hd₂; cases hd₂; rfl
    subst hlen
    have hs₂ : s₂ = (({ U with heap := s₂.heap, slotsUsed := s₂.slotsUsed } : State).setVm s₂.vm).setTop { g with pc := g.pc + len₂, stack := v.toList ++ g.stack } := by
      refine e3.trans ?_
      rw [hf₂, State.calling_eq h.top, State.setFrames_setFrames, State.setTop_of_frames _ hr', hr]
      rfl
    have hsame : U.sameButNew ({ U with heap := s₂.heap, slotsUsed := s₂.slotsUsed } : State) L mc ms := by
      refine ⟨?_, q2, q3, q4, q5, q6⟩
      obtain ⟨t, ht, -⟩ := State.frames_cons hr
      show ({ U with heap := s₂.heap, slotsUsed := s₂.slotsUsed } : State) = { U.setFrames U.frames with heap := s₂.heap, slotsUsed := s₂.slotsUsed }
      rw [State.setFrames_self ht]
    subst hg
    refine Or.inl ⟨v, ⟨(({ U with heap := s₂.heap, slotsUsed := s₂.slotsUsed } : State).setVm s₂.vm), Ls ++ L, c0 + mc, s0 + ms⟩,
      ⟨X.admits, X.cas, X.clock, X.frames, X.room, X.hears, X.method, X.code, (X.here.setHeapUsed s₂.heap s₂.slotsUsed).setVm hW'.alike, X.tail, State.WarmedH.trans X.warmed hW', X.limits, X.bytes, X.same.trans (hsame.setVm s.vm)⟩,
      ⟨g, mk, s₂, L, rfl, rfl, hqc, rfl, hL, rfl, rfl⟩, ?_⟩
    show Steps p.tables e below _ ((({ U with heap := s₂.heap, slotsUsed := s₂.slotsUsed } : State).setVm s₂.vm).setTop { g with pc := g.pc + len₂, stack := v.toList ++ g.stack })
    rw [← hs₂]
    exact hsteps
  · obtain ⟨e2, q2, q3, q4, q5, q6⟩ := id hsm
    have e3 : s₂ = ({ (U.calling g mk a).setFrames s₂.frames with heap := s₂.heap, slotsUsed := s₂.slotsUsed } : State).setVm s₂.vm := by
      have : s₂ = ({ s₂ with vm := (U.calling g mk a).vm } : State).setVm s₂.vm := rfl
      rw [e2] at this
      exact this
    have hf₂ : s₂.frames = .throwing q :: .java g :: U.frames.tail := hend
    have hW' : U.WarmedH s₂.vm := hW₂
    have hs₂ : s₂ = ((({ U with heap := s₂.heap, slotsUsed := s₂.slotsUsed } : State).setVm s₂.vm).setTop g).pushFrame (.throwing q) := by
      refine e3.trans ?_
      rw [hf₂, State.calling_eq h.top, State.setFrames_setFrames, State.pushFrame, State.frames_setTop _ hr', State.setTop_of_frames _ hr', State.setFrames_setFrames, hr]
      rfl
    have hsame : U.sameButNew ({ U with heap := s₂.heap, slotsUsed := s₂.slotsUsed } : State) L mc ms := by
      refine ⟨?_, q2, q3, q4, q5, q6⟩
      obtain ⟨t, ht, -⟩ := State.frames_cons hr
      show ({ U with heap := s₂.heap, slotsUsed := s₂.slotsUsed } : State) = { U.setFrames U.frames with heap := s₂.heap, slotsUsed := s₂.slotsUsed }
      rw [State.setFrames_self ht]
    subst hg
    refine Or.inr ⟨q, ⟨(({ U with heap := s₂.heap, slotsUsed := s₂.slotsUsed } : State).setVm s₂.vm), Ls ++ L, c0 + mc, s0 + ms⟩,
      ⟨X.admits, X.cas, X.clock, X.frames, X.room, X.hears, X.method, X.code, (X.here.setHeapUsed s₂.heap s₂.slotsUsed).setVm hW'.alike, X.tail, State.WarmedH.trans X.warmed hW', X.limits, X.bytes, X.same.trans (hsame.setVm s.vm)⟩,
      ⟨g, mk, s₂, L, E, ce, rfl, rfl, hx, hce, hcv, hcl, rfl, hL, rfl, rfl⟩, ?_⟩
    show Steps p.tables e below _ (((({ U with heap := s₂.heap, slotsUsed := s₂.slotsUsed } : State).setVm s₂.vm).setTop g).pushFrame (.throwing q))
    rw [← hs₂]
    exact hsteps
end
variable {p : Program} {l : Launch} {e : Env} {R : Room} {s : State} {m : MethodId} {args : Array Value} {below : List Frame} {meth : Method} {c : Code} {T : State} {H : Heap} {locs : List Loc} {cells slots : Nat}
theorem vx_callVX (X : Stand p l e R s m args below meth c T locs cells slots) (hexec : p.tables.exec = Jvm.exec) {own C : String} {index : Nat} {y : MethodName} {bytes : ByteArray} {maxL : Nat} {ret : Option FieldType} {hh : List (Nat × Nat × Nat × Nat)}
    (hown : s.vm.findClass own = some m.cls) (hlink : (Cond.methodLink own index y).before args s = true) (hinst : (Cond.instanceMethod y).before args s = true) (hsel : (Cond.selects C y y).before args s = true)
    (hcode : (Cond.codeWith y bytes maxL ret hh).before args s = true) (hy : y.cls ≠ "java/lang/invoke/MethodHandle" ∧ y.cls ≠ "java/lang/invoke/VarHandle")
    {W9 : Nat} {Pre : Pt → Array Value → Prop} {Post : Pt → Array Value → Option Value → Pt → Prop} {PostX : Pt → Array Value → Addr → Pt → Prop} (hK : vx_Back l R p e below s args y 3 W9 Pre Post PostX)
    {b : Addr} {cellB : Cell} (hcell : T.heap[b]? = some cellB) (hobj : cellB.vm.isStatics = false) (hcls : s.vm.findClass C = some cellB.cls)
    {g : JFrame} (hg : g.method = m) (hsize : g.locals.size = c.maxLocals) {argsL rest : List Value} (hlen : ∀ sig, parseMethodDescriptor y.desc = some sig → argsL.length = sig.parameters.length)
    (hstack : g.stack = argsL.reverse ++ .ref b :: rest) (hW : 2 * g.monitorRoom + (rest.map fun v => v.category).sum ≤ W9) (hdg : decode c.code g.pc = .ok (.invokevirtual index, 3))
    (hpre : ∀ vm₁, s.WarmedH vm₁ → Pre ⟨T.setVm vm₁, locs, cells, slots⟩ (Value.ref b :: argsL).toArray) :
    (∃ (v : Option Value) (vm₁ : Vm) (B : Pt), s.WarmedH vm₁ ∧ Stand p l e R s m args below meth c B.U B.locs B.cells B.slots ∧ Post ⟨T.setVm vm₁, locs, cells, slots⟩ (Value.ref b :: argsL).toArray v B ∧
      ∀ target, Steps p.tables e below (B.U.setTop { g with pc := g.pc + 3, stack := v.toList ++ rest }) target → Steps p.tables e below (T.setTop g) target) ∨
    (∃ (q : Addr) (vm₁ : Vm) (B : Pt), s.WarmedH vm₁ ∧ Stand p l e R s m args below meth c B.U B.locs B.cells B.slots ∧ PostX ⟨T.setVm vm₁, locs, cells, slots⟩ (Value.ref b :: argsL).toArray q B ∧
      Steps p.tables e below (T.setTop g) ((B.U.setTop { g with stack := rest }).pushFrame (.throwing q))) := by
  obtain ⟨mk, methM, hnamed, hmethM, hstM, habM⟩ := Cond.instanceMethod_spec hinst
  obtain ⟨m8, methM', cM, hn8, hmethM', -, -, -, -, -, -, hsigM⟩ := Cond.codeWith_spec hcode
  cases Option.some.inj (hn8.symm.trans hnamed)
  cases hmethM.symm.trans hmethM'
  obtain ⟨c2, r2, m2, q1, q2, q3, q4, kP, hkP, hkPi⟩ := Cond.selects_spec hsel
  cases hcls.symm.trans q1
  cases (State.methodFound?_of_named hnamed hy).symm.trans q2
  cases hnamed.symm.trans q3
  have hselP : selectMethod e.platform s.vm cellB.cls mk = .method mk := by rw [Launch.admits_selectMethod X.admits]; exact q4
  obtain ⟨vm₁, X₁, hstep₁⟩ := X.invokevirtual hexec hown hlink hnamed hmethM hstM hkP hkPi hy (a := b) (cell := cellB) hcell
    (fun z h => by rw [h] at hobj; cases hobj) hselP hmethM habM hkP hkPi (g := g) hg (argsL := argsL) (rest := rest) (hlen _ hsigM) hstack hdg
  rcases hK m meth c ⟨T.setVm vm₁, locs, cells, slots⟩ { g with stack := rest } (.invokevirtual index) mk (Value.ref b :: argsL).toArray X₁ hg hsize hdg hW (X₁.named hnamed) (hpre vm₁ X₁.warmed) with ⟨v, B, X', hpost, hsteps⟩ | ⟨q, B, X', hpost, hsteps⟩
  · exact Or.inl ⟨v, vm₁, B, X₁.warmed, X', hpost, fun target h => hstep₁ _ fun acts => by rw [doInvoke_state]; exact hsteps.trans h⟩
  · exact Or.inr ⟨q, vm₁, B, X₁.warmed, X', hpost, hstep₁ _ fun acts => by rw [doInvoke_state]; exact hsteps⟩
theorem vx_callSX (X : Stand p l e R s m args below meth c T locs cells slots) (hexec : p.tables.exec = Jvm.exec) {own : String} {index : Nat} {y : MethodName} {bytes : ByteArray} {maxL : Nat} {ret : Option FieldType} {hh : List (Nat × Nat × Nat × Nat)}
    (hown : s.vm.findClass own = some m.cls) (hlink : (Cond.methodLink own index y).before args s = true) (hstat : (Cond.static y).before args s = true) (hinit : (Cond.initialized y.cls).before args s = true)
    (hcode : (Cond.codeWith y bytes maxL ret hh).before args s = true) (hy : y.cls ≠ "java/lang/invoke/MethodHandle" ∧ y.cls ≠ "java/lang/invoke/VarHandle")
    {W9 : Nat} {Pre : Pt → Array Value → Prop} {Post : Pt → Array Value → Option Value → Pt → Prop} {PostX : Pt → Array Value → Addr → Pt → Prop} (hK : vx_Back l R p e below s args y 3 W9 Pre Post PostX)
    {g : JFrame} (hg : g.method = m) (hsize : g.locals.size = c.maxLocals) {argsL rest : List Value} (hlen : ∀ sig, parseMethodDescriptor y.desc = some sig → argsL.length = sig.parameters.length)
    (hstack : g.stack = argsL.reverse ++ rest) (hW : 2 * g.monitorRoom + (rest.map fun v => v.category).sum ≤ W9) (hdg : decode c.code g.pc = .ok (.invokestatic index, 3))
    (hpre : ∀ vm₁, s.WarmedH vm₁ → Pre ⟨T.setVm vm₁, locs, cells, slots⟩ argsL.toArray) :
    (∃ (v : Option Value) (vm₁ : Vm) (B : Pt), s.WarmedH vm₁ ∧ Stand p l e R s m args below meth c B.U B.locs B.cells B.slots ∧ Post ⟨T.setVm vm₁, locs, cells, slots⟩ argsL.toArray v B ∧
      ∀ target, Steps p.tables e below (B.U.setTop { g with pc := g.pc + 3, stack := v.toList ++ rest }) target → Steps p.tables e below (T.setTop g) target) ∨
    (∃ (q : Addr) (vm₁ : Vm) (B : Pt), s.WarmedH vm₁ ∧ Stand p l e R s m args below meth c B.U B.locs B.cells B.slots ∧ PostX ⟨T.setVm vm₁, locs, cells, slots⟩ argsL.toArray q B ∧
      Steps p.tables e below (T.setTop g) ((B.U.setTop { g with stack := rest }).pushFrame (.throwing q))) := by
  obtain ⟨mk, methM, cM, hnamed, hmethM, -, -, -, -, -, -, hsigM⟩ := Cond.codeWith_spec hcode
  have hstatic : methM.isStatic = true := Cond.static_spec hnamed hmethM hstat
  obtain ⟨kP, hkP, -⟩ := className_of_methodNamed hnamed
  have hinitP : kP.init = .initialized := Cond.initialized_spec (findClass_of_methodNamed hnamed) hkP hinit
  obtain ⟨vm₁, X₁, hstep₁⟩ := X.invokestatic hexec hown hlink hnamed hmethM hstatic hkP hinitP hy (g := g) hg (argsL := argsL) (rest := rest) (hlen _ hsigM) hstack hdg
  rcases hK m meth c ⟨T.setVm vm₁, locs, cells, slots⟩ { g with stack := rest } (.invokestatic index) mk argsL.toArray X₁ hg hsize hdg hW (X₁.named hnamed) (hpre vm₁ X₁.warmed) with ⟨v, B, X', hpost, hsteps⟩ | ⟨q, B, X', hpost, hsteps⟩
  · exact Or.inl ⟨v, vm₁, B, X₁.warmed, X', hpost, fun target h => hstep₁ _ fun acts => by rw [doInvoke_state]; exact hsteps.trans h⟩
  · exact Or.inr ⟨q, vm₁, B, X₁.warmed, X', hpost, hstep₁ _ fun acts => by rw [doInvoke_state]; exact hsteps⟩
theorem vx_callVW (X : Stand p l e R s m args below meth c T locs cells slots) (hexec : p.tables.exec = Jvm.exec) {own C : String} {index : Nat} {y : MethodName} {bytes : ByteArray} {maxL : Nat} {ret : Option FieldType} {hh : List (Nat × Nat × Nat × Nat)}
    (hown : s.vm.findClass own = some m.cls) (hlink : (Cond.methodLink own index y).before args s = true) (hinst : (Cond.instanceMethod y).before args s = true) (hsel : (Cond.selects C y y).before args s = true)
    (hcode : (Cond.codeWith y bytes maxL ret hh).before args s = true) (hy : y.cls ≠ "java/lang/invoke/MethodHandle" ∧ y.cls ≠ "java/lang/invoke/VarHandle")
    {W9 : Nat} {Pre : Pt → Array Value → Prop} {Post : Pt → Array Value → Option Value → Pt → Prop} (hK : Back l R p e below s args y 3 W9 Pre Post)
    {b : Addr} {cellB : Cell} (hcell : T.heap[b]? = some cellB) (hobj : cellB.vm.isStatics = false) (hcls : s.vm.findClass C = some cellB.cls)
    {g : JFrame} (hg : g.method = m) (hsize : g.locals.size = c.maxLocals) {argsL rest : List Value} (hlen : ∀ sig, parseMethodDescriptor y.desc = some sig → argsL.length = sig.parameters.length)
    (hstack : g.stack = argsL.reverse ++ .ref b :: rest) (hW : 2 * g.monitorRoom + (rest.map fun v => v.category).sum ≤ W9) (hdg : decode c.code g.pc = .ok (.invokevirtual index, 3))
    (hpre : ∀ vm₁, s.WarmedH vm₁ → Pre ⟨T.setVm vm₁, locs, cells, slots⟩ (Value.ref b :: argsL).toArray) :
    ∃ (v : Option Value) (vm₁ : Vm) (B : Pt), s.WarmedH vm₁ ∧ Stand p l e R s m args below meth c B.U B.locs B.cells B.slots ∧ Post ⟨T.setVm vm₁, locs, cells, slots⟩ (Value.ref b :: argsL).toArray v B ∧
      ∀ target, Steps p.tables e below (B.U.setTop { g with pc := g.pc + 3, stack := v.toList ++ rest }) target → Steps p.tables e below (T.setTop g) target := by
  obtain ⟨mk, methM, hnamed, hmethM, hstM, habM⟩ := Cond.instanceMethod_spec hinst
  obtain ⟨m8, methM', cM, hn8, hmethM', -, -, -, -, -, -, hsigM⟩ := Cond.codeWith_spec hcode
  cases Option.some.inj (hn8.symm.trans hnamed)
  cases hmethM.symm.trans hmethM'
  obtain ⟨c2, r2, m2, q1, q2, q3, q4, kP, hkP, hkPi⟩ := Cond.selects_spec hsel
  cases hcls.symm.trans q1
  cases (State.methodFound?_of_named hnamed hy).symm.trans q2
  cases hnamed.symm.trans q3
  have hselP : selectMethod e.platform s.vm cellB.cls mk = .method mk := by rw [Launch.admits_selectMethod X.admits]; exact q4
  obtain ⟨vm₁, X₁, hstep₁⟩ := X.invokevirtual hexec hown hlink hnamed hmethM hstM hkP hkPi hy (a := b) (cell := cellB) hcell
    (fun z h => by rw [h] at hobj; cases hobj) hselP hmethM habM hkP hkPi (g := g) hg (argsL := argsL) (rest := rest) (hlen _ hsigM) hstack hdg
  obtain ⟨v, B, X', hpost, hsteps⟩ := hK m meth c ⟨T.setVm vm₁, locs, cells, slots⟩ { g with stack := rest } (.invokevirtual index) mk (Value.ref b :: argsL).toArray X₁ hg hsize hdg hW (X₁.named hnamed) (hpre vm₁ X₁.warmed)
  exact ⟨v, vm₁, B, X₁.warmed, X', hpost, fun target h => hstep₁ _ fun acts => by rw [doInvoke_state]; exact hsteps.trans h⟩
abbrev vx_CVW (R : Room) (s : State) (args : Array Value) (own C : String) (index : Nat) (y : MethodName) (bytes : ByteArray) (maxL : Nat) (ret : Option FieldType) (hh : List (Nat × Nat × Nat × Nat)) (ws : List Cond) (rm : Room) (mc ms n : Nat) : Prop :=
  (rm.cells = mc ∧ rm.slots = ms ∧ rm.frames + 1 ≤ R.frames ∧ 8 + (maxL + 11) + rm.locals ≤ R.locals ∧ (∀ w ∈ ws, ∀ (a' : Array Value) (U : State), s.WarmedH U.vm → w.before a' U = true) ∧ Cond.codeWith y bytes maxL ret hh ∈ ws) ∧
  (Cond.codeWith y bytes maxL ret hh).before args s = true ∧ (Cond.initialized y.cls).before args s = true ∧ (y.cls ≠ "java/lang/invoke/MethodHandle" ∧ y.cls ≠ "java/lang/invoke/VarHandle") ∧
  (∀ sig, parseMethodDescriptor y.desc = some sig → n = sig.parameters.length) ∧ (Cond.methodLink own index y).before args s = true ∧ (Cond.instanceMethod y).before args s = true ∧ (Cond.selects C y y).before args s = true
theorem vx_cwVW {own C : String} {index maxL mc ms : Nat} {y : MethodName} {bytes : ByteArray} {ret : Option FieldType} {hh : List (Nat × Nat × Nat × Nat)} {Ts ws ws' : List Cond} {rm : Room} (n : Nat) (ht : ∀ w ∈ Ts, w.before args s = true) (hT : GoodIn Ts (wsV own index C y ws)) (hw : ws = Cond.codeWith y bytes maxL ret hh :: ws') (hrc : rm.cells = mc) (hrs : rm.slots = ms)
    (hd : y.cls = C ∧ y.cls ≠ "java/lang/invoke/MethodHandle" ∧ y.cls ≠ "java/lang/invoke/VarHandle" ∧ (parseMethodDescriptor y.desc).map (fun d => d.parameters.length) = some n) (hR : rm.frames + 1 ≤ R.frames ∧ 8 + (maxL + 11) + rm.locals ≤ R.locals) :
    vx_CVW R s args own C index y bytes maxL ret hh ws rm mc ms n := by
  obtain ⟨hC, hd⟩ := hd
  subst hC
  have ok : ∀ w ∈ wsV own index y.cls y ws, w.before args s = true := fun w h => ht w (hT w h).1
  have hG : GoodIn Ts ws := fun w h => hT w (by unfold wsV; exact List.mem_append_right _ h)
  have hc : Cond.codeWith y bytes maxL ret hh ∈ ws := by rw [hw]; exact List.mem_cons_self
  refine ⟨⟨hrc, hrs, hR.1, hR.2, pay_in ht hG, hc⟩, ht _ (hG _ hc).1, ok _ (by simp [wsV]), ⟨hd.1, hd.2.1⟩, fun sig h => ?_, ok _ (by simp [wsV]), ok _ (by simp [wsV]), ok _ (by simp [wsV])⟩
  have h2 := hd.2.2
  rw [h] at h2
  exact (Option.some.inj h2).symm
theorem vx_runVW {y : MethodName} {bytes cc : ByteArray} {maxL nL mc ms n index : Nat} {ret : Option FieldType} {hh : List (Nat × Nat × Nat × Nat)} {ws : List Cond} {rm : Room} {Pc : Array Value → State → Prop} {Qc : Array Value → State → Outcome → State → Prop} {free : Addr → Prop} {Ts : List Cond} {own C : String} {b : Addr} {As rest : List Value} {g : JFrame}
    (S : CallFix p m c cc nL s args Ts own) (hM : Met l y ws rm Pc Qc mc ms free) (cw : vx_CVW R s args own C index y bytes maxL ret hh ws rm mc ms n) (hp : PreV s H C b Pc As)
    (hg : g.method = m) (hn : As.length = n) (hsize : g.locals.size = nL) (hstack : g.stack = As.reverse ++ .ref b :: rest) (hW : 2 * g.monitorRoom + (rest.map fun v => v.category).sum ≤ 8) (hdg : decode cc g.pc = .ok (.invokevirtual index, 3)) (hf : cells + mc ≤ R.cells ∧ slots + ms ≤ R.slots) :
    va_Run p l e R s m args below meth c H locs cells slots mc ms g rest (Qc (Value.ref b :: As).toArray) free := by
  obtain ⟨⟨hrc, hrs, hfr, hlo, hws, hcw⟩, hcode, hini, hy, hlen, hl, hin, hse⟩ := cw
  have hK : Back l R p e below s args y 3 8 (PreOf R mc ms Pc) (PostOf Qc mc ms free) := va_backW (hh := hh) (bytes := bytes) (maxL := maxL) (ret := ret) hM hp.1 hrc hrs hfr hlo hws hcw (fun a' U hW => word_at hW (Or.inl (by first | rfl | simp [Cond.onTables, Cond.keeps, Cond.steady])) hini)
  obtain ⟨hx, hb, hml, ho, -⟩ := S
  obtain ⟨-, ⟨cellB, hcB, hoB, hclB⟩, hPc⟩ := hp
  intro T hT X
  obtain ⟨v, vm₁, ⟨U', l2, c2, s2⟩, hW₁, X', ⟨g', mk, t, L, e1, e2, hq, h1, hL, h2, h3⟩, st⟩ := vx_callVW X hx (C := C) (hh := hh) (bytes := bytes) (maxL := maxL) (ret := ret) ho hl hin hse hcode hy hK (by rw [hT]; exact hcB) hoB hclB hg (hsize.trans hml.symm) (argsL := As) (rest := rest) (fun sig h => hn.trans (hlen sig h)) hstack hW (by rw [hb]; exact hdg)
    (fun vm₁ hW₁ => ⟨hf.1, hf.2, hPc (T.setVm vm₁) hT hW₁⟩)
  dsimp only [Pt.U, Pt.locs, Pt.cells, Pt.slots] at X' e1 e2 h1 h2 h3 st
  subst h1; subst h2; subst h3
  exact ⟨v, (T.setVm vm₁).calling g' mk (Value.ref b :: As).toArray, t, U', L, hT, X', hL, e1, e2, hq, st⟩
section
variable {y : MethodName} {bytes cc : ByteArray} {maxL nL mc ms n index : Nat} {ret : Option FieldType} {ws : List Cond} {rm : Room} {Pc : Array Value → State → Prop} {Qc : Array Value → State → Outcome → State → Prop} {XC : String → State → State → Prop} {free : Addr → Prop} {Ts : List Cond} {own C : String} {b : Addr} {As rest : List Value} {g : JFrame}
theorem vx_runVX {hh : List (Nat × Nat × Nat × Nat)} (S : CallFix p m c cc nL s args Ts own) (hM : vx_Met l y ws rm Pc Qc XC mc ms free) (cw : vx_CVW R s args own C index y bytes maxL ret hh ws rm mc ms n) (hp : PreV s H C b Pc As)
    (hg : g.method = m) (hn : As.length = n) (hsize : g.locals.size = nL) (hstack : g.stack = As.reverse ++ .ref b :: rest) (hW : 2 * g.monitorRoom + (rest.map fun v => v.category).sum ≤ 8) (hdg : decode cc g.pc = .ok (.invokevirtual index, 3)) (hf : cells + mc ≤ R.cells ∧ slots + ms ≤ R.slots) :
    vx_Run p l e R s m args below meth c H locs cells slots mc ms g rest (Qc (Value.ref b :: As).toArray) XC free := by
  obtain ⟨⟨hrc, hrs, hfr, hlo, hws, hcw⟩, hcode, hini, hy, hlen, hl, hin, hse⟩ := cw
  have hK : vx_Back l R p e below s args y 3 8 (PreOf R mc ms Pc) (PostOf Qc mc ms free) (vx_Post XC mc ms free) := vx_backW (hh := hh) (bytes := bytes) (maxL := maxL) (ret := ret) hM hp.1 hrc hrs hfr hlo hws hcw (fun a' U hW => word_at hW (Or.inl (by first | rfl | simp [Cond.onTables, Cond.keeps, Cond.steady])) hini)
  obtain ⟨hx, hb, hml, ho, -⟩ := S
  obtain ⟨-, ⟨cellB, hcB, hoB, hclB⟩, hPc⟩ := hp
  intro T hT X
  rcases vx_callVX X hx (C := C) (hh := hh) (bytes := bytes) (maxL := maxL) (ret := ret) ho hl hin hse hcode hy hK (by rw [hT]; exact hcB) hoB hclB hg (hsize.trans hml.symm) (argsL := As) (rest := rest) (fun sig h => hn.trans (hlen sig h)) hstack hW (by rw [hb]; exact hdg)
    (fun vm₁ hW₁ => ⟨hf.1, hf.2, hPc (T.setVm vm₁) hT hW₁⟩) with ⟨v, vm₁, ⟨U', l2, c2, s2⟩, hW₁, X', ⟨g', mk, t, L, e1, e2, hq, h1, hL, h2, h3⟩, st⟩ | ⟨q, vm₁, ⟨U', l2, c2, s2⟩, hW₁, X', ⟨g', mk, t, L, E, ce, e1, e2, hq, hce, hcv, hcl, h1, hL, h2, h3⟩, st⟩
  · dsimp only [Pt.U, Pt.locs, Pt.cells, Pt.slots] at X' e1 e2 h1 h2 h3 st
    subst h1; subst h2; subst h3
    exact Or.inl ⟨v, (T.setVm vm₁).calling g' mk (Value.ref b :: As).toArray, t, U', L, hT, X', hL, e1, e2, hq, st⟩
  · dsimp only [Pt.U, Pt.locs, Pt.cells, Pt.slots] at X' e1 e2 h1 h2 h3 st hcl
    subst h1; subst h2; subst h3
    exact Or.inr ⟨q, (T.setVm vm₁).calling g' mk (Value.ref b :: As).toArray, t, U', L, E, ce, hT, X', hL, e1, e2, hq, hce, hcv, vx_cls hW₁ hcl, st⟩
theorem vx_runSX {hh : List (Nat × Nat × Nat × Nat)} (S : CallFix p m c cc nL s args Ts own) (hM : vx_Met l y ws rm Pc Qc XC mc ms free) (cw : vx_CSW R s args own index y bytes maxL ret hh ws rm mc ms n) (hp : PreS s H Pc As)
    (hg : g.method = m) (hn : As.length = n) (hsize : g.locals.size = nL) (hstack : g.stack = As.reverse ++ rest) (hW : 2 * g.monitorRoom + (rest.map fun v => v.category).sum ≤ 8) (hdg : decode cc g.pc = .ok (.invokestatic index, 3)) (hf : cells + mc ≤ R.cells ∧ slots + ms ≤ R.slots) :
    vx_Run p l e R s m args below meth c H locs cells slots mc ms g rest (Qc As.toArray) XC free := by
  obtain ⟨⟨hrc, hrs, hfr, hlo, hws, hcw⟩, hcode, hini, hy, hlen, hl, hstt⟩ := cw
  have hK : vx_Back l R p e below s args y 3 8 (PreOf R mc ms Pc) (PostOf Qc mc ms free) (vx_Post XC mc ms free) := vx_backW (hh := hh) (bytes := bytes) (maxL := maxL) (ret := ret) hM hp.1 hrc hrs hfr hlo hws hcw (fun a' U hW => word_at hW (Or.inl (by first | rfl | simp [Cond.onTables, Cond.keeps, Cond.steady])) hini)
  obtain ⟨hx, hb, hml, ho, -⟩ := S
  intro T hT X
  rcases vx_callSX X hx (hh := hh) (bytes := bytes) (maxL := maxL) (ret := ret) ho hl hstt hini hcode hy hK hg (hsize.trans hml.symm) (argsL := As) (rest := rest) (fun sig h => hn.trans (hlen sig h)) hstack hW (by rw [hb]; exact hdg)
    (fun vm₁ hW₁ => ⟨hf.1, hf.2, hp.2 (T.setVm vm₁) hT hW₁⟩) with ⟨v, vm₁, ⟨U', l2, c2, s2⟩, hW₁, X', ⟨g', mk, t, L, e1, e2, hq, h1, hL, h2, h3⟩, st⟩ | ⟨q, vm₁, ⟨U', l2, c2, s2⟩, hW₁, X', ⟨g', mk, t, L, E, ce, e1, e2, hq, hce, hcv, hcl, h1, hL, h2, h3⟩, st⟩
  · dsimp only [Pt.U, Pt.locs, Pt.cells, Pt.slots] at X' e1 e2 h1 h2 h3 st
    subst h1; subst h2; subst h3
    exact Or.inl ⟨v, (T.setVm vm₁).calling g' mk As.toArray, t, U', L, hT, X', hL, e1, e2, hq, st⟩
  · dsimp only [Pt.U, Pt.locs, Pt.cells, Pt.slots] at X' e1 e2 h1 h2 h3 st hcl
    subst h1; subst h2; subst h3
    exact Or.inr ⟨q, (T.setVm vm₁).calling g' mk As.toArray, t, U', L, E, ce, hT, X', hL, e1, e2, hq, hce, hcv, vx_cls hW₁ hcl, st⟩
end
end VXH
theorem vx_ofWH {l : Launch} {y : MethodName} {ws ws' : List Cond} {rm : Room} {Pc : Array Value → State → Prop} {Qc : Array Value → State → Outcome → State → Prop} {XC : String → State → State → Prop} {mc ms : Nat} {free : Addr → Prop} {cc : ByteArray} {maxL : Nat} {ret : Option FieldType} {hh : List (Nat × Nat × Nat × Nat)}
    (hy : plainName y.cls = true) (hw : ws = Cond.codeWith y cc maxL ret hh :: ws')
    (body : ∀ p e s m args below meth c s₁, BodyLoose p l y (headSpec ws rm) cc maxL ret e s m args below meth c s₁ → c.maxLocals = maxL → Pc args s →
      W p l e (headSpec ws rm).room s m args below meth c s.heap [] 0 0 (vx_MQ below Qc XC args s mc ms free) (entryFrame m args maxL)) : vx_Met l y ws rm Pc Qc XC mc ms free := by
  refine MetFree.of_bodyS (code := cc) (maxLocals := maxL) (ret := ret) hy ?_ ?_
  · intro args s m h hn
    obtain ⟨m9, meth, c, hn9, h1, h2, h3, h4, -, h5, h6, -⟩ := Cond.codeWith_spec (atoms_spec (ws := ws) h _ (by rw [hw]; exact List.mem_cons_self))
    cases hn.symm.trans hn9
    exact ⟨meth, c, h1, h2, h3, h4, h5, h6⟩
  · intro p e s m args below meth c s₁ B hml hP _
    have hh0 : s₁.heap = s.heap := by rw [B.state]; rfl
    obtain ⟨t, a1, o, b1, b2, b3⟩ := body p e s m args below meth c s₁ B hml hP s₁ hh0 (Stand.of_body B)
    exact ⟨t, o, a1, b1, b2, b3⟩
/-! ===== END ===== -/
end
section
def RX0 : String := "Caretline$ChainLine"
def TX0 : u_T := fun k => match k with
  | 0 => ("Caretline$ChainLine", "behind", "LCaretline$Node;", false)
  | 1 => ("Caretline$ChainLine", "ahead", "LCaretline$Node;", false)
  | 2 => ("Caretline$ChainLine", "spare", "LCaretline$Node;", false)
  | 3 => ("Caretline$ChainLine", "caret", "I", false)
  | _ => ("Caretline$ChainLine", "count", "I", false)
def tyX0 : Nat → FieldType := fun k => match k with
  | 0 => .object "Caretline$Node"
  | 1 => .object "Caretline$Node"
  | 2 => .object "Caretline$Node"
  | 3 => .int
  | _ => .int
theorem nmX0 : ∀ a, a < 5 → ∀ b, b < 5 → a ≠ b → (TX0 a).2.1 ≠ (TX0 b).2.1 := by decide +kernel
theorem tyX0_ok : ∀ k, k < 5 → parseFieldDescriptor (TX0 k).2.2.1 = some (tyX0 k) := by decide +kernel
abbrev cX0_init : ByteArray := prog_2_method_1_code
def yX0_init : MethodName := ⟨RX0, "<init>", "()V"⟩
abbrev cX0_pass : ByteArray := prog_2_method_2_code
def yX0_pass : MethodName := ⟨RX0, "pass", "(Z)I"⟩
abbrev cX0_insert : ByteArray := prog_2_method_3_code
def yX0_insert : MethodName := ⟨RX0, "insert", "(I)I"⟩
abbrev cX0_exchange : ByteArray := prog_2_method_4_code
def yX0_exchange : MethodName := ⟨RX0, "exchange", "(IZ)I"⟩
abbrev cX0_drop : ByteArray := prog_2_method_5_code
def yX0_drop : MethodName := ⟨RX0, "drop", "(Z)I"⟩
abbrev cX0_cross : ByteArray := prog_2_method_6_code
def yX0_cross : MethodName := ⟨RX0, "cross", "()I"⟩
abbrev cX0_empty : ByteArray := prog_2_method_7_code
def yX0_empty : MethodName := ⟨RX0, "empty", "()V"⟩
abbrev cX0_wordOf : ByteArray := prog_2_method_8_code
def yX0_wordOf : MethodName := ⟨RX0, "wordOf", "(I)I"⟩
abbrev cX0_join : ByteArray := prog_2_method_9_code
def yX0_join : MethodName := ⟨RX0, "join", "(LCaretline$Node;LCaretline$Node;)V"⟩
def RX1 : String := "Caretline$Editor"
def TX1 : u_T := fun k => match k with
  | 0 => ("Caretline$Editor", "lines", "LCaretline$Lines;", true)
  | 1 => ("Caretline$Editor", "history", "LCaretline$History;", true)
  | 2 => ("Caretline$Editor", "refused", "[I", true)
  | 3 => ("Caretline$Editor", "done", "I", false)
  | _ => ("Caretline$Editor", "side", "I", false)
def tyX1 : Nat → FieldType := fun k => match k with
  | 0 => .object "Caretline$Lines"
  | 1 => .object "Caretline$History"
  | 2 => .array .int
  | 3 => .int
  | _ => .int
theorem nmX1 : ∀ a, a < 5 → ∀ b, b < 5 → a ≠ b → (TX1 a).2.1 ≠ (TX1 b).2.1 := by decide +kernel
theorem tyX1_ok : ∀ k, k < 5 → parseFieldDescriptor (TX1 k).2.2.1 = some (tyX1 k) := by decide +kernel
abbrev cX1_init : ByteArray := prog_3_method_1_code
def yX1_init : MethodName := ⟨RX1, "<init>", "()V"⟩
abbrev cX1_pass : ByteArray := prog_3_method_2_code
def yX1_pass : MethodName := ⟨RX1, "pass", "(Z)I"⟩
abbrev cX1_insert : ByteArray := prog_3_method_3_code
def yX1_insert : MethodName := ⟨RX1, "insert", "(I)I"⟩
abbrev cX1_exchange : ByteArray := prog_3_method_4_code
def yX1_exchange : MethodName := ⟨RX1, "exchange", "(I)I"⟩
abbrev cX1_drop : ByteArray := prog_3_method_5_code
def yX1_drop : MethodName := ⟨RX1, "drop", "()I"⟩
abbrev cX1_go : ByteArray := prog_3_method_6_code
def yX1_go : MethodName := ⟨RX1, "go", "(I)I"⟩
abbrev cX1_seek : ByteArray := prog_3_method_7_code
def yX1_seek : MethodName := ⟨RX1, "seek", "(IZ)I"⟩
abbrev cX1_cross : ByteArray := prog_3_method_8_code
def yX1_cross : MethodName := ⟨RX1, "cross", "()I"⟩
abbrev cX1_takeBack : ByteArray := prog_3_method_9_code
def yX1_takeBack : MethodName := ⟨RX1, "takeBack", "()I"⟩
abbrev cX1_startAnew : ByteArray := prog_3_method_10_code
def yX1_startAnew : MethodName := ⟨RX1, "startAnew", "()V"⟩
abbrev cX1_conclude : ByteArray := prog_3_method_11_code
def yX1_conclude : MethodName := ⟨RX1, "conclude", "(III)V"⟩
abbrev cX1_refuse : ByteArray := prog_3_method_12_code
def yX1_refuse : MethodName := ⟨RX1, "refuse", "(I)I"⟩
def RX2 : String := "Caretline$History"
def TX2 : u_T := fun k => match k with
  | 0 => ("Caretline$History", "kinds", "[I", true)
  | 1 => ("Caretline$History", "numbers", "[I", true)
  | 2 => ("Caretline$History", "latest", "I", false)
  | _ => ("Caretline$History", "kept", "I", false)
def tyX2 : Nat → FieldType := fun k => match k with
  | 0 => .array .int
  | 1 => .array .int
  | 2 => .int
  | _ => .int
theorem nmX2 : ∀ a, a < 4 → ∀ b, b < 4 → a ≠ b → (TX2 a).2.1 ≠ (TX2 b).2.1 := by decide +kernel
theorem tyX2_ok : ∀ k, k < 4 → parseFieldDescriptor (TX2 k).2.2.1 = some (tyX2 k) := by decide +kernel
abbrev cX2_init : ByteArray := prog_4_method_1_code
def yX2_init : MethodName := ⟨RX2, "<init>", "()V"⟩
abbrev cX2_keep : ByteArray := prog_4_method_2_code
def yX2_keep : MethodName := ⟨RX2, "keep", "(II)V"⟩
abbrev cX2_latestKind : ByteArray := prog_4_method_3_code
def yX2_latestKind : MethodName := ⟨RX2, "latestKind", "()I"⟩
abbrev cX2_latestNumber : ByteArray := prog_4_method_4_code
def yX2_latestNumber : MethodName := ⟨RX2, "latestNumber", "()I"⟩
abbrev cX2_forgetLatest : ByteArray := prog_4_method_5_code
def yX2_forgetLatest : MethodName := ⟨RX2, "forgetLatest", "()V"⟩
def RX3 : String := "Caretline$Lines"
def TX3 : u_T := fun k => match k with
  | 0 => ("Caretline$Lines", "list", "LCaretline$ListLine;", true)
  | 1 => ("Caretline$Lines", "chain", "LCaretline$ChainLine;", true)
  | 2 => ("Caretline$Lines", "rows", "LCaretline$RowsLine;", true)
  | _ => ("Caretline$Lines", "unlikeAnswers", "I", false)
def tyX3 : Nat → FieldType := fun k => match k with
  | 0 => .object "Caretline$ListLine"
  | 1 => .object "Caretline$ChainLine"
  | 2 => .object "Caretline$RowsLine"
  | _ => .int
theorem nmX3 : ∀ a, a < 4 → ∀ b, b < 4 → a ≠ b → (TX3 a).2.1 ≠ (TX3 b).2.1 := by decide +kernel
theorem tyX3_ok : ∀ k, k < 4 → parseFieldDescriptor (TX3 k).2.2.1 = some (tyX3 k) := by decide +kernel
abbrev cX3_init : ByteArray := prog_5_method_1_code
def yX3_init : MethodName := ⟨RX3, "<init>", "()V"⟩
abbrev cX3_pass : ByteArray := prog_5_method_2_code
def yX3_pass : MethodName := ⟨RX3, "pass", "(Z)I"⟩
abbrev cX3_insert : ByteArray := prog_5_method_3_code
def yX3_insert : MethodName := ⟨RX3, "insert", "(I)I"⟩
abbrev cX3_exchange : ByteArray := prog_5_method_4_code
def yX3_exchange : MethodName := ⟨RX3, "exchange", "(IZ)I"⟩
abbrev cX3_drop : ByteArray := prog_5_method_5_code
def yX3_drop : MethodName := ⟨RX3, "drop", "(Z)I"⟩
abbrev cX3_empty : ByteArray := prog_5_method_6_code
def yX3_empty : MethodName := ⟨RX3, "empty", "()V"⟩
abbrev cX3_go : ByteArray := prog_5_method_7_code
def yX3_go : MethodName := ⟨RX3, "go", "(I)V"⟩
abbrev cX3_cross : ByteArray := prog_5_method_8_code
def yX3_cross : MethodName := ⟨RX3, "cross", "()I"⟩
abbrev cX3_caret : ByteArray := prog_5_method_9_code
def yX3_caret : MethodName := ⟨RX3, "caret", "()I"⟩
abbrev cX3_length : ByteArray := prog_5_method_10_code
def yX3_length : MethodName := ⟨RX3, "length", "()I"⟩
abbrev cX3_has : ByteArray := prog_5_method_11_code
def yX3_has : MethodName := ⟨RX3, "has", "(Z)Z"⟩
abbrev cX3_wordOf : ByteArray := prog_5_method_12_code
def yX3_wordOf : MethodName := ⟨RX3, "wordOf", "(I)I"⟩
abbrev cX3_stepsTo : ByteArray := prog_5_method_13_code
def yX3_stepsTo : MethodName := ⟨RX3, "stepsTo", "(IZ)I"⟩
abbrev cX3_areListAndChainAlike : ByteArray := prog_5_method_14_code
def yX3_areListAndChainAlike : MethodName := ⟨RX3, "areListAndChainAlike", "()Z"⟩
abbrev cX3_common : ByteArray := prog_5_method_15_code
def yX3_common : MethodName := ⟨RX3, "common", "(III)I"⟩
def RX4 : String := "Caretline$ListLine"
def TX4 : u_T := fun k => match k with
  | 0 => ("Caretline$ListLine", "words", "Ljava/util/ArrayList;", true)
  | _ => ("Caretline$ListLine", "caret", "I", false)
def tyX4 : Nat → FieldType := fun k => match k with
  | 0 => .object "java/util/ArrayList"
  | _ => .int
theorem nmX4 : ∀ a, a < 2 → ∀ b, b < 2 → a ≠ b → (TX4 a).2.1 ≠ (TX4 b).2.1 := by decide +kernel
theorem tyX4_ok : ∀ k, k < 2 → parseFieldDescriptor (TX4 k).2.2.1 = some (tyX4 k) := by decide +kernel
abbrev cX4_init : ByteArray := prog_6_method_1_code
def yX4_init : MethodName := ⟨RX4, "<init>", "()V"⟩
abbrev cX4_pass : ByteArray := prog_6_method_2_code
def yX4_pass : MethodName := ⟨RX4, "pass", "(Z)I"⟩
abbrev cX4_insert : ByteArray := prog_6_method_3_code
def yX4_insert : MethodName := ⟨RX4, "insert", "(I)I"⟩
abbrev cX4_exchange : ByteArray := prog_6_method_4_code
def yX4_exchange : MethodName := ⟨RX4, "exchange", "(IZ)I"⟩
abbrev cX4_drop : ByteArray := prog_6_method_5_code
def yX4_drop : MethodName := ⟨RX4, "drop", "(Z)I"⟩
abbrev cX4_cross : ByteArray := prog_6_method_6_code
def yX4_cross : MethodName := ⟨RX4, "cross", "()I"⟩
abbrev cX4_empty : ByteArray := prog_6_method_7_code
def yX4_empty : MethodName := ⟨RX4, "empty", "()V"⟩
abbrev cX4_length : ByteArray := prog_6_method_8_code
def yX4_length : MethodName := ⟨RX4, "length", "()I"⟩
abbrev cX4_wordOf : ByteArray := prog_6_method_9_code
def yX4_wordOf : MethodName := ⟨RX4, "wordOf", "(I)I"⟩
def RX5 : String := "Caretline$Node"
def TX5 : u_T := fun k => match k with
  | 0 => ("Caretline$Node", "word", "I", false)
  | 1 => ("Caretline$Node", "before", "LCaretline$Node;", false)
  | _ => ("Caretline$Node", "after", "LCaretline$Node;", false)
def tyX5 : Nat → FieldType := fun k => match k with
  | 0 => .int
  | 1 => .object "Caretline$Node"
  | _ => .object "Caretline$Node"
theorem nmX5 : ∀ a, a < 3 → ∀ b, b < 3 → a ≠ b → (TX5 a).2.1 ≠ (TX5 b).2.1 := by decide +kernel
theorem tyX5_ok : ∀ k, k < 3 → parseFieldDescriptor (TX5 k).2.2.1 = some (tyX5 k) := by decide +kernel
abbrev cX5_init : ByteArray := prog_7_method_1_code
def yX5_init : MethodName := ⟨RX5, "<init>", "()V"⟩
def RX6 : String := "Caretline$RowsLine"
def TX6 : u_T := fun k => match k with
  | 0 => ("Caretline$RowsLine", "rows", "[[I", true)
  | _ => ("Caretline$RowsLine", "counts", "[I", true)
def tyX6 : Nat → FieldType := fun k => match k with
  | 0 => .array (.array .int)
  | _ => .array .int
theorem nmX6 : ∀ a, a < 2 → ∀ b, b < 2 → a ≠ b → (TX6 a).2.1 ≠ (TX6 b).2.1 := by decide +kernel
theorem tyX6_ok : ∀ k, k < 2 → parseFieldDescriptor (TX6 k).2.2.1 = some (tyX6 k) := by decide +kernel
abbrev cX6_init : ByteArray := prog_8_method_1_code
def yX6_init : MethodName := ⟨RX6, "<init>", "()V"⟩
abbrev cX6_pass : ByteArray := prog_8_method_2_code
def yX6_pass : MethodName := ⟨RX6, "pass", "(Z)I"⟩
abbrev cX6_insert : ByteArray := prog_8_method_3_code
def yX6_insert : MethodName := ⟨RX6, "insert", "(I)I"⟩
abbrev cX6_exchange : ByteArray := prog_8_method_4_code
def yX6_exchange : MethodName := ⟨RX6, "exchange", "(IZ)I"⟩
abbrev cX6_drop : ByteArray := prog_8_method_5_code
def yX6_drop : MethodName := ⟨RX6, "drop", "(Z)I"⟩
abbrev cX6_cross : ByteArray := prog_8_method_6_code
def yX6_cross : MethodName := ⟨RX6, "cross", "()I"⟩
abbrev cX6_empty : ByteArray := prog_8_method_7_code
def yX6_empty : MethodName := ⟨RX6, "empty", "()V"⟩
abbrev cX6_caret : ByteArray := prog_8_method_8_code
def yX6_caret : MethodName := ⟨RX6, "caret", "()I"⟩
abbrev cX6_length : ByteArray := prog_8_method_9_code
def yX6_length : MethodName := ⟨RX6, "length", "()I"⟩
abbrev cX6_wordOf : ByteArray := prog_8_method_10_code
def yX6_wordOf : MethodName := ⟨RX6, "wordOf", "(I)I"⟩
def RX7 : String := "Caretline$Script"
def TX7 : u_T := fun k => match k with
  | 0 => ("Caretline$Script", "kinds", "[I", true)
  | 1 => ("Caretline$Script", "numbers", "[I", true)
  | 2 => ("Caretline$Script", "places", "[I", true)
  | 3 => ("Caretline$Script", "ends", "[I", true)
  | 4 => ("Caretline$Script", "opened", "[I", true)
  | 5 => ("Caretline$Script", "openCount", "I", false)
  | _ => ("Caretline$Script", "count", "I", false)
def tyX7 : Nat → FieldType := fun k => match k with
  | 0 => .array .int
  | 1 => .array .int
  | 2 => .array .int
  | 3 => .array .int
  | 4 => .array .int
  | 5 => .int
  | _ => .int
theorem nmX7 : ∀ a, a < 7 → ∀ b, b < 7 → a ≠ b → (TX7 a).2.1 ≠ (TX7 b).2.1 := by decide +kernel
theorem tyX7_ok : ∀ k, k < 7 → parseFieldDescriptor (TX7 k).2.2.1 = some (tyX7 k) := by decide +kernel
abbrev cX7_init : ByteArray := prog_9_method_1_code
def yX7_init : MethodName := ⟨RX7, "<init>", "()V"⟩
abbrev cX7_kindOf : ByteArray := prog_9_method_2_code
def yX7_kindOf : MethodName := ⟨RX7, "kindOf", "(I)I"⟩
abbrev cX7_numberOf : ByteArray := prog_9_method_3_code
def yX7_numberOf : MethodName := ⟨RX7, "numberOf", "(I)I"⟩
abbrev cX7_endOf : ByteArray := prog_9_method_4_code
def yX7_endOf : MethodName := ⟨RX7, "endOf", "(I)I"⟩
abbrev cX7_split : ByteArray := prog_9_method_5_code
def yX7_split : MethodName := ⟨RX7, "split", "(LCaretline$Tape;)V"⟩
abbrev cX7_kindOfByte : ByteArray := prog_9_method_6_code
def yX7_kindOfByte : MethodName := ⟨RX7, "kindOfByte", "(I)I"⟩
abbrev cX7_begin : ByteArray := prog_9_method_7_code
def yX7_begin : MethodName := ⟨RX7, "begin", "(III)V"⟩
abbrev cX7_lengthen : ByteArray := prog_9_method_8_code
def yX7_lengthen : MethodName := ⟨RX7, "lengthen", "(III)V"⟩
abbrev cX7_digitOf : ByteArray := prog_9_method_9_code
def yX7_digitOf : MethodName := ⟨RX7, "digitOf", "(II)I"⟩
abbrev cX7_misfitOfWords : ByteArray := prog_9_method_10_code
def yX7_misfitOfWords : MethodName := ⟨RX7, "misfitOfWords", "()I"⟩
abbrev cX7_misfitOfScript : ByteArray := prog_9_method_11_code
def yX7_misfitOfScript : MethodName := ⟨RX7, "misfitOfScript", "(I)I"⟩
abbrev cX7_wantedBehind : ByteArray := prog_9_method_12_code
def yX7_wantedBehind : MethodName := ⟨RX7, "wantedBehind", "(II)I"⟩
abbrev cX7_beginAct : ByteArray := prog_9_method_13_code
def yX7_beginAct : MethodName := ⟨RX7, "beginAct", "(II)I"⟩
abbrev cX7_open : ByteArray := prog_9_method_14_code
def yX7_open : MethodName := ⟨RX7, "open", "(I)I"⟩
abbrev cX7_close : ByteArray := prog_9_method_15_code
def yX7_close : MethodName := ⟨RX7, "close", "(I)I"⟩
def RX8 : String := "Caretline$Tape"
def TX8 : u_T := fun k => match k with
  | 0 => ("Caretline$Tape", "bytes", "[I", true)
  | _ => ("Caretline$Tape", "length", "I", false)
def tyX8 : Nat → FieldType := fun k => match k with
  | 0 => .array .int
  | _ => .int
theorem nmX8 : ∀ a, a < 2 → ∀ b, b < 2 → a ≠ b → (TX8 a).2.1 ≠ (TX8 b).2.1 := by decide +kernel
theorem tyX8_ok : ∀ k, k < 2 → parseFieldDescriptor (TX8 k).2.2.1 = some (tyX8 k) := by decide +kernel
abbrev cX8_init : ByteArray := prog_10_method_1_code
def yX8_init : MethodName := ⟨RX8, "<init>", "()V"⟩
abbrev cX8_bytesIn : ByteArray := prog_10_method_2_code
def yX8_bytesIn : MethodName := ⟨RX8, "bytesIn", "(I)I"⟩
abbrev cX8_take : ByteArray := prog_10_method_3_code
def yX8_take : MethodName := ⟨RX8, "take", "(I)V"⟩
def RX9 : String := "Caretline"
def TX9 : u_T := fun k => match k with
  | 0 => ("Caretline", "editor", "LCaretline$Editor;", true)
  | 1 => ("Caretline", "tape", "LCaretline$Tape;", true)
  | 2 => ("Caretline", "script", "LCaretline$Script;", true)
  | 3 => ("Caretline", "scriptStart", "I", false)
  | 4 => ("Caretline", "errorAt", "I", false)
  | 5 => ("Caretline", "ending", "I", false)
  | 6 => ("Caretline", "written", "[C", true)
  | _ => ("Caretline", "writtenLength", "I", false)
def tyX9 : Nat → FieldType := fun k => match k with
  | 0 => .object "Caretline$Editor"
  | 1 => .object "Caretline$Tape"
  | 2 => .object "Caretline$Script"
  | 3 => .int
  | 4 => .int
  | 5 => .int
  | 6 => .array .char
  | _ => .int
theorem nmX9 : ∀ a, a < 8 → ∀ b, b < 8 → a ≠ b → (TX9 a).2.1 ≠ (TX9 b).2.1 := by decide +kernel
theorem tyX9_ok : ∀ k, k < 8 → parseFieldDescriptor (TX9 k).2.2.1 = some (tyX9 k) := by decide +kernel
abbrev cX9_init : ByteArray := prog_1_method_1_code
def yX9_init : MethodName := ⟨RX9, "<init>", "()V"⟩
abbrev cX9_next : ByteArray := prog_1_method_2_code
def yX9_next : MethodName := ⟨RX9, "next", "()I"⟩
abbrev cX9_previous : ByteArray := prog_1_method_3_code
def yX9_previous : MethodName := ⟨RX9, "previous", "()I"⟩
abbrev cX9_add : ByteArray := prog_1_method_4_code
def yX9_add : MethodName := ⟨RX9, "add", "(I)I"⟩
abbrev cX9_set : ByteArray := prog_1_method_5_code
def yX9_set : MethodName := ⟨RX9, "set", "(I)I"⟩
abbrev cX9_remove : ByteArray := prog_1_method_6_code
def yX9_remove : MethodName := ⟨RX9, "remove", "()I"⟩
abbrev cX9_move : ByteArray := prog_1_method_7_code
def yX9_move : MethodName := ⟨RX9, "move", "(I)I"⟩
abbrev cX9_find : ByteArray := prog_1_method_8_code
def yX9_find : MethodName := ⟨RX9, "find", "(IZ)I"⟩
abbrev cX9_swap : ByteArray := prog_1_method_9_code
def yX9_swap : MethodName := ⟨RX9, "swap", "()I"⟩
abbrev cX9_undo : ByteArray := prog_1_method_10_code
def yX9_undo : MethodName := ⟨RX9, "undo", "()I"⟩
abbrev cX9_undoable : ByteArray := prog_1_method_11_code
def yX9_undoable : MethodName := ⟨RX9, "undoable", "()I"⟩
abbrev cX9_append : ByteArray := prog_1_method_12_code
def yX9_append : MethodName := ⟨RX9, "append", "(IIIII)I"⟩
abbrev cX9_clearTape : ByteArray := prog_1_method_13_code
def yX9_clearTape : MethodName := ⟨RX9, "clearTape", "()I"⟩
abbrev cX9_fill : ByteArray := prog_1_method_14_code
def yX9_fill : MethodName := ⟨RX9, "fill", "()I"⟩
abbrev cX9_run : ByteArray := prog_1_method_15_code
def yX9_run : MethodName := ⟨RX9, "run", "()I"⟩
abbrev cX9_errorPosition : ByteArray := prog_1_method_16_code
def yX9_errorPosition : MethodName := ⟨RX9, "errorPosition", "()I"⟩
abbrev cX9_endedBy : ByteArray := prog_1_method_17_code
def yX9_endedBy : MethodName := ⟨RX9, "endedBy", "()I"⟩
abbrev cX9_nextIndex : ByteArray := prog_1_method_18_code
def yX9_nextIndex : MethodName := ⟨RX9, "nextIndex", "()I"⟩
abbrev cX9_previousIndex : ByteArray := prog_1_method_19_code
def yX9_previousIndex : MethodName := ⟨RX9, "previousIndex", "()I"⟩
abbrev cX9_hasNext : ByteArray := prog_1_method_20_code
def yX9_hasNext : MethodName := ⟨RX9, "hasNext", "()Z"⟩
abbrev cX9_hasPrevious : ByteArray := prog_1_method_21_code
def yX9_hasPrevious : MethodName := ⟨RX9, "hasPrevious", "()Z"⟩
abbrev cX9_ahead : ByteArray := prog_1_method_22_code
def yX9_ahead : MethodName := ⟨RX9, "ahead", "(I)I"⟩
abbrev cX9_behind : ByteArray := prog_1_method_23_code
def yX9_behind : MethodName := ⟨RX9, "behind", "(I)I"⟩
abbrev cX9_given : ByteArray := prog_1_method_24_code
def yX9_given : MethodName := ⟨RX9, "given", "()I"⟩
abbrev cX9_givenBy : ByteArray := prog_1_method_25_code
def yX9_givenBy : MethodName := ⟨RX9, "givenBy", "()I"⟩
abbrev cX9_refusedNow : ByteArray := prog_1_method_26_code
def yX9_refusedNow : MethodName := ⟨RX9, "refusedNow", "()I"⟩
abbrev cX9_size : ByteArray := prog_1_method_27_code
def yX9_size : MethodName := ⟨RX9, "size", "()I"⟩
abbrev cX9_wordAt : ByteArray := prog_1_method_28_code
def yX9_wordAt : MethodName := ⟨RX9, "wordAt", "(I)I"⟩
abbrev cX9_indexOf : ByteArray := prog_1_method_29_code
def yX9_indexOf : MethodName := ⟨RX9, "indexOf", "(I)I"⟩
abbrev cX9_lastIndexOf : ByteArray := prog_1_method_30_code
def yX9_lastIndexOf : MethodName := ⟨RX9, "lastIndexOf", "(I)I"⟩
abbrev cX9_count : ByteArray := prog_1_method_31_code
def yX9_count : MethodName := ⟨RX9, "count", "(I)I"⟩
abbrev cX9_unlike : ByteArray := prog_1_method_32_code
def yX9_unlike : MethodName := ⟨RX9, "unlike", "()I"⟩
abbrev cX9_clear : ByteArray := prog_1_method_33_code
def yX9_clear : MethodName := ⟨RX9, "clear", "()I"⟩
abbrev cX9_write : ByteArray := prog_1_method_34_code
def yX9_write : MethodName := ⟨RX9, "write", "()I"⟩
abbrev cX9_writtenAt : ByteArray := prog_1_method_35_code
def yX9_writtenAt : MethodName := ⟨RX9, "writtenAt", "(I)I"⟩
abbrev cX9_refusals : ByteArray := prog_1_method_36_code
def yX9_refusals : MethodName := ⟨RX9, "refusals", "(I)I"⟩
abbrev cX9_acts : ByteArray := prog_1_method_37_code
def yX9_acts : MethodName := ⟨RX9, "acts", "()I"⟩
abbrev cX9_meanLetters : ByteArray := prog_1_method_38_code
def yX9_meanLetters : MethodName := ⟨RX9, "meanLetters", "()D"⟩
abbrev cX9_caretShare : ByteArray := prog_1_method_39_code
def yX9_caretShare : MethodName := ⟨RX9, "caretShare", "()F"⟩
abbrev cX9_agree : ByteArray := prog_1_method_40_code
def yX9_agree : MethodName := ⟨RX9, "agree", "()Z"⟩
abbrev cX9_errors : ByteArray := prog_1_method_41_code
def yX9_errors : MethodName := ⟨RX9, "errors", "()I"⟩
abbrev cX9_requireWord : ByteArray := prog_1_method_42_code
def yX9_requireWord : MethodName := ⟨RX9, "requireWord", "(I)V"⟩
abbrev cX9_isWord : ByteArray := prog_1_method_43_code
def yX9_isWord : MethodName := ⟨RX9, "isWord", "(I)Z"⟩
abbrev cX9_lettersOf : ByteArray := prog_1_method_44_code
def yX9_lettersOf : MethodName := ⟨RX9, "lettersOf", "(I)I"⟩
abbrev cX9_firstIndex : ByteArray := prog_1_method_45_code
def yX9_firstIndex : MethodName := ⟨RX9, "firstIndex", "(I)I"⟩
abbrev cX9_spell : ByteArray := prog_1_method_46_code
def yX9_spell : MethodName := ⟨RX9, "spell", "(I)V"⟩
abbrev cX9_put : ByteArray := prog_1_method_47_code
def yX9_put : MethodName := ⟨RX9, "put", "(C)V"⟩
abbrev cX9_perform : ByteArray := prog_1_method_48_code
def yX9_perform : MethodName := ⟨RX9, "perform", "(III)I"⟩
abbrev cX9_repeatTimes : ByteArray := prog_1_method_49_code
def yX9_repeatTimes : MethodName := ⟨RX9, "repeatTimes", "(II)I"⟩
abbrev cX9_repeatUntilRefused : ByteArray := prog_1_method_50_code
def yX9_repeatUntilRefused : MethodName := ⟨RX9, "repeatUntilRefused", "(II)I"⟩
abbrev cX9_attempt : ByteArray := prog_1_method_51_code
def yX9_attempt : MethodName := ⟨RX9, "attempt", "(II)I"⟩
def RX10 : String := "CaretlineModel"
def TX10 : u_T := fun k => match k with
  | 0 => ("CaretlineModel", "thrown", "I", false)
  | 1 => ("CaretlineModel", "back", "[I", true)
  | 2 => ("CaretlineModel", "front", "[I", true)
  | 3 => ("CaretlineModel", "backMany", "I", false)
  | 4 => ("CaretlineModel", "frontMany", "I", false)
  | 5 => ("CaretlineModel", "givenBy", "I", false)
  | 6 => ("CaretlineModel", "acts", "I", false)
  | 7 => ("CaretlineModel", "refusals", "[I", true)
  | 8 => ("CaretlineModel", "was", "[I", true)
  | 9 => ("CaretlineModel", "wasBehind", "[I", true)
  | 10 => ("CaretlineModel", "wasMany", "[I", true)
  | 11 => ("CaretlineModel", "kept", "I", false)
  | 12 => ("CaretlineModel", "tape", "[I", true)
  | 13 => ("CaretlineModel", "tapeMany", "I", false)
  | 14 => ("CaretlineModel", "token", "I", false)
  | 15 => ("CaretlineModel", "tokenAt", "I", false)
  | 16 => ("CaretlineModel", "value", "I", false)
  | 17 => ("CaretlineModel", "at", "I", false)
  | 18 => ("CaretlineModel", "errorAt", "I", false)
  | 19 => ("CaretlineModel", "ended", "I", false)
  | 20 => ("CaretlineModel", "read", "[I", true)
  | 21 => ("CaretlineModel", "itemKind", "[I", true)
  | 22 => ("CaretlineModel", "itemValue", "[I", true)
  | 23 => ("CaretlineModel", "itemEnd", "[I", true)
  | 24 => ("CaretlineModel", "items", "I", false)
  | 25 => ("CaretlineModel", "began", "[I", true)
  | 26 => ("CaretlineModel", "left", "[I", true)
  | 27 => ("CaretlineModel", "doneThen", "[I", true)
  | 28 => ("CaretlineModel", "text", "[I", true)
  | _ => ("CaretlineModel", "written", "I", false)
def tyX10 : Nat → FieldType := fun k => match k with
  | 0 => .int
  | 1 => .array .int
  | 2 => .array .int
  | 3 => .int
  | 4 => .int
  | 5 => .int
  | 6 => .int
  | 7 => .array .int
  | 8 => .array .int
  | 9 => .array .int
  | 10 => .array .int
  | 11 => .int
  | 12 => .array .int
  | 13 => .int
  | 14 => .int
  | 15 => .int
  | 16 => .int
  | 17 => .int
  | 18 => .int
  | 19 => .int
  | 20 => .array .int
  | 21 => .array .int
  | 22 => .array .int
  | 23 => .array .int
  | 24 => .int
  | 25 => .array .int
  | 26 => .array .int
  | 27 => .array .int
  | 28 => .array .int
  | _ => .int
theorem nmX10 : ∀ a, a < 30 → ∀ b, b < 30 → a ≠ b → (TX10 a).2.1 ≠ (TX10 b).2.1 := by decide +kernel
theorem tyX10_ok : ∀ k, k < 30 → parseFieldDescriptor (TX10 k).2.2.1 = some (tyX10 k) := by decide +kernel
abbrev cX10_thrown : ByteArray := prog_12_method_1_code
def yX10_thrown : MethodName := ⟨RX10, "thrown", "()I"⟩
abbrev cX10_in : ByteArray := prog_12_method_2_code
def yX10_in : MethodName := ⟨RX10, "in", "(III)Z"⟩
abbrev cX10_fails : ByteArray := prog_12_method_3_code
def yX10_fails : MethodName := ⟨RX10, "fails", "(ZI)Z"⟩
abbrev cX10_init : ByteArray := prog_12_method_4_code
def yX10_init : MethodName := ⟨RX10, "<init>", "()V"⟩
abbrev cX10_letters : ByteArray := prog_12_method_5_code
def yX10_letters : MethodName := ⟨RX10, "letters", "(I)I"⟩
abbrev cX10_isWord : ByteArray := prog_12_method_6_code
def yX10_isWord : MethodName := ⟨RX10, "isWord", "(I)Z"⟩
abbrev cX10_noWord : ByteArray := prog_12_method_7_code
def yX10_noWord : MethodName := ⟨RX10, "noWord", "(I)Z"⟩
abbrev cX10_refuses : ByteArray := prog_12_method_8_code
def yX10_refuses : MethodName := ⟨RX10, "refuses", "(I)I"⟩
abbrev cX10_keeps : ByteArray := prog_12_method_9_code
def yX10_keeps : MethodName := ⟨RX10, "keeps", "()V"⟩
abbrev cX10_many : ByteArray := prog_12_method_10_code
def yX10_many : MethodName := ⟨RX10, "many", "()I"⟩
abbrev cX10_wordIn : ByteArray := prog_12_method_11_code
def yX10_wordIn : MethodName := ⟨RX10, "wordIn", "(I)I"⟩
abbrev cX10_goesOn : ByteArray := prog_12_method_12_code
def yX10_goesOn : MethodName := ⟨RX10, "goesOn", "()V"⟩
abbrev cX10_goesBack : ByteArray := prog_12_method_13_code
def yX10_goesBack : MethodName := ⟨RX10, "goesBack", "()V"⟩
abbrev cX10_goesTo : ByteArray := prog_12_method_14_code
def yX10_goesTo : MethodName := ⟨RX10, "goesTo", "(I)V"⟩
abbrev cX10_passes : ByteArray := prog_12_method_15_code
def yX10_passes : MethodName := ⟨RX10, "passes", "()I"⟩
abbrev cX10_passesBack : ByteArray := prog_12_method_16_code
def yX10_passesBack : MethodName := ⟨RX10, "passesBack", "()I"⟩
abbrev cX10_adds : ByteArray := prog_12_method_17_code
def yX10_adds : MethodName := ⟨RX10, "adds", "(I)I"⟩
abbrev cX10_givenNow : ByteArray := prog_12_method_18_code
def yX10_givenNow : MethodName := ⟨RX10, "givenNow", "()I"⟩
abbrev cX10_sets : ByteArray := prog_12_method_19_code
def yX10_sets : MethodName := ⟨RX10, "sets", "(I)I"⟩
abbrev cX10_removes : ByteArray := prog_12_method_20_code
def yX10_removes : MethodName := ⟨RX10, "removes", "()I"⟩
abbrev cX10_moves : ByteArray := prog_12_method_21_code
def yX10_moves : MethodName := ⟨RX10, "moves", "(I)I"⟩
abbrev cX10_finds : ByteArray := prog_12_method_22_code
def yX10_finds : MethodName := ⟨RX10, "finds", "(IZ)I"⟩
abbrev cX10_swaps : ByteArray := prog_12_method_23_code
def yX10_swaps : MethodName := ⟨RX10, "swaps", "()I"⟩
abbrev cX10_next : ByteArray := prog_12_method_24_code
def yX10_next : MethodName := ⟨RX10, "next", "()I"⟩
abbrev cX10_previous : ByteArray := prog_12_method_25_code
def yX10_previous : MethodName := ⟨RX10, "previous", "()I"⟩
abbrev cX10_add : ByteArray := prog_12_method_26_code
def yX10_add : MethodName := ⟨RX10, "add", "(I)I"⟩
abbrev cX10_set : ByteArray := prog_12_method_27_code
def yX10_set : MethodName := ⟨RX10, "set", "(I)I"⟩
abbrev cX10_remove : ByteArray := prog_12_method_28_code
def yX10_remove : MethodName := ⟨RX10, "remove", "()I"⟩
abbrev cX10_move : ByteArray := prog_12_method_29_code
def yX10_move : MethodName := ⟨RX10, "move", "(I)I"⟩
abbrev cX10_find : ByteArray := prog_12_method_30_code
def yX10_find : MethodName := ⟨RX10, "find", "(IZ)I"⟩
abbrev cX10_swap : ByteArray := prog_12_method_31_code
def yX10_swap : MethodName := ⟨RX10, "swap", "()I"⟩
abbrev cX10_undo : ByteArray := prog_12_method_32_code
def yX10_undo : MethodName := ⟨RX10, "undo", "()I"⟩
abbrev cX10_undoable : ByteArray := prog_12_method_33_code
def yX10_undoable : MethodName := ⟨RX10, "undoable", "()I"⟩
abbrev cX10_bytesIn : ByteArray := prog_12_method_34_code
def yX10_bytesIn : MethodName := ⟨RX10, "bytesIn", "(I)I"⟩
abbrev cX10_takesBytes : ByteArray := prog_12_method_35_code
def yX10_takesBytes : MethodName := ⟨RX10, "takesBytes", "(I)V"⟩
abbrev cX10_append : ByteArray := prog_12_method_36_code
def yX10_append : MethodName := ⟨RX10, "append", "(IIIII)I"⟩
abbrev cX10_clearTape : ByteArray := prog_12_method_37_code
def yX10_clearTape : MethodName := ⟨RX10, "clearTape", "()I"⟩
abbrev cX10_isLetter : ByteArray := prog_12_method_38_code
def yX10_isLetter : MethodName := ⟨RX10, "isLetter", "(I)Z"⟩
abbrev cX10_isDigit : ByteArray := prog_12_method_39_code
def yX10_isDigit : MethodName := ⟨RX10, "isDigit", "(I)Z"⟩
abbrev cX10_isBlank : ByteArray := prog_12_method_40_code
def yX10_isBlank : MethodName := ⟨RX10, "isBlank", "(I)Z"⟩
abbrev cX10_isSign : ByteArray := prog_12_method_41_code
def yX10_isSign : MethodName := ⟨RX10, "isSign", "(I)Z"⟩
abbrev cX10_readsWord : ByteArray := prog_12_method_42_code
def yX10_readsWord : MethodName := ⟨RX10, "readsWord", "()V"⟩
abbrev cX10_readsNumber : ByteArray := prog_12_method_43_code
def yX10_readsNumber : MethodName := ⟨RX10, "readsNumber", "()V"⟩
abbrev cX10_reads : ByteArray := prog_12_method_44_code
def yX10_reads : MethodName := ⟨RX10, "reads", "()V"⟩
abbrev cX10_isSignNow : ByteArray := prog_12_method_45_code
def yX10_isSignNow : MethodName := ⟨RX10, "isSignNow", "(I)Z"⟩
abbrev cX10_fill : ByteArray := prog_12_method_46_code
def yX10_fill : MethodName := ⟨RX10, "fill", "()I"⟩
abbrev cX10_clears : ByteArray := prog_12_method_47_code
def yX10_clears : MethodName := ⟨RX10, "clears", "()V"⟩
abbrev cX10_keepsItem : ByteArray := prog_12_method_48_code
def yX10_keepsItem : MethodName := ⟨RX10, "keepsItem", "(II)V"⟩
abbrev cX10_opens : ByteArray := prog_12_method_49_code
def yX10_opens : MethodName := ⟨RX10, "opens", "(II)Z"⟩
abbrev cX10_readsItem : ByteArray := prog_12_method_50_code
def yX10_readsItem : MethodName := ⟨RX10, "readsItem", "(I)Z"⟩
abbrev cX10_readsAll : ByteArray := prog_12_method_51_code
def yX10_readsAll : MethodName := ⟨RX10, "readsAll", "()Z"⟩
abbrev cX10_does : ByteArray := prog_12_method_52_code
def yX10_does : MethodName := ⟨RX10, "does", "(II)I"⟩
abbrev cX10_runs : ByteArray := prog_12_method_53_code
def yX10_runs : MethodName := ⟨RX10, "runs", "()I"⟩
abbrev cX10_run : ByteArray := prog_12_method_54_code
def yX10_run : MethodName := ⟨RX10, "run", "()I"⟩
abbrev cX10_errorPosition : ByteArray := prog_12_method_55_code
def yX10_errorPosition : MethodName := ⟨RX10, "errorPosition", "()I"⟩
abbrev cX10_endedBy : ByteArray := prog_12_method_56_code
def yX10_endedBy : MethodName := ⟨RX10, "endedBy", "()I"⟩
abbrev cX10_nextIndex : ByteArray := prog_12_method_57_code
def yX10_nextIndex : MethodName := ⟨RX10, "nextIndex", "()I"⟩
abbrev cX10_previousIndex : ByteArray := prog_12_method_58_code
def yX10_previousIndex : MethodName := ⟨RX10, "previousIndex", "()I"⟩
abbrev cX10_hasNext : ByteArray := prog_12_method_59_code
def yX10_hasNext : MethodName := ⟨RX10, "hasNext", "()Z"⟩
abbrev cX10_hasPrevious : ByteArray := prog_12_method_60_code
def yX10_hasPrevious : MethodName := ⟨RX10, "hasPrevious", "()Z"⟩
abbrev cX10_ahead : ByteArray := prog_12_method_61_code
def yX10_ahead : MethodName := ⟨RX10, "ahead", "(I)I"⟩
abbrev cX10_behind : ByteArray := prog_12_method_62_code
def yX10_behind : MethodName := ⟨RX10, "behind", "(I)I"⟩
abbrev cX10_given : ByteArray := prog_12_method_63_code
def yX10_given : MethodName := ⟨RX10, "given", "()I"⟩
abbrev cX10_givenBy : ByteArray := prog_12_method_64_code
def yX10_givenBy : MethodName := ⟨RX10, "givenBy", "()I"⟩
abbrev cX10_refusedNow : ByteArray := prog_12_method_65_code
def yX10_refusedNow : MethodName := ⟨RX10, "refusedNow", "()I"⟩
abbrev cX10_size : ByteArray := prog_12_method_66_code
def yX10_size : MethodName := ⟨RX10, "size", "()I"⟩
abbrev cX10_wordAt : ByteArray := prog_12_method_67_code
def yX10_wordAt : MethodName := ⟨RX10, "wordAt", "(I)I"⟩
abbrev cX10_indexOf : ByteArray := prog_12_method_68_code
def yX10_indexOf : MethodName := ⟨RX10, "indexOf", "(I)I"⟩
abbrev cX10_lastIndexOf : ByteArray := prog_12_method_69_code
def yX10_lastIndexOf : MethodName := ⟨RX10, "lastIndexOf", "(I)I"⟩
abbrev cX10_count : ByteArray := prog_12_method_70_code
def yX10_count : MethodName := ⟨RX10, "count", "(I)I"⟩
abbrev cX10_unlike : ByteArray := prog_12_method_71_code
def yX10_unlike : MethodName := ⟨RX10, "unlike", "()I"⟩
abbrev cX10_clear : ByteArray := prog_12_method_72_code
def yX10_clear : MethodName := ⟨RX10, "clear", "()I"⟩
abbrev cX10_writes : ByteArray := prog_12_method_73_code
def yX10_writes : MethodName := ⟨RX10, "writes", "(I)V"⟩
abbrev cX10_writesWord : ByteArray := prog_12_method_74_code
def yX10_writesWord : MethodName := ⟨RX10, "writesWord", "(I)V"⟩
abbrev cX10_write : ByteArray := prog_12_method_75_code
def yX10_write : MethodName := ⟨RX10, "write", "()I"⟩
abbrev cX10_writtenAt : ByteArray := prog_12_method_76_code
def yX10_writtenAt : MethodName := ⟨RX10, "writtenAt", "(I)I"⟩
abbrev cX10_refusals : ByteArray := prog_12_method_77_code
def yX10_refusals : MethodName := ⟨RX10, "refusals", "(I)I"⟩
abbrev cX10_acts : ByteArray := prog_12_method_78_code
def yX10_acts : MethodName := ⟨RX10, "acts", "()I"⟩
abbrev cX10_meanLetters : ByteArray := prog_12_method_79_code
def yX10_meanLetters : MethodName := ⟨RX10, "meanLetters", "()D"⟩
abbrev cX10_caretShare : ByteArray := prog_12_method_80_code
def yX10_caretShare : MethodName := ⟨RX10, "caretShare", "()F"⟩
abbrev cX10_agree : ByteArray := prog_12_method_81_code
def yX10_agree : MethodName := ⟨RX10, "agree", "()Z"⟩
abbrev cX10_errors : ByteArray := prog_12_method_82_code
def yX10_errors : MethodName := ⟨RX10, "errors", "()I"⟩
def RJx145de : String := "java/io/Serializable"
def TJx145de : u_T := fun k => match k with
  | _ => ("", "", "", false)
def tyJx145de : Nat → FieldType := fun k => match k with
  | _ => .int
theorem nmJx145de : ∀ a, a < 0 → ∀ b, b < 0 → a ≠ b → (TJx145de a).2.1 ≠ (TJx145de b).2.1 := by decide +kernel
theorem tyJx145de_ok : ∀ k, k < 0 → parseFieldDescriptor (TJx145de k).2.2.1 = some (tyJx145de k) := by decide +kernel
def RJ5 : String := "java/lang/AbstractStringBuilder"
def TJ5 : u_T := fun k => match k with
  | _ => ("", "", "", false)
def tyJ5 : Nat → FieldType := fun k => match k with
  | _ => .int
theorem nmJ5 : ∀ a, a < 0 → ∀ b, b < 0 → a ≠ b → (TJ5 a).2.1 ≠ (TJ5 b).2.1 := by decide +kernel
theorem tyJ5_ok : ∀ k, k < 0 → parseFieldDescriptor (TJ5 k).2.2.1 = some (tyJ5 k) := by decide +kernel
abbrev cJ5_init_d00df : ByteArray := prog_14_method_2_code
def yJ5_init_d00df : MethodName := ⟨RJ5, "<init>", "(I)V"⟩
abbrev cJ5_length_8abf5 : ByteArray := prog_14_method_6_code
def yJ5_length_8abf5 : MethodName := ⟨RJ5, "length", "()I"⟩
abbrev cJ5_ensureCapacityInternal_d00df : ByteArray := prog_14_method_9_code
def yJ5_ensureCapacityInternal_d00df : MethodName := ⟨RJ5, "ensureCapacityInternal", "(I)V"⟩
abbrev cJ5_newCapacity_0f7a4 : ByteArray := prog_14_method_10_code
def yJ5_newCapacity_0f7a4 : MethodName := ⟨RJ5, "newCapacity", "(I)I"⟩
abbrev cJ5_inflate_da8c8 : ByteArray := prog_14_method_11_code
def yJ5_inflate_da8c8 : MethodName := ⟨RJ5, "inflate", "()V"⟩
abbrev cJ5_append_cf1ce : ByteArray := prog_14_method_22_code
def yJ5_append_cf1ce : MethodName := ⟨RJ5, "append", "(Ljava/lang/String;)Ljava/lang/AbstractStringBuilder;"⟩
abbrev cJ5_appendNull_278bc : ByteArray := prog_14_method_26_code
def yJ5_appendNull_278bc : MethodName := ⟨RJ5, "appendNull", "()Ljava/lang/AbstractStringBuilder;"⟩
abbrev cJ5_append_c97b9 : ByteArray := prog_14_method_32_code
def yJ5_append_c97b9 : MethodName := ⟨RJ5, "append", "(I)Ljava/lang/AbstractStringBuilder;"⟩
abbrev cJ5_getValue_6d5f1 : ByteArray := prog_14_method_64_code
def yJ5_getValue_6d5f1 : MethodName := ⟨RJ5, "getValue", "()[B"⟩
abbrev cJ5_isLatin1_aae02 : ByteArray := prog_14_method_68_code
def yJ5_isLatin1_aae02 : MethodName := ⟨RJ5, "isLatin1", "()Z"⟩
abbrev cJ5_inflateIfNeededFor_a7421 : ByteArray := prog_14_method_71_code
def yJ5_inflateIfNeededFor_a7421 : MethodName := ⟨RJ5, "inflateIfNeededFor", "(Ljava/lang/String;)V"⟩
abbrev cJ5_putStringAt_47b60 : ByteArray := prog_14_method_73_code
def yJ5_putStringAt_47b60 : MethodName := ⟨RJ5, "putStringAt", "(ILjava/lang/String;)V"⟩
def RJx2cfe8 : String := "java/lang/Appendable"
def TJx2cfe8 : u_T := fun k => match k with
  | _ => ("", "", "", false)
def tyJx2cfe8 : Nat → FieldType := fun k => match k with
  | _ => .int
theorem nmJx2cfe8 : ∀ a, a < 0 → ∀ b, b < 0 → a ≠ b → (TJx2cfe8 a).2.1 ≠ (TJx2cfe8 b).2.1 := by decide +kernel
theorem tyJx2cfe8_ok : ∀ k, k < 0 → parseFieldDescriptor (TJx2cfe8 k).2.2.1 = some (tyJx2cfe8 k) := by decide +kernel
def RJx9f9b0 : String := "java/lang/CharSequence"
def TJx9f9b0 : u_T := fun k => match k with
  | _ => ("", "", "", false)
def tyJx9f9b0 : Nat → FieldType := fun k => match k with
  | _ => .int
theorem nmJx9f9b0 : ∀ a, a < 0 → ∀ b, b < 0 → a ≠ b → (TJx9f9b0 a).2.1 ≠ (TJx9f9b0 b).2.1 := by decide +kernel
theorem tyJx9f9b0_ok : ∀ k, k < 0 → parseFieldDescriptor (TJx9f9b0 k).2.2.1 = some (tyJx9f9b0 k) := by decide +kernel
def RJx8e188 : String := "java/lang/Cloneable"
def TJx8e188 : u_T := fun k => match k with
  | _ => ("", "", "", false)
def tyJx8e188 : Nat → FieldType := fun k => match k with
  | _ => .int
theorem nmJx8e188 : ∀ a, a < 0 → ∀ b, b < 0 → a ≠ b → (TJx8e188 a).2.1 ≠ (TJx8e188 b).2.1 := by decide +kernel
theorem tyJx8e188_ok : ∀ k, k < 0 → parseFieldDescriptor (TJx8e188 k).2.2.1 = some (tyJx8e188 k) := by decide +kernel
def RJxb160c : String := "java/lang/Comparable"
def TJxb160c : u_T := fun k => match k with
  | _ => ("", "", "", false)
def tyJxb160c : Nat → FieldType := fun k => match k with
  | _ => .int
theorem nmJxb160c : ∀ a, a < 0 → ∀ b, b < 0 → a ≠ b → (TJxb160c a).2.1 ≠ (TJxb160c b).2.1 := by decide +kernel
theorem tyJxb160c_ok : ∀ k, k < 0 → parseFieldDescriptor (TJxb160c k).2.2.1 = some (tyJxb160c k) := by decide +kernel
def RJxabbfe : String := "java/lang/Integer$IntegerCache"
def TJxabbfe : u_T := fun k => match k with
  | _ => ("", "", "", false)
def tyJxabbfe : Nat → FieldType := fun k => match k with
  | _ => .int
theorem nmJxabbfe : ∀ a, a < 0 → ∀ b, b < 0 → a ≠ b → (TJxabbfe a).2.1 ≠ (TJxabbfe b).2.1 := by decide +kernel
theorem tyJxabbfe_ok : ∀ k, k < 0 → parseFieldDescriptor (TJxabbfe k).2.2.1 = some (tyJxabbfe k) := by decide +kernel
def RJ6 : String := "java/lang/Integer"
def TJ6 : u_T := fun k => match k with
  | _ => ("java/lang/Integer", "value", "I", true)
def tyJ6 : Nat → FieldType := fun k => match k with
  | _ => .int
theorem nmJ6 : ∀ a, a < 1 → ∀ b, b < 1 → a ≠ b → (TJ6 a).2.1 ≠ (TJ6 b).2.1 := by decide +kernel
theorem tyJ6_ok : ∀ k, k < 1 → parseFieldDescriptor (TJ6 k).2.2.1 = some (tyJ6 k) := by decide +kernel
abbrev cJ6_getChars_ba4f3 : ByteArray := prog_23_method_12_code
def yJ6_getChars_ba4f3 : MethodName := ⟨RJ6, "getChars", "(II[B)I"⟩
abbrev cJ6_stringSize_0f7a4 : ByteArray := prog_23_method_13_code
def yJ6_stringSize_0f7a4 : MethodName := ⟨RJ6, "stringSize", "(I)I"⟩
abbrev cJ6_valueOf_2dffe : ByteArray := prog_23_method_22_code
def yJ6_valueOf_2dffe : MethodName := ⟨RJ6, "valueOf", "(I)Ljava/lang/Integer;"⟩
abbrev cJ6_init_d00df : ByteArray := prog_23_method_23_code
def yJ6_init_d00df : MethodName := ⟨RJ6, "<init>", "(I)V"⟩
abbrev cJ6_intValue_8abf5 : ByteArray := prog_23_method_27_code
def yJ6_intValue_8abf5 : MethodName := ⟨RJ6, "intValue", "()I"⟩
def RJxab1ab : String := "java/lang/Iterable"
def TJxab1ab : u_T := fun k => match k with
  | _ => ("", "", "", false)
def tyJxab1ab : Nat → FieldType := fun k => match k with
  | _ => .int
theorem nmJxab1ab : ∀ a, a < 0 → ∀ b, b < 0 → a ≠ b → (TJxab1ab a).2.1 ≠ (TJxab1ab b).2.1 := by decide +kernel
theorem tyJxab1ab_ok : ∀ k, k < 0 → parseFieldDescriptor (TJxab1ab k).2.2.1 = some (tyJxab1ab k) := by decide +kernel
def RJ9 : String := "java/lang/Math"
def TJ9 : u_T := fun k => match k with
  | _ => ("", "", "", false)
def tyJ9 : Nat → FieldType := fun k => match k with
  | _ => .int
theorem nmJ9 : ∀ a, a < 0 → ∀ b, b < 0 → a ≠ b → (TJ9 a).2.1 ≠ (TJ9 b).2.1 := by decide +kernel
theorem tyJ9_ok : ∀ k, k < 0 → parseFieldDescriptor (TJ9 k).2.2.1 = some (tyJ9 k) := by decide +kernel
abbrev cJ9_max_7cf53 : ByteArray := prog_26_method_65_code
def yJ9_max_7cf53 : MethodName := ⟨RJ9, "max", "(II)I"⟩
abbrev cJ9_min_7cf53 : ByteArray := prog_26_method_69_code
def yJ9_min_7cf53 : MethodName := ⟨RJ9, "min", "(II)I"⟩
def RJxd2413 : String := "java/lang/Number"
def TJxd2413 : u_T := fun k => match k with
  | _ => ("", "", "", false)
def tyJxd2413 : Nat → FieldType := fun k => match k with
  | _ => .int
theorem nmJxd2413 : ∀ a, a < 0 → ∀ b, b < 0 → a ≠ b → (TJxd2413 a).2.1 ≠ (TJxd2413 b).2.1 := by decide +kernel
theorem tyJxd2413_ok : ∀ k, k < 0 → parseFieldDescriptor (TJxd2413 k).2.2.1 = some (tyJxd2413 k) := by decide +kernel
abbrev cJxd2413_init_da8c8 : ByteArray := prog_27_method_1_code
def yJxd2413_init_da8c8 : MethodName := ⟨RJxd2413, "<init>", "()V"⟩
def RJ0 : String := "java/lang/String"
def TJ0 : u_T := fun k => match k with
  | 0 => ("java/lang/String", "value", "[B", true)
  | 1 => ("java/lang/String", "coder", "B", true)
  | 2 => ("java/lang/String", "hash", "I", false)
  | _ => ("java/lang/String", "hashIsZero", "Z", false)
def tyJ0 : Nat → FieldType := fun k => match k with
  | 0 => .array .byte
  | 1 => .byte
  | 2 => .int
  | _ => .boolean
theorem nmJ0 : ∀ a, a < 4 → ∀ b, b < 4 → a ≠ b → (TJ0 a).2.1 ≠ (TJ0 b).2.1 := by decide +kernel
theorem tyJ0_ok : ∀ k, k < 4 → parseFieldDescriptor (TJ0 k).2.2.1 = some (tyJ0 k) := by decide +kernel
abbrev cJ0_init_81219 : ByteArray := prog_29_method_53_code
def yJ0_init_81219 : MethodName := ⟨RJ0, "<init>", "(Ljava/lang/StringBuilder;)V"⟩
abbrev cJ0_length_8abf5 : ByteArray := prog_29_method_54_code
def yJ0_length_8abf5 : MethodName := ⟨RJ0, "length", "()I"⟩
abbrev cJ0_getBytes_840e7 : ByteArray := prog_29_method_147_code
def yJ0_getBytes_840e7 : MethodName := ⟨RJ0, "getBytes", "([BIB)V"⟩
abbrev cJ0_init_db425 : ByteArray := prog_29_method_150_code
def yJ0_init_db425 : MethodName := ⟨RJ0, "<init>", "(Ljava/lang/AbstractStringBuilder;Ljava/lang/Void;)V"⟩
abbrev cJ0_coder_7d493 : ByteArray := prog_29_method_152_code
def yJ0_coder_7d493 : MethodName := ⟨RJ0, "coder", "()B"⟩
abbrev cJ0_checkBoundsOffCount_cabcc : ByteArray := prog_29_method_157_code
def yJ0_checkBoundsOffCount_cabcc : MethodName := ⟨RJ0, "checkBoundsOffCount", "(III)I"⟩
abbrev cJ0_checkBoundsBeginEnd_23922 : ByteArray := prog_29_method_158_code
def yJ0_checkBoundsBeginEnd_23922 : MethodName := ⟨RJ0, "checkBoundsBeginEnd", "(III)V"⟩
def RJ4 : String := "java/lang/StringBuilder"
def TJ4 : u_T := fun k => match k with
  | 0 => ("java/lang/AbstractStringBuilder", "value", "[B", false)
  | 1 => ("java/lang/AbstractStringBuilder", "coder", "B", false)
  | 2 => ("java/lang/AbstractStringBuilder", "maybeLatin1", "Z", false)
  | _ => ("java/lang/AbstractStringBuilder", "count", "I", false)
def tyJ4 : Nat → FieldType := fun k => match k with
  | 0 => .array .byte
  | 1 => .byte
  | 2 => .boolean
  | _ => .int
theorem nmJ4 : ∀ a, a < 4 → ∀ b, b < 4 → a ≠ b → (TJ4 a).2.1 ≠ (TJ4 b).2.1 := by decide +kernel
theorem tyJ4_ok : ∀ k, k < 4 → parseFieldDescriptor (TJ4 k).2.2.1 = some (tyJ4 k) := by decide +kernel
abbrev cJ4_init_da8c8 : ByteArray := prog_30_method_1_code
def yJ4_init_da8c8 : MethodName := ⟨RJ4, "<init>", "()V"⟩
abbrev cJ4_append_15ec4 : ByteArray := prog_30_method_7_code
def yJ4_append_15ec4 : MethodName := ⟨RJ4, "append", "(Ljava/lang/String;)Ljava/lang/StringBuilder;"⟩
abbrev cJ4_append_bf812 : ByteArray := prog_30_method_15_code
def yJ4_append_bf812 : MethodName := ⟨RJ4, "append", "(I)Ljava/lang/StringBuilder;"⟩
abbrev cJ4_toString_0e30d : ByteArray := prog_30_method_42_code
def yJ4_toString_0e30d : MethodName := ⟨RJ4, "toString", "()Ljava/lang/String;"⟩
abbrev cJ4_length_8abf5 : ByteArray := prog_30_method_93_code
def yJ4_length_8abf5 : MethodName := ⟨RJ4, "length", "()I"⟩
def RJ1 : String := "java/lang/StringLatin1"
def TJ1 : u_T := fun k => match k with
  | _ => ("", "", "", false)
def tyJ1 : Nat → FieldType := fun k => match k with
  | _ => .int
theorem nmJ1 : ∀ a, a < 0 → ∀ b, b < 0 → a ≠ b → (TJ1 a).2.1 ≠ (TJ1 b).2.1 := by decide +kernel
theorem tyJ1_ok : ∀ k, k < 0 → parseFieldDescriptor (TJ1 k).2.2.1 = some (tyJ1 k) := by decide +kernel
abbrev cJ1_inflate_0e8fd : ByteArray := prog_31_method_50_code
def yJ1_inflate_0e8fd : MethodName := ⟨RJ1, "inflate", "([BI[BII)V"⟩
def RJ2 : String := "java/lang/StringUTF16"
def TJ2 : u_T := fun k => match k with
  | _ => ("", "", "", false)
def tyJ2 : Nat → FieldType := fun k => match k with
  | _ => .int
theorem nmJ2 : ∀ a, a < 0 → ∀ b, b < 0 → a ≠ b → (TJ2 a).2.1 ≠ (TJ2 b).2.1 := by decide +kernel
theorem tyJ2_ok : ∀ k, k < 0 → parseFieldDescriptor (TJ2 k).2.2.1 = some (tyJ2 k) := by decide +kernel
abbrev cJ2_newBytesFor_77867 : ByteArray := prog_32_method_2_code
def yJ2_newBytesFor_77867 : MethodName := ⟨RJ2, "newBytesFor", "(I)[B"⟩
abbrev cJ2_newBytesLength_0f7a4 : ByteArray := prog_32_method_3_code
def yJ2_newBytesLength_0f7a4 : MethodName := ⟨RJ2, "newBytesLength", "(I)I"⟩
abbrev cJ2_putChar_b72d1 : ByteArray := prog_32_method_4_code
def yJ2_putChar_b72d1 : MethodName := ⟨RJ2, "putChar", "([BII)V"⟩
abbrev cJ2_getChar_3b067 : ByteArray := prog_32_method_5_code
def yJ2_getChar_3b067 : MethodName := ⟨RJ2, "getChar", "([BI)C"⟩
abbrev cJ2_length_9d52b : ByteArray := prog_32_method_6_code
def yJ2_length_9d52b : MethodName := ⟨RJ2, "length", "([B)I"⟩
abbrev cJ2_coderFromArrayLen_85cad : ByteArray := prog_32_method_15_code
def yJ2_coderFromArrayLen_85cad : MethodName := ⟨RJ2, "coderFromArrayLen", "([BI)B"⟩
abbrev cJ2_compress_39247 : ByteArray := prog_32_method_17_code
def yJ2_compress_39247 : MethodName := ⟨RJ2, "compress", "([BII)[B"⟩
abbrev cJ2_compress_5af95 : ByteArray := prog_32_method_22_code
def yJ2_compress_5af95 : MethodName := ⟨RJ2, "compress", "([BI[BII)I"⟩
abbrev cJ2_getChars_46870 : ByteArray := prog_32_method_77_code
def yJ2_getChars_46870 : MethodName := ⟨RJ2, "getChars", "(III[B)I"⟩
abbrev cJ2_putCharsAt_cd4e5 : ByteArray := prog_32_method_81_code
def yJ2_putCharsAt_cd4e5 : MethodName := ⟨RJ2, "putCharsAt", "([BICCCC)I"⟩
abbrev cJ2_inflate_0e8fd : ByteArray := prog_32_method_86_code
def yJ2_inflate_0e8fd : MethodName := ⟨RJ2, "inflate", "([BI[BII)V"⟩
abbrev cJ2_getChars_ba4f3 : ByteArray := prog_32_method_89_code
def yJ2_getChars_ba4f3 : MethodName := ⟨RJ2, "getChars", "(II[B)I"⟩
abbrev cJ2_checkBoundsBeginEnd_d044e : ByteArray := prog_32_method_93_code
def yJ2_checkBoundsBeginEnd_d044e : MethodName := ⟨RJ2, "checkBoundsBeginEnd", "(II[B)V"⟩
abbrev cJ2_checkBoundsOffCount_d044e : ByteArray := prog_32_method_94_code
def yJ2_checkBoundsOffCount_d044e : MethodName := ⟨RJ2, "checkBoundsOffCount", "(II[B)V"⟩
def RJ10 : String := "java/lang/System"
def TJ10 : u_T := fun k => match k with
  | _ => ("", "", "", false)
def tyJ10 : Nat → FieldType := fun k => match k with
  | _ => .int
theorem nmJ10 : ∀ a, a < 0 → ∀ b, b < 0 → a ≠ b → (TJ10 a).2.1 ≠ (TJ10 b).2.1 := by decide +kernel
theorem tyJ10_ok : ∀ k, k < 0 → parseFieldDescriptor (TJ10 k).2.2.1 = some (tyJ10 k) := by decide +kernel
def RJxfd54e : String := "java/lang/constant/Constable"
def TJxfd54e : u_T := fun k => match k with
  | _ => ("", "", "", false)
def tyJxfd54e : Nat → FieldType := fun k => match k with
  | _ => .int
theorem nmJxfd54e : ∀ a, a < 0 → ∀ b, b < 0 → a ≠ b → (TJxfd54e a).2.1 ≠ (TJxfd54e b).2.1 := by decide +kernel
theorem tyJxfd54e_ok : ∀ k, k < 0 → parseFieldDescriptor (TJxfd54e k).2.2.1 = some (tyJxfd54e k) := by decide +kernel
def RJx3cf43 : String := "java/lang/constant/ConstantDesc"
def TJx3cf43 : u_T := fun k => match k with
  | _ => ("", "", "", false)
def tyJx3cf43 : Nat → FieldType := fun k => match k with
  | _ => .int
theorem nmJx3cf43 : ∀ a, a < 0 → ∀ b, b < 0 → a ≠ b → (TJx3cf43 a).2.1 ≠ (TJx3cf43 b).2.1 := by decide +kernel
theorem tyJx3cf43_ok : ∀ k, k < 0 → parseFieldDescriptor (TJx3cf43 k).2.2.1 = some (tyJx3cf43 k) := by decide +kernel
def RJxa1e45 : String := "java/util/AbstractCollection"
def TJxa1e45 : u_T := fun k => match k with
  | _ => ("", "", "", false)
def tyJxa1e45 : Nat → FieldType := fun k => match k with
  | _ => .int
theorem nmJxa1e45 : ∀ a, a < 0 → ∀ b, b < 0 → a ≠ b → (TJxa1e45 a).2.1 ≠ (TJxa1e45 b).2.1 := by decide +kernel
theorem tyJxa1e45_ok : ∀ k, k < 0 → parseFieldDescriptor (TJxa1e45 k).2.2.1 = some (tyJxa1e45 k) := by decide +kernel
abbrev cJxa1e45_init_da8c8 : ByteArray := prog_37_method_1_code
def yJxa1e45_init_da8c8 : MethodName := ⟨RJxa1e45, "<init>", "()V"⟩
def RJxc12de : String := "java/util/AbstractList"
def TJxc12de : u_T := fun k => match k with
  | _ => ("", "", "", false)
def tyJxc12de : Nat → FieldType := fun k => match k with
  | _ => .int
theorem nmJxc12de : ∀ a, a < 0 → ∀ b, b < 0 → a ≠ b → (TJxc12de a).2.1 ≠ (TJxc12de b).2.1 := by decide +kernel
theorem tyJxc12de_ok : ∀ k, k < 0 → parseFieldDescriptor (TJxc12de k).2.2.1 = some (tyJxc12de k) := by decide +kernel
abbrev cJxc12de_init_da8c8 : ByteArray := prog_38_method_1_code
def yJxc12de_init_da8c8 : MethodName := ⟨RJxc12de, "<init>", "()V"⟩
def RJx4a65c : String := "java/util/ArrayList"
def TJx4a65c : u_T := fun k => match k with
  | 0 => ("java/util/AbstractList", "modCount", "I", false)
  | 1 => ("java/util/ArrayList", "elementData", "[Ljava/lang/Object;", false)
  | _ => ("java/util/ArrayList", "size", "I", false)
def tyJx4a65c : Nat → FieldType := fun k => match k with
  | 0 => .int
  | 1 => .array (.object "java/lang/Object")
  | _ => .int
theorem nmJx4a65c : ∀ a, a < 3 → ∀ b, b < 3 → a ≠ b → (TJx4a65c a).2.1 ≠ (TJx4a65c b).2.1 := by decide +kernel
theorem tyJx4a65c_ok : ∀ k, k < 3 → parseFieldDescriptor (TJx4a65c k).2.2.1 = some (tyJx4a65c k) := by decide +kernel
abbrev cJx4a65c_init_da8c8 : ByteArray := prog_39_method_2_code
def yJx4a65c_init_da8c8 : MethodName := ⟨RJx4a65c, "<init>", "()V"⟩
abbrev cJx4a65c_grow_92f84 : ByteArray := prog_39_method_6_code
def yJx4a65c_grow_92f84 : MethodName := ⟨RJx4a65c, "grow", "(I)[Ljava/lang/Object;"⟩
abbrev cJx4a65c_grow_d5877 : ByteArray := prog_39_method_7_code
def yJx4a65c_grow_d5877 : MethodName := ⟨RJx4a65c, "grow", "()[Ljava/lang/Object;"⟩
abbrev cJx4a65c_size_8abf5 : ByteArray := prog_39_method_8_code
def yJx4a65c_size_8abf5 : MethodName := ⟨RJx4a65c, "size", "()I"⟩
abbrev cJx4a65c_elementData_915e3 : ByteArray := prog_39_method_18_code
def yJx4a65c_elementData_915e3 : MethodName := ⟨RJx4a65c, "elementData", "(I)Ljava/lang/Object;"⟩
abbrev cJx4a65c_get_915e3 : ByteArray := prog_39_method_20_code
def yJx4a65c_get_915e3 : MethodName := ⟨RJx4a65c, "get", "(I)Ljava/lang/Object;"⟩
abbrev cJx4a65c_set_bcc79 : ByteArray := prog_39_method_23_code
def yJx4a65c_set_bcc79 : MethodName := ⟨RJx4a65c, "set", "(ILjava/lang/Object;)Ljava/lang/Object;"⟩
abbrev cJx4a65c_add_7a177 : ByteArray := prog_39_method_26_code
def yJx4a65c_add_7a177 : MethodName := ⟨RJx4a65c, "add", "(ILjava/lang/Object;)V"⟩
abbrev cJx4a65c_remove_915e3 : ByteArray := prog_39_method_29_code
def yJx4a65c_remove_915e3 : MethodName := ⟨RJx4a65c, "remove", "(I)Ljava/lang/Object;"⟩
abbrev cJx4a65c_fastRemove_b59b0 : ByteArray := prog_39_method_39_code
def yJx4a65c_fastRemove_b59b0 : MethodName := ⟨RJx4a65c, "fastRemove", "([Ljava/lang/Object;I)V"⟩
abbrev cJx4a65c_clear_da8c8 : ByteArray := prog_39_method_40_code
def yJx4a65c_clear_da8c8 : MethodName := ⟨RJx4a65c, "clear", "()V"⟩
abbrev cJx4a65c_rangeCheckForAdd_d00df : ByteArray := prog_39_method_45_code
def yJx4a65c_rangeCheckForAdd_d00df : MethodName := ⟨RJx4a65c, "rangeCheckForAdd", "(I)V"⟩
abbrev cJx4a65c_outOfBoundsMsg_b52d3 : ByteArray := prog_39_method_46_code
def yJx4a65c_outOfBoundsMsg_b52d3 : MethodName := ⟨RJx4a65c, "outOfBoundsMsg", "(I)Ljava/lang/String;"⟩
def RJ7 : String := "java/util/Arrays"
def TJ7 : u_T := fun k => match k with
  | _ => ("", "", "", false)
def tyJ7 : Nat → FieldType := fun k => match k with
  | _ => .int
theorem nmJ7 : ∀ a, a < 0 → ∀ b, b < 0 → a ≠ b → (TJ7 a).2.1 ≠ (TJ7 b).2.1 := by decide +kernel
theorem tyJ7_ok : ∀ k, k < 0 → parseFieldDescriptor (TJ7 k).2.2.1 = some (tyJ7 k) := by decide +kernel
abbrev cJ7_copyOf_1904c : ByteArray := prog_40_method_119_code
def yJ7_copyOf_1904c : MethodName := ⟨RJ7, "copyOf", "([Ljava/lang/Object;I)[Ljava/lang/Object;"⟩
abbrev cJ7_copyOf_6403c : ByteArray := prog_40_method_120_code
def yJ7_copyOf_6403c : MethodName := ⟨RJ7, "copyOf", "([Ljava/lang/Object;ILjava/lang/Class;)[Ljava/lang/Object;"⟩
abbrev cJ7_copyOf_9075b : ByteArray := prog_40_method_121_code
def yJ7_copyOf_9075b : MethodName := ⟨RJ7, "copyOf", "([BI)[B"⟩
abbrev cJ7_checkLength_df160 : ByteArray := prog_40_method_131_code
def yJ7_checkLength_df160 : MethodName := ⟨RJ7, "checkLength", "(II)V"⟩
abbrev cJ7_copyOfRange_39247 : ByteArray := prog_40_method_132_code
def yJ7_copyOfRange_39247 : MethodName := ⟨RJ7, "copyOfRange", "([BII)[B"⟩
abbrev cJ7_copyOfRangeByte_39247 : ByteArray := prog_40_method_133_code
def yJ7_copyOfRangeByte_39247 : MethodName := ⟨RJ7, "copyOfRangeByte", "([BII)[B"⟩
def RJx5ef63 : String := "java/util/Collection"
def TJx5ef63 : u_T := fun k => match k with
  | _ => ("", "", "", false)
def tyJx5ef63 : Nat → FieldType := fun k => match k with
  | _ => .int
theorem nmJx5ef63 : ∀ a, a < 0 → ∀ b, b < 0 → a ≠ b → (TJx5ef63 a).2.1 ≠ (TJx5ef63 b).2.1 := by decide +kernel
theorem tyJx5ef63_ok : ∀ k, k < 0 → parseFieldDescriptor (TJx5ef63 k).2.2.1 = some (tyJx5ef63 k) := by decide +kernel
def RJxbd725 : String := "java/util/List"
def TJxbd725 : u_T := fun k => match k with
  | _ => ("", "", "", false)
def tyJxbd725 : Nat → FieldType := fun k => match k with
  | _ => .int
theorem nmJxbd725 : ∀ a, a < 0 → ∀ b, b < 0 → a ≠ b → (TJxbd725 a).2.1 ≠ (TJxbd725 b).2.1 := by decide +kernel
theorem tyJxbd725_ok : ∀ k, k < 0 → parseFieldDescriptor (TJxbd725 k).2.2.1 = some (tyJxbd725 k) := by decide +kernel
def RJ15 : String := "java/util/Objects"
def TJ15 : u_T := fun k => match k with
  | _ => ("", "", "", false)
def tyJ15 : Nat → FieldType := fun k => match k with
  | _ => .int
theorem nmJ15 : ∀ a, a < 0 → ∀ b, b < 0 → a ≠ b → (TJ15 a).2.1 ≠ (TJ15 b).2.1 := by decide +kernel
theorem tyJ15_ok : ∀ k, k < 0 → parseFieldDescriptor (TJ15 k).2.2.1 = some (tyJ15 k) := by decide +kernel
abbrev cJ15_checkIndex_7cf53 : ByteArray := prog_43_method_17_code
def yJ15_checkIndex_7cf53 : MethodName := ⟨RJ15, "checkIndex", "(II)I"⟩
def RJxf0a74 : String := "java/util/RandomAccess"
def TJxf0a74 : u_T := fun k => match k with
  | _ => ("", "", "", false)
def tyJxf0a74 : Nat → FieldType := fun k => match k with
  | _ => .int
theorem nmJxf0a74 : ∀ a, a < 0 → ∀ b, b < 0 → a ≠ b → (TJxf0a74 a).2.1 ≠ (TJxf0a74 b).2.1 := by decide +kernel
theorem tyJxf0a74_ok : ∀ k, k < 0 → parseFieldDescriptor (TJxf0a74 k).2.2.1 = some (tyJxf0a74 k) := by decide +kernel
def RJxa66e6 : String := "java/util/SequencedCollection"
def TJxa66e6 : u_T := fun k => match k with
  | _ => ("", "", "", false)
def tyJxa66e6 : Nat → FieldType := fun k => match k with
  | _ => .int
theorem nmJxa66e6 : ∀ a, a < 0 → ∀ b, b < 0 → a ≠ b → (TJxa66e6 a).2.1 ≠ (TJxa66e6 b).2.1 := by decide +kernel
theorem tyJxa66e6_ok : ∀ k, k < 0 → parseFieldDescriptor (TJxa66e6 k).2.2.1 = some (tyJxa66e6 k) := by decide +kernel
def RJ8 : String := "jdk/internal/util/ArraysSupport"
def TJ8 : u_T := fun k => match k with
  | _ => ("", "", "", false)
def tyJ8 : Nat → FieldType := fun k => match k with
  | _ => .int
theorem nmJ8 : ∀ a, a < 0 → ∀ b, b < 0 → a ≠ b → (TJ8 a).2.1 ≠ (TJ8 b).2.1 := by decide +kernel
theorem tyJ8_ok : ∀ k, k < 0 → parseFieldDescriptor (TJ8 k).2.2.1 = some (tyJ8 k) := by decide +kernel
abbrev cJ8_newLength_cabcc : ByteArray := prog_46_method_27_code
def yJ8_newLength_cabcc : MethodName := ⟨RJ8, "newLength", "(III)I"⟩
abbrev cJ8_hugeLength_7cf53 : ByteArray := prog_46_method_28_code
def yJ8_hugeLength_7cf53 : MethodName := ⟨RJ8, "hugeLength", "(II)I"⟩
def RJ3 : String := "jdk/internal/util/Preconditions"
def TJ3 : u_T := fun k => match k with
  | _ => ("", "", "", false)
def tyJ3 : Nat → FieldType := fun k => match k with
  | _ => .int
theorem nmJ3 : ∀ a, a < 0 → ∀ b, b < 0 → a ≠ b → (TJ3 a).2.1 ≠ (TJ3 b).2.1 := by decide +kernel
theorem tyJ3_ok : ∀ k, k < 0 → parseFieldDescriptor (TJ3 k).2.2.1 = some (tyJ3 k) := by decide +kernel
abbrev cJ3_checkIndex_8e157 : ByteArray := prog_47_method_11_code
def yJ3_checkIndex_8e157 : MethodName := ⟨RJ3, "checkIndex", "(IILjava/util/function/BiFunction;)I"⟩
abbrev cJ3_checkFromToIndex_8c36e : ByteArray := prog_47_method_12_code
def yJ3_checkFromToIndex_8c36e : MethodName := ⟨RJ3, "checkFromToIndex", "(IIILjava/util/function/BiFunction;)I"⟩
abbrev cJ3_checkFromIndexSize_8c36e : ByteArray := prog_47_method_13_code
def yJ3_checkFromIndexSize_8c36e : MethodName := ⟨RJ3, "checkFromIndexSize", "(IIILjava/util/function/BiFunction;)I"⟩
def RL : String := "CaretlineLaw"
abbrev cL_add : ByteArray := method_3_code
def yL_add : MethodName := ⟨RL, "add", "(LCaretline;I[J)I"⟩
abbrev cL_set : ByteArray := method_4_code
def yL_set : MethodName := ⟨RL, "set", "(LCaretline;I[J)I"⟩
abbrev cL_find : ByteArray := method_5_code
def yL_find : MethodName := ⟨RL, "find", "(LCaretline;IZ[J)I"⟩
abbrev cL_append : ByteArray := method_6_code
def yL_append : MethodName := ⟨RL, "append", "(LCaretline;IIIII[J)I"⟩
abbrev cL_fill : ByteArray := method_7_code
def yL_fill : MethodName := ⟨RL, "fill", "(LCaretline;[J)I"⟩
abbrev cL_run : ByteArray := method_8_code
def yL_run : MethodName := ⟨RL, "run", "(LCaretline;[J)I"⟩
abbrev cL_wordAt : ByteArray := method_9_code
def yL_wordAt : MethodName := ⟨RL, "wordAt", "(LCaretline;I[J)I"⟩
abbrev cL_indexOf : ByteArray := method_10_code
def yL_indexOf : MethodName := ⟨RL, "indexOf", "(LCaretline;I[J)I"⟩
abbrev cL_lastIndexOf : ByteArray := method_11_code
def yL_lastIndexOf : MethodName := ⟨RL, "lastIndexOf", "(LCaretline;I[J)I"⟩
abbrev cL_count : ByteArray := method_12_code
def yL_count : MethodName := ⟨RL, "count", "(LCaretline;I[J)I"⟩
abbrev cL_writtenAt : ByteArray := method_13_code
def yL_writtenAt : MethodName := ⟨RL, "writtenAt", "(LCaretline;I[J)I"⟩
abbrev cL_refusals : ByteArray := method_14_code
def yL_refusals : MethodName := ⟨RL, "refusals", "(LCaretline;I[J)I"⟩
abbrev cL_law : ByteArray := code
def yL_law : MethodName := ⟨RL, "law", "([I)Z"⟩
abbrev vwCl : List vw_C := [(RJ0, TJ0, 4), (RJ4, TJ4, 4), (RJ6, TJ6, 1), (RJx4a65c, TJx4a65c, 3), (RX0, TX0, 5), (RX1, TX1, 5), (RX2, TX2, 4), (RX3, TX3, 4), (RX4, TX4, 2), (RX5, TX5, 3), (RX6, TX6, 2), (RX7, TX7, 7), (RX8, TX8, 2), (RX9, TX9, 8), (RX10, TX10, 30)]
end
section
theorem dX0_init_0 : decode cX0_init 0 = .ok (.aload_n 0, 1) := by decide +kernel
theorem dX0_init_1 : decode cX0_init 1 = .ok (.invokespecial 3, 3) := by decide +kernel
theorem dX0_init_4 : decode cX0_init 4 = .ok (.iconst 0, 1) := by decide +kernel
theorem dX0_init_5 : decode cX0_init 5 = .ok (.istore_n 1, 1) := by decide +kernel
theorem dX0_init_6 : decode cX0_init 6 = .ok (.iload_n 1, 1) := by decide +kernel
theorem dX0_init_7 : decode cX0_init 7 = .ok (.bipush 100, 2) := by decide +kernel
theorem dX0_init_9 : decode cX0_init 9 = .ok (.if_icmp .ge 30, 3) := by decide +kernel
theorem dX0_init_12 : decode cX0_init 12 = .ok (.new 9, 3) := by decide +kernel
theorem dX0_init_15 : decode cX0_init 15 = .ok (.dup, 1) := by decide +kernel
theorem dX0_init_16 : decode cX0_init 16 = .ok (.invokespecial 11, 3) := by decide +kernel
theorem dX0_init_19 : decode cX0_init 19 = .ok (.astore_n 2, 1) := by decide +kernel
theorem dX0_init_20 : decode cX0_init 20 = .ok (.aload_n 2, 1) := by decide +kernel
theorem dX0_init_21 : decode cX0_init 21 = .ok (.aload_n 0, 1) := by decide +kernel
theorem dX0_init_22 : decode cX0_init 22 = .ok (.getfield 12, 3) := by decide +kernel
theorem dX0_init_25 : decode cX0_init 25 = .ok (.putfield 18, 3) := by decide +kernel
theorem dX0_init_28 : decode cX0_init 28 = .ok (.aload_n 0, 1) := by decide +kernel
theorem dX0_init_29 : decode cX0_init 29 = .ok (.aload_n 2, 1) := by decide +kernel
theorem dX0_init_30 : decode cX0_init 30 = .ok (.putfield 12, 3) := by decide +kernel
theorem dX0_init_33 : decode cX0_init 33 = .ok (.iinc 1 1, 3) := by decide +kernel
theorem dX0_init_36 : decode cX0_init 36 = .ok (.goto (-30), 3) := by decide +kernel
theorem dX0_init_39 : decode cX0_init 39 = .ok (.return_, 1) := by decide +kernel
theorem dX0_pass_0 : decode cX0_pass 0 = .ok (.iload_n 1, 1) := by decide +kernel
theorem dX0_pass_1 : decode cX0_pass 1 = .ok (.ifCond .eq 10, 3) := by decide +kernel
theorem dX0_pass_4 : decode cX0_pass 4 = .ok (.aload_n 0, 1) := by decide +kernel
theorem dX0_pass_5 : decode cX0_pass 5 = .ok (.getfield 21, 3) := by decide +kernel
theorem dX0_pass_8 : decode cX0_pass 8 = .ok (.goto 7, 3) := by decide +kernel
theorem dX0_pass_11 : decode cX0_pass 11 = .ok (.aload_n 0, 1) := by decide +kernel
theorem dX0_pass_12 : decode cX0_pass 12 = .ok (.getfield 24, 3) := by decide +kernel
theorem dX0_pass_15 : decode cX0_pass 15 = .ok (.astore_n 2, 1) := by decide +kernel
theorem dX0_pass_16 : decode cX0_pass 16 = .ok (.aload_n 2, 1) := by decide +kernel
theorem dX0_pass_17 : decode cX0_pass 17 = .ok (.ifnonnull 6, 3) := by decide +kernel
theorem dX0_pass_20 : decode cX0_pass 20 = .ok (.bipush (-2), 2) := by decide +kernel
theorem dX0_pass_22 : decode cX0_pass 22 = .ok (.ireturn, 1) := by decide +kernel
theorem dX0_pass_23 : decode cX0_pass 23 = .ok (.aload_n 0, 1) := by decide +kernel
theorem dX0_pass_24 : decode cX0_pass 24 = .ok (.iload_n 1, 1) := by decide +kernel
theorem dX0_pass_25 : decode cX0_pass 25 = .ok (.ifCond .eq 10, 3) := by decide +kernel
theorem dX0_pass_28 : decode cX0_pass 28 = .ok (.aload_n 2, 1) := by decide +kernel
theorem dX0_pass_29 : decode cX0_pass 29 = .ok (.getfield 27, 3) := by decide +kernel
theorem dX0_pass_32 : decode cX0_pass 32 = .ok (.goto 4, 3) := by decide +kernel
theorem dX0_pass_35 : decode cX0_pass 35 = .ok (.aload_n 2, 1) := by decide +kernel
theorem dX0_pass_36 : decode cX0_pass 36 = .ok (.putfield 21, 3) := by decide +kernel
theorem dX0_pass_39 : decode cX0_pass 39 = .ok (.aload_n 0, 1) := by decide +kernel
theorem dX0_pass_40 : decode cX0_pass 40 = .ok (.iload_n 1, 1) := by decide +kernel
theorem dX0_pass_41 : decode cX0_pass 41 = .ok (.ifCond .eq 7, 3) := by decide +kernel
theorem dX0_pass_44 : decode cX0_pass 44 = .ok (.aload_n 2, 1) := by decide +kernel
theorem dX0_pass_45 : decode cX0_pass 45 = .ok (.goto 7, 3) := by decide +kernel
theorem dX0_pass_48 : decode cX0_pass 48 = .ok (.aload_n 2, 1) := by decide +kernel
theorem dX0_pass_49 : decode cX0_pass 49 = .ok (.getfield 18, 3) := by decide +kernel
theorem dX0_pass_52 : decode cX0_pass 52 = .ok (.putfield 24, 3) := by decide +kernel
theorem dX0_pass_55 : decode cX0_pass 55 = .ok (.aload_n 0, 1) := by decide +kernel
theorem dX0_pass_56 : decode cX0_pass 56 = .ok (.dup, 1) := by decide +kernel
theorem dX0_pass_57 : decode cX0_pass 57 = .ok (.getfield 30, 3) := by decide +kernel
theorem dX0_pass_60 : decode cX0_pass 60 = .ok (.iload_n 1, 1) := by decide +kernel
theorem dX0_pass_61 : decode cX0_pass 61 = .ok (.ifCond .eq 7, 3) := by decide +kernel
theorem dX0_pass_64 : decode cX0_pass 64 = .ok (.iconst (-1), 1) := by decide +kernel
theorem dX0_pass_65 : decode cX0_pass 65 = .ok (.goto 4, 3) := by decide +kernel
theorem dX0_pass_68 : decode cX0_pass 68 = .ok (.iconst 1, 1) := by decide +kernel
theorem dX0_pass_69 : decode cX0_pass 69 = .ok (.iadd, 1) := by decide +kernel
theorem dX0_pass_70 : decode cX0_pass 70 = .ok (.putfield 30, 3) := by decide +kernel
theorem dX0_pass_73 : decode cX0_pass 73 = .ok (.aload_n 2, 1) := by decide +kernel
theorem dX0_pass_74 : decode cX0_pass 74 = .ok (.getfield 34, 3) := by decide +kernel
theorem dX0_pass_77 : decode cX0_pass 77 = .ok (.ireturn, 1) := by decide +kernel
theorem dX0_insert_0 : decode cX0_insert 0 = .ok (.aload_n 0, 1) := by decide +kernel
theorem dX0_insert_1 : decode cX0_insert 1 = .ok (.getfield 12, 3) := by decide +kernel
theorem dX0_insert_4 : decode cX0_insert 4 = .ok (.astore_n 2, 1) := by decide +kernel
theorem dX0_insert_5 : decode cX0_insert 5 = .ok (.aload_n 2, 1) := by decide +kernel
theorem dX0_insert_6 : decode cX0_insert 6 = .ok (.ifnonnull 6, 3) := by decide +kernel
theorem dX0_insert_9 : decode cX0_insert 9 = .ok (.bipush (-5), 2) := by decide +kernel
theorem dX0_insert_11 : decode cX0_insert 11 = .ok (.ireturn, 1) := by decide +kernel
theorem dX0_insert_12 : decode cX0_insert 12 = .ok (.aload_n 0, 1) := by decide +kernel
theorem dX0_insert_13 : decode cX0_insert 13 = .ok (.aload_n 2, 1) := by decide +kernel
theorem dX0_insert_14 : decode cX0_insert 14 = .ok (.getfield 18, 3) := by decide +kernel
theorem dX0_insert_17 : decode cX0_insert 17 = .ok (.putfield 12, 3) := by decide +kernel
theorem dX0_insert_20 : decode cX0_insert 20 = .ok (.aload_n 2, 1) := by decide +kernel
theorem dX0_insert_21 : decode cX0_insert 21 = .ok (.iload_n 1, 1) := by decide +kernel
theorem dX0_insert_22 : decode cX0_insert 22 = .ok (.putfield 34, 3) := by decide +kernel
theorem dX0_insert_25 : decode cX0_insert 25 = .ok (.aload_n 0, 1) := by decide +kernel
theorem dX0_insert_26 : decode cX0_insert 26 = .ok (.getfield 21, 3) := by decide +kernel
theorem dX0_insert_29 : decode cX0_insert 29 = .ok (.aload_n 2, 1) := by decide +kernel
theorem dX0_insert_30 : decode cX0_insert 30 = .ok (.invokestatic 37, 3) := by decide +kernel
theorem dX0_insert_33 : decode cX0_insert 33 = .ok (.aload_n 2, 1) := by decide +kernel
theorem dX0_insert_34 : decode cX0_insert 34 = .ok (.aload_n 0, 1) := by decide +kernel
theorem dX0_insert_35 : decode cX0_insert 35 = .ok (.getfield 24, 3) := by decide +kernel
theorem dX0_insert_38 : decode cX0_insert 38 = .ok (.invokestatic 37, 3) := by decide +kernel
theorem dX0_insert_41 : decode cX0_insert 41 = .ok (.aload_n 0, 1) := by decide +kernel
theorem dX0_insert_42 : decode cX0_insert 42 = .ok (.aload_n 2, 1) := by decide +kernel
theorem dX0_insert_43 : decode cX0_insert 43 = .ok (.putfield 21, 3) := by decide +kernel
theorem dX0_insert_46 : decode cX0_insert 46 = .ok (.aload_n 0, 1) := by decide +kernel
theorem dX0_insert_47 : decode cX0_insert 47 = .ok (.dup, 1) := by decide +kernel
theorem dX0_insert_48 : decode cX0_insert 48 = .ok (.getfield 30, 3) := by decide +kernel
theorem dX0_insert_51 : decode cX0_insert 51 = .ok (.iconst 1, 1) := by decide +kernel
theorem dX0_insert_52 : decode cX0_insert 52 = .ok (.iadd, 1) := by decide +kernel
theorem dX0_insert_53 : decode cX0_insert 53 = .ok (.putfield 30, 3) := by decide +kernel
theorem dX0_insert_56 : decode cX0_insert 56 = .ok (.aload_n 0, 1) := by decide +kernel
theorem dX0_insert_57 : decode cX0_insert 57 = .ok (.dup, 1) := by decide +kernel
theorem dX0_insert_58 : decode cX0_insert 58 = .ok (.getfield 41, 3) := by decide +kernel
theorem dX0_insert_61 : decode cX0_insert 61 = .ok (.iconst 1, 1) := by decide +kernel
theorem dX0_insert_62 : decode cX0_insert 62 = .ok (.iadd, 1) := by decide +kernel
theorem dX0_insert_63 : decode cX0_insert 63 = .ok (.putfield 41, 3) := by decide +kernel
theorem dX0_insert_66 : decode cX0_insert 66 = .ok (.aload_n 0, 1) := by decide +kernel
theorem dX0_insert_67 : decode cX0_insert 67 = .ok (.getfield 41, 3) := by decide +kernel
theorem dX0_insert_70 : decode cX0_insert 70 = .ok (.ireturn, 1) := by decide +kernel
theorem dX0_exchange_0 : decode cX0_exchange 0 = .ok (.iload_n 2, 1) := by decide +kernel
theorem dX0_exchange_1 : decode cX0_exchange 1 = .ok (.ifCond .eq 10, 3) := by decide +kernel
theorem dX0_exchange_4 : decode cX0_exchange 4 = .ok (.aload_n 0, 1) := by decide +kernel
theorem dX0_exchange_5 : decode cX0_exchange 5 = .ok (.getfield 21, 3) := by decide +kernel
theorem dX0_exchange_8 : decode cX0_exchange 8 = .ok (.goto 7, 3) := by decide +kernel
theorem dX0_exchange_11 : decode cX0_exchange 11 = .ok (.aload_n 0, 1) := by decide +kernel
theorem dX0_exchange_12 : decode cX0_exchange 12 = .ok (.getfield 24, 3) := by decide +kernel
theorem dX0_exchange_15 : decode cX0_exchange 15 = .ok (.astore_n 3, 1) := by decide +kernel
theorem dX0_exchange_16 : decode cX0_exchange 16 = .ok (.aload_n 3, 1) := by decide +kernel
theorem dX0_exchange_17 : decode cX0_exchange 17 = .ok (.ifnonnull 6, 3) := by decide +kernel
theorem dX0_exchange_20 : decode cX0_exchange 20 = .ok (.bipush (-3), 2) := by decide +kernel
theorem dX0_exchange_22 : decode cX0_exchange 22 = .ok (.ireturn, 1) := by decide +kernel
theorem dX0_exchange_23 : decode cX0_exchange 23 = .ok (.aload_n 3, 1) := by decide +kernel
theorem dX0_exchange_24 : decode cX0_exchange 24 = .ok (.getfield 34, 3) := by decide +kernel
theorem dX0_exchange_27 : decode cX0_exchange 27 = .ok (.istore 4, 2) := by decide +kernel
theorem dX0_exchange_29 : decode cX0_exchange 29 = .ok (.aload_n 3, 1) := by decide +kernel
theorem dX0_exchange_30 : decode cX0_exchange 30 = .ok (.iload_n 1, 1) := by decide +kernel
theorem dX0_exchange_31 : decode cX0_exchange 31 = .ok (.putfield 34, 3) := by decide +kernel
theorem dX0_exchange_34 : decode cX0_exchange 34 = .ok (.iload 4, 2) := by decide +kernel
theorem dX0_exchange_36 : decode cX0_exchange 36 = .ok (.ireturn, 1) := by decide +kernel
theorem dX0_drop_0 : decode cX0_drop 0 = .ok (.iload_n 1, 1) := by decide +kernel
theorem dX0_drop_1 : decode cX0_drop 1 = .ok (.ifCond .eq 10, 3) := by decide +kernel
theorem dX0_drop_4 : decode cX0_drop 4 = .ok (.aload_n 0, 1) := by decide +kernel
theorem dX0_drop_5 : decode cX0_drop 5 = .ok (.getfield 21, 3) := by decide +kernel
theorem dX0_drop_8 : decode cX0_drop 8 = .ok (.goto 7, 3) := by decide +kernel
theorem dX0_drop_11 : decode cX0_drop 11 = .ok (.aload_n 0, 1) := by decide +kernel
theorem dX0_drop_12 : decode cX0_drop 12 = .ok (.getfield 24, 3) := by decide +kernel
theorem dX0_drop_15 : decode cX0_drop 15 = .ok (.astore_n 2, 1) := by decide +kernel
theorem dX0_drop_16 : decode cX0_drop 16 = .ok (.aload_n 2, 1) := by decide +kernel
theorem dX0_drop_17 : decode cX0_drop 17 = .ok (.ifnonnull 6, 3) := by decide +kernel
theorem dX0_drop_20 : decode cX0_drop 20 = .ok (.bipush (-3), 2) := by decide +kernel
theorem dX0_drop_22 : decode cX0_drop 22 = .ok (.ireturn, 1) := by decide +kernel
theorem dX0_drop_23 : decode cX0_drop 23 = .ok (.aload_n 0, 1) := by decide +kernel
theorem dX0_drop_24 : decode cX0_drop 24 = .ok (.iload_n 1, 1) := by decide +kernel
theorem dX0_drop_25 : decode cX0_drop 25 = .ok (.ifCond .eq 10, 3) := by decide +kernel
theorem dX0_drop_28 : decode cX0_drop 28 = .ok (.aload_n 2, 1) := by decide +kernel
theorem dX0_drop_29 : decode cX0_drop 29 = .ok (.getfield 27, 3) := by decide +kernel
theorem dX0_drop_32 : decode cX0_drop 32 = .ok (.goto 7, 3) := by decide +kernel
theorem dX0_drop_35 : decode cX0_drop 35 = .ok (.aload_n 0, 1) := by decide +kernel
theorem dX0_drop_36 : decode cX0_drop 36 = .ok (.getfield 21, 3) := by decide +kernel
theorem dX0_drop_39 : decode cX0_drop 39 = .ok (.putfield 21, 3) := by decide +kernel
theorem dX0_drop_42 : decode cX0_drop 42 = .ok (.aload_n 0, 1) := by decide +kernel
theorem dX0_drop_43 : decode cX0_drop 43 = .ok (.iload_n 1, 1) := by decide +kernel
theorem dX0_drop_44 : decode cX0_drop 44 = .ok (.ifCond .eq 10, 3) := by decide +kernel
theorem dX0_drop_47 : decode cX0_drop 47 = .ok (.aload_n 0, 1) := by decide +kernel
theorem dX0_drop_48 : decode cX0_drop 48 = .ok (.getfield 24, 3) := by decide +kernel
theorem dX0_drop_51 : decode cX0_drop 51 = .ok (.goto 7, 3) := by decide +kernel
theorem dX0_drop_54 : decode cX0_drop 54 = .ok (.aload_n 2, 1) := by decide +kernel
theorem dX0_drop_55 : decode cX0_drop 55 = .ok (.getfield 18, 3) := by decide +kernel
theorem dX0_drop_58 : decode cX0_drop 58 = .ok (.putfield 24, 3) := by decide +kernel
theorem dX0_drop_61 : decode cX0_drop 61 = .ok (.aload_n 0, 1) := by decide +kernel
theorem dX0_drop_62 : decode cX0_drop 62 = .ok (.getfield 21, 3) := by decide +kernel
theorem dX0_drop_65 : decode cX0_drop 65 = .ok (.aload_n 0, 1) := by decide +kernel
theorem dX0_drop_66 : decode cX0_drop 66 = .ok (.getfield 24, 3) := by decide +kernel
theorem dX0_drop_69 : decode cX0_drop 69 = .ok (.invokestatic 37, 3) := by decide +kernel
theorem dX0_drop_72 : decode cX0_drop 72 = .ok (.aload_n 2, 1) := by decide +kernel
theorem dX0_drop_73 : decode cX0_drop 73 = .ok (.aconst_null, 1) := by decide +kernel
theorem dX0_drop_74 : decode cX0_drop 74 = .ok (.putfield 27, 3) := by decide +kernel
theorem dX0_drop_77 : decode cX0_drop 77 = .ok (.aload_n 2, 1) := by decide +kernel
theorem dX0_drop_78 : decode cX0_drop 78 = .ok (.aload_n 0, 1) := by decide +kernel
theorem dX0_drop_79 : decode cX0_drop 79 = .ok (.getfield 12, 3) := by decide +kernel
theorem dX0_drop_82 : decode cX0_drop 82 = .ok (.putfield 18, 3) := by decide +kernel
theorem dX0_drop_85 : decode cX0_drop 85 = .ok (.aload_n 0, 1) := by decide +kernel
theorem dX0_drop_86 : decode cX0_drop 86 = .ok (.aload_n 2, 1) := by decide +kernel
theorem dX0_drop_87 : decode cX0_drop 87 = .ok (.putfield 12, 3) := by decide +kernel
theorem dX0_drop_90 : decode cX0_drop 90 = .ok (.aload_n 0, 1) := by decide +kernel
theorem dX0_drop_91 : decode cX0_drop 91 = .ok (.dup, 1) := by decide +kernel
theorem dX0_drop_92 : decode cX0_drop 92 = .ok (.getfield 30, 3) := by decide +kernel
theorem dX0_drop_95 : decode cX0_drop 95 = .ok (.iload_n 1, 1) := by decide +kernel
theorem dX0_drop_96 : decode cX0_drop 96 = .ok (.ifCond .eq 7, 3) := by decide +kernel
theorem dX0_drop_99 : decode cX0_drop 99 = .ok (.iconst 1, 1) := by decide +kernel
theorem dX0_drop_100 : decode cX0_drop 100 = .ok (.goto 4, 3) := by decide +kernel
theorem dX0_drop_103 : decode cX0_drop 103 = .ok (.iconst 0, 1) := by decide +kernel
theorem dX0_drop_104 : decode cX0_drop 104 = .ok (.isub, 1) := by decide +kernel
theorem dX0_drop_105 : decode cX0_drop 105 = .ok (.putfield 30, 3) := by decide +kernel
theorem dX0_drop_108 : decode cX0_drop 108 = .ok (.aload_n 0, 1) := by decide +kernel
theorem dX0_drop_109 : decode cX0_drop 109 = .ok (.dup, 1) := by decide +kernel
theorem dX0_drop_110 : decode cX0_drop 110 = .ok (.getfield 41, 3) := by decide +kernel
theorem dX0_drop_113 : decode cX0_drop 113 = .ok (.iconst 1, 1) := by decide +kernel
theorem dX0_drop_114 : decode cX0_drop 114 = .ok (.isub, 1) := by decide +kernel
theorem dX0_drop_115 : decode cX0_drop 115 = .ok (.putfield 41, 3) := by decide +kernel
theorem dX0_drop_118 : decode cX0_drop 118 = .ok (.aload_n 2, 1) := by decide +kernel
theorem dX0_drop_119 : decode cX0_drop 119 = .ok (.getfield 34, 3) := by decide +kernel
theorem dX0_drop_122 : decode cX0_drop 122 = .ok (.ireturn, 1) := by decide +kernel
theorem dX0_cross_0 : decode cX0_cross 0 = .ok (.aload_n 0, 1) := by decide +kernel
theorem dX0_cross_1 : decode cX0_cross 1 = .ok (.getfield 21, 3) := by decide +kernel
theorem dX0_cross_4 : decode cX0_cross 4 = .ok (.ifnull 10, 3) := by decide +kernel
theorem dX0_cross_7 : decode cX0_cross 7 = .ok (.aload_n 0, 1) := by decide +kernel
theorem dX0_cross_8 : decode cX0_cross 8 = .ok (.getfield 24, 3) := by decide +kernel
theorem dX0_cross_11 : decode cX0_cross 11 = .ok (.ifnonnull 6, 3) := by decide +kernel
theorem dX0_cross_14 : decode cX0_cross 14 = .ok (.bipush (-2), 2) := by decide +kernel
theorem dX0_cross_16 : decode cX0_cross 16 = .ok (.ireturn, 1) := by decide +kernel
theorem dX0_cross_17 : decode cX0_cross 17 = .ok (.aload_n 0, 1) := by decide +kernel
theorem dX0_cross_18 : decode cX0_cross 18 = .ok (.getfield 24, 3) := by decide +kernel
theorem dX0_cross_21 : decode cX0_cross 21 = .ok (.getfield 34, 3) := by decide +kernel
theorem dX0_cross_24 : decode cX0_cross 24 = .ok (.istore_n 1, 1) := by decide +kernel
theorem dX0_cross_25 : decode cX0_cross 25 = .ok (.aload_n 0, 1) := by decide +kernel
theorem dX0_cross_26 : decode cX0_cross 26 = .ok (.getfield 24, 3) := by decide +kernel
theorem dX0_cross_29 : decode cX0_cross 29 = .ok (.aload_n 0, 1) := by decide +kernel
theorem dX0_cross_30 : decode cX0_cross 30 = .ok (.getfield 21, 3) := by decide +kernel
theorem dX0_cross_33 : decode cX0_cross 33 = .ok (.getfield 34, 3) := by decide +kernel
theorem dX0_cross_36 : decode cX0_cross 36 = .ok (.putfield 34, 3) := by decide +kernel
theorem dX0_cross_39 : decode cX0_cross 39 = .ok (.aload_n 0, 1) := by decide +kernel
theorem dX0_cross_40 : decode cX0_cross 40 = .ok (.getfield 21, 3) := by decide +kernel
theorem dX0_cross_43 : decode cX0_cross 43 = .ok (.iload_n 1, 1) := by decide +kernel
theorem dX0_cross_44 : decode cX0_cross 44 = .ok (.putfield 34, 3) := by decide +kernel
theorem dX0_cross_47 : decode cX0_cross 47 = .ok (.iload_n 1, 1) := by decide +kernel
theorem dX0_cross_48 : decode cX0_cross 48 = .ok (.ireturn, 1) := by decide +kernel
theorem dX0_empty_0 : decode cX0_empty 0 = .ok (.iconst 0, 1) := by decide +kernel
theorem dX0_empty_1 : decode cX0_empty 1 = .ok (.istore_n 1, 1) := by decide +kernel
theorem dX0_empty_2 : decode cX0_empty 2 = .ok (.iload_n 1, 1) := by decide +kernel
theorem dX0_empty_3 : decode cX0_empty 3 = .ok (.bipush 100, 2) := by decide +kernel
theorem dX0_empty_5 : decode cX0_empty 5 = .ok (.if_icmp .ge 21, 3) := by decide +kernel
theorem dX0_empty_8 : decode cX0_empty 8 = .ok (.aload_n 0, 1) := by decide +kernel
theorem dX0_empty_9 : decode cX0_empty 9 = .ok (.iconst 1, 1) := by decide +kernel
theorem dX0_empty_10 : decode cX0_empty 10 = .ok (.invokevirtual 44, 3) := by decide +kernel
theorem dX0_empty_13 : decode cX0_empty 13 = .ok (.pop, 1) := by decide +kernel
theorem dX0_empty_14 : decode cX0_empty 14 = .ok (.aload_n 0, 1) := by decide +kernel
theorem dX0_empty_15 : decode cX0_empty 15 = .ok (.iconst 0, 1) := by decide +kernel
theorem dX0_empty_16 : decode cX0_empty 16 = .ok (.invokevirtual 44, 3) := by decide +kernel
theorem dX0_empty_19 : decode cX0_empty 19 = .ok (.pop, 1) := by decide +kernel
theorem dX0_empty_20 : decode cX0_empty 20 = .ok (.iinc 1 1, 3) := by decide +kernel
theorem dX0_empty_23 : decode cX0_empty 23 = .ok (.goto (-21), 3) := by decide +kernel
theorem dX0_empty_26 : decode cX0_empty 26 = .ok (.return_, 1) := by decide +kernel
theorem dX0_wordOf_0 : decode cX0_wordOf 0 = .ok (.iload_n 1, 1) := by decide +kernel
theorem dX0_wordOf_1 : decode cX0_wordOf 1 = .ok (.aload_n 0, 1) := by decide +kernel
theorem dX0_wordOf_2 : decode cX0_wordOf 2 = .ok (.getfield 30, 3) := by decide +kernel
theorem dX0_wordOf_5 : decode cX0_wordOf 5 = .ok (.if_icmp .ge 7, 3) := by decide +kernel
theorem dX0_wordOf_8 : decode cX0_wordOf 8 = .ok (.iconst 1, 1) := by decide +kernel
theorem dX0_wordOf_9 : decode cX0_wordOf 9 = .ok (.goto 4, 3) := by decide +kernel
theorem dX0_wordOf_12 : decode cX0_wordOf 12 = .ok (.iconst 0, 1) := by decide +kernel
theorem dX0_wordOf_13 : decode cX0_wordOf 13 = .ok (.istore_n 2, 1) := by decide +kernel
theorem dX0_wordOf_14 : decode cX0_wordOf 14 = .ok (.iload_n 2, 1) := by decide +kernel
theorem dX0_wordOf_15 : decode cX0_wordOf 15 = .ok (.ifCond .eq 10, 3) := by decide +kernel
theorem dX0_wordOf_18 : decode cX0_wordOf 18 = .ok (.aload_n 0, 1) := by decide +kernel
theorem dX0_wordOf_19 : decode cX0_wordOf 19 = .ok (.getfield 21, 3) := by decide +kernel
theorem dX0_wordOf_22 : decode cX0_wordOf 22 = .ok (.goto 7, 3) := by decide +kernel
theorem dX0_wordOf_25 : decode cX0_wordOf 25 = .ok (.aload_n 0, 1) := by decide +kernel
theorem dX0_wordOf_26 : decode cX0_wordOf 26 = .ok (.getfield 24, 3) := by decide +kernel
theorem dX0_wordOf_29 : decode cX0_wordOf 29 = .ok (.astore_n 3, 1) := by decide +kernel
theorem dX0_wordOf_30 : decode cX0_wordOf 30 = .ok (.iload_n 2, 1) := by decide +kernel
theorem dX0_wordOf_31 : decode cX0_wordOf 31 = .ok (.ifCond .eq 14, 3) := by decide +kernel
theorem dX0_wordOf_34 : decode cX0_wordOf 34 = .ok (.aload_n 0, 1) := by decide +kernel
theorem dX0_wordOf_35 : decode cX0_wordOf 35 = .ok (.getfield 30, 3) := by decide +kernel
theorem dX0_wordOf_38 : decode cX0_wordOf 38 = .ok (.iconst 1, 1) := by decide +kernel
theorem dX0_wordOf_39 : decode cX0_wordOf 39 = .ok (.isub, 1) := by decide +kernel
theorem dX0_wordOf_40 : decode cX0_wordOf 40 = .ok (.iload_n 1, 1) := by decide +kernel
theorem dX0_wordOf_41 : decode cX0_wordOf 41 = .ok (.isub, 1) := by decide +kernel
theorem dX0_wordOf_42 : decode cX0_wordOf 42 = .ok (.goto 9, 3) := by decide +kernel
theorem dX0_wordOf_45 : decode cX0_wordOf 45 = .ok (.iload_n 1, 1) := by decide +kernel
theorem dX0_wordOf_46 : decode cX0_wordOf 46 = .ok (.aload_n 0, 1) := by decide +kernel
theorem dX0_wordOf_47 : decode cX0_wordOf 47 = .ok (.getfield 30, 3) := by decide +kernel
theorem dX0_wordOf_50 : decode cX0_wordOf 50 = .ok (.isub, 1) := by decide +kernel
theorem dX0_wordOf_51 : decode cX0_wordOf 51 = .ok (.istore 4, 2) := by decide +kernel
theorem dX0_wordOf_53 : decode cX0_wordOf 53 = .ok (.iconst 0, 1) := by decide +kernel
theorem dX0_wordOf_54 : decode cX0_wordOf 54 = .ok (.istore 5, 2) := by decide +kernel
theorem dX0_wordOf_56 : decode cX0_wordOf 56 = .ok (.iload 5, 2) := by decide +kernel
theorem dX0_wordOf_58 : decode cX0_wordOf 58 = .ok (.iload 4, 2) := by decide +kernel
theorem dX0_wordOf_60 : decode cX0_wordOf 60 = .ok (.if_icmp .ge 29, 3) := by decide +kernel
theorem dX0_wordOf_63 : decode cX0_wordOf 63 = .ok (.aload_n 3, 1) := by decide +kernel
theorem dX0_wordOf_64 : decode cX0_wordOf 64 = .ok (.ifnull 25, 3) := by decide +kernel
theorem dX0_wordOf_67 : decode cX0_wordOf 67 = .ok (.iload_n 2, 1) := by decide +kernel
theorem dX0_wordOf_68 : decode cX0_wordOf 68 = .ok (.ifCond .eq 10, 3) := by decide +kernel
theorem dX0_wordOf_71 : decode cX0_wordOf 71 = .ok (.aload_n 3, 1) := by decide +kernel
theorem dX0_wordOf_72 : decode cX0_wordOf 72 = .ok (.getfield 27, 3) := by decide +kernel
theorem dX0_wordOf_75 : decode cX0_wordOf 75 = .ok (.goto 7, 3) := by decide +kernel
theorem dX0_wordOf_78 : decode cX0_wordOf 78 = .ok (.aload_n 3, 1) := by decide +kernel
theorem dX0_wordOf_79 : decode cX0_wordOf 79 = .ok (.getfield 18, 3) := by decide +kernel
theorem dX0_wordOf_82 : decode cX0_wordOf 82 = .ok (.astore_n 3, 1) := by decide +kernel
theorem dX0_wordOf_83 : decode cX0_wordOf 83 = .ok (.iinc 5 1, 3) := by decide +kernel
theorem dX0_wordOf_86 : decode cX0_wordOf 86 = .ok (.goto (-30), 3) := by decide +kernel
theorem dX0_wordOf_89 : decode cX0_wordOf 89 = .ok (.aload_n 3, 1) := by decide +kernel
theorem dX0_wordOf_90 : decode cX0_wordOf 90 = .ok (.ifnonnull 7, 3) := by decide +kernel
theorem dX0_wordOf_93 : decode cX0_wordOf 93 = .ok (.iconst (-1), 1) := by decide +kernel
theorem dX0_wordOf_94 : decode cX0_wordOf 94 = .ok (.goto 7, 3) := by decide +kernel
theorem dX0_wordOf_97 : decode cX0_wordOf 97 = .ok (.aload_n 3, 1) := by decide +kernel
theorem dX0_wordOf_98 : decode cX0_wordOf 98 = .ok (.getfield 34, 3) := by decide +kernel
theorem dX0_wordOf_101 : decode cX0_wordOf 101 = .ok (.ireturn, 1) := by decide +kernel
theorem dX0_join_0 : decode cX0_join 0 = .ok (.aload_n 0, 1) := by decide +kernel
theorem dX0_join_1 : decode cX0_join 1 = .ok (.ifnull 8, 3) := by decide +kernel
theorem dX0_join_4 : decode cX0_join 4 = .ok (.aload_n 0, 1) := by decide +kernel
theorem dX0_join_5 : decode cX0_join 5 = .ok (.aload_n 1, 1) := by decide +kernel
theorem dX0_join_6 : decode cX0_join 6 = .ok (.putfield 18, 3) := by decide +kernel
theorem dX0_join_9 : decode cX0_join 9 = .ok (.aload_n 1, 1) := by decide +kernel
theorem dX0_join_10 : decode cX0_join 10 = .ok (.ifnull 8, 3) := by decide +kernel
theorem dX0_join_13 : decode cX0_join 13 = .ok (.aload_n 1, 1) := by decide +kernel
theorem dX0_join_14 : decode cX0_join 14 = .ok (.aload_n 0, 1) := by decide +kernel
theorem dX0_join_15 : decode cX0_join 15 = .ok (.putfield 27, 3) := by decide +kernel
theorem dX0_join_18 : decode cX0_join 18 = .ok (.return_, 1) := by decide +kernel
theorem dX1_init_0 : decode cX1_init 0 = .ok (.aload_n 0, 1) := by decide +kernel
theorem dX1_init_1 : decode cX1_init 1 = .ok (.invokespecial 3, 3) := by decide +kernel
theorem dX1_init_4 : decode cX1_init 4 = .ok (.aload_n 0, 1) := by decide +kernel
theorem dX1_init_5 : decode cX1_init 5 = .ok (.new 9, 3) := by decide +kernel
theorem dX1_init_8 : decode cX1_init 8 = .ok (.dup, 1) := by decide +kernel
theorem dX1_init_9 : decode cX1_init 9 = .ok (.invokespecial 11, 3) := by decide +kernel
theorem dX1_init_12 : decode cX1_init 12 = .ok (.putfield 12, 3) := by decide +kernel
theorem dX1_init_15 : decode cX1_init 15 = .ok (.aload_n 0, 1) := by decide +kernel
theorem dX1_init_16 : decode cX1_init 16 = .ok (.new 18, 3) := by decide +kernel
theorem dX1_init_19 : decode cX1_init 19 = .ok (.dup, 1) := by decide +kernel
theorem dX1_init_20 : decode cX1_init 20 = .ok (.invokespecial 20, 3) := by decide +kernel
theorem dX1_init_23 : decode cX1_init 23 = .ok (.putfield 21, 3) := by decide +kernel
theorem dX1_init_26 : decode cX1_init 26 = .ok (.aload_n 0, 1) := by decide +kernel
theorem dX1_init_27 : decode cX1_init 27 = .ok (.iconst 4, 1) := by decide +kernel
theorem dX1_init_28 : decode cX1_init 28 = .ok (.newarray .int, 2) := by decide +kernel
theorem dX1_init_30 : decode cX1_init 30 = .ok (.putfield 25, 3) := by decide +kernel
theorem dX1_init_33 : decode cX1_init 33 = .ok (.aload_n 0, 1) := by decide +kernel
theorem dX1_init_34 : decode cX1_init 34 = .ok (.iconst 0, 1) := by decide +kernel
theorem dX1_init_35 : decode cX1_init 35 = .ok (.putfield 29, 3) := by decide +kernel
theorem dX1_init_38 : decode cX1_init 38 = .ok (.return_, 1) := by decide +kernel
theorem dX1_pass_0 : decode cX1_pass 0 = .ok (.aload_n 0, 1) := by decide +kernel
theorem dX1_pass_1 : decode cX1_pass 1 = .ok (.getfield 12, 3) := by decide +kernel
theorem dX1_pass_4 : decode cX1_pass 4 = .ok (.iload_n 1, 1) := by decide +kernel
theorem dX1_pass_5 : decode cX1_pass 5 = .ok (.invokevirtual 33, 3) := by decide +kernel
theorem dX1_pass_8 : decode cX1_pass 8 = .ok (.ifCond .ne 10, 3) := by decide +kernel
theorem dX1_pass_11 : decode cX1_pass 11 = .ok (.aload_n 0, 1) := by decide +kernel
theorem dX1_pass_12 : decode cX1_pass 12 = .ok (.bipush (-2), 2) := by decide +kernel
theorem dX1_pass_14 : decode cX1_pass 14 = .ok (.invokevirtual 37, 3) := by decide +kernel
theorem dX1_pass_17 : decode cX1_pass 17 = .ok (.ireturn, 1) := by decide +kernel
theorem dX1_pass_18 : decode cX1_pass 18 = .ok (.aload_n 0, 1) := by decide +kernel
theorem dX1_pass_19 : decode cX1_pass 19 = .ok (.getfield 12, 3) := by decide +kernel
theorem dX1_pass_22 : decode cX1_pass 22 = .ok (.invokevirtual 41, 3) := by decide +kernel
theorem dX1_pass_25 : decode cX1_pass 25 = .ok (.istore_n 2, 1) := by decide +kernel
theorem dX1_pass_26 : decode cX1_pass 26 = .ok (.aload_n 0, 1) := by decide +kernel
theorem dX1_pass_27 : decode cX1_pass 27 = .ok (.getfield 12, 3) := by decide +kernel
theorem dX1_pass_30 : decode cX1_pass 30 = .ok (.iload_n 1, 1) := by decide +kernel
theorem dX1_pass_31 : decode cX1_pass 31 = .ok (.invokevirtual 45, 3) := by decide +kernel
theorem dX1_pass_34 : decode cX1_pass 34 = .ok (.istore_n 3, 1) := by decide +kernel
theorem dX1_pass_35 : decode cX1_pass 35 = .ok (.aload_n 0, 1) := by decide +kernel
theorem dX1_pass_36 : decode cX1_pass 36 = .ok (.iconst 0, 1) := by decide +kernel
theorem dX1_pass_37 : decode cX1_pass 37 = .ok (.iload_n 2, 1) := by decide +kernel
theorem dX1_pass_38 : decode cX1_pass 38 = .ok (.iload_n 1, 1) := by decide +kernel
theorem dX1_pass_39 : decode cX1_pass 39 = .ok (.ifCond .eq 7, 3) := by decide +kernel
theorem dX1_pass_42 : decode cX1_pass 42 = .ok (.iconst 2, 1) := by decide +kernel
theorem dX1_pass_43 : decode cX1_pass 43 = .ok (.goto 4, 3) := by decide +kernel
theorem dX1_pass_46 : decode cX1_pass 46 = .ok (.iconst 1, 1) := by decide +kernel
theorem dX1_pass_47 : decode cX1_pass 47 = .ok (.invokevirtual 49, 3) := by decide +kernel
theorem dX1_pass_50 : decode cX1_pass 50 = .ok (.iload_n 3, 1) := by decide +kernel
theorem dX1_pass_51 : decode cX1_pass 51 = .ok (.ireturn, 1) := by decide +kernel
theorem dX1_insert_0 : decode cX1_insert 0 = .ok (.aload_n 0, 1) := by decide +kernel
theorem dX1_insert_1 : decode cX1_insert 1 = .ok (.getfield 12, 3) := by decide +kernel
theorem dX1_insert_4 : decode cX1_insert 4 = .ok (.invokevirtual 53, 3) := by decide +kernel
theorem dX1_insert_7 : decode cX1_insert 7 = .ok (.bipush 100, 2) := by decide +kernel
theorem dX1_insert_9 : decode cX1_insert 9 = .ok (.if_icmp .lt 10, 3) := by decide +kernel
theorem dX1_insert_12 : decode cX1_insert 12 = .ok (.aload_n 0, 1) := by decide +kernel
theorem dX1_insert_13 : decode cX1_insert 13 = .ok (.bipush (-5), 2) := by decide +kernel
theorem dX1_insert_15 : decode cX1_insert 15 = .ok (.invokevirtual 37, 3) := by decide +kernel
theorem dX1_insert_18 : decode cX1_insert 18 = .ok (.ireturn, 1) := by decide +kernel
theorem dX1_insert_19 : decode cX1_insert 19 = .ok (.aload_n 0, 1) := by decide +kernel
theorem dX1_insert_20 : decode cX1_insert 20 = .ok (.getfield 12, 3) := by decide +kernel
theorem dX1_insert_23 : decode cX1_insert 23 = .ok (.iload_n 1, 1) := by decide +kernel
theorem dX1_insert_24 : decode cX1_insert 24 = .ok (.invokevirtual 56, 3) := by decide +kernel
theorem dX1_insert_27 : decode cX1_insert 27 = .ok (.pop, 1) := by decide +kernel
theorem dX1_insert_28 : decode cX1_insert 28 = .ok (.aload_n 0, 1) := by decide +kernel
theorem dX1_insert_29 : decode cX1_insert 29 = .ok (.iconst 1, 1) := by decide +kernel
theorem dX1_insert_30 : decode cX1_insert 30 = .ok (.iconst 0, 1) := by decide +kernel
theorem dX1_insert_31 : decode cX1_insert 31 = .ok (.iconst 0, 1) := by decide +kernel
theorem dX1_insert_32 : decode cX1_insert 32 = .ok (.invokevirtual 49, 3) := by decide +kernel
theorem dX1_insert_35 : decode cX1_insert 35 = .ok (.aload_n 0, 1) := by decide +kernel
theorem dX1_insert_36 : decode cX1_insert 36 = .ok (.getfield 12, 3) := by decide +kernel
theorem dX1_insert_39 : decode cX1_insert 39 = .ok (.invokevirtual 53, 3) := by decide +kernel
theorem dX1_insert_42 : decode cX1_insert 42 = .ok (.ireturn, 1) := by decide +kernel
theorem dX1_exchange_0 : decode cX1_exchange 0 = .ok (.aload_n 0, 1) := by decide +kernel
theorem dX1_exchange_1 : decode cX1_exchange 1 = .ok (.getfield 29, 3) := by decide +kernel
theorem dX1_exchange_4 : decode cX1_exchange 4 = .ok (.ifCond .ne 10, 3) := by decide +kernel
theorem dX1_exchange_7 : decode cX1_exchange 7 = .ok (.aload_n 0, 1) := by decide +kernel
theorem dX1_exchange_8 : decode cX1_exchange 8 = .ok (.bipush (-3), 2) := by decide +kernel
theorem dX1_exchange_10 : decode cX1_exchange 10 = .ok (.invokevirtual 37, 3) := by decide +kernel
theorem dX1_exchange_13 : decode cX1_exchange 13 = .ok (.ireturn, 1) := by decide +kernel
theorem dX1_exchange_14 : decode cX1_exchange 14 = .ok (.aload_n 0, 1) := by decide +kernel
theorem dX1_exchange_15 : decode cX1_exchange 15 = .ok (.getfield 29, 3) := by decide +kernel
theorem dX1_exchange_18 : decode cX1_exchange 18 = .ok (.iconst 1, 1) := by decide +kernel
theorem dX1_exchange_19 : decode cX1_exchange 19 = .ok (.if_icmp .ne 7, 3) := by decide +kernel
theorem dX1_exchange_22 : decode cX1_exchange 22 = .ok (.iconst 1, 1) := by decide +kernel
theorem dX1_exchange_23 : decode cX1_exchange 23 = .ok (.goto 4, 3) := by decide +kernel
theorem dX1_exchange_26 : decode cX1_exchange 26 = .ok (.iconst 0, 1) := by decide +kernel
theorem dX1_exchange_27 : decode cX1_exchange 27 = .ok (.istore_n 2, 1) := by decide +kernel
theorem dX1_exchange_28 : decode cX1_exchange 28 = .ok (.aload_n 0, 1) := by decide +kernel
theorem dX1_exchange_29 : decode cX1_exchange 29 = .ok (.getfield 12, 3) := by decide +kernel
theorem dX1_exchange_32 : decode cX1_exchange 32 = .ok (.iload_n 1, 1) := by decide +kernel
theorem dX1_exchange_33 : decode cX1_exchange 33 = .ok (.iload_n 2, 1) := by decide +kernel
theorem dX1_exchange_34 : decode cX1_exchange 34 = .ok (.invokevirtual 59, 3) := by decide +kernel
theorem dX1_exchange_37 : decode cX1_exchange 37 = .ok (.istore_n 3, 1) := by decide +kernel
theorem dX1_exchange_38 : decode cX1_exchange 38 = .ok (.aload_n 0, 1) := by decide +kernel
theorem dX1_exchange_39 : decode cX1_exchange 39 = .ok (.iload_n 2, 1) := by decide +kernel
theorem dX1_exchange_40 : decode cX1_exchange 40 = .ok (.ifCond .eq 7, 3) := by decide +kernel
theorem dX1_exchange_43 : decode cX1_exchange 43 = .ok (.iconst 2, 1) := by decide +kernel
theorem dX1_exchange_44 : decode cX1_exchange 44 = .ok (.goto 4, 3) := by decide +kernel
theorem dX1_exchange_47 : decode cX1_exchange 47 = .ok (.iconst 3, 1) := by decide +kernel
theorem dX1_exchange_48 : decode cX1_exchange 48 = .ok (.iload_n 3, 1) := by decide +kernel
theorem dX1_exchange_49 : decode cX1_exchange 49 = .ok (.aload_n 0, 1) := by decide +kernel
theorem dX1_exchange_50 : decode cX1_exchange 50 = .ok (.getfield 29, 3) := by decide +kernel
theorem dX1_exchange_53 : decode cX1_exchange 53 = .ok (.invokevirtual 49, 3) := by decide +kernel
theorem dX1_exchange_56 : decode cX1_exchange 56 = .ok (.iload_n 3, 1) := by decide +kernel
theorem dX1_exchange_57 : decode cX1_exchange 57 = .ok (.ireturn, 1) := by decide +kernel
theorem dX1_drop_0 : decode cX1_drop 0 = .ok (.aload_n 0, 1) := by decide +kernel
theorem dX1_drop_1 : decode cX1_drop 1 = .ok (.getfield 29, 3) := by decide +kernel
theorem dX1_drop_4 : decode cX1_drop 4 = .ok (.ifCond .ne 10, 3) := by decide +kernel
theorem dX1_drop_7 : decode cX1_drop 7 = .ok (.aload_n 0, 1) := by decide +kernel
theorem dX1_drop_8 : decode cX1_drop 8 = .ok (.bipush (-3), 2) := by decide +kernel
theorem dX1_drop_10 : decode cX1_drop 10 = .ok (.invokevirtual 37, 3) := by decide +kernel
theorem dX1_drop_13 : decode cX1_drop 13 = .ok (.ireturn, 1) := by decide +kernel
theorem dX1_drop_14 : decode cX1_drop 14 = .ok (.aload_n 0, 1) := by decide +kernel
theorem dX1_drop_15 : decode cX1_drop 15 = .ok (.getfield 29, 3) := by decide +kernel
theorem dX1_drop_18 : decode cX1_drop 18 = .ok (.iconst 1, 1) := by decide +kernel
theorem dX1_drop_19 : decode cX1_drop 19 = .ok (.if_icmp .ne 7, 3) := by decide +kernel
theorem dX1_drop_22 : decode cX1_drop 22 = .ok (.iconst 1, 1) := by decide +kernel
theorem dX1_drop_23 : decode cX1_drop 23 = .ok (.goto 4, 3) := by decide +kernel
theorem dX1_drop_26 : decode cX1_drop 26 = .ok (.iconst 0, 1) := by decide +kernel
theorem dX1_drop_27 : decode cX1_drop 27 = .ok (.istore_n 1, 1) := by decide +kernel
theorem dX1_drop_28 : decode cX1_drop 28 = .ok (.aload_n 0, 1) := by decide +kernel
theorem dX1_drop_29 : decode cX1_drop 29 = .ok (.getfield 12, 3) := by decide +kernel
theorem dX1_drop_32 : decode cX1_drop 32 = .ok (.iload_n 1, 1) := by decide +kernel
theorem dX1_drop_33 : decode cX1_drop 33 = .ok (.invokevirtual 63, 3) := by decide +kernel
theorem dX1_drop_36 : decode cX1_drop 36 = .ok (.istore_n 2, 1) := by decide +kernel
theorem dX1_drop_37 : decode cX1_drop 37 = .ok (.aload_n 0, 1) := by decide +kernel
theorem dX1_drop_38 : decode cX1_drop 38 = .ok (.iload_n 1, 1) := by decide +kernel
theorem dX1_drop_39 : decode cX1_drop 39 = .ok (.ifCond .eq 7, 3) := by decide +kernel
theorem dX1_drop_42 : decode cX1_drop 42 = .ok (.iconst 4, 1) := by decide +kernel
theorem dX1_drop_43 : decode cX1_drop 43 = .ok (.goto 4, 3) := by decide +kernel
theorem dX1_drop_46 : decode cX1_drop 46 = .ok (.iconst 5, 1) := by decide +kernel
theorem dX1_drop_47 : decode cX1_drop 47 = .ok (.iload_n 2, 1) := by decide +kernel
theorem dX1_drop_48 : decode cX1_drop 48 = .ok (.iconst 0, 1) := by decide +kernel
theorem dX1_drop_49 : decode cX1_drop 49 = .ok (.invokevirtual 49, 3) := by decide +kernel
theorem dX1_drop_52 : decode cX1_drop 52 = .ok (.iload_n 2, 1) := by decide +kernel
theorem dX1_drop_53 : decode cX1_drop 53 = .ok (.ireturn, 1) := by decide +kernel
theorem dX1_go_0 : decode cX1_go 0 = .ok (.iload_n 1, 1) := by decide +kernel
theorem dX1_go_1 : decode cX1_go 1 = .ok (.ifCond .lt 14, 3) := by decide +kernel
theorem dX1_go_4 : decode cX1_go 4 = .ok (.iload_n 1, 1) := by decide +kernel
theorem dX1_go_5 : decode cX1_go 5 = .ok (.aload_n 0, 1) := by decide +kernel
theorem dX1_go_6 : decode cX1_go 6 = .ok (.getfield 12, 3) := by decide +kernel
theorem dX1_go_9 : decode cX1_go 9 = .ok (.invokevirtual 53, 3) := by decide +kernel
theorem dX1_go_12 : decode cX1_go 12 = .ok (.if_icmp .le 10, 3) := by decide +kernel
theorem dX1_go_15 : decode cX1_go 15 = .ok (.aload_n 0, 1) := by decide +kernel
theorem dX1_go_16 : decode cX1_go 16 = .ok (.bipush (-4), 2) := by decide +kernel
theorem dX1_go_18 : decode cX1_go 18 = .ok (.invokevirtual 37, 3) := by decide +kernel
theorem dX1_go_21 : decode cX1_go 21 = .ok (.ireturn, 1) := by decide +kernel
theorem dX1_go_22 : decode cX1_go 22 = .ok (.aload_n 0, 1) := by decide +kernel
theorem dX1_go_23 : decode cX1_go 23 = .ok (.getfield 12, 3) := by decide +kernel
theorem dX1_go_26 : decode cX1_go 26 = .ok (.invokevirtual 41, 3) := by decide +kernel
theorem dX1_go_29 : decode cX1_go 29 = .ok (.istore_n 2, 1) := by decide +kernel
theorem dX1_go_30 : decode cX1_go 30 = .ok (.aload_n 0, 1) := by decide +kernel
theorem dX1_go_31 : decode cX1_go 31 = .ok (.getfield 12, 3) := by decide +kernel
theorem dX1_go_34 : decode cX1_go 34 = .ok (.iload_n 1, 1) := by decide +kernel
theorem dX1_go_35 : decode cX1_go 35 = .ok (.invokevirtual 66, 3) := by decide +kernel
theorem dX1_go_38 : decode cX1_go 38 = .ok (.aload_n 0, 1) := by decide +kernel
theorem dX1_go_39 : decode cX1_go 39 = .ok (.iconst 0, 1) := by decide +kernel
theorem dX1_go_40 : decode cX1_go 40 = .ok (.iload_n 2, 1) := by decide +kernel
theorem dX1_go_41 : decode cX1_go 41 = .ok (.iconst 0, 1) := by decide +kernel
theorem dX1_go_42 : decode cX1_go 42 = .ok (.invokevirtual 49, 3) := by decide +kernel
theorem dX1_go_45 : decode cX1_go 45 = .ok (.iload_n 1, 1) := by decide +kernel
theorem dX1_go_46 : decode cX1_go 46 = .ok (.ireturn, 1) := by decide +kernel
theorem dX1_seek_0 : decode cX1_seek 0 = .ok (.aload_n 0, 1) := by decide +kernel
theorem dX1_seek_1 : decode cX1_seek 1 = .ok (.getfield 12, 3) := by decide +kernel
theorem dX1_seek_4 : decode cX1_seek 4 = .ok (.iload_n 1, 1) := by decide +kernel
theorem dX1_seek_5 : decode cX1_seek 5 = .ok (.iload_n 2, 1) := by decide +kernel
theorem dX1_seek_6 : decode cX1_seek 6 = .ok (.invokevirtual 70, 3) := by decide +kernel
theorem dX1_seek_9 : decode cX1_seek 9 = .ok (.istore_n 3, 1) := by decide +kernel
theorem dX1_seek_10 : decode cX1_seek 10 = .ok (.iload_n 3, 1) := by decide +kernel
theorem dX1_seek_11 : decode cX1_seek 11 = .ok (.ifCond .ne 10, 3) := by decide +kernel
theorem dX1_seek_14 : decode cX1_seek 14 = .ok (.aload_n 0, 1) := by decide +kernel
theorem dX1_seek_15 : decode cX1_seek 15 = .ok (.bipush (-2), 2) := by decide +kernel
theorem dX1_seek_17 : decode cX1_seek 17 = .ok (.invokevirtual 37, 3) := by decide +kernel
theorem dX1_seek_20 : decode cX1_seek 20 = .ok (.ireturn, 1) := by decide +kernel
theorem dX1_seek_21 : decode cX1_seek 21 = .ok (.aload_n 0, 1) := by decide +kernel
theorem dX1_seek_22 : decode cX1_seek 22 = .ok (.getfield 12, 3) := by decide +kernel
theorem dX1_seek_25 : decode cX1_seek 25 = .ok (.invokevirtual 41, 3) := by decide +kernel
theorem dX1_seek_28 : decode cX1_seek 28 = .ok (.istore 4, 2) := by decide +kernel
theorem dX1_seek_30 : decode cX1_seek 30 = .ok (.iconst 0, 1) := by decide +kernel
theorem dX1_seek_31 : decode cX1_seek 31 = .ok (.istore 5, 2) := by decide +kernel
theorem dX1_seek_33 : decode cX1_seek 33 = .ok (.iload 5, 2) := by decide +kernel
theorem dX1_seek_35 : decode cX1_seek 35 = .ok (.iload_n 3, 1) := by decide +kernel
theorem dX1_seek_36 : decode cX1_seek 36 = .ok (.if_icmp .ge 18, 3) := by decide +kernel
theorem dX1_seek_39 : decode cX1_seek 39 = .ok (.aload_n 0, 1) := by decide +kernel
theorem dX1_seek_40 : decode cX1_seek 40 = .ok (.getfield 12, 3) := by decide +kernel
theorem dX1_seek_43 : decode cX1_seek 43 = .ok (.iload_n 2, 1) := by decide +kernel
theorem dX1_seek_44 : decode cX1_seek 44 = .ok (.invokevirtual 45, 3) := by decide +kernel
theorem dX1_seek_47 : decode cX1_seek 47 = .ok (.pop, 1) := by decide +kernel
theorem dX1_seek_48 : decode cX1_seek 48 = .ok (.iinc 5 1, 3) := by decide +kernel
theorem dX1_seek_51 : decode cX1_seek 51 = .ok (.goto (-18), 3) := by decide +kernel
theorem dX1_seek_54 : decode cX1_seek 54 = .ok (.aload_n 0, 1) := by decide +kernel
theorem dX1_seek_55 : decode cX1_seek 55 = .ok (.iconst 0, 1) := by decide +kernel
theorem dX1_seek_56 : decode cX1_seek 56 = .ok (.iload 4, 2) := by decide +kernel
theorem dX1_seek_58 : decode cX1_seek 58 = .ok (.iload_n 2, 1) := by decide +kernel
theorem dX1_seek_59 : decode cX1_seek 59 = .ok (.ifCond .eq 7, 3) := by decide +kernel
theorem dX1_seek_62 : decode cX1_seek 62 = .ok (.iconst 2, 1) := by decide +kernel
theorem dX1_seek_63 : decode cX1_seek 63 = .ok (.goto 4, 3) := by decide +kernel
theorem dX1_seek_66 : decode cX1_seek 66 = .ok (.iconst 1, 1) := by decide +kernel
theorem dX1_seek_67 : decode cX1_seek 67 = .ok (.invokevirtual 49, 3) := by decide +kernel
theorem dX1_seek_70 : decode cX1_seek 70 = .ok (.iload_n 3, 1) := by decide +kernel
theorem dX1_seek_71 : decode cX1_seek 71 = .ok (.ireturn, 1) := by decide +kernel
theorem dX1_cross_0 : decode cX1_cross 0 = .ok (.aload_n 0, 1) := by decide +kernel
theorem dX1_cross_1 : decode cX1_cross 1 = .ok (.getfield 12, 3) := by decide +kernel
theorem dX1_cross_4 : decode cX1_cross 4 = .ok (.iconst 1, 1) := by decide +kernel
theorem dX1_cross_5 : decode cX1_cross 5 = .ok (.invokevirtual 33, 3) := by decide +kernel
theorem dX1_cross_8 : decode cX1_cross 8 = .ok (.ifCond .eq 14, 3) := by decide +kernel
theorem dX1_cross_11 : decode cX1_cross 11 = .ok (.aload_n 0, 1) := by decide +kernel
theorem dX1_cross_12 : decode cX1_cross 12 = .ok (.getfield 12, 3) := by decide +kernel
theorem dX1_cross_15 : decode cX1_cross 15 = .ok (.iconst 0, 1) := by decide +kernel
theorem dX1_cross_16 : decode cX1_cross 16 = .ok (.invokevirtual 33, 3) := by decide +kernel
theorem dX1_cross_19 : decode cX1_cross 19 = .ok (.ifCond .ne 10, 3) := by decide +kernel
theorem dX1_cross_22 : decode cX1_cross 22 = .ok (.aload_n 0, 1) := by decide +kernel
theorem dX1_cross_23 : decode cX1_cross 23 = .ok (.bipush (-2), 2) := by decide +kernel
theorem dX1_cross_25 : decode cX1_cross 25 = .ok (.invokevirtual 37, 3) := by decide +kernel
theorem dX1_cross_28 : decode cX1_cross 28 = .ok (.ireturn, 1) := by decide +kernel
theorem dX1_cross_29 : decode cX1_cross 29 = .ok (.aload_n 0, 1) := by decide +kernel
theorem dX1_cross_30 : decode cX1_cross 30 = .ok (.getfield 12, 3) := by decide +kernel
theorem dX1_cross_33 : decode cX1_cross 33 = .ok (.invokevirtual 73, 3) := by decide +kernel
theorem dX1_cross_36 : decode cX1_cross 36 = .ok (.istore_n 1, 1) := by decide +kernel
theorem dX1_cross_37 : decode cX1_cross 37 = .ok (.aload_n 0, 1) := by decide +kernel
theorem dX1_cross_38 : decode cX1_cross 38 = .ok (.bipush 6, 2) := by decide +kernel
theorem dX1_cross_40 : decode cX1_cross 40 = .ok (.iconst 0, 1) := by decide +kernel
theorem dX1_cross_41 : decode cX1_cross 41 = .ok (.iconst 1, 1) := by decide +kernel
theorem dX1_cross_42 : decode cX1_cross 42 = .ok (.invokevirtual 49, 3) := by decide +kernel
theorem dX1_cross_45 : decode cX1_cross 45 = .ok (.iload_n 1, 1) := by decide +kernel
theorem dX1_cross_46 : decode cX1_cross 46 = .ok (.ireturn, 1) := by decide +kernel
theorem dX1_takeBack_0 : decode cX1_takeBack 0 = .ok (.aload_n 0, 1) := by decide +kernel
theorem dX1_takeBack_1 : decode cX1_takeBack 1 = .ok (.getfield 21, 3) := by decide +kernel
theorem dX1_takeBack_4 : decode cX1_takeBack 4 = .ok (.getfield 76, 3) := by decide +kernel
theorem dX1_takeBack_7 : decode cX1_takeBack 7 = .ok (.ifCond .ne 5, 3) := by decide +kernel
theorem dX1_takeBack_10 : decode cX1_takeBack 10 = .ok (.iconst (-1), 1) := by decide +kernel
theorem dX1_takeBack_11 : decode cX1_takeBack 11 = .ok (.ireturn, 1) := by decide +kernel
theorem dX1_takeBack_12 : decode cX1_takeBack 12 = .ok (.aload_n 0, 1) := by decide +kernel
theorem dX1_takeBack_13 : decode cX1_takeBack 13 = .ok (.getfield 21, 3) := by decide +kernel
theorem dX1_takeBack_16 : decode cX1_takeBack 16 = .ok (.invokevirtual 79, 3) := by decide +kernel
theorem dX1_takeBack_19 : decode cX1_takeBack 19 = .ok (.istore_n 1, 1) := by decide +kernel
theorem dX1_takeBack_20 : decode cX1_takeBack 20 = .ok (.aload_n 0, 1) := by decide +kernel
theorem dX1_takeBack_21 : decode cX1_takeBack 21 = .ok (.getfield 21, 3) := by decide +kernel
theorem dX1_takeBack_24 : decode cX1_takeBack 24 = .ok (.invokevirtual 82, 3) := by decide +kernel
theorem dX1_takeBack_27 : decode cX1_takeBack 27 = .ok (.tableswitch 119 0 5 #[37, 48, 60, 73, 86, 98], 37) := by decide +kernel
theorem dX1_takeBack_64 : decode cX1_takeBack 64 = .ok (.aload_n 0, 1) := by decide +kernel
theorem dX1_takeBack_65 : decode cX1_takeBack 65 = .ok (.getfield 12, 3) := by decide +kernel
theorem dX1_takeBack_68 : decode cX1_takeBack 68 = .ok (.iload_n 1, 1) := by decide +kernel
theorem dX1_takeBack_69 : decode cX1_takeBack 69 = .ok (.invokevirtual 66, 3) := by decide +kernel
theorem dX1_takeBack_72 : decode cX1_takeBack 72 = .ok (.goto 82, 3) := by decide +kernel
theorem dX1_takeBack_75 : decode cX1_takeBack 75 = .ok (.aload_n 0, 1) := by decide +kernel
theorem dX1_takeBack_76 : decode cX1_takeBack 76 = .ok (.getfield 12, 3) := by decide +kernel
theorem dX1_takeBack_79 : decode cX1_takeBack 79 = .ok (.iconst 1, 1) := by decide +kernel
theorem dX1_takeBack_80 : decode cX1_takeBack 80 = .ok (.invokevirtual 63, 3) := by decide +kernel
theorem dX1_takeBack_83 : decode cX1_takeBack 83 = .ok (.pop, 1) := by decide +kernel
theorem dX1_takeBack_84 : decode cX1_takeBack 84 = .ok (.goto 70, 3) := by decide +kernel
theorem dX1_takeBack_87 : decode cX1_takeBack 87 = .ok (.aload_n 0, 1) := by decide +kernel
theorem dX1_takeBack_88 : decode cX1_takeBack 88 = .ok (.getfield 12, 3) := by decide +kernel
theorem dX1_takeBack_91 : decode cX1_takeBack 91 = .ok (.iload_n 1, 1) := by decide +kernel
theorem dX1_takeBack_92 : decode cX1_takeBack 92 = .ok (.iconst 1, 1) := by decide +kernel
theorem dX1_takeBack_93 : decode cX1_takeBack 93 = .ok (.invokevirtual 59, 3) := by decide +kernel
theorem dX1_takeBack_96 : decode cX1_takeBack 96 = .ok (.pop, 1) := by decide +kernel
theorem dX1_takeBack_97 : decode cX1_takeBack 97 = .ok (.goto 57, 3) := by decide +kernel
theorem dX1_takeBack_100 : decode cX1_takeBack 100 = .ok (.aload_n 0, 1) := by decide +kernel
theorem dX1_takeBack_101 : decode cX1_takeBack 101 = .ok (.getfield 12, 3) := by decide +kernel
theorem dX1_takeBack_104 : decode cX1_takeBack 104 = .ok (.iload_n 1, 1) := by decide +kernel
theorem dX1_takeBack_105 : decode cX1_takeBack 105 = .ok (.iconst 0, 1) := by decide +kernel
theorem dX1_takeBack_106 : decode cX1_takeBack 106 = .ok (.invokevirtual 59, 3) := by decide +kernel
theorem dX1_takeBack_109 : decode cX1_takeBack 109 = .ok (.pop, 1) := by decide +kernel
theorem dX1_takeBack_110 : decode cX1_takeBack 110 = .ok (.goto 44, 3) := by decide +kernel
theorem dX1_takeBack_113 : decode cX1_takeBack 113 = .ok (.aload_n 0, 1) := by decide +kernel
theorem dX1_takeBack_114 : decode cX1_takeBack 114 = .ok (.getfield 12, 3) := by decide +kernel
theorem dX1_takeBack_117 : decode cX1_takeBack 117 = .ok (.iload_n 1, 1) := by decide +kernel
theorem dX1_takeBack_118 : decode cX1_takeBack 118 = .ok (.invokevirtual 56, 3) := by decide +kernel
theorem dX1_takeBack_121 : decode cX1_takeBack 121 = .ok (.pop, 1) := by decide +kernel
theorem dX1_takeBack_122 : decode cX1_takeBack 122 = .ok (.goto 32, 3) := by decide +kernel
theorem dX1_takeBack_125 : decode cX1_takeBack 125 = .ok (.aload_n 0, 1) := by decide +kernel
theorem dX1_takeBack_126 : decode cX1_takeBack 126 = .ok (.getfield 12, 3) := by decide +kernel
theorem dX1_takeBack_129 : decode cX1_takeBack 129 = .ok (.iload_n 1, 1) := by decide +kernel
theorem dX1_takeBack_130 : decode cX1_takeBack 130 = .ok (.invokevirtual 56, 3) := by decide +kernel
theorem dX1_takeBack_133 : decode cX1_takeBack 133 = .ok (.pop, 1) := by decide +kernel
theorem dX1_takeBack_134 : decode cX1_takeBack 134 = .ok (.aload_n 0, 1) := by decide +kernel
theorem dX1_takeBack_135 : decode cX1_takeBack 135 = .ok (.getfield 12, 3) := by decide +kernel
theorem dX1_takeBack_138 : decode cX1_takeBack 138 = .ok (.iconst 1, 1) := by decide +kernel
theorem dX1_takeBack_139 : decode cX1_takeBack 139 = .ok (.invokevirtual 45, 3) := by decide +kernel
theorem dX1_takeBack_142 : decode cX1_takeBack 142 = .ok (.pop, 1) := by decide +kernel
theorem dX1_takeBack_143 : decode cX1_takeBack 143 = .ok (.goto 11, 3) := by decide +kernel
theorem dX1_takeBack_146 : decode cX1_takeBack 146 = .ok (.aload_n 0, 1) := by decide +kernel
theorem dX1_takeBack_147 : decode cX1_takeBack 147 = .ok (.getfield 12, 3) := by decide +kernel
theorem dX1_takeBack_150 : decode cX1_takeBack 150 = .ok (.invokevirtual 73, 3) := by decide +kernel
theorem dX1_takeBack_153 : decode cX1_takeBack 153 = .ok (.pop, 1) := by decide +kernel
theorem dX1_takeBack_154 : decode cX1_takeBack 154 = .ok (.aload_n 0, 1) := by decide +kernel
theorem dX1_takeBack_155 : decode cX1_takeBack 155 = .ok (.getfield 21, 3) := by decide +kernel
theorem dX1_takeBack_158 : decode cX1_takeBack 158 = .ok (.invokevirtual 85, 3) := by decide +kernel
theorem dX1_takeBack_161 : decode cX1_takeBack 161 = .ok (.aload_n 0, 1) := by decide +kernel
theorem dX1_takeBack_162 : decode cX1_takeBack 162 = .ok (.iconst 0, 1) := by decide +kernel
theorem dX1_takeBack_163 : decode cX1_takeBack 163 = .ok (.putfield 29, 3) := by decide +kernel
theorem dX1_takeBack_166 : decode cX1_takeBack 166 = .ok (.aload_n 0, 1) := by decide +kernel
theorem dX1_takeBack_167 : decode cX1_takeBack 167 = .ok (.getfield 21, 3) := by decide +kernel
theorem dX1_takeBack_170 : decode cX1_takeBack 170 = .ok (.getfield 76, 3) := by decide +kernel
theorem dX1_takeBack_173 : decode cX1_takeBack 173 = .ok (.ireturn, 1) := by decide +kernel
theorem dX1_startAnew_0 : decode cX1_startAnew 0 = .ok (.aload_n 0, 1) := by decide +kernel
theorem dX1_startAnew_1 : decode cX1_startAnew 1 = .ok (.getfield 12, 3) := by decide +kernel
theorem dX1_startAnew_4 : decode cX1_startAnew 4 = .ok (.invokevirtual 88, 3) := by decide +kernel
theorem dX1_startAnew_7 : decode cX1_startAnew 7 = .ok (.aload_n 0, 1) := by decide +kernel
theorem dX1_startAnew_8 : decode cX1_startAnew 8 = .ok (.getfield 21, 3) := by decide +kernel
theorem dX1_startAnew_11 : decode cX1_startAnew 11 = .ok (.iconst 0, 1) := by decide +kernel
theorem dX1_startAnew_12 : decode cX1_startAnew 12 = .ok (.putfield 76, 3) := by decide +kernel
theorem dX1_startAnew_15 : decode cX1_startAnew 15 = .ok (.aload_n 0, 1) := by decide +kernel
theorem dX1_startAnew_16 : decode cX1_startAnew 16 = .ok (.iconst 0, 1) := by decide +kernel
theorem dX1_startAnew_17 : decode cX1_startAnew 17 = .ok (.putfield 29, 3) := by decide +kernel
theorem dX1_startAnew_20 : decode cX1_startAnew 20 = .ok (.return_, 1) := by decide +kernel
theorem dX1_conclude_0 : decode cX1_conclude 0 = .ok (.aload_n 0, 1) := by decide +kernel
theorem dX1_conclude_1 : decode cX1_conclude 1 = .ok (.getfield 21, 3) := by decide +kernel
theorem dX1_conclude_4 : decode cX1_conclude 4 = .ok (.iload_n 1, 1) := by decide +kernel
theorem dX1_conclude_5 : decode cX1_conclude 5 = .ok (.iload_n 2, 1) := by decide +kernel
theorem dX1_conclude_6 : decode cX1_conclude 6 = .ok (.invokevirtual 91, 3) := by decide +kernel
theorem dX1_conclude_9 : decode cX1_conclude 9 = .ok (.aload_n 0, 1) := by decide +kernel
theorem dX1_conclude_10 : decode cX1_conclude 10 = .ok (.dup, 1) := by decide +kernel
theorem dX1_conclude_11 : decode cX1_conclude 11 = .ok (.getfield 95, 3) := by decide +kernel
theorem dX1_conclude_14 : decode cX1_conclude 14 = .ok (.iconst 1, 1) := by decide +kernel
theorem dX1_conclude_15 : decode cX1_conclude 15 = .ok (.iadd, 1) := by decide +kernel
theorem dX1_conclude_16 : decode cX1_conclude 16 = .ok (.putfield 95, 3) := by decide +kernel
theorem dX1_conclude_19 : decode cX1_conclude 19 = .ok (.aload_n 0, 1) := by decide +kernel
theorem dX1_conclude_20 : decode cX1_conclude 20 = .ok (.iload_n 3, 1) := by decide +kernel
theorem dX1_conclude_21 : decode cX1_conclude 21 = .ok (.putfield 29, 3) := by decide +kernel
theorem dX1_conclude_24 : decode cX1_conclude 24 = .ok (.return_, 1) := by decide +kernel
theorem dX1_refuse_0 : decode cX1_refuse 0 = .ok (.bipush (-2), 2) := by decide +kernel
theorem dX1_refuse_2 : decode cX1_refuse 2 = .ok (.iload_n 1, 1) := by decide +kernel
theorem dX1_refuse_3 : decode cX1_refuse 3 = .ok (.isub, 1) := by decide +kernel
theorem dX1_refuse_4 : decode cX1_refuse 4 = .ok (.istore_n 2, 1) := by decide +kernel
theorem dX1_refuse_5 : decode cX1_refuse 5 = .ok (.iload_n 2, 1) := by decide +kernel
theorem dX1_refuse_6 : decode cX1_refuse 6 = .ok (.ifCond .lt 22, 3) := by decide +kernel
theorem dX1_refuse_9 : decode cX1_refuse 9 = .ok (.iload_n 2, 1) := by decide +kernel
theorem dX1_refuse_10 : decode cX1_refuse 10 = .ok (.aload_n 0, 1) := by decide +kernel
theorem dX1_refuse_11 : decode cX1_refuse 11 = .ok (.getfield 25, 3) := by decide +kernel
theorem dX1_refuse_14 : decode cX1_refuse 14 = .ok (.arraylength, 1) := by decide +kernel
theorem dX1_refuse_15 : decode cX1_refuse 15 = .ok (.if_icmp .ge 13, 3) := by decide +kernel
theorem dX1_refuse_18 : decode cX1_refuse 18 = .ok (.aload_n 0, 1) := by decide +kernel
theorem dX1_refuse_19 : decode cX1_refuse 19 = .ok (.getfield 25, 3) := by decide +kernel
theorem dX1_refuse_22 : decode cX1_refuse 22 = .ok (.iload_n 2, 1) := by decide +kernel
theorem dX1_refuse_23 : decode cX1_refuse 23 = .ok (.dup2, 1) := by decide +kernel
theorem dX1_refuse_24 : decode cX1_refuse 24 = .ok (.iaload, 1) := by decide +kernel
theorem dX1_refuse_25 : decode cX1_refuse 25 = .ok (.iconst 1, 1) := by decide +kernel
theorem dX1_refuse_26 : decode cX1_refuse 26 = .ok (.iadd, 1) := by decide +kernel
theorem dX1_refuse_27 : decode cX1_refuse 27 = .ok (.iastore, 1) := by decide +kernel
theorem dX1_refuse_28 : decode cX1_refuse 28 = .ok (.iload_n 1, 1) := by decide +kernel
theorem dX1_refuse_29 : decode cX1_refuse 29 = .ok (.ireturn, 1) := by decide +kernel
theorem dX2_init_0 : decode cX2_init 0 = .ok (.aload_n 0, 1) := by decide +kernel
theorem dX2_init_1 : decode cX2_init 1 = .ok (.invokespecial 3, 3) := by decide +kernel
theorem dX2_init_4 : decode cX2_init 4 = .ok (.aload_n 0, 1) := by decide +kernel
theorem dX2_init_5 : decode cX2_init 5 = .ok (.bipush 50, 2) := by decide +kernel
theorem dX2_init_7 : decode cX2_init 7 = .ok (.newarray .int, 2) := by decide +kernel
theorem dX2_init_9 : decode cX2_init 9 = .ok (.putfield 9, 3) := by decide +kernel
theorem dX2_init_12 : decode cX2_init 12 = .ok (.aload_n 0, 1) := by decide +kernel
theorem dX2_init_13 : decode cX2_init 13 = .ok (.bipush 50, 2) := by decide +kernel
theorem dX2_init_15 : decode cX2_init 15 = .ok (.newarray .int, 2) := by decide +kernel
theorem dX2_init_17 : decode cX2_init 17 = .ok (.putfield 15, 3) := by decide +kernel
theorem dX2_init_20 : decode cX2_init 20 = .ok (.return_, 1) := by decide +kernel
theorem dX2_keep_0 : decode cX2_keep 0 = .ok (.aload_n 0, 1) := by decide +kernel
theorem dX2_keep_1 : decode cX2_keep 1 = .ok (.aload_n 0, 1) := by decide +kernel
theorem dX2_keep_2 : decode cX2_keep 2 = .ok (.getfield 18, 3) := by decide +kernel
theorem dX2_keep_5 : decode cX2_keep 5 = .ok (.iconst 1, 1) := by decide +kernel
theorem dX2_keep_6 : decode cX2_keep 6 = .ok (.iadd, 1) := by decide +kernel
theorem dX2_keep_7 : decode cX2_keep 7 = .ok (.bipush 50, 2) := by decide +kernel
theorem dX2_keep_9 : decode cX2_keep 9 = .ok (.irem, 1) := by decide +kernel
theorem dX2_keep_10 : decode cX2_keep 10 = .ok (.putfield 18, 3) := by decide +kernel
theorem dX2_keep_13 : decode cX2_keep 13 = .ok (.aload_n 0, 1) := by decide +kernel
theorem dX2_keep_14 : decode cX2_keep 14 = .ok (.getfield 9, 3) := by decide +kernel
theorem dX2_keep_17 : decode cX2_keep 17 = .ok (.aload_n 0, 1) := by decide +kernel
theorem dX2_keep_18 : decode cX2_keep 18 = .ok (.getfield 18, 3) := by decide +kernel
theorem dX2_keep_21 : decode cX2_keep 21 = .ok (.iload_n 1, 1) := by decide +kernel
theorem dX2_keep_22 : decode cX2_keep 22 = .ok (.iastore, 1) := by decide +kernel
theorem dX2_keep_23 : decode cX2_keep 23 = .ok (.aload_n 0, 1) := by decide +kernel
theorem dX2_keep_24 : decode cX2_keep 24 = .ok (.getfield 15, 3) := by decide +kernel
theorem dX2_keep_27 : decode cX2_keep 27 = .ok (.aload_n 0, 1) := by decide +kernel
theorem dX2_keep_28 : decode cX2_keep 28 = .ok (.getfield 18, 3) := by decide +kernel
theorem dX2_keep_31 : decode cX2_keep 31 = .ok (.iload_n 2, 1) := by decide +kernel
theorem dX2_keep_32 : decode cX2_keep 32 = .ok (.iastore, 1) := by decide +kernel
theorem dX2_keep_33 : decode cX2_keep 33 = .ok (.aload_n 0, 1) := by decide +kernel
theorem dX2_keep_34 : decode cX2_keep 34 = .ok (.aload_n 0, 1) := by decide +kernel
theorem dX2_keep_35 : decode cX2_keep 35 = .ok (.getfield 22, 3) := by decide +kernel
theorem dX2_keep_38 : decode cX2_keep 38 = .ok (.iconst 1, 1) := by decide +kernel
theorem dX2_keep_39 : decode cX2_keep 39 = .ok (.iadd, 1) := by decide +kernel
theorem dX2_keep_40 : decode cX2_keep 40 = .ok (.bipush 50, 2) := by decide +kernel
theorem dX2_keep_42 : decode cX2_keep 42 = .ok (.invokestatic 25, 3) := by decide +kernel
theorem dX2_keep_45 : decode cX2_keep 45 = .ok (.putfield 22, 3) := by decide +kernel
theorem dX2_keep_48 : decode cX2_keep 48 = .ok (.return_, 1) := by decide +kernel
theorem dX2_latestKind_0 : decode cX2_latestKind 0 = .ok (.aload_n 0, 1) := by decide +kernel
theorem dX2_latestKind_1 : decode cX2_latestKind 1 = .ok (.getfield 9, 3) := by decide +kernel
theorem dX2_latestKind_4 : decode cX2_latestKind 4 = .ok (.aload_n 0, 1) := by decide +kernel
theorem dX2_latestKind_5 : decode cX2_latestKind 5 = .ok (.getfield 18, 3) := by decide +kernel
theorem dX2_latestKind_8 : decode cX2_latestKind 8 = .ok (.iaload, 1) := by decide +kernel
theorem dX2_latestKind_9 : decode cX2_latestKind 9 = .ok (.ireturn, 1) := by decide +kernel
theorem dX2_latestNumber_0 : decode cX2_latestNumber 0 = .ok (.aload_n 0, 1) := by decide +kernel
theorem dX2_latestNumber_1 : decode cX2_latestNumber 1 = .ok (.getfield 15, 3) := by decide +kernel
theorem dX2_latestNumber_4 : decode cX2_latestNumber 4 = .ok (.aload_n 0, 1) := by decide +kernel
theorem dX2_latestNumber_5 : decode cX2_latestNumber 5 = .ok (.getfield 18, 3) := by decide +kernel
theorem dX2_latestNumber_8 : decode cX2_latestNumber 8 = .ok (.iaload, 1) := by decide +kernel
theorem dX2_latestNumber_9 : decode cX2_latestNumber 9 = .ok (.ireturn, 1) := by decide +kernel
theorem dX2_forgetLatest_0 : decode cX2_forgetLatest 0 = .ok (.aload_n 0, 1) := by decide +kernel
theorem dX2_forgetLatest_1 : decode cX2_forgetLatest 1 = .ok (.aload_n 0, 1) := by decide +kernel
theorem dX2_forgetLatest_2 : decode cX2_forgetLatest 2 = .ok (.getfield 18, 3) := by decide +kernel
theorem dX2_forgetLatest_5 : decode cX2_forgetLatest 5 = .ok (.bipush 50, 2) := by decide +kernel
theorem dX2_forgetLatest_7 : decode cX2_forgetLatest 7 = .ok (.iadd, 1) := by decide +kernel
theorem dX2_forgetLatest_8 : decode cX2_forgetLatest 8 = .ok (.iconst 1, 1) := by decide +kernel
theorem dX2_forgetLatest_9 : decode cX2_forgetLatest 9 = .ok (.isub, 1) := by decide +kernel
theorem dX2_forgetLatest_10 : decode cX2_forgetLatest 10 = .ok (.bipush 50, 2) := by decide +kernel
theorem dX2_forgetLatest_12 : decode cX2_forgetLatest 12 = .ok (.irem, 1) := by decide +kernel
theorem dX2_forgetLatest_13 : decode cX2_forgetLatest 13 = .ok (.putfield 18, 3) := by decide +kernel
theorem dX2_forgetLatest_16 : decode cX2_forgetLatest 16 = .ok (.aload_n 0, 1) := by decide +kernel
theorem dX2_forgetLatest_17 : decode cX2_forgetLatest 17 = .ok (.dup, 1) := by decide +kernel
theorem dX2_forgetLatest_18 : decode cX2_forgetLatest 18 = .ok (.getfield 22, 3) := by decide +kernel
theorem dX2_forgetLatest_21 : decode cX2_forgetLatest 21 = .ok (.iconst 1, 1) := by decide +kernel
theorem dX2_forgetLatest_22 : decode cX2_forgetLatest 22 = .ok (.isub, 1) := by decide +kernel
theorem dX2_forgetLatest_23 : decode cX2_forgetLatest 23 = .ok (.putfield 22, 3) := by decide +kernel
theorem dX2_forgetLatest_26 : decode cX2_forgetLatest 26 = .ok (.return_, 1) := by decide +kernel
end
section
theorem dX3_init_0 : decode cX3_init 0 = .ok (.aload_n 0, 1) := by decide +kernel
theorem dX3_init_1 : decode cX3_init 1 = .ok (.invokespecial 3, 3) := by decide +kernel
theorem dX3_init_4 : decode cX3_init 4 = .ok (.aload_n 0, 1) := by decide +kernel
theorem dX3_init_5 : decode cX3_init 5 = .ok (.new 9, 3) := by decide +kernel
theorem dX3_init_8 : decode cX3_init 8 = .ok (.dup, 1) := by decide +kernel
theorem dX3_init_9 : decode cX3_init 9 = .ok (.invokespecial 11, 3) := by decide +kernel
theorem dX3_init_12 : decode cX3_init 12 = .ok (.putfield 12, 3) := by decide +kernel
theorem dX3_init_15 : decode cX3_init 15 = .ok (.aload_n 0, 1) := by decide +kernel
theorem dX3_init_16 : decode cX3_init 16 = .ok (.new 18, 3) := by decide +kernel
theorem dX3_init_19 : decode cX3_init 19 = .ok (.dup, 1) := by decide +kernel
theorem dX3_init_20 : decode cX3_init 20 = .ok (.invokespecial 20, 3) := by decide +kernel
theorem dX3_init_23 : decode cX3_init 23 = .ok (.putfield 21, 3) := by decide +kernel
theorem dX3_init_26 : decode cX3_init 26 = .ok (.aload_n 0, 1) := by decide +kernel
theorem dX3_init_27 : decode cX3_init 27 = .ok (.new 25, 3) := by decide +kernel
theorem dX3_init_30 : decode cX3_init 30 = .ok (.dup, 1) := by decide +kernel
theorem dX3_init_31 : decode cX3_init 31 = .ok (.invokespecial 27, 3) := by decide +kernel
theorem dX3_init_34 : decode cX3_init 34 = .ok (.putfield 28, 3) := by decide +kernel
theorem dX3_init_37 : decode cX3_init 37 = .ok (.return_, 1) := by decide +kernel
theorem dX3_pass_0 : decode cX3_pass 0 = .ok (.aload_n 0, 1) := by decide +kernel
theorem dX3_pass_1 : decode cX3_pass 1 = .ok (.aload_n 0, 1) := by decide +kernel
theorem dX3_pass_2 : decode cX3_pass 2 = .ok (.getfield 12, 3) := by decide +kernel
theorem dX3_pass_5 : decode cX3_pass 5 = .ok (.iload_n 1, 1) := by decide +kernel
theorem dX3_pass_6 : decode cX3_pass 6 = .ok (.invokevirtual 32, 3) := by decide +kernel
theorem dX3_pass_9 : decode cX3_pass 9 = .ok (.aload_n 0, 1) := by decide +kernel
theorem dX3_pass_10 : decode cX3_pass 10 = .ok (.getfield 21, 3) := by decide +kernel
theorem dX3_pass_13 : decode cX3_pass 13 = .ok (.iload_n 1, 1) := by decide +kernel
theorem dX3_pass_14 : decode cX3_pass 14 = .ok (.invokevirtual 36, 3) := by decide +kernel
theorem dX3_pass_17 : decode cX3_pass 17 = .ok (.aload_n 0, 1) := by decide +kernel
theorem dX3_pass_18 : decode cX3_pass 18 = .ok (.getfield 28, 3) := by decide +kernel
theorem dX3_pass_21 : decode cX3_pass 21 = .ok (.iload_n 1, 1) := by decide +kernel
theorem dX3_pass_22 : decode cX3_pass 22 = .ok (.invokevirtual 37, 3) := by decide +kernel
theorem dX3_pass_25 : decode cX3_pass 25 = .ok (.invokevirtual 38, 3) := by decide +kernel
theorem dX3_pass_28 : decode cX3_pass 28 = .ok (.ireturn, 1) := by decide +kernel
theorem dX3_insert_0 : decode cX3_insert 0 = .ok (.aload_n 0, 1) := by decide +kernel
theorem dX3_insert_1 : decode cX3_insert 1 = .ok (.aload_n 0, 1) := by decide +kernel
theorem dX3_insert_2 : decode cX3_insert 2 = .ok (.getfield 12, 3) := by decide +kernel
theorem dX3_insert_5 : decode cX3_insert 5 = .ok (.iload_n 1, 1) := by decide +kernel
theorem dX3_insert_6 : decode cX3_insert 6 = .ok (.invokevirtual 42, 3) := by decide +kernel
theorem dX3_insert_9 : decode cX3_insert 9 = .ok (.aload_n 0, 1) := by decide +kernel
theorem dX3_insert_10 : decode cX3_insert 10 = .ok (.getfield 21, 3) := by decide +kernel
theorem dX3_insert_13 : decode cX3_insert 13 = .ok (.iload_n 1, 1) := by decide +kernel
theorem dX3_insert_14 : decode cX3_insert 14 = .ok (.invokevirtual 46, 3) := by decide +kernel
theorem dX3_insert_17 : decode cX3_insert 17 = .ok (.aload_n 0, 1) := by decide +kernel
theorem dX3_insert_18 : decode cX3_insert 18 = .ok (.getfield 28, 3) := by decide +kernel
theorem dX3_insert_21 : decode cX3_insert 21 = .ok (.iload_n 1, 1) := by decide +kernel
theorem dX3_insert_22 : decode cX3_insert 22 = .ok (.invokevirtual 47, 3) := by decide +kernel
theorem dX3_insert_25 : decode cX3_insert 25 = .ok (.invokevirtual 38, 3) := by decide +kernel
theorem dX3_insert_28 : decode cX3_insert 28 = .ok (.ireturn, 1) := by decide +kernel
theorem dX3_exchange_0 : decode cX3_exchange 0 = .ok (.aload_n 0, 1) := by decide +kernel
theorem dX3_exchange_1 : decode cX3_exchange 1 = .ok (.aload_n 0, 1) := by decide +kernel
theorem dX3_exchange_2 : decode cX3_exchange 2 = .ok (.getfield 12, 3) := by decide +kernel
theorem dX3_exchange_5 : decode cX3_exchange 5 = .ok (.iload_n 1, 1) := by decide +kernel
theorem dX3_exchange_6 : decode cX3_exchange 6 = .ok (.iload_n 2, 1) := by decide +kernel
theorem dX3_exchange_7 : decode cX3_exchange 7 = .ok (.invokevirtual 48, 3) := by decide +kernel
theorem dX3_exchange_10 : decode cX3_exchange 10 = .ok (.aload_n 0, 1) := by decide +kernel
theorem dX3_exchange_11 : decode cX3_exchange 11 = .ok (.getfield 21, 3) := by decide +kernel
theorem dX3_exchange_14 : decode cX3_exchange 14 = .ok (.iload_n 1, 1) := by decide +kernel
theorem dX3_exchange_15 : decode cX3_exchange 15 = .ok (.iload_n 2, 1) := by decide +kernel
theorem dX3_exchange_16 : decode cX3_exchange 16 = .ok (.invokevirtual 52, 3) := by decide +kernel
theorem dX3_exchange_19 : decode cX3_exchange 19 = .ok (.aload_n 0, 1) := by decide +kernel
theorem dX3_exchange_20 : decode cX3_exchange 20 = .ok (.getfield 28, 3) := by decide +kernel
theorem dX3_exchange_23 : decode cX3_exchange 23 = .ok (.iload_n 1, 1) := by decide +kernel
theorem dX3_exchange_24 : decode cX3_exchange 24 = .ok (.iload_n 2, 1) := by decide +kernel
theorem dX3_exchange_25 : decode cX3_exchange 25 = .ok (.invokevirtual 53, 3) := by decide +kernel
theorem dX3_exchange_28 : decode cX3_exchange 28 = .ok (.invokevirtual 38, 3) := by decide +kernel
theorem dX3_exchange_31 : decode cX3_exchange 31 = .ok (.ireturn, 1) := by decide +kernel
theorem dX3_drop_0 : decode cX3_drop 0 = .ok (.aload_n 0, 1) := by decide +kernel
theorem dX3_drop_1 : decode cX3_drop 1 = .ok (.aload_n 0, 1) := by decide +kernel
theorem dX3_drop_2 : decode cX3_drop 2 = .ok (.getfield 12, 3) := by decide +kernel
theorem dX3_drop_5 : decode cX3_drop 5 = .ok (.iload_n 1, 1) := by decide +kernel
theorem dX3_drop_6 : decode cX3_drop 6 = .ok (.invokevirtual 54, 3) := by decide +kernel
theorem dX3_drop_9 : decode cX3_drop 9 = .ok (.aload_n 0, 1) := by decide +kernel
theorem dX3_drop_10 : decode cX3_drop 10 = .ok (.getfield 21, 3) := by decide +kernel
theorem dX3_drop_13 : decode cX3_drop 13 = .ok (.iload_n 1, 1) := by decide +kernel
theorem dX3_drop_14 : decode cX3_drop 14 = .ok (.invokevirtual 57, 3) := by decide +kernel
theorem dX3_drop_17 : decode cX3_drop 17 = .ok (.aload_n 0, 1) := by decide +kernel
theorem dX3_drop_18 : decode cX3_drop 18 = .ok (.getfield 28, 3) := by decide +kernel
theorem dX3_drop_21 : decode cX3_drop 21 = .ok (.iload_n 1, 1) := by decide +kernel
theorem dX3_drop_22 : decode cX3_drop 22 = .ok (.invokevirtual 58, 3) := by decide +kernel
theorem dX3_drop_25 : decode cX3_drop 25 = .ok (.invokevirtual 38, 3) := by decide +kernel
theorem dX3_drop_28 : decode cX3_drop 28 = .ok (.ireturn, 1) := by decide +kernel
theorem dX3_empty_0 : decode cX3_empty 0 = .ok (.aload_n 0, 1) := by decide +kernel
theorem dX3_empty_1 : decode cX3_empty 1 = .ok (.getfield 12, 3) := by decide +kernel
theorem dX3_empty_4 : decode cX3_empty 4 = .ok (.invokevirtual 59, 3) := by decide +kernel
theorem dX3_empty_7 : decode cX3_empty 7 = .ok (.aload_n 0, 1) := by decide +kernel
theorem dX3_empty_8 : decode cX3_empty 8 = .ok (.getfield 21, 3) := by decide +kernel
theorem dX3_empty_11 : decode cX3_empty 11 = .ok (.invokevirtual 62, 3) := by decide +kernel
theorem dX3_empty_14 : decode cX3_empty 14 = .ok (.aload_n 0, 1) := by decide +kernel
theorem dX3_empty_15 : decode cX3_empty 15 = .ok (.getfield 28, 3) := by decide +kernel
theorem dX3_empty_18 : decode cX3_empty 18 = .ok (.invokevirtual 63, 3) := by decide +kernel
theorem dX3_empty_21 : decode cX3_empty 21 = .ok (.return_, 1) := by decide +kernel
theorem dX3_go_0 : decode cX3_go 0 = .ok (.iload_n 1, 1) := by decide +kernel
theorem dX3_go_1 : decode cX3_go 1 = .ok (.aload_n 0, 1) := by decide +kernel
theorem dX3_go_2 : decode cX3_go 2 = .ok (.invokevirtual 64, 3) := by decide +kernel
theorem dX3_go_5 : decode cX3_go 5 = .ok (.if_icmp .ge 7, 3) := by decide +kernel
theorem dX3_go_8 : decode cX3_go 8 = .ok (.iconst 1, 1) := by decide +kernel
theorem dX3_go_9 : decode cX3_go 9 = .ok (.goto 4, 3) := by decide +kernel
theorem dX3_go_12 : decode cX3_go 12 = .ok (.iconst 0, 1) := by decide +kernel
theorem dX3_go_13 : decode cX3_go 13 = .ok (.istore_n 2, 1) := by decide +kernel
theorem dX3_go_14 : decode cX3_go 14 = .ok (.iconst 0, 1) := by decide +kernel
theorem dX3_go_15 : decode cX3_go 15 = .ok (.istore_n 3, 1) := by decide +kernel
theorem dX3_go_16 : decode cX3_go 16 = .ok (.iload_n 3, 1) := by decide +kernel
theorem dX3_go_17 : decode cX3_go 17 = .ok (.bipush 100, 2) := by decide +kernel
theorem dX3_go_19 : decode cX3_go 19 = .ok (.if_icmp .ge 46, 3) := by decide +kernel
theorem dX3_go_22 : decode cX3_go 22 = .ok (.aload_n 0, 1) := by decide +kernel
theorem dX3_go_23 : decode cX3_go 23 = .ok (.invokevirtual 64, 3) := by decide +kernel
theorem dX3_go_26 : decode cX3_go 26 = .ok (.iload_n 1, 1) := by decide +kernel
theorem dX3_go_27 : decode cX3_go 27 = .ok (.if_icmp .eq 38, 3) := by decide +kernel
theorem dX3_go_30 : decode cX3_go 30 = .ok (.aload_n 0, 1) := by decide +kernel
theorem dX3_go_31 : decode cX3_go 31 = .ok (.aload_n 0, 1) := by decide +kernel
theorem dX3_go_32 : decode cX3_go 32 = .ok (.getfield 12, 3) := by decide +kernel
theorem dX3_go_35 : decode cX3_go 35 = .ok (.iload_n 2, 1) := by decide +kernel
theorem dX3_go_36 : decode cX3_go 36 = .ok (.invokevirtual 32, 3) := by decide +kernel
theorem dX3_go_39 : decode cX3_go 39 = .ok (.aload_n 0, 1) := by decide +kernel
theorem dX3_go_40 : decode cX3_go 40 = .ok (.getfield 21, 3) := by decide +kernel
theorem dX3_go_43 : decode cX3_go 43 = .ok (.iload_n 2, 1) := by decide +kernel
theorem dX3_go_44 : decode cX3_go 44 = .ok (.invokevirtual 36, 3) := by decide +kernel
theorem dX3_go_47 : decode cX3_go 47 = .ok (.aload_n 0, 1) := by decide +kernel
theorem dX3_go_48 : decode cX3_go 48 = .ok (.getfield 28, 3) := by decide +kernel
theorem dX3_go_51 : decode cX3_go 51 = .ok (.iload_n 2, 1) := by decide +kernel
theorem dX3_go_52 : decode cX3_go 52 = .ok (.invokevirtual 37, 3) := by decide +kernel
theorem dX3_go_55 : decode cX3_go 55 = .ok (.invokevirtual 38, 3) := by decide +kernel
theorem dX3_go_58 : decode cX3_go 58 = .ok (.pop, 1) := by decide +kernel
theorem dX3_go_59 : decode cX3_go 59 = .ok (.iinc 3 1, 3) := by decide +kernel
theorem dX3_go_62 : decode cX3_go 62 = .ok (.goto (-46), 3) := by decide +kernel
theorem dX3_go_65 : decode cX3_go 65 = .ok (.return_, 1) := by decide +kernel
theorem dX3_cross_0 : decode cX3_cross 0 = .ok (.aload_n 0, 1) := by decide +kernel
theorem dX3_cross_1 : decode cX3_cross 1 = .ok (.aload_n 0, 1) := by decide +kernel
theorem dX3_cross_2 : decode cX3_cross 2 = .ok (.getfield 12, 3) := by decide +kernel
theorem dX3_cross_5 : decode cX3_cross 5 = .ok (.invokevirtual 68, 3) := by decide +kernel
theorem dX3_cross_8 : decode cX3_cross 8 = .ok (.aload_n 0, 1) := by decide +kernel
theorem dX3_cross_9 : decode cX3_cross 9 = .ok (.getfield 21, 3) := by decide +kernel
theorem dX3_cross_12 : decode cX3_cross 12 = .ok (.invokevirtual 71, 3) := by decide +kernel
theorem dX3_cross_15 : decode cX3_cross 15 = .ok (.aload_n 0, 1) := by decide +kernel
theorem dX3_cross_16 : decode cX3_cross 16 = .ok (.getfield 28, 3) := by decide +kernel
theorem dX3_cross_19 : decode cX3_cross 19 = .ok (.invokevirtual 72, 3) := by decide +kernel
theorem dX3_cross_22 : decode cX3_cross 22 = .ok (.invokevirtual 38, 3) := by decide +kernel
theorem dX3_cross_25 : decode cX3_cross 25 = .ok (.ireturn, 1) := by decide +kernel
theorem dX3_caret_0 : decode cX3_caret 0 = .ok (.aload_n 0, 1) := by decide +kernel
theorem dX3_caret_1 : decode cX3_caret 1 = .ok (.getfield 28, 3) := by decide +kernel
theorem dX3_caret_4 : decode cX3_caret 4 = .ok (.invokevirtual 73, 3) := by decide +kernel
theorem dX3_caret_7 : decode cX3_caret 7 = .ok (.ireturn, 1) := by decide +kernel
theorem dX3_length_0 : decode cX3_length 0 = .ok (.aload_n 0, 1) := by decide +kernel
theorem dX3_length_1 : decode cX3_length 1 = .ok (.getfield 28, 3) := by decide +kernel
theorem dX3_length_4 : decode cX3_length 4 = .ok (.invokevirtual 74, 3) := by decide +kernel
theorem dX3_length_7 : decode cX3_length 7 = .ok (.ireturn, 1) := by decide +kernel
theorem dX3_has_0 : decode cX3_has 0 = .ok (.iload_n 1, 1) := by decide +kernel
theorem dX3_has_1 : decode cX3_has 1 = .ok (.ifCond .eq 21, 3) := by decide +kernel
theorem dX3_has_4 : decode cX3_has 4 = .ok (.aload_n 0, 1) := by decide +kernel
theorem dX3_has_5 : decode cX3_has 5 = .ok (.getfield 28, 3) := by decide +kernel
theorem dX3_has_8 : decode cX3_has 8 = .ok (.invokevirtual 73, 3) := by decide +kernel
theorem dX3_has_11 : decode cX3_has 11 = .ok (.ifCond .le 7, 3) := by decide +kernel
theorem dX3_has_14 : decode cX3_has 14 = .ok (.iconst 1, 1) := by decide +kernel
theorem dX3_has_15 : decode cX3_has 15 = .ok (.goto 29, 3) := by decide +kernel
theorem dX3_has_18 : decode cX3_has 18 = .ok (.iconst 0, 1) := by decide +kernel
theorem dX3_has_19 : decode cX3_has 19 = .ok (.goto 25, 3) := by decide +kernel
theorem dX3_has_22 : decode cX3_has 22 = .ok (.aload_n 0, 1) := by decide +kernel
theorem dX3_has_23 : decode cX3_has 23 = .ok (.getfield 28, 3) := by decide +kernel
theorem dX3_has_26 : decode cX3_has 26 = .ok (.invokevirtual 73, 3) := by decide +kernel
theorem dX3_has_29 : decode cX3_has 29 = .ok (.aload_n 0, 1) := by decide +kernel
theorem dX3_has_30 : decode cX3_has 30 = .ok (.getfield 28, 3) := by decide +kernel
theorem dX3_has_33 : decode cX3_has 33 = .ok (.invokevirtual 74, 3) := by decide +kernel
theorem dX3_has_36 : decode cX3_has 36 = .ok (.if_icmp .ge 7, 3) := by decide +kernel
theorem dX3_has_39 : decode cX3_has 39 = .ok (.iconst 1, 1) := by decide +kernel
theorem dX3_has_40 : decode cX3_has 40 = .ok (.goto 4, 3) := by decide +kernel
theorem dX3_has_43 : decode cX3_has 43 = .ok (.iconst 0, 1) := by decide +kernel
theorem dX3_has_44 : decode cX3_has 44 = .ok (.ireturn, 1) := by decide +kernel
theorem dX3_wordOf_0 : decode cX3_wordOf 0 = .ok (.aload_n 0, 1) := by decide +kernel
theorem dX3_wordOf_1 : decode cX3_wordOf 1 = .ok (.getfield 28, 3) := by decide +kernel
theorem dX3_wordOf_4 : decode cX3_wordOf 4 = .ok (.iload_n 1, 1) := by decide +kernel
theorem dX3_wordOf_5 : decode cX3_wordOf 5 = .ok (.invokevirtual 77, 3) := by decide +kernel
theorem dX3_wordOf_8 : decode cX3_wordOf 8 = .ok (.ireturn, 1) := by decide +kernel
theorem dX3_stepsTo_0 : decode cX3_stepsTo 0 = .ok (.iload_n 2, 1) := by decide +kernel
theorem dX3_stepsTo_1 : decode cX3_stepsTo 1 = .ok (.ifCond .eq 10, 3) := by decide +kernel
theorem dX3_stepsTo_4 : decode cX3_stepsTo 4 = .ok (.aload_n 0, 1) := by decide +kernel
theorem dX3_stepsTo_5 : decode cX3_stepsTo 5 = .ok (.invokevirtual 64, 3) := by decide +kernel
theorem dX3_stepsTo_8 : decode cX3_stepsTo 8 = .ok (.goto 12, 3) := by decide +kernel
theorem dX3_stepsTo_11 : decode cX3_stepsTo 11 = .ok (.aload_n 0, 1) := by decide +kernel
theorem dX3_stepsTo_12 : decode cX3_stepsTo 12 = .ok (.invokevirtual 80, 3) := by decide +kernel
theorem dX3_stepsTo_15 : decode cX3_stepsTo 15 = .ok (.aload_n 0, 1) := by decide +kernel
theorem dX3_stepsTo_16 : decode cX3_stepsTo 16 = .ok (.invokevirtual 64, 3) := by decide +kernel
theorem dX3_stepsTo_19 : decode cX3_stepsTo 19 = .ok (.isub, 1) := by decide +kernel
theorem dX3_stepsTo_20 : decode cX3_stepsTo 20 = .ok (.istore_n 3, 1) := by decide +kernel
theorem dX3_stepsTo_21 : decode cX3_stepsTo 21 = .ok (.iload_n 2, 1) := by decide +kernel
theorem dX3_stepsTo_22 : decode cX3_stepsTo 22 = .ok (.ifCond .eq 12, 3) := by decide +kernel
theorem dX3_stepsTo_25 : decode cX3_stepsTo 25 = .ok (.aload_n 0, 1) := by decide +kernel
theorem dX3_stepsTo_26 : decode cX3_stepsTo 26 = .ok (.invokevirtual 64, 3) := by decide +kernel
theorem dX3_stepsTo_29 : decode cX3_stepsTo 29 = .ok (.iconst 1, 1) := by decide +kernel
theorem dX3_stepsTo_30 : decode cX3_stepsTo 30 = .ok (.isub, 1) := by decide +kernel
theorem dX3_stepsTo_31 : decode cX3_stepsTo 31 = .ok (.goto 7, 3) := by decide +kernel
theorem dX3_stepsTo_34 : decode cX3_stepsTo 34 = .ok (.aload_n 0, 1) := by decide +kernel
theorem dX3_stepsTo_35 : decode cX3_stepsTo 35 = .ok (.invokevirtual 64, 3) := by decide +kernel
theorem dX3_stepsTo_38 : decode cX3_stepsTo 38 = .ok (.istore 4, 2) := by decide +kernel
theorem dX3_stepsTo_40 : decode cX3_stepsTo 40 = .ok (.iconst 0, 1) := by decide +kernel
theorem dX3_stepsTo_41 : decode cX3_stepsTo 41 = .ok (.istore 5, 2) := by decide +kernel
theorem dX3_stepsTo_43 : decode cX3_stepsTo 43 = .ok (.iload 5, 2) := by decide +kernel
theorem dX3_stepsTo_45 : decode cX3_stepsTo 45 = .ok (.iload_n 3, 1) := by decide +kernel
theorem dX3_stepsTo_46 : decode cX3_stepsTo 46 = .ok (.if_icmp .ge 39, 3) := by decide +kernel
theorem dX3_stepsTo_49 : decode cX3_stepsTo 49 = .ok (.aload_n 0, 1) := by decide +kernel
theorem dX3_stepsTo_50 : decode cX3_stepsTo 50 = .ok (.iload_n 2, 1) := by decide +kernel
theorem dX3_stepsTo_51 : decode cX3_stepsTo 51 = .ok (.ifCond .eq 11, 3) := by decide +kernel
theorem dX3_stepsTo_54 : decode cX3_stepsTo 54 = .ok (.iload 4, 2) := by decide +kernel
theorem dX3_stepsTo_56 : decode cX3_stepsTo 56 = .ok (.iload 5, 2) := by decide +kernel
theorem dX3_stepsTo_58 : decode cX3_stepsTo 58 = .ok (.isub, 1) := by decide +kernel
theorem dX3_stepsTo_59 : decode cX3_stepsTo 59 = .ok (.goto 8, 3) := by decide +kernel
theorem dX3_stepsTo_62 : decode cX3_stepsTo 62 = .ok (.iload 4, 2) := by decide +kernel
theorem dX3_stepsTo_64 : decode cX3_stepsTo 64 = .ok (.iload 5, 2) := by decide +kernel
theorem dX3_stepsTo_66 : decode cX3_stepsTo 66 = .ok (.iadd, 1) := by decide +kernel
theorem dX3_stepsTo_67 : decode cX3_stepsTo 67 = .ok (.invokevirtual 81, 3) := by decide +kernel
theorem dX3_stepsTo_70 : decode cX3_stepsTo 70 = .ok (.iload_n 1, 1) := by decide +kernel
theorem dX3_stepsTo_71 : decode cX3_stepsTo 71 = .ok (.if_icmp .ne 8, 3) := by decide +kernel
theorem dX3_stepsTo_74 : decode cX3_stepsTo 74 = .ok (.iload 5, 2) := by decide +kernel
theorem dX3_stepsTo_76 : decode cX3_stepsTo 76 = .ok (.iconst 1, 1) := by decide +kernel
theorem dX3_stepsTo_77 : decode cX3_stepsTo 77 = .ok (.iadd, 1) := by decide +kernel
theorem dX3_stepsTo_78 : decode cX3_stepsTo 78 = .ok (.ireturn, 1) := by decide +kernel
theorem dX3_stepsTo_79 : decode cX3_stepsTo 79 = .ok (.iinc 5 1, 3) := by decide +kernel
theorem dX3_stepsTo_82 : decode cX3_stepsTo 82 = .ok (.goto (-39), 3) := by decide +kernel
theorem dX3_stepsTo_85 : decode cX3_stepsTo 85 = .ok (.iconst 0, 1) := by decide +kernel
theorem dX3_stepsTo_86 : decode cX3_stepsTo 86 = .ok (.ireturn, 1) := by decide +kernel
theorem dX3_areListAndChainAlike_0 : decode cX3_areListAndChainAlike 0 = .ok (.aload_n 0, 1) := by decide +kernel
theorem dX3_areListAndChainAlike_1 : decode cX3_areListAndChainAlike 1 = .ok (.getfield 12, 3) := by decide +kernel
theorem dX3_areListAndChainAlike_4 : decode cX3_areListAndChainAlike 4 = .ok (.invokevirtual 82, 3) := by decide +kernel
theorem dX3_areListAndChainAlike_7 : decode cX3_areListAndChainAlike 7 = .ok (.aload_n 0, 1) := by decide +kernel
theorem dX3_areListAndChainAlike_8 : decode cX3_areListAndChainAlike 8 = .ok (.getfield 21, 3) := by decide +kernel
theorem dX3_areListAndChainAlike_11 : decode cX3_areListAndChainAlike 11 = .ok (.getfield 83, 3) := by decide +kernel
theorem dX3_areListAndChainAlike_14 : decode cX3_areListAndChainAlike 14 = .ok (.if_icmp .ne 20, 3) := by decide +kernel
theorem dX3_areListAndChainAlike_17 : decode cX3_areListAndChainAlike 17 = .ok (.aload_n 0, 1) := by decide +kernel
theorem dX3_areListAndChainAlike_18 : decode cX3_areListAndChainAlike 18 = .ok (.getfield 12, 3) := by decide +kernel
theorem dX3_areListAndChainAlike_21 : decode cX3_areListAndChainAlike 21 = .ok (.getfield 87, 3) := by decide +kernel
theorem dX3_areListAndChainAlike_24 : decode cX3_areListAndChainAlike 24 = .ok (.aload_n 0, 1) := by decide +kernel
theorem dX3_areListAndChainAlike_25 : decode cX3_areListAndChainAlike 25 = .ok (.getfield 21, 3) := by decide +kernel
theorem dX3_areListAndChainAlike_28 : decode cX3_areListAndChainAlike 28 = .ok (.getfield 89, 3) := by decide +kernel
theorem dX3_areListAndChainAlike_31 : decode cX3_areListAndChainAlike 31 = .ok (.if_icmp .eq 5, 3) := by decide +kernel
theorem dX3_areListAndChainAlike_34 : decode cX3_areListAndChainAlike 34 = .ok (.iconst 0, 1) := by decide +kernel
theorem dX3_areListAndChainAlike_35 : decode cX3_areListAndChainAlike 35 = .ok (.ireturn, 1) := by decide +kernel
theorem dX3_areListAndChainAlike_36 : decode cX3_areListAndChainAlike 36 = .ok (.iconst 0, 1) := by decide +kernel
theorem dX3_areListAndChainAlike_37 : decode cX3_areListAndChainAlike 37 = .ok (.istore_n 1, 1) := by decide +kernel
theorem dX3_areListAndChainAlike_38 : decode cX3_areListAndChainAlike 38 = .ok (.iload_n 1, 1) := by decide +kernel
theorem dX3_areListAndChainAlike_39 : decode cX3_areListAndChainAlike 39 = .ok (.aload_n 0, 1) := by decide +kernel
theorem dX3_areListAndChainAlike_40 : decode cX3_areListAndChainAlike 40 = .ok (.getfield 12, 3) := by decide +kernel
theorem dX3_areListAndChainAlike_43 : decode cX3_areListAndChainAlike 43 = .ok (.invokevirtual 82, 3) := by decide +kernel
theorem dX3_areListAndChainAlike_46 : decode cX3_areListAndChainAlike 46 = .ok (.if_icmp .ge 30, 3) := by decide +kernel
theorem dX3_areListAndChainAlike_49 : decode cX3_areListAndChainAlike 49 = .ok (.aload_n 0, 1) := by decide +kernel
theorem dX3_areListAndChainAlike_50 : decode cX3_areListAndChainAlike 50 = .ok (.getfield 12, 3) := by decide +kernel
theorem dX3_areListAndChainAlike_53 : decode cX3_areListAndChainAlike 53 = .ok (.iload_n 1, 1) := by decide +kernel
theorem dX3_areListAndChainAlike_54 : decode cX3_areListAndChainAlike 54 = .ok (.invokevirtual 90, 3) := by decide +kernel
theorem dX3_areListAndChainAlike_57 : decode cX3_areListAndChainAlike 57 = .ok (.aload_n 0, 1) := by decide +kernel
theorem dX3_areListAndChainAlike_58 : decode cX3_areListAndChainAlike 58 = .ok (.getfield 21, 3) := by decide +kernel
theorem dX3_areListAndChainAlike_61 : decode cX3_areListAndChainAlike 61 = .ok (.iload_n 1, 1) := by decide +kernel
theorem dX3_areListAndChainAlike_62 : decode cX3_areListAndChainAlike 62 = .ok (.invokevirtual 91, 3) := by decide +kernel
theorem dX3_areListAndChainAlike_65 : decode cX3_areListAndChainAlike 65 = .ok (.if_icmp .eq 5, 3) := by decide +kernel
theorem dX3_areListAndChainAlike_68 : decode cX3_areListAndChainAlike 68 = .ok (.iconst 0, 1) := by decide +kernel
theorem dX3_areListAndChainAlike_69 : decode cX3_areListAndChainAlike 69 = .ok (.ireturn, 1) := by decide +kernel
theorem dX3_areListAndChainAlike_70 : decode cX3_areListAndChainAlike 70 = .ok (.iinc 1 1, 3) := by decide +kernel
theorem dX3_areListAndChainAlike_73 : decode cX3_areListAndChainAlike 73 = .ok (.goto (-35), 3) := by decide +kernel
theorem dX3_areListAndChainAlike_76 : decode cX3_areListAndChainAlike 76 = .ok (.iconst 1, 1) := by decide +kernel
theorem dX3_areListAndChainAlike_77 : decode cX3_areListAndChainAlike 77 = .ok (.ireturn, 1) := by decide +kernel
theorem dX3_common_0 : decode cX3_common 0 = .ok (.iload_n 1, 1) := by decide +kernel
theorem dX3_common_1 : decode cX3_common 1 = .ok (.iload_n 2, 1) := by decide +kernel
theorem dX3_common_2 : decode cX3_common 2 = .ok (.if_icmp .ne 8, 3) := by decide +kernel
theorem dX3_common_5 : decode cX3_common 5 = .ok (.iload_n 2, 1) := by decide +kernel
theorem dX3_common_6 : decode cX3_common 6 = .ok (.iload_n 3, 1) := by decide +kernel
theorem dX3_common_7 : decode cX3_common 7 = .ok (.if_icmp .eq 13, 3) := by decide +kernel
theorem dX3_common_10 : decode cX3_common 10 = .ok (.aload_n 0, 1) := by decide +kernel
theorem dX3_common_11 : decode cX3_common 11 = .ok (.dup, 1) := by decide +kernel
theorem dX3_common_12 : decode cX3_common 12 = .ok (.getfield 92, 3) := by decide +kernel
theorem dX3_common_15 : decode cX3_common 15 = .ok (.iconst 1, 1) := by decide +kernel
theorem dX3_common_16 : decode cX3_common 16 = .ok (.iadd, 1) := by decide +kernel
theorem dX3_common_17 : decode cX3_common 17 = .ok (.putfield 92, 3) := by decide +kernel
theorem dX3_common_20 : decode cX3_common 20 = .ok (.iload_n 3, 1) := by decide +kernel
theorem dX3_common_21 : decode cX3_common 21 = .ok (.ireturn, 1) := by decide +kernel
theorem dX4_init_0 : decode cX4_init 0 = .ok (.aload_n 0, 1) := by decide +kernel
theorem dX4_init_1 : decode cX4_init 1 = .ok (.invokespecial 3, 3) := by decide +kernel
theorem dX4_init_4 : decode cX4_init 4 = .ok (.aload_n 0, 1) := by decide +kernel
theorem dX4_init_5 : decode cX4_init 5 = .ok (.new 9, 3) := by decide +kernel
theorem dX4_init_8 : decode cX4_init 8 = .ok (.dup, 1) := by decide +kernel
theorem dX4_init_9 : decode cX4_init 9 = .ok (.invokespecial 11, 3) := by decide +kernel
theorem dX4_init_12 : decode cX4_init 12 = .ok (.putfield 12, 3) := by decide +kernel
theorem dX4_init_15 : decode cX4_init 15 = .ok (.return_, 1) := by decide +kernel
theorem dX4_pass_0 : decode cX4_pass 0 = .ok (.iload_n 1, 1) := by decide +kernel
theorem dX4_pass_1 : decode cX4_pass 1 = .ok (.ifCond .eq 12, 3) := by decide +kernel
theorem dX4_pass_4 : decode cX4_pass 4 = .ok (.aload_n 0, 1) := by decide +kernel
theorem dX4_pass_5 : decode cX4_pass 5 = .ok (.getfield 18, 3) := by decide +kernel
theorem dX4_pass_8 : decode cX4_pass 8 = .ok (.iconst 1, 1) := by decide +kernel
theorem dX4_pass_9 : decode cX4_pass 9 = .ok (.isub, 1) := by decide +kernel
theorem dX4_pass_10 : decode cX4_pass 10 = .ok (.goto 7, 3) := by decide +kernel
theorem dX4_pass_13 : decode cX4_pass 13 = .ok (.aload_n 0, 1) := by decide +kernel
theorem dX4_pass_14 : decode cX4_pass 14 = .ok (.getfield 18, 3) := by decide +kernel
theorem dX4_pass_17 : decode cX4_pass 17 = .ok (.istore_n 2, 1) := by decide +kernel
theorem dX4_pass_18 : decode cX4_pass 18 = .ok (.iload_n 2, 1) := by decide +kernel
theorem dX4_pass_19 : decode cX4_pass 19 = .ok (.ifCond .lt 14, 3) := by decide +kernel
theorem dX4_pass_22 : decode cX4_pass 22 = .ok (.iload_n 2, 1) := by decide +kernel
theorem dX4_pass_23 : decode cX4_pass 23 = .ok (.aload_n 0, 1) := by decide +kernel
theorem dX4_pass_24 : decode cX4_pass 24 = .ok (.getfield 12, 3) := by decide +kernel
theorem dX4_pass_27 : decode cX4_pass 27 = .ok (.invokevirtual 22, 3) := by decide +kernel
theorem dX4_pass_30 : decode cX4_pass 30 = .ok (.if_icmp .lt 6, 3) := by decide +kernel
theorem dX4_pass_33 : decode cX4_pass 33 = .ok (.bipush (-2), 2) := by decide +kernel
theorem dX4_pass_35 : decode cX4_pass 35 = .ok (.ireturn, 1) := by decide +kernel
theorem dX4_pass_36 : decode cX4_pass 36 = .ok (.aload_n 0, 1) := by decide +kernel
theorem dX4_pass_37 : decode cX4_pass 37 = .ok (.dup, 1) := by decide +kernel
theorem dX4_pass_38 : decode cX4_pass 38 = .ok (.getfield 18, 3) := by decide +kernel
theorem dX4_pass_41 : decode cX4_pass 41 = .ok (.iload_n 1, 1) := by decide +kernel
theorem dX4_pass_42 : decode cX4_pass 42 = .ok (.ifCond .eq 7, 3) := by decide +kernel
theorem dX4_pass_45 : decode cX4_pass 45 = .ok (.iconst (-1), 1) := by decide +kernel
theorem dX4_pass_46 : decode cX4_pass 46 = .ok (.goto 4, 3) := by decide +kernel
theorem dX4_pass_49 : decode cX4_pass 49 = .ok (.iconst 1, 1) := by decide +kernel
theorem dX4_pass_50 : decode cX4_pass 50 = .ok (.iadd, 1) := by decide +kernel
theorem dX4_pass_51 : decode cX4_pass 51 = .ok (.putfield 18, 3) := by decide +kernel
theorem dX4_pass_54 : decode cX4_pass 54 = .ok (.aload_n 0, 1) := by decide +kernel
theorem dX4_pass_55 : decode cX4_pass 55 = .ok (.getfield 12, 3) := by decide +kernel
theorem dX4_pass_58 : decode cX4_pass 58 = .ok (.iload_n 2, 1) := by decide +kernel
theorem dX4_pass_59 : decode cX4_pass 59 = .ok (.invokevirtual 26, 3) := by decide +kernel
theorem dX4_pass_62 : decode cX4_pass 62 = .ok (.checkcast 30, 3) := by decide +kernel
theorem dX4_pass_65 : decode cX4_pass 65 = .ok (.invokevirtual 32, 3) := by decide +kernel
theorem dX4_pass_68 : decode cX4_pass 68 = .ok (.ireturn, 1) := by decide +kernel
theorem dX4_insert_0 : decode cX4_insert 0 = .ok (.aload_n 0, 1) := by decide +kernel
theorem dX4_insert_1 : decode cX4_insert 1 = .ok (.getfield 12, 3) := by decide +kernel
theorem dX4_insert_4 : decode cX4_insert 4 = .ok (.invokevirtual 22, 3) := by decide +kernel
theorem dX4_insert_7 : decode cX4_insert 7 = .ok (.bipush 100, 2) := by decide +kernel
theorem dX4_insert_9 : decode cX4_insert 9 = .ok (.if_icmp .ge 24, 3) := by decide +kernel
theorem dX4_insert_12 : decode cX4_insert 12 = .ok (.aload_n 0, 1) := by decide +kernel
theorem dX4_insert_13 : decode cX4_insert 13 = .ok (.getfield 18, 3) := by decide +kernel
theorem dX4_insert_16 : decode cX4_insert 16 = .ok (.ifCond .lt 17, 3) := by decide +kernel
theorem dX4_insert_19 : decode cX4_insert 19 = .ok (.aload_n 0, 1) := by decide +kernel
theorem dX4_insert_20 : decode cX4_insert 20 = .ok (.getfield 18, 3) := by decide +kernel
theorem dX4_insert_23 : decode cX4_insert 23 = .ok (.aload_n 0, 1) := by decide +kernel
theorem dX4_insert_24 : decode cX4_insert 24 = .ok (.getfield 12, 3) := by decide +kernel
theorem dX4_insert_27 : decode cX4_insert 27 = .ok (.invokevirtual 22, 3) := by decide +kernel
theorem dX4_insert_30 : decode cX4_insert 30 = .ok (.if_icmp .le 6, 3) := by decide +kernel
theorem dX4_insert_33 : decode cX4_insert 33 = .ok (.bipush (-5), 2) := by decide +kernel
theorem dX4_insert_35 : decode cX4_insert 35 = .ok (.ireturn, 1) := by decide +kernel
theorem dX4_insert_36 : decode cX4_insert 36 = .ok (.aload_n 0, 1) := by decide +kernel
theorem dX4_insert_37 : decode cX4_insert 37 = .ok (.getfield 12, 3) := by decide +kernel
theorem dX4_insert_40 : decode cX4_insert 40 = .ok (.aload_n 0, 1) := by decide +kernel
theorem dX4_insert_41 : decode cX4_insert 41 = .ok (.getfield 18, 3) := by decide +kernel
theorem dX4_insert_44 : decode cX4_insert 44 = .ok (.iload_n 1, 1) := by decide +kernel
theorem dX4_insert_45 : decode cX4_insert 45 = .ok (.invokestatic 35, 3) := by decide +kernel
theorem dX4_insert_48 : decode cX4_insert 48 = .ok (.invokevirtual 39, 3) := by decide +kernel
theorem dX4_insert_51 : decode cX4_insert 51 = .ok (.aload_n 0, 1) := by decide +kernel
theorem dX4_insert_52 : decode cX4_insert 52 = .ok (.dup, 1) := by decide +kernel
theorem dX4_insert_53 : decode cX4_insert 53 = .ok (.getfield 18, 3) := by decide +kernel
theorem dX4_insert_56 : decode cX4_insert 56 = .ok (.iconst 1, 1) := by decide +kernel
theorem dX4_insert_57 : decode cX4_insert 57 = .ok (.iadd, 1) := by decide +kernel
theorem dX4_insert_58 : decode cX4_insert 58 = .ok (.putfield 18, 3) := by decide +kernel
theorem dX4_insert_61 : decode cX4_insert 61 = .ok (.aload_n 0, 1) := by decide +kernel
theorem dX4_insert_62 : decode cX4_insert 62 = .ok (.getfield 12, 3) := by decide +kernel
theorem dX4_insert_65 : decode cX4_insert 65 = .ok (.invokevirtual 22, 3) := by decide +kernel
theorem dX4_insert_68 : decode cX4_insert 68 = .ok (.ireturn, 1) := by decide +kernel
theorem dX4_exchange_0 : decode cX4_exchange 0 = .ok (.iload_n 2, 1) := by decide +kernel
theorem dX4_exchange_1 : decode cX4_exchange 1 = .ok (.ifCond .eq 12, 3) := by decide +kernel
theorem dX4_exchange_4 : decode cX4_exchange 4 = .ok (.aload_n 0, 1) := by decide +kernel
theorem dX4_exchange_5 : decode cX4_exchange 5 = .ok (.getfield 18, 3) := by decide +kernel
theorem dX4_exchange_8 : decode cX4_exchange 8 = .ok (.iconst 1, 1) := by decide +kernel
theorem dX4_exchange_9 : decode cX4_exchange 9 = .ok (.isub, 1) := by decide +kernel
theorem dX4_exchange_10 : decode cX4_exchange 10 = .ok (.goto 7, 3) := by decide +kernel
theorem dX4_exchange_13 : decode cX4_exchange 13 = .ok (.aload_n 0, 1) := by decide +kernel
theorem dX4_exchange_14 : decode cX4_exchange 14 = .ok (.getfield 18, 3) := by decide +kernel
theorem dX4_exchange_17 : decode cX4_exchange 17 = .ok (.istore_n 3, 1) := by decide +kernel
theorem dX4_exchange_18 : decode cX4_exchange 18 = .ok (.iload_n 3, 1) := by decide +kernel
theorem dX4_exchange_19 : decode cX4_exchange 19 = .ok (.ifCond .lt 14, 3) := by decide +kernel
theorem dX4_exchange_22 : decode cX4_exchange 22 = .ok (.iload_n 3, 1) := by decide +kernel
theorem dX4_exchange_23 : decode cX4_exchange 23 = .ok (.aload_n 0, 1) := by decide +kernel
theorem dX4_exchange_24 : decode cX4_exchange 24 = .ok (.getfield 12, 3) := by decide +kernel
theorem dX4_exchange_27 : decode cX4_exchange 27 = .ok (.invokevirtual 22, 3) := by decide +kernel
theorem dX4_exchange_30 : decode cX4_exchange 30 = .ok (.if_icmp .lt 6, 3) := by decide +kernel
theorem dX4_exchange_33 : decode cX4_exchange 33 = .ok (.bipush (-3), 2) := by decide +kernel
theorem dX4_exchange_35 : decode cX4_exchange 35 = .ok (.ireturn, 1) := by decide +kernel
theorem dX4_exchange_36 : decode cX4_exchange 36 = .ok (.aload_n 0, 1) := by decide +kernel
theorem dX4_exchange_37 : decode cX4_exchange 37 = .ok (.getfield 12, 3) := by decide +kernel
theorem dX4_exchange_40 : decode cX4_exchange 40 = .ok (.iload_n 3, 1) := by decide +kernel
theorem dX4_exchange_41 : decode cX4_exchange 41 = .ok (.iload_n 1, 1) := by decide +kernel
theorem dX4_exchange_42 : decode cX4_exchange 42 = .ok (.invokestatic 35, 3) := by decide +kernel
theorem dX4_exchange_45 : decode cX4_exchange 45 = .ok (.invokevirtual 43, 3) := by decide +kernel
theorem dX4_exchange_48 : decode cX4_exchange 48 = .ok (.checkcast 30, 3) := by decide +kernel
theorem dX4_exchange_51 : decode cX4_exchange 51 = .ok (.invokevirtual 32, 3) := by decide +kernel
theorem dX4_exchange_54 : decode cX4_exchange 54 = .ok (.ireturn, 1) := by decide +kernel
theorem dX4_drop_0 : decode cX4_drop 0 = .ok (.iload_n 1, 1) := by decide +kernel
theorem dX4_drop_1 : decode cX4_drop 1 = .ok (.ifCond .eq 12, 3) := by decide +kernel
theorem dX4_drop_4 : decode cX4_drop 4 = .ok (.aload_n 0, 1) := by decide +kernel
theorem dX4_drop_5 : decode cX4_drop 5 = .ok (.getfield 18, 3) := by decide +kernel
theorem dX4_drop_8 : decode cX4_drop 8 = .ok (.iconst 1, 1) := by decide +kernel
theorem dX4_drop_9 : decode cX4_drop 9 = .ok (.isub, 1) := by decide +kernel
theorem dX4_drop_10 : decode cX4_drop 10 = .ok (.goto 7, 3) := by decide +kernel
theorem dX4_drop_13 : decode cX4_drop 13 = .ok (.aload_n 0, 1) := by decide +kernel
theorem dX4_drop_14 : decode cX4_drop 14 = .ok (.getfield 18, 3) := by decide +kernel
theorem dX4_drop_17 : decode cX4_drop 17 = .ok (.istore_n 2, 1) := by decide +kernel
theorem dX4_drop_18 : decode cX4_drop 18 = .ok (.iload_n 2, 1) := by decide +kernel
theorem dX4_drop_19 : decode cX4_drop 19 = .ok (.ifCond .lt 14, 3) := by decide +kernel
theorem dX4_drop_22 : decode cX4_drop 22 = .ok (.iload_n 2, 1) := by decide +kernel
theorem dX4_drop_23 : decode cX4_drop 23 = .ok (.aload_n 0, 1) := by decide +kernel
theorem dX4_drop_24 : decode cX4_drop 24 = .ok (.getfield 12, 3) := by decide +kernel
theorem dX4_drop_27 : decode cX4_drop 27 = .ok (.invokevirtual 22, 3) := by decide +kernel
theorem dX4_drop_30 : decode cX4_drop 30 = .ok (.if_icmp .lt 6, 3) := by decide +kernel
theorem dX4_drop_33 : decode cX4_drop 33 = .ok (.bipush (-3), 2) := by decide +kernel
theorem dX4_drop_35 : decode cX4_drop 35 = .ok (.ireturn, 1) := by decide +kernel
theorem dX4_drop_36 : decode cX4_drop 36 = .ok (.aload_n 0, 1) := by decide +kernel
theorem dX4_drop_37 : decode cX4_drop 37 = .ok (.dup, 1) := by decide +kernel
theorem dX4_drop_38 : decode cX4_drop 38 = .ok (.getfield 18, 3) := by decide +kernel
theorem dX4_drop_41 : decode cX4_drop 41 = .ok (.iload_n 1, 1) := by decide +kernel
theorem dX4_drop_42 : decode cX4_drop 42 = .ok (.ifCond .eq 7, 3) := by decide +kernel
theorem dX4_drop_45 : decode cX4_drop 45 = .ok (.iconst 1, 1) := by decide +kernel
theorem dX4_drop_46 : decode cX4_drop 46 = .ok (.goto 4, 3) := by decide +kernel
theorem dX4_drop_49 : decode cX4_drop 49 = .ok (.iconst 0, 1) := by decide +kernel
theorem dX4_drop_50 : decode cX4_drop 50 = .ok (.isub, 1) := by decide +kernel
theorem dX4_drop_51 : decode cX4_drop 51 = .ok (.putfield 18, 3) := by decide +kernel
theorem dX4_drop_54 : decode cX4_drop 54 = .ok (.aload_n 0, 1) := by decide +kernel
theorem dX4_drop_55 : decode cX4_drop 55 = .ok (.getfield 12, 3) := by decide +kernel
theorem dX4_drop_58 : decode cX4_drop 58 = .ok (.iload_n 2, 1) := by decide +kernel
theorem dX4_drop_59 : decode cX4_drop 59 = .ok (.invokevirtual 47, 3) := by decide +kernel
theorem dX4_drop_62 : decode cX4_drop 62 = .ok (.checkcast 30, 3) := by decide +kernel
theorem dX4_drop_65 : decode cX4_drop 65 = .ok (.invokevirtual 32, 3) := by decide +kernel
theorem dX4_drop_68 : decode cX4_drop 68 = .ok (.ireturn, 1) := by decide +kernel
theorem dX4_cross_0 : decode cX4_cross 0 = .ok (.aload_n 0, 1) := by decide +kernel
theorem dX4_cross_1 : decode cX4_cross 1 = .ok (.getfield 18, 3) := by decide +kernel
theorem dX4_cross_4 : decode cX4_cross 4 = .ok (.iconst 1, 1) := by decide +kernel
theorem dX4_cross_5 : decode cX4_cross 5 = .ok (.if_icmp .lt 17, 3) := by decide +kernel
theorem dX4_cross_8 : decode cX4_cross 8 = .ok (.aload_n 0, 1) := by decide +kernel
theorem dX4_cross_9 : decode cX4_cross 9 = .ok (.getfield 18, 3) := by decide +kernel
theorem dX4_cross_12 : decode cX4_cross 12 = .ok (.aload_n 0, 1) := by decide +kernel
theorem dX4_cross_13 : decode cX4_cross 13 = .ok (.getfield 12, 3) := by decide +kernel
theorem dX4_cross_16 : decode cX4_cross 16 = .ok (.invokevirtual 22, 3) := by decide +kernel
theorem dX4_cross_19 : decode cX4_cross 19 = .ok (.if_icmp .lt 6, 3) := by decide +kernel
theorem dX4_cross_22 : decode cX4_cross 22 = .ok (.bipush (-2), 2) := by decide +kernel
theorem dX4_cross_24 : decode cX4_cross 24 = .ok (.ireturn, 1) := by decide +kernel
theorem dX4_cross_25 : decode cX4_cross 25 = .ok (.aload_n 0, 1) := by decide +kernel
theorem dX4_cross_26 : decode cX4_cross 26 = .ok (.getfield 12, 3) := by decide +kernel
theorem dX4_cross_29 : decode cX4_cross 29 = .ok (.aload_n 0, 1) := by decide +kernel
theorem dX4_cross_30 : decode cX4_cross 30 = .ok (.getfield 18, 3) := by decide +kernel
theorem dX4_cross_33 : decode cX4_cross 33 = .ok (.iconst 1, 1) := by decide +kernel
theorem dX4_cross_34 : decode cX4_cross 34 = .ok (.isub, 1) := by decide +kernel
theorem dX4_cross_35 : decode cX4_cross 35 = .ok (.aload_n 0, 1) := by decide +kernel
theorem dX4_cross_36 : decode cX4_cross 36 = .ok (.getfield 12, 3) := by decide +kernel
theorem dX4_cross_39 : decode cX4_cross 39 = .ok (.aload_n 0, 1) := by decide +kernel
theorem dX4_cross_40 : decode cX4_cross 40 = .ok (.getfield 18, 3) := by decide +kernel
theorem dX4_cross_43 : decode cX4_cross 43 = .ok (.invokevirtual 47, 3) := by decide +kernel
theorem dX4_cross_46 : decode cX4_cross 46 = .ok (.checkcast 30, 3) := by decide +kernel
theorem dX4_cross_49 : decode cX4_cross 49 = .ok (.invokevirtual 39, 3) := by decide +kernel
theorem dX4_cross_52 : decode cX4_cross 52 = .ok (.aload_n 0, 1) := by decide +kernel
theorem dX4_cross_53 : decode cX4_cross 53 = .ok (.getfield 12, 3) := by decide +kernel
theorem dX4_cross_56 : decode cX4_cross 56 = .ok (.aload_n 0, 1) := by decide +kernel
theorem dX4_cross_57 : decode cX4_cross 57 = .ok (.getfield 18, 3) := by decide +kernel
theorem dX4_cross_60 : decode cX4_cross 60 = .ok (.iconst 1, 1) := by decide +kernel
theorem dX4_cross_61 : decode cX4_cross 61 = .ok (.isub, 1) := by decide +kernel
theorem dX4_cross_62 : decode cX4_cross 62 = .ok (.invokevirtual 26, 3) := by decide +kernel
theorem dX4_cross_65 : decode cX4_cross 65 = .ok (.checkcast 30, 3) := by decide +kernel
theorem dX4_cross_68 : decode cX4_cross 68 = .ok (.invokevirtual 32, 3) := by decide +kernel
theorem dX4_cross_71 : decode cX4_cross 71 = .ok (.ireturn, 1) := by decide +kernel
theorem dX4_empty_0 : decode cX4_empty 0 = .ok (.aload_n 0, 1) := by decide +kernel
theorem dX4_empty_1 : decode cX4_empty 1 = .ok (.getfield 12, 3) := by decide +kernel
theorem dX4_empty_4 : decode cX4_empty 4 = .ok (.invokevirtual 50, 3) := by decide +kernel
theorem dX4_empty_7 : decode cX4_empty 7 = .ok (.aload_n 0, 1) := by decide +kernel
theorem dX4_empty_8 : decode cX4_empty 8 = .ok (.iconst 0, 1) := by decide +kernel
theorem dX4_empty_9 : decode cX4_empty 9 = .ok (.putfield 18, 3) := by decide +kernel
theorem dX4_empty_12 : decode cX4_empty 12 = .ok (.return_, 1) := by decide +kernel
theorem dX4_length_0 : decode cX4_length 0 = .ok (.aload_n 0, 1) := by decide +kernel
theorem dX4_length_1 : decode cX4_length 1 = .ok (.getfield 12, 3) := by decide +kernel
theorem dX4_length_4 : decode cX4_length 4 = .ok (.invokevirtual 22, 3) := by decide +kernel
theorem dX4_length_7 : decode cX4_length 7 = .ok (.ireturn, 1) := by decide +kernel
theorem dX4_wordOf_0 : decode cX4_wordOf 0 = .ok (.iload_n 1, 1) := by decide +kernel
theorem dX4_wordOf_1 : decode cX4_wordOf 1 = .ok (.ifCond .lt 31, 3) := by decide +kernel
theorem dX4_wordOf_4 : decode cX4_wordOf 4 = .ok (.iload_n 1, 1) := by decide +kernel
theorem dX4_wordOf_5 : decode cX4_wordOf 5 = .ok (.aload_n 0, 1) := by decide +kernel
theorem dX4_wordOf_6 : decode cX4_wordOf 6 = .ok (.getfield 12, 3) := by decide +kernel
theorem dX4_wordOf_9 : decode cX4_wordOf 9 = .ok (.invokevirtual 22, 3) := by decide +kernel
theorem dX4_wordOf_12 : decode cX4_wordOf 12 = .ok (.if_icmp .ge 20, 3) := by decide +kernel
theorem dX4_wordOf_15 : decode cX4_wordOf 15 = .ok (.aload_n 0, 1) := by decide +kernel
theorem dX4_wordOf_16 : decode cX4_wordOf 16 = .ok (.getfield 12, 3) := by decide +kernel
theorem dX4_wordOf_19 : decode cX4_wordOf 19 = .ok (.iload_n 1, 1) := by decide +kernel
theorem dX4_wordOf_20 : decode cX4_wordOf 20 = .ok (.invokevirtual 26, 3) := by decide +kernel
theorem dX4_wordOf_23 : decode cX4_wordOf 23 = .ok (.checkcast 30, 3) := by decide +kernel
theorem dX4_wordOf_26 : decode cX4_wordOf 26 = .ok (.invokevirtual 32, 3) := by decide +kernel
theorem dX4_wordOf_29 : decode cX4_wordOf 29 = .ok (.goto 4, 3) := by decide +kernel
theorem dX4_wordOf_32 : decode cX4_wordOf 32 = .ok (.iconst (-1), 1) := by decide +kernel
theorem dX4_wordOf_33 : decode cX4_wordOf 33 = .ok (.ireturn, 1) := by decide +kernel
theorem dX5_init_0 : decode cX5_init 0 = .ok (.aload_n 0, 1) := by decide +kernel
theorem dX5_init_1 : decode cX5_init 1 = .ok (.invokespecial 1, 3) := by decide +kernel
theorem dX5_init_4 : decode cX5_init 4 = .ok (.return_, 1) := by decide +kernel
theorem dX6_init_0 : decode cX6_init 0 = .ok (.aload_n 0, 1) := by decide +kernel
theorem dX6_init_1 : decode cX6_init 1 = .ok (.invokespecial 3, 3) := by decide +kernel
theorem dX6_init_4 : decode cX6_init 4 = .ok (.aload_n 0, 1) := by decide +kernel
theorem dX6_init_5 : decode cX6_init 5 = .ok (.iconst 2, 1) := by decide +kernel
theorem dX6_init_6 : decode cX6_init 6 = .ok (.bipush 100, 2) := by decide +kernel
theorem dX6_init_8 : decode cX6_init 8 = .ok (.multianewarray 9 2, 4) := by decide +kernel
theorem dX6_init_12 : decode cX6_init 12 = .ok (.putfield 11, 3) := by decide +kernel
theorem dX6_init_15 : decode cX6_init 15 = .ok (.aload_n 0, 1) := by decide +kernel
theorem dX6_init_16 : decode cX6_init 16 = .ok (.iconst 2, 1) := by decide +kernel
theorem dX6_init_17 : decode cX6_init 17 = .ok (.newarray .int, 2) := by decide +kernel
theorem dX6_init_19 : decode cX6_init 19 = .ok (.putfield 16, 3) := by decide +kernel
theorem dX6_init_22 : decode cX6_init 22 = .ok (.return_, 1) := by decide +kernel
theorem dX6_pass_0 : decode cX6_pass 0 = .ok (.iload_n 1, 1) := by decide +kernel
theorem dX6_pass_1 : decode cX6_pass 1 = .ok (.ifCond .eq 7, 3) := by decide +kernel
theorem dX6_pass_4 : decode cX6_pass 4 = .ok (.iconst 0, 1) := by decide +kernel
theorem dX6_pass_5 : decode cX6_pass 5 = .ok (.goto 4, 3) := by decide +kernel
theorem dX6_pass_8 : decode cX6_pass 8 = .ok (.iconst 1, 1) := by decide +kernel
theorem dX6_pass_9 : decode cX6_pass 9 = .ok (.istore_n 2, 1) := by decide +kernel
theorem dX6_pass_10 : decode cX6_pass 10 = .ok (.iload_n 1, 1) := by decide +kernel
theorem dX6_pass_11 : decode cX6_pass 11 = .ok (.ifCond .eq 7, 3) := by decide +kernel
theorem dX6_pass_14 : decode cX6_pass 14 = .ok (.iconst 1, 1) := by decide +kernel
theorem dX6_pass_15 : decode cX6_pass 15 = .ok (.goto 4, 3) := by decide +kernel
theorem dX6_pass_18 : decode cX6_pass 18 = .ok (.iconst 0, 1) := by decide +kernel
theorem dX6_pass_19 : decode cX6_pass 19 = .ok (.istore_n 3, 1) := by decide +kernel
theorem dX6_pass_20 : decode cX6_pass 20 = .ok (.aload_n 0, 1) := by decide +kernel
theorem dX6_pass_21 : decode cX6_pass 21 = .ok (.getfield 16, 3) := by decide +kernel
theorem dX6_pass_24 : decode cX6_pass 24 = .ok (.iload_n 2, 1) := by decide +kernel
theorem dX6_pass_25 : decode cX6_pass 25 = .ok (.iaload, 1) := by decide +kernel
theorem dX6_pass_26 : decode cX6_pass 26 = .ok (.iconst 1, 1) := by decide +kernel
theorem dX6_pass_27 : decode cX6_pass 27 = .ok (.if_icmp .lt 14, 3) := by decide +kernel
theorem dX6_pass_30 : decode cX6_pass 30 = .ok (.aload_n 0, 1) := by decide +kernel
theorem dX6_pass_31 : decode cX6_pass 31 = .ok (.getfield 16, 3) := by decide +kernel
theorem dX6_pass_34 : decode cX6_pass 34 = .ok (.iload_n 3, 1) := by decide +kernel
theorem dX6_pass_35 : decode cX6_pass 35 = .ok (.iaload, 1) := by decide +kernel
theorem dX6_pass_36 : decode cX6_pass 36 = .ok (.bipush 100, 2) := by decide +kernel
theorem dX6_pass_38 : decode cX6_pass 38 = .ok (.if_icmp .lt 6, 3) := by decide +kernel
theorem dX6_pass_41 : decode cX6_pass 41 = .ok (.bipush (-2), 2) := by decide +kernel
theorem dX6_pass_43 : decode cX6_pass 43 = .ok (.ireturn, 1) := by decide +kernel
theorem dX6_pass_44 : decode cX6_pass 44 = .ok (.aload_n 0, 1) := by decide +kernel
theorem dX6_pass_45 : decode cX6_pass 45 = .ok (.getfield 16, 3) := by decide +kernel
theorem dX6_pass_48 : decode cX6_pass 48 = .ok (.iload_n 2, 1) := by decide +kernel
theorem dX6_pass_49 : decode cX6_pass 49 = .ok (.dup2, 1) := by decide +kernel
theorem dX6_pass_50 : decode cX6_pass 50 = .ok (.iaload, 1) := by decide +kernel
theorem dX6_pass_51 : decode cX6_pass 51 = .ok (.iconst 1, 1) := by decide +kernel
theorem dX6_pass_52 : decode cX6_pass 52 = .ok (.isub, 1) := by decide +kernel
theorem dX6_pass_53 : decode cX6_pass 53 = .ok (.iastore, 1) := by decide +kernel
theorem dX6_pass_54 : decode cX6_pass 54 = .ok (.aload_n 0, 1) := by decide +kernel
theorem dX6_pass_55 : decode cX6_pass 55 = .ok (.getfield 11, 3) := by decide +kernel
theorem dX6_pass_58 : decode cX6_pass 58 = .ok (.iload_n 2, 1) := by decide +kernel
theorem dX6_pass_59 : decode cX6_pass 59 = .ok (.aaload, 1) := by decide +kernel
theorem dX6_pass_60 : decode cX6_pass 60 = .ok (.aload_n 0, 1) := by decide +kernel
theorem dX6_pass_61 : decode cX6_pass 61 = .ok (.getfield 16, 3) := by decide +kernel
theorem dX6_pass_64 : decode cX6_pass 64 = .ok (.iload_n 2, 1) := by decide +kernel
theorem dX6_pass_65 : decode cX6_pass 65 = .ok (.iaload, 1) := by decide +kernel
theorem dX6_pass_66 : decode cX6_pass 66 = .ok (.iaload, 1) := by decide +kernel
theorem dX6_pass_67 : decode cX6_pass 67 = .ok (.istore 4, 2) := by decide +kernel
theorem dX6_pass_69 : decode cX6_pass 69 = .ok (.aload_n 0, 1) := by decide +kernel
theorem dX6_pass_70 : decode cX6_pass 70 = .ok (.getfield 11, 3) := by decide +kernel
theorem dX6_pass_73 : decode cX6_pass 73 = .ok (.iload_n 3, 1) := by decide +kernel
theorem dX6_pass_74 : decode cX6_pass 74 = .ok (.aaload, 1) := by decide +kernel
theorem dX6_pass_75 : decode cX6_pass 75 = .ok (.aload_n 0, 1) := by decide +kernel
theorem dX6_pass_76 : decode cX6_pass 76 = .ok (.getfield 16, 3) := by decide +kernel
theorem dX6_pass_79 : decode cX6_pass 79 = .ok (.iload_n 3, 1) := by decide +kernel
theorem dX6_pass_80 : decode cX6_pass 80 = .ok (.iaload, 1) := by decide +kernel
theorem dX6_pass_81 : decode cX6_pass 81 = .ok (.iload 4, 2) := by decide +kernel
theorem dX6_pass_83 : decode cX6_pass 83 = .ok (.iastore, 1) := by decide +kernel
theorem dX6_pass_84 : decode cX6_pass 84 = .ok (.aload_n 0, 1) := by decide +kernel
theorem dX6_pass_85 : decode cX6_pass 85 = .ok (.getfield 16, 3) := by decide +kernel
theorem dX6_pass_88 : decode cX6_pass 88 = .ok (.iload_n 3, 1) := by decide +kernel
theorem dX6_pass_89 : decode cX6_pass 89 = .ok (.dup2, 1) := by decide +kernel
theorem dX6_pass_90 : decode cX6_pass 90 = .ok (.iaload, 1) := by decide +kernel
theorem dX6_pass_91 : decode cX6_pass 91 = .ok (.iconst 1, 1) := by decide +kernel
theorem dX6_pass_92 : decode cX6_pass 92 = .ok (.iadd, 1) := by decide +kernel
theorem dX6_pass_93 : decode cX6_pass 93 = .ok (.iastore, 1) := by decide +kernel
theorem dX6_pass_94 : decode cX6_pass 94 = .ok (.iload 4, 2) := by decide +kernel
theorem dX6_pass_96 : decode cX6_pass 96 = .ok (.ireturn, 1) := by decide +kernel
theorem dX6_insert_0 : decode cX6_insert 0 = .ok (.aload_n 0, 1) := by decide +kernel
theorem dX6_insert_1 : decode cX6_insert 1 = .ok (.invokevirtual 20, 3) := by decide +kernel
theorem dX6_insert_4 : decode cX6_insert 4 = .ok (.bipush 100, 2) := by decide +kernel
theorem dX6_insert_6 : decode cX6_insert 6 = .ok (.if_icmp .lt 6, 3) := by decide +kernel
theorem dX6_insert_9 : decode cX6_insert 9 = .ok (.bipush (-5), 2) := by decide +kernel
theorem dX6_insert_11 : decode cX6_insert 11 = .ok (.ireturn, 1) := by decide +kernel
theorem dX6_insert_12 : decode cX6_insert 12 = .ok (.aload_n 0, 1) := by decide +kernel
theorem dX6_insert_13 : decode cX6_insert 13 = .ok (.getfield 11, 3) := by decide +kernel
theorem dX6_insert_16 : decode cX6_insert 16 = .ok (.iconst 0, 1) := by decide +kernel
theorem dX6_insert_17 : decode cX6_insert 17 = .ok (.aaload, 1) := by decide +kernel
theorem dX6_insert_18 : decode cX6_insert 18 = .ok (.aload_n 0, 1) := by decide +kernel
theorem dX6_insert_19 : decode cX6_insert 19 = .ok (.getfield 16, 3) := by decide +kernel
theorem dX6_insert_22 : decode cX6_insert 22 = .ok (.iconst 0, 1) := by decide +kernel
theorem dX6_insert_23 : decode cX6_insert 23 = .ok (.iaload, 1) := by decide +kernel
theorem dX6_insert_24 : decode cX6_insert 24 = .ok (.iload_n 1, 1) := by decide +kernel
theorem dX6_insert_25 : decode cX6_insert 25 = .ok (.iastore, 1) := by decide +kernel
theorem dX6_insert_26 : decode cX6_insert 26 = .ok (.aload_n 0, 1) := by decide +kernel
theorem dX6_insert_27 : decode cX6_insert 27 = .ok (.getfield 16, 3) := by decide +kernel
theorem dX6_insert_30 : decode cX6_insert 30 = .ok (.iconst 0, 1) := by decide +kernel
theorem dX6_insert_31 : decode cX6_insert 31 = .ok (.dup2, 1) := by decide +kernel
theorem dX6_insert_32 : decode cX6_insert 32 = .ok (.iaload, 1) := by decide +kernel
theorem dX6_insert_33 : decode cX6_insert 33 = .ok (.iconst 1, 1) := by decide +kernel
theorem dX6_insert_34 : decode cX6_insert 34 = .ok (.iadd, 1) := by decide +kernel
theorem dX6_insert_35 : decode cX6_insert 35 = .ok (.iastore, 1) := by decide +kernel
theorem dX6_insert_36 : decode cX6_insert 36 = .ok (.aload_n 0, 1) := by decide +kernel
theorem dX6_insert_37 : decode cX6_insert 37 = .ok (.invokevirtual 20, 3) := by decide +kernel
theorem dX6_insert_40 : decode cX6_insert 40 = .ok (.ireturn, 1) := by decide +kernel
theorem dX6_exchange_0 : decode cX6_exchange 0 = .ok (.iload_n 2, 1) := by decide +kernel
theorem dX6_exchange_1 : decode cX6_exchange 1 = .ok (.ifCond .eq 7, 3) := by decide +kernel
theorem dX6_exchange_4 : decode cX6_exchange 4 = .ok (.iconst 0, 1) := by decide +kernel
theorem dX6_exchange_5 : decode cX6_exchange 5 = .ok (.goto 4, 3) := by decide +kernel
theorem dX6_exchange_8 : decode cX6_exchange 8 = .ok (.iconst 1, 1) := by decide +kernel
theorem dX6_exchange_9 : decode cX6_exchange 9 = .ok (.istore_n 3, 1) := by decide +kernel
theorem dX6_exchange_10 : decode cX6_exchange 10 = .ok (.aload_n 0, 1) := by decide +kernel
theorem dX6_exchange_11 : decode cX6_exchange 11 = .ok (.getfield 16, 3) := by decide +kernel
theorem dX6_exchange_14 : decode cX6_exchange 14 = .ok (.iload_n 3, 1) := by decide +kernel
theorem dX6_exchange_15 : decode cX6_exchange 15 = .ok (.iaload, 1) := by decide +kernel
theorem dX6_exchange_16 : decode cX6_exchange 16 = .ok (.iconst 1, 1) := by decide +kernel
theorem dX6_exchange_17 : decode cX6_exchange 17 = .ok (.if_icmp .ge 6, 3) := by decide +kernel
theorem dX6_exchange_20 : decode cX6_exchange 20 = .ok (.bipush (-3), 2) := by decide +kernel
theorem dX6_exchange_22 : decode cX6_exchange 22 = .ok (.ireturn, 1) := by decide +kernel
theorem dX6_exchange_23 : decode cX6_exchange 23 = .ok (.aload_n 0, 1) := by decide +kernel
theorem dX6_exchange_24 : decode cX6_exchange 24 = .ok (.getfield 11, 3) := by decide +kernel
theorem dX6_exchange_27 : decode cX6_exchange 27 = .ok (.iload_n 3, 1) := by decide +kernel
theorem dX6_exchange_28 : decode cX6_exchange 28 = .ok (.aaload, 1) := by decide +kernel
theorem dX6_exchange_29 : decode cX6_exchange 29 = .ok (.aload_n 0, 1) := by decide +kernel
theorem dX6_exchange_30 : decode cX6_exchange 30 = .ok (.getfield 16, 3) := by decide +kernel
theorem dX6_exchange_33 : decode cX6_exchange 33 = .ok (.iload_n 3, 1) := by decide +kernel
theorem dX6_exchange_34 : decode cX6_exchange 34 = .ok (.iaload, 1) := by decide +kernel
theorem dX6_exchange_35 : decode cX6_exchange 35 = .ok (.iconst 1, 1) := by decide +kernel
theorem dX6_exchange_36 : decode cX6_exchange 36 = .ok (.isub, 1) := by decide +kernel
theorem dX6_exchange_37 : decode cX6_exchange 37 = .ok (.iaload, 1) := by decide +kernel
theorem dX6_exchange_38 : decode cX6_exchange 38 = .ok (.istore 4, 2) := by decide +kernel
theorem dX6_exchange_40 : decode cX6_exchange 40 = .ok (.aload_n 0, 1) := by decide +kernel
theorem dX6_exchange_41 : decode cX6_exchange 41 = .ok (.getfield 11, 3) := by decide +kernel
theorem dX6_exchange_44 : decode cX6_exchange 44 = .ok (.iload_n 3, 1) := by decide +kernel
theorem dX6_exchange_45 : decode cX6_exchange 45 = .ok (.aaload, 1) := by decide +kernel
theorem dX6_exchange_46 : decode cX6_exchange 46 = .ok (.aload_n 0, 1) := by decide +kernel
theorem dX6_exchange_47 : decode cX6_exchange 47 = .ok (.getfield 16, 3) := by decide +kernel
theorem dX6_exchange_50 : decode cX6_exchange 50 = .ok (.iload_n 3, 1) := by decide +kernel
theorem dX6_exchange_51 : decode cX6_exchange 51 = .ok (.iaload, 1) := by decide +kernel
theorem dX6_exchange_52 : decode cX6_exchange 52 = .ok (.iconst 1, 1) := by decide +kernel
theorem dX6_exchange_53 : decode cX6_exchange 53 = .ok (.isub, 1) := by decide +kernel
theorem dX6_exchange_54 : decode cX6_exchange 54 = .ok (.iload_n 1, 1) := by decide +kernel
theorem dX6_exchange_55 : decode cX6_exchange 55 = .ok (.iastore, 1) := by decide +kernel
theorem dX6_exchange_56 : decode cX6_exchange 56 = .ok (.iload 4, 2) := by decide +kernel
theorem dX6_exchange_58 : decode cX6_exchange 58 = .ok (.ireturn, 1) := by decide +kernel
theorem dX6_drop_0 : decode cX6_drop 0 = .ok (.iload_n 1, 1) := by decide +kernel
theorem dX6_drop_1 : decode cX6_drop 1 = .ok (.ifCond .eq 7, 3) := by decide +kernel
theorem dX6_drop_4 : decode cX6_drop 4 = .ok (.iconst 0, 1) := by decide +kernel
theorem dX6_drop_5 : decode cX6_drop 5 = .ok (.goto 4, 3) := by decide +kernel
theorem dX6_drop_8 : decode cX6_drop 8 = .ok (.iconst 1, 1) := by decide +kernel
theorem dX6_drop_9 : decode cX6_drop 9 = .ok (.istore_n 2, 1) := by decide +kernel
theorem dX6_drop_10 : decode cX6_drop 10 = .ok (.aload_n 0, 1) := by decide +kernel
theorem dX6_drop_11 : decode cX6_drop 11 = .ok (.getfield 16, 3) := by decide +kernel
theorem dX6_drop_14 : decode cX6_drop 14 = .ok (.iload_n 2, 1) := by decide +kernel
theorem dX6_drop_15 : decode cX6_drop 15 = .ok (.iaload, 1) := by decide +kernel
theorem dX6_drop_16 : decode cX6_drop 16 = .ok (.iconst 1, 1) := by decide +kernel
theorem dX6_drop_17 : decode cX6_drop 17 = .ok (.if_icmp .ge 6, 3) := by decide +kernel
theorem dX6_drop_20 : decode cX6_drop 20 = .ok (.bipush (-3), 2) := by decide +kernel
theorem dX6_drop_22 : decode cX6_drop 22 = .ok (.ireturn, 1) := by decide +kernel
theorem dX6_drop_23 : decode cX6_drop 23 = .ok (.aload_n 0, 1) := by decide +kernel
theorem dX6_drop_24 : decode cX6_drop 24 = .ok (.getfield 16, 3) := by decide +kernel
theorem dX6_drop_27 : decode cX6_drop 27 = .ok (.iload_n 2, 1) := by decide +kernel
theorem dX6_drop_28 : decode cX6_drop 28 = .ok (.dup2, 1) := by decide +kernel
theorem dX6_drop_29 : decode cX6_drop 29 = .ok (.iaload, 1) := by decide +kernel
theorem dX6_drop_30 : decode cX6_drop 30 = .ok (.iconst 1, 1) := by decide +kernel
theorem dX6_drop_31 : decode cX6_drop 31 = .ok (.isub, 1) := by decide +kernel
theorem dX6_drop_32 : decode cX6_drop 32 = .ok (.iastore, 1) := by decide +kernel
theorem dX6_drop_33 : decode cX6_drop 33 = .ok (.aload_n 0, 1) := by decide +kernel
theorem dX6_drop_34 : decode cX6_drop 34 = .ok (.getfield 11, 3) := by decide +kernel
theorem dX6_drop_37 : decode cX6_drop 37 = .ok (.iload_n 2, 1) := by decide +kernel
theorem dX6_drop_38 : decode cX6_drop 38 = .ok (.aaload, 1) := by decide +kernel
theorem dX6_drop_39 : decode cX6_drop 39 = .ok (.aload_n 0, 1) := by decide +kernel
theorem dX6_drop_40 : decode cX6_drop 40 = .ok (.getfield 16, 3) := by decide +kernel
theorem dX6_drop_43 : decode cX6_drop 43 = .ok (.iload_n 2, 1) := by decide +kernel
theorem dX6_drop_44 : decode cX6_drop 44 = .ok (.iaload, 1) := by decide +kernel
theorem dX6_drop_45 : decode cX6_drop 45 = .ok (.iaload, 1) := by decide +kernel
theorem dX6_drop_46 : decode cX6_drop 46 = .ok (.ireturn, 1) := by decide +kernel
theorem dX6_cross_0 : decode cX6_cross 0 = .ok (.aload_n 0, 1) := by decide +kernel
theorem dX6_cross_1 : decode cX6_cross 1 = .ok (.getfield 16, 3) := by decide +kernel
theorem dX6_cross_4 : decode cX6_cross 4 = .ok (.iconst 0, 1) := by decide +kernel
theorem dX6_cross_5 : decode cX6_cross 5 = .ok (.iaload, 1) := by decide +kernel
theorem dX6_cross_6 : decode cX6_cross 6 = .ok (.iconst 1, 1) := by decide +kernel
theorem dX6_cross_7 : decode cX6_cross 7 = .ok (.isub, 1) := by decide +kernel
theorem dX6_cross_8 : decode cX6_cross 8 = .ok (.istore_n 1, 1) := by decide +kernel
theorem dX6_cross_9 : decode cX6_cross 9 = .ok (.aload_n 0, 1) := by decide +kernel
theorem dX6_cross_10 : decode cX6_cross 10 = .ok (.getfield 16, 3) := by decide +kernel
theorem dX6_cross_13 : decode cX6_cross 13 = .ok (.iconst 1, 1) := by decide +kernel
theorem dX6_cross_14 : decode cX6_cross 14 = .ok (.iaload, 1) := by decide +kernel
theorem dX6_cross_15 : decode cX6_cross 15 = .ok (.iconst 1, 1) := by decide +kernel
theorem dX6_cross_16 : decode cX6_cross 16 = .ok (.isub, 1) := by decide +kernel
theorem dX6_cross_17 : decode cX6_cross 17 = .ok (.istore_n 2, 1) := by decide +kernel
theorem dX6_cross_18 : decode cX6_cross 18 = .ok (.iload_n 1, 1) := by decide +kernel
theorem dX6_cross_19 : decode cX6_cross 19 = .ok (.ifCond .lt 7, 3) := by decide +kernel
theorem dX6_cross_22 : decode cX6_cross 22 = .ok (.iload_n 2, 1) := by decide +kernel
theorem dX6_cross_23 : decode cX6_cross 23 = .ok (.ifCond .ge 6, 3) := by decide +kernel
theorem dX6_cross_26 : decode cX6_cross 26 = .ok (.bipush (-2), 2) := by decide +kernel
theorem dX6_cross_28 : decode cX6_cross 28 = .ok (.ireturn, 1) := by decide +kernel
theorem dX6_cross_29 : decode cX6_cross 29 = .ok (.aload_n 0, 1) := by decide +kernel
theorem dX6_cross_30 : decode cX6_cross 30 = .ok (.getfield 11, 3) := by decide +kernel
theorem dX6_cross_33 : decode cX6_cross 33 = .ok (.iconst 1, 1) := by decide +kernel
theorem dX6_cross_34 : decode cX6_cross 34 = .ok (.aaload, 1) := by decide +kernel
theorem dX6_cross_35 : decode cX6_cross 35 = .ok (.iload_n 2, 1) := by decide +kernel
theorem dX6_cross_36 : decode cX6_cross 36 = .ok (.iaload, 1) := by decide +kernel
theorem dX6_cross_37 : decode cX6_cross 37 = .ok (.istore_n 3, 1) := by decide +kernel
theorem dX6_cross_38 : decode cX6_cross 38 = .ok (.aload_n 0, 1) := by decide +kernel
theorem dX6_cross_39 : decode cX6_cross 39 = .ok (.getfield 11, 3) := by decide +kernel
theorem dX6_cross_42 : decode cX6_cross 42 = .ok (.iconst 1, 1) := by decide +kernel
theorem dX6_cross_43 : decode cX6_cross 43 = .ok (.aaload, 1) := by decide +kernel
theorem dX6_cross_44 : decode cX6_cross 44 = .ok (.iload_n 2, 1) := by decide +kernel
theorem dX6_cross_45 : decode cX6_cross 45 = .ok (.aload_n 0, 1) := by decide +kernel
theorem dX6_cross_46 : decode cX6_cross 46 = .ok (.getfield 11, 3) := by decide +kernel
theorem dX6_cross_49 : decode cX6_cross 49 = .ok (.iconst 0, 1) := by decide +kernel
theorem dX6_cross_50 : decode cX6_cross 50 = .ok (.aaload, 1) := by decide +kernel
theorem dX6_cross_51 : decode cX6_cross 51 = .ok (.iload_n 1, 1) := by decide +kernel
theorem dX6_cross_52 : decode cX6_cross 52 = .ok (.iaload, 1) := by decide +kernel
theorem dX6_cross_53 : decode cX6_cross 53 = .ok (.iastore, 1) := by decide +kernel
theorem dX6_cross_54 : decode cX6_cross 54 = .ok (.aload_n 0, 1) := by decide +kernel
theorem dX6_cross_55 : decode cX6_cross 55 = .ok (.getfield 11, 3) := by decide +kernel
theorem dX6_cross_58 : decode cX6_cross 58 = .ok (.iconst 0, 1) := by decide +kernel
theorem dX6_cross_59 : decode cX6_cross 59 = .ok (.aaload, 1) := by decide +kernel
theorem dX6_cross_60 : decode cX6_cross 60 = .ok (.iload_n 1, 1) := by decide +kernel
theorem dX6_cross_61 : decode cX6_cross 61 = .ok (.iload_n 3, 1) := by decide +kernel
theorem dX6_cross_62 : decode cX6_cross 62 = .ok (.iastore, 1) := by decide +kernel
theorem dX6_cross_63 : decode cX6_cross 63 = .ok (.iload_n 3, 1) := by decide +kernel
theorem dX6_cross_64 : decode cX6_cross 64 = .ok (.ireturn, 1) := by decide +kernel
theorem dX6_empty_0 : decode cX6_empty 0 = .ok (.aload_n 0, 1) := by decide +kernel
theorem dX6_empty_1 : decode cX6_empty 1 = .ok (.getfield 16, 3) := by decide +kernel
theorem dX6_empty_4 : decode cX6_empty 4 = .ok (.iconst 0, 1) := by decide +kernel
theorem dX6_empty_5 : decode cX6_empty 5 = .ok (.iconst 0, 1) := by decide +kernel
theorem dX6_empty_6 : decode cX6_empty 6 = .ok (.iastore, 1) := by decide +kernel
theorem dX6_empty_7 : decode cX6_empty 7 = .ok (.aload_n 0, 1) := by decide +kernel
theorem dX6_empty_8 : decode cX6_empty 8 = .ok (.getfield 16, 3) := by decide +kernel
theorem dX6_empty_11 : decode cX6_empty 11 = .ok (.iconst 1, 1) := by decide +kernel
theorem dX6_empty_12 : decode cX6_empty 12 = .ok (.iconst 0, 1) := by decide +kernel
theorem dX6_empty_13 : decode cX6_empty 13 = .ok (.iastore, 1) := by decide +kernel
theorem dX6_empty_14 : decode cX6_empty 14 = .ok (.return_, 1) := by decide +kernel
end
section
theorem dX6_caret_0 : decode cX6_caret 0 = .ok (.aload_n 0, 1) := by decide +kernel
theorem dX6_caret_1 : decode cX6_caret 1 = .ok (.getfield 16, 3) := by decide +kernel
theorem dX6_caret_4 : decode cX6_caret 4 = .ok (.iconst 0, 1) := by decide +kernel
theorem dX6_caret_5 : decode cX6_caret 5 = .ok (.iaload, 1) := by decide +kernel
theorem dX6_caret_6 : decode cX6_caret 6 = .ok (.ireturn, 1) := by decide +kernel
theorem dX6_length_0 : decode cX6_length 0 = .ok (.aload_n 0, 1) := by decide +kernel
theorem dX6_length_1 : decode cX6_length 1 = .ok (.getfield 16, 3) := by decide +kernel
theorem dX6_length_4 : decode cX6_length 4 = .ok (.iconst 0, 1) := by decide +kernel
theorem dX6_length_5 : decode cX6_length 5 = .ok (.iaload, 1) := by decide +kernel
theorem dX6_length_6 : decode cX6_length 6 = .ok (.aload_n 0, 1) := by decide +kernel
theorem dX6_length_7 : decode cX6_length 7 = .ok (.getfield 16, 3) := by decide +kernel
theorem dX6_length_10 : decode cX6_length 10 = .ok (.iconst 1, 1) := by decide +kernel
theorem dX6_length_11 : decode cX6_length 11 = .ok (.iaload, 1) := by decide +kernel
theorem dX6_length_12 : decode cX6_length 12 = .ok (.iadd, 1) := by decide +kernel
theorem dX6_length_13 : decode cX6_length 13 = .ok (.ireturn, 1) := by decide +kernel
theorem dX6_wordOf_0 : decode cX6_wordOf 0 = .ok (.aload_n 0, 1) := by decide +kernel
theorem dX6_wordOf_1 : decode cX6_wordOf 1 = .ok (.getfield 16, 3) := by decide +kernel
theorem dX6_wordOf_4 : decode cX6_wordOf 4 = .ok (.iconst 0, 1) := by decide +kernel
theorem dX6_wordOf_5 : decode cX6_wordOf 5 = .ok (.iaload, 1) := by decide +kernel
theorem dX6_wordOf_6 : decode cX6_wordOf 6 = .ok (.aload_n 0, 1) := by decide +kernel
theorem dX6_wordOf_7 : decode cX6_wordOf 7 = .ok (.getfield 16, 3) := by decide +kernel
theorem dX6_wordOf_10 : decode cX6_wordOf 10 = .ok (.iconst 1, 1) := by decide +kernel
theorem dX6_wordOf_11 : decode cX6_wordOf 11 = .ok (.iaload, 1) := by decide +kernel
theorem dX6_wordOf_12 : decode cX6_wordOf 12 = .ok (.iadd, 1) := by decide +kernel
theorem dX6_wordOf_13 : decode cX6_wordOf 13 = .ok (.iconst 1, 1) := by decide +kernel
theorem dX6_wordOf_14 : decode cX6_wordOf 14 = .ok (.isub, 1) := by decide +kernel
theorem dX6_wordOf_15 : decode cX6_wordOf 15 = .ok (.iload_n 1, 1) := by decide +kernel
theorem dX6_wordOf_16 : decode cX6_wordOf 16 = .ok (.isub, 1) := by decide +kernel
theorem dX6_wordOf_17 : decode cX6_wordOf 17 = .ok (.istore_n 2, 1) := by decide +kernel
theorem dX6_wordOf_18 : decode cX6_wordOf 18 = .ok (.iload_n 1, 1) := by decide +kernel
theorem dX6_wordOf_19 : decode cX6_wordOf 19 = .ok (.ifCond .lt 7, 3) := by decide +kernel
theorem dX6_wordOf_22 : decode cX6_wordOf 22 = .ok (.iload_n 2, 1) := by decide +kernel
theorem dX6_wordOf_23 : decode cX6_wordOf 23 = .ok (.ifCond .ge 5, 3) := by decide +kernel
theorem dX6_wordOf_26 : decode cX6_wordOf 26 = .ok (.iconst (-1), 1) := by decide +kernel
theorem dX6_wordOf_27 : decode cX6_wordOf 27 = .ok (.ireturn, 1) := by decide +kernel
theorem dX6_wordOf_28 : decode cX6_wordOf 28 = .ok (.iload_n 1, 1) := by decide +kernel
theorem dX6_wordOf_29 : decode cX6_wordOf 29 = .ok (.aload_n 0, 1) := by decide +kernel
theorem dX6_wordOf_30 : decode cX6_wordOf 30 = .ok (.getfield 16, 3) := by decide +kernel
theorem dX6_wordOf_33 : decode cX6_wordOf 33 = .ok (.iconst 0, 1) := by decide +kernel
theorem dX6_wordOf_34 : decode cX6_wordOf 34 = .ok (.iaload, 1) := by decide +kernel
theorem dX6_wordOf_35 : decode cX6_wordOf 35 = .ok (.if_icmp .ge 14, 3) := by decide +kernel
theorem dX6_wordOf_38 : decode cX6_wordOf 38 = .ok (.aload_n 0, 1) := by decide +kernel
theorem dX6_wordOf_39 : decode cX6_wordOf 39 = .ok (.getfield 11, 3) := by decide +kernel
theorem dX6_wordOf_42 : decode cX6_wordOf 42 = .ok (.iconst 0, 1) := by decide +kernel
theorem dX6_wordOf_43 : decode cX6_wordOf 43 = .ok (.aaload, 1) := by decide +kernel
theorem dX6_wordOf_44 : decode cX6_wordOf 44 = .ok (.iload_n 1, 1) := by decide +kernel
theorem dX6_wordOf_45 : decode cX6_wordOf 45 = .ok (.iaload, 1) := by decide +kernel
theorem dX6_wordOf_46 : decode cX6_wordOf 46 = .ok (.goto 11, 3) := by decide +kernel
theorem dX6_wordOf_49 : decode cX6_wordOf 49 = .ok (.aload_n 0, 1) := by decide +kernel
theorem dX6_wordOf_50 : decode cX6_wordOf 50 = .ok (.getfield 11, 3) := by decide +kernel
theorem dX6_wordOf_53 : decode cX6_wordOf 53 = .ok (.iconst 1, 1) := by decide +kernel
theorem dX6_wordOf_54 : decode cX6_wordOf 54 = .ok (.aaload, 1) := by decide +kernel
theorem dX6_wordOf_55 : decode cX6_wordOf 55 = .ok (.iload_n 2, 1) := by decide +kernel
theorem dX6_wordOf_56 : decode cX6_wordOf 56 = .ok (.iaload, 1) := by decide +kernel
theorem dX6_wordOf_57 : decode cX6_wordOf 57 = .ok (.ireturn, 1) := by decide +kernel
theorem dX7_init_0 : decode cX7_init 0 = .ok (.aload_n 0, 1) := by decide +kernel
theorem dX7_init_1 : decode cX7_init 1 = .ok (.invokespecial 3, 3) := by decide +kernel
theorem dX7_init_4 : decode cX7_init 4 = .ok (.aload_n 0, 1) := by decide +kernel
theorem dX7_init_5 : decode cX7_init 5 = .ok (.sipush 300, 3) := by decide +kernel
theorem dX7_init_8 : decode cX7_init 8 = .ok (.newarray .int, 2) := by decide +kernel
theorem dX7_init_10 : decode cX7_init 10 = .ok (.putfield 9, 3) := by decide +kernel
theorem dX7_init_13 : decode cX7_init 13 = .ok (.aload_n 0, 1) := by decide +kernel
theorem dX7_init_14 : decode cX7_init 14 = .ok (.sipush 300, 3) := by decide +kernel
theorem dX7_init_17 : decode cX7_init 17 = .ok (.newarray .int, 2) := by decide +kernel
theorem dX7_init_19 : decode cX7_init 19 = .ok (.putfield 15, 3) := by decide +kernel
theorem dX7_init_22 : decode cX7_init 22 = .ok (.aload_n 0, 1) := by decide +kernel
theorem dX7_init_23 : decode cX7_init 23 = .ok (.sipush 300, 3) := by decide +kernel
theorem dX7_init_26 : decode cX7_init 26 = .ok (.newarray .int, 2) := by decide +kernel
theorem dX7_init_28 : decode cX7_init 28 = .ok (.putfield 18, 3) := by decide +kernel
theorem dX7_init_31 : decode cX7_init 31 = .ok (.aload_n 0, 1) := by decide +kernel
theorem dX7_init_32 : decode cX7_init 32 = .ok (.sipush 300, 3) := by decide +kernel
theorem dX7_init_35 : decode cX7_init 35 = .ok (.newarray .int, 2) := by decide +kernel
theorem dX7_init_37 : decode cX7_init 37 = .ok (.putfield 21, 3) := by decide +kernel
theorem dX7_init_40 : decode cX7_init 40 = .ok (.aload_n 0, 1) := by decide +kernel
theorem dX7_init_41 : decode cX7_init 41 = .ok (.iconst 4, 1) := by decide +kernel
theorem dX7_init_42 : decode cX7_init 42 = .ok (.newarray .int, 2) := by decide +kernel
theorem dX7_init_44 : decode cX7_init 44 = .ok (.putfield 24, 3) := by decide +kernel
theorem dX7_init_47 : decode cX7_init 47 = .ok (.return_, 1) := by decide +kernel
theorem dX7_kindOf_0 : decode cX7_kindOf 0 = .ok (.iload_n 1, 1) := by decide +kernel
theorem dX7_kindOf_1 : decode cX7_kindOf 1 = .ok (.ifCond .lt 20, 3) := by decide +kernel
theorem dX7_kindOf_4 : decode cX7_kindOf 4 = .ok (.iload_n 1, 1) := by decide +kernel
theorem dX7_kindOf_5 : decode cX7_kindOf 5 = .ok (.aload_n 0, 1) := by decide +kernel
theorem dX7_kindOf_6 : decode cX7_kindOf 6 = .ok (.getfield 27, 3) := by decide +kernel
theorem dX7_kindOf_9 : decode cX7_kindOf 9 = .ok (.if_icmp .ge 12, 3) := by decide +kernel
theorem dX7_kindOf_12 : decode cX7_kindOf 12 = .ok (.aload_n 0, 1) := by decide +kernel
theorem dX7_kindOf_13 : decode cX7_kindOf 13 = .ok (.getfield 9, 3) := by decide +kernel
theorem dX7_kindOf_16 : decode cX7_kindOf 16 = .ok (.iload_n 1, 1) := by decide +kernel
theorem dX7_kindOf_17 : decode cX7_kindOf 17 = .ok (.iaload, 1) := by decide +kernel
theorem dX7_kindOf_18 : decode cX7_kindOf 18 = .ok (.goto 4, 3) := by decide +kernel
theorem dX7_kindOf_21 : decode cX7_kindOf 21 = .ok (.iconst 0, 1) := by decide +kernel
theorem dX7_kindOf_22 : decode cX7_kindOf 22 = .ok (.ireturn, 1) := by decide +kernel
theorem dX7_numberOf_0 : decode cX7_numberOf 0 = .ok (.iload_n 1, 1) := by decide +kernel
theorem dX7_numberOf_1 : decode cX7_numberOf 1 = .ok (.ifCond .lt 20, 3) := by decide +kernel
theorem dX7_numberOf_4 : decode cX7_numberOf 4 = .ok (.iload_n 1, 1) := by decide +kernel
theorem dX7_numberOf_5 : decode cX7_numberOf 5 = .ok (.aload_n 0, 1) := by decide +kernel
theorem dX7_numberOf_6 : decode cX7_numberOf 6 = .ok (.getfield 27, 3) := by decide +kernel
theorem dX7_numberOf_9 : decode cX7_numberOf 9 = .ok (.if_icmp .ge 12, 3) := by decide +kernel
theorem dX7_numberOf_12 : decode cX7_numberOf 12 = .ok (.aload_n 0, 1) := by decide +kernel
theorem dX7_numberOf_13 : decode cX7_numberOf 13 = .ok (.getfield 15, 3) := by decide +kernel
theorem dX7_numberOf_16 : decode cX7_numberOf 16 = .ok (.iload_n 1, 1) := by decide +kernel
theorem dX7_numberOf_17 : decode cX7_numberOf 17 = .ok (.iaload, 1) := by decide +kernel
theorem dX7_numberOf_18 : decode cX7_numberOf 18 = .ok (.goto 4, 3) := by decide +kernel
theorem dX7_numberOf_21 : decode cX7_numberOf 21 = .ok (.iconst 0, 1) := by decide +kernel
theorem dX7_numberOf_22 : decode cX7_numberOf 22 = .ok (.ireturn, 1) := by decide +kernel
theorem dX7_endOf_0 : decode cX7_endOf 0 = .ok (.iload_n 1, 1) := by decide +kernel
theorem dX7_endOf_1 : decode cX7_endOf 1 = .ok (.ifCond .lt 20, 3) := by decide +kernel
theorem dX7_endOf_4 : decode cX7_endOf 4 = .ok (.iload_n 1, 1) := by decide +kernel
theorem dX7_endOf_5 : decode cX7_endOf 5 = .ok (.aload_n 0, 1) := by decide +kernel
theorem dX7_endOf_6 : decode cX7_endOf 6 = .ok (.getfield 27, 3) := by decide +kernel
theorem dX7_endOf_9 : decode cX7_endOf 9 = .ok (.if_icmp .ge 12, 3) := by decide +kernel
theorem dX7_endOf_12 : decode cX7_endOf 12 = .ok (.aload_n 0, 1) := by decide +kernel
theorem dX7_endOf_13 : decode cX7_endOf 13 = .ok (.getfield 21, 3) := by decide +kernel
theorem dX7_endOf_16 : decode cX7_endOf 16 = .ok (.iload_n 1, 1) := by decide +kernel
theorem dX7_endOf_17 : decode cX7_endOf 17 = .ok (.iaload, 1) := by decide +kernel
theorem dX7_endOf_18 : decode cX7_endOf 18 = .ok (.goto 4, 3) := by decide +kernel
theorem dX7_endOf_21 : decode cX7_endOf 21 = .ok (.iconst 0, 1) := by decide +kernel
theorem dX7_endOf_22 : decode cX7_endOf 22 = .ok (.ireturn, 1) := by decide +kernel
theorem dX7_split_0 : decode cX7_split 0 = .ok (.aload_n 0, 1) := by decide +kernel
theorem dX7_split_1 : decode cX7_split 1 = .ok (.iconst 0, 1) := by decide +kernel
theorem dX7_split_2 : decode cX7_split 2 = .ok (.putfield 27, 3) := by decide +kernel
theorem dX7_split_5 : decode cX7_split 5 = .ok (.iconst 3, 1) := by decide +kernel
theorem dX7_split_6 : decode cX7_split 6 = .ok (.istore_n 2, 1) := by decide +kernel
theorem dX7_split_7 : decode cX7_split 7 = .ok (.iconst 0, 1) := by decide +kernel
theorem dX7_split_8 : decode cX7_split 8 = .ok (.istore_n 3, 1) := by decide +kernel
theorem dX7_split_9 : decode cX7_split 9 = .ok (.iload_n 3, 1) := by decide +kernel
theorem dX7_split_10 : decode cX7_split 10 = .ok (.aload_n 1, 1) := by decide +kernel
theorem dX7_split_11 : decode cX7_split 11 = .ok (.getfield 31, 3) := by decide +kernel
theorem dX7_split_14 : decode cX7_split 14 = .ok (.if_icmp .ge 79, 3) := by decide +kernel
theorem dX7_split_17 : decode cX7_split 17 = .ok (.iload_n 3, 1) := by decide +kernel
theorem dX7_split_18 : decode cX7_split 18 = .ok (.sipush 300, 3) := by decide +kernel
theorem dX7_split_21 : decode cX7_split 21 = .ok (.if_icmp .ge 72, 3) := by decide +kernel
theorem dX7_split_24 : decode cX7_split 24 = .ok (.aload_n 1, 1) := by decide +kernel
theorem dX7_split_25 : decode cX7_split 25 = .ok (.getfield 36, 3) := by decide +kernel
theorem dX7_split_28 : decode cX7_split 28 = .ok (.iload_n 3, 1) := by decide +kernel
theorem dX7_split_29 : decode cX7_split 29 = .ok (.iaload, 1) := by decide +kernel
theorem dX7_split_30 : decode cX7_split 30 = .ok (.istore 4, 2) := by decide +kernel
theorem dX7_split_32 : decode cX7_split 32 = .ok (.iload 4, 2) := by decide +kernel
theorem dX7_split_34 : decode cX7_split 34 = .ok (.invokestatic 39, 3) := by decide +kernel
theorem dX7_split_37 : decode cX7_split 37 = .ok (.istore 5, 2) := by decide +kernel
theorem dX7_split_39 : decode cX7_split 39 = .ok (.iload 5, 2) := by decide +kernel
theorem dX7_split_41 : decode cX7_split 41 = .ok (.iload_n 2, 1) := by decide +kernel
theorem dX7_split_42 : decode cX7_split 42 = .ok (.if_icmp .ne 27, 3) := by decide +kernel
theorem dX7_split_45 : decode cX7_split 45 = .ok (.iload 5, 2) := by decide +kernel
theorem dX7_split_47 : decode cX7_split 47 = .ok (.iconst 1, 1) := by decide +kernel
theorem dX7_split_48 : decode cX7_split 48 = .ok (.if_icmp .eq 9, 3) := by decide +kernel
theorem dX7_split_51 : decode cX7_split 51 = .ok (.iload 5, 2) := by decide +kernel
theorem dX7_split_53 : decode cX7_split 53 = .ok (.iconst 2, 1) := by decide +kernel
theorem dX7_split_54 : decode cX7_split 54 = .ok (.if_icmp .ne 15, 3) := by decide +kernel
theorem dX7_split_57 : decode cX7_split 57 = .ok (.aload_n 0, 1) := by decide +kernel
theorem dX7_split_58 : decode cX7_split 58 = .ok (.iload 5, 2) := by decide +kernel
theorem dX7_split_60 : decode cX7_split 60 = .ok (.iload_n 3, 1) := by decide +kernel
theorem dX7_split_61 : decode cX7_split 61 = .ok (.iload 4, 2) := by decide +kernel
theorem dX7_split_63 : decode cX7_split 63 = .ok (.invokevirtual 43, 3) := by decide +kernel
theorem dX7_split_66 : decode cX7_split 66 = .ok (.goto 18, 3) := by decide +kernel
theorem dX7_split_69 : decode cX7_split 69 = .ok (.iload 5, 2) := by decide +kernel
theorem dX7_split_71 : decode cX7_split 71 = .ok (.iconst 3, 1) := by decide +kernel
theorem dX7_split_72 : decode cX7_split 72 = .ok (.if_icmp .eq 12, 3) := by decide +kernel
theorem dX7_split_75 : decode cX7_split 75 = .ok (.aload_n 0, 1) := by decide +kernel
theorem dX7_split_76 : decode cX7_split 76 = .ok (.iload 5, 2) := by decide +kernel
theorem dX7_split_78 : decode cX7_split 78 = .ok (.iload_n 3, 1) := by decide +kernel
theorem dX7_split_79 : decode cX7_split 79 = .ok (.iload 4, 2) := by decide +kernel
theorem dX7_split_81 : decode cX7_split 81 = .ok (.invokevirtual 47, 3) := by decide +kernel
theorem dX7_split_84 : decode cX7_split 84 = .ok (.iload 5, 2) := by decide +kernel
theorem dX7_split_86 : decode cX7_split 86 = .ok (.istore_n 2, 1) := by decide +kernel
theorem dX7_split_87 : decode cX7_split 87 = .ok (.iinc 3 1, 3) := by decide +kernel
theorem dX7_split_90 : decode cX7_split 90 = .ok (.goto (-81), 3) := by decide +kernel
theorem dX7_split_93 : decode cX7_split 93 = .ok (.return_, 1) := by decide +kernel
theorem dX7_kindOfByte_0 : decode cX7_kindOfByte 0 = .ok (.iload_n 0, 1) := by decide +kernel
theorem dX7_kindOfByte_1 : decode cX7_kindOfByte 1 = .ok (.bipush 97, 2) := by decide +kernel
theorem dX7_kindOfByte_3 : decode cX7_kindOfByte 3 = .ok (.if_icmp .lt 11, 3) := by decide +kernel
theorem dX7_kindOfByte_6 : decode cX7_kindOfByte 6 = .ok (.iload_n 0, 1) := by decide +kernel
theorem dX7_kindOfByte_7 : decode cX7_kindOfByte 7 = .ok (.bipush 122, 2) := by decide +kernel
theorem dX7_kindOfByte_9 : decode cX7_kindOfByte 9 = .ok (.if_icmp .gt 5, 3) := by decide +kernel
theorem dX7_kindOfByte_12 : decode cX7_kindOfByte 12 = .ok (.iconst 1, 1) := by decide +kernel
theorem dX7_kindOfByte_13 : decode cX7_kindOfByte 13 = .ok (.ireturn, 1) := by decide +kernel
theorem dX7_kindOfByte_14 : decode cX7_kindOfByte 14 = .ok (.iload_n 0, 1) := by decide +kernel
theorem dX7_kindOfByte_15 : decode cX7_kindOfByte 15 = .ok (.bipush 48, 2) := by decide +kernel
theorem dX7_kindOfByte_17 : decode cX7_kindOfByte 17 = .ok (.if_icmp .lt 11, 3) := by decide +kernel
theorem dX7_kindOfByte_20 : decode cX7_kindOfByte 20 = .ok (.iload_n 0, 1) := by decide +kernel
theorem dX7_kindOfByte_21 : decode cX7_kindOfByte 21 = .ok (.bipush 57, 2) := by decide +kernel
theorem dX7_kindOfByte_23 : decode cX7_kindOfByte 23 = .ok (.if_icmp .gt 5, 3) := by decide +kernel
theorem dX7_kindOfByte_26 : decode cX7_kindOfByte 26 = .ok (.iconst 2, 1) := by decide +kernel
theorem dX7_kindOfByte_27 : decode cX7_kindOfByte 27 = .ok (.ireturn, 1) := by decide +kernel
theorem dX7_kindOfByte_28 : decode cX7_kindOfByte 28 = .ok (.iload_n 0, 1) := by decide +kernel
theorem dX7_kindOfByte_29 : decode cX7_kindOfByte 29 = .ok (.lookupswitch 127 #[(10, 123), (32, 123), (37, 125), (42, 125), (43, 125), (44, 125), (45, 125), (46, 125), (60, 125), (61, 125), (62, 125), (64, 125), (123, 125), (125, 125)], 123) := by decide +kernel
theorem dX7_kindOfByte_152 : decode cX7_kindOfByte 152 = .ok (.iconst 3, 1) := by decide +kernel
theorem dX7_kindOfByte_153 : decode cX7_kindOfByte 153 = .ok (.ireturn, 1) := by decide +kernel
theorem dX7_kindOfByte_154 : decode cX7_kindOfByte 154 = .ok (.iload_n 0, 1) := by decide +kernel
theorem dX7_kindOfByte_155 : decode cX7_kindOfByte 155 = .ok (.ireturn, 1) := by decide +kernel
theorem dX7_kindOfByte_156 : decode cX7_kindOfByte 156 = .ok (.iconst 0, 1) := by decide +kernel
theorem dX7_kindOfByte_157 : decode cX7_kindOfByte 157 = .ok (.ireturn, 1) := by decide +kernel
theorem dX7_begin_0 : decode cX7_begin 0 = .ok (.aload_n 0, 1) := by decide +kernel
theorem dX7_begin_1 : decode cX7_begin 1 = .ok (.getfield 27, 3) := by decide +kernel
theorem dX7_begin_4 : decode cX7_begin 4 = .ok (.sipush 300, 3) := by decide +kernel
theorem dX7_begin_7 : decode cX7_begin 7 = .ok (.if_icmp .ge 47, 3) := by decide +kernel
theorem dX7_begin_10 : decode cX7_begin 10 = .ok (.aload_n 0, 1) := by decide +kernel
theorem dX7_begin_11 : decode cX7_begin 11 = .ok (.getfield 9, 3) := by decide +kernel
theorem dX7_begin_14 : decode cX7_begin 14 = .ok (.aload_n 0, 1) := by decide +kernel
theorem dX7_begin_15 : decode cX7_begin 15 = .ok (.getfield 27, 3) := by decide +kernel
theorem dX7_begin_18 : decode cX7_begin 18 = .ok (.iload_n 1, 1) := by decide +kernel
theorem dX7_begin_19 : decode cX7_begin 19 = .ok (.iastore, 1) := by decide +kernel
theorem dX7_begin_20 : decode cX7_begin 20 = .ok (.aload_n 0, 1) := by decide +kernel
theorem dX7_begin_21 : decode cX7_begin 21 = .ok (.getfield 15, 3) := by decide +kernel
theorem dX7_begin_24 : decode cX7_begin 24 = .ok (.aload_n 0, 1) := by decide +kernel
theorem dX7_begin_25 : decode cX7_begin 25 = .ok (.getfield 27, 3) := by decide +kernel
theorem dX7_begin_28 : decode cX7_begin 28 = .ok (.iload_n 1, 1) := by decide +kernel
theorem dX7_begin_29 : decode cX7_begin 29 = .ok (.iload_n 3, 1) := by decide +kernel
theorem dX7_begin_30 : decode cX7_begin 30 = .ok (.invokestatic 50, 3) := by decide +kernel
theorem dX7_begin_33 : decode cX7_begin 33 = .ok (.iastore, 1) := by decide +kernel
theorem dX7_begin_34 : decode cX7_begin 34 = .ok (.aload_n 0, 1) := by decide +kernel
theorem dX7_begin_35 : decode cX7_begin 35 = .ok (.getfield 18, 3) := by decide +kernel
theorem dX7_begin_38 : decode cX7_begin 38 = .ok (.aload_n 0, 1) := by decide +kernel
theorem dX7_begin_39 : decode cX7_begin 39 = .ok (.getfield 27, 3) := by decide +kernel
theorem dX7_begin_42 : decode cX7_begin 42 = .ok (.iload_n 2, 1) := by decide +kernel
theorem dX7_begin_43 : decode cX7_begin 43 = .ok (.iastore, 1) := by decide +kernel
theorem dX7_begin_44 : decode cX7_begin 44 = .ok (.aload_n 0, 1) := by decide +kernel
theorem dX7_begin_45 : decode cX7_begin 45 = .ok (.dup, 1) := by decide +kernel
theorem dX7_begin_46 : decode cX7_begin 46 = .ok (.getfield 27, 3) := by decide +kernel
theorem dX7_begin_49 : decode cX7_begin 49 = .ok (.iconst 1, 1) := by decide +kernel
theorem dX7_begin_50 : decode cX7_begin 50 = .ok (.iadd, 1) := by decide +kernel
theorem dX7_begin_51 : decode cX7_begin 51 = .ok (.putfield 27, 3) := by decide +kernel
theorem dX7_begin_54 : decode cX7_begin 54 = .ok (.return_, 1) := by decide +kernel
theorem dX7_lengthen_0 : decode cX7_lengthen 0 = .ok (.aload_n 0, 1) := by decide +kernel
theorem dX7_lengthen_1 : decode cX7_lengthen 1 = .ok (.getfield 27, 3) := by decide +kernel
theorem dX7_lengthen_4 : decode cX7_lengthen 4 = .ok (.iconst 1, 1) := by decide +kernel
theorem dX7_lengthen_5 : decode cX7_lengthen 5 = .ok (.isub, 1) := by decide +kernel
theorem dX7_lengthen_6 : decode cX7_lengthen 6 = .ok (.istore 4, 2) := by decide +kernel
theorem dX7_lengthen_8 : decode cX7_lengthen 8 = .ok (.iload 4, 2) := by decide +kernel
theorem dX7_lengthen_10 : decode cX7_lengthen 10 = .ok (.ifCond .ge 4, 3) := by decide +kernel
theorem dX7_lengthen_13 : decode cX7_lengthen 13 = .ok (.return_, 1) := by decide +kernel
theorem dX7_lengthen_14 : decode cX7_lengthen 14 = .ok (.iload_n 1, 1) := by decide +kernel
theorem dX7_lengthen_15 : decode cX7_lengthen 15 = .ok (.iconst 1, 1) := by decide +kernel
theorem dX7_lengthen_16 : decode cX7_lengthen 16 = .ok (.if_icmp .ne 8, 3) := by decide +kernel
theorem dX7_lengthen_19 : decode cX7_lengthen 19 = .ok (.bipush 6, 2) := by decide +kernel
theorem dX7_lengthen_21 : decode cX7_lengthen 21 = .ok (.goto 4, 3) := by decide +kernel
theorem dX7_lengthen_24 : decode cX7_lengthen 24 = .ok (.iconst 3, 1) := by decide +kernel
theorem dX7_lengthen_25 : decode cX7_lengthen 25 = .ok (.istore 5, 2) := by decide +kernel
theorem dX7_lengthen_27 : decode cX7_lengthen 27 = .ok (.iload_n 1, 1) := by decide +kernel
theorem dX7_lengthen_28 : decode cX7_lengthen 28 = .ok (.iconst 1, 1) := by decide +kernel
theorem dX7_lengthen_29 : decode cX7_lengthen 29 = .ok (.if_icmp .ne 8, 3) := by decide +kernel
theorem dX7_lengthen_32 : decode cX7_lengthen 32 = .ok (.bipush 27, 2) := by decide +kernel
theorem dX7_lengthen_34 : decode cX7_lengthen 34 = .ok (.goto 5, 3) := by decide +kernel
theorem dX7_lengthen_37 : decode cX7_lengthen 37 = .ok (.bipush 10, 2) := by decide +kernel
theorem dX7_lengthen_39 : decode cX7_lengthen 39 = .ok (.istore 6, 2) := by decide +kernel
theorem dX7_lengthen_41 : decode cX7_lengthen 41 = .ok (.iload_n 2, 1) := by decide +kernel
theorem dX7_lengthen_42 : decode cX7_lengthen 42 = .ok (.aload_n 0, 1) := by decide +kernel
theorem dX7_lengthen_43 : decode cX7_lengthen 43 = .ok (.getfield 18, 3) := by decide +kernel
theorem dX7_lengthen_46 : decode cX7_lengthen 46 = .ok (.iload 4, 2) := by decide +kernel
theorem dX7_lengthen_48 : decode cX7_lengthen 48 = .ok (.iaload, 1) := by decide +kernel
theorem dX7_lengthen_49 : decode cX7_lengthen 49 = .ok (.isub, 1) := by decide +kernel
theorem dX7_lengthen_50 : decode cX7_lengthen 50 = .ok (.iload 5, 2) := by decide +kernel
theorem dX7_lengthen_52 : decode cX7_lengthen 52 = .ok (.if_icmp .lt 14, 3) := by decide +kernel
theorem dX7_lengthen_55 : decode cX7_lengthen 55 = .ok (.aload_n 0, 1) := by decide +kernel
theorem dX7_lengthen_56 : decode cX7_lengthen 56 = .ok (.getfield 9, 3) := by decide +kernel
theorem dX7_lengthen_59 : decode cX7_lengthen 59 = .ok (.iload 4, 2) := by decide +kernel
theorem dX7_lengthen_61 : decode cX7_lengthen 61 = .ok (.iconst 0, 1) := by decide +kernel
theorem dX7_lengthen_62 : decode cX7_lengthen 62 = .ok (.iastore, 1) := by decide +kernel
theorem dX7_lengthen_63 : decode cX7_lengthen 63 = .ok (.goto 26, 3) := by decide +kernel
theorem dX7_lengthen_66 : decode cX7_lengthen 66 = .ok (.aload_n 0, 1) := by decide +kernel
theorem dX7_lengthen_67 : decode cX7_lengthen 67 = .ok (.getfield 15, 3) := by decide +kernel
theorem dX7_lengthen_70 : decode cX7_lengthen 70 = .ok (.iload 4, 2) := by decide +kernel
theorem dX7_lengthen_72 : decode cX7_lengthen 72 = .ok (.aload_n 0, 1) := by decide +kernel
theorem dX7_lengthen_73 : decode cX7_lengthen 73 = .ok (.getfield 15, 3) := by decide +kernel
theorem dX7_lengthen_76 : decode cX7_lengthen 76 = .ok (.iload 4, 2) := by decide +kernel
theorem dX7_lengthen_78 : decode cX7_lengthen 78 = .ok (.iaload, 1) := by decide +kernel
theorem dX7_lengthen_79 : decode cX7_lengthen 79 = .ok (.iload 6, 2) := by decide +kernel
theorem dX7_lengthen_81 : decode cX7_lengthen 81 = .ok (.imul, 1) := by decide +kernel
theorem dX7_lengthen_82 : decode cX7_lengthen 82 = .ok (.iload_n 1, 1) := by decide +kernel
theorem dX7_lengthen_83 : decode cX7_lengthen 83 = .ok (.iload_n 3, 1) := by decide +kernel
theorem dX7_lengthen_84 : decode cX7_lengthen 84 = .ok (.invokestatic 50, 3) := by decide +kernel
theorem dX7_lengthen_87 : decode cX7_lengthen 87 = .ok (.iadd, 1) := by decide +kernel
theorem dX7_lengthen_88 : decode cX7_lengthen 88 = .ok (.iastore, 1) := by decide +kernel
theorem dX7_lengthen_89 : decode cX7_lengthen 89 = .ok (.return_, 1) := by decide +kernel
theorem dX7_digitOf_0 : decode cX7_digitOf 0 = .ok (.iload_n 0, 1) := by decide +kernel
theorem dX7_digitOf_1 : decode cX7_digitOf 1 = .ok (.iconst 1, 1) := by decide +kernel
theorem dX7_digitOf_2 : decode cX7_digitOf 2 = .ok (.if_icmp .ne 12, 3) := by decide +kernel
theorem dX7_digitOf_5 : decode cX7_digitOf 5 = .ok (.iload_n 1, 1) := by decide +kernel
theorem dX7_digitOf_6 : decode cX7_digitOf 6 = .ok (.bipush 97, 2) := by decide +kernel
theorem dX7_digitOf_8 : decode cX7_digitOf 8 = .ok (.isub, 1) := by decide +kernel
theorem dX7_digitOf_9 : decode cX7_digitOf 9 = .ok (.iconst 1, 1) := by decide +kernel
theorem dX7_digitOf_10 : decode cX7_digitOf 10 = .ok (.iadd, 1) := by decide +kernel
theorem dX7_digitOf_11 : decode cX7_digitOf 11 = .ok (.goto 7, 3) := by decide +kernel
theorem dX7_digitOf_14 : decode cX7_digitOf 14 = .ok (.iload_n 1, 1) := by decide +kernel
theorem dX7_digitOf_15 : decode cX7_digitOf 15 = .ok (.bipush 48, 2) := by decide +kernel
theorem dX7_digitOf_17 : decode cX7_digitOf 17 = .ok (.isub, 1) := by decide +kernel
theorem dX7_digitOf_18 : decode cX7_digitOf 18 = .ok (.ireturn, 1) := by decide +kernel
theorem dX7_misfitOfWords_0 : decode cX7_misfitOfWords 0 = .ok (.iconst 0, 1) := by decide +kernel
theorem dX7_misfitOfWords_1 : decode cX7_misfitOfWords 1 = .ok (.istore_n 1, 1) := by decide +kernel
theorem dX7_misfitOfWords_2 : decode cX7_misfitOfWords 2 = .ok (.iload_n 1, 1) := by decide +kernel
theorem dX7_misfitOfWords_3 : decode cX7_misfitOfWords 3 = .ok (.aload_n 0, 1) := by decide +kernel
theorem dX7_misfitOfWords_4 : decode cX7_misfitOfWords 4 = .ok (.getfield 27, 3) := by decide +kernel
theorem dX7_misfitOfWords_7 : decode cX7_misfitOfWords 7 = .ok (.if_icmp .ge 32, 3) := by decide +kernel
theorem dX7_misfitOfWords_10 : decode cX7_misfitOfWords 10 = .ok (.aload_n 0, 1) := by decide +kernel
theorem dX7_misfitOfWords_11 : decode cX7_misfitOfWords 11 = .ok (.getfield 9, 3) := by decide +kernel
theorem dX7_misfitOfWords_14 : decode cX7_misfitOfWords 14 = .ok (.iload_n 1, 1) := by decide +kernel
theorem dX7_misfitOfWords_15 : decode cX7_misfitOfWords 15 = .ok (.iaload, 1) := by decide +kernel
theorem dX7_misfitOfWords_16 : decode cX7_misfitOfWords 16 = .ok (.iconst 1, 1) := by decide +kernel
theorem dX7_misfitOfWords_17 : decode cX7_misfitOfWords 17 = .ok (.if_icmp .ne 9, 3) := by decide +kernel
theorem dX7_misfitOfWords_20 : decode cX7_misfitOfWords 20 = .ok (.iload_n 1, 1) := by decide +kernel
theorem dX7_misfitOfWords_21 : decode cX7_misfitOfWords 21 = .ok (.bipush 100, 2) := by decide +kernel
theorem dX7_misfitOfWords_23 : decode cX7_misfitOfWords 23 = .ok (.if_icmp .lt 10, 3) := by decide +kernel
theorem dX7_misfitOfWords_26 : decode cX7_misfitOfWords 26 = .ok (.aload_n 0, 1) := by decide +kernel
theorem dX7_misfitOfWords_27 : decode cX7_misfitOfWords 27 = .ok (.getfield 18, 3) := by decide +kernel
theorem dX7_misfitOfWords_30 : decode cX7_misfitOfWords 30 = .ok (.iload_n 1, 1) := by decide +kernel
theorem dX7_misfitOfWords_31 : decode cX7_misfitOfWords 31 = .ok (.iaload, 1) := by decide +kernel
theorem dX7_misfitOfWords_32 : decode cX7_misfitOfWords 32 = .ok (.ireturn, 1) := by decide +kernel
theorem dX7_misfitOfWords_33 : decode cX7_misfitOfWords 33 = .ok (.iinc 1 1, 3) := by decide +kernel
theorem dX7_misfitOfWords_36 : decode cX7_misfitOfWords 36 = .ok (.goto (-34), 3) := by decide +kernel
theorem dX7_misfitOfWords_39 : decode cX7_misfitOfWords 39 = .ok (.iconst (-1), 1) := by decide +kernel
theorem dX7_misfitOfWords_40 : decode cX7_misfitOfWords 40 = .ok (.ireturn, 1) := by decide +kernel
theorem dX7_misfitOfScript_0 : decode cX7_misfitOfScript 0 = .ok (.aload_n 0, 1) := by decide +kernel
theorem dX7_misfitOfScript_1 : decode cX7_misfitOfScript 1 = .ok (.iconst 0, 1) := by decide +kernel
theorem dX7_misfitOfScript_2 : decode cX7_misfitOfScript 2 = .ok (.putfield 54, 3) := by decide +kernel
theorem dX7_misfitOfScript_5 : decode cX7_misfitOfScript 5 = .ok (.iconst 0, 1) := by decide +kernel
theorem dX7_misfitOfScript_6 : decode cX7_misfitOfScript 6 = .ok (.istore_n 2, 1) := by decide +kernel
theorem dX7_misfitOfScript_7 : decode cX7_misfitOfScript 7 = .ok (.iconst 0, 1) := by decide +kernel
theorem dX7_misfitOfScript_8 : decode cX7_misfitOfScript 8 = .ok (.istore_n 3, 1) := by decide +kernel
theorem dX7_misfitOfScript_9 : decode cX7_misfitOfScript 9 = .ok (.iload_n 3, 1) := by decide +kernel
theorem dX7_misfitOfScript_10 : decode cX7_misfitOfScript 10 = .ok (.aload_n 0, 1) := by decide +kernel
theorem dX7_misfitOfScript_11 : decode cX7_misfitOfScript 11 = .ok (.getfield 27, 3) := by decide +kernel
theorem dX7_misfitOfScript_14 : decode cX7_misfitOfScript 14 = .ok (.if_icmp .ge 28, 3) := by decide +kernel
theorem dX7_misfitOfScript_17 : decode cX7_misfitOfScript 17 = .ok (.aload_n 0, 1) := by decide +kernel
theorem dX7_misfitOfScript_18 : decode cX7_misfitOfScript 18 = .ok (.iload_n 3, 1) := by decide +kernel
theorem dX7_misfitOfScript_19 : decode cX7_misfitOfScript 19 = .ok (.iload_n 2, 1) := by decide +kernel
theorem dX7_misfitOfScript_20 : decode cX7_misfitOfScript 20 = .ok (.invokevirtual 57, 3) := by decide +kernel
theorem dX7_misfitOfScript_23 : decode cX7_misfitOfScript 23 = .ok (.istore_n 2, 1) := by decide +kernel
theorem dX7_misfitOfScript_24 : decode cX7_misfitOfScript 24 = .ok (.iload_n 2, 1) := by decide +kernel
theorem dX7_misfitOfScript_25 : decode cX7_misfitOfScript 25 = .ok (.iconst 4, 1) := by decide +kernel
theorem dX7_misfitOfScript_26 : decode cX7_misfitOfScript 26 = .ok (.if_icmp .ne 10, 3) := by decide +kernel
theorem dX7_misfitOfScript_29 : decode cX7_misfitOfScript 29 = .ok (.aload_n 0, 1) := by decide +kernel
theorem dX7_misfitOfScript_30 : decode cX7_misfitOfScript 30 = .ok (.getfield 18, 3) := by decide +kernel
theorem dX7_misfitOfScript_33 : decode cX7_misfitOfScript 33 = .ok (.iload_n 3, 1) := by decide +kernel
theorem dX7_misfitOfScript_34 : decode cX7_misfitOfScript 34 = .ok (.iaload, 1) := by decide +kernel
theorem dX7_misfitOfScript_35 : decode cX7_misfitOfScript 35 = .ok (.ireturn, 1) := by decide +kernel
theorem dX7_misfitOfScript_36 : decode cX7_misfitOfScript 36 = .ok (.iinc 3 1, 3) := by decide +kernel
theorem dX7_misfitOfScript_39 : decode cX7_misfitOfScript 39 = .ok (.goto (-30), 3) := by decide +kernel
theorem dX7_misfitOfScript_42 : decode cX7_misfitOfScript 42 = .ok (.iload_n 2, 1) := by decide +kernel
theorem dX7_misfitOfScript_43 : decode cX7_misfitOfScript 43 = .ok (.ifCond .ne 14, 3) := by decide +kernel
theorem dX7_misfitOfScript_46 : decode cX7_misfitOfScript 46 = .ok (.aload_n 0, 1) := by decide +kernel
theorem dX7_misfitOfScript_47 : decode cX7_misfitOfScript 47 = .ok (.getfield 54, 3) := by decide +kernel
theorem dX7_misfitOfScript_50 : decode cX7_misfitOfScript 50 = .ok (.ifCond .ne 7, 3) := by decide +kernel
theorem dX7_misfitOfScript_53 : decode cX7_misfitOfScript 53 = .ok (.iconst (-1), 1) := by decide +kernel
theorem dX7_misfitOfScript_54 : decode cX7_misfitOfScript 54 = .ok (.goto 4, 3) := by decide +kernel
theorem dX7_misfitOfScript_57 : decode cX7_misfitOfScript 57 = .ok (.iload_n 1, 1) := by decide +kernel
theorem dX7_misfitOfScript_58 : decode cX7_misfitOfScript 58 = .ok (.ireturn, 1) := by decide +kernel
theorem dX7_wantedBehind_0 : decode cX7_wantedBehind 0 = .ok (.aload_n 0, 1) := by decide +kernel
theorem dX7_wantedBehind_1 : decode cX7_wantedBehind 1 = .ok (.iload_n 1, 1) := by decide +kernel
theorem dX7_wantedBehind_2 : decode cX7_wantedBehind 2 = .ok (.invokevirtual 60, 3) := by decide +kernel
theorem dX7_wantedBehind_5 : decode cX7_wantedBehind 5 = .ok (.istore_n 3, 1) := by decide +kernel
theorem dX7_wantedBehind_6 : decode cX7_wantedBehind 6 = .ok (.iload_n 2, 1) := by decide +kernel
theorem dX7_wantedBehind_7 : decode cX7_wantedBehind 7 = .ok (.tableswitch 65 1 3 #[25, 36, 47], 25) := by decide +kernel
theorem dX7_wantedBehind_32 : decode cX7_wantedBehind 32 = .ok (.iload_n 3, 1) := by decide +kernel
theorem dX7_wantedBehind_33 : decode cX7_wantedBehind 33 = .ok (.iconst 1, 1) := by decide +kernel
theorem dX7_wantedBehind_34 : decode cX7_wantedBehind 34 = .ok (.if_icmp .ne 7, 3) := by decide +kernel
theorem dX7_wantedBehind_37 : decode cX7_wantedBehind 37 = .ok (.iconst 0, 1) := by decide +kernel
theorem dX7_wantedBehind_38 : decode cX7_wantedBehind 38 = .ok (.goto 4, 3) := by decide +kernel
theorem dX7_wantedBehind_41 : decode cX7_wantedBehind 41 = .ok (.iconst 4, 1) := by decide +kernel
theorem dX7_wantedBehind_42 : decode cX7_wantedBehind 42 = .ok (.ireturn, 1) := by decide +kernel
theorem dX7_wantedBehind_43 : decode cX7_wantedBehind 43 = .ok (.iload_n 3, 1) := by decide +kernel
theorem dX7_wantedBehind_44 : decode cX7_wantedBehind 44 = .ok (.iconst 2, 1) := by decide +kernel
theorem dX7_wantedBehind_45 : decode cX7_wantedBehind 45 = .ok (.if_icmp .ne 7, 3) := by decide +kernel
theorem dX7_wantedBehind_48 : decode cX7_wantedBehind 48 = .ok (.iconst 0, 1) := by decide +kernel
theorem dX7_wantedBehind_49 : decode cX7_wantedBehind 49 = .ok (.goto 4, 3) := by decide +kernel
theorem dX7_wantedBehind_52 : decode cX7_wantedBehind 52 = .ok (.iconst 4, 1) := by decide +kernel
theorem dX7_wantedBehind_53 : decode cX7_wantedBehind 53 = .ok (.ireturn, 1) := by decide +kernel
theorem dX7_wantedBehind_54 : decode cX7_wantedBehind 54 = .ok (.iload_n 3, 1) := by decide +kernel
theorem dX7_wantedBehind_55 : decode cX7_wantedBehind 55 = .ok (.bipush 123, 2) := by decide +kernel
theorem dX7_wantedBehind_57 : decode cX7_wantedBehind 57 = .ok (.if_icmp .ne 13, 3) := by decide +kernel
theorem dX7_wantedBehind_60 : decode cX7_wantedBehind 60 = .ok (.aload_n 0, 1) := by decide +kernel
theorem dX7_wantedBehind_61 : decode cX7_wantedBehind 61 = .ok (.iload_n 1, 1) := by decide +kernel
theorem dX7_wantedBehind_62 : decode cX7_wantedBehind 62 = .ok (.iconst 1, 1) := by decide +kernel
theorem dX7_wantedBehind_63 : decode cX7_wantedBehind 63 = .ok (.isub, 1) := by decide +kernel
theorem dX7_wantedBehind_64 : decode cX7_wantedBehind 64 = .ok (.invokevirtual 63, 3) := by decide +kernel
theorem dX7_wantedBehind_67 : decode cX7_wantedBehind 67 = .ok (.goto 4, 3) := by decide +kernel
theorem dX7_wantedBehind_70 : decode cX7_wantedBehind 70 = .ok (.iconst 4, 1) := by decide +kernel
theorem dX7_wantedBehind_71 : decode cX7_wantedBehind 71 = .ok (.ireturn, 1) := by decide +kernel
theorem dX7_wantedBehind_72 : decode cX7_wantedBehind 72 = .ok (.iload_n 3, 1) := by decide +kernel
theorem dX7_wantedBehind_73 : decode cX7_wantedBehind 73 = .ok (.bipush 125, 2) := by decide +kernel
theorem dX7_wantedBehind_75 : decode cX7_wantedBehind 75 = .ok (.if_icmp .ne 13, 3) := by decide +kernel
theorem dX7_wantedBehind_78 : decode cX7_wantedBehind 78 = .ok (.aload_n 0, 1) := by decide +kernel
theorem dX7_wantedBehind_79 : decode cX7_wantedBehind 79 = .ok (.iload_n 1, 1) := by decide +kernel
theorem dX7_wantedBehind_80 : decode cX7_wantedBehind 80 = .ok (.iconst 1, 1) := by decide +kernel
theorem dX7_wantedBehind_81 : decode cX7_wantedBehind 81 = .ok (.iadd, 1) := by decide +kernel
theorem dX7_wantedBehind_82 : decode cX7_wantedBehind 82 = .ok (.invokevirtual 66, 3) := by decide +kernel
theorem dX7_wantedBehind_85 : decode cX7_wantedBehind 85 = .ok (.goto 9, 3) := by decide +kernel
theorem dX7_wantedBehind_88 : decode cX7_wantedBehind 88 = .ok (.aload_n 0, 1) := by decide +kernel
theorem dX7_wantedBehind_89 : decode cX7_wantedBehind 89 = .ok (.iload_n 1, 1) := by decide +kernel
theorem dX7_wantedBehind_90 : decode cX7_wantedBehind 90 = .ok (.iload_n 3, 1) := by decide +kernel
theorem dX7_wantedBehind_91 : decode cX7_wantedBehind 91 = .ok (.invokevirtual 69, 3) := by decide +kernel
theorem dX7_wantedBehind_94 : decode cX7_wantedBehind 94 = .ok (.ireturn, 1) := by decide +kernel
theorem dX7_beginAct_0 : decode cX7_beginAct 0 = .ok (.iload_n 2, 1) := by decide +kernel
theorem dX7_beginAct_1 : decode cX7_beginAct 1 = .ok (.lookupswitch 161 #[(2, 134), (37, 99), (42, 132), (43, 110), (44, 99), (45, 99), (46, 99), (60, 110), (61, 110), (62, 110), (64, 121)], 99) := by decide +kernel
theorem dX7_beginAct_100 : decode cX7_beginAct 100 = .ok (.aload_n 0, 1) := by decide +kernel
theorem dX7_beginAct_101 : decode cX7_beginAct 101 = .ok (.getfield 21, 3) := by decide +kernel
theorem dX7_beginAct_104 : decode cX7_beginAct 104 = .ok (.iload_n 1, 1) := by decide +kernel
theorem dX7_beginAct_105 : decode cX7_beginAct 105 = .ok (.iload_n 1, 1) := by decide +kernel
theorem dX7_beginAct_106 : decode cX7_beginAct 106 = .ok (.iconst 1, 1) := by decide +kernel
theorem dX7_beginAct_107 : decode cX7_beginAct 107 = .ok (.iadd, 1) := by decide +kernel
theorem dX7_beginAct_108 : decode cX7_beginAct 108 = .ok (.iastore, 1) := by decide +kernel
theorem dX7_beginAct_109 : decode cX7_beginAct 109 = .ok (.iconst 0, 1) := by decide +kernel
theorem dX7_beginAct_110 : decode cX7_beginAct 110 = .ok (.ireturn, 1) := by decide +kernel
theorem dX7_beginAct_111 : decode cX7_beginAct 111 = .ok (.aload_n 0, 1) := by decide +kernel
theorem dX7_beginAct_112 : decode cX7_beginAct 112 = .ok (.getfield 21, 3) := by decide +kernel
theorem dX7_beginAct_115 : decode cX7_beginAct 115 = .ok (.iload_n 1, 1) := by decide +kernel
theorem dX7_beginAct_116 : decode cX7_beginAct 116 = .ok (.iload_n 1, 1) := by decide +kernel
theorem dX7_beginAct_117 : decode cX7_beginAct 117 = .ok (.iconst 2, 1) := by decide +kernel
theorem dX7_beginAct_118 : decode cX7_beginAct 118 = .ok (.iadd, 1) := by decide +kernel
theorem dX7_beginAct_119 : decode cX7_beginAct 119 = .ok (.iastore, 1) := by decide +kernel
theorem dX7_beginAct_120 : decode cX7_beginAct 120 = .ok (.iconst 1, 1) := by decide +kernel
theorem dX7_beginAct_121 : decode cX7_beginAct 121 = .ok (.ireturn, 1) := by decide +kernel
theorem dX7_beginAct_122 : decode cX7_beginAct 122 = .ok (.aload_n 0, 1) := by decide +kernel
theorem dX7_beginAct_123 : decode cX7_beginAct 123 = .ok (.getfield 21, 3) := by decide +kernel
theorem dX7_beginAct_126 : decode cX7_beginAct 126 = .ok (.iload_n 1, 1) := by decide +kernel
theorem dX7_beginAct_127 : decode cX7_beginAct 127 = .ok (.iload_n 1, 1) := by decide +kernel
theorem dX7_beginAct_128 : decode cX7_beginAct 128 = .ok (.iconst 2, 1) := by decide +kernel
theorem dX7_beginAct_129 : decode cX7_beginAct 129 = .ok (.iadd, 1) := by decide +kernel
theorem dX7_beginAct_130 : decode cX7_beginAct 130 = .ok (.iastore, 1) := by decide +kernel
theorem dX7_beginAct_131 : decode cX7_beginAct 131 = .ok (.iconst 2, 1) := by decide +kernel
theorem dX7_beginAct_132 : decode cX7_beginAct 132 = .ok (.ireturn, 1) := by decide +kernel
theorem dX7_beginAct_133 : decode cX7_beginAct 133 = .ok (.iconst 3, 1) := by decide +kernel
theorem dX7_beginAct_134 : decode cX7_beginAct 134 = .ok (.ireturn, 1) := by decide +kernel
theorem dX7_beginAct_135 : decode cX7_beginAct 135 = .ok (.aload_n 0, 1) := by decide +kernel
theorem dX7_beginAct_136 : decode cX7_beginAct 136 = .ok (.getfield 15, 3) := by decide +kernel
theorem dX7_beginAct_139 : decode cX7_beginAct 139 = .ok (.iload_n 1, 1) := by decide +kernel
theorem dX7_beginAct_140 : decode cX7_beginAct 140 = .ok (.iaload, 1) := by decide +kernel
theorem dX7_beginAct_141 : decode cX7_beginAct 141 = .ok (.iconst 1, 1) := by decide +kernel
theorem dX7_beginAct_142 : decode cX7_beginAct 142 = .ok (.if_icmp .lt 18, 3) := by decide +kernel
theorem dX7_beginAct_145 : decode cX7_beginAct 145 = .ok (.aload_n 0, 1) := by decide +kernel
theorem dX7_beginAct_146 : decode cX7_beginAct 146 = .ok (.getfield 15, 3) := by decide +kernel
theorem dX7_beginAct_149 : decode cX7_beginAct 149 = .ok (.iload_n 1, 1) := by decide +kernel
theorem dX7_beginAct_150 : decode cX7_beginAct 150 = .ok (.iaload, 1) := by decide +kernel
theorem dX7_beginAct_151 : decode cX7_beginAct 151 = .ok (.bipush 20, 2) := by decide +kernel
theorem dX7_beginAct_153 : decode cX7_beginAct 153 = .ok (.if_icmp .gt 7, 3) := by decide +kernel
theorem dX7_beginAct_156 : decode cX7_beginAct 156 = .ok (.iconst 3, 1) := by decide +kernel
theorem dX7_beginAct_157 : decode cX7_beginAct 157 = .ok (.goto 4, 3) := by decide +kernel
theorem dX7_beginAct_160 : decode cX7_beginAct 160 = .ok (.iconst 4, 1) := by decide +kernel
theorem dX7_beginAct_161 : decode cX7_beginAct 161 = .ok (.ireturn, 1) := by decide +kernel
theorem dX7_beginAct_162 : decode cX7_beginAct 162 = .ok (.iconst 4, 1) := by decide +kernel
theorem dX7_beginAct_163 : decode cX7_beginAct 163 = .ok (.ireturn, 1) := by decide +kernel
theorem dX7_open_0 : decode cX7_open 0 = .ok (.aload_n 0, 1) := by decide +kernel
theorem dX7_open_1 : decode cX7_open 1 = .ok (.getfield 54, 3) := by decide +kernel
theorem dX7_open_4 : decode cX7_open 4 = .ok (.iconst 4, 1) := by decide +kernel
theorem dX7_open_5 : decode cX7_open 5 = .ok (.if_icmp .lt 5, 3) := by decide +kernel
theorem dX7_open_8 : decode cX7_open 8 = .ok (.iconst 4, 1) := by decide +kernel
theorem dX7_open_9 : decode cX7_open 9 = .ok (.ireturn, 1) := by decide +kernel
theorem dX7_open_10 : decode cX7_open 10 = .ok (.aload_n 0, 1) := by decide +kernel
theorem dX7_open_11 : decode cX7_open 11 = .ok (.getfield 24, 3) := by decide +kernel
theorem dX7_open_14 : decode cX7_open 14 = .ok (.aload_n 0, 1) := by decide +kernel
theorem dX7_open_15 : decode cX7_open 15 = .ok (.getfield 54, 3) := by decide +kernel
theorem dX7_open_18 : decode cX7_open 18 = .ok (.iload_n 1, 1) := by decide +kernel
theorem dX7_open_19 : decode cX7_open 19 = .ok (.iastore, 1) := by decide +kernel
theorem dX7_open_20 : decode cX7_open 20 = .ok (.aload_n 0, 1) := by decide +kernel
theorem dX7_open_21 : decode cX7_open 21 = .ok (.dup, 1) := by decide +kernel
theorem dX7_open_22 : decode cX7_open 22 = .ok (.getfield 54, 3) := by decide +kernel
theorem dX7_open_25 : decode cX7_open 25 = .ok (.iconst 1, 1) := by decide +kernel
theorem dX7_open_26 : decode cX7_open 26 = .ok (.iadd, 1) := by decide +kernel
theorem dX7_open_27 : decode cX7_open 27 = .ok (.putfield 54, 3) := by decide +kernel
theorem dX7_open_30 : decode cX7_open 30 = .ok (.iconst 0, 1) := by decide +kernel
theorem dX7_open_31 : decode cX7_open 31 = .ok (.ireturn, 1) := by decide +kernel
theorem dX7_close_0 : decode cX7_close 0 = .ok (.aload_n 0, 1) := by decide +kernel
theorem dX7_close_1 : decode cX7_close 1 = .ok (.getfield 54, 3) := by decide +kernel
theorem dX7_close_4 : decode cX7_close 4 = .ok (.iconst 1, 1) := by decide +kernel
theorem dX7_close_5 : decode cX7_close 5 = .ok (.if_icmp .ge 5, 3) := by decide +kernel
theorem dX7_close_8 : decode cX7_close 8 = .ok (.iconst 4, 1) := by decide +kernel
theorem dX7_close_9 : decode cX7_close 9 = .ok (.ireturn, 1) := by decide +kernel
theorem dX7_close_10 : decode cX7_close 10 = .ok (.aload_n 0, 1) := by decide +kernel
theorem dX7_close_11 : decode cX7_close 11 = .ok (.dup, 1) := by decide +kernel
theorem dX7_close_12 : decode cX7_close 12 = .ok (.getfield 54, 3) := by decide +kernel
theorem dX7_close_15 : decode cX7_close 15 = .ok (.iconst 1, 1) := by decide +kernel
theorem dX7_close_16 : decode cX7_close 16 = .ok (.isub, 1) := by decide +kernel
theorem dX7_close_17 : decode cX7_close 17 = .ok (.putfield 54, 3) := by decide +kernel
theorem dX7_close_20 : decode cX7_close 20 = .ok (.aload_n 0, 1) := by decide +kernel
theorem dX7_close_21 : decode cX7_close 21 = .ok (.getfield 21, 3) := by decide +kernel
theorem dX7_close_24 : decode cX7_close 24 = .ok (.aload_n 0, 1) := by decide +kernel
theorem dX7_close_25 : decode cX7_close 25 = .ok (.getfield 24, 3) := by decide +kernel
theorem dX7_close_28 : decode cX7_close 28 = .ok (.aload_n 0, 1) := by decide +kernel
theorem dX7_close_29 : decode cX7_close 29 = .ok (.getfield 54, 3) := by decide +kernel
theorem dX7_close_32 : decode cX7_close 32 = .ok (.iaload, 1) := by decide +kernel
theorem dX7_close_33 : decode cX7_close 33 = .ok (.iload_n 1, 1) := by decide +kernel
theorem dX7_close_34 : decode cX7_close 34 = .ok (.iastore, 1) := by decide +kernel
theorem dX7_close_35 : decode cX7_close 35 = .ok (.iconst 0, 1) := by decide +kernel
theorem dX7_close_36 : decode cX7_close 36 = .ok (.ireturn, 1) := by decide +kernel
theorem dX8_init_0 : decode cX8_init 0 = .ok (.aload_n 0, 1) := by decide +kernel
theorem dX8_init_1 : decode cX8_init 1 = .ok (.invokespecial 3, 3) := by decide +kernel
theorem dX8_init_4 : decode cX8_init 4 = .ok (.aload_n 0, 1) := by decide +kernel
theorem dX8_init_5 : decode cX8_init 5 = .ok (.sipush 300, 3) := by decide +kernel
theorem dX8_init_8 : decode cX8_init 8 = .ok (.newarray .int, 2) := by decide +kernel
theorem dX8_init_10 : decode cX8_init 10 = .ok (.putfield 9, 3) := by decide +kernel
theorem dX8_init_13 : decode cX8_init 13 = .ok (.return_, 1) := by decide +kernel
theorem dX8_bytesIn_0 : decode cX8_bytesIn 0 = .ok (.iconst 0, 1) := by decide +kernel
theorem dX8_bytesIn_1 : decode cX8_bytesIn 1 = .ok (.istore_n 1, 1) := by decide +kernel
theorem dX8_bytesIn_2 : decode cX8_bytesIn 2 = .ok (.bipush 24, 2) := by decide +kernel
theorem dX8_bytesIn_4 : decode cX8_bytesIn 4 = .ok (.istore_n 2, 1) := by decide +kernel
theorem dX8_bytesIn_5 : decode cX8_bytesIn 5 = .ok (.iload_n 2, 1) := by decide +kernel
theorem dX8_bytesIn_6 : decode cX8_bytesIn 6 = .ok (.ifCond .lt 22, 3) := by decide +kernel
theorem dX8_bytesIn_9 : decode cX8_bytesIn 9 = .ok (.iload_n 0, 1) := by decide +kernel
theorem dX8_bytesIn_10 : decode cX8_bytesIn 10 = .ok (.iload_n 2, 1) := by decide +kernel
theorem dX8_bytesIn_11 : decode cX8_bytesIn 11 = .ok (.iushr, 1) := by decide +kernel
theorem dX8_bytesIn_12 : decode cX8_bytesIn 12 = .ok (.sipush 255, 3) := by decide +kernel
theorem dX8_bytesIn_15 : decode cX8_bytesIn 15 = .ok (.iand, 1) := by decide +kernel
theorem dX8_bytesIn_16 : decode cX8_bytesIn 16 = .ok (.ifCond .eq 6, 3) := by decide +kernel
theorem dX8_bytesIn_19 : decode cX8_bytesIn 19 = .ok (.iinc 1 1, 3) := by decide +kernel
theorem dX8_bytesIn_22 : decode cX8_bytesIn 22 = .ok (.iinc 2 (-8), 3) := by decide +kernel
theorem dX8_bytesIn_25 : decode cX8_bytesIn 25 = .ok (.goto (-20), 3) := by decide +kernel
theorem dX8_bytesIn_28 : decode cX8_bytesIn 28 = .ok (.iload_n 1, 1) := by decide +kernel
theorem dX8_bytesIn_29 : decode cX8_bytesIn 29 = .ok (.ireturn, 1) := by decide +kernel
theorem dX8_take_0 : decode cX8_take 0 = .ok (.bipush 24, 2) := by decide +kernel
theorem dX8_take_2 : decode cX8_take 2 = .ok (.istore_n 2, 1) := by decide +kernel
theorem dX8_take_3 : decode cX8_take 3 = .ok (.iload_n 2, 1) := by decide +kernel
theorem dX8_take_4 : decode cX8_take 4 = .ok (.ifCond .lt 51, 3) := by decide +kernel
theorem dX8_take_7 : decode cX8_take 7 = .ok (.iload_n 1, 1) := by decide +kernel
theorem dX8_take_8 : decode cX8_take 8 = .ok (.iload_n 2, 1) := by decide +kernel
theorem dX8_take_9 : decode cX8_take 9 = .ok (.iushr, 1) := by decide +kernel
theorem dX8_take_10 : decode cX8_take 10 = .ok (.sipush 255, 3) := by decide +kernel
theorem dX8_take_13 : decode cX8_take 13 = .ok (.iand, 1) := by decide +kernel
theorem dX8_take_14 : decode cX8_take 14 = .ok (.istore_n 3, 1) := by decide +kernel
theorem dX8_take_15 : decode cX8_take 15 = .ok (.iload_n 3, 1) := by decide +kernel
theorem dX8_take_16 : decode cX8_take 16 = .ok (.ifCond .eq 33, 3) := by decide +kernel
theorem dX8_take_19 : decode cX8_take 19 = .ok (.aload_n 0, 1) := by decide +kernel
theorem dX8_take_20 : decode cX8_take 20 = .ok (.getfield 15, 3) := by decide +kernel
theorem dX8_take_23 : decode cX8_take 23 = .ok (.sipush 300, 3) := by decide +kernel
theorem dX8_take_26 : decode cX8_take 26 = .ok (.if_icmp .ge 23, 3) := by decide +kernel
theorem dX8_take_29 : decode cX8_take 29 = .ok (.aload_n 0, 1) := by decide +kernel
theorem dX8_take_30 : decode cX8_take 30 = .ok (.getfield 9, 3) := by decide +kernel
theorem dX8_take_33 : decode cX8_take 33 = .ok (.aload_n 0, 1) := by decide +kernel
theorem dX8_take_34 : decode cX8_take 34 = .ok (.getfield 15, 3) := by decide +kernel
theorem dX8_take_37 : decode cX8_take 37 = .ok (.iload_n 3, 1) := by decide +kernel
theorem dX8_take_38 : decode cX8_take 38 = .ok (.iastore, 1) := by decide +kernel
theorem dX8_take_39 : decode cX8_take 39 = .ok (.aload_n 0, 1) := by decide +kernel
theorem dX8_take_40 : decode cX8_take 40 = .ok (.dup, 1) := by decide +kernel
theorem dX8_take_41 : decode cX8_take 41 = .ok (.getfield 15, 3) := by decide +kernel
theorem dX8_take_44 : decode cX8_take 44 = .ok (.iconst 1, 1) := by decide +kernel
theorem dX8_take_45 : decode cX8_take 45 = .ok (.iadd, 1) := by decide +kernel
theorem dX8_take_46 : decode cX8_take 46 = .ok (.putfield 15, 3) := by decide +kernel
theorem dX8_take_49 : decode cX8_take 49 = .ok (.iinc 2 (-8), 3) := by decide +kernel
theorem dX8_take_52 : decode cX8_take 52 = .ok (.goto (-49), 3) := by decide +kernel
theorem dX8_take_55 : decode cX8_take 55 = .ok (.return_, 1) := by decide +kernel
theorem dX9_init_0 : decode cX9_init 0 = .ok (.aload_n 0, 1) := by decide +kernel
theorem dX9_init_1 : decode cX9_init 1 = .ok (.invokespecial 1, 3) := by decide +kernel
theorem dX9_init_4 : decode cX9_init 4 = .ok (.aload_n 0, 1) := by decide +kernel
theorem dX9_init_5 : decode cX9_init 5 = .ok (.new 7, 3) := by decide +kernel
theorem dX9_init_8 : decode cX9_init 8 = .ok (.dup, 1) := by decide +kernel
theorem dX9_init_9 : decode cX9_init 9 = .ok (.invokespecial 9, 3) := by decide +kernel
theorem dX9_init_12 : decode cX9_init 12 = .ok (.putfield 10, 3) := by decide +kernel
theorem dX9_init_15 : decode cX9_init 15 = .ok (.aload_n 0, 1) := by decide +kernel
theorem dX9_init_16 : decode cX9_init 16 = .ok (.new 16, 3) := by decide +kernel
theorem dX9_init_19 : decode cX9_init 19 = .ok (.dup, 1) := by decide +kernel
theorem dX9_init_20 : decode cX9_init 20 = .ok (.invokespecial 18, 3) := by decide +kernel
theorem dX9_init_23 : decode cX9_init 23 = .ok (.putfield 19, 3) := by decide +kernel
theorem dX9_init_26 : decode cX9_init 26 = .ok (.aload_n 0, 1) := by decide +kernel
theorem dX9_init_27 : decode cX9_init 27 = .ok (.new 23, 3) := by decide +kernel
theorem dX9_init_30 : decode cX9_init 30 = .ok (.dup, 1) := by decide +kernel
theorem dX9_init_31 : decode cX9_init 31 = .ok (.invokespecial 25, 3) := by decide +kernel
theorem dX9_init_34 : decode cX9_init 34 = .ok (.putfield 26, 3) := by decide +kernel
theorem dX9_init_37 : decode cX9_init 37 = .ok (.aload_n 0, 1) := by decide +kernel
theorem dX9_init_38 : decode cX9_init 38 = .ok (.iconst (-1), 1) := by decide +kernel
theorem dX9_init_39 : decode cX9_init 39 = .ok (.putfield 30, 3) := by decide +kernel
theorem dX9_init_42 : decode cX9_init 42 = .ok (.aload_n 0, 1) := by decide +kernel
theorem dX9_init_43 : decode cX9_init 43 = .ok (.iconst 0, 1) := by decide +kernel
theorem dX9_init_44 : decode cX9_init 44 = .ok (.putfield 34, 3) := by decide +kernel
theorem dX9_init_47 : decode cX9_init 47 = .ok (.aload_n 0, 1) := by decide +kernel
theorem dX9_init_48 : decode cX9_init 48 = .ok (.sipush 701, 3) := by decide +kernel
theorem dX9_init_51 : decode cX9_init 51 = .ok (.newarray .char, 2) := by decide +kernel
theorem dX9_init_53 : decode cX9_init 53 = .ok (.putfield 37, 3) := by decide +kernel
theorem dX9_init_56 : decode cX9_init 56 = .ok (.return_, 1) := by decide +kernel
theorem dX9_next_0 : decode cX9_next 0 = .ok (.aload_n 0, 1) := by decide +kernel
theorem dX9_next_1 : decode cX9_next 1 = .ok (.getfield 10, 3) := by decide +kernel
theorem dX9_next_4 : decode cX9_next 4 = .ok (.iconst 0, 1) := by decide +kernel
theorem dX9_next_5 : decode cX9_next 5 = .ok (.invokevirtual 41, 3) := by decide +kernel
theorem dX9_next_8 : decode cX9_next 8 = .ok (.ireturn, 1) := by decide +kernel
theorem dX9_previous_0 : decode cX9_previous 0 = .ok (.aload_n 0, 1) := by decide +kernel
theorem dX9_previous_1 : decode cX9_previous 1 = .ok (.getfield 10, 3) := by decide +kernel
theorem dX9_previous_4 : decode cX9_previous 4 = .ok (.iconst 1, 1) := by decide +kernel
theorem dX9_previous_5 : decode cX9_previous 5 = .ok (.invokevirtual 41, 3) := by decide +kernel
theorem dX9_previous_8 : decode cX9_previous 8 = .ok (.ireturn, 1) := by decide +kernel
theorem dX9_add_0 : decode cX9_add 0 = .ok (.iload_n 1, 1) := by decide +kernel
theorem dX9_add_1 : decode cX9_add 1 = .ok (.invokestatic 45, 3) := by decide +kernel
theorem dX9_add_4 : decode cX9_add 4 = .ok (.aload_n 0, 1) := by decide +kernel
theorem dX9_add_5 : decode cX9_add 5 = .ok (.getfield 10, 3) := by decide +kernel
theorem dX9_add_8 : decode cX9_add 8 = .ok (.iload_n 1, 1) := by decide +kernel
theorem dX9_add_9 : decode cX9_add 9 = .ok (.invokevirtual 49, 3) := by decide +kernel
theorem dX9_add_12 : decode cX9_add 12 = .ok (.ireturn, 1) := by decide +kernel
theorem dX9_set_0 : decode cX9_set 0 = .ok (.iload_n 1, 1) := by decide +kernel
theorem dX9_set_1 : decode cX9_set 1 = .ok (.invokestatic 45, 3) := by decide +kernel
theorem dX9_set_4 : decode cX9_set 4 = .ok (.aload_n 0, 1) := by decide +kernel
theorem dX9_set_5 : decode cX9_set 5 = .ok (.getfield 10, 3) := by decide +kernel
theorem dX9_set_8 : decode cX9_set 8 = .ok (.iload_n 1, 1) := by decide +kernel
theorem dX9_set_9 : decode cX9_set 9 = .ok (.invokevirtual 53, 3) := by decide +kernel
theorem dX9_set_12 : decode cX9_set 12 = .ok (.ireturn, 1) := by decide +kernel
theorem dX9_remove_0 : decode cX9_remove 0 = .ok (.aload_n 0, 1) := by decide +kernel
theorem dX9_remove_1 : decode cX9_remove 1 = .ok (.getfield 10, 3) := by decide +kernel
theorem dX9_remove_4 : decode cX9_remove 4 = .ok (.invokevirtual 56, 3) := by decide +kernel
theorem dX9_remove_7 : decode cX9_remove 7 = .ok (.ireturn, 1) := by decide +kernel
theorem dX9_move_0 : decode cX9_move 0 = .ok (.aload_n 0, 1) := by decide +kernel
theorem dX9_move_1 : decode cX9_move 1 = .ok (.getfield 10, 3) := by decide +kernel
theorem dX9_move_4 : decode cX9_move 4 = .ok (.iload_n 1, 1) := by decide +kernel
theorem dX9_move_5 : decode cX9_move 5 = .ok (.invokevirtual 60, 3) := by decide +kernel
theorem dX9_move_8 : decode cX9_move 8 = .ok (.ireturn, 1) := by decide +kernel
theorem dX9_find_0 : decode cX9_find 0 = .ok (.iload_n 1, 1) := by decide +kernel
theorem dX9_find_1 : decode cX9_find 1 = .ok (.invokestatic 45, 3) := by decide +kernel
theorem dX9_find_4 : decode cX9_find 4 = .ok (.aload_n 0, 1) := by decide +kernel
theorem dX9_find_5 : decode cX9_find 5 = .ok (.getfield 10, 3) := by decide +kernel
theorem dX9_find_8 : decode cX9_find 8 = .ok (.iload_n 1, 1) := by decide +kernel
theorem dX9_find_9 : decode cX9_find 9 = .ok (.iload_n 2, 1) := by decide +kernel
theorem dX9_find_10 : decode cX9_find 10 = .ok (.invokevirtual 63, 3) := by decide +kernel
theorem dX9_find_13 : decode cX9_find 13 = .ok (.ireturn, 1) := by decide +kernel
theorem dX9_swap_0 : decode cX9_swap 0 = .ok (.aload_n 0, 1) := by decide +kernel
theorem dX9_swap_1 : decode cX9_swap 1 = .ok (.getfield 10, 3) := by decide +kernel
theorem dX9_swap_4 : decode cX9_swap 4 = .ok (.invokevirtual 67, 3) := by decide +kernel
theorem dX9_swap_7 : decode cX9_swap 7 = .ok (.ireturn, 1) := by decide +kernel
theorem dX9_undo_0 : decode cX9_undo 0 = .ok (.aload_n 0, 1) := by decide +kernel
theorem dX9_undo_1 : decode cX9_undo 1 = .ok (.getfield 10, 3) := by decide +kernel
theorem dX9_undo_4 : decode cX9_undo 4 = .ok (.invokevirtual 70, 3) := by decide +kernel
theorem dX9_undo_7 : decode cX9_undo 7 = .ok (.ireturn, 1) := by decide +kernel
theorem dX9_undoable_0 : decode cX9_undoable 0 = .ok (.aload_n 0, 1) := by decide +kernel
theorem dX9_undoable_1 : decode cX9_undoable 1 = .ok (.getfield 10, 3) := by decide +kernel
theorem dX9_undoable_4 : decode cX9_undoable 4 = .ok (.getfield 73, 3) := by decide +kernel
theorem dX9_undoable_7 : decode cX9_undoable 7 = .ok (.getfield 77, 3) := by decide +kernel
theorem dX9_undoable_10 : decode cX9_undoable 10 = .ok (.ireturn, 1) := by decide +kernel
theorem dX9_append_0 : decode cX9_append 0 = .ok (.iload_n 1, 1) := by decide +kernel
theorem dX9_append_1 : decode cX9_append 1 = .ok (.invokestatic 82, 3) := by decide +kernel
theorem dX9_append_4 : decode cX9_append 4 = .ok (.iload_n 2, 1) := by decide +kernel
theorem dX9_append_5 : decode cX9_append 5 = .ok (.invokestatic 82, 3) := by decide +kernel
theorem dX9_append_8 : decode cX9_append 8 = .ok (.iadd, 1) := by decide +kernel
theorem dX9_append_9 : decode cX9_append 9 = .ok (.iload_n 3, 1) := by decide +kernel
theorem dX9_append_10 : decode cX9_append 10 = .ok (.invokestatic 82, 3) := by decide +kernel
theorem dX9_append_13 : decode cX9_append 13 = .ok (.iadd, 1) := by decide +kernel
theorem dX9_append_14 : decode cX9_append 14 = .ok (.iload 4, 2) := by decide +kernel
theorem dX9_append_16 : decode cX9_append 16 = .ok (.invokestatic 82, 3) := by decide +kernel
theorem dX9_append_19 : decode cX9_append 19 = .ok (.iadd, 1) := by decide +kernel
theorem dX9_append_20 : decode cX9_append 20 = .ok (.iload 5, 2) := by decide +kernel
theorem dX9_append_22 : decode cX9_append 22 = .ok (.invokestatic 82, 3) := by decide +kernel
theorem dX9_append_25 : decode cX9_append 25 = .ok (.iadd, 1) := by decide +kernel
theorem dX9_append_26 : decode cX9_append 26 = .ok (.istore 6, 2) := by decide +kernel
theorem dX9_append_28 : decode cX9_append 28 = .ok (.aload_n 0, 1) := by decide +kernel
theorem dX9_append_29 : decode cX9_append 29 = .ok (.getfield 19, 3) := by decide +kernel
theorem dX9_append_32 : decode cX9_append 32 = .ok (.getfield 85, 3) := by decide +kernel
theorem dX9_append_35 : decode cX9_append 35 = .ok (.iload 6, 2) := by decide +kernel
theorem dX9_append_37 : decode cX9_append 37 = .ok (.iadd, 1) := by decide +kernel
theorem dX9_append_38 : decode cX9_append 38 = .ok (.sipush 300, 3) := by decide +kernel
theorem dX9_append_41 : decode cX9_append 41 = .ok (.if_icmp .le 11, 3) := by decide +kernel
theorem dX9_append_44 : decode cX9_append 44 = .ok (.new 88, 3) := by decide +kernel
theorem dX9_append_47 : decode cX9_append 47 = .ok (.dup, 1) := by decide +kernel
theorem dX9_append_48 : decode cX9_append 48 = .ok (.invokespecial 90, 3) := by decide +kernel
theorem dX9_append_51 : decode cX9_append 51 = .ok (.athrow, 1) := by decide +kernel
theorem dX9_append_52 : decode cX9_append 52 = .ok (.aload_n 0, 1) := by decide +kernel
theorem dX9_append_53 : decode cX9_append 53 = .ok (.getfield 19, 3) := by decide +kernel
theorem dX9_append_56 : decode cX9_append 56 = .ok (.iload_n 1, 1) := by decide +kernel
theorem dX9_append_57 : decode cX9_append 57 = .ok (.invokevirtual 91, 3) := by decide +kernel
theorem dX9_append_60 : decode cX9_append 60 = .ok (.aload_n 0, 1) := by decide +kernel
theorem dX9_append_61 : decode cX9_append 61 = .ok (.getfield 19, 3) := by decide +kernel
theorem dX9_append_64 : decode cX9_append 64 = .ok (.iload_n 2, 1) := by decide +kernel
theorem dX9_append_65 : decode cX9_append 65 = .ok (.invokevirtual 91, 3) := by decide +kernel
theorem dX9_append_68 : decode cX9_append 68 = .ok (.aload_n 0, 1) := by decide +kernel
theorem dX9_append_69 : decode cX9_append 69 = .ok (.getfield 19, 3) := by decide +kernel
theorem dX9_append_72 : decode cX9_append 72 = .ok (.iload_n 3, 1) := by decide +kernel
theorem dX9_append_73 : decode cX9_append 73 = .ok (.invokevirtual 91, 3) := by decide +kernel
theorem dX9_append_76 : decode cX9_append 76 = .ok (.aload_n 0, 1) := by decide +kernel
theorem dX9_append_77 : decode cX9_append 77 = .ok (.getfield 19, 3) := by decide +kernel
theorem dX9_append_80 : decode cX9_append 80 = .ok (.iload 4, 2) := by decide +kernel
theorem dX9_append_82 : decode cX9_append 82 = .ok (.invokevirtual 91, 3) := by decide +kernel
theorem dX9_append_85 : decode cX9_append 85 = .ok (.aload_n 0, 1) := by decide +kernel
theorem dX9_append_86 : decode cX9_append 86 = .ok (.getfield 19, 3) := by decide +kernel
theorem dX9_append_89 : decode cX9_append 89 = .ok (.iload 5, 2) := by decide +kernel
theorem dX9_append_91 : decode cX9_append 91 = .ok (.invokevirtual 91, 3) := by decide +kernel
theorem dX9_append_94 : decode cX9_append 94 = .ok (.aload_n 0, 1) := by decide +kernel
theorem dX9_append_95 : decode cX9_append 95 = .ok (.getfield 19, 3) := by decide +kernel
theorem dX9_append_98 : decode cX9_append 98 = .ok (.getfield 85, 3) := by decide +kernel
theorem dX9_append_101 : decode cX9_append 101 = .ok (.ireturn, 1) := by decide +kernel
theorem dX9_clearTape_0 : decode cX9_clearTape 0 = .ok (.aload_n 0, 1) := by decide +kernel
theorem dX9_clearTape_1 : decode cX9_clearTape 1 = .ok (.getfield 19, 3) := by decide +kernel
theorem dX9_clearTape_4 : decode cX9_clearTape 4 = .ok (.getfield 85, 3) := by decide +kernel
theorem dX9_clearTape_7 : decode cX9_clearTape 7 = .ok (.istore_n 1, 1) := by decide +kernel
theorem dX9_clearTape_8 : decode cX9_clearTape 8 = .ok (.aload_n 0, 1) := by decide +kernel
theorem dX9_clearTape_9 : decode cX9_clearTape 9 = .ok (.getfield 19, 3) := by decide +kernel
theorem dX9_clearTape_12 : decode cX9_clearTape 12 = .ok (.iconst 0, 1) := by decide +kernel
theorem dX9_clearTape_13 : decode cX9_clearTape 13 = .ok (.putfield 85, 3) := by decide +kernel
theorem dX9_clearTape_16 : decode cX9_clearTape 16 = .ok (.iload_n 1, 1) := by decide +kernel
theorem dX9_clearTape_17 : decode cX9_clearTape 17 = .ok (.ireturn, 1) := by decide +kernel
theorem dX9_fill_0 : decode cX9_fill 0 = .ok (.aload_n 0, 1) := by decide +kernel
theorem dX9_fill_1 : decode cX9_fill 1 = .ok (.getfield 26, 3) := by decide +kernel
theorem dX9_fill_4 : decode cX9_fill 4 = .ok (.aload_n 0, 1) := by decide +kernel
theorem dX9_fill_5 : decode cX9_fill 5 = .ok (.getfield 19, 3) := by decide +kernel
theorem dX9_fill_8 : decode cX9_fill 8 = .ok (.invokevirtual 94, 3) := by decide +kernel
theorem dX9_fill_11 : decode cX9_fill 11 = .ok (.aload_n 0, 1) := by decide +kernel
theorem dX9_fill_12 : decode cX9_fill 12 = .ok (.aload_n 0, 1) := by decide +kernel
theorem dX9_fill_13 : decode cX9_fill 13 = .ok (.getfield 26, 3) := by decide +kernel
theorem dX9_fill_16 : decode cX9_fill 16 = .ok (.invokevirtual 98, 3) := by decide +kernel
theorem dX9_fill_19 : decode cX9_fill 19 = .ok (.putfield 30, 3) := by decide +kernel
theorem dX9_fill_22 : decode cX9_fill 22 = .ok (.aload_n 0, 1) := by decide +kernel
theorem dX9_fill_23 : decode cX9_fill 23 = .ok (.getfield 19, 3) := by decide +kernel
theorem dX9_fill_26 : decode cX9_fill 26 = .ok (.iconst 0, 1) := by decide +kernel
theorem dX9_fill_27 : decode cX9_fill 27 = .ok (.putfield 85, 3) := by decide +kernel
theorem dX9_fill_30 : decode cX9_fill 30 = .ok (.aload_n 0, 1) := by decide +kernel
theorem dX9_fill_31 : decode cX9_fill 31 = .ok (.getfield 30, 3) := by decide +kernel
theorem dX9_fill_34 : decode cX9_fill 34 = .ok (.iconst (-1), 1) := by decide +kernel
theorem dX9_fill_35 : decode cX9_fill 35 = .ok (.if_icmp .eq 11, 3) := by decide +kernel
theorem dX9_fill_38 : decode cX9_fill 38 = .ok (.new 101, 3) := by decide +kernel
theorem dX9_fill_41 : decode cX9_fill 41 = .ok (.dup, 1) := by decide +kernel
theorem dX9_fill_42 : decode cX9_fill 42 = .ok (.invokespecial 103, 3) := by decide +kernel
theorem dX9_fill_45 : decode cX9_fill 45 = .ok (.athrow, 1) := by decide +kernel
theorem dX9_fill_46 : decode cX9_fill 46 = .ok (.aload_n 0, 1) := by decide +kernel
theorem dX9_fill_47 : decode cX9_fill 47 = .ok (.getfield 10, 3) := by decide +kernel
theorem dX9_fill_50 : decode cX9_fill 50 = .ok (.invokevirtual 104, 3) := by decide +kernel
theorem dX9_fill_53 : decode cX9_fill 53 = .ok (.iconst 0, 1) := by decide +kernel
theorem dX9_fill_54 : decode cX9_fill 54 = .ok (.istore_n 1, 1) := by decide +kernel
theorem dX9_fill_55 : decode cX9_fill 55 = .ok (.iload_n 1, 1) := by decide +kernel
theorem dX9_fill_56 : decode cX9_fill 56 = .ok (.aload_n 0, 1) := by decide +kernel
theorem dX9_fill_57 : decode cX9_fill 57 = .ok (.getfield 26, 3) := by decide +kernel
theorem dX9_fill_60 : decode cX9_fill 60 = .ok (.getfield 107, 3) := by decide +kernel
theorem dX9_fill_63 : decode cX9_fill 63 = .ok (.if_icmp .ge 28, 3) := by decide +kernel
theorem dX9_fill_66 : decode cX9_fill 66 = .ok (.aload_n 0, 1) := by decide +kernel
theorem dX9_fill_67 : decode cX9_fill 67 = .ok (.getfield 10, 3) := by decide +kernel
theorem dX9_fill_70 : decode cX9_fill 70 = .ok (.getfield 110, 3) := by decide +kernel
theorem dX9_fill_73 : decode cX9_fill 73 = .ok (.aload_n 0, 1) := by decide +kernel
theorem dX9_fill_74 : decode cX9_fill 74 = .ok (.getfield 26, 3) := by decide +kernel
theorem dX9_fill_77 : decode cX9_fill 77 = .ok (.iload_n 1, 1) := by decide +kernel
theorem dX9_fill_78 : decode cX9_fill 78 = .ok (.invokevirtual 114, 3) := by decide +kernel
theorem dX9_fill_81 : decode cX9_fill 81 = .ok (.invokevirtual 117, 3) := by decide +kernel
theorem dX9_fill_84 : decode cX9_fill 84 = .ok (.pop, 1) := by decide +kernel
theorem dX9_fill_85 : decode cX9_fill 85 = .ok (.iinc 1 1, 3) := by decide +kernel
theorem dX9_fill_88 : decode cX9_fill 88 = .ok (.goto (-33), 3) := by decide +kernel
theorem dX9_fill_91 : decode cX9_fill 91 = .ok (.aload_n 0, 1) := by decide +kernel
theorem dX9_fill_92 : decode cX9_fill 92 = .ok (.getfield 10, 3) := by decide +kernel
theorem dX9_fill_95 : decode cX9_fill 95 = .ok (.getfield 110, 3) := by decide +kernel
theorem dX9_fill_98 : decode cX9_fill 98 = .ok (.iconst 0, 1) := by decide +kernel
theorem dX9_fill_99 : decode cX9_fill 99 = .ok (.invokevirtual 120, 3) := by decide +kernel
theorem dX9_fill_102 : decode cX9_fill 102 = .ok (.aload_n 0, 1) := by decide +kernel
theorem dX9_fill_103 : decode cX9_fill 103 = .ok (.getfield 10, 3) := by decide +kernel
theorem dX9_fill_106 : decode cX9_fill 106 = .ok (.getfield 110, 3) := by decide +kernel
theorem dX9_fill_109 : decode cX9_fill 109 = .ok (.invokevirtual 122, 3) := by decide +kernel
theorem dX9_fill_112 : decode cX9_fill 112 = .ok (.ireturn, 1) := by decide +kernel
end
section
theorem dX9_run_0 : decode cX9_run 0 = .ok (.aload_n 0, 1) := by decide +kernel
theorem dX9_run_1 : decode cX9_run 1 = .ok (.getfield 26, 3) := by decide +kernel
theorem dX9_run_4 : decode cX9_run 4 = .ok (.aload_n 0, 1) := by decide +kernel
theorem dX9_run_5 : decode cX9_run 5 = .ok (.getfield 19, 3) := by decide +kernel
theorem dX9_run_8 : decode cX9_run 8 = .ok (.invokevirtual 94, 3) := by decide +kernel
theorem dX9_run_11 : decode cX9_run 11 = .ok (.aload_n 0, 1) := by decide +kernel
theorem dX9_run_12 : decode cX9_run 12 = .ok (.aload_n 0, 1) := by decide +kernel
theorem dX9_run_13 : decode cX9_run 13 = .ok (.getfield 26, 3) := by decide +kernel
theorem dX9_run_16 : decode cX9_run 16 = .ok (.aload_n 0, 1) := by decide +kernel
theorem dX9_run_17 : decode cX9_run 17 = .ok (.getfield 19, 3) := by decide +kernel
theorem dX9_run_20 : decode cX9_run 20 = .ok (.getfield 85, 3) := by decide +kernel
theorem dX9_run_23 : decode cX9_run 23 = .ok (.invokevirtual 124, 3) := by decide +kernel
theorem dX9_run_26 : decode cX9_run 26 = .ok (.putfield 30, 3) := by decide +kernel
theorem dX9_run_29 : decode cX9_run 29 = .ok (.aload_n 0, 1) := by decide +kernel
theorem dX9_run_30 : decode cX9_run 30 = .ok (.getfield 19, 3) := by decide +kernel
theorem dX9_run_33 : decode cX9_run 33 = .ok (.iconst 0, 1) := by decide +kernel
theorem dX9_run_34 : decode cX9_run 34 = .ok (.putfield 85, 3) := by decide +kernel
theorem dX9_run_37 : decode cX9_run 37 = .ok (.aload_n 0, 1) := by decide +kernel
theorem dX9_run_38 : decode cX9_run 38 = .ok (.iconst 0, 1) := by decide +kernel
theorem dX9_run_39 : decode cX9_run 39 = .ok (.putfield 34, 3) := by decide +kernel
theorem dX9_run_42 : decode cX9_run 42 = .ok (.aload_n 0, 1) := by decide +kernel
theorem dX9_run_43 : decode cX9_run 43 = .ok (.getfield 30, 3) := by decide +kernel
theorem dX9_run_46 : decode cX9_run 46 = .ok (.iconst (-1), 1) := by decide +kernel
theorem dX9_run_47 : decode cX9_run 47 = .ok (.if_icmp .eq 11, 3) := by decide +kernel
theorem dX9_run_50 : decode cX9_run 50 = .ok (.new 101, 3) := by decide +kernel
theorem dX9_run_53 : decode cX9_run 53 = .ok (.dup, 1) := by decide +kernel
theorem dX9_run_54 : decode cX9_run 54 = .ok (.invokespecial 103, 3) := by decide +kernel
theorem dX9_run_57 : decode cX9_run 57 = .ok (.athrow, 1) := by decide +kernel
theorem dX9_run_58 : decode cX9_run 58 = .ok (.aload_n 0, 1) := by decide +kernel
theorem dX9_run_59 : decode cX9_run 59 = .ok (.aload_n 0, 1) := by decide +kernel
theorem dX9_run_60 : decode cX9_run 60 = .ok (.getfield 10, 3) := by decide +kernel
theorem dX9_run_63 : decode cX9_run 63 = .ok (.getfield 127, 3) := by decide +kernel
theorem dX9_run_66 : decode cX9_run 66 = .ok (.putfield 130, 3) := by decide +kernel
theorem dX9_run_69 : decode cX9_run 69 = .ok (.aload_n 0, 1) := by decide +kernel
theorem dX9_run_70 : decode cX9_run 70 = .ok (.aload_n 0, 1) := by decide +kernel
theorem dX9_run_71 : decode cX9_run 71 = .ok (.iconst 0, 1) := by decide +kernel
theorem dX9_run_72 : decode cX9_run 72 = .ok (.aload_n 0, 1) := by decide +kernel
theorem dX9_run_73 : decode cX9_run 73 = .ok (.getfield 26, 3) := by decide +kernel
theorem dX9_run_76 : decode cX9_run 76 = .ok (.getfield 107, 3) := by decide +kernel
theorem dX9_run_79 : decode cX9_run 79 = .ok (.iconst 0, 1) := by decide +kernel
theorem dX9_run_80 : decode cX9_run 80 = .ok (.invokevirtual 133, 3) := by decide +kernel
theorem dX9_run_83 : decode cX9_run 83 = .ok (.putfield 34, 3) := by decide +kernel
theorem dX9_run_86 : decode cX9_run 86 = .ok (.aload_n 0, 1) := by decide +kernel
theorem dX9_run_87 : decode cX9_run 87 = .ok (.getfield 10, 3) := by decide +kernel
theorem dX9_run_90 : decode cX9_run 90 = .ok (.getfield 127, 3) := by decide +kernel
theorem dX9_run_93 : decode cX9_run 93 = .ok (.aload_n 0, 1) := by decide +kernel
theorem dX9_run_94 : decode cX9_run 94 = .ok (.getfield 130, 3) := by decide +kernel
theorem dX9_run_97 : decode cX9_run 97 = .ok (.isub, 1) := by decide +kernel
theorem dX9_run_98 : decode cX9_run 98 = .ok (.ireturn, 1) := by decide +kernel
theorem dX9_errorPosition_0 : decode cX9_errorPosition 0 = .ok (.aload_n 0, 1) := by decide +kernel
theorem dX9_errorPosition_1 : decode cX9_errorPosition 1 = .ok (.getfield 30, 3) := by decide +kernel
theorem dX9_errorPosition_4 : decode cX9_errorPosition 4 = .ok (.ireturn, 1) := by decide +kernel
theorem dX9_endedBy_0 : decode cX9_endedBy 0 = .ok (.aload_n 0, 1) := by decide +kernel
theorem dX9_endedBy_1 : decode cX9_endedBy 1 = .ok (.getfield 34, 3) := by decide +kernel
theorem dX9_endedBy_4 : decode cX9_endedBy 4 = .ok (.ireturn, 1) := by decide +kernel
theorem dX9_nextIndex_0 : decode cX9_nextIndex 0 = .ok (.aload_n 0, 1) := by decide +kernel
theorem dX9_nextIndex_1 : decode cX9_nextIndex 1 = .ok (.getfield 10, 3) := by decide +kernel
theorem dX9_nextIndex_4 : decode cX9_nextIndex 4 = .ok (.getfield 110, 3) := by decide +kernel
theorem dX9_nextIndex_7 : decode cX9_nextIndex 7 = .ok (.invokevirtual 137, 3) := by decide +kernel
theorem dX9_nextIndex_10 : decode cX9_nextIndex 10 = .ok (.ireturn, 1) := by decide +kernel
theorem dX9_previousIndex_0 : decode cX9_previousIndex 0 = .ok (.aload_n 0, 1) := by decide +kernel
theorem dX9_previousIndex_1 : decode cX9_previousIndex 1 = .ok (.getfield 10, 3) := by decide +kernel
theorem dX9_previousIndex_4 : decode cX9_previousIndex 4 = .ok (.getfield 110, 3) := by decide +kernel
theorem dX9_previousIndex_7 : decode cX9_previousIndex 7 = .ok (.invokevirtual 137, 3) := by decide +kernel
theorem dX9_previousIndex_10 : decode cX9_previousIndex 10 = .ok (.iconst 1, 1) := by decide +kernel
theorem dX9_previousIndex_11 : decode cX9_previousIndex 11 = .ok (.isub, 1) := by decide +kernel
theorem dX9_previousIndex_12 : decode cX9_previousIndex 12 = .ok (.ireturn, 1) := by decide +kernel
theorem dX9_hasNext_0 : decode cX9_hasNext 0 = .ok (.aload_n 0, 1) := by decide +kernel
theorem dX9_hasNext_1 : decode cX9_hasNext 1 = .ok (.getfield 10, 3) := by decide +kernel
theorem dX9_hasNext_4 : decode cX9_hasNext 4 = .ok (.getfield 110, 3) := by decide +kernel
theorem dX9_hasNext_7 : decode cX9_hasNext 7 = .ok (.iconst 0, 1) := by decide +kernel
theorem dX9_hasNext_8 : decode cX9_hasNext 8 = .ok (.invokevirtual 140, 3) := by decide +kernel
theorem dX9_hasNext_11 : decode cX9_hasNext 11 = .ok (.ireturn, 1) := by decide +kernel
theorem dX9_hasPrevious_0 : decode cX9_hasPrevious 0 = .ok (.aload_n 0, 1) := by decide +kernel
theorem dX9_hasPrevious_1 : decode cX9_hasPrevious 1 = .ok (.getfield 10, 3) := by decide +kernel
theorem dX9_hasPrevious_4 : decode cX9_hasPrevious 4 = .ok (.getfield 110, 3) := by decide +kernel
theorem dX9_hasPrevious_7 : decode cX9_hasPrevious 7 = .ok (.iconst 1, 1) := by decide +kernel
theorem dX9_hasPrevious_8 : decode cX9_hasPrevious 8 = .ok (.invokevirtual 140, 3) := by decide +kernel
theorem dX9_hasPrevious_11 : decode cX9_hasPrevious 11 = .ok (.ireturn, 1) := by decide +kernel
theorem dX9_ahead_0 : decode cX9_ahead 0 = .ok (.aload_n 0, 1) := by decide +kernel
theorem dX9_ahead_1 : decode cX9_ahead 1 = .ok (.getfield 10, 3) := by decide +kernel
theorem dX9_ahead_4 : decode cX9_ahead 4 = .ok (.getfield 110, 3) := by decide +kernel
theorem dX9_ahead_7 : decode cX9_ahead 7 = .ok (.astore_n 2, 1) := by decide +kernel
theorem dX9_ahead_8 : decode cX9_ahead 8 = .ok (.iload_n 1, 1) := by decide +kernel
theorem dX9_ahead_9 : decode cX9_ahead 9 = .ok (.ifCond .lt 16, 3) := by decide +kernel
theorem dX9_ahead_12 : decode cX9_ahead 12 = .ok (.iload_n 1, 1) := by decide +kernel
theorem dX9_ahead_13 : decode cX9_ahead 13 = .ok (.aload_n 2, 1) := by decide +kernel
theorem dX9_ahead_14 : decode cX9_ahead 14 = .ok (.invokevirtual 122, 3) := by decide +kernel
theorem dX9_ahead_17 : decode cX9_ahead 17 = .ok (.aload_n 2, 1) := by decide +kernel
theorem dX9_ahead_18 : decode cX9_ahead 18 = .ok (.invokevirtual 137, 3) := by decide +kernel
theorem dX9_ahead_21 : decode cX9_ahead 21 = .ok (.isub, 1) := by decide +kernel
theorem dX9_ahead_22 : decode cX9_ahead 22 = .ok (.if_icmp .lt 5, 3) := by decide +kernel
theorem dX9_ahead_25 : decode cX9_ahead 25 = .ok (.iconst (-1), 1) := by decide +kernel
theorem dX9_ahead_26 : decode cX9_ahead 26 = .ok (.ireturn, 1) := by decide +kernel
theorem dX9_ahead_27 : decode cX9_ahead 27 = .ok (.aload_n 2, 1) := by decide +kernel
theorem dX9_ahead_28 : decode cX9_ahead 28 = .ok (.aload_n 2, 1) := by decide +kernel
theorem dX9_ahead_29 : decode cX9_ahead 29 = .ok (.invokevirtual 137, 3) := by decide +kernel
theorem dX9_ahead_32 : decode cX9_ahead 32 = .ok (.iload_n 1, 1) := by decide +kernel
theorem dX9_ahead_33 : decode cX9_ahead 33 = .ok (.iadd, 1) := by decide +kernel
theorem dX9_ahead_34 : decode cX9_ahead 34 = .ok (.invokevirtual 144, 3) := by decide +kernel
theorem dX9_ahead_37 : decode cX9_ahead 37 = .ok (.ireturn, 1) := by decide +kernel
theorem dX9_behind_0 : decode cX9_behind 0 = .ok (.aload_n 0, 1) := by decide +kernel
theorem dX9_behind_1 : decode cX9_behind 1 = .ok (.getfield 10, 3) := by decide +kernel
theorem dX9_behind_4 : decode cX9_behind 4 = .ok (.getfield 110, 3) := by decide +kernel
theorem dX9_behind_7 : decode cX9_behind 7 = .ok (.astore_n 2, 1) := by decide +kernel
theorem dX9_behind_8 : decode cX9_behind 8 = .ok (.iload_n 1, 1) := by decide +kernel
theorem dX9_behind_9 : decode cX9_behind 9 = .ok (.ifCond .lt 11, 3) := by decide +kernel
theorem dX9_behind_12 : decode cX9_behind 12 = .ok (.iload_n 1, 1) := by decide +kernel
theorem dX9_behind_13 : decode cX9_behind 13 = .ok (.aload_n 2, 1) := by decide +kernel
theorem dX9_behind_14 : decode cX9_behind 14 = .ok (.invokevirtual 137, 3) := by decide +kernel
theorem dX9_behind_17 : decode cX9_behind 17 = .ok (.if_icmp .lt 5, 3) := by decide +kernel
theorem dX9_behind_20 : decode cX9_behind 20 = .ok (.iconst (-1), 1) := by decide +kernel
theorem dX9_behind_21 : decode cX9_behind 21 = .ok (.ireturn, 1) := by decide +kernel
theorem dX9_behind_22 : decode cX9_behind 22 = .ok (.aload_n 2, 1) := by decide +kernel
theorem dX9_behind_23 : decode cX9_behind 23 = .ok (.aload_n 2, 1) := by decide +kernel
theorem dX9_behind_24 : decode cX9_behind 24 = .ok (.invokevirtual 137, 3) := by decide +kernel
theorem dX9_behind_27 : decode cX9_behind 27 = .ok (.iconst 1, 1) := by decide +kernel
theorem dX9_behind_28 : decode cX9_behind 28 = .ok (.isub, 1) := by decide +kernel
theorem dX9_behind_29 : decode cX9_behind 29 = .ok (.iload_n 1, 1) := by decide +kernel
theorem dX9_behind_30 : decode cX9_behind 30 = .ok (.isub, 1) := by decide +kernel
theorem dX9_behind_31 : decode cX9_behind 31 = .ok (.invokevirtual 144, 3) := by decide +kernel
theorem dX9_behind_34 : decode cX9_behind 34 = .ok (.ireturn, 1) := by decide +kernel
theorem dX9_given_0 : decode cX9_given 0 = .ok (.aload_n 0, 1) := by decide +kernel
theorem dX9_given_1 : decode cX9_given 1 = .ok (.getfield 10, 3) := by decide +kernel
theorem dX9_given_4 : decode cX9_given 4 = .ok (.getfield 110, 3) := by decide +kernel
theorem dX9_given_7 : decode cX9_given 7 = .ok (.invokevirtual 137, 3) := by decide +kernel
theorem dX9_given_10 : decode cX9_given 10 = .ok (.istore_n 1, 1) := by decide +kernel
theorem dX9_given_11 : decode cX9_given 11 = .ok (.aload_n 0, 1) := by decide +kernel
theorem dX9_given_12 : decode cX9_given 12 = .ok (.getfield 10, 3) := by decide +kernel
theorem dX9_given_15 : decode cX9_given 15 = .ok (.getfield 147, 3) := by decide +kernel
theorem dX9_given_18 : decode cX9_given 18 = .ok (.ifCond .ne 5, 3) := by decide +kernel
theorem dX9_given_21 : decode cX9_given 21 = .ok (.iconst (-1), 1) := by decide +kernel
theorem dX9_given_22 : decode cX9_given 22 = .ok (.ireturn, 1) := by decide +kernel
theorem dX9_given_23 : decode cX9_given 23 = .ok (.aload_n 0, 1) := by decide +kernel
theorem dX9_given_24 : decode cX9_given 24 = .ok (.getfield 10, 3) := by decide +kernel
theorem dX9_given_27 : decode cX9_given 27 = .ok (.getfield 110, 3) := by decide +kernel
theorem dX9_given_30 : decode cX9_given 30 = .ok (.aload_n 0, 1) := by decide +kernel
theorem dX9_given_31 : decode cX9_given 31 = .ok (.getfield 10, 3) := by decide +kernel
theorem dX9_given_34 : decode cX9_given 34 = .ok (.getfield 147, 3) := by decide +kernel
theorem dX9_given_37 : decode cX9_given 37 = .ok (.iconst 1, 1) := by decide +kernel
theorem dX9_given_38 : decode cX9_given 38 = .ok (.if_icmp .ne 9, 3) := by decide +kernel
theorem dX9_given_41 : decode cX9_given 41 = .ok (.iload_n 1, 1) := by decide +kernel
theorem dX9_given_42 : decode cX9_given 42 = .ok (.iconst 1, 1) := by decide +kernel
theorem dX9_given_43 : decode cX9_given 43 = .ok (.isub, 1) := by decide +kernel
theorem dX9_given_44 : decode cX9_given 44 = .ok (.goto 4, 3) := by decide +kernel
theorem dX9_given_47 : decode cX9_given 47 = .ok (.iload_n 1, 1) := by decide +kernel
theorem dX9_given_48 : decode cX9_given 48 = .ok (.invokevirtual 144, 3) := by decide +kernel
theorem dX9_given_51 : decode cX9_given 51 = .ok (.ireturn, 1) := by decide +kernel
theorem dX9_givenBy_0 : decode cX9_givenBy 0 = .ok (.aload_n 0, 1) := by decide +kernel
theorem dX9_givenBy_1 : decode cX9_givenBy 1 = .ok (.getfield 10, 3) := by decide +kernel
theorem dX9_givenBy_4 : decode cX9_givenBy 4 = .ok (.getfield 147, 3) := by decide +kernel
theorem dX9_givenBy_7 : decode cX9_givenBy 7 = .ok (.ireturn, 1) := by decide +kernel
theorem dX9_refusedNow_0 : decode cX9_refusedNow 0 = .ok (.aload_n 0, 1) := by decide +kernel
theorem dX9_refusedNow_1 : decode cX9_refusedNow 1 = .ok (.getfield 10, 3) := by decide +kernel
theorem dX9_refusedNow_4 : decode cX9_refusedNow 4 = .ok (.getfield 110, 3) := by decide +kernel
theorem dX9_refusedNow_7 : decode cX9_refusedNow 7 = .ok (.iconst 0, 1) := by decide +kernel
theorem dX9_refusedNow_8 : decode cX9_refusedNow 8 = .ok (.invokevirtual 140, 3) := by decide +kernel
theorem dX9_refusedNow_11 : decode cX9_refusedNow 11 = .ok (.ifCond .ne 7, 3) := by decide +kernel
theorem dX9_refusedNow_14 : decode cX9_refusedNow 14 = .ok (.iconst 1, 1) := by decide +kernel
theorem dX9_refusedNow_15 : decode cX9_refusedNow 15 = .ok (.goto 4, 3) := by decide +kernel
theorem dX9_refusedNow_18 : decode cX9_refusedNow 18 = .ok (.iconst 0, 1) := by decide +kernel
theorem dX9_refusedNow_19 : decode cX9_refusedNow 19 = .ok (.istore_n 1, 1) := by decide +kernel
theorem dX9_refusedNow_20 : decode cX9_refusedNow 20 = .ok (.aload_n 0, 1) := by decide +kernel
theorem dX9_refusedNow_21 : decode cX9_refusedNow 21 = .ok (.getfield 10, 3) := by decide +kernel
theorem dX9_refusedNow_24 : decode cX9_refusedNow 24 = .ok (.getfield 110, 3) := by decide +kernel
theorem dX9_refusedNow_27 : decode cX9_refusedNow 27 = .ok (.iconst 1, 1) := by decide +kernel
theorem dX9_refusedNow_28 : decode cX9_refusedNow 28 = .ok (.invokevirtual 140, 3) := by decide +kernel
theorem dX9_refusedNow_31 : decode cX9_refusedNow 31 = .ok (.ifCond .ne 7, 3) := by decide +kernel
theorem dX9_refusedNow_34 : decode cX9_refusedNow 34 = .ok (.iconst 1, 1) := by decide +kernel
theorem dX9_refusedNow_35 : decode cX9_refusedNow 35 = .ok (.goto 4, 3) := by decide +kernel
theorem dX9_refusedNow_38 : decode cX9_refusedNow 38 = .ok (.iconst 0, 1) := by decide +kernel
theorem dX9_refusedNow_39 : decode cX9_refusedNow 39 = .ok (.istore_n 2, 1) := by decide +kernel
theorem dX9_refusedNow_40 : decode cX9_refusedNow 40 = .ok (.iload_n 1, 1) := by decide +kernel
theorem dX9_refusedNow_41 : decode cX9_refusedNow 41 = .ok (.ifCond .eq 7, 3) := by decide +kernel
theorem dX9_refusedNow_44 : decode cX9_refusedNow 44 = .ok (.iconst 1, 1) := by decide +kernel
theorem dX9_refusedNow_45 : decode cX9_refusedNow 45 = .ok (.goto 4, 3) := by decide +kernel
theorem dX9_refusedNow_48 : decode cX9_refusedNow 48 = .ok (.iconst 0, 1) := by decide +kernel
theorem dX9_refusedNow_49 : decode cX9_refusedNow 49 = .ok (.istore_n 3, 1) := by decide +kernel
theorem dX9_refusedNow_50 : decode cX9_refusedNow 50 = .ok (.iload_n 3, 1) := by decide +kernel
theorem dX9_refusedNow_51 : decode cX9_refusedNow 51 = .ok (.iload_n 2, 1) := by decide +kernel
theorem dX9_refusedNow_52 : decode cX9_refusedNow 52 = .ok (.ifCond .eq 7, 3) := by decide +kernel
theorem dX9_refusedNow_55 : decode cX9_refusedNow 55 = .ok (.iconst 2, 1) := by decide +kernel
theorem dX9_refusedNow_56 : decode cX9_refusedNow 56 = .ok (.goto 4, 3) := by decide +kernel
theorem dX9_refusedNow_59 : decode cX9_refusedNow 59 = .ok (.iconst 0, 1) := by decide +kernel
theorem dX9_refusedNow_60 : decode cX9_refusedNow 60 = .ok (.iadd, 1) := by decide +kernel
theorem dX9_refusedNow_61 : decode cX9_refusedNow 61 = .ok (.istore_n 3, 1) := by decide +kernel
theorem dX9_refusedNow_62 : decode cX9_refusedNow 62 = .ok (.iload_n 3, 1) := by decide +kernel
theorem dX9_refusedNow_63 : decode cX9_refusedNow 63 = .ok (.aload_n 0, 1) := by decide +kernel
theorem dX9_refusedNow_64 : decode cX9_refusedNow 64 = .ok (.getfield 10, 3) := by decide +kernel
theorem dX9_refusedNow_67 : decode cX9_refusedNow 67 = .ok (.getfield 110, 3) := by decide +kernel
theorem dX9_refusedNow_70 : decode cX9_refusedNow 70 = .ok (.invokevirtual 122, 3) := by decide +kernel
theorem dX9_refusedNow_73 : decode cX9_refusedNow 73 = .ok (.bipush 100, 2) := by decide +kernel
theorem dX9_refusedNow_75 : decode cX9_refusedNow 75 = .ok (.if_icmp .lt 7, 3) := by decide +kernel
theorem dX9_refusedNow_78 : decode cX9_refusedNow 78 = .ok (.iconst 4, 1) := by decide +kernel
theorem dX9_refusedNow_79 : decode cX9_refusedNow 79 = .ok (.goto 4, 3) := by decide +kernel
theorem dX9_refusedNow_82 : decode cX9_refusedNow 82 = .ok (.iconst 0, 1) := by decide +kernel
theorem dX9_refusedNow_83 : decode cX9_refusedNow 83 = .ok (.iadd, 1) := by decide +kernel
theorem dX9_refusedNow_84 : decode cX9_refusedNow 84 = .ok (.istore_n 3, 1) := by decide +kernel
theorem dX9_refusedNow_85 : decode cX9_refusedNow 85 = .ok (.iload_n 3, 1) := by decide +kernel
theorem dX9_refusedNow_86 : decode cX9_refusedNow 86 = .ok (.aload_n 0, 1) := by decide +kernel
theorem dX9_refusedNow_87 : decode cX9_refusedNow 87 = .ok (.getfield 10, 3) := by decide +kernel
theorem dX9_refusedNow_90 : decode cX9_refusedNow 90 = .ok (.getfield 147, 3) := by decide +kernel
theorem dX9_refusedNow_93 : decode cX9_refusedNow 93 = .ok (.ifCond .ne 8, 3) := by decide +kernel
theorem dX9_refusedNow_96 : decode cX9_refusedNow 96 = .ok (.bipush 8, 2) := by decide +kernel
theorem dX9_refusedNow_98 : decode cX9_refusedNow 98 = .ok (.goto 4, 3) := by decide +kernel
theorem dX9_refusedNow_101 : decode cX9_refusedNow 101 = .ok (.iconst 0, 1) := by decide +kernel
theorem dX9_refusedNow_102 : decode cX9_refusedNow 102 = .ok (.iadd, 1) := by decide +kernel
theorem dX9_refusedNow_103 : decode cX9_refusedNow 103 = .ok (.istore_n 3, 1) := by decide +kernel
theorem dX9_refusedNow_104 : decode cX9_refusedNow 104 = .ok (.iload_n 3, 1) := by decide +kernel
theorem dX9_refusedNow_105 : decode cX9_refusedNow 105 = .ok (.iload_n 1, 1) := by decide +kernel
theorem dX9_refusedNow_106 : decode cX9_refusedNow 106 = .ok (.ifCond .ne 7, 3) := by decide +kernel
theorem dX9_refusedNow_109 : decode cX9_refusedNow 109 = .ok (.iload_n 2, 1) := by decide +kernel
theorem dX9_refusedNow_110 : decode cX9_refusedNow 110 = .ok (.ifCond .eq 8, 3) := by decide +kernel
theorem dX9_refusedNow_113 : decode cX9_refusedNow 113 = .ok (.bipush 16, 2) := by decide +kernel
theorem dX9_refusedNow_115 : decode cX9_refusedNow 115 = .ok (.goto 4, 3) := by decide +kernel
theorem dX9_refusedNow_118 : decode cX9_refusedNow 118 = .ok (.iconst 0, 1) := by decide +kernel
theorem dX9_refusedNow_119 : decode cX9_refusedNow 119 = .ok (.iadd, 1) := by decide +kernel
theorem dX9_refusedNow_120 : decode cX9_refusedNow 120 = .ok (.istore_n 3, 1) := by decide +kernel
theorem dX9_refusedNow_121 : decode cX9_refusedNow 121 = .ok (.iload_n 3, 1) := by decide +kernel
theorem dX9_refusedNow_122 : decode cX9_refusedNow 122 = .ok (.ireturn, 1) := by decide +kernel
theorem dX9_size_0 : decode cX9_size 0 = .ok (.aload_n 0, 1) := by decide +kernel
theorem dX9_size_1 : decode cX9_size 1 = .ok (.getfield 10, 3) := by decide +kernel
theorem dX9_size_4 : decode cX9_size 4 = .ok (.getfield 110, 3) := by decide +kernel
theorem dX9_size_7 : decode cX9_size 7 = .ok (.invokevirtual 122, 3) := by decide +kernel
theorem dX9_size_10 : decode cX9_size 10 = .ok (.ireturn, 1) := by decide +kernel
theorem dX9_wordAt_0 : decode cX9_wordAt 0 = .ok (.iload_n 1, 1) := by decide +kernel
theorem dX9_wordAt_1 : decode cX9_wordAt 1 = .ok (.ifCond .lt 17, 3) := by decide +kernel
theorem dX9_wordAt_4 : decode cX9_wordAt 4 = .ok (.iload_n 1, 1) := by decide +kernel
theorem dX9_wordAt_5 : decode cX9_wordAt 5 = .ok (.aload_n 0, 1) := by decide +kernel
theorem dX9_wordAt_6 : decode cX9_wordAt 6 = .ok (.getfield 10, 3) := by decide +kernel
theorem dX9_wordAt_9 : decode cX9_wordAt 9 = .ok (.getfield 110, 3) := by decide +kernel
theorem dX9_wordAt_12 : decode cX9_wordAt 12 = .ok (.invokevirtual 122, 3) := by decide +kernel
theorem dX9_wordAt_15 : decode cX9_wordAt 15 = .ok (.if_icmp .lt 11, 3) := by decide +kernel
theorem dX9_wordAt_18 : decode cX9_wordAt 18 = .ok (.new 150, 3) := by decide +kernel
theorem dX9_wordAt_21 : decode cX9_wordAt 21 = .ok (.dup, 1) := by decide +kernel
theorem dX9_wordAt_22 : decode cX9_wordAt 22 = .ok (.invokespecial 152, 3) := by decide +kernel
theorem dX9_wordAt_25 : decode cX9_wordAt 25 = .ok (.athrow, 1) := by decide +kernel
theorem dX9_wordAt_26 : decode cX9_wordAt 26 = .ok (.aload_n 0, 1) := by decide +kernel
theorem dX9_wordAt_27 : decode cX9_wordAt 27 = .ok (.getfield 10, 3) := by decide +kernel
theorem dX9_wordAt_30 : decode cX9_wordAt 30 = .ok (.getfield 110, 3) := by decide +kernel
theorem dX9_wordAt_33 : decode cX9_wordAt 33 = .ok (.iload_n 1, 1) := by decide +kernel
theorem dX9_wordAt_34 : decode cX9_wordAt 34 = .ok (.invokevirtual 144, 3) := by decide +kernel
theorem dX9_wordAt_37 : decode cX9_wordAt 37 = .ok (.ireturn, 1) := by decide +kernel
theorem dX9_indexOf_0 : decode cX9_indexOf 0 = .ok (.iload_n 1, 1) := by decide +kernel
theorem dX9_indexOf_1 : decode cX9_indexOf 1 = .ok (.invokestatic 45, 3) := by decide +kernel
theorem dX9_indexOf_4 : decode cX9_indexOf 4 = .ok (.aload_n 0, 1) := by decide +kernel
theorem dX9_indexOf_5 : decode cX9_indexOf 5 = .ok (.iload_n 1, 1) := by decide +kernel
theorem dX9_indexOf_6 : decode cX9_indexOf 6 = .ok (.invokevirtual 153, 3) := by decide +kernel
theorem dX9_indexOf_9 : decode cX9_indexOf 9 = .ok (.ireturn, 1) := by decide +kernel
theorem dX9_lastIndexOf_0 : decode cX9_lastIndexOf 0 = .ok (.iload_n 1, 1) := by decide +kernel
theorem dX9_lastIndexOf_1 : decode cX9_lastIndexOf 1 = .ok (.invokestatic 45, 3) := by decide +kernel
theorem dX9_lastIndexOf_4 : decode cX9_lastIndexOf 4 = .ok (.aload_n 0, 1) := by decide +kernel
theorem dX9_lastIndexOf_5 : decode cX9_lastIndexOf 5 = .ok (.getfield 10, 3) := by decide +kernel
theorem dX9_lastIndexOf_8 : decode cX9_lastIndexOf 8 = .ok (.getfield 110, 3) := by decide +kernel
theorem dX9_lastIndexOf_11 : decode cX9_lastIndexOf 11 = .ok (.invokevirtual 122, 3) := by decide +kernel
theorem dX9_lastIndexOf_14 : decode cX9_lastIndexOf 14 = .ok (.iconst 1, 1) := by decide +kernel
theorem dX9_lastIndexOf_15 : decode cX9_lastIndexOf 15 = .ok (.isub, 1) := by decide +kernel
theorem dX9_lastIndexOf_16 : decode cX9_lastIndexOf 16 = .ok (.istore_n 2, 1) := by decide +kernel
theorem dX9_lastIndexOf_17 : decode cX9_lastIndexOf 17 = .ok (.iload_n 2, 1) := by decide +kernel
theorem dX9_lastIndexOf_18 : decode cX9_lastIndexOf 18 = .ok (.ifCond .lt 26, 3) := by decide +kernel
theorem dX9_lastIndexOf_21 : decode cX9_lastIndexOf 21 = .ok (.aload_n 0, 1) := by decide +kernel
theorem dX9_lastIndexOf_22 : decode cX9_lastIndexOf 22 = .ok (.getfield 10, 3) := by decide +kernel
theorem dX9_lastIndexOf_25 : decode cX9_lastIndexOf 25 = .ok (.getfield 110, 3) := by decide +kernel
theorem dX9_lastIndexOf_28 : decode cX9_lastIndexOf 28 = .ok (.iload_n 2, 1) := by decide +kernel
theorem dX9_lastIndexOf_29 : decode cX9_lastIndexOf 29 = .ok (.invokevirtual 144, 3) := by decide +kernel
theorem dX9_lastIndexOf_32 : decode cX9_lastIndexOf 32 = .ok (.iload_n 1, 1) := by decide +kernel
theorem dX9_lastIndexOf_33 : decode cX9_lastIndexOf 33 = .ok (.if_icmp .ne 5, 3) := by decide +kernel
theorem dX9_lastIndexOf_36 : decode cX9_lastIndexOf 36 = .ok (.iload_n 2, 1) := by decide +kernel
theorem dX9_lastIndexOf_37 : decode cX9_lastIndexOf 37 = .ok (.ireturn, 1) := by decide +kernel
theorem dX9_lastIndexOf_38 : decode cX9_lastIndexOf 38 = .ok (.iinc 2 (-1), 3) := by decide +kernel
theorem dX9_lastIndexOf_41 : decode cX9_lastIndexOf 41 = .ok (.goto (-24), 3) := by decide +kernel
theorem dX9_lastIndexOf_44 : decode cX9_lastIndexOf 44 = .ok (.iconst (-1), 1) := by decide +kernel
theorem dX9_lastIndexOf_45 : decode cX9_lastIndexOf 45 = .ok (.ireturn, 1) := by decide +kernel
theorem dX9_count_0 : decode cX9_count 0 = .ok (.iload_n 1, 1) := by decide +kernel
theorem dX9_count_1 : decode cX9_count 1 = .ok (.invokestatic 45, 3) := by decide +kernel
theorem dX9_count_4 : decode cX9_count 4 = .ok (.iconst 0, 1) := by decide +kernel
theorem dX9_count_5 : decode cX9_count 5 = .ok (.istore_n 2, 1) := by decide +kernel
theorem dX9_count_6 : decode cX9_count 6 = .ok (.iconst 0, 1) := by decide +kernel
theorem dX9_count_7 : decode cX9_count 7 = .ok (.istore_n 3, 1) := by decide +kernel
theorem dX9_count_8 : decode cX9_count 8 = .ok (.iload_n 3, 1) := by decide +kernel
theorem dX9_count_9 : decode cX9_count 9 = .ok (.aload_n 0, 1) := by decide +kernel
theorem dX9_count_10 : decode cX9_count 10 = .ok (.getfield 10, 3) := by decide +kernel
theorem dX9_count_13 : decode cX9_count 13 = .ok (.getfield 110, 3) := by decide +kernel
theorem dX9_count_16 : decode cX9_count 16 = .ok (.invokevirtual 122, 3) := by decide +kernel
theorem dX9_count_19 : decode cX9_count 19 = .ok (.if_icmp .ge 27, 3) := by decide +kernel
theorem dX9_count_22 : decode cX9_count 22 = .ok (.aload_n 0, 1) := by decide +kernel
theorem dX9_count_23 : decode cX9_count 23 = .ok (.getfield 10, 3) := by decide +kernel
theorem dX9_count_26 : decode cX9_count 26 = .ok (.getfield 110, 3) := by decide +kernel
theorem dX9_count_29 : decode cX9_count 29 = .ok (.iload_n 3, 1) := by decide +kernel
theorem dX9_count_30 : decode cX9_count 30 = .ok (.invokevirtual 144, 3) := by decide +kernel
theorem dX9_count_33 : decode cX9_count 33 = .ok (.iload_n 1, 1) := by decide +kernel
theorem dX9_count_34 : decode cX9_count 34 = .ok (.if_icmp .ne 6, 3) := by decide +kernel
theorem dX9_count_37 : decode cX9_count 37 = .ok (.iinc 2 1, 3) := by decide +kernel
theorem dX9_count_40 : decode cX9_count 40 = .ok (.iinc 3 1, 3) := by decide +kernel
theorem dX9_count_43 : decode cX9_count 43 = .ok (.goto (-35), 3) := by decide +kernel
theorem dX9_count_46 : decode cX9_count 46 = .ok (.iload_n 2, 1) := by decide +kernel
theorem dX9_count_47 : decode cX9_count 47 = .ok (.ireturn, 1) := by decide +kernel
theorem dX9_unlike_0 : decode cX9_unlike 0 = .ok (.iconst 0, 1) := by decide +kernel
theorem dX9_unlike_1 : decode cX9_unlike 1 = .ok (.istore_n 1, 1) := by decide +kernel
theorem dX9_unlike_2 : decode cX9_unlike 2 = .ok (.iconst 0, 1) := by decide +kernel
theorem dX9_unlike_3 : decode cX9_unlike 3 = .ok (.istore_n 2, 1) := by decide +kernel
theorem dX9_unlike_4 : decode cX9_unlike 4 = .ok (.iload_n 2, 1) := by decide +kernel
theorem dX9_unlike_5 : decode cX9_unlike 5 = .ok (.aload_n 0, 1) := by decide +kernel
theorem dX9_unlike_6 : decode cX9_unlike 6 = .ok (.getfield 10, 3) := by decide +kernel
theorem dX9_unlike_9 : decode cX9_unlike 9 = .ok (.getfield 110, 3) := by decide +kernel
theorem dX9_unlike_12 : decode cX9_unlike 12 = .ok (.invokevirtual 122, 3) := by decide +kernel
theorem dX9_unlike_15 : decode cX9_unlike 15 = .ok (.if_icmp .ge 31, 3) := by decide +kernel
theorem dX9_unlike_18 : decode cX9_unlike 18 = .ok (.aload_n 0, 1) := by decide +kernel
theorem dX9_unlike_19 : decode cX9_unlike 19 = .ok (.aload_n 0, 1) := by decide +kernel
theorem dX9_unlike_20 : decode cX9_unlike 20 = .ok (.getfield 10, 3) := by decide +kernel
theorem dX9_unlike_23 : decode cX9_unlike 23 = .ok (.getfield 110, 3) := by decide +kernel
theorem dX9_unlike_26 : decode cX9_unlike 26 = .ok (.iload_n 2, 1) := by decide +kernel
theorem dX9_unlike_27 : decode cX9_unlike 27 = .ok (.invokevirtual 144, 3) := by decide +kernel
theorem dX9_unlike_30 : decode cX9_unlike 30 = .ok (.invokevirtual 153, 3) := by decide +kernel
theorem dX9_unlike_33 : decode cX9_unlike 33 = .ok (.iload_n 2, 1) := by decide +kernel
theorem dX9_unlike_34 : decode cX9_unlike 34 = .ok (.if_icmp .ne 6, 3) := by decide +kernel
theorem dX9_unlike_37 : decode cX9_unlike 37 = .ok (.iinc 1 1, 3) := by decide +kernel
theorem dX9_unlike_40 : decode cX9_unlike 40 = .ok (.iinc 2 1, 3) := by decide +kernel
theorem dX9_unlike_43 : decode cX9_unlike 43 = .ok (.goto (-39), 3) := by decide +kernel
theorem dX9_unlike_46 : decode cX9_unlike 46 = .ok (.iload_n 1, 1) := by decide +kernel
theorem dX9_unlike_47 : decode cX9_unlike 47 = .ok (.ireturn, 1) := by decide +kernel
theorem dX9_clear_0 : decode cX9_clear 0 = .ok (.aload_n 0, 1) := by decide +kernel
theorem dX9_clear_1 : decode cX9_clear 1 = .ok (.getfield 10, 3) := by decide +kernel
theorem dX9_clear_4 : decode cX9_clear 4 = .ok (.getfield 110, 3) := by decide +kernel
theorem dX9_clear_7 : decode cX9_clear 7 = .ok (.invokevirtual 122, 3) := by decide +kernel
theorem dX9_clear_10 : decode cX9_clear 10 = .ok (.istore_n 1, 1) := by decide +kernel
theorem dX9_clear_11 : decode cX9_clear 11 = .ok (.aload_n 0, 1) := by decide +kernel
theorem dX9_clear_12 : decode cX9_clear 12 = .ok (.getfield 10, 3) := by decide +kernel
theorem dX9_clear_15 : decode cX9_clear 15 = .ok (.invokevirtual 104, 3) := by decide +kernel
theorem dX9_clear_18 : decode cX9_clear 18 = .ok (.iload_n 1, 1) := by decide +kernel
theorem dX9_clear_19 : decode cX9_clear 19 = .ok (.ireturn, 1) := by decide +kernel
theorem dX9_write_0 : decode cX9_write 0 = .ok (.aload_n 0, 1) := by decide +kernel
theorem dX9_write_1 : decode cX9_write 1 = .ok (.iconst 0, 1) := by decide +kernel
theorem dX9_write_2 : decode cX9_write 2 = .ok (.putfield 156, 3) := by decide +kernel
theorem dX9_write_5 : decode cX9_write 5 = .ok (.aload_n 0, 1) := by decide +kernel
theorem dX9_write_6 : decode cX9_write 6 = .ok (.getfield 10, 3) := by decide +kernel
theorem dX9_write_9 : decode cX9_write 9 = .ok (.getfield 110, 3) := by decide +kernel
theorem dX9_write_12 : decode cX9_write 12 = .ok (.invokevirtual 137, 3) := by decide +kernel
theorem dX9_write_15 : decode cX9_write 15 = .ok (.istore_n 1, 1) := by decide +kernel
theorem dX9_write_16 : decode cX9_write 16 = .ok (.iconst 0, 1) := by decide +kernel
theorem dX9_write_17 : decode cX9_write 17 = .ok (.istore_n 2, 1) := by decide +kernel
theorem dX9_write_18 : decode cX9_write 18 = .ok (.iload_n 2, 1) := by decide +kernel
theorem dX9_write_19 : decode cX9_write 19 = .ok (.iload_n 1, 1) := by decide +kernel
theorem dX9_write_20 : decode cX9_write 20 = .ok (.if_icmp .ge 30, 3) := by decide +kernel
theorem dX9_write_23 : decode cX9_write 23 = .ok (.aload_n 0, 1) := by decide +kernel
theorem dX9_write_24 : decode cX9_write 24 = .ok (.aload_n 0, 1) := by decide +kernel
theorem dX9_write_25 : decode cX9_write 25 = .ok (.getfield 10, 3) := by decide +kernel
theorem dX9_write_28 : decode cX9_write 28 = .ok (.getfield 110, 3) := by decide +kernel
theorem dX9_write_31 : decode cX9_write 31 = .ok (.iload_n 2, 1) := by decide +kernel
theorem dX9_write_32 : decode cX9_write 32 = .ok (.invokevirtual 144, 3) := by decide +kernel
theorem dX9_write_35 : decode cX9_write 35 = .ok (.invokevirtual 159, 3) := by decide +kernel
theorem dX9_write_38 : decode cX9_write 38 = .ok (.aload_n 0, 1) := by decide +kernel
theorem dX9_write_39 : decode cX9_write 39 = .ok (.bipush 32, 2) := by decide +kernel
theorem dX9_write_41 : decode cX9_write 41 = .ok (.invokevirtual 162, 3) := by decide +kernel
theorem dX9_write_44 : decode cX9_write 44 = .ok (.iinc 2 1, 3) := by decide +kernel
theorem dX9_write_47 : decode cX9_write 47 = .ok (.goto (-29), 3) := by decide +kernel
theorem dX9_write_50 : decode cX9_write 50 = .ok (.aload_n 0, 1) := by decide +kernel
theorem dX9_write_51 : decode cX9_write 51 = .ok (.bipush 124, 2) := by decide +kernel
theorem dX9_write_53 : decode cX9_write 53 = .ok (.invokevirtual 162, 3) := by decide +kernel
theorem dX9_write_56 : decode cX9_write 56 = .ok (.iload_n 1, 1) := by decide +kernel
theorem dX9_write_57 : decode cX9_write 57 = .ok (.istore_n 2, 1) := by decide +kernel
theorem dX9_write_58 : decode cX9_write 58 = .ok (.iload_n 2, 1) := by decide +kernel
theorem dX9_write_59 : decode cX9_write 59 = .ok (.aload_n 0, 1) := by decide +kernel
theorem dX9_write_60 : decode cX9_write 60 = .ok (.getfield 10, 3) := by decide +kernel
theorem dX9_write_63 : decode cX9_write 63 = .ok (.getfield 110, 3) := by decide +kernel
theorem dX9_write_66 : decode cX9_write 66 = .ok (.invokevirtual 122, 3) := by decide +kernel
theorem dX9_write_69 : decode cX9_write 69 = .ok (.if_icmp .ge 30, 3) := by decide +kernel
theorem dX9_write_72 : decode cX9_write 72 = .ok (.aload_n 0, 1) := by decide +kernel
theorem dX9_write_73 : decode cX9_write 73 = .ok (.bipush 32, 2) := by decide +kernel
theorem dX9_write_75 : decode cX9_write 75 = .ok (.invokevirtual 162, 3) := by decide +kernel
theorem dX9_write_78 : decode cX9_write 78 = .ok (.aload_n 0, 1) := by decide +kernel
theorem dX9_write_79 : decode cX9_write 79 = .ok (.aload_n 0, 1) := by decide +kernel
theorem dX9_write_80 : decode cX9_write 80 = .ok (.getfield 10, 3) := by decide +kernel
theorem dX9_write_83 : decode cX9_write 83 = .ok (.getfield 110, 3) := by decide +kernel
theorem dX9_write_86 : decode cX9_write 86 = .ok (.iload_n 2, 1) := by decide +kernel
theorem dX9_write_87 : decode cX9_write 87 = .ok (.invokevirtual 144, 3) := by decide +kernel
theorem dX9_write_90 : decode cX9_write 90 = .ok (.invokevirtual 159, 3) := by decide +kernel
theorem dX9_write_93 : decode cX9_write 93 = .ok (.iinc 2 1, 3) := by decide +kernel
theorem dX9_write_96 : decode cX9_write 96 = .ok (.goto (-38), 3) := by decide +kernel
theorem dX9_write_99 : decode cX9_write 99 = .ok (.aload_n 0, 1) := by decide +kernel
theorem dX9_write_100 : decode cX9_write 100 = .ok (.getfield 156, 3) := by decide +kernel
theorem dX9_write_103 : decode cX9_write 103 = .ok (.ireturn, 1) := by decide +kernel
theorem dX9_writtenAt_0 : decode cX9_writtenAt 0 = .ok (.iload_n 1, 1) := by decide +kernel
theorem dX9_writtenAt_1 : decode cX9_writtenAt 1 = .ok (.ifCond .lt 11, 3) := by decide +kernel
theorem dX9_writtenAt_4 : decode cX9_writtenAt 4 = .ok (.iload_n 1, 1) := by decide +kernel
theorem dX9_writtenAt_5 : decode cX9_writtenAt 5 = .ok (.aload_n 0, 1) := by decide +kernel
theorem dX9_writtenAt_6 : decode cX9_writtenAt 6 = .ok (.getfield 156, 3) := by decide +kernel
theorem dX9_writtenAt_9 : decode cX9_writtenAt 9 = .ok (.if_icmp .lt 11, 3) := by decide +kernel
theorem dX9_writtenAt_12 : decode cX9_writtenAt 12 = .ok (.new 150, 3) := by decide +kernel
theorem dX9_writtenAt_15 : decode cX9_writtenAt 15 = .ok (.dup, 1) := by decide +kernel
theorem dX9_writtenAt_16 : decode cX9_writtenAt 16 = .ok (.invokespecial 152, 3) := by decide +kernel
theorem dX9_writtenAt_19 : decode cX9_writtenAt 19 = .ok (.athrow, 1) := by decide +kernel
theorem dX9_writtenAt_20 : decode cX9_writtenAt 20 = .ok (.aload_n 0, 1) := by decide +kernel
theorem dX9_writtenAt_21 : decode cX9_writtenAt 21 = .ok (.getfield 37, 3) := by decide +kernel
theorem dX9_writtenAt_24 : decode cX9_writtenAt 24 = .ok (.iload_n 1, 1) := by decide +kernel
theorem dX9_writtenAt_25 : decode cX9_writtenAt 25 = .ok (.caload, 1) := by decide +kernel
theorem dX9_writtenAt_26 : decode cX9_writtenAt 26 = .ok (.ireturn, 1) := by decide +kernel
theorem dX9_refusals_0 : decode cX9_refusals 0 = .ok (.iload_n 1, 1) := by decide +kernel
theorem dX9_refusals_1 : decode cX9_refusals 1 = .ok (.bipush (-2), 2) := by decide +kernel
theorem dX9_refusals_3 : decode cX9_refusals 3 = .ok (.if_icmp .gt 9, 3) := by decide +kernel
theorem dX9_refusals_6 : decode cX9_refusals 6 = .ok (.iload_n 1, 1) := by decide +kernel
theorem dX9_refusals_7 : decode cX9_refusals 7 = .ok (.bipush (-5), 2) := by decide +kernel
theorem dX9_refusals_9 : decode cX9_refusals 9 = .ok (.if_icmp .ge 11, 3) := by decide +kernel
theorem dX9_refusals_12 : decode cX9_refusals 12 = .ok (.new 101, 3) := by decide +kernel
theorem dX9_refusals_15 : decode cX9_refusals 15 = .ok (.dup, 1) := by decide +kernel
theorem dX9_refusals_16 : decode cX9_refusals 16 = .ok (.invokespecial 103, 3) := by decide +kernel
theorem dX9_refusals_19 : decode cX9_refusals 19 = .ok (.athrow, 1) := by decide +kernel
theorem dX9_refusals_20 : decode cX9_refusals 20 = .ok (.aload_n 0, 1) := by decide +kernel
theorem dX9_refusals_21 : decode cX9_refusals 21 = .ok (.getfield 10, 3) := by decide +kernel
theorem dX9_refusals_24 : decode cX9_refusals 24 = .ok (.getfield 166, 3) := by decide +kernel
theorem dX9_refusals_27 : decode cX9_refusals 27 = .ok (.bipush (-2), 2) := by decide +kernel
theorem dX9_refusals_29 : decode cX9_refusals 29 = .ok (.iload_n 1, 1) := by decide +kernel
theorem dX9_refusals_30 : decode cX9_refusals 30 = .ok (.isub, 1) := by decide +kernel
theorem dX9_refusals_31 : decode cX9_refusals 31 = .ok (.iaload, 1) := by decide +kernel
theorem dX9_refusals_32 : decode cX9_refusals 32 = .ok (.ireturn, 1) := by decide +kernel
theorem dX9_acts_0 : decode cX9_acts 0 = .ok (.aload_n 0, 1) := by decide +kernel
theorem dX9_acts_1 : decode cX9_acts 1 = .ok (.getfield 10, 3) := by decide +kernel
theorem dX9_acts_4 : decode cX9_acts 4 = .ok (.getfield 127, 3) := by decide +kernel
theorem dX9_acts_7 : decode cX9_acts 7 = .ok (.ireturn, 1) := by decide +kernel
theorem dX9_meanLetters_0 : decode cX9_meanLetters 0 = .ok (.aload_n 0, 1) := by decide +kernel
theorem dX9_meanLetters_1 : decode cX9_meanLetters 1 = .ok (.getfield 10, 3) := by decide +kernel
theorem dX9_meanLetters_4 : decode cX9_meanLetters 4 = .ok (.getfield 110, 3) := by decide +kernel
theorem dX9_meanLetters_7 : decode cX9_meanLetters 7 = .ok (.invokevirtual 122, 3) := by decide +kernel
theorem dX9_meanLetters_10 : decode cX9_meanLetters 10 = .ok (.istore_n 1, 1) := by decide +kernel
theorem dX9_meanLetters_11 : decode cX9_meanLetters 11 = .ok (.iload_n 1, 1) := by decide +kernel
theorem dX9_meanLetters_12 : decode cX9_meanLetters 12 = .ok (.ifCond .ne 5, 3) := by decide +kernel
theorem dX9_meanLetters_15 : decode cX9_meanLetters 15 = .ok (.dconst 0, 1) := by decide +kernel
theorem dX9_meanLetters_16 : decode cX9_meanLetters 16 = .ok (.dreturn, 1) := by decide +kernel
theorem dX9_meanLetters_17 : decode cX9_meanLetters 17 = .ok (.iconst 0, 1) := by decide +kernel
theorem dX9_meanLetters_18 : decode cX9_meanLetters 18 = .ok (.istore_n 2, 1) := by decide +kernel
theorem dX9_meanLetters_19 : decode cX9_meanLetters 19 = .ok (.iconst 0, 1) := by decide +kernel
theorem dX9_meanLetters_20 : decode cX9_meanLetters 20 = .ok (.istore_n 3, 1) := by decide +kernel
theorem dX9_meanLetters_21 : decode cX9_meanLetters 21 = .ok (.iload_n 3, 1) := by decide +kernel
theorem dX9_meanLetters_22 : decode cX9_meanLetters 22 = .ok (.iload_n 1, 1) := by decide +kernel
theorem dX9_meanLetters_23 : decode cX9_meanLetters 23 = .ok (.if_icmp .ge 26, 3) := by decide +kernel
theorem dX9_meanLetters_26 : decode cX9_meanLetters 26 = .ok (.iload_n 2, 1) := by decide +kernel
theorem dX9_meanLetters_27 : decode cX9_meanLetters 27 = .ok (.aload_n 0, 1) := by decide +kernel
theorem dX9_meanLetters_28 : decode cX9_meanLetters 28 = .ok (.getfield 10, 3) := by decide +kernel
theorem dX9_meanLetters_31 : decode cX9_meanLetters 31 = .ok (.getfield 110, 3) := by decide +kernel
theorem dX9_meanLetters_34 : decode cX9_meanLetters 34 = .ok (.iload_n 3, 1) := by decide +kernel
theorem dX9_meanLetters_35 : decode cX9_meanLetters 35 = .ok (.invokevirtual 144, 3) := by decide +kernel
theorem dX9_meanLetters_38 : decode cX9_meanLetters 38 = .ok (.invokestatic 170, 3) := by decide +kernel
theorem dX9_meanLetters_41 : decode cX9_meanLetters 41 = .ok (.iadd, 1) := by decide +kernel
theorem dX9_meanLetters_42 : decode cX9_meanLetters 42 = .ok (.istore_n 2, 1) := by decide +kernel
theorem dX9_meanLetters_43 : decode cX9_meanLetters 43 = .ok (.iinc 3 1, 3) := by decide +kernel
theorem dX9_meanLetters_46 : decode cX9_meanLetters 46 = .ok (.goto (-25), 3) := by decide +kernel
theorem dX9_meanLetters_49 : decode cX9_meanLetters 49 = .ok (.iload_n 2, 1) := by decide +kernel
theorem dX9_meanLetters_50 : decode cX9_meanLetters 50 = .ok (.i2d, 1) := by decide +kernel
theorem dX9_meanLetters_51 : decode cX9_meanLetters 51 = .ok (.iload_n 1, 1) := by decide +kernel
theorem dX9_meanLetters_52 : decode cX9_meanLetters 52 = .ok (.i2d, 1) := by decide +kernel
theorem dX9_meanLetters_53 : decode cX9_meanLetters 53 = .ok (.ddiv, 1) := by decide +kernel
theorem dX9_meanLetters_54 : decode cX9_meanLetters 54 = .ok (.dreturn, 1) := by decide +kernel
theorem dX9_caretShare_0 : decode cX9_caretShare 0 = .ok (.aload_n 0, 1) := by decide +kernel
theorem dX9_caretShare_1 : decode cX9_caretShare 1 = .ok (.getfield 10, 3) := by decide +kernel
theorem dX9_caretShare_4 : decode cX9_caretShare 4 = .ok (.getfield 110, 3) := by decide +kernel
theorem dX9_caretShare_7 : decode cX9_caretShare 7 = .ok (.invokevirtual 122, 3) := by decide +kernel
theorem dX9_caretShare_10 : decode cX9_caretShare 10 = .ok (.istore_n 1, 1) := by decide +kernel
theorem dX9_caretShare_11 : decode cX9_caretShare 11 = .ok (.iload_n 1, 1) := by decide +kernel
theorem dX9_caretShare_12 : decode cX9_caretShare 12 = .ok (.ifCond .ne 5, 3) := by decide +kernel
theorem dX9_caretShare_15 : decode cX9_caretShare 15 = .ok (.fconst 0, 1) := by decide +kernel
theorem dX9_caretShare_16 : decode cX9_caretShare 16 = .ok (.freturn, 1) := by decide +kernel
theorem dX9_caretShare_17 : decode cX9_caretShare 17 = .ok (.aload_n 0, 1) := by decide +kernel
theorem dX9_caretShare_18 : decode cX9_caretShare 18 = .ok (.getfield 10, 3) := by decide +kernel
theorem dX9_caretShare_21 : decode cX9_caretShare 21 = .ok (.getfield 110, 3) := by decide +kernel
theorem dX9_caretShare_24 : decode cX9_caretShare 24 = .ok (.invokevirtual 137, 3) := by decide +kernel
theorem dX9_caretShare_27 : decode cX9_caretShare 27 = .ok (.i2f, 1) := by decide +kernel
theorem dX9_caretShare_28 : decode cX9_caretShare 28 = .ok (.iload_n 1, 1) := by decide +kernel
theorem dX9_caretShare_29 : decode cX9_caretShare 29 = .ok (.i2f, 1) := by decide +kernel
theorem dX9_caretShare_30 : decode cX9_caretShare 30 = .ok (.fdiv, 1) := by decide +kernel
theorem dX9_caretShare_31 : decode cX9_caretShare 31 = .ok (.freturn, 1) := by decide +kernel
theorem dX9_agree_0 : decode cX9_agree 0 = .ok (.aload_n 0, 1) := by decide +kernel
theorem dX9_agree_1 : decode cX9_agree 1 = .ok (.getfield 10, 3) := by decide +kernel
theorem dX9_agree_4 : decode cX9_agree 4 = .ok (.getfield 110, 3) := by decide +kernel
theorem dX9_agree_7 : decode cX9_agree 7 = .ok (.invokevirtual 173, 3) := by decide +kernel
theorem dX9_agree_10 : decode cX9_agree 10 = .ok (.ireturn, 1) := by decide +kernel
theorem dX9_errors_0 : decode cX9_errors 0 = .ok (.aload_n 0, 1) := by decide +kernel
theorem dX9_errors_1 : decode cX9_errors 1 = .ok (.getfield 10, 3) := by decide +kernel
theorem dX9_errors_4 : decode cX9_errors 4 = .ok (.getfield 110, 3) := by decide +kernel
theorem dX9_errors_7 : decode cX9_errors 7 = .ok (.getfield 177, 3) := by decide +kernel
theorem dX9_errors_10 : decode cX9_errors 10 = .ok (.ireturn, 1) := by decide +kernel
theorem dX9_requireWord_0 : decode cX9_requireWord 0 = .ok (.iload_n 0, 1) := by decide +kernel
theorem dX9_requireWord_1 : decode cX9_requireWord 1 = .ok (.invokestatic 180, 3) := by decide +kernel
theorem dX9_requireWord_4 : decode cX9_requireWord 4 = .ok (.ifCond .ne 11, 3) := by decide +kernel
theorem dX9_requireWord_7 : decode cX9_requireWord 7 = .ok (.new 101, 3) := by decide +kernel
theorem dX9_requireWord_10 : decode cX9_requireWord 10 = .ok (.dup, 1) := by decide +kernel
theorem dX9_requireWord_11 : decode cX9_requireWord 11 = .ok (.invokespecial 103, 3) := by decide +kernel
theorem dX9_requireWord_14 : decode cX9_requireWord 14 = .ok (.athrow, 1) := by decide +kernel
theorem dX9_requireWord_15 : decode cX9_requireWord 15 = .ok (.return_, 1) := by decide +kernel
theorem dX9_isWord_0 : decode cX9_isWord 0 = .ok (.iload_n 0, 1) := by decide +kernel
theorem dX9_isWord_1 : decode cX9_isWord 1 = .ok (.iconst 1, 1) := by decide +kernel
theorem dX9_isWord_2 : decode cX9_isWord 2 = .ok (.if_icmp .lt 9, 3) := by decide +kernel
theorem dX9_isWord_5 : decode cX9_isWord 5 = .ok (.iload_n 0, 1) := by decide +kernel
theorem dX9_isWord_6 : decode cX9_isWord 6 = .ok (.ldc 184, 2) := by decide +kernel
theorem dX9_isWord_8 : decode cX9_isWord 8 = .ok (.if_icmp .le 5, 3) := by decide +kernel
theorem dX9_isWord_11 : decode cX9_isWord 11 = .ok (.iconst 0, 1) := by decide +kernel
theorem dX9_isWord_12 : decode cX9_isWord 12 = .ok (.ireturn, 1) := by decide +kernel
theorem dX9_isWord_13 : decode cX9_isWord 13 = .ok (.iload_n 0, 1) := by decide +kernel
theorem dX9_isWord_14 : decode cX9_isWord 14 = .ok (.istore_n 1, 1) := by decide +kernel
theorem dX9_isWord_15 : decode cX9_isWord 15 = .ok (.iload_n 1, 1) := by decide +kernel
theorem dX9_isWord_16 : decode cX9_isWord 16 = .ok (.ifCond .le 20, 3) := by decide +kernel
theorem dX9_isWord_19 : decode cX9_isWord 19 = .ok (.iload_n 1, 1) := by decide +kernel
theorem dX9_isWord_20 : decode cX9_isWord 20 = .ok (.bipush 27, 2) := by decide +kernel
theorem dX9_isWord_22 : decode cX9_isWord 22 = .ok (.irem, 1) := by decide +kernel
theorem dX9_isWord_23 : decode cX9_isWord 23 = .ok (.ifCond .ne 5, 3) := by decide +kernel
theorem dX9_isWord_26 : decode cX9_isWord 26 = .ok (.iconst 0, 1) := by decide +kernel
theorem dX9_isWord_27 : decode cX9_isWord 27 = .ok (.ireturn, 1) := by decide +kernel
theorem dX9_isWord_28 : decode cX9_isWord 28 = .ok (.iload_n 1, 1) := by decide +kernel
theorem dX9_isWord_29 : decode cX9_isWord 29 = .ok (.bipush 27, 2) := by decide +kernel
theorem dX9_isWord_31 : decode cX9_isWord 31 = .ok (.idiv, 1) := by decide +kernel
theorem dX9_isWord_32 : decode cX9_isWord 32 = .ok (.istore_n 1, 1) := by decide +kernel
theorem dX9_isWord_33 : decode cX9_isWord 33 = .ok (.goto (-18), 3) := by decide +kernel
theorem dX9_isWord_36 : decode cX9_isWord 36 = .ok (.iconst 1, 1) := by decide +kernel
theorem dX9_isWord_37 : decode cX9_isWord 37 = .ok (.ireturn, 1) := by decide +kernel
theorem dX9_lettersOf_0 : decode cX9_lettersOf 0 = .ok (.iconst 0, 1) := by decide +kernel
theorem dX9_lettersOf_1 : decode cX9_lettersOf 1 = .ok (.istore_n 1, 1) := by decide +kernel
theorem dX9_lettersOf_2 : decode cX9_lettersOf 2 = .ok (.iload_n 0, 1) := by decide +kernel
theorem dX9_lettersOf_3 : decode cX9_lettersOf 3 = .ok (.istore_n 2, 1) := by decide +kernel
theorem dX9_lettersOf_4 : decode cX9_lettersOf 4 = .ok (.iload_n 2, 1) := by decide +kernel
theorem dX9_lettersOf_5 : decode cX9_lettersOf 5 = .ok (.ifCond .le 14, 3) := by decide +kernel
theorem dX9_lettersOf_8 : decode cX9_lettersOf 8 = .ok (.iinc 1 1, 3) := by decide +kernel
theorem dX9_lettersOf_11 : decode cX9_lettersOf 11 = .ok (.iload_n 2, 1) := by decide +kernel
theorem dX9_lettersOf_12 : decode cX9_lettersOf 12 = .ok (.bipush 27, 2) := by decide +kernel
theorem dX9_lettersOf_14 : decode cX9_lettersOf 14 = .ok (.idiv, 1) := by decide +kernel
theorem dX9_lettersOf_15 : decode cX9_lettersOf 15 = .ok (.istore_n 2, 1) := by decide +kernel
theorem dX9_lettersOf_16 : decode cX9_lettersOf 16 = .ok (.goto (-12), 3) := by decide +kernel
theorem dX9_lettersOf_19 : decode cX9_lettersOf 19 = .ok (.iload_n 1, 1) := by decide +kernel
theorem dX9_lettersOf_20 : decode cX9_lettersOf 20 = .ok (.ireturn, 1) := by decide +kernel
theorem dX9_firstIndex_0 : decode cX9_firstIndex 0 = .ok (.iconst 0, 1) := by decide +kernel
theorem dX9_firstIndex_1 : decode cX9_firstIndex 1 = .ok (.istore_n 2, 1) := by decide +kernel
theorem dX9_firstIndex_2 : decode cX9_firstIndex 2 = .ok (.iload_n 2, 1) := by decide +kernel
theorem dX9_firstIndex_3 : decode cX9_firstIndex 3 = .ok (.aload_n 0, 1) := by decide +kernel
theorem dX9_firstIndex_4 : decode cX9_firstIndex 4 = .ok (.getfield 10, 3) := by decide +kernel
theorem dX9_firstIndex_7 : decode cX9_firstIndex 7 = .ok (.getfield 110, 3) := by decide +kernel
theorem dX9_firstIndex_10 : decode cX9_firstIndex 10 = .ok (.invokevirtual 122, 3) := by decide +kernel
theorem dX9_firstIndex_13 : decode cX9_firstIndex 13 = .ok (.if_icmp .ge 26, 3) := by decide +kernel
theorem dX9_firstIndex_16 : decode cX9_firstIndex 16 = .ok (.aload_n 0, 1) := by decide +kernel
theorem dX9_firstIndex_17 : decode cX9_firstIndex 17 = .ok (.getfield 10, 3) := by decide +kernel
theorem dX9_firstIndex_20 : decode cX9_firstIndex 20 = .ok (.getfield 110, 3) := by decide +kernel
theorem dX9_firstIndex_23 : decode cX9_firstIndex 23 = .ok (.iload_n 2, 1) := by decide +kernel
theorem dX9_firstIndex_24 : decode cX9_firstIndex 24 = .ok (.invokevirtual 144, 3) := by decide +kernel
theorem dX9_firstIndex_27 : decode cX9_firstIndex 27 = .ok (.iload_n 1, 1) := by decide +kernel
theorem dX9_firstIndex_28 : decode cX9_firstIndex 28 = .ok (.if_icmp .ne 5, 3) := by decide +kernel
theorem dX9_firstIndex_31 : decode cX9_firstIndex 31 = .ok (.iload_n 2, 1) := by decide +kernel
theorem dX9_firstIndex_32 : decode cX9_firstIndex 32 = .ok (.ireturn, 1) := by decide +kernel
theorem dX9_firstIndex_33 : decode cX9_firstIndex 33 = .ok (.iinc 2 1, 3) := by decide +kernel
theorem dX9_firstIndex_36 : decode cX9_firstIndex 36 = .ok (.goto (-34), 3) := by decide +kernel
theorem dX9_firstIndex_39 : decode cX9_firstIndex 39 = .ok (.iconst (-1), 1) := by decide +kernel
theorem dX9_firstIndex_40 : decode cX9_firstIndex 40 = .ok (.ireturn, 1) := by decide +kernel
theorem dX9_spell_0 : decode cX9_spell 0 = .ok (.ldc 185, 2) := by decide +kernel
theorem dX9_spell_2 : decode cX9_spell 2 = .ok (.istore_n 2, 1) := by decide +kernel
theorem dX9_spell_3 : decode cX9_spell 3 = .ok (.iload_n 2, 1) := by decide +kernel
theorem dX9_spell_4 : decode cX9_spell 4 = .ok (.ifCond .le 33, 3) := by decide +kernel
theorem dX9_spell_7 : decode cX9_spell 7 = .ok (.iload_n 1, 1) := by decide +kernel
theorem dX9_spell_8 : decode cX9_spell 8 = .ok (.iload_n 2, 1) := by decide +kernel
theorem dX9_spell_9 : decode cX9_spell 9 = .ok (.idiv, 1) := by decide +kernel
theorem dX9_spell_10 : decode cX9_spell 10 = .ok (.bipush 27, 2) := by decide +kernel
theorem dX9_spell_12 : decode cX9_spell 12 = .ok (.irem, 1) := by decide +kernel
theorem dX9_spell_13 : decode cX9_spell 13 = .ok (.istore_n 3, 1) := by decide +kernel
theorem dX9_spell_14 : decode cX9_spell 14 = .ok (.iload_n 3, 1) := by decide +kernel
theorem dX9_spell_15 : decode cX9_spell 15 = .ok (.ifCond .eq 14, 3) := by decide +kernel
theorem dX9_spell_18 : decode cX9_spell 18 = .ok (.aload_n 0, 1) := by decide +kernel
theorem dX9_spell_19 : decode cX9_spell 19 = .ok (.bipush 97, 2) := by decide +kernel
theorem dX9_spell_21 : decode cX9_spell 21 = .ok (.iload_n 3, 1) := by decide +kernel
theorem dX9_spell_22 : decode cX9_spell 22 = .ok (.iadd, 1) := by decide +kernel
theorem dX9_spell_23 : decode cX9_spell 23 = .ok (.iconst 1, 1) := by decide +kernel
theorem dX9_spell_24 : decode cX9_spell 24 = .ok (.isub, 1) := by decide +kernel
theorem dX9_spell_25 : decode cX9_spell 25 = .ok (.i2c, 1) := by decide +kernel
theorem dX9_spell_26 : decode cX9_spell 26 = .ok (.invokevirtual 162, 3) := by decide +kernel
theorem dX9_spell_29 : decode cX9_spell 29 = .ok (.iload_n 2, 1) := by decide +kernel
theorem dX9_spell_30 : decode cX9_spell 30 = .ok (.bipush 27, 2) := by decide +kernel
theorem dX9_spell_32 : decode cX9_spell 32 = .ok (.idiv, 1) := by decide +kernel
theorem dX9_spell_33 : decode cX9_spell 33 = .ok (.istore_n 2, 1) := by decide +kernel
theorem dX9_spell_34 : decode cX9_spell 34 = .ok (.goto (-31), 3) := by decide +kernel
theorem dX9_spell_37 : decode cX9_spell 37 = .ok (.return_, 1) := by decide +kernel
theorem dX9_put_0 : decode cX9_put 0 = .ok (.aload_n 0, 1) := by decide +kernel
theorem dX9_put_1 : decode cX9_put 1 = .ok (.getfield 156, 3) := by decide +kernel
theorem dX9_put_4 : decode cX9_put 4 = .ok (.aload_n 0, 1) := by decide +kernel
theorem dX9_put_5 : decode cX9_put 5 = .ok (.getfield 37, 3) := by decide +kernel
theorem dX9_put_8 : decode cX9_put 8 = .ok (.arraylength, 1) := by decide +kernel
theorem dX9_put_9 : decode cX9_put 9 = .ok (.if_icmp .ge 23, 3) := by decide +kernel
theorem dX9_put_12 : decode cX9_put 12 = .ok (.aload_n 0, 1) := by decide +kernel
theorem dX9_put_13 : decode cX9_put 13 = .ok (.getfield 37, 3) := by decide +kernel
theorem dX9_put_16 : decode cX9_put 16 = .ok (.aload_n 0, 1) := by decide +kernel
theorem dX9_put_17 : decode cX9_put 17 = .ok (.getfield 156, 3) := by decide +kernel
theorem dX9_put_20 : decode cX9_put 20 = .ok (.iload_n 1, 1) := by decide +kernel
theorem dX9_put_21 : decode cX9_put 21 = .ok (.castore, 1) := by decide +kernel
theorem dX9_put_22 : decode cX9_put 22 = .ok (.aload_n 0, 1) := by decide +kernel
theorem dX9_put_23 : decode cX9_put 23 = .ok (.dup, 1) := by decide +kernel
theorem dX9_put_24 : decode cX9_put 24 = .ok (.getfield 156, 3) := by decide +kernel
theorem dX9_put_27 : decode cX9_put 27 = .ok (.iconst 1, 1) := by decide +kernel
theorem dX9_put_28 : decode cX9_put 28 = .ok (.iadd, 1) := by decide +kernel
theorem dX9_put_29 : decode cX9_put 29 = .ok (.putfield 156, 3) := by decide +kernel
theorem dX9_put_32 : decode cX9_put 32 = .ok (.return_, 1) := by decide +kernel
theorem dX9_perform_0 : decode cX9_perform 0 = .ok (.iconst 0, 1) := by decide +kernel
theorem dX9_perform_1 : decode cX9_perform 1 = .ok (.istore 4, 2) := by decide +kernel
theorem dX9_perform_3 : decode cX9_perform 3 = .ok (.iload_n 1, 1) := by decide +kernel
theorem dX9_perform_4 : decode cX9_perform 4 = .ok (.istore 5, 2) := by decide +kernel
theorem dX9_perform_6 : decode cX9_perform 6 = .ok (.iload_n 1, 1) := by decide +kernel
theorem dX9_perform_7 : decode cX9_perform 7 = .ok (.istore 6, 2) := by decide +kernel
theorem dX9_perform_9 : decode cX9_perform 9 = .ok (.iload 6, 2) := by decide +kernel
theorem dX9_perform_11 : decode cX9_perform 11 = .ok (.iload_n 2, 1) := by decide +kernel
theorem dX9_perform_12 : decode cX9_perform 12 = .ok (.if_icmp .ge 99, 3) := by decide +kernel
theorem dX9_perform_15 : decode cX9_perform 15 = .ok (.iload 4, 2) := by decide +kernel
theorem dX9_perform_17 : decode cX9_perform 17 = .ok (.ifCond .ne 94, 3) := by decide +kernel
theorem dX9_perform_20 : decode cX9_perform 20 = .ok (.iload 6, 2) := by decide +kernel
theorem dX9_perform_22 : decode cX9_perform 22 = .ok (.iload 5, 2) := by decide +kernel
theorem dX9_perform_24 : decode cX9_perform 24 = .ok (.if_icmp .ne 81, 3) := by decide +kernel
theorem dX9_perform_27 : decode cX9_perform 27 = .ok (.aload_n 0, 1) := by decide +kernel
theorem dX9_perform_28 : decode cX9_perform 28 = .ok (.getfield 26, 3) := by decide +kernel
theorem dX9_perform_31 : decode cX9_perform 31 = .ok (.iload 6, 2) := by decide +kernel
theorem dX9_perform_33 : decode cX9_perform 33 = .ok (.invokevirtual 186, 3) := by decide +kernel
theorem dX9_perform_36 : decode cX9_perform 36 = .ok (.istore 5, 2) := by decide +kernel
theorem dX9_perform_38 : decode cX9_perform 38 = .ok (.aload_n 0, 1) := by decide +kernel
theorem dX9_perform_39 : decode cX9_perform 39 = .ok (.getfield 26, 3) := by decide +kernel
theorem dX9_perform_42 : decode cX9_perform 42 = .ok (.iload 6, 2) := by decide +kernel
theorem dX9_perform_44 : decode cX9_perform 44 = .ok (.invokevirtual 189, 3) := by decide +kernel
theorem dX9_perform_47 : decode cX9_perform 47 = .ok (.istore 7, 2) := by decide +kernel
theorem dX9_perform_49 : decode cX9_perform 49 = .ok (.iload 7, 2) := by decide +kernel
theorem dX9_perform_51 : decode cX9_perform 51 = .ok (.bipush 42, 2) := by decide +kernel
theorem dX9_perform_53 : decode cX9_perform 53 = .ok (.if_icmp .ne 15, 3) := by decide +kernel
theorem dX9_perform_56 : decode cX9_perform 56 = .ok (.aload_n 0, 1) := by decide +kernel
theorem dX9_perform_57 : decode cX9_perform 57 = .ok (.iload 6, 2) := by decide +kernel
theorem dX9_perform_59 : decode cX9_perform 59 = .ok (.iload_n 3, 1) := by decide +kernel
theorem dX9_perform_60 : decode cX9_perform 60 = .ok (.invokevirtual 192, 3) := by decide +kernel
theorem dX9_perform_63 : decode cX9_perform 63 = .ok (.istore 4, 2) := by decide +kernel
theorem dX9_perform_65 : decode cX9_perform 65 = .ok (.goto 40, 3) := by decide +kernel
theorem dX9_perform_68 : decode cX9_perform 68 = .ok (.iload 7, 2) := by decide +kernel
theorem dX9_perform_70 : decode cX9_perform 70 = .ok (.iconst 2, 1) := by decide +kernel
theorem dX9_perform_71 : decode cX9_perform 71 = .ok (.if_icmp .ne 15, 3) := by decide +kernel
theorem dX9_perform_74 : decode cX9_perform 74 = .ok (.aload_n 0, 1) := by decide +kernel
theorem dX9_perform_75 : decode cX9_perform 75 = .ok (.iload 6, 2) := by decide +kernel
theorem dX9_perform_77 : decode cX9_perform 77 = .ok (.iload_n 3, 1) := by decide +kernel
theorem dX9_perform_78 : decode cX9_perform 78 = .ok (.invokevirtual 196, 3) := by decide +kernel
theorem dX9_perform_81 : decode cX9_perform 81 = .ok (.istore 4, 2) := by decide +kernel
theorem dX9_perform_83 : decode cX9_perform 83 = .ok (.goto 22, 3) := by decide +kernel
theorem dX9_perform_86 : decode cX9_perform 86 = .ok (.aload_n 0, 1) := by decide +kernel
theorem dX9_perform_87 : decode cX9_perform 87 = .ok (.iload 7, 2) := by decide +kernel
theorem dX9_perform_89 : decode cX9_perform 89 = .ok (.aload_n 0, 1) := by decide +kernel
theorem dX9_perform_90 : decode cX9_perform 90 = .ok (.getfield 26, 3) := by decide +kernel
theorem dX9_perform_93 : decode cX9_perform 93 = .ok (.iload 6, 2) := by decide +kernel
theorem dX9_perform_95 : decode cX9_perform 95 = .ok (.iconst 1, 1) := by decide +kernel
theorem dX9_perform_96 : decode cX9_perform 96 = .ok (.iadd, 1) := by decide +kernel
theorem dX9_perform_97 : decode cX9_perform 97 = .ok (.invokevirtual 114, 3) := by decide +kernel
theorem dX9_perform_100 : decode cX9_perform 100 = .ok (.invokevirtual 199, 3) := by decide +kernel
theorem dX9_perform_103 : decode cX9_perform 103 = .ok (.istore 4, 2) := by decide +kernel
theorem dX9_perform_105 : decode cX9_perform 105 = .ok (.iinc 6 1, 3) := by decide +kernel
theorem dX9_perform_108 : decode cX9_perform 108 = .ok (.goto (-99), 3) := by decide +kernel
theorem dX9_perform_111 : decode cX9_perform 111 = .ok (.iload 4, 2) := by decide +kernel
theorem dX9_perform_113 : decode cX9_perform 113 = .ok (.ireturn, 1) := by decide +kernel
theorem dX9_repeatTimes_0 : decode cX9_repeatTimes 0 = .ok (.iconst 0, 1) := by decide +kernel
theorem dX9_repeatTimes_1 : decode cX9_repeatTimes 1 = .ok (.istore_n 3, 1) := by decide +kernel
theorem dX9_repeatTimes_2 : decode cX9_repeatTimes 2 = .ok (.iload_n 2, 1) := by decide +kernel
theorem dX9_repeatTimes_3 : decode cX9_repeatTimes 3 = .ok (.iconst 4, 1) := by decide +kernel
theorem dX9_repeatTimes_4 : decode cX9_repeatTimes 4 = .ok (.if_icmp .ge 14, 3) := by decide +kernel
theorem dX9_repeatTimes_7 : decode cX9_repeatTimes 7 = .ok (.aload_n 0, 1) := by decide +kernel
theorem dX9_repeatTimes_8 : decode cX9_repeatTimes 8 = .ok (.getfield 26, 3) := by decide +kernel
theorem dX9_repeatTimes_11 : decode cX9_repeatTimes 11 = .ok (.iload_n 1, 1) := by decide +kernel
theorem dX9_repeatTimes_12 : decode cX9_repeatTimes 12 = .ok (.invokevirtual 114, 3) := by decide +kernel
theorem dX9_repeatTimes_15 : decode cX9_repeatTimes 15 = .ok (.goto 4, 3) := by decide +kernel
theorem dX9_repeatTimes_18 : decode cX9_repeatTimes 18 = .ok (.iconst 0, 1) := by decide +kernel
theorem dX9_repeatTimes_19 : decode cX9_repeatTimes 19 = .ok (.istore 4, 2) := by decide +kernel
theorem dX9_repeatTimes_21 : decode cX9_repeatTimes 21 = .ok (.iconst 0, 1) := by decide +kernel
theorem dX9_repeatTimes_22 : decode cX9_repeatTimes 22 = .ok (.istore 5, 2) := by decide +kernel
theorem dX9_repeatTimes_24 : decode cX9_repeatTimes 24 = .ok (.iload 5, 2) := by decide +kernel
theorem dX9_repeatTimes_26 : decode cX9_repeatTimes 26 = .ok (.iload 4, 2) := by decide +kernel
theorem dX9_repeatTimes_28 : decode cX9_repeatTimes 28 = .ok (.if_icmp .ge 34, 3) := by decide +kernel
theorem dX9_repeatTimes_31 : decode cX9_repeatTimes 31 = .ok (.iload_n 3, 1) := by decide +kernel
theorem dX9_repeatTimes_32 : decode cX9_repeatTimes 32 = .ok (.ifCond .ne 30, 3) := by decide +kernel
theorem dX9_repeatTimes_35 : decode cX9_repeatTimes 35 = .ok (.aload_n 0, 1) := by decide +kernel
theorem dX9_repeatTimes_36 : decode cX9_repeatTimes 36 = .ok (.iload_n 1, 1) := by decide +kernel
theorem dX9_repeatTimes_37 : decode cX9_repeatTimes 37 = .ok (.iconst 2, 1) := by decide +kernel
theorem dX9_repeatTimes_38 : decode cX9_repeatTimes 38 = .ok (.iadd, 1) := by decide +kernel
theorem dX9_repeatTimes_39 : decode cX9_repeatTimes 39 = .ok (.aload_n 0, 1) := by decide +kernel
theorem dX9_repeatTimes_40 : decode cX9_repeatTimes 40 = .ok (.getfield 26, 3) := by decide +kernel
theorem dX9_repeatTimes_43 : decode cX9_repeatTimes 43 = .ok (.iload_n 1, 1) := by decide +kernel
theorem dX9_repeatTimes_44 : decode cX9_repeatTimes 44 = .ok (.invokevirtual 186, 3) := by decide +kernel
theorem dX9_repeatTimes_47 : decode cX9_repeatTimes 47 = .ok (.iconst 1, 1) := by decide +kernel
theorem dX9_repeatTimes_48 : decode cX9_repeatTimes 48 = .ok (.isub, 1) := by decide +kernel
theorem dX9_repeatTimes_49 : decode cX9_repeatTimes 49 = .ok (.iload_n 2, 1) := by decide +kernel
theorem dX9_repeatTimes_50 : decode cX9_repeatTimes 50 = .ok (.iconst 1, 1) := by decide +kernel
theorem dX9_repeatTimes_51 : decode cX9_repeatTimes 51 = .ok (.iadd, 1) := by decide +kernel
theorem dX9_repeatTimes_52 : decode cX9_repeatTimes 52 = .ok (.invokevirtual 133, 3) := by decide +kernel
theorem dX9_repeatTimes_55 : decode cX9_repeatTimes 55 = .ok (.istore_n 3, 1) := by decide +kernel
theorem dX9_repeatTimes_56 : decode cX9_repeatTimes 56 = .ok (.iinc 5 1, 3) := by decide +kernel
theorem dX9_repeatTimes_59 : decode cX9_repeatTimes 59 = .ok (.goto (-35), 3) := by decide +kernel
theorem dX9_repeatTimes_62 : decode cX9_repeatTimes 62 = .ok (.iload_n 3, 1) := by decide +kernel
theorem dX9_repeatTimes_63 : decode cX9_repeatTimes 63 = .ok (.ireturn, 1) := by decide +kernel
theorem dX9_repeatUntilRefused_0 : decode cX9_repeatUntilRefused 0 = .ok (.iload_n 2, 1) := by decide +kernel
theorem dX9_repeatUntilRefused_1 : decode cX9_repeatUntilRefused 1 = .ok (.iconst 4, 1) := by decide +kernel
theorem dX9_repeatUntilRefused_2 : decode cX9_repeatUntilRefused 2 = .ok (.if_icmp .ge 9, 3) := by decide +kernel
theorem dX9_repeatUntilRefused_5 : decode cX9_repeatUntilRefused 5 = .ok (.sipush 301, 3) := by decide +kernel
theorem dX9_repeatUntilRefused_8 : decode cX9_repeatUntilRefused 8 = .ok (.goto 4, 3) := by decide +kernel
theorem dX9_repeatUntilRefused_11 : decode cX9_repeatUntilRefused 11 = .ok (.iconst 0, 1) := by decide +kernel
theorem dX9_repeatUntilRefused_12 : decode cX9_repeatUntilRefused 12 = .ok (.istore_n 3, 1) := by decide +kernel
theorem dX9_repeatUntilRefused_13 : decode cX9_repeatUntilRefused 13 = .ok (.iconst 0, 1) := by decide +kernel
theorem dX9_repeatUntilRefused_14 : decode cX9_repeatUntilRefused 14 = .ok (.istore 4, 2) := by decide +kernel
theorem dX9_repeatUntilRefused_16 : decode cX9_repeatUntilRefused 16 = .ok (.iload 4, 2) := by decide +kernel
theorem dX9_repeatUntilRefused_18 : decode cX9_repeatUntilRefused 18 = .ok (.iload_n 3, 1) := by decide +kernel
theorem dX9_repeatUntilRefused_19 : decode cX9_repeatUntilRefused 19 = .ok (.if_icmp .ge 69, 3) := by decide +kernel
theorem dX9_repeatUntilRefused_22 : decode cX9_repeatUntilRefused 22 = .ok (.aload_n 0, 1) := by decide +kernel
theorem dX9_repeatUntilRefused_23 : decode cX9_repeatUntilRefused 23 = .ok (.getfield 10, 3) := by decide +kernel
theorem dX9_repeatUntilRefused_26 : decode cX9_repeatUntilRefused 26 = .ok (.getfield 127, 3) := by decide +kernel
theorem dX9_repeatUntilRefused_29 : decode cX9_repeatUntilRefused 29 = .ok (.istore 5, 2) := by decide +kernel
theorem dX9_repeatUntilRefused_31 : decode cX9_repeatUntilRefused 31 = .ok (.aload_n 0, 1) := by decide +kernel
theorem dX9_repeatUntilRefused_32 : decode cX9_repeatUntilRefused 32 = .ok (.iload_n 1, 1) := by decide +kernel
theorem dX9_repeatUntilRefused_33 : decode cX9_repeatUntilRefused 33 = .ok (.iconst 2, 1) := by decide +kernel
theorem dX9_repeatUntilRefused_34 : decode cX9_repeatUntilRefused 34 = .ok (.iadd, 1) := by decide +kernel
theorem dX9_repeatUntilRefused_35 : decode cX9_repeatUntilRefused 35 = .ok (.aload_n 0, 1) := by decide +kernel
theorem dX9_repeatUntilRefused_36 : decode cX9_repeatUntilRefused 36 = .ok (.getfield 26, 3) := by decide +kernel
theorem dX9_repeatUntilRefused_39 : decode cX9_repeatUntilRefused 39 = .ok (.iload_n 1, 1) := by decide +kernel
theorem dX9_repeatUntilRefused_40 : decode cX9_repeatUntilRefused 40 = .ok (.invokevirtual 186, 3) := by decide +kernel
theorem dX9_repeatUntilRefused_43 : decode cX9_repeatUntilRefused 43 = .ok (.iconst 1, 1) := by decide +kernel
theorem dX9_repeatUntilRefused_44 : decode cX9_repeatUntilRefused 44 = .ok (.isub, 1) := by decide +kernel
theorem dX9_repeatUntilRefused_45 : decode cX9_repeatUntilRefused 45 = .ok (.iload_n 2, 1) := by decide +kernel
theorem dX9_repeatUntilRefused_46 : decode cX9_repeatUntilRefused 46 = .ok (.iconst 1, 1) := by decide +kernel
theorem dX9_repeatUntilRefused_47 : decode cX9_repeatUntilRefused 47 = .ok (.iadd, 1) := by decide +kernel
theorem dX9_repeatUntilRefused_48 : decode cX9_repeatUntilRefused 48 = .ok (.invokevirtual 133, 3) := by decide +kernel
theorem dX9_repeatUntilRefused_51 : decode cX9_repeatUntilRefused 51 = .ok (.istore 6, 2) := by decide +kernel
theorem dX9_repeatUntilRefused_53 : decode cX9_repeatUntilRefused 53 = .ok (.iload 6, 2) := by decide +kernel
theorem dX9_repeatUntilRefused_55 : decode cX9_repeatUntilRefused 55 = .ok (.bipush (-6), 2) := by decide +kernel
theorem dX9_repeatUntilRefused_57 : decode cX9_repeatUntilRefused 57 = .ok (.if_icmp .ne 6, 3) := by decide +kernel
theorem dX9_repeatUntilRefused_60 : decode cX9_repeatUntilRefused 60 = .ok (.bipush (-6), 2) := by decide +kernel
theorem dX9_repeatUntilRefused_62 : decode cX9_repeatUntilRefused 62 = .ok (.ireturn, 1) := by decide +kernel
theorem dX9_repeatUntilRefused_63 : decode cX9_repeatUntilRefused 63 = .ok (.iload 6, 2) := by decide +kernel
theorem dX9_repeatUntilRefused_65 : decode cX9_repeatUntilRefused 65 = .ok (.ifCond .ne 15, 3) := by decide +kernel
theorem dX9_repeatUntilRefused_68 : decode cX9_repeatUntilRefused 68 = .ok (.aload_n 0, 1) := by decide +kernel
theorem dX9_repeatUntilRefused_69 : decode cX9_repeatUntilRefused 69 = .ok (.getfield 10, 3) := by decide +kernel
theorem dX9_repeatUntilRefused_72 : decode cX9_repeatUntilRefused 72 = .ok (.getfield 127, 3) := by decide +kernel
theorem dX9_repeatUntilRefused_75 : decode cX9_repeatUntilRefused 75 = .ok (.iload 5, 2) := by decide +kernel
theorem dX9_repeatUntilRefused_77 : decode cX9_repeatUntilRefused 77 = .ok (.if_icmp .ne 5, 3) := by decide +kernel
theorem dX9_repeatUntilRefused_80 : decode cX9_repeatUntilRefused 80 = .ok (.iconst 0, 1) := by decide +kernel
theorem dX9_repeatUntilRefused_81 : decode cX9_repeatUntilRefused 81 = .ok (.ireturn, 1) := by decide +kernel
theorem dX9_repeatUntilRefused_82 : decode cX9_repeatUntilRefused 82 = .ok (.iinc 4 1, 3) := by decide +kernel
theorem dX9_repeatUntilRefused_85 : decode cX9_repeatUntilRefused 85 = .ok (.goto (-69), 3) := by decide +kernel
theorem dX9_repeatUntilRefused_88 : decode cX9_repeatUntilRefused 88 = .ok (.iconst 0, 1) := by decide +kernel
theorem dX9_repeatUntilRefused_89 : decode cX9_repeatUntilRefused 89 = .ok (.ireturn, 1) := by decide +kernel
end
section
theorem dX9_attempt_0 : decode cX9_attempt 0 = .ok (.aload_n 0, 1) := by decide +kernel
theorem dX9_attempt_1 : decode cX9_attempt 1 = .ok (.getfield 10, 3) := by decide +kernel
theorem dX9_attempt_4 : decode cX9_attempt 4 = .ok (.getfield 127, 3) := by decide +kernel
theorem dX9_attempt_7 : decode cX9_attempt 7 = .ok (.aload_n 0, 1) := by decide +kernel
theorem dX9_attempt_8 : decode cX9_attempt 8 = .ok (.getfield 130, 3) := by decide +kernel
theorem dX9_attempt_11 : decode cX9_attempt 11 = .ok (.isub, 1) := by decide +kernel
theorem dX9_attempt_12 : decode cX9_attempt 12 = .ok (.sipush 300, 3) := by decide +kernel
theorem dX9_attempt_15 : decode cX9_attempt 15 = .ok (.if_icmp .lt 6, 3) := by decide +kernel
theorem dX9_attempt_18 : decode cX9_attempt 18 = .ok (.bipush (-6), 2) := by decide +kernel
theorem dX9_attempt_20 : decode cX9_attempt 20 = .ok (.ireturn, 1) := by decide +kernel
theorem dX9_attempt_21 : decode cX9_attempt 21 = .ok (.iload_n 1, 1) := by decide +kernel
theorem dX9_attempt_22 : decode cX9_attempt 22 = .ok (.tableswitch 214 37 62 #[153, 214, 214, 214, 214, 214, 164, 130, 142, 118, 214, 214, 214, 214, 214, 214, 214, 214, 214, 214, 214, 214, 214, 201, 176, 188], 118) := by decide +kernel
theorem dX9_attempt_140 : decode cX9_attempt 140 = .ok (.aload_n 0, 1) := by decide +kernel
theorem dX9_attempt_141 : decode cX9_attempt 141 = .ok (.getfield 10, 3) := by decide +kernel
theorem dX9_attempt_144 : decode cX9_attempt 144 = .ok (.iconst 0, 1) := by decide +kernel
theorem dX9_attempt_145 : decode cX9_attempt 145 = .ok (.invokevirtual 41, 3) := by decide +kernel
theorem dX9_attempt_148 : decode cX9_attempt 148 = .ok (.istore_n 3, 1) := by decide +kernel
theorem dX9_attempt_149 : decode cX9_attempt 149 = .ok (.goto 96, 3) := by decide +kernel
theorem dX9_attempt_152 : decode cX9_attempt 152 = .ok (.aload_n 0, 1) := by decide +kernel
theorem dX9_attempt_153 : decode cX9_attempt 153 = .ok (.getfield 10, 3) := by decide +kernel
theorem dX9_attempt_156 : decode cX9_attempt 156 = .ok (.iconst 1, 1) := by decide +kernel
theorem dX9_attempt_157 : decode cX9_attempt 157 = .ok (.invokevirtual 41, 3) := by decide +kernel
theorem dX9_attempt_160 : decode cX9_attempt 160 = .ok (.istore_n 3, 1) := by decide +kernel
theorem dX9_attempt_161 : decode cX9_attempt 161 = .ok (.goto 84, 3) := by decide +kernel
theorem dX9_attempt_164 : decode cX9_attempt 164 = .ok (.aload_n 0, 1) := by decide +kernel
theorem dX9_attempt_165 : decode cX9_attempt 165 = .ok (.getfield 10, 3) := by decide +kernel
theorem dX9_attempt_168 : decode cX9_attempt 168 = .ok (.invokevirtual 56, 3) := by decide +kernel
theorem dX9_attempt_171 : decode cX9_attempt 171 = .ok (.istore_n 3, 1) := by decide +kernel
theorem dX9_attempt_172 : decode cX9_attempt 172 = .ok (.goto 73, 3) := by decide +kernel
theorem dX9_attempt_175 : decode cX9_attempt 175 = .ok (.aload_n 0, 1) := by decide +kernel
theorem dX9_attempt_176 : decode cX9_attempt 176 = .ok (.getfield 10, 3) := by decide +kernel
theorem dX9_attempt_179 : decode cX9_attempt 179 = .ok (.invokevirtual 67, 3) := by decide +kernel
theorem dX9_attempt_182 : decode cX9_attempt 182 = .ok (.istore_n 3, 1) := by decide +kernel
theorem dX9_attempt_183 : decode cX9_attempt 183 = .ok (.goto 62, 3) := by decide +kernel
theorem dX9_attempt_186 : decode cX9_attempt 186 = .ok (.aload_n 0, 1) := by decide +kernel
theorem dX9_attempt_187 : decode cX9_attempt 187 = .ok (.getfield 10, 3) := by decide +kernel
theorem dX9_attempt_190 : decode cX9_attempt 190 = .ok (.iload_n 2, 1) := by decide +kernel
theorem dX9_attempt_191 : decode cX9_attempt 191 = .ok (.invokevirtual 49, 3) := by decide +kernel
theorem dX9_attempt_194 : decode cX9_attempt 194 = .ok (.istore_n 3, 1) := by decide +kernel
theorem dX9_attempt_195 : decode cX9_attempt 195 = .ok (.goto 50, 3) := by decide +kernel
theorem dX9_attempt_198 : decode cX9_attempt 198 = .ok (.aload_n 0, 1) := by decide +kernel
theorem dX9_attempt_199 : decode cX9_attempt 199 = .ok (.getfield 10, 3) := by decide +kernel
theorem dX9_attempt_202 : decode cX9_attempt 202 = .ok (.iload_n 2, 1) := by decide +kernel
theorem dX9_attempt_203 : decode cX9_attempt 203 = .ok (.invokevirtual 53, 3) := by decide +kernel
theorem dX9_attempt_206 : decode cX9_attempt 206 = .ok (.istore_n 3, 1) := by decide +kernel
theorem dX9_attempt_207 : decode cX9_attempt 207 = .ok (.goto 38, 3) := by decide +kernel
theorem dX9_attempt_210 : decode cX9_attempt 210 = .ok (.aload_n 0, 1) := by decide +kernel
theorem dX9_attempt_211 : decode cX9_attempt 211 = .ok (.getfield 10, 3) := by decide +kernel
theorem dX9_attempt_214 : decode cX9_attempt 214 = .ok (.iload_n 2, 1) := by decide +kernel
theorem dX9_attempt_215 : decode cX9_attempt 215 = .ok (.iconst 0, 1) := by decide +kernel
theorem dX9_attempt_216 : decode cX9_attempt 216 = .ok (.invokevirtual 63, 3) := by decide +kernel
theorem dX9_attempt_219 : decode cX9_attempt 219 = .ok (.istore_n 3, 1) := by decide +kernel
theorem dX9_attempt_220 : decode cX9_attempt 220 = .ok (.goto 25, 3) := by decide +kernel
theorem dX9_attempt_223 : decode cX9_attempt 223 = .ok (.aload_n 0, 1) := by decide +kernel
theorem dX9_attempt_224 : decode cX9_attempt 224 = .ok (.getfield 10, 3) := by decide +kernel
theorem dX9_attempt_227 : decode cX9_attempt 227 = .ok (.iload_n 2, 1) := by decide +kernel
theorem dX9_attempt_228 : decode cX9_attempt 228 = .ok (.iconst 1, 1) := by decide +kernel
theorem dX9_attempt_229 : decode cX9_attempt 229 = .ok (.invokevirtual 63, 3) := by decide +kernel
theorem dX9_attempt_232 : decode cX9_attempt 232 = .ok (.istore_n 3, 1) := by decide +kernel
theorem dX9_attempt_233 : decode cX9_attempt 233 = .ok (.goto 12, 3) := by decide +kernel
theorem dX9_attempt_236 : decode cX9_attempt 236 = .ok (.aload_n 0, 1) := by decide +kernel
theorem dX9_attempt_237 : decode cX9_attempt 237 = .ok (.getfield 10, 3) := by decide +kernel
theorem dX9_attempt_240 : decode cX9_attempt 240 = .ok (.iload_n 2, 1) := by decide +kernel
theorem dX9_attempt_241 : decode cX9_attempt 241 = .ok (.invokevirtual 60, 3) := by decide +kernel
theorem dX9_attempt_244 : decode cX9_attempt 244 = .ok (.istore_n 3, 1) := by decide +kernel
theorem dX9_attempt_245 : decode cX9_attempt 245 = .ok (.iload_n 3, 1) := by decide +kernel
theorem dX9_attempt_246 : decode cX9_attempt 246 = .ok (.ifCond .ge 7, 3) := by decide +kernel
theorem dX9_attempt_249 : decode cX9_attempt 249 = .ok (.iload_n 3, 1) := by decide +kernel
theorem dX9_attempt_250 : decode cX9_attempt 250 = .ok (.goto 4, 3) := by decide +kernel
theorem dX9_attempt_253 : decode cX9_attempt 253 = .ok (.iconst 0, 1) := by decide +kernel
theorem dX9_attempt_254 : decode cX9_attempt 254 = .ok (.ireturn, 1) := by decide +kernel
theorem dX10_thrown_0 : decode cX10_thrown 0 = .ok (.aload_n 0, 1) := by decide +kernel
theorem dX10_thrown_1 : decode cX10_thrown 1 = .ok (.getfield 1, 3) := by decide +kernel
theorem dX10_thrown_4 : decode cX10_thrown 4 = .ok (.ireturn, 1) := by decide +kernel
theorem dX10_in_0 : decode cX10_in 0 = .ok (.iload_n 0, 1) := by decide +kernel
theorem dX10_in_1 : decode cX10_in 1 = .ok (.iload_n 1, 1) := by decide +kernel
theorem dX10_in_2 : decode cX10_in 2 = .ok (.if_icmp .lt 12, 3) := by decide +kernel
theorem dX10_in_5 : decode cX10_in 5 = .ok (.iload_n 0, 1) := by decide +kernel
theorem dX10_in_6 : decode cX10_in 6 = .ok (.iload_n 2, 1) := by decide +kernel
theorem dX10_in_7 : decode cX10_in 7 = .ok (.if_icmp .gt 7, 3) := by decide +kernel
theorem dX10_in_10 : decode cX10_in 10 = .ok (.iconst 1, 1) := by decide +kernel
theorem dX10_in_11 : decode cX10_in 11 = .ok (.goto 4, 3) := by decide +kernel
theorem dX10_in_14 : decode cX10_in 14 = .ok (.iconst 0, 1) := by decide +kernel
theorem dX10_in_15 : decode cX10_in 15 = .ok (.ireturn, 1) := by decide +kernel
theorem dX10_fails_0 : decode cX10_fails 0 = .ok (.iload_n 1, 1) := by decide +kernel
theorem dX10_fails_1 : decode cX10_fails 1 = .ok (.ifCond .ne 15, 3) := by decide +kernel
theorem dX10_fails_4 : decode cX10_fails 4 = .ok (.aload_n 0, 1) := by decide +kernel
theorem dX10_fails_5 : decode cX10_fails 5 = .ok (.getfield 1, 3) := by decide +kernel
theorem dX10_fails_8 : decode cX10_fails 8 = .ok (.ifCond .ne 8, 3) := by decide +kernel
theorem dX10_fails_11 : decode cX10_fails 11 = .ok (.aload_n 0, 1) := by decide +kernel
theorem dX10_fails_12 : decode cX10_fails 12 = .ok (.iload_n 2, 1) := by decide +kernel
theorem dX10_fails_13 : decode cX10_fails 13 = .ok (.putfield 1, 3) := by decide +kernel
theorem dX10_fails_16 : decode cX10_fails 16 = .ok (.aload_n 0, 1) := by decide +kernel
theorem dX10_fails_17 : decode cX10_fails 17 = .ok (.getfield 1, 3) := by decide +kernel
theorem dX10_fails_20 : decode cX10_fails 20 = .ok (.ifCond .eq 7, 3) := by decide +kernel
theorem dX10_fails_23 : decode cX10_fails 23 = .ok (.iconst 1, 1) := by decide +kernel
theorem dX10_fails_24 : decode cX10_fails 24 = .ok (.goto 4, 3) := by decide +kernel
theorem dX10_fails_27 : decode cX10_fails 27 = .ok (.iconst 0, 1) := by decide +kernel
theorem dX10_fails_28 : decode cX10_fails 28 = .ok (.ireturn, 1) := by decide +kernel
theorem dX10_init_0 : decode cX10_init 0 = .ok (.aload_n 0, 1) := by decide +kernel
theorem dX10_init_1 : decode cX10_init 1 = .ok (.invokespecial 7, 3) := by decide +kernel
theorem dX10_init_4 : decode cX10_init 4 = .ok (.aload_n 0, 1) := by decide +kernel
theorem dX10_init_5 : decode cX10_init 5 = .ok (.bipush 101, 2) := by decide +kernel
theorem dX10_init_7 : decode cX10_init 7 = .ok (.newarray .int, 2) := by decide +kernel
theorem dX10_init_9 : decode cX10_init 9 = .ok (.putfield 13, 3) := by decide +kernel
theorem dX10_init_12 : decode cX10_init 12 = .ok (.aload_n 0, 1) := by decide +kernel
theorem dX10_init_13 : decode cX10_init 13 = .ok (.bipush 101, 2) := by decide +kernel
theorem dX10_init_15 : decode cX10_init 15 = .ok (.newarray .int, 2) := by decide +kernel
theorem dX10_init_17 : decode cX10_init 17 = .ok (.putfield 17, 3) := by decide +kernel
theorem dX10_init_20 : decode cX10_init 20 = .ok (.aload_n 0, 1) := by decide +kernel
theorem dX10_init_21 : decode cX10_init 21 = .ok (.bipush 6, 2) := by decide +kernel
theorem dX10_init_23 : decode cX10_init 23 = .ok (.newarray .int, 2) := by decide +kernel
theorem dX10_init_25 : decode cX10_init 25 = .ok (.putfield 20, 3) := by decide +kernel
theorem dX10_init_28 : decode cX10_init 28 = .ok (.aload_n 0, 1) := by decide +kernel
theorem dX10_init_29 : decode cX10_init 29 = .ok (.sipush 5000, 3) := by decide +kernel
theorem dX10_init_32 : decode cX10_init 32 = .ok (.newarray .int, 2) := by decide +kernel
theorem dX10_init_34 : decode cX10_init 34 = .ok (.putfield 23, 3) := by decide +kernel
theorem dX10_init_37 : decode cX10_init 37 = .ok (.aload_n 0, 1) := by decide +kernel
theorem dX10_init_38 : decode cX10_init 38 = .ok (.bipush 50, 2) := by decide +kernel
theorem dX10_init_40 : decode cX10_init 40 = .ok (.newarray .int, 2) := by decide +kernel
theorem dX10_init_42 : decode cX10_init 42 = .ok (.putfield 26, 3) := by decide +kernel
theorem dX10_init_45 : decode cX10_init 45 = .ok (.aload_n 0, 1) := by decide +kernel
theorem dX10_init_46 : decode cX10_init 46 = .ok (.bipush 50, 2) := by decide +kernel
theorem dX10_init_48 : decode cX10_init 48 = .ok (.newarray .int, 2) := by decide +kernel
theorem dX10_init_50 : decode cX10_init 50 = .ok (.putfield 29, 3) := by decide +kernel
theorem dX10_init_53 : decode cX10_init 53 = .ok (.aload_n 0, 1) := by decide +kernel
theorem dX10_init_54 : decode cX10_init 54 = .ok (.sipush 300, 3) := by decide +kernel
theorem dX10_init_57 : decode cX10_init 57 = .ok (.newarray .int, 2) := by decide +kernel
theorem dX10_init_59 : decode cX10_init 59 = .ok (.putfield 32, 3) := by decide +kernel
theorem dX10_init_62 : decode cX10_init 62 = .ok (.aload_n 0, 1) := by decide +kernel
theorem dX10_init_63 : decode cX10_init 63 = .ok (.iconst (-1), 1) := by decide +kernel
theorem dX10_init_64 : decode cX10_init 64 = .ok (.putfield 35, 3) := by decide +kernel
theorem dX10_init_67 : decode cX10_init 67 = .ok (.aload_n 0, 1) := by decide +kernel
theorem dX10_init_68 : decode cX10_init 68 = .ok (.bipush 100, 2) := by decide +kernel
theorem dX10_init_70 : decode cX10_init 70 = .ok (.newarray .int, 2) := by decide +kernel
theorem dX10_init_72 : decode cX10_init 72 = .ok (.putfield 38, 3) := by decide +kernel
theorem dX10_init_75 : decode cX10_init 75 = .ok (.aload_n 0, 1) := by decide +kernel
theorem dX10_init_76 : decode cX10_init 76 = .ok (.sipush 300, 3) := by decide +kernel
theorem dX10_init_79 : decode cX10_init 79 = .ok (.newarray .int, 2) := by decide +kernel
theorem dX10_init_81 : decode cX10_init 81 = .ok (.putfield 41, 3) := by decide +kernel
theorem dX10_init_84 : decode cX10_init 84 = .ok (.aload_n 0, 1) := by decide +kernel
theorem dX10_init_85 : decode cX10_init 85 = .ok (.sipush 300, 3) := by decide +kernel
theorem dX10_init_88 : decode cX10_init 88 = .ok (.newarray .int, 2) := by decide +kernel
theorem dX10_init_90 : decode cX10_init 90 = .ok (.putfield 44, 3) := by decide +kernel
theorem dX10_init_93 : decode cX10_init 93 = .ok (.aload_n 0, 1) := by decide +kernel
theorem dX10_init_94 : decode cX10_init 94 = .ok (.sipush 300, 3) := by decide +kernel
theorem dX10_init_97 : decode cX10_init 97 = .ok (.newarray .int, 2) := by decide +kernel
theorem dX10_init_99 : decode cX10_init 99 = .ok (.putfield 47, 3) := by decide +kernel
theorem dX10_init_102 : decode cX10_init 102 = .ok (.aload_n 0, 1) := by decide +kernel
theorem dX10_init_103 : decode cX10_init 103 = .ok (.iconst 4, 1) := by decide +kernel
theorem dX10_init_104 : decode cX10_init 104 = .ok (.newarray .int, 2) := by decide +kernel
theorem dX10_init_106 : decode cX10_init 106 = .ok (.putfield 50, 3) := by decide +kernel
theorem dX10_init_109 : decode cX10_init 109 = .ok (.aload_n 0, 1) := by decide +kernel
theorem dX10_init_110 : decode cX10_init 110 = .ok (.iconst 4, 1) := by decide +kernel
theorem dX10_init_111 : decode cX10_init 111 = .ok (.newarray .int, 2) := by decide +kernel
theorem dX10_init_113 : decode cX10_init 113 = .ok (.putfield 53, 3) := by decide +kernel
theorem dX10_init_116 : decode cX10_init 116 = .ok (.aload_n 0, 1) := by decide +kernel
theorem dX10_init_117 : decode cX10_init 117 = .ok (.iconst 4, 1) := by decide +kernel
theorem dX10_init_118 : decode cX10_init 118 = .ok (.newarray .int, 2) := by decide +kernel
theorem dX10_init_120 : decode cX10_init 120 = .ok (.putfield 56, 3) := by decide +kernel
theorem dX10_init_123 : decode cX10_init 123 = .ok (.aload_n 0, 1) := by decide +kernel
theorem dX10_init_124 : decode cX10_init 124 = .ok (.sipush 720, 3) := by decide +kernel
theorem dX10_init_127 : decode cX10_init 127 = .ok (.newarray .int, 2) := by decide +kernel
theorem dX10_init_129 : decode cX10_init 129 = .ok (.putfield 59, 3) := by decide +kernel
theorem dX10_init_132 : decode cX10_init 132 = .ok (.return_, 1) := by decide +kernel
theorem dX10_letters_0 : decode cX10_letters 0 = .ok (.iconst 0, 1) := by decide +kernel
theorem dX10_letters_1 : decode cX10_letters 1 = .ok (.istore_n 1, 1) := by decide +kernel
theorem dX10_letters_2 : decode cX10_letters 2 = .ok (.iload_n 0, 1) := by decide +kernel
theorem dX10_letters_3 : decode cX10_letters 3 = .ok (.istore_n 2, 1) := by decide +kernel
theorem dX10_letters_4 : decode cX10_letters 4 = .ok (.iload_n 2, 1) := by decide +kernel
theorem dX10_letters_5 : decode cX10_letters 5 = .ok (.ifCond .le 14, 3) := by decide +kernel
theorem dX10_letters_8 : decode cX10_letters 8 = .ok (.iinc 1 1, 3) := by decide +kernel
theorem dX10_letters_11 : decode cX10_letters 11 = .ok (.iload_n 2, 1) := by decide +kernel
theorem dX10_letters_12 : decode cX10_letters 12 = .ok (.bipush 27, 2) := by decide +kernel
theorem dX10_letters_14 : decode cX10_letters 14 = .ok (.idiv, 1) := by decide +kernel
theorem dX10_letters_15 : decode cX10_letters 15 = .ok (.istore_n 2, 1) := by decide +kernel
theorem dX10_letters_16 : decode cX10_letters 16 = .ok (.goto (-12), 3) := by decide +kernel
theorem dX10_letters_19 : decode cX10_letters 19 = .ok (.iload_n 1, 1) := by decide +kernel
theorem dX10_letters_20 : decode cX10_letters 20 = .ok (.ireturn, 1) := by decide +kernel
theorem dX10_isWord_0 : decode cX10_isWord 0 = .ok (.iload_n 0, 1) := by decide +kernel
theorem dX10_isWord_1 : decode cX10_isWord 1 = .ok (.istore_n 1, 1) := by decide +kernel
theorem dX10_isWord_2 : decode cX10_isWord 2 = .ok (.iload_n 1, 1) := by decide +kernel
theorem dX10_isWord_3 : decode cX10_isWord 3 = .ok (.ifCond .le 20, 3) := by decide +kernel
theorem dX10_isWord_6 : decode cX10_isWord 6 = .ok (.iload_n 1, 1) := by decide +kernel
theorem dX10_isWord_7 : decode cX10_isWord 7 = .ok (.bipush 27, 2) := by decide +kernel
theorem dX10_isWord_9 : decode cX10_isWord 9 = .ok (.irem, 1) := by decide +kernel
theorem dX10_isWord_10 : decode cX10_isWord 10 = .ok (.ifCond .ne 5, 3) := by decide +kernel
theorem dX10_isWord_13 : decode cX10_isWord 13 = .ok (.iconst 0, 1) := by decide +kernel
theorem dX10_isWord_14 : decode cX10_isWord 14 = .ok (.ireturn, 1) := by decide +kernel
theorem dX10_isWord_15 : decode cX10_isWord 15 = .ok (.iload_n 1, 1) := by decide +kernel
theorem dX10_isWord_16 : decode cX10_isWord 16 = .ok (.bipush 27, 2) := by decide +kernel
theorem dX10_isWord_18 : decode cX10_isWord 18 = .ok (.idiv, 1) := by decide +kernel
theorem dX10_isWord_19 : decode cX10_isWord 19 = .ok (.istore_n 1, 1) := by decide +kernel
theorem dX10_isWord_20 : decode cX10_isWord 20 = .ok (.goto (-18), 3) := by decide +kernel
theorem dX10_isWord_23 : decode cX10_isWord 23 = .ok (.iload_n 0, 1) := by decide +kernel
theorem dX10_isWord_24 : decode cX10_isWord 24 = .ok (.invokestatic 62, 3) := by decide +kernel
theorem dX10_isWord_27 : decode cX10_isWord 27 = .ok (.iconst 1, 1) := by decide +kernel
theorem dX10_isWord_28 : decode cX10_isWord 28 = .ok (.bipush 6, 2) := by decide +kernel
theorem dX10_isWord_30 : decode cX10_isWord 30 = .ok (.invokestatic 66, 3) := by decide +kernel
theorem dX10_isWord_33 : decode cX10_isWord 33 = .ok (.ireturn, 1) := by decide +kernel
theorem dX10_noWord_0 : decode cX10_noWord 0 = .ok (.aload_n 0, 1) := by decide +kernel
theorem dX10_noWord_1 : decode cX10_noWord 1 = .ok (.iload_n 1, 1) := by decide +kernel
theorem dX10_noWord_2 : decode cX10_noWord 2 = .ok (.invokestatic 70, 3) := by decide +kernel
theorem dX10_noWord_5 : decode cX10_noWord 5 = .ok (.iconst 1, 1) := by decide +kernel
theorem dX10_noWord_6 : decode cX10_noWord 6 = .ok (.invokevirtual 74, 3) := by decide +kernel
theorem dX10_noWord_9 : decode cX10_noWord 9 = .ok (.ireturn, 1) := by decide +kernel
theorem dX10_refuses_0 : decode cX10_refuses 0 = .ok (.aload_n 0, 1) := by decide +kernel
theorem dX10_refuses_1 : decode cX10_refuses 1 = .ok (.getfield 20, 3) := by decide +kernel
theorem dX10_refuses_4 : decode cX10_refuses 4 = .ok (.iconst 0, 1) := by decide +kernel
theorem dX10_refuses_5 : decode cX10_refuses 5 = .ok (.iload_n 1, 1) := by decide +kernel
theorem dX10_refuses_6 : decode cX10_refuses 6 = .ok (.isub, 1) := by decide +kernel
theorem dX10_refuses_7 : decode cX10_refuses 7 = .ok (.dup2, 1) := by decide +kernel
theorem dX10_refuses_8 : decode cX10_refuses 8 = .ok (.iaload, 1) := by decide +kernel
theorem dX10_refuses_9 : decode cX10_refuses 9 = .ok (.iconst 1, 1) := by decide +kernel
theorem dX10_refuses_10 : decode cX10_refuses 10 = .ok (.iadd, 1) := by decide +kernel
theorem dX10_refuses_11 : decode cX10_refuses 11 = .ok (.iastore, 1) := by decide +kernel
theorem dX10_refuses_12 : decode cX10_refuses 12 = .ok (.iload_n 1, 1) := by decide +kernel
theorem dX10_refuses_13 : decode cX10_refuses 13 = .ok (.ireturn, 1) := by decide +kernel
theorem dX10_keeps_0 : decode cX10_keeps 0 = .ok (.aload_n 0, 1) := by decide +kernel
theorem dX10_keeps_1 : decode cX10_keeps 1 = .ok (.getfield 78, 3) := by decide +kernel
theorem dX10_keeps_4 : decode cX10_keeps 4 = .ok (.bipush 50, 2) := by decide +kernel
theorem dX10_keeps_6 : decode cX10_keeps 6 = .ok (.if_icmp .ne 99, 3) := by decide +kernel
theorem dX10_keeps_9 : decode cX10_keeps 9 = .ok (.aload_n 0, 1) := by decide +kernel
theorem dX10_keeps_10 : decode cX10_keeps 10 = .ok (.dup, 1) := by decide +kernel
theorem dX10_keeps_11 : decode cX10_keeps 11 = .ok (.getfield 78, 3) := by decide +kernel
theorem dX10_keeps_14 : decode cX10_keeps 14 = .ok (.iconst 1, 1) := by decide +kernel
theorem dX10_keeps_15 : decode cX10_keeps 15 = .ok (.isub, 1) := by decide +kernel
theorem dX10_keeps_16 : decode cX10_keeps 16 = .ok (.putfield 78, 3) := by decide +kernel
theorem dX10_keeps_19 : decode cX10_keeps 19 = .ok (.iconst 0, 1) := by decide +kernel
theorem dX10_keeps_20 : decode cX10_keeps 20 = .ok (.istore_n 1, 1) := by decide +kernel
theorem dX10_keeps_21 : decode cX10_keeps 21 = .ok (.iload_n 1, 1) := by decide +kernel
theorem dX10_keeps_22 : decode cX10_keeps 22 = .ok (.aload_n 0, 1) := by decide +kernel
theorem dX10_keeps_23 : decode cX10_keeps 23 = .ok (.getfield 78, 3) := by decide +kernel
theorem dX10_keeps_26 : decode cX10_keeps 26 = .ok (.if_icmp .ge 79, 3) := by decide +kernel
theorem dX10_keeps_29 : decode cX10_keeps 29 = .ok (.aload_n 0, 1) := by decide +kernel
theorem dX10_keeps_30 : decode cX10_keeps 30 = .ok (.getfield 26, 3) := by decide +kernel
theorem dX10_keeps_33 : decode cX10_keeps 33 = .ok (.iload_n 1, 1) := by decide +kernel
theorem dX10_keeps_34 : decode cX10_keeps 34 = .ok (.aload_n 0, 1) := by decide +kernel
theorem dX10_keeps_35 : decode cX10_keeps 35 = .ok (.getfield 26, 3) := by decide +kernel
theorem dX10_keeps_38 : decode cX10_keeps 38 = .ok (.iload_n 1, 1) := by decide +kernel
theorem dX10_keeps_39 : decode cX10_keeps 39 = .ok (.iconst 1, 1) := by decide +kernel
theorem dX10_keeps_40 : decode cX10_keeps 40 = .ok (.iadd, 1) := by decide +kernel
theorem dX10_keeps_41 : decode cX10_keeps 41 = .ok (.iaload, 1) := by decide +kernel
theorem dX10_keeps_42 : decode cX10_keeps 42 = .ok (.iastore, 1) := by decide +kernel
theorem dX10_keeps_43 : decode cX10_keeps 43 = .ok (.aload_n 0, 1) := by decide +kernel
theorem dX10_keeps_44 : decode cX10_keeps 44 = .ok (.getfield 29, 3) := by decide +kernel
theorem dX10_keeps_47 : decode cX10_keeps 47 = .ok (.iload_n 1, 1) := by decide +kernel
theorem dX10_keeps_48 : decode cX10_keeps 48 = .ok (.aload_n 0, 1) := by decide +kernel
theorem dX10_keeps_49 : decode cX10_keeps 49 = .ok (.getfield 29, 3) := by decide +kernel
theorem dX10_keeps_52 : decode cX10_keeps 52 = .ok (.iload_n 1, 1) := by decide +kernel
theorem dX10_keeps_53 : decode cX10_keeps 53 = .ok (.iconst 1, 1) := by decide +kernel
theorem dX10_keeps_54 : decode cX10_keeps 54 = .ok (.iadd, 1) := by decide +kernel
theorem dX10_keeps_55 : decode cX10_keeps 55 = .ok (.iaload, 1) := by decide +kernel
theorem dX10_keeps_56 : decode cX10_keeps 56 = .ok (.iastore, 1) := by decide +kernel
theorem dX10_keeps_57 : decode cX10_keeps 57 = .ok (.iconst 0, 1) := by decide +kernel
theorem dX10_keeps_58 : decode cX10_keeps 58 = .ok (.istore_n 2, 1) := by decide +kernel
theorem dX10_keeps_59 : decode cX10_keeps 59 = .ok (.iload_n 2, 1) := by decide +kernel
theorem dX10_keeps_60 : decode cX10_keeps 60 = .ok (.aload_n 0, 1) := by decide +kernel
theorem dX10_keeps_61 : decode cX10_keeps 61 = .ok (.getfield 29, 3) := by decide +kernel
theorem dX10_keeps_64 : decode cX10_keeps 64 = .ok (.iload_n 1, 1) := by decide +kernel
theorem dX10_keeps_65 : decode cX10_keeps 65 = .ok (.iaload, 1) := by decide +kernel
theorem dX10_keeps_66 : decode cX10_keeps 66 = .ok (.if_icmp .ge 33, 3) := by decide +kernel
theorem dX10_keeps_69 : decode cX10_keeps 69 = .ok (.aload_n 0, 1) := by decide +kernel
theorem dX10_keeps_70 : decode cX10_keeps 70 = .ok (.getfield 23, 3) := by decide +kernel
theorem dX10_keeps_73 : decode cX10_keeps 73 = .ok (.bipush 100, 2) := by decide +kernel
theorem dX10_keeps_75 : decode cX10_keeps 75 = .ok (.iload_n 1, 1) := by decide +kernel
theorem dX10_keeps_76 : decode cX10_keeps 76 = .ok (.imul, 1) := by decide +kernel
theorem dX10_keeps_77 : decode cX10_keeps 77 = .ok (.iload_n 2, 1) := by decide +kernel
theorem dX10_keeps_78 : decode cX10_keeps 78 = .ok (.iadd, 1) := by decide +kernel
theorem dX10_keeps_79 : decode cX10_keeps 79 = .ok (.aload_n 0, 1) := by decide +kernel
theorem dX10_keeps_80 : decode cX10_keeps 80 = .ok (.getfield 23, 3) := by decide +kernel
theorem dX10_keeps_83 : decode cX10_keeps 83 = .ok (.bipush 100, 2) := by decide +kernel
theorem dX10_keeps_85 : decode cX10_keeps 85 = .ok (.iload_n 1, 1) := by decide +kernel
theorem dX10_keeps_86 : decode cX10_keeps 86 = .ok (.iconst 1, 1) := by decide +kernel
theorem dX10_keeps_87 : decode cX10_keeps 87 = .ok (.iadd, 1) := by decide +kernel
theorem dX10_keeps_88 : decode cX10_keeps 88 = .ok (.imul, 1) := by decide +kernel
theorem dX10_keeps_89 : decode cX10_keeps 89 = .ok (.iload_n 2, 1) := by decide +kernel
theorem dX10_keeps_90 : decode cX10_keeps 90 = .ok (.iadd, 1) := by decide +kernel
theorem dX10_keeps_91 : decode cX10_keeps 91 = .ok (.iaload, 1) := by decide +kernel
theorem dX10_keeps_92 : decode cX10_keeps 92 = .ok (.iastore, 1) := by decide +kernel
theorem dX10_keeps_93 : decode cX10_keeps 93 = .ok (.iinc 2 1, 3) := by decide +kernel
theorem dX10_keeps_96 : decode cX10_keeps 96 = .ok (.goto (-37), 3) := by decide +kernel
theorem dX10_keeps_99 : decode cX10_keeps 99 = .ok (.iinc 1 1, 3) := by decide +kernel
theorem dX10_keeps_102 : decode cX10_keeps 102 = .ok (.goto (-81), 3) := by decide +kernel
theorem dX10_keeps_105 : decode cX10_keeps 105 = .ok (.aload_n 0, 1) := by decide +kernel
theorem dX10_keeps_106 : decode cX10_keeps 106 = .ok (.getfield 26, 3) := by decide +kernel
theorem dX10_keeps_109 : decode cX10_keeps 109 = .ok (.aload_n 0, 1) := by decide +kernel
theorem dX10_keeps_110 : decode cX10_keeps 110 = .ok (.getfield 78, 3) := by decide +kernel
theorem dX10_keeps_113 : decode cX10_keeps 113 = .ok (.aload_n 0, 1) := by decide +kernel
theorem dX10_keeps_114 : decode cX10_keeps 114 = .ok (.getfield 81, 3) := by decide +kernel
theorem dX10_keeps_117 : decode cX10_keeps 117 = .ok (.iastore, 1) := by decide +kernel
theorem dX10_keeps_118 : decode cX10_keeps 118 = .ok (.aload_n 0, 1) := by decide +kernel
theorem dX10_keeps_119 : decode cX10_keeps 119 = .ok (.getfield 29, 3) := by decide +kernel
theorem dX10_keeps_122 : decode cX10_keeps 122 = .ok (.aload_n 0, 1) := by decide +kernel
theorem dX10_keeps_123 : decode cX10_keeps 123 = .ok (.getfield 78, 3) := by decide +kernel
theorem dX10_keeps_126 : decode cX10_keeps 126 = .ok (.aload_n 0, 1) := by decide +kernel
theorem dX10_keeps_127 : decode cX10_keeps 127 = .ok (.invokevirtual 84, 3) := by decide +kernel
theorem dX10_keeps_130 : decode cX10_keeps 130 = .ok (.iastore, 1) := by decide +kernel
theorem dX10_keeps_131 : decode cX10_keeps 131 = .ok (.iconst 0, 1) := by decide +kernel
theorem dX10_keeps_132 : decode cX10_keeps 132 = .ok (.istore_n 1, 1) := by decide +kernel
theorem dX10_keeps_133 : decode cX10_keeps 133 = .ok (.iload_n 1, 1) := by decide +kernel
theorem dX10_keeps_134 : decode cX10_keeps 134 = .ok (.aload_n 0, 1) := by decide +kernel
theorem dX10_keeps_135 : decode cX10_keeps 135 = .ok (.invokevirtual 84, 3) := by decide +kernel
theorem dX10_keeps_138 : decode cX10_keeps 138 = .ok (.if_icmp .ge 28, 3) := by decide +kernel
theorem dX10_keeps_141 : decode cX10_keeps 141 = .ok (.aload_n 0, 1) := by decide +kernel
theorem dX10_keeps_142 : decode cX10_keeps 142 = .ok (.getfield 23, 3) := by decide +kernel
theorem dX10_keeps_145 : decode cX10_keeps 145 = .ok (.bipush 100, 2) := by decide +kernel
theorem dX10_keeps_147 : decode cX10_keeps 147 = .ok (.aload_n 0, 1) := by decide +kernel
theorem dX10_keeps_148 : decode cX10_keeps 148 = .ok (.getfield 78, 3) := by decide +kernel
theorem dX10_keeps_151 : decode cX10_keeps 151 = .ok (.imul, 1) := by decide +kernel
theorem dX10_keeps_152 : decode cX10_keeps 152 = .ok (.iload_n 1, 1) := by decide +kernel
theorem dX10_keeps_153 : decode cX10_keeps 153 = .ok (.iadd, 1) := by decide +kernel
theorem dX10_keeps_154 : decode cX10_keeps 154 = .ok (.aload_n 0, 1) := by decide +kernel
theorem dX10_keeps_155 : decode cX10_keeps 155 = .ok (.iload_n 1, 1) := by decide +kernel
theorem dX10_keeps_156 : decode cX10_keeps 156 = .ok (.invokevirtual 88, 3) := by decide +kernel
theorem dX10_keeps_159 : decode cX10_keeps 159 = .ok (.iastore, 1) := by decide +kernel
theorem dX10_keeps_160 : decode cX10_keeps 160 = .ok (.iinc 1 1, 3) := by decide +kernel
theorem dX10_keeps_163 : decode cX10_keeps 163 = .ok (.goto (-30), 3) := by decide +kernel
theorem dX10_keeps_166 : decode cX10_keeps 166 = .ok (.aload_n 0, 1) := by decide +kernel
theorem dX10_keeps_167 : decode cX10_keeps 167 = .ok (.dup, 1) := by decide +kernel
theorem dX10_keeps_168 : decode cX10_keeps 168 = .ok (.getfield 78, 3) := by decide +kernel
theorem dX10_keeps_171 : decode cX10_keeps 171 = .ok (.iconst 1, 1) := by decide +kernel
theorem dX10_keeps_172 : decode cX10_keeps 172 = .ok (.iadd, 1) := by decide +kernel
theorem dX10_keeps_173 : decode cX10_keeps 173 = .ok (.putfield 78, 3) := by decide +kernel
theorem dX10_keeps_176 : decode cX10_keeps 176 = .ok (.aload_n 0, 1) := by decide +kernel
theorem dX10_keeps_177 : decode cX10_keeps 177 = .ok (.dup, 1) := by decide +kernel
theorem dX10_keeps_178 : decode cX10_keeps 178 = .ok (.getfield 91, 3) := by decide +kernel
theorem dX10_keeps_181 : decode cX10_keeps 181 = .ok (.iconst 1, 1) := by decide +kernel
theorem dX10_keeps_182 : decode cX10_keeps 182 = .ok (.iadd, 1) := by decide +kernel
theorem dX10_keeps_183 : decode cX10_keeps 183 = .ok (.putfield 91, 3) := by decide +kernel
theorem dX10_keeps_186 : decode cX10_keeps 186 = .ok (.return_, 1) := by decide +kernel
theorem dX10_many_0 : decode cX10_many 0 = .ok (.aload_n 0, 1) := by decide +kernel
theorem dX10_many_1 : decode cX10_many 1 = .ok (.getfield 81, 3) := by decide +kernel
theorem dX10_many_4 : decode cX10_many 4 = .ok (.aload_n 0, 1) := by decide +kernel
theorem dX10_many_5 : decode cX10_many 5 = .ok (.getfield 94, 3) := by decide +kernel
theorem dX10_many_8 : decode cX10_many 8 = .ok (.iadd, 1) := by decide +kernel
theorem dX10_many_9 : decode cX10_many 9 = .ok (.ireturn, 1) := by decide +kernel
theorem dX10_wordIn_0 : decode cX10_wordIn 0 = .ok (.iload_n 1, 1) := by decide +kernel
theorem dX10_wordIn_1 : decode cX10_wordIn 1 = .ok (.aload_n 0, 1) := by decide +kernel
theorem dX10_wordIn_2 : decode cX10_wordIn 2 = .ok (.getfield 81, 3) := by decide +kernel
theorem dX10_wordIn_5 : decode cX10_wordIn 5 = .ok (.if_icmp .ge 12, 3) := by decide +kernel
theorem dX10_wordIn_8 : decode cX10_wordIn 8 = .ok (.aload_n 0, 1) := by decide +kernel
theorem dX10_wordIn_9 : decode cX10_wordIn 9 = .ok (.getfield 13, 3) := by decide +kernel
theorem dX10_wordIn_12 : decode cX10_wordIn 12 = .ok (.iload_n 1, 1) := by decide +kernel
theorem dX10_wordIn_13 : decode cX10_wordIn 13 = .ok (.iaload, 1) := by decide +kernel
theorem dX10_wordIn_14 : decode cX10_wordIn 14 = .ok (.goto 21, 3) := by decide +kernel
theorem dX10_wordIn_17 : decode cX10_wordIn 17 = .ok (.aload_n 0, 1) := by decide +kernel
theorem dX10_wordIn_18 : decode cX10_wordIn 18 = .ok (.getfield 17, 3) := by decide +kernel
theorem dX10_wordIn_21 : decode cX10_wordIn 21 = .ok (.aload_n 0, 1) := by decide +kernel
theorem dX10_wordIn_22 : decode cX10_wordIn 22 = .ok (.getfield 94, 3) := by decide +kernel
theorem dX10_wordIn_25 : decode cX10_wordIn 25 = .ok (.iconst 1, 1) := by decide +kernel
theorem dX10_wordIn_26 : decode cX10_wordIn 26 = .ok (.isub, 1) := by decide +kernel
theorem dX10_wordIn_27 : decode cX10_wordIn 27 = .ok (.iload_n 1, 1) := by decide +kernel
theorem dX10_wordIn_28 : decode cX10_wordIn 28 = .ok (.aload_n 0, 1) := by decide +kernel
theorem dX10_wordIn_29 : decode cX10_wordIn 29 = .ok (.getfield 81, 3) := by decide +kernel
theorem dX10_wordIn_32 : decode cX10_wordIn 32 = .ok (.isub, 1) := by decide +kernel
theorem dX10_wordIn_33 : decode cX10_wordIn 33 = .ok (.isub, 1) := by decide +kernel
theorem dX10_wordIn_34 : decode cX10_wordIn 34 = .ok (.iaload, 1) := by decide +kernel
theorem dX10_wordIn_35 : decode cX10_wordIn 35 = .ok (.ireturn, 1) := by decide +kernel
theorem dX10_goesOn_0 : decode cX10_goesOn 0 = .ok (.aload_n 0, 1) := by decide +kernel
theorem dX10_goesOn_1 : decode cX10_goesOn 1 = .ok (.dup, 1) := by decide +kernel
theorem dX10_goesOn_2 : decode cX10_goesOn 2 = .ok (.getfield 94, 3) := by decide +kernel
theorem dX10_goesOn_5 : decode cX10_goesOn 5 = .ok (.iconst 1, 1) := by decide +kernel
theorem dX10_goesOn_6 : decode cX10_goesOn 6 = .ok (.isub, 1) := by decide +kernel
theorem dX10_goesOn_7 : decode cX10_goesOn 7 = .ok (.putfield 94, 3) := by decide +kernel
theorem dX10_goesOn_10 : decode cX10_goesOn 10 = .ok (.aload_n 0, 1) := by decide +kernel
theorem dX10_goesOn_11 : decode cX10_goesOn 11 = .ok (.getfield 13, 3) := by decide +kernel
theorem dX10_goesOn_14 : decode cX10_goesOn 14 = .ok (.aload_n 0, 1) := by decide +kernel
theorem dX10_goesOn_15 : decode cX10_goesOn 15 = .ok (.getfield 81, 3) := by decide +kernel
theorem dX10_goesOn_18 : decode cX10_goesOn 18 = .ok (.aload_n 0, 1) := by decide +kernel
theorem dX10_goesOn_19 : decode cX10_goesOn 19 = .ok (.getfield 17, 3) := by decide +kernel
theorem dX10_goesOn_22 : decode cX10_goesOn 22 = .ok (.aload_n 0, 1) := by decide +kernel
theorem dX10_goesOn_23 : decode cX10_goesOn 23 = .ok (.getfield 94, 3) := by decide +kernel
theorem dX10_goesOn_26 : decode cX10_goesOn 26 = .ok (.iaload, 1) := by decide +kernel
theorem dX10_goesOn_27 : decode cX10_goesOn 27 = .ok (.iastore, 1) := by decide +kernel
theorem dX10_goesOn_28 : decode cX10_goesOn 28 = .ok (.aload_n 0, 1) := by decide +kernel
theorem dX10_goesOn_29 : decode cX10_goesOn 29 = .ok (.dup, 1) := by decide +kernel
theorem dX10_goesOn_30 : decode cX10_goesOn 30 = .ok (.getfield 81, 3) := by decide +kernel
theorem dX10_goesOn_33 : decode cX10_goesOn 33 = .ok (.iconst 1, 1) := by decide +kernel
theorem dX10_goesOn_34 : decode cX10_goesOn 34 = .ok (.iadd, 1) := by decide +kernel
theorem dX10_goesOn_35 : decode cX10_goesOn 35 = .ok (.putfield 81, 3) := by decide +kernel
theorem dX10_goesOn_38 : decode cX10_goesOn 38 = .ok (.return_, 1) := by decide +kernel
theorem dX10_goesBack_0 : decode cX10_goesBack 0 = .ok (.aload_n 0, 1) := by decide +kernel
theorem dX10_goesBack_1 : decode cX10_goesBack 1 = .ok (.dup, 1) := by decide +kernel
theorem dX10_goesBack_2 : decode cX10_goesBack 2 = .ok (.getfield 81, 3) := by decide +kernel
theorem dX10_goesBack_5 : decode cX10_goesBack 5 = .ok (.iconst 1, 1) := by decide +kernel
theorem dX10_goesBack_6 : decode cX10_goesBack 6 = .ok (.isub, 1) := by decide +kernel
theorem dX10_goesBack_7 : decode cX10_goesBack 7 = .ok (.putfield 81, 3) := by decide +kernel
theorem dX10_goesBack_10 : decode cX10_goesBack 10 = .ok (.aload_n 0, 1) := by decide +kernel
theorem dX10_goesBack_11 : decode cX10_goesBack 11 = .ok (.getfield 17, 3) := by decide +kernel
theorem dX10_goesBack_14 : decode cX10_goesBack 14 = .ok (.aload_n 0, 1) := by decide +kernel
theorem dX10_goesBack_15 : decode cX10_goesBack 15 = .ok (.getfield 94, 3) := by decide +kernel
theorem dX10_goesBack_18 : decode cX10_goesBack 18 = .ok (.aload_n 0, 1) := by decide +kernel
theorem dX10_goesBack_19 : decode cX10_goesBack 19 = .ok (.getfield 13, 3) := by decide +kernel
theorem dX10_goesBack_22 : decode cX10_goesBack 22 = .ok (.aload_n 0, 1) := by decide +kernel
theorem dX10_goesBack_23 : decode cX10_goesBack 23 = .ok (.getfield 81, 3) := by decide +kernel
theorem dX10_goesBack_26 : decode cX10_goesBack 26 = .ok (.iaload, 1) := by decide +kernel
theorem dX10_goesBack_27 : decode cX10_goesBack 27 = .ok (.iastore, 1) := by decide +kernel
theorem dX10_goesBack_28 : decode cX10_goesBack 28 = .ok (.aload_n 0, 1) := by decide +kernel
theorem dX10_goesBack_29 : decode cX10_goesBack 29 = .ok (.dup, 1) := by decide +kernel
theorem dX10_goesBack_30 : decode cX10_goesBack 30 = .ok (.getfield 94, 3) := by decide +kernel
theorem dX10_goesBack_33 : decode cX10_goesBack 33 = .ok (.iconst 1, 1) := by decide +kernel
theorem dX10_goesBack_34 : decode cX10_goesBack 34 = .ok (.iadd, 1) := by decide +kernel
theorem dX10_goesBack_35 : decode cX10_goesBack 35 = .ok (.putfield 94, 3) := by decide +kernel
theorem dX10_goesBack_38 : decode cX10_goesBack 38 = .ok (.return_, 1) := by decide +kernel
theorem dX10_goesTo_0 : decode cX10_goesTo 0 = .ok (.aload_n 0, 1) := by decide +kernel
theorem dX10_goesTo_1 : decode cX10_goesTo 1 = .ok (.getfield 81, 3) := by decide +kernel
theorem dX10_goesTo_4 : decode cX10_goesTo 4 = .ok (.iload_n 1, 1) := by decide +kernel
theorem dX10_goesTo_5 : decode cX10_goesTo 5 = .ok (.if_icmp .ge 10, 3) := by decide +kernel
theorem dX10_goesTo_8 : decode cX10_goesTo 8 = .ok (.aload_n 0, 1) := by decide +kernel
theorem dX10_goesTo_9 : decode cX10_goesTo 9 = .ok (.invokevirtual 97, 3) := by decide +kernel
theorem dX10_goesTo_12 : decode cX10_goesTo 12 = .ok (.goto (-12), 3) := by decide +kernel
theorem dX10_goesTo_15 : decode cX10_goesTo 15 = .ok (.aload_n 0, 1) := by decide +kernel
theorem dX10_goesTo_16 : decode cX10_goesTo 16 = .ok (.getfield 81, 3) := by decide +kernel
theorem dX10_goesTo_19 : decode cX10_goesTo 19 = .ok (.iload_n 1, 1) := by decide +kernel
theorem dX10_goesTo_20 : decode cX10_goesTo 20 = .ok (.if_icmp .le 10, 3) := by decide +kernel
theorem dX10_goesTo_23 : decode cX10_goesTo 23 = .ok (.aload_n 0, 1) := by decide +kernel
theorem dX10_goesTo_24 : decode cX10_goesTo 24 = .ok (.invokevirtual 100, 3) := by decide +kernel
theorem dX10_goesTo_27 : decode cX10_goesTo 27 = .ok (.goto (-12), 3) := by decide +kernel
theorem dX10_goesTo_30 : decode cX10_goesTo 30 = .ok (.return_, 1) := by decide +kernel
theorem dX10_passes_0 : decode cX10_passes 0 = .ok (.aload_n 0, 1) := by decide +kernel
theorem dX10_passes_1 : decode cX10_passes 1 = .ok (.getfield 94, 3) := by decide +kernel
theorem dX10_passes_4 : decode cX10_passes 4 = .ok (.ifCond .ne 10, 3) := by decide +kernel
theorem dX10_passes_7 : decode cX10_passes 7 = .ok (.aload_n 0, 1) := by decide +kernel
theorem dX10_passes_8 : decode cX10_passes 8 = .ok (.bipush (-2), 2) := by decide +kernel
theorem dX10_passes_10 : decode cX10_passes 10 = .ok (.invokevirtual 103, 3) := by decide +kernel
theorem dX10_passes_13 : decode cX10_passes 13 = .ok (.ireturn, 1) := by decide +kernel
theorem dX10_passes_14 : decode cX10_passes 14 = .ok (.aload_n 0, 1) := by decide +kernel
theorem dX10_passes_15 : decode cX10_passes 15 = .ok (.invokevirtual 106, 3) := by decide +kernel
theorem dX10_passes_18 : decode cX10_passes 18 = .ok (.aload_n 0, 1) := by decide +kernel
theorem dX10_passes_19 : decode cX10_passes 19 = .ok (.invokevirtual 97, 3) := by decide +kernel
theorem dX10_passes_22 : decode cX10_passes 22 = .ok (.aload_n 0, 1) := by decide +kernel
theorem dX10_passes_23 : decode cX10_passes 23 = .ok (.iconst 1, 1) := by decide +kernel
theorem dX10_passes_24 : decode cX10_passes 24 = .ok (.putfield 109, 3) := by decide +kernel
theorem dX10_passes_27 : decode cX10_passes 27 = .ok (.aload_n 0, 1) := by decide +kernel
theorem dX10_passes_28 : decode cX10_passes 28 = .ok (.getfield 13, 3) := by decide +kernel
theorem dX10_passes_31 : decode cX10_passes 31 = .ok (.aload_n 0, 1) := by decide +kernel
theorem dX10_passes_32 : decode cX10_passes 32 = .ok (.getfield 81, 3) := by decide +kernel
theorem dX10_passes_35 : decode cX10_passes 35 = .ok (.iconst 1, 1) := by decide +kernel
theorem dX10_passes_36 : decode cX10_passes 36 = .ok (.isub, 1) := by decide +kernel
theorem dX10_passes_37 : decode cX10_passes 37 = .ok (.iaload, 1) := by decide +kernel
theorem dX10_passes_38 : decode cX10_passes 38 = .ok (.ireturn, 1) := by decide +kernel
theorem dX10_passesBack_0 : decode cX10_passesBack 0 = .ok (.aload_n 0, 1) := by decide +kernel
theorem dX10_passesBack_1 : decode cX10_passesBack 1 = .ok (.getfield 81, 3) := by decide +kernel
theorem dX10_passesBack_4 : decode cX10_passesBack 4 = .ok (.ifCond .ne 10, 3) := by decide +kernel
theorem dX10_passesBack_7 : decode cX10_passesBack 7 = .ok (.aload_n 0, 1) := by decide +kernel
theorem dX10_passesBack_8 : decode cX10_passesBack 8 = .ok (.bipush (-2), 2) := by decide +kernel
theorem dX10_passesBack_10 : decode cX10_passesBack 10 = .ok (.invokevirtual 103, 3) := by decide +kernel
theorem dX10_passesBack_13 : decode cX10_passesBack 13 = .ok (.ireturn, 1) := by decide +kernel
theorem dX10_passesBack_14 : decode cX10_passesBack 14 = .ok (.aload_n 0, 1) := by decide +kernel
theorem dX10_passesBack_15 : decode cX10_passesBack 15 = .ok (.invokevirtual 106, 3) := by decide +kernel
theorem dX10_passesBack_18 : decode cX10_passesBack 18 = .ok (.aload_n 0, 1) := by decide +kernel
theorem dX10_passesBack_19 : decode cX10_passesBack 19 = .ok (.invokevirtual 100, 3) := by decide +kernel
theorem dX10_passesBack_22 : decode cX10_passesBack 22 = .ok (.aload_n 0, 1) := by decide +kernel
theorem dX10_passesBack_23 : decode cX10_passesBack 23 = .ok (.iconst 2, 1) := by decide +kernel
theorem dX10_passesBack_24 : decode cX10_passesBack 24 = .ok (.putfield 109, 3) := by decide +kernel
theorem dX10_passesBack_27 : decode cX10_passesBack 27 = .ok (.aload_n 0, 1) := by decide +kernel
theorem dX10_passesBack_28 : decode cX10_passesBack 28 = .ok (.getfield 17, 3) := by decide +kernel
theorem dX10_passesBack_31 : decode cX10_passesBack 31 = .ok (.aload_n 0, 1) := by decide +kernel
theorem dX10_passesBack_32 : decode cX10_passesBack 32 = .ok (.getfield 94, 3) := by decide +kernel
theorem dX10_passesBack_35 : decode cX10_passesBack 35 = .ok (.iconst 1, 1) := by decide +kernel
theorem dX10_passesBack_36 : decode cX10_passesBack 36 = .ok (.isub, 1) := by decide +kernel
theorem dX10_passesBack_37 : decode cX10_passesBack 37 = .ok (.iaload, 1) := by decide +kernel
theorem dX10_passesBack_38 : decode cX10_passesBack 38 = .ok (.ireturn, 1) := by decide +kernel
theorem dX10_adds_0 : decode cX10_adds 0 = .ok (.aload_n 0, 1) := by decide +kernel
theorem dX10_adds_1 : decode cX10_adds 1 = .ok (.invokevirtual 84, 3) := by decide +kernel
theorem dX10_adds_4 : decode cX10_adds 4 = .ok (.bipush 100, 2) := by decide +kernel
theorem dX10_adds_6 : decode cX10_adds 6 = .ok (.if_icmp .ne 10, 3) := by decide +kernel
theorem dX10_adds_9 : decode cX10_adds 9 = .ok (.aload_n 0, 1) := by decide +kernel
theorem dX10_adds_10 : decode cX10_adds 10 = .ok (.bipush (-5), 2) := by decide +kernel
theorem dX10_adds_12 : decode cX10_adds 12 = .ok (.invokevirtual 103, 3) := by decide +kernel
theorem dX10_adds_15 : decode cX10_adds 15 = .ok (.ireturn, 1) := by decide +kernel
theorem dX10_adds_16 : decode cX10_adds 16 = .ok (.aload_n 0, 1) := by decide +kernel
theorem dX10_adds_17 : decode cX10_adds 17 = .ok (.invokevirtual 106, 3) := by decide +kernel
theorem dX10_adds_20 : decode cX10_adds 20 = .ok (.aload_n 0, 1) := by decide +kernel
theorem dX10_adds_21 : decode cX10_adds 21 = .ok (.getfield 13, 3) := by decide +kernel
theorem dX10_adds_24 : decode cX10_adds 24 = .ok (.aload_n 0, 1) := by decide +kernel
theorem dX10_adds_25 : decode cX10_adds 25 = .ok (.getfield 81, 3) := by decide +kernel
theorem dX10_adds_28 : decode cX10_adds 28 = .ok (.iload_n 1, 1) := by decide +kernel
theorem dX10_adds_29 : decode cX10_adds 29 = .ok (.iastore, 1) := by decide +kernel
theorem dX10_adds_30 : decode cX10_adds 30 = .ok (.aload_n 0, 1) := by decide +kernel
theorem dX10_adds_31 : decode cX10_adds 31 = .ok (.dup, 1) := by decide +kernel
theorem dX10_adds_32 : decode cX10_adds 32 = .ok (.getfield 81, 3) := by decide +kernel
theorem dX10_adds_35 : decode cX10_adds 35 = .ok (.iconst 1, 1) := by decide +kernel
theorem dX10_adds_36 : decode cX10_adds 36 = .ok (.iadd, 1) := by decide +kernel
theorem dX10_adds_37 : decode cX10_adds 37 = .ok (.putfield 81, 3) := by decide +kernel
theorem dX10_adds_40 : decode cX10_adds 40 = .ok (.aload_n 0, 1) := by decide +kernel
theorem dX10_adds_41 : decode cX10_adds 41 = .ok (.iconst 0, 1) := by decide +kernel
theorem dX10_adds_42 : decode cX10_adds 42 = .ok (.putfield 109, 3) := by decide +kernel
theorem dX10_adds_45 : decode cX10_adds 45 = .ok (.aload_n 0, 1) := by decide +kernel
theorem dX10_adds_46 : decode cX10_adds 46 = .ok (.invokevirtual 84, 3) := by decide +kernel
theorem dX10_adds_49 : decode cX10_adds 49 = .ok (.ireturn, 1) := by decide +kernel
theorem dX10_givenNow_0 : decode cX10_givenNow 0 = .ok (.aload_n 0, 1) := by decide +kernel
theorem dX10_givenNow_1 : decode cX10_givenNow 1 = .ok (.getfield 109, 3) := by decide +kernel
theorem dX10_givenNow_4 : decode cX10_givenNow 4 = .ok (.ifCond .ne 7, 3) := by decide +kernel
theorem dX10_givenNow_7 : decode cX10_givenNow 7 = .ok (.iconst (-1), 1) := by decide +kernel
theorem dX10_givenNow_8 : decode cX10_givenNow 8 = .ok (.goto 36, 3) := by decide +kernel
theorem dX10_givenNow_11 : decode cX10_givenNow 11 = .ok (.aload_n 0, 1) := by decide +kernel
theorem dX10_givenNow_12 : decode cX10_givenNow 12 = .ok (.getfield 109, 3) := by decide +kernel
theorem dX10_givenNow_15 : decode cX10_givenNow 15 = .ok (.iconst 1, 1) := by decide +kernel
theorem dX10_givenNow_16 : decode cX10_givenNow 16 = .ok (.if_icmp .ne 17, 3) := by decide +kernel
theorem dX10_givenNow_19 : decode cX10_givenNow 19 = .ok (.aload_n 0, 1) := by decide +kernel
theorem dX10_givenNow_20 : decode cX10_givenNow 20 = .ok (.getfield 13, 3) := by decide +kernel
theorem dX10_givenNow_23 : decode cX10_givenNow 23 = .ok (.aload_n 0, 1) := by decide +kernel
theorem dX10_givenNow_24 : decode cX10_givenNow 24 = .ok (.getfield 81, 3) := by decide +kernel
theorem dX10_givenNow_27 : decode cX10_givenNow 27 = .ok (.iconst 1, 1) := by decide +kernel
theorem dX10_givenNow_28 : decode cX10_givenNow 28 = .ok (.isub, 1) := by decide +kernel
theorem dX10_givenNow_29 : decode cX10_givenNow 29 = .ok (.iaload, 1) := by decide +kernel
theorem dX10_givenNow_30 : decode cX10_givenNow 30 = .ok (.goto 14, 3) := by decide +kernel
theorem dX10_givenNow_33 : decode cX10_givenNow 33 = .ok (.aload_n 0, 1) := by decide +kernel
theorem dX10_givenNow_34 : decode cX10_givenNow 34 = .ok (.getfield 17, 3) := by decide +kernel
theorem dX10_givenNow_37 : decode cX10_givenNow 37 = .ok (.aload_n 0, 1) := by decide +kernel
theorem dX10_givenNow_38 : decode cX10_givenNow 38 = .ok (.getfield 94, 3) := by decide +kernel
theorem dX10_givenNow_41 : decode cX10_givenNow 41 = .ok (.iconst 1, 1) := by decide +kernel
theorem dX10_givenNow_42 : decode cX10_givenNow 42 = .ok (.isub, 1) := by decide +kernel
theorem dX10_givenNow_43 : decode cX10_givenNow 43 = .ok (.iaload, 1) := by decide +kernel
theorem dX10_givenNow_44 : decode cX10_givenNow 44 = .ok (.ireturn, 1) := by decide +kernel
theorem dX10_sets_0 : decode cX10_sets 0 = .ok (.aload_n 0, 1) := by decide +kernel
theorem dX10_sets_1 : decode cX10_sets 1 = .ok (.getfield 109, 3) := by decide +kernel
theorem dX10_sets_4 : decode cX10_sets 4 = .ok (.ifCond .ne 10, 3) := by decide +kernel
theorem dX10_sets_7 : decode cX10_sets 7 = .ok (.aload_n 0, 1) := by decide +kernel
theorem dX10_sets_8 : decode cX10_sets 8 = .ok (.bipush (-3), 2) := by decide +kernel
theorem dX10_sets_10 : decode cX10_sets 10 = .ok (.invokevirtual 103, 3) := by decide +kernel
theorem dX10_sets_13 : decode cX10_sets 13 = .ok (.ireturn, 1) := by decide +kernel
theorem dX10_sets_14 : decode cX10_sets 14 = .ok (.aload_n 0, 1) := by decide +kernel
theorem dX10_sets_15 : decode cX10_sets 15 = .ok (.invokevirtual 106, 3) := by decide +kernel
theorem dX10_sets_18 : decode cX10_sets 18 = .ok (.aload_n 0, 1) := by decide +kernel
theorem dX10_sets_19 : decode cX10_sets 19 = .ok (.invokevirtual 112, 3) := by decide +kernel
theorem dX10_sets_22 : decode cX10_sets 22 = .ok (.istore_n 2, 1) := by decide +kernel
theorem dX10_sets_23 : decode cX10_sets 23 = .ok (.aload_n 0, 1) := by decide +kernel
theorem dX10_sets_24 : decode cX10_sets 24 = .ok (.getfield 109, 3) := by decide +kernel
theorem dX10_sets_27 : decode cX10_sets 27 = .ok (.iconst 1, 1) := by decide +kernel
theorem dX10_sets_28 : decode cX10_sets 28 = .ok (.if_icmp .ne 18, 3) := by decide +kernel
theorem dX10_sets_31 : decode cX10_sets 31 = .ok (.aload_n 0, 1) := by decide +kernel
theorem dX10_sets_32 : decode cX10_sets 32 = .ok (.getfield 13, 3) := by decide +kernel
theorem dX10_sets_35 : decode cX10_sets 35 = .ok (.aload_n 0, 1) := by decide +kernel
theorem dX10_sets_36 : decode cX10_sets 36 = .ok (.getfield 81, 3) := by decide +kernel
theorem dX10_sets_39 : decode cX10_sets 39 = .ok (.iconst 1, 1) := by decide +kernel
theorem dX10_sets_40 : decode cX10_sets 40 = .ok (.isub, 1) := by decide +kernel
theorem dX10_sets_41 : decode cX10_sets 41 = .ok (.iload_n 1, 1) := by decide +kernel
theorem dX10_sets_42 : decode cX10_sets 42 = .ok (.iastore, 1) := by decide +kernel
theorem dX10_sets_43 : decode cX10_sets 43 = .ok (.goto 15, 3) := by decide +kernel
theorem dX10_sets_46 : decode cX10_sets 46 = .ok (.aload_n 0, 1) := by decide +kernel
theorem dX10_sets_47 : decode cX10_sets 47 = .ok (.getfield 17, 3) := by decide +kernel
theorem dX10_sets_50 : decode cX10_sets 50 = .ok (.aload_n 0, 1) := by decide +kernel
theorem dX10_sets_51 : decode cX10_sets 51 = .ok (.getfield 94, 3) := by decide +kernel
theorem dX10_sets_54 : decode cX10_sets 54 = .ok (.iconst 1, 1) := by decide +kernel
theorem dX10_sets_55 : decode cX10_sets 55 = .ok (.isub, 1) := by decide +kernel
theorem dX10_sets_56 : decode cX10_sets 56 = .ok (.iload_n 1, 1) := by decide +kernel
theorem dX10_sets_57 : decode cX10_sets 57 = .ok (.iastore, 1) := by decide +kernel
theorem dX10_sets_58 : decode cX10_sets 58 = .ok (.iload_n 2, 1) := by decide +kernel
theorem dX10_sets_59 : decode cX10_sets 59 = .ok (.ireturn, 1) := by decide +kernel
theorem dX10_removes_0 : decode cX10_removes 0 = .ok (.aload_n 0, 1) := by decide +kernel
theorem dX10_removes_1 : decode cX10_removes 1 = .ok (.getfield 109, 3) := by decide +kernel
theorem dX10_removes_4 : decode cX10_removes 4 = .ok (.ifCond .ne 10, 3) := by decide +kernel
theorem dX10_removes_7 : decode cX10_removes 7 = .ok (.aload_n 0, 1) := by decide +kernel
theorem dX10_removes_8 : decode cX10_removes 8 = .ok (.bipush (-3), 2) := by decide +kernel
theorem dX10_removes_10 : decode cX10_removes 10 = .ok (.invokevirtual 103, 3) := by decide +kernel
theorem dX10_removes_13 : decode cX10_removes 13 = .ok (.ireturn, 1) := by decide +kernel
theorem dX10_removes_14 : decode cX10_removes 14 = .ok (.aload_n 0, 1) := by decide +kernel
theorem dX10_removes_15 : decode cX10_removes 15 = .ok (.invokevirtual 106, 3) := by decide +kernel
theorem dX10_removes_18 : decode cX10_removes 18 = .ok (.aload_n 0, 1) := by decide +kernel
theorem dX10_removes_19 : decode cX10_removes 19 = .ok (.invokevirtual 112, 3) := by decide +kernel
theorem dX10_removes_22 : decode cX10_removes 22 = .ok (.istore_n 1, 1) := by decide +kernel
theorem dX10_removes_23 : decode cX10_removes 23 = .ok (.aload_n 0, 1) := by decide +kernel
theorem dX10_removes_24 : decode cX10_removes 24 = .ok (.getfield 109, 3) := by decide +kernel
theorem dX10_removes_27 : decode cX10_removes 27 = .ok (.iconst 1, 1) := by decide +kernel
theorem dX10_removes_28 : decode cX10_removes 28 = .ok (.if_icmp .ne 16, 3) := by decide +kernel
theorem dX10_removes_31 : decode cX10_removes 31 = .ok (.aload_n 0, 1) := by decide +kernel
theorem dX10_removes_32 : decode cX10_removes 32 = .ok (.dup, 1) := by decide +kernel
theorem dX10_removes_33 : decode cX10_removes 33 = .ok (.getfield 81, 3) := by decide +kernel
theorem dX10_removes_36 : decode cX10_removes 36 = .ok (.iconst 1, 1) := by decide +kernel
theorem dX10_removes_37 : decode cX10_removes 37 = .ok (.isub, 1) := by decide +kernel
theorem dX10_removes_38 : decode cX10_removes 38 = .ok (.putfield 81, 3) := by decide +kernel
theorem dX10_removes_41 : decode cX10_removes 41 = .ok (.goto 13, 3) := by decide +kernel
theorem dX10_removes_44 : decode cX10_removes 44 = .ok (.aload_n 0, 1) := by decide +kernel
theorem dX10_removes_45 : decode cX10_removes 45 = .ok (.dup, 1) := by decide +kernel
theorem dX10_removes_46 : decode cX10_removes 46 = .ok (.getfield 94, 3) := by decide +kernel
theorem dX10_removes_49 : decode cX10_removes 49 = .ok (.iconst 1, 1) := by decide +kernel
theorem dX10_removes_50 : decode cX10_removes 50 = .ok (.isub, 1) := by decide +kernel
theorem dX10_removes_51 : decode cX10_removes 51 = .ok (.putfield 94, 3) := by decide +kernel
theorem dX10_removes_54 : decode cX10_removes 54 = .ok (.aload_n 0, 1) := by decide +kernel
theorem dX10_removes_55 : decode cX10_removes 55 = .ok (.iconst 0, 1) := by decide +kernel
theorem dX10_removes_56 : decode cX10_removes 56 = .ok (.putfield 109, 3) := by decide +kernel
theorem dX10_removes_59 : decode cX10_removes 59 = .ok (.iload_n 1, 1) := by decide +kernel
theorem dX10_removes_60 : decode cX10_removes 60 = .ok (.ireturn, 1) := by decide +kernel
theorem dX10_moves_0 : decode cX10_moves 0 = .ok (.iload_n 1, 1) := by decide +kernel
theorem dX10_moves_1 : decode cX10_moves 1 = .ok (.iconst 0, 1) := by decide +kernel
theorem dX10_moves_2 : decode cX10_moves 2 = .ok (.aload_n 0, 1) := by decide +kernel
theorem dX10_moves_3 : decode cX10_moves 3 = .ok (.invokevirtual 84, 3) := by decide +kernel
theorem dX10_moves_6 : decode cX10_moves 6 = .ok (.invokestatic 66, 3) := by decide +kernel
theorem dX10_moves_9 : decode cX10_moves 9 = .ok (.ifCond .ne 10, 3) := by decide +kernel
theorem dX10_moves_12 : decode cX10_moves 12 = .ok (.aload_n 0, 1) := by decide +kernel
theorem dX10_moves_13 : decode cX10_moves 13 = .ok (.bipush (-4), 2) := by decide +kernel
theorem dX10_moves_15 : decode cX10_moves 15 = .ok (.invokevirtual 103, 3) := by decide +kernel
theorem dX10_moves_18 : decode cX10_moves 18 = .ok (.ireturn, 1) := by decide +kernel
theorem dX10_moves_19 : decode cX10_moves 19 = .ok (.aload_n 0, 1) := by decide +kernel
theorem dX10_moves_20 : decode cX10_moves 20 = .ok (.invokevirtual 106, 3) := by decide +kernel
theorem dX10_moves_23 : decode cX10_moves 23 = .ok (.aload_n 0, 1) := by decide +kernel
theorem dX10_moves_24 : decode cX10_moves 24 = .ok (.iload_n 1, 1) := by decide +kernel
theorem dX10_moves_25 : decode cX10_moves 25 = .ok (.invokevirtual 115, 3) := by decide +kernel
theorem dX10_moves_28 : decode cX10_moves 28 = .ok (.aload_n 0, 1) := by decide +kernel
theorem dX10_moves_29 : decode cX10_moves 29 = .ok (.iconst 0, 1) := by decide +kernel
theorem dX10_moves_30 : decode cX10_moves 30 = .ok (.putfield 109, 3) := by decide +kernel
theorem dX10_moves_33 : decode cX10_moves 33 = .ok (.iload_n 1, 1) := by decide +kernel
theorem dX10_moves_34 : decode cX10_moves 34 = .ok (.ireturn, 1) := by decide +kernel
theorem dX10_finds_0 : decode cX10_finds 0 = .ok (.iconst 1, 1) := by decide +kernel
theorem dX10_finds_1 : decode cX10_finds 1 = .ok (.istore_n 3, 1) := by decide +kernel
theorem dX10_finds_2 : decode cX10_finds 2 = .ok (.iload_n 2, 1) := by decide +kernel
theorem dX10_finds_3 : decode cX10_finds 3 = .ok (.ifCond .eq 32, 3) := by decide +kernel
theorem dX10_finds_6 : decode cX10_finds 6 = .ok (.iload_n 3, 1) := by decide +kernel
theorem dX10_finds_7 : decode cX10_finds 7 = .ok (.aload_n 0, 1) := by decide +kernel
theorem dX10_finds_8 : decode cX10_finds 8 = .ok (.getfield 81, 3) := by decide +kernel
theorem dX10_finds_11 : decode cX10_finds 11 = .ok (.if_icmp .gt 53, 3) := by decide +kernel
theorem dX10_finds_14 : decode cX10_finds 14 = .ok (.aload_n 0, 1) := by decide +kernel
theorem dX10_finds_15 : decode cX10_finds 15 = .ok (.getfield 13, 3) := by decide +kernel
theorem dX10_finds_18 : decode cX10_finds 18 = .ok (.aload_n 0, 1) := by decide +kernel
theorem dX10_finds_19 : decode cX10_finds 19 = .ok (.getfield 81, 3) := by decide +kernel
theorem dX10_finds_22 : decode cX10_finds 22 = .ok (.iload_n 3, 1) := by decide +kernel
theorem dX10_finds_23 : decode cX10_finds 23 = .ok (.isub, 1) := by decide +kernel
theorem dX10_finds_24 : decode cX10_finds 24 = .ok (.iaload, 1) := by decide +kernel
theorem dX10_finds_25 : decode cX10_finds 25 = .ok (.iload_n 1, 1) := by decide +kernel
theorem dX10_finds_26 : decode cX10_finds 26 = .ok (.if_icmp .eq 38, 3) := by decide +kernel
theorem dX10_finds_29 : decode cX10_finds 29 = .ok (.iinc 3 1, 3) := by decide +kernel
theorem dX10_finds_32 : decode cX10_finds 32 = .ok (.goto (-26), 3) := by decide +kernel
theorem dX10_finds_35 : decode cX10_finds 35 = .ok (.iload_n 3, 1) := by decide +kernel
theorem dX10_finds_36 : decode cX10_finds 36 = .ok (.aload_n 0, 1) := by decide +kernel
theorem dX10_finds_37 : decode cX10_finds 37 = .ok (.getfield 94, 3) := by decide +kernel
theorem dX10_finds_40 : decode cX10_finds 40 = .ok (.if_icmp .gt 24, 3) := by decide +kernel
theorem dX10_finds_43 : decode cX10_finds 43 = .ok (.aload_n 0, 1) := by decide +kernel
theorem dX10_finds_44 : decode cX10_finds 44 = .ok (.getfield 17, 3) := by decide +kernel
theorem dX10_finds_47 : decode cX10_finds 47 = .ok (.aload_n 0, 1) := by decide +kernel
theorem dX10_finds_48 : decode cX10_finds 48 = .ok (.getfield 94, 3) := by decide +kernel
theorem dX10_finds_51 : decode cX10_finds 51 = .ok (.iload_n 3, 1) := by decide +kernel
theorem dX10_finds_52 : decode cX10_finds 52 = .ok (.isub, 1) := by decide +kernel
theorem dX10_finds_53 : decode cX10_finds 53 = .ok (.iaload, 1) := by decide +kernel
theorem dX10_finds_54 : decode cX10_finds 54 = .ok (.iload_n 1, 1) := by decide +kernel
theorem dX10_finds_55 : decode cX10_finds 55 = .ok (.if_icmp .eq 9, 3) := by decide +kernel
theorem dX10_finds_58 : decode cX10_finds 58 = .ok (.iinc 3 1, 3) := by decide +kernel
theorem dX10_finds_61 : decode cX10_finds 61 = .ok (.goto (-26), 3) := by decide +kernel
theorem dX10_finds_64 : decode cX10_finds 64 = .ok (.iload_n 3, 1) := by decide +kernel
theorem dX10_finds_65 : decode cX10_finds 65 = .ok (.iload_n 2, 1) := by decide +kernel
theorem dX10_finds_66 : decode cX10_finds 66 = .ok (.ifCond .eq 10, 3) := by decide +kernel
theorem dX10_finds_69 : decode cX10_finds 69 = .ok (.aload_n 0, 1) := by decide +kernel
theorem dX10_finds_70 : decode cX10_finds 70 = .ok (.getfield 81, 3) := by decide +kernel
theorem dX10_finds_73 : decode cX10_finds 73 = .ok (.goto 7, 3) := by decide +kernel
theorem dX10_finds_76 : decode cX10_finds 76 = .ok (.aload_n 0, 1) := by decide +kernel
theorem dX10_finds_77 : decode cX10_finds 77 = .ok (.getfield 94, 3) := by decide +kernel
theorem dX10_finds_80 : decode cX10_finds 80 = .ok (.if_icmp .le 10, 3) := by decide +kernel
theorem dX10_finds_83 : decode cX10_finds 83 = .ok (.aload_n 0, 1) := by decide +kernel
theorem dX10_finds_84 : decode cX10_finds 84 = .ok (.bipush (-2), 2) := by decide +kernel
theorem dX10_finds_86 : decode cX10_finds 86 = .ok (.invokevirtual 103, 3) := by decide +kernel
theorem dX10_finds_89 : decode cX10_finds 89 = .ok (.ireturn, 1) := by decide +kernel
theorem dX10_finds_90 : decode cX10_finds 90 = .ok (.aload_n 0, 1) := by decide +kernel
theorem dX10_finds_91 : decode cX10_finds 91 = .ok (.invokevirtual 106, 3) := by decide +kernel
theorem dX10_finds_94 : decode cX10_finds 94 = .ok (.aload_n 0, 1) := by decide +kernel
theorem dX10_finds_95 : decode cX10_finds 95 = .ok (.iload_n 2, 1) := by decide +kernel
theorem dX10_finds_96 : decode cX10_finds 96 = .ok (.ifCond .eq 12, 3) := by decide +kernel
theorem dX10_finds_99 : decode cX10_finds 99 = .ok (.aload_n 0, 1) := by decide +kernel
theorem dX10_finds_100 : decode cX10_finds 100 = .ok (.getfield 81, 3) := by decide +kernel
theorem dX10_finds_103 : decode cX10_finds 103 = .ok (.iload_n 3, 1) := by decide +kernel
theorem dX10_finds_104 : decode cX10_finds 104 = .ok (.isub, 1) := by decide +kernel
theorem dX10_finds_105 : decode cX10_finds 105 = .ok (.goto 9, 3) := by decide +kernel
theorem dX10_finds_108 : decode cX10_finds 108 = .ok (.aload_n 0, 1) := by decide +kernel
theorem dX10_finds_109 : decode cX10_finds 109 = .ok (.getfield 81, 3) := by decide +kernel
theorem dX10_finds_112 : decode cX10_finds 112 = .ok (.iload_n 3, 1) := by decide +kernel
theorem dX10_finds_113 : decode cX10_finds 113 = .ok (.iadd, 1) := by decide +kernel
theorem dX10_finds_114 : decode cX10_finds 114 = .ok (.invokevirtual 115, 3) := by decide +kernel
theorem dX10_finds_117 : decode cX10_finds 117 = .ok (.aload_n 0, 1) := by decide +kernel
theorem dX10_finds_118 : decode cX10_finds 118 = .ok (.iload_n 2, 1) := by decide +kernel
theorem dX10_finds_119 : decode cX10_finds 119 = .ok (.ifCond .eq 7, 3) := by decide +kernel
theorem dX10_finds_122 : decode cX10_finds 122 = .ok (.iconst 2, 1) := by decide +kernel
theorem dX10_finds_123 : decode cX10_finds 123 = .ok (.goto 4, 3) := by decide +kernel
theorem dX10_finds_126 : decode cX10_finds 126 = .ok (.iconst 1, 1) := by decide +kernel
theorem dX10_finds_127 : decode cX10_finds 127 = .ok (.putfield 109, 3) := by decide +kernel
theorem dX10_finds_130 : decode cX10_finds 130 = .ok (.iload_n 3, 1) := by decide +kernel
theorem dX10_finds_131 : decode cX10_finds 131 = .ok (.ireturn, 1) := by decide +kernel
theorem dX10_swaps_0 : decode cX10_swaps 0 = .ok (.aload_n 0, 1) := by decide +kernel
theorem dX10_swaps_1 : decode cX10_swaps 1 = .ok (.getfield 81, 3) := by decide +kernel
theorem dX10_swaps_4 : decode cX10_swaps 4 = .ok (.ifCond .eq 10, 3) := by decide +kernel
theorem dX10_swaps_7 : decode cX10_swaps 7 = .ok (.aload_n 0, 1) := by decide +kernel
theorem dX10_swaps_8 : decode cX10_swaps 8 = .ok (.getfield 94, 3) := by decide +kernel
theorem dX10_swaps_11 : decode cX10_swaps 11 = .ok (.ifCond .ne 10, 3) := by decide +kernel
theorem dX10_swaps_14 : decode cX10_swaps 14 = .ok (.aload_n 0, 1) := by decide +kernel
theorem dX10_swaps_15 : decode cX10_swaps 15 = .ok (.bipush (-2), 2) := by decide +kernel
theorem dX10_swaps_17 : decode cX10_swaps 17 = .ok (.invokevirtual 103, 3) := by decide +kernel
theorem dX10_swaps_20 : decode cX10_swaps 20 = .ok (.ireturn, 1) := by decide +kernel
theorem dX10_swaps_21 : decode cX10_swaps 21 = .ok (.aload_n 0, 1) := by decide +kernel
theorem dX10_swaps_22 : decode cX10_swaps 22 = .ok (.invokevirtual 106, 3) := by decide +kernel
theorem dX10_swaps_25 : decode cX10_swaps 25 = .ok (.aload_n 0, 1) := by decide +kernel
theorem dX10_swaps_26 : decode cX10_swaps 26 = .ok (.getfield 13, 3) := by decide +kernel
theorem dX10_swaps_29 : decode cX10_swaps 29 = .ok (.aload_n 0, 1) := by decide +kernel
theorem dX10_swaps_30 : decode cX10_swaps 30 = .ok (.getfield 81, 3) := by decide +kernel
theorem dX10_swaps_33 : decode cX10_swaps 33 = .ok (.iconst 1, 1) := by decide +kernel
theorem dX10_swaps_34 : decode cX10_swaps 34 = .ok (.isub, 1) := by decide +kernel
theorem dX10_swaps_35 : decode cX10_swaps 35 = .ok (.iaload, 1) := by decide +kernel
theorem dX10_swaps_36 : decode cX10_swaps 36 = .ok (.istore_n 1, 1) := by decide +kernel
theorem dX10_swaps_37 : decode cX10_swaps 37 = .ok (.aload_n 0, 1) := by decide +kernel
theorem dX10_swaps_38 : decode cX10_swaps 38 = .ok (.getfield 13, 3) := by decide +kernel
theorem dX10_swaps_41 : decode cX10_swaps 41 = .ok (.aload_n 0, 1) := by decide +kernel
theorem dX10_swaps_42 : decode cX10_swaps 42 = .ok (.getfield 81, 3) := by decide +kernel
theorem dX10_swaps_45 : decode cX10_swaps 45 = .ok (.iconst 1, 1) := by decide +kernel
theorem dX10_swaps_46 : decode cX10_swaps 46 = .ok (.isub, 1) := by decide +kernel
theorem dX10_swaps_47 : decode cX10_swaps 47 = .ok (.aload_n 0, 1) := by decide +kernel
theorem dX10_swaps_48 : decode cX10_swaps 48 = .ok (.getfield 17, 3) := by decide +kernel
theorem dX10_swaps_51 : decode cX10_swaps 51 = .ok (.aload_n 0, 1) := by decide +kernel
theorem dX10_swaps_52 : decode cX10_swaps 52 = .ok (.getfield 94, 3) := by decide +kernel
theorem dX10_swaps_55 : decode cX10_swaps 55 = .ok (.iconst 1, 1) := by decide +kernel
theorem dX10_swaps_56 : decode cX10_swaps 56 = .ok (.isub, 1) := by decide +kernel
theorem dX10_swaps_57 : decode cX10_swaps 57 = .ok (.iaload, 1) := by decide +kernel
theorem dX10_swaps_58 : decode cX10_swaps 58 = .ok (.iastore, 1) := by decide +kernel
theorem dX10_swaps_59 : decode cX10_swaps 59 = .ok (.aload_n 0, 1) := by decide +kernel
theorem dX10_swaps_60 : decode cX10_swaps 60 = .ok (.getfield 17, 3) := by decide +kernel
theorem dX10_swaps_63 : decode cX10_swaps 63 = .ok (.aload_n 0, 1) := by decide +kernel
theorem dX10_swaps_64 : decode cX10_swaps 64 = .ok (.getfield 94, 3) := by decide +kernel
theorem dX10_swaps_67 : decode cX10_swaps 67 = .ok (.iconst 1, 1) := by decide +kernel
theorem dX10_swaps_68 : decode cX10_swaps 68 = .ok (.isub, 1) := by decide +kernel
theorem dX10_swaps_69 : decode cX10_swaps 69 = .ok (.iload_n 1, 1) := by decide +kernel
theorem dX10_swaps_70 : decode cX10_swaps 70 = .ok (.iastore, 1) := by decide +kernel
theorem dX10_swaps_71 : decode cX10_swaps 71 = .ok (.aload_n 0, 1) := by decide +kernel
theorem dX10_swaps_72 : decode cX10_swaps 72 = .ok (.iconst 1, 1) := by decide +kernel
theorem dX10_swaps_73 : decode cX10_swaps 73 = .ok (.putfield 109, 3) := by decide +kernel
theorem dX10_swaps_76 : decode cX10_swaps 76 = .ok (.aload_n 0, 1) := by decide +kernel
theorem dX10_swaps_77 : decode cX10_swaps 77 = .ok (.getfield 13, 3) := by decide +kernel
theorem dX10_swaps_80 : decode cX10_swaps 80 = .ok (.aload_n 0, 1) := by decide +kernel
theorem dX10_swaps_81 : decode cX10_swaps 81 = .ok (.getfield 81, 3) := by decide +kernel
theorem dX10_swaps_84 : decode cX10_swaps 84 = .ok (.iconst 1, 1) := by decide +kernel
theorem dX10_swaps_85 : decode cX10_swaps 85 = .ok (.isub, 1) := by decide +kernel
theorem dX10_swaps_86 : decode cX10_swaps 86 = .ok (.iaload, 1) := by decide +kernel
theorem dX10_swaps_87 : decode cX10_swaps 87 = .ok (.ireturn, 1) := by decide +kernel
end
section
theorem dX10_next_0 : decode cX10_next 0 = .ok (.aload_n 0, 1) := by decide +kernel
theorem dX10_next_1 : decode cX10_next 1 = .ok (.iconst 0, 1) := by decide +kernel
theorem dX10_next_2 : decode cX10_next 2 = .ok (.putfield 1, 3) := by decide +kernel
theorem dX10_next_5 : decode cX10_next 5 = .ok (.aload_n 0, 1) := by decide +kernel
theorem dX10_next_6 : decode cX10_next 6 = .ok (.invokevirtual 119, 3) := by decide +kernel
theorem dX10_next_9 : decode cX10_next 9 = .ok (.ireturn, 1) := by decide +kernel
theorem dX10_previous_0 : decode cX10_previous 0 = .ok (.aload_n 0, 1) := by decide +kernel
theorem dX10_previous_1 : decode cX10_previous 1 = .ok (.iconst 0, 1) := by decide +kernel
theorem dX10_previous_2 : decode cX10_previous 2 = .ok (.putfield 1, 3) := by decide +kernel
theorem dX10_previous_5 : decode cX10_previous 5 = .ok (.aload_n 0, 1) := by decide +kernel
theorem dX10_previous_6 : decode cX10_previous 6 = .ok (.invokevirtual 122, 3) := by decide +kernel
theorem dX10_previous_9 : decode cX10_previous 9 = .ok (.ireturn, 1) := by decide +kernel
theorem dX10_add_0 : decode cX10_add 0 = .ok (.aload_n 0, 1) := by decide +kernel
theorem dX10_add_1 : decode cX10_add 1 = .ok (.iconst 0, 1) := by decide +kernel
theorem dX10_add_2 : decode cX10_add 2 = .ok (.putfield 1, 3) := by decide +kernel
theorem dX10_add_5 : decode cX10_add 5 = .ok (.aload_n 0, 1) := by decide +kernel
theorem dX10_add_6 : decode cX10_add 6 = .ok (.iload_n 1, 1) := by decide +kernel
theorem dX10_add_7 : decode cX10_add 7 = .ok (.invokevirtual 125, 3) := by decide +kernel
theorem dX10_add_10 : decode cX10_add 10 = .ok (.ifCond .eq 7, 3) := by decide +kernel
theorem dX10_add_13 : decode cX10_add 13 = .ok (.iconst 0, 1) := by decide +kernel
theorem dX10_add_14 : decode cX10_add 14 = .ok (.goto 8, 3) := by decide +kernel
theorem dX10_add_17 : decode cX10_add 17 = .ok (.aload_n 0, 1) := by decide +kernel
theorem dX10_add_18 : decode cX10_add 18 = .ok (.iload_n 1, 1) := by decide +kernel
theorem dX10_add_19 : decode cX10_add 19 = .ok (.invokevirtual 128, 3) := by decide +kernel
theorem dX10_add_22 : decode cX10_add 22 = .ok (.ireturn, 1) := by decide +kernel
theorem dX10_set_0 : decode cX10_set 0 = .ok (.aload_n 0, 1) := by decide +kernel
theorem dX10_set_1 : decode cX10_set 1 = .ok (.iconst 0, 1) := by decide +kernel
theorem dX10_set_2 : decode cX10_set 2 = .ok (.putfield 1, 3) := by decide +kernel
theorem dX10_set_5 : decode cX10_set 5 = .ok (.aload_n 0, 1) := by decide +kernel
theorem dX10_set_6 : decode cX10_set 6 = .ok (.iload_n 1, 1) := by decide +kernel
theorem dX10_set_7 : decode cX10_set 7 = .ok (.invokevirtual 125, 3) := by decide +kernel
theorem dX10_set_10 : decode cX10_set 10 = .ok (.ifCond .eq 7, 3) := by decide +kernel
theorem dX10_set_13 : decode cX10_set 13 = .ok (.iconst 0, 1) := by decide +kernel
theorem dX10_set_14 : decode cX10_set 14 = .ok (.goto 8, 3) := by decide +kernel
theorem dX10_set_17 : decode cX10_set 17 = .ok (.aload_n 0, 1) := by decide +kernel
theorem dX10_set_18 : decode cX10_set 18 = .ok (.iload_n 1, 1) := by decide +kernel
theorem dX10_set_19 : decode cX10_set 19 = .ok (.invokevirtual 131, 3) := by decide +kernel
theorem dX10_set_22 : decode cX10_set 22 = .ok (.ireturn, 1) := by decide +kernel
theorem dX10_remove_0 : decode cX10_remove 0 = .ok (.aload_n 0, 1) := by decide +kernel
theorem dX10_remove_1 : decode cX10_remove 1 = .ok (.iconst 0, 1) := by decide +kernel
theorem dX10_remove_2 : decode cX10_remove 2 = .ok (.putfield 1, 3) := by decide +kernel
theorem dX10_remove_5 : decode cX10_remove 5 = .ok (.aload_n 0, 1) := by decide +kernel
theorem dX10_remove_6 : decode cX10_remove 6 = .ok (.invokevirtual 134, 3) := by decide +kernel
theorem dX10_remove_9 : decode cX10_remove 9 = .ok (.ireturn, 1) := by decide +kernel
theorem dX10_move_0 : decode cX10_move 0 = .ok (.aload_n 0, 1) := by decide +kernel
theorem dX10_move_1 : decode cX10_move 1 = .ok (.iconst 0, 1) := by decide +kernel
theorem dX10_move_2 : decode cX10_move 2 = .ok (.putfield 1, 3) := by decide +kernel
theorem dX10_move_5 : decode cX10_move 5 = .ok (.aload_n 0, 1) := by decide +kernel
theorem dX10_move_6 : decode cX10_move 6 = .ok (.iload_n 1, 1) := by decide +kernel
theorem dX10_move_7 : decode cX10_move 7 = .ok (.invokevirtual 137, 3) := by decide +kernel
theorem dX10_move_10 : decode cX10_move 10 = .ok (.ireturn, 1) := by decide +kernel
theorem dX10_find_0 : decode cX10_find 0 = .ok (.aload_n 0, 1) := by decide +kernel
theorem dX10_find_1 : decode cX10_find 1 = .ok (.iconst 0, 1) := by decide +kernel
theorem dX10_find_2 : decode cX10_find 2 = .ok (.putfield 1, 3) := by decide +kernel
theorem dX10_find_5 : decode cX10_find 5 = .ok (.aload_n 0, 1) := by decide +kernel
theorem dX10_find_6 : decode cX10_find 6 = .ok (.iload_n 1, 1) := by decide +kernel
theorem dX10_find_7 : decode cX10_find 7 = .ok (.invokevirtual 125, 3) := by decide +kernel
theorem dX10_find_10 : decode cX10_find 10 = .ok (.ifCond .eq 7, 3) := by decide +kernel
theorem dX10_find_13 : decode cX10_find 13 = .ok (.iconst 0, 1) := by decide +kernel
theorem dX10_find_14 : decode cX10_find 14 = .ok (.goto 9, 3) := by decide +kernel
theorem dX10_find_17 : decode cX10_find 17 = .ok (.aload_n 0, 1) := by decide +kernel
theorem dX10_find_18 : decode cX10_find 18 = .ok (.iload_n 1, 1) := by decide +kernel
theorem dX10_find_19 : decode cX10_find 19 = .ok (.iload_n 2, 1) := by decide +kernel
theorem dX10_find_20 : decode cX10_find 20 = .ok (.invokevirtual 140, 3) := by decide +kernel
theorem dX10_find_23 : decode cX10_find 23 = .ok (.ireturn, 1) := by decide +kernel
theorem dX10_swap_0 : decode cX10_swap 0 = .ok (.aload_n 0, 1) := by decide +kernel
theorem dX10_swap_1 : decode cX10_swap 1 = .ok (.iconst 0, 1) := by decide +kernel
theorem dX10_swap_2 : decode cX10_swap 2 = .ok (.putfield 1, 3) := by decide +kernel
theorem dX10_swap_5 : decode cX10_swap 5 = .ok (.aload_n 0, 1) := by decide +kernel
theorem dX10_swap_6 : decode cX10_swap 6 = .ok (.invokevirtual 144, 3) := by decide +kernel
theorem dX10_swap_9 : decode cX10_swap 9 = .ok (.ireturn, 1) := by decide +kernel
theorem dX10_undo_0 : decode cX10_undo 0 = .ok (.aload_n 0, 1) := by decide +kernel
theorem dX10_undo_1 : decode cX10_undo 1 = .ok (.iconst 0, 1) := by decide +kernel
theorem dX10_undo_2 : decode cX10_undo 2 = .ok (.putfield 1, 3) := by decide +kernel
theorem dX10_undo_5 : decode cX10_undo 5 = .ok (.aload_n 0, 1) := by decide +kernel
theorem dX10_undo_6 : decode cX10_undo 6 = .ok (.getfield 78, 3) := by decide +kernel
theorem dX10_undo_9 : decode cX10_undo 9 = .ok (.ifCond .ne 5, 3) := by decide +kernel
theorem dX10_undo_12 : decode cX10_undo 12 = .ok (.iconst (-1), 1) := by decide +kernel
theorem dX10_undo_13 : decode cX10_undo 13 = .ok (.ireturn, 1) := by decide +kernel
theorem dX10_undo_14 : decode cX10_undo 14 = .ok (.aload_n 0, 1) := by decide +kernel
theorem dX10_undo_15 : decode cX10_undo 15 = .ok (.dup, 1) := by decide +kernel
theorem dX10_undo_16 : decode cX10_undo 16 = .ok (.getfield 78, 3) := by decide +kernel
theorem dX10_undo_19 : decode cX10_undo 19 = .ok (.iconst 1, 1) := by decide +kernel
theorem dX10_undo_20 : decode cX10_undo 20 = .ok (.isub, 1) := by decide +kernel
theorem dX10_undo_21 : decode cX10_undo 21 = .ok (.putfield 78, 3) := by decide +kernel
theorem dX10_undo_24 : decode cX10_undo 24 = .ok (.aload_n 0, 1) := by decide +kernel
theorem dX10_undo_25 : decode cX10_undo 25 = .ok (.iconst 0, 1) := by decide +kernel
theorem dX10_undo_26 : decode cX10_undo 26 = .ok (.putfield 81, 3) := by decide +kernel
theorem dX10_undo_29 : decode cX10_undo 29 = .ok (.aload_n 0, 1) := by decide +kernel
theorem dX10_undo_30 : decode cX10_undo 30 = .ok (.iconst 0, 1) := by decide +kernel
theorem dX10_undo_31 : decode cX10_undo 31 = .ok (.putfield 94, 3) := by decide +kernel
theorem dX10_undo_34 : decode cX10_undo 34 = .ok (.aload_n 0, 1) := by decide +kernel
theorem dX10_undo_35 : decode cX10_undo 35 = .ok (.iconst 0, 1) := by decide +kernel
theorem dX10_undo_36 : decode cX10_undo 36 = .ok (.putfield 109, 3) := by decide +kernel
theorem dX10_undo_39 : decode cX10_undo 39 = .ok (.aload_n 0, 1) := by decide +kernel
theorem dX10_undo_40 : decode cX10_undo 40 = .ok (.getfield 29, 3) := by decide +kernel
theorem dX10_undo_43 : decode cX10_undo 43 = .ok (.aload_n 0, 1) := by decide +kernel
theorem dX10_undo_44 : decode cX10_undo 44 = .ok (.getfield 78, 3) := by decide +kernel
theorem dX10_undo_47 : decode cX10_undo 47 = .ok (.iaload, 1) := by decide +kernel
theorem dX10_undo_48 : decode cX10_undo 48 = .ok (.iconst 1, 1) := by decide +kernel
theorem dX10_undo_49 : decode cX10_undo 49 = .ok (.isub, 1) := by decide +kernel
theorem dX10_undo_50 : decode cX10_undo 50 = .ok (.istore_n 1, 1) := by decide +kernel
theorem dX10_undo_51 : decode cX10_undo 51 = .ok (.iload_n 1, 1) := by decide +kernel
theorem dX10_undo_52 : decode cX10_undo 52 = .ok (.ifCond .lt 42, 3) := by decide +kernel
theorem dX10_undo_55 : decode cX10_undo 55 = .ok (.aload_n 0, 1) := by decide +kernel
theorem dX10_undo_56 : decode cX10_undo 56 = .ok (.getfield 17, 3) := by decide +kernel
theorem dX10_undo_59 : decode cX10_undo 59 = .ok (.aload_n 0, 1) := by decide +kernel
theorem dX10_undo_60 : decode cX10_undo 60 = .ok (.getfield 94, 3) := by decide +kernel
theorem dX10_undo_63 : decode cX10_undo 63 = .ok (.aload_n 0, 1) := by decide +kernel
theorem dX10_undo_64 : decode cX10_undo 64 = .ok (.getfield 23, 3) := by decide +kernel
theorem dX10_undo_67 : decode cX10_undo 67 = .ok (.bipush 100, 2) := by decide +kernel
theorem dX10_undo_69 : decode cX10_undo 69 = .ok (.aload_n 0, 1) := by decide +kernel
theorem dX10_undo_70 : decode cX10_undo 70 = .ok (.getfield 78, 3) := by decide +kernel
theorem dX10_undo_73 : decode cX10_undo 73 = .ok (.imul, 1) := by decide +kernel
theorem dX10_undo_74 : decode cX10_undo 74 = .ok (.iload_n 1, 1) := by decide +kernel
theorem dX10_undo_75 : decode cX10_undo 75 = .ok (.iadd, 1) := by decide +kernel
theorem dX10_undo_76 : decode cX10_undo 76 = .ok (.iaload, 1) := by decide +kernel
theorem dX10_undo_77 : decode cX10_undo 77 = .ok (.iastore, 1) := by decide +kernel
theorem dX10_undo_78 : decode cX10_undo 78 = .ok (.aload_n 0, 1) := by decide +kernel
theorem dX10_undo_79 : decode cX10_undo 79 = .ok (.dup, 1) := by decide +kernel
theorem dX10_undo_80 : decode cX10_undo 80 = .ok (.getfield 94, 3) := by decide +kernel
theorem dX10_undo_83 : decode cX10_undo 83 = .ok (.iconst 1, 1) := by decide +kernel
theorem dX10_undo_84 : decode cX10_undo 84 = .ok (.iadd, 1) := by decide +kernel
theorem dX10_undo_85 : decode cX10_undo 85 = .ok (.putfield 94, 3) := by decide +kernel
theorem dX10_undo_88 : decode cX10_undo 88 = .ok (.iinc 1 (-1), 3) := by decide +kernel
theorem dX10_undo_91 : decode cX10_undo 91 = .ok (.goto (-40), 3) := by decide +kernel
theorem dX10_undo_94 : decode cX10_undo 94 = .ok (.aload_n 0, 1) := by decide +kernel
theorem dX10_undo_95 : decode cX10_undo 95 = .ok (.aload_n 0, 1) := by decide +kernel
theorem dX10_undo_96 : decode cX10_undo 96 = .ok (.getfield 26, 3) := by decide +kernel
theorem dX10_undo_99 : decode cX10_undo 99 = .ok (.aload_n 0, 1) := by decide +kernel
theorem dX10_undo_100 : decode cX10_undo 100 = .ok (.getfield 78, 3) := by decide +kernel
theorem dX10_undo_103 : decode cX10_undo 103 = .ok (.iaload, 1) := by decide +kernel
theorem dX10_undo_104 : decode cX10_undo 104 = .ok (.invokevirtual 115, 3) := by decide +kernel
theorem dX10_undo_107 : decode cX10_undo 107 = .ok (.aload_n 0, 1) := by decide +kernel
theorem dX10_undo_108 : decode cX10_undo 108 = .ok (.getfield 78, 3) := by decide +kernel
theorem dX10_undo_111 : decode cX10_undo 111 = .ok (.ireturn, 1) := by decide +kernel
theorem dX10_undoable_0 : decode cX10_undoable 0 = .ok (.aload_n 0, 1) := by decide +kernel
theorem dX10_undoable_1 : decode cX10_undoable 1 = .ok (.iconst 0, 1) := by decide +kernel
theorem dX10_undoable_2 : decode cX10_undoable 2 = .ok (.putfield 1, 3) := by decide +kernel
theorem dX10_undoable_5 : decode cX10_undoable 5 = .ok (.aload_n 0, 1) := by decide +kernel
theorem dX10_undoable_6 : decode cX10_undoable 6 = .ok (.getfield 78, 3) := by decide +kernel
theorem dX10_undoable_9 : decode cX10_undoable 9 = .ok (.ireturn, 1) := by decide +kernel
theorem dX10_bytesIn_0 : decode cX10_bytesIn 0 = .ok (.iconst 0, 1) := by decide +kernel
theorem dX10_bytesIn_1 : decode cX10_bytesIn 1 = .ok (.istore_n 1, 1) := by decide +kernel
theorem dX10_bytesIn_2 : decode cX10_bytesIn 2 = .ok (.iconst 0, 1) := by decide +kernel
theorem dX10_bytesIn_3 : decode cX10_bytesIn 3 = .ok (.istore_n 2, 1) := by decide +kernel
theorem dX10_bytesIn_4 : decode cX10_bytesIn 4 = .ok (.iload_n 2, 1) := by decide +kernel
theorem dX10_bytesIn_5 : decode cX10_bytesIn 5 = .ok (.bipush 32, 2) := by decide +kernel
theorem dX10_bytesIn_7 : decode cX10_bytesIn 7 = .ok (.if_icmp .ge 27, 3) := by decide +kernel
theorem dX10_bytesIn_10 : decode cX10_bytesIn 10 = .ok (.iload_n 1, 1) := by decide +kernel
theorem dX10_bytesIn_11 : decode cX10_bytesIn 11 = .ok (.iload_n 0, 1) := by decide +kernel
theorem dX10_bytesIn_12 : decode cX10_bytesIn 12 = .ok (.iload_n 2, 1) := by decide +kernel
theorem dX10_bytesIn_13 : decode cX10_bytesIn 13 = .ok (.ishr, 1) := by decide +kernel
theorem dX10_bytesIn_14 : decode cX10_bytesIn 14 = .ok (.sipush 255, 3) := by decide +kernel
theorem dX10_bytesIn_17 : decode cX10_bytesIn 17 = .ok (.iand, 1) := by decide +kernel
theorem dX10_bytesIn_18 : decode cX10_bytesIn 18 = .ok (.ifCond .ne 7, 3) := by decide +kernel
theorem dX10_bytesIn_21 : decode cX10_bytesIn 21 = .ok (.iconst 0, 1) := by decide +kernel
theorem dX10_bytesIn_22 : decode cX10_bytesIn 22 = .ok (.goto 4, 3) := by decide +kernel
theorem dX10_bytesIn_25 : decode cX10_bytesIn 25 = .ok (.iconst 1, 1) := by decide +kernel
theorem dX10_bytesIn_26 : decode cX10_bytesIn 26 = .ok (.iadd, 1) := by decide +kernel
theorem dX10_bytesIn_27 : decode cX10_bytesIn 27 = .ok (.istore_n 1, 1) := by decide +kernel
theorem dX10_bytesIn_28 : decode cX10_bytesIn 28 = .ok (.iinc 2 8, 3) := by decide +kernel
theorem dX10_bytesIn_31 : decode cX10_bytesIn 31 = .ok (.goto (-27), 3) := by decide +kernel
theorem dX10_bytesIn_34 : decode cX10_bytesIn 34 = .ok (.iload_n 1, 1) := by decide +kernel
theorem dX10_bytesIn_35 : decode cX10_bytesIn 35 = .ok (.ireturn, 1) := by decide +kernel
theorem dX10_takesBytes_0 : decode cX10_takesBytes 0 = .ok (.bipush 24, 2) := by decide +kernel
theorem dX10_takesBytes_2 : decode cX10_takesBytes 2 = .ok (.istore_n 2, 1) := by decide +kernel
theorem dX10_takesBytes_3 : decode cX10_takesBytes 3 = .ok (.iload_n 2, 1) := by decide +kernel
theorem dX10_takesBytes_4 : decode cX10_takesBytes 4 = .ok (.ifCond .lt 44, 3) := by decide +kernel
theorem dX10_takesBytes_7 : decode cX10_takesBytes 7 = .ok (.iload_n 1, 1) := by decide +kernel
theorem dX10_takesBytes_8 : decode cX10_takesBytes 8 = .ok (.iload_n 2, 1) := by decide +kernel
theorem dX10_takesBytes_9 : decode cX10_takesBytes 9 = .ok (.ishr, 1) := by decide +kernel
theorem dX10_takesBytes_10 : decode cX10_takesBytes 10 = .ok (.sipush 255, 3) := by decide +kernel
theorem dX10_takesBytes_13 : decode cX10_takesBytes 13 = .ok (.iand, 1) := by decide +kernel
theorem dX10_takesBytes_14 : decode cX10_takesBytes 14 = .ok (.istore_n 3, 1) := by decide +kernel
theorem dX10_takesBytes_15 : decode cX10_takesBytes 15 = .ok (.iload_n 3, 1) := by decide +kernel
theorem dX10_takesBytes_16 : decode cX10_takesBytes 16 = .ok (.ifCond .ne 6, 3) := by decide +kernel
theorem dX10_takesBytes_19 : decode cX10_takesBytes 19 = .ok (.goto 23, 3) := by decide +kernel
theorem dX10_takesBytes_22 : decode cX10_takesBytes 22 = .ok (.aload_n 0, 1) := by decide +kernel
theorem dX10_takesBytes_23 : decode cX10_takesBytes 23 = .ok (.getfield 32, 3) := by decide +kernel
theorem dX10_takesBytes_26 : decode cX10_takesBytes 26 = .ok (.aload_n 0, 1) := by decide +kernel
theorem dX10_takesBytes_27 : decode cX10_takesBytes 27 = .ok (.getfield 147, 3) := by decide +kernel
theorem dX10_takesBytes_30 : decode cX10_takesBytes 30 = .ok (.iload_n 3, 1) := by decide +kernel
theorem dX10_takesBytes_31 : decode cX10_takesBytes 31 = .ok (.iastore, 1) := by decide +kernel
theorem dX10_takesBytes_32 : decode cX10_takesBytes 32 = .ok (.aload_n 0, 1) := by decide +kernel
theorem dX10_takesBytes_33 : decode cX10_takesBytes 33 = .ok (.dup, 1) := by decide +kernel
theorem dX10_takesBytes_34 : decode cX10_takesBytes 34 = .ok (.getfield 147, 3) := by decide +kernel
theorem dX10_takesBytes_37 : decode cX10_takesBytes 37 = .ok (.iconst 1, 1) := by decide +kernel
theorem dX10_takesBytes_38 : decode cX10_takesBytes 38 = .ok (.iadd, 1) := by decide +kernel
theorem dX10_takesBytes_39 : decode cX10_takesBytes 39 = .ok (.putfield 147, 3) := by decide +kernel
theorem dX10_takesBytes_42 : decode cX10_takesBytes 42 = .ok (.iinc 2 (-8), 3) := by decide +kernel
theorem dX10_takesBytes_45 : decode cX10_takesBytes 45 = .ok (.goto (-42), 3) := by decide +kernel
theorem dX10_takesBytes_48 : decode cX10_takesBytes 48 = .ok (.return_, 1) := by decide +kernel
theorem dX10_append_0 : decode cX10_append 0 = .ok (.aload_n 0, 1) := by decide +kernel
theorem dX10_append_1 : decode cX10_append 1 = .ok (.iconst 0, 1) := by decide +kernel
theorem dX10_append_2 : decode cX10_append 2 = .ok (.putfield 1, 3) := by decide +kernel
theorem dX10_append_5 : decode cX10_append 5 = .ok (.iload_n 1, 1) := by decide +kernel
theorem dX10_append_6 : decode cX10_append 6 = .ok (.invokestatic 150, 3) := by decide +kernel
theorem dX10_append_9 : decode cX10_append 9 = .ok (.iload_n 2, 1) := by decide +kernel
theorem dX10_append_10 : decode cX10_append 10 = .ok (.invokestatic 150, 3) := by decide +kernel
theorem dX10_append_13 : decode cX10_append 13 = .ok (.iadd, 1) := by decide +kernel
theorem dX10_append_14 : decode cX10_append 14 = .ok (.iload_n 3, 1) := by decide +kernel
theorem dX10_append_15 : decode cX10_append 15 = .ok (.invokestatic 150, 3) := by decide +kernel
theorem dX10_append_18 : decode cX10_append 18 = .ok (.iadd, 1) := by decide +kernel
theorem dX10_append_19 : decode cX10_append 19 = .ok (.iload 4, 2) := by decide +kernel
theorem dX10_append_21 : decode cX10_append 21 = .ok (.invokestatic 150, 3) := by decide +kernel
theorem dX10_append_24 : decode cX10_append 24 = .ok (.iadd, 1) := by decide +kernel
theorem dX10_append_25 : decode cX10_append 25 = .ok (.iload 5, 2) := by decide +kernel
theorem dX10_append_27 : decode cX10_append 27 = .ok (.invokestatic 150, 3) := by decide +kernel
theorem dX10_append_30 : decode cX10_append 30 = .ok (.iadd, 1) := by decide +kernel
theorem dX10_append_31 : decode cX10_append 31 = .ok (.istore 6, 2) := by decide +kernel
theorem dX10_append_33 : decode cX10_append 33 = .ok (.aload_n 0, 1) := by decide +kernel
theorem dX10_append_34 : decode cX10_append 34 = .ok (.aload_n 0, 1) := by decide +kernel
theorem dX10_append_35 : decode cX10_append 35 = .ok (.getfield 147, 3) := by decide +kernel
theorem dX10_append_38 : decode cX10_append 38 = .ok (.iload 6, 2) := by decide +kernel
theorem dX10_append_40 : decode cX10_append 40 = .ok (.iadd, 1) := by decide +kernel
theorem dX10_append_41 : decode cX10_append 41 = .ok (.sipush 300, 3) := by decide +kernel
theorem dX10_append_44 : decode cX10_append 44 = .ok (.if_icmp .gt 7, 3) := by decide +kernel
theorem dX10_append_47 : decode cX10_append 47 = .ok (.iconst 1, 1) := by decide +kernel
theorem dX10_append_48 : decode cX10_append 48 = .ok (.goto 4, 3) := by decide +kernel
theorem dX10_append_51 : decode cX10_append 51 = .ok (.iconst 0, 1) := by decide +kernel
theorem dX10_append_52 : decode cX10_append 52 = .ok (.iconst 1, 1) := by decide +kernel
theorem dX10_append_53 : decode cX10_append 53 = .ok (.invokevirtual 74, 3) := by decide +kernel
theorem dX10_append_56 : decode cX10_append 56 = .ok (.ifCond .eq 5, 3) := by decide +kernel
theorem dX10_append_59 : decode cX10_append 59 = .ok (.iconst 0, 1) := by decide +kernel
theorem dX10_append_60 : decode cX10_append 60 = .ok (.ireturn, 1) := by decide +kernel
theorem dX10_append_61 : decode cX10_append 61 = .ok (.aload_n 0, 1) := by decide +kernel
theorem dX10_append_62 : decode cX10_append 62 = .ok (.iload_n 1, 1) := by decide +kernel
theorem dX10_append_63 : decode cX10_append 63 = .ok (.invokevirtual 153, 3) := by decide +kernel
theorem dX10_append_66 : decode cX10_append 66 = .ok (.aload_n 0, 1) := by decide +kernel
theorem dX10_append_67 : decode cX10_append 67 = .ok (.iload_n 2, 1) := by decide +kernel
theorem dX10_append_68 : decode cX10_append 68 = .ok (.invokevirtual 153, 3) := by decide +kernel
theorem dX10_append_71 : decode cX10_append 71 = .ok (.aload_n 0, 1) := by decide +kernel
theorem dX10_append_72 : decode cX10_append 72 = .ok (.iload_n 3, 1) := by decide +kernel
theorem dX10_append_73 : decode cX10_append 73 = .ok (.invokevirtual 153, 3) := by decide +kernel
theorem dX10_append_76 : decode cX10_append 76 = .ok (.aload_n 0, 1) := by decide +kernel
theorem dX10_append_77 : decode cX10_append 77 = .ok (.iload 4, 2) := by decide +kernel
theorem dX10_append_79 : decode cX10_append 79 = .ok (.invokevirtual 153, 3) := by decide +kernel
theorem dX10_append_82 : decode cX10_append 82 = .ok (.aload_n 0, 1) := by decide +kernel
theorem dX10_append_83 : decode cX10_append 83 = .ok (.iload 5, 2) := by decide +kernel
theorem dX10_append_85 : decode cX10_append 85 = .ok (.invokevirtual 153, 3) := by decide +kernel
theorem dX10_append_88 : decode cX10_append 88 = .ok (.aload_n 0, 1) := by decide +kernel
theorem dX10_append_89 : decode cX10_append 89 = .ok (.getfield 147, 3) := by decide +kernel
theorem dX10_append_92 : decode cX10_append 92 = .ok (.ireturn, 1) := by decide +kernel
theorem dX10_clearTape_0 : decode cX10_clearTape 0 = .ok (.aload_n 0, 1) := by decide +kernel
theorem dX10_clearTape_1 : decode cX10_clearTape 1 = .ok (.iconst 0, 1) := by decide +kernel
theorem dX10_clearTape_2 : decode cX10_clearTape 2 = .ok (.putfield 1, 3) := by decide +kernel
theorem dX10_clearTape_5 : decode cX10_clearTape 5 = .ok (.aload_n 0, 1) := by decide +kernel
theorem dX10_clearTape_6 : decode cX10_clearTape 6 = .ok (.getfield 147, 3) := by decide +kernel
theorem dX10_clearTape_9 : decode cX10_clearTape 9 = .ok (.istore_n 1, 1) := by decide +kernel
theorem dX10_clearTape_10 : decode cX10_clearTape 10 = .ok (.aload_n 0, 1) := by decide +kernel
theorem dX10_clearTape_11 : decode cX10_clearTape 11 = .ok (.iconst 0, 1) := by decide +kernel
theorem dX10_clearTape_12 : decode cX10_clearTape 12 = .ok (.putfield 147, 3) := by decide +kernel
theorem dX10_clearTape_15 : decode cX10_clearTape 15 = .ok (.iload_n 1, 1) := by decide +kernel
theorem dX10_clearTape_16 : decode cX10_clearTape 16 = .ok (.ireturn, 1) := by decide +kernel
theorem dX10_isLetter_0 : decode cX10_isLetter 0 = .ok (.iload_n 0, 1) := by decide +kernel
theorem dX10_isLetter_1 : decode cX10_isLetter 1 = .ok (.bipush 97, 2) := by decide +kernel
theorem dX10_isLetter_3 : decode cX10_isLetter 3 = .ok (.bipush 122, 2) := by decide +kernel
theorem dX10_isLetter_5 : decode cX10_isLetter 5 = .ok (.invokestatic 66, 3) := by decide +kernel
theorem dX10_isLetter_8 : decode cX10_isLetter 8 = .ok (.ireturn, 1) := by decide +kernel
theorem dX10_isDigit_0 : decode cX10_isDigit 0 = .ok (.iload_n 0, 1) := by decide +kernel
theorem dX10_isDigit_1 : decode cX10_isDigit 1 = .ok (.bipush 48, 2) := by decide +kernel
theorem dX10_isDigit_3 : decode cX10_isDigit 3 = .ok (.bipush 57, 2) := by decide +kernel
theorem dX10_isDigit_5 : decode cX10_isDigit 5 = .ok (.invokestatic 66, 3) := by decide +kernel
theorem dX10_isDigit_8 : decode cX10_isDigit 8 = .ok (.ireturn, 1) := by decide +kernel
theorem dX10_isBlank_0 : decode cX10_isBlank 0 = .ok (.iload_n 0, 1) := by decide +kernel
theorem dX10_isBlank_1 : decode cX10_isBlank 1 = .ok (.bipush 32, 2) := by decide +kernel
theorem dX10_isBlank_3 : decode cX10_isBlank 3 = .ok (.if_icmp .eq 9, 3) := by decide +kernel
theorem dX10_isBlank_6 : decode cX10_isBlank 6 = .ok (.iload_n 0, 1) := by decide +kernel
theorem dX10_isBlank_7 : decode cX10_isBlank 7 = .ok (.bipush 10, 2) := by decide +kernel
theorem dX10_isBlank_9 : decode cX10_isBlank 9 = .ok (.if_icmp .ne 7, 3) := by decide +kernel
theorem dX10_isBlank_12 : decode cX10_isBlank 12 = .ok (.iconst 1, 1) := by decide +kernel
theorem dX10_isBlank_13 : decode cX10_isBlank 13 = .ok (.goto 4, 3) := by decide +kernel
theorem dX10_isBlank_16 : decode cX10_isBlank 16 = .ok (.iconst 0, 1) := by decide +kernel
theorem dX10_isBlank_17 : decode cX10_isBlank 17 = .ok (.ireturn, 1) := by decide +kernel
theorem dX10_isSign_0 : decode cX10_isSign 0 = .ok (.iload_n 0, 1) := by decide +kernel
theorem dX10_isSign_1 : decode cX10_isSign 1 = .ok (.bipush 46, 2) := by decide +kernel
theorem dX10_isSign_3 : decode cX10_isSign 3 = .ok (.if_icmp .eq 69, 3) := by decide +kernel
theorem dX10_isSign_6 : decode cX10_isSign 6 = .ok (.iload_n 0, 1) := by decide +kernel
theorem dX10_isSign_7 : decode cX10_isSign 7 = .ok (.bipush 44, 2) := by decide +kernel
theorem dX10_isSign_9 : decode cX10_isSign 9 = .ok (.if_icmp .eq 63, 3) := by decide +kernel
theorem dX10_isSign_12 : decode cX10_isSign 12 = .ok (.iload_n 0, 1) := by decide +kernel
theorem dX10_isSign_13 : decode cX10_isSign 13 = .ok (.bipush 45, 2) := by decide +kernel
theorem dX10_isSign_15 : decode cX10_isSign 15 = .ok (.if_icmp .eq 57, 3) := by decide +kernel
theorem dX10_isSign_18 : decode cX10_isSign 18 = .ok (.iload_n 0, 1) := by decide +kernel
theorem dX10_isSign_19 : decode cX10_isSign 19 = .ok (.bipush 37, 2) := by decide +kernel
theorem dX10_isSign_21 : decode cX10_isSign 21 = .ok (.if_icmp .eq 51, 3) := by decide +kernel
theorem dX10_isSign_24 : decode cX10_isSign 24 = .ok (.iload_n 0, 1) := by decide +kernel
theorem dX10_isSign_25 : decode cX10_isSign 25 = .ok (.bipush 43, 2) := by decide +kernel
theorem dX10_isSign_27 : decode cX10_isSign 27 = .ok (.if_icmp .eq 45, 3) := by decide +kernel
theorem dX10_isSign_30 : decode cX10_isSign 30 = .ok (.iload_n 0, 1) := by decide +kernel
theorem dX10_isSign_31 : decode cX10_isSign 31 = .ok (.bipush 61, 2) := by decide +kernel
theorem dX10_isSign_33 : decode cX10_isSign 33 = .ok (.if_icmp .eq 39, 3) := by decide +kernel
theorem dX10_isSign_36 : decode cX10_isSign 36 = .ok (.iload_n 0, 1) := by decide +kernel
theorem dX10_isSign_37 : decode cX10_isSign 37 = .ok (.bipush 62, 2) := by decide +kernel
theorem dX10_isSign_39 : decode cX10_isSign 39 = .ok (.if_icmp .eq 33, 3) := by decide +kernel
theorem dX10_isSign_42 : decode cX10_isSign 42 = .ok (.iload_n 0, 1) := by decide +kernel
theorem dX10_isSign_43 : decode cX10_isSign 43 = .ok (.bipush 60, 2) := by decide +kernel
theorem dX10_isSign_45 : decode cX10_isSign 45 = .ok (.if_icmp .eq 27, 3) := by decide +kernel
theorem dX10_isSign_48 : decode cX10_isSign 48 = .ok (.iload_n 0, 1) := by decide +kernel
theorem dX10_isSign_49 : decode cX10_isSign 49 = .ok (.bipush 64, 2) := by decide +kernel
theorem dX10_isSign_51 : decode cX10_isSign 51 = .ok (.if_icmp .eq 21, 3) := by decide +kernel
theorem dX10_isSign_54 : decode cX10_isSign 54 = .ok (.iload_n 0, 1) := by decide +kernel
theorem dX10_isSign_55 : decode cX10_isSign 55 = .ok (.bipush 42, 2) := by decide +kernel
theorem dX10_isSign_57 : decode cX10_isSign 57 = .ok (.if_icmp .eq 15, 3) := by decide +kernel
theorem dX10_isSign_60 : decode cX10_isSign 60 = .ok (.iload_n 0, 1) := by decide +kernel
theorem dX10_isSign_61 : decode cX10_isSign 61 = .ok (.bipush 123, 2) := by decide +kernel
theorem dX10_isSign_63 : decode cX10_isSign 63 = .ok (.if_icmp .eq 9, 3) := by decide +kernel
theorem dX10_isSign_66 : decode cX10_isSign 66 = .ok (.iload_n 0, 1) := by decide +kernel
theorem dX10_isSign_67 : decode cX10_isSign 67 = .ok (.bipush 125, 2) := by decide +kernel
theorem dX10_isSign_69 : decode cX10_isSign 69 = .ok (.if_icmp .ne 7, 3) := by decide +kernel
theorem dX10_isSign_72 : decode cX10_isSign 72 = .ok (.iconst 1, 1) := by decide +kernel
theorem dX10_isSign_73 : decode cX10_isSign 73 = .ok (.goto 4, 3) := by decide +kernel
theorem dX10_isSign_76 : decode cX10_isSign 76 = .ok (.iconst 0, 1) := by decide +kernel
theorem dX10_isSign_77 : decode cX10_isSign 77 = .ok (.ireturn, 1) := by decide +kernel
theorem dX10_readsWord_0 : decode cX10_readsWord 0 = .ok (.aload_n 0, 1) := by decide +kernel
theorem dX10_readsWord_1 : decode cX10_readsWord 1 = .ok (.iconst 0, 1) := by decide +kernel
theorem dX10_readsWord_2 : decode cX10_readsWord 2 = .ok (.putfield 156, 3) := by decide +kernel
theorem dX10_readsWord_5 : decode cX10_readsWord 5 = .ok (.iconst 0, 1) := by decide +kernel
theorem dX10_readsWord_6 : decode cX10_readsWord 6 = .ok (.istore_n 1, 1) := by decide +kernel
theorem dX10_readsWord_7 : decode cX10_readsWord 7 = .ok (.aload_n 0, 1) := by decide +kernel
theorem dX10_readsWord_8 : decode cX10_readsWord 8 = .ok (.getfield 159, 3) := by decide +kernel
theorem dX10_readsWord_11 : decode cX10_readsWord 11 = .ok (.aload_n 0, 1) := by decide +kernel
theorem dX10_readsWord_12 : decode cX10_readsWord 12 = .ok (.getfield 147, 3) := by decide +kernel
theorem dX10_readsWord_15 : decode cX10_readsWord 15 = .ok (.if_icmp .ge 66, 3) := by decide +kernel
theorem dX10_readsWord_18 : decode cX10_readsWord 18 = .ok (.aload_n 0, 1) := by decide +kernel
theorem dX10_readsWord_19 : decode cX10_readsWord 19 = .ok (.getfield 32, 3) := by decide +kernel
theorem dX10_readsWord_22 : decode cX10_readsWord 22 = .ok (.aload_n 0, 1) := by decide +kernel
theorem dX10_readsWord_23 : decode cX10_readsWord 23 = .ok (.getfield 159, 3) := by decide +kernel
theorem dX10_readsWord_26 : decode cX10_readsWord 26 = .ok (.iaload, 1) := by decide +kernel
theorem dX10_readsWord_27 : decode cX10_readsWord 27 = .ok (.invokestatic 162, 3) := by decide +kernel
theorem dX10_readsWord_30 : decode cX10_readsWord 30 = .ok (.ifCond .eq 51, 3) := by decide +kernel
theorem dX10_readsWord_33 : decode cX10_readsWord 33 = .ok (.iload_n 1, 1) := by decide +kernel
theorem dX10_readsWord_34 : decode cX10_readsWord 34 = .ok (.bipush 6, 2) := by decide +kernel
theorem dX10_readsWord_36 : decode cX10_readsWord 36 = .ok (.if_icmp .ge 29, 3) := by decide +kernel
theorem dX10_readsWord_39 : decode cX10_readsWord 39 = .ok (.aload_n 0, 1) := by decide +kernel
theorem dX10_readsWord_40 : decode cX10_readsWord 40 = .ok (.bipush 27, 2) := by decide +kernel
theorem dX10_readsWord_42 : decode cX10_readsWord 42 = .ok (.aload_n 0, 1) := by decide +kernel
theorem dX10_readsWord_43 : decode cX10_readsWord 43 = .ok (.getfield 156, 3) := by decide +kernel
theorem dX10_readsWord_46 : decode cX10_readsWord 46 = .ok (.imul, 1) := by decide +kernel
theorem dX10_readsWord_47 : decode cX10_readsWord 47 = .ok (.aload_n 0, 1) := by decide +kernel
theorem dX10_readsWord_48 : decode cX10_readsWord 48 = .ok (.getfield 32, 3) := by decide +kernel
theorem dX10_readsWord_51 : decode cX10_readsWord 51 = .ok (.aload_n 0, 1) := by decide +kernel
theorem dX10_readsWord_52 : decode cX10_readsWord 52 = .ok (.getfield 159, 3) := by decide +kernel
theorem dX10_readsWord_55 : decode cX10_readsWord 55 = .ok (.iaload, 1) := by decide +kernel
theorem dX10_readsWord_56 : decode cX10_readsWord 56 = .ok (.iadd, 1) := by decide +kernel
theorem dX10_readsWord_57 : decode cX10_readsWord 57 = .ok (.bipush 97, 2) := by decide +kernel
theorem dX10_readsWord_59 : decode cX10_readsWord 59 = .ok (.isub, 1) := by decide +kernel
theorem dX10_readsWord_60 : decode cX10_readsWord 60 = .ok (.iconst 1, 1) := by decide +kernel
theorem dX10_readsWord_61 : decode cX10_readsWord 61 = .ok (.iadd, 1) := by decide +kernel
theorem dX10_readsWord_62 : decode cX10_readsWord 62 = .ok (.putfield 156, 3) := by decide +kernel
theorem dX10_readsWord_65 : decode cX10_readsWord 65 = .ok (.iinc 1 1, 3) := by decide +kernel
theorem dX10_readsWord_68 : decode cX10_readsWord 68 = .ok (.aload_n 0, 1) := by decide +kernel
theorem dX10_readsWord_69 : decode cX10_readsWord 69 = .ok (.dup, 1) := by decide +kernel
theorem dX10_readsWord_70 : decode cX10_readsWord 70 = .ok (.getfield 159, 3) := by decide +kernel
theorem dX10_readsWord_73 : decode cX10_readsWord 73 = .ok (.iconst 1, 1) := by decide +kernel
theorem dX10_readsWord_74 : decode cX10_readsWord 74 = .ok (.iadd, 1) := by decide +kernel
theorem dX10_readsWord_75 : decode cX10_readsWord 75 = .ok (.putfield 159, 3) := by decide +kernel
theorem dX10_readsWord_78 : decode cX10_readsWord 78 = .ok (.goto (-71), 3) := by decide +kernel
theorem dX10_readsWord_81 : decode cX10_readsWord 81 = .ok (.aload_n 0, 1) := by decide +kernel
theorem dX10_readsWord_82 : decode cX10_readsWord 82 = .ok (.iload_n 1, 1) := by decide +kernel
theorem dX10_readsWord_83 : decode cX10_readsWord 83 = .ok (.bipush 6, 2) := by decide +kernel
theorem dX10_readsWord_85 : decode cX10_readsWord 85 = .ok (.if_icmp .gt 7, 3) := by decide +kernel
theorem dX10_readsWord_88 : decode cX10_readsWord 88 = .ok (.iconst 3, 1) := by decide +kernel
theorem dX10_readsWord_89 : decode cX10_readsWord 89 = .ok (.goto 4, 3) := by decide +kernel
theorem dX10_readsWord_92 : decode cX10_readsWord 92 = .ok (.iconst 4, 1) := by decide +kernel
theorem dX10_readsWord_93 : decode cX10_readsWord 93 = .ok (.putfield 165, 3) := by decide +kernel
theorem dX10_readsWord_96 : decode cX10_readsWord 96 = .ok (.return_, 1) := by decide +kernel
theorem dX10_readsNumber_0 : decode cX10_readsNumber 0 = .ok (.aload_n 0, 1) := by decide +kernel
theorem dX10_readsNumber_1 : decode cX10_readsNumber 1 = .ok (.iconst 0, 1) := by decide +kernel
theorem dX10_readsNumber_2 : decode cX10_readsNumber 2 = .ok (.putfield 156, 3) := by decide +kernel
theorem dX10_readsNumber_5 : decode cX10_readsNumber 5 = .ok (.iconst 0, 1) := by decide +kernel
theorem dX10_readsNumber_6 : decode cX10_readsNumber 6 = .ok (.istore_n 1, 1) := by decide +kernel
theorem dX10_readsNumber_7 : decode cX10_readsNumber 7 = .ok (.aload_n 0, 1) := by decide +kernel
theorem dX10_readsNumber_8 : decode cX10_readsNumber 8 = .ok (.getfield 159, 3) := by decide +kernel
theorem dX10_readsNumber_11 : decode cX10_readsNumber 11 = .ok (.aload_n 0, 1) := by decide +kernel
theorem dX10_readsNumber_12 : decode cX10_readsNumber 12 = .ok (.getfield 147, 3) := by decide +kernel
theorem dX10_readsNumber_15 : decode cX10_readsNumber 15 = .ok (.if_icmp .ge 63, 3) := by decide +kernel
theorem dX10_readsNumber_18 : decode cX10_readsNumber 18 = .ok (.aload_n 0, 1) := by decide +kernel
theorem dX10_readsNumber_19 : decode cX10_readsNumber 19 = .ok (.getfield 32, 3) := by decide +kernel
theorem dX10_readsNumber_22 : decode cX10_readsNumber 22 = .ok (.aload_n 0, 1) := by decide +kernel
theorem dX10_readsNumber_23 : decode cX10_readsNumber 23 = .ok (.getfield 159, 3) := by decide +kernel
theorem dX10_readsNumber_26 : decode cX10_readsNumber 26 = .ok (.iaload, 1) := by decide +kernel
theorem dX10_readsNumber_27 : decode cX10_readsNumber 27 = .ok (.invokestatic 168, 3) := by decide +kernel
theorem dX10_readsNumber_30 : decode cX10_readsNumber 30 = .ok (.ifCond .eq 48, 3) := by decide +kernel
theorem dX10_readsNumber_33 : decode cX10_readsNumber 33 = .ok (.iload_n 1, 1) := by decide +kernel
theorem dX10_readsNumber_34 : decode cX10_readsNumber 34 = .ok (.iconst 3, 1) := by decide +kernel
theorem dX10_readsNumber_35 : decode cX10_readsNumber 35 = .ok (.if_icmp .ge 27, 3) := by decide +kernel
theorem dX10_readsNumber_38 : decode cX10_readsNumber 38 = .ok (.aload_n 0, 1) := by decide +kernel
theorem dX10_readsNumber_39 : decode cX10_readsNumber 39 = .ok (.bipush 10, 2) := by decide +kernel
theorem dX10_readsNumber_41 : decode cX10_readsNumber 41 = .ok (.aload_n 0, 1) := by decide +kernel
theorem dX10_readsNumber_42 : decode cX10_readsNumber 42 = .ok (.getfield 156, 3) := by decide +kernel
theorem dX10_readsNumber_45 : decode cX10_readsNumber 45 = .ok (.imul, 1) := by decide +kernel
theorem dX10_readsNumber_46 : decode cX10_readsNumber 46 = .ok (.aload_n 0, 1) := by decide +kernel
theorem dX10_readsNumber_47 : decode cX10_readsNumber 47 = .ok (.getfield 32, 3) := by decide +kernel
theorem dX10_readsNumber_50 : decode cX10_readsNumber 50 = .ok (.aload_n 0, 1) := by decide +kernel
theorem dX10_readsNumber_51 : decode cX10_readsNumber 51 = .ok (.getfield 159, 3) := by decide +kernel
theorem dX10_readsNumber_54 : decode cX10_readsNumber 54 = .ok (.iaload, 1) := by decide +kernel
theorem dX10_readsNumber_55 : decode cX10_readsNumber 55 = .ok (.iadd, 1) := by decide +kernel
theorem dX10_readsNumber_56 : decode cX10_readsNumber 56 = .ok (.bipush 48, 2) := by decide +kernel
theorem dX10_readsNumber_58 : decode cX10_readsNumber 58 = .ok (.isub, 1) := by decide +kernel
theorem dX10_readsNumber_59 : decode cX10_readsNumber 59 = .ok (.putfield 156, 3) := by decide +kernel
theorem dX10_readsNumber_62 : decode cX10_readsNumber 62 = .ok (.iinc 1 1, 3) := by decide +kernel
theorem dX10_readsNumber_65 : decode cX10_readsNumber 65 = .ok (.aload_n 0, 1) := by decide +kernel
theorem dX10_readsNumber_66 : decode cX10_readsNumber 66 = .ok (.dup, 1) := by decide +kernel
theorem dX10_readsNumber_67 : decode cX10_readsNumber 67 = .ok (.getfield 159, 3) := by decide +kernel
theorem dX10_readsNumber_70 : decode cX10_readsNumber 70 = .ok (.iconst 1, 1) := by decide +kernel
theorem dX10_readsNumber_71 : decode cX10_readsNumber 71 = .ok (.iadd, 1) := by decide +kernel
theorem dX10_readsNumber_72 : decode cX10_readsNumber 72 = .ok (.putfield 159, 3) := by decide +kernel
theorem dX10_readsNumber_75 : decode cX10_readsNumber 75 = .ok (.goto (-68), 3) := by decide +kernel
theorem dX10_readsNumber_78 : decode cX10_readsNumber 78 = .ok (.aload_n 0, 1) := by decide +kernel
theorem dX10_readsNumber_79 : decode cX10_readsNumber 79 = .ok (.iload_n 1, 1) := by decide +kernel
theorem dX10_readsNumber_80 : decode cX10_readsNumber 80 = .ok (.iconst 3, 1) := by decide +kernel
theorem dX10_readsNumber_81 : decode cX10_readsNumber 81 = .ok (.if_icmp .gt 7, 3) := by decide +kernel
theorem dX10_readsNumber_84 : decode cX10_readsNumber 84 = .ok (.iconst 2, 1) := by decide +kernel
theorem dX10_readsNumber_85 : decode cX10_readsNumber 85 = .ok (.goto 4, 3) := by decide +kernel
theorem dX10_readsNumber_88 : decode cX10_readsNumber 88 = .ok (.iconst 4, 1) := by decide +kernel
theorem dX10_readsNumber_89 : decode cX10_readsNumber 89 = .ok (.putfield 165, 3) := by decide +kernel
theorem dX10_readsNumber_92 : decode cX10_readsNumber 92 = .ok (.return_, 1) := by decide +kernel
theorem dX10_reads_0 : decode cX10_reads 0 = .ok (.aload_n 0, 1) := by decide +kernel
theorem dX10_reads_1 : decode cX10_reads 1 = .ok (.getfield 159, 3) := by decide +kernel
theorem dX10_reads_4 : decode cX10_reads 4 = .ok (.aload_n 0, 1) := by decide +kernel
theorem dX10_reads_5 : decode cX10_reads 5 = .ok (.getfield 147, 3) := by decide +kernel
theorem dX10_reads_8 : decode cX10_reads 8 = .ok (.if_icmp .ge 31, 3) := by decide +kernel
theorem dX10_reads_11 : decode cX10_reads 11 = .ok (.aload_n 0, 1) := by decide +kernel
theorem dX10_reads_12 : decode cX10_reads 12 = .ok (.getfield 32, 3) := by decide +kernel
theorem dX10_reads_15 : decode cX10_reads 15 = .ok (.aload_n 0, 1) := by decide +kernel
theorem dX10_reads_16 : decode cX10_reads 16 = .ok (.getfield 159, 3) := by decide +kernel
theorem dX10_reads_19 : decode cX10_reads 19 = .ok (.iaload, 1) := by decide +kernel
theorem dX10_reads_20 : decode cX10_reads 20 = .ok (.invokestatic 171, 3) := by decide +kernel
theorem dX10_reads_23 : decode cX10_reads 23 = .ok (.ifCond .eq 16, 3) := by decide +kernel
theorem dX10_reads_26 : decode cX10_reads 26 = .ok (.aload_n 0, 1) := by decide +kernel
theorem dX10_reads_27 : decode cX10_reads 27 = .ok (.dup, 1) := by decide +kernel
theorem dX10_reads_28 : decode cX10_reads 28 = .ok (.getfield 159, 3) := by decide +kernel
theorem dX10_reads_31 : decode cX10_reads 31 = .ok (.iconst 1, 1) := by decide +kernel
theorem dX10_reads_32 : decode cX10_reads 32 = .ok (.iadd, 1) := by decide +kernel
theorem dX10_reads_33 : decode cX10_reads 33 = .ok (.putfield 159, 3) := by decide +kernel
theorem dX10_reads_36 : decode cX10_reads 36 = .ok (.goto (-36), 3) := by decide +kernel
theorem dX10_reads_39 : decode cX10_reads 39 = .ok (.aload_n 0, 1) := by decide +kernel
theorem dX10_reads_40 : decode cX10_reads 40 = .ok (.aload_n 0, 1) := by decide +kernel
theorem dX10_reads_41 : decode cX10_reads 41 = .ok (.getfield 159, 3) := by decide +kernel
theorem dX10_reads_44 : decode cX10_reads 44 = .ok (.putfield 174, 3) := by decide +kernel
theorem dX10_reads_47 : decode cX10_reads 47 = .ok (.aload_n 0, 1) := by decide +kernel
theorem dX10_reads_48 : decode cX10_reads 48 = .ok (.iconst 0, 1) := by decide +kernel
theorem dX10_reads_49 : decode cX10_reads 49 = .ok (.putfield 165, 3) := by decide +kernel
theorem dX10_reads_52 : decode cX10_reads 52 = .ok (.aload_n 0, 1) := by decide +kernel
theorem dX10_reads_53 : decode cX10_reads 53 = .ok (.getfield 159, 3) := by decide +kernel
theorem dX10_reads_56 : decode cX10_reads 56 = .ok (.aload_n 0, 1) := by decide +kernel
theorem dX10_reads_57 : decode cX10_reads 57 = .ok (.getfield 147, 3) := by decide +kernel
theorem dX10_reads_60 : decode cX10_reads 60 = .ok (.if_icmp .ne 4, 3) := by decide +kernel
theorem dX10_reads_63 : decode cX10_reads 63 = .ok (.return_, 1) := by decide +kernel
theorem dX10_reads_64 : decode cX10_reads 64 = .ok (.aload_n 0, 1) := by decide +kernel
theorem dX10_reads_65 : decode cX10_reads 65 = .ok (.getfield 32, 3) := by decide +kernel
theorem dX10_reads_68 : decode cX10_reads 68 = .ok (.aload_n 0, 1) := by decide +kernel
theorem dX10_reads_69 : decode cX10_reads 69 = .ok (.getfield 159, 3) := by decide +kernel
theorem dX10_reads_72 : decode cX10_reads 72 = .ok (.iaload, 1) := by decide +kernel
theorem dX10_reads_73 : decode cX10_reads 73 = .ok (.invokestatic 162, 3) := by decide +kernel
theorem dX10_reads_76 : decode cX10_reads 76 = .ok (.ifCond .eq 10, 3) := by decide +kernel
theorem dX10_reads_79 : decode cX10_reads 79 = .ok (.aload_n 0, 1) := by decide +kernel
theorem dX10_reads_80 : decode cX10_reads 80 = .ok (.invokevirtual 177, 3) := by decide +kernel
theorem dX10_reads_83 : decode cX10_reads 83 = .ok (.goto 67, 3) := by decide +kernel
theorem dX10_reads_86 : decode cX10_reads 86 = .ok (.aload_n 0, 1) := by decide +kernel
theorem dX10_reads_87 : decode cX10_reads 87 = .ok (.getfield 32, 3) := by decide +kernel
theorem dX10_reads_90 : decode cX10_reads 90 = .ok (.aload_n 0, 1) := by decide +kernel
theorem dX10_reads_91 : decode cX10_reads 91 = .ok (.getfield 159, 3) := by decide +kernel
theorem dX10_reads_94 : decode cX10_reads 94 = .ok (.iaload, 1) := by decide +kernel
theorem dX10_reads_95 : decode cX10_reads 95 = .ok (.invokestatic 168, 3) := by decide +kernel
theorem dX10_reads_98 : decode cX10_reads 98 = .ok (.ifCond .eq 10, 3) := by decide +kernel
theorem dX10_reads_101 : decode cX10_reads 101 = .ok (.aload_n 0, 1) := by decide +kernel
theorem dX10_reads_102 : decode cX10_reads 102 = .ok (.invokevirtual 180, 3) := by decide +kernel
theorem dX10_reads_105 : decode cX10_reads 105 = .ok (.goto 45, 3) := by decide +kernel
theorem dX10_reads_108 : decode cX10_reads 108 = .ok (.aload_n 0, 1) := by decide +kernel
theorem dX10_reads_109 : decode cX10_reads 109 = .ok (.aload_n 0, 1) := by decide +kernel
theorem dX10_reads_110 : decode cX10_reads 110 = .ok (.getfield 32, 3) := by decide +kernel
theorem dX10_reads_113 : decode cX10_reads 113 = .ok (.aload_n 0, 1) := by decide +kernel
theorem dX10_reads_114 : decode cX10_reads 114 = .ok (.getfield 159, 3) := by decide +kernel
theorem dX10_reads_117 : decode cX10_reads 117 = .ok (.iaload, 1) := by decide +kernel
theorem dX10_reads_118 : decode cX10_reads 118 = .ok (.putfield 156, 3) := by decide +kernel
theorem dX10_reads_121 : decode cX10_reads 121 = .ok (.aload_n 0, 1) := by decide +kernel
theorem dX10_reads_122 : decode cX10_reads 122 = .ok (.aload_n 0, 1) := by decide +kernel
theorem dX10_reads_123 : decode cX10_reads 123 = .ok (.getfield 156, 3) := by decide +kernel
theorem dX10_reads_126 : decode cX10_reads 126 = .ok (.invokestatic 183, 3) := by decide +kernel
theorem dX10_reads_129 : decode cX10_reads 129 = .ok (.ifCond .eq 7, 3) := by decide +kernel
theorem dX10_reads_132 : decode cX10_reads 132 = .ok (.iconst 1, 1) := by decide +kernel
theorem dX10_reads_133 : decode cX10_reads 133 = .ok (.goto 4, 3) := by decide +kernel
theorem dX10_reads_136 : decode cX10_reads 136 = .ok (.iconst 4, 1) := by decide +kernel
theorem dX10_reads_137 : decode cX10_reads 137 = .ok (.putfield 165, 3) := by decide +kernel
theorem dX10_reads_140 : decode cX10_reads 140 = .ok (.aload_n 0, 1) := by decide +kernel
theorem dX10_reads_141 : decode cX10_reads 141 = .ok (.dup, 1) := by decide +kernel
theorem dX10_reads_142 : decode cX10_reads 142 = .ok (.getfield 159, 3) := by decide +kernel
theorem dX10_reads_145 : decode cX10_reads 145 = .ok (.iconst 1, 1) := by decide +kernel
theorem dX10_reads_146 : decode cX10_reads 146 = .ok (.iadd, 1) := by decide +kernel
theorem dX10_reads_147 : decode cX10_reads 147 = .ok (.putfield 159, 3) := by decide +kernel
theorem dX10_reads_150 : decode cX10_reads 150 = .ok (.return_, 1) := by decide +kernel
theorem dX10_isSignNow_0 : decode cX10_isSignNow 0 = .ok (.aload_n 0, 1) := by decide +kernel
theorem dX10_isSignNow_1 : decode cX10_isSignNow 1 = .ok (.getfield 165, 3) := by decide +kernel
theorem dX10_isSignNow_4 : decode cX10_isSignNow 4 = .ok (.iconst 1, 1) := by decide +kernel
theorem dX10_isSignNow_5 : decode cX10_isSignNow 5 = .ok (.if_icmp .ne 15, 3) := by decide +kernel
theorem dX10_isSignNow_8 : decode cX10_isSignNow 8 = .ok (.aload_n 0, 1) := by decide +kernel
theorem dX10_isSignNow_9 : decode cX10_isSignNow 9 = .ok (.getfield 156, 3) := by decide +kernel
theorem dX10_isSignNow_12 : decode cX10_isSignNow 12 = .ok (.iload_n 1, 1) := by decide +kernel
theorem dX10_isSignNow_13 : decode cX10_isSignNow 13 = .ok (.if_icmp .ne 7, 3) := by decide +kernel
theorem dX10_isSignNow_16 : decode cX10_isSignNow 16 = .ok (.iconst 1, 1) := by decide +kernel
theorem dX10_isSignNow_17 : decode cX10_isSignNow 17 = .ok (.goto 4, 3) := by decide +kernel
theorem dX10_isSignNow_20 : decode cX10_isSignNow 20 = .ok (.iconst 0, 1) := by decide +kernel
theorem dX10_isSignNow_21 : decode cX10_isSignNow 21 = .ok (.ireturn, 1) := by decide +kernel
theorem dX10_fill_0 : decode cX10_fill 0 = .ok (.aload_n 0, 1) := by decide +kernel
theorem dX10_fill_1 : decode cX10_fill 1 = .ok (.iconst 0, 1) := by decide +kernel
theorem dX10_fill_2 : decode cX10_fill 2 = .ok (.putfield 1, 3) := by decide +kernel
theorem dX10_fill_5 : decode cX10_fill 5 = .ok (.aload_n 0, 1) := by decide +kernel
theorem dX10_fill_6 : decode cX10_fill 6 = .ok (.iconst 0, 1) := by decide +kernel
theorem dX10_fill_7 : decode cX10_fill 7 = .ok (.putfield 159, 3) := by decide +kernel
theorem dX10_fill_10 : decode cX10_fill 10 = .ok (.iconst 0, 1) := by decide +kernel
theorem dX10_fill_11 : decode cX10_fill 11 = .ok (.istore_n 1, 1) := by decide +kernel
theorem dX10_fill_12 : decode cX10_fill 12 = .ok (.aload_n 0, 1) := by decide +kernel
theorem dX10_fill_13 : decode cX10_fill 13 = .ok (.iconst (-1), 1) := by decide +kernel
theorem dX10_fill_14 : decode cX10_fill 14 = .ok (.putfield 35, 3) := by decide +kernel
theorem dX10_fill_17 : decode cX10_fill 17 = .ok (.aload_n 0, 1) := by decide +kernel
theorem dX10_fill_18 : decode cX10_fill 18 = .ok (.invokevirtual 186, 3) := by decide +kernel
theorem dX10_fill_21 : decode cX10_fill 21 = .ok (.aload_n 0, 1) := by decide +kernel
theorem dX10_fill_22 : decode cX10_fill 22 = .ok (.getfield 165, 3) := by decide +kernel
theorem dX10_fill_25 : decode cX10_fill 25 = .ok (.iconst 3, 1) := by decide +kernel
theorem dX10_fill_26 : decode cX10_fill 26 = .ok (.if_icmp .ne 29, 3) := by decide +kernel
theorem dX10_fill_29 : decode cX10_fill 29 = .ok (.iload_n 1, 1) := by decide +kernel
theorem dX10_fill_30 : decode cX10_fill 30 = .ok (.bipush 100, 2) := by decide +kernel
theorem dX10_fill_32 : decode cX10_fill 32 = .ok (.if_icmp .ge 23, 3) := by decide +kernel
theorem dX10_fill_35 : decode cX10_fill 35 = .ok (.aload_n 0, 1) := by decide +kernel
theorem dX10_fill_36 : decode cX10_fill 36 = .ok (.getfield 38, 3) := by decide +kernel
theorem dX10_fill_39 : decode cX10_fill 39 = .ok (.iload_n 1, 1) := by decide +kernel
theorem dX10_fill_40 : decode cX10_fill 40 = .ok (.aload_n 0, 1) := by decide +kernel
theorem dX10_fill_41 : decode cX10_fill 41 = .ok (.getfield 156, 3) := by decide +kernel
theorem dX10_fill_44 : decode cX10_fill 44 = .ok (.iastore, 1) := by decide +kernel
theorem dX10_fill_45 : decode cX10_fill 45 = .ok (.iinc 1 1, 3) := by decide +kernel
theorem dX10_fill_48 : decode cX10_fill 48 = .ok (.aload_n 0, 1) := by decide +kernel
theorem dX10_fill_49 : decode cX10_fill 49 = .ok (.invokevirtual 186, 3) := by decide +kernel
theorem dX10_fill_52 : decode cX10_fill 52 = .ok (.goto (-31), 3) := by decide +kernel
theorem dX10_fill_55 : decode cX10_fill 55 = .ok (.aload_n 0, 1) := by decide +kernel
theorem dX10_fill_56 : decode cX10_fill 56 = .ok (.getfield 165, 3) := by decide +kernel
theorem dX10_fill_59 : decode cX10_fill 59 = .ok (.ifCond .eq 11, 3) := by decide +kernel
theorem dX10_fill_62 : decode cX10_fill 62 = .ok (.aload_n 0, 1) := by decide +kernel
theorem dX10_fill_63 : decode cX10_fill 63 = .ok (.aload_n 0, 1) := by decide +kernel
theorem dX10_fill_64 : decode cX10_fill 64 = .ok (.getfield 174, 3) := by decide +kernel
theorem dX10_fill_67 : decode cX10_fill 67 = .ok (.putfield 35, 3) := by decide +kernel
theorem dX10_fill_70 : decode cX10_fill 70 = .ok (.aload_n 0, 1) := by decide +kernel
theorem dX10_fill_71 : decode cX10_fill 71 = .ok (.iconst 0, 1) := by decide +kernel
theorem dX10_fill_72 : decode cX10_fill 72 = .ok (.putfield 147, 3) := by decide +kernel
theorem dX10_fill_75 : decode cX10_fill 75 = .ok (.aload_n 0, 1) := by decide +kernel
theorem dX10_fill_76 : decode cX10_fill 76 = .ok (.aload_n 0, 1) := by decide +kernel
theorem dX10_fill_77 : decode cX10_fill 77 = .ok (.getfield 35, 3) := by decide +kernel
theorem dX10_fill_80 : decode cX10_fill 80 = .ok (.iconst (-1), 1) := by decide +kernel
theorem dX10_fill_81 : decode cX10_fill 81 = .ok (.if_icmp .ne 7, 3) := by decide +kernel
theorem dX10_fill_84 : decode cX10_fill 84 = .ok (.iconst 1, 1) := by decide +kernel
theorem dX10_fill_85 : decode cX10_fill 85 = .ok (.goto 4, 3) := by decide +kernel
theorem dX10_fill_88 : decode cX10_fill 88 = .ok (.iconst 0, 1) := by decide +kernel
theorem dX10_fill_89 : decode cX10_fill 89 = .ok (.iconst 1, 1) := by decide +kernel
theorem dX10_fill_90 : decode cX10_fill 90 = .ok (.invokevirtual 74, 3) := by decide +kernel
theorem dX10_fill_93 : decode cX10_fill 93 = .ok (.ifCond .eq 5, 3) := by decide +kernel
theorem dX10_fill_96 : decode cX10_fill 96 = .ok (.iconst 0, 1) := by decide +kernel
theorem dX10_fill_97 : decode cX10_fill 97 = .ok (.ireturn, 1) := by decide +kernel
theorem dX10_fill_98 : decode cX10_fill 98 = .ok (.aload_n 0, 1) := by decide +kernel
theorem dX10_fill_99 : decode cX10_fill 99 = .ok (.invokevirtual 189, 3) := by decide +kernel
theorem dX10_fill_102 : decode cX10_fill 102 = .ok (.iload_n 1, 1) := by decide +kernel
theorem dX10_fill_103 : decode cX10_fill 103 = .ok (.iconst 1, 1) := by decide +kernel
theorem dX10_fill_104 : decode cX10_fill 104 = .ok (.isub, 1) := by decide +kernel
theorem dX10_fill_105 : decode cX10_fill 105 = .ok (.istore_n 2, 1) := by decide +kernel
theorem dX10_fill_106 : decode cX10_fill 106 = .ok (.iload_n 2, 1) := by decide +kernel
theorem dX10_fill_107 : decode cX10_fill 107 = .ok (.ifCond .lt 34, 3) := by decide +kernel
theorem dX10_fill_110 : decode cX10_fill 110 = .ok (.aload_n 0, 1) := by decide +kernel
theorem dX10_fill_111 : decode cX10_fill 111 = .ok (.getfield 17, 3) := by decide +kernel
theorem dX10_fill_114 : decode cX10_fill 114 = .ok (.aload_n 0, 1) := by decide +kernel
theorem dX10_fill_115 : decode cX10_fill 115 = .ok (.getfield 94, 3) := by decide +kernel
theorem dX10_fill_118 : decode cX10_fill 118 = .ok (.aload_n 0, 1) := by decide +kernel
theorem dX10_fill_119 : decode cX10_fill 119 = .ok (.getfield 38, 3) := by decide +kernel
theorem dX10_fill_122 : decode cX10_fill 122 = .ok (.iload_n 2, 1) := by decide +kernel
theorem dX10_fill_123 : decode cX10_fill 123 = .ok (.iaload, 1) := by decide +kernel
theorem dX10_fill_124 : decode cX10_fill 124 = .ok (.iastore, 1) := by decide +kernel
theorem dX10_fill_125 : decode cX10_fill 125 = .ok (.aload_n 0, 1) := by decide +kernel
theorem dX10_fill_126 : decode cX10_fill 126 = .ok (.dup, 1) := by decide +kernel
theorem dX10_fill_127 : decode cX10_fill 127 = .ok (.getfield 94, 3) := by decide +kernel
theorem dX10_fill_130 : decode cX10_fill 130 = .ok (.iconst 1, 1) := by decide +kernel
theorem dX10_fill_131 : decode cX10_fill 131 = .ok (.iadd, 1) := by decide +kernel
theorem dX10_fill_132 : decode cX10_fill 132 = .ok (.putfield 94, 3) := by decide +kernel
theorem dX10_fill_135 : decode cX10_fill 135 = .ok (.iinc 2 (-1), 3) := by decide +kernel
theorem dX10_fill_138 : decode cX10_fill 138 = .ok (.goto (-32), 3) := by decide +kernel
theorem dX10_fill_141 : decode cX10_fill 141 = .ok (.iload_n 1, 1) := by decide +kernel
theorem dX10_fill_142 : decode cX10_fill 142 = .ok (.ireturn, 1) := by decide +kernel
theorem dX10_clears_0 : decode cX10_clears 0 = .ok (.aload_n 0, 1) := by decide +kernel
theorem dX10_clears_1 : decode cX10_clears 1 = .ok (.iconst 0, 1) := by decide +kernel
theorem dX10_clears_2 : decode cX10_clears 2 = .ok (.putfield 81, 3) := by decide +kernel
theorem dX10_clears_5 : decode cX10_clears 5 = .ok (.aload_n 0, 1) := by decide +kernel
theorem dX10_clears_6 : decode cX10_clears 6 = .ok (.iconst 0, 1) := by decide +kernel
theorem dX10_clears_7 : decode cX10_clears 7 = .ok (.putfield 94, 3) := by decide +kernel
theorem dX10_clears_10 : decode cX10_clears 10 = .ok (.aload_n 0, 1) := by decide +kernel
theorem dX10_clears_11 : decode cX10_clears 11 = .ok (.iconst 0, 1) := by decide +kernel
theorem dX10_clears_12 : decode cX10_clears 12 = .ok (.putfield 109, 3) := by decide +kernel
theorem dX10_clears_15 : decode cX10_clears 15 = .ok (.aload_n 0, 1) := by decide +kernel
theorem dX10_clears_16 : decode cX10_clears 16 = .ok (.iconst 0, 1) := by decide +kernel
theorem dX10_clears_17 : decode cX10_clears 17 = .ok (.putfield 78, 3) := by decide +kernel
theorem dX10_clears_20 : decode cX10_clears 20 = .ok (.return_, 1) := by decide +kernel
theorem dX10_keepsItem_0 : decode cX10_keepsItem 0 = .ok (.aload_n 0, 1) := by decide +kernel
theorem dX10_keepsItem_1 : decode cX10_keepsItem 1 = .ok (.getfield 41, 3) := by decide +kernel
theorem dX10_keepsItem_4 : decode cX10_keepsItem 4 = .ok (.aload_n 0, 1) := by decide +kernel
theorem dX10_keepsItem_5 : decode cX10_keepsItem 5 = .ok (.getfield 192, 3) := by decide +kernel
theorem dX10_keepsItem_8 : decode cX10_keepsItem 8 = .ok (.iload_n 1, 1) := by decide +kernel
theorem dX10_keepsItem_9 : decode cX10_keepsItem 9 = .ok (.iastore, 1) := by decide +kernel
theorem dX10_keepsItem_10 : decode cX10_keepsItem 10 = .ok (.aload_n 0, 1) := by decide +kernel
theorem dX10_keepsItem_11 : decode cX10_keepsItem 11 = .ok (.getfield 44, 3) := by decide +kernel
theorem dX10_keepsItem_14 : decode cX10_keepsItem 14 = .ok (.aload_n 0, 1) := by decide +kernel
theorem dX10_keepsItem_15 : decode cX10_keepsItem 15 = .ok (.getfield 192, 3) := by decide +kernel
theorem dX10_keepsItem_18 : decode cX10_keepsItem 18 = .ok (.iload_n 2, 1) := by decide +kernel
theorem dX10_keepsItem_19 : decode cX10_keepsItem 19 = .ok (.iastore, 1) := by decide +kernel
theorem dX10_keepsItem_20 : decode cX10_keepsItem 20 = .ok (.aload_n 0, 1) := by decide +kernel
theorem dX10_keepsItem_21 : decode cX10_keepsItem 21 = .ok (.dup, 1) := by decide +kernel
theorem dX10_keepsItem_22 : decode cX10_keepsItem 22 = .ok (.getfield 192, 3) := by decide +kernel
theorem dX10_keepsItem_25 : decode cX10_keepsItem 25 = .ok (.iconst 1, 1) := by decide +kernel
theorem dX10_keepsItem_26 : decode cX10_keepsItem 26 = .ok (.iadd, 1) := by decide +kernel
theorem dX10_keepsItem_27 : decode cX10_keepsItem 27 = .ok (.putfield 192, 3) := by decide +kernel
theorem dX10_keepsItem_30 : decode cX10_keepsItem 30 = .ok (.return_, 1) := by decide +kernel
theorem dX10_opens_0 : decode cX10_opens 0 = .ok (.aload_n 0, 1) := by decide +kernel
theorem dX10_opens_1 : decode cX10_opens 1 = .ok (.bipush 123, 2) := by decide +kernel
theorem dX10_opens_3 : decode cX10_opens 3 = .ok (.invokevirtual 195, 3) := by decide +kernel
theorem dX10_opens_6 : decode cX10_opens 6 = .ok (.ifCond .eq 8, 3) := by decide +kernel
theorem dX10_opens_9 : decode cX10_opens 9 = .ok (.iload_n 1, 1) := by decide +kernel
theorem dX10_opens_10 : decode cX10_opens 10 = .ok (.iconst 4, 1) := by decide +kernel
theorem dX10_opens_11 : decode cX10_opens 11 = .ok (.if_icmp .ne 5, 3) := by decide +kernel
theorem dX10_opens_14 : decode cX10_opens 14 = .ok (.iconst 0, 1) := by decide +kernel
theorem dX10_opens_15 : decode cX10_opens 15 = .ok (.ireturn, 1) := by decide +kernel
theorem dX10_opens_16 : decode cX10_opens 16 = .ok (.aload_n 0, 1) := by decide +kernel
theorem dX10_opens_17 : decode cX10_opens 17 = .ok (.bipush 123, 2) := by decide +kernel
theorem dX10_opens_19 : decode cX10_opens 19 = .ok (.iload_n 2, 1) := by decide +kernel
theorem dX10_opens_20 : decode cX10_opens 20 = .ok (.invokevirtual 198, 3) := by decide +kernel
theorem dX10_opens_23 : decode cX10_opens 23 = .ok (.aload_n 0, 1) := by decide +kernel
theorem dX10_opens_24 : decode cX10_opens 24 = .ok (.invokevirtual 186, 3) := by decide +kernel
theorem dX10_opens_27 : decode cX10_opens 27 = .ok (.iconst 1, 1) := by decide +kernel
theorem dX10_opens_28 : decode cX10_opens 28 = .ok (.ireturn, 1) := by decide +kernel
theorem dX10_readsItem_0 : decode cX10_readsItem 0 = .ok (.aload_n 0, 1) := by decide +kernel
theorem dX10_readsItem_1 : decode cX10_readsItem 1 = .ok (.getfield 165, 3) := by decide +kernel
theorem dX10_readsItem_4 : decode cX10_readsItem 4 = .ok (.iconst 2, 1) := by decide +kernel
theorem dX10_readsItem_5 : decode cX10_readsItem 5 = .ok (.if_icmp .ne 31, 3) := by decide +kernel
theorem dX10_readsItem_8 : decode cX10_readsItem 8 = .ok (.aload_n 0, 1) := by decide +kernel
theorem dX10_readsItem_9 : decode cX10_readsItem 9 = .ok (.getfield 156, 3) := by decide +kernel
theorem dX10_readsItem_12 : decode cX10_readsItem 12 = .ok (.istore_n 2, 1) := by decide +kernel
theorem dX10_readsItem_13 : decode cX10_readsItem 13 = .ok (.iload_n 2, 1) := by decide +kernel
theorem dX10_readsItem_14 : decode cX10_readsItem 14 = .ok (.iconst 1, 1) := by decide +kernel
theorem dX10_readsItem_15 : decode cX10_readsItem 15 = .ok (.bipush 20, 2) := by decide +kernel
theorem dX10_readsItem_17 : decode cX10_readsItem 17 = .ok (.invokestatic 66, 3) := by decide +kernel
theorem dX10_readsItem_20 : decode cX10_readsItem 20 = .ok (.ifCond .ne 5, 3) := by decide +kernel
theorem dX10_readsItem_23 : decode cX10_readsItem 23 = .ok (.iconst 0, 1) := by decide +kernel
theorem dX10_readsItem_24 : decode cX10_readsItem 24 = .ok (.ireturn, 1) := by decide +kernel
theorem dX10_readsItem_25 : decode cX10_readsItem 25 = .ok (.aload_n 0, 1) := by decide +kernel
theorem dX10_readsItem_26 : decode cX10_readsItem 26 = .ok (.invokevirtual 186, 3) := by decide +kernel
theorem dX10_readsItem_29 : decode cX10_readsItem 29 = .ok (.aload_n 0, 1) := by decide +kernel
theorem dX10_readsItem_30 : decode cX10_readsItem 30 = .ok (.iload_n 1, 1) := by decide +kernel
theorem dX10_readsItem_31 : decode cX10_readsItem 31 = .ok (.iload_n 2, 1) := by decide +kernel
theorem dX10_readsItem_32 : decode cX10_readsItem 32 = .ok (.invokevirtual 202, 3) := by decide +kernel
theorem dX10_readsItem_35 : decode cX10_readsItem 35 = .ok (.ireturn, 1) := by decide +kernel
theorem dX10_readsItem_36 : decode cX10_readsItem 36 = .ok (.aload_n 0, 1) := by decide +kernel
theorem dX10_readsItem_37 : decode cX10_readsItem 37 = .ok (.getfield 165, 3) := by decide +kernel
theorem dX10_readsItem_40 : decode cX10_readsItem 40 = .ok (.iconst 1, 1) := by decide +kernel
theorem dX10_readsItem_41 : decode cX10_readsItem 41 = .ok (.if_icmp .ne 21, 3) := by decide +kernel
theorem dX10_readsItem_44 : decode cX10_readsItem 44 = .ok (.aload_n 0, 1) := by decide +kernel
theorem dX10_readsItem_45 : decode cX10_readsItem 45 = .ok (.getfield 156, 3) := by decide +kernel
theorem dX10_readsItem_48 : decode cX10_readsItem 48 = .ok (.bipush 123, 2) := by decide +kernel
theorem dX10_readsItem_50 : decode cX10_readsItem 50 = .ok (.if_icmp .eq 12, 3) := by decide +kernel
theorem dX10_readsItem_53 : decode cX10_readsItem 53 = .ok (.aload_n 0, 1) := by decide +kernel
theorem dX10_readsItem_54 : decode cX10_readsItem 54 = .ok (.getfield 156, 3) := by decide +kernel
theorem dX10_readsItem_57 : decode cX10_readsItem 57 = .ok (.bipush 125, 2) := by decide +kernel
theorem dX10_readsItem_59 : decode cX10_readsItem 59 = .ok (.if_icmp .ne 5, 3) := by decide +kernel
theorem dX10_readsItem_62 : decode cX10_readsItem 62 = .ok (.iconst 0, 1) := by decide +kernel
theorem dX10_readsItem_63 : decode cX10_readsItem 63 = .ok (.ireturn, 1) := by decide +kernel
theorem dX10_readsItem_64 : decode cX10_readsItem 64 = .ok (.aload_n 0, 1) := by decide +kernel
theorem dX10_readsItem_65 : decode cX10_readsItem 65 = .ok (.getfield 156, 3) := by decide +kernel
theorem dX10_readsItem_68 : decode cX10_readsItem 68 = .ok (.istore_n 2, 1) := by decide +kernel
theorem dX10_readsItem_69 : decode cX10_readsItem 69 = .ok (.aload_n 0, 1) := by decide +kernel
theorem dX10_readsItem_70 : decode cX10_readsItem 70 = .ok (.invokevirtual 186, 3) := by decide +kernel
theorem dX10_readsItem_73 : decode cX10_readsItem 73 = .ok (.iload_n 2, 1) := by decide +kernel
theorem dX10_readsItem_74 : decode cX10_readsItem 74 = .ok (.bipush 42, 2) := by decide +kernel
theorem dX10_readsItem_76 : decode cX10_readsItem 76 = .ok (.if_icmp .ne 10, 3) := by decide +kernel
theorem dX10_readsItem_79 : decode cX10_readsItem 79 = .ok (.aload_n 0, 1) := by decide +kernel
theorem dX10_readsItem_80 : decode cX10_readsItem 80 = .ok (.iload_n 1, 1) := by decide +kernel
theorem dX10_readsItem_81 : decode cX10_readsItem 81 = .ok (.iconst 0, 1) := by decide +kernel
theorem dX10_readsItem_82 : decode cX10_readsItem 82 = .ok (.invokevirtual 202, 3) := by decide +kernel
theorem dX10_readsItem_85 : decode cX10_readsItem 85 = .ok (.ireturn, 1) := by decide +kernel
theorem dX10_readsItem_86 : decode cX10_readsItem 86 = .ok (.iload_n 2, 1) := by decide +kernel
theorem dX10_readsItem_87 : decode cX10_readsItem 87 = .ok (.bipush 46, 2) := by decide +kernel
theorem dX10_readsItem_89 : decode cX10_readsItem 89 = .ok (.if_icmp .eq 21, 3) := by decide +kernel
theorem dX10_readsItem_92 : decode cX10_readsItem 92 = .ok (.iload_n 2, 1) := by decide +kernel
theorem dX10_readsItem_93 : decode cX10_readsItem 93 = .ok (.bipush 44, 2) := by decide +kernel
theorem dX10_readsItem_95 : decode cX10_readsItem 95 = .ok (.if_icmp .eq 15, 3) := by decide +kernel
theorem dX10_readsItem_98 : decode cX10_readsItem 98 = .ok (.iload_n 2, 1) := by decide +kernel
theorem dX10_readsItem_99 : decode cX10_readsItem 99 = .ok (.bipush 45, 2) := by decide +kernel
theorem dX10_readsItem_101 : decode cX10_readsItem 101 = .ok (.if_icmp .eq 9, 3) := by decide +kernel
theorem dX10_readsItem_104 : decode cX10_readsItem 104 = .ok (.iload_n 2, 1) := by decide +kernel
theorem dX10_readsItem_105 : decode cX10_readsItem 105 = .ok (.bipush 37, 2) := by decide +kernel
theorem dX10_readsItem_107 : decode cX10_readsItem 107 = .ok (.if_icmp .ne 7, 3) := by decide +kernel
theorem dX10_readsItem_110 : decode cX10_readsItem 110 = .ok (.iconst 1, 1) := by decide +kernel
theorem dX10_readsItem_111 : decode cX10_readsItem 111 = .ok (.goto 4, 3) := by decide +kernel
theorem dX10_readsItem_114 : decode cX10_readsItem 114 = .ok (.iconst 0, 1) := by decide +kernel
theorem dX10_readsItem_115 : decode cX10_readsItem 115 = .ok (.istore_n 3, 1) := by decide +kernel
theorem dX10_readsItem_116 : decode cX10_readsItem 116 = .ok (.iload_n 3, 1) := by decide +kernel
theorem dX10_readsItem_117 : decode cX10_readsItem 117 = .ok (.ifCond .ne 23, 3) := by decide +kernel
theorem dX10_readsItem_120 : decode cX10_readsItem 120 = .ok (.aload_n 0, 1) := by decide +kernel
theorem dX10_readsItem_121 : decode cX10_readsItem 121 = .ok (.getfield 165, 3) := by decide +kernel
theorem dX10_readsItem_124 : decode cX10_readsItem 124 = .ok (.iload_n 2, 1) := by decide +kernel
theorem dX10_readsItem_125 : decode cX10_readsItem 125 = .ok (.bipush 64, 2) := by decide +kernel
theorem dX10_readsItem_127 : decode cX10_readsItem 127 = .ok (.if_icmp .ne 7, 3) := by decide +kernel
theorem dX10_readsItem_130 : decode cX10_readsItem 130 = .ok (.iconst 2, 1) := by decide +kernel
theorem dX10_readsItem_131 : decode cX10_readsItem 131 = .ok (.goto 4, 3) := by decide +kernel
theorem dX10_readsItem_134 : decode cX10_readsItem 134 = .ok (.iconst 3, 1) := by decide +kernel
theorem dX10_readsItem_135 : decode cX10_readsItem 135 = .ok (.if_icmp .eq 5, 3) := by decide +kernel
theorem dX10_readsItem_138 : decode cX10_readsItem 138 = .ok (.iconst 0, 1) := by decide +kernel
theorem dX10_readsItem_139 : decode cX10_readsItem 139 = .ok (.ireturn, 1) := by decide +kernel
theorem dX10_readsItem_140 : decode cX10_readsItem 140 = .ok (.aload_n 0, 1) := by decide +kernel
theorem dX10_readsItem_141 : decode cX10_readsItem 141 = .ok (.iload_n 2, 1) := by decide +kernel
theorem dX10_readsItem_142 : decode cX10_readsItem 142 = .ok (.iload_n 3, 1) := by decide +kernel
theorem dX10_readsItem_143 : decode cX10_readsItem 143 = .ok (.ifCond .eq 7, 3) := by decide +kernel
theorem dX10_readsItem_146 : decode cX10_readsItem 146 = .ok (.iconst 0, 1) := by decide +kernel
theorem dX10_readsItem_147 : decode cX10_readsItem 147 = .ok (.goto 7, 3) := by decide +kernel
theorem dX10_readsItem_150 : decode cX10_readsItem 150 = .ok (.aload_n 0, 1) := by decide +kernel
theorem dX10_readsItem_151 : decode cX10_readsItem 151 = .ok (.getfield 156, 3) := by decide +kernel
theorem dX10_readsItem_154 : decode cX10_readsItem 154 = .ok (.invokevirtual 198, 3) := by decide +kernel
theorem dX10_readsItem_157 : decode cX10_readsItem 157 = .ok (.iload_n 3, 1) := by decide +kernel
theorem dX10_readsItem_158 : decode cX10_readsItem 158 = .ok (.ifCond .ne 7, 3) := by decide +kernel
theorem dX10_readsItem_161 : decode cX10_readsItem 161 = .ok (.aload_n 0, 1) := by decide +kernel
theorem dX10_readsItem_162 : decode cX10_readsItem 162 = .ok (.invokevirtual 186, 3) := by decide +kernel
theorem dX10_readsItem_165 : decode cX10_readsItem 165 = .ok (.iconst 1, 1) := by decide +kernel
theorem dX10_readsItem_166 : decode cX10_readsItem 166 = .ok (.ireturn, 1) := by decide +kernel
end
section
theorem dX10_readsAll_0 : decode cX10_readsAll 0 = .ok (.aload_n 0, 1) := by decide +kernel
theorem dX10_readsAll_1 : decode cX10_readsAll 1 = .ok (.iconst 0, 1) := by decide +kernel
theorem dX10_readsAll_2 : decode cX10_readsAll 2 = .ok (.putfield 159, 3) := by decide +kernel
theorem dX10_readsAll_5 : decode cX10_readsAll 5 = .ok (.aload_n 0, 1) := by decide +kernel
theorem dX10_readsAll_6 : decode cX10_readsAll 6 = .ok (.iconst 0, 1) := by decide +kernel
theorem dX10_readsAll_7 : decode cX10_readsAll 7 = .ok (.putfield 192, 3) := by decide +kernel
theorem dX10_readsAll_10 : decode cX10_readsAll 10 = .ok (.iconst 0, 1) := by decide +kernel
theorem dX10_readsAll_11 : decode cX10_readsAll 11 = .ok (.istore_n 1, 1) := by decide +kernel
theorem dX10_readsAll_12 : decode cX10_readsAll 12 = .ok (.aload_n 0, 1) := by decide +kernel
theorem dX10_readsAll_13 : decode cX10_readsAll 13 = .ok (.invokevirtual 186, 3) := by decide +kernel
theorem dX10_readsAll_16 : decode cX10_readsAll 16 = .ok (.aload_n 0, 1) := by decide +kernel
theorem dX10_readsAll_17 : decode cX10_readsAll 17 = .ok (.getfield 165, 3) := by decide +kernel
theorem dX10_readsAll_20 : decode cX10_readsAll 20 = .ok (.ifCond .eq 95, 3) := by decide +kernel
theorem dX10_readsAll_23 : decode cX10_readsAll 23 = .ok (.iload_n 1, 1) := by decide +kernel
theorem dX10_readsAll_24 : decode cX10_readsAll 24 = .ok (.ifCond .le 44, 3) := by decide +kernel
theorem dX10_readsAll_27 : decode cX10_readsAll 27 = .ok (.aload_n 0, 1) := by decide +kernel
theorem dX10_readsAll_28 : decode cX10_readsAll 28 = .ok (.bipush 125, 2) := by decide +kernel
theorem dX10_readsAll_30 : decode cX10_readsAll 30 = .ok (.invokevirtual 195, 3) := by decide +kernel
theorem dX10_readsAll_33 : decode cX10_readsAll 33 = .ok (.ifCond .eq 35, 3) := by decide +kernel
theorem dX10_readsAll_36 : decode cX10_readsAll 36 = .ok (.iinc 1 (-1), 3) := by decide +kernel
theorem dX10_readsAll_39 : decode cX10_readsAll 39 = .ok (.aload_n 0, 1) := by decide +kernel
theorem dX10_readsAll_40 : decode cX10_readsAll 40 = .ok (.getfield 47, 3) := by decide +kernel
theorem dX10_readsAll_43 : decode cX10_readsAll 43 = .ok (.aload_n 0, 1) := by decide +kernel
theorem dX10_readsAll_44 : decode cX10_readsAll 44 = .ok (.getfield 50, 3) := by decide +kernel
theorem dX10_readsAll_47 : decode cX10_readsAll 47 = .ok (.iload_n 1, 1) := by decide +kernel
theorem dX10_readsAll_48 : decode cX10_readsAll 48 = .ok (.iaload, 1) := by decide +kernel
theorem dX10_readsAll_49 : decode cX10_readsAll 49 = .ok (.aload_n 0, 1) := by decide +kernel
theorem dX10_readsAll_50 : decode cX10_readsAll 50 = .ok (.getfield 192, 3) := by decide +kernel
theorem dX10_readsAll_53 : decode cX10_readsAll 53 = .ok (.iastore, 1) := by decide +kernel
theorem dX10_readsAll_54 : decode cX10_readsAll 54 = .ok (.aload_n 0, 1) := by decide +kernel
theorem dX10_readsAll_55 : decode cX10_readsAll 55 = .ok (.bipush 125, 2) := by decide +kernel
theorem dX10_readsAll_57 : decode cX10_readsAll 57 = .ok (.iconst 0, 1) := by decide +kernel
theorem dX10_readsAll_58 : decode cX10_readsAll 58 = .ok (.invokevirtual 198, 3) := by decide +kernel
theorem dX10_readsAll_61 : decode cX10_readsAll 61 = .ok (.aload_n 0, 1) := by decide +kernel
theorem dX10_readsAll_62 : decode cX10_readsAll 62 = .ok (.invokevirtual 186, 3) := by decide +kernel
theorem dX10_readsAll_65 : decode cX10_readsAll 65 = .ok (.goto (-49), 3) := by decide +kernel
theorem dX10_readsAll_68 : decode cX10_readsAll 68 = .ok (.aload_n 0, 1) := by decide +kernel
theorem dX10_readsAll_69 : decode cX10_readsAll 69 = .ok (.iload_n 1, 1) := by decide +kernel
theorem dX10_readsAll_70 : decode cX10_readsAll 70 = .ok (.invokevirtual 206, 3) := by decide +kernel
theorem dX10_readsAll_73 : decode cX10_readsAll 73 = .ok (.ifCond .ne 5, 3) := by decide +kernel
theorem dX10_readsAll_76 : decode cX10_readsAll 76 = .ok (.iconst 0, 1) := by decide +kernel
theorem dX10_readsAll_77 : decode cX10_readsAll 77 = .ok (.ireturn, 1) := by decide +kernel
theorem dX10_readsAll_78 : decode cX10_readsAll 78 = .ok (.aload_n 0, 1) := by decide +kernel
theorem dX10_readsAll_79 : decode cX10_readsAll 79 = .ok (.getfield 41, 3) := by decide +kernel
theorem dX10_readsAll_82 : decode cX10_readsAll 82 = .ok (.aload_n 0, 1) := by decide +kernel
theorem dX10_readsAll_83 : decode cX10_readsAll 83 = .ok (.getfield 192, 3) := by decide +kernel
theorem dX10_readsAll_86 : decode cX10_readsAll 86 = .ok (.iconst 1, 1) := by decide +kernel
theorem dX10_readsAll_87 : decode cX10_readsAll 87 = .ok (.isub, 1) := by decide +kernel
theorem dX10_readsAll_88 : decode cX10_readsAll 88 = .ok (.iaload, 1) := by decide +kernel
theorem dX10_readsAll_89 : decode cX10_readsAll 89 = .ok (.bipush 123, 2) := by decide +kernel
theorem dX10_readsAll_91 : decode cX10_readsAll 91 = .ok (.if_icmp .eq 6, 3) := by decide +kernel
theorem dX10_readsAll_94 : decode cX10_readsAll 94 = .ok (.goto (-78), 3) := by decide +kernel
theorem dX10_readsAll_97 : decode cX10_readsAll 97 = .ok (.aload_n 0, 1) := by decide +kernel
theorem dX10_readsAll_98 : decode cX10_readsAll 98 = .ok (.getfield 50, 3) := by decide +kernel
theorem dX10_readsAll_101 : decode cX10_readsAll 101 = .ok (.iload_n 1, 1) := by decide +kernel
theorem dX10_readsAll_102 : decode cX10_readsAll 102 = .ok (.aload_n 0, 1) := by decide +kernel
theorem dX10_readsAll_103 : decode cX10_readsAll 103 = .ok (.getfield 192, 3) := by decide +kernel
theorem dX10_readsAll_106 : decode cX10_readsAll 106 = .ok (.iconst 1, 1) := by decide +kernel
theorem dX10_readsAll_107 : decode cX10_readsAll 107 = .ok (.isub, 1) := by decide +kernel
theorem dX10_readsAll_108 : decode cX10_readsAll 108 = .ok (.iastore, 1) := by decide +kernel
theorem dX10_readsAll_109 : decode cX10_readsAll 109 = .ok (.iinc 1 1, 3) := by decide +kernel
theorem dX10_readsAll_112 : decode cX10_readsAll 112 = .ok (.goto (-96), 3) := by decide +kernel
theorem dX10_readsAll_115 : decode cX10_readsAll 115 = .ok (.iload_n 1, 1) := by decide +kernel
theorem dX10_readsAll_116 : decode cX10_readsAll 116 = .ok (.ifCond .ne 7, 3) := by decide +kernel
theorem dX10_readsAll_119 : decode cX10_readsAll 119 = .ok (.iconst 1, 1) := by decide +kernel
theorem dX10_readsAll_120 : decode cX10_readsAll 120 = .ok (.goto 4, 3) := by decide +kernel
theorem dX10_readsAll_123 : decode cX10_readsAll 123 = .ok (.iconst 0, 1) := by decide +kernel
theorem dX10_readsAll_124 : decode cX10_readsAll 124 = .ok (.ireturn, 1) := by decide +kernel
theorem dX10_does_0 : decode cX10_does 0 = .ok (.iload_n 1, 1) := by decide +kernel
theorem dX10_does_1 : decode cX10_does 1 = .ok (.tableswitch 165 37 62 #[134, 165, 165, 165, 165, 165, 139, 124, 129, 119, 165, 165, 165, 165, 165, 165, 165, 165, 165, 165, 165, 165, 165, 158, 145, 151], 119) := by decide +kernel
theorem dX10_does_120 : decode cX10_does 120 = .ok (.aload_n 0, 1) := by decide +kernel
theorem dX10_does_121 : decode cX10_does 121 = .ok (.invokevirtual 119, 3) := by decide +kernel
theorem dX10_does_124 : decode cX10_does 124 = .ok (.ireturn, 1) := by decide +kernel
theorem dX10_does_125 : decode cX10_does 125 = .ok (.aload_n 0, 1) := by decide +kernel
theorem dX10_does_126 : decode cX10_does 126 = .ok (.invokevirtual 122, 3) := by decide +kernel
theorem dX10_does_129 : decode cX10_does 129 = .ok (.ireturn, 1) := by decide +kernel
theorem dX10_does_130 : decode cX10_does 130 = .ok (.aload_n 0, 1) := by decide +kernel
theorem dX10_does_131 : decode cX10_does 131 = .ok (.invokevirtual 134, 3) := by decide +kernel
theorem dX10_does_134 : decode cX10_does 134 = .ok (.ireturn, 1) := by decide +kernel
theorem dX10_does_135 : decode cX10_does 135 = .ok (.aload_n 0, 1) := by decide +kernel
theorem dX10_does_136 : decode cX10_does 136 = .ok (.invokevirtual 144, 3) := by decide +kernel
theorem dX10_does_139 : decode cX10_does 139 = .ok (.ireturn, 1) := by decide +kernel
theorem dX10_does_140 : decode cX10_does 140 = .ok (.aload_n 0, 1) := by decide +kernel
theorem dX10_does_141 : decode cX10_does 141 = .ok (.iload_n 2, 1) := by decide +kernel
theorem dX10_does_142 : decode cX10_does 142 = .ok (.invokevirtual 128, 3) := by decide +kernel
theorem dX10_does_145 : decode cX10_does 145 = .ok (.ireturn, 1) := by decide +kernel
theorem dX10_does_146 : decode cX10_does 146 = .ok (.aload_n 0, 1) := by decide +kernel
theorem dX10_does_147 : decode cX10_does 147 = .ok (.iload_n 2, 1) := by decide +kernel
theorem dX10_does_148 : decode cX10_does 148 = .ok (.invokevirtual 131, 3) := by decide +kernel
theorem dX10_does_151 : decode cX10_does 151 = .ok (.ireturn, 1) := by decide +kernel
theorem dX10_does_152 : decode cX10_does 152 = .ok (.aload_n 0, 1) := by decide +kernel
theorem dX10_does_153 : decode cX10_does 153 = .ok (.iload_n 2, 1) := by decide +kernel
theorem dX10_does_154 : decode cX10_does 154 = .ok (.iconst 0, 1) := by decide +kernel
theorem dX10_does_155 : decode cX10_does 155 = .ok (.invokevirtual 140, 3) := by decide +kernel
theorem dX10_does_158 : decode cX10_does 158 = .ok (.ireturn, 1) := by decide +kernel
theorem dX10_does_159 : decode cX10_does 159 = .ok (.aload_n 0, 1) := by decide +kernel
theorem dX10_does_160 : decode cX10_does 160 = .ok (.iload_n 2, 1) := by decide +kernel
theorem dX10_does_161 : decode cX10_does 161 = .ok (.iconst 1, 1) := by decide +kernel
theorem dX10_does_162 : decode cX10_does 162 = .ok (.invokevirtual 140, 3) := by decide +kernel
theorem dX10_does_165 : decode cX10_does 165 = .ok (.ireturn, 1) := by decide +kernel
theorem dX10_does_166 : decode cX10_does 166 = .ok (.aload_n 0, 1) := by decide +kernel
theorem dX10_does_167 : decode cX10_does 167 = .ok (.iload_n 2, 1) := by decide +kernel
theorem dX10_does_168 : decode cX10_does 168 = .ok (.invokevirtual 137, 3) := by decide +kernel
theorem dX10_does_171 : decode cX10_does 171 = .ok (.ireturn, 1) := by decide +kernel
theorem dX10_runs_0 : decode cX10_runs 0 = .ok (.iconst 0, 1) := by decide +kernel
theorem dX10_runs_1 : decode cX10_runs 1 = .ok (.istore_n 1, 1) := by decide +kernel
theorem dX10_runs_2 : decode cX10_runs 2 = .ok (.iconst 0, 1) := by decide +kernel
theorem dX10_runs_3 : decode cX10_runs 3 = .ok (.istore_n 2, 1) := by decide +kernel
theorem dX10_runs_4 : decode cX10_runs 4 = .ok (.iconst 0, 1) := by decide +kernel
theorem dX10_runs_5 : decode cX10_runs 5 = .ok (.istore_n 3, 1) := by decide +kernel
theorem dX10_runs_6 : decode cX10_runs 6 = .ok (.iload_n 3, 1) := by decide +kernel
theorem dX10_runs_7 : decode cX10_runs 7 = .ok (.aload_n 0, 1) := by decide +kernel
theorem dX10_runs_8 : decode cX10_runs 8 = .ok (.getfield 192, 3) := by decide +kernel
theorem dX10_runs_11 : decode cX10_runs 11 = .ok (.if_icmp .ge 259, 3) := by decide +kernel
theorem dX10_runs_14 : decode cX10_runs 14 = .ok (.aload_n 0, 1) := by decide +kernel
theorem dX10_runs_15 : decode cX10_runs 15 = .ok (.getfield 41, 3) := by decide +kernel
theorem dX10_runs_18 : decode cX10_runs 18 = .ok (.iload_n 3, 1) := by decide +kernel
theorem dX10_runs_19 : decode cX10_runs 19 = .ok (.iaload, 1) := by decide +kernel
theorem dX10_runs_20 : decode cX10_runs 20 = .ok (.istore 4, 2) := by decide +kernel
theorem dX10_runs_22 : decode cX10_runs 22 = .ok (.iload 4, 2) := by decide +kernel
theorem dX10_runs_24 : decode cX10_runs 24 = .ok (.bipush 123, 2) := by decide +kernel
theorem dX10_runs_26 : decode cX10_runs 26 = .ok (.if_icmp .ne 35, 3) := by decide +kernel
theorem dX10_runs_29 : decode cX10_runs 29 = .ok (.aload_n 0, 1) := by decide +kernel
theorem dX10_runs_30 : decode cX10_runs 30 = .ok (.getfield 50, 3) := by decide +kernel
theorem dX10_runs_33 : decode cX10_runs 33 = .ok (.iload_n 1, 1) := by decide +kernel
theorem dX10_runs_34 : decode cX10_runs 34 = .ok (.iload_n 3, 1) := by decide +kernel
theorem dX10_runs_35 : decode cX10_runs 35 = .ok (.iastore, 1) := by decide +kernel
theorem dX10_runs_36 : decode cX10_runs 36 = .ok (.aload_n 0, 1) := by decide +kernel
theorem dX10_runs_37 : decode cX10_runs 37 = .ok (.getfield 53, 3) := by decide +kernel
theorem dX10_runs_40 : decode cX10_runs 40 = .ok (.iload_n 1, 1) := by decide +kernel
theorem dX10_runs_41 : decode cX10_runs 41 = .ok (.aload_n 0, 1) := by decide +kernel
theorem dX10_runs_42 : decode cX10_runs 42 = .ok (.getfield 44, 3) := by decide +kernel
theorem dX10_runs_45 : decode cX10_runs 45 = .ok (.iload_n 3, 1) := by decide +kernel
theorem dX10_runs_46 : decode cX10_runs 46 = .ok (.iaload, 1) := by decide +kernel
theorem dX10_runs_47 : decode cX10_runs 47 = .ok (.iastore, 1) := by decide +kernel
theorem dX10_runs_48 : decode cX10_runs 48 = .ok (.aload_n 0, 1) := by decide +kernel
theorem dX10_runs_49 : decode cX10_runs 49 = .ok (.getfield 56, 3) := by decide +kernel
theorem dX10_runs_52 : decode cX10_runs 52 = .ok (.iload_n 1, 1) := by decide +kernel
theorem dX10_runs_53 : decode cX10_runs 53 = .ok (.iload_n 2, 1) := by decide +kernel
theorem dX10_runs_54 : decode cX10_runs 54 = .ok (.iastore, 1) := by decide +kernel
theorem dX10_runs_55 : decode cX10_runs 55 = .ok (.iinc 1 1, 3) := by decide +kernel
theorem dX10_runs_58 : decode cX10_runs 58 = .ok (.goto 206, 3) := by decide +kernel
theorem dX10_runs_61 : decode cX10_runs 61 = .ok (.iload 4, 2) := by decide +kernel
theorem dX10_runs_63 : decode cX10_runs 63 = .ok (.bipush 125, 2) := by decide +kernel
theorem dX10_runs_65 : decode cX10_runs 65 = .ok (.if_icmp .ne 111, 3) := by decide +kernel
theorem dX10_runs_68 : decode cX10_runs 68 = .ok (.iload_n 1, 1) := by decide +kernel
theorem dX10_runs_69 : decode cX10_runs 69 = .ok (.iconst 1, 1) := by decide +kernel
theorem dX10_runs_70 : decode cX10_runs 70 = .ok (.isub, 1) := by decide +kernel
theorem dX10_runs_71 : decode cX10_runs 71 = .ok (.istore 5, 2) := by decide +kernel
theorem dX10_runs_73 : decode cX10_runs 73 = .ok (.aload_n 0, 1) := by decide +kernel
theorem dX10_runs_74 : decode cX10_runs 74 = .ok (.getfield 53, 3) := by decide +kernel
theorem dX10_runs_77 : decode cX10_runs 77 = .ok (.iload 5, 2) := by decide +kernel
theorem dX10_runs_79 : decode cX10_runs 79 = .ok (.iaload, 1) := by decide +kernel
theorem dX10_runs_80 : decode cX10_runs 80 = .ok (.ifCond .ne 22, 3) := by decide +kernel
theorem dX10_runs_83 : decode cX10_runs 83 = .ok (.iload_n 2, 1) := by decide +kernel
theorem dX10_runs_84 : decode cX10_runs 84 = .ok (.aload_n 0, 1) := by decide +kernel
theorem dX10_runs_85 : decode cX10_runs 85 = .ok (.getfield 56, 3) := by decide +kernel
theorem dX10_runs_88 : decode cX10_runs 88 = .ok (.iload 5, 2) := by decide +kernel
theorem dX10_runs_90 : decode cX10_runs 90 = .ok (.iaload, 1) := by decide +kernel
theorem dX10_runs_91 : decode cX10_runs 91 = .ok (.if_icmp .le 7, 3) := by decide +kernel
theorem dX10_runs_94 : decode cX10_runs 94 = .ok (.iconst 1, 1) := by decide +kernel
theorem dX10_runs_95 : decode cX10_runs 95 = .ok (.goto 23, 3) := by decide +kernel
theorem dX10_runs_98 : decode cX10_runs 98 = .ok (.iconst 0, 1) := by decide +kernel
theorem dX10_runs_99 : decode cX10_runs 99 = .ok (.goto 19, 3) := by decide +kernel
theorem dX10_runs_102 : decode cX10_runs 102 = .ok (.aload_n 0, 1) := by decide +kernel
theorem dX10_runs_103 : decode cX10_runs 103 = .ok (.getfield 53, 3) := by decide +kernel
theorem dX10_runs_106 : decode cX10_runs 106 = .ok (.iload 5, 2) := by decide +kernel
theorem dX10_runs_108 : decode cX10_runs 108 = .ok (.iaload, 1) := by decide +kernel
theorem dX10_runs_109 : decode cX10_runs 109 = .ok (.iconst 1, 1) := by decide +kernel
theorem dX10_runs_110 : decode cX10_runs 110 = .ok (.if_icmp .le 7, 3) := by decide +kernel
theorem dX10_runs_113 : decode cX10_runs 113 = .ok (.iconst 1, 1) := by decide +kernel
theorem dX10_runs_114 : decode cX10_runs 114 = .ok (.goto 4, 3) := by decide +kernel
theorem dX10_runs_117 : decode cX10_runs 117 = .ok (.iconst 0, 1) := by decide +kernel
theorem dX10_runs_118 : decode cX10_runs 118 = .ok (.istore 6, 2) := by decide +kernel
theorem dX10_runs_120 : decode cX10_runs 120 = .ok (.aload_n 0, 1) := by decide +kernel
theorem dX10_runs_121 : decode cX10_runs 121 = .ok (.getfield 56, 3) := by decide +kernel
theorem dX10_runs_124 : decode cX10_runs 124 = .ok (.iload 5, 2) := by decide +kernel
theorem dX10_runs_126 : decode cX10_runs 126 = .ok (.iload_n 2, 1) := by decide +kernel
theorem dX10_runs_127 : decode cX10_runs 127 = .ok (.iastore, 1) := by decide +kernel
theorem dX10_runs_128 : decode cX10_runs 128 = .ok (.iload 6, 2) := by decide +kernel
theorem dX10_runs_130 : decode cX10_runs 130 = .ok (.ifCond .eq 24, 3) := by decide +kernel
theorem dX10_runs_133 : decode cX10_runs 133 = .ok (.aload_n 0, 1) := by decide +kernel
theorem dX10_runs_134 : decode cX10_runs 134 = .ok (.getfield 53, 3) := by decide +kernel
theorem dX10_runs_137 : decode cX10_runs 137 = .ok (.iload 5, 2) := by decide +kernel
theorem dX10_runs_139 : decode cX10_runs 139 = .ok (.iaload, 1) := by decide +kernel
theorem dX10_runs_140 : decode cX10_runs 140 = .ok (.ifCond .le 14, 3) := by decide +kernel
theorem dX10_runs_143 : decode cX10_runs 143 = .ok (.aload_n 0, 1) := by decide +kernel
theorem dX10_runs_144 : decode cX10_runs 144 = .ok (.getfield 53, 3) := by decide +kernel
theorem dX10_runs_147 : decode cX10_runs 147 = .ok (.iload 5, 2) := by decide +kernel
theorem dX10_runs_149 : decode cX10_runs 149 = .ok (.dup2, 1) := by decide +kernel
theorem dX10_runs_150 : decode cX10_runs 150 = .ok (.iaload, 1) := by decide +kernel
theorem dX10_runs_151 : decode cX10_runs 151 = .ok (.iconst 1, 1) := by decide +kernel
theorem dX10_runs_152 : decode cX10_runs 152 = .ok (.isub, 1) := by decide +kernel
theorem dX10_runs_153 : decode cX10_runs 153 = .ok (.iastore, 1) := by decide +kernel
theorem dX10_runs_154 : decode cX10_runs 154 = .ok (.iload 6, 2) := by decide +kernel
theorem dX10_runs_156 : decode cX10_runs 156 = .ok (.ifCond .eq 14, 3) := by decide +kernel
theorem dX10_runs_159 : decode cX10_runs 159 = .ok (.aload_n 0, 1) := by decide +kernel
theorem dX10_runs_160 : decode cX10_runs 160 = .ok (.getfield 50, 3) := by decide +kernel
theorem dX10_runs_163 : decode cX10_runs 163 = .ok (.iload 5, 2) := by decide +kernel
theorem dX10_runs_165 : decode cX10_runs 165 = .ok (.iaload, 1) := by decide +kernel
theorem dX10_runs_166 : decode cX10_runs 166 = .ok (.istore_n 3, 1) := by decide +kernel
theorem dX10_runs_167 : decode cX10_runs 167 = .ok (.goto 6, 3) := by decide +kernel
theorem dX10_runs_170 : decode cX10_runs 170 = .ok (.iinc 1 (-1), 3) := by decide +kernel
theorem dX10_runs_173 : decode cX10_runs 173 = .ok (.goto 91, 3) := by decide +kernel
theorem dX10_runs_176 : decode cX10_runs 176 = .ok (.iload_n 2, 1) := by decide +kernel
theorem dX10_runs_177 : decode cX10_runs 177 = .ok (.sipush 300, 3) := by decide +kernel
theorem dX10_runs_180 : decode cX10_runs 180 = .ok (.if_icmp .ne 11, 3) := by decide +kernel
theorem dX10_runs_183 : decode cX10_runs 183 = .ok (.aload_n 0, 1) := by decide +kernel
theorem dX10_runs_184 : decode cX10_runs 184 = .ok (.bipush (-6), 2) := by decide +kernel
theorem dX10_runs_186 : decode cX10_runs 186 = .ok (.putfield 209, 3) := by decide +kernel
theorem dX10_runs_189 : decode cX10_runs 189 = .ok (.iload_n 2, 1) := by decide +kernel
theorem dX10_runs_190 : decode cX10_runs 190 = .ok (.ireturn, 1) := by decide +kernel
theorem dX10_runs_191 : decode cX10_runs 191 = .ok (.aload_n 0, 1) := by decide +kernel
theorem dX10_runs_192 : decode cX10_runs 192 = .ok (.iload 4, 2) := by decide +kernel
theorem dX10_runs_194 : decode cX10_runs 194 = .ok (.aload_n 0, 1) := by decide +kernel
theorem dX10_runs_195 : decode cX10_runs 195 = .ok (.getfield 44, 3) := by decide +kernel
theorem dX10_runs_198 : decode cX10_runs 198 = .ok (.iload_n 3, 1) := by decide +kernel
theorem dX10_runs_199 : decode cX10_runs 199 = .ok (.iaload, 1) := by decide +kernel
theorem dX10_runs_200 : decode cX10_runs 200 = .ok (.invokevirtual 212, 3) := by decide +kernel
theorem dX10_runs_203 : decode cX10_runs 203 = .ok (.istore 5, 2) := by decide +kernel
theorem dX10_runs_205 : decode cX10_runs 205 = .ok (.iload 5, 2) := by decide +kernel
theorem dX10_runs_207 : decode cX10_runs 207 = .ok (.ifCond .lt 9, 3) := by decide +kernel
theorem dX10_runs_210 : decode cX10_runs 210 = .ok (.iinc 2 1, 3) := by decide +kernel
theorem dX10_runs_213 : decode cX10_runs 213 = .ok (.goto 51, 3) := by decide +kernel
theorem dX10_runs_216 : decode cX10_runs 216 = .ok (.iload_n 1, 1) := by decide +kernel
theorem dX10_runs_217 : decode cX10_runs 217 = .ok (.ifCond .le 20, 3) := by decide +kernel
theorem dX10_runs_220 : decode cX10_runs 220 = .ok (.aload_n 0, 1) := by decide +kernel
theorem dX10_runs_221 : decode cX10_runs 221 = .ok (.getfield 53, 3) := by decide +kernel
theorem dX10_runs_224 : decode cX10_runs 224 = .ok (.iload_n 1, 1) := by decide +kernel
theorem dX10_runs_225 : decode cX10_runs 225 = .ok (.iconst 1, 1) := by decide +kernel
theorem dX10_runs_226 : decode cX10_runs 226 = .ok (.isub, 1) := by decide +kernel
theorem dX10_runs_227 : decode cX10_runs 227 = .ok (.iaload, 1) := by decide +kernel
theorem dX10_runs_228 : decode cX10_runs 228 = .ok (.ifCond .le 9, 3) := by decide +kernel
theorem dX10_runs_231 : decode cX10_runs 231 = .ok (.iinc 1 (-1), 3) := by decide +kernel
theorem dX10_runs_234 : decode cX10_runs 234 = .ok (.goto (-18), 3) := by decide +kernel
theorem dX10_runs_237 : decode cX10_runs 237 = .ok (.iload_n 1, 1) := by decide +kernel
theorem dX10_runs_238 : decode cX10_runs 238 = .ok (.ifCond .ne 11, 3) := by decide +kernel
theorem dX10_runs_241 : decode cX10_runs 241 = .ok (.aload_n 0, 1) := by decide +kernel
theorem dX10_runs_242 : decode cX10_runs 242 = .ok (.iload 5, 2) := by decide +kernel
theorem dX10_runs_244 : decode cX10_runs 244 = .ok (.putfield 209, 3) := by decide +kernel
theorem dX10_runs_247 : decode cX10_runs 247 = .ok (.iload_n 2, 1) := by decide +kernel
theorem dX10_runs_248 : decode cX10_runs 248 = .ok (.ireturn, 1) := by decide +kernel
theorem dX10_runs_249 : decode cX10_runs 249 = .ok (.iinc 1 (-1), 3) := by decide +kernel
theorem dX10_runs_252 : decode cX10_runs 252 = .ok (.aload_n 0, 1) := by decide +kernel
theorem dX10_runs_253 : decode cX10_runs 253 = .ok (.getfield 47, 3) := by decide +kernel
theorem dX10_runs_256 : decode cX10_runs 256 = .ok (.aload_n 0, 1) := by decide +kernel
theorem dX10_runs_257 : decode cX10_runs 257 = .ok (.getfield 50, 3) := by decide +kernel
theorem dX10_runs_260 : decode cX10_runs 260 = .ok (.iload_n 1, 1) := by decide +kernel
theorem dX10_runs_261 : decode cX10_runs 261 = .ok (.iaload, 1) := by decide +kernel
theorem dX10_runs_262 : decode cX10_runs 262 = .ok (.iaload, 1) := by decide +kernel
theorem dX10_runs_263 : decode cX10_runs 263 = .ok (.istore_n 3, 1) := by decide +kernel
theorem dX10_runs_264 : decode cX10_runs 264 = .ok (.iinc 3 1, 3) := by decide +kernel
theorem dX10_runs_267 : decode cX10_runs 267 = .ok (.goto (-261), 3) := by decide +kernel
theorem dX10_runs_270 : decode cX10_runs 270 = .ok (.iload_n 2, 1) := by decide +kernel
theorem dX10_runs_271 : decode cX10_runs 271 = .ok (.ireturn, 1) := by decide +kernel
theorem dX10_run_0 : decode cX10_run 0 = .ok (.aload_n 0, 1) := by decide +kernel
theorem dX10_run_1 : decode cX10_run 1 = .ok (.iconst 0, 1) := by decide +kernel
theorem dX10_run_2 : decode cX10_run 2 = .ok (.putfield 1, 3) := by decide +kernel
theorem dX10_run_5 : decode cX10_run 5 = .ok (.aload_n 0, 1) := by decide +kernel
theorem dX10_run_6 : decode cX10_run 6 = .ok (.invokevirtual 216, 3) := by decide +kernel
theorem dX10_run_9 : decode cX10_run 9 = .ok (.istore_n 1, 1) := by decide +kernel
theorem dX10_run_10 : decode cX10_run 10 = .ok (.aload_n 0, 1) := by decide +kernel
theorem dX10_run_11 : decode cX10_run 11 = .ok (.iload_n 1, 1) := by decide +kernel
theorem dX10_run_12 : decode cX10_run 12 = .ok (.ifCond .eq 7, 3) := by decide +kernel
theorem dX10_run_15 : decode cX10_run 15 = .ok (.iconst (-1), 1) := by decide +kernel
theorem dX10_run_16 : decode cX10_run 16 = .ok (.goto 7, 3) := by decide +kernel
theorem dX10_run_19 : decode cX10_run 19 = .ok (.aload_n 0, 1) := by decide +kernel
theorem dX10_run_20 : decode cX10_run 20 = .ok (.getfield 174, 3) := by decide +kernel
theorem dX10_run_23 : decode cX10_run 23 = .ok (.putfield 35, 3) := by decide +kernel
theorem dX10_run_26 : decode cX10_run 26 = .ok (.aload_n 0, 1) := by decide +kernel
theorem dX10_run_27 : decode cX10_run 27 = .ok (.iconst 0, 1) := by decide +kernel
theorem dX10_run_28 : decode cX10_run 28 = .ok (.putfield 209, 3) := by decide +kernel
theorem dX10_run_31 : decode cX10_run 31 = .ok (.aload_n 0, 1) := by decide +kernel
theorem dX10_run_32 : decode cX10_run 32 = .ok (.iconst 0, 1) := by decide +kernel
theorem dX10_run_33 : decode cX10_run 33 = .ok (.putfield 147, 3) := by decide +kernel
theorem dX10_run_36 : decode cX10_run 36 = .ok (.aload_n 0, 1) := by decide +kernel
theorem dX10_run_37 : decode cX10_run 37 = .ok (.iload_n 1, 1) := by decide +kernel
theorem dX10_run_38 : decode cX10_run 38 = .ok (.iconst 1, 1) := by decide +kernel
theorem dX10_run_39 : decode cX10_run 39 = .ok (.invokevirtual 74, 3) := by decide +kernel
theorem dX10_run_42 : decode cX10_run 42 = .ok (.ifCond .eq 7, 3) := by decide +kernel
theorem dX10_run_45 : decode cX10_run 45 = .ok (.iconst 0, 1) := by decide +kernel
theorem dX10_run_46 : decode cX10_run 46 = .ok (.goto 7, 3) := by decide +kernel
theorem dX10_run_49 : decode cX10_run 49 = .ok (.aload_n 0, 1) := by decide +kernel
theorem dX10_run_50 : decode cX10_run 50 = .ok (.invokevirtual 220, 3) := by decide +kernel
theorem dX10_run_53 : decode cX10_run 53 = .ok (.ireturn, 1) := by decide +kernel
theorem dX10_errorPosition_0 : decode cX10_errorPosition 0 = .ok (.aload_n 0, 1) := by decide +kernel
theorem dX10_errorPosition_1 : decode cX10_errorPosition 1 = .ok (.iconst 0, 1) := by decide +kernel
theorem dX10_errorPosition_2 : decode cX10_errorPosition 2 = .ok (.putfield 1, 3) := by decide +kernel
theorem dX10_errorPosition_5 : decode cX10_errorPosition 5 = .ok (.aload_n 0, 1) := by decide +kernel
theorem dX10_errorPosition_6 : decode cX10_errorPosition 6 = .ok (.getfield 35, 3) := by decide +kernel
theorem dX10_errorPosition_9 : decode cX10_errorPosition 9 = .ok (.ireturn, 1) := by decide +kernel
theorem dX10_endedBy_0 : decode cX10_endedBy 0 = .ok (.aload_n 0, 1) := by decide +kernel
theorem dX10_endedBy_1 : decode cX10_endedBy 1 = .ok (.iconst 0, 1) := by decide +kernel
theorem dX10_endedBy_2 : decode cX10_endedBy 2 = .ok (.putfield 1, 3) := by decide +kernel
theorem dX10_endedBy_5 : decode cX10_endedBy 5 = .ok (.aload_n 0, 1) := by decide +kernel
theorem dX10_endedBy_6 : decode cX10_endedBy 6 = .ok (.getfield 209, 3) := by decide +kernel
theorem dX10_endedBy_9 : decode cX10_endedBy 9 = .ok (.ireturn, 1) := by decide +kernel
theorem dX10_nextIndex_0 : decode cX10_nextIndex 0 = .ok (.aload_n 0, 1) := by decide +kernel
theorem dX10_nextIndex_1 : decode cX10_nextIndex 1 = .ok (.iconst 0, 1) := by decide +kernel
theorem dX10_nextIndex_2 : decode cX10_nextIndex 2 = .ok (.putfield 1, 3) := by decide +kernel
theorem dX10_nextIndex_5 : decode cX10_nextIndex 5 = .ok (.aload_n 0, 1) := by decide +kernel
theorem dX10_nextIndex_6 : decode cX10_nextIndex 6 = .ok (.getfield 81, 3) := by decide +kernel
theorem dX10_nextIndex_9 : decode cX10_nextIndex 9 = .ok (.ireturn, 1) := by decide +kernel
theorem dX10_previousIndex_0 : decode cX10_previousIndex 0 = .ok (.aload_n 0, 1) := by decide +kernel
theorem dX10_previousIndex_1 : decode cX10_previousIndex 1 = .ok (.iconst 0, 1) := by decide +kernel
theorem dX10_previousIndex_2 : decode cX10_previousIndex 2 = .ok (.putfield 1, 3) := by decide +kernel
theorem dX10_previousIndex_5 : decode cX10_previousIndex 5 = .ok (.aload_n 0, 1) := by decide +kernel
theorem dX10_previousIndex_6 : decode cX10_previousIndex 6 = .ok (.getfield 81, 3) := by decide +kernel
theorem dX10_previousIndex_9 : decode cX10_previousIndex 9 = .ok (.iconst 1, 1) := by decide +kernel
theorem dX10_previousIndex_10 : decode cX10_previousIndex 10 = .ok (.isub, 1) := by decide +kernel
theorem dX10_previousIndex_11 : decode cX10_previousIndex 11 = .ok (.ireturn, 1) := by decide +kernel
theorem dX10_hasNext_0 : decode cX10_hasNext 0 = .ok (.aload_n 0, 1) := by decide +kernel
theorem dX10_hasNext_1 : decode cX10_hasNext 1 = .ok (.iconst 0, 1) := by decide +kernel
theorem dX10_hasNext_2 : decode cX10_hasNext 2 = .ok (.putfield 1, 3) := by decide +kernel
theorem dX10_hasNext_5 : decode cX10_hasNext 5 = .ok (.aload_n 0, 1) := by decide +kernel
theorem dX10_hasNext_6 : decode cX10_hasNext 6 = .ok (.getfield 94, 3) := by decide +kernel
theorem dX10_hasNext_9 : decode cX10_hasNext 9 = .ok (.ifCond .le 7, 3) := by decide +kernel
theorem dX10_hasNext_12 : decode cX10_hasNext 12 = .ok (.iconst 1, 1) := by decide +kernel
theorem dX10_hasNext_13 : decode cX10_hasNext 13 = .ok (.goto 4, 3) := by decide +kernel
theorem dX10_hasNext_16 : decode cX10_hasNext 16 = .ok (.iconst 0, 1) := by decide +kernel
theorem dX10_hasNext_17 : decode cX10_hasNext 17 = .ok (.ireturn, 1) := by decide +kernel
theorem dX10_hasPrevious_0 : decode cX10_hasPrevious 0 = .ok (.aload_n 0, 1) := by decide +kernel
theorem dX10_hasPrevious_1 : decode cX10_hasPrevious 1 = .ok (.iconst 0, 1) := by decide +kernel
theorem dX10_hasPrevious_2 : decode cX10_hasPrevious 2 = .ok (.putfield 1, 3) := by decide +kernel
theorem dX10_hasPrevious_5 : decode cX10_hasPrevious 5 = .ok (.aload_n 0, 1) := by decide +kernel
theorem dX10_hasPrevious_6 : decode cX10_hasPrevious 6 = .ok (.getfield 81, 3) := by decide +kernel
theorem dX10_hasPrevious_9 : decode cX10_hasPrevious 9 = .ok (.ifCond .le 7, 3) := by decide +kernel
theorem dX10_hasPrevious_12 : decode cX10_hasPrevious 12 = .ok (.iconst 1, 1) := by decide +kernel
theorem dX10_hasPrevious_13 : decode cX10_hasPrevious 13 = .ok (.goto 4, 3) := by decide +kernel
theorem dX10_hasPrevious_16 : decode cX10_hasPrevious 16 = .ok (.iconst 0, 1) := by decide +kernel
theorem dX10_hasPrevious_17 : decode cX10_hasPrevious 17 = .ok (.ireturn, 1) := by decide +kernel
theorem dX10_ahead_0 : decode cX10_ahead 0 = .ok (.aload_n 0, 1) := by decide +kernel
theorem dX10_ahead_1 : decode cX10_ahead 1 = .ok (.iconst 0, 1) := by decide +kernel
theorem dX10_ahead_2 : decode cX10_ahead 2 = .ok (.putfield 1, 3) := by decide +kernel
theorem dX10_ahead_5 : decode cX10_ahead 5 = .ok (.iload_n 1, 1) := by decide +kernel
theorem dX10_ahead_6 : decode cX10_ahead 6 = .ok (.iconst 0, 1) := by decide +kernel
theorem dX10_ahead_7 : decode cX10_ahead 7 = .ok (.aload_n 0, 1) := by decide +kernel
theorem dX10_ahead_8 : decode cX10_ahead 8 = .ok (.getfield 94, 3) := by decide +kernel
theorem dX10_ahead_11 : decode cX10_ahead 11 = .ok (.iconst 1, 1) := by decide +kernel
theorem dX10_ahead_12 : decode cX10_ahead 12 = .ok (.isub, 1) := by decide +kernel
theorem dX10_ahead_13 : decode cX10_ahead 13 = .ok (.invokestatic 66, 3) := by decide +kernel
theorem dX10_ahead_16 : decode cX10_ahead 16 = .ok (.ifCond .eq 19, 3) := by decide +kernel
theorem dX10_ahead_19 : decode cX10_ahead 19 = .ok (.aload_n 0, 1) := by decide +kernel
theorem dX10_ahead_20 : decode cX10_ahead 20 = .ok (.getfield 17, 3) := by decide +kernel
theorem dX10_ahead_23 : decode cX10_ahead 23 = .ok (.aload_n 0, 1) := by decide +kernel
theorem dX10_ahead_24 : decode cX10_ahead 24 = .ok (.getfield 94, 3) := by decide +kernel
theorem dX10_ahead_27 : decode cX10_ahead 27 = .ok (.iconst 1, 1) := by decide +kernel
theorem dX10_ahead_28 : decode cX10_ahead 28 = .ok (.isub, 1) := by decide +kernel
theorem dX10_ahead_29 : decode cX10_ahead 29 = .ok (.iload_n 1, 1) := by decide +kernel
theorem dX10_ahead_30 : decode cX10_ahead 30 = .ok (.isub, 1) := by decide +kernel
theorem dX10_ahead_31 : decode cX10_ahead 31 = .ok (.iaload, 1) := by decide +kernel
theorem dX10_ahead_32 : decode cX10_ahead 32 = .ok (.goto 4, 3) := by decide +kernel
theorem dX10_ahead_35 : decode cX10_ahead 35 = .ok (.iconst (-1), 1) := by decide +kernel
theorem dX10_ahead_36 : decode cX10_ahead 36 = .ok (.ireturn, 1) := by decide +kernel
theorem dX10_behind_0 : decode cX10_behind 0 = .ok (.aload_n 0, 1) := by decide +kernel
theorem dX10_behind_1 : decode cX10_behind 1 = .ok (.iconst 0, 1) := by decide +kernel
theorem dX10_behind_2 : decode cX10_behind 2 = .ok (.putfield 1, 3) := by decide +kernel
theorem dX10_behind_5 : decode cX10_behind 5 = .ok (.iload_n 1, 1) := by decide +kernel
theorem dX10_behind_6 : decode cX10_behind 6 = .ok (.iconst 0, 1) := by decide +kernel
theorem dX10_behind_7 : decode cX10_behind 7 = .ok (.aload_n 0, 1) := by decide +kernel
theorem dX10_behind_8 : decode cX10_behind 8 = .ok (.getfield 81, 3) := by decide +kernel
theorem dX10_behind_11 : decode cX10_behind 11 = .ok (.iconst 1, 1) := by decide +kernel
theorem dX10_behind_12 : decode cX10_behind 12 = .ok (.isub, 1) := by decide +kernel
theorem dX10_behind_13 : decode cX10_behind 13 = .ok (.invokestatic 66, 3) := by decide +kernel
theorem dX10_behind_16 : decode cX10_behind 16 = .ok (.ifCond .eq 19, 3) := by decide +kernel
theorem dX10_behind_19 : decode cX10_behind 19 = .ok (.aload_n 0, 1) := by decide +kernel
theorem dX10_behind_20 : decode cX10_behind 20 = .ok (.getfield 13, 3) := by decide +kernel
theorem dX10_behind_23 : decode cX10_behind 23 = .ok (.aload_n 0, 1) := by decide +kernel
theorem dX10_behind_24 : decode cX10_behind 24 = .ok (.getfield 81, 3) := by decide +kernel
theorem dX10_behind_27 : decode cX10_behind 27 = .ok (.iconst 1, 1) := by decide +kernel
theorem dX10_behind_28 : decode cX10_behind 28 = .ok (.isub, 1) := by decide +kernel
theorem dX10_behind_29 : decode cX10_behind 29 = .ok (.iload_n 1, 1) := by decide +kernel
theorem dX10_behind_30 : decode cX10_behind 30 = .ok (.isub, 1) := by decide +kernel
theorem dX10_behind_31 : decode cX10_behind 31 = .ok (.iaload, 1) := by decide +kernel
theorem dX10_behind_32 : decode cX10_behind 32 = .ok (.goto 4, 3) := by decide +kernel
theorem dX10_behind_35 : decode cX10_behind 35 = .ok (.iconst (-1), 1) := by decide +kernel
theorem dX10_behind_36 : decode cX10_behind 36 = .ok (.ireturn, 1) := by decide +kernel
theorem dX10_given_0 : decode cX10_given 0 = .ok (.aload_n 0, 1) := by decide +kernel
theorem dX10_given_1 : decode cX10_given 1 = .ok (.iconst 0, 1) := by decide +kernel
theorem dX10_given_2 : decode cX10_given 2 = .ok (.putfield 1, 3) := by decide +kernel
theorem dX10_given_5 : decode cX10_given 5 = .ok (.aload_n 0, 1) := by decide +kernel
theorem dX10_given_6 : decode cX10_given 6 = .ok (.invokevirtual 112, 3) := by decide +kernel
theorem dX10_given_9 : decode cX10_given 9 = .ok (.ireturn, 1) := by decide +kernel
theorem dX10_givenBy_0 : decode cX10_givenBy 0 = .ok (.aload_n 0, 1) := by decide +kernel
theorem dX10_givenBy_1 : decode cX10_givenBy 1 = .ok (.iconst 0, 1) := by decide +kernel
theorem dX10_givenBy_2 : decode cX10_givenBy 2 = .ok (.putfield 1, 3) := by decide +kernel
theorem dX10_givenBy_5 : decode cX10_givenBy 5 = .ok (.aload_n 0, 1) := by decide +kernel
theorem dX10_givenBy_6 : decode cX10_givenBy 6 = .ok (.getfield 109, 3) := by decide +kernel
theorem dX10_givenBy_9 : decode cX10_givenBy 9 = .ok (.ireturn, 1) := by decide +kernel
theorem dX10_refusedNow_0 : decode cX10_refusedNow 0 = .ok (.aload_n 0, 1) := by decide +kernel
theorem dX10_refusedNow_1 : decode cX10_refusedNow 1 = .ok (.iconst 0, 1) := by decide +kernel
theorem dX10_refusedNow_2 : decode cX10_refusedNow 2 = .ok (.putfield 1, 3) := by decide +kernel
theorem dX10_refusedNow_5 : decode cX10_refusedNow 5 = .ok (.aload_n 0, 1) := by decide +kernel
theorem dX10_refusedNow_6 : decode cX10_refusedNow 6 = .ok (.getfield 94, 3) := by decide +kernel
theorem dX10_refusedNow_9 : decode cX10_refusedNow 9 = .ok (.ifCond .ne 7, 3) := by decide +kernel
theorem dX10_refusedNow_12 : decode cX10_refusedNow 12 = .ok (.iconst 1, 1) := by decide +kernel
theorem dX10_refusedNow_13 : decode cX10_refusedNow 13 = .ok (.goto 4, 3) := by decide +kernel
theorem dX10_refusedNow_16 : decode cX10_refusedNow 16 = .ok (.iconst 0, 1) := by decide +kernel
theorem dX10_refusedNow_17 : decode cX10_refusedNow 17 = .ok (.aload_n 0, 1) := by decide +kernel
theorem dX10_refusedNow_18 : decode cX10_refusedNow 18 = .ok (.getfield 81, 3) := by decide +kernel
theorem dX10_refusedNow_21 : decode cX10_refusedNow 21 = .ok (.ifCond .ne 7, 3) := by decide +kernel
theorem dX10_refusedNow_24 : decode cX10_refusedNow 24 = .ok (.iconst 2, 1) := by decide +kernel
theorem dX10_refusedNow_25 : decode cX10_refusedNow 25 = .ok (.goto 4, 3) := by decide +kernel
theorem dX10_refusedNow_28 : decode cX10_refusedNow 28 = .ok (.iconst 0, 1) := by decide +kernel
theorem dX10_refusedNow_29 : decode cX10_refusedNow 29 = .ok (.iadd, 1) := by decide +kernel
theorem dX10_refusedNow_30 : decode cX10_refusedNow 30 = .ok (.aload_n 0, 1) := by decide +kernel
theorem dX10_refusedNow_31 : decode cX10_refusedNow 31 = .ok (.invokevirtual 84, 3) := by decide +kernel
theorem dX10_refusedNow_34 : decode cX10_refusedNow 34 = .ok (.bipush 100, 2) := by decide +kernel
theorem dX10_refusedNow_36 : decode cX10_refusedNow 36 = .ok (.if_icmp .ne 7, 3) := by decide +kernel
theorem dX10_refusedNow_39 : decode cX10_refusedNow 39 = .ok (.iconst 4, 1) := by decide +kernel
theorem dX10_refusedNow_40 : decode cX10_refusedNow 40 = .ok (.goto 4, 3) := by decide +kernel
theorem dX10_refusedNow_43 : decode cX10_refusedNow 43 = .ok (.iconst 0, 1) := by decide +kernel
theorem dX10_refusedNow_44 : decode cX10_refusedNow 44 = .ok (.iadd, 1) := by decide +kernel
theorem dX10_refusedNow_45 : decode cX10_refusedNow 45 = .ok (.aload_n 0, 1) := by decide +kernel
theorem dX10_refusedNow_46 : decode cX10_refusedNow 46 = .ok (.getfield 109, 3) := by decide +kernel
theorem dX10_refusedNow_49 : decode cX10_refusedNow 49 = .ok (.ifCond .ne 8, 3) := by decide +kernel
theorem dX10_refusedNow_52 : decode cX10_refusedNow 52 = .ok (.bipush 8, 2) := by decide +kernel
theorem dX10_refusedNow_54 : decode cX10_refusedNow 54 = .ok (.goto 4, 3) := by decide +kernel
theorem dX10_refusedNow_57 : decode cX10_refusedNow 57 = .ok (.iconst 0, 1) := by decide +kernel
theorem dX10_refusedNow_58 : decode cX10_refusedNow 58 = .ok (.iadd, 1) := by decide +kernel
theorem dX10_refusedNow_59 : decode cX10_refusedNow 59 = .ok (.istore_n 1, 1) := by decide +kernel
theorem dX10_refusedNow_60 : decode cX10_refusedNow 60 = .ok (.iload_n 1, 1) := by decide +kernel
theorem dX10_refusedNow_61 : decode cX10_refusedNow 61 = .ok (.aload_n 0, 1) := by decide +kernel
theorem dX10_refusedNow_62 : decode cX10_refusedNow 62 = .ok (.getfield 94, 3) := by decide +kernel
theorem dX10_refusedNow_65 : decode cX10_refusedNow 65 = .ok (.ifCond .eq 10, 3) := by decide +kernel
theorem dX10_refusedNow_68 : decode cX10_refusedNow 68 = .ok (.aload_n 0, 1) := by decide +kernel
theorem dX10_refusedNow_69 : decode cX10_refusedNow 69 = .ok (.getfield 81, 3) := by decide +kernel
theorem dX10_refusedNow_72 : decode cX10_refusedNow 72 = .ok (.ifCond .ne 8, 3) := by decide +kernel
theorem dX10_refusedNow_75 : decode cX10_refusedNow 75 = .ok (.bipush 16, 2) := by decide +kernel
theorem dX10_refusedNow_77 : decode cX10_refusedNow 77 = .ok (.goto 4, 3) := by decide +kernel
theorem dX10_refusedNow_80 : decode cX10_refusedNow 80 = .ok (.iconst 0, 1) := by decide +kernel
theorem dX10_refusedNow_81 : decode cX10_refusedNow 81 = .ok (.iadd, 1) := by decide +kernel
theorem dX10_refusedNow_82 : decode cX10_refusedNow 82 = .ok (.ireturn, 1) := by decide +kernel
theorem dX10_size_0 : decode cX10_size 0 = .ok (.aload_n 0, 1) := by decide +kernel
theorem dX10_size_1 : decode cX10_size 1 = .ok (.iconst 0, 1) := by decide +kernel
theorem dX10_size_2 : decode cX10_size 2 = .ok (.putfield 1, 3) := by decide +kernel
theorem dX10_size_5 : decode cX10_size 5 = .ok (.aload_n 0, 1) := by decide +kernel
theorem dX10_size_6 : decode cX10_size 6 = .ok (.invokevirtual 84, 3) := by decide +kernel
theorem dX10_size_9 : decode cX10_size 9 = .ok (.ireturn, 1) := by decide +kernel
theorem dX10_wordAt_0 : decode cX10_wordAt 0 = .ok (.aload_n 0, 1) := by decide +kernel
theorem dX10_wordAt_1 : decode cX10_wordAt 1 = .ok (.iconst 0, 1) := by decide +kernel
theorem dX10_wordAt_2 : decode cX10_wordAt 2 = .ok (.putfield 1, 3) := by decide +kernel
theorem dX10_wordAt_5 : decode cX10_wordAt 5 = .ok (.aload_n 0, 1) := by decide +kernel
theorem dX10_wordAt_6 : decode cX10_wordAt 6 = .ok (.iload_n 1, 1) := by decide +kernel
theorem dX10_wordAt_7 : decode cX10_wordAt 7 = .ok (.iconst 0, 1) := by decide +kernel
theorem dX10_wordAt_8 : decode cX10_wordAt 8 = .ok (.aload_n 0, 1) := by decide +kernel
theorem dX10_wordAt_9 : decode cX10_wordAt 9 = .ok (.invokevirtual 84, 3) := by decide +kernel
theorem dX10_wordAt_12 : decode cX10_wordAt 12 = .ok (.iconst 1, 1) := by decide +kernel
theorem dX10_wordAt_13 : decode cX10_wordAt 13 = .ok (.isub, 1) := by decide +kernel
theorem dX10_wordAt_14 : decode cX10_wordAt 14 = .ok (.invokestatic 66, 3) := by decide +kernel
theorem dX10_wordAt_17 : decode cX10_wordAt 17 = .ok (.iconst 1, 1) := by decide +kernel
theorem dX10_wordAt_18 : decode cX10_wordAt 18 = .ok (.invokevirtual 74, 3) := by decide +kernel
theorem dX10_wordAt_21 : decode cX10_wordAt 21 = .ok (.ifCond .eq 7, 3) := by decide +kernel
theorem dX10_wordAt_24 : decode cX10_wordAt 24 = .ok (.iconst 0, 1) := by decide +kernel
theorem dX10_wordAt_25 : decode cX10_wordAt 25 = .ok (.goto 8, 3) := by decide +kernel
theorem dX10_wordAt_28 : decode cX10_wordAt 28 = .ok (.aload_n 0, 1) := by decide +kernel
theorem dX10_wordAt_29 : decode cX10_wordAt 29 = .ok (.iload_n 1, 1) := by decide +kernel
theorem dX10_wordAt_30 : decode cX10_wordAt 30 = .ok (.invokevirtual 88, 3) := by decide +kernel
theorem dX10_wordAt_33 : decode cX10_wordAt 33 = .ok (.ireturn, 1) := by decide +kernel
theorem dX10_indexOf_0 : decode cX10_indexOf 0 = .ok (.aload_n 0, 1) := by decide +kernel
theorem dX10_indexOf_1 : decode cX10_indexOf 1 = .ok (.iconst 0, 1) := by decide +kernel
theorem dX10_indexOf_2 : decode cX10_indexOf 2 = .ok (.putfield 1, 3) := by decide +kernel
theorem dX10_indexOf_5 : decode cX10_indexOf 5 = .ok (.aload_n 0, 1) := by decide +kernel
theorem dX10_indexOf_6 : decode cX10_indexOf 6 = .ok (.iload_n 1, 1) := by decide +kernel
theorem dX10_indexOf_7 : decode cX10_indexOf 7 = .ok (.invokevirtual 125, 3) := by decide +kernel
theorem dX10_indexOf_10 : decode cX10_indexOf 10 = .ok (.ifCond .eq 5, 3) := by decide +kernel
theorem dX10_indexOf_13 : decode cX10_indexOf 13 = .ok (.iconst 0, 1) := by decide +kernel
theorem dX10_indexOf_14 : decode cX10_indexOf 14 = .ok (.ireturn, 1) := by decide +kernel
theorem dX10_indexOf_15 : decode cX10_indexOf 15 = .ok (.iconst 0, 1) := by decide +kernel
theorem dX10_indexOf_16 : decode cX10_indexOf 16 = .ok (.istore_n 2, 1) := by decide +kernel
theorem dX10_indexOf_17 : decode cX10_indexOf 17 = .ok (.iload_n 2, 1) := by decide +kernel
theorem dX10_indexOf_18 : decode cX10_indexOf 18 = .ok (.aload_n 0, 1) := by decide +kernel
theorem dX10_indexOf_19 : decode cX10_indexOf 19 = .ok (.invokevirtual 84, 3) := by decide +kernel
theorem dX10_indexOf_22 : decode cX10_indexOf 22 = .ok (.if_icmp .ge 20, 3) := by decide +kernel
theorem dX10_indexOf_25 : decode cX10_indexOf 25 = .ok (.aload_n 0, 1) := by decide +kernel
theorem dX10_indexOf_26 : decode cX10_indexOf 26 = .ok (.iload_n 2, 1) := by decide +kernel
theorem dX10_indexOf_27 : decode cX10_indexOf 27 = .ok (.invokevirtual 88, 3) := by decide +kernel
theorem dX10_indexOf_30 : decode cX10_indexOf 30 = .ok (.iload_n 1, 1) := by decide +kernel
theorem dX10_indexOf_31 : decode cX10_indexOf 31 = .ok (.if_icmp .ne 5, 3) := by decide +kernel
theorem dX10_indexOf_34 : decode cX10_indexOf 34 = .ok (.iload_n 2, 1) := by decide +kernel
theorem dX10_indexOf_35 : decode cX10_indexOf 35 = .ok (.ireturn, 1) := by decide +kernel
theorem dX10_indexOf_36 : decode cX10_indexOf 36 = .ok (.iinc 2 1, 3) := by decide +kernel
theorem dX10_indexOf_39 : decode cX10_indexOf 39 = .ok (.goto (-22), 3) := by decide +kernel
theorem dX10_indexOf_42 : decode cX10_indexOf 42 = .ok (.iconst (-1), 1) := by decide +kernel
theorem dX10_indexOf_43 : decode cX10_indexOf 43 = .ok (.ireturn, 1) := by decide +kernel
theorem dX10_lastIndexOf_0 : decode cX10_lastIndexOf 0 = .ok (.aload_n 0, 1) := by decide +kernel
theorem dX10_lastIndexOf_1 : decode cX10_lastIndexOf 1 = .ok (.iconst 0, 1) := by decide +kernel
theorem dX10_lastIndexOf_2 : decode cX10_lastIndexOf 2 = .ok (.putfield 1, 3) := by decide +kernel
theorem dX10_lastIndexOf_5 : decode cX10_lastIndexOf 5 = .ok (.aload_n 0, 1) := by decide +kernel
theorem dX10_lastIndexOf_6 : decode cX10_lastIndexOf 6 = .ok (.iload_n 1, 1) := by decide +kernel
theorem dX10_lastIndexOf_7 : decode cX10_lastIndexOf 7 = .ok (.invokevirtual 125, 3) := by decide +kernel
theorem dX10_lastIndexOf_10 : decode cX10_lastIndexOf 10 = .ok (.ifCond .eq 5, 3) := by decide +kernel
theorem dX10_lastIndexOf_13 : decode cX10_lastIndexOf 13 = .ok (.iconst 0, 1) := by decide +kernel
theorem dX10_lastIndexOf_14 : decode cX10_lastIndexOf 14 = .ok (.ireturn, 1) := by decide +kernel
theorem dX10_lastIndexOf_15 : decode cX10_lastIndexOf 15 = .ok (.aload_n 0, 1) := by decide +kernel
theorem dX10_lastIndexOf_16 : decode cX10_lastIndexOf 16 = .ok (.invokevirtual 84, 3) := by decide +kernel
theorem dX10_lastIndexOf_19 : decode cX10_lastIndexOf 19 = .ok (.iconst 1, 1) := by decide +kernel
theorem dX10_lastIndexOf_20 : decode cX10_lastIndexOf 20 = .ok (.isub, 1) := by decide +kernel
theorem dX10_lastIndexOf_21 : decode cX10_lastIndexOf 21 = .ok (.istore_n 2, 1) := by decide +kernel
theorem dX10_lastIndexOf_22 : decode cX10_lastIndexOf 22 = .ok (.iload_n 2, 1) := by decide +kernel
theorem dX10_lastIndexOf_23 : decode cX10_lastIndexOf 23 = .ok (.ifCond .lt 20, 3) := by decide +kernel
theorem dX10_lastIndexOf_26 : decode cX10_lastIndexOf 26 = .ok (.aload_n 0, 1) := by decide +kernel
theorem dX10_lastIndexOf_27 : decode cX10_lastIndexOf 27 = .ok (.iload_n 2, 1) := by decide +kernel
theorem dX10_lastIndexOf_28 : decode cX10_lastIndexOf 28 = .ok (.invokevirtual 88, 3) := by decide +kernel
theorem dX10_lastIndexOf_31 : decode cX10_lastIndexOf 31 = .ok (.iload_n 1, 1) := by decide +kernel
theorem dX10_lastIndexOf_32 : decode cX10_lastIndexOf 32 = .ok (.if_icmp .ne 5, 3) := by decide +kernel
theorem dX10_lastIndexOf_35 : decode cX10_lastIndexOf 35 = .ok (.iload_n 2, 1) := by decide +kernel
theorem dX10_lastIndexOf_36 : decode cX10_lastIndexOf 36 = .ok (.ireturn, 1) := by decide +kernel
theorem dX10_lastIndexOf_37 : decode cX10_lastIndexOf 37 = .ok (.iinc 2 (-1), 3) := by decide +kernel
theorem dX10_lastIndexOf_40 : decode cX10_lastIndexOf 40 = .ok (.goto (-18), 3) := by decide +kernel
theorem dX10_lastIndexOf_43 : decode cX10_lastIndexOf 43 = .ok (.iconst (-1), 1) := by decide +kernel
theorem dX10_lastIndexOf_44 : decode cX10_lastIndexOf 44 = .ok (.ireturn, 1) := by decide +kernel
theorem dX10_count_0 : decode cX10_count 0 = .ok (.aload_n 0, 1) := by decide +kernel
theorem dX10_count_1 : decode cX10_count 1 = .ok (.iconst 0, 1) := by decide +kernel
theorem dX10_count_2 : decode cX10_count 2 = .ok (.putfield 1, 3) := by decide +kernel
theorem dX10_count_5 : decode cX10_count 5 = .ok (.aload_n 0, 1) := by decide +kernel
theorem dX10_count_6 : decode cX10_count 6 = .ok (.iload_n 1, 1) := by decide +kernel
theorem dX10_count_7 : decode cX10_count 7 = .ok (.invokevirtual 125, 3) := by decide +kernel
theorem dX10_count_10 : decode cX10_count 10 = .ok (.ifCond .eq 5, 3) := by decide +kernel
theorem dX10_count_13 : decode cX10_count 13 = .ok (.iconst 0, 1) := by decide +kernel
theorem dX10_count_14 : decode cX10_count 14 = .ok (.ireturn, 1) := by decide +kernel
theorem dX10_count_15 : decode cX10_count 15 = .ok (.iconst 0, 1) := by decide +kernel
theorem dX10_count_16 : decode cX10_count 16 = .ok (.istore_n 2, 1) := by decide +kernel
theorem dX10_count_17 : decode cX10_count 17 = .ok (.iconst 0, 1) := by decide +kernel
theorem dX10_count_18 : decode cX10_count 18 = .ok (.istore_n 3, 1) := by decide +kernel
theorem dX10_count_19 : decode cX10_count 19 = .ok (.iload_n 3, 1) := by decide +kernel
theorem dX10_count_20 : decode cX10_count 20 = .ok (.aload_n 0, 1) := by decide +kernel
theorem dX10_count_21 : decode cX10_count 21 = .ok (.invokevirtual 84, 3) := by decide +kernel
theorem dX10_count_24 : decode cX10_count 24 = .ok (.if_icmp .ge 26, 3) := by decide +kernel
theorem dX10_count_27 : decode cX10_count 27 = .ok (.iload_n 2, 1) := by decide +kernel
theorem dX10_count_28 : decode cX10_count 28 = .ok (.aload_n 0, 1) := by decide +kernel
theorem dX10_count_29 : decode cX10_count 29 = .ok (.iload_n 3, 1) := by decide +kernel
theorem dX10_count_30 : decode cX10_count 30 = .ok (.invokevirtual 88, 3) := by decide +kernel
theorem dX10_count_33 : decode cX10_count 33 = .ok (.iload_n 1, 1) := by decide +kernel
theorem dX10_count_34 : decode cX10_count 34 = .ok (.if_icmp .ne 7, 3) := by decide +kernel
theorem dX10_count_37 : decode cX10_count 37 = .ok (.iconst 1, 1) := by decide +kernel
theorem dX10_count_38 : decode cX10_count 38 = .ok (.goto 4, 3) := by decide +kernel
theorem dX10_count_41 : decode cX10_count 41 = .ok (.iconst 0, 1) := by decide +kernel
theorem dX10_count_42 : decode cX10_count 42 = .ok (.iadd, 1) := by decide +kernel
theorem dX10_count_43 : decode cX10_count 43 = .ok (.istore_n 2, 1) := by decide +kernel
theorem dX10_count_44 : decode cX10_count 44 = .ok (.iinc 3 1, 3) := by decide +kernel
theorem dX10_count_47 : decode cX10_count 47 = .ok (.goto (-28), 3) := by decide +kernel
theorem dX10_count_50 : decode cX10_count 50 = .ok (.iload_n 2, 1) := by decide +kernel
theorem dX10_count_51 : decode cX10_count 51 = .ok (.ireturn, 1) := by decide +kernel
theorem dX10_unlike_0 : decode cX10_unlike 0 = .ok (.aload_n 0, 1) := by decide +kernel
theorem dX10_unlike_1 : decode cX10_unlike 1 = .ok (.iconst 0, 1) := by decide +kernel
theorem dX10_unlike_2 : decode cX10_unlike 2 = .ok (.putfield 1, 3) := by decide +kernel
theorem dX10_unlike_5 : decode cX10_unlike 5 = .ok (.iconst 0, 1) := by decide +kernel
theorem dX10_unlike_6 : decode cX10_unlike 6 = .ok (.istore_n 1, 1) := by decide +kernel
theorem dX10_unlike_7 : decode cX10_unlike 7 = .ok (.iconst 0, 1) := by decide +kernel
theorem dX10_unlike_8 : decode cX10_unlike 8 = .ok (.istore_n 2, 1) := by decide +kernel
theorem dX10_unlike_9 : decode cX10_unlike 9 = .ok (.iload_n 2, 1) := by decide +kernel
theorem dX10_unlike_10 : decode cX10_unlike 10 = .ok (.aload_n 0, 1) := by decide +kernel
theorem dX10_unlike_11 : decode cX10_unlike 11 = .ok (.invokevirtual 84, 3) := by decide +kernel
theorem dX10_unlike_14 : decode cX10_unlike 14 = .ok (.if_icmp .ge 60, 3) := by decide +kernel
theorem dX10_unlike_17 : decode cX10_unlike 17 = .ok (.iconst 1, 1) := by decide +kernel
theorem dX10_unlike_18 : decode cX10_unlike 18 = .ok (.istore_n 3, 1) := by decide +kernel
theorem dX10_unlike_19 : decode cX10_unlike 19 = .ok (.iconst 0, 1) := by decide +kernel
theorem dX10_unlike_20 : decode cX10_unlike 20 = .ok (.istore 4, 2) := by decide +kernel
theorem dX10_unlike_22 : decode cX10_unlike 22 = .ok (.iload 4, 2) := by decide +kernel
theorem dX10_unlike_24 : decode cX10_unlike 24 = .ok (.iload_n 2, 1) := by decide +kernel
theorem dX10_unlike_25 : decode cX10_unlike 25 = .ok (.if_icmp .ge 31, 3) := by decide +kernel
theorem dX10_unlike_28 : decode cX10_unlike 28 = .ok (.iload_n 3, 1) := by decide +kernel
theorem dX10_unlike_29 : decode cX10_unlike 29 = .ok (.aload_n 0, 1) := by decide +kernel
theorem dX10_unlike_30 : decode cX10_unlike 30 = .ok (.iload 4, 2) := by decide +kernel
theorem dX10_unlike_32 : decode cX10_unlike 32 = .ok (.invokevirtual 88, 3) := by decide +kernel
theorem dX10_unlike_35 : decode cX10_unlike 35 = .ok (.aload_n 0, 1) := by decide +kernel
theorem dX10_unlike_36 : decode cX10_unlike 36 = .ok (.iload_n 2, 1) := by decide +kernel
theorem dX10_unlike_37 : decode cX10_unlike 37 = .ok (.invokevirtual 88, 3) := by decide +kernel
theorem dX10_unlike_40 : decode cX10_unlike 40 = .ok (.if_icmp .eq 7, 3) := by decide +kernel
theorem dX10_unlike_43 : decode cX10_unlike 43 = .ok (.iconst 1, 1) := by decide +kernel
theorem dX10_unlike_44 : decode cX10_unlike 44 = .ok (.goto 4, 3) := by decide +kernel
theorem dX10_unlike_47 : decode cX10_unlike 47 = .ok (.iconst 0, 1) := by decide +kernel
theorem dX10_unlike_48 : decode cX10_unlike 48 = .ok (.iand, 1) := by decide +kernel
theorem dX10_unlike_49 : decode cX10_unlike 49 = .ok (.istore_n 3, 1) := by decide +kernel
theorem dX10_unlike_50 : decode cX10_unlike 50 = .ok (.iinc 4 1, 3) := by decide +kernel
theorem dX10_unlike_53 : decode cX10_unlike 53 = .ok (.goto (-31), 3) := by decide +kernel
theorem dX10_unlike_56 : decode cX10_unlike 56 = .ok (.iload_n 1, 1) := by decide +kernel
theorem dX10_unlike_57 : decode cX10_unlike 57 = .ok (.iload_n 3, 1) := by decide +kernel
theorem dX10_unlike_58 : decode cX10_unlike 58 = .ok (.ifCond .eq 7, 3) := by decide +kernel
theorem dX10_unlike_61 : decode cX10_unlike 61 = .ok (.iconst 1, 1) := by decide +kernel
theorem dX10_unlike_62 : decode cX10_unlike 62 = .ok (.goto 4, 3) := by decide +kernel
theorem dX10_unlike_65 : decode cX10_unlike 65 = .ok (.iconst 0, 1) := by decide +kernel
theorem dX10_unlike_66 : decode cX10_unlike 66 = .ok (.iadd, 1) := by decide +kernel
theorem dX10_unlike_67 : decode cX10_unlike 67 = .ok (.istore_n 1, 1) := by decide +kernel
theorem dX10_unlike_68 : decode cX10_unlike 68 = .ok (.iinc 2 1, 3) := by decide +kernel
theorem dX10_unlike_71 : decode cX10_unlike 71 = .ok (.goto (-62), 3) := by decide +kernel
theorem dX10_unlike_74 : decode cX10_unlike 74 = .ok (.iload_n 1, 1) := by decide +kernel
theorem dX10_unlike_75 : decode cX10_unlike 75 = .ok (.ireturn, 1) := by decide +kernel
theorem dX10_clear_0 : decode cX10_clear 0 = .ok (.aload_n 0, 1) := by decide +kernel
theorem dX10_clear_1 : decode cX10_clear 1 = .ok (.iconst 0, 1) := by decide +kernel
theorem dX10_clear_2 : decode cX10_clear 2 = .ok (.putfield 1, 3) := by decide +kernel
theorem dX10_clear_5 : decode cX10_clear 5 = .ok (.aload_n 0, 1) := by decide +kernel
theorem dX10_clear_6 : decode cX10_clear 6 = .ok (.invokevirtual 84, 3) := by decide +kernel
theorem dX10_clear_9 : decode cX10_clear 9 = .ok (.istore_n 1, 1) := by decide +kernel
theorem dX10_clear_10 : decode cX10_clear 10 = .ok (.aload_n 0, 1) := by decide +kernel
theorem dX10_clear_11 : decode cX10_clear 11 = .ok (.invokevirtual 189, 3) := by decide +kernel
theorem dX10_clear_14 : decode cX10_clear 14 = .ok (.iload_n 1, 1) := by decide +kernel
theorem dX10_clear_15 : decode cX10_clear 15 = .ok (.ireturn, 1) := by decide +kernel
theorem dX10_writes_0 : decode cX10_writes 0 = .ok (.aload_n 0, 1) := by decide +kernel
theorem dX10_writes_1 : decode cX10_writes 1 = .ok (.getfield 59, 3) := by decide +kernel
theorem dX10_writes_4 : decode cX10_writes 4 = .ok (.aload_n 0, 1) := by decide +kernel
theorem dX10_writes_5 : decode cX10_writes 5 = .ok (.getfield 223, 3) := by decide +kernel
theorem dX10_writes_8 : decode cX10_writes 8 = .ok (.iload_n 1, 1) := by decide +kernel
theorem dX10_writes_9 : decode cX10_writes 9 = .ok (.iastore, 1) := by decide +kernel
theorem dX10_writes_10 : decode cX10_writes 10 = .ok (.aload_n 0, 1) := by decide +kernel
theorem dX10_writes_11 : decode cX10_writes 11 = .ok (.dup, 1) := by decide +kernel
theorem dX10_writes_12 : decode cX10_writes 12 = .ok (.getfield 223, 3) := by decide +kernel
theorem dX10_writes_15 : decode cX10_writes 15 = .ok (.iconst 1, 1) := by decide +kernel
theorem dX10_writes_16 : decode cX10_writes 16 = .ok (.iadd, 1) := by decide +kernel
theorem dX10_writes_17 : decode cX10_writes 17 = .ok (.putfield 223, 3) := by decide +kernel
theorem dX10_writes_20 : decode cX10_writes 20 = .ok (.return_, 1) := by decide +kernel
theorem dX10_writesWord_0 : decode cX10_writesWord 0 = .ok (.iconst 1, 1) := by decide +kernel
theorem dX10_writesWord_1 : decode cX10_writesWord 1 = .ok (.istore_n 2, 1) := by decide +kernel
theorem dX10_writesWord_2 : decode cX10_writesWord 2 = .ok (.iload_n 1, 1) := by decide +kernel
theorem dX10_writesWord_3 : decode cX10_writesWord 3 = .ok (.iload_n 2, 1) := by decide +kernel
theorem dX10_writesWord_4 : decode cX10_writesWord 4 = .ok (.idiv, 1) := by decide +kernel
theorem dX10_writesWord_5 : decode cX10_writesWord 5 = .ok (.bipush 27, 2) := by decide +kernel
theorem dX10_writesWord_7 : decode cX10_writesWord 7 = .ok (.if_icmp .lt 11, 3) := by decide +kernel
theorem dX10_writesWord_10 : decode cX10_writesWord 10 = .ok (.iload_n 2, 1) := by decide +kernel
theorem dX10_writesWord_11 : decode cX10_writesWord 11 = .ok (.bipush 27, 2) := by decide +kernel
theorem dX10_writesWord_13 : decode cX10_writesWord 13 = .ok (.imul, 1) := by decide +kernel
theorem dX10_writesWord_14 : decode cX10_writesWord 14 = .ok (.istore_n 2, 1) := by decide +kernel
theorem dX10_writesWord_15 : decode cX10_writesWord 15 = .ok (.goto (-13), 3) := by decide +kernel
theorem dX10_writesWord_18 : decode cX10_writesWord 18 = .ok (.iload_n 2, 1) := by decide +kernel
theorem dX10_writesWord_19 : decode cX10_writesWord 19 = .ok (.istore_n 3, 1) := by decide +kernel
theorem dX10_writesWord_20 : decode cX10_writesWord 20 = .ok (.iload_n 3, 1) := by decide +kernel
theorem dX10_writesWord_21 : decode cX10_writesWord 21 = .ok (.ifCond .le 26, 3) := by decide +kernel
theorem dX10_writesWord_24 : decode cX10_writesWord 24 = .ok (.aload_n 0, 1) := by decide +kernel
theorem dX10_writesWord_25 : decode cX10_writesWord 25 = .ok (.bipush 97, 2) := by decide +kernel
theorem dX10_writesWord_27 : decode cX10_writesWord 27 = .ok (.iload_n 1, 1) := by decide +kernel
theorem dX10_writesWord_28 : decode cX10_writesWord 28 = .ok (.iload_n 3, 1) := by decide +kernel
theorem dX10_writesWord_29 : decode cX10_writesWord 29 = .ok (.idiv, 1) := by decide +kernel
theorem dX10_writesWord_30 : decode cX10_writesWord 30 = .ok (.bipush 27, 2) := by decide +kernel
theorem dX10_writesWord_32 : decode cX10_writesWord 32 = .ok (.irem, 1) := by decide +kernel
theorem dX10_writesWord_33 : decode cX10_writesWord 33 = .ok (.iadd, 1) := by decide +kernel
theorem dX10_writesWord_34 : decode cX10_writesWord 34 = .ok (.iconst 1, 1) := by decide +kernel
theorem dX10_writesWord_35 : decode cX10_writesWord 35 = .ok (.isub, 1) := by decide +kernel
theorem dX10_writesWord_36 : decode cX10_writesWord 36 = .ok (.invokevirtual 226, 3) := by decide +kernel
theorem dX10_writesWord_39 : decode cX10_writesWord 39 = .ok (.iload_n 3, 1) := by decide +kernel
theorem dX10_writesWord_40 : decode cX10_writesWord 40 = .ok (.bipush 27, 2) := by decide +kernel
theorem dX10_writesWord_42 : decode cX10_writesWord 42 = .ok (.idiv, 1) := by decide +kernel
theorem dX10_writesWord_43 : decode cX10_writesWord 43 = .ok (.istore_n 3, 1) := by decide +kernel
theorem dX10_writesWord_44 : decode cX10_writesWord 44 = .ok (.goto (-24), 3) := by decide +kernel
theorem dX10_writesWord_47 : decode cX10_writesWord 47 = .ok (.return_, 1) := by decide +kernel
theorem dX10_write_0 : decode cX10_write 0 = .ok (.aload_n 0, 1) := by decide +kernel
theorem dX10_write_1 : decode cX10_write 1 = .ok (.iconst 0, 1) := by decide +kernel
theorem dX10_write_2 : decode cX10_write 2 = .ok (.putfield 1, 3) := by decide +kernel
theorem dX10_write_5 : decode cX10_write 5 = .ok (.aload_n 0, 1) := by decide +kernel
theorem dX10_write_6 : decode cX10_write 6 = .ok (.iconst 0, 1) := by decide +kernel
theorem dX10_write_7 : decode cX10_write 7 = .ok (.putfield 223, 3) := by decide +kernel
theorem dX10_write_10 : decode cX10_write 10 = .ok (.iconst 0, 1) := by decide +kernel
theorem dX10_write_11 : decode cX10_write 11 = .ok (.istore_n 1, 1) := by decide +kernel
theorem dX10_write_12 : decode cX10_write 12 = .ok (.iload_n 1, 1) := by decide +kernel
theorem dX10_write_13 : decode cX10_write 13 = .ok (.aload_n 0, 1) := by decide +kernel
theorem dX10_write_14 : decode cX10_write 14 = .ok (.getfield 81, 3) := by decide +kernel
theorem dX10_write_17 : decode cX10_write 17 = .ok (.if_icmp .ge 25, 3) := by decide +kernel
theorem dX10_write_20 : decode cX10_write 20 = .ok (.aload_n 0, 1) := by decide +kernel
theorem dX10_write_21 : decode cX10_write 21 = .ok (.aload_n 0, 1) := by decide +kernel
theorem dX10_write_22 : decode cX10_write 22 = .ok (.getfield 13, 3) := by decide +kernel
theorem dX10_write_25 : decode cX10_write 25 = .ok (.iload_n 1, 1) := by decide +kernel
theorem dX10_write_26 : decode cX10_write 26 = .ok (.iaload, 1) := by decide +kernel
theorem dX10_write_27 : decode cX10_write 27 = .ok (.invokevirtual 229, 3) := by decide +kernel
theorem dX10_write_30 : decode cX10_write 30 = .ok (.aload_n 0, 1) := by decide +kernel
theorem dX10_write_31 : decode cX10_write 31 = .ok (.bipush 32, 2) := by decide +kernel
theorem dX10_write_33 : decode cX10_write 33 = .ok (.invokevirtual 226, 3) := by decide +kernel
theorem dX10_write_36 : decode cX10_write 36 = .ok (.iinc 1 1, 3) := by decide +kernel
theorem dX10_write_39 : decode cX10_write 39 = .ok (.goto (-27), 3) := by decide +kernel
theorem dX10_write_42 : decode cX10_write 42 = .ok (.aload_n 0, 1) := by decide +kernel
theorem dX10_write_43 : decode cX10_write 43 = .ok (.bipush 124, 2) := by decide +kernel
theorem dX10_write_45 : decode cX10_write 45 = .ok (.invokevirtual 226, 3) := by decide +kernel
theorem dX10_write_48 : decode cX10_write 48 = .ok (.aload_n 0, 1) := by decide +kernel
theorem dX10_write_49 : decode cX10_write 49 = .ok (.getfield 94, 3) := by decide +kernel
theorem dX10_write_52 : decode cX10_write 52 = .ok (.iconst 1, 1) := by decide +kernel
theorem dX10_write_53 : decode cX10_write 53 = .ok (.isub, 1) := by decide +kernel
theorem dX10_write_54 : decode cX10_write 54 = .ok (.istore_n 1, 1) := by decide +kernel
theorem dX10_write_55 : decode cX10_write 55 = .ok (.iload_n 1, 1) := by decide +kernel
theorem dX10_write_56 : decode cX10_write 56 = .ok (.ifCond .lt 25, 3) := by decide +kernel
theorem dX10_write_59 : decode cX10_write 59 = .ok (.aload_n 0, 1) := by decide +kernel
theorem dX10_write_60 : decode cX10_write 60 = .ok (.bipush 32, 2) := by decide +kernel
theorem dX10_write_62 : decode cX10_write 62 = .ok (.invokevirtual 226, 3) := by decide +kernel
theorem dX10_write_65 : decode cX10_write 65 = .ok (.aload_n 0, 1) := by decide +kernel
theorem dX10_write_66 : decode cX10_write 66 = .ok (.aload_n 0, 1) := by decide +kernel
theorem dX10_write_67 : decode cX10_write 67 = .ok (.getfield 17, 3) := by decide +kernel
theorem dX10_write_70 : decode cX10_write 70 = .ok (.iload_n 1, 1) := by decide +kernel
theorem dX10_write_71 : decode cX10_write 71 = .ok (.iaload, 1) := by decide +kernel
theorem dX10_write_72 : decode cX10_write 72 = .ok (.invokevirtual 229, 3) := by decide +kernel
theorem dX10_write_75 : decode cX10_write 75 = .ok (.iinc 1 (-1), 3) := by decide +kernel
theorem dX10_write_78 : decode cX10_write 78 = .ok (.goto (-23), 3) := by decide +kernel
theorem dX10_write_81 : decode cX10_write 81 = .ok (.aload_n 0, 1) := by decide +kernel
theorem dX10_write_82 : decode cX10_write 82 = .ok (.getfield 223, 3) := by decide +kernel
theorem dX10_write_85 : decode cX10_write 85 = .ok (.ireturn, 1) := by decide +kernel
theorem dX10_writtenAt_0 : decode cX10_writtenAt 0 = .ok (.aload_n 0, 1) := by decide +kernel
theorem dX10_writtenAt_1 : decode cX10_writtenAt 1 = .ok (.iconst 0, 1) := by decide +kernel
theorem dX10_writtenAt_2 : decode cX10_writtenAt 2 = .ok (.putfield 1, 3) := by decide +kernel
theorem dX10_writtenAt_5 : decode cX10_writtenAt 5 = .ok (.aload_n 0, 1) := by decide +kernel
theorem dX10_writtenAt_6 : decode cX10_writtenAt 6 = .ok (.iload_n 1, 1) := by decide +kernel
theorem dX10_writtenAt_7 : decode cX10_writtenAt 7 = .ok (.iconst 0, 1) := by decide +kernel
theorem dX10_writtenAt_8 : decode cX10_writtenAt 8 = .ok (.aload_n 0, 1) := by decide +kernel
theorem dX10_writtenAt_9 : decode cX10_writtenAt 9 = .ok (.getfield 223, 3) := by decide +kernel
theorem dX10_writtenAt_12 : decode cX10_writtenAt 12 = .ok (.iconst 1, 1) := by decide +kernel
theorem dX10_writtenAt_13 : decode cX10_writtenAt 13 = .ok (.isub, 1) := by decide +kernel
theorem dX10_writtenAt_14 : decode cX10_writtenAt 14 = .ok (.invokestatic 66, 3) := by decide +kernel
theorem dX10_writtenAt_17 : decode cX10_writtenAt 17 = .ok (.iconst 1, 1) := by decide +kernel
theorem dX10_writtenAt_18 : decode cX10_writtenAt 18 = .ok (.invokevirtual 74, 3) := by decide +kernel
theorem dX10_writtenAt_21 : decode cX10_writtenAt 21 = .ok (.ifCond .eq 7, 3) := by decide +kernel
theorem dX10_writtenAt_24 : decode cX10_writtenAt 24 = .ok (.iconst 0, 1) := by decide +kernel
theorem dX10_writtenAt_25 : decode cX10_writtenAt 25 = .ok (.goto 9, 3) := by decide +kernel
theorem dX10_writtenAt_28 : decode cX10_writtenAt 28 = .ok (.aload_n 0, 1) := by decide +kernel
theorem dX10_writtenAt_29 : decode cX10_writtenAt 29 = .ok (.getfield 59, 3) := by decide +kernel
theorem dX10_writtenAt_32 : decode cX10_writtenAt 32 = .ok (.iload_n 1, 1) := by decide +kernel
theorem dX10_writtenAt_33 : decode cX10_writtenAt 33 = .ok (.iaload, 1) := by decide +kernel
theorem dX10_writtenAt_34 : decode cX10_writtenAt 34 = .ok (.ireturn, 1) := by decide +kernel
end
section
theorem dX10_refusals_0 : decode cX10_refusals 0 = .ok (.aload_n 0, 1) := by decide +kernel
theorem dX10_refusals_1 : decode cX10_refusals 1 = .ok (.iconst 0, 1) := by decide +kernel
theorem dX10_refusals_2 : decode cX10_refusals 2 = .ok (.putfield 1, 3) := by decide +kernel
theorem dX10_refusals_5 : decode cX10_refusals 5 = .ok (.aload_n 0, 1) := by decide +kernel
theorem dX10_refusals_6 : decode cX10_refusals 6 = .ok (.iload_n 1, 1) := by decide +kernel
theorem dX10_refusals_7 : decode cX10_refusals 7 = .ok (.bipush (-5), 2) := by decide +kernel
theorem dX10_refusals_9 : decode cX10_refusals 9 = .ok (.bipush (-2), 2) := by decide +kernel
theorem dX10_refusals_11 : decode cX10_refusals 11 = .ok (.invokestatic 66, 3) := by decide +kernel
theorem dX10_refusals_14 : decode cX10_refusals 14 = .ok (.iconst 1, 1) := by decide +kernel
theorem dX10_refusals_15 : decode cX10_refusals 15 = .ok (.invokevirtual 74, 3) := by decide +kernel
theorem dX10_refusals_18 : decode cX10_refusals 18 = .ok (.ifCond .eq 7, 3) := by decide +kernel
theorem dX10_refusals_21 : decode cX10_refusals 21 = .ok (.iconst 0, 1) := by decide +kernel
theorem dX10_refusals_22 : decode cX10_refusals 22 = .ok (.goto 11, 3) := by decide +kernel
theorem dX10_refusals_25 : decode cX10_refusals 25 = .ok (.aload_n 0, 1) := by decide +kernel
theorem dX10_refusals_26 : decode cX10_refusals 26 = .ok (.getfield 20, 3) := by decide +kernel
theorem dX10_refusals_29 : decode cX10_refusals 29 = .ok (.iconst 0, 1) := by decide +kernel
theorem dX10_refusals_30 : decode cX10_refusals 30 = .ok (.iload_n 1, 1) := by decide +kernel
theorem dX10_refusals_31 : decode cX10_refusals 31 = .ok (.isub, 1) := by decide +kernel
theorem dX10_refusals_32 : decode cX10_refusals 32 = .ok (.iaload, 1) := by decide +kernel
theorem dX10_refusals_33 : decode cX10_refusals 33 = .ok (.ireturn, 1) := by decide +kernel
theorem dX10_acts_0 : decode cX10_acts 0 = .ok (.aload_n 0, 1) := by decide +kernel
theorem dX10_acts_1 : decode cX10_acts 1 = .ok (.iconst 0, 1) := by decide +kernel
theorem dX10_acts_2 : decode cX10_acts 2 = .ok (.putfield 1, 3) := by decide +kernel
theorem dX10_acts_5 : decode cX10_acts 5 = .ok (.aload_n 0, 1) := by decide +kernel
theorem dX10_acts_6 : decode cX10_acts 6 = .ok (.getfield 91, 3) := by decide +kernel
theorem dX10_acts_9 : decode cX10_acts 9 = .ok (.ireturn, 1) := by decide +kernel
theorem dX10_meanLetters_0 : decode cX10_meanLetters 0 = .ok (.aload_n 0, 1) := by decide +kernel
theorem dX10_meanLetters_1 : decode cX10_meanLetters 1 = .ok (.iconst 0, 1) := by decide +kernel
theorem dX10_meanLetters_2 : decode cX10_meanLetters 2 = .ok (.putfield 1, 3) := by decide +kernel
theorem dX10_meanLetters_5 : decode cX10_meanLetters 5 = .ok (.iconst 0, 1) := by decide +kernel
theorem dX10_meanLetters_6 : decode cX10_meanLetters 6 = .ok (.istore_n 1, 1) := by decide +kernel
theorem dX10_meanLetters_7 : decode cX10_meanLetters 7 = .ok (.iconst 0, 1) := by decide +kernel
theorem dX10_meanLetters_8 : decode cX10_meanLetters 8 = .ok (.istore_n 2, 1) := by decide +kernel
theorem dX10_meanLetters_9 : decode cX10_meanLetters 9 = .ok (.iload_n 2, 1) := by decide +kernel
theorem dX10_meanLetters_10 : decode cX10_meanLetters 10 = .ok (.aload_n 0, 1) := by decide +kernel
theorem dX10_meanLetters_11 : decode cX10_meanLetters 11 = .ok (.invokevirtual 84, 3) := by decide +kernel
theorem dX10_meanLetters_14 : decode cX10_meanLetters 14 = .ok (.if_icmp .ge 20, 3) := by decide +kernel
theorem dX10_meanLetters_17 : decode cX10_meanLetters 17 = .ok (.iload_n 1, 1) := by decide +kernel
theorem dX10_meanLetters_18 : decode cX10_meanLetters 18 = .ok (.aload_n 0, 1) := by decide +kernel
theorem dX10_meanLetters_19 : decode cX10_meanLetters 19 = .ok (.iload_n 2, 1) := by decide +kernel
theorem dX10_meanLetters_20 : decode cX10_meanLetters 20 = .ok (.invokevirtual 88, 3) := by decide +kernel
theorem dX10_meanLetters_23 : decode cX10_meanLetters 23 = .ok (.invokestatic 62, 3) := by decide +kernel
theorem dX10_meanLetters_26 : decode cX10_meanLetters 26 = .ok (.iadd, 1) := by decide +kernel
theorem dX10_meanLetters_27 : decode cX10_meanLetters 27 = .ok (.istore_n 1, 1) := by decide +kernel
theorem dX10_meanLetters_28 : decode cX10_meanLetters 28 = .ok (.iinc 2 1, 3) := by decide +kernel
theorem dX10_meanLetters_31 : decode cX10_meanLetters 31 = .ok (.goto (-22), 3) := by decide +kernel
theorem dX10_meanLetters_34 : decode cX10_meanLetters 34 = .ok (.aload_n 0, 1) := by decide +kernel
theorem dX10_meanLetters_35 : decode cX10_meanLetters 35 = .ok (.invokevirtual 84, 3) := by decide +kernel
theorem dX10_meanLetters_38 : decode cX10_meanLetters 38 = .ok (.ifCond .ne 7, 3) := by decide +kernel
theorem dX10_meanLetters_41 : decode cX10_meanLetters 41 = .ok (.dconst 0, 1) := by decide +kernel
theorem dX10_meanLetters_42 : decode cX10_meanLetters 42 = .ok (.goto 11, 3) := by decide +kernel
theorem dX10_meanLetters_45 : decode cX10_meanLetters 45 = .ok (.iload_n 1, 1) := by decide +kernel
theorem dX10_meanLetters_46 : decode cX10_meanLetters 46 = .ok (.i2d, 1) := by decide +kernel
theorem dX10_meanLetters_47 : decode cX10_meanLetters 47 = .ok (.aload_n 0, 1) := by decide +kernel
theorem dX10_meanLetters_48 : decode cX10_meanLetters 48 = .ok (.invokevirtual 84, 3) := by decide +kernel
theorem dX10_meanLetters_51 : decode cX10_meanLetters 51 = .ok (.i2d, 1) := by decide +kernel
theorem dX10_meanLetters_52 : decode cX10_meanLetters 52 = .ok (.ddiv, 1) := by decide +kernel
theorem dX10_meanLetters_53 : decode cX10_meanLetters 53 = .ok (.dreturn, 1) := by decide +kernel
theorem dX10_caretShare_0 : decode cX10_caretShare 0 = .ok (.aload_n 0, 1) := by decide +kernel
theorem dX10_caretShare_1 : decode cX10_caretShare 1 = .ok (.iconst 0, 1) := by decide +kernel
theorem dX10_caretShare_2 : decode cX10_caretShare 2 = .ok (.putfield 1, 3) := by decide +kernel
theorem dX10_caretShare_5 : decode cX10_caretShare 5 = .ok (.aload_n 0, 1) := by decide +kernel
theorem dX10_caretShare_6 : decode cX10_caretShare 6 = .ok (.invokevirtual 84, 3) := by decide +kernel
theorem dX10_caretShare_9 : decode cX10_caretShare 9 = .ok (.ifCond .ne 7, 3) := by decide +kernel
theorem dX10_caretShare_12 : decode cX10_caretShare 12 = .ok (.fconst 0, 1) := by decide +kernel
theorem dX10_caretShare_13 : decode cX10_caretShare 13 = .ok (.goto 14, 3) := by decide +kernel
theorem dX10_caretShare_16 : decode cX10_caretShare 16 = .ok (.aload_n 0, 1) := by decide +kernel
theorem dX10_caretShare_17 : decode cX10_caretShare 17 = .ok (.getfield 81, 3) := by decide +kernel
theorem dX10_caretShare_20 : decode cX10_caretShare 20 = .ok (.i2f, 1) := by decide +kernel
theorem dX10_caretShare_21 : decode cX10_caretShare 21 = .ok (.aload_n 0, 1) := by decide +kernel
theorem dX10_caretShare_22 : decode cX10_caretShare 22 = .ok (.invokevirtual 84, 3) := by decide +kernel
theorem dX10_caretShare_25 : decode cX10_caretShare 25 = .ok (.i2f, 1) := by decide +kernel
theorem dX10_caretShare_26 : decode cX10_caretShare 26 = .ok (.fdiv, 1) := by decide +kernel
theorem dX10_caretShare_27 : decode cX10_caretShare 27 = .ok (.freturn, 1) := by decide +kernel
theorem dX10_agree_0 : decode cX10_agree 0 = .ok (.aload_n 0, 1) := by decide +kernel
theorem dX10_agree_1 : decode cX10_agree 1 = .ok (.iconst 0, 1) := by decide +kernel
theorem dX10_agree_2 : decode cX10_agree 2 = .ok (.putfield 1, 3) := by decide +kernel
theorem dX10_agree_5 : decode cX10_agree 5 = .ok (.iconst 1, 1) := by decide +kernel
theorem dX10_agree_6 : decode cX10_agree 6 = .ok (.ireturn, 1) := by decide +kernel
theorem dX10_errors_0 : decode cX10_errors 0 = .ok (.aload_n 0, 1) := by decide +kernel
theorem dX10_errors_1 : decode cX10_errors 1 = .ok (.iconst 0, 1) := by decide +kernel
theorem dX10_errors_2 : decode cX10_errors 2 = .ok (.putfield 1, 3) := by decide +kernel
theorem dX10_errors_5 : decode cX10_errors 5 = .ok (.iconst 0, 1) := by decide +kernel
theorem dX10_errors_6 : decode cX10_errors 6 = .ok (.ireturn, 1) := by decide +kernel
theorem dJ6_getChars_ba4f3_0 : decode cJ6_getChars_ba4f3 0 = .ok (.iload_n 1, 1) := by decide +kernel
theorem dJ6_getChars_ba4f3_1 : decode cJ6_getChars_ba4f3 1 = .ok (.istore 5, 2) := by decide +kernel
theorem dJ6_getChars_ba4f3_3 : decode cJ6_getChars_ba4f3 3 = .ok (.iload_n 0, 1) := by decide +kernel
theorem dJ6_getChars_ba4f3_4 : decode cJ6_getChars_ba4f3 4 = .ok (.ifCond .ge 7, 3) := by decide +kernel
theorem dJ6_getChars_ba4f3_7 : decode cJ6_getChars_ba4f3 7 = .ok (.iconst 1, 1) := by decide +kernel
theorem dJ6_getChars_ba4f3_8 : decode cJ6_getChars_ba4f3 8 = .ok (.goto 4, 3) := by decide +kernel
theorem dJ6_getChars_ba4f3_11 : decode cJ6_getChars_ba4f3 11 = .ok (.iconst 0, 1) := by decide +kernel
theorem dJ6_getChars_ba4f3_12 : decode cJ6_getChars_ba4f3 12 = .ok (.istore 6, 2) := by decide +kernel
theorem dJ6_getChars_ba4f3_14 : decode cJ6_getChars_ba4f3 14 = .ok (.iload 6, 2) := by decide +kernel
theorem dJ6_getChars_ba4f3_16 : decode cJ6_getChars_ba4f3 16 = .ok (.ifCond .ne 6, 3) := by decide +kernel
theorem dJ6_getChars_ba4f3_19 : decode cJ6_getChars_ba4f3 19 = .ok (.iload_n 0, 1) := by decide +kernel
theorem dJ6_getChars_ba4f3_20 : decode cJ6_getChars_ba4f3 20 = .ok (.ineg, 1) := by decide +kernel
theorem dJ6_getChars_ba4f3_21 : decode cJ6_getChars_ba4f3 21 = .ok (.istore_n 0, 1) := by decide +kernel
theorem dJ6_getChars_ba4f3_22 : decode cJ6_getChars_ba4f3 22 = .ok (.iload_n 0, 1) := by decide +kernel
theorem dJ6_getChars_ba4f3_23 : decode cJ6_getChars_ba4f3 23 = .ok (.bipush (-100), 2) := by decide +kernel
theorem dJ6_getChars_ba4f3_25 : decode cJ6_getChars_ba4f3 25 = .ok (.if_icmp .gt 47, 3) := by decide +kernel
theorem dJ6_getChars_ba4f3_28 : decode cJ6_getChars_ba4f3 28 = .ok (.iload_n 0, 1) := by decide +kernel
theorem dJ6_getChars_ba4f3_29 : decode cJ6_getChars_ba4f3 29 = .ok (.bipush 100, 2) := by decide +kernel
theorem dJ6_getChars_ba4f3_31 : decode cJ6_getChars_ba4f3 31 = .ok (.idiv, 1) := by decide +kernel
theorem dJ6_getChars_ba4f3_32 : decode cJ6_getChars_ba4f3 32 = .ok (.istore_n 3, 1) := by decide +kernel
theorem dJ6_getChars_ba4f3_33 : decode cJ6_getChars_ba4f3 33 = .ok (.iload_n 3, 1) := by decide +kernel
theorem dJ6_getChars_ba4f3_34 : decode cJ6_getChars_ba4f3 34 = .ok (.bipush 100, 2) := by decide +kernel
theorem dJ6_getChars_ba4f3_36 : decode cJ6_getChars_ba4f3 36 = .ok (.imul, 1) := by decide +kernel
theorem dJ6_getChars_ba4f3_37 : decode cJ6_getChars_ba4f3 37 = .ok (.iload_n 0, 1) := by decide +kernel
theorem dJ6_getChars_ba4f3_38 : decode cJ6_getChars_ba4f3 38 = .ok (.isub, 1) := by decide +kernel
theorem dJ6_getChars_ba4f3_39 : decode cJ6_getChars_ba4f3 39 = .ok (.istore 4, 2) := by decide +kernel
theorem dJ6_getChars_ba4f3_41 : decode cJ6_getChars_ba4f3 41 = .ok (.iload_n 3, 1) := by decide +kernel
theorem dJ6_getChars_ba4f3_42 : decode cJ6_getChars_ba4f3 42 = .ok (.istore_n 0, 1) := by decide +kernel
theorem dJ6_getChars_ba4f3_43 : decode cJ6_getChars_ba4f3 43 = .ok (.aload_n 2, 1) := by decide +kernel
theorem dJ6_getChars_ba4f3_44 : decode cJ6_getChars_ba4f3 44 = .ok (.iinc 5 (-1), 3) := by decide +kernel
theorem dJ6_getChars_ba4f3_47 : decode cJ6_getChars_ba4f3 47 = .ok (.iload 5, 2) := by decide +kernel
theorem dJ6_getChars_ba4f3_49 : decode cJ6_getChars_ba4f3 49 = .ok (.getstatic 83, 3) := by decide +kernel
theorem dJ6_getChars_ba4f3_52 : decode cJ6_getChars_ba4f3 52 = .ok (.iload 4, 2) := by decide +kernel
theorem dJ6_getChars_ba4f3_54 : decode cJ6_getChars_ba4f3 54 = .ok (.baload, 1) := by decide +kernel
theorem dJ6_getChars_ba4f3_55 : decode cJ6_getChars_ba4f3 55 = .ok (.bastore, 1) := by decide +kernel
theorem dJ6_getChars_ba4f3_56 : decode cJ6_getChars_ba4f3 56 = .ok (.aload_n 2, 1) := by decide +kernel
theorem dJ6_getChars_ba4f3_57 : decode cJ6_getChars_ba4f3 57 = .ok (.iinc 5 (-1), 3) := by decide +kernel
theorem dJ6_getChars_ba4f3_60 : decode cJ6_getChars_ba4f3 60 = .ok (.iload 5, 2) := by decide +kernel
theorem dJ6_getChars_ba4f3_62 : decode cJ6_getChars_ba4f3 62 = .ok (.getstatic 87, 3) := by decide +kernel
theorem dJ6_getChars_ba4f3_65 : decode cJ6_getChars_ba4f3 65 = .ok (.iload 4, 2) := by decide +kernel
theorem dJ6_getChars_ba4f3_67 : decode cJ6_getChars_ba4f3 67 = .ok (.baload, 1) := by decide +kernel
theorem dJ6_getChars_ba4f3_68 : decode cJ6_getChars_ba4f3 68 = .ok (.bastore, 1) := by decide +kernel
theorem dJ6_getChars_ba4f3_69 : decode cJ6_getChars_ba4f3 69 = .ok (.goto (-47), 3) := by decide +kernel
theorem dJ6_getChars_ba4f3_72 : decode cJ6_getChars_ba4f3 72 = .ok (.aload_n 2, 1) := by decide +kernel
theorem dJ6_getChars_ba4f3_73 : decode cJ6_getChars_ba4f3 73 = .ok (.iinc 5 (-1), 3) := by decide +kernel
theorem dJ6_getChars_ba4f3_76 : decode cJ6_getChars_ba4f3 76 = .ok (.iload 5, 2) := by decide +kernel
theorem dJ6_getChars_ba4f3_78 : decode cJ6_getChars_ba4f3 78 = .ok (.getstatic 83, 3) := by decide +kernel
theorem dJ6_getChars_ba4f3_81 : decode cJ6_getChars_ba4f3 81 = .ok (.iload_n 0, 1) := by decide +kernel
theorem dJ6_getChars_ba4f3_82 : decode cJ6_getChars_ba4f3 82 = .ok (.ineg, 1) := by decide +kernel
theorem dJ6_getChars_ba4f3_83 : decode cJ6_getChars_ba4f3 83 = .ok (.baload, 1) := by decide +kernel
theorem dJ6_getChars_ba4f3_84 : decode cJ6_getChars_ba4f3 84 = .ok (.bastore, 1) := by decide +kernel
theorem dJ6_getChars_ba4f3_85 : decode cJ6_getChars_ba4f3 85 = .ok (.iload_n 0, 1) := by decide +kernel
theorem dJ6_getChars_ba4f3_86 : decode cJ6_getChars_ba4f3 86 = .ok (.bipush (-9), 2) := by decide +kernel
theorem dJ6_getChars_ba4f3_88 : decode cJ6_getChars_ba4f3 88 = .ok (.if_icmp .ge 16, 3) := by decide +kernel
theorem dJ6_getChars_ba4f3_91 : decode cJ6_getChars_ba4f3 91 = .ok (.aload_n 2, 1) := by decide +kernel
theorem dJ6_getChars_ba4f3_92 : decode cJ6_getChars_ba4f3 92 = .ok (.iinc 5 (-1), 3) := by decide +kernel
theorem dJ6_getChars_ba4f3_95 : decode cJ6_getChars_ba4f3 95 = .ok (.iload 5, 2) := by decide +kernel
theorem dJ6_getChars_ba4f3_97 : decode cJ6_getChars_ba4f3 97 = .ok (.getstatic 87, 3) := by decide +kernel
theorem dJ6_getChars_ba4f3_100 : decode cJ6_getChars_ba4f3 100 = .ok (.iload_n 0, 1) := by decide +kernel
theorem dJ6_getChars_ba4f3_101 : decode cJ6_getChars_ba4f3 101 = .ok (.ineg, 1) := by decide +kernel
theorem dJ6_getChars_ba4f3_102 : decode cJ6_getChars_ba4f3 102 = .ok (.baload, 1) := by decide +kernel
theorem dJ6_getChars_ba4f3_103 : decode cJ6_getChars_ba4f3 103 = .ok (.bastore, 1) := by decide +kernel
theorem dJ6_getChars_ba4f3_104 : decode cJ6_getChars_ba4f3 104 = .ok (.iload 6, 2) := by decide +kernel
theorem dJ6_getChars_ba4f3_106 : decode cJ6_getChars_ba4f3 106 = .ok (.ifCond .eq 12, 3) := by decide +kernel
theorem dJ6_getChars_ba4f3_109 : decode cJ6_getChars_ba4f3 109 = .ok (.aload_n 2, 1) := by decide +kernel
theorem dJ6_getChars_ba4f3_110 : decode cJ6_getChars_ba4f3 110 = .ok (.iinc 5 (-1), 3) := by decide +kernel
theorem dJ6_getChars_ba4f3_113 : decode cJ6_getChars_ba4f3 113 = .ok (.iload 5, 2) := by decide +kernel
theorem dJ6_getChars_ba4f3_115 : decode cJ6_getChars_ba4f3 115 = .ok (.bipush 45, 2) := by decide +kernel
theorem dJ6_getChars_ba4f3_117 : decode cJ6_getChars_ba4f3 117 = .ok (.bastore, 1) := by decide +kernel
theorem dJ6_getChars_ba4f3_118 : decode cJ6_getChars_ba4f3 118 = .ok (.iload 5, 2) := by decide +kernel
theorem dJ6_getChars_ba4f3_120 : decode cJ6_getChars_ba4f3 120 = .ok (.ireturn, 1) := by decide +kernel
theorem dJ6_stringSize_0f7a4_0 : decode cJ6_stringSize_0f7a4 0 = .ok (.iconst 1, 1) := by decide +kernel
theorem dJ6_stringSize_0f7a4_1 : decode cJ6_stringSize_0f7a4 1 = .ok (.istore_n 1, 1) := by decide +kernel
theorem dJ6_stringSize_0f7a4_2 : decode cJ6_stringSize_0f7a4 2 = .ok (.iload_n 0, 1) := by decide +kernel
theorem dJ6_stringSize_0f7a4_3 : decode cJ6_stringSize_0f7a4 3 = .ok (.ifCond .lt 8, 3) := by decide +kernel
theorem dJ6_stringSize_0f7a4_6 : decode cJ6_stringSize_0f7a4 6 = .ok (.iconst 0, 1) := by decide +kernel
theorem dJ6_stringSize_0f7a4_7 : decode cJ6_stringSize_0f7a4 7 = .ok (.istore_n 1, 1) := by decide +kernel
theorem dJ6_stringSize_0f7a4_8 : decode cJ6_stringSize_0f7a4 8 = .ok (.iload_n 0, 1) := by decide +kernel
theorem dJ6_stringSize_0f7a4_9 : decode cJ6_stringSize_0f7a4 9 = .ok (.ineg, 1) := by decide +kernel
theorem dJ6_stringSize_0f7a4_10 : decode cJ6_stringSize_0f7a4 10 = .ok (.istore_n 0, 1) := by decide +kernel
theorem dJ6_stringSize_0f7a4_11 : decode cJ6_stringSize_0f7a4 11 = .ok (.bipush (-10), 2) := by decide +kernel
theorem dJ6_stringSize_0f7a4_13 : decode cJ6_stringSize_0f7a4 13 = .ok (.istore_n 2, 1) := by decide +kernel
theorem dJ6_stringSize_0f7a4_14 : decode cJ6_stringSize_0f7a4 14 = .ok (.iconst 1, 1) := by decide +kernel
theorem dJ6_stringSize_0f7a4_15 : decode cJ6_stringSize_0f7a4 15 = .ok (.istore_n 3, 1) := by decide +kernel
theorem dJ6_stringSize_0f7a4_16 : decode cJ6_stringSize_0f7a4 16 = .ok (.iload_n 3, 1) := by decide +kernel
theorem dJ6_stringSize_0f7a4_17 : decode cJ6_stringSize_0f7a4 17 = .ok (.bipush 10, 2) := by decide +kernel
theorem dJ6_stringSize_0f7a4_19 : decode cJ6_stringSize_0f7a4 19 = .ok (.if_icmp .ge 23, 3) := by decide +kernel
theorem dJ6_stringSize_0f7a4_22 : decode cJ6_stringSize_0f7a4 22 = .ok (.iload_n 0, 1) := by decide +kernel
theorem dJ6_stringSize_0f7a4_23 : decode cJ6_stringSize_0f7a4 23 = .ok (.iload_n 2, 1) := by decide +kernel
theorem dJ6_stringSize_0f7a4_24 : decode cJ6_stringSize_0f7a4 24 = .ok (.if_icmp .le 7, 3) := by decide +kernel
theorem dJ6_stringSize_0f7a4_27 : decode cJ6_stringSize_0f7a4 27 = .ok (.iload_n 3, 1) := by decide +kernel
theorem dJ6_stringSize_0f7a4_28 : decode cJ6_stringSize_0f7a4 28 = .ok (.iload_n 1, 1) := by decide +kernel
theorem dJ6_stringSize_0f7a4_29 : decode cJ6_stringSize_0f7a4 29 = .ok (.iadd, 1) := by decide +kernel
theorem dJ6_stringSize_0f7a4_30 : decode cJ6_stringSize_0f7a4 30 = .ok (.ireturn, 1) := by decide +kernel
theorem dJ6_stringSize_0f7a4_31 : decode cJ6_stringSize_0f7a4 31 = .ok (.bipush 10, 2) := by decide +kernel
theorem dJ6_stringSize_0f7a4_33 : decode cJ6_stringSize_0f7a4 33 = .ok (.iload_n 2, 1) := by decide +kernel
theorem dJ6_stringSize_0f7a4_34 : decode cJ6_stringSize_0f7a4 34 = .ok (.imul, 1) := by decide +kernel
theorem dJ6_stringSize_0f7a4_35 : decode cJ6_stringSize_0f7a4 35 = .ok (.istore_n 2, 1) := by decide +kernel
theorem dJ6_stringSize_0f7a4_36 : decode cJ6_stringSize_0f7a4 36 = .ok (.iinc 3 1, 3) := by decide +kernel
theorem dJ6_stringSize_0f7a4_39 : decode cJ6_stringSize_0f7a4 39 = .ok (.goto (-23), 3) := by decide +kernel
theorem dJ6_stringSize_0f7a4_42 : decode cJ6_stringSize_0f7a4 42 = .ok (.bipush 10, 2) := by decide +kernel
theorem dJ6_stringSize_0f7a4_44 : decode cJ6_stringSize_0f7a4 44 = .ok (.iload_n 1, 1) := by decide +kernel
theorem dJ6_stringSize_0f7a4_45 : decode cJ6_stringSize_0f7a4 45 = .ok (.iadd, 1) := by decide +kernel
theorem dJ6_stringSize_0f7a4_46 : decode cJ6_stringSize_0f7a4 46 = .ok (.ireturn, 1) := by decide +kernel
theorem dJ6_valueOf_2dffe_0 : decode cJ6_valueOf_2dffe 0 = .ok (.iload_n 0, 1) := by decide +kernel
theorem dJ6_valueOf_2dffe_1 : decode cJ6_valueOf_2dffe 1 = .ok (.bipush (-128), 2) := by decide +kernel
theorem dJ6_valueOf_2dffe_3 : decode cJ6_valueOf_2dffe 3 = .ok (.if_icmp .lt 20, 3) := by decide +kernel
theorem dJ6_valueOf_2dffe_6 : decode cJ6_valueOf_2dffe 6 = .ok (.iload_n 0, 1) := by decide +kernel
theorem dJ6_valueOf_2dffe_7 : decode cJ6_valueOf_2dffe 7 = .ok (.getstatic 191, 3) := by decide +kernel
theorem dJ6_valueOf_2dffe_10 : decode cJ6_valueOf_2dffe 10 = .ok (.if_icmp .gt 13, 3) := by decide +kernel
theorem dJ6_valueOf_2dffe_13 : decode cJ6_valueOf_2dffe 13 = .ok (.getstatic 195, 3) := by decide +kernel
theorem dJ6_valueOf_2dffe_16 : decode cJ6_valueOf_2dffe 16 = .ok (.iload_n 0, 1) := by decide +kernel
theorem dJ6_valueOf_2dffe_17 : decode cJ6_valueOf_2dffe 17 = .ok (.sipush 128, 3) := by decide +kernel
theorem dJ6_valueOf_2dffe_20 : decode cJ6_valueOf_2dffe 20 = .ok (.iadd, 1) := by decide +kernel
theorem dJ6_valueOf_2dffe_21 : decode cJ6_valueOf_2dffe 21 = .ok (.aaload, 1) := by decide +kernel
theorem dJ6_valueOf_2dffe_22 : decode cJ6_valueOf_2dffe 22 = .ok (.areturn, 1) := by decide +kernel
theorem dJ6_valueOf_2dffe_23 : decode cJ6_valueOf_2dffe 23 = .ok (.new 1, 3) := by decide +kernel
theorem dJ6_valueOf_2dffe_26 : decode cJ6_valueOf_2dffe 26 = .ok (.dup, 1) := by decide +kernel
theorem dJ6_valueOf_2dffe_27 : decode cJ6_valueOf_2dffe 27 = .ok (.iload_n 0, 1) := by decide +kernel
theorem dJ6_valueOf_2dffe_28 : decode cJ6_valueOf_2dffe 28 = .ok (.invokespecial 199, 3) := by decide +kernel
theorem dJ6_valueOf_2dffe_31 : decode cJ6_valueOf_2dffe 31 = .ok (.areturn, 1) := by decide +kernel
theorem dJ6_init_d00df_0 : decode cJ6_init_d00df 0 = .ok (.aload_n 0, 1) := by decide +kernel
theorem dJ6_init_d00df_1 : decode cJ6_init_d00df 1 = .ok (.invokespecial 202, 3) := by decide +kernel
theorem dJ6_init_d00df_4 : decode cJ6_init_d00df 4 = .ok (.aload_n 0, 1) := by decide +kernel
theorem dJ6_init_d00df_5 : decode cJ6_init_d00df 5 = .ok (.iload_n 1, 1) := by decide +kernel
theorem dJ6_init_d00df_6 : decode cJ6_init_d00df 6 = .ok (.putfield 205, 3) := by decide +kernel
theorem dJ6_init_d00df_9 : decode cJ6_init_d00df 9 = .ok (.return_, 1) := by decide +kernel
theorem dJ6_intValue_8abf5_0 : decode cJ6_intValue_8abf5 0 = .ok (.aload_n 0, 1) := by decide +kernel
theorem dJ6_intValue_8abf5_1 : decode cJ6_intValue_8abf5 1 = .ok (.getfield 205, 3) := by decide +kernel
theorem dJ6_intValue_8abf5_4 : decode cJ6_intValue_8abf5 4 = .ok (.ireturn, 1) := by decide +kernel
theorem dJ9_max_7cf53_0 : decode cJ9_max_7cf53 0 = .ok (.iload_n 0, 1) := by decide +kernel
theorem dJ9_max_7cf53_1 : decode cJ9_max_7cf53 1 = .ok (.iload_n 1, 1) := by decide +kernel
theorem dJ9_max_7cf53_2 : decode cJ9_max_7cf53 2 = .ok (.if_icmp .lt 7, 3) := by decide +kernel
theorem dJ9_max_7cf53_5 : decode cJ9_max_7cf53 5 = .ok (.iload_n 0, 1) := by decide +kernel
theorem dJ9_max_7cf53_6 : decode cJ9_max_7cf53 6 = .ok (.goto 4, 3) := by decide +kernel
theorem dJ9_max_7cf53_9 : decode cJ9_max_7cf53 9 = .ok (.iload_n 1, 1) := by decide +kernel
theorem dJ9_max_7cf53_10 : decode cJ9_max_7cf53 10 = .ok (.ireturn, 1) := by decide +kernel
theorem dJ9_min_7cf53_0 : decode cJ9_min_7cf53 0 = .ok (.iload_n 0, 1) := by decide +kernel
theorem dJ9_min_7cf53_1 : decode cJ9_min_7cf53 1 = .ok (.iload_n 1, 1) := by decide +kernel
theorem dJ9_min_7cf53_2 : decode cJ9_min_7cf53 2 = .ok (.if_icmp .gt 7, 3) := by decide +kernel
theorem dJ9_min_7cf53_5 : decode cJ9_min_7cf53 5 = .ok (.iload_n 0, 1) := by decide +kernel
theorem dJ9_min_7cf53_6 : decode cJ9_min_7cf53 6 = .ok (.goto 4, 3) := by decide +kernel
theorem dJ9_min_7cf53_9 : decode cJ9_min_7cf53 9 = .ok (.iload_n 1, 1) := by decide +kernel
theorem dJ9_min_7cf53_10 : decode cJ9_min_7cf53 10 = .ok (.ireturn, 1) := by decide +kernel
theorem dJx4a65c_init_da8c8_0 : decode cJx4a65c_init_da8c8 0 = .ok (.aload_n 0, 1) := by decide +kernel
theorem dJx4a65c_init_da8c8_1 : decode cJx4a65c_init_da8c8 1 = .ok (.invokespecial 1, 3) := by decide +kernel
theorem dJx4a65c_init_da8c8_4 : decode cJx4a65c_init_da8c8 4 = .ok (.aload_n 0, 1) := by decide +kernel
theorem dJx4a65c_init_da8c8_5 : decode cJx4a65c_init_da8c8 5 = .ok (.getstatic 39, 3) := by decide +kernel
theorem dJx4a65c_init_da8c8_8 : decode cJx4a65c_init_da8c8 8 = .ok (.putfield 9, 3) := by decide +kernel
theorem dJx4a65c_init_da8c8_11 : decode cJx4a65c_init_da8c8 11 = .ok (.return_, 1) := by decide +kernel
theorem dJx4a65c_grow_92f84_0 : decode cJx4a65c_grow_92f84 0 = .ok (.aload_n 0, 1) := by decide +kernel
theorem dJx4a65c_grow_92f84_1 : decode cJx4a65c_grow_92f84 1 = .ok (.getfield 9, 3) := by decide +kernel
theorem dJx4a65c_grow_92f84_4 : decode cJx4a65c_grow_92f84 4 = .ok (.arraylength, 1) := by decide +kernel
theorem dJx4a65c_grow_92f84_5 : decode cJx4a65c_grow_92f84 5 = .ok (.istore_n 2, 1) := by decide +kernel
theorem dJx4a65c_grow_92f84_6 : decode cJx4a65c_grow_92f84 6 = .ok (.iload_n 2, 1) := by decide +kernel
theorem dJx4a65c_grow_92f84_7 : decode cJx4a65c_grow_92f84 7 = .ok (.ifCond .gt 13, 3) := by decide +kernel
theorem dJx4a65c_grow_92f84_10 : decode cJx4a65c_grow_92f84 10 = .ok (.aload_n 0, 1) := by decide +kernel
theorem dJx4a65c_grow_92f84_11 : decode cJx4a65c_grow_92f84 11 = .ok (.getfield 9, 3) := by decide +kernel
theorem dJx4a65c_grow_92f84_14 : decode cJx4a65c_grow_92f84 14 = .ok (.getstatic 39, 3) := by decide +kernel
theorem dJx4a65c_grow_92f84_17 : decode cJx4a65c_grow_92f84 17 = .ok (.if_acmp .eq 28, 3) := by decide +kernel
theorem dJx4a65c_grow_92f84_20 : decode cJx4a65c_grow_92f84 20 = .ok (.iload_n 2, 1) := by decide +kernel
theorem dJx4a65c_grow_92f84_21 : decode cJx4a65c_grow_92f84 21 = .ok (.iload_n 1, 1) := by decide +kernel
theorem dJx4a65c_grow_92f84_22 : decode cJx4a65c_grow_92f84 22 = .ok (.iload_n 2, 1) := by decide +kernel
theorem dJx4a65c_grow_92f84_23 : decode cJx4a65c_grow_92f84 23 = .ok (.isub, 1) := by decide +kernel
theorem dJx4a65c_grow_92f84_24 : decode cJx4a65c_grow_92f84 24 = .ok (.iload_n 2, 1) := by decide +kernel
theorem dJx4a65c_grow_92f84_25 : decode cJx4a65c_grow_92f84 25 = .ok (.iconst 1, 1) := by decide +kernel
theorem dJx4a65c_grow_92f84_26 : decode cJx4a65c_grow_92f84 26 = .ok (.ishr, 1) := by decide +kernel
theorem dJx4a65c_grow_92f84_27 : decode cJx4a65c_grow_92f84 27 = .ok (.invokestatic 73, 3) := by decide +kernel
theorem dJx4a65c_grow_92f84_30 : decode cJx4a65c_grow_92f84 30 = .ok (.istore_n 3, 1) := by decide +kernel
theorem dJx4a65c_grow_92f84_31 : decode cJx4a65c_grow_92f84 31 = .ok (.aload_n 0, 1) := by decide +kernel
theorem dJx4a65c_grow_92f84_32 : decode cJx4a65c_grow_92f84 32 = .ok (.aload_n 0, 1) := by decide +kernel
theorem dJx4a65c_grow_92f84_33 : decode cJx4a65c_grow_92f84 33 = .ok (.getfield 9, 3) := by decide +kernel
theorem dJx4a65c_grow_92f84_36 : decode cJx4a65c_grow_92f84 36 = .ok (.iload_n 3, 1) := by decide +kernel
theorem dJx4a65c_grow_92f84_37 : decode cJx4a65c_grow_92f84 37 = .ok (.invokestatic 66, 3) := by decide +kernel
theorem dJx4a65c_grow_92f84_40 : decode cJx4a65c_grow_92f84 40 = .ok (.dup_x1, 1) := by decide +kernel
theorem dJx4a65c_grow_92f84_41 : decode cJx4a65c_grow_92f84 41 = .ok (.putfield 9, 3) := by decide +kernel
theorem dJx4a65c_grow_92f84_44 : decode cJx4a65c_grow_92f84 44 = .ok (.areturn, 1) := by decide +kernel
theorem dJx4a65c_grow_92f84_45 : decode cJx4a65c_grow_92f84 45 = .ok (.aload_n 0, 1) := by decide +kernel
theorem dJx4a65c_grow_92f84_46 : decode cJx4a65c_grow_92f84 46 = .ok (.bipush 10, 2) := by decide +kernel
theorem dJx4a65c_grow_92f84_48 : decode cJx4a65c_grow_92f84 48 = .ok (.iload_n 1, 1) := by decide +kernel
theorem dJx4a65c_grow_92f84_49 : decode cJx4a65c_grow_92f84 49 = .ok (.invokestatic 79, 3) := by decide +kernel
theorem dJx4a65c_grow_92f84_52 : decode cJx4a65c_grow_92f84 52 = .ok (.anewarray 7, 3) := by decide +kernel
theorem dJx4a65c_grow_92f84_55 : decode cJx4a65c_grow_92f84 55 = .ok (.dup_x1, 1) := by decide +kernel
theorem dJx4a65c_grow_92f84_56 : decode cJx4a65c_grow_92f84 56 = .ok (.putfield 9, 3) := by decide +kernel
theorem dJx4a65c_grow_92f84_59 : decode cJx4a65c_grow_92f84 59 = .ok (.areturn, 1) := by decide +kernel
theorem dJx4a65c_grow_d5877_0 : decode cJx4a65c_grow_d5877 0 = .ok (.aload_n 0, 1) := by decide +kernel
theorem dJx4a65c_grow_d5877_1 : decode cJx4a65c_grow_d5877 1 = .ok (.aload_n 0, 1) := by decide +kernel
theorem dJx4a65c_grow_d5877_2 : decode cJx4a65c_grow_d5877 2 = .ok (.getfield 48, 3) := by decide +kernel
theorem dJx4a65c_grow_d5877_5 : decode cJx4a65c_grow_d5877 5 = .ok (.iconst 1, 1) := by decide +kernel
theorem dJx4a65c_grow_d5877_6 : decode cJx4a65c_grow_d5877 6 = .ok (.iadd, 1) := by decide +kernel
theorem dJx4a65c_grow_d5877_7 : decode cJx4a65c_grow_d5877 7 = .ok (.invokevirtual 69, 3) := by decide +kernel
theorem dJx4a65c_grow_d5877_10 : decode cJx4a65c_grow_d5877 10 = .ok (.areturn, 1) := by decide +kernel
theorem dJx4a65c_size_8abf5_0 : decode cJx4a65c_size_8abf5 0 = .ok (.aload_n 0, 1) := by decide +kernel
theorem dJx4a65c_size_8abf5_1 : decode cJx4a65c_size_8abf5 1 = .ok (.getfield 48, 3) := by decide +kernel
theorem dJx4a65c_size_8abf5_4 : decode cJx4a65c_size_8abf5 4 = .ok (.ireturn, 1) := by decide +kernel
theorem dJx4a65c_elementData_915e3_0 : decode cJx4a65c_elementData_915e3 0 = .ok (.aload_n 0, 1) := by decide +kernel
theorem dJx4a65c_elementData_915e3_1 : decode cJx4a65c_elementData_915e3 1 = .ok (.getfield 9, 3) := by decide +kernel
theorem dJx4a65c_elementData_915e3_4 : decode cJx4a65c_elementData_915e3 4 = .ok (.iload_n 1, 1) := by decide +kernel
theorem dJx4a65c_elementData_915e3_5 : decode cJx4a65c_elementData_915e3 5 = .ok (.aaload, 1) := by decide +kernel
theorem dJx4a65c_elementData_915e3_6 : decode cJx4a65c_elementData_915e3 6 = .ok (.areturn, 1) := by decide +kernel
theorem dJx4a65c_get_915e3_0 : decode cJx4a65c_get_915e3 0 = .ok (.iload_n 1, 1) := by decide +kernel
theorem dJx4a65c_get_915e3_1 : decode cJx4a65c_get_915e3 1 = .ok (.aload_n 0, 1) := by decide +kernel
theorem dJx4a65c_get_915e3_2 : decode cJx4a65c_get_915e3 2 = .ok (.getfield 48, 3) := by decide +kernel
theorem dJx4a65c_get_915e3_5 : decode cJx4a65c_get_915e3 5 = .ok (.invokestatic 118, 3) := by decide +kernel
theorem dJx4a65c_get_915e3_8 : decode cJx4a65c_get_915e3 8 = .ok (.pop, 1) := by decide +kernel
theorem dJx4a65c_get_915e3_9 : decode cJx4a65c_get_915e3 9 = .ok (.aload_n 0, 1) := by decide +kernel
theorem dJx4a65c_get_915e3_10 : decode cJx4a65c_get_915e3 10 = .ok (.iload_n 1, 1) := by decide +kernel
theorem dJx4a65c_get_915e3_11 : decode cJx4a65c_get_915e3 11 = .ok (.invokevirtual 123, 3) := by decide +kernel
theorem dJx4a65c_get_915e3_14 : decode cJx4a65c_get_915e3 14 = .ok (.areturn, 1) := by decide +kernel
theorem dJx4a65c_set_bcc79_0 : decode cJx4a65c_set_bcc79 0 = .ok (.iload_n 1, 1) := by decide +kernel
theorem dJx4a65c_set_bcc79_1 : decode cJx4a65c_set_bcc79 1 = .ok (.aload_n 0, 1) := by decide +kernel
theorem dJx4a65c_set_bcc79_2 : decode cJx4a65c_set_bcc79 2 = .ok (.getfield 48, 3) := by decide +kernel
theorem dJx4a65c_set_bcc79_5 : decode cJx4a65c_set_bcc79 5 = .ok (.invokestatic 118, 3) := by decide +kernel
theorem dJx4a65c_set_bcc79_8 : decode cJx4a65c_set_bcc79 8 = .ok (.pop, 1) := by decide +kernel
theorem dJx4a65c_set_bcc79_9 : decode cJx4a65c_set_bcc79 9 = .ok (.aload_n 0, 1) := by decide +kernel
theorem dJx4a65c_set_bcc79_10 : decode cJx4a65c_set_bcc79 10 = .ok (.iload_n 1, 1) := by decide +kernel
theorem dJx4a65c_set_bcc79_11 : decode cJx4a65c_set_bcc79 11 = .ok (.invokevirtual 123, 3) := by decide +kernel
theorem dJx4a65c_set_bcc79_14 : decode cJx4a65c_set_bcc79 14 = .ok (.astore_n 3, 1) := by decide +kernel
theorem dJx4a65c_set_bcc79_15 : decode cJx4a65c_set_bcc79 15 = .ok (.aload_n 0, 1) := by decide +kernel
theorem dJx4a65c_set_bcc79_16 : decode cJx4a65c_set_bcc79 16 = .ok (.getfield 9, 3) := by decide +kernel
theorem dJx4a65c_set_bcc79_19 : decode cJx4a65c_set_bcc79 19 = .ok (.iload_n 1, 1) := by decide +kernel
theorem dJx4a65c_set_bcc79_20 : decode cJx4a65c_set_bcc79 20 = .ok (.aload_n 2, 1) := by decide +kernel
theorem dJx4a65c_set_bcc79_21 : decode cJx4a65c_set_bcc79 21 = .ok (.aastore, 1) := by decide +kernel
theorem dJx4a65c_set_bcc79_22 : decode cJx4a65c_set_bcc79 22 = .ok (.aload_n 3, 1) := by decide +kernel
theorem dJx4a65c_set_bcc79_23 : decode cJx4a65c_set_bcc79 23 = .ok (.areturn, 1) := by decide +kernel
theorem dJx4a65c_add_7a177_0 : decode cJx4a65c_add_7a177 0 = .ok (.aload_n 0, 1) := by decide +kernel
theorem dJx4a65c_add_7a177_1 : decode cJx4a65c_add_7a177 1 = .ok (.iload_n 1, 1) := by decide +kernel
theorem dJx4a65c_add_7a177_2 : decode cJx4a65c_add_7a177 2 = .ok (.invokevirtual 135, 3) := by decide +kernel
theorem dJx4a65c_add_7a177_5 : decode cJx4a65c_add_7a177 5 = .ok (.aload_n 0, 1) := by decide +kernel
theorem dJx4a65c_add_7a177_6 : decode cJx4a65c_add_7a177 6 = .ok (.dup, 1) := by decide +kernel
theorem dJx4a65c_add_7a177_7 : decode cJx4a65c_add_7a177 7 = .ok (.getfield 63, 3) := by decide +kernel
theorem dJx4a65c_add_7a177_10 : decode cJx4a65c_add_7a177 10 = .ok (.iconst 1, 1) := by decide +kernel
theorem dJx4a65c_add_7a177_11 : decode cJx4a65c_add_7a177 11 = .ok (.iadd, 1) := by decide +kernel
theorem dJx4a65c_add_7a177_12 : decode cJx4a65c_add_7a177 12 = .ok (.putfield 63, 3) := by decide +kernel
theorem dJx4a65c_add_7a177_15 : decode cJx4a65c_add_7a177 15 = .ok (.aload_n 0, 1) := by decide +kernel
theorem dJx4a65c_add_7a177_16 : decode cJx4a65c_add_7a177 16 = .ok (.getfield 48, 3) := by decide +kernel
theorem dJx4a65c_add_7a177_19 : decode cJx4a65c_add_7a177 19 = .ok (.dup, 1) := by decide +kernel
theorem dJx4a65c_add_7a177_20 : decode cJx4a65c_add_7a177 20 = .ok (.istore_n 3, 1) := by decide +kernel
theorem dJx4a65c_add_7a177_21 : decode cJx4a65c_add_7a177 21 = .ok (.aload_n 0, 1) := by decide +kernel
theorem dJx4a65c_add_7a177_22 : decode cJx4a65c_add_7a177 22 = .ok (.getfield 9, 3) := by decide +kernel
theorem dJx4a65c_add_7a177_25 : decode cJx4a65c_add_7a177 25 = .ok (.dup, 1) := by decide +kernel
theorem dJx4a65c_add_7a177_26 : decode cJx4a65c_add_7a177 26 = .ok (.astore 4, 2) := by decide +kernel
theorem dJx4a65c_add_7a177_28 : decode cJx4a65c_add_7a177 28 = .ok (.arraylength, 1) := by decide +kernel
theorem dJx4a65c_add_7a177_29 : decode cJx4a65c_add_7a177 29 = .ok (.if_icmp .ne 9, 3) := by decide +kernel
theorem dJx4a65c_add_7a177_32 : decode cJx4a65c_add_7a177 32 = .ok (.aload_n 0, 1) := by decide +kernel
theorem dJx4a65c_add_7a177_33 : decode cJx4a65c_add_7a177 33 = .ok (.invokevirtual 129, 3) := by decide +kernel
theorem dJx4a65c_add_7a177_36 : decode cJx4a65c_add_7a177 36 = .ok (.astore 4, 2) := by decide +kernel
theorem dJx4a65c_add_7a177_38 : decode cJx4a65c_add_7a177 38 = .ok (.aload 4, 2) := by decide +kernel
theorem dJx4a65c_add_7a177_40 : decode cJx4a65c_add_7a177 40 = .ok (.iload_n 1, 1) := by decide +kernel
theorem dJx4a65c_add_7a177_41 : decode cJx4a65c_add_7a177 41 = .ok (.aload 4, 2) := by decide +kernel
theorem dJx4a65c_add_7a177_43 : decode cJx4a65c_add_7a177 43 = .ok (.iload_n 1, 1) := by decide +kernel
theorem dJx4a65c_add_7a177_44 : decode cJx4a65c_add_7a177 44 = .ok (.iconst 1, 1) := by decide +kernel
theorem dJx4a65c_add_7a177_45 : decode cJx4a65c_add_7a177 45 = .ok (.iadd, 1) := by decide +kernel
theorem dJx4a65c_add_7a177_46 : decode cJx4a65c_add_7a177 46 = .ok (.iload_n 3, 1) := by decide +kernel
theorem dJx4a65c_add_7a177_47 : decode cJx4a65c_add_7a177 47 = .ok (.iload_n 1, 1) := by decide +kernel
theorem dJx4a65c_add_7a177_48 : decode cJx4a65c_add_7a177 48 = .ok (.isub, 1) := by decide +kernel
theorem dJx4a65c_add_7a177_49 : decode cJx4a65c_add_7a177 49 = .ok (.invokestatic 112, 3) := by decide +kernel
theorem dJx4a65c_add_7a177_52 : decode cJx4a65c_add_7a177 52 = .ok (.aload 4, 2) := by decide +kernel
theorem dJx4a65c_add_7a177_54 : decode cJx4a65c_add_7a177 54 = .ok (.iload_n 1, 1) := by decide +kernel
theorem dJx4a65c_add_7a177_55 : decode cJx4a65c_add_7a177 55 = .ok (.aload_n 2, 1) := by decide +kernel
theorem dJx4a65c_add_7a177_56 : decode cJx4a65c_add_7a177 56 = .ok (.aastore, 1) := by decide +kernel
theorem dJx4a65c_add_7a177_57 : decode cJx4a65c_add_7a177 57 = .ok (.aload_n 0, 1) := by decide +kernel
theorem dJx4a65c_add_7a177_58 : decode cJx4a65c_add_7a177 58 = .ok (.iload_n 3, 1) := by decide +kernel
theorem dJx4a65c_add_7a177_59 : decode cJx4a65c_add_7a177 59 = .ok (.iconst 1, 1) := by decide +kernel
theorem dJx4a65c_add_7a177_60 : decode cJx4a65c_add_7a177 60 = .ok (.iadd, 1) := by decide +kernel
theorem dJx4a65c_add_7a177_61 : decode cJx4a65c_add_7a177 61 = .ok (.putfield 48, 3) := by decide +kernel
theorem dJx4a65c_add_7a177_64 : decode cJx4a65c_add_7a177 64 = .ok (.return_, 1) := by decide +kernel
theorem dJx4a65c_remove_915e3_0 : decode cJx4a65c_remove_915e3 0 = .ok (.iload_n 1, 1) := by decide +kernel
theorem dJx4a65c_remove_915e3_1 : decode cJx4a65c_remove_915e3 1 = .ok (.aload_n 0, 1) := by decide +kernel
theorem dJx4a65c_remove_915e3_2 : decode cJx4a65c_remove_915e3 2 = .ok (.getfield 48, 3) := by decide +kernel
theorem dJx4a65c_remove_915e3_5 : decode cJx4a65c_remove_915e3 5 = .ok (.invokestatic 118, 3) := by decide +kernel
theorem dJx4a65c_remove_915e3_8 : decode cJx4a65c_remove_915e3 8 = .ok (.pop, 1) := by decide +kernel
theorem dJx4a65c_remove_915e3_9 : decode cJx4a65c_remove_915e3 9 = .ok (.aload_n 0, 1) := by decide +kernel
theorem dJx4a65c_remove_915e3_10 : decode cJx4a65c_remove_915e3 10 = .ok (.getfield 9, 3) := by decide +kernel
theorem dJx4a65c_remove_915e3_13 : decode cJx4a65c_remove_915e3 13 = .ok (.astore_n 2, 1) := by decide +kernel
theorem dJx4a65c_remove_915e3_14 : decode cJx4a65c_remove_915e3 14 = .ok (.aload_n 2, 1) := by decide +kernel
theorem dJx4a65c_remove_915e3_15 : decode cJx4a65c_remove_915e3 15 = .ok (.iload_n 1, 1) := by decide +kernel
theorem dJx4a65c_remove_915e3_16 : decode cJx4a65c_remove_915e3 16 = .ok (.aaload, 1) := by decide +kernel
theorem dJx4a65c_remove_915e3_17 : decode cJx4a65c_remove_915e3 17 = .ok (.astore_n 3, 1) := by decide +kernel
theorem dJx4a65c_remove_915e3_18 : decode cJx4a65c_remove_915e3 18 = .ok (.aload_n 0, 1) := by decide +kernel
theorem dJx4a65c_remove_915e3_19 : decode cJx4a65c_remove_915e3 19 = .ok (.aload_n 2, 1) := by decide +kernel
theorem dJx4a65c_remove_915e3_20 : decode cJx4a65c_remove_915e3 20 = .ok (.iload_n 1, 1) := by decide +kernel
theorem dJx4a65c_remove_915e3_21 : decode cJx4a65c_remove_915e3 21 = .ok (.invokevirtual 144, 3) := by decide +kernel
theorem dJx4a65c_remove_915e3_24 : decode cJx4a65c_remove_915e3 24 = .ok (.aload_n 3, 1) := by decide +kernel
theorem dJx4a65c_remove_915e3_25 : decode cJx4a65c_remove_915e3 25 = .ok (.areturn, 1) := by decide +kernel
theorem dJx4a65c_fastRemove_b59b0_0 : decode cJx4a65c_fastRemove_b59b0 0 = .ok (.aload_n 0, 1) := by decide +kernel
theorem dJx4a65c_fastRemove_b59b0_1 : decode cJx4a65c_fastRemove_b59b0 1 = .ok (.dup, 1) := by decide +kernel
theorem dJx4a65c_fastRemove_b59b0_2 : decode cJx4a65c_fastRemove_b59b0 2 = .ok (.getfield 63, 3) := by decide +kernel
theorem dJx4a65c_fastRemove_b59b0_5 : decode cJx4a65c_fastRemove_b59b0 5 = .ok (.iconst 1, 1) := by decide +kernel
theorem dJx4a65c_fastRemove_b59b0_6 : decode cJx4a65c_fastRemove_b59b0 6 = .ok (.iadd, 1) := by decide +kernel
theorem dJx4a65c_fastRemove_b59b0_7 : decode cJx4a65c_fastRemove_b59b0 7 = .ok (.putfield 63, 3) := by decide +kernel
theorem dJx4a65c_fastRemove_b59b0_10 : decode cJx4a65c_fastRemove_b59b0 10 = .ok (.aload_n 0, 1) := by decide +kernel
theorem dJx4a65c_fastRemove_b59b0_11 : decode cJx4a65c_fastRemove_b59b0 11 = .ok (.getfield 48, 3) := by decide +kernel
theorem dJx4a65c_fastRemove_b59b0_14 : decode cJx4a65c_fastRemove_b59b0 14 = .ok (.iconst 1, 1) := by decide +kernel
theorem dJx4a65c_fastRemove_b59b0_15 : decode cJx4a65c_fastRemove_b59b0 15 = .ok (.isub, 1) := by decide +kernel
theorem dJx4a65c_fastRemove_b59b0_16 : decode cJx4a65c_fastRemove_b59b0 16 = .ok (.dup, 1) := by decide +kernel
theorem dJx4a65c_fastRemove_b59b0_17 : decode cJx4a65c_fastRemove_b59b0 17 = .ok (.istore_n 3, 1) := by decide +kernel
theorem dJx4a65c_fastRemove_b59b0_18 : decode cJx4a65c_fastRemove_b59b0 18 = .ok (.iload_n 2, 1) := by decide +kernel
theorem dJx4a65c_fastRemove_b59b0_19 : decode cJx4a65c_fastRemove_b59b0 19 = .ok (.if_icmp .le 15, 3) := by decide +kernel
theorem dJx4a65c_fastRemove_b59b0_22 : decode cJx4a65c_fastRemove_b59b0 22 = .ok (.aload_n 1, 1) := by decide +kernel
theorem dJx4a65c_fastRemove_b59b0_23 : decode cJx4a65c_fastRemove_b59b0 23 = .ok (.iload_n 2, 1) := by decide +kernel
theorem dJx4a65c_fastRemove_b59b0_24 : decode cJx4a65c_fastRemove_b59b0 24 = .ok (.iconst 1, 1) := by decide +kernel
theorem dJx4a65c_fastRemove_b59b0_25 : decode cJx4a65c_fastRemove_b59b0 25 = .ok (.iadd, 1) := by decide +kernel
theorem dJx4a65c_fastRemove_b59b0_26 : decode cJx4a65c_fastRemove_b59b0 26 = .ok (.aload_n 1, 1) := by decide +kernel
theorem dJx4a65c_fastRemove_b59b0_27 : decode cJx4a65c_fastRemove_b59b0 27 = .ok (.iload_n 2, 1) := by decide +kernel
theorem dJx4a65c_fastRemove_b59b0_28 : decode cJx4a65c_fastRemove_b59b0 28 = .ok (.iload_n 3, 1) := by decide +kernel
theorem dJx4a65c_fastRemove_b59b0_29 : decode cJx4a65c_fastRemove_b59b0 29 = .ok (.iload_n 2, 1) := by decide +kernel
theorem dJx4a65c_fastRemove_b59b0_30 : decode cJx4a65c_fastRemove_b59b0 30 = .ok (.isub, 1) := by decide +kernel
theorem dJx4a65c_fastRemove_b59b0_31 : decode cJx4a65c_fastRemove_b59b0 31 = .ok (.invokestatic 112, 3) := by decide +kernel
theorem dJx4a65c_fastRemove_b59b0_34 : decode cJx4a65c_fastRemove_b59b0 34 = .ok (.aload_n 1, 1) := by decide +kernel
theorem dJx4a65c_fastRemove_b59b0_35 : decode cJx4a65c_fastRemove_b59b0 35 = .ok (.aload_n 0, 1) := by decide +kernel
theorem dJx4a65c_fastRemove_b59b0_36 : decode cJx4a65c_fastRemove_b59b0 36 = .ok (.iload_n 3, 1) := by decide +kernel
theorem dJx4a65c_fastRemove_b59b0_37 : decode cJx4a65c_fastRemove_b59b0 37 = .ok (.dup_x1, 1) := by decide +kernel
theorem dJx4a65c_fastRemove_b59b0_38 : decode cJx4a65c_fastRemove_b59b0 38 = .ok (.putfield 48, 3) := by decide +kernel
theorem dJx4a65c_fastRemove_b59b0_41 : decode cJx4a65c_fastRemove_b59b0 41 = .ok (.aconst_null, 1) := by decide +kernel
theorem dJx4a65c_fastRemove_b59b0_42 : decode cJx4a65c_fastRemove_b59b0 42 = .ok (.aastore, 1) := by decide +kernel
theorem dJx4a65c_fastRemove_b59b0_43 : decode cJx4a65c_fastRemove_b59b0 43 = .ok (.return_, 1) := by decide +kernel
theorem dJx4a65c_clear_da8c8_0 : decode cJx4a65c_clear_da8c8 0 = .ok (.aload_n 0, 1) := by decide +kernel
theorem dJx4a65c_clear_da8c8_1 : decode cJx4a65c_clear_da8c8 1 = .ok (.dup, 1) := by decide +kernel
theorem dJx4a65c_clear_da8c8_2 : decode cJx4a65c_clear_da8c8 2 = .ok (.getfield 63, 3) := by decide +kernel
theorem dJx4a65c_clear_da8c8_5 : decode cJx4a65c_clear_da8c8 5 = .ok (.iconst 1, 1) := by decide +kernel
theorem dJx4a65c_clear_da8c8_6 : decode cJx4a65c_clear_da8c8 6 = .ok (.iadd, 1) := by decide +kernel
theorem dJx4a65c_clear_da8c8_7 : decode cJx4a65c_clear_da8c8 7 = .ok (.putfield 63, 3) := by decide +kernel
theorem dJx4a65c_clear_da8c8_10 : decode cJx4a65c_clear_da8c8 10 = .ok (.aload_n 0, 1) := by decide +kernel
theorem dJx4a65c_clear_da8c8_11 : decode cJx4a65c_clear_da8c8 11 = .ok (.getfield 9, 3) := by decide +kernel
theorem dJx4a65c_clear_da8c8_14 : decode cJx4a65c_clear_da8c8 14 = .ok (.astore_n 1, 1) := by decide +kernel
theorem dJx4a65c_clear_da8c8_15 : decode cJx4a65c_clear_da8c8 15 = .ok (.aload_n 0, 1) := by decide +kernel
theorem dJx4a65c_clear_da8c8_16 : decode cJx4a65c_clear_da8c8 16 = .ok (.getfield 48, 3) := by decide +kernel
theorem dJx4a65c_clear_da8c8_19 : decode cJx4a65c_clear_da8c8 19 = .ok (.istore_n 2, 1) := by decide +kernel
theorem dJx4a65c_clear_da8c8_20 : decode cJx4a65c_clear_da8c8 20 = .ok (.aload_n 0, 1) := by decide +kernel
theorem dJx4a65c_clear_da8c8_21 : decode cJx4a65c_clear_da8c8 21 = .ok (.iconst 0, 1) := by decide +kernel
theorem dJx4a65c_clear_da8c8_22 : decode cJx4a65c_clear_da8c8 22 = .ok (.dup_x1, 1) := by decide +kernel
theorem dJx4a65c_clear_da8c8_23 : decode cJx4a65c_clear_da8c8 23 = .ok (.putfield 48, 3) := by decide +kernel
theorem dJx4a65c_clear_da8c8_26 : decode cJx4a65c_clear_da8c8 26 = .ok (.istore_n 3, 1) := by decide +kernel
theorem dJx4a65c_clear_da8c8_27 : decode cJx4a65c_clear_da8c8 27 = .ok (.iload_n 3, 1) := by decide +kernel
theorem dJx4a65c_clear_da8c8_28 : decode cJx4a65c_clear_da8c8 28 = .ok (.iload_n 2, 1) := by decide +kernel
theorem dJx4a65c_clear_da8c8_29 : decode cJx4a65c_clear_da8c8 29 = .ok (.if_icmp .ge 13, 3) := by decide +kernel
theorem dJx4a65c_clear_da8c8_32 : decode cJx4a65c_clear_da8c8 32 = .ok (.aload_n 1, 1) := by decide +kernel
theorem dJx4a65c_clear_da8c8_33 : decode cJx4a65c_clear_da8c8 33 = .ok (.iload_n 3, 1) := by decide +kernel
theorem dJx4a65c_clear_da8c8_34 : decode cJx4a65c_clear_da8c8 34 = .ok (.aconst_null, 1) := by decide +kernel
theorem dJx4a65c_clear_da8c8_35 : decode cJx4a65c_clear_da8c8 35 = .ok (.aastore, 1) := by decide +kernel
theorem dJx4a65c_clear_da8c8_36 : decode cJx4a65c_clear_da8c8 36 = .ok (.iinc 3 1, 3) := by decide +kernel
theorem dJx4a65c_clear_da8c8_39 : decode cJx4a65c_clear_da8c8 39 = .ok (.goto (-12), 3) := by decide +kernel
theorem dJx4a65c_clear_da8c8_42 : decode cJx4a65c_clear_da8c8 42 = .ok (.return_, 1) := by decide +kernel
theorem dJx4a65c_rangeCheckForAdd_d00df_0 : decode cJx4a65c_rangeCheckForAdd_d00df 0 = .ok (.iload_n 1, 1) := by decide +kernel
theorem dJx4a65c_rangeCheckForAdd_d00df_1 : decode cJx4a65c_rangeCheckForAdd_d00df 1 = .ok (.aload_n 0, 1) := by decide +kernel
theorem dJx4a65c_rangeCheckForAdd_d00df_2 : decode cJx4a65c_rangeCheckForAdd_d00df 2 = .ok (.getfield 48, 3) := by decide +kernel
theorem dJx4a65c_rangeCheckForAdd_d00df_5 : decode cJx4a65c_rangeCheckForAdd_d00df 5 = .ok (.if_icmp .gt 7, 3) := by decide +kernel
theorem dJx4a65c_rangeCheckForAdd_d00df_8 : decode cJx4a65c_rangeCheckForAdd_d00df 8 = .ok (.iload_n 1, 1) := by decide +kernel
theorem dJx4a65c_rangeCheckForAdd_d00df_9 : decode cJx4a65c_rangeCheckForAdd_d00df 9 = .ok (.ifCond .ge 16, 3) := by decide +kernel
theorem dJx4a65c_rangeCheckForAdd_d00df_12 : decode cJx4a65c_rangeCheckForAdd_d00df 12 = .ok (.new 187, 3) := by decide +kernel
theorem dJx4a65c_rangeCheckForAdd_d00df_15 : decode cJx4a65c_rangeCheckForAdd_d00df 15 = .ok (.dup, 1) := by decide +kernel
theorem dJx4a65c_rangeCheckForAdd_d00df_16 : decode cJx4a65c_rangeCheckForAdd_d00df 16 = .ok (.aload_n 0, 1) := by decide +kernel
theorem dJx4a65c_rangeCheckForAdd_d00df_17 : decode cJx4a65c_rangeCheckForAdd_d00df 17 = .ok (.iload_n 1, 1) := by decide +kernel
theorem dJx4a65c_rangeCheckForAdd_d00df_18 : decode cJx4a65c_rangeCheckForAdd_d00df 18 = .ok (.invokevirtual 198, 3) := by decide +kernel
theorem dJx4a65c_rangeCheckForAdd_d00df_21 : decode cJx4a65c_rangeCheckForAdd_d00df 21 = .ok (.invokespecial 193, 3) := by decide +kernel
theorem dJx4a65c_rangeCheckForAdd_d00df_24 : decode cJx4a65c_rangeCheckForAdd_d00df 24 = .ok (.athrow, 1) := by decide +kernel
theorem dJx4a65c_rangeCheckForAdd_d00df_25 : decode cJx4a65c_rangeCheckForAdd_d00df 25 = .ok (.return_, 1) := by decide +kernel
theorem dJx4a65c_outOfBoundsMsg_b52d3_0 : decode cJx4a65c_outOfBoundsMsg_b52d3 0 = .ok (.new 20, 3) := by decide +kernel
theorem dJx4a65c_outOfBoundsMsg_b52d3_3 : decode cJx4a65c_outOfBoundsMsg_b52d3 3 = .ok (.dup, 1) := by decide +kernel
theorem dJx4a65c_outOfBoundsMsg_b52d3_4 : decode cJx4a65c_outOfBoundsMsg_b52d3 4 = .ok (.invokespecial 22, 3) := by decide +kernel
theorem dJx4a65c_outOfBoundsMsg_b52d3_7 : decode cJx4a65c_outOfBoundsMsg_b52d3 7 = .ok (.ldc 201, 2) := by decide +kernel
theorem dJx4a65c_outOfBoundsMsg_b52d3_9 : decode cJx4a65c_outOfBoundsMsg_b52d3 9 = .ok (.invokevirtual 25, 3) := by decide +kernel
theorem dJx4a65c_outOfBoundsMsg_b52d3_12 : decode cJx4a65c_outOfBoundsMsg_b52d3 12 = .ok (.iload_n 1, 1) := by decide +kernel
theorem dJx4a65c_outOfBoundsMsg_b52d3_13 : decode cJx4a65c_outOfBoundsMsg_b52d3 13 = .ok (.invokevirtual 29, 3) := by decide +kernel
theorem dJx4a65c_outOfBoundsMsg_b52d3_16 : decode cJx4a65c_outOfBoundsMsg_b52d3 16 = .ok (.ldc 203, 2) := by decide +kernel
theorem dJx4a65c_outOfBoundsMsg_b52d3_18 : decode cJx4a65c_outOfBoundsMsg_b52d3 18 = .ok (.invokevirtual 25, 3) := by decide +kernel
theorem dJx4a65c_outOfBoundsMsg_b52d3_21 : decode cJx4a65c_outOfBoundsMsg_b52d3 21 = .ok (.aload_n 0, 1) := by decide +kernel
theorem dJx4a65c_outOfBoundsMsg_b52d3_22 : decode cJx4a65c_outOfBoundsMsg_b52d3 22 = .ok (.getfield 48, 3) := by decide +kernel
theorem dJx4a65c_outOfBoundsMsg_b52d3_25 : decode cJx4a65c_outOfBoundsMsg_b52d3 25 = .ok (.invokevirtual 29, 3) := by decide +kernel
theorem dJx4a65c_outOfBoundsMsg_b52d3_28 : decode cJx4a65c_outOfBoundsMsg_b52d3 28 = .ok (.invokevirtual 32, 3) := by decide +kernel
theorem dJx4a65c_outOfBoundsMsg_b52d3_31 : decode cJx4a65c_outOfBoundsMsg_b52d3 31 = .ok (.areturn, 1) := by decide +kernel
theorem dJ15_checkIndex_7cf53_0 : decode cJ15_checkIndex_7cf53 0 = .ok (.iload_n 0, 1) := by decide +kernel
theorem dJ15_checkIndex_7cf53_1 : decode cJ15_checkIndex_7cf53 1 = .ok (.iload_n 1, 1) := by decide +kernel
theorem dJ15_checkIndex_7cf53_2 : decode cJ15_checkIndex_7cf53 2 = .ok (.aconst_null, 1) := by decide +kernel
theorem dJ15_checkIndex_7cf53_3 : decode cJ15_checkIndex_7cf53 3 = .ok (.invokestatic 105, 3) := by decide +kernel
theorem dJ15_checkIndex_7cf53_6 : decode cJ15_checkIndex_7cf53 6 = .ok (.ireturn, 1) := by decide +kernel
theorem dJ8_newLength_cabcc_0 : decode cJ8_newLength_cabcc 0 = .ok (.iload_n 0, 1) := by decide +kernel
theorem dJ8_newLength_cabcc_1 : decode cJ8_newLength_cabcc 1 = .ok (.iload_n 1, 1) := by decide +kernel
theorem dJ8_newLength_cabcc_2 : decode cJ8_newLength_cabcc 2 = .ok (.iload_n 2, 1) := by decide +kernel
theorem dJ8_newLength_cabcc_3 : decode cJ8_newLength_cabcc 3 = .ok (.invokestatic 194, 3) := by decide +kernel
theorem dJ8_newLength_cabcc_6 : decode cJ8_newLength_cabcc 6 = .ok (.iadd, 1) := by decide +kernel
theorem dJ8_newLength_cabcc_7 : decode cJ8_newLength_cabcc 7 = .ok (.istore_n 3, 1) := by decide +kernel
theorem dJ8_newLength_cabcc_8 : decode cJ8_newLength_cabcc 8 = .ok (.iconst 0, 1) := by decide +kernel
theorem dJ8_newLength_cabcc_9 : decode cJ8_newLength_cabcc 9 = .ok (.iload_n 3, 1) := by decide +kernel
theorem dJ8_newLength_cabcc_10 : decode cJ8_newLength_cabcc 10 = .ok (.if_icmp .ge 11, 3) := by decide +kernel
theorem dJ8_newLength_cabcc_13 : decode cJ8_newLength_cabcc 13 = .ok (.iload_n 3, 1) := by decide +kernel
theorem dJ8_newLength_cabcc_14 : decode cJ8_newLength_cabcc 14 = .ok (.ldc 200, 2) := by decide +kernel
theorem dJ8_newLength_cabcc_16 : decode cJ8_newLength_cabcc 16 = .ok (.if_icmp .gt 5, 3) := by decide +kernel
theorem dJ8_newLength_cabcc_19 : decode cJ8_newLength_cabcc 19 = .ok (.iload_n 3, 1) := by decide +kernel
theorem dJ8_newLength_cabcc_20 : decode cJ8_newLength_cabcc 20 = .ok (.ireturn, 1) := by decide +kernel
theorem dJ8_newLength_cabcc_21 : decode cJ8_newLength_cabcc 21 = .ok (.iload_n 0, 1) := by decide +kernel
theorem dJ8_newLength_cabcc_22 : decode cJ8_newLength_cabcc 22 = .ok (.iload_n 1, 1) := by decide +kernel
theorem dJ8_newLength_cabcc_23 : decode cJ8_newLength_cabcc 23 = .ok (.invokestatic 201, 3) := by decide +kernel
theorem dJ8_newLength_cabcc_26 : decode cJ8_newLength_cabcc 26 = .ok (.ireturn, 1) := by decide +kernel
theorem dJ8_hugeLength_7cf53_0 : decode cJ8_hugeLength_7cf53 0 = .ok (.iload_n 0, 1) := by decide +kernel
theorem dJ8_hugeLength_7cf53_1 : decode cJ8_hugeLength_7cf53 1 = .ok (.iload_n 1, 1) := by decide +kernel
theorem dJ8_hugeLength_7cf53_2 : decode cJ8_hugeLength_7cf53 2 = .ok (.iadd, 1) := by decide +kernel
theorem dJ8_hugeLength_7cf53_3 : decode cJ8_hugeLength_7cf53 3 = .ok (.istore_n 2, 1) := by decide +kernel
theorem dJ8_hugeLength_7cf53_4 : decode cJ8_hugeLength_7cf53 4 = .ok (.iload_n 2, 1) := by decide +kernel
theorem dJ8_hugeLength_7cf53_5 : decode cJ8_hugeLength_7cf53 5 = .ok (.ifCond .ge 44, 3) := by decide +kernel
theorem dJ8_hugeLength_7cf53_8 : decode cJ8_hugeLength_7cf53 8 = .ok (.new 204, 3) := by decide +kernel
theorem dJ8_hugeLength_7cf53_11 : decode cJ8_hugeLength_7cf53 11 = .ok (.dup, 1) := by decide +kernel
theorem dJ8_hugeLength_7cf53_12 : decode cJ8_hugeLength_7cf53 12 = .ok (.new 89, 3) := by decide +kernel
theorem dJ8_hugeLength_7cf53_15 : decode cJ8_hugeLength_7cf53 15 = .ok (.dup, 1) := by decide +kernel
theorem dJ8_hugeLength_7cf53_16 : decode cJ8_hugeLength_7cf53 16 = .ok (.invokespecial 91, 3) := by decide +kernel
theorem dJ8_hugeLength_7cf53_19 : decode cJ8_hugeLength_7cf53 19 = .ok (.ldc 206, 2) := by decide +kernel
theorem dJ8_hugeLength_7cf53_21 : decode cJ8_hugeLength_7cf53 21 = .ok (.invokevirtual 94, 3) := by decide +kernel
theorem dJ8_hugeLength_7cf53_24 : decode cJ8_hugeLength_7cf53 24 = .ok (.iload_n 0, 1) := by decide +kernel
theorem dJ8_hugeLength_7cf53_25 : decode cJ8_hugeLength_7cf53 25 = .ok (.invokevirtual 98, 3) := by decide +kernel
theorem dJ8_hugeLength_7cf53_28 : decode cJ8_hugeLength_7cf53 28 = .ok (.ldc 208, 2) := by decide +kernel
theorem dJ8_hugeLength_7cf53_30 : decode cJ8_hugeLength_7cf53 30 = .ok (.invokevirtual 94, 3) := by decide +kernel
theorem dJ8_hugeLength_7cf53_33 : decode cJ8_hugeLength_7cf53 33 = .ok (.iload_n 1, 1) := by decide +kernel
theorem dJ8_hugeLength_7cf53_34 : decode cJ8_hugeLength_7cf53 34 = .ok (.invokevirtual 98, 3) := by decide +kernel
theorem dJ8_hugeLength_7cf53_37 : decode cJ8_hugeLength_7cf53 37 = .ok (.ldc 210, 2) := by decide +kernel
theorem dJ8_hugeLength_7cf53_39 : decode cJ8_hugeLength_7cf53 39 = .ok (.invokevirtual 94, 3) := by decide +kernel
theorem dJ8_hugeLength_7cf53_42 : decode cJ8_hugeLength_7cf53 42 = .ok (.invokevirtual 101, 3) := by decide +kernel
theorem dJ8_hugeLength_7cf53_45 : decode cJ8_hugeLength_7cf53 45 = .ok (.invokespecial 212, 3) := by decide +kernel
theorem dJ8_hugeLength_7cf53_48 : decode cJ8_hugeLength_7cf53 48 = .ok (.athrow, 1) := by decide +kernel
theorem dJ8_hugeLength_7cf53_49 : decode cJ8_hugeLength_7cf53 49 = .ok (.iload_n 2, 1) := by decide +kernel
theorem dJ8_hugeLength_7cf53_50 : decode cJ8_hugeLength_7cf53 50 = .ok (.ldc 200, 2) := by decide +kernel
theorem dJ8_hugeLength_7cf53_52 : decode cJ8_hugeLength_7cf53 52 = .ok (.if_icmp .gt 6, 3) := by decide +kernel
theorem dJ8_hugeLength_7cf53_55 : decode cJ8_hugeLength_7cf53 55 = .ok (.ldc 200, 2) := by decide +kernel
theorem dJ8_hugeLength_7cf53_57 : decode cJ8_hugeLength_7cf53 57 = .ok (.ireturn, 1) := by decide +kernel
theorem dJ8_hugeLength_7cf53_58 : decode cJ8_hugeLength_7cf53 58 = .ok (.iload_n 2, 1) := by decide +kernel
theorem dJ8_hugeLength_7cf53_59 : decode cJ8_hugeLength_7cf53 59 = .ok (.ireturn, 1) := by decide +kernel
theorem dJ3_checkIndex_8e157_0 : decode cJ3_checkIndex_8e157 0 = .ok (.iload_n 0, 1) := by decide +kernel
theorem dJ3_checkIndex_8e157_1 : decode cJ3_checkIndex_8e157 1 = .ok (.ifCond .lt 8, 3) := by decide +kernel
theorem dJ3_checkIndex_8e157_4 : decode cJ3_checkIndex_8e157 4 = .ok (.iload_n 0, 1) := by decide +kernel
theorem dJ3_checkIndex_8e157_5 : decode cJ3_checkIndex_8e157 5 = .ok (.iload_n 1, 1) := by decide +kernel
theorem dJ3_checkIndex_8e157_6 : decode cJ3_checkIndex_8e157 6 = .ok (.if_icmp .lt 10, 3) := by decide +kernel
theorem dJ3_checkIndex_8e157_9 : decode cJ3_checkIndex_8e157 9 = .ok (.aload_n 2, 1) := by decide +kernel
theorem dJ3_checkIndex_8e157_10 : decode cJ3_checkIndex_8e157 10 = .ok (.iload_n 0, 1) := by decide +kernel
theorem dJ3_checkIndex_8e157_11 : decode cJ3_checkIndex_8e157 11 = .ok (.iload_n 1, 1) := by decide +kernel
theorem dJ3_checkIndex_8e157_12 : decode cJ3_checkIndex_8e157 12 = .ok (.invokestatic 95, 3) := by decide +kernel
theorem dJ3_checkIndex_8e157_15 : decode cJ3_checkIndex_8e157 15 = .ok (.athrow, 1) := by decide +kernel
theorem dJ3_checkIndex_8e157_16 : decode cJ3_checkIndex_8e157 16 = .ok (.iload_n 0, 1) := by decide +kernel
theorem dJ3_checkIndex_8e157_17 : decode cJ3_checkIndex_8e157 17 = .ok (.ireturn, 1) := by decide +kernel
theorem dL_add_0 : decode cL_add 0 = .ok (.aload_n 2, 1) := by decide +kernel
theorem dL_add_1 : decode cL_add 1 = .ok (.iconst 0, 1) := by decide +kernel
theorem dL_add_2 : decode cL_add 2 = .ok (.aload_n 0, 1) := by decide +kernel
theorem dL_add_3 : decode cL_add 3 = .ok (.iload_n 1, 1) := by decide +kernel
theorem dL_add_4 : decode cL_add 4 = .ok (.invokevirtual 7, 3) := by decide +kernel
theorem dL_add_7 : decode cL_add 7 = .ok (.i2l, 1) := by decide +kernel
theorem dL_add_8 : decode cL_add 8 = .ok (.lastore, 1) := by decide +kernel
theorem dL_add_9 : decode cL_add 9 = .ok (.goto 6, 3) := by decide +kernel
theorem dL_add_12 : decode cL_add 12 = .ok (.astore_n 3, 1) := by decide +kernel
theorem dL_add_13 : decode cL_add 13 = .ok (.iconst 1, 1) := by decide +kernel
theorem dL_add_14 : decode cL_add 14 = .ok (.ireturn, 1) := by decide +kernel
theorem dL_add_15 : decode cL_add 15 = .ok (.iconst 0, 1) := by decide +kernel
theorem dL_add_16 : decode cL_add 16 = .ok (.ireturn, 1) := by decide +kernel
theorem dL_set_0 : decode cL_set 0 = .ok (.aload_n 2, 1) := by decide +kernel
theorem dL_set_1 : decode cL_set 1 = .ok (.iconst 0, 1) := by decide +kernel
theorem dL_set_2 : decode cL_set 2 = .ok (.aload_n 0, 1) := by decide +kernel
theorem dL_set_3 : decode cL_set 3 = .ok (.iload_n 1, 1) := by decide +kernel
theorem dL_set_4 : decode cL_set 4 = .ok (.invokevirtual 15, 3) := by decide +kernel
theorem dL_set_7 : decode cL_set 7 = .ok (.i2l, 1) := by decide +kernel
theorem dL_set_8 : decode cL_set 8 = .ok (.lastore, 1) := by decide +kernel
theorem dL_set_9 : decode cL_set 9 = .ok (.goto 6, 3) := by decide +kernel
theorem dL_set_12 : decode cL_set 12 = .ok (.astore_n 3, 1) := by decide +kernel
theorem dL_set_13 : decode cL_set 13 = .ok (.iconst 1, 1) := by decide +kernel
theorem dL_set_14 : decode cL_set 14 = .ok (.ireturn, 1) := by decide +kernel
theorem dL_set_15 : decode cL_set 15 = .ok (.iconst 0, 1) := by decide +kernel
theorem dL_set_16 : decode cL_set 16 = .ok (.ireturn, 1) := by decide +kernel
theorem dL_find_0 : decode cL_find 0 = .ok (.aload_n 3, 1) := by decide +kernel
theorem dL_find_1 : decode cL_find 1 = .ok (.iconst 0, 1) := by decide +kernel
theorem dL_find_2 : decode cL_find 2 = .ok (.aload_n 0, 1) := by decide +kernel
theorem dL_find_3 : decode cL_find 3 = .ok (.iload_n 1, 1) := by decide +kernel
theorem dL_find_4 : decode cL_find 4 = .ok (.iload_n 2, 1) := by decide +kernel
theorem dL_find_5 : decode cL_find 5 = .ok (.invokevirtual 18, 3) := by decide +kernel
theorem dL_find_8 : decode cL_find 8 = .ok (.i2l, 1) := by decide +kernel
theorem dL_find_9 : decode cL_find 9 = .ok (.lastore, 1) := by decide +kernel
theorem dL_find_10 : decode cL_find 10 = .ok (.goto 7, 3) := by decide +kernel
theorem dL_find_13 : decode cL_find 13 = .ok (.astore 4, 2) := by decide +kernel
theorem dL_find_15 : decode cL_find 15 = .ok (.iconst 1, 1) := by decide +kernel
theorem dL_find_16 : decode cL_find 16 = .ok (.ireturn, 1) := by decide +kernel
theorem dL_find_17 : decode cL_find 17 = .ok (.iconst 0, 1) := by decide +kernel
theorem dL_find_18 : decode cL_find 18 = .ok (.ireturn, 1) := by decide +kernel
theorem dL_append_0 : decode cL_append 0 = .ok (.aload 6, 2) := by decide +kernel
theorem dL_append_2 : decode cL_append 2 = .ok (.iconst 0, 1) := by decide +kernel
theorem dL_append_3 : decode cL_append 3 = .ok (.aload_n 0, 1) := by decide +kernel
theorem dL_append_4 : decode cL_append 4 = .ok (.iload_n 1, 1) := by decide +kernel
theorem dL_append_5 : decode cL_append 5 = .ok (.iload_n 2, 1) := by decide +kernel
theorem dL_append_6 : decode cL_append 6 = .ok (.iload_n 3, 1) := by decide +kernel
theorem dL_append_7 : decode cL_append 7 = .ok (.iload 4, 2) := by decide +kernel
theorem dL_append_9 : decode cL_append 9 = .ok (.iload 5, 2) := by decide +kernel
theorem dL_append_11 : decode cL_append 11 = .ok (.invokevirtual 22, 3) := by decide +kernel
theorem dL_append_14 : decode cL_append 14 = .ok (.i2l, 1) := by decide +kernel
theorem dL_append_15 : decode cL_append 15 = .ok (.lastore, 1) := by decide +kernel
theorem dL_append_16 : decode cL_append 16 = .ok (.goto 7, 3) := by decide +kernel
theorem dL_append_19 : decode cL_append 19 = .ok (.astore 7, 2) := by decide +kernel
theorem dL_append_21 : decode cL_append 21 = .ok (.iconst 1, 1) := by decide +kernel
theorem dL_append_22 : decode cL_append 22 = .ok (.ireturn, 1) := by decide +kernel
theorem dL_append_23 : decode cL_append 23 = .ok (.iconst 0, 1) := by decide +kernel
theorem dL_append_24 : decode cL_append 24 = .ok (.ireturn, 1) := by decide +kernel
theorem dL_fill_0 : decode cL_fill 0 = .ok (.aload_n 1, 1) := by decide +kernel
theorem dL_fill_1 : decode cL_fill 1 = .ok (.iconst 0, 1) := by decide +kernel
theorem dL_fill_2 : decode cL_fill 2 = .ok (.aload_n 0, 1) := by decide +kernel
theorem dL_fill_3 : decode cL_fill 3 = .ok (.invokevirtual 28, 3) := by decide +kernel
theorem dL_fill_6 : decode cL_fill 6 = .ok (.i2l, 1) := by decide +kernel
theorem dL_fill_7 : decode cL_fill 7 = .ok (.lastore, 1) := by decide +kernel
theorem dL_fill_8 : decode cL_fill 8 = .ok (.goto 6, 3) := by decide +kernel
theorem dL_fill_11 : decode cL_fill 11 = .ok (.astore_n 2, 1) := by decide +kernel
theorem dL_fill_12 : decode cL_fill 12 = .ok (.iconst 1, 1) := by decide +kernel
theorem dL_fill_13 : decode cL_fill 13 = .ok (.ireturn, 1) := by decide +kernel
theorem dL_fill_14 : decode cL_fill 14 = .ok (.iconst 0, 1) := by decide +kernel
theorem dL_fill_15 : decode cL_fill 15 = .ok (.ireturn, 1) := by decide +kernel
theorem dL_run_0 : decode cL_run 0 = .ok (.aload_n 1, 1) := by decide +kernel
theorem dL_run_1 : decode cL_run 1 = .ok (.iconst 0, 1) := by decide +kernel
theorem dL_run_2 : decode cL_run 2 = .ok (.aload_n 0, 1) := by decide +kernel
theorem dL_run_3 : decode cL_run 3 = .ok (.invokevirtual 32, 3) := by decide +kernel
theorem dL_run_6 : decode cL_run 6 = .ok (.i2l, 1) := by decide +kernel
theorem dL_run_7 : decode cL_run 7 = .ok (.lastore, 1) := by decide +kernel
theorem dL_run_8 : decode cL_run 8 = .ok (.goto 6, 3) := by decide +kernel
theorem dL_run_11 : decode cL_run 11 = .ok (.astore_n 2, 1) := by decide +kernel
theorem dL_run_12 : decode cL_run 12 = .ok (.iconst 1, 1) := by decide +kernel
theorem dL_run_13 : decode cL_run 13 = .ok (.ireturn, 1) := by decide +kernel
theorem dL_run_14 : decode cL_run 14 = .ok (.iconst 0, 1) := by decide +kernel
theorem dL_run_15 : decode cL_run 15 = .ok (.ireturn, 1) := by decide +kernel
theorem dL_wordAt_0 : decode cL_wordAt 0 = .ok (.aload_n 2, 1) := by decide +kernel
theorem dL_wordAt_1 : decode cL_wordAt 1 = .ok (.iconst 0, 1) := by decide +kernel
theorem dL_wordAt_2 : decode cL_wordAt 2 = .ok (.aload_n 0, 1) := by decide +kernel
theorem dL_wordAt_3 : decode cL_wordAt 3 = .ok (.iload_n 1, 1) := by decide +kernel
theorem dL_wordAt_4 : decode cL_wordAt 4 = .ok (.invokevirtual 35, 3) := by decide +kernel
theorem dL_wordAt_7 : decode cL_wordAt 7 = .ok (.i2l, 1) := by decide +kernel
theorem dL_wordAt_8 : decode cL_wordAt 8 = .ok (.lastore, 1) := by decide +kernel
theorem dL_wordAt_9 : decode cL_wordAt 9 = .ok (.goto 6, 3) := by decide +kernel
theorem dL_wordAt_12 : decode cL_wordAt 12 = .ok (.astore_n 3, 1) := by decide +kernel
theorem dL_wordAt_13 : decode cL_wordAt 13 = .ok (.iconst 1, 1) := by decide +kernel
theorem dL_wordAt_14 : decode cL_wordAt 14 = .ok (.ireturn, 1) := by decide +kernel
theorem dL_wordAt_15 : decode cL_wordAt 15 = .ok (.iconst 0, 1) := by decide +kernel
theorem dL_wordAt_16 : decode cL_wordAt 16 = .ok (.ireturn, 1) := by decide +kernel
theorem dL_indexOf_0 : decode cL_indexOf 0 = .ok (.aload_n 2, 1) := by decide +kernel
theorem dL_indexOf_1 : decode cL_indexOf 1 = .ok (.iconst 0, 1) := by decide +kernel
theorem dL_indexOf_2 : decode cL_indexOf 2 = .ok (.aload_n 0, 1) := by decide +kernel
theorem dL_indexOf_3 : decode cL_indexOf 3 = .ok (.iload_n 1, 1) := by decide +kernel
theorem dL_indexOf_4 : decode cL_indexOf 4 = .ok (.invokevirtual 40, 3) := by decide +kernel
theorem dL_indexOf_7 : decode cL_indexOf 7 = .ok (.i2l, 1) := by decide +kernel
theorem dL_indexOf_8 : decode cL_indexOf 8 = .ok (.lastore, 1) := by decide +kernel
theorem dL_indexOf_9 : decode cL_indexOf 9 = .ok (.goto 6, 3) := by decide +kernel
theorem dL_indexOf_12 : decode cL_indexOf 12 = .ok (.astore_n 3, 1) := by decide +kernel
theorem dL_indexOf_13 : decode cL_indexOf 13 = .ok (.iconst 1, 1) := by decide +kernel
theorem dL_indexOf_14 : decode cL_indexOf 14 = .ok (.ireturn, 1) := by decide +kernel
theorem dL_indexOf_15 : decode cL_indexOf 15 = .ok (.iconst 0, 1) := by decide +kernel
theorem dL_indexOf_16 : decode cL_indexOf 16 = .ok (.ireturn, 1) := by decide +kernel
theorem dL_lastIndexOf_0 : decode cL_lastIndexOf 0 = .ok (.aload_n 2, 1) := by decide +kernel
theorem dL_lastIndexOf_1 : decode cL_lastIndexOf 1 = .ok (.iconst 0, 1) := by decide +kernel
theorem dL_lastIndexOf_2 : decode cL_lastIndexOf 2 = .ok (.aload_n 0, 1) := by decide +kernel
theorem dL_lastIndexOf_3 : decode cL_lastIndexOf 3 = .ok (.iload_n 1, 1) := by decide +kernel
theorem dL_lastIndexOf_4 : decode cL_lastIndexOf 4 = .ok (.invokevirtual 43, 3) := by decide +kernel
theorem dL_lastIndexOf_7 : decode cL_lastIndexOf 7 = .ok (.i2l, 1) := by decide +kernel
theorem dL_lastIndexOf_8 : decode cL_lastIndexOf 8 = .ok (.lastore, 1) := by decide +kernel
theorem dL_lastIndexOf_9 : decode cL_lastIndexOf 9 = .ok (.goto 6, 3) := by decide +kernel
theorem dL_lastIndexOf_12 : decode cL_lastIndexOf 12 = .ok (.astore_n 3, 1) := by decide +kernel
theorem dL_lastIndexOf_13 : decode cL_lastIndexOf 13 = .ok (.iconst 1, 1) := by decide +kernel
theorem dL_lastIndexOf_14 : decode cL_lastIndexOf 14 = .ok (.ireturn, 1) := by decide +kernel
theorem dL_lastIndexOf_15 : decode cL_lastIndexOf 15 = .ok (.iconst 0, 1) := by decide +kernel
theorem dL_lastIndexOf_16 : decode cL_lastIndexOf 16 = .ok (.ireturn, 1) := by decide +kernel
theorem dL_count_0 : decode cL_count 0 = .ok (.aload_n 2, 1) := by decide +kernel
theorem dL_count_1 : decode cL_count 1 = .ok (.iconst 0, 1) := by decide +kernel
theorem dL_count_2 : decode cL_count 2 = .ok (.aload_n 0, 1) := by decide +kernel
theorem dL_count_3 : decode cL_count 3 = .ok (.iload_n 1, 1) := by decide +kernel
theorem dL_count_4 : decode cL_count 4 = .ok (.invokevirtual 46, 3) := by decide +kernel
theorem dL_count_7 : decode cL_count 7 = .ok (.i2l, 1) := by decide +kernel
theorem dL_count_8 : decode cL_count 8 = .ok (.lastore, 1) := by decide +kernel
theorem dL_count_9 : decode cL_count 9 = .ok (.goto 6, 3) := by decide +kernel
theorem dL_count_12 : decode cL_count 12 = .ok (.astore_n 3, 1) := by decide +kernel
theorem dL_count_13 : decode cL_count 13 = .ok (.iconst 1, 1) := by decide +kernel
theorem dL_count_14 : decode cL_count 14 = .ok (.ireturn, 1) := by decide +kernel
theorem dL_count_15 : decode cL_count 15 = .ok (.iconst 0, 1) := by decide +kernel
theorem dL_count_16 : decode cL_count 16 = .ok (.ireturn, 1) := by decide +kernel
theorem dL_writtenAt_0 : decode cL_writtenAt 0 = .ok (.aload_n 2, 1) := by decide +kernel
theorem dL_writtenAt_1 : decode cL_writtenAt 1 = .ok (.iconst 0, 1) := by decide +kernel
theorem dL_writtenAt_2 : decode cL_writtenAt 2 = .ok (.aload_n 0, 1) := by decide +kernel
theorem dL_writtenAt_3 : decode cL_writtenAt 3 = .ok (.iload_n 1, 1) := by decide +kernel
theorem dL_writtenAt_4 : decode cL_writtenAt 4 = .ok (.invokevirtual 49, 3) := by decide +kernel
theorem dL_writtenAt_7 : decode cL_writtenAt 7 = .ok (.i2l, 1) := by decide +kernel
theorem dL_writtenAt_8 : decode cL_writtenAt 8 = .ok (.lastore, 1) := by decide +kernel
theorem dL_writtenAt_9 : decode cL_writtenAt 9 = .ok (.goto 6, 3) := by decide +kernel
theorem dL_writtenAt_12 : decode cL_writtenAt 12 = .ok (.astore_n 3, 1) := by decide +kernel
theorem dL_writtenAt_13 : decode cL_writtenAt 13 = .ok (.iconst 1, 1) := by decide +kernel
theorem dL_writtenAt_14 : decode cL_writtenAt 14 = .ok (.ireturn, 1) := by decide +kernel
theorem dL_writtenAt_15 : decode cL_writtenAt 15 = .ok (.iconst 0, 1) := by decide +kernel
theorem dL_writtenAt_16 : decode cL_writtenAt 16 = .ok (.ireturn, 1) := by decide +kernel
theorem dL_refusals_0 : decode cL_refusals 0 = .ok (.aload_n 2, 1) := by decide +kernel
theorem dL_refusals_1 : decode cL_refusals 1 = .ok (.iconst 0, 1) := by decide +kernel
theorem dL_refusals_2 : decode cL_refusals 2 = .ok (.aload_n 0, 1) := by decide +kernel
theorem dL_refusals_3 : decode cL_refusals 3 = .ok (.iload_n 1, 1) := by decide +kernel
theorem dL_refusals_4 : decode cL_refusals 4 = .ok (.invokevirtual 52, 3) := by decide +kernel
theorem dL_refusals_7 : decode cL_refusals 7 = .ok (.i2l, 1) := by decide +kernel
theorem dL_refusals_8 : decode cL_refusals 8 = .ok (.lastore, 1) := by decide +kernel
theorem dL_refusals_9 : decode cL_refusals 9 = .ok (.goto 6, 3) := by decide +kernel
theorem dL_refusals_12 : decode cL_refusals 12 = .ok (.astore_n 3, 1) := by decide +kernel
theorem dL_refusals_13 : decode cL_refusals 13 = .ok (.iconst 1, 1) := by decide +kernel
theorem dL_refusals_14 : decode cL_refusals 14 = .ok (.ireturn, 1) := by decide +kernel
theorem dL_refusals_15 : decode cL_refusals 15 = .ok (.iconst 0, 1) := by decide +kernel
theorem dL_refusals_16 : decode cL_refusals 16 = .ok (.ireturn, 1) := by decide +kernel
theorem dL_law_0 : decode cL_law 0 = .ok (.new 8, 3) := by decide +kernel
theorem dL_law_3 : decode cL_law 3 = .ok (.dup, 1) := by decide +kernel
theorem dL_law_4 : decode cL_law 4 = .ok (.invokespecial 55, 3) := by decide +kernel
theorem dL_law_7 : decode cL_law 7 = .ok (.astore_n 1, 1) := by decide +kernel
theorem dL_law_8 : decode cL_law 8 = .ok (.new 56, 3) := by decide +kernel
theorem dL_law_11 : decode cL_law 11 = .ok (.dup, 1) := by decide +kernel
theorem dL_law_12 : decode cL_law 12 = .ok (.invokespecial 58, 3) := by decide +kernel
theorem dL_law_15 : decode cL_law 15 = .ok (.astore_n 2, 1) := by decide +kernel
theorem dL_law_16 : decode cL_law 16 = .ok (.iconst 1, 1) := by decide +kernel
theorem dL_law_17 : decode cL_law 17 = .ok (.newarray .long, 2) := by decide +kernel
theorem dL_law_19 : decode cL_law 19 = .ok (.astore_n 3, 1) := by decide +kernel
theorem dL_law_20 : decode cL_law 20 = .ok (.iconst 0, 1) := by decide +kernel
theorem dL_law_21 : decode cL_law 21 = .ok (.istore 4, 2) := by decide +kernel
theorem dL_law_23 : decode cL_law 23 = .ok (.iload 4, 2) := by decide +kernel
theorem dL_law_25 : decode cL_law 25 = .ok (.aload_n 0, 1) := by decide +kernel
theorem dL_law_26 : decode cL_law 26 = .ok (.arraylength, 1) := by decide +kernel
theorem dL_law_27 : decode cL_law 27 = .ok (.bipush 6, 2) := by decide +kernel
theorem dL_law_29 : decode cL_law 29 = .ok (.isub, 1) := by decide +kernel
theorem dL_law_30 : decode cL_law 30 = .ok (.if_icmp .gt 1374, 3) := by decide +kernel
theorem dL_law_33 : decode cL_law 33 = .ok (.aload_n 0, 1) := by decide +kernel
theorem dL_law_34 : decode cL_law 34 = .ok (.iload 4, 2) := by decide +kernel
theorem dL_law_36 : decode cL_law 36 = .ok (.iaload, 1) := by decide +kernel
theorem dL_law_37 : decode cL_law 37 = .ok (.bipush 63, 2) := by decide +kernel
theorem dL_law_39 : decode cL_law 39 = .ok (.iand, 1) := by decide +kernel
theorem dL_law_40 : decode cL_law 40 = .ok (.tableswitch 1358 0 39 #[176, 189, 202, 258, 314, 327, 352, 436, 449, 462, 475, 579, 592, 636, 680, 693, 706, 719, 732, 745, 758, 783, 808, 821, 834, 847, 860, 916, 972, 1028, 1084, 1097, 1110, 1123, 1179, 1235, 1248, 1289, 1332, 1345], 176) := by decide +kernel
theorem dL_law_216 : decode cL_law 216 = .ok (.aload_n 1, 1) := by decide +kernel
theorem dL_law_217 : decode cL_law 217 = .ok (.invokevirtual 59, 3) := by decide +kernel
theorem dL_law_220 : decode cL_law 220 = .ok (.aload_n 2, 1) := by decide +kernel
theorem dL_law_221 : decode cL_law 221 = .ok (.invokevirtual 62, 3) := by decide +kernel
theorem dL_law_224 : decode cL_law 224 = .ok (.if_icmp .eq 1174, 3) := by decide +kernel
theorem dL_law_227 : decode cL_law 227 = .ok (.iconst 0, 1) := by decide +kernel
theorem dL_law_228 : decode cL_law 228 = .ok (.ireturn, 1) := by decide +kernel
theorem dL_law_229 : decode cL_law 229 = .ok (.aload_n 1, 1) := by decide +kernel
theorem dL_law_230 : decode cL_law 230 = .ok (.invokevirtual 63, 3) := by decide +kernel
theorem dL_law_233 : decode cL_law 233 = .ok (.aload_n 2, 1) := by decide +kernel
theorem dL_law_234 : decode cL_law 234 = .ok (.invokevirtual 66, 3) := by decide +kernel
theorem dL_law_237 : decode cL_law 237 = .ok (.if_icmp .eq 1161, 3) := by decide +kernel
theorem dL_law_240 : decode cL_law 240 = .ok (.iconst 0, 1) := by decide +kernel
theorem dL_law_241 : decode cL_law 241 = .ok (.ireturn, 1) := by decide +kernel
theorem dL_law_242 : decode cL_law 242 = .ok (.aload_n 1, 1) := by decide +kernel
theorem dL_law_243 : decode cL_law 243 = .ok (.aload_n 0, 1) := by decide +kernel
theorem dL_law_244 : decode cL_law 244 = .ok (.iload 4, 2) := by decide +kernel
theorem dL_law_246 : decode cL_law 246 = .ok (.iconst 1, 1) := by decide +kernel
theorem dL_law_247 : decode cL_law 247 = .ok (.iadd, 1) := by decide +kernel
theorem dL_law_248 : decode cL_law 248 = .ok (.iaload, 1) := by decide +kernel
theorem dL_law_249 : decode cL_law 249 = .ok (.aload_n 3, 1) := by decide +kernel
theorem dL_law_250 : decode cL_law 250 = .ok (.invokestatic 67, 3) := by decide +kernel
theorem dL_law_253 : decode cL_law 253 = .ok (.istore 5, 2) := by decide +kernel
theorem dL_law_255 : decode cL_law 255 = .ok (.aload_n 2, 1) := by decide +kernel
theorem dL_law_256 : decode cL_law 256 = .ok (.aload_n 0, 1) := by decide +kernel
theorem dL_law_257 : decode cL_law 257 = .ok (.iload 4, 2) := by decide +kernel
theorem dL_law_259 : decode cL_law 259 = .ok (.iconst 1, 1) := by decide +kernel
theorem dL_law_260 : decode cL_law 260 = .ok (.iadd, 1) := by decide +kernel
theorem dL_law_261 : decode cL_law 261 = .ok (.iaload, 1) := by decide +kernel
theorem dL_law_262 : decode cL_law 262 = .ok (.invokevirtual 72, 3) := by decide +kernel
theorem dL_law_265 : decode cL_law 265 = .ok (.istore 6, 2) := by decide +kernel
theorem dL_law_267 : decode cL_law 267 = .ok (.aload_n 2, 1) := by decide +kernel
theorem dL_law_268 : decode cL_law 268 = .ok (.invokevirtual 73, 3) := by decide +kernel
theorem dL_law_271 : decode cL_law 271 = .ok (.iload 5, 2) := by decide +kernel
theorem dL_law_273 : decode cL_law 273 = .ok (.if_icmp .eq 5, 3) := by decide +kernel
theorem dL_law_276 : decode cL_law 276 = .ok (.iconst 0, 1) := by decide +kernel
theorem dL_law_277 : decode cL_law 277 = .ok (.ireturn, 1) := by decide +kernel
theorem dL_law_278 : decode cL_law 278 = .ok (.iload 5, 2) := by decide +kernel
theorem dL_law_280 : decode cL_law 280 = .ok (.ifCond .ne 15, 3) := by decide +kernel
theorem dL_law_283 : decode cL_law 283 = .ok (.aload_n 3, 1) := by decide +kernel
theorem dL_law_284 : decode cL_law 284 = .ok (.iconst 0, 1) := by decide +kernel
theorem dL_law_285 : decode cL_law 285 = .ok (.laload, 1) := by decide +kernel
theorem dL_law_286 : decode cL_law 286 = .ok (.iload 6, 2) := by decide +kernel
theorem dL_law_288 : decode cL_law 288 = .ok (.i2l, 1) := by decide +kernel
theorem dL_law_289 : decode cL_law 289 = .ok (.lcmp, 1) := by decide +kernel
theorem dL_law_290 : decode cL_law 290 = .ok (.ifCond .eq 5, 3) := by decide +kernel
theorem dL_law_293 : decode cL_law 293 = .ok (.iconst 0, 1) := by decide +kernel
theorem dL_law_294 : decode cL_law 294 = .ok (.ireturn, 1) := by decide +kernel
theorem dL_law_295 : decode cL_law 295 = .ok (.goto 1103, 3) := by decide +kernel
theorem dL_law_298 : decode cL_law 298 = .ok (.aload_n 1, 1) := by decide +kernel
theorem dL_law_299 : decode cL_law 299 = .ok (.aload_n 0, 1) := by decide +kernel
theorem dL_law_300 : decode cL_law 300 = .ok (.iload 4, 2) := by decide +kernel
theorem dL_law_302 : decode cL_law 302 = .ok (.iconst 1, 1) := by decide +kernel
theorem dL_law_303 : decode cL_law 303 = .ok (.iadd, 1) := by decide +kernel
theorem dL_law_304 : decode cL_law 304 = .ok (.iaload, 1) := by decide +kernel
theorem dL_law_305 : decode cL_law 305 = .ok (.aload_n 3, 1) := by decide +kernel
theorem dL_law_306 : decode cL_law 306 = .ok (.invokestatic 76, 3) := by decide +kernel
theorem dL_law_309 : decode cL_law 309 = .ok (.istore 5, 2) := by decide +kernel
theorem dL_law_311 : decode cL_law 311 = .ok (.aload_n 2, 1) := by decide +kernel
theorem dL_law_312 : decode cL_law 312 = .ok (.aload_n 0, 1) := by decide +kernel
theorem dL_law_313 : decode cL_law 313 = .ok (.iload 4, 2) := by decide +kernel
theorem dL_law_315 : decode cL_law 315 = .ok (.iconst 1, 1) := by decide +kernel
theorem dL_law_316 : decode cL_law 316 = .ok (.iadd, 1) := by decide +kernel
theorem dL_law_317 : decode cL_law 317 = .ok (.iaload, 1) := by decide +kernel
theorem dL_law_318 : decode cL_law 318 = .ok (.invokevirtual 78, 3) := by decide +kernel
theorem dL_law_321 : decode cL_law 321 = .ok (.istore 6, 2) := by decide +kernel
theorem dL_law_323 : decode cL_law 323 = .ok (.aload_n 2, 1) := by decide +kernel
theorem dL_law_324 : decode cL_law 324 = .ok (.invokevirtual 73, 3) := by decide +kernel
theorem dL_law_327 : decode cL_law 327 = .ok (.iload 5, 2) := by decide +kernel
theorem dL_law_329 : decode cL_law 329 = .ok (.if_icmp .eq 5, 3) := by decide +kernel
theorem dL_law_332 : decode cL_law 332 = .ok (.iconst 0, 1) := by decide +kernel
theorem dL_law_333 : decode cL_law 333 = .ok (.ireturn, 1) := by decide +kernel
theorem dL_law_334 : decode cL_law 334 = .ok (.iload 5, 2) := by decide +kernel
theorem dL_law_336 : decode cL_law 336 = .ok (.ifCond .ne 15, 3) := by decide +kernel
theorem dL_law_339 : decode cL_law 339 = .ok (.aload_n 3, 1) := by decide +kernel
theorem dL_law_340 : decode cL_law 340 = .ok (.iconst 0, 1) := by decide +kernel
theorem dL_law_341 : decode cL_law 341 = .ok (.laload, 1) := by decide +kernel
theorem dL_law_342 : decode cL_law 342 = .ok (.iload 6, 2) := by decide +kernel
theorem dL_law_344 : decode cL_law 344 = .ok (.i2l, 1) := by decide +kernel
theorem dL_law_345 : decode cL_law 345 = .ok (.lcmp, 1) := by decide +kernel
theorem dL_law_346 : decode cL_law 346 = .ok (.ifCond .eq 5, 3) := by decide +kernel
theorem dL_law_349 : decode cL_law 349 = .ok (.iconst 0, 1) := by decide +kernel
theorem dL_law_350 : decode cL_law 350 = .ok (.ireturn, 1) := by decide +kernel
theorem dL_law_351 : decode cL_law 351 = .ok (.goto 1047, 3) := by decide +kernel
theorem dL_law_354 : decode cL_law 354 = .ok (.aload_n 1, 1) := by decide +kernel
theorem dL_law_355 : decode cL_law 355 = .ok (.invokevirtual 79, 3) := by decide +kernel
theorem dL_law_358 : decode cL_law 358 = .ok (.aload_n 2, 1) := by decide +kernel
theorem dL_law_359 : decode cL_law 359 = .ok (.invokevirtual 82, 3) := by decide +kernel
theorem dL_law_362 : decode cL_law 362 = .ok (.if_icmp .eq 1036, 3) := by decide +kernel
theorem dL_law_365 : decode cL_law 365 = .ok (.iconst 0, 1) := by decide +kernel
theorem dL_law_366 : decode cL_law 366 = .ok (.ireturn, 1) := by decide +kernel
theorem dL_law_367 : decode cL_law 367 = .ok (.aload_n 1, 1) := by decide +kernel
theorem dL_law_368 : decode cL_law 368 = .ok (.aload_n 0, 1) := by decide +kernel
theorem dL_law_369 : decode cL_law 369 = .ok (.iload 4, 2) := by decide +kernel
theorem dL_law_371 : decode cL_law 371 = .ok (.iconst 1, 1) := by decide +kernel
theorem dL_law_372 : decode cL_law 372 = .ok (.iadd, 1) := by decide +kernel
theorem dL_law_373 : decode cL_law 373 = .ok (.iaload, 1) := by decide +kernel
theorem dL_law_374 : decode cL_law 374 = .ok (.invokevirtual 83, 3) := by decide +kernel
theorem dL_law_377 : decode cL_law 377 = .ok (.aload_n 2, 1) := by decide +kernel
theorem dL_law_378 : decode cL_law 378 = .ok (.aload_n 0, 1) := by decide +kernel
theorem dL_law_379 : decode cL_law 379 = .ok (.iload 4, 2) := by decide +kernel
theorem dL_law_381 : decode cL_law 381 = .ok (.iconst 1, 1) := by decide +kernel
theorem dL_law_382 : decode cL_law 382 = .ok (.iadd, 1) := by decide +kernel
theorem dL_law_383 : decode cL_law 383 = .ok (.iaload, 1) := by decide +kernel
theorem dL_law_384 : decode cL_law 384 = .ok (.invokevirtual 86, 3) := by decide +kernel
theorem dL_law_387 : decode cL_law 387 = .ok (.if_icmp .eq 1011, 3) := by decide +kernel
theorem dL_law_390 : decode cL_law 390 = .ok (.iconst 0, 1) := by decide +kernel
theorem dL_law_391 : decode cL_law 391 = .ok (.ireturn, 1) := by decide +kernel
theorem dL_law_392 : decode cL_law 392 = .ok (.aload_n 1, 1) := by decide +kernel
theorem dL_law_393 : decode cL_law 393 = .ok (.aload_n 0, 1) := by decide +kernel
theorem dL_law_394 : decode cL_law 394 = .ok (.iload 4, 2) := by decide +kernel
theorem dL_law_396 : decode cL_law 396 = .ok (.iconst 1, 1) := by decide +kernel
theorem dL_law_397 : decode cL_law 397 = .ok (.iadd, 1) := by decide +kernel
theorem dL_law_398 : decode cL_law 398 = .ok (.iaload, 1) := by decide +kernel
theorem dL_law_399 : decode cL_law 399 = .ok (.aload_n 0, 1) := by decide +kernel
theorem dL_law_400 : decode cL_law 400 = .ok (.iload 4, 2) := by decide +kernel
theorem dL_law_402 : decode cL_law 402 = .ok (.iconst 2, 1) := by decide +kernel
theorem dL_law_403 : decode cL_law 403 = .ok (.iadd, 1) := by decide +kernel
theorem dL_law_404 : decode cL_law 404 = .ok (.iaload, 1) := by decide +kernel
theorem dL_law_405 : decode cL_law 405 = .ok (.ifCond .eq 7, 3) := by decide +kernel
theorem dL_law_408 : decode cL_law 408 = .ok (.iconst 1, 1) := by decide +kernel
theorem dL_law_409 : decode cL_law 409 = .ok (.goto 4, 3) := by decide +kernel
theorem dL_law_412 : decode cL_law 412 = .ok (.iconst 0, 1) := by decide +kernel
theorem dL_law_413 : decode cL_law 413 = .ok (.aload_n 3, 1) := by decide +kernel
theorem dL_law_414 : decode cL_law 414 = .ok (.invokestatic 87, 3) := by decide +kernel
theorem dL_law_417 : decode cL_law 417 = .ok (.istore 5, 2) := by decide +kernel
theorem dL_law_419 : decode cL_law 419 = .ok (.aload_n 2, 1) := by decide +kernel
theorem dL_law_420 : decode cL_law 420 = .ok (.aload_n 0, 1) := by decide +kernel
theorem dL_law_421 : decode cL_law 421 = .ok (.iload 4, 2) := by decide +kernel
theorem dL_law_423 : decode cL_law 423 = .ok (.iconst 1, 1) := by decide +kernel
theorem dL_law_424 : decode cL_law 424 = .ok (.iadd, 1) := by decide +kernel
theorem dL_law_425 : decode cL_law 425 = .ok (.iaload, 1) := by decide +kernel
theorem dL_law_426 : decode cL_law 426 = .ok (.aload_n 0, 1) := by decide +kernel
theorem dL_law_427 : decode cL_law 427 = .ok (.iload 4, 2) := by decide +kernel
theorem dL_law_429 : decode cL_law 429 = .ok (.iconst 2, 1) := by decide +kernel
theorem dL_law_430 : decode cL_law 430 = .ok (.iadd, 1) := by decide +kernel
theorem dL_law_431 : decode cL_law 431 = .ok (.iaload, 1) := by decide +kernel
theorem dL_law_432 : decode cL_law 432 = .ok (.ifCond .eq 7, 3) := by decide +kernel
theorem dL_law_435 : decode cL_law 435 = .ok (.iconst 1, 1) := by decide +kernel
theorem dL_law_436 : decode cL_law 436 = .ok (.goto 4, 3) := by decide +kernel
theorem dL_law_439 : decode cL_law 439 = .ok (.iconst 0, 1) := by decide +kernel
theorem dL_law_440 : decode cL_law 440 = .ok (.invokevirtual 90, 3) := by decide +kernel
theorem dL_law_443 : decode cL_law 443 = .ok (.istore 6, 2) := by decide +kernel
theorem dL_law_445 : decode cL_law 445 = .ok (.aload_n 2, 1) := by decide +kernel
theorem dL_law_446 : decode cL_law 446 = .ok (.invokevirtual 73, 3) := by decide +kernel
theorem dL_law_449 : decode cL_law 449 = .ok (.iload 5, 2) := by decide +kernel
theorem dL_law_451 : decode cL_law 451 = .ok (.if_icmp .eq 5, 3) := by decide +kernel
theorem dL_law_454 : decode cL_law 454 = .ok (.iconst 0, 1) := by decide +kernel
theorem dL_law_455 : decode cL_law 455 = .ok (.ireturn, 1) := by decide +kernel
theorem dL_law_456 : decode cL_law 456 = .ok (.iload 5, 2) := by decide +kernel
theorem dL_law_458 : decode cL_law 458 = .ok (.ifCond .ne 15, 3) := by decide +kernel
theorem dL_law_461 : decode cL_law 461 = .ok (.aload_n 3, 1) := by decide +kernel
theorem dL_law_462 : decode cL_law 462 = .ok (.iconst 0, 1) := by decide +kernel
theorem dL_law_463 : decode cL_law 463 = .ok (.laload, 1) := by decide +kernel
theorem dL_law_464 : decode cL_law 464 = .ok (.iload 6, 2) := by decide +kernel
theorem dL_law_466 : decode cL_law 466 = .ok (.i2l, 1) := by decide +kernel
theorem dL_law_467 : decode cL_law 467 = .ok (.lcmp, 1) := by decide +kernel
theorem dL_law_468 : decode cL_law 468 = .ok (.ifCond .eq 5, 3) := by decide +kernel
theorem dL_law_471 : decode cL_law 471 = .ok (.iconst 0, 1) := by decide +kernel
theorem dL_law_472 : decode cL_law 472 = .ok (.ireturn, 1) := by decide +kernel
theorem dL_law_473 : decode cL_law 473 = .ok (.goto 925, 3) := by decide +kernel
theorem dL_law_476 : decode cL_law 476 = .ok (.aload_n 1, 1) := by decide +kernel
theorem dL_law_477 : decode cL_law 477 = .ok (.invokevirtual 91, 3) := by decide +kernel
theorem dL_law_480 : decode cL_law 480 = .ok (.aload_n 2, 1) := by decide +kernel
theorem dL_law_481 : decode cL_law 481 = .ok (.invokevirtual 94, 3) := by decide +kernel
theorem dL_law_484 : decode cL_law 484 = .ok (.if_icmp .eq 914, 3) := by decide +kernel
theorem dL_law_487 : decode cL_law 487 = .ok (.iconst 0, 1) := by decide +kernel
theorem dL_law_488 : decode cL_law 488 = .ok (.ireturn, 1) := by decide +kernel
theorem dL_law_489 : decode cL_law 489 = .ok (.aload_n 1, 1) := by decide +kernel
theorem dL_law_490 : decode cL_law 490 = .ok (.invokevirtual 95, 3) := by decide +kernel
theorem dL_law_493 : decode cL_law 493 = .ok (.aload_n 2, 1) := by decide +kernel
theorem dL_law_494 : decode cL_law 494 = .ok (.invokevirtual 98, 3) := by decide +kernel
theorem dL_law_497 : decode cL_law 497 = .ok (.if_icmp .eq 901, 3) := by decide +kernel
theorem dL_law_500 : decode cL_law 500 = .ok (.iconst 0, 1) := by decide +kernel
theorem dL_law_501 : decode cL_law 501 = .ok (.ireturn, 1) := by decide +kernel
theorem dL_law_502 : decode cL_law 502 = .ok (.aload_n 1, 1) := by decide +kernel
theorem dL_law_503 : decode cL_law 503 = .ok (.invokevirtual 99, 3) := by decide +kernel
theorem dL_law_506 : decode cL_law 506 = .ok (.aload_n 2, 1) := by decide +kernel
theorem dL_law_507 : decode cL_law 507 = .ok (.invokevirtual 102, 3) := by decide +kernel
theorem dL_law_510 : decode cL_law 510 = .ok (.if_icmp .eq 888, 3) := by decide +kernel
theorem dL_law_513 : decode cL_law 513 = .ok (.iconst 0, 1) := by decide +kernel
theorem dL_law_514 : decode cL_law 514 = .ok (.ireturn, 1) := by decide +kernel
theorem dL_law_515 : decode cL_law 515 = .ok (.aload_n 1, 1) := by decide +kernel
theorem dL_law_516 : decode cL_law 516 = .ok (.aload_n 0, 1) := by decide +kernel
theorem dL_law_517 : decode cL_law 517 = .ok (.iload 4, 2) := by decide +kernel
theorem dL_law_519 : decode cL_law 519 = .ok (.iconst 1, 1) := by decide +kernel
theorem dL_law_520 : decode cL_law 520 = .ok (.iadd, 1) := by decide +kernel
theorem dL_law_521 : decode cL_law 521 = .ok (.iaload, 1) := by decide +kernel
theorem dL_law_522 : decode cL_law 522 = .ok (.aload_n 0, 1) := by decide +kernel
theorem dL_law_523 : decode cL_law 523 = .ok (.iload 4, 2) := by decide +kernel
theorem dL_law_525 : decode cL_law 525 = .ok (.iconst 2, 1) := by decide +kernel
theorem dL_law_526 : decode cL_law 526 = .ok (.iadd, 1) := by decide +kernel
theorem dL_law_527 : decode cL_law 527 = .ok (.iaload, 1) := by decide +kernel
theorem dL_law_528 : decode cL_law 528 = .ok (.aload_n 0, 1) := by decide +kernel
theorem dL_law_529 : decode cL_law 529 = .ok (.iload 4, 2) := by decide +kernel
theorem dL_law_531 : decode cL_law 531 = .ok (.iconst 3, 1) := by decide +kernel
theorem dL_law_532 : decode cL_law 532 = .ok (.iadd, 1) := by decide +kernel
theorem dL_law_533 : decode cL_law 533 = .ok (.iaload, 1) := by decide +kernel
theorem dL_law_534 : decode cL_law 534 = .ok (.aload_n 0, 1) := by decide +kernel
theorem dL_law_535 : decode cL_law 535 = .ok (.iload 4, 2) := by decide +kernel
theorem dL_law_537 : decode cL_law 537 = .ok (.iconst 4, 1) := by decide +kernel
theorem dL_law_538 : decode cL_law 538 = .ok (.iadd, 1) := by decide +kernel
theorem dL_law_539 : decode cL_law 539 = .ok (.iaload, 1) := by decide +kernel
theorem dL_law_540 : decode cL_law 540 = .ok (.aload_n 0, 1) := by decide +kernel
theorem dL_law_541 : decode cL_law 541 = .ok (.iload 4, 2) := by decide +kernel
theorem dL_law_543 : decode cL_law 543 = .ok (.iconst 5, 1) := by decide +kernel
theorem dL_law_544 : decode cL_law 544 = .ok (.iadd, 1) := by decide +kernel
theorem dL_law_545 : decode cL_law 545 = .ok (.iaload, 1) := by decide +kernel
theorem dL_law_546 : decode cL_law 546 = .ok (.aload_n 3, 1) := by decide +kernel
theorem dL_law_547 : decode cL_law 547 = .ok (.invokestatic 103, 3) := by decide +kernel
theorem dL_law_550 : decode cL_law 550 = .ok (.istore 5, 2) := by decide +kernel
theorem dL_law_552 : decode cL_law 552 = .ok (.aload_n 2, 1) := by decide +kernel
theorem dL_law_553 : decode cL_law 553 = .ok (.aload_n 0, 1) := by decide +kernel
theorem dL_law_554 : decode cL_law 554 = .ok (.iload 4, 2) := by decide +kernel
theorem dL_law_556 : decode cL_law 556 = .ok (.iconst 1, 1) := by decide +kernel
theorem dL_law_557 : decode cL_law 557 = .ok (.iadd, 1) := by decide +kernel
theorem dL_law_558 : decode cL_law 558 = .ok (.iaload, 1) := by decide +kernel
theorem dL_law_559 : decode cL_law 559 = .ok (.aload_n 0, 1) := by decide +kernel
theorem dL_law_560 : decode cL_law 560 = .ok (.iload 4, 2) := by decide +kernel
theorem dL_law_562 : decode cL_law 562 = .ok (.iconst 2, 1) := by decide +kernel
theorem dL_law_563 : decode cL_law 563 = .ok (.iadd, 1) := by decide +kernel
theorem dL_law_564 : decode cL_law 564 = .ok (.iaload, 1) := by decide +kernel
theorem dL_law_565 : decode cL_law 565 = .ok (.aload_n 0, 1) := by decide +kernel
theorem dL_law_566 : decode cL_law 566 = .ok (.iload 4, 2) := by decide +kernel
theorem dL_law_568 : decode cL_law 568 = .ok (.iconst 3, 1) := by decide +kernel
theorem dL_law_569 : decode cL_law 569 = .ok (.iadd, 1) := by decide +kernel
theorem dL_law_570 : decode cL_law 570 = .ok (.iaload, 1) := by decide +kernel
theorem dL_law_571 : decode cL_law 571 = .ok (.aload_n 0, 1) := by decide +kernel
theorem dL_law_572 : decode cL_law 572 = .ok (.iload 4, 2) := by decide +kernel
theorem dL_law_574 : decode cL_law 574 = .ok (.iconst 4, 1) := by decide +kernel
theorem dL_law_575 : decode cL_law 575 = .ok (.iadd, 1) := by decide +kernel
theorem dL_law_576 : decode cL_law 576 = .ok (.iaload, 1) := by decide +kernel
theorem dL_law_577 : decode cL_law 577 = .ok (.aload_n 0, 1) := by decide +kernel
theorem dL_law_578 : decode cL_law 578 = .ok (.iload 4, 2) := by decide +kernel
theorem dL_law_580 : decode cL_law 580 = .ok (.iconst 5, 1) := by decide +kernel
theorem dL_law_581 : decode cL_law 581 = .ok (.iadd, 1) := by decide +kernel
theorem dL_law_582 : decode cL_law 582 = .ok (.iaload, 1) := by decide +kernel
theorem dL_law_583 : decode cL_law 583 = .ok (.invokevirtual 106, 3) := by decide +kernel
theorem dL_law_586 : decode cL_law 586 = .ok (.istore 6, 2) := by decide +kernel
theorem dL_law_588 : decode cL_law 588 = .ok (.aload_n 2, 1) := by decide +kernel
theorem dL_law_589 : decode cL_law 589 = .ok (.invokevirtual 73, 3) := by decide +kernel
theorem dL_law_592 : decode cL_law 592 = .ok (.iload 5, 2) := by decide +kernel
theorem dL_law_594 : decode cL_law 594 = .ok (.if_icmp .eq 5, 3) := by decide +kernel
theorem dL_law_597 : decode cL_law 597 = .ok (.iconst 0, 1) := by decide +kernel
theorem dL_law_598 : decode cL_law 598 = .ok (.ireturn, 1) := by decide +kernel
theorem dL_law_599 : decode cL_law 599 = .ok (.iload 5, 2) := by decide +kernel
theorem dL_law_601 : decode cL_law 601 = .ok (.ifCond .ne 15, 3) := by decide +kernel
theorem dL_law_604 : decode cL_law 604 = .ok (.aload_n 3, 1) := by decide +kernel
theorem dL_law_605 : decode cL_law 605 = .ok (.iconst 0, 1) := by decide +kernel
theorem dL_law_606 : decode cL_law 606 = .ok (.laload, 1) := by decide +kernel
theorem dL_law_607 : decode cL_law 607 = .ok (.iload 6, 2) := by decide +kernel
theorem dL_law_609 : decode cL_law 609 = .ok (.i2l, 1) := by decide +kernel
theorem dL_law_610 : decode cL_law 610 = .ok (.lcmp, 1) := by decide +kernel
theorem dL_law_611 : decode cL_law 611 = .ok (.ifCond .eq 5, 3) := by decide +kernel
theorem dL_law_614 : decode cL_law 614 = .ok (.iconst 0, 1) := by decide +kernel
theorem dL_law_615 : decode cL_law 615 = .ok (.ireturn, 1) := by decide +kernel
theorem dL_law_616 : decode cL_law 616 = .ok (.goto 782, 3) := by decide +kernel
theorem dL_law_619 : decode cL_law 619 = .ok (.aload_n 1, 1) := by decide +kernel
theorem dL_law_620 : decode cL_law 620 = .ok (.invokevirtual 107, 3) := by decide +kernel
theorem dL_law_623 : decode cL_law 623 = .ok (.aload_n 2, 1) := by decide +kernel
theorem dL_law_624 : decode cL_law 624 = .ok (.invokevirtual 110, 3) := by decide +kernel
theorem dL_law_627 : decode cL_law 627 = .ok (.if_icmp .eq 771, 3) := by decide +kernel
theorem dL_law_630 : decode cL_law 630 = .ok (.iconst 0, 1) := by decide +kernel
theorem dL_law_631 : decode cL_law 631 = .ok (.ireturn, 1) := by decide +kernel
theorem dL_law_632 : decode cL_law 632 = .ok (.aload_n 1, 1) := by decide +kernel
theorem dL_law_633 : decode cL_law 633 = .ok (.aload_n 3, 1) := by decide +kernel
theorem dL_law_634 : decode cL_law 634 = .ok (.invokestatic 111, 3) := by decide +kernel
theorem dL_law_637 : decode cL_law 637 = .ok (.istore 5, 2) := by decide +kernel
theorem dL_law_639 : decode cL_law 639 = .ok (.aload_n 2, 1) := by decide +kernel
theorem dL_law_640 : decode cL_law 640 = .ok (.invokevirtual 114, 3) := by decide +kernel
theorem dL_law_643 : decode cL_law 643 = .ok (.istore 6, 2) := by decide +kernel
theorem dL_law_645 : decode cL_law 645 = .ok (.aload_n 2, 1) := by decide +kernel
theorem dL_law_646 : decode cL_law 646 = .ok (.invokevirtual 73, 3) := by decide +kernel
theorem dL_law_649 : decode cL_law 649 = .ok (.iload 5, 2) := by decide +kernel
theorem dL_law_651 : decode cL_law 651 = .ok (.if_icmp .eq 5, 3) := by decide +kernel
theorem dL_law_654 : decode cL_law 654 = .ok (.iconst 0, 1) := by decide +kernel
theorem dL_law_655 : decode cL_law 655 = .ok (.ireturn, 1) := by decide +kernel
theorem dL_law_656 : decode cL_law 656 = .ok (.iload 5, 2) := by decide +kernel
theorem dL_law_658 : decode cL_law 658 = .ok (.ifCond .ne 15, 3) := by decide +kernel
theorem dL_law_661 : decode cL_law 661 = .ok (.aload_n 3, 1) := by decide +kernel
theorem dL_law_662 : decode cL_law 662 = .ok (.iconst 0, 1) := by decide +kernel
theorem dL_law_663 : decode cL_law 663 = .ok (.laload, 1) := by decide +kernel
theorem dL_law_664 : decode cL_law 664 = .ok (.iload 6, 2) := by decide +kernel
theorem dL_law_666 : decode cL_law 666 = .ok (.i2l, 1) := by decide +kernel
theorem dL_law_667 : decode cL_law 667 = .ok (.lcmp, 1) := by decide +kernel
theorem dL_law_668 : decode cL_law 668 = .ok (.ifCond .eq 5, 3) := by decide +kernel
theorem dL_law_671 : decode cL_law 671 = .ok (.iconst 0, 1) := by decide +kernel
theorem dL_law_672 : decode cL_law 672 = .ok (.ireturn, 1) := by decide +kernel
theorem dL_law_673 : decode cL_law 673 = .ok (.goto 725, 3) := by decide +kernel
theorem dL_law_676 : decode cL_law 676 = .ok (.aload_n 1, 1) := by decide +kernel
theorem dL_law_677 : decode cL_law 677 = .ok (.aload_n 3, 1) := by decide +kernel
theorem dL_law_678 : decode cL_law 678 = .ok (.invokestatic 115, 3) := by decide +kernel
theorem dL_law_681 : decode cL_law 681 = .ok (.istore 5, 2) := by decide +kernel
theorem dL_law_683 : decode cL_law 683 = .ok (.aload_n 2, 1) := by decide +kernel
theorem dL_law_684 : decode cL_law 684 = .ok (.invokevirtual 117, 3) := by decide +kernel
theorem dL_law_687 : decode cL_law 687 = .ok (.istore 6, 2) := by decide +kernel
theorem dL_law_689 : decode cL_law 689 = .ok (.aload_n 2, 1) := by decide +kernel
theorem dL_law_690 : decode cL_law 690 = .ok (.invokevirtual 73, 3) := by decide +kernel
theorem dL_law_693 : decode cL_law 693 = .ok (.iload 5, 2) := by decide +kernel
theorem dL_law_695 : decode cL_law 695 = .ok (.if_icmp .eq 5, 3) := by decide +kernel
theorem dL_law_698 : decode cL_law 698 = .ok (.iconst 0, 1) := by decide +kernel
theorem dL_law_699 : decode cL_law 699 = .ok (.ireturn, 1) := by decide +kernel
theorem dL_law_700 : decode cL_law 700 = .ok (.iload 5, 2) := by decide +kernel
theorem dL_law_702 : decode cL_law 702 = .ok (.ifCond .ne 15, 3) := by decide +kernel
theorem dL_law_705 : decode cL_law 705 = .ok (.aload_n 3, 1) := by decide +kernel
theorem dL_law_706 : decode cL_law 706 = .ok (.iconst 0, 1) := by decide +kernel
theorem dL_law_707 : decode cL_law 707 = .ok (.laload, 1) := by decide +kernel
theorem dL_law_708 : decode cL_law 708 = .ok (.iload 6, 2) := by decide +kernel
theorem dL_law_710 : decode cL_law 710 = .ok (.i2l, 1) := by decide +kernel
theorem dL_law_711 : decode cL_law 711 = .ok (.lcmp, 1) := by decide +kernel
theorem dL_law_712 : decode cL_law 712 = .ok (.ifCond .eq 5, 3) := by decide +kernel
theorem dL_law_715 : decode cL_law 715 = .ok (.iconst 0, 1) := by decide +kernel
theorem dL_law_716 : decode cL_law 716 = .ok (.ireturn, 1) := by decide +kernel
theorem dL_law_717 : decode cL_law 717 = .ok (.goto 681, 3) := by decide +kernel
theorem dL_law_720 : decode cL_law 720 = .ok (.aload_n 1, 1) := by decide +kernel
theorem dL_law_721 : decode cL_law 721 = .ok (.invokevirtual 118, 3) := by decide +kernel
theorem dL_law_724 : decode cL_law 724 = .ok (.aload_n 2, 1) := by decide +kernel
theorem dL_law_725 : decode cL_law 725 = .ok (.invokevirtual 121, 3) := by decide +kernel
theorem dL_law_728 : decode cL_law 728 = .ok (.if_icmp .eq 670, 3) := by decide +kernel
theorem dL_law_731 : decode cL_law 731 = .ok (.iconst 0, 1) := by decide +kernel
theorem dL_law_732 : decode cL_law 732 = .ok (.ireturn, 1) := by decide +kernel
theorem dL_law_733 : decode cL_law 733 = .ok (.aload_n 1, 1) := by decide +kernel
theorem dL_law_734 : decode cL_law 734 = .ok (.invokevirtual 122, 3) := by decide +kernel
theorem dL_law_737 : decode cL_law 737 = .ok (.aload_n 2, 1) := by decide +kernel
theorem dL_law_738 : decode cL_law 738 = .ok (.invokevirtual 125, 3) := by decide +kernel
theorem dL_law_741 : decode cL_law 741 = .ok (.if_icmp .eq 657, 3) := by decide +kernel
theorem dL_law_744 : decode cL_law 744 = .ok (.iconst 0, 1) := by decide +kernel
theorem dL_law_745 : decode cL_law 745 = .ok (.ireturn, 1) := by decide +kernel
theorem dL_law_746 : decode cL_law 746 = .ok (.aload_n 1, 1) := by decide +kernel
theorem dL_law_747 : decode cL_law 747 = .ok (.invokevirtual 126, 3) := by decide +kernel
theorem dL_law_750 : decode cL_law 750 = .ok (.aload_n 2, 1) := by decide +kernel
theorem dL_law_751 : decode cL_law 751 = .ok (.invokevirtual 129, 3) := by decide +kernel
theorem dL_law_754 : decode cL_law 754 = .ok (.if_icmp .eq 644, 3) := by decide +kernel
theorem dL_law_757 : decode cL_law 757 = .ok (.iconst 0, 1) := by decide +kernel
theorem dL_law_758 : decode cL_law 758 = .ok (.ireturn, 1) := by decide +kernel
theorem dL_law_759 : decode cL_law 759 = .ok (.aload_n 1, 1) := by decide +kernel
theorem dL_law_760 : decode cL_law 760 = .ok (.invokevirtual 130, 3) := by decide +kernel
theorem dL_law_763 : decode cL_law 763 = .ok (.aload_n 2, 1) := by decide +kernel
theorem dL_law_764 : decode cL_law 764 = .ok (.invokevirtual 133, 3) := by decide +kernel
theorem dL_law_767 : decode cL_law 767 = .ok (.if_icmp .eq 631, 3) := by decide +kernel
theorem dL_law_770 : decode cL_law 770 = .ok (.iconst 0, 1) := by decide +kernel
theorem dL_law_771 : decode cL_law 771 = .ok (.ireturn, 1) := by decide +kernel
theorem dL_law_772 : decode cL_law 772 = .ok (.aload_n 1, 1) := by decide +kernel
theorem dL_law_773 : decode cL_law 773 = .ok (.invokevirtual 134, 3) := by decide +kernel
theorem dL_law_776 : decode cL_law 776 = .ok (.aload_n 2, 1) := by decide +kernel
theorem dL_law_777 : decode cL_law 777 = .ok (.invokevirtual 138, 3) := by decide +kernel
theorem dL_law_780 : decode cL_law 780 = .ok (.if_icmp .eq 618, 3) := by decide +kernel
theorem dL_law_783 : decode cL_law 783 = .ok (.iconst 0, 1) := by decide +kernel
theorem dL_law_784 : decode cL_law 784 = .ok (.ireturn, 1) := by decide +kernel
theorem dL_law_785 : decode cL_law 785 = .ok (.aload_n 1, 1) := by decide +kernel
theorem dL_law_786 : decode cL_law 786 = .ok (.invokevirtual 139, 3) := by decide +kernel
theorem dL_law_789 : decode cL_law 789 = .ok (.aload_n 2, 1) := by decide +kernel
theorem dL_law_790 : decode cL_law 790 = .ok (.invokevirtual 142, 3) := by decide +kernel
theorem dL_law_793 : decode cL_law 793 = .ok (.if_icmp .eq 605, 3) := by decide +kernel
theorem dL_law_796 : decode cL_law 796 = .ok (.iconst 0, 1) := by decide +kernel
theorem dL_law_797 : decode cL_law 797 = .ok (.ireturn, 1) := by decide +kernel
theorem dL_law_798 : decode cL_law 798 = .ok (.aload_n 1, 1) := by decide +kernel
theorem dL_law_799 : decode cL_law 799 = .ok (.aload_n 0, 1) := by decide +kernel
theorem dL_law_800 : decode cL_law 800 = .ok (.iload 4, 2) := by decide +kernel
theorem dL_law_802 : decode cL_law 802 = .ok (.iconst 1, 1) := by decide +kernel
theorem dL_law_803 : decode cL_law 803 = .ok (.iadd, 1) := by decide +kernel
theorem dL_law_804 : decode cL_law 804 = .ok (.iaload, 1) := by decide +kernel
theorem dL_law_805 : decode cL_law 805 = .ok (.invokevirtual 143, 3) := by decide +kernel
theorem dL_law_808 : decode cL_law 808 = .ok (.aload_n 2, 1) := by decide +kernel
theorem dL_law_809 : decode cL_law 809 = .ok (.aload_n 0, 1) := by decide +kernel
theorem dL_law_810 : decode cL_law 810 = .ok (.iload 4, 2) := by decide +kernel
theorem dL_law_812 : decode cL_law 812 = .ok (.iconst 1, 1) := by decide +kernel
theorem dL_law_813 : decode cL_law 813 = .ok (.iadd, 1) := by decide +kernel
theorem dL_law_814 : decode cL_law 814 = .ok (.iaload, 1) := by decide +kernel
theorem dL_law_815 : decode cL_law 815 = .ok (.invokevirtual 146, 3) := by decide +kernel
theorem dL_law_818 : decode cL_law 818 = .ok (.if_icmp .eq 580, 3) := by decide +kernel
theorem dL_law_821 : decode cL_law 821 = .ok (.iconst 0, 1) := by decide +kernel
theorem dL_law_822 : decode cL_law 822 = .ok (.ireturn, 1) := by decide +kernel
theorem dL_law_823 : decode cL_law 823 = .ok (.aload_n 1, 1) := by decide +kernel
theorem dL_law_824 : decode cL_law 824 = .ok (.aload_n 0, 1) := by decide +kernel
theorem dL_law_825 : decode cL_law 825 = .ok (.iload 4, 2) := by decide +kernel
theorem dL_law_827 : decode cL_law 827 = .ok (.iconst 1, 1) := by decide +kernel
theorem dL_law_828 : decode cL_law 828 = .ok (.iadd, 1) := by decide +kernel
theorem dL_law_829 : decode cL_law 829 = .ok (.iaload, 1) := by decide +kernel
theorem dL_law_830 : decode cL_law 830 = .ok (.invokevirtual 147, 3) := by decide +kernel
theorem dL_law_833 : decode cL_law 833 = .ok (.aload_n 2, 1) := by decide +kernel
theorem dL_law_834 : decode cL_law 834 = .ok (.aload_n 0, 1) := by decide +kernel
theorem dL_law_835 : decode cL_law 835 = .ok (.iload 4, 2) := by decide +kernel
theorem dL_law_837 : decode cL_law 837 = .ok (.iconst 1, 1) := by decide +kernel
theorem dL_law_838 : decode cL_law 838 = .ok (.iadd, 1) := by decide +kernel
theorem dL_law_839 : decode cL_law 839 = .ok (.iaload, 1) := by decide +kernel
theorem dL_law_840 : decode cL_law 840 = .ok (.invokevirtual 150, 3) := by decide +kernel
theorem dL_law_843 : decode cL_law 843 = .ok (.if_icmp .eq 555, 3) := by decide +kernel
theorem dL_law_846 : decode cL_law 846 = .ok (.iconst 0, 1) := by decide +kernel
theorem dL_law_847 : decode cL_law 847 = .ok (.ireturn, 1) := by decide +kernel
theorem dL_law_848 : decode cL_law 848 = .ok (.aload_n 1, 1) := by decide +kernel
theorem dL_law_849 : decode cL_law 849 = .ok (.invokevirtual 151, 3) := by decide +kernel
theorem dL_law_852 : decode cL_law 852 = .ok (.aload_n 2, 1) := by decide +kernel
theorem dL_law_853 : decode cL_law 853 = .ok (.invokevirtual 154, 3) := by decide +kernel
theorem dL_law_856 : decode cL_law 856 = .ok (.if_icmp .eq 542, 3) := by decide +kernel
theorem dL_law_859 : decode cL_law 859 = .ok (.iconst 0, 1) := by decide +kernel
theorem dL_law_860 : decode cL_law 860 = .ok (.ireturn, 1) := by decide +kernel
theorem dL_law_861 : decode cL_law 861 = .ok (.aload_n 1, 1) := by decide +kernel
theorem dL_law_862 : decode cL_law 862 = .ok (.invokevirtual 155, 3) := by decide +kernel
theorem dL_law_865 : decode cL_law 865 = .ok (.aload_n 2, 1) := by decide +kernel
theorem dL_law_866 : decode cL_law 866 = .ok (.invokevirtual 158, 3) := by decide +kernel
theorem dL_law_869 : decode cL_law 869 = .ok (.if_icmp .eq 529, 3) := by decide +kernel
theorem dL_law_872 : decode cL_law 872 = .ok (.iconst 0, 1) := by decide +kernel
theorem dL_law_873 : decode cL_law 873 = .ok (.ireturn, 1) := by decide +kernel
theorem dL_law_874 : decode cL_law 874 = .ok (.aload_n 1, 1) := by decide +kernel
theorem dL_law_875 : decode cL_law 875 = .ok (.invokevirtual 159, 3) := by decide +kernel
theorem dL_law_878 : decode cL_law 878 = .ok (.aload_n 2, 1) := by decide +kernel
theorem dL_law_879 : decode cL_law 879 = .ok (.invokevirtual 162, 3) := by decide +kernel
theorem dL_law_882 : decode cL_law 882 = .ok (.if_icmp .eq 516, 3) := by decide +kernel
theorem dL_law_885 : decode cL_law 885 = .ok (.iconst 0, 1) := by decide +kernel
theorem dL_law_886 : decode cL_law 886 = .ok (.ireturn, 1) := by decide +kernel
theorem dL_law_887 : decode cL_law 887 = .ok (.aload_n 1, 1) := by decide +kernel
theorem dL_law_888 : decode cL_law 888 = .ok (.invokevirtual 163, 3) := by decide +kernel
theorem dL_law_891 : decode cL_law 891 = .ok (.aload_n 2, 1) := by decide +kernel
theorem dL_law_892 : decode cL_law 892 = .ok (.invokevirtual 166, 3) := by decide +kernel
theorem dL_law_895 : decode cL_law 895 = .ok (.if_icmp .eq 503, 3) := by decide +kernel
theorem dL_law_898 : decode cL_law 898 = .ok (.iconst 0, 1) := by decide +kernel
theorem dL_law_899 : decode cL_law 899 = .ok (.ireturn, 1) := by decide +kernel
theorem dL_law_900 : decode cL_law 900 = .ok (.aload_n 1, 1) := by decide +kernel
theorem dL_law_901 : decode cL_law 901 = .ok (.aload_n 0, 1) := by decide +kernel
theorem dL_law_902 : decode cL_law 902 = .ok (.iload 4, 2) := by decide +kernel
theorem dL_law_904 : decode cL_law 904 = .ok (.iconst 1, 1) := by decide +kernel
theorem dL_law_905 : decode cL_law 905 = .ok (.iadd, 1) := by decide +kernel
theorem dL_law_906 : decode cL_law 906 = .ok (.iaload, 1) := by decide +kernel
theorem dL_law_907 : decode cL_law 907 = .ok (.aload_n 3, 1) := by decide +kernel
theorem dL_law_908 : decode cL_law 908 = .ok (.invokestatic 167, 3) := by decide +kernel
theorem dL_law_911 : decode cL_law 911 = .ok (.istore 5, 2) := by decide +kernel
theorem dL_law_913 : decode cL_law 913 = .ok (.aload_n 2, 1) := by decide +kernel
theorem dL_law_914 : decode cL_law 914 = .ok (.aload_n 0, 1) := by decide +kernel
theorem dL_law_915 : decode cL_law 915 = .ok (.iload 4, 2) := by decide +kernel
theorem dL_law_917 : decode cL_law 917 = .ok (.iconst 1, 1) := by decide +kernel
theorem dL_law_918 : decode cL_law 918 = .ok (.iadd, 1) := by decide +kernel
theorem dL_law_919 : decode cL_law 919 = .ok (.iaload, 1) := by decide +kernel
theorem dL_law_920 : decode cL_law 920 = .ok (.invokevirtual 169, 3) := by decide +kernel
theorem dL_law_923 : decode cL_law 923 = .ok (.istore 6, 2) := by decide +kernel
theorem dL_law_925 : decode cL_law 925 = .ok (.aload_n 2, 1) := by decide +kernel
theorem dL_law_926 : decode cL_law 926 = .ok (.invokevirtual 73, 3) := by decide +kernel
theorem dL_law_929 : decode cL_law 929 = .ok (.iload 5, 2) := by decide +kernel
theorem dL_law_931 : decode cL_law 931 = .ok (.if_icmp .eq 5, 3) := by decide +kernel
theorem dL_law_934 : decode cL_law 934 = .ok (.iconst 0, 1) := by decide +kernel
theorem dL_law_935 : decode cL_law 935 = .ok (.ireturn, 1) := by decide +kernel
theorem dL_law_936 : decode cL_law 936 = .ok (.iload 5, 2) := by decide +kernel
theorem dL_law_938 : decode cL_law 938 = .ok (.ifCond .ne 15, 3) := by decide +kernel
theorem dL_law_941 : decode cL_law 941 = .ok (.aload_n 3, 1) := by decide +kernel
theorem dL_law_942 : decode cL_law 942 = .ok (.iconst 0, 1) := by decide +kernel
theorem dL_law_943 : decode cL_law 943 = .ok (.laload, 1) := by decide +kernel
theorem dL_law_944 : decode cL_law 944 = .ok (.iload 6, 2) := by decide +kernel
theorem dL_law_946 : decode cL_law 946 = .ok (.i2l, 1) := by decide +kernel
theorem dL_law_947 : decode cL_law 947 = .ok (.lcmp, 1) := by decide +kernel
theorem dL_law_948 : decode cL_law 948 = .ok (.ifCond .eq 5, 3) := by decide +kernel
theorem dL_law_951 : decode cL_law 951 = .ok (.iconst 0, 1) := by decide +kernel
theorem dL_law_952 : decode cL_law 952 = .ok (.ireturn, 1) := by decide +kernel
theorem dL_law_953 : decode cL_law 953 = .ok (.goto 445, 3) := by decide +kernel
theorem dL_law_956 : decode cL_law 956 = .ok (.aload_n 1, 1) := by decide +kernel
theorem dL_law_957 : decode cL_law 957 = .ok (.aload_n 0, 1) := by decide +kernel
theorem dL_law_958 : decode cL_law 958 = .ok (.iload 4, 2) := by decide +kernel
theorem dL_law_960 : decode cL_law 960 = .ok (.iconst 1, 1) := by decide +kernel
theorem dL_law_961 : decode cL_law 961 = .ok (.iadd, 1) := by decide +kernel
theorem dL_law_962 : decode cL_law 962 = .ok (.iaload, 1) := by decide +kernel
theorem dL_law_963 : decode cL_law 963 = .ok (.aload_n 3, 1) := by decide +kernel
theorem dL_law_964 : decode cL_law 964 = .ok (.invokestatic 170, 3) := by decide +kernel
theorem dL_law_967 : decode cL_law 967 = .ok (.istore 5, 2) := by decide +kernel
theorem dL_law_969 : decode cL_law 969 = .ok (.aload_n 2, 1) := by decide +kernel
theorem dL_law_970 : decode cL_law 970 = .ok (.aload_n 0, 1) := by decide +kernel
theorem dL_law_971 : decode cL_law 971 = .ok (.iload 4, 2) := by decide +kernel
theorem dL_law_973 : decode cL_law 973 = .ok (.iconst 1, 1) := by decide +kernel
theorem dL_law_974 : decode cL_law 974 = .ok (.iadd, 1) := by decide +kernel
theorem dL_law_975 : decode cL_law 975 = .ok (.iaload, 1) := by decide +kernel
theorem dL_law_976 : decode cL_law 976 = .ok (.invokevirtual 172, 3) := by decide +kernel
theorem dL_law_979 : decode cL_law 979 = .ok (.istore 6, 2) := by decide +kernel
theorem dL_law_981 : decode cL_law 981 = .ok (.aload_n 2, 1) := by decide +kernel
theorem dL_law_982 : decode cL_law 982 = .ok (.invokevirtual 73, 3) := by decide +kernel
theorem dL_law_985 : decode cL_law 985 = .ok (.iload 5, 2) := by decide +kernel
theorem dL_law_987 : decode cL_law 987 = .ok (.if_icmp .eq 5, 3) := by decide +kernel
theorem dL_law_990 : decode cL_law 990 = .ok (.iconst 0, 1) := by decide +kernel
theorem dL_law_991 : decode cL_law 991 = .ok (.ireturn, 1) := by decide +kernel
theorem dL_law_992 : decode cL_law 992 = .ok (.iload 5, 2) := by decide +kernel
theorem dL_law_994 : decode cL_law 994 = .ok (.ifCond .ne 15, 3) := by decide +kernel
theorem dL_law_997 : decode cL_law 997 = .ok (.aload_n 3, 1) := by decide +kernel
theorem dL_law_998 : decode cL_law 998 = .ok (.iconst 0, 1) := by decide +kernel
theorem dL_law_999 : decode cL_law 999 = .ok (.laload, 1) := by decide +kernel
theorem dL_law_1000 : decode cL_law 1000 = .ok (.iload 6, 2) := by decide +kernel
theorem dL_law_1002 : decode cL_law 1002 = .ok (.i2l, 1) := by decide +kernel
theorem dL_law_1003 : decode cL_law 1003 = .ok (.lcmp, 1) := by decide +kernel
theorem dL_law_1004 : decode cL_law 1004 = .ok (.ifCond .eq 5, 3) := by decide +kernel
theorem dL_law_1007 : decode cL_law 1007 = .ok (.iconst 0, 1) := by decide +kernel
theorem dL_law_1008 : decode cL_law 1008 = .ok (.ireturn, 1) := by decide +kernel
theorem dL_law_1009 : decode cL_law 1009 = .ok (.goto 389, 3) := by decide +kernel
theorem dL_law_1012 : decode cL_law 1012 = .ok (.aload_n 1, 1) := by decide +kernel
theorem dL_law_1013 : decode cL_law 1013 = .ok (.aload_n 0, 1) := by decide +kernel
theorem dL_law_1014 : decode cL_law 1014 = .ok (.iload 4, 2) := by decide +kernel
theorem dL_law_1016 : decode cL_law 1016 = .ok (.iconst 1, 1) := by decide +kernel
theorem dL_law_1017 : decode cL_law 1017 = .ok (.iadd, 1) := by decide +kernel
theorem dL_law_1018 : decode cL_law 1018 = .ok (.iaload, 1) := by decide +kernel
theorem dL_law_1019 : decode cL_law 1019 = .ok (.aload_n 3, 1) := by decide +kernel
theorem dL_law_1020 : decode cL_law 1020 = .ok (.invokestatic 173, 3) := by decide +kernel
theorem dL_law_1023 : decode cL_law 1023 = .ok (.istore 5, 2) := by decide +kernel
theorem dL_law_1025 : decode cL_law 1025 = .ok (.aload_n 2, 1) := by decide +kernel
theorem dL_law_1026 : decode cL_law 1026 = .ok (.aload_n 0, 1) := by decide +kernel
theorem dL_law_1027 : decode cL_law 1027 = .ok (.iload 4, 2) := by decide +kernel
theorem dL_law_1029 : decode cL_law 1029 = .ok (.iconst 1, 1) := by decide +kernel
theorem dL_law_1030 : decode cL_law 1030 = .ok (.iadd, 1) := by decide +kernel
theorem dL_law_1031 : decode cL_law 1031 = .ok (.iaload, 1) := by decide +kernel
theorem dL_law_1032 : decode cL_law 1032 = .ok (.invokevirtual 175, 3) := by decide +kernel
theorem dL_law_1035 : decode cL_law 1035 = .ok (.istore 6, 2) := by decide +kernel
theorem dL_law_1037 : decode cL_law 1037 = .ok (.aload_n 2, 1) := by decide +kernel
theorem dL_law_1038 : decode cL_law 1038 = .ok (.invokevirtual 73, 3) := by decide +kernel
theorem dL_law_1041 : decode cL_law 1041 = .ok (.iload 5, 2) := by decide +kernel
theorem dL_law_1043 : decode cL_law 1043 = .ok (.if_icmp .eq 5, 3) := by decide +kernel
theorem dL_law_1046 : decode cL_law 1046 = .ok (.iconst 0, 1) := by decide +kernel
theorem dL_law_1047 : decode cL_law 1047 = .ok (.ireturn, 1) := by decide +kernel
theorem dL_law_1048 : decode cL_law 1048 = .ok (.iload 5, 2) := by decide +kernel
theorem dL_law_1050 : decode cL_law 1050 = .ok (.ifCond .ne 15, 3) := by decide +kernel
theorem dL_law_1053 : decode cL_law 1053 = .ok (.aload_n 3, 1) := by decide +kernel
theorem dL_law_1054 : decode cL_law 1054 = .ok (.iconst 0, 1) := by decide +kernel
theorem dL_law_1055 : decode cL_law 1055 = .ok (.laload, 1) := by decide +kernel
theorem dL_law_1056 : decode cL_law 1056 = .ok (.iload 6, 2) := by decide +kernel
theorem dL_law_1058 : decode cL_law 1058 = .ok (.i2l, 1) := by decide +kernel
theorem dL_law_1059 : decode cL_law 1059 = .ok (.lcmp, 1) := by decide +kernel
theorem dL_law_1060 : decode cL_law 1060 = .ok (.ifCond .eq 5, 3) := by decide +kernel
theorem dL_law_1063 : decode cL_law 1063 = .ok (.iconst 0, 1) := by decide +kernel
theorem dL_law_1064 : decode cL_law 1064 = .ok (.ireturn, 1) := by decide +kernel
theorem dL_law_1065 : decode cL_law 1065 = .ok (.goto 333, 3) := by decide +kernel
theorem dL_law_1068 : decode cL_law 1068 = .ok (.aload_n 1, 1) := by decide +kernel
theorem dL_law_1069 : decode cL_law 1069 = .ok (.aload_n 0, 1) := by decide +kernel
theorem dL_law_1070 : decode cL_law 1070 = .ok (.iload 4, 2) := by decide +kernel
theorem dL_law_1072 : decode cL_law 1072 = .ok (.iconst 1, 1) := by decide +kernel
theorem dL_law_1073 : decode cL_law 1073 = .ok (.iadd, 1) := by decide +kernel
theorem dL_law_1074 : decode cL_law 1074 = .ok (.iaload, 1) := by decide +kernel
theorem dL_law_1075 : decode cL_law 1075 = .ok (.aload_n 3, 1) := by decide +kernel
theorem dL_law_1076 : decode cL_law 1076 = .ok (.invokestatic 176, 3) := by decide +kernel
theorem dL_law_1079 : decode cL_law 1079 = .ok (.istore 5, 2) := by decide +kernel
theorem dL_law_1081 : decode cL_law 1081 = .ok (.aload_n 2, 1) := by decide +kernel
theorem dL_law_1082 : decode cL_law 1082 = .ok (.aload_n 0, 1) := by decide +kernel
theorem dL_law_1083 : decode cL_law 1083 = .ok (.iload 4, 2) := by decide +kernel
theorem dL_law_1085 : decode cL_law 1085 = .ok (.iconst 1, 1) := by decide +kernel
theorem dL_law_1086 : decode cL_law 1086 = .ok (.iadd, 1) := by decide +kernel
theorem dL_law_1087 : decode cL_law 1087 = .ok (.iaload, 1) := by decide +kernel
theorem dL_law_1088 : decode cL_law 1088 = .ok (.invokevirtual 178, 3) := by decide +kernel
theorem dL_law_1091 : decode cL_law 1091 = .ok (.istore 6, 2) := by decide +kernel
theorem dL_law_1093 : decode cL_law 1093 = .ok (.aload_n 2, 1) := by decide +kernel
theorem dL_law_1094 : decode cL_law 1094 = .ok (.invokevirtual 73, 3) := by decide +kernel
theorem dL_law_1097 : decode cL_law 1097 = .ok (.iload 5, 2) := by decide +kernel
theorem dL_law_1099 : decode cL_law 1099 = .ok (.if_icmp .eq 5, 3) := by decide +kernel
theorem dL_law_1102 : decode cL_law 1102 = .ok (.iconst 0, 1) := by decide +kernel
theorem dL_law_1103 : decode cL_law 1103 = .ok (.ireturn, 1) := by decide +kernel
theorem dL_law_1104 : decode cL_law 1104 = .ok (.iload 5, 2) := by decide +kernel
theorem dL_law_1106 : decode cL_law 1106 = .ok (.ifCond .ne 15, 3) := by decide +kernel
theorem dL_law_1109 : decode cL_law 1109 = .ok (.aload_n 3, 1) := by decide +kernel
theorem dL_law_1110 : decode cL_law 1110 = .ok (.iconst 0, 1) := by decide +kernel
theorem dL_law_1111 : decode cL_law 1111 = .ok (.laload, 1) := by decide +kernel
theorem dL_law_1112 : decode cL_law 1112 = .ok (.iload 6, 2) := by decide +kernel
theorem dL_law_1114 : decode cL_law 1114 = .ok (.i2l, 1) := by decide +kernel
theorem dL_law_1115 : decode cL_law 1115 = .ok (.lcmp, 1) := by decide +kernel
theorem dL_law_1116 : decode cL_law 1116 = .ok (.ifCond .eq 5, 3) := by decide +kernel
theorem dL_law_1119 : decode cL_law 1119 = .ok (.iconst 0, 1) := by decide +kernel
theorem dL_law_1120 : decode cL_law 1120 = .ok (.ireturn, 1) := by decide +kernel
theorem dL_law_1121 : decode cL_law 1121 = .ok (.goto 277, 3) := by decide +kernel
theorem dL_law_1124 : decode cL_law 1124 = .ok (.aload_n 1, 1) := by decide +kernel
theorem dL_law_1125 : decode cL_law 1125 = .ok (.invokevirtual 179, 3) := by decide +kernel
theorem dL_law_1128 : decode cL_law 1128 = .ok (.aload_n 2, 1) := by decide +kernel
theorem dL_law_1129 : decode cL_law 1129 = .ok (.invokevirtual 182, 3) := by decide +kernel
theorem dL_law_1132 : decode cL_law 1132 = .ok (.if_icmp .eq 266, 3) := by decide +kernel
theorem dL_law_1135 : decode cL_law 1135 = .ok (.iconst 0, 1) := by decide +kernel
theorem dL_law_1136 : decode cL_law 1136 = .ok (.ireturn, 1) := by decide +kernel
theorem dL_law_1137 : decode cL_law 1137 = .ok (.aload_n 1, 1) := by decide +kernel
theorem dL_law_1138 : decode cL_law 1138 = .ok (.invokevirtual 183, 3) := by decide +kernel
theorem dL_law_1141 : decode cL_law 1141 = .ok (.aload_n 2, 1) := by decide +kernel
theorem dL_law_1142 : decode cL_law 1142 = .ok (.invokevirtual 186, 3) := by decide +kernel
theorem dL_law_1145 : decode cL_law 1145 = .ok (.if_icmp .eq 253, 3) := by decide +kernel
theorem dL_law_1148 : decode cL_law 1148 = .ok (.iconst 0, 1) := by decide +kernel
theorem dL_law_1149 : decode cL_law 1149 = .ok (.ireturn, 1) := by decide +kernel
theorem dL_law_1150 : decode cL_law 1150 = .ok (.aload_n 1, 1) := by decide +kernel
theorem dL_law_1151 : decode cL_law 1151 = .ok (.invokevirtual 187, 3) := by decide +kernel
theorem dL_law_1154 : decode cL_law 1154 = .ok (.aload_n 2, 1) := by decide +kernel
theorem dL_law_1155 : decode cL_law 1155 = .ok (.invokevirtual 190, 3) := by decide +kernel
theorem dL_law_1158 : decode cL_law 1158 = .ok (.if_icmp .eq 240, 3) := by decide +kernel
theorem dL_law_1161 : decode cL_law 1161 = .ok (.iconst 0, 1) := by decide +kernel
theorem dL_law_1162 : decode cL_law 1162 = .ok (.ireturn, 1) := by decide +kernel
theorem dL_law_1163 : decode cL_law 1163 = .ok (.aload_n 1, 1) := by decide +kernel
theorem dL_law_1164 : decode cL_law 1164 = .ok (.aload_n 0, 1) := by decide +kernel
theorem dL_law_1165 : decode cL_law 1165 = .ok (.iload 4, 2) := by decide +kernel
theorem dL_law_1167 : decode cL_law 1167 = .ok (.iconst 1, 1) := by decide +kernel
theorem dL_law_1168 : decode cL_law 1168 = .ok (.iadd, 1) := by decide +kernel
theorem dL_law_1169 : decode cL_law 1169 = .ok (.iaload, 1) := by decide +kernel
theorem dL_law_1170 : decode cL_law 1170 = .ok (.aload_n 3, 1) := by decide +kernel
theorem dL_law_1171 : decode cL_law 1171 = .ok (.invokestatic 191, 3) := by decide +kernel
theorem dL_law_1174 : decode cL_law 1174 = .ok (.istore 5, 2) := by decide +kernel
theorem dL_law_1176 : decode cL_law 1176 = .ok (.aload_n 2, 1) := by decide +kernel
theorem dL_law_1177 : decode cL_law 1177 = .ok (.aload_n 0, 1) := by decide +kernel
theorem dL_law_1178 : decode cL_law 1178 = .ok (.iload 4, 2) := by decide +kernel
theorem dL_law_1180 : decode cL_law 1180 = .ok (.iconst 1, 1) := by decide +kernel
theorem dL_law_1181 : decode cL_law 1181 = .ok (.iadd, 1) := by decide +kernel
theorem dL_law_1182 : decode cL_law 1182 = .ok (.iaload, 1) := by decide +kernel
theorem dL_law_1183 : decode cL_law 1183 = .ok (.invokevirtual 193, 3) := by decide +kernel
theorem dL_law_1186 : decode cL_law 1186 = .ok (.istore 6, 2) := by decide +kernel
theorem dL_law_1188 : decode cL_law 1188 = .ok (.aload_n 2, 1) := by decide +kernel
theorem dL_law_1189 : decode cL_law 1189 = .ok (.invokevirtual 73, 3) := by decide +kernel
theorem dL_law_1192 : decode cL_law 1192 = .ok (.iload 5, 2) := by decide +kernel
theorem dL_law_1194 : decode cL_law 1194 = .ok (.if_icmp .eq 5, 3) := by decide +kernel
theorem dL_law_1197 : decode cL_law 1197 = .ok (.iconst 0, 1) := by decide +kernel
theorem dL_law_1198 : decode cL_law 1198 = .ok (.ireturn, 1) := by decide +kernel
theorem dL_law_1199 : decode cL_law 1199 = .ok (.iload 5, 2) := by decide +kernel
theorem dL_law_1201 : decode cL_law 1201 = .ok (.ifCond .ne 15, 3) := by decide +kernel
theorem dL_law_1204 : decode cL_law 1204 = .ok (.aload_n 3, 1) := by decide +kernel
theorem dL_law_1205 : decode cL_law 1205 = .ok (.iconst 0, 1) := by decide +kernel
theorem dL_law_1206 : decode cL_law 1206 = .ok (.laload, 1) := by decide +kernel
theorem dL_law_1207 : decode cL_law 1207 = .ok (.iload 6, 2) := by decide +kernel
theorem dL_law_1209 : decode cL_law 1209 = .ok (.i2l, 1) := by decide +kernel
theorem dL_law_1210 : decode cL_law 1210 = .ok (.lcmp, 1) := by decide +kernel
theorem dL_law_1211 : decode cL_law 1211 = .ok (.ifCond .eq 5, 3) := by decide +kernel
theorem dL_law_1214 : decode cL_law 1214 = .ok (.iconst 0, 1) := by decide +kernel
theorem dL_law_1215 : decode cL_law 1215 = .ok (.ireturn, 1) := by decide +kernel
theorem dL_law_1216 : decode cL_law 1216 = .ok (.goto 182, 3) := by decide +kernel
theorem dL_law_1219 : decode cL_law 1219 = .ok (.aload_n 1, 1) := by decide +kernel
theorem dL_law_1220 : decode cL_law 1220 = .ok (.aload_n 0, 1) := by decide +kernel
theorem dL_law_1221 : decode cL_law 1221 = .ok (.iload 4, 2) := by decide +kernel
theorem dL_law_1223 : decode cL_law 1223 = .ok (.iconst 1, 1) := by decide +kernel
theorem dL_law_1224 : decode cL_law 1224 = .ok (.iadd, 1) := by decide +kernel
theorem dL_law_1225 : decode cL_law 1225 = .ok (.iaload, 1) := by decide +kernel
theorem dL_law_1226 : decode cL_law 1226 = .ok (.aload_n 3, 1) := by decide +kernel
theorem dL_law_1227 : decode cL_law 1227 = .ok (.invokestatic 194, 3) := by decide +kernel
theorem dL_law_1230 : decode cL_law 1230 = .ok (.istore 5, 2) := by decide +kernel
theorem dL_law_1232 : decode cL_law 1232 = .ok (.aload_n 2, 1) := by decide +kernel
theorem dL_law_1233 : decode cL_law 1233 = .ok (.aload_n 0, 1) := by decide +kernel
theorem dL_law_1234 : decode cL_law 1234 = .ok (.iload 4, 2) := by decide +kernel
theorem dL_law_1236 : decode cL_law 1236 = .ok (.iconst 1, 1) := by decide +kernel
theorem dL_law_1237 : decode cL_law 1237 = .ok (.iadd, 1) := by decide +kernel
theorem dL_law_1238 : decode cL_law 1238 = .ok (.iaload, 1) := by decide +kernel
theorem dL_law_1239 : decode cL_law 1239 = .ok (.invokevirtual 196, 3) := by decide +kernel
theorem dL_law_1242 : decode cL_law 1242 = .ok (.istore 6, 2) := by decide +kernel
theorem dL_law_1244 : decode cL_law 1244 = .ok (.aload_n 2, 1) := by decide +kernel
theorem dL_law_1245 : decode cL_law 1245 = .ok (.invokevirtual 73, 3) := by decide +kernel
theorem dL_law_1248 : decode cL_law 1248 = .ok (.iload 5, 2) := by decide +kernel
theorem dL_law_1250 : decode cL_law 1250 = .ok (.if_icmp .eq 5, 3) := by decide +kernel
theorem dL_law_1253 : decode cL_law 1253 = .ok (.iconst 0, 1) := by decide +kernel
theorem dL_law_1254 : decode cL_law 1254 = .ok (.ireturn, 1) := by decide +kernel
theorem dL_law_1255 : decode cL_law 1255 = .ok (.iload 5, 2) := by decide +kernel
theorem dL_law_1257 : decode cL_law 1257 = .ok (.ifCond .ne 15, 3) := by decide +kernel
theorem dL_law_1260 : decode cL_law 1260 = .ok (.aload_n 3, 1) := by decide +kernel
theorem dL_law_1261 : decode cL_law 1261 = .ok (.iconst 0, 1) := by decide +kernel
theorem dL_law_1262 : decode cL_law 1262 = .ok (.laload, 1) := by decide +kernel
theorem dL_law_1263 : decode cL_law 1263 = .ok (.iload 6, 2) := by decide +kernel
theorem dL_law_1265 : decode cL_law 1265 = .ok (.i2l, 1) := by decide +kernel
theorem dL_law_1266 : decode cL_law 1266 = .ok (.lcmp, 1) := by decide +kernel
theorem dL_law_1267 : decode cL_law 1267 = .ok (.ifCond .eq 5, 3) := by decide +kernel
theorem dL_law_1270 : decode cL_law 1270 = .ok (.iconst 0, 1) := by decide +kernel
theorem dL_law_1271 : decode cL_law 1271 = .ok (.ireturn, 1) := by decide +kernel
theorem dL_law_1272 : decode cL_law 1272 = .ok (.goto 126, 3) := by decide +kernel
theorem dL_law_1275 : decode cL_law 1275 = .ok (.aload_n 1, 1) := by decide +kernel
theorem dL_law_1276 : decode cL_law 1276 = .ok (.invokevirtual 197, 3) := by decide +kernel
theorem dL_law_1279 : decode cL_law 1279 = .ok (.aload_n 2, 1) := by decide +kernel
theorem dL_law_1280 : decode cL_law 1280 = .ok (.invokevirtual 200, 3) := by decide +kernel
theorem dL_law_1283 : decode cL_law 1283 = .ok (.if_icmp .eq 115, 3) := by decide +kernel
theorem dL_law_1286 : decode cL_law 1286 = .ok (.iconst 0, 1) := by decide +kernel
theorem dL_law_1287 : decode cL_law 1287 = .ok (.ireturn, 1) := by decide +kernel
theorem dL_law_1288 : decode cL_law 1288 = .ok (.aload_n 1, 1) := by decide +kernel
theorem dL_law_1289 : decode cL_law 1289 = .ok (.invokevirtual 201, 3) := by decide +kernel
theorem dL_law_1292 : decode cL_law 1292 = .ok (.dstore 5, 2) := by decide +kernel
theorem dL_law_1294 : decode cL_law 1294 = .ok (.aload_n 2, 1) := by decide +kernel
theorem dL_law_1295 : decode cL_law 1295 = .ok (.invokevirtual 205, 3) := by decide +kernel
theorem dL_law_1298 : decode cL_law 1298 = .ok (.dstore 7, 2) := by decide +kernel
theorem dL_law_1300 : decode cL_law 1300 = .ok (.dload 5, 2) := by decide +kernel
theorem dL_law_1302 : decode cL_law 1302 = .ok (.dload 7, 2) := by decide +kernel
theorem dL_law_1304 : decode cL_law 1304 = .ok (.dcmp .l, 1) := by decide +kernel
theorem dL_law_1305 : decode cL_law 1305 = .ok (.ifCond .eq 21, 3) := by decide +kernel
theorem dL_law_1308 : decode cL_law 1308 = .ok (.dload 5, 2) := by decide +kernel
theorem dL_law_1310 : decode cL_law 1310 = .ok (.dload 5, 2) := by decide +kernel
theorem dL_law_1312 : decode cL_law 1312 = .ok (.dcmp .l, 1) := by decide +kernel
theorem dL_law_1313 : decode cL_law 1313 = .ok (.ifCond .eq 11, 3) := by decide +kernel
theorem dL_law_1316 : decode cL_law 1316 = .ok (.dload 7, 2) := by decide +kernel
theorem dL_law_1318 : decode cL_law 1318 = .ok (.dload 7, 2) := by decide +kernel
theorem dL_law_1320 : decode cL_law 1320 = .ok (.dcmp .l, 1) := by decide +kernel
theorem dL_law_1321 : decode cL_law 1321 = .ok (.ifCond .ne 5, 3) := by decide +kernel
theorem dL_law_1324 : decode cL_law 1324 = .ok (.iconst 0, 1) := by decide +kernel
theorem dL_law_1325 : decode cL_law 1325 = .ok (.ireturn, 1) := by decide +kernel
theorem dL_law_1326 : decode cL_law 1326 = .ok (.goto 72, 3) := by decide +kernel
theorem dL_law_1329 : decode cL_law 1329 = .ok (.aload_n 1, 1) := by decide +kernel
theorem dL_law_1330 : decode cL_law 1330 = .ok (.invokevirtual 206, 3) := by decide +kernel
theorem dL_law_1333 : decode cL_law 1333 = .ok (.f2d, 1) := by decide +kernel
theorem dL_law_1334 : decode cL_law 1334 = .ok (.dstore 5, 2) := by decide +kernel
theorem dL_law_1336 : decode cL_law 1336 = .ok (.aload_n 2, 1) := by decide +kernel
theorem dL_law_1337 : decode cL_law 1337 = .ok (.invokevirtual 210, 3) := by decide +kernel
theorem dL_law_1340 : decode cL_law 1340 = .ok (.f2d, 1) := by decide +kernel
theorem dL_law_1341 : decode cL_law 1341 = .ok (.dstore 7, 2) := by decide +kernel
theorem dL_law_1343 : decode cL_law 1343 = .ok (.dload 5, 2) := by decide +kernel
theorem dL_law_1345 : decode cL_law 1345 = .ok (.dload 7, 2) := by decide +kernel
theorem dL_law_1347 : decode cL_law 1347 = .ok (.dcmp .l, 1) := by decide +kernel
theorem dL_law_1348 : decode cL_law 1348 = .ok (.ifCond .eq 21, 3) := by decide +kernel
theorem dL_law_1351 : decode cL_law 1351 = .ok (.dload 5, 2) := by decide +kernel
theorem dL_law_1353 : decode cL_law 1353 = .ok (.dload 5, 2) := by decide +kernel
theorem dL_law_1355 : decode cL_law 1355 = .ok (.dcmp .l, 1) := by decide +kernel
theorem dL_law_1356 : decode cL_law 1356 = .ok (.ifCond .eq 11, 3) := by decide +kernel
theorem dL_law_1359 : decode cL_law 1359 = .ok (.dload 7, 2) := by decide +kernel
theorem dL_law_1361 : decode cL_law 1361 = .ok (.dload 7, 2) := by decide +kernel
theorem dL_law_1363 : decode cL_law 1363 = .ok (.dcmp .l, 1) := by decide +kernel
theorem dL_law_1364 : decode cL_law 1364 = .ok (.ifCond .ne 5, 3) := by decide +kernel
theorem dL_law_1367 : decode cL_law 1367 = .ok (.iconst 0, 1) := by decide +kernel
theorem dL_law_1368 : decode cL_law 1368 = .ok (.ireturn, 1) := by decide +kernel
theorem dL_law_1369 : decode cL_law 1369 = .ok (.goto 29, 3) := by decide +kernel
theorem dL_law_1372 : decode cL_law 1372 = .ok (.aload_n 1, 1) := by decide +kernel
theorem dL_law_1373 : decode cL_law 1373 = .ok (.invokevirtual 211, 3) := by decide +kernel
theorem dL_law_1376 : decode cL_law 1376 = .ok (.aload_n 2, 1) := by decide +kernel
theorem dL_law_1377 : decode cL_law 1377 = .ok (.invokevirtual 214, 3) := by decide +kernel
theorem dL_law_1380 : decode cL_law 1380 = .ok (.if_icmp .eq 18, 3) := by decide +kernel
theorem dL_law_1383 : decode cL_law 1383 = .ok (.iconst 0, 1) := by decide +kernel
theorem dL_law_1384 : decode cL_law 1384 = .ok (.ireturn, 1) := by decide +kernel
theorem dL_law_1385 : decode cL_law 1385 = .ok (.aload_n 1, 1) := by decide +kernel
theorem dL_law_1386 : decode cL_law 1386 = .ok (.invokevirtual 215, 3) := by decide +kernel
theorem dL_law_1389 : decode cL_law 1389 = .ok (.aload_n 2, 1) := by decide +kernel
theorem dL_law_1390 : decode cL_law 1390 = .ok (.invokevirtual 218, 3) := by decide +kernel
theorem dL_law_1393 : decode cL_law 1393 = .ok (.if_icmp .eq 5, 3) := by decide +kernel
theorem dL_law_1396 : decode cL_law 1396 = .ok (.iconst 0, 1) := by decide +kernel
theorem dL_law_1397 : decode cL_law 1397 = .ok (.ireturn, 1) := by decide +kernel
theorem dL_law_1398 : decode cL_law 1398 = .ok (.iinc 4 6, 3) := by decide +kernel
theorem dL_law_1401 : decode cL_law 1401 = .ok (.goto (-1378), 3) := by decide +kernel
theorem dL_law_1404 : decode cL_law 1404 = .ok (.iconst 1, 1) := by decide +kernel
theorem dL_law_1405 : decode cL_law 1405 = .ok (.ireturn, 1) := by decide +kernel
end
section
/-! the frame: words, ints as integers, worlds, contracts, rows -/
def lw_all : List Cond := lw_tbl.filter goodWord
theorem lwa {w : Cond} (i : Nat) (h : lw_tbl[i]? = some w) (hg : goodWord w = true) : w ∈ lw_all := List.mem_filter.mpr ⟨List.mem_of_getElem? h, hg⟩
theorem lwa_tbl {w : Cond} (h : w ∈ lw_all) : w ∈ lw_tbl := (List.mem_filter.mp h).1
theorem lw_good : ∀ w ∈ lw_all, (w.onTables && w.keeps) = true ∨ ∃ ty, w = .arrayClass ty := fun _ h => good_of_word (List.mem_filter.mp h).2
abbrev ws_ (y : MethodName) (cc : ByteArray) (n : Nat) (ret : Option FieldType) : List Cond := .code y cc n ret :: lw_all
theorem lw_ws {y : MethodName} {cc : ByteArray} {n : Nat} {ret : Option FieldType} (h : Cond.code y cc n ret ∈ lw_all) : GoodIn lw_all (ws_ y cc n ret) := fun w hw => by
  rcases List.mem_cons.mp hw with rfl | hw
  · exact ⟨h, lw_good _ h⟩
  · exact ⟨hw, lw_good _ hw⟩
/-- what a call by a name needs of the tables: virtual, static -/
def LkV (own : String) (idx : Nat) (C : String) (y : MethodName) (cc : ByteArray) (maxL : Nat) (ret : Option FieldType) (n : Nat) : Prop := GoodIn lw_all (wsV own idx C y (ws_ y cc maxL ret)) ∧ (y.cls = C ∧ y.cls ≠ "java/lang/invoke/MethodHandle" ∧ y.cls ≠ "java/lang/invoke/VarHandle" ∧ (parseMethodDescriptor y.desc).map (fun d => d.parameters.length) = some n)
theorem LkV.of {own : String} {idx : Nat} {C : String} {y : MethodName} {cc : ByteArray} {maxL : Nat} {ret : Option FieldType} {n : Nat} (h1 : Cond.methodLink own idx y ∈ lw_all) (h2 : Cond.instanceMethod y ∈ lw_all) (h3 : Cond.selects C y y ∈ lw_all) (h4 : Cond.initialized C ∈ lw_all) (h5 : Cond.code y cc maxL ret ∈ lw_all) (h6 : y.cls = C ∧ y.cls ≠ "java/lang/invoke/MethodHandle" ∧ y.cls ≠ "java/lang/invoke/VarHandle" ∧ (parseMethodDescriptor y.desc).map (fun d => d.parameters.length) = some n) : LkV own idx C y cc maxL ret n := by
  refine ⟨goodIn_app (fun w hw => ?_) (lw_ws h5), h6⟩
  have hm : w ∈ lw_all := by
    simp only [List.mem_cons, List.not_mem_nil, or_false] at hw
    rcases hw with rfl | rfl | rfl | rfl <;> assumption
  exact ⟨hm, lw_good _ hm⟩
def LkS (own : String) (idx : Nat) (y : MethodName) (cc : ByteArray) (maxL : Nat) (ret : Option FieldType) (n : Nat) : Prop := GoodIn lw_all (va_wsS own idx y (ws_ y cc maxL ret)) ∧ (y.cls ≠ "java/lang/invoke/MethodHandle" ∧ y.cls ≠ "java/lang/invoke/VarHandle" ∧ (parseMethodDescriptor y.desc).map (fun d => d.parameters.length) = some n)
theorem LkS.of {own : String} {idx : Nat} {y : MethodName} {cc : ByteArray} {maxL : Nat} {ret : Option FieldType} {n : Nat} (h1 : Cond.methodLink own idx y ∈ lw_all) (h2 : Cond.static y ∈ lw_all) (h4 : Cond.initialized y.cls ∈ lw_all) (h5 : Cond.code y cc maxL ret ∈ lw_all) (h6 : y.cls ≠ "java/lang/invoke/MethodHandle" ∧ y.cls ≠ "java/lang/invoke/VarHandle" ∧ (parseMethodDescriptor y.desc).map (fun d => d.parameters.length) = some n) : LkS own idx y cc maxL ret n := by
  refine ⟨goodIn_app (fun w hw => ?_) (lw_ws h5), h6⟩
  have hm : w ∈ lw_all := by
    simp only [List.mem_cons, List.not_mem_nil, or_false] at hw
    rcases hw with rfl | rfl | rfl <;> assumption
  exact ⟨hm, lw_good _ hm⟩
/-- the classes whose objects the worlds hold -/
abbrev cls_ : List vw_C := [(RX0, TX0, 5), (RX1, TX1, 5), (RX2, TX2, 4), (RX3, TX3, 4), (RX4, TX4, 2), (RX5, TX5, 3), (RX6, TX6, 2), (RX7, TX7, 7), (RX8, TX8, 2), (RX9, TX9, 8), (RX10, TX10, 30), (RJx4a65c, TJx4a65c, 3), (RJ6, TJ6, 1)]
abbrev tys_ (k : Nat → ClassId) : List (ClassId × FieldType) := [(k 0, .int), (k 1, .char), (k 2, .object "java/lang/Object"), (k 3, .array .int), (k 4, .long)]
/-- the ground: the tables' numbers, the array classes, the cached boxes, the cache's array, the empty list's array -/
abbrev Gr : Type := va_G × (Nat → ClassId) × (Nat → Nat) × Nat × Nat
def KK (G : Gr) (U : State) : Prop := va_K G.1 cls_ (tys_ G.2.1) U
def Gd (G : Gr) (A : Nat → Prop) (U : State) (H : Heap) : Prop :=
  (vx_Zq Bundle.tN "UNASSIGNED_STACK" Bundle.steD A U H ∧ vx_Zq Bundle.tN "SUPPRESSED_SENTINEL" Bundle.listD A U H) ∧
  (vb_C G.2.2.1 A U H ∧ va_Z "java/lang/Integer$IntegerCache" "high" "I" (.int 127) A U H ∧ va_Z "java/lang/Integer$IntegerCache" "cache" "[Ljava/lang/Integer;" (.ref G.2.2.2.1) A U H ∧ va_T (.object "java/lang/Integer") G.2.2.2.1 256 (fun j => .ref (G.2.2.1 j)) A U H) ∧
  va_Z "java/util/ArrayList" "DEFAULTCAPACITY_EMPTY_ELEMENTDATA" "[Ljava/lang/Object;" (.ref G.2.2.2.2) A U H ∧ va_T (.object "java/lang/Object") G.2.2.2.2 0 (fun _ => .null) A U H
theorem Gd.moved {G : Gr} {A : Nat → Prop} {u U : State} {H : Heap} (hvm : u.vm.Alike U.vm) (h : Gd G A u H) : Gd G A U H := ⟨⟨h.1.1.moved hvm, h.1.2.moved hvm⟩, ⟨h.2.1.1.moved hvm, h.2.1.2.1.moved hvm, h.2.1.2.2.1.moved hvm, h.2.1.2.2.2.moved hvm⟩, h.2.2.1.moved hvm, h.2.2.2.moved hvm⟩
theorem Gd.kept {G : Gr} {A : Nat → Prop} {U : State} {H H1 : Heap} (h : Gd G A U H) (hq : ∀ a : Nat, a < H.size → ¬ A a → H1[a]? = H[a]?) : Gd G A U H1 := ⟨⟨h.1.1.kept hq, h.1.2.kept hq⟩, ⟨h.2.1.1.kept hq, h.2.1.2.1.kept hq, h.2.1.2.2.1.kept hq, h.2.1.2.2.2.kept hq⟩, h.2.2.1.kept hq, h.2.2.2.kept hq⟩
theorem Gd.narrow {G : Gr} {A B : Nat → Prop} {U : State} {H : Heap} (h : Gd G A U H) (hAB : ∀ q, B q → A q) : Gd G B U H := ⟨⟨h.1.1.narrow hAB, h.1.2.narrow hAB⟩, ⟨h.2.1.1.narrow hAB, h.2.1.2.1.narrow hAB, h.2.1.2.2.1.narrow hAB, h.2.1.2.2.2.narrow hAB⟩, h.2.2.1.narrow hAB, h.2.2.2.narrow hAB⟩
/-- the world w lies in H, its cells are the method's own (A), and what is not A's is as it was -/
def HW (G : Gr) (A : Nat → Prop) (H0 : Heap) (w : va_W) (H : Heap) (locs : List Loc) : Prop := va_P G.1 cls_ w H ∧ va_D A w ∧ va_S A H0 H locs ∧ ∀ q : Nat, H0.size ≤ q → A q
theorem HW.incl {G : Gr} {A : Nat → Prop} {H0 H : Heap} {w : va_W} {locs : List Loc} (h : HW G A H0 w H locs) : ∀ q, va_A w H.size q → A q := fun q hq => by
  rcases hq with ⟨k, e, hk⟩ | hq
  · exact h.2.1.2 k _ hk
  · exact h.2.2.2 q (Nat.le_trans h.2.2.1.1 hq)
def PreW (G : Gr) (w : va_W) (sz : Nat) : State → Prop := fun U => U.heap.size = sz ∧ va_P G.1 cls_ w U.heap ∧ KK G U ∧ va_D (fun _ => True) w ∧ Gd G (va_A w sz) U U.heap
def BW (G : Gr) (w : va_W) (sz : Nat) : va_W → State → Prop := fun w' t => va_P G.1 cls_ w' t.heap ∧ KK G t ∧ va_D (va_A w sz) w'
theorem PreW.blind {G : Gr} {w : va_W} {sz : Nat} {As : List Value} : FrameBlind (va_Pc As (PreW G w sz)) := fun a U g mk q => by
  obtain ⟨q0, q1, qP, qK, qD, qG⟩ := q
  exact ⟨q0, q1, qP, va_K.moved (u := U) (U := U.calling g mk a) (Vm.Alike.refl U.vm) qK, qD, qG.moved (u := U) (U := U.calling g mk a) (Vm.Alike.refl U.vm)⟩
/-- CONTRACTS: from the world w, with these arguments, the method returns; its answer and the world behind it are as Post says -/
def QcI (G : Gr) (w : va_W) (sz : Nat) (Post : Int → va_W → Prop) : Array Value → State → Outcome → State → Prop := va_Qi (fun (r : Int32) (w' : va_W) => ∃ z : Int, r = Int32.ofInt z ∧ Post z w') (BW G w sz) (va_A w sz)
def QcV (G : Gr) (w : va_W) (sz : Nat) (Post : va_W → Prop) : Array Value → State → Outcome → State → Prop := va_Qv Post (BW G w sz) (va_A w sz)
def Ct (l : Launch) (G : Gr) (y : MethodName) (ws : List Cond) (rm : Room) (As : List Value) (w : va_W) (mc ms : Nat) (Post : Int → va_W → Prop) : Prop := ∀ sz, Met l y ws rm (va_Pc As (PreW G w sz)) (QcI G w sz Post) mc ms (va_A w sz)
def CtV (l : Launch) (G : Gr) (y : MethodName) (ws : List Cond) (rm : Room) (As : List Value) (w : va_W) (mc ms : Nat) (Post : va_W → Prop) : Prop := ∀ sz, Met l y ws rm (va_Pc As (PreW G w sz)) (QcV G w sz Post) mc ms (va_A w sz)
abbrev zI (z : Int) : Value := .int (Int32.ofInt z)
abbrev InR (z : Int) : Prop := -2147483648 ≤ z ∧ z ≤ 2147483647
section
variable {l : Launch} {G : Gr} {y : MethodName} {cc : ByteArray} {nL : Nat} {ret : Option FieldType} {rm : Room} {As : List Value} {w : va_W} {mc ms : Nat}
theorem Ct.of {Post : Int → va_W → Prop} (hy : plainName y.cls = true) (hlen : (lg_sl As).length ≤ nL)
    (body : ∀ (p : Program) (e : Env) (s : State) (m : MethodId) (args : Array Value) (below : List Frame) (meth : Method) (c : Code) (ls : Array Slot), CallFix p m c cc nL s args lw_all y.cls → meth.sig.returnType = ret → meth.locks = false → KK G s → Gd G (va_A w s.heap.size) s s.heap → HW G (va_A w s.heap.size) s.heap w s.heap [] → lv_has ls nL (lv_args 0 As) → W p l e rm s m args below meth c s.heap [] 0 0 (MQ below (QcI G w s.heap.size Post) args s mc ms (va_A w s.heap.size)) (F0 m 0 ls [])) : Ct l G y (ws_ y cc nL ret) rm As w mc ms Post := by
  intro sz
  refine Met.ofW (cc := cc) (maxL := nL) (ret := ret) hy rfl ?_
  intro p e s m args below meth c s₁ B hml hv
  obtain ⟨rfl, rfl, hP, hK, hD0, hG⟩ := hv
  have hts : ∀ w ∈ ws_ y cc nL ret, w.before As.toArray s = true := atoms_spec (ws := ws_ y cc nL ret) B.pre
  rw [lg_entry_eq]
  exact body p e s m _ below meth c _ ⟨B.exec, B.bytes, hml, findClass_of_methodNamed B.named, fun w h => hts w (List.mem_cons_of_mem _ h)⟩ B.returns B.notSynchronized hK hG ⟨hP, hD0.self, va_S.rf, fun q h => Or.inr h⟩ (lv_entry As hlen)
theorem CtV.of {Post : va_W → Prop} (hy : plainName y.cls = true) (hlen : (lg_sl As).length ≤ nL)
    (body : ∀ (p : Program) (e : Env) (s : State) (m : MethodId) (args : Array Value) (below : List Frame) (meth : Method) (c : Code) (ls : Array Slot), CallFix p m c cc nL s args lw_all y.cls → meth.sig.returnType = ret → meth.locks = false → KK G s → Gd G (va_A w s.heap.size) s s.heap → HW G (va_A w s.heap.size) s.heap w s.heap [] → lv_has ls nL (lv_args 0 As) → W p l e rm s m args below meth c s.heap [] 0 0 (MQ below (QcV G w s.heap.size Post) args s mc ms (va_A w s.heap.size)) (F0 m 0 ls [])) : CtV l G y (ws_ y cc nL ret) rm As w mc ms Post := by
  intro sz
  refine Met.ofW (cc := cc) (maxL := nL) (ret := ret) hy rfl ?_
  intro p e s m args below meth c s₁ B hml hv
  obtain ⟨rfl, rfl, hP, hK, hD0, hG⟩ := hv
  have hts : ∀ w ∈ ws_ y cc nL ret, w.before As.toArray s = true := atoms_spec (ws := ws_ y cc nL ret) B.pre
  rw [lg_entry_eq]
  exact body p e s m _ below meth c _ ⟨B.exec, B.bytes, hml, findClass_of_methodNamed B.named, fun w h => hts w (List.mem_cons_of_mem _ h)⟩ B.returns B.notSynchronized hK hG ⟨hP, hD0.self, va_S.rf, fun q h => Or.inr h⟩ (lv_entry As hlen)
end
section
variable {p : Program} {l : Launch} {e : Env} {R : Room} {s : State} {m : MethodId} {args : Array Value} {below : List Frame} {meth : Method} {c : Code} {H : Heap} {locs : List Loc} {cells slots : Nat} {Q : State → Prop}
variable {cc : ByteArray} {own : String} {nL pc : Nat} {ls : Array Slot} {rest : List Value} {G : Gr} {A : Nat → Prop} {w : va_W} {lv lv' : List (Nat × Value)}
theorem HW.pre (K : KK G s) (g : Gd G A s s.heap) (h : HW G A s.heap w H locs) {U : State} (hU : U.heap = H) (hW : s.WarmedH U.vm) : PreW G w H.size U :=
  ⟨by rw [hU], by rw [hU]; exact h.1, va_K.moved hW.alike K, h.2.1.weaken (fun _ _ _ _ => trivial), by rw [hU]; exact ((g.kept h.2.2.1.2.1).narrow h.incl).moved hW.alike⟩
/-- a virtual call that answers an int -/
theorem r_callVi (X : CallFix p m c cc nL s args lw_all own) (K : KK G s) (g : Gd G A s s.heap) (h : HW G A s.heap w H locs) {C : String} {y : MethodName} {bytes : ByteArray} {maxL n idx b : Nat} {ret : Option FieldType} {rm' : Room} {As : List Value} {mc' ms' : Nat} {Post : Int → va_W → Prop}
    (hC : Ct l G y (ws_ y bytes maxL ret) rm' (.ref b :: As) w mc' ms' Post) (lk : LkV own idx C y bytes maxL ret n) (q0 : Nat) {ci N : Nat} {fs : List Value} {T : u_T} (he : w[q0]? = some (b, .inr (ci, fs))) (hc : cls_[ci]? = some (C, T, N)) (hrm : rm'.cells = mc' ∧ rm'.slots = ms') (hR : rm'.frames + 1 ≤ R.frames ∧ 8 + (maxL + 11) + rm'.locals ≤ R.locals) (hn : As.length = n) (hls : ls.size = nL) {st : List Value} (hst : st = As.reverse ++ .ref b :: rest) (hW : (rest.map fun v => v.category).sum ≤ 8) (hdg : decode cc pc = .ok (.invokevirtual idx, 3)) (hb : cells + mc' ≤ R.cells ∧ slots + ms' ≤ R.slots)
    (kk : ∀ (z : Int) (w' : va_W) (H1 : Heap) (locs1 : List Loc), Post z w' → HW G A s.heap w' H1 locs1 → W p l e R s m args below meth c H1 locs1 (cells + mc') (slots + ms') Q (F0 m (pc + 3) ls (zI z :: rest))) : W p l e R s m args below meth c H locs cells slots Q (F0 m pc ls st) := by
  subst hst
  refine va_calli (va_runV (As := As) (rest := rest) X (hC H.size) (cwV n X.2.2.2.2 lk.1 rfl hrm.1 hrm.2 lk.2 hR) ⟨PreW.blind, va_recv K h.1 hc he, fun U hU hW => ⟨rfl, h.pre K g hU hW⟩⟩ rfl hn hls rfl (lv_room hW) hdg hb) h.2.2.1 (fun q _ hq => h.incl q hq) h.incl (fun r u t H1 locs1 ht hvm hw hB hz1 hk1 hS => ?_)
  obtain ⟨z, rfl, hp⟩ := hw
  exact kk z u H1 locs1 hp ⟨by rw [← ht]; exact hB.1, hB.2.2.weaken (fun _ _ _ hq => h.incl _ hq), hS, h.2.2.2⟩
theorem r_callVv (X : CallFix p m c cc nL s args lw_all own) (K : KK G s) (g : Gd G A s s.heap) (h : HW G A s.heap w H locs) {C : String} {y : MethodName} {bytes : ByteArray} {maxL n idx b : Nat} {ret : Option FieldType} {rm' : Room} {As : List Value} {mc' ms' : Nat} {Post : va_W → Prop}
    (hC : CtV l G y (ws_ y bytes maxL ret) rm' (.ref b :: As) w mc' ms' Post) (lk : LkV own idx C y bytes maxL ret n) (q0 : Nat) {ci N : Nat} {fs : List Value} {T : u_T} (he : w[q0]? = some (b, .inr (ci, fs))) (hc : cls_[ci]? = some (C, T, N)) (hrm : rm'.cells = mc' ∧ rm'.slots = ms') (hR : rm'.frames + 1 ≤ R.frames ∧ 8 + (maxL + 11) + rm'.locals ≤ R.locals) (hn : As.length = n) (hls : ls.size = nL) {st : List Value} (hst : st = As.reverse ++ .ref b :: rest) (hW : (rest.map fun v => v.category).sum ≤ 8) (hdg : decode cc pc = .ok (.invokevirtual idx, 3)) (hb : cells + mc' ≤ R.cells ∧ slots + ms' ≤ R.slots)
    (kk : ∀ (w' : va_W) (H1 : Heap) (locs1 : List Loc), Post w' → HW G A s.heap w' H1 locs1 → W p l e R s m args below meth c H1 locs1 (cells + mc') (slots + ms') Q (F0 m (pc + 3) ls rest)) : W p l e R s m args below meth c H locs cells slots Q (F0 m pc ls st) := by
  subst hst
  refine va_callv (va_runV (As := As) (rest := rest) X (hC H.size) (cwV n X.2.2.2.2 lk.1 rfl hrm.1 hrm.2 lk.2 hR) ⟨PreW.blind, va_recv K h.1 hc he, fun U hU hW => ⟨rfl, h.pre K g hU hW⟩⟩ rfl hn hls rfl (lv_room hW) hdg hb) h.2.2.1 (fun q _ hq => h.incl q hq) h.incl (fun u t H1 locs1 ht hvm hw hB hz1 hk1 hS => ?_)
  exact kk u H1 locs1 hw ⟨by rw [← ht]; exact hB.1, hB.2.2.weaken (fun _ _ _ hq => h.incl _ hq), hS, h.2.2.2⟩
theorem r_callSi (X : CallFix p m c cc nL s args lw_all own) (K : KK G s) (g : Gd G A s s.heap) (h : HW G A s.heap w H locs) {y : MethodName} {bytes : ByteArray} {maxL n idx : Nat} {ret : Option FieldType} {rm' : Room} {As : List Value} {mc' ms' : Nat} {Post : Int → va_W → Prop}
    (hC : Ct l G y (ws_ y bytes maxL ret) rm' As w mc' ms' Post) (lk : LkS own idx y bytes maxL ret n) (hrm : rm'.cells = mc' ∧ rm'.slots = ms') (hR : rm'.frames + 1 ≤ R.frames ∧ 8 + (maxL + 11) + rm'.locals ≤ R.locals) (hn : As.length = n) (hls : ls.size = nL) {st : List Value} (hst : st = As.reverse ++ rest) (hW : (rest.map fun v => v.category).sum ≤ 8) (hdg : decode cc pc = .ok (.invokestatic idx, 3)) (hb : cells + mc' ≤ R.cells ∧ slots + ms' ≤ R.slots)
    (kk : ∀ (z : Int) (w' : va_W) (H1 : Heap) (locs1 : List Loc), Post z w' → HW G A s.heap w' H1 locs1 → W p l e R s m args below meth c H1 locs1 (cells + mc') (slots + ms') Q (F0 m (pc + 3) ls (zI z :: rest))) : W p l e R s m args below meth c H locs cells slots Q (F0 m pc ls st) := by
  subst hst
  refine va_calli (va_runS (As := As) (rest := rest) X (hC H.size) (va_cwS n X.2.2.2.2 lk.1 rfl hrm.1 hrm.2 lk.2 hR) ⟨PreW.blind, fun U hU hW => ⟨rfl, h.pre K g hU hW⟩⟩ rfl hn hls rfl (lv_room hW) hdg hb) h.2.2.1 (fun q _ hq => h.incl q hq) h.incl (fun r u t H1 locs1 ht hvm hw hB hz1 hk1 hS => ?_)
  obtain ⟨z, rfl, hp⟩ := hw
  exact kk z u H1 locs1 hp ⟨by rw [← ht]; exact hB.1, hB.2.2.weaken (fun _ _ _ hq => h.incl _ hq), hS, h.2.2.2⟩
theorem r_callSv (X : CallFix p m c cc nL s args lw_all own) (K : KK G s) (g : Gd G A s s.heap) (h : HW G A s.heap w H locs) {y : MethodName} {bytes : ByteArray} {maxL n idx : Nat} {ret : Option FieldType} {rm' : Room} {As : List Value} {mc' ms' : Nat} {Post : va_W → Prop}
    (hC : CtV l G y (ws_ y bytes maxL ret) rm' As w mc' ms' Post) (lk : LkS own idx y bytes maxL ret n) (hrm : rm'.cells = mc' ∧ rm'.slots = ms') (hR : rm'.frames + 1 ≤ R.frames ∧ 8 + (maxL + 11) + rm'.locals ≤ R.locals) (hn : As.length = n) (hls : ls.size = nL) {st : List Value} (hst : st = As.reverse ++ rest) (hW : (rest.map fun v => v.category).sum ≤ 8) (hdg : decode cc pc = .ok (.invokestatic idx, 3)) (hb : cells + mc' ≤ R.cells ∧ slots + ms' ≤ R.slots)
    (kk : ∀ (w' : va_W) (H1 : Heap) (locs1 : List Loc), Post w' → HW G A s.heap w' H1 locs1 → W p l e R s m args below meth c H1 locs1 (cells + mc') (slots + ms') Q (F0 m (pc + 3) ls rest)) : W p l e R s m args below meth c H locs cells slots Q (F0 m pc ls st) := by
  subst hst
  refine va_callv (va_runS (As := As) (rest := rest) X (hC H.size) (va_cwS n X.2.2.2.2 lk.1 rfl hrm.1 hrm.2 lk.2 hR) ⟨PreW.blind, fun U hU hW => ⟨rfl, h.pre K g hU hW⟩⟩ rfl hn hls rfl (lv_room hW) hdg hb) h.2.2.1 (fun q _ hq => h.incl q hq) h.incl (fun u t H1 locs1 ht hvm hw hB hz1 hk1 hS => ?_)
  exact kk u H1 locs1 hw ⟨by rw [← ht]; exact hB.1, hB.2.2.weaken (fun _ _ _ hq => h.incl _ hq), hS, h.2.2.2⟩
/-- the ends -/
theorem r_iret {w0 : va_W} {mc ms : Nat} {Post : Int → va_W → Prop} (X : CallFix p m c cc nL s args lw_all own) (hr : meth.sig.returnType = some .int) (hlocks : meth.locks = false) (K : KK G s) (h : HW G (va_A w0 s.heap.size) s.heap w H locs) (hc : cells ≤ mc) (hs : slots ≤ ms) (hdg : decode cc pc = .ok (.ireturn, 1)) {z : Int} (hp : Post z w) : W p l e R s m args below meth c H locs cells slots (MQ below (QcI G w0 s.heap.size Post) args s mc ms (va_A w0 s.heap.size)) (F0 m pc ls [zI z]) :=
  W.widen hc hs (W.iret X.1 X.2.1 hr (fun t ht hW => ⟨⟨Int32.ofInt z, w, rfl, ⟨z, rfl, hp⟩, by rw [ht]; exact h.1, va_K.moved hW.alike K, h.2.1⟩, h.2.2.1.F ht⟩) h.2.2.1.2.2 hdg hlocks)
theorem r_zret {w0 : va_W} {mc ms : Nat} {Post : Int → va_W → Prop} (X : CallFix p m c cc nL s args lw_all own) (hr : meth.sig.returnType = some .boolean) (hlocks : meth.locks = false) (K : KK G s) (h : HW G (va_A w0 s.heap.size) s.heap w H locs) (hc : cells ≤ mc) (hs : slots ≤ ms) (hdg : decode cc pc = .ok (.ireturn, 1)) {z : Int} (hz : z = 0 ∨ z = 1) (hp : Post z w) : W p l e R s m args below meth c H locs cells slots (MQ below (QcI G w0 s.heap.size Post) args s mc ms (va_A w0 s.heap.size)) (F0 m pc ls [zI z]) :=
  W.widen hc hs (W.zret X.1 X.2.1 hr (by rcases hz with rfl | rfl <;> rfl) (fun t ht hW => ⟨⟨Int32.ofInt z, w, rfl, ⟨z, rfl, hp⟩, by rw [ht]; exact h.1, va_K.moved hW.alike K, h.2.1⟩, h.2.2.1.F ht⟩) h.2.2.1.2.2 hdg hlocks)
theorem r_vret {w0 : va_W} {mc ms : Nat} {Post : va_W → Prop} (X : CallFix p m c cc nL s args lw_all own) (hr : meth.sig.returnType = none) (hlocks : meth.locks = false) (K : KK G s) (h : HW G (va_A w0 s.heap.size) s.heap w H locs) (hc : cells ≤ mc) (hs : slots ≤ ms) (hdg : decode cc pc = .ok (.return_, 1)) (hp : Post w) : W p l e R s m args below meth c H locs cells slots (MQ below (QcV G w0 s.heap.size Post) args s mc ms (va_A w0 s.heap.size)) (F0 m pc ls []) :=
  W.widen hc hs (W.vret X.1 X.2.1 hr (fun t ht hW => ⟨⟨w, rfl, hp, by rw [ht]; exact h.1, va_K.moved hW.alike K, h.2.1⟩, h.2.2.1.F ht⟩) h.2.2.1.2.2 hdg hlocks)
end
end
section
/-! rows over integers -/
theorem zr_lo : Int32.minValue.toInt = -2147483648 := by decide
theorem zr_hi : Int32.maxValue.toInt = 2147483647 := by decide
theorem zr_lt {x y : Int} (hx : InR x) (hy : InR y) : Int32.ofInt x < Int32.ofInt y ↔ x < y := Int32.ofInt_lt_iff_lt (by rw [zr_lo]; exact hx.1) (by rw [zr_hi]; exact hx.2) (by rw [zr_lo]; exact hy.1) (by rw [zr_hi]; exact hy.2)
theorem zr_le {x y : Int} (hx : InR x) (hy : InR y) : Int32.ofInt x ≤ Int32.ofInt y ↔ x ≤ y := Int32.ofInt_le_iff_le (by rw [zr_lo]; exact hx.1) (by rw [zr_hi]; exact hx.2) (by rw [zr_lo]; exact hy.1) (by rw [zr_hi]; exact hy.2)
theorem zr_toInt {x : Int} (hx : InR x) : (Int32.ofInt x).toInt = x := Int32.toInt_ofInt_of_le (by have := hx.1; omega) (by have := hx.2; omega)
theorem zr_eq {x y : Int} (hx : InR x) (hy : InR y) : Int32.ofInt x = Int32.ofInt y ↔ x = y := ⟨fun h => by rw [← zr_toInt hx, ← zr_toInt hy, h], fun h => by rw [h]⟩
theorem zr_0 : InR 0 := by decide
theorem zr_in (x : Int32) : InR x.toInt := ⟨by have := x.le_toInt; omega, by have := x.toInt_lt; omega⟩
theorem zr_of (x : Int32) : Int32.ofInt x.toInt = x := Int32.ofInt_toInt x
theorem zr_vp {i : Int} {n : Nat} (h0 : 0 ≤ i) (h : i < n) (hn : n < 2 ^ 31) : vp_in (Int32.ofInt i) n := vp_in_iff.mpr (by rw [zr_toInt ⟨by omega, by omega⟩]; exact ⟨h0, h⟩)
theorem zr_cl {i : Int} (h0 : 0 ≤ i) (h : i < 2147483648) : (Int32.ofInt i).toNatClampNeg = i.toNat := by
  show (Int32.ofInt i).toInt.toNat = _
  rw [zr_toInt ⟨by omega, by omega⟩]
theorem zr_div {x y : Int} (hx : InR x) (hy : InR y) (h0 : 0 ≤ x) : Int32.ofInt x / Int32.ofInt y = Int32.ofInt (x / y) := by
  rw [← Int.tdiv_eq_ediv_of_nonneg h0]
  exact (Int32.ofInt_tdiv (by rw [zr_lo]; exact hx.1) (by rw [zr_hi]; exact hx.2) (by rw [zr_lo]; exact hy.1) (by rw [zr_hi]; exact hy.2)).symm
theorem zr_rem {x y : Int} (hx : InR x) (hy : InR y) (h0 : 0 ≤ x) : Int32.ofInt x - Int32.ofInt x / Int32.ofInt y * Int32.ofInt y = Int32.ofInt (x % y) := by
  rw [zr_div hx hy h0, ← Int32.ofInt_mul, ← Int32.ofInt_sub, Int.emod_def, Int.mul_comm]
theorem zr_bv (x : Int) : (Int32.ofInt x).toBitVec.toNat = (x % 4294967296).toNat := by
  show (BitVec.ofInt 32 x).toNat = _
  rw [BitVec.toNat_ofInt]
  rfl
theorem zr_and (x : Int) (k : Nat) (hk : k ≤ 31) {mm : Int32} (hm : mm.toBitVec.toNat = 2 ^ k - 1) : Int32.ofInt x &&& mm = Int32.ofInt (x % (2 ^ k : Nat)) := by
  rw [pk_and _ k hm, zr_bv]
  have h2 : ((2 ^ k : Nat) : Int) ∣ 4294967296 := by
    have : (2 : Nat) ^ k ∣ 2 ^ 32 := Nat.pow_dvd_pow 2 (by omega)
    exact Int.natCast_dvd_natCast.mpr this
  have e : ((x % 4294967296).toNat % 2 ^ k : Nat) = (x % (2 ^ k : Nat)).toNat := by
    have hp : (0 : Int) < (2 ^ k : Nat) := Int.natCast_pos.mpr (Nat.two_pow_pos k)
    apply Int.ofNat.inj
    show ((((x % 4294967296).toNat % 2 ^ k : Nat)) : Int) = ((x % (2 ^ k : Nat)).toNat : Int)
    rw [Int.natCast_emod, Int.toNat_of_nonneg (Int.emod_nonneg _ (by decide)), Int.toNat_of_nonneg (Int.emod_nonneg _ (by omega)), Int.emod_emod_of_dvd _ h2]
  rw [e]
  have hp : (0 : Int) < (2 ^ k : Nat) := Int.natCast_pos.mpr (Nat.two_pow_pos k)
  show Int32.ofNat _ = _
  rw [← Int32.ofInt_eq_ofNat, Int.toNat_of_nonneg (Int.emod_nonneg _ (by omega))]
theorem zr_255 (x : Int) : Int32.ofInt x &&& Int32.ofInt 255 = Int32.ofInt (x % 256) := zr_and x 8 (by decide) (by decide)
theorem zr_63 (x : Int) : Int32.ofInt x &&& Int32.ofInt 63 = Int32.ofInt (x % 64) := zr_and x 6 (by decide) (by decide)
theorem zr_and01 {x y : Int} (hx : x = 0 ∨ x = 1) (hy : y = 0 ∨ y = 1) : Int32.ofInt x &&& Int32.ofInt y = Int32.ofInt (x * y) := by
  rcases hx with rfl | rfl <;> rcases hy with rfl | rfl <;> decide
theorem zr_shr {x : Int} (hx : InR x) (k : Nat) (hk : k < 32) : Int32.ofInt x >>> (Int32.ofInt k &&& 31) = Int32.ofInt (x / (2 ^ k : Nat)) := by
  have h : ∀ k : Fin 32, ((Int32.ofInt (k.val : Int) &&& 31).toBitVec.smod 32).toNat = k.val := by decide
  have h1 := pk_shr (Int32.ofInt x) (Int32.ofInt k &&& 31) k (h ⟨k, hk⟩)
  rw [zr_toInt hx, Int.shiftRight_eq_div_pow] at h1
  rw [← zr_of (Int32.ofInt x >>> (Int32.ofInt k &&& 31)), h1]
theorem zr_ushr (x : Int) (k : Nat) (hk : k < 32) : ((Int32.ofInt x).toUInt32 >>> ((Int32.ofInt k).toUInt32 &&& Int32.toUInt32 31)).toInt32 = Int32.ofInt ((x % 4294967296) / (2 ^ k : Nat)) := by
  have h : ∀ k : Fin 32, (((Int32.ofInt (k.val : Int)).toUInt32 &&& Int32.toUInt32 31).toBitVec % 32).toNat = k.val := by decide
  have h1 := pk_ushr (Int32.ofInt x) (Int32.ofInt k) k (h ⟨k, hk⟩)
  rw [zr_bv] at h1
  apply Int32.toBitVec.inj
  apply BitVec.eq_of_toNat_eq
  rw [h1, zr_bv]
  have a1 : 0 ≤ x % 4294967296 := Int.emod_nonneg _ (by decide)
  have a2 : x % 4294967296 < 4294967296 := Int.emod_lt_of_pos _ (by decide)
  have a3 : (0 : Int) ≤ (x % 4294967296) / (2 ^ k : Nat) := Int.ediv_nonneg a1 (Int.natCast_nonneg _)
  have a4 : (x % 4294967296) / (2 ^ k : Nat) ≤ x % 4294967296 := Int.ediv_le_self _ a1
  rw [Int.emod_eq_of_lt a3 (by omega)]
  apply Int.ofNat.inj
  show (((x % 4294967296).toNat / 2 ^ k : Nat) : Int) = (((x % 4294967296) / (2 ^ k : Nat)).toNat : Int)
  rw [Int.natCast_ediv, Int.toNat_of_nonneg a1, Int.toNat_of_nonneg a3]
theorem zr_i2c {x : Int} (h0 : 0 ≤ x) (h : x < 65536) : ((Int32.ofInt x).toUInt32 % 65536).toInt32 = Int32.ofInt x := by
  apply Int32.toBitVec.inj
  apply BitVec.eq_of_toNat_eq
  show ((Int32.ofInt x).toUInt32 % 65536).toNat = _
  rw [UInt32.toNat_mod]
  show (Int32.ofInt x).toBitVec.toNat % _ = _
  rw [zr_bv]
  rw [Int.emod_eq_of_lt h0 (by omega)]
  show x.toNat % 65536 = _
  omega
theorem zr_u16 {x : Int} (h0 : 0 ≤ x) (h : x < 65536) : (Int32.ofInt x).toUInt32.toUInt16.toUInt32.toInt32 = Int32.ofInt x := by
  apply Int32.toBitVec.inj
  apply BitVec.eq_of_toNat_eq
  show (Int32.ofInt x).toUInt32.toUInt16.toUInt32.toNat = _
  rw [UInt16.toNat_toUInt32, UInt32.toNat_toUInt16]
  show (Int32.ofInt x).toBitVec.toNat % _ = _
  rw [zr_bv, Int.emod_eq_of_lt h0 (by omega)]
  omega
/-- arrays: contents as integers, by integers -/
def aI (f : Int → Int) : Nat → Int32 := fun j => Int32.ofInt (f (j : Int))
def zset (f : Int → Int) (i v : Int) : Int → Int := fun j => if j = i then v else f j
theorem zset_same (f : Int → Int) (i v : Int) : zset f i v i = v := if_pos rfl
theorem zset_ne {f : Int → Int} {i v j : Int} (h : j ≠ i) : zset f i v j = f j := if_neg h
theorem aI_upd {f : Int → Int} {i x : Int} (h0 : 0 ≤ i) (h : i < 2147483648) : upd (aI f) (Int32.ofInt i).toNatClampNeg (Int32.ofInt x) = aI (zset f i x) := by
  rw [zr_cl h0 h]
  funext j
  show (if j = i.toNat then _ else _) = Int32.ofInt (if (j : Int) = i then x else f j)
  by_cases hj : j = i.toNat
  · rw [if_pos hj, if_pos (by omega)]
  · rw [if_neg hj, if_neg (by omega)]
    rfl
theorem aI_at {f : Int → Int} {i : Int} (h0 : 0 ≤ i) (h : i < 2147483648) : aI f (Int32.ofInt i).toNatClampNeg = Int32.ofInt (f i) := by
  rw [zr_cl h0 h]
  show Int32.ofInt (f (i.toNat : Int)) = _
  rw [Int.toNat_of_nonneg h0]
theorem rf_cat (r : Option Nat) : (va_rf r).category = 1 := by cases r <;> rfl
theorem lv_size {ls : Array Slot} {n : Nat} {lv : List (Nat × Value)} (h : lv_has ls n lv) : ls.size = n := h.1

section
variable {p : Program} {l : Launch} {e : Env} {R : Room} {s : State} {m : MethodId} {args : Array Value} {below : List Frame} {meth : Method} {c : Code} {H : Heap} {locs : List Loc} {cells slots : Nat} {Q : State → Prop}
variable {cc : ByteArray} {own : String} {nL pc : Nat} {ls : Array Slot} {rest : List Value} {G : Gr} {A : Nat → Prop} {w : va_W} {lv lv' : List (Nat × Value)}
theorem z_iconst (X : CallFix p m c cc nL s args lw_all own) {n : Int} (hdg : decode cc pc = .ok (.iconst n, 1)) (kk : W p l e R s m args below meth c H locs cells slots Q (F0 m (pc + 1) ls (zI n :: rest))) : W p l e R s m args below meth c H locs cells slots Q (F0 m pc ls rest) := lv_iconst X.1 X.2.1 hdg rfl kk
theorem z_bipush (X : CallFix p m c cc nL s args lw_all own) {n v : Int} (hdg : decode cc pc = .ok (.bipush n, 2)) (hv : (Int8.ofInt n).toInt32 = Int32.ofInt v) (kk : W p l e R s m args below meth c H locs cells slots Q (F0 m (pc + 2) ls (zI v :: rest))) : W p l e R s m args below meth c H locs cells slots Q (F0 m pc ls rest) := lv_bipush X.1 X.2.1 hdg hv kk
theorem z_sipush (X : CallFix p m c cc nL s args lw_all own) {n v : Int} (hdg : decode cc pc = .ok (.sipush n, 3)) (hv : (Int16.ofInt n).toInt32 = Int32.ofInt v) (kk : W p l e R s m args below meth c H locs cells slots Q (F0 m (pc + 3) ls (zI v :: rest))) : W p l e R s m args below meth c H locs cells slots Q (F0 m pc ls rest) := lv_sipush X.1 X.2.1 hdg hv kk
theorem z_ldc (X : CallFix p m c cc nL s args lw_all own) {idx : Nat} {v : Int32} {z : Int} (hdg : decode cc pc = .ok (.ldc idx, 2)) (hw : Cond.constant own idx v ∈ lw_all) (hz : v = Int32.ofInt z) (kk : W p l e R s m args below meth c H locs cells slots Q (F0 m (pc + 2) ls (zI z :: rest))) : W p l e R s m args below meth c H locs cells slots Q (F0 m pc ls rest) := lv_ldc X.1 X.2.1 X.2.2.2.1 (X.2.2.2.2 _ hw) hdg (by rw [hz]; exact kk)
theorem z_iload_n (X : CallFix p m c cc nL s args lw_all own) (h : lv_has ls nL lv) (j : Nat) {i : Nat} {k : Fin 4} {x : Int} (hj : lv[j]? = some (i, zI x)) (hi : (k : Nat) = i) (hdg : decode cc pc = .ok (.iload_n k, 1)) (kk : W p l e R s m args below meth c H locs cells slots Q (F0 m (pc + 1) ls (zI x :: rest))) : W p l e R s m args below meth c H locs cells slots Q (F0 m pc ls rest) := lv_iload_n X.1 X.2.1 hdg hi (lv_at h j hj) kk
theorem z_iload (X : CallFix p m c cc nL s args lw_all own) (h : lv_has ls nL lv) (j : Nat) {i : Nat} {x : Int} (hj : lv[j]? = some (i, zI x)) (hdg : decode cc pc = .ok (.iload i, 2)) (kk : W p l e R s m args below meth c H locs cells slots Q (F0 m (pc + 2) ls (zI x :: rest))) : W p l e R s m args below meth c H locs cells slots Q (F0 m pc ls rest) := lv_iload X.1 X.2.1 hdg (lv_at h j hj) kk
theorem z_aload_n (X : CallFix p m c cc nL s args lw_all own) (h : lv_has ls nL lv) (j : Nat) {i : Nat} {k : Fin 4} {x : Nat} (hj : lv[j]? = some (i, .ref x)) (hi : (k : Nat) = i) (hdg : decode cc pc = .ok (.aload_n k, 1)) (kk : W p l e R s m args below meth c H locs cells slots Q (F0 m (pc + 1) ls (.ref x :: rest))) : W p l e R s m args below meth c H locs cells slots Q (F0 m pc ls rest) := lv_aload_n X.1 X.2.1 hdg hi (lv_at h j hj) kk
theorem z_aload (X : CallFix p m c cc nL s args lw_all own) (h : lv_has ls nL lv) (j : Nat) {i : Nat} {x : Nat} (hj : lv[j]? = some (i, .ref x)) (hdg : decode cc pc = .ok (.aload i, 2)) (kk : W p l e R s m args below meth c H locs cells slots Q (F0 m (pc + 2) ls (.ref x :: rest))) : W p l e R s m args below meth c H locs cells slots Q (F0 m pc ls rest) := lv_aload X.1 X.2.1 hdg (lv_at h j hj) kk
theorem z_aloadR_n (X : CallFix p m c cc nL s args lw_all own) (h : lv_has ls nL lv) (j : Nat) {i : Nat} {k : Fin 4} {r : Option Nat} (hj : lv[j]? = some (i, va_rf r)) (hi : (k : Nat) = i) (hdg : decode cc pc = .ok (.aload_n k, 1)) (kk : W p l e R s m args below meth c H locs cells slots Q (F0 m (pc + 1) ls (va_rf r :: rest))) : W p l e R s m args below meth c H locs cells slots Q (F0 m pc ls rest) := by
  cases r with
  | none => exact lv_aload_nN X.1 X.2.1 hdg hi (lv_at h j hj) kk
  | some q => exact lv_aload_n X.1 X.2.1 hdg hi (lv_at h j hj) kk
theorem z_aloadR (X : CallFix p m c cc nL s args lw_all own) (h : lv_has ls nL lv) (j : Nat) {i : Nat} {r : Option Nat} (hj : lv[j]? = some (i, va_rf r)) (hdg : decode cc pc = .ok (.aload i, 2)) (kk : W p l e R s m args below meth c H locs cells slots Q (F0 m (pc + 2) ls (va_rf r :: rest))) : W p l e R s m args below meth c H locs cells slots Q (F0 m pc ls rest) := by
  cases r with
  | none => exact lv_aloadN X.1 X.2.1 hdg (lv_at h j hj) kk
  | some q => exact lv_aload X.1 X.2.1 hdg (lv_at h j hj) kk
theorem z_istore_n (X : CallFix p m c cc nL s args lw_all own) (h : lv_has ls nL lv) {i : Nat} {k : Fin 4} {x : Int} (hi : (k : Nat) = i) (hn : i < nL) (hdg : decode cc pc = .ok (.istore_n k, 1)) (hl : (i, zI x) :: lv.filter (fun q => !(q.1 == i) && !(q.1 + 1 == i && q.2.category == 2)) = lv') (kk : ∀ ls' : Array Slot, lv_has ls' nL lv' → W p l e R s m args below meth c H locs cells slots Q (F0 m (pc + 1) ls' rest)) : W p l e R s m args below meth c H locs cells slots Q (F0 m pc ls (zI x :: rest)) := lv_istore_n X.1 X.2.1 hdg hi h hn hl kk
theorem z_istore (X : CallFix p m c cc nL s args lw_all own) (h : lv_has ls nL lv) {i : Nat} {x : Int} (hn : i < nL) (hdg : decode cc pc = .ok (.istore i, 2)) (hl : (i, zI x) :: lv.filter (fun q => !(q.1 == i) && !(q.1 + 1 == i && q.2.category == 2)) = lv') (kk : ∀ ls' : Array Slot, lv_has ls' nL lv' → W p l e R s m args below meth c H locs cells slots Q (F0 m (pc + 2) ls' rest)) : W p l e R s m args below meth c H locs cells slots Q (F0 m pc ls (zI x :: rest)) := lv_istore X.1 X.2.1 hdg h hn hl kk
theorem z_astore_n (X : CallFix p m c cc nL s args lw_all own) (h : lv_has ls nL lv) {i : Nat} {k : Fin 4} {x : Nat} (hi : (k : Nat) = i) (hn : i < nL) (hdg : decode cc pc = .ok (.astore_n k, 1)) (hl : (i, .ref x) :: lv.filter (fun q => !(q.1 == i) && !(q.1 + 1 == i && q.2.category == 2)) = lv') (kk : ∀ ls' : Array Slot, lv_has ls' nL lv' → W p l e R s m args below meth c H locs cells slots Q (F0 m (pc + 1) ls' rest)) : W p l e R s m args below meth c H locs cells slots Q (F0 m pc ls (.ref x :: rest)) := lv_astore_n X.1 X.2.1 hdg hi h hn hl kk
theorem z_astore (X : CallFix p m c cc nL s args lw_all own) (h : lv_has ls nL lv) {i : Nat} {x : Nat} (hn : i < nL) (hdg : decode cc pc = .ok (.astore i, 2)) (hl : (i, .ref x) :: lv.filter (fun q => !(q.1 == i) && !(q.1 + 1 == i && q.2.category == 2)) = lv') (kk : ∀ ls' : Array Slot, lv_has ls' nL lv' → W p l e R s m args below meth c H locs cells slots Q (F0 m (pc + 2) ls' rest)) : W p l e R s m args below meth c H locs cells slots Q (F0 m pc ls (.ref x :: rest)) := lv_astore X.1 X.2.1 hdg h hn hl kk
theorem z_astoreR_n (X : CallFix p m c cc nL s args lw_all own) (h : lv_has ls nL lv) {i : Nat} {k : Fin 4} {r : Option Nat} (hi : (k : Nat) = i) (hn : i < nL) (hdg : decode cc pc = .ok (.astore_n k, 1)) (hl : (i, va_rf r) :: lv.filter (fun q => !(q.1 == i) && !(q.1 + 1 == i && q.2.category == 2)) = lv') (kk : ∀ ls' : Array Slot, lv_has ls' nL lv' → W p l e R s m args below meth c H locs cells slots Q (F0 m (pc + 1) ls' rest)) : W p l e R s m args below meth c H locs cells slots Q (F0 m pc ls (va_rf r :: rest)) := by
  cases r with
  | none => exact lv_astore_nN X.1 X.2.1 hdg hi h hn hl kk
  | some q => exact lv_astore_n X.1 X.2.1 hdg hi h hn hl kk
theorem z_astoreR (X : CallFix p m c cc nL s args lw_all own) (h : lv_has ls nL lv) {i : Nat} {r : Option Nat} (hn : i < nL) (hdg : decode cc pc = .ok (.astore i, 2)) (hl : (i, va_rf r) :: lv.filter (fun q => !(q.1 == i) && !(q.1 + 1 == i && q.2.category == 2)) = lv') (kk : ∀ ls' : Array Slot, lv_has ls' nL lv' → W p l e R s m args below meth c H locs cells slots Q (F0 m (pc + 2) ls' rest)) : W p l e R s m args below meth c H locs cells slots Q (F0 m pc ls (va_rf r :: rest)) := by
  cases r with
  | none => exact lv_astoreN X.1 X.2.1 hdg h hn hl kk
  | some q => exact lv_astore X.1 X.2.1 hdg h hn hl kk
theorem z_iinc (X : CallFix p m c cc nL s args lw_all own) (h : lv_has ls nL lv) (j : Nat) {i : Nat} {n x : Int} (hj : lv[j]? = some (i, zI x)) (hn : i < nL) (hdg : decode cc pc = .ok (.iinc i n, 3)) (hl : (i, zI (x + n)) :: lv.filter (fun q => !(q.1 == i) && !(q.1 + 1 == i && q.2.category == 2)) = lv') (kk : ∀ ls' : Array Slot, lv_has ls' nL lv' → W p l e R s m args below meth c H locs cells slots Q (F0 m (pc + 3) ls' rest)) : W p l e R s m args below meth c H locs cells slots Q (F0 m pc ls rest) := lv_iinc (v := Int32.ofInt (x + n)) X.1 X.2.1 hdg h hj (Int32.ofInt_add x n).symm hn hl kk
theorem z_iadd (X : CallFix p m c cc nL s args lw_all own) {x y : Int} (hdg : decode cc pc = .ok (.iadd, 1)) (kk : W p l e R s m args below meth c H locs cells slots Q (F0 m (pc + 1) ls (zI (x + y) :: rest))) : W p l e R s m args below meth c H locs cells slots Q (F0 m pc ls (zI y :: zI x :: rest)) := lv_iadd X.1 X.2.1 hdg (by rw [← Int32.ofInt_add]; exact kk)
theorem z_isub (X : CallFix p m c cc nL s args lw_all own) {x y : Int} (hdg : decode cc pc = .ok (.isub, 1)) (kk : W p l e R s m args below meth c H locs cells slots Q (F0 m (pc + 1) ls (zI (x - y) :: rest))) : W p l e R s m args below meth c H locs cells slots Q (F0 m pc ls (zI y :: zI x :: rest)) := lv_isub X.1 X.2.1 hdg (by rw [← Int32.ofInt_sub]; exact kk)
theorem z_imul (X : CallFix p m c cc nL s args lw_all own) {x y : Int} (hdg : decode cc pc = .ok (.imul, 1)) (kk : W p l e R s m args below meth c H locs cells slots Q (F0 m (pc + 1) ls (zI (x * y) :: rest))) : W p l e R s m args below meth c H locs cells slots Q (F0 m pc ls (zI y :: zI x :: rest)) := lv_imul X.1 X.2.1 hdg (by rw [← Int32.ofInt_mul]; exact kk)
theorem z_idiv (X : CallFix p m c cc nL s args lw_all own) {x y : Int} (hx : InR x) (hy : InR y) (h0 : 0 ≤ x) (h1 : 0 < y) (hdg : decode cc pc = .ok (.idiv, 1)) (kk : W p l e R s m args below meth c H locs cells slots Q (F0 m (pc + 1) ls (zI (x / y) :: rest))) : W p l e R s m args below meth c H locs cells slots Q (F0 m pc ls (zI y :: zI x :: rest)) := lv_idiv X.1 X.2.1 hdg (fun q => by rw [show (0 : Int32) = Int32.ofInt 0 from rfl, zr_eq hy zr_0] at q; omega) (by rw [zr_div hx hy h0]; exact kk)
theorem z_irem (X : CallFix p m c cc nL s args lw_all own) {x y : Int} (hx : InR x) (hy : InR y) (h0 : 0 ≤ x) (h1 : 0 < y) (hdg : decode cc pc = .ok (.irem, 1)) (kk : W p l e R s m args below meth c H locs cells slots Q (F0 m (pc + 1) ls (zI (x % y) :: rest))) : W p l e R s m args below meth c H locs cells slots Q (F0 m pc ls (zI y :: zI x :: rest)) := lv_irem X.1 X.2.1 hdg (fun q => by rw [show (0 : Int32) = Int32.ofInt 0 from rfl, zr_eq hy zr_0] at q; omega) (by rw [zr_rem hx hy h0]; exact kk)
theorem z_iand01 (X : CallFix p m c cc nL s args lw_all own) {x y : Int} (hx : x = 0 ∨ x = 1) (hy : y = 0 ∨ y = 1) (hdg : decode cc pc = .ok (.iand, 1)) (kk : W p l e R s m args below meth c H locs cells slots Q (F0 m (pc + 1) ls (zI (x * y) :: rest))) : W p l e R s m args below meth c H locs cells slots Q (F0 m pc ls (zI y :: zI x :: rest)) := lv_iand X.1 X.2.1 hdg (by rw [zr_and01 hx hy]; exact kk)
theorem z_iand255 (X : CallFix p m c cc nL s args lw_all own) {x : Int} (hdg : decode cc pc = .ok (.iand, 1)) (kk : W p l e R s m args below meth c H locs cells slots Q (F0 m (pc + 1) ls (zI (x % 256) :: rest))) : W p l e R s m args below meth c H locs cells slots Q (F0 m pc ls (zI 255 :: zI x :: rest)) := lv_iand X.1 X.2.1 hdg (by rw [zr_255]; exact kk)
theorem z_iand63 (X : CallFix p m c cc nL s args lw_all own) {x : Int} (hdg : decode cc pc = .ok (.iand, 1)) (kk : W p l e R s m args below meth c H locs cells slots Q (F0 m (pc + 1) ls (zI (x % 64) :: rest))) : W p l e R s m args below meth c H locs cells slots Q (F0 m pc ls (zI 63 :: zI x :: rest)) := lv_iand X.1 X.2.1 hdg (by rw [zr_63]; exact kk)
theorem z_ishr (X : CallFix p m c cc nL s args lw_all own) {x y : Int} (hx : InR x) (h0 : 0 ≤ y) (h1 : y < 32) (hdg : decode cc pc = .ok (.ishr, 1)) (kk : W p l e R s m args below meth c H locs cells slots Q (F0 m (pc + 1) ls (zI (x / (2 ^ y.toNat : Nat)) :: rest))) : W p l e R s m args below meth c H locs cells slots Q (F0 m pc ls (zI y :: zI x :: rest)) := by
  obtain ⟨k, rfl⟩ : ∃ k : Nat, y = k := ⟨y.toNat, (Int.toNat_of_nonneg h0).symm⟩
  exact lv_ishr X.1 X.2.1 hdg (by rw [zr_shr hx k (by omega)]; exact kk)
theorem z_iushr (X : CallFix p m c cc nL s args lw_all own) {x y : Int} (h0 : 0 ≤ y) (h1 : y < 32) (hdg : decode cc pc = .ok (.iushr, 1)) (kk : W p l e R s m args below meth c H locs cells slots Q (F0 m (pc + 1) ls (zI ((x % 4294967296) / (2 ^ y.toNat : Nat)) :: rest))) : W p l e R s m args below meth c H locs cells slots Q (F0 m pc ls (zI y :: zI x :: rest)) := by
  obtain ⟨k, rfl⟩ : ∃ k : Nat, y = k := ⟨y.toNat, (Int.toNat_of_nonneg h0).symm⟩
  exact lv_iushr X.1 X.2.1 hdg (zr_ushr x k (by omega)) kk
theorem z_i2c (X : CallFix p m c cc nL s args lw_all own) {x : Int} (h0 : 0 ≤ x) (h1 : x < 65536) (hdg : decode cc pc = .ok (.i2c, 1)) (kk : W p l e R s m args below meth c H locs cells slots Q (F0 m (pc + 1) ls (zI x :: rest))) : W p l e R s m args below meth c H locs cells slots Q (F0 m pc ls (zI x :: rest)) := lv_i2c X.1 X.2.1 hdg (zr_i2c h0 h1) kk
theorem z_dup (X : CallFix p m c cc nL s args lw_all own) {v : Value} (hv : v.category = 1) (hdg : decode cc pc = .ok (.dup, 1)) (kk : W p l e R s m args below meth c H locs cells slots Q (F0 m (pc + 1) ls (v :: v :: rest))) : W p l e R s m args below meth c H locs cells slots Q (F0 m pc ls (v :: rest)) := lv_dup X.1 X.2.1 hdg hv kk
theorem z_pop (X : CallFix p m c cc nL s args lw_all own) {v : Value} (hv : v.category = 1) (hdg : decode cc pc = .ok (.pop, 1)) (kk : W p l e R s m args below meth c H locs cells slots Q (F0 m (pc + 1) ls rest)) : W p l e R s m args below meth c H locs cells slots Q (F0 m pc ls (v :: rest)) := lv_pop X.1 X.2.1 hdg hv kk
theorem z_dup2 (X : CallFix p m c cc nL s args lw_all own) {v v2 : Value} (hv : v.category = 1) (hv2 : v2.category = 1) (hdg : decode cc pc = .ok (.dup2, 1)) (kk : W p l e R s m args below meth c H locs cells slots Q (F0 m (pc + 1) ls (v :: v2 :: v :: v2 :: rest))) : W p l e R s m args below meth c H locs cells slots Q (F0 m pc ls (v :: v2 :: rest)) := lv_dup2_11 X.1 X.2.1 hdg hv hv2 kk
theorem z_null (X : CallFix p m c cc nL s args lw_all own) (hdg : decode cc pc = .ok (.aconst_null, 1)) (kk : W p l e R s m args below meth c H locs cells slots Q (F0 m (pc + 1) ls (va_rf none :: rest))) : W p l e R s m args below meth c H locs cells slots Q (F0 m pc ls rest) := lv_null X.1 X.2.1 hdg kk
theorem z_goto (X : CallFix p m c cc nL s args lw_all own) {off : Int} {tgt : Nat} (hdg : decode cc pc = .ok (.goto off, 3)) (ht : (pc : Int) + off = (tgt : Int)) (kk : W p l e R s m args below meth c H locs cells slots Q (F0 m tgt ls rest)) : W p l e R s m args below meth c H locs cells slots Q (F0 m pc ls rest) := lv_goto X.1 X.2.1 hdg ht kk
theorem z_ifnull (X : CallFix p m c cc nL s args lw_all own) {r : Option Nat} {off : Int} {tgt : Nat} (hdg : decode cc pc = .ok (.ifnull off, 3)) (ht : (pc : Int) + off = (tgt : Int)) (k0 : r = none → W p l e R s m args below meth c H locs cells slots Q (F0 m tgt ls rest)) (k1 : ∀ q, r = some q → W p l e R s m args below meth c H locs cells slots Q (F0 m (pc + 3) ls rest)) : W p l e R s m args below meth c H locs cells slots Q (F0 m pc ls (va_rf r :: rest)) := by
  cases r with
  | none => exact lv_ifnullN X.1 X.2.1 hdg ht (k0 rfl)
  | some q => exact lv_ifnull X.1 X.2.1 hdg (k1 q rfl)
theorem z_ifnonnull (X : CallFix p m c cc nL s args lw_all own) {r : Option Nat} {off : Int} {tgt : Nat} (hdg : decode cc pc = .ok (.ifnonnull off, 3)) (ht : (pc : Int) + off = (tgt : Int)) (k0 : r = none → W p l e R s m args below meth c H locs cells slots Q (F0 m (pc + 3) ls rest)) (k1 : ∀ q, r = some q → W p l e R s m args below meth c H locs cells slots Q (F0 m tgt ls rest)) : W p l e R s m args below meth c H locs cells slots Q (F0 m pc ls (va_rf r :: rest)) := by
  cases r with
  | none => exact lv_ifnonnullN X.1 X.2.1 hdg (k0 rfl)
  | some q => exact lv_ifnonnull X.1 X.2.1 hdg ht (k1 q rfl)
theorem z_icmp_lt (X : CallFix p m c cc nL s args lw_all own) {x y : Int} {off : Int} {tgt : Nat} (hx : InR x) (hy : InR y) (hdg : decode cc pc = .ok (.if_icmp .lt off, 3)) (ht : (pc : Int) + off = (tgt : Int)) (kt : x < y → W p l e R s m args below meth c H locs cells slots Q (F0 m tgt ls rest)) (kf : ¬ x < y → W p l e R s m args below meth c H locs cells slots Q (F0 m (pc + 3) ls rest)) : W p l e R s m args below meth c H locs cells slots Q (F0 m pc ls (zI y :: zI x :: rest)) := lv_icmp_lt X.1 X.2.1 hdg ht (fun q => kt ((zr_lt hx hy).mp q)) (fun q => kf (fun z => q ((zr_lt hx hy).mpr z)))
theorem z_icmp_ge (X : CallFix p m c cc nL s args lw_all own) {x y : Int} {off : Int} {tgt : Nat} (hx : InR x) (hy : InR y) (hdg : decode cc pc = .ok (.if_icmp .ge off, 3)) (ht : (pc : Int) + off = (tgt : Int)) (kt : y ≤ x → W p l e R s m args below meth c H locs cells slots Q (F0 m tgt ls rest)) (kf : ¬ y ≤ x → W p l e R s m args below meth c H locs cells slots Q (F0 m (pc + 3) ls rest)) : W p l e R s m args below meth c H locs cells slots Q (F0 m pc ls (zI y :: zI x :: rest)) := lv_icmp_ge X.1 X.2.1 hdg ht (fun q => kt ((zr_le hy hx).mp q)) (fun q => kf (fun z => q ((zr_le hy hx).mpr z)))
theorem z_icmp_gt (X : CallFix p m c cc nL s args lw_all own) {x y : Int} {off : Int} {tgt : Nat} (hx : InR x) (hy : InR y) (hdg : decode cc pc = .ok (.if_icmp .gt off, 3)) (ht : (pc : Int) + off = (tgt : Int)) (kt : y < x → W p l e R s m args below meth c H locs cells slots Q (F0 m tgt ls rest)) (kf : ¬ y < x → W p l e R s m args below meth c H locs cells slots Q (F0 m (pc + 3) ls rest)) : W p l e R s m args below meth c H locs cells slots Q (F0 m pc ls (zI y :: zI x :: rest)) := lv_icmp_gt X.1 X.2.1 hdg ht (fun q => kt ((zr_lt hy hx).mp q)) (fun q => kf (fun z => q ((zr_lt hy hx).mpr z)))
theorem z_icmp_le (X : CallFix p m c cc nL s args lw_all own) {x y : Int} {off : Int} {tgt : Nat} (hx : InR x) (hy : InR y) (hdg : decode cc pc = .ok (.if_icmp .le off, 3)) (ht : (pc : Int) + off = (tgt : Int)) (kt : x ≤ y → W p l e R s m args below meth c H locs cells slots Q (F0 m tgt ls rest)) (kf : ¬ x ≤ y → W p l e R s m args below meth c H locs cells slots Q (F0 m (pc + 3) ls rest)) : W p l e R s m args below meth c H locs cells slots Q (F0 m pc ls (zI y :: zI x :: rest)) := lv_icmp_le X.1 X.2.1 hdg ht (fun q => kt ((zr_le hx hy).mp q)) (fun q => kf (fun z => q ((zr_le hx hy).mpr z)))
theorem z_icmp_eq (X : CallFix p m c cc nL s args lw_all own) {x y : Int} {off : Int} {tgt : Nat} (hx : InR x) (hy : InR y) (hdg : decode cc pc = .ok (.if_icmp .eq off, 3)) (ht : (pc : Int) + off = (tgt : Int)) (kt : x = y → W p l e R s m args below meth c H locs cells slots Q (F0 m tgt ls rest)) (kf : ¬ x = y → W p l e R s m args below meth c H locs cells slots Q (F0 m (pc + 3) ls rest)) : W p l e R s m args below meth c H locs cells slots Q (F0 m pc ls (zI y :: zI x :: rest)) := lv_icmp_eq X.1 X.2.1 hdg ht (fun q => kt ((zr_eq hx hy).mp q)) (fun q => kf (fun z => q ((zr_eq hx hy).mpr z)))
theorem z_icmp_ne (X : CallFix p m c cc nL s args lw_all own) {x y : Int} {off : Int} {tgt : Nat} (hx : InR x) (hy : InR y) (hdg : decode cc pc = .ok (.if_icmp .ne off, 3)) (ht : (pc : Int) + off = (tgt : Int)) (kt : ¬ x = y → W p l e R s m args below meth c H locs cells slots Q (F0 m tgt ls rest)) (kf : x = y → W p l e R s m args below meth c H locs cells slots Q (F0 m (pc + 3) ls rest)) : W p l e R s m args below meth c H locs cells slots Q (F0 m pc ls (zI y :: zI x :: rest)) := lv_icmp_ne X.1 X.2.1 hdg ht (fun q => kt (fun z => q ((zr_eq hx hy).mpr z))) (fun q => kf ((zr_eq hx hy).mp q))
theorem z_if_lt (X : CallFix p m c cc nL s args lw_all own) {x : Int} {off : Int} {tgt : Nat} (hx : InR x) (hdg : decode cc pc = .ok (.ifCond .lt off, 3)) (ht : (pc : Int) + off = (tgt : Int)) (kt : x < 0 → W p l e R s m args below meth c H locs cells slots Q (F0 m tgt ls rest)) (kf : ¬ x < 0 → W p l e R s m args below meth c H locs cells slots Q (F0 m (pc + 3) ls rest)) : W p l e R s m args below meth c H locs cells slots Q (F0 m pc ls (zI x :: rest)) := lv_if_lt X.1 X.2.1 hdg ht (fun q => kt ((zr_lt hx zr_0).mp q)) (fun q => kf (fun z => q ((zr_lt hx zr_0).mpr z)))
theorem z_if_ge (X : CallFix p m c cc nL s args lw_all own) {x : Int} {off : Int} {tgt : Nat} (hx : InR x) (hdg : decode cc pc = .ok (.ifCond .ge off, 3)) (ht : (pc : Int) + off = (tgt : Int)) (kt : 0 ≤ x → W p l e R s m args below meth c H locs cells slots Q (F0 m tgt ls rest)) (kf : ¬ 0 ≤ x → W p l e R s m args below meth c H locs cells slots Q (F0 m (pc + 3) ls rest)) : W p l e R s m args below meth c H locs cells slots Q (F0 m pc ls (zI x :: rest)) := lv_if_ge X.1 X.2.1 hdg ht (fun q => kt ((zr_le zr_0 hx).mp q)) (fun q => kf (fun z => q ((zr_le zr_0 hx).mpr z)))
theorem z_if_gt (X : CallFix p m c cc nL s args lw_all own) {x : Int} {off : Int} {tgt : Nat} (hx : InR x) (hdg : decode cc pc = .ok (.ifCond .gt off, 3)) (ht : (pc : Int) + off = (tgt : Int)) (kt : 0 < x → W p l e R s m args below meth c H locs cells slots Q (F0 m tgt ls rest)) (kf : ¬ 0 < x → W p l e R s m args below meth c H locs cells slots Q (F0 m (pc + 3) ls rest)) : W p l e R s m args below meth c H locs cells slots Q (F0 m pc ls (zI x :: rest)) := lv_if_gt X.1 X.2.1 hdg ht (fun q => kt ((zr_lt zr_0 hx).mp q)) (fun q => kf (fun z => q ((zr_lt zr_0 hx).mpr z)))
theorem z_if_le (X : CallFix p m c cc nL s args lw_all own) {x : Int} {off : Int} {tgt : Nat} (hx : InR x) (hdg : decode cc pc = .ok (.ifCond .le off, 3)) (ht : (pc : Int) + off = (tgt : Int)) (kt : x ≤ 0 → W p l e R s m args below meth c H locs cells slots Q (F0 m tgt ls rest)) (kf : ¬ x ≤ 0 → W p l e R s m args below meth c H locs cells slots Q (F0 m (pc + 3) ls rest)) : W p l e R s m args below meth c H locs cells slots Q (F0 m pc ls (zI x :: rest)) := lv_if_le X.1 X.2.1 hdg ht (fun q => kt ((zr_le hx zr_0).mp q)) (fun q => kf (fun z => q ((zr_le hx zr_0).mpr z)))
theorem z_if_eq (X : CallFix p m c cc nL s args lw_all own) {x : Int} {off : Int} {tgt : Nat} (hx : InR x) (hdg : decode cc pc = .ok (.ifCond .eq off, 3)) (ht : (pc : Int) + off = (tgt : Int)) (kt : x = 0 → W p l e R s m args below meth c H locs cells slots Q (F0 m tgt ls rest)) (kf : ¬ x = 0 → W p l e R s m args below meth c H locs cells slots Q (F0 m (pc + 3) ls rest)) : W p l e R s m args below meth c H locs cells slots Q (F0 m pc ls (zI x :: rest)) := lv_if_eq X.1 X.2.1 hdg ht (fun q => kt ((zr_eq hx zr_0).mp q)) (fun q => kf (fun z => q ((zr_eq hx zr_0).mpr z)))
theorem z_if_ne (X : CallFix p m c cc nL s args lw_all own) {x : Int} {off : Int} {tgt : Nat} (hx : InR x) (hdg : decode cc pc = .ok (.ifCond .ne off, 3)) (ht : (pc : Int) + off = (tgt : Int)) (kt : ¬ x = 0 → W p l e R s m args below meth c H locs cells slots Q (F0 m tgt ls rest)) (kf : x = 0 → W p l e R s m args below meth c H locs cells slots Q (F0 m (pc + 3) ls rest)) : W p l e R s m args below meth c H locs cells slots Q (F0 m pc ls (zI x :: rest)) := lv_if_ne X.1 X.2.1 hdg ht (fun q => kt (fun z => q ((zr_eq hx zr_0).mpr z))) (fun q => kf ((zr_eq hx zr_0).mp q))
/-- a field, read and written; an array's place, read and written -/
theorem r_get (X : CallFix p m c cc nL s args lw_all own) (K : KK G s) (h : HW G A s.heap w H locs) {C : String} {T : u_T} {N ci idx a : Nat} {fs : List Value} {v : Value} (hin : ∀ x ∈ u_ws C T N, x ∈ lw_all) (q0 : Nat) (he : w[q0]? = some (a, .inr (ci, fs))) (hc : cls_[ci]? = some (C, T, N)) (k : Nat) (hk : k < N) (hl : Cond.fieldLink own idx (T k).1 (T k).2.1 (T k).2.2.1 ∈ lw_all) (hv : fs[k]? = some v) (hdg : decode cc pc = .ok (.getfield idx, 3)) (kk : W p l e R s m args below meth c H locs cells slots Q (F0 m (pc + 3) ls (v :: rest))) : W p l e R s m args below meth c H locs cells slots Q (F0 m pc ls (.ref a :: rest)) :=
  va_get X.1 X.2.1 X.2.2.2.2 hin X.2.2.2.1 K h.1 q0 he hc k hk (X.2.2.2.2 _ hl) (fun _ h9 => h9) hv hdg kk
theorem r_put (X : CallFix p m c cc nL s args lw_all own) (K : KK G s) (h : HW G A s.heap w H locs) {C : String} {T : u_T} {N ci idx a : Nat} {fs : List Value} {v : Value} (hin : ∀ x ∈ u_ws C T N, x ∈ lw_all) {ty0 : Nat → FieldType} (hty : ∀ k, k < N → parseFieldDescriptor (T k).2.2.1 = some (ty0 k)) (hnm : ∀ a, a < N → ∀ b, b < N → a ≠ b → (T a).2.1 ≠ (T b).2.1) (q0 : Nat) (he : w[q0]? = some (a, .inr (ci, fs))) (hc : cls_[ci]? = some (C, T, N)) (k : Nat) (hk : k < N) (hl : Cond.fieldLink own idx (T k).1 (T k).2.1 (T k).2.2.1 ∈ lw_all) (hfin : (T k).2.2.2 = false) (hn : narrow (ty0 k) v = v) (hfit : fits (ty0 k) v = true) (hlen : k < fs.length) (hdg : decode cc pc = .ok (.putfield idx, 3))
    (kk : ∀ (H1 : Heap) (locs1 : List Loc), HW G A s.heap (w.set q0 (a, .inr (ci, fs.set k v))) H1 locs1 → W p l e R s m args below meth c H1 locs1 cells slots Q (F0 m (pc + 3) ls rest)) : W p l e R s m args below meth c H locs cells slots Q (F0 m pc ls (v :: .ref a :: rest)) :=
  va_put X.1 X.2.1 X.2.2.2.2 hin ty0 hty hnm X.2.2.2.1 K h.1 h.2.1 h.2.2.1 q0 he hc k hk (X.2.2.2.2 _ hl) (fun _ h9 => h9) hfin (hty k hk) hn hfit hlen hdg (fun H1 locs1 a1 a2 a3 => kk H1 locs1 ⟨a1, a2, a3, h.2.2.2⟩)
theorem r_iald (X : CallFix p m c cc nL s args lw_all own) (K : KK G s) (h : HW G A s.heap w H locs) {n a : Nat} {f : Int → Int} {i : Int} (q0 : Nat) (he : w[q0]? = some (a, .inl (G.2.1 0, n, .inl (aI f)))) (h0 : 0 ≤ i) (h1 : i < n) (hn : n < 2 ^ 31) (hdg : decode cc pc = .ok (.iaload, 1)) (kk : W p l e R s m args below meth c H locs cells slots Q (F0 m (pc + 1) ls (zI (f i) :: rest))) : W p l e R s m args below meth c H locs cells slots Q (F0 m pc ls (zI i :: .ref a :: rest)) :=
  va_iald X.1 X.2.1 K h.1 q0 0 he rfl (zr_vp h0 h1 hn) hdg (by rw [aI_at h0 (by omega)]; exact kk)
theorem r_iast (X : CallFix p m c cc nL s args lw_all own) (K : KK G s) (h : HW G A s.heap w H locs) {n a : Nat} {f : Int → Int} {i x : Int} (q0 : Nat) (he : w[q0]? = some (a, .inl (G.2.1 0, n, .inl (aI f)))) (h0 : 0 ≤ i) (h1 : i < n) (hn : n < 2 ^ 31) (hdg : decode cc pc = .ok (.iastore, 1)) (kk : ∀ (H1 : Heap) (locs1 : List Loc), HW G A s.heap (w.set q0 (a, .inl (G.2.1 0, n, .inl (aI (zset f i x))))) H1 locs1 → W p l e R s m args below meth c H1 locs1 cells slots Q (F0 m (pc + 1) ls rest)) : W p l e R s m args below meth c H locs cells slots Q (F0 m pc ls (zI x :: zI i :: .ref a :: rest)) :=
  va_iast X.1 X.2.1 K h.1 h.2.1 h.2.2.1 q0 0 he rfl (zr_vp h0 h1 hn) hdg (fun H1 locs1 a1 a2 a3 => by rw [aI_upd h0 (by omega)] at a1 a2; exact kk H1 locs1 ⟨a1, a2, a3, h.2.2.2⟩)
theorem r_cald (X : CallFix p m c cc nL s args lw_all own) (K : KK G s) (h : HW G A s.heap w H locs) {n a : Nat} {f : Int → Int} {i : Int} (q0 : Nat) (he : w[q0]? = some (a, .inl (G.2.1 1, n, .inl (aI f)))) (h0 : 0 ≤ i) (h1 : i < n) (hn : n < 2 ^ 31) (hdg : decode cc pc = .ok (.caload, 1)) (kk : W p l e R s m args below meth c H locs cells slots Q (F0 m (pc + 1) ls (zI (f i) :: rest))) : W p l e R s m args below meth c H locs cells slots Q (F0 m pc ls (zI i :: .ref a :: rest)) :=
  va_cald X.1 X.2.1 K h.1 q0 1 he rfl (zr_vp h0 h1 hn) hdg (by rw [aI_at h0 (by omega)]; exact kk)
theorem r_cast (X : CallFix p m c cc nL s args lw_all own) (K : KK G s) (h : HW G A s.heap w H locs) {n a : Nat} {f : Int → Int} {i x : Int} (q0 : Nat) (he : w[q0]? = some (a, .inl (G.2.1 1, n, .inl (aI f)))) (h0 : 0 ≤ i) (h1 : i < n) (hn : n < 2 ^ 31) (hx0 : 0 ≤ x) (hx1 : x < 65536) (hdg : decode cc pc = .ok (.castore, 1)) (kk : ∀ (H1 : Heap) (locs1 : List Loc), HW G A s.heap (w.set q0 (a, .inl (G.2.1 1, n, .inl (aI (zset f i x))))) H1 locs1 → W p l e R s m args below meth c H1 locs1 cells slots Q (F0 m (pc + 1) ls rest)) : W p l e R s m args below meth c H locs cells slots Q (F0 m pc ls (zI x :: zI i :: .ref a :: rest)) :=
  va_cast X.1 X.2.1 K h.1 h.2.1 h.2.2.1 q0 1 he rfl (zr_vp h0 h1 hn) hdg (fun H1 locs1 a1 a2 a3 => by rw [vp_nar_char, show ((Int32.ofInt x).toUInt32.toUInt16.toUInt32.toInt32) = Int32.ofInt x from zr_u16 hx0 hx1, aI_upd h0 (by omega)] at a1 a2; exact kk H1 locs1 ⟨a1, a2, a3, h.2.2.2⟩)
theorem r_alen (X : CallFix p m c cc nL s args lw_all own) (K : KK G s) (h : HW G A s.heap w H locs) {n a j : Nat} {f : vp_A} {ty : FieldType} (q0 : Nat) (he : w[q0]? = some (a, .inl (G.2.1 j, f))) (ht : (tys_ G.2.1)[j]? = some (G.2.1 j, ty)) (hf : f.1 = n) (hdg : decode cc pc = .ok (.arraylength, 1)) (kk : W p l e R s m args below meth c H locs cells slots Q (F0 m (pc + 1) ls (zI n :: rest))) : W p l e R s m args below meth c H locs cells slots Q (F0 m pc ls (.ref a :: rest)) :=
  va_alen X.1 X.2.1 K h.1 q0 j he ht (v := Int32.ofInt n) (by rw [hf, Int32.ofInt_eq_ofNat]) hdg kk
/-- a row of rows of ints, read -/
theorem r_aaldI (X : CallFix p m c cc nL s args lw_all own) (K : KK G s) (h : HW G A s.heap w H locs) {n a : Nat} {f : Nat → Option Nat} {i : Int} (q0 : Nat) (he : w[q0]? = some (a, .inl (G.2.1 3, n, .inr (.inr (.inr (.inr f)))))) (h0 : 0 ≤ i) (h1 : i < n) (hn : n < 2 ^ 31) (hdg : decode cc pc = .ok (.aaload, 1)) (kk : W p l e R s m args below meth c H locs cells slots Q (F0 m (pc + 1) ls (va_rf (f i.toNat) :: rest))) : W p l e R s m args below meth c H locs cells slots Q (F0 m pc ls (zI i :: .ref a :: rest)) := by
  have hin := zr_vp h0 h1 hn
  have hlt : (Int32.ofInt i).toNatClampNeg < n := Nat.not_le.mp fun q => hin (Or.inr q)
  refine W.aald (v := va_rf (f (Int32.ofInt i).toNatClampNeg)) (ty := .array .int) X.1 X.2.1 (h.1 q0 _ he) ((K.2 3 _ rfl).1 n (fun j => va_rf (f j))) rfl (fun q => by cases q) (by show ¬ (Int32.ofInt i < 0 ∨ (arrV _ _ _).slots.size ≤ _); rw [arrV_size]; exact hin) (by show (arrV _ _ _).slots[_]? = _; rw [arrV_read _ _ hlt]) rfl rfl hdg ?_
  rw [zr_cl h0 (by omega)]
  exact kk
end
end
section
theorem zz_last : True := trivial
end
