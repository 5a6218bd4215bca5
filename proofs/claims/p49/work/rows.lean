section
-- ===== PART A: goes FIRST, ahead of the names: the tables' words, and 'selects' of the private methods out of them =====
/-- a private method of a class that the tables say can be made, by its rows of tables_1 -/
def lw_okq (q : MethodName × Nat) : Prop := (q.1.cls ≠ "java/lang/invoke/MethodHandle" ∧ q.1.cls ≠ "java/lang/invoke/VarHandle") ∧ Cond.instantiable q.1.cls q.2 ∈ tables_1 ∧ Cond.privateMethod q.1 ∈ tables_1 ∧ Cond.instanceMethod q.1 ∈ tables_1
theorem lw_p0 : lw_okq (⟨"StratumLedge", "forgetWork", "()V"⟩, 18) := ⟨⟨by decide +kernel, by decide +kernel⟩, List.mem_of_getElem? (i := 38) (by decide +kernel), List.mem_of_getElem? (i := 189) (by decide +kernel), List.mem_of_getElem? (i := 190) (by decide +kernel)⟩
theorem lw_p1 : lw_okq (⟨"StratumLedge", "hasSameValues", "(LStratumLedge$Family;)Z"⟩, 18) := ⟨⟨by decide +kernel, by decide +kernel⟩, List.mem_of_getElem? (i := 38) (by decide +kernel), List.mem_of_getElem? (i := 234) (by decide +kernel), List.mem_of_getElem? (i := 235) (by decide +kernel)⟩
theorem lw_p2 : lw_okq (⟨"StratumLedge", "look", "(LStratumLedge$Family;IIZ)V"⟩, 18) := ⟨⟨by decide +kernel, by decide +kernel⟩, List.mem_of_getElem? (i := 38) (by decide +kernel), List.mem_of_getElem? (i := 238) (by decide +kernel), List.mem_of_getElem? (i := 239) (by decide +kernel)⟩
theorem lw_p3 : lw_okq (⟨"StratumLedge", "lookInMemory", "(LStratumLedge$Family;II)V"⟩, 18) := ⟨⟨by decide +kernel, by decide +kernel⟩, List.mem_of_getElem? (i := 38) (by decide +kernel), List.mem_of_getElem? (i := 246) (by decide +kernel), List.mem_of_getElem? (i := 247) (by decide +kernel)⟩
theorem lw_p4 : lw_okq (⟨"StratumLedge$Finding", "take", "(IC)V"⟩, 3) := ⟨⟨by decide +kernel, by decide +kernel⟩, List.mem_of_getElem? (i := 72) (by decide +kernel), List.mem_of_getElem? (i := 267) (by decide +kernel), List.mem_of_getElem? (i := 268) (by decide +kernel)⟩
theorem lw_p5 : lw_okq (⟨"StratumLedge", "lookInRun", "(LStratumLedge$Family;LStratumLedge$Run;IIZ)V"⟩, 18) := ⟨⟨by decide +kernel, by decide +kernel⟩, List.mem_of_getElem? (i := 38) (by decide +kernel), List.mem_of_getElem? (i := 293) (by decide +kernel), List.mem_of_getElem? (i := 294) (by decide +kernel)⟩
theorem lw_p6 : lw_okq (⟨"StratumLedge", "countReading", "(LStratumLedge$Run;I)V"⟩, 18) := ⟨⟨by decide +kernel, by decide +kernel⟩, List.mem_of_getElem? (i := 38) (by decide +kernel), List.mem_of_getElem? (i := 297) (by decide +kernel), List.mem_of_getElem? (i := 298) (by decide +kernel)⟩
theorem lw_p7 : lw_okq (⟨"java/util/ArrayList", "rangeCheckForAdd", "(I)V"⟩, 3) := ⟨⟨by decide +kernel, by decide +kernel⟩, List.mem_of_getElem? (i := 46) (by decide +kernel), List.mem_of_getElem? (i := 330) (by decide +kernel), List.mem_of_getElem? (i := 331) (by decide +kernel)⟩
theorem lw_p8 : lw_okq (⟨"java/lang/Throwable", "fillInStackTrace", "(I)Ljava/lang/Throwable;"⟩, 6) := ⟨⟨by decide +kernel, by decide +kernel⟩, List.mem_of_getElem? (i := 374) (by decide +kernel), List.mem_of_getElem? (i := 372) (by decide +kernel), List.mem_of_getElem? (i := 373) (by decide +kernel)⟩
theorem lw_p9 : lw_okq (⟨"java/util/ArrayList", "outOfBoundsMsg", "(I)Ljava/lang/String;"⟩, 3) := ⟨⟨by decide +kernel, by decide +kernel⟩, List.mem_of_getElem? (i := 46) (by decide +kernel), List.mem_of_getElem? (i := 377) (by decide +kernel), List.mem_of_getElem? (i := 378) (by decide +kernel)⟩
theorem lw_p10 : lw_okq (⟨"java/util/ArrayList", "grow", "()[Ljava/lang/Object;"⟩, 3) := ⟨⟨by decide +kernel, by decide +kernel⟩, List.mem_of_getElem? (i := 46) (by decide +kernel), List.mem_of_getElem? (i := 662) (by decide +kernel), List.mem_of_getElem? (i := 663) (by decide +kernel)⟩
theorem lw_p11 : lw_okq (⟨"java/util/ArrayList", "grow", "(I)[Ljava/lang/Object;"⟩, 3) := ⟨⟨by decide +kernel, by decide +kernel⟩, List.mem_of_getElem? (i := 46) (by decide +kernel), List.mem_of_getElem? (i := 666) (by decide +kernel), List.mem_of_getElem? (i := 667) (by decide +kernel)⟩
theorem lw_p12 : lw_okq (⟨"StratumLedge", "findAnew", "(LStratumLedge$Family;II)V"⟩, 18) := ⟨⟨by decide +kernel, by decide +kernel⟩, List.mem_of_getElem? (i := 38) (by decide +kernel), List.mem_of_getElem? (i := 707) (by decide +kernel), List.mem_of_getElem? (i := 708) (by decide +kernel)⟩
theorem lw_p13 : lw_okq (⟨"java/util/ArrayList", "add", "(Ljava/lang/Object;[Ljava/lang/Object;I)V"⟩, 3) := ⟨⟨by decide +kernel, by decide +kernel⟩, List.mem_of_getElem? (i := 46) (by decide +kernel), List.mem_of_getElem? (i := 819) (by decide +kernel), List.mem_of_getElem? (i := 820) (by decide +kernel)⟩
theorem lw_p14 : lw_okq (⟨"StratumLedge", "write", "(IIIII)I"⟩, 18) := ⟨⟨by decide +kernel, by decide +kernel⟩, List.mem_of_getElem? (i := 38) (by decide +kernel), List.mem_of_getElem? (i := 827) (by decide +kernel), List.mem_of_getElem? (i := 828) (by decide +kernel)⟩
theorem lw_p15 : lw_okq (⟨"StratumLedge", "familyAt", "(I)LStratumLedge$Family;"⟩, 18) := ⟨⟨by decide +kernel, by decide +kernel⟩, List.mem_of_getElem? (i := 38) (by decide +kernel), List.mem_of_getElem? (i := 831) (by decide +kernel), List.mem_of_getElem? (i := 832) (by decide +kernel)⟩
def lw_privs_1 : List (MethodName × Nat) := [(⟨"StratumLedge", "forgetWork", "()V"⟩, 18), (⟨"StratumLedge", "hasSameValues", "(LStratumLedge$Family;)Z"⟩, 18), (⟨"StratumLedge", "look", "(LStratumLedge$Family;IIZ)V"⟩, 18), (⟨"StratumLedge", "lookInMemory", "(LStratumLedge$Family;II)V"⟩, 18), (⟨"StratumLedge$Finding", "take", "(IC)V"⟩, 3), (⟨"StratumLedge", "lookInRun", "(LStratumLedge$Family;LStratumLedge$Run;IIZ)V"⟩, 18), (⟨"StratumLedge", "countReading", "(LStratumLedge$Run;I)V"⟩, 18), (⟨"java/util/ArrayList", "rangeCheckForAdd", "(I)V"⟩, 3), (⟨"java/lang/Throwable", "fillInStackTrace", "(I)Ljava/lang/Throwable;"⟩, 6), (⟨"java/util/ArrayList", "outOfBoundsMsg", "(I)Ljava/lang/String;"⟩, 3), (⟨"java/util/ArrayList", "grow", "()[Ljava/lang/Object;"⟩, 3), (⟨"java/util/ArrayList", "grow", "(I)[Ljava/lang/Object;"⟩, 3), (⟨"StratumLedge", "findAnew", "(LStratumLedge$Family;II)V"⟩, 18), (⟨"java/util/ArrayList", "add", "(Ljava/lang/Object;[Ljava/lang/Object;I)V"⟩, 3), (⟨"StratumLedge", "write", "(IIIII)I"⟩, 18), (⟨"StratumLedge", "familyAt", "(I)LStratumLedge$Family;"⟩, 18)]
theorem lw_r1 : ∀ q ∈ lw_privs_1, lw_okq q := List.forall_mem_cons.mpr ⟨lw_p0, List.forall_mem_cons.mpr ⟨lw_p1, List.forall_mem_cons.mpr ⟨lw_p2, List.forall_mem_cons.mpr ⟨lw_p3, List.forall_mem_cons.mpr ⟨lw_p4, List.forall_mem_cons.mpr ⟨lw_p5, List.forall_mem_cons.mpr ⟨lw_p6, List.forall_mem_cons.mpr ⟨lw_p7, List.forall_mem_cons.mpr ⟨lw_p8, List.forall_mem_cons.mpr ⟨lw_p9, List.forall_mem_cons.mpr ⟨lw_p10, List.forall_mem_cons.mpr ⟨lw_p11, List.forall_mem_cons.mpr ⟨lw_p12, List.forall_mem_cons.mpr ⟨lw_p13, List.forall_mem_cons.mpr ⟨lw_p14, List.forall_mem_cons.mpr ⟨lw_p15, fun _ h => absurd h List.not_mem_nil⟩⟩⟩⟩⟩⟩⟩⟩⟩⟩⟩⟩⟩⟩⟩⟩
theorem lw_p16 : lw_okq (⟨"StratumLedge", "admit", "(LStratumLedge$Family;)V"⟩, 18) := ⟨⟨by decide +kernel, by decide +kernel⟩, List.mem_of_getElem? (i := 38) (by decide +kernel), List.mem_of_getElem? (i := 845) (by decide +kernel), List.mem_of_getElem? (i := 846) (by decide +kernel)⟩
theorem lw_p17 : lw_okq (⟨"StratumLedge", "countInMemory", "(LStratumLedge$Family;)I"⟩, 18) := ⟨⟨by decide +kernel, by decide +kernel⟩, List.mem_of_getElem? (i := 38) (by decide +kernel), List.mem_of_getElem? (i := 904) (by decide +kernel), List.mem_of_getElem? (i := 905) (by decide +kernel)⟩
theorem lw_p18 : lw_okq (⟨"StratumLedge", "flushMemory", "(LStratumLedge$Family;)I"⟩, 18) := ⟨⟨by decide +kernel, by decide +kernel⟩, List.mem_of_getElem? (i := 38) (by decide +kernel), List.mem_of_getElem? (i := 908) (by decide +kernel), List.mem_of_getElem? (i := 909) (by decide +kernel)⟩
theorem lw_p19 : lw_okq (⟨"StratumLedge", "makeRun", "(ZLjava/util/ArrayList;Ljava/util/ArrayList;)LStratumLedge$Run;"⟩, 18) := ⟨⟨by decide +kernel, by decide +kernel⟩, List.mem_of_getElem? (i := 38) (by decide +kernel), List.mem_of_getElem? (i := 916) (by decide +kernel), List.mem_of_getElem? (i := 917) (by decide +kernel)⟩
theorem lw_p20 : lw_okq (⟨"StratumLedge", "isTouchedInMemory", "(LStratumLedge$Family;II)Z"⟩, 18) := ⟨⟨by decide +kernel, by decide +kernel⟩, List.mem_of_getElem? (i := 38) (by decide +kernel), List.mem_of_getElem? (i := 995) (by decide +kernel), List.mem_of_getElem? (i := 996) (by decide +kernel)⟩
theorem lw_p21 : lw_okq (⟨"StratumLedge", "levelFor", "(LStratumLedge$Family;II)I"⟩, 18) := ⟨⟨by decide +kernel, by decide +kernel⟩, List.mem_of_getElem? (i := 38) (by decide +kernel), List.mem_of_getElem? (i := 1000) (by decide +kernel), List.mem_of_getElem? (i := 1001) (by decide +kernel)⟩
theorem lw_p22 : lw_okq (⟨"StratumLedge", "isFree", "(LStratumLedge$Family;III)Z"⟩, 18) := ⟨⟨by decide +kernel, by decide +kernel⟩, List.mem_of_getElem? (i := 38) (by decide +kernel), List.mem_of_getElem? (i := 1004) (by decide +kernel), List.mem_of_getElem? (i := 1005) (by decide +kernel)⟩
theorem lw_p23 : lw_okq (⟨"StratumLedge$Merging", "least", "()I"⟩, 7) := ⟨⟨by decide +kernel, by decide +kernel⟩, List.mem_of_getElem? (i := 1019) (by decide +kernel), List.mem_of_getElem? (i := 1017) (by decide +kernel), List.mem_of_getElem? (i := 1018) (by decide +kernel)⟩
theorem lw_p24 : lw_okq (⟨"StratumLedge$Merging", "greatest", "()I"⟩, 7) := ⟨⟨by decide +kernel, by decide +kernel⟩, List.mem_of_getElem? (i := 1019) (by decide +kernel), List.mem_of_getElem? (i := 1026) (by decide +kernel), List.mem_of_getElem? (i := 1027) (by decide +kernel)⟩
theorem lw_p25 : lw_okq (⟨"StratumLedge", "placeOfSnapshot", "(I)I"⟩, 18) := ⟨⟨by decide +kernel, by decide +kernel⟩, List.mem_of_getElem? (i := 38) (by decide +kernel), List.mem_of_getElem? (i := 1055) (by decide +kernel), List.mem_of_getElem? (i := 1056) (by decide +kernel)⟩
theorem lw_p26 : lw_okq (⟨"java/util/ArrayList", "fastRemove", "([Ljava/lang/Object;I)V"⟩, 3) := ⟨⟨by decide +kernel, by decide +kernel⟩, List.mem_of_getElem? (i := 46) (by decide +kernel), List.mem_of_getElem? (i := 1064) (by decide +kernel), List.mem_of_getElem? (i := 1065) (by decide +kernel)⟩
theorem lw_p27 : lw_okq (⟨"StratumLedge", "momentOf", "(I)I"⟩, 18) := ⟨⟨by decide +kernel, by decide +kernel⟩, List.mem_of_getElem? (i := 38) (by decide +kernel), List.mem_of_getElem? (i := 1072) (by decide +kernel), List.mem_of_getElem? (i := 1073) (by decide +kernel)⟩
theorem lw_p28 : lw_okq (⟨"StratumLedge", "cursorAt", "(I)LStratumLedge$Cursor;"⟩, 18) := ⟨⟨by decide +kernel, by decide +kernel⟩, List.mem_of_getElem? (i := 38) (by decide +kernel), List.mem_of_getElem? (i := 1104) (by decide +kernel), List.mem_of_getElem? (i := 1105) (by decide +kernel)⟩
theorem lw_p29 : lw_okq (⟨"StratumLedge", "placeOfCursor", "(I)I"⟩, 18) := ⟨⟨by decide +kernel, by decide +kernel⟩, List.mem_of_getElem? (i := 38) (by decide +kernel), List.mem_of_getElem? (i := 1108) (by decide +kernel), List.mem_of_getElem? (i := 1109) (by decide +kernel)⟩
theorem lw_p30 : lw_okq (⟨"StratumLedge", "isThere", "(LStratumLedge$Cursor;I)Z"⟩, 18) := ⟨⟨by decide +kernel, by decide +kernel⟩, List.mem_of_getElem? (i := 38) (by decide +kernel), List.mem_of_getElem? (i := 1113) (by decide +kernel), List.mem_of_getElem? (i := 1114) (by decide +kernel)⟩
theorem lw_p31 : lw_okq (⟨"StratumLedge$Merging", "addSources", "()V"⟩, 7) := ⟨⟨by decide +kernel, by decide +kernel⟩, List.mem_of_getElem? (i := 1019) (by decide +kernel), List.mem_of_getElem? (i := 1172) (by decide +kernel), List.mem_of_getElem? (i := 1173) (by decide +kernel)⟩
def lw_privs_2 : List (MethodName × Nat) := [(⟨"StratumLedge", "admit", "(LStratumLedge$Family;)V"⟩, 18), (⟨"StratumLedge", "countInMemory", "(LStratumLedge$Family;)I"⟩, 18), (⟨"StratumLedge", "flushMemory", "(LStratumLedge$Family;)I"⟩, 18), (⟨"StratumLedge", "makeRun", "(ZLjava/util/ArrayList;Ljava/util/ArrayList;)LStratumLedge$Run;"⟩, 18), (⟨"StratumLedge", "isTouchedInMemory", "(LStratumLedge$Family;II)Z"⟩, 18), (⟨"StratumLedge", "levelFor", "(LStratumLedge$Family;II)I"⟩, 18), (⟨"StratumLedge", "isFree", "(LStratumLedge$Family;III)Z"⟩, 18), (⟨"StratumLedge$Merging", "least", "()I"⟩, 7), (⟨"StratumLedge$Merging", "greatest", "()I"⟩, 7), (⟨"StratumLedge", "placeOfSnapshot", "(I)I"⟩, 18), (⟨"java/util/ArrayList", "fastRemove", "([Ljava/lang/Object;I)V"⟩, 3), (⟨"StratumLedge", "momentOf", "(I)I"⟩, 18), (⟨"StratumLedge", "cursorAt", "(I)LStratumLedge$Cursor;"⟩, 18), (⟨"StratumLedge", "placeOfCursor", "(I)I"⟩, 18), (⟨"StratumLedge", "isThere", "(LStratumLedge$Cursor;I)Z"⟩, 18), (⟨"StratumLedge$Merging", "addSources", "()V"⟩, 7)]
theorem lw_r2 : ∀ q ∈ lw_privs_2, lw_okq q := List.forall_mem_cons.mpr ⟨lw_p16, List.forall_mem_cons.mpr ⟨lw_p17, List.forall_mem_cons.mpr ⟨lw_p18, List.forall_mem_cons.mpr ⟨lw_p19, List.forall_mem_cons.mpr ⟨lw_p20, List.forall_mem_cons.mpr ⟨lw_p21, List.forall_mem_cons.mpr ⟨lw_p22, List.forall_mem_cons.mpr ⟨lw_p23, List.forall_mem_cons.mpr ⟨lw_p24, List.forall_mem_cons.mpr ⟨lw_p25, List.forall_mem_cons.mpr ⟨lw_p26, List.forall_mem_cons.mpr ⟨lw_p27, List.forall_mem_cons.mpr ⟨lw_p28, List.forall_mem_cons.mpr ⟨lw_p29, List.forall_mem_cons.mpr ⟨lw_p30, List.forall_mem_cons.mpr ⟨lw_p31, fun _ h => absurd h List.not_mem_nil⟩⟩⟩⟩⟩⟩⟩⟩⟩⟩⟩⟩⟩⟩⟩⟩
theorem lw_p32 : lw_okq (⟨"StratumLedge$Merging", "addOverlapped", "()V"⟩, 7) := ⟨⟨by decide +kernel, by decide +kernel⟩, List.mem_of_getElem? (i := 1019) (by decide +kernel), List.mem_of_getElem? (i := 1178) (by decide +kernel), List.mem_of_getElem? (i := 1179) (by decide +kernel)⟩
theorem lw_p33 : lw_okq (⟨"StratumLedge", "doStep", "(LStratumLedge$Merging;)V"⟩, 18) := ⟨⟨by decide +kernel, by decide +kernel⟩, List.mem_of_getElem? (i := 38) (by decide +kernel), List.mem_of_getElem? (i := 1217) (by decide +kernel), List.mem_of_getElem? (i := 1218) (by decide +kernel)⟩
theorem lw_p34 : lw_okq (⟨"StratumLedge", "sift", "(LStratumLedge$Merging;)V"⟩, 18) := ⟨⟨by decide +kernel, by decide +kernel⟩, List.mem_of_getElem? (i := 38) (by decide +kernel), List.mem_of_getElem? (i := 1229) (by decide +kernel), List.mem_of_getElem? (i := 1230) (by decide +kernel)⟩
theorem lw_p35 : lw_okq (⟨"StratumLedge", "keepAt", "(I[Z)V"⟩, 18) := ⟨⟨by decide +kernel, by decide +kernel⟩, List.mem_of_getElem? (i := 38) (by decide +kernel), List.mem_of_getElem? (i := 1233) (by decide +kernel), List.mem_of_getElem? (i := 1234) (by decide +kernel)⟩
theorem lw_p36 : lw_okq (⟨"StratumLedge", "dropLastDeletes", "([Z)V"⟩, 18) := ⟨⟨by decide +kernel, by decide +kernel⟩, List.mem_of_getElem? (i := 38) (by decide +kernel), List.mem_of_getElem? (i := 1242) (by decide +kernel), List.mem_of_getElem? (i := 1243) (by decide +kernel)⟩
theorem lw_p37 : lw_okq (⟨"StratumLedge", "finish", "(LStratumLedge$Merging;)V"⟩, 18) := ⟨⟨by decide +kernel, by decide +kernel⟩, List.mem_of_getElem? (i := 38) (by decide +kernel), List.mem_of_getElem? (i := 1246) (by decide +kernel), List.mem_of_getElem? (i := 1247) (by decide +kernel)⟩
theorem lw_p38 : lw_okq (⟨"StratumLedge", "backupAt", "(I)LStratumLedge$Backup;"⟩, 18) := ⟨⟨by decide +kernel, by decide +kernel⟩, List.mem_of_getElem? (i := 38) (by decide +kernel), List.mem_of_getElem? (i := 1326) (by decide +kernel), List.mem_of_getElem? (i := 1327) (by decide +kernel)⟩
theorem lw_p39 : lw_okq (⟨"StratumLedge", "foundValue", "()I"⟩, 18) := ⟨⟨by decide +kernel, by decide +kernel⟩, List.mem_of_getElem? (i := 38) (by decide +kernel), List.mem_of_getElem? (i := 1351) (by decide +kernel), List.mem_of_getElem? (i := 1352) (by decide +kernel)⟩
theorem lw_p40 : lw_okq (⟨"StratumLedge", "levelAt", "(II)LStratumLedge$Level;"⟩, 18) := ⟨⟨by decide +kernel, by decide +kernel⟩, List.mem_of_getElem? (i := 38) (by decide +kernel), List.mem_of_getElem? (i := 1373) (by decide +kernel), List.mem_of_getElem? (i := 1374) (by decide +kernel)⟩
theorem lw_p41 : lw_okq (⟨"StratumLedge", "runAt", "(III)LStratumLedge$Run;"⟩, 18) := ⟨⟨by decide +kernel, by decide +kernel⟩, List.mem_of_getElem? (i := 38) (by decide +kernel), List.mem_of_getElem? (i := 1382) (by decide +kernel), List.mem_of_getElem? (i := 1383) (by decide +kernel)⟩
theorem lw_p42 : lw_okq (⟨"StratumLedge$Family", "hasRun", "(LStratumLedge$Run;)Z"⟩, 3) := ⟨⟨by decide +kernel, by decide +kernel⟩, List.mem_of_getElem? (i := 773) (by decide +kernel), List.mem_of_getElem? (i := 1413) (by decide +kernel), List.mem_of_getElem? (i := 1414) (by decide +kernel)⟩
def lw_privs_3 : List (MethodName × Nat) := [(⟨"StratumLedge$Merging", "addOverlapped", "()V"⟩, 7), (⟨"StratumLedge", "doStep", "(LStratumLedge$Merging;)V"⟩, 18), (⟨"StratumLedge", "sift", "(LStratumLedge$Merging;)V"⟩, 18), (⟨"StratumLedge", "keepAt", "(I[Z)V"⟩, 18), (⟨"StratumLedge", "dropLastDeletes", "([Z)V"⟩, 18), (⟨"StratumLedge", "finish", "(LStratumLedge$Merging;)V"⟩, 18), (⟨"StratumLedge", "backupAt", "(I)LStratumLedge$Backup;"⟩, 18), (⟨"StratumLedge", "foundValue", "()I"⟩, 18), (⟨"StratumLedge", "levelAt", "(II)LStratumLedge$Level;"⟩, 18), (⟨"StratumLedge", "runAt", "(III)LStratumLedge$Run;"⟩, 18), (⟨"StratumLedge$Family", "hasRun", "(LStratumLedge$Run;)Z"⟩, 3)]
theorem lw_r3 : ∀ q ∈ lw_privs_3, lw_okq q := List.forall_mem_cons.mpr ⟨lw_p32, List.forall_mem_cons.mpr ⟨lw_p33, List.forall_mem_cons.mpr ⟨lw_p34, List.forall_mem_cons.mpr ⟨lw_p35, List.forall_mem_cons.mpr ⟨lw_p36, List.forall_mem_cons.mpr ⟨lw_p37, List.forall_mem_cons.mpr ⟨lw_p38, List.forall_mem_cons.mpr ⟨lw_p39, List.forall_mem_cons.mpr ⟨lw_p40, List.forall_mem_cons.mpr ⟨lw_p41, List.forall_mem_cons.mpr ⟨lw_p42, fun _ h => absurd h List.not_mem_nil⟩⟩⟩⟩⟩⟩⟩⟩⟩⟩⟩
def lw_privs : List (MethodName × Nat) := lw_privs_1 ++ (lw_privs_2 ++ (lw_privs_3))
def lw_tbl : List Cond := k2_sels lw_privs ++ tables_1
theorem lw_privs_ok : ∀ q ∈ lw_privs, lw_okq q := by
  show ∀ q ∈ lw_privs_1 ++ (lw_privs_2 ++ (lw_privs_3)), lw_okq q
  exact List.forall_mem_append.mpr ⟨lw_r1, List.forall_mem_append.mpr ⟨lw_r2, lw_r3⟩⟩
/-- the streams that the claim lets the run draw from -/
abbrev lw_cs : List Choice := [Jvm.Choice.named "NaN.bits"]
theorem lw_bits : nanBits ∈ lw_cs := by first | decide | exact List.mem_cons_self | simp [lw_cs, nanBits]
end
section
/-! ===== BEGIN words of one list among another's, by their places ===== -/
theorem goodIn_r {big : List Cond} (ws : List Cond) (ps : List Nat) (hp : ws = ps.filterMap (fun i => big[i]?)) (h : ws.all goodWord = true) : GoodIn big ws := by
  intro w hw
  have h1 := List.all_eq_true.mp h w hw
  rw [hp] at hw
  obtain ⟨i, -, hi⟩ := List.mem_filterMap.mp hw
  have hm : w ∈ big := by first | exact List.mem_of_getElem? hi | exact List.getElem?_mem hi
  exact ⟨hm, good_of_word h1⟩
theorem goodIn_app {big a b : List Cond} (ha : GoodIn big a) (hb : GoodIn big b) : GoodIn big (a ++ b) := fun w h => (List.mem_append.mp h).elim (ha w) (hb w)
theorem goodIn_ca {big a b : List Cond} {c : Cond} (ha : GoodIn big (c :: a)) (hb : GoodIn big b) : GoodIn big (c :: (a ++ b)) := fun w h => (List.mem_cons.mp h).elim (fun e => ha w (List.mem_cons.mpr (Or.inl e))) (fun h => (List.mem_append.mp h).elim (fun h => ha w (List.mem_cons.mpr (Or.inr h))) (hb w))
theorem goodIn_sub {big ws : List Cond} (hm : ∀ w ∈ ws, w ∈ big) (h : ws.all goodWord = true) : GoodIn big ws := fun w hw => ⟨hm w hw, good_of_word (List.all_eq_true.mp h w hw)⟩
/-! ===== END ===== -/

/-! ===== BEGIN exceptions that leave a method, and their catching by the caller (launches without stack traces) ===== -/
section VXA
/-! The laws vx_back, vx_callV, vx_callS, vx_callSW, vx_throw0, vx_throwS follow proofs of the library, with one case more: JvmDerived/Free/Laws.lean (Back.of_free), Shelf42/LK1.lean (callV, callS), Shelf/KitTraced.lean (throwNew0V, throwNewS). -/
/-- where a method has thrown q: the class by its name, the cell, what was written, the world -/
def vx_T (XC : String → State → State → Prop) (st : State) (q : Addr) (t : State) (mc ms : Nat) (free : Addr → Prop) : Prop :=
  ∃ (E : String) (ce : Cell) (L : List Loc), XC E st t ∧ t.heap[q]? = some ce ∧ ce.vm = .none ∧ st.vm.findClass E = some ce.cls ∧ st.WarmedH t.vm ∧ st.sameButNew ({ t with vm := st.vm } : State) L mc ms ∧ ∀ z ∈ L, free z.base
def vx_Q (Qc : Array Value → State → Outcome → State → Prop) (XC : String → State → State → Prop) (mc ms : Nat) (free : Addr → Prop) : Array Value → State → Outcome → State → Prop := fun a st o t =>
  (Qc a st o t ∧ ∃ L, FrameEnd st o t L mc ms ∧ ∀ q ∈ L, free q.base) ∨ ∃ q, o = .threw q ∧ vx_T XC st q t mc ms free
/-- a callee that returns or throws -/
def vx_Met (l : Launch) (y : MethodName) (ws : List Cond) (rm : Room) (Pc : Array Value → State → Prop) (Qc : Array Value → State → Outcome → State → Prop) (XC : String → State → State → Prop) (mc ms : Nat) (free : Addr → Prop) : Prop :=
  MetFree l y (headSpec ws rm) Pc (fun _ _ _ _ _ => True) (vx_Q Qc XC mc ms free)
def vx_Post (XC : String → State → State → Prop) (mc ms : Nat) (free : Addr → Prop) : Pt → Array Value → Addr → Pt → Prop := fun A a q B =>
  ∃ (g : JFrame) (mk : MethodId) (t : State) (L : List Loc) (E : String) (ce : Cell), B.U.heap = t.heap ∧ B.U.vm = t.vm ∧ XC E (A.U.calling g mk a) t ∧ t.heap[q]? = some ce ∧ ce.vm = .none ∧ A.U.vm.findClass E = some ce.cls ∧ B.locs = A.locs ++ L ∧ (∀ z ∈ L, free z.base) ∧ B.cells = A.cells + mc ∧ B.slots = A.slots + ms
def vx_Back (l : Launch) (R : Room) (p : Program) (e : Env) (below : List Frame) (s : State) (sargs : Array Value) (y : MethodName) (len W9 : Nat)
    (Pre : Pt → Array Value → Prop) (Post : Pt → Array Value → Option Value → Pt → Prop) (PostX : Pt → Array Value → Addr → Pt → Prop) : Prop :=
  ∀ (m : MethodId) (meth : Method) (c : Code) (A : Pt) (g : JFrame) (ig : Instr) (mk : MethodId) (a : Array Value),
    Stand p l e R s m sargs below meth c A.U A.locs A.cells A.slots → g.method = m → g.locals.size = c.maxLocals → decode c.code g.pc = .ok (ig, len) →
    2 * g.monitorRoom + (g.stack.map fun v => v.category).sum ≤ W9 → A.U.methodNamed? y = some mk → Pre A a →
    (∃ (v : Option Value) (B : Pt), Stand p l e R s m sargs below meth c B.U B.locs B.cells B.slots ∧ Post A a v B ∧
      Steps p.tables e below (doInvoke e (A.U.setTop g) [] mk a).1 (B.U.setTop { g with pc := g.pc + len, stack := v.toList ++ g.stack })) ∨
    (∃ (q : Addr) (B : Pt), Stand p l e R s m sargs below meth c B.U B.locs B.cells B.slots ∧ PostX A a q B ∧
      Steps p.tables e below (doInvoke e (A.U.setTop g) [] mk a).1 ((B.U.setTop g).pushFrame (.throwing q)))
section Payer
variable {l : Launch} {R : Room} {p : Program} {e : Env} {below : List Frame} {s : State} {sargs : Array Value} {y : MethodName} {len W9 : Nat}
theorem vx_back {ws : List Cond} {rm : Room} {Pc : Array Value → State → Prop} {Qc : Array Value → State → Outcome → State → Prop} {XC : String → State → State → Prop} {mc ms : Nat} {free : Addr → Prop} {bytes : ByteArray} {maxL : Nat} {ret : Option FieldType}
    (hM : vx_Met l y ws rm Pc Qc XC mc ms free) (hblind : FrameBlind Pc) (hrc : rm.cells = mc) (hrs : rm.slots = ms)
    (hframes : rm.frames + 1 ≤ R.frames) (hlocals : W9 + (maxL + 11) + rm.locals ≤ R.locals)
    (hws : ∀ w ∈ ws, ∀ a' U, s.WarmedH U.vm → w.before a' U = true) (hcode : Cond.code y bytes maxL ret ∈ ws) (hinit : ∀ a' U, s.WarmedH U.vm → (Cond.initialized y.cls).before a' U = true) :
    vx_Back l R p e below s sargs y len W9 (PreOf R mc ms Pc) (PostOf Qc mc ms free) (vx_Post XC mc ms free) := by
  intro m meth c A g ig mk a X hg hsize hdg hW hn hp
  have h1 : (headSpec ws rm).pre.before a A.U = true := atoms_intro fun w hw => hws w hw _ _ X.warmed
  have h2 : (Cond.code y bytes maxL ret).before a A.U = true := hws _ hcode _ _ X.warmed
  have h3 : (Cond.initialized y.cls).before a A.U = true := hinit _ _ X.warmed
  have h4 : A.cells + (headSpec ws rm).room.cells ≤ R.cells := by rw [show (headSpec ws rm).room.cells = mc from hrc]; exact hp.1
  have h5 : A.slots + (headSpec ws rm).room.slots ≤ R.slots := by rw [show (headSpec ws rm).room.slots = ms from hrs]; exact hp.2.1
  have hPc : Pc a (A.U.calling g mk a) := hblind _ _ _ _ hp.2.2
  obtain ⟨U, Ls, c0, s0⟩ := A
  dsimp only [Pt.U, Pt.locs, Pt.cells, Pt.slots] at h1 h2 h3 h4 h5 X hn hPc ⊢
  obtain ⟨methY, cY, hmY, hcY, -, hlY, -, -, -, -⟩ := Cond.code_spec hn h2
  obtain ⟨kY, hkY, -⟩ := className_of_methodNamed hn
  have hinitY : kY.init = .initialized := Cond.initialized_spec (findClass_of_methodNamed hn) hkY h3
  have h : At U g.method c below := by rw [hg]; exact X.here
  have hlocals9 : W9 + (maxL + 11) + (headSpec ws rm).room.locals ≤ R.locals := hlocals
  have happ : (headSpec ws rm).appliesLoose y e.platform (U.calling g mk a) = true :=
    Spec.appliesLoose_calling (g := g) h hdg hn hkY hinitY
      (X.room_calling (g := g) (R' := (headSpec ws rm).room) hsize hmY hcY hframes (by rw [hlY]; omega) h4 h5) h1
  obtain ⟨mid, hmid⟩ := h.above
  have hfr : (U.setTop g).frames = (.java g :: mid) ++ below := by rw [State.frames_setTop' g h.top, hmid]; rfl
  obtain ⟨o, s₂, hsteps, -, hend, hq⟩ := Steps.callFree hM p X.admits X.cas X.clock (acts := []) hfr happ hPc trivial
  have hq' : vx_Q Qc XC mc ms free a (U.calling g mk a) o s₂ := hq
  rw [State.frames_setTop' g h.top] at hend
  obtain ⟨g₀, hg0⟩ := Option.isSome_iff_exists.mp h.top
  obtain ⟨r, hr⟩ := State.topJava?_eq_some.mp hg0
  have hr' : (({ U with heap := s₂.heap, slotsUsed := s₂.slotsUsed } : State).setVm s₂.vm).frames = .java g₀ :: r := hr
  rcases hq' with ⟨hqc, L, hfe, hL⟩ | ⟨q, rfl, E, ce, L, hx, hce, hcv, hcl, hW₂, hsm, hL⟩
  · obtain ⟨⟨v, rfl⟩, hW₂, e2, q2, q3, q4, q5, q6⟩ := id hfe
    have e3 : s₂ = ({ (U.calling g mk a).setFrames s₂.frames with heap := s₂.heap, slotsUsed := s₂.slotsUsed } : State).setVm s₂.vm := by
      have : s₂ = ({ s₂ with vm := (U.calling g mk a).vm } : State).setVm s₂.vm := rfl
      rw [e2] at this
      exact this
    obtain ⟨c₂, i₂, len₂, hc₂, hd₂, hf₂⟩ := hend
    have hW' : U.WarmedH s₂.vm := hW₂
    have hcc : c₂ = c := by
      have h1 : s₂.code? g.method = U.code? g.method := by
        rw [State.code?_eq, State.code?_eq, hW'.alike.method?]
      exact Option.some.inj (hc₂.symm.trans (h1.trans h.code))
    subst hcc
    have hlen : len₂ = len := by rw [hdg] at hd₂; cases hd₂; rfl
    subst hlen
    have hs₂ : s₂ = (({ U with heap := s₂.heap, slotsUsed := s₂.slotsUsed } : State).setVm s₂.vm).setTop { g with pc := g.pc + len₂, stack := v.toList ++ g.stack } := by
      refine e3.trans ?_
      rw [hf₂, State.calling_eq h.top, State.setFrames_setFrames, State.setTop_of_frames _ hr', hr]
      rfl
    have hsame : U.sameButNew ({ U with heap := s₂.heap, slotsUsed := s₂.slotsUsed } : State) L mc ms := by
      refine ⟨?_, q2, q3, q4, q5, q6⟩
      obtain ⟨t, ht, -⟩ := State.frames_cons hr
      show ({ U with heap := s₂.heap, slotsUsed := s₂.slotsUsed } : State) = { U.setFrames U.frames with heap := s₂.heap, slotsUsed := s₂.slotsUsed }
      rw [State.setFrames_self ht]
    subst hg
    refine Or.inl ⟨v, ⟨(({ U with heap := s₂.heap, slotsUsed := s₂.slotsUsed } : State).setVm s₂.vm), Ls ++ L, c0 + mc, s0 + ms⟩,
      ⟨X.admits, X.cas, X.clock, X.frames, X.room, X.hears, X.method, X.code, (X.here.setHeapUsed s₂.heap s₂.slotsUsed).setVm hW'.alike, X.tail, State.WarmedH.trans X.warmed hW', X.limits, X.bytes, X.same.trans (hsame.setVm s.vm)⟩,
      ⟨g, mk, s₂, L, rfl, rfl, hqc, rfl, hL, rfl, rfl⟩, ?_⟩
    show Steps p.tables e below _ ((({ U with heap := s₂.heap, slotsUsed := s₂.slotsUsed } : State).setVm s₂.vm).setTop { g with pc := g.pc + len₂, stack := v.toList ++ g.stack })
    rw [← hs₂]
    exact hsteps
  · obtain ⟨e2, q2, q3, q4, q5, q6⟩ := id hsm
    have e3 : s₂ = ({ (U.calling g mk a).setFrames s₂.frames with heap := s₂.heap, slotsUsed := s₂.slotsUsed } : State).setVm s₂.vm := by
      have : s₂ = ({ s₂ with vm := (U.calling g mk a).vm } : State).setVm s₂.vm := rfl
      rw [e2] at this
      exact this
    have hf₂ : s₂.frames = .throwing q :: .java g :: U.frames.tail := hend
    have hW' : U.WarmedH s₂.vm := hW₂
    have hs₂ : s₂ = ((({ U with heap := s₂.heap, slotsUsed := s₂.slotsUsed } : State).setVm s₂.vm).setTop g).pushFrame (.throwing q) := by
      refine e3.trans ?_
      rw [hf₂, State.calling_eq h.top, State.setFrames_setFrames, State.pushFrame, State.frames_setTop _ hr', State.setTop_of_frames _ hr', State.setFrames_setFrames, hr]
      rfl
    have hsame : U.sameButNew ({ U with heap := s₂.heap, slotsUsed := s₂.slotsUsed } : State) L mc ms := by
      refine ⟨?_, q2, q3, q4, q5, q6⟩
      obtain ⟨t, ht, -⟩ := State.frames_cons hr
      show ({ U with heap := s₂.heap, slotsUsed := s₂.slotsUsed } : State) = { U.setFrames U.frames with heap := s₂.heap, slotsUsed := s₂.slotsUsed }
      rw [State.setFrames_self ht]
    subst hg
    refine Or.inr ⟨q, ⟨(({ U with heap := s₂.heap, slotsUsed := s₂.slotsUsed } : State).setVm s₂.vm), Ls ++ L, c0 + mc, s0 + ms⟩,
      ⟨X.admits, X.cas, X.clock, X.frames, X.room, X.hears, X.method, X.code, (X.here.setHeapUsed s₂.heap s₂.slotsUsed).setVm hW'.alike, X.tail, State.WarmedH.trans X.warmed hW', X.limits, X.bytes, X.same.trans (hsame.setVm s.vm)⟩,
      ⟨g, mk, s₂, L, E, ce, rfl, rfl, hx, hce, hcv, hcl, rfl, hL, rfl, rfl⟩, ?_⟩
    show Steps p.tables e below _ (((({ U with heap := s₂.heap, slotsUsed := s₂.slotsUsed } : State).setVm s₂.vm).setTop g).pushFrame (.throwing q))
    rw [← hs₂]
    exact hsteps
end Payer
section Calls
variable {p : Program} {l : Launch} {e : Env} {R : Room} {s : State} {m : MethodId} {args : Array Value} {below : List Frame} {meth : Method} {c : Code} {T : State} {locs : List Loc} {cells slots : Nat}
theorem vx_callV (X : Stand p l e R s m args below meth c T locs cells slots) (hexec : p.tables.exec = Jvm.exec) {own C : String} {index : Nat} {y : MethodName} {bytes : ByteArray} {maxL : Nat} {ret : Option FieldType}
    (hown : s.vm.findClass own = some m.cls) (hlink : (Cond.methodLink own index y).before args s = true) (hinst : (Cond.instanceMethod y).before args s = true) (hsel : (Cond.selects C y y).before args s = true)
    (hcode : (Cond.code y bytes maxL ret).before args s = true) (hy : y.cls ≠ "java/lang/invoke/MethodHandle" ∧ y.cls ≠ "java/lang/invoke/VarHandle")
    {W9 : Nat} {Pre : Pt → Array Value → Prop} {Post : Pt → Array Value → Option Value → Pt → Prop} {PostX : Pt → Array Value → Addr → Pt → Prop} (hK : vx_Back l R p e below s args y 3 W9 Pre Post PostX)
    {b : Addr} {cellB : Cell} (hcell : T.heap[b]? = some cellB) (hobj : cellB.vm.isStatics = false) (hcls : s.vm.findClass C = some cellB.cls)
    {g : JFrame} (hg : g.method = m) (hsize : g.locals.size = c.maxLocals) {argsL rest : List Value} (hlen : ∀ sig, parseMethodDescriptor y.desc = some sig → argsL.length = sig.parameters.length)
    (hstack : g.stack = argsL.reverse ++ .ref b :: rest) (hW : 2 * g.monitorRoom + (rest.map fun v => v.category).sum ≤ W9) (hdg : decode c.code g.pc = .ok (.invokevirtual index, 3))
    (hpre : ∀ vm₁, s.WarmedH vm₁ → Pre ⟨T.setVm vm₁, locs, cells, slots⟩ (Value.ref b :: argsL).toArray) :
    (∃ (v : Option Value) (vm₁ : Vm) (B : Pt), s.WarmedH vm₁ ∧ Stand p l e R s m args below meth c B.U B.locs B.cells B.slots ∧ Post ⟨T.setVm vm₁, locs, cells, slots⟩ (Value.ref b :: argsL).toArray v B ∧
      ∀ target, Steps p.tables e below (B.U.setTop { g with pc := g.pc + 3, stack := v.toList ++ rest }) target → Steps p.tables e below (T.setTop g) target) ∨
    (∃ (q : Addr) (vm₁ : Vm) (B : Pt), s.WarmedH vm₁ ∧ Stand p l e R s m args below meth c B.U B.locs B.cells B.slots ∧ PostX ⟨T.setVm vm₁, locs, cells, slots⟩ (Value.ref b :: argsL).toArray q B ∧
      Steps p.tables e below (T.setTop g) ((B.U.setTop { g with stack := rest }).pushFrame (.throwing q))) := by
  obtain ⟨mk, methM, hnamed, hmethM, hstM, habM⟩ := Cond.instanceMethod_spec hinst
  obtain ⟨methM', cM, hmethM', -, -, -, -, -, -, hsigM⟩ := Cond.code_spec hnamed hcode
  cases hmethM.symm.trans hmethM'
  obtain ⟨c2, r2, m2, q1, q2, q3, q4, kP, hkP, hkPi⟩ := Cond.selects_spec hsel
  cases hcls.symm.trans q1
  cases (State.methodFound?_of_named hnamed hy).symm.trans q2
  cases hnamed.symm.trans q3
  have hselP : selectMethod e.platform s.vm cellB.cls mk = .method mk := by rw [Launch.admits_selectMethod X.admits]; exact q4
  obtain ⟨vm₁, X₁, hstep₁⟩ := X.invokevirtual hexec hown hlink hnamed hmethM hstM hkP hkPi hy (a := b) (cell := cellB) hcell
    (fun z h => by rw [h] at hobj; cases hobj) hselP hmethM habM hkP hkPi (g := g) hg (argsL := argsL) (rest := rest) (hlen _ hsigM) hstack hdg
  rcases hK m meth c ⟨T.setVm vm₁, locs, cells, slots⟩ { g with stack := rest } (.invokevirtual index) mk (Value.ref b :: argsL).toArray X₁ hg hsize hdg hW (X₁.named hnamed) (hpre vm₁ X₁.warmed) with ⟨v, B, X', hpost, hsteps⟩ | ⟨q, B, X', hpost, hsteps⟩
  · exact Or.inl ⟨v, vm₁, B, X₁.warmed, X', hpost, fun target h => hstep₁ _ fun acts => by rw [doInvoke_state]; exact hsteps.trans h⟩
  · exact Or.inr ⟨q, vm₁, B, X₁.warmed, X', hpost, hstep₁ _ fun acts => by rw [doInvoke_state]; exact hsteps⟩
theorem vx_callS (X : Stand p l e R s m args below meth c T locs cells slots) (hexec : p.tables.exec = Jvm.exec) {own : String} {index : Nat} {y : MethodName} {bytes : ByteArray} {maxL : Nat} {ret : Option FieldType}
    (hown : s.vm.findClass own = some m.cls) (hlink : (Cond.methodLink own index y).before args s = true) (hstat : (Cond.static y).before args s = true) (hinit : (Cond.initialized y.cls).before args s = true)
    (hcode : (Cond.code y bytes maxL ret).before args s = true) (hy : y.cls ≠ "java/lang/invoke/MethodHandle" ∧ y.cls ≠ "java/lang/invoke/VarHandle")
    {W9 : Nat} {Pre : Pt → Array Value → Prop} {Post : Pt → Array Value → Option Value → Pt → Prop} {PostX : Pt → Array Value → Addr → Pt → Prop} (hK : vx_Back l R p e below s args y 3 W9 Pre Post PostX)
    {g : JFrame} (hg : g.method = m) (hsize : g.locals.size = c.maxLocals) {argsL rest : List Value} (hlen : ∀ sig, parseMethodDescriptor y.desc = some sig → argsL.length = sig.parameters.length)
    (hstack : g.stack = argsL.reverse ++ rest) (hW : 2 * g.monitorRoom + (rest.map fun v => v.category).sum ≤ W9) (hdg : decode c.code g.pc = .ok (.invokestatic index, 3))
    (hpre : ∀ vm₁, s.WarmedH vm₁ → Pre ⟨T.setVm vm₁, locs, cells, slots⟩ argsL.toArray) :
    (∃ (v : Option Value) (vm₁ : Vm) (B : Pt), s.WarmedH vm₁ ∧ Stand p l e R s m args below meth c B.U B.locs B.cells B.slots ∧ Post ⟨T.setVm vm₁, locs, cells, slots⟩ argsL.toArray v B ∧
      ∀ target, Steps p.tables e below (B.U.setTop { g with pc := g.pc + 3, stack := v.toList ++ rest }) target → Steps p.tables e below (T.setTop g) target) ∨
    (∃ (q : Addr) (vm₁ : Vm) (B : Pt), s.WarmedH vm₁ ∧ Stand p l e R s m args below meth c B.U B.locs B.cells B.slots ∧ PostX ⟨T.setVm vm₁, locs, cells, slots⟩ argsL.toArray q B ∧
      Steps p.tables e below (T.setTop g) ((B.U.setTop { g with stack := rest }).pushFrame (.throwing q))) := by
  obtain ⟨mk, hnamed⟩ := Cond.code_named hcode
  obtain ⟨methM, cM, hmethM, -, -, -, -, -, -, hsigM⟩ := Cond.code_spec hnamed hcode
  have hstatic : methM.isStatic = true := Cond.static_spec hnamed hmethM hstat
  obtain ⟨kP, hkP, -⟩ := className_of_methodNamed hnamed
  have hinitP : kP.init = .initialized := Cond.initialized_spec (findClass_of_methodNamed hnamed) hkP hinit
  obtain ⟨vm₁, X₁, hstep₁⟩ := X.invokestatic hexec hown hlink hnamed hmethM hstatic hkP hinitP hy (g := g) hg (argsL := argsL) (rest := rest) (hlen _ hsigM) hstack hdg
  rcases hK m meth c ⟨T.setVm vm₁, locs, cells, slots⟩ { g with stack := rest } (.invokestatic index) mk argsL.toArray X₁ hg hsize hdg hW (X₁.named hnamed) (hpre vm₁ X₁.warmed) with ⟨v, B, X', hpost, hsteps⟩ | ⟨q, B, X', hpost, hsteps⟩
  · exact Or.inl ⟨v, vm₁, B, X₁.warmed, X', hpost, fun target h => hstep₁ _ fun acts => by rw [doInvoke_state]; exact hsteps.trans h⟩
  · exact Or.inr ⟨q, vm₁, B, X₁.warmed, X', hpost, hstep₁ _ fun acts => by rw [doInvoke_state]; exact hsteps⟩
end Calls
theorem vx_cls {s : State} {T : State} {vm₁ : Vm} {E : String} {k : ClassId} (hW : s.WarmedH vm₁) (h : (T.setVm vm₁).vm.findClass E = some k) : s.vm.findClass E = some k := by
  have h1 : vm₁.findClass E = some k := h
  rw [hW.alike.findClass] at h1
  exact h1
/-- the method's frame g, with q thrown over it -/
def vx_W (p : Program) (l : Launch) (e : Env) (R : Room) (s : State) (m : MethodId) (args : Array Value) (below : List Frame) (meth : Method) (c : Code) (H : Heap) (locs : List Loc) (cells slots : Nat) (Q : State → Prop) (g : JFrame) (q : Addr) : Prop :=
  ∀ T : State, T.heap = H → Stand p l e R s m args below meth c T locs cells slots → ∃ t, Steps p.tables e below ((T.setTop g).pushFrame (.throwing q)) t ∧ Q t
def vx_Run (p : Program) (l : Launch) (e : Env) (R : Room) (s : State) (m : MethodId) (args : Array Value) (below : List Frame) (meth : Method) (c : Code) (H : Heap) (locs : List Loc) (cells slots mc ms : Nat) (g : JFrame) (rest : List Value) (Qa : State → Outcome → State → Prop) (XC : String → State → State → Prop) (free : Addr → Prop) : Prop :=
  ∀ T : State, T.heap = H → Stand p l e R s m args below meth c T locs cells slots →
    (∃ (v : Option Value) (st₀ t T' : State) (L : List Loc), st₀.heap = H ∧ Stand p l e R s m args below meth c T' (locs ++ L) (cells + mc) (slots + ms) ∧ (∀ q ∈ L, free q.base) ∧ T'.heap = t.heap ∧ T'.vm = t.vm ∧ Qa st₀ (.returned v) t ∧
      Goes p e below T g T' { g with pc := g.pc + 3, stack := v.toList ++ rest }) ∨
    (∃ (q : Addr) (st₀ t T' : State) (L : List Loc) (E : String) (ce : Cell), st₀.heap = H ∧ Stand p l e R s m args below meth c T' (locs ++ L) (cells + mc) (slots + ms) ∧ (∀ z ∈ L, free z.base) ∧ T'.heap = t.heap ∧ T'.vm = t.vm ∧ XC E st₀ t ∧ t.heap[q]? = some ce ∧ ce.vm = .none ∧ s.vm.findClass E = some ce.cls ∧
      Steps p.tables e below (T.setTop g) ((T'.setTop { g with stack := rest }).pushFrame (.throwing q)))
def vx_X {S : Type} (px : S → Prop) (B : String → S → State → Prop) (A : Nat → Prop) : String → State → State → Prop := fun E st t => ∃ u : S, px u ∧ B E u t ∧ va_F A st t
section Runs
variable {p : Program} {l : Launch} {e : Env} {R : Room} {s : State} {m : MethodId} {args : Array Value} {below : List Frame} {meth : Method} {c : Code} {H : Heap} {locs : List Loc} {cells slots : Nat}
variable {y : MethodName} {bytes cc : ByteArray} {maxL nL mc ms n index : Nat} {ret : Option FieldType} {ws : List Cond} {rm : Room} {Pc : Array Value → State → Prop} {Qc : Array Value → State → Outcome → State → Prop} {XC : String → State → State → Prop} {free : Addr → Prop} {Ts : List Cond} {own C : String} {b : Addr} {As rest : List Value} {g : JFrame}
theorem vx_callBack (cb : CallB R s args own index y bytes maxL ret ws rm mc ms n) (hM : vx_Met l y ws rm Pc Qc XC mc ms free) (hbl : FrameBlind Pc) : vx_Back l R p e below s args y 3 8 (PreOf R mc ms Pc) (PostOf Qc mc ms free) (vx_Post XC mc ms free) := by
  obtain ⟨hrc, hrs, hfr, hlo, hws, hcw, -, hini, -⟩ := cb
  exact vx_back (bytes := bytes) (maxL := maxL) (ret := ret) hM hbl hrc hrs hfr hlo hws hcw (fun a' U hW => word_at hW (Or.inl (by first | rfl | simp [Cond.onTables, Cond.keeps, Cond.steady])) hini)
theorem vx_runV (S : CallFix p m c cc nL s args Ts own) (hM : vx_Met l y ws rm Pc Qc XC mc ms free) (cw : CallW R s args own C index y bytes maxL ret ws rm mc ms n) (hp : PreV s H C b Pc As)
    (hg : g.method = m) (hn : As.length = n) (hsize : g.locals.size = nL) (hstack : g.stack = As.reverse ++ .ref b :: rest) (hW : 2 * g.monitorRoom + (rest.map fun v => v.category).sum ≤ 8) (hdg : decode cc g.pc = .ok (.invokevirtual index, 3)) (hf : cells + mc ≤ R.cells ∧ slots + ms ≤ R.slots) :
    vx_Run p l e R s m args below meth c H locs cells slots mc ms g rest (Qc (Value.ref b :: As).toArray) XC free := by
  have hK : vx_Back l R p e below s args y 3 8 (PreOf R mc ms Pc) (PostOf Qc mc ms free) (vx_Post XC mc ms free) := vx_callBack cw.1 hM hp.1
  obtain ⟨⟨-, -, -, -, -, -, hcode, -, hy, hlen, hl⟩, hin, hse⟩ := cw
  obtain ⟨hx, hb, hml, ho, -⟩ := S
  obtain ⟨-, ⟨cellB, hcB, hoB, hclB⟩, hPc⟩ := hp
  intro T hT X
  rcases vx_callV X hx (C := C) (bytes := bytes) (maxL := maxL) (ret := ret) ho hl hin hse hcode hy hK (by rw [hT]; exact hcB) hoB hclB hg (hsize.trans hml.symm) (argsL := As) (rest := rest) (fun sig h => hn.trans (hlen sig h)) hstack hW (by rw [hb]; exact hdg)
    (fun vm₁ hW₁ => ⟨hf.1, hf.2, hPc (T.setVm vm₁) hT hW₁⟩) with ⟨v, vm₁, ⟨U', l2, c2, s2⟩, hW₁, X', ⟨g', mk, t, L, e1, e2, hq, h1, hL, h2, h3⟩, st⟩ | ⟨q, vm₁, ⟨U', l2, c2, s2⟩, hW₁, X', ⟨g', mk, t, L, E, ce, e1, e2, hq, hce, hcv, hcl, h1, hL, h2, h3⟩, st⟩
  · dsimp only [Pt.U, Pt.locs, Pt.cells, Pt.slots] at X' e1 e2 h1 h2 h3 st
    subst h1; subst h2; subst h3
    exact Or.inl ⟨v, (T.setVm vm₁).calling g' mk (Value.ref b :: As).toArray, t, U', L, hT, X', hL, e1, e2, hq, st⟩
  · dsimp only [Pt.U, Pt.locs, Pt.cells, Pt.slots] at X' e1 e2 h1 h2 h3 st hcl
    subst h1; subst h2; subst h3
    exact Or.inr ⟨q, (T.setVm vm₁).calling g' mk (Value.ref b :: As).toArray, t, U', L, E, ce, hT, X', hL, e1, e2, hq, hce, hcv, vx_cls hW₁ hcl, st⟩
theorem vx_runS (S : CallFix p m c cc nL s args Ts own) (hM : vx_Met l y ws rm Pc Qc XC mc ms free) (cw : CallB R s args own index y bytes maxL ret ws rm mc ms n ∧ (Cond.static y).before args s = true) (hp : PreS s H Pc As)
    (hg : g.method = m) (hn : As.length = n) (hsize : g.locals.size = nL) (hstack : g.stack = As.reverse ++ rest) (hW : 2 * g.monitorRoom + (rest.map fun v => v.category).sum ≤ 8) (hdg : decode cc g.pc = .ok (.invokestatic index, 3)) (hf : cells + mc ≤ R.cells ∧ slots + ms ≤ R.slots) :
    vx_Run p l e R s m args below meth c H locs cells slots mc ms g rest (Qc As.toArray) XC free := by
  have hK : vx_Back l R p e below s args y 3 8 (PreOf R mc ms Pc) (PostOf Qc mc ms free) (vx_Post XC mc ms free) := vx_callBack cw.1 hM hp.1
  obtain ⟨⟨-, -, -, -, -, -, hcode, hini, hy, hlen, hl⟩, hstt⟩ := cw
  obtain ⟨hx, hb, hml, ho, -⟩ := S
  intro T hT X
  rcases vx_callS X hx (bytes := bytes) (maxL := maxL) (ret := ret) ho hl hstt hini hcode hy hK hg (hsize.trans hml.symm) (argsL := As) (rest := rest) (fun sig h => hn.trans (hlen sig h)) hstack hW (by rw [hb]; exact hdg)
    (fun vm₁ hW₁ => ⟨hf.1, hf.2, hp.2 (T.setVm vm₁) hT hW₁⟩) with ⟨v, vm₁, ⟨U', l2, c2, s2⟩, hW₁, X', ⟨g', mk, t, L, e1, e2, hq, h1, hL, h2, h3⟩, st⟩ | ⟨q, vm₁, ⟨U', l2, c2, s2⟩, hW₁, X', ⟨g', mk, t, L, E, ce, e1, e2, hq, hce, hcv, hcl, h1, hL, h2, h3⟩, st⟩
  · dsimp only [Pt.U, Pt.locs, Pt.cells, Pt.slots] at X' e1 e2 h1 h2 h3 st
    subst h1; subst h2; subst h3
    exact Or.inl ⟨v, (T.setVm vm₁).calling g' mk As.toArray, t, U', L, hT, X', hL, e1, e2, hq, st⟩
  · dsimp only [Pt.U, Pt.locs, Pt.cells, Pt.slots] at X' e1 e2 h1 h2 h3 st hcl
    subst h1; subst h2; subst h3
    exact Or.inr ⟨q, (T.setVm vm₁).calling g' mk As.toArray, t, U', L, E, ce, hT, X', hL, e1, e2, hq, hce, hcv, vx_cls hW₁ hcl, st⟩
end Runs
section Rows
variable {p : Program} {l : Launch} {e : Env} {R : Room} {s : State} {m : MethodId} {args : Array Value} {below : List Frame} {meth : Method} {c : Code} {H : Heap} {locs : List Loc} {cells slots : Nat} {Q : State → Prop}
variable {mc ms : Nat} {free : Addr → Prop} {A0 A1 : Nat → Prop} {H0 : Heap} {a : Array Value} {pc : Nat} {ls : Array Slot} {st0 rest : List Value}
theorem vx_keep {st₀ t T' : State} {L : List Loc} (h0 : st₀.heap = H) (e1 : T'.heap = t.heap) (hS : va_S A0 H0 H locs) (hA : ∀ q, q < H.size → A1 q → A0 q) (hf : ∀ q, free q → A0 q) (hL : ∀ q ∈ L, free q.base) (hF : va_F A1 st₀ t) :
    H.size ≤ T'.heap.size ∧ (∀ q : Nat, q < H.size → ¬ A1 q → T'.heap[q]? = H[q]?) ∧ va_S A0 H0 T'.heap (locs ++ L) := by
  obtain ⟨hz, hk⟩ := hF
  rw [h0] at hz hk
  exact ⟨by rw [e1]; exact hz, fun q h1 h2 => by rw [e1]; exact hk q h1 h2,
    ⟨Nat.le_trans hS.1 (by rw [e1]; exact hz), fun q h1 h2 => by rw [e1, hk q (Nat.lt_of_lt_of_le h1 hS.1) (fun z => h2 (hA q (Nat.lt_of_lt_of_le h1 hS.1) z))]; exact hS.2.1 q h1 h2, fun q hq => by
      rcases List.mem_append.mp hq with h | h
      · exact hS.2.2 q h
      · exact hf _ (hL q h)⟩⟩
theorem vx_calli {S SX : Type} {post : Int32 → S → Prop} {px : SX → Prop} {B : S → State → Prop} {BX : String → SX → State → Prop} {AX : Nat → Prop} (hr : vx_Run p l e R s m args below meth c H locs cells slots mc ms (F0 m pc ls st0) rest (va_Qi post B A1 a) (vx_X px BX AX) free) (hS : va_S A0 H0 H locs) (hA : ∀ q, q < H.size → A1 q → A0 q) (hf : ∀ q, free q → A0 q) (hAX : ∀ q, q < H.size → AX q → A0 q)
    (kx : ∀ (E : String) (ce : Cell) (q9 : Addr) (u : SX) (t : State) (H1 : Heap) (locs1 : List Loc), t.heap = H1 → s.vm.Alike t.vm → px u → BX E u t → H.size ≤ H1.size → (∀ q : Nat, q < H.size → ¬ AX q → H1[q]? = H[q]?) → va_S A0 H0 H1 locs1 → H1[q9]? = some ce → ce.vm = .none → s.vm.findClass E = some ce.cls → vx_W p l e R s m args below meth c H1 locs1 (cells + mc) (slots + ms) Q (F0 m pc ls rest) q9)
    (kk : ∀ (r : Int32) (u : S) (t : State) (H1 : Heap) (locs1 : List Loc), t.heap = H1 → s.vm.Alike t.vm → post r u → B u t → H.size ≤ H1.size → (∀ q : Nat, q < H.size → ¬ A1 q → H1[q]? = H[q]?) → va_S A0 H0 H1 locs1 → W p l e R s m args below meth c H1 locs1 (cells + mc) (slots + ms) Q (F0 m (pc + 3) ls (.int r :: rest))) : W p l e R s m args below meth c H locs cells slots Q (F0 m pc ls st0) := by
  intro T hT X
  rcases hr T hT X with ⟨v, st₀, t, T', L, h0, X', hL, e1, e2, ⟨⟨r, u, hv, hp, hb⟩, hF⟩, st⟩ | ⟨q, st₀, t, T', L, E, ce, h0, X', hL, e1, e2, ⟨u, hp, hb, hF⟩, hce, hcv, hcl, st⟩
  · cases hv
    obtain ⟨k1, k2, k3⟩ := vx_keep h0 e1 hS hA hf hL hF
    obtain ⟨t2, a1, b1⟩ := kk r u t T'.heap (locs ++ L) e1.symm (by rw [← e2]; exact X'.warmed.alike) hp hb k1 k2 k3 T' rfl X'
    exact ⟨t2, st t2 a1, b1⟩
  · obtain ⟨k1, k2, k3⟩ := vx_keep h0 e1 hS hAX hf hL hF
    obtain ⟨t2, a1, b1⟩ := kx E ce q u t T'.heap (locs ++ L) e1.symm (by rw [← e2]; exact X'.warmed.alike) hp hb k1 k2 k3 (by rw [e1]; exact hce) hcv hcl T' rfl X'
    exact ⟨t2, st.trans a1, b1⟩
theorem vx_calll {S SX : Type} {post : Int64 → S → Prop} {px : SX → Prop} {B : S → State → Prop} {BX : String → SX → State → Prop} {AX : Nat → Prop} (hr : vx_Run p l e R s m args below meth c H locs cells slots mc ms (F0 m pc ls st0) rest (va_Ql post B A1 a) (vx_X px BX AX) free) (hS : va_S A0 H0 H locs) (hA : ∀ q, q < H.size → A1 q → A0 q) (hf : ∀ q, free q → A0 q) (hAX : ∀ q, q < H.size → AX q → A0 q)
    (kx : ∀ (E : String) (ce : Cell) (q9 : Addr) (u : SX) (t : State) (H1 : Heap) (locs1 : List Loc), t.heap = H1 → s.vm.Alike t.vm → px u → BX E u t → H.size ≤ H1.size → (∀ q : Nat, q < H.size → ¬ AX q → H1[q]? = H[q]?) → va_S A0 H0 H1 locs1 → H1[q9]? = some ce → ce.vm = .none → s.vm.findClass E = some ce.cls → vx_W p l e R s m args below meth c H1 locs1 (cells + mc) (slots + ms) Q (F0 m pc ls rest) q9)
    (kk : ∀ (r : Int64) (u : S) (t : State) (H1 : Heap) (locs1 : List Loc), t.heap = H1 → s.vm.Alike t.vm → post r u → B u t → H.size ≤ H1.size → (∀ q : Nat, q < H.size → ¬ A1 q → H1[q]? = H[q]?) → va_S A0 H0 H1 locs1 → W p l e R s m args below meth c H1 locs1 (cells + mc) (slots + ms) Q (F0 m (pc + 3) ls (.long r :: rest))) : W p l e R s m args below meth c H locs cells slots Q (F0 m pc ls st0) := by
  intro T hT X
  rcases hr T hT X with ⟨v, st₀, t, T', L, h0, X', hL, e1, e2, ⟨⟨r, u, hv, hp, hb⟩, hF⟩, st⟩ | ⟨q, st₀, t, T', L, E, ce, h0, X', hL, e1, e2, ⟨u, hp, hb, hF⟩, hce, hcv, hcl, st⟩
  · cases hv
    obtain ⟨k1, k2, k3⟩ := vx_keep h0 e1 hS hA hf hL hF
    obtain ⟨t2, a1, b1⟩ := kk r u t T'.heap (locs ++ L) e1.symm (by rw [← e2]; exact X'.warmed.alike) hp hb k1 k2 k3 T' rfl X'
    exact ⟨t2, st t2 a1, b1⟩
  · obtain ⟨k1, k2, k3⟩ := vx_keep h0 e1 hS hAX hf hL hF
    obtain ⟨t2, a1, b1⟩ := kx E ce q u t T'.heap (locs ++ L) e1.symm (by rw [← e2]; exact X'.warmed.alike) hp hb k1 k2 k3 (by rw [e1]; exact hce) hcv hcl T' rfl X'
    exact ⟨t2, st.trans a1, b1⟩
theorem vx_callf {S SX : Type} {post : UInt32 → S → Prop} {px : SX → Prop} {B : S → State → Prop} {BX : String → SX → State → Prop} {AX : Nat → Prop} (hr : vx_Run p l e R s m args below meth c H locs cells slots mc ms (F0 m pc ls st0) rest (va_Qf post B A1 a) (vx_X px BX AX) free) (hS : va_S A0 H0 H locs) (hA : ∀ q, q < H.size → A1 q → A0 q) (hf : ∀ q, free q → A0 q) (hAX : ∀ q, q < H.size → AX q → A0 q)
    (kx : ∀ (E : String) (ce : Cell) (q9 : Addr) (u : SX) (t : State) (H1 : Heap) (locs1 : List Loc), t.heap = H1 → s.vm.Alike t.vm → px u → BX E u t → H.size ≤ H1.size → (∀ q : Nat, q < H.size → ¬ AX q → H1[q]? = H[q]?) → va_S A0 H0 H1 locs1 → H1[q9]? = some ce → ce.vm = .none → s.vm.findClass E = some ce.cls → vx_W p l e R s m args below meth c H1 locs1 (cells + mc) (slots + ms) Q (F0 m pc ls rest) q9)
    (kk : ∀ (r : UInt32) (u : S) (t : State) (H1 : Heap) (locs1 : List Loc), t.heap = H1 → s.vm.Alike t.vm → post r u → B u t → H.size ≤ H1.size → (∀ q : Nat, q < H.size → ¬ A1 q → H1[q]? = H[q]?) → va_S A0 H0 H1 locs1 → W p l e R s m args below meth c H1 locs1 (cells + mc) (slots + ms) Q (F0 m (pc + 3) ls (.float r :: rest))) : W p l e R s m args below meth c H locs cells slots Q (F0 m pc ls st0) := by
  intro T hT X
  rcases hr T hT X with ⟨v, st₀, t, T', L, h0, X', hL, e1, e2, ⟨⟨r, u, hv, hp, hb⟩, hF⟩, st⟩ | ⟨q, st₀, t, T', L, E, ce, h0, X', hL, e1, e2, ⟨u, hp, hb, hF⟩, hce, hcv, hcl, st⟩
  · cases hv
    obtain ⟨k1, k2, k3⟩ := vx_keep h0 e1 hS hA hf hL hF
    obtain ⟨t2, a1, b1⟩ := kk r u t T'.heap (locs ++ L) e1.symm (by rw [← e2]; exact X'.warmed.alike) hp hb k1 k2 k3 T' rfl X'
    exact ⟨t2, st t2 a1, b1⟩
  · obtain ⟨k1, k2, k3⟩ := vx_keep h0 e1 hS hAX hf hL hF
    obtain ⟨t2, a1, b1⟩ := kx E ce q u t T'.heap (locs ++ L) e1.symm (by rw [← e2]; exact X'.warmed.alike) hp hb k1 k2 k3 (by rw [e1]; exact hce) hcv hcl T' rfl X'
    exact ⟨t2, st.trans a1, b1⟩
theorem vx_calld {S SX : Type} {post : UInt64 → S → Prop} {px : SX → Prop} {B : S → State → Prop} {BX : String → SX → State → Prop} {AX : Nat → Prop} (hr : vx_Run p l e R s m args below meth c H locs cells slots mc ms (F0 m pc ls st0) rest (va_Qd post B A1 a) (vx_X px BX AX) free) (hS : va_S A0 H0 H locs) (hA : ∀ q, q < H.size → A1 q → A0 q) (hf : ∀ q, free q → A0 q) (hAX : ∀ q, q < H.size → AX q → A0 q)
    (kx : ∀ (E : String) (ce : Cell) (q9 : Addr) (u : SX) (t : State) (H1 : Heap) (locs1 : List Loc), t.heap = H1 → s.vm.Alike t.vm → px u → BX E u t → H.size ≤ H1.size → (∀ q : Nat, q < H.size → ¬ AX q → H1[q]? = H[q]?) → va_S A0 H0 H1 locs1 → H1[q9]? = some ce → ce.vm = .none → s.vm.findClass E = some ce.cls → vx_W p l e R s m args below meth c H1 locs1 (cells + mc) (slots + ms) Q (F0 m pc ls rest) q9)
    (kk : ∀ (r : UInt64) (u : S) (t : State) (H1 : Heap) (locs1 : List Loc), t.heap = H1 → s.vm.Alike t.vm → post r u → B u t → H.size ≤ H1.size → (∀ q : Nat, q < H.size → ¬ A1 q → H1[q]? = H[q]?) → va_S A0 H0 H1 locs1 → W p l e R s m args below meth c H1 locs1 (cells + mc) (slots + ms) Q (F0 m (pc + 3) ls (.double r :: rest))) : W p l e R s m args below meth c H locs cells slots Q (F0 m pc ls st0) := by
  intro T hT X
  rcases hr T hT X with ⟨v, st₀, t, T', L, h0, X', hL, e1, e2, ⟨⟨r, u, hv, hp, hb⟩, hF⟩, st⟩ | ⟨q, st₀, t, T', L, E, ce, h0, X', hL, e1, e2, ⟨u, hp, hb, hF⟩, hce, hcv, hcl, st⟩
  · cases hv
    obtain ⟨k1, k2, k3⟩ := vx_keep h0 e1 hS hA hf hL hF
    obtain ⟨t2, a1, b1⟩ := kk r u t T'.heap (locs ++ L) e1.symm (by rw [← e2]; exact X'.warmed.alike) hp hb k1 k2 k3 T' rfl X'
    exact ⟨t2, st t2 a1, b1⟩
  · obtain ⟨k1, k2, k3⟩ := vx_keep h0 e1 hS hAX hf hL hF
    obtain ⟨t2, a1, b1⟩ := kx E ce q u t T'.heap (locs ++ L) e1.symm (by rw [← e2]; exact X'.warmed.alike) hp hb k1 k2 k3 (by rw [e1]; exact hce) hcv hcl T' rfl X'
    exact ⟨t2, st.trans a1, b1⟩
theorem vx_callv {S SX : Type} {post : S → Prop} {px : SX → Prop} {B : S → State → Prop} {BX : String → SX → State → Prop} {AX : Nat → Prop} (hr : vx_Run p l e R s m args below meth c H locs cells slots mc ms (F0 m pc ls st0) rest (va_Qv post B A1 a) (vx_X px BX AX) free) (hS : va_S A0 H0 H locs) (hA : ∀ q, q < H.size → A1 q → A0 q) (hf : ∀ q, free q → A0 q) (hAX : ∀ q, q < H.size → AX q → A0 q)
    (kx : ∀ (E : String) (ce : Cell) (q9 : Addr) (u : SX) (t : State) (H1 : Heap) (locs1 : List Loc), t.heap = H1 → s.vm.Alike t.vm → px u → BX E u t → H.size ≤ H1.size → (∀ q : Nat, q < H.size → ¬ AX q → H1[q]? = H[q]?) → va_S A0 H0 H1 locs1 → H1[q9]? = some ce → ce.vm = .none → s.vm.findClass E = some ce.cls → vx_W p l e R s m args below meth c H1 locs1 (cells + mc) (slots + ms) Q (F0 m pc ls rest) q9)
    (kk : ∀ (u : S) (t : State) (H1 : Heap) (locs1 : List Loc), t.heap = H1 → s.vm.Alike t.vm → post u → B u t → H.size ≤ H1.size → (∀ q : Nat, q < H.size → ¬ A1 q → H1[q]? = H[q]?) → va_S A0 H0 H1 locs1 → W p l e R s m args below meth c H1 locs1 (cells + mc) (slots + ms) Q (F0 m (pc + 3) ls (rest))) : W p l e R s m args below meth c H locs cells slots Q (F0 m pc ls st0) := by
  intro T hT X
  rcases hr T hT X with ⟨v, st₀, t, T', L, h0, X', hL, e1, e2, ⟨⟨u, hv, hp, hb⟩, hF⟩, st⟩ | ⟨q, st₀, t, T', L, E, ce, h0, X', hL, e1, e2, ⟨u, hp, hb, hF⟩, hce, hcv, hcl, st⟩
  · cases hv
    obtain ⟨k1, k2, k3⟩ := vx_keep h0 e1 hS hA hf hL hF
    obtain ⟨t2, a1, b1⟩ := kk u t T'.heap (locs ++ L) e1.symm (by rw [← e2]; exact X'.warmed.alike) hp hb k1 k2 k3 T' rfl X'
    exact ⟨t2, st t2 a1, b1⟩
  · obtain ⟨k1, k2, k3⟩ := vx_keep h0 e1 hS hAX hf hL hF
    obtain ⟨t2, a1, b1⟩ := kx E ce q u t T'.heap (locs ++ L) e1.symm (by rw [← e2]; exact X'.warmed.alike) hp hb k1 k2 k3 (by rw [e1]; exact hce) hcv hcl T' rfl X'
    exact ⟨t2, st.trans a1, b1⟩
/-- caught by the row x of this method's table; the rows ahead don't take it -/
theorem vx_catch {own name : String} {E : String} {ce : Cell} {q : Addr} (hown : s.vm.findClass own = some m.cls) (pre : List ExceptionTableEntry) (x : ExceptionTableEntry) (suf : List ExceptionTableEntry) (hsplit : c.exceptionTable.toList = pre ++ x :: suf)
    (hpass : ∀ z ∈ pre, covers z pc = false ∨ (z.catchType ≠ 0 ∧ ∃ nm : String, (Cond.classLink own z.catchType nm).before args s = true ∧ va_Nc E nm s)) (hx : covers x pc = true) (h0 : x.catchType ≠ 0)
    (hlink : (Cond.classLink own x.catchType name).before args s = true) (hcast : (Cond.castable E name).before args s = true) (hcell : H[q]? = some ce) (hv : ce.vm = .none) (hcl : s.vm.findClass E = some ce.cls)
    (kk : W p l e R s m args below meth c H locs cells slots Q (F0 m x.handlerPc ls [.ref q])) : vx_W p l e R s m args below meth c H locs cells slots Q (F0 m pc ls rest) q := by
  intro T hT X
  have hpl : e.platform.magicAccessors = ({} : Platform).magicAccessors := by rw [X.admits.platform]
  obtain ⟨c3, c4, hc3, hc4, hasg⟩ := Cond.castable_spec hcast
  cases Option.some.inj (hc3.symm.trans hcl)
  obtain ⟨c5, hc5, hcl5⟩ := Cond.classLink_spec hown hlink e.platform hpl
  cases Option.some.inj (hc4.symm.trans hc5)
  obtain ⟨vm', X', st⟩ := X.thenCaughtThrough q (g := F0 m pc ls rest) rfl (Steps.refl _) (by rw [hT]; exact hcell) (by rw [hv]; rfl) (by obtain ⟨k9, h9, -⟩ := Vm.findClass_spec hcl; exact ⟨k9, h9⟩) pre x suf hsplit
    (fun z hz => by
      rcases hpass z hz with h | ⟨hz0, nm, hl1, hn1⟩
      · exact Or.inl h
      · obtain ⟨c6, hc6, hcl6⟩ := Cond.classLink_spec hown hl1 e.platform hpl
        obtain ⟨a8, b8, h1, h2, h3⟩ := hn1
        cases Option.some.inj (h1.symm.trans hcl)
        cases Option.some.inj (h2.symm.trans hc6)
        exact Or.inr ⟨hz0, _, hcl6, h3⟩) hx (Or.inr ⟨h0, c4, hcl5, hasg⟩)
  obtain ⟨t, a1, b1⟩ := kk (T.setVm vm') hT X'
  exact ⟨t, st.trans a1, b1⟩
end Rows
section Ends
variable {p : Program} {l : Launch} {e : Env} {R : Room} {s : State} {m : MethodId} {args : Array Value} {below : List Frame} {meth : Method} {c : Code} {H : Heap} {locs : List Loc} {cells slots : Nat} {Q : State → Prop}
variable {mc ms : Nat} {free : Addr → Prop} {A0 A1 : Nat → Prop} {H0 : Heap} {a : Array Value} {ls : Array Slot} {st0 rest : List Value}
variable {Qc : Array Value → State → Outcome → State → Prop} {XC : String → State → State → Prop}
/-- what a body that may throw owes at its end -/
def vx_MQ (below : List Frame) (Qc : Array Value → State → Outcome → State → Prop) (XC : String → State → State → Prop) (a : Array Value) (s : State) (mc ms : Nat) (free : Addr → Prop) : State → Prop := fun t =>
  ∃ o, t.status = .running ∧ Ended t below o ∧ vx_Q Qc XC mc ms free a s o t
theorem vx_ret {g : JFrame} {mc ms : Nat} (k : W p l e R s m args below meth c H locs cells slots (MQ below Qc args s mc ms free) g) : W p l e R s m args below meth c H locs cells slots (vx_MQ below Qc XC args s mc ms free) g := by
  intro T hT X
  obtain ⟨t, a1, o, b1, b2, b3, b4⟩ := k T hT X
  exact ⟨t, a1, o, b1, b2, Or.inl ⟨b3, b4⟩⟩
/-- not caught here: it goes on to the caller -/
theorem vx_widen {g : JFrame} {q : Addr} {k n : Nat} (h1 : cells ≤ k) (h2 : slots ≤ n) (kk : vx_W p l e R s m args below meth c H locs k n Q g q) : vx_W p l e R s m args below meth c H locs cells slots Q g q := fun T hT X => kk T hT (stand_widen X h1 h2)
theorem vx_out {pc : Nat} {E : String} {ce : Cell} {q : Addr} {mc ms : Nat} (hout : ∀ x ∈ c.exceptionTable.toList, covers x pc = false) (hlocks : meth.locks = false) (hcell : H[q]? = some ce) (hv : ce.vm = .none) (hcl : s.vm.findClass E = some ce.cls)
    (hx : ∀ t : State, t.heap = H → s.vm.Alike t.vm → XC E s t) (hf : ∀ z ∈ locs, free z.base) (hc : cells ≤ mc) (hs : slots ≤ ms) :
    vx_W p l e R s m args below meth c H locs cells slots (vx_MQ below Qc XC args s mc ms free) (F0 m pc ls rest) q := by
  intro T hT X
  obtain ⟨st1, hrun, hend, hW, hsm⟩ := X.leaveThrown q (g := F0 m pc ls rest) rfl rfl rfl hout hlocks
  have hcell9 : (T.setFrames (.throwing q :: below)).heap[q]? = some ce := by
    show T.heap[q]? = some ce
    rw [hT]; exact hcell
  exact ⟨_, st1, .threw q, hrun, hend, Or.inr ⟨q, rfl, E, ce, locs, hx _ hT hW.alike, hcell9, hv, hcl, hW, hsm.mono hc hs, hf⟩⟩
theorem vx_frame {U : State} {k n : Nat} (h : s.sameButNew ({ U with vm := s.vm } : State) locs k n) : s.heap.size ≤ U.heap.size ∧ ∀ q : Nat, q < s.heap.size → (∀ z ∈ locs, z.base ≠ q) → U.heap[q]? = s.heap[q]? := by
  obtain ⟨-, h2, -, -, -, h6⟩ := h
  refine ⟨h2, fun q hq hz => ?_⟩
  obtain ⟨c9, e1, e2, e3, e4⟩ := h6 q _ (Array.getElem?_eq_getElem hq)
  have hs : c9.slots = (s.heap[q]).slots := Array.ext_getElem? fun i => e4 i fun hm => hz _ hm rfl
  have h9 : c9 = s.heap[q] := by
    rw [hs] at e2
    exact e2
  have e5 : U.heap[q]? = some c9 := e1
  rw [e5, h9, Array.getElem?_eq_getElem hq]
/-- the words of a throw but the four that speak of the heap -/
def vx_no (w : Cond) : Bool := decide (w ≠ .isRef (.static Bundle.tN "UNASSIGNED_STACK" Bundle.steD)) && decide (w ≠ .isRef (.static Bundle.tN "SUPPRESSED_SENTINEL" Bundle.listD)) && decide (w ≠ .laysStatic Bundle.tN "UNASSIGNED_STACK" Bundle.steD) && decide (w ≠ .laysStatic Bundle.tN "SUPPRESSED_SENTINEL" Bundle.listD)
def vx_at0 (own : String) (ic : Nat) (X : String) (names : List String) : List Cond := (Bundle.ownAtoms0 own ic X names).filter vx_no
def vx_atS (own : String) (ic : Nat) (X : String) (names : List String) : List Cond := (Bundle.ownAtoms own ic X names).filter vx_no
/-- a word that the tables alone decide, or a good one -/
def vx_ot (w : Cond) : Bool := w.onTables || goodWord w
theorem vx_ot_at {args a' : Array Value} {s U : State} {w : Cond} (hW : s.WarmedH U.vm) (hvm : s.vm = U.vm) (hg : vx_ot w = true) (h : w.before args s = true) : w.before a' U = true := by
  simp only [vx_ot, Bool.or_eq_true] at hg
  rcases hg with hg | hg
  · exact va_tabs hg hvm h
  · exact word_at hW (good_of_word hg) h
/-- a list's words: the good ones out of the method's own list, the others by premises of their own -/
theorem vx_hat {args : Array Value} {s : State} {L B : List Cond} (h1 : ∀ w ∈ L.filter goodWord, w.before args s = true) (h2 : ∀ w ∈ L.filter (fun w => !goodWord w), w ∈ B) (h3 : ∀ w ∈ B, w.before args s = true) : ∀ w ∈ L, w.before args s = true := by
  intro w hw
  by_cases g : goodWord w = true
  · exact h1 w (List.mem_filter.mpr ⟨hw, g⟩)
  · refine h3 w (h2 w (List.mem_filter.mpr ⟨hw, ?_⟩))
    show (!goodWord w) = true
    cases hgw : goodWord w
    · rfl
    · exact absurd hgw g
theorem vx_c {args : Array Value} {s : State} {w : Cond} {B : List Cond} (h : w.before args s = true) (t : ∀ w ∈ B, w.before args s = true) : ∀ w' ∈ w :: B, w'.before args s = true := fun w' h' => (List.mem_cons.mp h').elim (fun e => by rw [e]; exact h) (t w')
theorem vx_n {args : Array Value} {s : State} : ∀ w ∈ ([] : List Cond), w.before args s = true := fun _ h => nomatch h
theorem vx_own {args : Array Value} {s : State} {L : List Cond} (h1 : ∀ w ∈ L.filter vx_no, w.before args s = true)
    (hU : (Cond.isRef (.static Bundle.tN "UNASSIGNED_STACK" Bundle.steD)).before args s = true) (hN : (Cond.isRef (.static Bundle.tN "SUPPRESSED_SENTINEL" Bundle.listD)).before args s = true)
    (lU : (Cond.laysStatic Bundle.tN "UNASSIGNED_STACK" Bundle.steD).before args s = true) (lN : (Cond.laysStatic Bundle.tN "SUPPRESSED_SENTINEL" Bundle.listD).before args s = true) : ∀ w ∈ L, w.before args s = true := by
  intro w hw
  by_cases e1 : w = .isRef (.static Bundle.tN "UNASSIGNED_STACK" Bundle.steD)
  · rw [e1]; exact hU
  · by_cases e2 : w = .isRef (.static Bundle.tN "SUPPRESSED_SENTINEL" Bundle.listD)
    · rw [e2]; exact hN
    · by_cases e3 : w = .laysStatic Bundle.tN "UNASSIGNED_STACK" Bundle.steD
      · rw [e3]; exact lU
      · by_cases e4 : w = .laysStatic Bundle.tN "SUPPRESSED_SENTINEL" Bundle.listD
        · rw [e4]; exact lN
        · exact h1 w (List.mem_filter.mpr ⟨hw, by unfold vx_no; rw [decide_eq_true e1, decide_eq_true e2, decide_eq_true e3, decide_eq_true e4]; rfl⟩)
/-- where a static field lies, its class's statics cell in H -/
def vx_L (C n d : String) (A : Nat → Prop) (U : State) (H : Heap) : Prop := ∃ (c : ClassId) (k : Class) (i : Nat) (f : Field) (a : Nat) (cell : Cell), U.vm.findClass C = some c ∧ U.fieldFound? C n d = some (c, k, i, f) ∧ f.isStatic = true ∧ k.statics = some a ∧ H[a]? = some cell ∧ cell.vm.isStatics = true ∧ cell.cls = c ∧ f.slot < cell.slots.size ∧ k.staticTypes[f.slot]? = some f.type ∧ ¬ A a
theorem vx_L.moved {C n d : String} {A : Nat → Prop} {u U : State} {H : Heap} (hvm : u.vm.Alike U.vm) (h : vx_L C n d A u H) : vx_L C n d A U H := by
  obtain ⟨c, k, i, f, a, cell, h1, h2, h3, h4, h5, h6, h7, h8, h9, h10⟩ := h
  obtain ⟨k', hi', he⟩ := State.fieldFound?_setVm hvm h2
  exact ⟨c, k', i, f, a, cell, by rw [hvm.findClass]; exact h1, hi', h3, by rw [he]; exact h4, h5, h6, h7, h8, by rw [he]; exact h9, h10⟩
theorem vx_L.kept {C n d : String} {A : Nat → Prop} {U : State} {H H1 : Heap} (h : vx_L C n d A U H) (hq : ∀ a : Nat, a < H.size → ¬ A a → H1[a]? = H[a]?) : vx_L C n d A U H1 := by
  obtain ⟨c, k, i, f, a, cell, h1, h2, h3, h4, h5, h6, h7, h8, h9, h10⟩ := h
  exact ⟨c, k, i, f, a, cell, h1, h2, h3, h4, by rw [hq a (Array.getElem?_eq_some_iff.mp h5).1 h10]; exact h5, h6, h7, h8, h9, h10⟩
theorem vx_L.narrow {C n d : String} {A B : Nat → Prop} {U : State} {H : Heap} (h : vx_L C n d A U H) (hAB : ∀ q, B q → A q) : vx_L C n d B U H := by
  obtain ⟨c, k, i, f, a, cell, h1, h2, h3, h4, h5, h6, h7, h8, h9, h10⟩ := h
  exact ⟨c, k, i, f, a, cell, h1, h2, h3, h4, h5, h6, h7, h8, h9, fun z => h10 (hAB _ z)⟩
theorem vx_L.word {C n d : String} {A : Nat → Prop} {s : State} {args : Array Value} (h : vx_L C n d A s s.heap) : (Cond.laysStatic C n d).before args s = true := by
  obtain ⟨c, k, i, f, a, cell, h1, h2, h3, h4, h5, h6, h7, h8, h9, -⟩ := h
  show (Cond.laysStatic C n d).holds args s none s [] = true
  exact Cond.laysStatic_of h1 h2 h3 h4 h5 h6 h7 h8 h9
/-- .. and what it holds: null or some reference -/
def vx_Zq (C n d : String) (A : Nat → Prop) (U : State) (H : Heap) : Prop := va_Zq C n d A U H ∧ vx_L C n d A U H
theorem vx_Zq.moved {C n d : String} {A : Nat → Prop} {u U : State} {H : Heap} (hvm : u.vm.Alike U.vm) (h : vx_Zq C n d A u H) : vx_Zq C n d A U H := ⟨va_Zq.moved hvm h.1, vx_L.moved hvm h.2⟩
theorem vx_Zq.kept {C n d : String} {A : Nat → Prop} {U : State} {H H1 : Heap} (h : vx_Zq C n d A U H) (hq : ∀ a : Nat, a < H.size → ¬ A a → H1[a]? = H[a]?) : vx_Zq C n d A U H1 := ⟨va_Zq.kept h.1 hq, vx_L.kept h.2 hq⟩
theorem vx_Zq.narrow {C n d : String} {A B : Nat → Prop} {U : State} {H : Heap} (h : vx_Zq C n d A U H) (hAB : ∀ q, B q → A q) : vx_Zq C n d B U H := ⟨va_Zq.narrow h.1 hAB, vx_L.narrow h.2 hAB⟩
theorem vx_Zqof {args : Array Value} {s : State} {C n d : String} {A : Nat → Prop} (hl : (Cond.laysStatic C n d).before args s = true) (hini : (Cond.initialized C).before args s = true) (h : (Cond.isRef (.static C n d)).before args s = true) (hA : ∀ a : Nat, a < s.heap.size → ¬ A a) : vx_Zq C n d A s s.heap := by
  refine ⟨va_Zqof hl hini h hA, ?_⟩
  obtain ⟨c, k, i, f, a, cell, h1, h2, h3, h4, h5, h6, h7, h8, h9⟩ := Cond.laysStatic_spec hl
  exact ⟨c, k, i, f, a, cell, h1, h2, h3, h4, h5, h6, h7, h8, h9, hA a (Array.getElem?_eq_some_iff.mp h5).1⟩
theorem vx_isRef {C n d : String} {v : Value} {A : Nat → Prop} {s : State} {args : Array Value} (h : va_Z C n d v A s s.heap) (hv : v.isRef = true) : (Cond.isRef (.static C n d)).before args s = true := by
  obtain ⟨cf, kf, fi, f, a, cell, h1, h2, h3, h4, h5, h6, h7, -⟩ := h
  have he : (Term.static C n d).eval args s none [] s = some v := by
    simp [Term.eval, State.fieldNamed?, h1, h2, h4, h5, h6, h7]
  simp only [Cond.before, Cond.holds, Cond.value, he]
  cases v <;> simp_all [Value.isRef]
theorem vx_isRefq {C n d : String} {A : Nat → Prop} {s : State} {args : Array Value} (h : va_Zq C n d A s s.heap) : (Cond.isRef (.static C n d)).before args s = true := by
  rcases h with h | ⟨t, h⟩
  · exact vx_isRef h rfl
  · exact vx_isRef h rfl
/-- the same frame, seen from here: as if the method were called anew in this heap -/
theorem vx_rebase {T : State} (X : Stand p l e R s m args below meth c T locs cells slots) {R' : Room} (hf : R'.frames ≤ R.frames) (hl : R'.locals ≤ R.locals) (hc : cells + R'.cells ≤ R.cells) (hs : slots + R'.slots ≤ R.slots) :
    Stand p l e R' ((T.setVm s.vm).setFrames (.invoking m args :: below)) m args below meth c T [] 0 0 := by
  have htop : (T.setVm s.vm).topJava?.isSome := X.here.top
  have hF : ((T.setVm s.vm).setFrames (.invoking m args :: below)).frames = .invoking m args :: below := State.frames_setFrames _ (State.cur_lt_of_top htop)
  obtain ⟨g₀, hg0⟩ := Option.isSome_iff_exists.mp htop
  obtain ⟨r, hr⟩ := State.topJava?_eq_some.mp hg0
  have hl9 : e.platform.stackLimits (T.setVm s.vm).me = e.platform.stackLimits s.me := X.limits
  have hb9 : (T.setVm s.vm).me.stackBytes = s.me.stackBytes := X.bytes
  refine ⟨X.admits, X.cas, X.clock, hF, ?_, X.hears, X.method, X.code, X.here, X.tail, X.warmed, ?_, ?_, ?_⟩
  · have h := X.room
    have hU : ((T.setVm s.vm).setFrames (.invoking m args :: below)).localsInUse = s.localsInUse := by
      rw [State.localsInUse_invoking hF (meth := meth) (c := c) X.method X.code, State.localsInUse_invoking X.frames X.method X.code]
    simp only [State.hasRoom, Bool.and_eq_true, decide_eq_true_eq] at h ⊢
    obtain ⟨⟨⟨⟨h1, h2, h3, h4, h5, h6⟩, h7⟩, h8⟩, h9⟩ := h
    rw [X.frames, List.length_cons] at h2 h3
    have q1 := X.heapSize
    have q2 := X.used
    simp only [hF, hU, List.length_cons, State.stackLimits_setFrames, State.stackBytes_setFrames, hl9, hb9]
    refine ⟨⟨⟨⟨by omega, by omega, by omega, by omega, by omega, h6⟩, ?_⟩, ?_⟩, X.book⟩
    · show T.heap.size + R'.cells ≤ e.platform.maxCells
      omega
    · show T.slotsUsed + R'.slots ≤ e.platform.maxSlots
      omega
  · rw [State.stackLimits_setFrames]; rfl
  · rw [State.stackBytes_setFrames]; rfl
  · refine ⟨?_, Nat.le_refl _, Nat.le_refl _, ?_, ?_, fun a c9 h9 => ⟨c9, h9, rfl, rfl, fun _ _ => rfl⟩⟩
    · obtain ⟨t, ht, -⟩ := State.frames_cons hr
      show T.setVm s.vm = { ((T.setVm s.vm).setFrames (.invoking m args :: below)).setFrames (T.setVm s.vm).frames with heap := T.heap, slotsUsed := T.slotsUsed }
      rw [State.setFrames_setFrames, State.setFrames_self ht]
      rfl
    · show T.slotsUsed = T.slotsUsed + ((T.heap.toList.drop T.heap.size).map (·.slots.size)).sum
      rw [List.drop_eq_nil_of_le (Nat.le_of_eq Array.length_toList)]
      rfl
    · show ((T.heap.toList.drop T.heap.size).map (·.slots.size)).sum ≤ 0
      rw [List.drop_eq_nil_of_le (Nat.le_of_eq Array.length_toList)]
      exact Nat.le_refl _
/-- 'throw new E()': new; dup; invokespecial; athrow -/
theorem vx_throw0 {cc : ByteArray} {pc : Nat} (hexec : p.tables.exec = Jvm.exec) (hb : c.code = cc) (hl : l.stackTraces = false) {own cls : String} {names : List String} {ik ic mc ms : Nat} {A : Nat → Prop}
    (hown : s.vm.findClass own = some m.cls) (hcls : Bundle.fit cls = true) (hnames : ∀ n ∈ names, Bundle.fit n = true)
    (hk : (Cond.classLink own ik cls).before args s = true) (hini : (Cond.initialized cls).before args s = true) (hat : ∀ w ∈ vx_at0 own ic cls names, w.before args s = true)
    (hgood : ∀ w ∈ Cond.classLink own ik cls :: Cond.initialized cls :: vx_at0 own ic cls names, vx_ot w = true)
    (hU : vx_Zq Bundle.tN "UNASSIGNED_STACK" Bundle.steD A s s.heap) (hN : vx_Zq Bundle.tN "SUPPRESSED_SENTINEL" Bundle.listD A s s.heap) (hS : va_S A s.heap H locs) (hsize : ls.size = c.maxLocals)
    (d0 : decode cc pc = .ok (.new ik, 3)) (d3 : decode cc (pc + 3) = .ok (.dup, 1)) (d4 : decode cc (pc + 4) = .ok (.invokespecial ic, 3)) (d7 : decode cc (pc + 7) = .ok (.athrow, 1))
    (hout : ∀ x ∈ c.exceptionTable.toList, covers x (pc + 7) = false)
    (hRframes : names.length + 3 < R.frames) (hRlocals : (rest.map fun v => v.category).sum + (13 * (names.length + 1) + 42) ≤ R.locals) (hRcells : cells + 1 ≤ R.cells) (hRslots : slots + 6 ≤ R.slots) (hlocks : meth.locks = false)
    (hx : ∀ t : State, s.vm.Alike t.vm → H.size ≤ t.heap.size → (∀ q : Nat, q < H.size → t.heap[q]? = H[q]?) → XC cls s t)
    (hf : ∀ z ∈ locs, free z.base) (hc : cells + 1 ≤ mc) (hs : slots + 6 ≤ ms) :
    W p l e R s m args below meth c H locs cells slots (vx_MQ below Qc XC args s mc ms free) (F0 m pc ls rest) := by
  intro T hT X
  have htr : e.platform.stackTraces = false := (show e.platform.stackTraces = l.stackTraces by rw [X.admits.platform]).trans hl
  have Y := vx_rebase X (R' := { frames := R.frames, locals := R.locals, cells := 1, slots := 6 }) (Nat.le_refl _) (Nat.le_refl _) hRcells hRslots
  obtain ⟨s', hA⟩ : ∃ z, z = (T.setVm s.vm).setFrames (.invoking m args :: below) := ⟨_, rfl⟩
  rw [← hA] at Y
  have hvm : s'.vm = s.vm := by rw [hA]; rfl
  have hhp : s'.heap = H := by rw [hA]; exact hT
  have hW0 : s.WarmedH s'.vm := by rw [hvm]; exact State.WarmedH.refl s
  have hat' : ∀ w ∈ vx_at0 own ic cls names, w.before args s' = true := fun w hw => vx_ot_at hW0 hvm.symm (hgood w (List.mem_cons_of_mem _ (List.mem_cons_of_mem _ hw))) (hat w hw)
  have hk' : (Cond.classLink own ik cls).before args s' = true := vx_ot_at hW0 hvm.symm (hgood _ List.mem_cons_self) hk
  have hini' : (Cond.initialized cls).before args s' = true := vx_ot_at hW0 hvm.symm (hgood _ (List.mem_cons_of_mem _ List.mem_cons_self)) hini
  have hU' : vx_Zq Bundle.tN "UNASSIGNED_STACK" Bundle.steD A s' s'.heap := by rw [hhp]; exact vx_Zq.moved hW0.alike (hU.kept hS.2.1)
  have hN' : vx_Zq Bundle.tN "SUPPRESSED_SENTINEL" Bundle.listD A s' s'.heap := by rw [hhp]; exact vx_Zq.moved hW0.alike (hN.kept hS.2.1)
  have h : ∀ w ∈ Bundle.ownAtoms0 own ic cls names, w.before args s' = true := vx_own hat' (vx_isRefq hU'.1) (vx_isRefq hN'.1) hU'.2.word hN'.2.word
  have hown' : s'.vm.findClass own = some m.cls := by rw [hvm]; exact hown
  have hins : (Cond.instantiable cls 6).before args s' = true := h _ (by simp [Bundle.ownAtoms0])
  obtain ⟨vm₁, cX, kX, hfX, hkX, -, -, X₁, st1⟩ := Y.newCold hexec (own := own) (C := cls) (index := ik) (n := 6) hown' hk' hins hini'
    (g := F0 m pc ls rest) rfl (by rw [hb]; exact d0) (Nat.le_refl _) (Nat.le_refl _)
  generalize hT1 : (T.setVm vm₁).pushCell { cls := cX, slots := kX.instanceTypes.map defaultValue, vm := .none } = T1 at X₁ st1
  have hcat : (Value.ref T.heap.size).category = 1 := rfl
  have hcellA : T1.heap[T.heap.size]? = some (freshCell cX kX) := by rw [← hT1]; exact State.heap_pushCell_size _ _
  have d3' : decode c.code (pc + 3) = .ok (.dup, 1) := by rw [hb]; exact d3
  obtain ⟨U, hsteps, hrun, hend, hW, hsame, ce, hce, hO⟩ := X₁.ctorThrow0 hexec htr (own := own) (cls := cls) (names := names) (ic := ic) hown' hcls hnames h (fun x hx => nomatch hx) hfX hkX hcellA (by rw [hhp, hT]; exact Nat.le_refl _)
    (g := { method := m, pc := pc + 4, locals := ls, stack := .ref T.heap.size :: .ref T.heap.size :: rest, locked := none }) rfl hsize rfl rfl (rest := rest) rfl
    (by rw [hb]; exact d4) (by rw [hb]; exact d7) hout hRframes (by simp only [List.map_cons, List.sum_cons, hcat]; omega) hlocks
  obtain ⟨f1, f2⟩ := vx_frame hsame
  rw [hhp] at f1 f2
  have hWs : s.WarmedH U.vm := State.WarmedH.trans hW0 hW
  have hcl : s.vm.findClass cls = some ce.cls := by
    have h9 := hO.cls
    rw [hvm] at h9
    exact h9
  have hall : s.sameButNew ({ U with vm := s.vm } : State) locs mc ms := by
    subst hA
    obtain ⟨e1, e2⟩ := hsame
    rw [State.setFrames_setFrames] at e1
    have h2 : (T.setVm s.vm).sameButNew ({ U with vm := s.vm } : State) [] (0 + 1) (0 + 6) := ⟨e1, e2⟩
    have h3 := X.same.trans h2
    rw [List.append_nil] at h3
    exact h3.mono hc hs
  refine ⟨U, ?_, .threw T.heap.size, hrun, hend, Or.inr ⟨T.heap.size, rfl, cls, ce, locs, hx U hWs.alike f1 (fun q hq => f2 q hq (fun z hz => nomatch hz)), hce, hO.vm, hcl, hWs, hall, hf⟩⟩
  refine st1 _ ?_
  show Steps p.tables e below (T1.setTop { method := m, pc := pc + 3, locals := ls, stack := .ref T.heap.size :: rest, locked := none }) _
  jvm_step X₁.here [X₁.here.top, hexec, d3', Value.category]
  exact hsteps
/-- 'throw new E("text")': new; dup; ldc; invokespecial; athrow -/
theorem vx_throwS {cc : ByteArray} {pc : Nat} (hexec : p.tables.exec = Jvm.exec) (hb : c.code = cc) (hl : l.stackTraces = false) {own cls text : String} {names : List String} {ik is ic mc ms sa : Nat} {A : Nat → Prop}
    (hown : s.vm.findClass own = some m.cls) (hcls : Bundle.fit cls = true) (hnames : ∀ n ∈ names, Bundle.fit n = true)
    (hk : (Cond.classLink own ik cls).before args s = true) (hini : (Cond.initialized cls).before args s = true) (hstr : vk_R own is text sa s) (hat : ∀ w ∈ vx_atS own ic cls names, w.before args s = true)
    (hgood : ∀ w ∈ Cond.classLink own ik cls :: Cond.initialized cls :: vx_atS own ic cls names, vx_ot w = true)
    (hU : vx_Zq Bundle.tN "UNASSIGNED_STACK" Bundle.steD A s s.heap) (hN : vx_Zq Bundle.tN "SUPPRESSED_SENTINEL" Bundle.listD A s s.heap) (hS : va_S A s.heap H locs) (hsize : ls.size = c.maxLocals)
    (d0 : decode cc pc = .ok (.new ik, 3)) (d3 : decode cc (pc + 3) = .ok (.dup, 1)) (d4 : decode cc (pc + 4) = .ok (.ldc is, 2)) (d6 : decode cc (pc + 6) = .ok (.invokespecial ic, 3)) (d9 : decode cc (pc + 9) = .ok (.athrow, 1))
    (hout : ∀ x ∈ c.exceptionTable.toList, covers x (pc + 9) = false)
    (hRframes : names.length + 3 < R.frames) (hRlocals : (rest.map fun v => v.category).sum + (13 * (names.length + 1) + 43) ≤ R.locals) (hRcells : cells + 1 ≤ R.cells) (hRslots : slots + 6 ≤ R.slots) (hlocks : meth.locks = false)
    (hx : ∀ t : State, s.vm.Alike t.vm → H.size ≤ t.heap.size → (∀ q : Nat, q < H.size → t.heap[q]? = H[q]?) → XC cls s t)
    (hf : ∀ z ∈ locs, free z.base) (hc : cells + 1 ≤ mc) (hs : slots + 6 ≤ ms) :
    W p l e R s m args below meth c H locs cells slots (vx_MQ below Qc XC args s mc ms free) (F0 m pc ls rest) := by
  intro T hT X
  have htr : e.platform.stackTraces = false := (show e.platform.stackTraces = l.stackTraces by rw [X.admits.platform]).trans hl
  have Y := vx_rebase X (R' := { frames := R.frames, locals := R.locals, cells := 1, slots := 6 }) (Nat.le_refl _) (Nat.le_refl _) hRcells hRslots
  obtain ⟨s', hA⟩ : ∃ z, z = (T.setVm s.vm).setFrames (.invoking m args :: below) := ⟨_, rfl⟩
  rw [← hA] at Y
  have hvm : s'.vm = s.vm := by rw [hA]; rfl
  have hhp : s'.heap = H := by rw [hA]; exact hT
  have hW0 : s.WarmedH s'.vm := by rw [hvm]; exact State.WarmedH.refl s
  have hat' : ∀ w ∈ vx_atS own ic cls names, w.before args s' = true := fun w hw => vx_ot_at hW0 hvm.symm (hgood w (List.mem_cons_of_mem _ (List.mem_cons_of_mem _ hw))) (hat w hw)
  have hk' : (Cond.classLink own ik cls).before args s' = true := vx_ot_at hW0 hvm.symm (hgood _ List.mem_cons_self) hk
  have hini' : (Cond.initialized cls).before args s' = true := vx_ot_at hW0 hvm.symm (hgood _ (List.mem_cons_of_mem _ List.mem_cons_self)) hini
  have hU' : vx_Zq Bundle.tN "UNASSIGNED_STACK" Bundle.steD A s' s'.heap := by rw [hhp]; exact vx_Zq.moved hW0.alike (hU.kept hS.2.1)
  have hN' : vx_Zq Bundle.tN "SUPPRESSED_SENTINEL" Bundle.listD A s' s'.heap := by rw [hhp]; exact vx_Zq.moved hW0.alike (hN.kept hS.2.1)
  have h : ∀ w ∈ Bundle.ownAtoms own ic cls names, w.before args s' = true := vx_own hat' (vx_isRefq hU'.1) (vx_isRefq hN'.1) hU'.2.word hN'.2.word
  have hown' : s'.vm.findClass own = some m.cls := by rw [hvm]; exact hown
  have hins : (Cond.instantiable cls 6).before args s' = true := h _ (by simp [Bundle.ownAtoms])
  obtain ⟨vm₁, cX, kX, hfX, hkX, -, -, X₁, st1⟩ := Y.newCold hexec (own := own) (C := cls) (index := ik) (n := 6) hown' hk' hins hini'
    (g := F0 m pc ls rest) rfl (by rw [hb]; exact d0) (Nat.le_refl _) (Nat.le_refl _)
  generalize hT1 : (T.setVm vm₁).pushCell { cls := cX, slots := kX.instanceTypes.map defaultValue, vm := .none } = T1 at X₁ st1
  have hcat : (Value.ref T.heap.size).category = 1 := rfl
  have hcellA : T1.heap[T.heap.size]? = some (freshCell cX kX) := by rw [← hT1]; exact State.heap_pushCell_size _ _
  have d3' : decode c.code (pc + 3) = .ok (.dup, 1) := by rw [hb]; exact d3
  have d4' : decode c.code (pc + 4) = .ok (.ldc is, 2) := by rw [hb]; exact d4
  have hstr' : vk_R own is text sa s' := vk_R.warm hW0 hstr
  obtain ⟨U, hsteps, hrun, hend, hW, hsame, ce, hce, hO⟩ := X₁.ctorThrowS hexec htr (own := own) (cls := cls) (names := names) (ic := ic) hown' hcls hnames h (fun x hx => nomatch hx) hfX hkX hcellA (by rw [hhp, hT]; exact Nat.le_refl _) (msg := .ref sa) rfl
    (g := { method := m, pc := pc + 6, locals := ls, stack := .ref sa :: .ref T.heap.size :: .ref T.heap.size :: rest, locked := none }) rfl hsize rfl rfl (rest := rest) rfl
    (by rw [hb]; exact d6) (by rw [hb]; exact d9) hout hRframes (by simp only [List.map_cons, List.sum_cons, hcat]; omega) hlocks
  obtain ⟨f1, f2⟩ := vx_frame hsame
  rw [hhp] at f1 f2
  have hWs : s.WarmedH U.vm := State.WarmedH.trans hW0 hW
  have hcl : s.vm.findClass cls = some ce.cls := by
    have h9 := hO.cls
    rw [hvm] at h9
    exact h9
  have hall : s.sameButNew ({ U with vm := s.vm } : State) locs mc ms := by
    subst hA
    obtain ⟨e1, e2⟩ := hsame
    rw [State.setFrames_setFrames] at e1
    have h2 : (T.setVm s.vm).sameButNew ({ U with vm := s.vm } : State) [] (0 + 1) (0 + 6) := ⟨e1, e2⟩
    have h3 := X.same.trans h2
    rw [List.append_nil] at h3
    exact h3.mono hc hs
  refine ⟨U, ?_, .threw T.heap.size, hrun, hend, Or.inr ⟨T.heap.size, rfl, cls, ce, locs, hx U hWs.alike f1 (fun q hq => f2 q hq (fun z hz => nomatch hz)), hce, hO.vm, hcl, hWs, hall, hf⟩⟩
  refine st1 _ ?_
  show Steps p.tables e below (T1.setTop { method := m, pc := pc + 3, locals := ls, stack := .ref T.heap.size :: rest, locked := none }) _
  jvm_step X₁.here [X₁.here.top, hexec, d3', Value.category]
  exact X₁.ldcString hexec (own := own) (text := text) (index := is) (a := sa) hown' hstr'.1 hstr'.2
    (g := { method := m, pc := pc + 4, locals := ls, stack := .ref T.heap.size :: .ref T.heap.size :: rest, locked := none }) rfl d4' _ hsteps
/-- 'throw new E("text")', the text by a wide index -/
theorem vx_throwSW {cc : ByteArray} {pc : Nat} (hexec : p.tables.exec = Jvm.exec) (hb : c.code = cc) (hl : l.stackTraces = false) {own cls text : String} {names : List String} {ik is ic mc ms sa : Nat} {A : Nat → Prop}
    (hown : s.vm.findClass own = some m.cls) (hcls : Bundle.fit cls = true) (hnames : ∀ n ∈ names, Bundle.fit n = true)
    (hk : (Cond.classLink own ik cls).before args s = true) (hini : (Cond.initialized cls).before args s = true) (hstr : vk_R own is text sa s) (hat : ∀ w ∈ vx_atS own ic cls names, w.before args s = true)
    (hgood : ∀ w ∈ Cond.classLink own ik cls :: Cond.initialized cls :: vx_atS own ic cls names, vx_ot w = true)
    (hU : vx_Zq Bundle.tN "UNASSIGNED_STACK" Bundle.steD A s s.heap) (hN : vx_Zq Bundle.tN "SUPPRESSED_SENTINEL" Bundle.listD A s s.heap) (hS : va_S A s.heap H locs) (hsize : ls.size = c.maxLocals)
    (d0 : decode cc pc = .ok (.new ik, 3)) (d3 : decode cc (pc + 3) = .ok (.dup, 1)) (d4 : decode cc (pc + 4) = .ok (.ldc_w is, 3)) (d7 : decode cc (pc + 7) = .ok (.invokespecial ic, 3)) (d10 : decode cc (pc + 10) = .ok (.athrow, 1))
    (hout : ∀ x ∈ c.exceptionTable.toList, covers x (pc + 10) = false)
    (hRframes : names.length + 3 < R.frames) (hRlocals : (rest.map fun v => v.category).sum + (13 * (names.length + 1) + 43) ≤ R.locals) (hRcells : cells + 1 ≤ R.cells) (hRslots : slots + 6 ≤ R.slots) (hlocks : meth.locks = false)
    (hx : ∀ t : State, s.vm.Alike t.vm → H.size ≤ t.heap.size → (∀ q : Nat, q < H.size → t.heap[q]? = H[q]?) → XC cls s t)
    (hf : ∀ z ∈ locs, free z.base) (hc : cells + 1 ≤ mc) (hs : slots + 6 ≤ ms) :
    W p l e R s m args below meth c H locs cells slots (vx_MQ below Qc XC args s mc ms free) (F0 m pc ls rest) := by
  intro T hT X
  have htr : e.platform.stackTraces = false := (show e.platform.stackTraces = l.stackTraces by rw [X.admits.platform]).trans hl
  have Y := vx_rebase X (R' := { frames := R.frames, locals := R.locals, cells := 1, slots := 6 }) (Nat.le_refl _) (Nat.le_refl _) hRcells hRslots
  obtain ⟨s', hA⟩ : ∃ z, z = (T.setVm s.vm).setFrames (.invoking m args :: below) := ⟨_, rfl⟩
  rw [← hA] at Y
  have hvm : s'.vm = s.vm := by rw [hA]; rfl
  have hhp : s'.heap = H := by rw [hA]; exact hT
  have hW0 : s.WarmedH s'.vm := by rw [hvm]; exact State.WarmedH.refl s
  have hat' : ∀ w ∈ vx_atS own ic cls names, w.before args s' = true := fun w hw => vx_ot_at hW0 hvm.symm (hgood w (List.mem_cons_of_mem _ (List.mem_cons_of_mem _ hw))) (hat w hw)
  have hk' : (Cond.classLink own ik cls).before args s' = true := vx_ot_at hW0 hvm.symm (hgood _ List.mem_cons_self) hk
  have hini' : (Cond.initialized cls).before args s' = true := vx_ot_at hW0 hvm.symm (hgood _ (List.mem_cons_of_mem _ List.mem_cons_self)) hini
  have hU' : vx_Zq Bundle.tN "UNASSIGNED_STACK" Bundle.steD A s' s'.heap := by rw [hhp]; exact vx_Zq.moved hW0.alike (hU.kept hS.2.1)
  have hN' : vx_Zq Bundle.tN "SUPPRESSED_SENTINEL" Bundle.listD A s' s'.heap := by rw [hhp]; exact vx_Zq.moved hW0.alike (hN.kept hS.2.1)
  have h : ∀ w ∈ Bundle.ownAtoms own ic cls names, w.before args s' = true := vx_own hat' (vx_isRefq hU'.1) (vx_isRefq hN'.1) hU'.2.word hN'.2.word
  have hown' : s'.vm.findClass own = some m.cls := by rw [hvm]; exact hown
  have hins : (Cond.instantiable cls 6).before args s' = true := h _ (by simp [Bundle.ownAtoms])
  obtain ⟨vm₁, cX, kX, hfX, hkX, -, -, X₁, st1⟩ := Y.newCold hexec (own := own) (C := cls) (index := ik) (n := 6) hown' hk' hins hini'
    (g := F0 m pc ls rest) rfl (by rw [hb]; exact d0) (Nat.le_refl _) (Nat.le_refl _)
  generalize hT1 : (T.setVm vm₁).pushCell { cls := cX, slots := kX.instanceTypes.map defaultValue, vm := .none } = T1 at X₁ st1
  have hcat : (Value.ref T.heap.size).category = 1 := rfl
  have hcellA : T1.heap[T.heap.size]? = some (freshCell cX kX) := by rw [← hT1]; exact State.heap_pushCell_size _ _
  have d3' : decode c.code (pc + 3) = .ok (.dup, 1) := by rw [hb]; exact d3
  have d4' : decode c.code (pc + 4) = .ok (.ldc_w is, 3) := by rw [hb]; exact d4
  have hstr' : vk_R own is text sa s' := vk_R.warm hW0 hstr
  obtain ⟨U, hsteps, hrun, hend, hW, hsame, ce, hce, hO⟩ := X₁.ctorThrowS hexec htr (own := own) (cls := cls) (names := names) (ic := ic) hown' hcls hnames h (fun x hx => nomatch hx) hfX hkX hcellA (by rw [hhp, hT]; exact Nat.le_refl _) (msg := .ref sa) rfl
    (g := { method := m, pc := pc + 7, locals := ls, stack := .ref sa :: .ref T.heap.size :: .ref T.heap.size :: rest, locked := none }) rfl hsize rfl rfl (rest := rest) rfl
    (by rw [hb]; exact d7) (by rw [hb]; exact d10) hout hRframes (by simp only [List.map_cons, List.sum_cons, hcat]; omega) hlocks
  obtain ⟨f1, f2⟩ := vx_frame hsame
  rw [hhp] at f1 f2
  have hWs : s.WarmedH U.vm := State.WarmedH.trans hW0 hW
  have hcl : s.vm.findClass cls = some ce.cls := by
    have h9 := hO.cls
    rw [hvm] at h9
    exact h9
  have hall : s.sameButNew ({ U with vm := s.vm } : State) locs mc ms := by
    subst hA
    obtain ⟨e1, e2⟩ := hsame
    rw [State.setFrames_setFrames] at e1
    have h2 : (T.setVm s.vm).sameButNew ({ U with vm := s.vm } : State) [] (0 + 1) (0 + 6) := ⟨e1, e2⟩
    have h3 := X.same.trans h2
    rw [List.append_nil] at h3
    exact h3.mono hc hs
  refine ⟨U, ?_, .threw T.heap.size, hrun, hend, Or.inr ⟨T.heap.size, rfl, cls, ce, locs, hx U hWs.alike f1 (fun q hq => f2 q hq (fun z hz => nomatch hz)), hce, hO.vm, hcl, hWs, hall, hf⟩⟩
  refine st1 _ ?_
  show Steps p.tables e below (T1.setTop { method := m, pc := pc + 3, locals := ls, stack := .ref T.heap.size :: rest, locked := none }) _
  jvm_step X₁.here [X₁.here.top, hexec, d3', Value.category]
  exact X₁.ldcStringW hexec (own := own) (text := text) (index := is) (a := sa) hown' hstr'.1 hstr'.2
    (g := { method := m, pc := pc + 4, locals := ls, stack := .ref T.heap.size :: .ref T.heap.size :: rest, locked := none }) rfl d4' _ hsteps
end Ends
section Bodies
variable {l : Launch}
theorem vx_ofW {y : MethodName} {ws ws' : List Cond} {rm : Room} {Pc : Array Value → State → Prop} {Qc : Array Value → State → Outcome → State → Prop} {XC : String → State → State → Prop} {mc ms : Nat} {free : Addr → Prop} {cc : ByteArray} {maxL : Nat} {ret : Option FieldType}
    (hy : plainName y.cls = true) (hw : ws = Cond.code y cc maxL ret :: ws')
    (body : ∀ p e s m args below meth c s₁, BodyLoose p l y (headSpec ws rm) cc maxL ret e s m args below meth c s₁ → c.maxLocals = maxL → (∀ x ∈ c.exceptionTable.toList, False) → Pc args s →
      W p l e (headSpec ws rm).room s m args below meth c s.heap [] 0 0 (vx_MQ below Qc XC args s mc ms free) (entryFrame m args maxL)) : vx_Met l y ws rm Pc Qc XC mc ms free := by
  refine MetFree.of_bodyS (code := cc) (maxLocals := maxL) (ret := ret) hy ?_ ?_
  · intro args s m h hn
    obtain ⟨meth, c, h1, h2, h3, h4, h5, h6, -, -⟩ := Cond.code_spec hn (atoms_spec (ws := ws) h _ (by rw [hw]; exact List.mem_cons_self))
    exact ⟨meth, c, h1, h2, h3, h4, h5, h6⟩
  · intro p e s m args below meth c s₁ B hml hP _
    have hh0 : s₁.heap = s.heap := by rw [B.state]; rfl
    have ht : ∀ x ∈ c.exceptionTable.toList, False := by
      obtain ⟨meth9, c9, h1, h2, -, -, -, -, h7, -⟩ := Cond.code_spec B.named (atoms_spec (ws := ws) B.pre _ (by rw [hw]; exact List.mem_cons_self))
      cases Option.some.inj (h1.symm.trans B.method)
      cases Option.some.inj (h2.symm.trans (Stand.of_body B).code)
      intro x hx
      rw [Array.isEmpty_iff.mp h7] at hx
      cases hx
    obtain ⟨t, a1, o, b1, b2, b3⟩ := body p e s m args below meth c s₁ B hml ht hP s₁ hh0 (Stand.of_body B)
    exact ⟨t, o, a1, b1, b2, b3⟩
/-- the table of a body with handlers -/
theorem vx_table {p : Program} {x y : MethodName} {S : Spec} {cc bytes : ByteArray} {maxL maxL' : Nat} {ret ret' : Option FieldType} {e : Env} {s s₁ : State} {m : MethodId} {args : Array Value} {below : List Frame} {meth : Method} {c : Code} {hh : List (Nat × Nat × Nat × Nat)}
    (B : BodyLoose p l y S cc maxL ret e s m args below meth c s₁) (h : (Cond.codeWith y bytes maxL' ret' hh).before args s = true) : c.exceptionTable.toList = tableOf hh := by
  obtain ⟨m9, meth9, c9, hn9, h1, h2, -, -, h6, -⟩ := Cond.codeWith_spec h
  cases Option.some.inj (hn9.symm.trans B.named)
  cases Option.some.inj (h1.symm.trans B.method)
  cases Option.some.inj (h2.symm.trans (Stand.of_body B).code)
  rw [← h6, table_eq]
end Bodies
end VXA
/-! ===== END ===== -/
/-! ===== BEGIN a static call of a method with an exception table ===== -/
section VXS
variable {p : Program} {l : Launch} {e : Env} {R : Room} {s : State} {m : MethodId} {args : Array Value} {below : List Frame} {meth : Method} {c : Code} {T : State} {H : Heap} {locs : List Loc} {cells slots : Nat}
abbrev vx_CSW (R : Room) (s : State) (args : Array Value) (own : String) (index : Nat) (y : MethodName) (bytes : ByteArray) (maxL : Nat) (ret : Option FieldType) (hh : List (Nat × Nat × Nat × Nat)) (ws : List Cond) (rm : Room) (mc ms n : Nat) : Prop :=
  (rm.cells = mc ∧ rm.slots = ms ∧ rm.frames + 1 ≤ R.frames ∧ 8 + (maxL + 11) + rm.locals ≤ R.locals ∧ (∀ w ∈ ws, ∀ (a' : Array Value) (U : State), s.WarmedH U.vm → w.before a' U = true) ∧ Cond.codeWith y bytes maxL ret hh ∈ ws) ∧
  (Cond.codeWith y bytes maxL ret hh).before args s = true ∧ (Cond.initialized y.cls).before args s = true ∧ (y.cls ≠ "java/lang/invoke/MethodHandle" ∧ y.cls ≠ "java/lang/invoke/VarHandle") ∧
  (∀ sig, parseMethodDescriptor y.desc = some sig → n = sig.parameters.length) ∧ (Cond.methodLink own index y).before args s = true ∧ (Cond.static y).before args s = true
theorem vx_cwSW {own : String} {index maxL mc ms : Nat} {y : MethodName} {bytes : ByteArray} {ret : Option FieldType} {hh : List (Nat × Nat × Nat × Nat)} {Ts ws ws' : List Cond} {rm : Room} (n : Nat) (ht : ∀ w ∈ Ts, w.before args s = true) (hT : GoodIn Ts (va_wsS own index y ws)) (hw : ws = Cond.codeWith y bytes maxL ret hh :: ws') (hrc : rm.cells = mc) (hrs : rm.slots = ms)
    (hd : y.cls ≠ "java/lang/invoke/MethodHandle" ∧ y.cls ≠ "java/lang/invoke/VarHandle" ∧ (parseMethodDescriptor y.desc).map (fun d => d.parameters.length) = some n) (hR : rm.frames + 1 ≤ R.frames ∧ 8 + (maxL + 11) + rm.locals ≤ R.locals) :
    vx_CSW R s args own index y bytes maxL ret hh ws rm mc ms n := by
  have ok : ∀ w ∈ va_wsS own index y ws, w.before args s = true := fun w h => ht w (hT w h).1
  have hG : GoodIn Ts ws := fun w h => hT w (by unfold va_wsS; exact List.mem_append_right _ h)
  have hc : Cond.codeWith y bytes maxL ret hh ∈ ws := by rw [hw]; exact List.mem_cons_self
  refine ⟨⟨hrc, hrs, hR.1, hR.2, pay_in ht hG, hc⟩, ht _ (hG _ hc).1, ok _ (by simp [va_wsS]), ⟨hd.1, hd.2.1⟩, fun sig h => ?_, ok _ (by simp [va_wsS]), ok _ (by simp [va_wsS])⟩
  have h2 := hd.2.2
  rw [h] at h2
  exact (Option.some.inj h2).symm
theorem vx_callSW (X : Stand p l e R s m args below meth c T locs cells slots) (hexec : p.tables.exec = Jvm.exec) {own : String} {index : Nat} {y : MethodName} {bytes : ByteArray} {maxL : Nat} {ret : Option FieldType} {hh : List (Nat × Nat × Nat × Nat)}
    (hown : s.vm.findClass own = some m.cls) (hlink : (Cond.methodLink own index y).before args s = true) (hstat : (Cond.static y).before args s = true) (hinit : (Cond.initialized y.cls).before args s = true)
    (hcode : (Cond.codeWith y bytes maxL ret hh).before args s = true) (hy : y.cls ≠ "java/lang/invoke/MethodHandle" ∧ y.cls ≠ "java/lang/invoke/VarHandle")
    {W9 : Nat} {Pre : Pt → Array Value → Prop} {Post : Pt → Array Value → Option Value → Pt → Prop} (hK : Back l R p e below s args y 3 W9 Pre Post)
    {g : JFrame} (hg : g.method = m) (hsize : g.locals.size = c.maxLocals) {argsL rest : List Value} (hlen : ∀ sig, parseMethodDescriptor y.desc = some sig → argsL.length = sig.parameters.length)
    (hstack : g.stack = argsL.reverse ++ rest) (hW : 2 * g.monitorRoom + (rest.map fun v => v.category).sum ≤ W9) (hdg : decode c.code g.pc = .ok (.invokestatic index, 3))
    (hpre : ∀ vm₁, s.WarmedH vm₁ → Pre ⟨T.setVm vm₁, locs, cells, slots⟩ argsL.toArray) :
    ∃ (v : Option Value) (vm₁ : Vm) (B : Pt), s.WarmedH vm₁ ∧ Stand p l e R s m args below meth c B.U B.locs B.cells B.slots ∧ Post ⟨T.setVm vm₁, locs, cells, slots⟩ argsL.toArray v B ∧
      ∀ target, Steps p.tables e below (B.U.setTop { g with pc := g.pc + 3, stack := v.toList ++ rest }) target → Steps p.tables e below (T.setTop g) target := by
  obtain ⟨mk, methM, cM, hnamed, hmethM, -, -, -, -, -, -, hsigM⟩ := Cond.codeWith_spec hcode
  have hstatic : methM.isStatic = true := Cond.static_spec hnamed hmethM hstat
  obtain ⟨kP, hkP, -⟩ := className_of_methodNamed hnamed
  have hinitP : kP.init = .initialized := Cond.initialized_spec (findClass_of_methodNamed hnamed) hkP hinit
  obtain ⟨vm₁, X₁, hstep₁⟩ := X.invokestatic hexec hown hlink hnamed hmethM hstatic hkP hinitP hy (g := g) hg (argsL := argsL) (rest := rest) (hlen _ hsigM) hstack hdg
  obtain ⟨v, B, X', hpost, hsteps⟩ := hK m meth c ⟨T.setVm vm₁, locs, cells, slots⟩ { g with stack := rest } (.invokestatic index) mk argsL.toArray X₁ hg hsize hdg hW (X₁.named hnamed) (hpre vm₁ X₁.warmed)
  exact ⟨v, vm₁, B, X₁.warmed, X', hpost, fun target h => hstep₁ _ fun acts => by rw [doInvoke_state]; exact hsteps.trans h⟩
theorem vx_runSW {y : MethodName} {bytes cc : ByteArray} {maxL nL mc ms n index : Nat} {ret : Option FieldType} {hh : List (Nat × Nat × Nat × Nat)} {ws : List Cond} {rm : Room} {Pc : Array Value → State → Prop} {Qc : Array Value → State → Outcome → State → Prop} {free : Addr → Prop} {Ts : List Cond} {own : String} {As rest : List Value} {g : JFrame}
    (S : CallFix p m c cc nL s args Ts own) (hM : Met l y ws rm Pc Qc mc ms free) (cw : vx_CSW R s args own index y bytes maxL ret hh ws rm mc ms n) (hp : PreS s H Pc As)
    (hg : g.method = m) (hn : As.length = n) (hsize : g.locals.size = nL) (hstack : g.stack = As.reverse ++ rest) (hW : 2 * g.monitorRoom + (rest.map fun v => v.category).sum ≤ 8) (hdg : decode cc g.pc = .ok (.invokestatic index, 3)) (hf : cells + mc ≤ R.cells ∧ slots + ms ≤ R.slots) :
    va_Run p l e R s m args below meth c H locs cells slots mc ms g rest (Qc As.toArray) (free) := by
  obtain ⟨⟨hrc, hrs, hfr, hlo, hws, hcw⟩, hcode, hini, hy, hlen, hl, hstt⟩ := cw
  have hK : Back l R p e below s args y 3 8 (PreOf R mc ms Pc) (PostOf Qc mc ms free) := va_backW (hh := hh) (bytes := bytes) (maxL := maxL) (ret := ret) hM hp.1 hrc hrs hfr hlo hws hcw (fun a' U hW => word_at hW (Or.inl (by first | rfl | simp [Cond.onTables, Cond.keeps, Cond.steady])) hini)
  obtain ⟨hx, hb, hml, ho, -⟩ := S
  intro T hT X
  obtain ⟨v, vm₁, ⟨U', l2, c2, s2⟩, hW₁, X', ⟨g', mk, t, L, e1, e2, hq, h1, hL, h2, h3⟩, st⟩ := vx_callSW X hx (hh := hh) (bytes := bytes) (maxL := maxL) (ret := ret) ho hl hstt hini hcode hy hK hg (hsize.trans hml.symm) (argsL := As) (rest := rest) (fun sig h => hn.trans (hlen sig h)) hstack hW (by rw [hb]; exact hdg)
    (fun vm₁ hW₁ => ⟨hf.1, hf.2, hp.2 (T.setVm vm₁) hT hW₁⟩)
  dsimp only [Pt.U, Pt.locs, Pt.cells, Pt.slots] at X' e1 e2 h1 h2 h3 st
  subst h1; subst h2; subst h3
  exact ⟨v, (T.setVm vm₁).calling g' mk As.toArray, t, U', L, hT, X', hL, e1, e2, hq, st⟩
/-- not caught here, past rows that name other classes: it goes on to the caller -/
theorem vx_outP {p : Program} {l : Launch} {e : Env} {R : Room} {s : State} {m : MethodId} {args : Array Value} {below : List Frame} {meth : Method} {c : Code} {H : Heap} {locs : List Loc} {cells slots : Nat} {free : Addr → Prop} {ls : Array Slot} {rest : List Value} {Qc : Array Value → State → Outcome → State → Prop} {XC : String → State → State → Prop}
    {pc : Nat} {own E : String} {ce : Cell} {q : Addr} {mc ms : Nat} (hown : s.vm.findClass own = some m.cls) (hlocks : meth.locks = false)
    (hpass : ∀ z ∈ c.exceptionTable.toList, covers z pc = false ∨ (z.catchType ≠ 0 ∧ ∃ nm : String, (Cond.classLink own z.catchType nm).before args s = true ∧ va_Nc E nm s)) (hcell : H[q]? = some ce) (hv : ce.vm = .none) (hcl : s.vm.findClass E = some ce.cls)
    (hx : ∀ t : State, t.heap = H → s.vm.Alike t.vm → XC E s t) (hf : ∀ z ∈ locs, free z.base) (hc : cells ≤ mc) (hs : slots ≤ ms) :
    vx_W p l e R s m args below meth c H locs cells slots (vx_MQ below Qc XC args s mc ms free) (F0 m pc ls rest) q := by
  intro T hT X
  have hpl : e.platform.magicAccessors = ({} : Platform).magicAccessors := by rw [X.admits.platform]
  obtain ⟨vm', hW', X', st⟩ := X.outThrough hlocks q (g := F0 m pc ls rest) rfl rfl rfl (cell := ce) (by rw [hT]; exact hcell) (by rw [hv]; rfl)
    (by obtain ⟨k9, h9, -⟩ := Vm.findClass_spec hcl; exact ⟨k9, h9⟩) (fun z hz => by
      rcases hpass z hz with h | ⟨hz0, nm, hl1, hn1⟩
      · exact Or.inl h
      · obtain ⟨c6, hc6, hcl6⟩ := Cond.classLink_spec hown hl1 e.platform hpl
        obtain ⟨a8, b8, h1, h2, h3⟩ := hn1
        cases Option.some.inj (h1.symm.trans hcl)
        cases Option.some.inj (h2.symm.trans hc6)
        exact Or.inr ⟨hz0, _, hcl6, h3⟩)
  obtain ⟨g₀, hfr⟩ := X'.frames_eq
  have hcell9 : ((T.setVm vm').setFrames (.throwing q :: below)).heap[q]? = some ce := by
    show T.heap[q]? = some ce
    rw [hT]; exact hcell
  have hend : Ended ((T.setVm vm').setFrames (.throwing q :: below)) below (.threw q) := State.frames_setFrames _ (State.cur_lt_of_frames hfr)
  refine ⟨(T.setVm vm').setFrames (.throwing q :: below), ?_, .threw q, X'.here.running, hend, Or.inr ⟨q, rfl, E, ce, locs, hx _ hT (X'.ends _).1.alike, hcell9, hv, hcl, (X'.ends _).1, (X'.ends _).2.mono hc hs, hf⟩⟩
  rw [X.pushThrowing_eq]
  exact st
/-- a thing of a world lies in the heap -/
theorem vx_lt {D : va_G} {cl : List vw_C} {ws : va_W} {H1 : Heap} (h : va_P D cl ws H1) {k : Nat} {q : Nat × va_E} (hk : ws[k]? = some q) : q.1 < H1.size := (h k q hk).lt
end VXS
/-! ===== END ===== -/
/-! ===== BEGIN methods with a table of their own: called by a name, returning or throwing ===== -/
section VXH
/-! vx_backW, vx_callVX, vx_callSX, vx_callVW, vx_runVW, vx_runVX, vx_runSX, vx_ofWH follow the same proofs as their sisters above (Free/Laws.lean, Shelf42/LK1.lean); vx_outP calls Shelf42/NT130.lean (outThrough). -/
section
variable {l : Launch} {R : Room} {p : Program} {e : Env} {below : List Frame} {s : State} {sargs : Array Value} {y : MethodName} {len W9 : Nat}
theorem vx_backW {ws : List Cond} {rm : Room} {Pc : Array Value → State → Prop} {Qc : Array Value → State → Outcome → State → Prop} {XC : String → State → State → Prop} {mc ms : Nat} {free : Addr → Prop} {bytes : ByteArray} {maxL : Nat} {ret : Option FieldType} {hh : List (Nat × Nat × Nat × Nat)}
    (hM : vx_Met l y ws rm Pc Qc XC mc ms free) (hblind : FrameBlind Pc) (hrc : rm.cells = mc) (hrs : rm.slots = ms)
    (hframes : rm.frames + 1 ≤ R.frames) (hlocals : W9 + (maxL + 11) + rm.locals ≤ R.locals)
    (hws : ∀ w ∈ ws, ∀ a' U, s.WarmedH U.vm → w.before a' U = true) (hcode : Cond.codeWith y bytes maxL ret hh ∈ ws) (hinit : ∀ a' U, s.WarmedH U.vm → (Cond.initialized y.cls).before a' U = true) :
    vx_Back l R p e below s sargs y len W9 (PreOf R mc ms Pc) (PostOf Qc mc ms free) (vx_Post XC mc ms free) := by
  intro m meth c A g ig mk a X hg hsize hdg hW hn hp
  have h1 : (headSpec ws rm).pre.before a A.U = true := atoms_intro fun w hw => hws w hw _ _ X.warmed
  have h2 : (Cond.codeWith y bytes maxL ret hh).before a A.U = true := hws _ hcode _ _ X.warmed
  have h3 : (Cond.initialized y.cls).before a A.U = true := hinit _ _ X.warmed
  have h4 : A.cells + (headSpec ws rm).room.cells ≤ R.cells := by rw [show (headSpec ws rm).room.cells = mc from hrc]; exact hp.1
  have h5 : A.slots + (headSpec ws rm).room.slots ≤ R.slots := by rw [show (headSpec ws rm).room.slots = ms from hrs]; exact hp.2.1
  have hPc : Pc a (A.U.calling g mk a) := hblind _ _ _ _ hp.2.2
  obtain ⟨U, Ls, c0, s0⟩ := A
  dsimp only [Pt.U, Pt.locs, Pt.cells, Pt.slots] at h1 h2 h3 h4 h5 X hn hPc ⊢
  obtain ⟨m9, methY, cY, hn9, hmY, hcY, -, hlY, -⟩ := Cond.codeWith_spec h2
  cases Option.some.inj (hn9.symm.trans hn)
  obtain ⟨kY, hkY, -⟩ := className_of_methodNamed hn
  have hinitY : kY.init = .initialized := Cond.initialized_spec (findClass_of_methodNamed hn) hkY h3
  have h : At U g.method c below := by rw [hg]; exact X.here
  have hlocals9 : W9 + (maxL + 11) + (headSpec ws rm).room.locals ≤ R.locals := hlocals
  have happ : (headSpec ws rm).appliesLoose y e.platform (U.calling g mk a) = true :=
    Spec.appliesLoose_calling (g := g) h hdg hn hkY hinitY
      (X.room_calling (g := g) (R' := (headSpec ws rm).room) hsize hmY hcY hframes (by rw [hlY]; omega) h4 h5) h1
  obtain ⟨mid, hmid⟩ := h.above
  have hfr : (U.setTop g).frames = (.java g :: mid) ++ below := by rw [State.frames_setTop' g h.top, hmid]; rfl
  obtain ⟨o, s₂, hsteps, -, hend, hq⟩ := Steps.callFree hM p X.admits X.cas X.clock (acts := []) hfr happ hPc trivial
  have hq' : vx_Q Qc XC mc ms free a (U.calling g mk a) o s₂ := hq
  rw [State.frames_setTop' g h.top] at hend
  obtain ⟨g₀, hg0⟩ := Option.isSome_iff_exists.mp h.top
  obtain ⟨r, hr⟩ := State.topJava?_eq_some.mp hg0
  have hr' : (({ U with heap := s₂.heap, slotsUsed := s₂.slotsUsed } : State).setVm s₂.vm).frames = .java g₀ :: r := hr
  rcases hq' with ⟨hqc, L, hfe, hL⟩ | ⟨q, rfl, E, ce, L, hx, hce, hcv, hcl, hW₂, hsm, hL⟩
  · obtain ⟨⟨v, rfl⟩, hW₂, e2, q2, q3, q4, q5, q6⟩ := id hfe
    have e3 : s₂ = ({ (U.calling g mk a).setFrames s₂.frames with heap := s₂.heap, slotsUsed := s₂.slotsUsed } : State).setVm s₂.vm := by
      have : s₂ = ({ s₂ with vm := (U.calling g mk a).vm } : State).setVm s₂.vm := rfl
      rw [e2] at this
      exact this
    obtain ⟨c₂, i₂, len₂, hc₂, hd₂, hf₂⟩ := hend
    have hW' : U.WarmedH s₂.vm := hW₂
    have hcc : c₂ = c := by
      have h1 : s₂.code? g.method = U.code? g.method := by
        rw [State.code?_eq, State.code?_eq, hW'.alike.method?]
      exact Option.some.inj (hc₂.symm.trans (h1.trans h.code))
    subst hcc
    have hlen : len₂ = len := by rw [hdg] at hd₂; cases hd₂; rfl
    subst hlen
    have hs₂ : s₂ = (({ U with heap := s₂.heap, slotsUsed := s₂.slotsUsed } : State).setVm s₂.vm).setTop { g with pc := g.pc + len₂, stack := v.toList ++ g.stack } := by
      refine e3.trans ?_
      rw [hf₂, State.calling_eq h.top, State.setFrames_setFrames, State.setTop_of_frames _ hr', hr]
      rfl
    have hsame : U.sameButNew ({ U with heap := s₂.heap, slotsUsed := s₂.slotsUsed } : State) L mc ms := by
      refine ⟨?_, q2, q3, q4, q5, q6⟩
      obtain ⟨t, ht, -⟩ := State.frames_cons hr
      show ({ U with heap := s₂.heap, slotsUsed := s₂.slotsUsed } : State) = { U.setFrames U.frames with heap := s₂.heap, slotsUsed := s₂.slotsUsed }
      rw [State.setFrames_self ht]
    subst hg
    refine Or.inl ⟨v, ⟨(({ U with heap := s₂.heap, slotsUsed := s₂.slotsUsed } : State).setVm s₂.vm), Ls ++ L, c0 + mc, s0 + ms⟩,
      ⟨X.admits, X.cas, X.clock, X.frames, X.room, X.hears, X.method, X.code, (X.here.setHeapUsed s₂.heap s₂.slotsUsed).setVm hW'.alike, X.tail, State.WarmedH.trans X.warmed hW', X.limits, X.bytes, X.same.trans (hsame.setVm s.vm)⟩,
      ⟨g, mk, s₂, L, rfl, rfl, hqc, rfl, hL, rfl, rfl⟩, ?_⟩
    show Steps p.tables e below _ ((({ U with heap := s₂.heap, slotsUsed := s₂.slotsUsed } : State).setVm s₂.vm).setTop { g with pc := g.pc + len₂, stack := v.toList ++ g.stack })
    rw [← hs₂]
    exact hsteps
  · obtain ⟨e2, q2, q3, q4, q5, q6⟩ := id hsm
    have e3 : s₂ = ({ (U.calling g mk a).setFrames s₂.frames with heap := s₂.heap, slotsUsed := s₂.slotsUsed } : State).setVm s₂.vm := by
      have : s₂ = ({ s₂ with vm := (U.calling g mk a).vm } : State).setVm s₂.vm := rfl
      rw [e2] at this
      exact this
    have hf₂ : s₂.frames = .throwing q :: .java g :: U.frames.tail := hend
    have hW' : U.WarmedH s₂.vm := hW₂
    have hs₂ : s₂ = ((({ U with heap := s₂.heap, slotsUsed := s₂.slotsUsed } : State).setVm s₂.vm).setTop g).pushFrame (.throwing q) := by
      refine e3.trans ?_
      rw [hf₂, State.calling_eq h.top, State.setFrames_setFrames, State.pushFrame, State.frames_setTop _ hr', State.setTop_of_frames _ hr', State.setFrames_setFrames, hr]
      rfl
    have hsame : U.sameButNew ({ U with heap := s₂.heap, slotsUsed := s₂.slotsUsed } : State) L mc ms := by
      refine ⟨?_, q2, q3, q4, q5, q6⟩
      obtain ⟨t, ht, -⟩ := State.frames_cons hr
      show ({ U with heap := s₂.heap, slotsUsed := s₂.slotsUsed } : State) = { U.setFrames U.frames with heap := s₂.heap, slotsUsed := s₂.slotsUsed }
      rw [State.setFrames_self ht]
    subst hg
    refine Or.inr ⟨q, ⟨(({ U with heap := s₂.heap, slotsUsed := s₂.slotsUsed } : State).setVm s₂.vm), Ls ++ L, c0 + mc, s0 + ms⟩,
      ⟨X.admits, X.cas, X.clock, X.frames, X.room, X.hears, X.method, X.code, (X.here.setHeapUsed s₂.heap s₂.slotsUsed).setVm hW'.alike, X.tail, State.WarmedH.trans X.warmed hW', X.limits, X.bytes, X.same.trans (hsame.setVm s.vm)⟩,
      ⟨g, mk, s₂, L, E, ce, rfl, rfl, hx, hce, hcv, hcl, rfl, hL, rfl, rfl⟩, ?_⟩
    show Steps p.tables e below _ (((({ U with heap := s₂.heap, slotsUsed := s₂.slotsUsed } : State).setVm s₂.vm).setTop g).pushFrame (.throwing q))
    rw [← hs₂]
    exact hsteps
end
variable {p : Program} {l : Launch} {e : Env} {R : Room} {s : State} {m : MethodId} {args : Array Value} {below : List Frame} {meth : Method} {c : Code} {T : State} {H : Heap} {locs : List Loc} {cells slots : Nat}
theorem vx_callVX (X : Stand p l e R s m args below meth c T locs cells slots) (hexec : p.tables.exec = Jvm.exec) {own C : String} {index : Nat} {y : MethodName} {bytes : ByteArray} {maxL : Nat} {ret : Option FieldType} {hh : List (Nat × Nat × Nat × Nat)}
    (hown : s.vm.findClass own = some m.cls) (hlink : (Cond.methodLink own index y).before args s = true) (hinst : (Cond.instanceMethod y).before args s = true) (hsel : (Cond.selects C y y).before args s = true)
    (hcode : (Cond.codeWith y bytes maxL ret hh).before args s = true) (hy : y.cls ≠ "java/lang/invoke/MethodHandle" ∧ y.cls ≠ "java/lang/invoke/VarHandle")
    {W9 : Nat} {Pre : Pt → Array Value → Prop} {Post : Pt → Array Value → Option Value → Pt → Prop} {PostX : Pt → Array Value → Addr → Pt → Prop} (hK : vx_Back l R p e below s args y 3 W9 Pre Post PostX)
    {b : Addr} {cellB : Cell} (hcell : T.heap[b]? = some cellB) (hobj : cellB.vm.isStatics = false) (hcls : s.vm.findClass C = some cellB.cls)
    {g : JFrame} (hg : g.method = m) (hsize : g.locals.size = c.maxLocals) {argsL rest : List Value} (hlen : ∀ sig, parseMethodDescriptor y.desc = some sig → argsL.length = sig.parameters.length)
    (hstack : g.stack = argsL.reverse ++ .ref b :: rest) (hW : 2 * g.monitorRoom + (rest.map fun v => v.category).sum ≤ W9) (hdg : decode c.code g.pc = .ok (.invokevirtual index, 3))
    (hpre : ∀ vm₁, s.WarmedH vm₁ → Pre ⟨T.setVm vm₁, locs, cells, slots⟩ (Value.ref b :: argsL).toArray) :
    (∃ (v : Option Value) (vm₁ : Vm) (B : Pt), s.WarmedH vm₁ ∧ Stand p l e R s m args below meth c B.U B.locs B.cells B.slots ∧ Post ⟨T.setVm vm₁, locs, cells, slots⟩ (Value.ref b :: argsL).toArray v B ∧
      ∀ target, Steps p.tables e below (B.U.setTop { g with pc := g.pc + 3, stack := v.toList ++ rest }) target → Steps p.tables e below (T.setTop g) target) ∨
    (∃ (q : Addr) (vm₁ : Vm) (B : Pt), s.WarmedH vm₁ ∧ Stand p l e R s m args below meth c B.U B.locs B.cells B.slots ∧ PostX ⟨T.setVm vm₁, locs, cells, slots⟩ (Value.ref b :: argsL).toArray q B ∧
      Steps p.tables e below (T.setTop g) ((B.U.setTop { g with stack := rest }).pushFrame (.throwing q))) := by
  obtain ⟨mk, methM, hnamed, hmethM, hstM, habM⟩ := Cond.instanceMethod_spec hinst
  obtain ⟨m8, methM', cM, hn8, hmethM', -, -, -, -, -, -, hsigM⟩ := Cond.codeWith_spec hcode
  cases Option.some.inj (hn8.symm.trans hnamed)
  cases hmethM.symm.trans hmethM'
  obtain ⟨c2, r2, m2, q1, q2, q3, q4, kP, hkP, hkPi⟩ := Cond.selects_spec hsel
  cases hcls.symm.trans q1
  cases (State.methodFound?_of_named hnamed hy).symm.trans q2
  cases hnamed.symm.trans q3
  have hselP : selectMethod e.platform s.vm cellB.cls mk = .method mk := by rw [Launch.admits_selectMethod X.admits]; exact q4
  obtain ⟨vm₁, X₁, hstep₁⟩ := X.invokevirtual hexec hown hlink hnamed hmethM hstM hkP hkPi hy (a := b) (cell := cellB) hcell
    (fun z h => by rw [h] at hobj; cases hobj) hselP hmethM habM hkP hkPi (g := g) hg (argsL := argsL) (rest := rest) (hlen _ hsigM) hstack hdg
  rcases hK m meth c ⟨T.setVm vm₁, locs, cells, slots⟩ { g with stack := rest } (.invokevirtual index) mk (Value.ref b :: argsL).toArray X₁ hg hsize hdg hW (X₁.named hnamed) (hpre vm₁ X₁.warmed) with ⟨v, B, X', hpost, hsteps⟩ | ⟨q, B, X', hpost, hsteps⟩
  · exact Or.inl ⟨v, vm₁, B, X₁.warmed, X', hpost, fun target h => hstep₁ _ fun acts => by rw [doInvoke_state]; exact hsteps.trans h⟩
  · exact Or.inr ⟨q, vm₁, B, X₁.warmed, X', hpost, hstep₁ _ fun acts => by rw [doInvoke_state]; exact hsteps⟩
theorem vx_callSX (X : Stand p l e R s m args below meth c T locs cells slots) (hexec : p.tables.exec = Jvm.exec) {own : String} {index : Nat} {y : MethodName} {bytes : ByteArray} {maxL : Nat} {ret : Option FieldType} {hh : List (Nat × Nat × Nat × Nat)}
    (hown : s.vm.findClass own = some m.cls) (hlink : (Cond.methodLink own index y).before args s = true) (hstat : (Cond.static y).before args s = true) (hinit : (Cond.initialized y.cls).before args s = true)
    (hcode : (Cond.codeWith y bytes maxL ret hh).before args s = true) (hy : y.cls ≠ "java/lang/invoke/MethodHandle" ∧ y.cls ≠ "java/lang/invoke/VarHandle")
    {W9 : Nat} {Pre : Pt → Array Value → Prop} {Post : Pt → Array Value → Option Value → Pt → Prop} {PostX : Pt → Array Value → Addr → Pt → Prop} (hK : vx_Back l R p e below s args y 3 W9 Pre Post PostX)
    {g : JFrame} (hg : g.method = m) (hsize : g.locals.size = c.maxLocals) {argsL rest : List Value} (hlen : ∀ sig, parseMethodDescriptor y.desc = some sig → argsL.length = sig.parameters.length)
    (hstack : g.stack = argsL.reverse ++ rest) (hW : 2 * g.monitorRoom + (rest.map fun v => v.category).sum ≤ W9) (hdg : decode c.code g.pc = .ok (.invokestatic index, 3))
    (hpre : ∀ vm₁, s.WarmedH vm₁ → Pre ⟨T.setVm vm₁, locs, cells, slots⟩ argsL.toArray) :
    (∃ (v : Option Value) (vm₁ : Vm) (B : Pt), s.WarmedH vm₁ ∧ Stand p l e R s m args below meth c B.U B.locs B.cells B.slots ∧ Post ⟨T.setVm vm₁, locs, cells, slots⟩ argsL.toArray v B ∧
      ∀ target, Steps p.tables e below (B.U.setTop { g with pc := g.pc + 3, stack := v.toList ++ rest }) target → Steps p.tables e below (T.setTop g) target) ∨
    (∃ (q : Addr) (vm₁ : Vm) (B : Pt), s.WarmedH vm₁ ∧ Stand p l e R s m args below meth c B.U B.locs B.cells B.slots ∧ PostX ⟨T.setVm vm₁, locs, cells, slots⟩ argsL.toArray q B ∧
      Steps p.tables e below (T.setTop g) ((B.U.setTop { g with stack := rest }).pushFrame (.throwing q))) := by
  obtain ⟨mk, methM, cM, hnamed, hmethM, -, -, -, -, -, -, hsigM⟩ := Cond.codeWith_spec hcode
  have hstatic : methM.isStatic = true := Cond.static_spec hnamed hmethM hstat
  obtain ⟨kP, hkP, -⟩ := className_of_methodNamed hnamed
  have hinitP : kP.init = .initialized := Cond.initialized_spec (findClass_of_methodNamed hnamed) hkP hinit
  obtain ⟨vm₁, X₁, hstep₁⟩ := X.invokestatic hexec hown hlink hnamed hmethM hstatic hkP hinitP hy (g := g) hg (argsL := argsL) (rest := rest) (hlen _ hsigM) hstack hdg
  rcases hK m meth c ⟨T.setVm vm₁, locs, cells, slots⟩ { g with stack := rest } (.invokestatic index) mk argsL.toArray X₁ hg hsize hdg hW (X₁.named hnamed) (hpre vm₁ X₁.warmed) with ⟨v, B, X', hpost, hsteps⟩ | ⟨q, B, X', hpost, hsteps⟩
  · exact Or.inl ⟨v, vm₁, B, X₁.warmed, X', hpost, fun target h => hstep₁ _ fun acts => by rw [doInvoke_state]; exact hsteps.trans h⟩
  · exact Or.inr ⟨q, vm₁, B, X₁.warmed, X', hpost, hstep₁ _ fun acts => by rw [doInvoke_state]; exact hsteps⟩
theorem vx_callVW (X : Stand p l e R s m args below meth c T locs cells slots) (hexec : p.tables.exec = Jvm.exec) {own C : String} {index : Nat} {y : MethodName} {bytes : ByteArray} {maxL : Nat} {ret : Option FieldType} {hh : List (Nat × Nat × Nat × Nat)}
    (hown : s.vm.findClass own = some m.cls) (hlink : (Cond.methodLink own index y).before args s = true) (hinst : (Cond.instanceMethod y).before args s = true) (hsel : (Cond.selects C y y).before args s = true)
    (hcode : (Cond.codeWith y bytes maxL ret hh).before args s = true) (hy : y.cls ≠ "java/lang/invoke/MethodHandle" ∧ y.cls ≠ "java/lang/invoke/VarHandle")
    {W9 : Nat} {Pre : Pt → Array Value → Prop} {Post : Pt → Array Value → Option Value → Pt → Prop} (hK : Back l R p e below s args y 3 W9 Pre Post)
    {b : Addr} {cellB : Cell} (hcell : T.heap[b]? = some cellB) (hobj : cellB.vm.isStatics = false) (hcls : s.vm.findClass C = some cellB.cls)
    {g : JFrame} (hg : g.method = m) (hsize : g.locals.size = c.maxLocals) {argsL rest : List Value} (hlen : ∀ sig, parseMethodDescriptor y.desc = some sig → argsL.length = sig.parameters.length)
    (hstack : g.stack = argsL.reverse ++ .ref b :: rest) (hW : 2 * g.monitorRoom + (rest.map fun v => v.category).sum ≤ W9) (hdg : decode c.code g.pc = .ok (.invokevirtual index, 3))
    (hpre : ∀ vm₁, s.WarmedH vm₁ → Pre ⟨T.setVm vm₁, locs, cells, slots⟩ (Value.ref b :: argsL).toArray) :
    ∃ (v : Option Value) (vm₁ : Vm) (B : Pt), s.WarmedH vm₁ ∧ Stand p l e R s m args below meth c B.U B.locs B.cells B.slots ∧ Post ⟨T.setVm vm₁, locs, cells, slots⟩ (Value.ref b :: argsL).toArray v B ∧
      ∀ target, Steps p.tables e below (B.U.setTop { g with pc := g.pc + 3, stack := v.toList ++ rest }) target → Steps p.tables e below (T.setTop g) target := by
  obtain ⟨mk, methM, hnamed, hmethM, hstM, habM⟩ := Cond.instanceMethod_spec hinst
  obtain ⟨m8, methM', cM, hn8, hmethM', -, -, -, -, -, -, hsigM⟩ := Cond.codeWith_spec hcode
  cases Option.some.inj (hn8.symm.trans hnamed)
  cases hmethM.symm.trans hmethM'
  obtain ⟨c2, r2, m2, q1, q2, q3, q4, kP, hkP, hkPi⟩ := Cond.selects_spec hsel
  cases hcls.symm.trans q1
  cases (State.methodFound?_of_named hnamed hy).symm.trans q2
  cases hnamed.symm.trans q3
  have hselP : selectMethod e.platform s.vm cellB.cls mk = .method mk := by rw [Launch.admits_selectMethod X.admits]; exact q4
  obtain ⟨vm₁, X₁, hstep₁⟩ := X.invokevirtual hexec hown hlink hnamed hmethM hstM hkP hkPi hy (a := b) (cell := cellB) hcell
    (fun z h => by rw [h] at hobj; cases hobj) hselP hmethM habM hkP hkPi (g := g) hg (argsL := argsL) (rest := rest) (hlen _ hsigM) hstack hdg
  obtain ⟨v, B, X', hpost, hsteps⟩ := hK m meth c ⟨T.setVm vm₁, locs, cells, slots⟩ { g with stack := rest } (.invokevirtual index) mk (Value.ref b :: argsL).toArray X₁ hg hsize hdg hW (X₁.named hnamed) (hpre vm₁ X₁.warmed)
  exact ⟨v, vm₁, B, X₁.warmed, X', hpost, fun target h => hstep₁ _ fun acts => by rw [doInvoke_state]; exact hsteps.trans h⟩
abbrev vx_CVW (R : Room) (s : State) (args : Array Value) (own C : String) (index : Nat) (y : MethodName) (bytes : ByteArray) (maxL : Nat) (ret : Option FieldType) (hh : List (Nat × Nat × Nat × Nat)) (ws : List Cond) (rm : Room) (mc ms n : Nat) : Prop :=
  (rm.cells = mc ∧ rm.slots = ms ∧ rm.frames + 1 ≤ R.frames ∧ 8 + (maxL + 11) + rm.locals ≤ R.locals ∧ (∀ w ∈ ws, ∀ (a' : Array Value) (U : State), s.WarmedH U.vm → w.before a' U = true) ∧ Cond.codeWith y bytes maxL ret hh ∈ ws) ∧
  (Cond.codeWith y bytes maxL ret hh).before args s = true ∧ (Cond.initialized y.cls).before args s = true ∧ (y.cls ≠ "java/lang/invoke/MethodHandle" ∧ y.cls ≠ "java/lang/invoke/VarHandle") ∧
  (∀ sig, parseMethodDescriptor y.desc = some sig → n = sig.parameters.length) ∧ (Cond.methodLink own index y).before args s = true ∧ (Cond.instanceMethod y).before args s = true ∧ (Cond.selects C y y).before args s = true
theorem vx_cwVW {own C : String} {index maxL mc ms : Nat} {y : MethodName} {bytes : ByteArray} {ret : Option FieldType} {hh : List (Nat × Nat × Nat × Nat)} {Ts ws ws' : List Cond} {rm : Room} (n : Nat) (ht : ∀ w ∈ Ts, w.before args s = true) (hT : GoodIn Ts (wsV own index C y ws)) (hw : ws = Cond.codeWith y bytes maxL ret hh :: ws') (hrc : rm.cells = mc) (hrs : rm.slots = ms)
    (hd : y.cls = C ∧ y.cls ≠ "java/lang/invoke/MethodHandle" ∧ y.cls ≠ "java/lang/invoke/VarHandle" ∧ (parseMethodDescriptor y.desc).map (fun d => d.parameters.length) = some n) (hR : rm.frames + 1 ≤ R.frames ∧ 8 + (maxL + 11) + rm.locals ≤ R.locals) :
    vx_CVW R s args own C index y bytes maxL ret hh ws rm mc ms n := by
  obtain ⟨hC, hd⟩ := hd
  subst hC
  have ok : ∀ w ∈ wsV own index y.cls y ws, w.before args s = true := fun w h => ht w (hT w h).1
  have hG : GoodIn Ts ws := fun w h => hT w (by unfold wsV; exact List.mem_append_right _ h)
  have hc : Cond.codeWith y bytes maxL ret hh ∈ ws := by rw [hw]; exact List.mem_cons_self
  refine ⟨⟨hrc, hrs, hR.1, hR.2, pay_in ht hG, hc⟩, ht _ (hG _ hc).1, ok _ (by simp [wsV]), ⟨hd.1, hd.2.1⟩, fun sig h => ?_, ok _ (by simp [wsV]), ok _ (by simp [wsV]), ok _ (by simp [wsV])⟩
  have h2 := hd.2.2
  rw [h] at h2
  exact (Option.some.inj h2).symm
theorem vx_runVW {y : MethodName} {bytes cc : ByteArray} {maxL nL mc ms n index : Nat} {ret : Option FieldType} {hh : List (Nat × Nat × Nat × Nat)} {ws : List Cond} {rm : Room} {Pc : Array Value → State → Prop} {Qc : Array Value → State → Outcome → State → Prop} {free : Addr → Prop} {Ts : List Cond} {own C : String} {b : Addr} {As rest : List Value} {g : JFrame}
    (S : CallFix p m c cc nL s args Ts own) (hM : Met l y ws rm Pc Qc mc ms free) (cw : vx_CVW R s args own C index y bytes maxL ret hh ws rm mc ms n) (hp : PreV s H C b Pc As)
    (hg : g.method = m) (hn : As.length = n) (hsize : g.locals.size = nL) (hstack : g.stack = As.reverse ++ .ref b :: rest) (hW : 2 * g.monitorRoom + (rest.map fun v => v.category).sum ≤ 8) (hdg : decode cc g.pc = .ok (.invokevirtual index, 3)) (hf : cells + mc ≤ R.cells ∧ slots + ms ≤ R.slots) :
    va_Run p l e R s m args below meth c H locs cells slots mc ms g rest (Qc (Value.ref b :: As).toArray) free := by
  obtain ⟨⟨hrc, hrs, hfr, hlo, hws, hcw⟩, hcode, hini, hy, hlen, hl, hin, hse⟩ := cw
  have hK : Back l R p e below s args y 3 8 (PreOf R mc ms Pc) (PostOf Qc mc ms free) := va_backW (hh := hh) (bytes := bytes) (maxL := maxL) (ret := ret) hM hp.1 hrc hrs hfr hlo hws hcw (fun a' U hW => word_at hW (Or.inl (by first | rfl | simp [Cond.onTables, Cond.keeps, Cond.steady])) hini)
  obtain ⟨hx, hb, hml, ho, -⟩ := S
  obtain ⟨-, ⟨cellB, hcB, hoB, hclB⟩, hPc⟩ := hp
  intro T hT X
  obtain ⟨v, vm₁, ⟨U', l2, c2, s2⟩, hW₁, X', ⟨g', mk, t, L, e1, e2, hq, h1, hL, h2, h3⟩, st⟩ := vx_callVW X hx (C := C) (hh := hh) (bytes := bytes) (maxL := maxL) (ret := ret) ho hl hin hse hcode hy hK (by rw [hT]; exact hcB) hoB hclB hg (hsize.trans hml.symm) (argsL := As) (rest := rest) (fun sig h => hn.trans (hlen sig h)) hstack hW (by rw [hb]; exact hdg)
    (fun vm₁ hW₁ => ⟨hf.1, hf.2, hPc (T.setVm vm₁) hT hW₁⟩)
  dsimp only [Pt.U, Pt.locs, Pt.cells, Pt.slots] at X' e1 e2 h1 h2 h3 st
  subst h1; subst h2; subst h3
  exact ⟨v, (T.setVm vm₁).calling g' mk (Value.ref b :: As).toArray, t, U', L, hT, X', hL, e1, e2, hq, st⟩
section
variable {y : MethodName} {bytes cc : ByteArray} {maxL nL mc ms n index : Nat} {ret : Option FieldType} {ws : List Cond} {rm : Room} {Pc : Array Value → State → Prop} {Qc : Array Value → State → Outcome → State → Prop} {XC : String → State → State → Prop} {free : Addr → Prop} {Ts : List Cond} {own C : String} {b : Addr} {As rest : List Value} {g : JFrame}
theorem vx_runVX {hh : List (Nat × Nat × Nat × Nat)} (S : CallFix p m c cc nL s args Ts own) (hM : vx_Met l y ws rm Pc Qc XC mc ms free) (cw : vx_CVW R s args own C index y bytes maxL ret hh ws rm mc ms n) (hp : PreV s H C b Pc As)
    (hg : g.method = m) (hn : As.length = n) (hsize : g.locals.size = nL) (hstack : g.stack = As.reverse ++ .ref b :: rest) (hW : 2 * g.monitorRoom + (rest.map fun v => v.category).sum ≤ 8) (hdg : decode cc g.pc = .ok (.invokevirtual index, 3)) (hf : cells + mc ≤ R.cells ∧ slots + ms ≤ R.slots) :
    vx_Run p l e R s m args below meth c H locs cells slots mc ms g rest (Qc (Value.ref b :: As).toArray) XC free := by
  obtain ⟨⟨hrc, hrs, hfr, hlo, hws, hcw⟩, hcode, hini, hy, hlen, hl, hin, hse⟩ := cw
  have hK : vx_Back l R p e below s args y 3 8 (PreOf R mc ms Pc) (PostOf Qc mc ms free) (vx_Post XC mc ms free) := vx_backW (hh := hh) (bytes := bytes) (maxL := maxL) (ret := ret) hM hp.1 hrc hrs hfr hlo hws hcw (fun a' U hW => word_at hW (Or.inl (by first | rfl | simp [Cond.onTables, Cond.keeps, Cond.steady])) hini)
  obtain ⟨hx, hb, hml, ho, -⟩ := S
  obtain ⟨-, ⟨cellB, hcB, hoB, hclB⟩, hPc⟩ := hp
  intro T hT X
  rcases vx_callVX X hx (C := C) (hh := hh) (bytes := bytes) (maxL := maxL) (ret := ret) ho hl hin hse hcode hy hK (by rw [hT]; exact hcB) hoB hclB hg (hsize.trans hml.symm) (argsL := As) (rest := rest) (fun sig h => hn.trans (hlen sig h)) hstack hW (by rw [hb]; exact hdg)
    (fun vm₁ hW₁ => ⟨hf.1, hf.2, hPc (T.setVm vm₁) hT hW₁⟩) with ⟨v, vm₁, ⟨U', l2, c2, s2⟩, hW₁, X', ⟨g', mk, t, L, e1, e2, hq, h1, hL, h2, h3⟩, st⟩ | ⟨q, vm₁, ⟨U', l2, c2, s2⟩, hW₁, X', ⟨g', mk, t, L, E, ce, e1, e2, hq, hce, hcv, hcl, h1, hL, h2, h3⟩, st⟩
  · dsimp only [Pt.U, Pt.locs, Pt.cells, Pt.slots] at X' e1 e2 h1 h2 h3 st
    subst h1; subst h2; subst h3
    exact Or.inl ⟨v, (T.setVm vm₁).calling g' mk (Value.ref b :: As).toArray, t, U', L, hT, X', hL, e1, e2, hq, st⟩
  · dsimp only [Pt.U, Pt.locs, Pt.cells, Pt.slots] at X' e1 e2 h1 h2 h3 st hcl
    subst h1; subst h2; subst h3
    exact Or.inr ⟨q, (T.setVm vm₁).calling g' mk (Value.ref b :: As).toArray, t, U', L, E, ce, hT, X', hL, e1, e2, hq, hce, hcv, vx_cls hW₁ hcl, st⟩
theorem vx_runSX {hh : List (Nat × Nat × Nat × Nat)} (S : CallFix p m c cc nL s args Ts own) (hM : vx_Met l y ws rm Pc Qc XC mc ms free) (cw : vx_CSW R s args own index y bytes maxL ret hh ws rm mc ms n) (hp : PreS s H Pc As)
    (hg : g.method = m) (hn : As.length = n) (hsize : g.locals.size = nL) (hstack : g.stack = As.reverse ++ rest) (hW : 2 * g.monitorRoom + (rest.map fun v => v.category).sum ≤ 8) (hdg : decode cc g.pc = .ok (.invokestatic index, 3)) (hf : cells + mc ≤ R.cells ∧ slots + ms ≤ R.slots) :
    vx_Run p l e R s m args below meth c H locs cells slots mc ms g rest (Qc As.toArray) XC free := by
  obtain ⟨⟨hrc, hrs, hfr, hlo, hws, hcw⟩, hcode, hini, hy, hlen, hl, hstt⟩ := cw
  have hK : vx_Back l R p e below s args y 3 8 (PreOf R mc ms Pc) (PostOf Qc mc ms free) (vx_Post XC mc ms free) := vx_backW (hh := hh) (bytes := bytes) (maxL := maxL) (ret := ret) hM hp.1 hrc hrs hfr hlo hws hcw (fun a' U hW => word_at hW (Or.inl (by first | rfl | simp [Cond.onTables, Cond.keeps, Cond.steady])) hini)
  obtain ⟨hx, hb, hml, ho, -⟩ := S
  intro T hT X
  rcases vx_callSX X hx (hh := hh) (bytes := bytes) (maxL := maxL) (ret := ret) ho hl hstt hini hcode hy hK hg (hsize.trans hml.symm) (argsL := As) (rest := rest) (fun sig h => hn.trans (hlen sig h)) hstack hW (by rw [hb]; exact hdg)
    (fun vm₁ hW₁ => ⟨hf.1, hf.2, hp.2 (T.setVm vm₁) hT hW₁⟩) with ⟨v, vm₁, ⟨U', l2, c2, s2⟩, hW₁, X', ⟨g', mk, t, L, e1, e2, hq, h1, hL, h2, h3⟩, st⟩ | ⟨q, vm₁, ⟨U', l2, c2, s2⟩, hW₁, X', ⟨g', mk, t, L, E, ce, e1, e2, hq, hce, hcv, hcl, h1, hL, h2, h3⟩, st⟩
  · dsimp only [Pt.U, Pt.locs, Pt.cells, Pt.slots] at X' e1 e2 h1 h2 h3 st
    subst h1; subst h2; subst h3
    exact Or.inl ⟨v, (T.setVm vm₁).calling g' mk As.toArray, t, U', L, hT, X', hL, e1, e2, hq, st⟩
  · dsimp only [Pt.U, Pt.locs, Pt.cells, Pt.slots] at X' e1 e2 h1 h2 h3 st hcl
    subst h1; subst h2; subst h3
    exact Or.inr ⟨q, (T.setVm vm₁).calling g' mk As.toArray, t, U', L, E, ce, hT, X', hL, e1, e2, hq, hce, hcv, vx_cls hW₁ hcl, st⟩
end
end VXH
theorem vx_ofWH {l : Launch} {y : MethodName} {ws ws' : List Cond} {rm : Room} {Pc : Array Value → State → Prop} {Qc : Array Value → State → Outcome → State → Prop} {XC : String → State → State → Prop} {mc ms : Nat} {free : Addr → Prop} {cc : ByteArray} {maxL : Nat} {ret : Option FieldType} {hh : List (Nat × Nat × Nat × Nat)}
    (hy : plainName y.cls = true) (hw : ws = Cond.codeWith y cc maxL ret hh :: ws')
    (body : ∀ p e s m args below meth c s₁, BodyLoose p l y (headSpec ws rm) cc maxL ret e s m args below meth c s₁ → c.maxLocals = maxL → Pc args s →
      W p l e (headSpec ws rm).room s m args below meth c s.heap [] 0 0 (vx_MQ below Qc XC args s mc ms free) (entryFrame m args maxL)) : vx_Met l y ws rm Pc Qc XC mc ms free := by
  refine MetFree.of_bodyS (code := cc) (maxLocals := maxL) (ret := ret) hy ?_ ?_
  · intro args s m h hn
    obtain ⟨m9, meth, c, hn9, h1, h2, h3, h4, -, h5, h6, -⟩ := Cond.codeWith_spec (atoms_spec (ws := ws) h _ (by rw [hw]; exact List.mem_cons_self))
    cases hn.symm.trans hn9
    exact ⟨meth, c, h1, h2, h3, h4, h5, h6⟩
  · intro p e s m args below meth c s₁ B hml hP _
    have hh0 : s₁.heap = s.heap := by rw [B.state]; rfl
    obtain ⟨t, a1, o, b1, b2, b3⟩ := body p e s m args below meth c s₁ B hml hP s₁ hh0 (Stand.of_body B)
    exact ⟨t, o, a1, b1, b2, b3⟩
/-! ===== END ===== -/
end
section
def RX0 : String := "StratumLedge$Backup"
def TX0 : u_T := fun k => match k with
  | 0 => ("StratumLedge$Backup", "families", "Ljava/util/ArrayList;", true)
  | _ => ("StratumLedge$Backup", "states", "[I", true)
def tyX0 : Nat → FieldType := fun k => match k with
  | 0 => .object "java/util/ArrayList"
  | _ => .array .int
abbrev wsX00 : List Cond := u_ws RX0 TX0 2
theorem nmX0 : ∀ a, a < 2 → ∀ b, b < 2 → a ≠ b → (TX0 a).2.1 ≠ (TX0 b).2.1 := by decide +kernel
theorem tyX0_ok : ∀ k, k < 2 → parseFieldDescriptor (TX0 k).2.2.1 = some (tyX0 k) := by decide +kernel
abbrev cX0_init : ByteArray := prog_2_method_1_code
def yX0_init : MethodName := ⟨RX0, "<init>", "(Ljava/util/ArrayList;Ljava/util/ArrayList;)V"⟩
def RX1 : String := "StratumLedge$Change"
def TX1 : u_T := fun k => match k with
  | 0 => ("StratumLedge$Change", "kind", "I", true)
  | 1 => ("StratumLedge$Change", "number", "I", true)
  | 2 => ("StratumLedge$Change", "from", "I", true)
  | 3 => ("StratumLedge$Change", "to", "I", true)
  | _ => ("StratumLedge$Change", "amount", "I", true)
def tyX1 : Nat → FieldType := fun k => match k with
  | 0 => .int
  | 1 => .int
  | 2 => .int
  | 3 => .int
  | _ => .int
abbrev wsX10 : List Cond := u_ws RX1 TX1 5
theorem nmX1 : ∀ a, a < 5 → ∀ b, b < 5 → a ≠ b → (TX1 a).2.1 ≠ (TX1 b).2.1 := by decide +kernel
theorem tyX1_ok : ∀ k, k < 5 → parseFieldDescriptor (TX1 k).2.2.1 = some (tyX1 k) := by decide +kernel
abbrev cX1_init : ByteArray := prog_3_method_1_code
def yX1_init : MethodName := ⟨RX1, "<init>", "(IIIII)V"⟩
abbrev cX1_overlaps : ByteArray := prog_3_method_2_code
def yX1_overlaps : MethodName := ⟨RX1, "overlaps", "(II)Z"⟩
def RX2 : String := "StratumLedge$Cursor"
def TX2 : u_T := fun k => match k with
  | 0 => ("StratumLedge$Cursor", "id", "I", true)
  | 1 => ("StratumLedge$Cursor", "home", "LStratumLedge$Family;", true)
  | 2 => ("StratumLedge$Cursor", "moment", "I", true)
  | _ => ("StratumLedge$Cursor", "place", "I", false)
def tyX2 : Nat → FieldType := fun k => match k with
  | 0 => .int
  | 1 => .object "StratumLedge$Family"
  | 2 => .int
  | _ => .int
abbrev wsX20 : List Cond := u_ws RX2 TX2 4
theorem nmX2 : ∀ a, a < 4 → ∀ b, b < 4 → a ≠ b → (TX2 a).2.1 ≠ (TX2 b).2.1 := by decide +kernel
theorem tyX2_ok : ∀ k, k < 4 → parseFieldDescriptor (TX2 k).2.2.1 = some (tyX2 k) := by decide +kernel
abbrev cX2_init : ByteArray := prog_4_method_1_code
def yX2_init : MethodName := ⟨RX2, "<init>", "(ILStratumLedge$Family;I)V"⟩
def RX3 : String := "StratumLedge$Family"
def TX3 : u_T := fun k => match k with
  | 0 => ("StratumLedge$Family", "index", "I", true)
  | 1 => ("StratumLedge$Family", "operator", "C", true)
  | _ => ("StratumLedge$Family", "levels", "[LStratumLedge$Level;", true)
def tyX3 : Nat → FieldType := fun k => match k with
  | 0 => .int
  | 1 => .char
  | _ => .array (.object "StratumLedge$Level")
abbrev wsX30 : List Cond := u_ws RX3 TX3 3
theorem nmX3 : ∀ a, a < 3 → ∀ b, b < 3 → a ≠ b → (TX3 a).2.1 ≠ (TX3 b).2.1 := by decide +kernel
theorem tyX3_ok : ∀ k, k < 3 → parseFieldDescriptor (TX3 k).2.2.1 = some (tyX3 k) := by decide +kernel
abbrev cX3_init : ByteArray := prog_5_method_1_code
def yX3_init : MethodName := ⟨RX3, "<init>", "(IC)V"⟩
abbrev cX3_floor : ByteArray := prog_5_method_2_code
def yX3_floor : MethodName := ⟨RX3, "floor", "(I)LStratumLedge$Level;"⟩
abbrev cX3_become : ByteArray := prog_5_method_3_code
def yX3_become : MethodName := ⟨RX3, "become", "(LStratumLedge$Family;)V"⟩
abbrev cX3_countRuns : ByteArray := prog_5_method_4_code
def yX3_countRuns : MethodName := ⟨RX3, "countRuns", "()I"⟩
abbrev cX3_countShared : ByteArray := prog_5_method_5_code
def yX3_countShared : MethodName := ⟨RX3, "countShared", "(LStratumLedge$Family;)I"⟩
abbrev cX3_hasRun : ByteArray := prog_5_method_6_code
def yX3_hasRun : MethodName := ⟨RX3, "hasRun", "(LStratumLedge$Run;)Z"⟩
abbrev cX3_overlapsBelow : ByteArray := prog_5_method_7_code
def yX3_overlapsBelow : MethodName := ⟨RX3, "overlapsBelow", "(III)Z"⟩
abbrev cX3_isInShape : ByteArray := prog_5_method_8_code
def yX3_isInShape : MethodName := ⟨RX3, "isInShape", "()Z"⟩
def RX4 : String := "StratumLedge$Finding"
def TX4 : u_T := fun k => match k with
  | 0 => ("StratumLedge$Finding", "isThere", "Z", false)
  | 1 => ("StratumLedge$Finding", "isEnded", "Z", false)
  | _ => ("StratumLedge$Finding", "amount", "I", false)
def tyX4 : Nat → FieldType := fun k => match k with
  | 0 => .boolean
  | 1 => .boolean
  | _ => .int
abbrev wsX40 : List Cond := u_ws RX4 TX4 3
theorem nmX4 : ∀ a, a < 3 → ∀ b, b < 3 → a ≠ b → (TX4 a).2.1 ≠ (TX4 b).2.1 := by decide +kernel
theorem tyX4_ok : ∀ k, k < 3 → parseFieldDescriptor (TX4 k).2.2.1 = some (tyX4 k) := by decide +kernel
abbrev cX4_init : ByteArray := prog_6_method_1_code
def yX4_init : MethodName := ⟨RX4, "<init>", "()V"⟩
abbrev cX4_begin : ByteArray := prog_6_method_2_code
def yX4_begin : MethodName := ⟨RX4, "begin", "()V"⟩
abbrev cX4_meet : ByteArray := prog_6_method_3_code
def yX4_meet : MethodName := ⟨RX4, "meet", "(LStratumLedge$Change;C)V"⟩
abbrev cX4_take : ByteArray := prog_6_method_4_code
def yX4_take : MethodName := ⟨RX4, "take", "(IC)V"⟩
abbrev cX4_joined : ByteArray := prog_6_method_5_code
def yX4_joined : MethodName := ⟨RX4, "joined", "(IIC)I"⟩
def RX5 : String := "StratumLedge$Level"
def TX5 : u_T := fun k => match k with
  | 0 => ("StratumLedge$Level", "list", "Ljava/util/ArrayList;", true)
  | _ => ("StratumLedge$Level", "mergedUpTo", "I", false)
def tyX5 : Nat → FieldType := fun k => match k with
  | 0 => .object "java/util/ArrayList"
  | _ => .int
abbrev wsX50 : List Cond := u_ws RX5 TX5 2
theorem nmX5 : ∀ a, a < 2 → ∀ b, b < 2 → a ≠ b → (TX5 a).2.1 ≠ (TX5 b).2.1 := by decide +kernel
theorem tyX5_ok : ∀ k, k < 2 → parseFieldDescriptor (TX5 k).2.2.1 = some (tyX5 k) := by decide +kernel
abbrev cX5_init : ByteArray := prog_7_method_1_code
def yX5_init : MethodName := ⟨RX5, "<init>", "()V"⟩
abbrev cX5_count : ByteArray := prog_7_method_2_code
def yX5_count : MethodName := ⟨RX5, "count", "()I"⟩
abbrev cX5_weight : ByteArray := prog_7_method_3_code
def yX5_weight : MethodName := ⟨RX5, "weight", "()I"⟩
abbrev cX5_overlaps : ByteArray := prog_7_method_4_code
def yX5_overlaps : MethodName := ⟨RX5, "overlaps", "(II)Z"⟩
abbrev cX5_has : ByteArray := prog_7_method_5_code
def yX5_has : MethodName := ⟨RX5, "has", "(LStratumLedge$Run;)Z"⟩
abbrev cX5_insert : ByteArray := prog_7_method_6_code
def yX5_insert : MethodName := ⟨RX5, "insert", "(LStratumLedge$Run;Z)V"⟩
abbrev cX5_removeAll : ByteArray := prog_7_method_7_code
def yX5_removeAll : MethodName := ⟨RX5, "removeAll", "(Ljava/util/ArrayList;)V"⟩
abbrev cX5_isAmong : ByteArray := prog_7_method_8_code
def yX5_isAmong : MethodName := ⟨RX5, "isAmong", "(LStratumLedge$Run;Ljava/util/ArrayList;)Z"⟩
abbrev cX5_become : ByteArray := prog_7_method_9_code
def yX5_become : MethodName := ⟨RX5, "become", "(LStratumLedge$Level;)V"⟩
abbrev cX5_isRising : ByteArray := prog_7_method_10_code
def yX5_isRising : MethodName := ⟨RX5, "isRising", "()Z"⟩
abbrev cX5_isOfFairSizes : ByteArray := prog_7_method_11_code
def yX5_isOfFairSizes : MethodName := ⟨RX5, "isOfFairSizes", "()Z"⟩
def RX6 : String := "StratumLedge$Merging"
def TX6 : u_T := fun k => match k with
  | 0 => ("StratumLedge$Merging", "home", "LStratumLedge$Family;", true)
  | 1 => ("StratumLedge$Merging", "level", "I", true)
  | 2 => ("StratumLedge$Merging", "inputs", "Ljava/util/ArrayList;", true)
  | 3 => ("StratumLedge$Merging", "kept", "Ljava/util/ArrayList;", true)
  | 4 => ("StratumLedge$Merging", "sourceGreatest", "I", true)
  | 5 => ("StratumLedge$Merging", "key", "I", false)
  | _ => ("StratumLedge$Merging", "doneSteps", "I", false)
def tyX6 : Nat → FieldType := fun k => match k with
  | 0 => .object "StratumLedge$Family"
  | 1 => .int
  | 2 => .object "java/util/ArrayList"
  | 3 => .object "java/util/ArrayList"
  | 4 => .int
  | 5 => .int
  | _ => .int
abbrev wsX60 : List Cond := u_ws RX6 TX6 7
theorem nmX6 : ∀ a, a < 7 → ∀ b, b < 7 → a ≠ b → (TX6 a).2.1 ≠ (TX6 b).2.1 := by decide +kernel
theorem tyX6_ok : ∀ k, k < 7 → parseFieldDescriptor (TX6 k).2.2.1 = some (tyX6 k) := by decide +kernel
abbrev cX6_init : ByteArray := prog_8_method_1_code
def yX6_init : MethodName := ⟨RX6, "<init>", "(LStratumLedge$Family;I)V"⟩
abbrev cX6_addSources : ByteArray := prog_8_method_2_code
def yX6_addSources : MethodName := ⟨RX6, "addSources", "()V"⟩
abbrev cX6_addOverlapped : ByteArray := prog_8_method_3_code
def yX6_addOverlapped : MethodName := ⟨RX6, "addOverlapped", "()V"⟩
abbrev cX6_least : ByteArray := prog_8_method_4_code
def yX6_least : MethodName := ⟨RX6, "least", "()I"⟩
abbrev cX6_greatest : ByteArray := prog_8_method_5_code
def yX6_greatest : MethodName := ⟨RX6, "greatest", "()I"⟩
abbrev cX6_claims : ByteArray := prog_8_method_6_code
def yX6_claims : MethodName := ⟨RX6, "claims", "(LStratumLedge$Family;III)Z"⟩
abbrev cX6_nextKey : ByteArray := prog_8_method_7_code
def yX6_nextKey : MethodName := ⟨RX6, "nextKey", "()I"⟩
abbrev cX6_keepsUnder : ByteArray := prog_8_method_8_code
def yX6_keepsUnder : MethodName := ⟨RX6, "keepsUnder", "(LStratumLedge$Change;)Z"⟩
def RX7 : String := "StratumLedge$Run"
def TX7 : u_T := fun k => match k with
  | 0 => ("StratumLedge$Run", "id", "I", true)
  | 1 => ("StratumLedge$Run", "isMerged", "Z", true)
  | 2 => ("StratumLedge$Run", "rows", "Ljava/util/ArrayList;", true)
  | 3 => ("StratumLedge$Run", "spans", "Ljava/util/ArrayList;", true)
  | 4 => ("StratumLedge$Run", "least", "I", true)
  | 5 => ("StratumLedge$Run", "greatest", "I", true)
  | _ => ("StratumLedge$Run", "filter", "[Z", true)
def tyX7 : Nat → FieldType := fun k => match k with
  | 0 => .int
  | 1 => .boolean
  | 2 => .object "java/util/ArrayList"
  | 3 => .object "java/util/ArrayList"
  | 4 => .int
  | 5 => .int
  | _ => .array .boolean
abbrev wsX70 : List Cond := u_ws RX7 TX7 7
theorem nmX7 : ∀ a, a < 7 → ∀ b, b < 7 → a ≠ b → (TX7 a).2.1 ≠ (TX7 b).2.1 := by decide +kernel
theorem tyX7_ok : ∀ k, k < 7 → parseFieldDescriptor (TX7 k).2.2.1 = some (tyX7 k) := by decide +kernel
abbrev cX7_init : ByteArray := prog_9_method_1_code
def yX7_init : MethodName := ⟨RX7, "<init>", "(IZLjava/util/ArrayList;Ljava/util/ArrayList;)V"⟩
abbrev cX7_leastOf : ByteArray := prog_9_method_2_code
def yX7_leastOf : MethodName := ⟨RX7, "leastOf", "(Ljava/util/ArrayList;)I"⟩
abbrev cX7_greatestOf : ByteArray := prog_9_method_3_code
def yX7_greatestOf : MethodName := ⟨RX7, "greatestOf", "(Ljava/util/ArrayList;)I"⟩
abbrev cX7_filterOf : ByteArray := prog_9_method_4_code
def yX7_filterOf : MethodName := ⟨RX7, "filterOf", "(Ljava/util/ArrayList;)[Z"⟩
abbrev cX7_bitFor : ByteArray := prog_9_method_5_code
def yX7_bitFor : MethodName := ⟨RX7, "bitFor", "(III)I"⟩
abbrev cX7_isPassedBy : ByteArray := prog_9_method_6_code
def yX7_isPassedBy : MethodName := ⟨RX7, "isPassedBy", "(I)Z"⟩
abbrev cX7_overlaps : ByteArray := prog_9_method_7_code
def yX7_overlaps : MethodName := ⟨RX7, "overlaps", "(II)Z"⟩
abbrev cX7_weight : ByteArray := prog_9_method_8_code
def yX7_weight : MethodName := ⟨RX7, "weight", "()I"⟩
abbrev cX7_countBlocksWith : ByteArray := prog_9_method_9_code
def yX7_countBlocksWith : MethodName := ⟨RX7, "countBlocksWith", "(I)I"⟩
abbrev cX7_collectOver : ByteArray := prog_9_method_10_code
def yX7_collectOver : MethodName := ⟨RX7, "collectOver", "(ILjava/util/ArrayList;)V"⟩
abbrev cX7_addToWay : ByteArray := prog_9_method_11_code
def yX7_addToWay : MethodName := ⟨RX7, "addToWay", "(LStratumLedge$Change;ILjava/util/ArrayList;)V"⟩
abbrev cX7_keyBehind : ByteArray := prog_9_method_12_code
def yX7_keyBehind : MethodName := ⟨RX7, "keyBehind", "(I)I"⟩
abbrev cX7_isOfFairSize : ByteArray := prog_9_method_13_code
def yX7_isOfFairSize : MethodName := ⟨RX7, "isOfFairSize", "()Z"⟩
def RX8 : String := "StratumLedge$Snapshot"
def TX8 : u_T := fun k => match k with
  | 0 => ("StratumLedge$Snapshot", "id", "I", true)
  | _ => ("StratumLedge$Snapshot", "moment", "I", true)
def tyX8 : Nat → FieldType := fun k => match k with
  | 0 => .int
  | _ => .int
abbrev wsX80 : List Cond := u_ws RX8 TX8 2
theorem nmX8 : ∀ a, a < 2 → ∀ b, b < 2 → a ≠ b → (TX8 a).2.1 ≠ (TX8 b).2.1 := by decide +kernel
theorem tyX8_ok : ∀ k, k < 2 → parseFieldDescriptor (TX8 k).2.2.1 = some (tyX8 k) := by decide +kernel
abbrev cX8_init : ByteArray := prog_10_method_1_code
def yX8_init : MethodName := ⟨RX8, "<init>", "(II)V"⟩
def RX9 : String := "StratumLedge$Write"
def TX9 : u_T := fun k => match k with
  | 0 => ("StratumLedge$Write", "family", "I", true)
  | 1 => ("StratumLedge$Write", "change", "LStratumLedge$Change;", true)
  | 2 => ("StratumLedge$Write", "step", "I", true)
  | _ => ("StratumLedge$Write", "state", "I", false)
def tyX9 : Nat → FieldType := fun k => match k with
  | 0 => .int
  | 1 => .object "StratumLedge$Change"
  | 2 => .int
  | _ => .int
abbrev wsX90 : List Cond := u_ws RX9 TX9 4
theorem nmX9 : ∀ a, a < 4 → ∀ b, b < 4 → a ≠ b → (TX9 a).2.1 ≠ (TX9 b).2.1 := by decide +kernel
theorem tyX9_ok : ∀ k, k < 4 → parseFieldDescriptor (TX9 k).2.2.1 = some (tyX9 k) := by decide +kernel
abbrev cX9_init : ByteArray := prog_11_method_1_code
def yX9_init : MethodName := ⟨RX9, "<init>", "(ILStratumLedge$Change;II)V"⟩
abbrev cX9_isBroughtIn : ByteArray := prog_11_method_2_code
def yX9_isBroughtIn : MethodName := ⟨RX9, "isBroughtIn", "()Z"⟩
abbrev cX9_isInMemory : ByteArray := prog_11_method_3_code
def yX9_isInMemory : MethodName := ⟨RX9, "isInMemory", "()Z"⟩
abbrev cX9_isInMemoryOf : ByteArray := prog_11_method_4_code
def yX9_isInMemoryOf : MethodName := ⟨RX9, "isInMemoryOf", "(LStratumLedge$Family;)Z"⟩
abbrev cX9_isOf : ByteArray := prog_11_method_5_code
def yX9_isOf : MethodName := ⟨RX9, "isOf", "(LStratumLedge$Family;)Z"⟩
abbrev cX9_touches : ByteArray := prog_11_method_6_code
def yX9_touches : MethodName := ⟨RX9, "touches", "(I)Z"⟩
def RX10 : String := "StratumLedge"
def TX10 : u_T := fun k => match k with
  | 0 => ("StratumLedge", "families", "Ljava/util/ArrayList;", true)
  | 1 => ("StratumLedge", "writes", "Ljava/util/ArrayList;", true)
  | 2 => ("StratumLedge", "snapshots", "Ljava/util/ArrayList;", true)
  | 3 => ("StratumLedge", "cursors", "Ljava/util/ArrayList;", true)
  | 4 => ("StratumLedge", "backups", "Ljava/util/ArrayList;", true)
  | 5 => ("StratumLedge", "finding", "LStratumLedge$Finding;", true)
  | 6 => ("StratumLedge", "way", "Ljava/util/ArrayList;", true)
  | 7 => ("StratumLedge", "merging", "LStratumLedge$Merging;", false)
  | 8 => ("StratumLedge", "madeSnapshots", "I", false)
  | 9 => ("StratumLedge", "madeCursors", "I", false)
  | 10 => ("StratumLedge", "madeFiles", "I", false)
  | 11 => ("StratumLedge", "madeWeight", "I", false)
  | 12 => ("StratumLedge", "versions", "I", false)
  | 13 => ("StratumLedge", "readBlocks", "I", false)
  | 14 => ("StratumLedge", "askedFilters", "I", false)
  | 15 => ("StratumLedge", "passedFalsely", "I", false)
  | 16 => ("StratumLedge", "slowedWrites", "I", false)
  | _ => ("StratumLedge", "droppedEntries", "I", false)
def tyX10 : Nat → FieldType := fun k => match k with
  | 0 => .object "java/util/ArrayList"
  | 1 => .object "java/util/ArrayList"
  | 2 => .object "java/util/ArrayList"
  | 3 => .object "java/util/ArrayList"
  | 4 => .object "java/util/ArrayList"
  | 5 => .object "StratumLedge$Finding"
  | 6 => .object "java/util/ArrayList"
  | 7 => .object "StratumLedge$Merging"
  | 8 => .int
  | 9 => .int
  | 10 => .int
  | 11 => .int
  | 12 => .int
  | 13 => .int
  | 14 => .int
  | 15 => .int
  | 16 => .int
  | _ => .int
abbrev wsX100 : List Cond := u_ws RX10 TX10 18
theorem nmX10 : ∀ a, a < 18 → ∀ b, b < 18 → a ≠ b → (TX10 a).2.1 ≠ (TX10 b).2.1 := by decide +kernel
theorem tyX10_ok : ∀ k, k < 18 → parseFieldDescriptor (TX10 k).2.2.1 = some (tyX10 k) := by decide +kernel
abbrev cX10_init : ByteArray := prog_1_method_1_code
def yX10_init : MethodName := ⟨RX10, "<init>", "()V"⟩
abbrev cX10_addFamily : ByteArray := prog_1_method_2_code
def yX10_addFamily : MethodName := ⟨RX10, "addFamily", "(C)I"⟩
abbrev cX10_put : ByteArray := prog_1_method_3_code
def yX10_put : MethodName := ⟨RX10, "put", "(III)I"⟩
abbrev cX10_delete : ByteArray := prog_1_method_4_code
def yX10_delete : MethodName := ⟨RX10, "delete", "(II)I"⟩
abbrev cX10_deleteRange : ByteArray := prog_1_method_5_code
def yX10_deleteRange : MethodName := ⟨RX10, "deleteRange", "(III)I"⟩
abbrev cX10_merge : ByteArray := prog_1_method_6_code
def yX10_merge : MethodName := ⟨RX10, "merge", "(III)I"⟩
abbrev cX10_bringIn : ByteArray := prog_1_method_7_code
def yX10_bringIn : MethodName := ⟨RX10, "bringIn", "(IIIII)I"⟩
abbrev cX10_lastNumber : ByteArray := prog_1_method_8_code
def yX10_lastNumber : MethodName := ⟨RX10, "lastNumber", "()I"⟩
abbrev cX10_write : ByteArray := prog_1_method_9_code
def yX10_write : MethodName := ⟨RX10, "write", "(IIIII)I"⟩
abbrev cX10_admit : ByteArray := prog_1_method_10_code
def yX10_admit : MethodName := ⟨RX10, "admit", "(LStratumLedge$Family;)V"⟩
abbrev cX10_isTouchedInMemory : ByteArray := prog_1_method_11_code
def yX10_isTouchedInMemory : MethodName := ⟨RX10, "isTouchedInMemory", "(LStratumLedge$Family;II)Z"⟩
abbrev cX10_levelFor : ByteArray := prog_1_method_12_code
def yX10_levelFor : MethodName := ⟨RX10, "levelFor", "(LStratumLedge$Family;II)I"⟩
abbrev cX10_isFree : ByteArray := prog_1_method_13_code
def yX10_isFree : MethodName := ⟨RX10, "isFree", "(LStratumLedge$Family;III)Z"⟩
abbrev cX10_get : ByteArray := prog_1_method_14_code
def yX10_get : MethodName := ⟨RX10, "get", "(III)I"⟩
abbrev cX10_getAnew : ByteArray := prog_1_method_15_code
def yX10_getAnew : MethodName := ⟨RX10, "getAnew", "(III)I"⟩
abbrev cX10_snapshot : ByteArray := prog_1_method_16_code
def yX10_snapshot : MethodName := ⟨RX10, "snapshot", "()I"⟩
abbrev cX10_release : ByteArray := prog_1_method_17_code
def yX10_release : MethodName := ⟨RX10, "release", "(I)I"⟩
abbrev cX10_open : ByteArray := prog_1_method_18_code
def yX10_open : MethodName := ⟨RX10, "open", "(II)I"⟩
abbrev cX10_next : ByteArray := prog_1_method_19_code
def yX10_next : MethodName := ⟨RX10, "next", "(I)I"⟩
abbrev cX10_previous : ByteArray := prog_1_method_20_code
def yX10_previous : MethodName := ⟨RX10, "previous", "(I)I"⟩
abbrev cX10_value : ByteArray := prog_1_method_21_code
def yX10_value : MethodName := ⟨RX10, "value", "(I)I"⟩
abbrev cX10_close : ByteArray := prog_1_method_22_code
def yX10_close : MethodName := ⟨RX10, "close", "(I)I"⟩
abbrev cX10_foundValue : ByteArray := prog_1_method_23_code
def yX10_foundValue : MethodName := ⟨RX10, "foundValue", "()I"⟩
abbrev cX10_momentOf : ByteArray := prog_1_method_24_code
def yX10_momentOf : MethodName := ⟨RX10, "momentOf", "(I)I"⟩
abbrev cX10_placeOfSnapshot : ByteArray := prog_1_method_25_code
def yX10_placeOfSnapshot : MethodName := ⟨RX10, "placeOfSnapshot", "(I)I"⟩
abbrev cX10_placeOfCursor : ByteArray := prog_1_method_26_code
def yX10_placeOfCursor : MethodName := ⟨RX10, "placeOfCursor", "(I)I"⟩
abbrev cX10_cursorAt : ByteArray := prog_1_method_27_code
def yX10_cursorAt : MethodName := ⟨RX10, "cursorAt", "(I)LStratumLedge$Cursor;"⟩
abbrev cX10_isThere : ByteArray := prog_1_method_28_code
def yX10_isThere : MethodName := ⟨RX10, "isThere", "(LStratumLedge$Cursor;I)Z"⟩
abbrev cX10_findAnew : ByteArray := prog_1_method_29_code
def yX10_findAnew : MethodName := ⟨RX10, "findAnew", "(LStratumLedge$Family;II)V"⟩
abbrev cX10_look : ByteArray := prog_1_method_30_code
def yX10_look : MethodName := ⟨RX10, "look", "(LStratumLedge$Family;IIZ)V"⟩
abbrev cX10_lookInMemory : ByteArray := prog_1_method_31_code
def yX10_lookInMemory : MethodName := ⟨RX10, "lookInMemory", "(LStratumLedge$Family;II)V"⟩
abbrev cX10_lookInRun : ByteArray := prog_1_method_32_code
def yX10_lookInRun : MethodName := ⟨RX10, "lookInRun", "(LStratumLedge$Family;LStratumLedge$Run;IIZ)V"⟩
abbrev cX10_countReading : ByteArray := prog_1_method_33_code
def yX10_countReading : MethodName := ⟨RX10, "countReading", "(LStratumLedge$Run;I)V"⟩
abbrev cX10_flush : ByteArray := prog_1_method_34_code
def yX10_flush : MethodName := ⟨RX10, "flush", "(I)I"⟩
abbrev cX10_inMemory : ByteArray := prog_1_method_35_code
def yX10_inMemory : MethodName := ⟨RX10, "inMemory", "(I)I"⟩
abbrev cX10_runs : ByteArray := prog_1_method_36_code
def yX10_runs : MethodName := ⟨RX10, "runs", "(II)I"⟩
abbrev cX10_file : ByteArray := prog_1_method_37_code
def yX10_file : MethodName := ⟨RX10, "file", "(III)I"⟩
abbrev cX10_entries : ByteArray := prog_1_method_38_code
def yX10_entries : MethodName := ⟨RX10, "entries", "(III)I"⟩
abbrev cX10_ranges : ByteArray := prog_1_method_39_code
def yX10_ranges : MethodName := ⟨RX10, "ranges", "(III)I"⟩
abbrev cX10_bound : ByteArray := prog_1_method_40_code
def yX10_bound : MethodName := ⟨RX10, "bound", "(IIIZ)I"⟩
abbrev cX10_passes : ByteArray := prog_1_method_41_code
def yX10_passes : MethodName := ⟨RX10, "passes", "(IIII)Z"⟩
abbrev cX10_debt : ByteArray := prog_1_method_42_code
def yX10_debt : MethodName := ⟨RX10, "debt", "(II)F"⟩
abbrev cX10_debtBits : ByteArray := prog_1_method_43_code
def yX10_debtBits : MethodName := ⟨RX10, "debtBits", "(II)I"⟩
abbrev cX10_compact : ByteArray := prog_1_method_44_code
def yX10_compact : MethodName := ⟨RX10, "compact", "(I)I"⟩
abbrev cX10_work : ByteArray := prog_1_method_45_code
def yX10_work : MethodName := ⟨RX10, "work", "(I)I"⟩
abbrev cX10_stop : ByteArray := prog_1_method_46_code
def yX10_stop : MethodName := ⟨RX10, "stop", "()I"⟩
abbrev cX10_isMerging : ByteArray := prog_1_method_47_code
def yX10_isMerging : MethodName := ⟨RX10, "isMerging", "()Z"⟩
abbrev cX10_countInMemory : ByteArray := prog_1_method_48_code
def yX10_countInMemory : MethodName := ⟨RX10, "countInMemory", "(LStratumLedge$Family;)I"⟩
abbrev cX10_flushMemory : ByteArray := prog_1_method_49_code
def yX10_flushMemory : MethodName := ⟨RX10, "flushMemory", "(LStratumLedge$Family;)I"⟩
abbrev cX10_addRow : ByteArray := prog_1_method_50_code
def yX10_addRow : MethodName := ⟨RX10, "addRow", "(Ljava/util/ArrayList;LStratumLedge$Change;)V"⟩
abbrev cX10_makeRun : ByteArray := prog_1_method_51_code
def yX10_makeRun : MethodName := ⟨RX10, "makeRun", "(ZLjava/util/ArrayList;Ljava/util/ArrayList;)LStratumLedge$Run;"⟩
abbrev cX10_debtOf : ByteArray := prog_1_method_52_code
def yX10_debtOf : MethodName := ⟨RX10, "debtOf", "(LStratumLedge$Level;I)F"⟩
abbrev cX10_mostIndebtedLevel : ByteArray := prog_1_method_53_code
def yX10_mostIndebtedLevel : MethodName := ⟨RX10, "mostIndebtedLevel", "(LStratumLedge$Family;)I"⟩
abbrev cX10_doStep : ByteArray := prog_1_method_54_code
def yX10_doStep : MethodName := ⟨RX10, "doStep", "(LStratumLedge$Merging;)V"⟩
abbrev cX10_sift : ByteArray := prog_1_method_55_code
def yX10_sift : MethodName := ⟨RX10, "sift", "(LStratumLedge$Merging;)V"⟩
abbrev cX10_keepAt : ByteArray := prog_1_method_56_code
def yX10_keepAt : MethodName := ⟨RX10, "keepAt", "(I[Z)V"⟩
abbrev cX10_dropLastDeletes : ByteArray := prog_1_method_57_code
def yX10_dropLastDeletes : MethodName := ⟨RX10, "dropLastDeletes", "([Z)V"⟩
abbrev cX10_finish : ByteArray := prog_1_method_58_code
def yX10_finish : MethodName := ⟨RX10, "finish", "(LStratumLedge$Merging;)V"⟩
abbrev cX10_keptRangesOf : ByteArray := prog_1_method_59_code
def yX10_keptRangesOf : MethodName := ⟨RX10, "keptRangesOf", "(LStratumLedge$Merging;)Ljava/util/ArrayList;"⟩
abbrev cX10_partsOf : ByteArray := prog_1_method_60_code
def yX10_partsOf : MethodName := ⟨RX10, "partsOf", "(Ljava/util/ArrayList;II)Ljava/util/ArrayList;"⟩
abbrev cX10_endOfRun : ByteArray := prog_1_method_61_code
def yX10_endOfRun : MethodName := ⟨RX10, "endOfRun", "(Ljava/util/ArrayList;I)I"⟩
abbrev cX10_endOfKey : ByteArray := prog_1_method_62_code
def yX10_endOfKey : MethodName := ⟨RX10, "endOfKey", "(Ljava/util/ArrayList;I)I"⟩
abbrev cX10_sync : ByteArray := prog_1_method_63_code
def yX10_sync : MethodName := ⟨RX10, "sync", "()I"⟩
abbrev cX10_log : ByteArray := prog_1_method_64_code
def yX10_log : MethodName := ⟨RX10, "log", "()I"⟩
abbrev cX10_crash : ByteArray := prog_1_method_65_code
def yX10_crash : MethodName := ⟨RX10, "crash", "()I"⟩
abbrev cX10_backup : ByteArray := prog_1_method_66_code
def yX10_backup : MethodName := ⟨RX10, "backup", "()I"⟩
abbrev cX10_restore : ByteArray := prog_1_method_67_code
def yX10_restore : MethodName := ⟨RX10, "restore", "(I)I"⟩
abbrev cX10_shared : ByteArray := prog_1_method_68_code
def yX10_shared : MethodName := ⟨RX10, "shared", "(II)I"⟩
abbrev cX10_version : ByteArray := prog_1_method_69_code
def yX10_version : MethodName := ⟨RX10, "version", "()I"⟩
abbrev cX10_backupAt : ByteArray := prog_1_method_70_code
def yX10_backupAt : MethodName := ⟨RX10, "backupAt", "(I)LStratumLedge$Backup;"⟩
abbrev cX10_forgetWork : ByteArray := prog_1_method_71_code
def yX10_forgetWork : MethodName := ⟨RX10, "forgetWork", "()V"⟩
abbrev cX10_blocks : ByteArray := prog_1_method_72_code
def yX10_blocks : MethodName := ⟨RX10, "blocks", "()I"⟩
abbrev cX10_asked : ByteArray := prog_1_method_73_code
def yX10_asked : MethodName := ⟨RX10, "asked", "()I"⟩
abbrev cX10_falsePasses : ByteArray := prog_1_method_74_code
def yX10_falsePasses : MethodName := ⟨RX10, "falsePasses", "()I"⟩
abbrev cX10_isSound : ByteArray := prog_1_method_80_code
def yX10_isSound : MethodName := ⟨RX10, "isSound", "()Z"⟩
abbrev cX10_hasSameValues : ByteArray := prog_1_method_82_code
def yX10_hasSameValues : MethodName := ⟨RX10, "hasSameValues", "(LStratumLedge$Family;)Z"⟩
abbrev cX10_bitsOf : ByteArray := prog_1_method_83_code
def yX10_bitsOf : MethodName := ⟨RX10, "bitsOf", "(F)I"⟩
abbrev cX10_familyAt : ByteArray := prog_1_method_85_code
def yX10_familyAt : MethodName := ⟨RX10, "familyAt", "(I)LStratumLedge$Family;"⟩
abbrev cX10_levelAt : ByteArray := prog_1_method_86_code
def yX10_levelAt : MethodName := ⟨RX10, "levelAt", "(II)LStratumLedge$Level;"⟩
abbrev cX10_runAt : ByteArray := prog_1_method_87_code
def yX10_runAt : MethodName := ⟨RX10, "runAt", "(III)LStratumLedge$Run;"⟩
abbrev cX10_isKey : ByteArray := prog_1_method_88_code
def yX10_isKey : MethodName := ⟨RX10, "isKey", "(I)Z"⟩
abbrev cX10_checkKeys : ByteArray := prog_1_method_89_code
def yX10_checkKeys : MethodName := ⟨RX10, "checkKeys", "(II)V"⟩
def RX11 : String := "StratumLedgeModel$Backup"
def TX11 : u_T := fun k => match k with
  | _ => ("", "", "", false)
def tyX11 : Nat → FieldType := fun k => match k with
  | _ => .int
abbrev wsX110 : List Cond := u_ws RX11 TX11 0
theorem nmX11 : ∀ a, a < 0 → ∀ b, b < 0 → a ≠ b → (TX11 a).2.1 ≠ (TX11 b).2.1 := by decide +kernel
theorem tyX11_ok : ∀ k, k < 0 → parseFieldDescriptor (TX11 k).2.2.1 = some (tyX11 k) := by decide +kernel
def RX12 : String := "StratumLedgeModel$Families"
def TX12 : u_T := fun k => match k with
  | _ => ("", "", "", false)
def tyX12 : Nat → FieldType := fun k => match k with
  | _ => .int
abbrev wsX120 : List Cond := u_ws RX12 TX12 0
theorem nmX12 : ∀ a, a < 0 → ∀ b, b < 0 → a ≠ b → (TX12 a).2.1 ≠ (TX12 b).2.1 := by decide +kernel
theorem tyX12_ok : ∀ k, k < 0 → parseFieldDescriptor (TX12 k).2.2.1 = some (tyX12 k) := by decide +kernel
def RX13 : String := "StratumLedgeModel$Held"
def TX13 : u_T := fun k => match k with
  | _ => ("", "", "", false)
def tyX13 : Nat → FieldType := fun k => match k with
  | _ => .int
abbrev wsX130 : List Cond := u_ws RX13 TX13 0
theorem nmX13 : ∀ a, a < 0 → ∀ b, b < 0 → a ≠ b → (TX13 a).2.1 ≠ (TX13 b).2.1 := by decide +kernel
theorem tyX13_ok : ∀ k, k < 0 → parseFieldDescriptor (TX13 k).2.2.1 = some (tyX13 k) := by decide +kernel
def RX14 : String := "StratumLedgeModel$Item"
def TX14 : u_T := fun k => match k with
  | _ => ("", "", "", false)
def tyX14 : Nat → FieldType := fun k => match k with
  | _ => .int
abbrev wsX140 : List Cond := u_ws RX14 TX14 0
theorem nmX14 : ∀ a, a < 0 → ∀ b, b < 0 → a ≠ b → (TX14 a).2.1 ≠ (TX14 b).2.1 := by decide +kernel
theorem tyX14_ok : ∀ k, k < 0 → parseFieldDescriptor (TX14 k).2.2.1 = some (tyX14 k) := by decide +kernel
def RX15 : String := "StratumLedgeModel$Merging"
def TX15 : u_T := fun k => match k with
  | _ => ("", "", "", false)
def tyX15 : Nat → FieldType := fun k => match k with
  | _ => .int
abbrev wsX150 : List Cond := u_ws RX15 TX15 0
theorem nmX15 : ∀ a, a < 0 → ∀ b, b < 0 → a ≠ b → (TX15 a).2.1 ≠ (TX15 b).2.1 := by decide +kernel
theorem tyX15_ok : ∀ k, k < 0 → parseFieldDescriptor (TX15 k).2.2.1 = some (tyX15 k) := by decide +kernel
def RX16 : String := "StratumLedgeModel$Run"
def TX16 : u_T := fun k => match k with
  | _ => ("", "", "", false)
def tyX16 : Nat → FieldType := fun k => match k with
  | _ => .int
abbrev wsX160 : List Cond := u_ws RX16 TX16 0
theorem nmX16 : ∀ a, a < 0 → ∀ b, b < 0 → a ≠ b → (TX16 a).2.1 ≠ (TX16 b).2.1 := by decide +kernel
theorem tyX16_ok : ∀ k, k < 0 → parseFieldDescriptor (TX16 k).2.2.1 = some (tyX16 k) := by decide +kernel
def RX17 : String := "StratumLedgeModel$Write"
def TX17 : u_T := fun k => match k with
  | _ => ("", "", "", false)
def tyX17 : Nat → FieldType := fun k => match k with
  | _ => .int
abbrev wsX170 : List Cond := u_ws RX17 TX17 0
theorem nmX17 : ∀ a, a < 0 → ∀ b, b < 0 → a ≠ b → (TX17 a).2.1 ≠ (TX17 b).2.1 := by decide +kernel
theorem tyX17_ok : ∀ k, k < 0 → parseFieldDescriptor (TX17 k).2.2.1 = some (tyX17 k) := by decide +kernel
def RX18 : String := "StratumLedgeModel"
def TX18 : u_T := fun k => match k with
  | _ => ("", "", "", false)
def tyX18 : Nat → FieldType := fun k => match k with
  | _ => .int
abbrev wsX180 : List Cond := u_ws RX18 TX18 0
theorem nmX18 : ∀ a, a < 0 → ∀ b, b < 0 → a ≠ b → (TX18 a).2.1 ≠ (TX18 b).2.1 := by decide +kernel
theorem tyX18_ok : ∀ k, k < 0 → parseFieldDescriptor (TX18 k).2.2.1 = some (tyX18 k) := by decide +kernel
def RJx145de : String := "java/io/Serializable"
def TJx145de : u_T := fun k => match k with
  | _ => ("", "", "", false)
def tyJx145de : Nat → FieldType := fun k => match k with
  | _ => .int
abbrev wsJx145de0 : List Cond := u_ws RJx145de TJx145de 0
theorem nmJx145de : ∀ a, a < 0 → ∀ b, b < 0 → a ≠ b → (TJx145de a).2.1 ≠ (TJx145de b).2.1 := by decide +kernel
theorem tyJx145de_ok : ∀ k, k < 0 → parseFieldDescriptor (TJx145de k).2.2.1 = some (tyJx145de k) := by decide +kernel
def RJ5 : String := "java/lang/AbstractStringBuilder"
def TJ5 : u_T := fun k => match k with
  | _ => ("", "", "", false)
def tyJ5 : Nat → FieldType := fun k => match k with
  | _ => .int
abbrev wsJ50 : List Cond := u_ws RJ5 TJ5 0
theorem nmJ5 : ∀ a, a < 0 → ∀ b, b < 0 → a ≠ b → (TJ5 a).2.1 ≠ (TJ5 b).2.1 := by decide +kernel
theorem tyJ5_ok : ∀ k, k < 0 → parseFieldDescriptor (TJ5 k).2.2.1 = some (tyJ5 k) := by decide +kernel
abbrev cJ5_init_d00df : ByteArray := prog_22_method_2_code
def yJ5_init_d00df : MethodName := ⟨RJ5, "<init>", "(I)V"⟩
abbrev cJ5_length_8abf5 : ByteArray := prog_22_method_6_code
def yJ5_length_8abf5 : MethodName := ⟨RJ5, "length", "()I"⟩
abbrev cJ5_ensureCapacityInternal_d00df : ByteArray := prog_22_method_9_code
def yJ5_ensureCapacityInternal_d00df : MethodName := ⟨RJ5, "ensureCapacityInternal", "(I)V"⟩
abbrev cJ5_newCapacity_0f7a4 : ByteArray := prog_22_method_10_code
def yJ5_newCapacity_0f7a4 : MethodName := ⟨RJ5, "newCapacity", "(I)I"⟩
abbrev cJ5_inflate_da8c8 : ByteArray := prog_22_method_11_code
def yJ5_inflate_da8c8 : MethodName := ⟨RJ5, "inflate", "()V"⟩
abbrev cJ5_append_cf1ce : ByteArray := prog_22_method_22_code
def yJ5_append_cf1ce : MethodName := ⟨RJ5, "append", "(Ljava/lang/String;)Ljava/lang/AbstractStringBuilder;"⟩
abbrev cJ5_appendNull_278bc : ByteArray := prog_22_method_26_code
def yJ5_appendNull_278bc : MethodName := ⟨RJ5, "appendNull", "()Ljava/lang/AbstractStringBuilder;"⟩
abbrev cJ5_append_c97b9 : ByteArray := prog_22_method_32_code
def yJ5_append_c97b9 : MethodName := ⟨RJ5, "append", "(I)Ljava/lang/AbstractStringBuilder;"⟩
abbrev cJ5_getValue_6d5f1 : ByteArray := prog_22_method_64_code
def yJ5_getValue_6d5f1 : MethodName := ⟨RJ5, "getValue", "()[B"⟩
abbrev cJ5_isLatin1_aae02 : ByteArray := prog_22_method_68_code
def yJ5_isLatin1_aae02 : MethodName := ⟨RJ5, "isLatin1", "()Z"⟩
abbrev cJ5_inflateIfNeededFor_a7421 : ByteArray := prog_22_method_71_code
def yJ5_inflateIfNeededFor_a7421 : MethodName := ⟨RJ5, "inflateIfNeededFor", "(Ljava/lang/String;)V"⟩
abbrev cJ5_putStringAt_47b60 : ByteArray := prog_22_method_73_code
def yJ5_putStringAt_47b60 : MethodName := ⟨RJ5, "putStringAt", "(ILjava/lang/String;)V"⟩
def RJx2cfe8 : String := "java/lang/Appendable"
def TJx2cfe8 : u_T := fun k => match k with
  | _ => ("", "", "", false)
def tyJx2cfe8 : Nat → FieldType := fun k => match k with
  | _ => .int
abbrev wsJx2cfe80 : List Cond := u_ws RJx2cfe8 TJx2cfe8 0
theorem nmJx2cfe8 : ∀ a, a < 0 → ∀ b, b < 0 → a ≠ b → (TJx2cfe8 a).2.1 ≠ (TJx2cfe8 b).2.1 := by decide +kernel
theorem tyJx2cfe8_ok : ∀ k, k < 0 → parseFieldDescriptor (TJx2cfe8 k).2.2.1 = some (tyJx2cfe8 k) := by decide +kernel
def RJx00060 : String := "java/lang/ArrayIndexOutOfBoundsException"
def TJx00060 : u_T := fun k => match k with
  | 0 => ("java/lang/Throwable", "backtrace", "Ljava/lang/Object;", false)
  | 1 => ("java/lang/Throwable", "detailMessage", "Ljava/lang/String;", false)
  | 2 => ("java/lang/Throwable", "cause", "Ljava/lang/Throwable;", false)
  | 3 => ("java/lang/Throwable", "stackTrace", "[Ljava/lang/StackTraceElement;", false)
  | 4 => ("java/lang/Throwable", "depth", "I", false)
  | _ => ("java/lang/Throwable", "suppressedExceptions", "Ljava/util/List;", false)
def tyJx00060 : Nat → FieldType := fun k => match k with
  | 0 => .object "java/lang/Object"
  | 1 => .object "java/lang/String"
  | 2 => .object "java/lang/Throwable"
  | 3 => .array (.object "java/lang/StackTraceElement")
  | 4 => .int
  | _ => .object "java/util/List"
abbrev wsJx000600 : List Cond := u_ws RJx00060 TJx00060 6
theorem nmJx00060 : ∀ a, a < 6 → ∀ b, b < 6 → a ≠ b → (TJx00060 a).2.1 ≠ (TJx00060 b).2.1 := by decide +kernel
theorem tyJx00060_ok : ∀ k, k < 6 → parseFieldDescriptor (TJx00060 k).2.2.1 = some (tyJx00060 k) := by decide +kernel
abbrev cJx00060_init_a7421 : ByteArray := prog_24_method_2_code
def yJx00060_init_a7421 : MethodName := ⟨RJx00060, "<init>", "(Ljava/lang/String;)V"⟩
def RJx9f9b0 : String := "java/lang/CharSequence"
def TJx9f9b0 : u_T := fun k => match k with
  | _ => ("", "", "", false)
def tyJx9f9b0 : Nat → FieldType := fun k => match k with
  | _ => .int
abbrev wsJx9f9b00 : List Cond := u_ws RJx9f9b0 TJx9f9b0 0
theorem nmJx9f9b0 : ∀ a, a < 0 → ∀ b, b < 0 → a ≠ b → (TJx9f9b0 a).2.1 ≠ (TJx9f9b0 b).2.1 := by decide +kernel
theorem tyJx9f9b0_ok : ∀ k, k < 0 → parseFieldDescriptor (TJx9f9b0 k).2.2.1 = some (tyJx9f9b0 k) := by decide +kernel
def RJx8e188 : String := "java/lang/Cloneable"
def TJx8e188 : u_T := fun k => match k with
  | _ => ("", "", "", false)
def tyJx8e188 : Nat → FieldType := fun k => match k with
  | _ => .int
abbrev wsJx8e1880 : List Cond := u_ws RJx8e188 TJx8e188 0
theorem nmJx8e188 : ∀ a, a < 0 → ∀ b, b < 0 → a ≠ b → (TJx8e188 a).2.1 ≠ (TJx8e188 b).2.1 := by decide +kernel
theorem tyJx8e188_ok : ∀ k, k < 0 → parseFieldDescriptor (TJx8e188 k).2.2.1 = some (tyJx8e188 k) := by decide +kernel
def RJxb160c : String := "java/lang/Comparable"
def TJxb160c : u_T := fun k => match k with
  | _ => ("", "", "", false)
def tyJxb160c : Nat → FieldType := fun k => match k with
  | _ => .int
abbrev wsJxb160c0 : List Cond := u_ws RJxb160c TJxb160c 0
theorem nmJxb160c : ∀ a, a < 0 → ∀ b, b < 0 → a ≠ b → (TJxb160c a).2.1 ≠ (TJxb160c b).2.1 := by decide +kernel
theorem tyJxb160c_ok : ∀ k, k < 0 → parseFieldDescriptor (TJxb160c k).2.2.1 = some (tyJxb160c k) := by decide +kernel
def RJxf58ca : String := "java/lang/Float"
def TJxf58ca : u_T := fun k => match k with
  | _ => ("", "", "", false)
def tyJxf58ca : Nat → FieldType := fun k => match k with
  | _ => .int
abbrev wsJxf58ca0 : List Cond := u_ws RJxf58ca TJxf58ca 0
theorem nmJxf58ca : ∀ a, a < 0 → ∀ b, b < 0 → a ≠ b → (TJxf58ca a).2.1 ≠ (TJxf58ca b).2.1 := by decide +kernel
theorem tyJxf58ca_ok : ∀ k, k < 0 → parseFieldDescriptor (TJxf58ca k).2.2.1 = some (tyJxf58ca k) := by decide +kernel
abbrev cJxf58ca_isNaN_12338 : ByteArray := prog_29_method_6_code
def yJxf58ca_isNaN_12338 : MethodName := ⟨RJxf58ca, "isNaN", "(F)Z"⟩
abbrev cJxf58ca_floatToIntBits_5c35a : ByteArray := prog_29_method_24_code
def yJxf58ca_floatToIntBits_5c35a : MethodName := ⟨RJxf58ca, "floatToIntBits", "(F)I"⟩
def RJ6 : String := "java/lang/Integer"
def TJ6 : u_T := fun k => match k with
  | _ => ("", "", "", false)
def tyJ6 : Nat → FieldType := fun k => match k with
  | _ => .int
abbrev wsJ60 : List Cond := u_ws RJ6 TJ6 0
theorem nmJ6 : ∀ a, a < 0 → ∀ b, b < 0 → a ≠ b → (TJ6 a).2.1 ≠ (TJ6 b).2.1 := by decide +kernel
theorem tyJ6_ok : ∀ k, k < 0 → parseFieldDescriptor (TJ6 k).2.2.1 = some (tyJ6 k) := by decide +kernel
abbrev cJ6_getChars_ba4f3 : ByteArray := prog_33_method_12_code
def yJ6_getChars_ba4f3 : MethodName := ⟨RJ6, "getChars", "(II[B)I"⟩
abbrev cJ6_stringSize_0f7a4 : ByteArray := prog_33_method_13_code
def yJ6_stringSize_0f7a4 : MethodName := ⟨RJ6, "stringSize", "(I)I"⟩
def RJxab1ab : String := "java/lang/Iterable"
def TJxab1ab : u_T := fun k => match k with
  | _ => ("", "", "", false)
def tyJxab1ab : Nat → FieldType := fun k => match k with
  | _ => .int
abbrev wsJxab1ab0 : List Cond := u_ws RJxab1ab TJxab1ab 0
theorem nmJxab1ab : ∀ a, a < 0 → ∀ b, b < 0 → a ≠ b → (TJxab1ab a).2.1 ≠ (TJxab1ab b).2.1 := by decide +kernel
theorem tyJxab1ab_ok : ∀ k, k < 0 → parseFieldDescriptor (TJxab1ab k).2.2.1 = some (tyJxab1ab k) := by decide +kernel
def RJ9 : String := "java/lang/Math"
def TJ9 : u_T := fun k => match k with
  | _ => ("", "", "", false)
def tyJ9 : Nat → FieldType := fun k => match k with
  | _ => .int
abbrev wsJ90 : List Cond := u_ws RJ9 TJ9 0
theorem nmJ9 : ∀ a, a < 0 → ∀ b, b < 0 → a ≠ b → (TJ9 a).2.1 ≠ (TJ9 b).2.1 := by decide +kernel
theorem tyJ9_ok : ∀ k, k < 0 → parseFieldDescriptor (TJ9 k).2.2.1 = some (tyJ9 k) := by decide +kernel
abbrev cJ9_max_7cf53 : ByteArray := prog_35_method_65_code
def yJ9_max_7cf53 : MethodName := ⟨RJ9, "max", "(II)I"⟩
abbrev cJ9_min_7cf53 : ByteArray := prog_35_method_69_code
def yJ9_min_7cf53 : MethodName := ⟨RJ9, "min", "(II)I"⟩
def RJxd2413 : String := "java/lang/Number"
def TJxd2413 : u_T := fun k => match k with
  | _ => ("", "", "", false)
def tyJxd2413 : Nat → FieldType := fun k => match k with
  | _ => .int
abbrev wsJxd24130 : List Cond := u_ws RJxd2413 TJxd2413 0
theorem nmJxd2413 : ∀ a, a < 0 → ∀ b, b < 0 → a ≠ b → (TJxd2413 a).2.1 ≠ (TJxd2413 b).2.1 := by decide +kernel
theorem tyJxd2413_ok : ∀ k, k < 0 → parseFieldDescriptor (TJxd2413 k).2.2.1 = some (tyJxd2413 k) := by decide +kernel
def RJ0 : String := "java/lang/String"
def TJ0 : u_T := fun k => match k with
  | 0 => ("java/lang/String", "value", "[B", true)
  | 1 => ("java/lang/String", "coder", "B", true)
  | 2 => ("java/lang/String", "hash", "I", false)
  | _ => ("java/lang/String", "hashIsZero", "Z", false)
def tyJ0 : Nat → FieldType := fun k => match k with
  | 0 => .array .byte
  | 1 => .byte
  | 2 => .int
  | _ => .boolean
abbrev wsJ00 : List Cond := u_ws RJ0 TJ0 4
theorem nmJ0 : ∀ a, a < 4 → ∀ b, b < 4 → a ≠ b → (TJ0 a).2.1 ≠ (TJ0 b).2.1 := by decide +kernel
theorem tyJ0_ok : ∀ k, k < 4 → parseFieldDescriptor (TJ0 k).2.2.1 = some (tyJ0 k) := by decide +kernel
abbrev cJ0_init_81219 : ByteArray := prog_38_method_53_code
def yJ0_init_81219 : MethodName := ⟨RJ0, "<init>", "(Ljava/lang/StringBuilder;)V"⟩
abbrev cJ0_length_8abf5 : ByteArray := prog_38_method_54_code
def yJ0_length_8abf5 : MethodName := ⟨RJ0, "length", "()I"⟩
abbrev cJ0_charAt_5068e : ByteArray := prog_38_method_56_code
def yJ0_charAt_5068e : MethodName := ⟨RJ0, "charAt", "(I)C"⟩
abbrev cJ0_getBytes_840e7 : ByteArray := prog_38_method_147_code
def yJ0_getBytes_840e7 : MethodName := ⟨RJ0, "getBytes", "([BIB)V"⟩
abbrev cJ0_init_db425 : ByteArray := prog_38_method_150_code
def yJ0_init_db425 : MethodName := ⟨RJ0, "<init>", "(Ljava/lang/AbstractStringBuilder;Ljava/lang/Void;)V"⟩
abbrev cJ0_coder_7d493 : ByteArray := prog_38_method_152_code
def yJ0_coder_7d493 : MethodName := ⟨RJ0, "coder", "()B"⟩
abbrev cJ0_isLatin1_aae02 : ByteArray := prog_38_method_154_code
def yJ0_isLatin1_aae02 : MethodName := ⟨RJ0, "isLatin1", "()Z"⟩
abbrev cJ0_checkIndex_df160 : ByteArray := prog_38_method_155_code
def yJ0_checkIndex_df160 : MethodName := ⟨RJ0, "checkIndex", "(II)V"⟩
abbrev cJ0_checkBoundsOffCount_cabcc : ByteArray := prog_38_method_157_code
def yJ0_checkBoundsOffCount_cabcc : MethodName := ⟨RJ0, "checkBoundsOffCount", "(III)I"⟩
abbrev cJ0_checkBoundsBeginEnd_23922 : ByteArray := prog_38_method_158_code
def yJ0_checkBoundsBeginEnd_23922 : MethodName := ⟨RJ0, "checkBoundsBeginEnd", "(III)V"⟩
def RJ4 : String := "java/lang/StringBuilder"
def TJ4 : u_T := fun k => match k with
  | 0 => ("java/lang/AbstractStringBuilder", "value", "[B", false)
  | 1 => ("java/lang/AbstractStringBuilder", "coder", "B", false)
  | 2 => ("java/lang/AbstractStringBuilder", "maybeLatin1", "Z", false)
  | _ => ("java/lang/AbstractStringBuilder", "count", "I", false)
def tyJ4 : Nat → FieldType := fun k => match k with
  | 0 => .array .byte
  | 1 => .byte
  | 2 => .boolean
  | _ => .int
abbrev wsJ40 : List Cond := u_ws RJ4 TJ4 4
theorem nmJ4 : ∀ a, a < 4 → ∀ b, b < 4 → a ≠ b → (TJ4 a).2.1 ≠ (TJ4 b).2.1 := by decide +kernel
theorem tyJ4_ok : ∀ k, k < 4 → parseFieldDescriptor (TJ4 k).2.2.1 = some (tyJ4 k) := by decide +kernel
abbrev cJ4_init_da8c8 : ByteArray := prog_39_method_1_code
def yJ4_init_da8c8 : MethodName := ⟨RJ4, "<init>", "()V"⟩
abbrev cJ4_append_15ec4 : ByteArray := prog_39_method_7_code
def yJ4_append_15ec4 : MethodName := ⟨RJ4, "append", "(Ljava/lang/String;)Ljava/lang/StringBuilder;"⟩
abbrev cJ4_append_bf812 : ByteArray := prog_39_method_15_code
def yJ4_append_bf812 : MethodName := ⟨RJ4, "append", "(I)Ljava/lang/StringBuilder;"⟩
abbrev cJ4_toString_0e30d : ByteArray := prog_39_method_42_code
def yJ4_toString_0e30d : MethodName := ⟨RJ4, "toString", "()Ljava/lang/String;"⟩
abbrev cJ4_length_8abf5 : ByteArray := prog_39_method_93_code
def yJ4_length_8abf5 : MethodName := ⟨RJ4, "length", "()I"⟩
def RJ1 : String := "java/lang/StringLatin1"
def TJ1 : u_T := fun k => match k with
  | _ => ("", "", "", false)
def tyJ1 : Nat → FieldType := fun k => match k with
  | _ => .int
abbrev wsJ10 : List Cond := u_ws RJ1 TJ1 0
theorem nmJ1 : ∀ a, a < 0 → ∀ b, b < 0 → a ≠ b → (TJ1 a).2.1 ≠ (TJ1 b).2.1 := by decide +kernel
theorem tyJ1_ok : ∀ k, k < 0 → parseFieldDescriptor (TJ1 k).2.2.1 = some (tyJ1 k) := by decide +kernel
abbrev cJ1_charAt_3b067 : ByteArray := prog_40_method_2_code
def yJ1_charAt_3b067 : MethodName := ⟨RJ1, "charAt", "([BI)C"⟩
abbrev cJ1_inflate_0e8fd : ByteArray := prog_40_method_50_code
def yJ1_inflate_0e8fd : MethodName := ⟨RJ1, "inflate", "([BI[BII)V"⟩
def RJ2 : String := "java/lang/StringUTF16"
def TJ2 : u_T := fun k => match k with
  | _ => ("", "", "", false)
def tyJ2 : Nat → FieldType := fun k => match k with
  | _ => .int
abbrev wsJ20 : List Cond := u_ws RJ2 TJ2 0
theorem nmJ2 : ∀ a, a < 0 → ∀ b, b < 0 → a ≠ b → (TJ2 a).2.1 ≠ (TJ2 b).2.1 := by decide +kernel
theorem tyJ2_ok : ∀ k, k < 0 → parseFieldDescriptor (TJ2 k).2.2.1 = some (tyJ2 k) := by decide +kernel
abbrev cJ2_newBytesFor_77867 : ByteArray := prog_41_method_2_code
def yJ2_newBytesFor_77867 : MethodName := ⟨RJ2, "newBytesFor", "(I)[B"⟩
abbrev cJ2_newBytesLength_0f7a4 : ByteArray := prog_41_method_3_code
def yJ2_newBytesLength_0f7a4 : MethodName := ⟨RJ2, "newBytesLength", "(I)I"⟩
abbrev cJ2_putChar_b72d1 : ByteArray := prog_41_method_4_code
def yJ2_putChar_b72d1 : MethodName := ⟨RJ2, "putChar", "([BII)V"⟩
abbrev cJ2_getChar_3b067 : ByteArray := prog_41_method_5_code
def yJ2_getChar_3b067 : MethodName := ⟨RJ2, "getChar", "([BI)C"⟩
abbrev cJ2_length_9d52b : ByteArray := prog_41_method_6_code
def yJ2_length_9d52b : MethodName := ⟨RJ2, "length", "([B)I"⟩
abbrev cJ2_coderFromArrayLen_85cad : ByteArray := prog_41_method_15_code
def yJ2_coderFromArrayLen_85cad : MethodName := ⟨RJ2, "coderFromArrayLen", "([BI)B"⟩
abbrev cJ2_compress_39247 : ByteArray := prog_41_method_17_code
def yJ2_compress_39247 : MethodName := ⟨RJ2, "compress", "([BII)[B"⟩
abbrev cJ2_compress_5af95 : ByteArray := prog_41_method_22_code
def yJ2_compress_5af95 : MethodName := ⟨RJ2, "compress", "([BI[BII)I"⟩
abbrev cJ2_getChars_46870 : ByteArray := prog_41_method_77_code
def yJ2_getChars_46870 : MethodName := ⟨RJ2, "getChars", "(III[B)I"⟩
abbrev cJ2_putCharsAt_cd4e5 : ByteArray := prog_41_method_81_code
def yJ2_putCharsAt_cd4e5 : MethodName := ⟨RJ2, "putCharsAt", "([BICCCC)I"⟩
abbrev cJ2_charAt_3b067 : ByteArray := prog_41_method_83_code
def yJ2_charAt_3b067 : MethodName := ⟨RJ2, "charAt", "([BI)C"⟩
abbrev cJ2_inflate_0e8fd : ByteArray := prog_41_method_86_code
def yJ2_inflate_0e8fd : MethodName := ⟨RJ2, "inflate", "([BI[BII)V"⟩
abbrev cJ2_getChars_ba4f3 : ByteArray := prog_41_method_89_code
def yJ2_getChars_ba4f3 : MethodName := ⟨RJ2, "getChars", "(II[B)I"⟩
abbrev cJ2_checkIndex_2214a : ByteArray := prog_41_method_91_code
def yJ2_checkIndex_2214a : MethodName := ⟨RJ2, "checkIndex", "(I[B)V"⟩
abbrev cJ2_checkBoundsBeginEnd_d044e : ByteArray := prog_41_method_93_code
def yJ2_checkBoundsBeginEnd_d044e : MethodName := ⟨RJ2, "checkBoundsBeginEnd", "(II[B)V"⟩
abbrev cJ2_checkBoundsOffCount_d044e : ByteArray := prog_41_method_94_code
def yJ2_checkBoundsOffCount_d044e : MethodName := ⟨RJ2, "checkBoundsOffCount", "(II[B)V"⟩
def RJ10 : String := "java/lang/System"
def TJ10 : u_T := fun k => match k with
  | _ => ("", "", "", false)
def tyJ10 : Nat → FieldType := fun k => match k with
  | _ => .int
abbrev wsJ100 : List Cond := u_ws RJ10 TJ10 0
theorem nmJ10 : ∀ a, a < 0 → ∀ b, b < 0 → a ≠ b → (TJ10 a).2.1 ≠ (TJ10 b).2.1 := by decide +kernel
theorem tyJ10_ok : ∀ k, k < 0 → parseFieldDescriptor (TJ10 k).2.2.1 = some (tyJ10 k) := by decide +kernel
def RJxfd54e : String := "java/lang/constant/Constable"
def TJxfd54e : u_T := fun k => match k with
  | _ => ("", "", "", false)
def tyJxfd54e : Nat → FieldType := fun k => match k with
  | _ => .int
abbrev wsJxfd54e0 : List Cond := u_ws RJxfd54e TJxfd54e 0
theorem nmJxfd54e : ∀ a, a < 0 → ∀ b, b < 0 → a ≠ b → (TJxfd54e a).2.1 ≠ (TJxfd54e b).2.1 := by decide +kernel
theorem tyJxfd54e_ok : ∀ k, k < 0 → parseFieldDescriptor (TJxfd54e k).2.2.1 = some (tyJxfd54e k) := by decide +kernel
def RJx3cf43 : String := "java/lang/constant/ConstantDesc"
def TJx3cf43 : u_T := fun k => match k with
  | _ => ("", "", "", false)
def tyJx3cf43 : Nat → FieldType := fun k => match k with
  | _ => .int
abbrev wsJx3cf430 : List Cond := u_ws RJx3cf43 TJx3cf43 0
theorem nmJx3cf43 : ∀ a, a < 0 → ∀ b, b < 0 → a ≠ b → (TJx3cf43 a).2.1 ≠ (TJx3cf43 b).2.1 := by decide +kernel
theorem tyJx3cf43_ok : ∀ k, k < 0 → parseFieldDescriptor (TJx3cf43 k).2.2.1 = some (tyJx3cf43 k) := by decide +kernel
def RJxa1e45 : String := "java/util/AbstractCollection"
def TJxa1e45 : u_T := fun k => match k with
  | _ => ("", "", "", false)
def tyJxa1e45 : Nat → FieldType := fun k => match k with
  | _ => .int
abbrev wsJxa1e450 : List Cond := u_ws RJxa1e45 TJxa1e45 0
theorem nmJxa1e45 : ∀ a, a < 0 → ∀ b, b < 0 → a ≠ b → (TJxa1e45 a).2.1 ≠ (TJxa1e45 b).2.1 := by decide +kernel
theorem tyJxa1e45_ok : ∀ k, k < 0 → parseFieldDescriptor (TJxa1e45 k).2.2.1 = some (tyJxa1e45 k) := by decide +kernel
abbrev cJxa1e45_init_da8c8 : ByteArray := prog_46_method_1_code
def yJxa1e45_init_da8c8 : MethodName := ⟨RJxa1e45, "<init>", "()V"⟩
def RJxc12de : String := "java/util/AbstractList"
def TJxc12de : u_T := fun k => match k with
  | _ => ("", "", "", false)
def tyJxc12de : Nat → FieldType := fun k => match k with
  | _ => .int
abbrev wsJxc12de0 : List Cond := u_ws RJxc12de TJxc12de 0
theorem nmJxc12de : ∀ a, a < 0 → ∀ b, b < 0 → a ≠ b → (TJxc12de a).2.1 ≠ (TJxc12de b).2.1 := by decide +kernel
theorem tyJxc12de_ok : ∀ k, k < 0 → parseFieldDescriptor (TJxc12de k).2.2.1 = some (tyJxc12de k) := by decide +kernel
abbrev cJxc12de_init_da8c8 : ByteArray := prog_47_method_1_code
def yJxc12de_init_da8c8 : MethodName := ⟨RJxc12de, "<init>", "()V"⟩
def RJx4a65c : String := "java/util/ArrayList"
def TJx4a65c : u_T := fun k => match k with
  | 0 => ("java/util/AbstractList", "modCount", "I", false)
  | 1 => ("java/util/ArrayList", "elementData", "[Ljava/lang/Object;", false)
  | _ => ("java/util/ArrayList", "size", "I", false)
def tyJx4a65c : Nat → FieldType := fun k => match k with
  | 0 => .int
  | 1 => .array (.object "java/lang/Object")
  | _ => .int
abbrev wsJx4a65c0 : List Cond := u_ws RJx4a65c TJx4a65c 3
theorem nmJx4a65c : ∀ a, a < 3 → ∀ b, b < 3 → a ≠ b → (TJx4a65c a).2.1 ≠ (TJx4a65c b).2.1 := by decide +kernel
theorem tyJx4a65c_ok : ∀ k, k < 3 → parseFieldDescriptor (TJx4a65c k).2.2.1 = some (tyJx4a65c k) := by decide +kernel
abbrev cJx4a65c_init_da8c8 : ByteArray := prog_48_method_2_code
def yJx4a65c_init_da8c8 : MethodName := ⟨RJx4a65c, "<init>", "()V"⟩
abbrev cJx4a65c_grow_92f84 : ByteArray := prog_48_method_6_code
def yJx4a65c_grow_92f84 : MethodName := ⟨RJx4a65c, "grow", "(I)[Ljava/lang/Object;"⟩
abbrev cJx4a65c_grow_d5877 : ByteArray := prog_48_method_7_code
def yJx4a65c_grow_d5877 : MethodName := ⟨RJx4a65c, "grow", "()[Ljava/lang/Object;"⟩
abbrev cJx4a65c_size_8abf5 : ByteArray := prog_48_method_8_code
def yJx4a65c_size_8abf5 : MethodName := ⟨RJx4a65c, "size", "()I"⟩
abbrev cJx4a65c_isEmpty_aae02 : ByteArray := prog_48_method_9_code
def yJx4a65c_isEmpty_aae02 : MethodName := ⟨RJx4a65c, "isEmpty", "()Z"⟩
abbrev cJx4a65c_elementData_915e3 : ByteArray := prog_48_method_18_code
def yJx4a65c_elementData_915e3 : MethodName := ⟨RJx4a65c, "elementData", "(I)Ljava/lang/Object;"⟩
abbrev cJx4a65c_get_915e3 : ByteArray := prog_48_method_20_code
def yJx4a65c_get_915e3 : MethodName := ⟨RJx4a65c, "get", "(I)Ljava/lang/Object;"⟩
abbrev cJx4a65c_add_72be8 : ByteArray := prog_48_method_24_code
def yJx4a65c_add_72be8 : MethodName := ⟨RJx4a65c, "add", "(Ljava/lang/Object;[Ljava/lang/Object;I)V"⟩
abbrev cJx4a65c_add_9ea2d : ByteArray := prog_48_method_25_code
def yJx4a65c_add_9ea2d : MethodName := ⟨RJx4a65c, "add", "(Ljava/lang/Object;)Z"⟩
abbrev cJx4a65c_add_7a177 : ByteArray := prog_48_method_26_code
def yJx4a65c_add_7a177 : MethodName := ⟨RJx4a65c, "add", "(ILjava/lang/Object;)V"⟩
abbrev cJx4a65c_remove_915e3 : ByteArray := prog_48_method_29_code
def yJx4a65c_remove_915e3 : MethodName := ⟨RJx4a65c, "remove", "(I)Ljava/lang/Object;"⟩
abbrev cJx4a65c_fastRemove_b59b0 : ByteArray := prog_48_method_39_code
def yJx4a65c_fastRemove_b59b0 : MethodName := ⟨RJx4a65c, "fastRemove", "([Ljava/lang/Object;I)V"⟩
abbrev cJx4a65c_clear_da8c8 : ByteArray := prog_48_method_40_code
def yJx4a65c_clear_da8c8 : MethodName := ⟨RJx4a65c, "clear", "()V"⟩
abbrev cJx4a65c_rangeCheckForAdd_d00df : ByteArray := prog_48_method_45_code
def yJx4a65c_rangeCheckForAdd_d00df : MethodName := ⟨RJx4a65c, "rangeCheckForAdd", "(I)V"⟩
abbrev cJx4a65c_outOfBoundsMsg_b52d3 : ByteArray := prog_48_method_46_code
def yJx4a65c_outOfBoundsMsg_b52d3 : MethodName := ⟨RJx4a65c, "outOfBoundsMsg", "(I)Ljava/lang/String;"⟩
def RJ7 : String := "java/util/Arrays"
def TJ7 : u_T := fun k => match k with
  | _ => ("", "", "", false)
def tyJ7 : Nat → FieldType := fun k => match k with
  | _ => .int
abbrev wsJ70 : List Cond := u_ws RJ7 TJ7 0
theorem nmJ7 : ∀ a, a < 0 → ∀ b, b < 0 → a ≠ b → (TJ7 a).2.1 ≠ (TJ7 b).2.1 := by decide +kernel
theorem tyJ7_ok : ∀ k, k < 0 → parseFieldDescriptor (TJ7 k).2.2.1 = some (tyJ7 k) := by decide +kernel
abbrev cJ7_copyOf_1904c : ByteArray := prog_49_method_119_code
def yJ7_copyOf_1904c : MethodName := ⟨RJ7, "copyOf", "([Ljava/lang/Object;I)[Ljava/lang/Object;"⟩
abbrev cJ7_copyOf_6403c : ByteArray := prog_49_method_120_code
def yJ7_copyOf_6403c : MethodName := ⟨RJ7, "copyOf", "([Ljava/lang/Object;ILjava/lang/Class;)[Ljava/lang/Object;"⟩
abbrev cJ7_copyOf_9075b : ByteArray := prog_49_method_121_code
def yJ7_copyOf_9075b : MethodName := ⟨RJ7, "copyOf", "([BI)[B"⟩
abbrev cJ7_checkLength_df160 : ByteArray := prog_49_method_131_code
def yJ7_checkLength_df160 : MethodName := ⟨RJ7, "checkLength", "(II)V"⟩
abbrev cJ7_copyOfRange_39247 : ByteArray := prog_49_method_132_code
def yJ7_copyOfRange_39247 : MethodName := ⟨RJ7, "copyOfRange", "([BII)[B"⟩
abbrev cJ7_copyOfRangeByte_39247 : ByteArray := prog_49_method_133_code
def yJ7_copyOfRangeByte_39247 : MethodName := ⟨RJ7, "copyOfRangeByte", "([BII)[B"⟩
def RJx5ef63 : String := "java/util/Collection"
def TJx5ef63 : u_T := fun k => match k with
  | _ => ("", "", "", false)
def tyJx5ef63 : Nat → FieldType := fun k => match k with
  | _ => .int
abbrev wsJx5ef630 : List Cond := u_ws RJx5ef63 TJx5ef63 0
theorem nmJx5ef63 : ∀ a, a < 0 → ∀ b, b < 0 → a ≠ b → (TJx5ef63 a).2.1 ≠ (TJx5ef63 b).2.1 := by decide +kernel
theorem tyJx5ef63_ok : ∀ k, k < 0 → parseFieldDescriptor (TJx5ef63 k).2.2.1 = some (tyJx5ef63 k) := by decide +kernel
def RJxbd725 : String := "java/util/List"
def TJxbd725 : u_T := fun k => match k with
  | _ => ("", "", "", false)
def tyJxbd725 : Nat → FieldType := fun k => match k with
  | _ => .int
abbrev wsJxbd7250 : List Cond := u_ws RJxbd725 TJxbd725 0
theorem nmJxbd725 : ∀ a, a < 0 → ∀ b, b < 0 → a ≠ b → (TJxbd725 a).2.1 ≠ (TJxbd725 b).2.1 := by decide +kernel
theorem tyJxbd725_ok : ∀ k, k < 0 → parseFieldDescriptor (TJxbd725 k).2.2.1 = some (tyJxbd725 k) := by decide +kernel
def RJ15 : String := "java/util/Objects"
def TJ15 : u_T := fun k => match k with
  | _ => ("", "", "", false)
def tyJ15 : Nat → FieldType := fun k => match k with
  | _ => .int
abbrev wsJ150 : List Cond := u_ws RJ15 TJ15 0
theorem nmJ15 : ∀ a, a < 0 → ∀ b, b < 0 → a ≠ b → (TJ15 a).2.1 ≠ (TJ15 b).2.1 := by decide +kernel
theorem tyJ15_ok : ∀ k, k < 0 → parseFieldDescriptor (TJ15 k).2.2.1 = some (tyJ15 k) := by decide +kernel
abbrev cJ15_checkIndex_7cf53 : ByteArray := prog_53_method_17_code
def yJ15_checkIndex_7cf53 : MethodName := ⟨RJ15, "checkIndex", "(II)I"⟩
def RJxf0a74 : String := "java/util/RandomAccess"
def TJxf0a74 : u_T := fun k => match k with
  | _ => ("", "", "", false)
def tyJxf0a74 : Nat → FieldType := fun k => match k with
  | _ => .int
abbrev wsJxf0a740 : List Cond := u_ws RJxf0a74 TJxf0a74 0
theorem nmJxf0a74 : ∀ a, a < 0 → ∀ b, b < 0 → a ≠ b → (TJxf0a74 a).2.1 ≠ (TJxf0a74 b).2.1 := by decide +kernel
theorem tyJxf0a74_ok : ∀ k, k < 0 → parseFieldDescriptor (TJxf0a74 k).2.2.1 = some (tyJxf0a74 k) := by decide +kernel
def RJxa66e6 : String := "java/util/SequencedCollection"
def TJxa66e6 : u_T := fun k => match k with
  | _ => ("", "", "", false)
def tyJxa66e6 : Nat → FieldType := fun k => match k with
  | _ => .int
abbrev wsJxa66e60 : List Cond := u_ws RJxa66e6 TJxa66e6 0
theorem nmJxa66e6 : ∀ a, a < 0 → ∀ b, b < 0 → a ≠ b → (TJxa66e6 a).2.1 ≠ (TJxa66e6 b).2.1 := by decide +kernel
theorem tyJxa66e6_ok : ∀ k, k < 0 → parseFieldDescriptor (TJxa66e6 k).2.2.1 = some (tyJxa66e6 k) := by decide +kernel
def RJ8 : String := "jdk/internal/util/ArraysSupport"
def TJ8 : u_T := fun k => match k with
  | _ => ("", "", "", false)
def tyJ8 : Nat → FieldType := fun k => match k with
  | _ => .int
abbrev wsJ80 : List Cond := u_ws RJ8 TJ8 0
theorem nmJ8 : ∀ a, a < 0 → ∀ b, b < 0 → a ≠ b → (TJ8 a).2.1 ≠ (TJ8 b).2.1 := by decide +kernel
theorem tyJ8_ok : ∀ k, k < 0 → parseFieldDescriptor (TJ8 k).2.2.1 = some (tyJ8 k) := by decide +kernel
abbrev cJ8_newLength_cabcc : ByteArray := prog_56_method_27_code
def yJ8_newLength_cabcc : MethodName := ⟨RJ8, "newLength", "(III)I"⟩
abbrev cJ8_hugeLength_7cf53 : ByteArray := prog_56_method_28_code
def yJ8_hugeLength_7cf53 : MethodName := ⟨RJ8, "hugeLength", "(II)I"⟩
def RJ3 : String := "jdk/internal/util/Preconditions"
def TJ3 : u_T := fun k => match k with
  | _ => ("", "", "", false)
def tyJ3 : Nat → FieldType := fun k => match k with
  | _ => .int
abbrev wsJ30 : List Cond := u_ws RJ3 TJ3 0
theorem nmJ3 : ∀ a, a < 0 → ∀ b, b < 0 → a ≠ b → (TJ3 a).2.1 ≠ (TJ3 b).2.1 := by decide +kernel
theorem tyJ3_ok : ∀ k, k < 0 → parseFieldDescriptor (TJ3 k).2.2.1 = some (tyJ3 k) := by decide +kernel
abbrev cJ3_checkIndex_8e157 : ByteArray := prog_57_method_11_code
def yJ3_checkIndex_8e157 : MethodName := ⟨RJ3, "checkIndex", "(IILjava/util/function/BiFunction;)I"⟩
abbrev cJ3_checkFromToIndex_8c36e : ByteArray := prog_57_method_12_code
def yJ3_checkFromToIndex_8c36e : MethodName := ⟨RJ3, "checkFromToIndex", "(IIILjava/util/function/BiFunction;)I"⟩
abbrev cJ3_checkFromIndexSize_8c36e : ByteArray := prog_57_method_13_code
def yJ3_checkFromIndexSize_8c36e : MethodName := ⟨RJ3, "checkFromIndexSize", "(IIILjava/util/function/BiFunction;)I"⟩
def RL : String := "StratumLedgeLaw"
abbrev cL_cell : ByteArray := method_2_code
def yL_cell : MethodName := ⟨RL, "cell", "([II)I"⟩
abbrev cL_pick : ByteArray := method_3_code
def yL_pick : MethodName := ⟨RL, "pick", "([III)I"⟩
abbrev cL_told : ByteArray := method_4_code
def yL_told : MethodName := ⟨RL, "told", "(Z)I"⟩
abbrev cL_plain : ByteArray := method_5_code
def yL_plain : MethodName := ⟨RL, "plain", "(LStratumLedge;IIIIII)I"⟩
abbrev cL_deed : ByteArray := method_6_code
def yL_deed : MethodName := ⟨RL, "deed", "(LStratumLedge;IIIIII)I"⟩
abbrev cL_asked : ByteArray := method_7_code
def yL_asked : MethodName := ⟨RL, "asked", "(LStratumLedge;IIIII)I"⟩
abbrev cL_ask : ByteArray := method_8_code
def yL_ask : MethodName := ⟨RL, "ask", "(LStratumLedge;IIIII)I"⟩
abbrev cL_write : ByteArray := method_9_code
def yL_write : MethodName := ⟨RL, "write", "([[I[IICIII)[I"⟩
abbrev cL_isOver : ByteArray := method_10_code
def yL_isOver : MethodName := ⟨RL, "isOver", "([II)Z"⟩
abbrev cL_applied : ByteArray := method_11_code
def yL_applied : MethodName := ⟨RL, "applied", "(CII)I"⟩
abbrev cL_value : ByteArray := method_12_code
def yL_value : MethodName := ⟨RL, "value", "([[I[CIII)I"⟩
abbrev cL_inMemory : ByteArray := method_13_code
def yL_inMemory : MethodName := ⟨RL, "inMemory", "([[III)I"⟩
abbrev cL_flushed : ByteArray := method_14_code
def yL_flushed : MethodName := ⟨RL, "flushed", "([[III)V"⟩
abbrev cL_logged : ByteArray := method_15_code
def yL_logged : MethodName := ⟨RL, "logged", "([[IIZ)I"⟩
abbrev cL_isWrite : ByteArray := method_16_code
def yL_isWrite : MethodName := ⟨RL, "isWrite", "(LStratumLedge;[II[[I[II)Z"⟩
abbrev cL_areRuns : ByteArray := method_17_code
def yL_areRuns : MethodName := ⟨RL, "areRuns", "(LStratumLedge;I)Z"⟩
abbrev cL_isWhole : ByteArray := method_18_code
def yL_isWhole : MethodName := ⟨RL, "isWhole", "(LStratumLedge;[[I[CIII)Z"⟩
abbrev cL_law : ByteArray := code
def yL_law : MethodName := ⟨RL, "law", "([I)Z"⟩
abbrev vwCl : List vw_C := [(RJ0, TJ0, 4), (RJ4, TJ4, 4), (RJx00060, TJx00060, 6), (RJx4a65c, TJx4a65c, 3), (RX0, TX0, 2), (RX1, TX1, 5), (RX2, TX2, 4), (RX3, TX3, 3), (RX4, TX4, 3), (RX5, TX5, 2), (RX6, TX6, 7), (RX7, TX7, 7), (RX8, TX8, 2), (RX9, TX9, 4), (RX10, TX10, 18)]
end
section
/-! THE INTERPRETER. A state of it: cells made, slots made, the cells (an object: number of its class, its fields; an array of numbers; an array of references); a reference is a cell's number, '.retAddr j' one of the things that were there ahead of the law (0 the script, 1 the text, 2 ArrayList's empty row, 3 the class object of Object[]). -/
abbrev gC : Type := (Nat × List Value) ⊕ ((FieldType × Nat × (Nat → Int32)) ⊕ (FieldType × Nat × (Nat → Option Nat)))
abbrev gH : Type := Nat × Nat × List gC
abbrev gL : Type := List (Option Value)
abbrev gI : Type := Instr × Nat × Nat × Nat
abbrev gO : Type := Option Value ⊕ Nat
abbrev gSc : Type := Nat × (Nat → Int32)
abbrev gQ : Type := Nat × gL × List Value × gH
/-- the classes: 0 ArrayList, 1 Backup, 2 Change, 3 Cursor, 4 Family, 5 Finding, 6 Level, 7 Merging, 8 Run, 9 Snapshot, 10 Write, 11 StratumLedge -/
def gCl : List vw_C := [(RJx4a65c, TJx4a65c, 3), (RX0, TX0, 2), (RX1, TX1, 5), (RX2, TX2, 4), (RX3, TX3, 3), (RX4, TX4, 3), (RX5, TX5, 2), (RX6, TX6, 7), (RX7, TX7, 7), (RX8, TX8, 2), (RX9, TX9, 4), (RX10, TX10, 18)]
def gTys : List (Nat → FieldType) := [tyJx4a65c, tyX0, tyX1, tyX2, tyX3, tyX4, tyX5, tyX6, tyX7, tyX8, tyX9, tyX10]
def gTy (c k : Nat) : FieldType := match gTys[c]? with
  | some f => f k
  | none => .int
def gCn (c : Nat) : String := match gCl[c]? with
  | some q => q.1
  | none => ""
def gN (c : Nat) : Nat := match gCl[c]? with
  | some q => q.2.2
  | none => 0
def gGet (h : gH) (k : Nat) : Option gC := h.2.2[k]?
def gPut (h : gH) (k : Nat) (x : gC) : gH := (h.1, h.2.1, h.2.2.set k x)
def gNew (h : gH) (n : Nat) (x : gC) : gH := (h.1 + 1, h.2.1 + n, h.2.2 ++ [x])
def gLd (ls : gL) (i : Nat) : Option Value := match ls[i]? with
  | some (some v) => some v
  | _ => none
def gSt (ls : gL) (i : Nat) (v : Value) : gL := ls.set i (some v)
/-- a value of one place -/
def gOk : Value → Bool
  | .int _ => true
  | .float _ => true
  | .ref _ => true
  | .null => true
  | .retAddr _ => true
  | _ => false
def gFit : FieldType → Value → Bool
  | .int, .int _ => true
  | .boolean, .int x => x == 0 || x == 1
  | .char, .int x => decide (0 ≤ x) && decide (x ≤ 65535)
  | .object _, .null => true
  | .object _, .ref _ => true
  | .object _, .retAddr _ => true
  | .array _, .null => true
  | .array _, .ref _ => true
  | .array _, .retAddr _ => true
  | _, _ => false
/-- the value of a field ahead of its first write -/
def gZ : FieldType → Value
  | .object _ => .null
  | .array _ => .null
  | _ => .int 0
/-- are two references one: none where it isn't known -/
def gSame : Value → Value → Option Bool
  | .ref a, .ref b => some (a == b)
  | .null, .null => some true
  | .null, .ref _ => some false
  | .ref _, .null => some false
  | .retAddr a, .retAddr b => if a = b then some true else none
  | .retAddr 2, .ref _ => some false
  | .ref _, .retAddr 2 => some false
  | _, _ => none
def gTest : ClassFile.Cond → Int32 → Int32 → Bool
  | .eq, x, y => decide (x = y)
  | .ne, x, y => decide (¬ x = y)
  | .lt, x, y => decide (x < y)
  | .ge, x, y => decide (y ≤ x)
  | .gt, x, y => decide (y < x)
  | .le, x, y => decide (x ≤ y)
/-- the component of an array of references that 'anewarray' makes -/
def gComp : Nat → FieldType
  | 0 => .object "java/lang/Object"
  | 1 => .object RX5
  | _ => .array .int
def gRefTy : FieldType → Bool
  | .object _ => true
  | .array _ => true
  | _ => false
/-- may a cell be stored in an array of this component -/
def gMay (ty : FieldType) (x : gC) : Bool := match ty, x with
  | .object C, .inl (ci, _) => C == "java/lang/Object" && (ci == 1 || ci == 2 || ci == 3 || ci == 4 || ci == 8 || ci == 9 || ci == 10) || C == RX5 && ci == 6
  | .array .int, .inr (.inl (t, _, _)) => t == .int
  | _, _ => false
/-- an instruction that neither calls, nor throws, nor returns -/
def gStep (sc : gSc) (q : gI) (pc : Nat) (ls : gL) (st : List Value) (h : gH) : Option gQ :=
  match q.1 with
  | .aconst_null => some (pc + 1, ls, .null :: st, h)
  | .iconst n => some (pc + 1, ls, .int (Int32.ofInt n) :: st, h)
  | .bipush n => some (pc + 2, ls, .int (Int8.ofInt n).toInt32 :: st, h)
  | .sipush n => some (pc + 3, ls, .int (Int16.ofInt n).toInt32 :: st, h)
  | .fconst k => some (pc + 1, ls, .float (if k = 0 then FP.fconst0 else if k = 1 then FP.fconst1 else FP.fconst2) :: st, h)
  | .ldc _ => match q.2.2.1 with
    | 0 => some (pc + 2, ls, .int (Int32.ofNat q.2.2.2) :: st, h)
    | 1 => some (pc + 2, ls, .float (UInt32.ofNat q.2.2.2) :: st, h)
    | 2 => some (pc + 2, ls, .retAddr q.2.2.2 :: st, h)
    | _ => none
  | .ldc_w _ => match q.2.2.1 with
    | 0 => some (pc + 3, ls, .int (Int32.ofNat q.2.2.2) :: st, h)
    | 1 => some (pc + 3, ls, .float (UInt32.ofNat q.2.2.2) :: st, h)
    | _ => none
  | .iload i => match gLd ls i with
    | some (.int x) => some (pc + 2, ls, .int x :: st, h)
    | _ => none
  | .iload_n i => match gLd ls i with
    | some (.int x) => some (pc + 1, ls, .int x :: st, h)
    | _ => none
  | .fload i => match gLd ls i with
    | some (.float x) => some (pc + 2, ls, .float x :: st, h)
    | _ => none
  | .fload_n i => match gLd ls i with
    | some (.float x) => some (pc + 1, ls, .float x :: st, h)
    | _ => none
  | .aload i => match gLd ls i with
    | some (.ref x) => some (pc + 2, ls, .ref x :: st, h)
    | some .null => some (pc + 2, ls, .null :: st, h)
    | some (.retAddr x) => some (pc + 2, ls, .retAddr x :: st, h)
    | _ => none
  | .aload_n i => match gLd ls i with
    | some (.ref x) => some (pc + 1, ls, .ref x :: st, h)
    | some .null => some (pc + 1, ls, .null :: st, h)
    | some (.retAddr x) => some (pc + 1, ls, .retAddr x :: st, h)
    | _ => none
  | .istore i => match st with
    | .int x :: st => some (pc + 2, gSt ls i (.int x), st, h)
    | _ => none
  | .istore_n i => match st with
    | .int x :: st => some (pc + 1, gSt ls i (.int x), st, h)
    | _ => none
  | .fstore i => match st with
    | .float x :: st => some (pc + 2, gSt ls i (.float x), st, h)
    | _ => none
  | .fstore_n i => match st with
    | .float x :: st => some (pc + 1, gSt ls i (.float x), st, h)
    | _ => none
  | .astore i => match st with
    | .ref x :: st => some (pc + 2, gSt ls i (.ref x), st, h)
    | .null :: st => some (pc + 2, gSt ls i .null, st, h)
    | .retAddr x :: st => some (pc + 2, gSt ls i (.retAddr x), st, h)
    | _ => none
  | .astore_n i => match st with
    | .ref x :: st => some (pc + 1, gSt ls i (.ref x), st, h)
    | .null :: st => some (pc + 1, gSt ls i .null, st, h)
    | .retAddr x :: st => some (pc + 1, gSt ls i (.retAddr x), st, h)
    | _ => none
  | .iinc i n => match gLd ls i with
    | some (.int x) => some (pc + 3, gSt ls i (.int (x + Int32.ofInt n)), st, h)
    | _ => none
  | .iadd => match st with
    | .int y :: .int x :: st => some (pc + 1, ls, .int (x + y) :: st, h)
    | _ => none
  | .isub => match st with
    | .int y :: .int x :: st => some (pc + 1, ls, .int (x - y) :: st, h)
    | _ => none
  | .imul => match st with
    | .int y :: .int x :: st => some (pc + 1, ls, .int (x * y) :: st, h)
    | _ => none
  | .idiv => match st with
    | .int y :: .int x :: st => if y = 0 then none else some (pc + 1, ls, .int (x / y) :: st, h)
    | _ => none
  | .irem => match st with
    | .int y :: .int x :: st => if y = 0 then none else some (pc + 1, ls, .int (x - x / y * y) :: st, h)
    | _ => none
  | .ixor => match st with
    | .int y :: .int x :: st => some (pc + 1, ls, .int (x ^^^ y) :: st, h)
    | _ => none
  | .ishl => match st with
    | .int y :: .int x :: st => some (pc + 1, ls, .int (x <<< (y &&& 31)) :: st, h)
    | _ => none
  | .ishr => match st with
    | .int y :: .int x :: st => some (pc + 1, ls, .int (x >>> (y &&& 31)) :: st, h)
    | _ => none
  | .iushr => match st with
    | .int y :: .int x :: st => some (pc + 1, ls, .int (x.toUInt32 >>> (y.toUInt32 &&& Int32.toUInt32 31)).toInt32 :: st, h)
    | _ => none
  | .i2c => match st with
    | .int x :: st => some (pc + 1, ls, .int (x.toUInt32 % 65536).toInt32 :: st, h)
    | _ => none
  | .i2f => match st with
    | .int x :: st => some (pc + 1, ls, .float (FP.i2f x) :: st, h)
    | _ => none
  | .f2i => match st with
    | .float x :: st => some (pc + 1, ls, .int (FP.f2i x) :: st, h)
    | _ => none
  | .fsub => match st with
    | .float y :: .float x :: st => if FP.fsub x y &&& 0x7fffffff ≤ 0x7f800000 then some (pc + 1, ls, .float (FP.fsub x y) :: st, h) else none
    | _ => none
  | .fmul => match st with
    | .float y :: .float x :: st => if FP.fmul x y &&& 0x7fffffff ≤ 0x7f800000 then some (pc + 1, ls, .float (FP.fmul x y) :: st, h) else none
    | _ => none
  | .fdiv => match st with
    | .float y :: .float x :: st => if FP.fdiv x y &&& 0x7fffffff ≤ 0x7f800000 then some (pc + 1, ls, .float (FP.fdiv x y) :: st, h) else none
    | _ => none
  | .fcmp op => match st with
    | .float y :: .float x :: st => some (pc + 1, ls, .int (Op.cmpValue (FP.fcmp x y) op) :: st, h)
    | _ => none
  | .dup => match st with
    | v :: st => if gOk v then some (pc + 1, ls, v :: v :: st, h) else none
    | _ => none
  | .dup_x1 => match st with
    | v :: w :: st => if gOk v && gOk w then some (pc + 1, ls, v :: w :: v :: st, h) else none
    | _ => none
  | .dup2 => match st with
    | v :: w :: st => if gOk v && gOk w then some (pc + 1, ls, v :: w :: v :: w :: st, h) else none
    | _ => none
  | .pop => match st with
    | v :: st => if gOk v then some (pc + 1, ls, st, h) else none
    | _ => none
  | .goto _ => some (q.2.2.1, ls, st, h)
  | .ifCond c _ => match st with
    | .int x :: st => if gTest c x 0 then some (q.2.2.1, ls, st, h) else some (pc + 3, ls, st, h)
    | _ => none
  | .if_icmp c _ => match st with
    | .int y :: .int x :: st => if gTest c x y then some (q.2.2.1, ls, st, h) else some (pc + 3, ls, st, h)
    | _ => none
  | .if_acmp c _ => match st with
    | y :: x :: st => match gSame x y with
      | some t => if (match c with | .eq => t | .ne => !t) then some (q.2.2.1, ls, st, h) else some (pc + 3, ls, st, h)
      | none => none
    | _ => none
  | .ifnull _ => match st with
    | .null :: st => some (q.2.2.1, ls, st, h)
    | .ref _ :: st => some (pc + 3, ls, st, h)
    | _ => none
  | .ifnonnull _ => match st with
    | .null :: st => some (pc + 3, ls, st, h)
    | .ref _ :: st => some (q.2.2.1, ls, st, h)
    | _ => none
  | .tableswitch dflt lo hi offs => match st with
    | .int x :: st => if x.toInt < lo ∨ hi < x.toInt then some ((pc + dflt).toNat, ls, st, h) else match offs[(x.toInt - lo).toNat]? with
      | some off => some ((pc + off).toNat, ls, st, h)
      | none => none
    | _ => none
  | .lookupswitch dflt ps => match st with
    | .int x :: st => some ((pc + Op.lookupswitch.offset ps.toList dflt x.toInt).toNat, ls, st, h)
    | _ => none
  | .getfield _ => match st with
    | .ref r :: st => match gGet h r with
      | some (.inl (ci, fs)) => if ci = q.2.2.1 then (match fs[q.2.2.2]? with
        | some v => some (pc + 3, ls, v :: st, h)
        | none => none) else none
      | _ => none
    | _ => none
  | .putfield _ => match st with
    | v :: .ref r :: st => match gGet h r with
      | some (.inl (ci, fs)) => if ci = q.2.2.1 ∧ q.2.2.2 < fs.length ∧ gFit (gTy ci q.2.2.2) v = true then some (pc + 3, ls, st, gPut h r (.inl (ci, fs.set q.2.2.2 v))) else none
      | _ => none
    | _ => none
  | .getstatic _ => if q.2.2.1 = 2 then some (pc + 3, ls, .retAddr 2 :: st, h) else none
  | .new _ => if q.2.2.1 < 12 then some (pc + 3, ls, .ref h.2.2.length :: st, gNew h (gN q.2.2.1) (.inl (q.2.2.1, (List.range (gN q.2.2.1)).map (fun k => gZ (gTy q.2.2.1 k))))) else none
  | .newarray ty => match st with
    | .int n :: st => if n < 0 ∨ 100000 < n.toNatClampNeg then none else some (pc + 2, ls, .ref h.2.2.length :: st, gNew h n.toNatClampNeg (.inr (.inl (newarray.typeOf ty, n.toNatClampNeg, fun _ => 0))))
    | _ => none
  | .anewarray _ => match st with
    | .int n :: st => if n < 0 ∨ 100000 < n.toNatClampNeg ∨ 2 < q.2.2.1 then none else some (pc + 3, ls, .ref h.2.2.length :: st, gNew h n.toNatClampNeg (.inr (.inr (gComp q.2.2.1, n.toNatClampNeg, fun _ => none))))
    | _ => none
  | .checkcast _ => match st with
    | .null :: st => some (pc + 3, ls, .null :: st, h)
    | .ref r :: st => match gGet h r with
      | some (.inl (ci, _)) => if ci = q.2.2.1 then some (pc + 3, ls, .ref r :: st, h) else none
      | some (.inr (.inr (ty, _, _))) => if q.2.2.1 = 1000 ∧ ty = .object "java/lang/Object" then some (pc + 3, ls, .ref r :: st, h) else none
      | _ => none
    | _ => none
  | .arraylength => match st with
    | .ref r :: st => match gGet h r with
      | some (.inr (.inl (_, n, _))) => some (pc + 1, ls, .int (Int32.ofNat n) :: st, h)
      | some (.inr (.inr (_, n, _))) => some (pc + 1, ls, .int (Int32.ofNat n) :: st, h)
      | _ => none
    | .retAddr 0 :: st => some (pc + 1, ls, .int (Int32.ofNat sc.1) :: st, h)
    | .retAddr 2 :: st => some (pc + 1, ls, .int 0 :: st, h)
    | _ => none
  | .iaload => match st with
    | .int i :: .ref r :: st => match gGet h r with
      | some (.inr (.inl (ty, n, f))) => if ty = .int ∧ ¬ (i < 0 ∨ n ≤ i.toNatClampNeg) then some (pc + 1, ls, .int (f i.toNatClampNeg) :: st, h) else none
      | _ => none
    | .int i :: .retAddr 0 :: st => if ¬ (i < 0 ∨ sc.1 ≤ i.toNatClampNeg) then some (pc + 1, ls, .int (sc.2 i.toNatClampNeg) :: st, h) else none
    | _ => none
  | .baload => match st with
    | .int i :: .ref r :: st => match gGet h r with
      | some (.inr (.inl (ty, n, f))) => if ty = .boolean ∧ ¬ (i < 0 ∨ n ≤ i.toNatClampNeg) then some (pc + 1, ls, .int (f i.toNatClampNeg) :: st, h) else none
      | _ => none
    | _ => none
  | .caload => match st with
    | .int i :: .ref r :: st => match gGet h r with
      | some (.inr (.inl (ty, n, f))) => if ty = .char ∧ ¬ (i < 0 ∨ n ≤ i.toNatClampNeg) then some (pc + 1, ls, .int (f i.toNatClampNeg) :: st, h) else none
      | _ => none
    | _ => none
  | .iastore => match st with
    | .int x :: .int i :: .ref r :: st => match gGet h r with
      | some (.inr (.inl (ty, n, f))) => if ty = .int ∧ ¬ (i < 0 ∨ n ≤ i.toNatClampNeg) then some (pc + 1, ls, st, gPut h r (.inr (.inl (ty, n, upd f i.toNatClampNeg x)))) else none
      | _ => none
    | _ => none
  | .bastore => match st with
    | .int x :: .int i :: .ref r :: st => match gGet h r with
      | some (.inr (.inl (ty, n, f))) => if ty = .boolean ∧ ¬ (i < 0 ∨ n ≤ i.toNatClampNeg) then some (pc + 1, ls, st, gPut h r (.inr (.inl (ty, n, upd f i.toNatClampNeg (vp_nar .boolean x))))) else none
      | _ => none
    | _ => none
  | .castore => match st with
    | .int x :: .int i :: .ref r :: st => match gGet h r with
      | some (.inr (.inl (ty, n, f))) => if ty = .char ∧ ¬ (i < 0 ∨ n ≤ i.toNatClampNeg) then some (pc + 1, ls, st, gPut h r (.inr (.inl (ty, n, upd f i.toNatClampNeg (vp_nar .char x))))) else none
      | _ => none
    | _ => none
  | .aaload => match st with
    | .int i :: .ref r :: st => match gGet h r with
      | some (.inr (.inr (ty, n, f))) => if gRefTy ty = true ∧ ¬ (i < 0 ∨ n ≤ i.toNatClampNeg) then some (pc + 1, ls, va_rf (f i.toNatClampNeg) :: st, h) else none
      | _ => none
    | _ => none
  | .aastore => match st with
    | .ref v :: .int i :: .ref r :: st => match gGet h r, gGet h v with
      | some (.inr (.inr (ty, n, f))), some x => if ¬ (i < 0 ∨ n ≤ i.toNatClampNeg) ∧ gMay ty x = true then some (pc + 1, ls, st, gPut h r (.inr (.inr (ty, n, va_up f i.toNatClampNeg (some v))))) else none
      | _, _ => none
    | .null :: .int i :: .ref r :: st => match gGet h r with
      | some (.inr (.inr (ty, n, f))) => if ¬ (i < 0 ∨ n ≤ i.toNatClampNeg) ∧ ty = .object "java/lang/Object" then some (pc + 1, ls, st, gPut h r (.inr (.inr (ty, n, va_up f i.toNatClampNeg none)))) else none
      | _ => none
    | _ => none
  | _ => none
end
section
/-! laid by wip/p49/gen2.py: the methods that are reached, their code, what their pool entries mean -/
/-- 0: StratumLedgeLaw.law([I)Z -/
def gC_0 : List (Nat × gI) := [(0, .new 16, 3, 11, 0), (3, .dup, 1, 0, 0), (4, .invokespecial 198, 3, 18, 1), (7, .astore_n 1, 1, 0, 0), (8, .iconst 1, 1, 0, 0), (9, .aload_n 0, 1, 0, 0), (10, .iconst 0, 1, 0, 0), (11, .iconst 2, 1, 0, 0), (12, .invokestatic 155, 3, 1, 3), (15, .iadd, 1, 0, 0), (16, .istore_n 2, 1, 0, 0), (17, .iconst 3, 1, 0, 0), (18, .newarray .char, 2, 0, 0), (20, .astore_n 3, 1, 0, 0), (21, .iconst 1, 1, 0, 0), (22, .istore 4, 2, 0, 0), (24, .iconst 0, 1, 0, 0), (25, .istore 5, 2, 0, 0), (27, .iload 5, 2, 0, 0), (29, .iload_n 2, 1, 0, 0), (30, .if_icmp .ge 57, 3, 87, 0), (33, .aload_n 3, 1, 0, 0), (34, .iload 5, 2, 0, 0), (36, .ldc 199, 2, 2, 1), (38, .aload_n 0, 1, 0, 0), (39, .iconst 1, 1, 0, 0), (40, .iload 5, 2, 0, 0), (42, .iadd, 1, 0, 0), (43, .iconst 3, 1, 0, 0), (44, .invokestatic 155, 3, 1, 3), (47, .invokevirtual 201, 3, 903, 2), (50, .castore, 1, 0, 0), (51, .iload 4, 2, 0, 0), (53, .ifCond .eq 25, 3, 78, 0), (56, .aload_n 1, 1, 0, 0), (57, .iconst 0, 1, 0, 0), (58, .aload_n 3, 1, 0, 0), (59, .iload 5, 2, 0, 0), (61, .caload, 1, 0, 0), (62, .iconst 0, 1, 0, 0), (63, .iconst 0, 1, 0, 0), (64, .iconst 0, 1, 0, 0), (65, .iconst 0, 1, 0, 0), (66, .invokestatic 162, 3, 2, 7), (69, .iload 5, 2, 0, 0), (71, .if_icmp .ne 7, 3, 78, 0), (74, .iconst 1, 1, 0, 0), (75, .goto 4, 3, 79, 0), (78, .iconst 0, 1, 0, 0), (79, .istore 4, 2, 0, 0), (81, .iinc 5 1, 3, 0, 0), (84, .goto (-57), 3, 27, 0), (87, .sipush 200, 3, 0, 0), (90, .anewarray 207, 3, 2, 0), (93, .astore 5, 2, 0, 0), (95, .iconst 1, 1, 0, 0), (96, .newarray .int, 2, 0, 0), (98, .astore 6, 2, 0, 0), (100, .bipush 40, 2, 0, 0), (102, .newarray .int, 2, 0, 0), (104, .astore 7, 2, 0, 0), (106, .bipush 40, 2, 0, 0), (108, .newarray .int, 2, 0, 0), (110, .astore 8, 2, 0, 0), (112, .iconst 0, 1, 0, 0), (113, .istore 9, 2, 0, 0), (115, .iconst 0, 1, 0, 0), (116, .istore 10, 2, 0, 0), (118, .iconst 0, 1, 0, 0), (119, .istore 11, 2, 0, 0), (121, .iconst 3, 1, 0, 0), (122, .newarray .int, 2, 0, 0), (124, .astore 12, 2, 0, 0), (126, .iconst 0, 1, 0, 0), (127, .istore 13, 2, 0, 0), (129, .iload 13, 2, 0, 0), (131, .bipush 120, 2, 0, 0), (133, .if_icmp .ge 1365, 3, 1498, 0), (136, .iload 4, 2, 0, 0), (138, .ifCond .eq 1360, 3, 1498, 0), (141, .bipush 10, 2, 0, 0), (143, .bipush 7, 2, 0, 0), (145, .iload 13, 2, 0, 0), (147, .imul, 1, 0, 0), (148, .iadd, 1, 0, 0), (149, .istore 14, 2, 0, 0), (151, .aload_n 0, 1, 0, 0), (152, .iload 14, 2, 0, 0), (154, .iconst 5, 1, 0, 0), (155, .iadd, 1, 0, 0), (156, .iload_n 2, 1, 0, 0), (157, .invokestatic 155, 3, 1, 3), (160, .istore 15, 2, 0, 0), (162, .aload_n 0, 1, 0, 0), (163, .iload 14, 2, 0, 0), (165, .bipush 6, 2, 0, 0), (167, .iadd, 1, 0, 0), (168, .bipush 24, 2, 0, 0), (170, .invokestatic 155, 3, 1, 3), (173, .istore 16, 2, 0, 0), (175, .iload 16, 2, 0, 0), (177, .bipush 13, 2, 0, 0), (179, .if_icmp .ge 21, 3, 200, 0), (182, .aload_n 1, 1, 0, 0), (183, .aload_n 0, 1, 0, 0), (184, .iload 14, 2, 0, 0), (186, .aload 5, 2, 0, 0), (188, .aload 6, 2, 0, 0), (190, .iload 15, 2, 0, 0), (192, .invokestatic 209, 3, 3, 6), (195, .istore 4, 2, 0, 0), (197, .goto 1024, 3, 1221, 0), (200, .iload 16, 2, 0, 0), (202, .bipush 13, 2, 0, 0), (204, .if_icmp .ne 76, 3, 280, 0), (207, .aload 5, 2, 0, 0), (209, .aload 6, 2, 0, 0), (211, .iconst 0, 1, 0, 0), (212, .iaload, 1, 0, 0), (213, .iload 15, 2, 0, 0), (215, .invokestatic 169, 3, 4, 3), (218, .istore 17, 2, 0, 0), (220, .aload_n 1, 1, 0, 0), (221, .bipush 12, 2, 0, 0), (223, .iload 15, 2, 0, 0), (225, .iconst 0, 1, 0, 0), (226, .iconst 0, 1, 0, 0), (227, .iconst 0, 1, 0, 0), (228, .iconst 0, 1, 0, 0), (229, .invokestatic 162, 3, 2, 7), (232, .istore 18, 2, 0, 0), (234, .iload 17, 2, 0, 0), (236, .ifCond .ne 18, 3, 254, 0), (239, .iload 18, 2, 0, 0), (241, .ldc 89, 2, 0, 4292967293), (243, .if_icmp .ne 7, 3, 250, 0), (246, .iconst 1, 1, 0, 0), (247, .goto 17, 3, 264, 0), (250, .iconst 0, 1, 0, 0), (251, .goto 13, 3, 264, 0), (254, .iload 18, 2, 0, 0), (256, .ifCond .le 7, 3, 263, 0), (259, .iconst 1, 1, 0, 0), (260, .goto 4, 3, 264, 0), (263, .iconst 0, 1, 0, 0), (264, .istore 4, 2, 0, 0), (266, .aload 5, 2, 0, 0), (268, .aload 6, 2, 0, 0), (270, .iconst 0, 1, 0, 0), (271, .iaload, 1, 0, 0), (272, .iload 15, 2, 0, 0), (274, .invokestatic 172, 3, 5, 3), (277, .goto 944, 3, 1221, 0), (280, .iload 16, 2, 0, 0), (282, .bipush 17, 2, 0, 0), (284, .if_icmp .ge 122, 3, 406, 0), (287, .aload_n 1, 1, 0, 0), (288, .invokevirtual 213, 3, 61, 1), (291, .istore 17, 2, 0, 0), (293, .iload 17, 2, 0, 0), (295, .ifCond .eq 26, 3, 321, 0), (298, .aload_n 1, 1, 0, 0), (299, .bipush 14, 2, 0, 0), (301, .iconst 1, 1, 0, 0), (302, .aload_n 0, 1, 0, 0), (303, .iload 14, 2, 0, 0), (305, .bipush 50, 2, 0, 0), (307, .invokestatic 155, 3, 1, 3), (310, .iadd, 1, 0, 0), (311, .iconst 0, 1, 0, 0), (312, .iconst 0, 1, 0, 0), (313, .iconst 0, 1, 0, 0), (314, .iconst 0, 1, 0, 0), (315, .invokestatic 162, 3, 2, 7), (318, .goto 15, 3, 333, 0), (321, .aload_n 1, 1, 0, 0), (322, .bipush 13, 2, 0, 0), (324, .iload 15, 2, 0, 0), (326, .iconst 0, 1, 0, 0), (327, .iconst 0, 1, 0, 0), (328, .iconst 0, 1, 0, 0), (329, .iconst 0, 1, 0, 0), (330, .invokestatic 162, 3, 2, 7), (333, .istore 18, 2, 0, 0), (335, .iload 17, 2, 0, 0), (337, .ifCond .eq 17, 3, 354, 0), (340, .iload 18, 2, 0, 0), (342, .iconst 1, 1, 0, 0), (343, .if_icmp .lt 7, 3, 350, 0), (346, .iconst 1, 1, 0, 0), (347, .goto 54, 3, 401, 0), (350, .iconst 0, 1, 0, 0), (351, .goto 50, 3, 401, 0), (354, .iload 18, 2, 0, 0), (356, .ldc 92, 2, 0, 4292967291), (358, .if_icmp .eq 38, 3, 396, 0), (361, .iload 18, 2, 0, 0), (363, .ifCond .lt 37, 3, 400, 0), (366, .iload 18, 2, 0, 0), (368, .iconst 3, 1, 0, 0), (369, .if_icmp .ge 31, 3, 400, 0), (372, .aload_n 1, 1, 0, 0), (373, .invokevirtual 213, 3, 61, 1), (376, .ifCond .eq 24, 3, 400, 0), (379, .aload_n 1, 1, 0, 0), (380, .bipush 13, 2, 0, 0), (382, .iload 15, 2, 0, 0), (384, .iconst 0, 1, 0, 0), (385, .iconst 0, 1, 0, 0), (386, .iconst 0, 1, 0, 0), (387, .iconst 0, 1, 0, 0), (388, .invokestatic 162, 3, 2, 7), (391, .ldc 89, 2, 0, 4292967293), (393, .if_icmp .ne 7, 3, 400, 0), (396, .iconst 1, 1, 0, 0), (397, .goto 4, 3, 401, 0), (400, .iconst 0, 1, 0, 0), (401, .istore 4, 2, 0, 0), (403, .goto 818, 3, 1221, 0), (406, .iload 16, 2, 0, 0), (408, .bipush 17, 2, 0, 0), (410, .if_icmp .ne 36, 3, 446, 0), (413, .aload_n 1, 1, 0, 0), (414, .bipush 15, 2, 0, 0), (416, .iconst 0, 1, 0, 0), (417, .iconst 0, 1, 0, 0), (418, .iconst 0, 1, 0, 0), (419, .iconst 0, 1, 0, 0), (420, .iconst 0, 1, 0, 0), (421, .invokestatic 162, 3, 2, 7), (424, .ldc 83, 2, 0, 4292967295), (426, .if_icmp .eq 14, 3, 440, 0), (429, .aload_n 1, 1, 0, 0), (430, .invokevirtual 213, 3, 61, 1), (433, .ifCond .ne 7, 3, 440, 0), (436, .iconst 1, 1, 0, 0), (437, .goto 4, 3, 441, 0), (440, .iconst 0, 1, 0, 0), (441, .istore 4, 2, 0, 0), (443, .goto 778, 3, 1221, 0), (446, .iload 16, 2, 0, 0), (448, .bipush 18, 2, 0, 0), (450, .if_icmp .ne 72, 3, 522, 0), (453, .aload_n 1, 1, 0, 0), (454, .bipush 6, 2, 0, 0), (456, .iconst 0, 1, 0, 0), (457, .iconst 0, 1, 0, 0), (458, .iconst 0, 1, 0, 0), (459, .iconst 0, 1, 0, 0), (460, .iconst 0, 1, 0, 0), (461, .invokestatic 162, 3, 2, 7), (464, .istore 17, 2, 0, 0), (466, .iload 17, 2, 0, 0), (468, .iload 9, 2, 0, 0), (470, .bipush 6, 2, 0, 0), (472, .if_icmp .ne 8, 3, 480, 0), (475, .ldc 89, 2, 0, 4292967293), (477, .goto 5, 3, 482, 0), (480, .iload 10, 2, 0, 0), (482, .if_icmp .ne 7, 3, 489, 0), (485, .iconst 1, 1, 0, 0), (486, .goto 4, 3, 490, 0), (489, .iconst 0, 1, 0, 0), (490, .istore 4, 2, 0, 0), (492, .iload 17, 2, 0, 0), (494, .ifCond .lt 25, 3, 519, 0), (497, .aload 7, 2, 0, 0), (499, .iload 9, 2, 0, 0), (501, .iload 17, 2, 0, 0), (503, .iastore, 1, 0, 0), (504, .aload 8, 2, 0, 0), (506, .iload 9, 2, 0, 0), (508, .aload 6, 2, 0, 0), (510, .iconst 0, 1, 0, 0), (511, .iaload, 1, 0, 0), (512, .iastore, 1, 0, 0), (513, .iinc 9 1, 3, 0, 0), (516, .iinc 10 1, 3, 0, 0), (519, .goto 702, 3, 1221, 0), (522, .iload 16, 2, 0, 0), (524, .bipush 19, 2, 0, 0), (526, .if_icmp .ne 91, 3, 617, 0), (529, .iload 9, 2, 0, 0), (531, .ifCond .le 86, 3, 617, 0), (534, .aload_n 0, 1, 0, 0), (535, .iload 14, 2, 0, 0), (537, .iload 9, 2, 0, 0), (539, .invokestatic 155, 3, 1, 3), (542, .istore 17, 2, 0, 0), (544, .iinc 9 (-1), 3, 0, 0), (547, .aload_n 1, 1, 0, 0), (548, .bipush 7, 2, 0, 0), (550, .aload 7, 2, 0, 0), (552, .iload 17, 2, 0, 0), (554, .iaload, 1, 0, 0), (555, .iconst 0, 1, 0, 0), (556, .iconst 0, 1, 0, 0), (557, .iconst 0, 1, 0, 0), (558, .iconst 0, 1, 0, 0), (559, .invokestatic 162, 3, 2, 7), (562, .iload 9, 2, 0, 0), (564, .if_icmp .ne 27, 3, 591, 0), (567, .aload_n 1, 1, 0, 0), (568, .bipush 7, 2, 0, 0), (570, .aload 7, 2, 0, 0), (572, .iload 17, 2, 0, 0), (574, .iaload, 1, 0, 0), (575, .iconst 0, 1, 0, 0), (576, .iconst 0, 1, 0, 0), (577, .iconst 0, 1, 0, 0), (578, .iconst 0, 1, 0, 0), (579, .invokestatic 162, 3, 2, 7), (582, .ldc 83, 2, 0, 4292967295), (584, .if_icmp .ne 7, 3, 591, 0), (587, .iconst 1, 1, 0, 0), (588, .goto 4, 3, 592, 0), (591, .iconst 0, 1, 0, 0), (592, .istore 4, 2, 0, 0), (594, .aload 7, 2, 0, 0), (596, .iload 17, 2, 0, 0), (598, .aload 7, 2, 0, 0), (600, .iload 9, 2, 0, 0), (602, .iaload, 1, 0, 0), (603, .iastore, 1, 0, 0), (604, .aload 8, 2, 0, 0), (606, .iload 17, 2, 0, 0), (608, .aload 8, 2, 0, 0), (610, .iload 9, 2, 0, 0), (612, .iaload, 1, 0, 0), (613, .iastore, 1, 0, 0), (614, .goto 607, 3, 1221, 0), (617, .iload 16, 2, 0, 0), (619, .bipush 20, 2, 0, 0), (621, .if_icmp .ne 100, 3, 721, 0), (624, .aload 5, 2, 0, 0), (626, .aload 6, 2, 0, 0), (628, .iconst 0, 1, 0, 0), (629, .iaload, 1, 0, 0), (630, .iconst 1, 1, 0, 0), (631, .invokestatic 217, 3, 6, 3), (634, .istore 17, 2, 0, 0), (636, .aload_n 1, 1, 0, 0), (637, .invokevirtual 221, 3, 95, 1), (640, .iload 17, 2, 0, 0), (642, .if_icmp .ne 14, 3, 656, 0), (645, .aload_n 1, 1, 0, 0), (646, .invokevirtual 221, 3, 95, 1), (649, .ifCond .ne 7, 3, 656, 0), (652, .iconst 1, 1, 0, 0), (653, .goto 4, 3, 657, 0), (656, .iconst 0, 1, 0, 0), (657, .istore 4, 2, 0, 0), (659, .iconst 1, 1, 0, 0), (660, .istore 18, 2, 0, 0), (662, .iload 18, 2, 0, 0), (664, .aload 6, 2, 0, 0), (666, .iconst 0, 1, 0, 0), (667, .iaload, 1, 0, 0), (668, .if_icmp .gt 50, 3, 718, 0), (671, .aload 5, 2, 0, 0), (673, .iload 18, 2, 0, 0), (675, .aaload, 1, 0, 0), (676, .bipush 7, 2, 0, 0), (678, .aload 5, 2, 0, 0), (680, .iload 18, 2, 0, 0), (682, .aaload, 1, 0, 0), (683, .iconst 5, 1, 0, 0), (684, .iaload, 1, 0, 0), (685, .ifCond .ne 18, 3, 703, 0), (688, .aload 5, 2, 0, 0), (690, .iload 18, 2, 0, 0), (692, .aaload, 1, 0, 0), (693, .bipush 8, 2, 0, 0), (695, .iaload, 1, 0, 0), (696, .ifCond .ne 7, 3, 703, 0), (699, .iconst 1, 1, 0, 0), (700, .goto 11, 3, 711, 0), (703, .aload 5, 2, 0, 0), (705, .iload 18, 2, 0, 0), (707, .aaload, 1, 0, 0), (708, .bipush 7, 2, 0, 0), (710, .iaload, 1, 0, 0), (711, .iastore, 1, 0, 0), (712, .iinc 18 1, 3, 0, 0), (715, .goto (-53), 3, 662, 0), (718, .goto 503, 3, 1221, 0), (721, .iload 16, 2, 0, 0), (723, .bipush 21, 2, 0, 0), (725, .if_icmp .ne 151, 3, 876, 0), (728, .iconst 0, 1, 0, 0), (729, .istore 17, 2, 0, 0), (731, .iconst 1, 1, 0, 0), (732, .istore 18, 2, 0, 0), (734, .iload 18, 2, 0, 0), (736, .aload 6, 2, 0, 0), (738, .iconst 0, 1, 0, 0), (739, .iaload, 1, 0, 0), (740, .if_icmp .gt 84, 3, 824, 0), (743, .aload 5, 2, 0, 0), (745, .iload 18, 2, 0, 0), (747, .aaload, 1, 0, 0), (748, .bipush 8, 2, 0, 0), (750, .iaload, 1, 0, 0), (751, .ifCond .ne 29, 3, 780, 0), (754, .aload 5, 2, 0, 0), (756, .iload 18, 2, 0, 0), (758, .aaload, 1, 0, 0), (759, .bipush 6, 2, 0, 0), (761, .iaload, 1, 0, 0), (762, .ifCond .ne 18, 3, 780, 0), (765, .aload 5, 2, 0, 0), (767, .iload 18, 2, 0, 0), (769, .aaload, 1, 0, 0), (770, .bipush 7, 2, 0, 0), (772, .iaload, 1, 0, 0), (773, .ifCond .ne 7, 3, 780, 0), (776, .iconst 1, 1, 0, 0), (777, .goto 4, 3, 781, 0), (780, .iconst 0, 1, 0, 0), (781, .istore 19, 2, 0, 0), (783, .iload 17, 2, 0, 0), (785, .iload 19, 2, 0, 0), (787, .invokestatic 125, 3, 7, 1), (790, .iadd, 1, 0, 0), (791, .istore 17, 2, 0, 0), (793, .aload 5, 2, 0, 0), (795, .iload 18, 2, 0, 0), (797, .aaload, 1, 0, 0), (798, .bipush 8, 2, 0, 0), (800, .iload 19, 2, 0, 0), (802, .ifCond .eq 7, 3, 809, 0), (805, .iconst 1, 1, 0, 0), (806, .goto 11, 3, 817, 0), (809, .aload 5, 2, 0, 0), (811, .iload 18, 2, 0, 0), (813, .aaload, 1, 0, 0), (814, .bipush 8, 2, 0, 0), (816, .iaload, 1, 0, 0), (817, .iastore, 1, 0, 0), (818, .iinc 18 1, 3, 0, 0), (821, .goto (-87), 3, 734, 0), (824, .aload_n 1, 1, 0, 0), (825, .invokevirtual 224, 3, 34, 1), (828, .iload 17, 2, 0, 0), (830, .if_icmp .ne 37, 3, 867, 0), (833, .aload_n 1, 1, 0, 0), (834, .invokevirtual 213, 3, 61, 1), (837, .ifCond .ne 30, 3, 867, 0), (840, .iload 9, 2, 0, 0), (842, .ifCond .eq 21, 3, 863, 0), (845, .aload_n 1, 1, 0, 0), (846, .iconst 0, 1, 0, 0), (847, .iload 15, 2, 0, 0), (849, .iconst 0, 1, 0, 0), (850, .aload 7, 2, 0, 0), (852, .iconst 0, 1, 0, 0), (853, .iaload, 1, 0, 0), (854, .iconst 0, 1, 0, 0), (855, .invokestatic 159, 3, 8, 6), (858, .ldc 83, 2, 0, 4292967295), (860, .if_icmp .ne 7, 3, 867, 0), (863, .iconst 1, 1, 0, 0), (864, .goto 4, 3, 868, 0), (867, .iconst 0, 1, 0, 0), (868, .istore 4, 2, 0, 0), (870, .iconst 0, 1, 0, 0), (871, .istore 9, 2, 0, 0), (873, .goto 348, 3, 1221, 0), (876, .iload 16, 2, 0, 0), (878, .bipush 22, 2, 0, 0), (880, .if_icmp .ne 165, 3, 1045, 0), (883, .aload_n 1, 1, 0, 0), (884, .bipush 16, 2, 0, 0), (886, .iconst 0, 1, 0, 0), (887, .iconst 0, 1, 0, 0), (888, .iconst 0, 1, 0, 0), (889, .iconst 0, 1, 0, 0), (890, .iconst 0, 1, 0, 0), (891, .invokestatic 162, 3, 2, 7), (894, .istore 17, 2, 0, 0), (896, .iload 17, 2, 0, 0), (898, .iload 11, 2, 0, 0), (900, .iconst 3, 1, 0, 0), (901, .if_icmp .ne 8, 3, 909, 0), (904, .ldc 89, 2, 0, 4292967293), (906, .goto 5, 3, 911, 0), (909, .iload 11, 2, 0, 0), (911, .if_icmp .ne 7, 3, 918, 0), (914, .iconst 1, 1, 0, 0), (915, .goto 4, 3, 919, 0), (918, .iconst 0, 1, 0, 0), (919, .istore 4, 2, 0, 0), (921, .iload 17, 2, 0, 0), (923, .ifCond .lt 119, 3, 1042, 0), (926, .aload 12, 2, 0, 0), (928, .iload 17, 2, 0, 0), (930, .aload 6, 2, 0, 0), (932, .iconst 0, 1, 0, 0), (933, .iaload, 1, 0, 0), (934, .iastore, 1, 0, 0), (935, .iconst 1, 1, 0, 0), (936, .istore 18, 2, 0, 0), (938, .iload 18, 2, 0, 0), (940, .aload 6, 2, 0, 0), (942, .iconst 0, 1, 0, 0), (943, .iaload, 1, 0, 0), (944, .if_icmp .gt 95, 3, 1039, 0), (947, .aload 5, 2, 0, 0), (949, .iload 18, 2, 0, 0), (951, .aaload, 1, 0, 0), (952, .bipush 8, 2, 0, 0), (954, .iaload, 1, 0, 0), (955, .ifCond .ne 31, 3, 986, 0), (958, .aload 5, 2, 0, 0), (960, .iload 18, 2, 0, 0), (962, .aaload, 1, 0, 0), (963, .bipush 6, 2, 0, 0), (965, .iaload, 1, 0, 0), (966, .iconst 1, 1, 0, 0), (967, .if_icmp .eq 15, 3, 982, 0), (970, .aload 5, 2, 0, 0), (972, .iload 18, 2, 0, 0), (974, .aaload, 1, 0, 0), (975, .bipush 7, 2, 0, 0), (977, .iaload, 1, 0, 0), (978, .iconst 1, 1, 0, 0), (979, .if_icmp .ne 7, 3, 986, 0), (982, .iconst 1, 1, 0, 0), (983, .goto 4, 3, 987, 0), (986, .iconst 0, 1, 0, 0), (987, .istore 19, 2, 0, 0), (989, .aload 5, 2, 0, 0), (991, .iload 18, 2, 0, 0), (993, .aaload, 1, 0, 0), (994, .bipush 10, 2, 0, 0), (996, .iconst 3, 1, 0, 0), (997, .iload 17, 2, 0, 0), (999, .imul, 1, 0, 0), (1000, .iadd, 1, 0, 0), (1001, .aload 5, 2, 0, 0), (1003, .iload 18, 2, 0, 0), (1005, .aaload, 1, 0, 0), (1006, .bipush 6, 2, 0, 0), (1008, .iaload, 1, 0, 0), (1009, .iastore, 1, 0, 0), (1010, .aload 5, 2, 0, 0), (1012, .iload 18, 2, 0, 0), (1014, .aaload, 1, 0, 0), (1015, .bipush 12, 2, 0, 0), (1017, .iconst 3, 1, 0, 0), (1018, .iload 17, 2, 0, 0), (1020, .imul, 1, 0, 0), (1021, .iadd, 1, 0, 0), (1022, .iload 19, 2, 0, 0), (1024, .ifCond .eq 7, 3, 1031, 0), (1027, .iconst 0, 1, 0, 0), (1028, .goto 4, 3, 1032, 0), (1031, .iconst 1, 1, 0, 0), (1032, .iastore, 1, 0, 0), (1033, .iinc 18 1, 3, 0, 0), (1036, .goto (-98), 3, 938, 0), (1039, .iinc 11 1, 3, 0, 0), (1042, .goto 179, 3, 1221, 0), (1045, .iload 16, 2, 0, 0), (1047, .bipush 23, 2, 0, 0), (1049, .if_icmp .ne 172, 3, 1221, 0), (1052, .iload 11, 2, 0, 0), (1054, .ifCond .le 167, 3, 1221, 0), (1057, .aload_n 0, 1, 0, 0), (1058, .iload 14, 2, 0, 0), (1060, .iload 11, 2, 0, 0), (1062, .invokestatic 155, 3, 1, 3), (1065, .istore 17, 2, 0, 0), (1067, .aload_n 1, 1, 0, 0), (1068, .bipush 17, 2, 0, 0), (1070, .iload 17, 2, 0, 0), (1072, .iconst 0, 1, 0, 0), (1073, .iconst 0, 1, 0, 0), (1074, .iconst 0, 1, 0, 0), (1075, .iconst 0, 1, 0, 0), (1076, .invokestatic 162, 3, 2, 7), (1079, .ifCond .lt 39, 3, 1118, 0), (1082, .aload_n 1, 1, 0, 0), (1083, .bipush 17, 2, 0, 0), (1085, .iload 11, 2, 0, 0), (1087, .iconst 0, 1, 0, 0), (1088, .iconst 0, 1, 0, 0), (1089, .iconst 0, 1, 0, 0), (1090, .iconst 0, 1, 0, 0), (1091, .invokestatic 162, 3, 2, 7), (1094, .ldc 83, 2, 0, 4292967295), (1096, .if_icmp .ne 22, 3, 1118, 0), (1099, .aload_n 1, 1, 0, 0), (1100, .bipush 11, 2, 0, 0), (1102, .iload 17, 2, 0, 0), (1104, .iload 17, 2, 0, 0), (1106, .iconst 0, 1, 0, 0), (1107, .iconst 0, 1, 0, 0), (1108, .invokestatic 159, 3, 8, 6), (1111, .ifCond .lt 7, 3, 1118, 0), (1114, .iconst 1, 1, 0, 0), (1115, .goto 4, 3, 1119, 0), (1118, .iconst 0, 1, 0, 0), (1119, .istore 4, 2, 0, 0), (1121, .iconst 1, 1, 0, 0), (1122, .istore 18, 2, 0, 0), (1124, .iload 18, 2, 0, 0), (1126, .aload 6, 2, 0, 0), (1128, .iconst 0, 1, 0, 0), (1129, .iaload, 1, 0, 0), (1130, .if_icmp .gt 88, 3, 1218, 0), (1133, .aload 5, 2, 0, 0), (1135, .iload 18, 2, 0, 0), (1137, .aaload, 1, 0, 0), (1138, .bipush 8, 2, 0, 0), (1140, .iload 18, 2, 0, 0), (1142, .aload 12, 2, 0, 0), (1144, .iload 17, 2, 0, 0), (1146, .iaload, 1, 0, 0), (1147, .if_icmp .le 7, 3, 1154, 0), (1150, .iconst 1, 1, 0, 0), (1151, .goto 16, 3, 1167, 0), (1154, .aload 5, 2, 0, 0), (1156, .iload 18, 2, 0, 0), (1158, .aaload, 1, 0, 0), (1159, .bipush 12, 2, 0, 0), (1161, .iconst 3, 1, 0, 0), (1162, .iload 17, 2, 0, 0), (1164, .imul, 1, 0, 0), (1165, .iadd, 1, 0, 0), (1166, .iaload, 1, 0, 0), (1167, .iastore, 1, 0, 0), (1168, .aload 5, 2, 0, 0), (1170, .iload 18, 2, 0, 0), (1172, .aaload, 1, 0, 0), (1173, .bipush 6, 2, 0, 0), (1175, .iload 18, 2, 0, 0), (1177, .aload 12, 2, 0, 0), (1179, .iload 17, 2, 0, 0), (1181, .iaload, 1, 0, 0), (1182, .if_icmp .le 7, 3, 1189, 0), (1185, .iconst 1, 1, 0, 0), (1186, .goto 16, 3, 1202, 0), (1189, .aload 5, 2, 0, 0), (1191, .iload 18, 2, 0, 0), (1193, .aaload, 1, 0, 0), (1194, .bipush 10, 2, 0, 0), (1196, .iconst 3, 1, 0, 0), (1197, .iload 17, 2, 0, 0), (1199, .imul, 1, 0, 0), (1200, .iadd, 1, 0, 0), (1201, .iaload, 1, 0, 0), (1202, .iastore, 1, 0, 0), (1203, .aload 5, 2, 0, 0), (1205, .iload 18, 2, 0, 0), (1207, .aaload, 1, 0, 0), (1208, .bipush 7, 2, 0, 0), (1210, .iconst 1, 1, 0, 0), (1211, .iastore, 1, 0, 0), (1212, .iinc 18 1, 3, 0, 0), (1215, .goto (-91), 3, 1124, 0), (1218, .iconst 0, 1, 0, 0), (1219, .istore 9, 2, 0, 0), (1221, .aload_n 0, 1, 0, 0), (1222, .iload 14, 2, 0, 0), (1224, .iconst 2, 1, 0, 0), (1225, .iadd, 1, 0, 0), (1226, .bipush 22, 2, 0, 0), (1228, .invokestatic 155, 3, 1, 3), (1231, .istore 17, 2, 0, 0), (1233, .aload 5, 2, 0, 0), (1235, .aload_n 3, 1, 0, 0), (1236, .iload 15, 2, 0, 0), (1238, .iload 17, 2, 0, 0), (1240, .aload 6, 2, 0, 0), (1242, .iconst 0, 1, 0, 0), (1243, .iaload, 1, 0, 0), (1244, .invokestatic 195, 3, 9, 5), (1247, .istore 18, 2, 0, 0), (1249, .iload 4, 2, 0, 0), (1251, .ifCond .eq 80, 3, 1331, 0), (1254, .aload_n 1, 1, 0, 0), (1255, .iconst 0, 1, 0, 0), (1256, .iload 15, 2, 0, 0), (1258, .iload 17, 2, 0, 0), (1260, .iconst (-1), 1, 0, 0), (1261, .iconst 0, 1, 0, 0), (1262, .invokestatic 159, 3, 8, 6), (1265, .iload 18, 2, 0, 0), (1267, .if_icmp .ne 64, 3, 1331, 0), (1270, .aload_n 1, 1, 0, 0), (1271, .iconst 1, 1, 0, 0), (1272, .iload 15, 2, 0, 0), (1274, .iload 17, 2, 0, 0), (1276, .iconst (-1), 1, 0, 0), (1277, .iconst 0, 1, 0, 0), (1278, .invokestatic 159, 3, 8, 6), (1281, .iload 18, 2, 0, 0), (1283, .if_icmp .ne 48, 3, 1331, 0), (1286, .aload_n 1, 1, 0, 0), (1287, .iconst 3, 1, 0, 0), (1288, .iload 15, 2, 0, 0), (1290, .iconst 0, 1, 0, 0), (1291, .iconst 0, 1, 0, 0), (1292, .iconst 0, 1, 0, 0), (1293, .invokestatic 159, 3, 8, 6), (1296, .aload 5, 2, 0, 0), (1298, .aload 6, 2, 0, 0), (1300, .iconst 0, 1, 0, 0), (1301, .iaload, 1, 0, 0), (1302, .iload 15, 2, 0, 0), (1304, .invokestatic 169, 3, 4, 3), (1307, .if_icmp .ne 24, 3, 1331, 0), (1310, .aload_n 1, 1, 0, 0), (1311, .invokevirtual 227, 3, 70, 1), (1314, .aload 5, 2, 0, 0), (1316, .aload 6, 2, 0, 0), (1318, .iconst 0, 1, 0, 0), (1319, .iaload, 1, 0, 0), (1320, .iconst 0, 1, 0, 0), (1321, .invokestatic 217, 3, 6, 3), (1324, .if_icmp .ne 7, 3, 1331, 0), (1327, .iconst 1, 1, 0, 0), (1328, .goto 4, 3, 1332, 0), (1331, .iconst 0, 1, 0, 0), (1332, .istore 4, 2, 0, 0), (1334, .iconst 0, 1, 0, 0), (1335, .istore 19, 2, 0, 0), (1337, .iload 19, 2, 0, 0), (1339, .iload 9, 2, 0, 0), (1341, .if_icmp .ge 78, 3, 1419, 0), (1344, .iload 4, 2, 0, 0), (1346, .ifCond .eq 73, 3, 1419, 0), (1349, .aload 5, 2, 0, 0), (1351, .aload_n 3, 1, 0, 0), (1352, .iload 15, 2, 0, 0), (1354, .iload 17, 2, 0, 0), (1356, .aload 8, 2, 0, 0), (1358, .iload 19, 2, 0, 0), (1360, .iaload, 1, 0, 0), (1361, .invokestatic 195, 3, 9, 5), (1364, .istore 20, 2, 0, 0), (1366, .aload_n 1, 1, 0, 0), (1367, .iconst 0, 1, 0, 0), (1368, .iload 15, 2, 0, 0), (1370, .iload 17, 2, 0, 0), (1372, .aload 7, 2, 0, 0), (1374, .iload 19, 2, 0, 0), (1376, .iaload, 1, 0, 0), (1377, .iconst 0, 1, 0, 0), (1378, .invokestatic 159, 3, 8, 6), (1381, .iload 20, 2, 0, 0), (1383, .if_icmp .ne 27, 3, 1410, 0), (1386, .aload_n 1, 1, 0, 0), (1387, .iconst 1, 1, 0, 0), (1388, .iload 15, 2, 0, 0), (1390, .iload 17, 2, 0, 0), (1392, .aload 7, 2, 0, 0), (1394, .iload 19, 2, 0, 0), (1396, .iaload, 1, 0, 0), (1397, .iconst 0, 1, 0, 0), (1398, .invokestatic 159, 3, 8, 6), (1401, .iload 20, 2, 0, 0), (1403, .if_icmp .ne 7, 3, 1410, 0), (1406, .iconst 1, 1, 0, 0), (1407, .goto 4, 3, 1411, 0), (1410, .iconst 0, 1, 0, 0), (1411, .istore 4, 2, 0, 0), (1413, .iinc 19 1, 3, 0, 0), (1416, .goto (-79), 3, 1337, 0), (1419, .iload 4, 2, 0, 0), (1421, .ifCond .eq 68, 3, 1489, 0), (1424, .iload 13, 2, 0, 0), (1426, .bipush 20, 2, 0, 0), (1428, .irem, 1, 0, 0), (1429, .bipush 19, 2, 0, 0), (1431, .if_icmp .ne 54, 3, 1485, 0), (1434, .aload_n 1, 1, 0, 0), (1435, .iload 15, 2, 0, 0), (1437, .invokestatic 230, 3, 10, 2), (1440, .ifCond .eq 49, 3, 1489, 0), (1443, .aload_n 1, 1, 0, 0), (1444, .aload 5, 2, 0, 0), (1446, .aload_n 3, 1, 0, 0), (1447, .iload 15, 2, 0, 0), (1449, .iconst (-1), 1, 0, 0), (1450, .aload 6, 2, 0, 0), (1452, .iconst 0, 1, 0, 0), (1453, .iaload, 1, 0, 0), (1454, .invokestatic 234, 3, 11, 6), (1457, .ifCond .eq 32, 3, 1489, 0), (1460, .iload 9, 2, 0, 0), (1462, .ifCond .eq 23, 3, 1485, 0), (1465, .aload_n 1, 1, 0, 0), (1466, .aload 5, 2, 0, 0), (1468, .aload_n 3, 1, 0, 0), (1469, .iload 15, 2, 0, 0), (1471, .aload 7, 2, 0, 0), (1473, .iconst 0, 1, 0, 0), (1474, .iaload, 1, 0, 0), (1475, .aload 8, 2, 0, 0), (1477, .iconst 0, 1, 0, 0), (1478, .iaload, 1, 0, 0), (1479, .invokestatic 234, 3, 11, 6), (1482, .ifCond .eq 7, 3, 1489, 0), (1485, .iconst 1, 1, 0, 0), (1486, .goto 4, 3, 1490, 0), (1489, .iconst 0, 1, 0, 0), (1490, .istore 4, 2, 0, 0), (1492, .iinc 13 1, 3, 0, 0), (1495, .goto (-1366), 3, 129, 0), (1498, .iload 4, 2, 0, 0), (1500, .ifCond .eq 36, 3, 1536, 0), (1503, .aload_n 1, 1, 0, 0), (1504, .invokevirtual 238, 3, 62, 1), (1507, .ifCond .eq 29, 3, 1536, 0), (1510, .aload_n 1, 1, 0, 0), (1511, .invokevirtual 241, 3, 46, 1), (1514, .aload_n 1, 1, 0, 0), (1515, .invokevirtual 244, 3, 22, 1), (1518, .if_icmp .gt 18, 3, 1536, 0), (1521, .aload_n 1, 1, 0, 0), (1522, .invokevirtual 241, 3, 46, 1), (1525, .aload_n 1, 1, 0, 0), (1526, .invokevirtual 246, 3, 26, 1), (1529, .if_icmp .gt 7, 3, 1536, 0), (1532, .iconst 1, 1, 0, 0), (1533, .goto 4, 3, 1537, 0), (1536, .iconst 0, 1, 0, 0), (1537, .ireturn, 1, 0, 0)]
def gM_0 : MethodName × ByteArray × Nat × Option FieldType × List (Nat × Nat × Nat × Nat) := (yL_law, cL_law, 21, (some .boolean), [])
/-- 1: StratumLedgeLaw.pick([III)I -/
def gC_1 : List (Nat × gI) := [(0, .aload_n 0, 1, 0, 0), (1, .iload_n 1, 1, 0, 0), (2, .invokestatic 9, 3, 12, 2), (5, .bipush 8, 2, 0, 0), (7, .iushr, 1, 0, 0), (8, .iload_n 2, 1, 0, 0), (9, .irem, 1, 0, 0), (10, .ireturn, 1, 0, 0)]
def gM_1 : MethodName × ByteArray × Nat × Option FieldType × List (Nat × Nat × Nat × Nat) := (yL_pick, cL_pick, 3, (some .int), [])
/-- 2: StratumLedgeLaw.deed(LStratumLedge;IIIIII)I -/
def gC_2 : List (Nat × gI) := [(0, .aload_n 0, 1, 0, 0), (1, .iload_n 1, 1, 0, 0), (2, .iload_n 2, 1, 0, 0), (3, .iload_n 3, 1, 0, 0), (4, .iload 4, 2, 0, 0), (6, .iload 5, 2, 0, 0), (8, .iload 6, 2, 0, 0), (10, .invokestatic 77, 3, 13, 7), (13, .ireturn, 1, 0, 0), (14, .astore 7, 2, 0, 0), (16, .ldc 83, 2, 0, 4292967295), (18, .ireturn, 1, 0, 0), (19, .astore 7, 2, 0, 0), (21, .ldc 86, 2, 0, 4292967294), (23, .ireturn, 1, 0, 0), (24, .astore 7, 2, 0, 0), (26, .ldc 89, 2, 0, 4292967293), (28, .ireturn, 1, 0, 0), (29, .astore 7, 2, 0, 0), (31, .ldc 92, 2, 0, 4292967291), (33, .ireturn, 1, 0, 0)]
def gM_2 : MethodName × ByteArray × Nat × Option FieldType × List (Nat × Nat × Nat × Nat) := (yL_deed, cL_deed, 8, (some .int), [(0, 13, 14, 81), (0, 13, 19, 84), (0, 13, 24, 87), (0, 13, 29, 90)])
/-- 3: StratumLedgeLaw.isWrite(LStratumLedge;[II[[I[II)Z -/
def gC_3 : List (Nat × gI) := [(0, .aload_n 1, 1, 0, 0), (1, .iload_n 2, 1, 0, 0), (2, .bipush 12, 2, 0, 0), (4, .invokestatic 155, 3, 1, 3), (7, .istore 6, 2, 0, 0), (9, .aload_n 1, 1, 0, 0), (10, .iload_n 2, 1, 0, 0), (11, .iconst 1, 1, 0, 0), (12, .iadd, 1, 0, 0), (13, .bipush 12, 2, 0, 0), (15, .invokestatic 155, 3, 1, 3), (18, .istore 7, 2, 0, 0), (20, .aload_n 1, 1, 0, 0), (21, .iload_n 2, 1, 0, 0), (22, .iconst 2, 1, 0, 0), (23, .iadd, 1, 0, 0), (24, .bipush 9, 2, 0, 0), (26, .invokestatic 155, 3, 1, 3), (29, .iconst 4, 1, 0, 0), (30, .isub, 1, 0, 0), (31, .istore 8, 2, 0, 0), (33, .aload_n 0, 1, 0, 0), (34, .iconst 4, 1, 0, 0), (35, .iload 5, 2, 0, 0), (37, .iconst 0, 1, 0, 0), (38, .iconst 0, 1, 0, 0), (39, .iconst 0, 1, 0, 0), (40, .invokestatic 159, 3, 8, 6), (43, .bipush 6, 2, 0, 0), (45, .if_icmp .lt 7, 3, 52, 0), (48, .iconst 1, 1, 0, 0), (49, .goto 4, 3, 53, 0), (52, .iconst 0, 1, 0, 0), (53, .istore 9, 2, 0, 0), (55, .iload 6, 2, 0, 0), (57, .bipush 10, 2, 0, 0), (59, .if_icmp .ge 230, 3, 289, 0), (62, .iload 6, 2, 0, 0), (64, .bipush 7, 2, 0, 0), (66, .if_icmp .le 17, 3, 83, 0), (69, .iload 7, 2, 0, 0), (71, .aload_n 1, 1, 0, 0), (72, .iload_n 2, 1, 0, 0), (73, .iconst 3, 1, 0, 0), (74, .iadd, 1, 0, 0), (75, .iconst 4, 1, 0, 0), (76, .invokestatic 155, 3, 1, 3), (79, .iadd, 1, 0, 0), (80, .goto 5, 3, 85, 0), (83, .iload 7, 2, 0, 0), (85, .istore 12, 2, 0, 0), (87, .iload 6, 2, 0, 0), (89, .iconst 4, 1, 0, 0), (90, .if_icmp .ge 19, 3, 109, 0), (93, .aload_n 0, 1, 0, 0), (94, .iconst 1, 1, 0, 0), (95, .iload 5, 2, 0, 0), (97, .iload 7, 2, 0, 0), (99, .iload 8, 2, 0, 0), (101, .iconst 0, 1, 0, 0), (102, .iconst 0, 1, 0, 0), (103, .invokestatic 162, 3, 2, 7), (106, .goto 61, 3, 167, 0), (109, .iload 6, 2, 0, 0), (111, .bipush 6, 2, 0, 0), (113, .if_icmp .ge 18, 3, 131, 0), (116, .aload_n 0, 1, 0, 0), (117, .iconst 2, 1, 0, 0), (118, .iload 5, 2, 0, 0), (120, .iload 7, 2, 0, 0), (122, .iconst 0, 1, 0, 0), (123, .iconst 0, 1, 0, 0), (124, .iconst 0, 1, 0, 0), (125, .invokestatic 162, 3, 2, 7), (128, .goto 39, 3, 167, 0), (131, .iload 6, 2, 0, 0), (133, .bipush 8, 2, 0, 0), (135, .if_icmp .ge 19, 3, 154, 0), (138, .aload_n 0, 1, 0, 0), (139, .iconst 4, 1, 0, 0), (140, .iload 5, 2, 0, 0), (142, .iload 7, 2, 0, 0), (144, .iload 8, 2, 0, 0), (146, .iconst 0, 1, 0, 0), (147, .iconst 0, 1, 0, 0), (148, .invokestatic 162, 3, 2, 7), (151, .goto 16, 3, 167, 0), (154, .aload_n 0, 1, 0, 0), (155, .iconst 3, 1, 0, 0), (156, .iload 5, 2, 0, 0), (158, .iload 7, 2, 0, 0), (160, .iload 12, 2, 0, 0), (162, .iconst 0, 1, 0, 0), (163, .iconst 0, 1, 0, 0), (164, .invokestatic 162, 3, 2, 7), (167, .istore 10, 2, 0, 0), (169, .iload 9, 2, 0, 0), (171, .ifCond .eq 16, 3, 187, 0), (174, .iload 10, 2, 0, 0), (176, .ldc 89, 2, 0, 4292967293), (178, .if_icmp .ne 7, 3, 185, 0), (181, .iconst 1, 1, 0, 0), (182, .goto 4, 3, 186, 0), (185, .iconst 0, 1, 0, 0), (186, .ireturn, 1, 0, 0), (187, .aload_n 3, 1, 0, 0), (188, .aload 4, 2, 0, 0), (190, .iload 5, 2, 0, 0), (192, .iload 6, 2, 0, 0), (194, .iconst 4, 1, 0, 0), (195, .if_icmp .ge 8, 3, 203, 0), (198, .bipush 112, 2, 0, 0), (200, .goto 29, 3, 229, 0), (203, .iload 6, 2, 0, 0), (205, .bipush 6, 2, 0, 0), (207, .if_icmp .ge 8, 3, 215, 0), (210, .bipush 100, 2, 0, 0), (212, .goto 17, 3, 229, 0), (215, .iload 6, 2, 0, 0), (217, .bipush 8, 2, 0, 0), (219, .if_icmp .ge 8, 3, 227, 0), (222, .bipush 109, 2, 0, 0), (224, .goto 5, 3, 229, 0), (227, .bipush 114, 2, 0, 0), (229, .iload 7, 2, 0, 0), (231, .iload 12, 2, 0, 0), (233, .iload 8, 2, 0, 0), (235, .invokestatic 165, 3, 14, 7), (238, .astore 11, 2, 0, 0), (240, .aload_n 3, 1, 0, 0), (241, .aload 4, 2, 0, 0), (243, .iconst 0, 1, 0, 0), (244, .iaload, 1, 0, 0), (245, .iload 5, 2, 0, 0), (247, .invokestatic 169, 3, 4, 3), (250, .bipush 8, 2, 0, 0), (252, .if_icmp .ne 13, 3, 265, 0), (255, .aload_n 3, 1, 0, 0), (256, .aload 4, 2, 0, 0), (258, .iconst 0, 1, 0, 0), (259, .iaload, 1, 0, 0), (260, .iload 5, 2, 0, 0), (262, .invokestatic 172, 3, 5, 3), (265, .iload 10, 2, 0, 0), (267, .aload 4, 2, 0, 0), (269, .iconst 0, 1, 0, 0), (270, .iaload, 1, 0, 0), (271, .if_icmp .ne 16, 3, 287, 0), (274, .aload_n 0, 1, 0, 0), (275, .invokevirtual 176, 3, 67, 1), (278, .iload 10, 2, 0, 0), (280, .if_icmp .ne 7, 3, 287, 0), (283, .iconst 1, 1, 0, 0), (284, .goto 4, 3, 288, 0), (287, .iconst 0, 1, 0, 0), (288, .ireturn, 1, 0, 0), (289, .iconst 1, 1, 0, 0), (290, .aload_n 1, 1, 0, 0), (291, .iload_n 2, 1, 0, 0), (292, .iconst 3, 1, 0, 0), (293, .iadd, 1, 0, 0), (294, .iconst 3, 1, 0, 0), (295, .invokestatic 155, 3, 1, 3), (298, .iadd, 1, 0, 0), (299, .istore 12, 2, 0, 0), (301, .iconst 1, 1, 0, 0), (302, .aload_n 1, 1, 0, 0), (303, .iload_n 2, 1, 0, 0), (304, .iconst 4, 1, 0, 0), (305, .iadd, 1, 0, 0), (306, .iconst 3, 1, 0, 0), (307, .invokestatic 155, 3, 1, 3), (310, .iadd, 1, 0, 0), (311, .istore 13, 2, 0, 0), (313, .aload_n 0, 1, 0, 0), (314, .invokevirtual 179, 3, 97, 1), (317, .istore 14, 2, 0, 0), (319, .aload_n 0, 1, 0, 0), (320, .iconst 5, 1, 0, 0), (321, .iload 5, 2, 0, 0), (323, .iload 7, 2, 0, 0), (325, .iload 7, 2, 0, 0), (327, .iload 12, 2, 0, 0), (329, .iload 13, 2, 0, 0), (331, .imul, 1, 0, 0), (332, .iadd, 1, 0, 0), (333, .iconst 1, 1, 0, 0), (334, .isub, 1, 0, 0), (335, .iload 12, 2, 0, 0), (337, .iload 8, 2, 0, 0), (339, .invokestatic 162, 3, 2, 7), (342, .istore 10, 2, 0, 0), (344, .iload 9, 2, 0, 0), (346, .ifCond .eq 16, 3, 362, 0), (349, .iload 10, 2, 0, 0), (351, .ldc 89, 2, 0, 4292967293), (353, .if_icmp .ne 7, 3, 360, 0), (356, .iconst 1, 1, 0, 0), (357, .goto 4, 3, 361, 0), (360, .iconst 0, 1, 0, 0), (361, .ireturn, 1, 0, 0), (362, .iconst 0, 1, 0, 0), (363, .istore 15, 2, 0, 0), (365, .iconst 1, 1, 0, 0), (366, .istore 16, 2, 0, 0), (368, .iload 16, 2, 0, 0), (370, .aload 4, 2, 0, 0), (372, .iconst 0, 1, 0, 0), (373, .iaload, 1, 0, 0), (374, .if_icmp .gt 82, 3, 456, 0), (377, .iload 15, 2, 0, 0), (379, .ifCond .ne 64, 3, 443, 0), (382, .aload_n 3, 1, 0, 0), (383, .iload 16, 2, 0, 0), (385, .aaload, 1, 0, 0), (386, .iconst 0, 1, 0, 0), (387, .iaload, 1, 0, 0), (388, .iload 5, 2, 0, 0), (390, .if_icmp .ne 57, 3, 447, 0), (393, .aload_n 3, 1, 0, 0), (394, .iload 16, 2, 0, 0), (396, .aaload, 1, 0, 0), (397, .bipush 6, 2, 0, 0), (399, .iaload, 1, 0, 0), (400, .ifCond .ne 47, 3, 447, 0), (403, .aload_n 3, 1, 0, 0), (404, .iload 16, 2, 0, 0), (406, .aaload, 1, 0, 0), (407, .bipush 8, 2, 0, 0), (409, .iaload, 1, 0, 0), (410, .ifCond .ne 37, 3, 447, 0), (413, .aload_n 3, 1, 0, 0), (414, .iload 16, 2, 0, 0), (416, .aaload, 1, 0, 0), (417, .iconst 2, 1, 0, 0), (418, .iaload, 1, 0, 0), (419, .iload 7, 2, 0, 0), (421, .iload 12, 2, 0, 0), (423, .iload 13, 2, 0, 0), (425, .iconst 1, 1, 0, 0), (426, .isub, 1, 0, 0), (427, .imul, 1, 0, 0), (428, .iadd, 1, 0, 0), (429, .if_icmp .gt 18, 3, 447, 0), (432, .aload_n 3, 1, 0, 0), (433, .iload 16, 2, 0, 0), (435, .aaload, 1, 0, 0), (436, .iconst 3, 1, 0, 0), (437, .iaload, 1, 0, 0), (438, .iload 7, 2, 0, 0), (440, .if_icmp .lt 7, 3, 447, 0), (443, .iconst 1, 1, 0, 0), (444, .goto 4, 3, 448, 0), (447, .iconst 0, 1, 0, 0), (448, .istore 15, 2, 0, 0), (450, .iinc 16 1, 3, 0, 0), (453, .goto (-85), 3, 368, 0), (456, .iload 15, 2, 0, 0), (458, .ifCond .eq 13, 3, 471, 0), (461, .aload_n 3, 1, 0, 0), (462, .aload 4, 2, 0, 0), (464, .iconst 0, 1, 0, 0), (465, .iaload, 1, 0, 0), (466, .iload 5, 2, 0, 0), (468, .invokestatic 172, 3, 5, 3), (471, .aload_n 3, 1, 0, 0), (472, .aload 4, 2, 0, 0), (474, .iload 5, 2, 0, 0), (476, .bipush 112, 2, 0, 0), (478, .iload 7, 2, 0, 0), (480, .iload 7, 2, 0, 0), (482, .iload 12, 2, 0, 0), (484, .iload 13, 2, 0, 0), (486, .iconst 1, 1, 0, 0), (487, .isub, 1, 0, 0), (488, .imul, 1, 0, 0), (489, .iadd, 1, 0, 0), (490, .iload 8, 2, 0, 0), (492, .invokestatic 165, 3, 14, 7), (495, .astore 11, 2, 0, 0), (497, .aload 11, 2, 0, 0), (499, .iconst 5, 1, 0, 0), (500, .iload 12, 2, 0, 0), (502, .iastore, 1, 0, 0), (503, .aload 11, 2, 0, 0), (505, .bipush 6, 2, 0, 0), (507, .iconst 1, 1, 0, 0), (508, .iastore, 1, 0, 0), (509, .iload 10, 2, 0, 0), (511, .ifCond .lt 41, 3, 552, 0), (514, .iload 10, 2, 0, 0), (516, .iconst 3, 1, 0, 0), (517, .if_icmp .gt 35, 3, 552, 0), (520, .aload_n 0, 1, 0, 0), (521, .invokevirtual 176, 3, 67, 1), (524, .aload 4, 2, 0, 0), (526, .iconst 0, 1, 0, 0), (527, .iaload, 1, 0, 0), (528, .if_icmp .ne 24, 3, 552, 0), (531, .aload_n 0, 1, 0, 0), (532, .invokevirtual 179, 3, 97, 1), (535, .iload 14, 2, 0, 0), (537, .iconst 1, 1, 0, 0), (538, .iadd, 1, 0, 0), (539, .iload 15, 2, 0, 0), (541, .invokestatic 125, 3, 7, 1), (544, .iadd, 1, 0, 0), (545, .if_icmp .ne 7, 3, 552, 0), (548, .iconst 1, 1, 0, 0), (549, .goto 4, 3, 553, 0), (552, .iconst 0, 1, 0, 0), (553, .ireturn, 1, 0, 0)]
def gM_3 : MethodName × ByteArray × Nat × Option FieldType × List (Nat × Nat × Nat × Nat) := (yL_isWrite, cL_isWrite, 17, (some .boolean), [])
/-- 4: StratumLedgeLaw.inMemory([[III)I -/
def gC_4 : List (Nat × gI) := [(0, .iconst 0, 1, 0, 0), (1, .istore_n 3, 1, 0, 0), (2, .iconst 1, 1, 0, 0), (3, .istore 4, 2, 0, 0), (5, .iload 4, 2, 0, 0), (7, .iload_n 1, 1, 0, 0), (8, .if_icmp .gt 47, 3, 55, 0), (11, .iload_n 3, 1, 0, 0), (12, .aload_n 0, 1, 0, 0), (13, .iload 4, 2, 0, 0), (15, .aaload, 1, 0, 0), (16, .iconst 0, 1, 0, 0), (17, .iaload, 1, 0, 0), (18, .iload_n 2, 1, 0, 0), (19, .if_icmp .ne 27, 3, 46, 0), (22, .aload_n 0, 1, 0, 0), (23, .iload 4, 2, 0, 0), (25, .aaload, 1, 0, 0), (26, .bipush 6, 2, 0, 0), (28, .iaload, 1, 0, 0), (29, .ifCond .ne 17, 3, 46, 0), (32, .aload_n 0, 1, 0, 0), (33, .iload 4, 2, 0, 0), (35, .aaload, 1, 0, 0), (36, .bipush 8, 2, 0, 0), (38, .iaload, 1, 0, 0), (39, .ifCond .ne 7, 3, 46, 0), (42, .iconst 1, 1, 0, 0), (43, .goto 4, 3, 47, 0), (46, .iconst 0, 1, 0, 0), (47, .iadd, 1, 0, 0), (48, .istore_n 3, 1, 0, 0), (49, .iinc 4 1, 3, 0, 0), (52, .goto (-47), 3, 5, 0), (55, .iload_n 3, 1, 0, 0), (56, .ireturn, 1, 0, 0)]
def gM_4 : MethodName × ByteArray × Nat × Option FieldType × List (Nat × Nat × Nat × Nat) := (yL_inMemory, cL_inMemory, 5, (some .int), [])
/-- 5: StratumLedgeLaw.flushed([[III)V -/
def gC_5 : List (Nat × gI) := [(0, .iconst 1, 1, 0, 0), (1, .istore_n 3, 1, 0, 0), (2, .iload_n 3, 1, 0, 0), (3, .iload_n 1, 1, 0, 0), (4, .if_icmp .gt 43, 3, 47, 0), (7, .aload_n 0, 1, 0, 0), (8, .iload_n 3, 1, 0, 0), (9, .aaload, 1, 0, 0), (10, .bipush 6, 2, 0, 0), (12, .aload_n 0, 1, 0, 0), (13, .iload_n 3, 1, 0, 0), (14, .aaload, 1, 0, 0), (15, .iconst 0, 1, 0, 0), (16, .iaload, 1, 0, 0), (17, .iload_n 2, 1, 0, 0), (18, .if_icmp .ne 16, 3, 34, 0), (21, .aload_n 0, 1, 0, 0), (22, .iload_n 3, 1, 0, 0), (23, .aaload, 1, 0, 0), (24, .bipush 8, 2, 0, 0), (26, .iaload, 1, 0, 0), (27, .ifCond .ne 7, 3, 34, 0), (30, .iconst 1, 1, 0, 0), (31, .goto 9, 3, 40, 0), (34, .aload_n 0, 1, 0, 0), (35, .iload_n 3, 1, 0, 0), (36, .aaload, 1, 0, 0), (37, .bipush 6, 2, 0, 0), (39, .iaload, 1, 0, 0), (40, .iastore, 1, 0, 0), (41, .iinc 3 1, 3, 0, 0), (44, .goto (-42), 3, 2, 0), (47, .return_, 1, 0, 0)]
def gM_5 : MethodName × ByteArray × Nat × Option FieldType × List (Nat × Nat × Nat × Nat) := (yL_flushed, cL_flushed, 4, none, [])
/-- 6: StratumLedgeLaw.logged([[IIZ)I -/
def gC_6 : List (Nat × gI) := [(0, .iconst 1, 1, 0, 0), (1, .istore_n 3, 1, 0, 0), (2, .iload_n 3, 1, 0, 0), (3, .iload_n 1, 1, 0, 0), (4, .if_icmp .gt 29, 3, 33, 0), (7, .aload_n 0, 1, 0, 0), (8, .iload_n 3, 1, 0, 0), (9, .aaload, 1, 0, 0), (10, .bipush 6, 2, 0, 0), (12, .iaload, 1, 0, 0), (13, .iconst 1, 1, 0, 0), (14, .if_icmp .eq 13, 3, 27, 0), (17, .aload_n 0, 1, 0, 0), (18, .iload_n 3, 1, 0, 0), (19, .aaload, 1, 0, 0), (20, .bipush 8, 2, 0, 0), (22, .iaload, 1, 0, 0), (23, .iconst 1, 1, 0, 0), (24, .if_icmp .ne 9, 3, 33, 0), (27, .iinc 3 1, 3, 0, 0), (30, .goto (-28), 3, 2, 0), (33, .iconst 0, 1, 0, 0), (34, .istore 4, 2, 0, 0), (36, .iload_n 3, 1, 0, 0), (37, .istore 5, 2, 0, 0), (39, .iload 5, 2, 0, 0), (41, .iload_n 1, 1, 0, 0), (42, .if_icmp .gt 62, 3, 104, 0), (45, .iload 4, 2, 0, 0), (47, .aload_n 0, 1, 0, 0), (48, .iload 5, 2, 0, 0), (50, .aaload, 1, 0, 0), (51, .iconst 5, 1, 0, 0), (52, .iaload, 1, 0, 0), (53, .ifCond .ne 41, 3, 94, 0), (56, .aload_n 0, 1, 0, 0), (57, .iload 5, 2, 0, 0), (59, .aaload, 1, 0, 0), (60, .bipush 8, 2, 0, 0), (62, .iaload, 1, 0, 0), (63, .ifCond .ne 31, 3, 94, 0), (66, .iload_n 2, 1, 0, 0), (67, .ifCond .eq 23, 3, 90, 0), (70, .aload_n 0, 1, 0, 0), (71, .iload 5, 2, 0, 0), (73, .aaload, 1, 0, 0), (74, .bipush 6, 2, 0, 0), (76, .iaload, 1, 0, 0), (77, .ifCond .ne 17, 3, 94, 0), (80, .aload_n 0, 1, 0, 0), (81, .iload 5, 2, 0, 0), (83, .aaload, 1, 0, 0), (84, .bipush 7, 2, 0, 0), (86, .iaload, 1, 0, 0), (87, .ifCond .ne 7, 3, 94, 0), (90, .iconst 1, 1, 0, 0), (91, .goto 4, 3, 95, 0), (94, .iconst 0, 1, 0, 0), (95, .iadd, 1, 0, 0), (96, .istore 4, 2, 0, 0), (98, .iinc 5 1, 3, 0, 0), (101, .goto (-62), 3, 39, 0), (104, .iload 4, 2, 0, 0), (106, .ireturn, 1, 0, 0)]
def gM_6 : MethodName × ByteArray × Nat × Option FieldType × List (Nat × Nat × Nat × Nat) := (yL_logged, cL_logged, 6, (some .int), [])
/-- 7: StratumLedgeLaw.told(Z)I -/
def gC_7 : List (Nat × gI) := [(0, .iload_n 0, 1, 0, 0), (1, .ifCond .eq 7, 3, 8, 0), (4, .iconst 1, 1, 0, 0), (5, .goto 4, 3, 9, 0), (8, .iconst 0, 1, 0, 0), (9, .ireturn, 1, 0, 0)]
def gM_7 : MethodName × ByteArray × Nat × Option FieldType × List (Nat × Nat × Nat × Nat) := (yL_told, cL_told, 1, (some .int), [])
/-- 8: StratumLedgeLaw.ask(LStratumLedge;IIIII)I -/
def gC_8 : List (Nat × gI) := [(0, .aload_n 0, 1, 0, 0), (1, .iload_n 1, 1, 0, 0), (2, .iload_n 2, 1, 0, 0), (3, .iload_n 3, 1, 0, 0), (4, .iload 4, 2, 0, 0), (6, .iload 5, 2, 0, 0), (8, .invokestatic 135, 3, 15, 6), (11, .ireturn, 1, 0, 0), (12, .astore 6, 2, 0, 0), (14, .ldc 83, 2, 0, 4292967295), (16, .ireturn, 1, 0, 0), (17, .astore 6, 2, 0, 0), (19, .ldc 86, 2, 0, 4292967294), (21, .ireturn, 1, 0, 0), (22, .astore 6, 2, 0, 0), (24, .ldc 92, 2, 0, 4292967291), (26, .ireturn, 1, 0, 0)]
def gM_8 : MethodName × ByteArray × Nat × Option FieldType × List (Nat × Nat × Nat × Nat) := (yL_ask, cL_ask, 7, (some .int), [(0, 11, 12, 81), (0, 11, 17, 84), (0, 11, 22, 90)])
/-- 9: StratumLedgeLaw.value([[I[CIII)I -/
def gC_9 : List (Nat × gI) := [(0, .iload 4, 2, 0, 0), (2, .istore 5, 2, 0, 0), (4, .iload 5, 2, 0, 0), (6, .ifCond .le 52, 3, 58, 0), (9, .aload_n 0, 1, 0, 0), (10, .iload 5, 2, 0, 0), (12, .aaload, 1, 0, 0), (13, .iconst 0, 1, 0, 0), (14, .iaload, 1, 0, 0), (15, .iload_n 2, 1, 0, 0), (16, .if_icmp .ne 36, 3, 52, 0), (19, .aload_n 0, 1, 0, 0), (20, .iload 5, 2, 0, 0), (22, .aaload, 1, 0, 0), (23, .bipush 8, 2, 0, 0), (25, .iaload, 1, 0, 0), (26, .iconst 1, 1, 0, 0), (27, .if_icmp .eq 25, 3, 52, 0), (30, .aload_n 0, 1, 0, 0), (31, .iload 5, 2, 0, 0), (33, .aaload, 1, 0, 0), (34, .iconst 1, 1, 0, 0), (35, .iaload, 1, 0, 0), (36, .bipush 109, 2, 0, 0), (38, .if_icmp .eq 14, 3, 52, 0), (41, .aload_n 0, 1, 0, 0), (42, .iload 5, 2, 0, 0), (44, .aaload, 1, 0, 0), (45, .iload_n 3, 1, 0, 0), (46, .invokestatic 147, 3, 16, 2), (49, .ifCond .ne 9, 3, 58, 0), (52, .iinc 5 (-1), 3, 0, 0), (55, .goto (-51), 3, 4, 0), (58, .iload 5, 2, 0, 0), (60, .ifCond .le 18, 3, 78, 0), (63, .aload_n 0, 1, 0, 0), (64, .iload 5, 2, 0, 0), (66, .aaload, 1, 0, 0), (67, .iconst 1, 1, 0, 0), (68, .iaload, 1, 0, 0), (69, .bipush 112, 2, 0, 0), (71, .if_icmp .ne 7, 3, 78, 0), (74, .iconst 1, 1, 0, 0), (75, .goto 4, 3, 79, 0), (78, .iconst 0, 1, 0, 0), (79, .istore 6, 2, 0, 0), (81, .iload 6, 2, 0, 0), (83, .ifCond .eq 12, 3, 95, 0), (86, .aload_n 0, 1, 0, 0), (87, .iload 5, 2, 0, 0), (89, .aaload, 1, 0, 0), (90, .iconst 4, 1, 0, 0), (91, .iaload, 1, 0, 0), (92, .goto 4, 3, 96, 0), (95, .iconst 0, 1, 0, 0), (96, .istore 7, 2, 0, 0), (98, .iload 5, 2, 0, 0), (100, .iconst 1, 1, 0, 0), (101, .iadd, 1, 0, 0), (102, .istore 8, 2, 0, 0), (104, .iload 8, 2, 0, 0), (106, .iload 4, 2, 0, 0), (108, .if_icmp .gt 84, 3, 192, 0), (111, .aload_n 0, 1, 0, 0), (112, .iload 8, 2, 0, 0), (114, .aaload, 1, 0, 0), (115, .iconst 0, 1, 0, 0), (116, .iaload, 1, 0, 0), (117, .iload_n 2, 1, 0, 0), (118, .if_icmp .ne 68, 3, 186, 0), (121, .aload_n 0, 1, 0, 0), (122, .iload 8, 2, 0, 0), (124, .aaload, 1, 0, 0), (125, .bipush 8, 2, 0, 0), (127, .iaload, 1, 0, 0), (128, .ifCond .ne 58, 3, 186, 0), (131, .aload_n 0, 1, 0, 0), (132, .iload 8, 2, 0, 0), (134, .aaload, 1, 0, 0), (135, .iconst 1, 1, 0, 0), (136, .iaload, 1, 0, 0), (137, .bipush 109, 2, 0, 0), (139, .if_icmp .ne 47, 3, 186, 0), (142, .aload_n 0, 1, 0, 0), (143, .iload 8, 2, 0, 0), (145, .aaload, 1, 0, 0), (146, .iload_n 3, 1, 0, 0), (147, .invokestatic 147, 3, 16, 2), (150, .ifCond .eq 36, 3, 186, 0), (153, .iload 6, 2, 0, 0), (155, .ifCond .eq 20, 3, 175, 0), (158, .aload_n 1, 1, 0, 0), (159, .iload_n 2, 1, 0, 0), (160, .caload, 1, 0, 0), (161, .iload 7, 2, 0, 0), (163, .aload_n 0, 1, 0, 0), (164, .iload 8, 2, 0, 0), (166, .aaload, 1, 0, 0), (167, .iconst 4, 1, 0, 0), (168, .iaload, 1, 0, 0), (169, .invokestatic 151, 3, 17, 3), (172, .goto 9, 3, 181, 0), (175, .aload_n 0, 1, 0, 0), (176, .iload 8, 2, 0, 0), (178, .aaload, 1, 0, 0), (179, .iconst 4, 1, 0, 0), (180, .iaload, 1, 0, 0), (181, .istore 7, 2, 0, 0), (183, .iconst 1, 1, 0, 0), (184, .istore 6, 2, 0, 0), (186, .iinc 8 1, 3, 0, 0), (189, .goto (-85), 3, 104, 0), (192, .iload 6, 2, 0, 0), (194, .ifCond .eq 8, 3, 202, 0), (197, .iload 7, 2, 0, 0), (199, .goto 5, 3, 204, 0), (202, .ldc 92, 2, 0, 4292967291), (204, .ireturn, 1, 0, 0)]
def gM_9 : MethodName × ByteArray × Nat × Option FieldType × List (Nat × Nat × Nat × Nat) := (yL_value, cL_value, 9, (some .int), [])
/-- 10: StratumLedgeLaw.areRuns(LStratumLedge;I)Z -/
def gC_10 : List (Nat × gI) := [(0, .aload_n 0, 1, 0, 0), (1, .iconst 4, 1, 0, 0), (2, .iload_n 1, 1, 0, 0), (3, .iconst 4, 1, 0, 0), (4, .iconst 0, 1, 0, 0), (5, .iconst 0, 1, 0, 0), (6, .invokestatic 159, 3, 8, 6), (9, .ldc 83, 2, 0, 4292967295), (11, .if_icmp .ne 7, 3, 18, 0), (14, .iconst 1, 1, 0, 0), (15, .goto 4, 3, 19, 0), (18, .iconst 0, 1, 0, 0), (19, .istore_n 2, 1, 0, 0), (20, .iconst 0, 1, 0, 0), (21, .istore_n 3, 1, 0, 0), (22, .iload_n 3, 1, 0, 0), (23, .iconst 4, 1, 0, 0), (24, .if_icmp .ge 265, 3, 289, 0), (27, .iload_n 2, 1, 0, 0), (28, .ifCond .eq 261, 3, 289, 0), (31, .aload_n 0, 1, 0, 0), (32, .iconst 4, 1, 0, 0), (33, .iload_n 1, 1, 0, 0), (34, .iload_n 3, 1, 0, 0), (35, .iconst 0, 1, 0, 0), (36, .iconst 0, 1, 0, 0), (37, .invokestatic 159, 3, 8, 6), (40, .istore 4, 2, 0, 0), (42, .iconst 0, 1, 0, 0), (43, .istore 5, 2, 0, 0), (45, .iconst (-1), 1, 0, 0), (46, .istore 6, 2, 0, 0), (48, .iconst 0, 1, 0, 0), (49, .istore 7, 2, 0, 0), (51, .iload 7, 2, 0, 0), (53, .iload 4, 2, 0, 0), (55, .if_icmp .ge 129, 3, 184, 0), (58, .iload_n 2, 1, 0, 0), (59, .ifCond .eq 125, 3, 184, 0), (62, .aload_n 0, 1, 0, 0), (63, .bipush 8, 2, 0, 0), (65, .iload_n 1, 1, 0, 0), (66, .iload_n 3, 1, 0, 0), (67, .iload 7, 2, 0, 0), (69, .iconst 0, 1, 0, 0), (70, .invokestatic 159, 3, 8, 6), (73, .istore 8, 2, 0, 0), (75, .aload_n 0, 1, 0, 0), (76, .bipush 9, 2, 0, 0), (78, .iload_n 1, 1, 0, 0), (79, .iload_n 3, 1, 0, 0), (80, .iload 7, 2, 0, 0), (82, .iconst 0, 1, 0, 0), (83, .invokestatic 159, 3, 8, 6), (86, .istore 9, 2, 0, 0), (88, .aload_n 0, 1, 0, 0), (89, .bipush 6, 2, 0, 0), (91, .iload_n 1, 1, 0, 0), (92, .iload_n 3, 1, 0, 0), (93, .iload 7, 2, 0, 0), (95, .iconst 0, 1, 0, 0), (96, .invokestatic 159, 3, 8, 6), (99, .istore 10, 2, 0, 0), (101, .aload_n 0, 1, 0, 0), (102, .bipush 7, 2, 0, 0), (104, .iload_n 1, 1, 0, 0), (105, .iload_n 3, 1, 0, 0), (106, .iload 7, 2, 0, 0), (108, .iconst 0, 1, 0, 0), (109, .invokestatic 159, 3, 8, 6), (112, .istore 11, 2, 0, 0), (114, .iload 8, 2, 0, 0), (116, .ifCond .lt 46, 3, 162, 0), (119, .iload 8, 2, 0, 0), (121, .iload 9, 2, 0, 0), (123, .if_icmp .gt 39, 3, 162, 0), (126, .iload 10, 2, 0, 0), (128, .iload 11, 2, 0, 0), (130, .iadd, 1, 0, 0), (131, .ifCond .le 31, 3, 162, 0), (134, .iload_n 3, 1, 0, 0), (135, .ifCond .eq 10, 3, 145, 0), (138, .iload 8, 2, 0, 0), (140, .iload 6, 2, 0, 0), (142, .if_icmp .le 20, 3, 162, 0), (145, .aload_n 0, 1, 0, 0), (146, .iconst 5, 1, 0, 0), (147, .iload_n 1, 1, 0, 0), (148, .iload_n 3, 1, 0, 0), (149, .iload 7, 2, 0, 0), (151, .iconst 0, 1, 0, 0), (152, .invokestatic 159, 3, 8, 6), (155, .ifCond .le 7, 3, 162, 0), (158, .iconst 1, 1, 0, 0), (159, .goto 4, 3, 163, 0), (162, .iconst 0, 1, 0, 0), (163, .istore_n 2, 1, 0, 0), (164, .iload 9, 2, 0, 0), (166, .istore 6, 2, 0, 0), (168, .iload 5, 2, 0, 0), (170, .iload 10, 2, 0, 0), (172, .iload 11, 2, 0, 0), (174, .iadd, 1, 0, 0), (175, .iadd, 1, 0, 0), (176, .istore 5, 2, 0, 0), (178, .iinc 7 1, 3, 0, 0), (181, .goto (-130), 3, 51, 0), (184, .iload_n 3, 1, 0, 0), (185, .ifCond .ne 12, 3, 197, 0), (188, .iload 4, 2, 0, 0), (190, .i2f, 1, 0, 0), (191, .ldc 182, 2, 1, 1077936128), (193, .fdiv, 1, 0, 0), (194, .goto 32, 3, 226, 0), (197, .iload_n 3, 1, 0, 0), (198, .iconst 1, 1, 0, 0), (199, .if_icmp .ne 12, 3, 211, 0), (202, .iload 5, 2, 0, 0), (204, .i2f, 1, 0, 0), (205, .ldc 183, 2, 1, 1090519040), (207, .fdiv, 1, 0, 0), (208, .goto 18, 3, 226, 0), (211, .iload_n 3, 1, 0, 0), (212, .iconst 2, 1, 0, 0), (213, .if_icmp .ne 12, 3, 225, 0), (216, .iload 5, 2, 0, 0), (218, .i2f, 1, 0, 0), (219, .ldc 184, 2, 1, 1103101952), (221, .fdiv, 1, 0, 0), (222, .goto 4, 3, 226, 0), (225, .fconst 0, 1, 0, 0), (226, .fstore 7, 2, 0, 0), (228, .iload_n 2, 1, 0, 0), (229, .ifCond .eq 52, 3, 281, 0), (232, .aload_n 0, 1, 0, 0), (233, .bipush 12, 2, 0, 0), (235, .iload_n 1, 1, 0, 0), (236, .iload_n 3, 1, 0, 0), (237, .iconst 0, 1, 0, 0), (238, .iconst 0, 1, 0, 0), (239, .invokestatic 159, 3, 8, 6), (242, .fload 7, 2, 0, 0), (244, .invokestatic 185, 3, 179, 1), (247, .if_icmp .ne 34, 3, 281, 0), (250, .aload_n 0, 1, 0, 0), (251, .iload_n 1, 1, 0, 0), (252, .iload_n 3, 1, 0, 0), (253, .invokevirtual 191, 3, 36, 3), (256, .fload 7, 2, 0, 0), (258, .fcmp .l, 1, 0, 0), (259, .ifCond .ne 22, 3, 281, 0), (262, .aload_n 0, 1, 0, 0), (263, .iconst 5, 1, 0, 0), (264, .iload_n 1, 1, 0, 0), (265, .iload_n 3, 1, 0, 0), (266, .iload 4, 2, 0, 0), (268, .iconst 0, 1, 0, 0), (269, .invokestatic 159, 3, 8, 6), (272, .ldc 83, 2, 0, 4292967295), (274, .if_icmp .ne 7, 3, 281, 0), (277, .iconst 1, 1, 0, 0), (278, .goto 4, 3, 282, 0), (281, .iconst 0, 1, 0, 0), (282, .istore_n 2, 1, 0, 0), (283, .iinc 3 1, 3, 0, 0), (286, .goto (-264), 3, 22, 0), (289, .iload_n 2, 1, 0, 0), (290, .ireturn, 1, 0, 0)]
def gM_10 : MethodName × ByteArray × Nat × Option FieldType × List (Nat × Nat × Nat × Nat) := (yL_areRuns, cL_areRuns, 12, (some .boolean), [])
/-- 11: StratumLedgeLaw.isWhole(LStratumLedge;[[I[CIII)Z -/
def gC_11 : List (Nat × gI) := [(0, .aload_n 0, 1, 0, 0), (1, .bipush 8, 2, 0, 0), (3, .iload_n 3, 1, 0, 0), (4, .iload 4, 2, 0, 0), (6, .iconst 0, 1, 0, 0), (7, .iconst 0, 1, 0, 0), (8, .iconst 0, 1, 0, 0), (9, .invokestatic 162, 3, 2, 7), (12, .istore 6, 2, 0, 0), (14, .iload 6, 2, 0, 0), (16, .ldc 89, 2, 0, 4292967293), (18, .if_icmp .ne 5, 3, 23, 0), (21, .iconst 1, 1, 0, 0), (22, .ireturn, 1, 0, 0), (23, .iload 6, 2, 0, 0), (25, .ifCond .lt 38, 3, 63, 0), (28, .aload_n 0, 1, 0, 0), (29, .iconst 2, 1, 0, 0), (30, .iload 6, 2, 0, 0), (32, .iconst 0, 1, 0, 0), (33, .iconst 0, 1, 0, 0), (34, .iconst 0, 1, 0, 0), (35, .invokestatic 159, 3, 8, 6), (38, .ldc 92, 2, 0, 4292967291), (40, .if_icmp .ne 23, 3, 63, 0), (43, .aload_n 0, 1, 0, 0), (44, .bipush 10, 2, 0, 0), (46, .iload 6, 2, 0, 0), (48, .iconst 0, 1, 0, 0), (49, .iconst 0, 1, 0, 0), (50, .iconst 0, 1, 0, 0), (51, .iconst 0, 1, 0, 0), (52, .invokestatic 162, 3, 2, 7), (55, .iconst (-1), 1, 0, 0), (56, .if_icmp .ne 7, 3, 63, 0), (59, .iconst 1, 1, 0, 0), (60, .goto 4, 3, 64, 0), (63, .iconst 0, 1, 0, 0), (64, .istore 7, 2, 0, 0), (66, .iconst 0, 1, 0, 0), (67, .istore 8, 2, 0, 0), (69, .iload 8, 2, 0, 0), (71, .bipush 22, 2, 0, 0), (73, .if_icmp .ge 72, 3, 145, 0), (76, .iload 7, 2, 0, 0), (78, .ifCond .eq 67, 3, 145, 0), (81, .aload_n 1, 1, 0, 0), (82, .aload_n 2, 1, 0, 0), (83, .iload_n 3, 1, 0, 0), (84, .iload 8, 2, 0, 0), (86, .iload 5, 2, 0, 0), (88, .invokestatic 195, 3, 9, 5), (91, .istore 9, 2, 0, 0), (93, .iload 9, 2, 0, 0), (95, .ldc 92, 2, 0, 4292967291), (97, .if_icmp .eq 35, 3, 132, 0), (100, .aload_n 0, 1, 0, 0), (101, .bipush 9, 2, 0, 0), (103, .iload 6, 2, 0, 0), (105, .iconst 0, 1, 0, 0), (106, .iconst 0, 1, 0, 0), (107, .iconst 0, 1, 0, 0), (108, .iconst 0, 1, 0, 0), (109, .invokestatic 162, 3, 2, 7), (112, .iload 8, 2, 0, 0), (114, .if_icmp .ne 22, 3, 136, 0), (117, .aload_n 0, 1, 0, 0), (118, .iconst 2, 1, 0, 0), (119, .iload 6, 2, 0, 0), (121, .iconst 0, 1, 0, 0), (122, .iconst 0, 1, 0, 0), (123, .iconst 0, 1, 0, 0), (124, .invokestatic 159, 3, 8, 6), (127, .iload 9, 2, 0, 0), (129, .if_icmp .ne 7, 3, 136, 0), (132, .iconst 1, 1, 0, 0), (133, .goto 4, 3, 137, 0), (136, .iconst 0, 1, 0, 0), (137, .istore 7, 2, 0, 0), (139, .iinc 8 1, 3, 0, 0), (142, .goto (-73), 3, 69, 0), (145, .iload 7, 2, 0, 0), (147, .ifCond .eq 39, 3, 186, 0), (150, .aload_n 0, 1, 0, 0), (151, .bipush 9, 2, 0, 0), (153, .iload 6, 2, 0, 0), (155, .iconst 0, 1, 0, 0), (156, .iconst 0, 1, 0, 0), (157, .iconst 0, 1, 0, 0), (158, .iconst 0, 1, 0, 0), (159, .invokestatic 162, 3, 2, 7), (162, .iconst (-1), 1, 0, 0), (163, .if_icmp .ne 23, 3, 186, 0), (166, .aload_n 0, 1, 0, 0), (167, .bipush 9, 2, 0, 0), (169, .iload 6, 2, 0, 0), (171, .iconst 0, 1, 0, 0), (172, .iconst 0, 1, 0, 0), (173, .iconst 0, 1, 0, 0), (174, .iconst 0, 1, 0, 0), (175, .invokestatic 162, 3, 2, 7), (178, .iconst (-1), 1, 0, 0), (179, .if_icmp .ne 7, 3, 186, 0), (182, .iconst 1, 1, 0, 0), (183, .goto 4, 3, 187, 0), (186, .iconst 0, 1, 0, 0), (187, .istore 7, 2, 0, 0), (189, .bipush 21, 2, 0, 0), (191, .istore 8, 2, 0, 0), (193, .iload 8, 2, 0, 0), (195, .ifCond .lt 72, 3, 267, 0), (198, .iload 7, 2, 0, 0), (200, .ifCond .eq 67, 3, 267, 0), (203, .aload_n 1, 1, 0, 0), (204, .aload_n 2, 1, 0, 0), (205, .iload_n 3, 1, 0, 0), (206, .iload 8, 2, 0, 0), (208, .iload 5, 2, 0, 0), (210, .invokestatic 195, 3, 9, 5), (213, .istore 9, 2, 0, 0), (215, .iload 9, 2, 0, 0), (217, .ldc 92, 2, 0, 4292967291), (219, .if_icmp .eq 35, 3, 254, 0), (222, .aload_n 0, 1, 0, 0), (223, .bipush 10, 2, 0, 0), (225, .iload 6, 2, 0, 0), (227, .iconst 0, 1, 0, 0), (228, .iconst 0, 1, 0, 0), (229, .iconst 0, 1, 0, 0), (230, .iconst 0, 1, 0, 0), (231, .invokestatic 162, 3, 2, 7), (234, .iload 8, 2, 0, 0), (236, .if_icmp .ne 22, 3, 258, 0), (239, .aload_n 0, 1, 0, 0), (240, .iconst 2, 1, 0, 0), (241, .iload 6, 2, 0, 0), (243, .iconst 0, 1, 0, 0), (244, .iconst 0, 1, 0, 0), (245, .iconst 0, 1, 0, 0), (246, .invokestatic 159, 3, 8, 6), (249, .iload 9, 2, 0, 0), (251, .if_icmp .ne 7, 3, 258, 0), (254, .iconst 1, 1, 0, 0), (255, .goto 4, 3, 259, 0), (258, .iconst 0, 1, 0, 0), (259, .istore 7, 2, 0, 0), (261, .iinc 8 (-1), 3, 0, 0), (264, .goto (-71), 3, 193, 0), (267, .iload 7, 2, 0, 0), (269, .ifCond .eq 55, 3, 324, 0), (272, .aload_n 0, 1, 0, 0), (273, .bipush 10, 2, 0, 0), (275, .iload 6, 2, 0, 0), (277, .iconst 0, 1, 0, 0), (278, .iconst 0, 1, 0, 0), (279, .iconst 0, 1, 0, 0), (280, .iconst 0, 1, 0, 0), (281, .invokestatic 162, 3, 2, 7), (284, .iconst (-1), 1, 0, 0), (285, .if_icmp .ne 39, 3, 324, 0), (288, .aload_n 0, 1, 0, 0), (289, .bipush 11, 2, 0, 0), (291, .iload 6, 2, 0, 0), (293, .iconst 0, 1, 0, 0), (294, .iconst 0, 1, 0, 0), (295, .iconst 0, 1, 0, 0), (296, .iconst 0, 1, 0, 0), (297, .invokestatic 162, 3, 2, 7), (300, .ifCond .lt 24, 3, 324, 0), (303, .aload_n 0, 1, 0, 0), (304, .bipush 11, 2, 0, 0), (306, .iload 6, 2, 0, 0), (308, .iconst 0, 1, 0, 0), (309, .iconst 0, 1, 0, 0), (310, .iconst 0, 1, 0, 0), (311, .iconst 0, 1, 0, 0), (312, .invokestatic 162, 3, 2, 7), (315, .ldc 83, 2, 0, 4292967295), (317, .if_icmp .ne 7, 3, 324, 0), (320, .iconst 1, 1, 0, 0), (321, .goto 4, 3, 325, 0), (324, .iconst 0, 1, 0, 0), (325, .ireturn, 1, 0, 0)]
def gM_11 : MethodName × ByteArray × Nat × Option FieldType × List (Nat × Nat × Nat × Nat) := (yL_isWhole, cL_isWhole, 10, (some .boolean), [])
/-- 12: StratumLedgeLaw.cell([II)I -/
def gC_12 : List (Nat × gI) := [(0, .ldc 7, 2, 0, 69069), (2, .iload_n 1, 1, 0, 0), (3, .aload_n 0, 1, 0, 0), (4, .arraylength, 1, 0, 0), (5, .if_icmp .ge 9, 3, 14, 0), (8, .aload_n 0, 1, 0, 0), (9, .iload_n 1, 1, 0, 0), (10, .iaload, 1, 0, 0), (11, .goto 4, 3, 15, 0), (14, .iconst 0, 1, 0, 0), (15, .sipush 1009, 3, 0, 0), (18, .iload_n 1, 1, 0, 0), (19, .imul, 1, 0, 0), (20, .iadd, 1, 0, 0), (21, .imul, 1, 0, 0), (22, .sipush 12345, 3, 0, 0), (25, .iadd, 1, 0, 0), (26, .istore_n 2, 1, 0, 0), (27, .iload_n 2, 1, 0, 0), (28, .iload_n 2, 1, 0, 0), (29, .bipush 13, 2, 0, 0), (31, .iushr, 1, 0, 0), (32, .ixor, 1, 0, 0), (33, .ldc 8, 2, 0, 1103515245), (35, .imul, 1, 0, 0), (36, .istore_n 2, 1, 0, 0), (37, .iload_n 2, 1, 0, 0), (38, .iload_n 2, 1, 0, 0), (39, .bipush 16, 2, 0, 0), (41, .iushr, 1, 0, 0), (42, .ixor, 1, 0, 0), (43, .ireturn, 1, 0, 0)]
def gM_12 : MethodName × ByteArray × Nat × Option FieldType × List (Nat × Nat × Nat × Nat) := (yL_cell, cL_cell, 3, (some .int), [])
/-- 13: StratumLedgeLaw.plain(LStratumLedge;IIIIII)I -/
def gC_13 : List (Nat × gI) := [(0, .iload_n 1, 1, 0, 0), (1, .tableswitch 201 0 16 #[83, 90, 99, 106, 115, 124, 137, 142, 148, 155, 161, 167, 173, 179, 185, 191, 196], 83, 0, 0), (84, .aload_n 0, 1, 0, 0), (85, .iload_n 2, 1, 0, 0), (86, .i2c, 1, 0, 0), (87, .invokevirtual 15, 3, 19, 2), (90, .ireturn, 1, 0, 0), (91, .aload_n 0, 1, 0, 0), (92, .iload_n 2, 1, 0, 0), (93, .iload_n 3, 1, 0, 0), (94, .iload 4, 2, 0, 0), (96, .invokevirtual 21, 3, 85, 4), (99, .ireturn, 1, 0, 0), (100, .aload_n 0, 1, 0, 0), (101, .iload_n 2, 1, 0, 0), (102, .iload_n 3, 1, 0, 0), (103, .invokevirtual 25, 3, 39, 3), (106, .ireturn, 1, 0, 0), (107, .aload_n 0, 1, 0, 0), (108, .iload_n 2, 1, 0, 0), (109, .iload_n 3, 1, 0, 0), (110, .iload 4, 2, 0, 0), (112, .invokevirtual 29, 3, 40, 4), (115, .ireturn, 1, 0, 0), (116, .aload_n 0, 1, 0, 0), (117, .iload_n 2, 1, 0, 0), (118, .iload_n 3, 1, 0, 0), (119, .iload 4, 2, 0, 0), (121, .invokevirtual 32, 3, 75, 4), (124, .ireturn, 1, 0, 0), (125, .aload_n 0, 1, 0, 0), (126, .iload_n 2, 1, 0, 0), (127, .iload_n 3, 1, 0, 0), (128, .iload 4, 2, 0, 0), (130, .iload 5, 2, 0, 0), (132, .iload 6, 2, 0, 0), (134, .invokevirtual 35, 3, 28, 6), (137, .ireturn, 1, 0, 0), (138, .aload_n 0, 1, 0, 0), (139, .invokevirtual 39, 3, 93, 1), (142, .ireturn, 1, 0, 0), (143, .aload_n 0, 1, 0, 0), (144, .iload_n 2, 1, 0, 0), (145, .invokevirtual 43, 3, 87, 2), (148, .ireturn, 1, 0, 0), (149, .aload_n 0, 1, 0, 0), (150, .iload_n 2, 1, 0, 0), (151, .iload_n 3, 1, 0, 0), (152, .invokevirtual 47, 3, 79, 3), (155, .ireturn, 1, 0, 0), (156, .aload_n 0, 1, 0, 0), (157, .iload_n 2, 1, 0, 0), (158, .invokevirtual 50, 3, 78, 2), (161, .ireturn, 1, 0, 0), (162, .aload_n 0, 1, 0, 0), (163, .iload_n 2, 1, 0, 0), (164, .invokevirtual 53, 3, 84, 2), (167, .ireturn, 1, 0, 0), (168, .aload_n 0, 1, 0, 0), (169, .iload_n 2, 1, 0, 0), (170, .invokevirtual 56, 3, 30, 2), (173, .ireturn, 1, 0, 0), (174, .aload_n 0, 1, 0, 0), (175, .iload_n 2, 1, 0, 0), (176, .invokevirtual 59, 3, 51, 2), (179, .ireturn, 1, 0, 0), (180, .aload_n 0, 1, 0, 0), (181, .iload_n 2, 1, 0, 0), (182, .invokevirtual 62, 3, 31, 2), (185, .ireturn, 1, 0, 0), (186, .aload_n 0, 1, 0, 0), (187, .iload_n 2, 1, 0, 0), (188, .invokevirtual 65, 3, 98, 2), (191, .ireturn, 1, 0, 0), (192, .aload_n 0, 1, 0, 0), (193, .invokevirtual 68, 3, 94, 1), (196, .ireturn, 1, 0, 0), (197, .aload_n 0, 1, 0, 0), (198, .invokevirtual 71, 3, 23, 1), (201, .ireturn, 1, 0, 0), (202, .aload_n 0, 1, 0, 0), (203, .iload_n 2, 1, 0, 0), (204, .invokevirtual 74, 3, 88, 2), (207, .ireturn, 1, 0, 0)]
def gM_13 : MethodName × ByteArray × Nat × Option FieldType × List (Nat × Nat × Nat × Nat) := (yL_plain, cL_plain, 7, (some .int), [])
/-- 14: StratumLedgeLaw.write([[I[IICIII)[I -/
def gC_14 : List (Nat × gI) := [(0, .bipush 20, 2, 0, 0), (2, .newarray .int, 2, 0, 0), (4, .dup, 1, 0, 0), (5, .iconst 0, 1, 0, 0), (6, .iload_n 2, 1, 0, 0), (7, .iastore, 1, 0, 0), (8, .dup, 1, 0, 0), (9, .iconst 1, 1, 0, 0), (10, .iload_n 3, 1, 0, 0), (11, .iastore, 1, 0, 0), (12, .dup, 1, 0, 0), (13, .iconst 2, 1, 0, 0), (14, .iload 4, 2, 0, 0), (16, .iastore, 1, 0, 0), (17, .dup, 1, 0, 0), (18, .iconst 3, 1, 0, 0), (19, .iload 5, 2, 0, 0), (21, .iastore, 1, 0, 0), (22, .dup, 1, 0, 0), (23, .iconst 4, 1, 0, 0), (24, .iload 6, 2, 0, 0), (26, .iastore, 1, 0, 0), (27, .dup, 1, 0, 0), (28, .iconst 5, 1, 0, 0), (29, .iconst 0, 1, 0, 0), (30, .iastore, 1, 0, 0), (31, .dup, 1, 0, 0), (32, .bipush 6, 2, 0, 0), (34, .iconst 0, 1, 0, 0), (35, .iastore, 1, 0, 0), (36, .dup, 1, 0, 0), (37, .bipush 7, 2, 0, 0), (39, .iconst 0, 1, 0, 0), (40, .iastore, 1, 0, 0), (41, .dup, 1, 0, 0), (42, .bipush 8, 2, 0, 0), (44, .iconst 0, 1, 0, 0), (45, .iastore, 1, 0, 0), (46, .dup, 1, 0, 0), (47, .bipush 9, 2, 0, 0), (49, .iconst 0, 1, 0, 0), (50, .iastore, 1, 0, 0), (51, .dup, 1, 0, 0), (52, .bipush 10, 2, 0, 0), (54, .iconst 0, 1, 0, 0), (55, .iastore, 1, 0, 0), (56, .dup, 1, 0, 0), (57, .bipush 11, 2, 0, 0), (59, .iconst 0, 1, 0, 0), (60, .iastore, 1, 0, 0), (61, .dup, 1, 0, 0), (62, .bipush 12, 2, 0, 0), (64, .iconst 0, 1, 0, 0), (65, .iastore, 1, 0, 0), (66, .dup, 1, 0, 0), (67, .bipush 13, 2, 0, 0), (69, .iconst 0, 1, 0, 0), (70, .iastore, 1, 0, 0), (71, .dup, 1, 0, 0), (72, .bipush 14, 2, 0, 0), (74, .iconst 0, 1, 0, 0), (75, .iastore, 1, 0, 0), (76, .dup, 1, 0, 0), (77, .bipush 15, 2, 0, 0), (79, .iconst 0, 1, 0, 0), (80, .iastore, 1, 0, 0), (81, .dup, 1, 0, 0), (82, .bipush 16, 2, 0, 0), (84, .iconst 0, 1, 0, 0), (85, .iastore, 1, 0, 0), (86, .dup, 1, 0, 0), (87, .bipush 17, 2, 0, 0), (89, .iconst 0, 1, 0, 0), (90, .iastore, 1, 0, 0), (91, .dup, 1, 0, 0), (92, .bipush 18, 2, 0, 0), (94, .iconst 0, 1, 0, 0), (95, .iastore, 1, 0, 0), (96, .dup, 1, 0, 0), (97, .bipush 19, 2, 0, 0), (99, .iconst 0, 1, 0, 0), (100, .iastore, 1, 0, 0), (101, .astore 7, 2, 0, 0), (103, .aload_n 1, 1, 0, 0), (104, .iconst 0, 1, 0, 0), (105, .dup2, 1, 0, 0), (106, .iaload, 1, 0, 0), (107, .iconst 1, 1, 0, 0), (108, .iadd, 1, 0, 0), (109, .iastore, 1, 0, 0), (110, .aload_n 0, 1, 0, 0), (111, .aload_n 1, 1, 0, 0), (112, .iconst 0, 1, 0, 0), (113, .iaload, 1, 0, 0), (114, .aload 7, 2, 0, 0), (116, .aastore, 1, 0, 0), (117, .aload 7, 2, 0, 0), (119, .areturn, 1, 0, 0)]
def gM_14 : MethodName × ByteArray × Nat × Option FieldType × List (Nat × Nat × Nat × Nat) := (yL_write, cL_write, 8, (some (.array .int)), [])
/-- 15: StratumLedgeLaw.asked(LStratumLedge;IIIII)I -/
def gC_15 : List (Nat × gI) := [(0, .iload_n 1, 1, 0, 0), (1, .tableswitch 168 0 11 #[63, 72, 81, 87, 93, 100, 109, 118, 127, 137, 147, 161], 63, 0, 0), (64, .aload_n 0, 1, 0, 0), (65, .iload_n 2, 1, 0, 0), (66, .iload_n 3, 1, 0, 0), (67, .iload 4, 2, 0, 0), (69, .invokevirtual 93, 3, 55, 4), (72, .ireturn, 1, 0, 0), (73, .aload_n 0, 1, 0, 0), (74, .iload_n 2, 1, 0, 0), (75, .iload_n 3, 1, 0, 0), (76, .iload 4, 2, 0, 0), (78, .invokevirtual 96, 3, 56, 4), (81, .ireturn, 1, 0, 0), (82, .aload_n 0, 1, 0, 0), (83, .iload_n 2, 1, 0, 0), (84, .invokevirtual 99, 3, 96, 2), (87, .ireturn, 1, 0, 0), (88, .aload_n 0, 1, 0, 0), (89, .iload_n 2, 1, 0, 0), (90, .invokevirtual 102, 3, 58, 2), (93, .ireturn, 1, 0, 0), (94, .aload_n 0, 1, 0, 0), (95, .iload_n 2, 1, 0, 0), (96, .iload_n 3, 1, 0, 0), (97, .invokevirtual 105, 3, 90, 3), (100, .ireturn, 1, 0, 0), (101, .aload_n 0, 1, 0, 0), (102, .iload_n 2, 1, 0, 0), (103, .iload_n 3, 1, 0, 0), (104, .iload 4, 2, 0, 0), (106, .invokevirtual 108, 3, 48, 4), (109, .ireturn, 1, 0, 0), (110, .aload_n 0, 1, 0, 0), (111, .iload_n 2, 1, 0, 0), (112, .iload_n 3, 1, 0, 0), (113, .iload 4, 2, 0, 0), (115, .invokevirtual 111, 3, 45, 4), (118, .ireturn, 1, 0, 0), (119, .aload_n 0, 1, 0, 0), (120, .iload_n 2, 1, 0, 0), (121, .iload_n 3, 1, 0, 0), (122, .iload 4, 2, 0, 0), (124, .invokevirtual 114, 3, 86, 4), (127, .ireturn, 1, 0, 0), (128, .aload_n 0, 1, 0, 0), (129, .iload_n 2, 1, 0, 0), (130, .iload_n 3, 1, 0, 0), (131, .iload 4, 2, 0, 0), (133, .iconst 0, 1, 0, 0), (134, .invokevirtual 117, 3, 27, 5), (137, .ireturn, 1, 0, 0), (138, .aload_n 0, 1, 0, 0), (139, .iload_n 2, 1, 0, 0), (140, .iload_n 3, 1, 0, 0), (141, .iload 4, 2, 0, 0), (143, .iconst 1, 1, 0, 0), (144, .invokevirtual 117, 3, 27, 5), (147, .ireturn, 1, 0, 0), (148, .aload_n 0, 1, 0, 0), (149, .iload_n 2, 1, 0, 0), (150, .iload_n 3, 1, 0, 0), (151, .iload 4, 2, 0, 0), (153, .iload 5, 2, 0, 0), (155, .invokevirtual 121, 3, 81, 5), (158, .invokestatic 125, 3, 7, 1), (161, .ireturn, 1, 0, 0), (162, .aload_n 0, 1, 0, 0), (163, .iload_n 2, 1, 0, 0), (164, .iload_n 3, 1, 0, 0), (165, .invokevirtual 129, 3, 91, 3), (168, .ireturn, 1, 0, 0), (169, .aload_n 0, 1, 0, 0), (170, .iload_n 2, 1, 0, 0), (171, .iload_n 3, 1, 0, 0), (172, .invokevirtual 132, 3, 37, 3), (175, .ireturn, 1, 0, 0)]
def gM_15 : MethodName × ByteArray × Nat × Option FieldType × List (Nat × Nat × Nat × Nat) := (yL_asked, cL_asked, 6, (some .int), [])
/-- 16: StratumLedgeLaw.isOver([II)Z -/
def gC_16 : List (Nat × gI) := [(0, .iload_n 1, 1, 0, 0), (1, .aload_n 0, 1, 0, 0), (2, .iconst 2, 1, 0, 0), (3, .iaload, 1, 0, 0), (4, .if_icmp .lt 32, 3, 36, 0), (7, .iload_n 1, 1, 0, 0), (8, .aload_n 0, 1, 0, 0), (9, .iconst 3, 1, 0, 0), (10, .iaload, 1, 0, 0), (11, .if_icmp .gt 25, 3, 36, 0), (14, .aload_n 0, 1, 0, 0), (15, .iconst 5, 1, 0, 0), (16, .iaload, 1, 0, 0), (17, .ifCond .eq 15, 3, 32, 0), (20, .iload_n 1, 1, 0, 0), (21, .aload_n 0, 1, 0, 0), (22, .iconst 2, 1, 0, 0), (23, .iaload, 1, 0, 0), (24, .isub, 1, 0, 0), (25, .aload_n 0, 1, 0, 0), (26, .iconst 5, 1, 0, 0), (27, .iaload, 1, 0, 0), (28, .irem, 1, 0, 0), (29, .ifCond .ne 7, 3, 36, 0), (32, .iconst 1, 1, 0, 0), (33, .goto 4, 3, 37, 0), (36, .iconst 0, 1, 0, 0), (37, .ireturn, 1, 0, 0)]
def gM_16 : MethodName × ByteArray × Nat × Option FieldType × List (Nat × Nat × Nat × Nat) := (yL_isOver, cL_isOver, 2, (some .boolean), [])
/-- 17: StratumLedgeLaw.applied(CII)I -/
def gC_17 : List (Nat × gI) := [(0, .iload_n 0, 1, 0, 0), (1, .bipush 43, 2, 0, 0), (3, .if_icmp .ne 9, 3, 12, 0), (6, .iload_n 1, 1, 0, 0), (7, .iload_n 2, 1, 0, 0), (8, .iadd, 1, 0, 0), (9, .goto 22, 3, 31, 0), (12, .iload_n 0, 1, 0, 0), (13, .bipush 62, 2, 0, 0), (15, .if_icmp .ne 11, 3, 26, 0), (18, .iload_n 1, 1, 0, 0), (19, .iload_n 2, 1, 0, 0), (20, .invokestatic 139, 3, 156, 2), (23, .goto 8, 3, 31, 0), (26, .iload_n 1, 1, 0, 0), (27, .iload_n 2, 1, 0, 0), (28, .invokestatic 144, 3, 157, 2), (31, .ireturn, 1, 0, 0)]
def gM_17 : MethodName × ByteArray × Nat × Option FieldType × List (Nat × Nat × Nat × Nat) := (yL_applied, cL_applied, 3, (some .int), [])
/-- 18: StratumLedge.<init>()V -/
def gC_18 : List (Nat × gI) := [(0, .aload_n 0, 1, 0, 0), (1, .invokespecial 1, 3, 900, 1), (4, .aload_n 0, 1, 0, 0), (5, .new 7, 3, 0, 0), (8, .dup, 1, 0, 0), (9, .invokespecial 9, 3, 160, 1), (12, .putfield 10, 3, 11, 0), (15, .aload_n 0, 1, 0, 0), (16, .new 7, 3, 0, 0), (19, .dup, 1, 0, 0), (20, .invokespecial 9, 3, 160, 1), (23, .putfield 16, 3, 11, 1), (26, .aload_n 0, 1, 0, 0), (27, .new 7, 3, 0, 0), (30, .dup, 1, 0, 0), (31, .invokespecial 9, 3, 160, 1), (34, .putfield 19, 3, 11, 2), (37, .aload_n 0, 1, 0, 0), (38, .new 7, 3, 0, 0), (41, .dup, 1, 0, 0), (42, .invokespecial 9, 3, 160, 1), (45, .putfield 22, 3, 11, 3), (48, .aload_n 0, 1, 0, 0), (49, .new 7, 3, 0, 0), (52, .dup, 1, 0, 0), (53, .invokespecial 9, 3, 160, 1), (56, .putfield 25, 3, 11, 4), (59, .aload_n 0, 1, 0, 0), (60, .new 28, 3, 5, 0), (63, .dup, 1, 0, 0), (64, .invokespecial 30, 3, 112, 1), (67, .putfield 31, 3, 11, 5), (70, .aload_n 0, 1, 0, 0), (71, .new 7, 3, 0, 0), (74, .dup, 1, 0, 0), (75, .invokespecial 9, 3, 160, 1), (78, .putfield 35, 3, 11, 6), (81, .return_, 1, 0, 0)]
def gM_18 : MethodName × ByteArray × Nat × Option FieldType × List (Nat × Nat × Nat × Nat) := (yX10_init, cX10_init, 1, none, [])
/-- 19: StratumLedge.addFamily(C)I -/
def gC_19 : List (Nat × gI) := [(0, .iload_n 1, 1, 0, 0), (1, .bipush 43, 2, 0, 0), (3, .if_icmp .eq 25, 3, 28, 0), (6, .iload_n 1, 1, 0, 0), (7, .bipush 62, 2, 0, 0), (9, .if_icmp .eq 19, 3, 28, 0), (12, .iload_n 1, 1, 0, 0), (13, .bipush 60, 2, 0, 0), (15, .if_icmp .eq 13, 3, 28, 0), (18, .new 38, 3, 1001, 2), (21, .dup, 1, 0, 0), (22, .ldc 40, 2, 999, 0), (24, .invokespecial 42, 3, 999, 0), (27, .athrow, 1, 0, 0), (28, .aload_n 0, 1, 0, 0), (29, .getfield 10, 3, 11, 0), (32, .invokevirtual 45, 3, 173, 1), (35, .iconst 3, 1, 0, 0), (36, .if_icmp .lt 13, 3, 49, 0), (39, .new 49, 3, 1002, 2), (42, .dup, 1, 0, 0), (43, .ldc 51, 2, 999, 0), (45, .invokespecial 53, 3, 999, 0), (48, .athrow, 1, 0, 0), (49, .new 54, 3, 4, 0), (52, .dup, 1, 0, 0), (53, .aload_n 0, 1, 0, 0), (54, .getfield 10, 3, 11, 0), (57, .invokevirtual 45, 3, 173, 1), (60, .iload_n 1, 1, 0, 0), (61, .invokespecial 56, 3, 104, 3), (64, .astore_n 2, 1, 0, 0), (65, .aload_n 0, 1, 0, 0), (66, .getfield 10, 3, 11, 0), (69, .aload_n 2, 1, 0, 0), (70, .invokevirtual 59, 3, 162, 2), (73, .pop, 1, 0, 0), (74, .aload_n 2, 1, 0, 0), (75, .getfield 63, 3, 4, 0), (78, .ireturn, 1, 0, 0)]
def gM_19 : MethodName × ByteArray × Nat × Option FieldType × List (Nat × Nat × Nat × Nat) := (yX10_addFamily, cX10_addFamily, 3, (some .int), [])
/-- 20: StratumLedge.addRow(Ljava/util/ArrayList;LStratumLedge$Change;)V -/
def gC_20 : List (Nat × gI) := [(0, .iconst 0, 1, 0, 0), (1, .istore_n 2, 1, 0, 0), (2, .iload_n 2, 1, 0, 0), (3, .aload_n 0, 1, 0, 0), (4, .invokevirtual 45, 3, 173, 1), (7, .if_icmp .ge 27, 3, 34, 0), (10, .aload_n 0, 1, 0, 0), (11, .iload_n 2, 1, 0, 0), (12, .invokevirtual 135, 3, 167, 2), (15, .checkcast 95, 3, 2, 0), (18, .getfield 383, 3, 2, 2), (21, .aload_n 1, 1, 0, 0), (22, .getfield 383, 3, 2, 2), (25, .if_icmp .ge 9, 3, 34, 0), (28, .iinc 2 1, 3, 0, 0), (31, .goto (-29), 3, 2, 0), (34, .aload_n 0, 1, 0, 0), (35, .iload_n 2, 1, 0, 0), (36, .aload_n 1, 1, 0, 0), (37, .invokevirtual 386, 3, 161, 3), (40, .return_, 1, 0, 0)]
def gM_20 : MethodName × ByteArray × Nat × Option FieldType × List (Nat × Nat × Nat × Nat) := (yX10_addRow, cX10_addRow, 3, none, [])
/-- 21: StratumLedge.admit(LStratumLedge$Family;)V -/
def gC_21 : List (Nat × gI) := [(0, .aload_n 1, 1, 0, 0), (1, .iconst 0, 1, 0, 0), (2, .invokevirtual 107, 3, 108, 2), (5, .invokevirtual 127, 3, 119, 1), (8, .istore_n 2, 1, 0, 0), (9, .iload_n 2, 1, 0, 0), (10, .bipush 6, 2, 0, 0), (12, .if_icmp .lt 13, 3, 25, 0), (15, .new 49, 3, 1002, 2), (18, .dup, 1, 0, 0), (19, .ldc 130, 2, 999, 0), (21, .invokespecial 53, 3, 999, 0), (24, .athrow, 1, 0, 0), (25, .iload_n 2, 1, 0, 0), (26, .iconst 4, 1, 0, 0), (27, .if_icmp .lt 13, 3, 40, 0), (30, .aload_n 0, 1, 0, 0), (31, .dup, 1, 0, 0), (32, .getfield 132, 3, 11, 16), (35, .iconst 1, 1, 0, 0), (36, .iadd, 1, 0, 0), (37, .putfield 132, 3, 11, 16), (40, .return_, 1, 0, 0)]
def gM_21 : MethodName × ByteArray × Nat × Option FieldType × List (Nat × Nat × Nat × Nat) := (yX10_admit, cX10_admit, 3, none, [])
/-- 22: StratumLedge.asked()I -/
def gC_22 : List (Nat × gI) := [(0, .aload_n 0, 1, 0, 0), (1, .getfield 309, 3, 11, 14), (4, .ireturn, 1, 0, 0)]
def gM_22 : MethodName × ByteArray × Nat × Option FieldType × List (Nat × Nat × Nat × Nat) := (yX10_asked, cX10_asked, 1, (some .int), [])
/-- 23: StratumLedge.backup()I -/
def gC_23 : List (Nat × gI) := [(0, .aload_n 0, 1, 0, 0), (1, .getfield 25, 3, 11, 4), (4, .invokevirtual 45, 3, 173, 1), (7, .iconst 3, 1, 0, 0), (8, .if_icmp .lt 14, 3, 22, 0), (11, .new 49, 3, 1002, 3), (14, .dup, 1, 0, 0), (15, .ldc_w 492, 3, 999, 0), (18, .invokespecial 53, 3, 999, 0), (21, .athrow, 1, 0, 0), (22, .aload_n 0, 1, 0, 0), (23, .getfield 25, 3, 11, 4), (26, .new 494, 3, 1, 0), (29, .dup, 1, 0, 0), (30, .aload_n 0, 1, 0, 0), (31, .getfield 10, 3, 11, 0), (34, .aload_n 0, 1, 0, 0), (35, .getfield 16, 3, 11, 1), (38, .invokespecial 496, 3, 100, 3), (41, .invokevirtual 59, 3, 162, 2), (44, .pop, 1, 0, 0), (45, .aload_n 0, 1, 0, 0), (46, .getfield 25, 3, 11, 4), (49, .invokevirtual 45, 3, 173, 1), (52, .iconst 1, 1, 0, 0), (53, .isub, 1, 0, 0), (54, .ireturn, 1, 0, 0)]
def gM_23 : MethodName × ByteArray × Nat × Option FieldType × List (Nat × Nat × Nat × Nat) := (yX10_backup, cX10_backup, 1, (some .int), [])
/-- 24: StratumLedge.backupAt(I)LStratumLedge$Backup; -/
def gC_24 : List (Nat × gI) := [(0, .iload_n 1, 1, 0, 0), (1, .ifCond .lt 14, 3, 15, 0), (4, .iload_n 1, 1, 0, 0), (5, .aload_n 0, 1, 0, 0), (6, .getfield 25, 3, 11, 4), (9, .invokevirtual 45, 3, 173, 1), (12, .if_icmp .lt 14, 3, 26, 0), (15, .new 195, 3, 1000, 3), (18, .dup, 1, 0, 0), (19, .ldc_w 517, 3, 999, 0), (22, .invokespecial 199, 3, 999, 0), (25, .athrow, 1, 0, 0), (26, .aload_n 0, 1, 0, 0), (27, .getfield 25, 3, 11, 4), (30, .iload_n 1, 1, 0, 0), (31, .invokevirtual 135, 3, 167, 2), (34, .checkcast 494, 3, 1, 0), (37, .areturn, 1, 0, 0)]
def gM_24 : MethodName × ByteArray × Nat × Option FieldType × List (Nat × Nat × Nat × Nat) := (yX10_backupAt, cX10_backupAt, 2, (some (.object "StratumLedge$Backup")), [])
/-- 25: StratumLedge.bitsOf(F)I -/
def gC_25 : List (Nat × gI) := [(0, .fload_n 0, 1, 0, 0), (1, .fconst 0, 1, 0, 0), (2, .fcmp .g, 1, 0, 0), (3, .ifCond .gt 5, 3, 8, 0), (6, .iconst 0, 1, 0, 0), (7, .ireturn, 1, 0, 0), (8, .fload_n 0, 1, 0, 0), (9, .fstore_n 1, 1, 0, 0), (10, .bipush 127, 2, 0, 0), (12, .istore_n 2, 1, 0, 0), (13, .iconst 0, 1, 0, 0), (14, .istore_n 3, 1, 0, 0), (15, .iload_n 3, 1, 0, 0), (16, .sipush 256, 3, 0, 0), (19, .if_icmp .ge 22, 3, 41, 0), (22, .fload_n 1, 1, 0, 0), (23, .fconst 2, 1, 0, 0), (24, .fcmp .l, 1, 0, 0), (25, .ifCond .lt 16, 3, 41, 0), (28, .fload_n 1, 1, 0, 0), (29, .fconst 2, 1, 0, 0), (30, .fdiv, 1, 0, 0), (31, .fstore_n 1, 1, 0, 0), (32, .iinc 2 1, 3, 0, 0), (35, .iinc 3 1, 3, 0, 0), (38, .goto (-23), 3, 15, 0), (41, .iconst 0, 1, 0, 0), (42, .istore_n 3, 1, 0, 0), (43, .iload_n 3, 1, 0, 0), (44, .sipush 256, 3, 0, 0), (47, .if_icmp .ge 22, 3, 69, 0), (50, .fload_n 1, 1, 0, 0), (51, .fconst 1, 1, 0, 0), (52, .fcmp .g, 1, 0, 0), (53, .ifCond .ge 16, 3, 69, 0), (56, .fload_n 1, 1, 0, 0), (57, .fconst 2, 1, 0, 0), (58, .fmul, 1, 0, 0), (59, .fstore_n 1, 1, 0, 0), (60, .iinc 2 (-1), 3, 0, 0), (63, .iinc 3 1, 3, 0, 0), (66, .goto (-23), 3, 43, 0), (69, .iload_n 2, 1, 0, 0), (70, .bipush 23, 2, 0, 0), (72, .ishl, 1, 0, 0), (73, .fload_n 1, 1, 0, 0), (74, .fconst 1, 1, 0, 0), (75, .fsub, 1, 0, 0), (76, .ldc_w 539, 3, 1, 1258291200), (79, .fmul, 1, 0, 0), (80, .f2i, 1, 0, 0), (81, .iadd, 1, 0, 0), (82, .ireturn, 1, 0, 0)]
def gM_25 : MethodName × ByteArray × Nat × Option FieldType × List (Nat × Nat × Nat × Nat) := (yX10_bitsOf, cX10_bitsOf, 4, (some .int), [])
/-- 26: StratumLedge.blocks()I -/
def gC_26 : List (Nat × gI) := [(0, .aload_n 0, 1, 0, 0), (1, .getfield 321, 3, 11, 13), (4, .ireturn, 1, 0, 0)]
def gM_26 : MethodName × ByteArray × Nat × Option FieldType × List (Nat × Nat × Nat × Nat) := (yX10_blocks, cX10_blocks, 1, (some .int), [])
/-- 27: StratumLedge.bound(IIIZ)I -/
def gC_27 : List (Nat × gI) := [(0, .aload_n 0, 1, 0, 0), (1, .iload_n 1, 1, 0, 0), (2, .iload_n 2, 1, 0, 0), (3, .iload_n 3, 1, 0, 0), (4, .invokevirtual 330, 3, 89, 4), (7, .astore 5, 2, 0, 0), (9, .iload 4, 2, 0, 0), (11, .ifCond .eq 11, 3, 22, 0), (14, .aload 5, 2, 0, 0), (16, .getfield 338, 3, 8, 5), (19, .goto 8, 3, 27, 0), (22, .aload 5, 2, 0, 0), (24, .getfield 341, 3, 8, 4), (27, .ireturn, 1, 0, 0)]
def gM_27 : MethodName × ByteArray × Nat × Option FieldType × List (Nat × Nat × Nat × Nat) := (yX10_bound, cX10_bound, 6, (some .int), [])
/-- 28: StratumLedge.bringIn(IIIII)I -/
def gC_28 : List (Nat × gI) := [(0, .aload_n 0, 1, 0, 0), (1, .iload_n 1, 1, 0, 0), (2, .invokevirtual 71, 3, 47, 2), (5, .astore 6, 2, 0, 0), (7, .iload_n 2, 1, 0, 0), (8, .iload_n 3, 1, 0, 0), (9, .invokestatic 75, 3, 29, 2), (12, .iload 4, 2, 0, 0), (14, .iconst 1, 1, 0, 0), (15, .if_icmp .lt 21, 3, 36, 0), (18, .iload 4, 2, 0, 0), (20, .bipush 20, 2, 0, 0), (22, .if_icmp .gt 14, 3, 36, 0), (25, .iload_n 3, 1, 0, 0), (26, .iload_n 2, 1, 0, 0), (27, .isub, 1, 0, 0), (28, .iload 4, 2, 0, 0), (30, .idiv, 1, 0, 0), (31, .bipush 10, 2, 0, 0), (33, .if_icmp .lt 13, 3, 46, 0), (36, .new 38, 3, 1001, 2), (39, .dup, 1, 0, 0), (40, .ldc 79, 2, 999, 0), (42, .invokespecial 42, 3, 999, 0), (45, .athrow, 1, 0, 0), (46, .aload_n 0, 1, 0, 0), (47, .aload 6, 2, 0, 0), (49, .invokevirtual 81, 3, 21, 2), (52, .iload_n 3, 1, 0, 0), (53, .iload_n 3, 1, 0, 0), (54, .iload_n 2, 1, 0, 0), (55, .isub, 1, 0, 0), (56, .iload 4, 2, 0, 0), (58, .irem, 1, 0, 0), (59, .isub, 1, 0, 0), (60, .istore 7, 2, 0, 0), (62, .aload_n 0, 1, 0, 0), (63, .aload 6, 2, 0, 0), (65, .iload_n 2, 1, 0, 0), (66, .iload 7, 2, 0, 0), (68, .invokevirtual 85, 3, 64, 4), (71, .ifCond .eq 10, 3, 81, 0), (74, .aload_n 0, 1, 0, 0), (75, .aload 6, 2, 0, 0), (77, .invokevirtual 89, 3, 52, 2), (80, .pop, 1, 0, 0), (81, .aload_n 0, 1, 0, 0), (82, .getfield 16, 3, 11, 1), (85, .invokevirtual 45, 3, 173, 1), (88, .iconst 1, 1, 0, 0), (89, .iadd, 1, 0, 0), (90, .istore 8, 2, 0, 0), (92, .aload_n 0, 1, 0, 0), (93, .getfield 16, 3, 11, 1), (96, .new 93, 3, 10, 0), (99, .dup, 1, 0, 0), (100, .aload 6, 2, 0, 0), (102, .getfield 63, 3, 4, 0), (105, .new 95, 3, 2, 0), (108, .dup, 1, 0, 0), (109, .iconst 1, 1, 0, 0), (110, .iload 8, 2, 0, 0), (112, .iload_n 2, 1, 0, 0), (113, .iload 7, 2, 0, 0), (115, .iload 5, 2, 0, 0), (117, .invokespecial 97, 3, 101, 6), (120, .iload 4, 2, 0, 0), (122, .iconst 3, 1, 0, 0), (123, .invokespecial 100, 3, 150, 5), (126, .invokevirtual 59, 3, 162, 2), (129, .pop, 1, 0, 0), (130, .aload_n 0, 1, 0, 0), (131, .aload 6, 2, 0, 0), (133, .iload_n 2, 1, 0, 0), (134, .iload 7, 2, 0, 0), (136, .invokevirtual 103, 3, 69, 4), (139, .istore 9, 2, 0, 0), (141, .new 7, 3, 0, 0), (144, .dup, 1, 0, 0), (145, .invokespecial 9, 3, 160, 1), (148, .astore 10, 2, 0, 0), (150, .iload_n 2, 1, 0, 0), (151, .istore 11, 2, 0, 0), (153, .iload 11, 2, 0, 0), (155, .iload 7, 2, 0, 0), (157, .if_icmp .gt 35, 3, 192, 0), (160, .aload 10, 2, 0, 0), (162, .new 95, 3, 2, 0), (165, .dup, 1, 0, 0), (166, .iconst 1, 1, 0, 0), (167, .iload 8, 2, 0, 0), (169, .iload 11, 2, 0, 0), (171, .iload 11, 2, 0, 0), (173, .iload 5, 2, 0, 0), (175, .invokespecial 97, 3, 101, 6), (178, .invokevirtual 59, 3, 162, 2), (181, .pop, 1, 0, 0), (182, .iload 11, 2, 0, 0), (184, .iload 4, 2, 0, 0), (186, .iadd, 1, 0, 0), (187, .istore 11, 2, 0, 0), (189, .goto (-36), 3, 153, 0), (192, .aload 6, 2, 0, 0), (194, .iload 9, 2, 0, 0), (196, .invokevirtual 107, 3, 108, 2), (199, .aload_n 0, 1, 0, 0), (200, .iconst 0, 1, 0, 0), (201, .aload 10, 2, 0, 0), (203, .new 7, 3, 0, 0), (206, .dup, 1, 0, 0), (207, .invokespecial 9, 3, 160, 1), (210, .invokevirtual 111, 3, 74, 4), (213, .iload 9, 2, 0, 0), (215, .ifCond .ne 7, 3, 222, 0), (218, .iconst 1, 1, 0, 0), (219, .goto 4, 3, 223, 0), (222, .iconst 0, 1, 0, 0), (223, .invokevirtual 115, 3, 121, 3), (226, .aload_n 0, 1, 0, 0), (227, .dup, 1, 0, 0), (228, .getfield 121, 3, 11, 12), (231, .iconst 1, 1, 0, 0), (232, .iadd, 1, 0, 0), (233, .putfield 121, 3, 11, 12), (236, .iload 9, 2, 0, 0), (238, .ireturn, 1, 0, 0)]
def gM_28 : MethodName × ByteArray × Nat × Option FieldType × List (Nat × Nat × Nat × Nat) := (yX10_bringIn, cX10_bringIn, 12, (some .int), [])
/-- 29: StratumLedge.checkKeys(II)V -/
def gC_29 : List (Nat × gI) := [(0, .iload_n 0, 1, 0, 0), (1, .invokestatic 225, 3, 60, 1), (4, .ifCond .eq 15, 3, 19, 0), (7, .iload_n 1, 1, 0, 0), (8, .invokestatic 225, 3, 60, 1), (11, .ifCond .eq 8, 3, 19, 0), (14, .iload_n 1, 1, 0, 0), (15, .iload_n 0, 1, 0, 0), (16, .if_icmp .ge 14, 3, 30, 0), (19, .new 38, 3, 1001, 3), (22, .dup, 1, 0, 0), (23, .ldc_w 552, 3, 999, 0), (26, .invokespecial 42, 3, 999, 0), (29, .athrow, 1, 0, 0), (30, .return_, 1, 0, 0)]
def gM_29 : MethodName × ByteArray × Nat × Option FieldType × List (Nat × Nat × Nat × Nat) := (yX10_checkKeys, cX10_checkKeys, 2, none, [])
/-- 30: StratumLedge.close(I)I -/
def gC_30 : List (Nat × gI) := [(0, .aload_n 0, 1, 0, 0), (1, .iload_n 1, 1, 0, 0), (2, .invokevirtual 241, 3, 82, 2), (5, .istore_n 2, 1, 0, 0), (6, .iload_n 2, 1, 0, 0), (7, .ifCond .lt 14, 3, 21, 0), (10, .iload_n 2, 1, 0, 0), (11, .aload_n 0, 1, 0, 0), (12, .getfield 22, 3, 11, 3), (15, .invokevirtual 45, 3, 173, 1), (18, .if_icmp .lt 13, 3, 31, 0), (21, .new 195, 3, 1000, 2), (24, .dup, 1, 0, 0), (25, .ldc 244, 2, 999, 0), (27, .invokespecial 199, 3, 999, 0), (30, .athrow, 1, 0, 0), (31, .aload_n 0, 1, 0, 0), (32, .getfield 22, 3, 11, 3), (35, .iload_n 2, 1, 0, 0), (36, .invokevirtual 200, 3, 172, 2), (39, .pop, 1, 0, 0), (40, .aload_n 0, 1, 0, 0), (41, .getfield 22, 3, 11, 3), (44, .invokevirtual 45, 3, 173, 1), (47, .ireturn, 1, 0, 0)]
def gM_30 : MethodName × ByteArray × Nat × Option FieldType × List (Nat × Nat × Nat × Nat) := (yX10_close, cX10_close, 3, (some .int), [])
/-- 31: StratumLedge.compact(I)I -/
def gC_31 : List (Nat × gI) := [(0, .aload_n 0, 1, 0, 0), (1, .iload_n 1, 1, 0, 0), (2, .invokevirtual 71, 3, 47, 2), (5, .astore_n 2, 1, 0, 0), (6, .aload_n 0, 1, 0, 0), (7, .getfield 156, 3, 11, 7), (10, .ifnull 14, 3, 24, 0), (13, .new 49, 3, 1002, 3), (16, .dup, 1, 0, 0), (17, .ldc_w 352, 3, 999, 0), (20, .invokespecial 53, 3, 999, 0), (23, .athrow, 1, 0, 0), (24, .aload_n 2, 1, 0, 0), (25, .invokestatic 354, 3, 77, 1), (28, .istore_n 3, 1, 0, 0), (29, .aload_n 2, 1, 0, 0), (30, .iload_n 3, 1, 0, 0), (31, .invokevirtual 107, 3, 108, 2), (34, .iload_n 3, 1, 0, 0), (35, .invokestatic 344, 3, 38, 2), (38, .fconst 1, 1, 0, 0), (39, .fcmp .g, 1, 0, 0), (40, .ifCond .ge 14, 3, 54, 0), (43, .new 229, 3, 1003, 3), (46, .dup, 1, 0, 0), (47, .ldc_w 357, 3, 999, 0), (50, .invokespecial 233, 3, 999, 0), (53, .athrow, 1, 0, 0), (54, .aload_n 0, 1, 0, 0), (55, .new 161, 3, 7, 0), (58, .dup, 1, 0, 0), (59, .aload_n 2, 1, 0, 0), (60, .iload_n 3, 1, 0, 0), (61, .invokespecial 359, 3, 128, 3), (64, .putfield 156, 3, 11, 7), (67, .iload_n 3, 1, 0, 0), (68, .ireturn, 1, 0, 0)]
def gM_31 : MethodName × ByteArray × Nat × Option FieldType × List (Nat × Nat × Nat × Nat) := (yX10_compact, cX10_compact, 4, (some .int), [])
/-- 32: StratumLedge.countInMemory(LStratumLedge$Family;)I -/
def gC_32 : List (Nat × gI) := [(0, .iconst 0, 1, 0, 0), (1, .istore_n 2, 1, 0, 0), (2, .iconst 0, 1, 0, 0), (3, .istore_n 3, 1, 0, 0), (4, .iload_n 3, 1, 0, 0), (5, .aload_n 0, 1, 0, 0), (6, .getfield 16, 3, 11, 1), (9, .invokevirtual 45, 3, 173, 1), (12, .if_icmp .ge 30, 3, 42, 0), (15, .aload_n 0, 1, 0, 0), (16, .getfield 16, 3, 11, 1), (19, .iload_n 3, 1, 0, 0), (20, .invokevirtual 135, 3, 167, 2), (23, .checkcast 93, 3, 10, 0), (26, .aload_n 1, 1, 0, 0), (27, .invokevirtual 139, 3, 153, 2), (30, .ifCond .eq 6, 3, 36, 0), (33, .iinc 2 1, 3, 0, 0), (36, .iinc 3 1, 3, 0, 0), (39, .goto (-35), 3, 4, 0), (42, .iload_n 2, 1, 0, 0), (43, .ireturn, 1, 0, 0)]
def gM_32 : MethodName × ByteArray × Nat × Option FieldType × List (Nat × Nat × Nat × Nat) := (yX10_countInMemory, cX10_countInMemory, 4, (some .int), [])
/-- 33: StratumLedge.countReading(LStratumLedge$Run;I)V -/
def gC_33 : List (Nat × gI) := [(0, .aload_n 1, 1, 0, 0), (1, .getfield 302, 3, 8, 2), (4, .invokevirtual 305, 3, 170, 1), (7, .ifCond .eq 4, 3, 11, 0), (10, .return_, 1, 0, 0), (11, .aload_n 0, 1, 0, 0), (12, .dup, 1, 0, 0), (13, .getfield 309, 3, 11, 14), (16, .iconst 1, 1, 0, 0), (17, .iadd, 1, 0, 0), (18, .putfield 309, 3, 11, 14), (21, .aload_n 1, 1, 0, 0), (22, .iload_n 2, 1, 0, 0), (23, .invokevirtual 312, 3, 144, 2), (26, .ifCond .ne 4, 3, 30, 0), (29, .return_, 1, 0, 0), (30, .aload_n 1, 1, 0, 0), (31, .iload_n 2, 1, 0, 0), (32, .invokevirtual 315, 3, 140, 2), (35, .istore_n 3, 1, 0, 0), (36, .iload_n 3, 1, 0, 0), (37, .ifCond .ne 23, 3, 60, 0), (40, .aload_n 0, 1, 0, 0), (41, .dup, 1, 0, 0), (42, .getfield 318, 3, 11, 15), (45, .iconst 1, 1, 0, 0), (46, .iadd, 1, 0, 0), (47, .putfield 318, 3, 11, 15), (50, .aload_n 0, 1, 0, 0), (51, .dup, 1, 0, 0), (52, .getfield 321, 3, 11, 13), (55, .iconst 1, 1, 0, 0), (56, .iadd, 1, 0, 0), (57, .putfield 321, 3, 11, 13), (60, .aload_n 0, 1, 0, 0), (61, .dup, 1, 0, 0), (62, .getfield 321, 3, 11, 13), (65, .iload_n 3, 1, 0, 0), (66, .iadd, 1, 0, 0), (67, .putfield 321, 3, 11, 13), (70, .return_, 1, 0, 0)]
def gM_33 : MethodName × ByteArray × Nat × Option FieldType × List (Nat × Nat × Nat × Nat) := (yX10_countReading, cX10_countReading, 4, none, [])
/-- 34: StratumLedge.crash()I -/
def gC_34 : List (Nat × gI) := [(0, .iconst 0, 1, 0, 0), (1, .istore_n 1, 1, 0, 0), (2, .iconst 0, 1, 0, 0), (3, .istore_n 2, 1, 0, 0), (4, .iload_n 2, 1, 0, 0), (5, .aload_n 0, 1, 0, 0), (6, .getfield 16, 3, 11, 1), (9, .invokevirtual 45, 3, 173, 1), (12, .if_icmp .ge 37, 3, 49, 0), (15, .aload_n 0, 1, 0, 0), (16, .getfield 16, 3, 11, 1), (19, .iload_n 2, 1, 0, 0), (20, .invokevirtual 135, 3, 167, 2), (23, .checkcast 93, 3, 10, 0), (26, .astore_n 3, 1, 0, 0), (27, .aload_n 3, 1, 0, 0), (28, .getfield 373, 3, 10, 3), (31, .iconst 1, 1, 0, 0), (32, .if_icmp .ne 11, 3, 43, 0), (35, .aload_n 3, 1, 0, 0), (36, .iconst 0, 1, 0, 0), (37, .putfield 373, 3, 10, 3), (40, .iinc 1 1, 3, 0, 0), (43, .iinc 2 1, 3, 0, 0), (46, .goto (-42), 3, 4, 0), (49, .aload_n 0, 1, 0, 0), (50, .invokevirtual 489, 3, 53, 1), (53, .iload_n 1, 1, 0, 0), (54, .ireturn, 1, 0, 0)]
def gM_34 : MethodName × ByteArray × Nat × Option FieldType × List (Nat × Nat × Nat × Nat) := (yX10_crash, cX10_crash, 4, (some .int), [])
/-- 35: StratumLedge.cursorAt(I)LStratumLedge$Cursor; -/
def gC_35 : List (Nat × gI) := [(0, .aload_n 0, 1, 0, 0), (1, .iload_n 1, 1, 0, 0), (2, .invokevirtual 241, 3, 82, 2), (5, .istore_n 2, 1, 0, 0), (6, .iload_n 2, 1, 0, 0), (7, .ifCond .lt 14, 3, 21, 0), (10, .iload_n 2, 1, 0, 0), (11, .aload_n 0, 1, 0, 0), (12, .getfield 22, 3, 11, 3), (15, .invokevirtual 45, 3, 173, 1), (18, .if_icmp .lt 13, 3, 31, 0), (21, .new 195, 3, 1000, 2), (24, .dup, 1, 0, 0), (25, .ldc 244, 2, 999, 0), (27, .invokespecial 199, 3, 999, 0), (30, .athrow, 1, 0, 0), (31, .aload_n 0, 1, 0, 0), (32, .getfield 22, 3, 11, 3), (35, .iload_n 2, 1, 0, 0), (36, .invokevirtual 135, 3, 167, 2), (39, .checkcast 205, 3, 3, 0), (42, .areturn, 1, 0, 0)]
def gM_35 : MethodName × ByteArray × Nat × Option FieldType × List (Nat × Nat × Nat × Nat) := (yX10_cursorAt, cX10_cursorAt, 3, (some (.object "StratumLedge$Cursor")), [])
/-- 36: StratumLedge.debt(II)F -/
def gC_36 : List (Nat × gI) := [(0, .aload_n 0, 1, 0, 0), (1, .iload_n 1, 1, 0, 0), (2, .iload_n 2, 1, 0, 0), (3, .invokevirtual 326, 3, 68, 3), (6, .iload_n 2, 1, 0, 0), (7, .invokestatic 344, 3, 38, 2), (10, .freturn, 1, 0, 0)]
def gM_36 : MethodName × ByteArray × Nat × Option FieldType × List (Nat × Nat × Nat × Nat) := (yX10_debt, cX10_debt, 3, (some .float), [])
/-- 37: StratumLedge.debtBits(II)I -/
def gC_37 : List (Nat × gI) := [(0, .aload_n 0, 1, 0, 0), (1, .iload_n 1, 1, 0, 0), (2, .iload_n 2, 1, 0, 0), (3, .invokevirtual 326, 3, 68, 3), (6, .iload_n 2, 1, 0, 0), (7, .invokestatic 344, 3, 38, 2), (10, .invokestatic 348, 3, 25, 1), (13, .ireturn, 1, 0, 0)]
def gM_37 : MethodName × ByteArray × Nat × Option FieldType × List (Nat × Nat × Nat × Nat) := (yX10_debtBits, cX10_debtBits, 3, (some .int), [])
/-- 38: StratumLedge.debtOf(LStratumLedge$Level;I)F -/
def gC_38 : List (Nat × gI) := [(0, .iload_n 1, 1, 0, 0), (1, .tableswitch 57 0 2 #[27, 37, 47], 27, 0, 0), (28, .aload_n 0, 1, 0, 0), (29, .invokevirtual 127, 3, 119, 1), (32, .i2f, 1, 0, 0), (33, .ldc_w 401, 3, 1, 1077936128), (36, .fdiv, 1, 0, 0), (37, .freturn, 1, 0, 0), (38, .aload_n 0, 1, 0, 0), (39, .invokevirtual 402, 3, 127, 1), (42, .i2f, 1, 0, 0), (43, .ldc_w 403, 3, 1, 1090519040), (46, .fdiv, 1, 0, 0), (47, .freturn, 1, 0, 0), (48, .aload_n 0, 1, 0, 0), (49, .invokevirtual 402, 3, 127, 1), (52, .i2f, 1, 0, 0), (53, .ldc_w 404, 3, 1, 1103101952), (56, .fdiv, 1, 0, 0), (57, .freturn, 1, 0, 0), (58, .fconst 0, 1, 0, 0), (59, .freturn, 1, 0, 0)]
def gM_38 : MethodName × ByteArray × Nat × Option FieldType × List (Nat × Nat × Nat × Nat) := (yX10_debtOf, cX10_debtOf, 2, (some .float), [])
/-- 39: StratumLedge.delete(II)I -/
def gC_39 : List (Nat × gI) := [(0, .aload_n 0, 1, 0, 0), (1, .iload_n 1, 1, 0, 0), (2, .iconst 2, 1, 0, 0), (3, .iload_n 2, 1, 0, 0), (4, .iload_n 2, 1, 0, 0), (5, .iconst 0, 1, 0, 0), (6, .invokevirtual 67, 3, 99, 6), (9, .ireturn, 1, 0, 0)]
def gM_39 : MethodName × ByteArray × Nat × Option FieldType × List (Nat × Nat × Nat × Nat) := (yX10_delete, cX10_delete, 3, (some .int), [])
/-- 40: StratumLedge.deleteRange(III)I -/
def gC_40 : List (Nat × gI) := [(0, .aload_n 0, 1, 0, 0), (1, .iload_n 1, 1, 0, 0), (2, .iconst 3, 1, 0, 0), (3, .iload_n 2, 1, 0, 0), (4, .iload_n 3, 1, 0, 0), (5, .iconst 0, 1, 0, 0), (6, .invokevirtual 67, 3, 99, 6), (9, .ireturn, 1, 0, 0)]
def gM_40 : MethodName × ByteArray × Nat × Option FieldType × List (Nat × Nat × Nat × Nat) := (yX10_deleteRange, cX10_deleteRange, 4, (some .int), [])
/-- 41: StratumLedge.doStep(LStratumLedge$Merging;)V -/
def gC_41 : List (Nat × gI) := [(0, .aload_n 1, 1, 0, 0), (1, .dup, 1, 0, 0), (2, .getfield 370, 3, 7, 6), (5, .iconst 1, 1, 0, 0), (6, .iadd, 1, 0, 0), (7, .putfield 370, 3, 7, 6), (10, .aload_n 1, 1, 0, 0), (11, .aload_n 1, 1, 0, 0), (12, .invokevirtual 405, 3, 135, 1), (15, .putfield 408, 3, 7, 5), (18, .aload_n 1, 1, 0, 0), (19, .getfield 408, 3, 7, 5), (22, .bipush 100, 2, 0, 0), (24, .if_icmp .ge 11, 3, 35, 0), (27, .aload_n 0, 1, 0, 0), (28, .aload_n 1, 1, 0, 0), (29, .invokevirtual 411, 3, 92, 2), (32, .goto 8, 3, 40, 0), (35, .aload_n 0, 1, 0, 0), (36, .aload_n 1, 1, 0, 0), (37, .invokevirtual 414, 3, 50, 2), (40, .return_, 1, 0, 0)]
def gM_41 : MethodName × ByteArray × Nat × Option FieldType × List (Nat × Nat × Nat × Nat) := (yX10_doStep, cX10_doStep, 2, none, [])
/-- 42: StratumLedge.dropLastDeletes([Z)V -/
def gC_42 : List (Nat × gI) := [(0, .aload_n 1, 1, 0, 0), (1, .arraylength, 1, 0, 0), (2, .iconst 1, 1, 0, 0), (3, .isub, 1, 0, 0), (4, .istore_n 2, 1, 0, 0), (5, .iload_n 2, 1, 0, 0), (6, .ifCond .lt 49, 3, 55, 0), (9, .aload_n 1, 1, 0, 0), (10, .iload_n 2, 1, 0, 0), (11, .baload, 1, 0, 0), (12, .ifCond .eq 37, 3, 49, 0), (15, .iload_n 2, 1, 0, 0), (16, .aload_n 0, 1, 0, 0), (17, .getfield 35, 3, 11, 6), (20, .invokevirtual 45, 3, 173, 1), (23, .if_icmp .ge 26, 3, 49, 0), (26, .aload_n 0, 1, 0, 0), (27, .getfield 35, 3, 11, 6), (30, .iload_n 2, 1, 0, 0), (31, .invokevirtual 135, 3, 167, 2), (34, .checkcast 95, 3, 2, 0), (37, .getfield 376, 3, 2, 0), (40, .iconst 2, 1, 0, 0), (41, .if_icmp .eq 4, 3, 45, 0), (44, .return_, 1, 0, 0), (45, .aload_n 1, 1, 0, 0), (46, .iload_n 2, 1, 0, 0), (47, .iconst 0, 1, 0, 0), (48, .bastore, 1, 0, 0), (49, .iinc 2 (-1), 3, 0, 0), (52, .goto (-47), 3, 5, 0), (55, .return_, 1, 0, 0)]
def gM_42 : MethodName × ByteArray × Nat × Option FieldType × List (Nat × Nat × Nat × Nat) := (yX10_dropLastDeletes, cX10_dropLastDeletes, 3, none, [])
/-- 43: StratumLedge.endOfKey(Ljava/util/ArrayList;I)I -/
def gC_43 : List (Nat × gI) := [(0, .iload_n 1, 1, 0, 0), (1, .ifCond .lt 11, 3, 12, 0), (4, .iload_n 1, 1, 0, 0), (5, .aload_n 0, 1, 0, 0), (6, .invokevirtual 45, 3, 173, 1), (9, .if_icmp .lt 5, 3, 14, 0), (12, .iload_n 1, 1, 0, 0), (13, .ireturn, 1, 0, 0), (14, .aload_n 0, 1, 0, 0), (15, .iload_n 1, 1, 0, 0), (16, .invokevirtual 135, 3, 167, 2), (19, .checkcast 95, 3, 2, 0), (22, .getfield 383, 3, 2, 2), (25, .istore_n 2, 1, 0, 0), (26, .iload_n 1, 1, 0, 0), (27, .istore_n 3, 1, 0, 0), (28, .iload_n 3, 1, 0, 0), (29, .aload_n 0, 1, 0, 0), (30, .invokevirtual 45, 3, 173, 1), (33, .if_icmp .ge 24, 3, 57, 0), (36, .aload_n 0, 1, 0, 0), (37, .iload_n 3, 1, 0, 0), (38, .invokevirtual 135, 3, 167, 2), (41, .checkcast 95, 3, 2, 0), (44, .getfield 383, 3, 2, 2), (47, .iload_n 2, 1, 0, 0), (48, .if_icmp .ne 9, 3, 57, 0), (51, .iinc 3 1, 3, 0, 0), (54, .goto (-26), 3, 28, 0), (57, .iload_n 3, 1, 0, 0), (58, .ireturn, 1, 0, 0)]
def gM_43 : MethodName × ByteArray × Nat × Option FieldType × List (Nat × Nat × Nat × Nat) := (yX10_endOfKey, cX10_endOfKey, 4, (some .int), [])
/-- 44: StratumLedge.endOfRun(Ljava/util/ArrayList;I)I -/
def gC_44 : List (Nat × gI) := [(0, .aload_n 0, 1, 0, 0), (1, .iload_n 1, 1, 0, 0), (2, .invokestatic 480, 3, 43, 2), (5, .istore_n 2, 1, 0, 0), (6, .iload_n 2, 1, 0, 0), (7, .aload_n 0, 1, 0, 0), (8, .invokevirtual 45, 3, 173, 1), (11, .if_icmp .ge 29, 3, 40, 0), (14, .aload_n 0, 1, 0, 0), (15, .iload_n 2, 1, 0, 0), (16, .invokestatic 480, 3, 43, 2), (19, .istore_n 3, 1, 0, 0), (20, .iload_n 3, 1, 0, 0), (21, .iload_n 1, 1, 0, 0), (22, .isub, 1, 0, 0), (23, .bipush 6, 2, 0, 0), (25, .if_icmp .gt 8, 3, 33, 0), (28, .iload_n 3, 1, 0, 0), (29, .iload_n 2, 1, 0, 0), (30, .if_icmp .gt 5, 3, 35, 0), (33, .iload_n 2, 1, 0, 0), (34, .ireturn, 1, 0, 0), (35, .iload_n 3, 1, 0, 0), (36, .istore_n 2, 1, 0, 0), (37, .goto (-31), 3, 6, 0), (40, .iload_n 2, 1, 0, 0), (41, .ireturn, 1, 0, 0)]
def gM_44 : MethodName × ByteArray × Nat × Option FieldType × List (Nat × Nat × Nat × Nat) := (yX10_endOfRun, cX10_endOfRun, 4, (some .int), [])
/-- 45: StratumLedge.entries(III)I -/
def gC_45 : List (Nat × gI) := [(0, .aload_n 0, 1, 0, 0), (1, .iload_n 1, 1, 0, 0), (2, .iload_n 2, 1, 0, 0), (3, .iload_n 3, 1, 0, 0), (4, .invokevirtual 330, 3, 89, 4), (7, .getfield 302, 3, 8, 2), (10, .invokevirtual 45, 3, 173, 1), (13, .ireturn, 1, 0, 0)]
def gM_45 : MethodName × ByteArray × Nat × Option FieldType × List (Nat × Nat × Nat × Nat) := (yX10_entries, cX10_entries, 4, (some .int), [])
/-- 46: StratumLedge.falsePasses()I -/
def gC_46 : List (Nat × gI) := [(0, .aload_n 0, 1, 0, 0), (1, .getfield 318, 3, 11, 15), (4, .ireturn, 1, 0, 0)]
def gM_46 : MethodName × ByteArray × Nat × Option FieldType × List (Nat × Nat × Nat × Nat) := (yX10_falsePasses, cX10_falsePasses, 1, (some .int), [])
/-- 47: StratumLedge.familyAt(I)LStratumLedge$Family; -/
def gC_47 : List (Nat × gI) := [(0, .iload_n 1, 1, 0, 0), (1, .ifCond .lt 14, 3, 15, 0), (4, .iload_n 1, 1, 0, 0), (5, .aload_n 0, 1, 0, 0), (6, .getfield 10, 3, 11, 0), (9, .invokevirtual 45, 3, 173, 1), (12, .if_icmp .lt 14, 3, 26, 0), (15, .new 195, 3, 1000, 3), (18, .dup, 1, 0, 0), (19, .ldc_w 546, 3, 999, 0), (22, .invokespecial 199, 3, 999, 0), (25, .athrow, 1, 0, 0), (26, .aload_n 0, 1, 0, 0), (27, .getfield 10, 3, 11, 0), (30, .iload_n 1, 1, 0, 0), (31, .invokevirtual 135, 3, 167, 2), (34, .checkcast 54, 3, 4, 0), (37, .areturn, 1, 0, 0)]
def gM_47 : MethodName × ByteArray × Nat × Option FieldType × List (Nat × Nat × Nat × Nat) := (yX10_familyAt, cX10_familyAt, 2, (some (.object "StratumLedge$Family")), [])
/-- 48: StratumLedge.file(III)I -/
def gC_48 : List (Nat × gI) := [(0, .aload_n 0, 1, 0, 0), (1, .iload_n 1, 1, 0, 0), (2, .iload_n 2, 1, 0, 0), (3, .iload_n 3, 1, 0, 0), (4, .invokevirtual 330, 3, 89, 4), (7, .getfield 334, 3, 8, 0), (10, .ireturn, 1, 0, 0)]
def gM_48 : MethodName × ByteArray × Nat × Option FieldType × List (Nat × Nat × Nat × Nat) := (yX10_file, cX10_file, 4, (some .int), [])
/-- 49: StratumLedge.findAnew(LStratumLedge$Family;II)V -/
def gC_49 : List (Nat × gI) := [(0, .aload_n 0, 1, 0, 0), (1, .getfield 31, 3, 11, 5), (4, .invokevirtual 255, 3, 113, 1), (7, .aload_n 0, 1, 0, 0), (8, .getfield 16, 3, 11, 1), (11, .invokevirtual 45, 3, 173, 1), (14, .iconst 1, 1, 0, 0), (15, .isub, 1, 0, 0), (16, .istore 4, 2, 0, 0), (18, .iload 4, 2, 0, 0), (20, .ifCond .lt 79, 3, 99, 0), (23, .aload_n 0, 1, 0, 0), (24, .getfield 31, 3, 11, 5), (27, .getfield 258, 3, 5, 1), (30, .ifCond .ne 69, 3, 99, 0), (33, .aload_n 0, 1, 0, 0), (34, .getfield 16, 3, 11, 1), (37, .iload 4, 2, 0, 0), (39, .invokevirtual 135, 3, 167, 2), (42, .checkcast 93, 3, 10, 0), (45, .astore 5, 2, 0, 0), (47, .aload 5, 2, 0, 0), (49, .aload_n 1, 1, 0, 0), (50, .invokevirtual 261, 3, 154, 2), (53, .ifCond .eq 40, 3, 93, 0), (56, .aload 5, 2, 0, 0), (58, .getfield 143, 3, 10, 1), (61, .getfield 264, 3, 2, 1), (64, .iload_n 3, 1, 0, 0), (65, .if_icmp .gt 28, 3, 93, 0), (68, .aload 5, 2, 0, 0), (70, .iload_n 2, 1, 0, 0), (71, .invokevirtual 267, 3, 155, 2), (74, .ifCond .eq 19, 3, 93, 0), (77, .aload_n 0, 1, 0, 0), (78, .getfield 31, 3, 11, 5), (81, .aload 5, 2, 0, 0), (83, .getfield 143, 3, 10, 1), (86, .aload_n 1, 1, 0, 0), (87, .getfield 270, 3, 4, 1), (90, .invokevirtual 274, 3, 115, 3), (93, .iinc 4 (-1), 3, 0, 0), (96, .goto (-78), 3, 18, 0), (99, .return_, 1, 0, 0)]
def gM_49 : MethodName × ByteArray × Nat × Option FieldType × List (Nat × Nat × Nat × Nat) := (yX10_findAnew, cX10_findAnew, 6, none, [])
/-- 50: StratumLedge.finish(LStratumLedge$Merging;)V -/
def gC_50 : List (Nat × gI) := [(0, .aload_n 1, 1, 0, 0), (1, .getfield 424, 3, 7, 0), (4, .astore_n 2, 1, 0, 0), (5, .aload_n 1, 1, 0, 0), (6, .invokestatic 442, 3, 66, 1), (9, .astore_n 3, 1, 0, 0), (10, .aload_n 2, 1, 0, 0), (11, .aload_n 1, 1, 0, 0), (12, .getfield 425, 3, 7, 1), (15, .invokevirtual 107, 3, 108, 2), (18, .astore 4, 2, 0, 0), (20, .aload_n 2, 1, 0, 0), (21, .aload_n 1, 1, 0, 0), (22, .getfield 425, 3, 7, 1), (25, .iconst 1, 1, 0, 0), (26, .iadd, 1, 0, 0), (27, .invokevirtual 107, 3, 108, 2), (30, .astore 5, 2, 0, 0), (32, .aload 4, 2, 0, 0), (34, .aload_n 1, 1, 0, 0), (35, .getfield 417, 3, 7, 2), (38, .invokevirtual 446, 3, 126, 2), (41, .aload 5, 2, 0, 0), (43, .aload_n 1, 1, 0, 0), (44, .getfield 417, 3, 7, 2), (47, .invokevirtual 446, 3, 126, 2), (50, .aload 4, 2, 0, 0), (52, .aload_n 1, 1, 0, 0), (53, .getfield 450, 3, 7, 4), (56, .putfield 453, 3, 6, 1), (59, .iconst 0, 1, 0, 0), (60, .istore 6, 2, 0, 0), (62, .iconst 0, 1, 0, 0), (63, .istore 7, 2, 0, 0), (65, .iconst 0, 1, 0, 0), (66, .istore 8, 2, 0, 0), (68, .iload 8, 2, 0, 0), (70, .aload_n 1, 1, 0, 0), (71, .getfield 436, 3, 7, 3), (74, .invokevirtual 45, 3, 173, 1), (77, .if_icmp .gt 180, 3, 257, 0), (80, .iload 8, 2, 0, 0), (82, .ifCond .eq 15, 3, 97, 0), (85, .iload 6, 2, 0, 0), (87, .aload_n 1, 1, 0, 0), (88, .getfield 436, 3, 7, 3), (91, .invokevirtual 45, 3, 173, 1), (94, .if_icmp .ge 163, 3, 257, 0), (97, .aload_n 1, 1, 0, 0), (98, .getfield 436, 3, 7, 3), (101, .iload 6, 2, 0, 0), (103, .invokestatic 456, 3, 44, 2), (106, .istore 9, 2, 0, 0), (108, .iload 9, 2, 0, 0), (110, .aload_n 1, 1, 0, 0), (111, .getfield 436, 3, 7, 3), (114, .invokevirtual 45, 3, 173, 1), (117, .if_icmp .ge 23, 3, 140, 0), (120, .aload_n 1, 1, 0, 0), (121, .getfield 436, 3, 7, 3), (124, .iload 9, 2, 0, 0), (126, .invokevirtual 135, 3, 167, 2), (129, .checkcast 95, 3, 2, 0), (132, .getfield 383, 3, 2, 2), (135, .iconst 1, 1, 0, 0), (136, .isub, 1, 0, 0), (137, .goto 5, 3, 142, 0), (140, .bipush 99, 2, 0, 0), (142, .istore 10, 2, 0, 0), (144, .new 7, 3, 0, 0), (147, .dup, 1, 0, 0), (148, .invokespecial 9, 3, 160, 1), (151, .astore 11, 2, 0, 0), (153, .iload 6, 2, 0, 0), (155, .istore 12, 2, 0, 0), (157, .iload 12, 2, 0, 0), (159, .iload 9, 2, 0, 0), (161, .if_icmp .ge 39, 3, 200, 0), (164, .iload 12, 2, 0, 0), (166, .aload_n 1, 1, 0, 0), (167, .getfield 436, 3, 7, 3), (170, .invokevirtual 45, 3, 173, 1), (173, .if_icmp .ge 27, 3, 200, 0), (176, .aload 11, 2, 0, 0), (178, .aload_n 1, 1, 0, 0), (179, .getfield 436, 3, 7, 3), (182, .iload 12, 2, 0, 0), (184, .invokevirtual 135, 3, 167, 2), (187, .checkcast 95, 3, 2, 0), (190, .invokevirtual 59, 3, 162, 2), (193, .pop, 1, 0, 0), (194, .iinc 12 1, 3, 0, 0), (197, .goto (-40), 3, 157, 0), (200, .aload_n 3, 1, 0, 0), (201, .iload 7, 2, 0, 0), (203, .iload 10, 2, 0, 0), (205, .invokestatic 460, 3, 80, 3), (208, .astore 12, 2, 0, 0), (210, .aload 11, 2, 0, 0), (212, .invokevirtual 305, 3, 170, 1), (215, .ifCond .eq 11, 3, 226, 0), (218, .aload 12, 2, 0, 0), (220, .invokevirtual 305, 3, 170, 1), (223, .ifCond .ne 18, 3, 241, 0), (226, .aload 5, 2, 0, 0), (228, .aload_n 0, 1, 0, 0), (229, .iconst 1, 1, 0, 0), (230, .aload 11, 2, 0, 0), (232, .aload 12, 2, 0, 0), (234, .invokevirtual 111, 3, 74, 4), (237, .iconst 0, 1, 0, 0), (238, .invokevirtual 115, 3, 121, 3), (241, .iload 9, 2, 0, 0), (243, .istore 6, 2, 0, 0), (245, .iload 10, 2, 0, 0), (247, .iconst 1, 1, 0, 0), (248, .iadd, 1, 0, 0), (249, .istore 7, 2, 0, 0), (251, .iinc 8 1, 3, 0, 0), (254, .goto (-186), 3, 68, 0), (257, .aload_n 0, 1, 0, 0), (258, .dup, 1, 0, 0), (259, .getfield 121, 3, 11, 12), (262, .iconst 1, 1, 0, 0), (263, .iadd, 1, 0, 0), (264, .putfield 121, 3, 11, 12), (267, .aload_n 0, 1, 0, 0), (268, .aconst_null, 1, 0, 0), (269, .putfield 156, 3, 11, 7), (272, .return_, 1, 0, 0)]
def gM_50 : MethodName × ByteArray × Nat × Option FieldType × List (Nat × Nat × Nat × Nat) := (yX10_finish, cX10_finish, 13, none, [])
/-- 51: StratumLedge.flush(I)I -/
def gC_51 : List (Nat × gI) := [(0, .aload_n 0, 1, 0, 0), (1, .iload_n 1, 1, 0, 0), (2, .invokevirtual 71, 3, 47, 2), (5, .astore_n 2, 1, 0, 0), (6, .aload_n 0, 1, 0, 0), (7, .aload_n 2, 1, 0, 0), (8, .invokevirtual 124, 3, 32, 2), (11, .ifCond .ne 14, 3, 25, 0), (14, .new 49, 3, 1002, 3), (17, .dup, 1, 0, 0), (18, .ldc_w 324, 3, 999, 0), (21, .invokespecial 53, 3, 999, 0), (24, .athrow, 1, 0, 0), (25, .aload_n 0, 1, 0, 0), (26, .aload_n 2, 1, 0, 0), (27, .invokevirtual 89, 3, 52, 2), (30, .ireturn, 1, 0, 0)]
def gM_51 : MethodName × ByteArray × Nat × Option FieldType × List (Nat × Nat × Nat × Nat) := (yX10_flush, cX10_flush, 3, (some .int), [])
/-- 52: StratumLedge.flushMemory(LStratumLedge$Family;)I -/
def gC_52 : List (Nat × gI) := [(0, .new 7, 3, 0, 0), (3, .dup, 1, 0, 0), (4, .invokespecial 9, 3, 160, 1), (7, .astore_n 2, 1, 0, 0), (8, .new 7, 3, 0, 0), (11, .dup, 1, 0, 0), (12, .invokespecial 9, 3, 160, 1), (15, .astore_n 3, 1, 0, 0), (16, .iconst 0, 1, 0, 0), (17, .istore 4, 2, 0, 0), (19, .iload 4, 2, 0, 0), (21, .aload_n 0, 1, 0, 0), (22, .getfield 16, 3, 11, 1), (25, .invokevirtual 45, 3, 173, 1), (28, .if_icmp .ge 72, 3, 100, 0), (31, .aload_n 0, 1, 0, 0), (32, .getfield 16, 3, 11, 1), (35, .iload 4, 2, 0, 0), (37, .invokevirtual 135, 3, 167, 2), (40, .checkcast 93, 3, 10, 0), (43, .astore 5, 2, 0, 0), (45, .aload 5, 2, 0, 0), (47, .aload_n 1, 1, 0, 0), (48, .invokevirtual 139, 3, 153, 2), (51, .ifCond .eq 43, 3, 94, 0), (54, .aload 5, 2, 0, 0), (56, .iconst 3, 1, 0, 0), (57, .putfield 373, 3, 10, 3), (60, .aload 5, 2, 0, 0), (62, .getfield 143, 3, 10, 1), (65, .getfield 376, 3, 2, 0), (68, .iconst 3, 1, 0, 0), (69, .if_icmp .ne 16, 3, 85, 0), (72, .aload_n 3, 1, 0, 0), (73, .aload 5, 2, 0, 0), (75, .getfield 143, 3, 10, 1), (78, .invokevirtual 59, 3, 162, 2), (81, .pop, 1, 0, 0), (82, .goto 12, 3, 94, 0), (85, .aload_n 2, 1, 0, 0), (86, .aload 5, 2, 0, 0), (88, .getfield 143, 3, 10, 1), (91, .invokestatic 379, 3, 20, 2), (94, .iinc 4 1, 3, 0, 0), (97, .goto (-78), 3, 19, 0), (100, .aload_n 0, 1, 0, 0), (101, .iconst 0, 1, 0, 0), (102, .aload_n 2, 1, 0, 0), (103, .aload_n 3, 1, 0, 0), (104, .invokevirtual 111, 3, 74, 4), (107, .astore 4, 2, 0, 0), (109, .aload_n 1, 1, 0, 0), (110, .iconst 0, 1, 0, 0), (111, .invokevirtual 107, 3, 108, 2), (114, .aload 4, 2, 0, 0), (116, .iconst 1, 1, 0, 0), (117, .invokevirtual 115, 3, 121, 3), (120, .aload_n 0, 1, 0, 0), (121, .dup, 1, 0, 0), (122, .getfield 121, 3, 11, 12), (125, .iconst 1, 1, 0, 0), (126, .iadd, 1, 0, 0), (127, .putfield 121, 3, 11, 12), (130, .aload 4, 2, 0, 0), (132, .getfield 334, 3, 8, 0), (135, .ireturn, 1, 0, 0)]
def gM_52 : MethodName × ByteArray × Nat × Option FieldType × List (Nat × Nat × Nat × Nat) := (yX10_flushMemory, cX10_flushMemory, 6, (some .int), [])
/-- 53: StratumLedge.forgetWork()V -/
def gC_53 : List (Nat × gI) := [(0, .aload_n 0, 1, 0, 0), (1, .aconst_null, 1, 0, 0), (2, .putfield 156, 3, 11, 7), (5, .aload_n 0, 1, 0, 0), (6, .getfield 19, 3, 11, 2), (9, .invokevirtual 295, 3, 164, 1), (12, .aload_n 0, 1, 0, 0), (13, .getfield 22, 3, 11, 3), (16, .invokevirtual 295, 3, 164, 1), (19, .return_, 1, 0, 0)]
def gM_53 : MethodName × ByteArray × Nat × Option FieldType × List (Nat × Nat × Nat × Nat) := (yX10_forgetWork, cX10_forgetWork, 1, none, [])
/-- 54: StratumLedge.foundValue()I -/
def gC_54 : List (Nat × gI) := [(0, .aload_n 0, 1, 0, 0), (1, .getfield 31, 3, 11, 5), (4, .getfield 246, 3, 5, 0), (7, .ifCond .ne 13, 3, 20, 0), (10, .new 229, 3, 1003, 2), (13, .dup, 1, 0, 0), (14, .ldc 249, 2, 999, 0), (16, .invokespecial 233, 3, 999, 0), (19, .athrow, 1, 0, 0), (20, .aload_n 0, 1, 0, 0), (21, .getfield 31, 3, 11, 5), (24, .getfield 251, 3, 5, 2), (27, .ireturn, 1, 0, 0)]
def gM_54 : MethodName × ByteArray × Nat × Option FieldType × List (Nat × Nat × Nat × Nat) := (yX10_foundValue, cX10_foundValue, 1, (some .int), [])
/-- 55: StratumLedge.get(III)I -/
def gC_55 : List (Nat × gI) := [(0, .aload_n 0, 1, 0, 0), (1, .iload_n 1, 1, 0, 0), (2, .invokevirtual 71, 3, 47, 2), (5, .astore 4, 2, 0, 0), (7, .aload_n 0, 1, 0, 0), (8, .iload_n 3, 1, 0, 0), (9, .invokevirtual 165, 3, 76, 2), (12, .istore 5, 2, 0, 0), (14, .iload_n 2, 1, 0, 0), (15, .iload_n 2, 1, 0, 0), (16, .invokestatic 75, 3, 29, 2), (19, .aload_n 0, 1, 0, 0), (20, .aload 4, 2, 0, 0), (22, .iload_n 2, 1, 0, 0), (23, .iload 5, 2, 0, 0), (25, .iconst 1, 1, 0, 0), (26, .invokevirtual 169, 3, 71, 5), (29, .aload_n 0, 1, 0, 0), (30, .invokevirtual 173, 3, 54, 1), (33, .ireturn, 1, 0, 0)]
def gM_55 : MethodName × ByteArray × Nat × Option FieldType × List (Nat × Nat × Nat × Nat) := (yX10_get, cX10_get, 6, (some .int), [])
/-- 56: StratumLedge.getAnew(III)I -/
def gC_56 : List (Nat × gI) := [(0, .aload_n 0, 1, 0, 0), (1, .iload_n 1, 1, 0, 0), (2, .invokevirtual 71, 3, 47, 2), (5, .astore 4, 2, 0, 0), (7, .aload_n 0, 1, 0, 0), (8, .iload_n 3, 1, 0, 0), (9, .invokevirtual 165, 3, 76, 2), (12, .istore 5, 2, 0, 0), (14, .iload_n 2, 1, 0, 0), (15, .iload_n 2, 1, 0, 0), (16, .invokestatic 75, 3, 29, 2), (19, .aload_n 0, 1, 0, 0), (20, .aload 4, 2, 0, 0), (22, .iload_n 2, 1, 0, 0), (23, .iload 5, 2, 0, 0), (25, .invokevirtual 176, 3, 49, 4), (28, .aload_n 0, 1, 0, 0), (29, .invokevirtual 173, 3, 54, 1), (32, .ireturn, 1, 0, 0)]
def gM_56 : MethodName × ByteArray × Nat × Option FieldType × List (Nat × Nat × Nat × Nat) := (yX10_getAnew, cX10_getAnew, 6, (some .int), [])
/-- 57: StratumLedge.hasSameValues(LStratumLedge$Family;)Z -/
def gC_57 : List (Nat × gI) := [(0, .iconst 0, 1, 0, 0), (1, .istore_n 2, 1, 0, 0), (2, .iload_n 2, 1, 0, 0), (3, .bipush 100, 2, 0, 0), (5, .if_icmp .ge 82, 3, 87, 0), (8, .aload_n 0, 1, 0, 0), (9, .aload_n 1, 1, 0, 0), (10, .iload_n 2, 1, 0, 0), (11, .aload_n 0, 1, 0, 0), (12, .getfield 16, 3, 11, 1), (15, .invokevirtual 45, 3, 173, 1), (18, .iconst 0, 1, 0, 0), (19, .invokevirtual 169, 3, 71, 5), (22, .aload_n 0, 1, 0, 0), (23, .getfield 31, 3, 11, 5), (26, .getfield 246, 3, 5, 0), (29, .istore_n 3, 1, 0, 0), (30, .aload_n 0, 1, 0, 0), (31, .getfield 31, 3, 11, 5), (34, .getfield 251, 3, 5, 2), (37, .istore 4, 2, 0, 0), (39, .aload_n 0, 1, 0, 0), (40, .aload_n 1, 1, 0, 0), (41, .iload_n 2, 1, 0, 0), (42, .aload_n 0, 1, 0, 0), (43, .getfield 16, 3, 11, 1), (46, .invokevirtual 45, 3, 173, 1), (49, .invokevirtual 176, 3, 49, 4), (52, .iload_n 3, 1, 0, 0), (53, .aload_n 0, 1, 0, 0), (54, .getfield 31, 3, 11, 5), (57, .getfield 246, 3, 5, 0), (60, .if_icmp .ne 19, 3, 79, 0), (63, .iload_n 3, 1, 0, 0), (64, .ifCond .eq 17, 3, 81, 0), (67, .iload 4, 2, 0, 0), (69, .aload_n 0, 1, 0, 0), (70, .getfield 31, 3, 11, 5), (73, .getfield 251, 3, 5, 2), (76, .if_icmp .eq 5, 3, 81, 0), (79, .iconst 0, 1, 0, 0), (80, .ireturn, 1, 0, 0), (81, .iinc 2 1, 3, 0, 0), (84, .goto (-82), 3, 2, 0), (87, .iconst 1, 1, 0, 0), (88, .ireturn, 1, 0, 0)]
def gM_57 : MethodName × ByteArray × Nat × Option FieldType × List (Nat × Nat × Nat × Nat) := (yX10_hasSameValues, cX10_hasSameValues, 5, (some .boolean), [])
/-- 58: StratumLedge.inMemory(I)I -/
def gC_58 : List (Nat × gI) := [(0, .aload_n 0, 1, 0, 0), (1, .aload_n 0, 1, 0, 0), (2, .iload_n 1, 1, 0, 0), (3, .invokevirtual 71, 3, 47, 2), (6, .invokevirtual 124, 3, 32, 2), (9, .ireturn, 1, 0, 0)]
def gM_58 : MethodName × ByteArray × Nat × Option FieldType × List (Nat × Nat × Nat × Nat) := (yX10_inMemory, cX10_inMemory, 2, (some .int), [])
/-- 59: StratumLedge.isFree(LStratumLedge$Family;III)Z -/
def gC_59 : List (Nat × gI) := [(0, .aload_n 1, 1, 0, 0), (1, .iload_n 2, 1, 0, 0), (2, .invokevirtual 107, 3, 108, 2), (5, .iload_n 3, 1, 0, 0), (6, .iload 4, 2, 0, 0), (8, .invokevirtual 155, 3, 125, 3), (11, .ifCond .eq 5, 3, 16, 0), (14, .iconst 0, 1, 0, 0), (15, .ireturn, 1, 0, 0), (16, .aload_n 0, 1, 0, 0), (17, .getfield 156, 3, 11, 7), (20, .astore 5, 2, 0, 0), (22, .aload 5, 2, 0, 0), (24, .ifnull 16, 3, 40, 0), (27, .aload 5, 2, 0, 0), (29, .aload_n 1, 1, 0, 0), (30, .iload_n 2, 1, 0, 0), (31, .iload_n 3, 1, 0, 0), (32, .iload 4, 2, 0, 0), (34, .invokevirtual 160, 3, 131, 5), (37, .ifCond .ne 7, 3, 44, 0), (40, .iconst 1, 1, 0, 0), (41, .goto 4, 3, 45, 0), (44, .iconst 0, 1, 0, 0), (45, .ireturn, 1, 0, 0)]
def gM_59 : MethodName × ByteArray × Nat × Option FieldType × List (Nat × Nat × Nat × Nat) := (yX10_isFree, cX10_isFree, 6, (some .boolean), [])
/-- 60: StratumLedge.isKey(I)Z -/
def gC_60 : List (Nat × gI) := [(0, .iload_n 0, 1, 0, 0), (1, .ifCond .lt 13, 3, 14, 0), (4, .iload_n 0, 1, 0, 0), (5, .bipush 100, 2, 0, 0), (7, .if_icmp .ge 7, 3, 14, 0), (10, .iconst 1, 1, 0, 0), (11, .goto 4, 3, 15, 0), (14, .iconst 0, 1, 0, 0), (15, .ireturn, 1, 0, 0)]
def gM_60 : MethodName × ByteArray × Nat × Option FieldType × List (Nat × Nat × Nat × Nat) := (yX10_isKey, cX10_isKey, 1, (some .boolean), [])
/-- 61: StratumLedge.isMerging()Z -/
def gC_61 : List (Nat × gI) := [(0, .aload_n 0, 1, 0, 0), (1, .getfield 156, 3, 11, 7), (4, .ifnull 7, 3, 11, 0), (7, .iconst 1, 1, 0, 0), (8, .goto 4, 3, 12, 0), (11, .iconst 0, 1, 0, 0), (12, .ireturn, 1, 0, 0)]
def gM_61 : MethodName × ByteArray × Nat × Option FieldType × List (Nat × Nat × Nat × Nat) := (yX10_isMerging, cX10_isMerging, 1, (some .boolean), [])
/-- 62: StratumLedge.isSound()Z -/
def gC_62 : List (Nat × gI) := [(0, .iconst 0, 1, 0, 0), (1, .istore_n 1, 1, 0, 0), (2, .iload_n 1, 1, 0, 0), (3, .aload_n 0, 1, 0, 0), (4, .getfield 10, 3, 11, 0), (7, .invokevirtual 45, 3, 173, 1), (10, .if_icmp .ge 38, 3, 48, 0), (13, .aload_n 0, 1, 0, 0), (14, .getfield 10, 3, 11, 0), (17, .iload_n 1, 1, 0, 0), (18, .invokevirtual 135, 3, 167, 2), (21, .checkcast 54, 3, 4, 0), (24, .astore_n 2, 1, 0, 0), (25, .aload_n 2, 1, 0, 0), (26, .invokevirtual 531, 3, 110, 1), (29, .ifCond .eq 11, 3, 40, 0), (32, .aload_n 0, 1, 0, 0), (33, .aload_n 2, 1, 0, 0), (34, .invokevirtual 534, 3, 57, 2), (37, .ifCond .ne 5, 3, 42, 0), (40, .iconst 0, 1, 0, 0), (41, .ireturn, 1, 0, 0), (42, .iinc 1 1, 3, 0, 0), (45, .goto (-43), 3, 2, 0), (48, .iconst 1, 1, 0, 0), (49, .ireturn, 1, 0, 0)]
def gM_62 : MethodName × ByteArray × Nat × Option FieldType × List (Nat × Nat × Nat × Nat) := (yX10_isSound, cX10_isSound, 3, (some .boolean), [])
/-- 63: StratumLedge.isThere(LStratumLedge$Cursor;I)Z -/
def gC_63 : List (Nat × gI) := [(0, .aload_n 0, 1, 0, 0), (1, .aload_n 1, 1, 0, 0), (2, .getfield 234, 3, 3, 1), (5, .iload_n 2, 1, 0, 0), (6, .aload_n 1, 1, 0, 0), (7, .getfield 238, 3, 3, 2), (10, .invokevirtual 176, 3, 49, 4), (13, .aload_n 0, 1, 0, 0), (14, .getfield 31, 3, 11, 5), (17, .getfield 246, 3, 5, 0), (20, .ireturn, 1, 0, 0)]
def gM_63 : MethodName × ByteArray × Nat × Option FieldType × List (Nat × Nat × Nat × Nat) := (yX10_isThere, cX10_isThere, 3, (some .boolean), [])
/-- 64: StratumLedge.isTouchedInMemory(LStratumLedge$Family;II)Z -/
def gC_64 : List (Nat × gI) := [(0, .iconst 0, 1, 0, 0), (1, .istore 4, 2, 0, 0), (3, .iload 4, 2, 0, 0), (5, .aload_n 0, 1, 0, 0), (6, .getfield 16, 3, 11, 1), (9, .invokevirtual 45, 3, 173, 1), (12, .if_icmp .ge 47, 3, 59, 0), (15, .aload_n 0, 1, 0, 0), (16, .getfield 16, 3, 11, 1), (19, .iload 4, 2, 0, 0), (21, .invokevirtual 135, 3, 167, 2), (24, .checkcast 93, 3, 10, 0), (27, .astore 5, 2, 0, 0), (29, .aload 5, 2, 0, 0), (31, .aload_n 1, 1, 0, 0), (32, .invokevirtual 139, 3, 153, 2), (35, .ifCond .eq 18, 3, 53, 0), (38, .aload 5, 2, 0, 0), (40, .getfield 143, 3, 10, 1), (43, .iload_n 2, 1, 0, 0), (44, .iload_n 3, 1, 0, 0), (45, .invokevirtual 147, 3, 102, 3), (48, .ifCond .eq 5, 3, 53, 0), (51, .iconst 1, 1, 0, 0), (52, .ireturn, 1, 0, 0), (53, .iinc 4 1, 3, 0, 0), (56, .goto (-53), 3, 3, 0), (59, .iconst 0, 1, 0, 0), (60, .ireturn, 1, 0, 0)]
def gM_64 : MethodName × ByteArray × Nat × Option FieldType × List (Nat × Nat × Nat × Nat) := (yX10_isTouchedInMemory, cX10_isTouchedInMemory, 6, (some .boolean), [])
/-- 65: StratumLedge.keepAt(I[Z)V -/
def gC_65 : List (Nat × gI) := [(0, .iconst 0, 1, 0, 0), (1, .istore_n 3, 1, 0, 0), (2, .iload_n 3, 1, 0, 0), (3, .aload_n 0, 1, 0, 0), (4, .getfield 35, 3, 11, 6), (7, .invokevirtual 45, 3, 173, 1), (10, .if_icmp .ge 61, 3, 71, 0), (13, .iload_n 3, 1, 0, 0), (14, .aload_n 2, 1, 0, 0), (15, .arraylength, 1, 0, 0), (16, .if_icmp .ge 55, 3, 71, 0), (19, .aload_n 0, 1, 0, 0), (20, .getfield 35, 3, 11, 6), (23, .iload_n 3, 1, 0, 0), (24, .invokevirtual 135, 3, 167, 2), (27, .checkcast 95, 3, 2, 0), (30, .astore 4, 2, 0, 0), (32, .aload 4, 2, 0, 0), (34, .getfield 264, 3, 2, 1), (37, .iload_n 1, 1, 0, 0), (38, .if_icmp .gt 27, 3, 65, 0), (41, .aload 4, 2, 0, 0), (43, .getfield 376, 3, 2, 0), (46, .iconst 3, 1, 0, 0), (47, .if_icmp .ne 4, 3, 51, 0), (50, .return_, 1, 0, 0), (51, .aload_n 2, 1, 0, 0), (52, .iload_n 3, 1, 0, 0), (53, .iconst 1, 1, 0, 0), (54, .bastore, 1, 0, 0), (55, .aload 4, 2, 0, 0), (57, .getfield 376, 3, 2, 0), (60, .iconst 4, 1, 0, 0), (61, .if_icmp .eq 4, 3, 65, 0), (64, .return_, 1, 0, 0), (65, .iinc 3 1, 3, 0, 0), (68, .goto (-66), 3, 2, 0), (71, .return_, 1, 0, 0)]
def gM_65 : MethodName × ByteArray × Nat × Option FieldType × List (Nat × Nat × Nat × Nat) := (yX10_keepAt, cX10_keepAt, 5, none, [])
/-- 66: StratumLedge.keptRangesOf(LStratumLedge$Merging;)Ljava/util/ArrayList; -/
def gC_66 : List (Nat × gI) := [(0, .new 7, 3, 0, 0), (3, .dup, 1, 0, 0), (4, .invokespecial 9, 3, 160, 1), (7, .astore_n 1, 1, 0, 0), (8, .iconst 0, 1, 0, 0), (9, .istore_n 2, 1, 0, 0), (10, .iload_n 2, 1, 0, 0), (11, .aload_n 0, 1, 0, 0), (12, .getfield 417, 3, 7, 2), (15, .invokevirtual 45, 3, 173, 1), (18, .if_icmp .ge 95, 3, 113, 0), (21, .aload_n 0, 1, 0, 0), (22, .getfield 417, 3, 7, 2), (25, .iload_n 2, 1, 0, 0), (26, .invokevirtual 135, 3, 167, 2), (29, .checkcast 284, 3, 8, 0), (32, .getfield 335, 3, 8, 3), (35, .astore_n 3, 1, 0, 0), (36, .iconst 0, 1, 0, 0), (37, .istore 4, 2, 0, 0), (39, .iload 4, 2, 0, 0), (41, .aload_n 3, 1, 0, 0), (42, .invokevirtual 45, 3, 173, 1), (45, .if_icmp .ge 62, 3, 107, 0), (48, .aload_n 3, 1, 0, 0), (49, .iload 4, 2, 0, 0), (51, .invokevirtual 135, 3, 167, 2), (54, .checkcast 95, 3, 2, 0), (57, .astore 5, 2, 0, 0), (59, .aload_n 0, 1, 0, 0), (60, .getfield 424, 3, 7, 0), (63, .aload_n 0, 1, 0, 0), (64, .getfield 425, 3, 7, 1), (67, .iconst 1, 1, 0, 0), (68, .iadd, 1, 0, 0), (69, .aload 5, 2, 0, 0), (71, .getfield 383, 3, 2, 2), (74, .aload 5, 2, 0, 0), (76, .getfield 464, 3, 2, 3), (79, .invokevirtual 428, 3, 111, 4), (82, .ifCond .ne 12, 3, 94, 0), (85, .aload_n 0, 1, 0, 0), (86, .aload 5, 2, 0, 0), (88, .invokevirtual 467, 3, 133, 2), (91, .ifCond .eq 10, 3, 101, 0), (94, .aload_n 1, 1, 0, 0), (95, .aload 5, 2, 0, 0), (97, .invokevirtual 59, 3, 162, 2), (100, .pop, 1, 0, 0), (101, .iinc 4 1, 3, 0, 0), (104, .goto (-65), 3, 39, 0), (107, .iinc 2 1, 3, 0, 0), (110, .goto (-100), 3, 10, 0), (113, .aload_n 1, 1, 0, 0), (114, .areturn, 1, 0, 0)]
def gM_66 : MethodName × ByteArray × Nat × Option FieldType × List (Nat × Nat × Nat × Nat) := (yX10_keptRangesOf, cX10_keptRangesOf, 6, (some (.object "java/util/ArrayList")), [])
/-- 67: StratumLedge.lastNumber()I -/
def gC_67 : List (Nat × gI) := [(0, .aload_n 0, 1, 0, 0), (1, .getfield 16, 3, 11, 1), (4, .invokevirtual 45, 3, 173, 1), (7, .ireturn, 1, 0, 0)]
def gM_67 : MethodName × ByteArray × Nat × Option FieldType × List (Nat × Nat × Nat × Nat) := (yX10_lastNumber, cX10_lastNumber, 1, (some .int), [])
/-- 68: StratumLedge.levelAt(II)LStratumLedge$Level; -/
def gC_68 : List (Nat × gI) := [(0, .aload_n 0, 1, 0, 0), (1, .iload_n 1, 1, 0, 0), (2, .invokevirtual 71, 3, 47, 2), (5, .astore_n 3, 1, 0, 0), (6, .iload_n 2, 1, 0, 0), (7, .ifCond .lt 8, 3, 15, 0), (10, .iload_n 2, 1, 0, 0), (11, .iconst 4, 1, 0, 0), (12, .if_icmp .lt 14, 3, 26, 0), (15, .new 195, 3, 1000, 3), (18, .dup, 1, 0, 0), (19, .ldc_w 548, 3, 999, 0), (22, .invokespecial 199, 3, 999, 0), (25, .athrow, 1, 0, 0), (26, .aload_n 3, 1, 0, 0), (27, .iload_n 2, 1, 0, 0), (28, .invokevirtual 107, 3, 108, 2), (31, .areturn, 1, 0, 0)]
def gM_68 : MethodName × ByteArray × Nat × Option FieldType × List (Nat × Nat × Nat × Nat) := (yX10_levelAt, cX10_levelAt, 4, (some (.object "StratumLedge$Level")), [])
/-- 69: StratumLedge.levelFor(LStratumLedge$Family;II)I -/
def gC_69 : List (Nat × gI) := [(0, .iconst 0, 1, 0, 0), (1, .istore 4, 2, 0, 0), (3, .iconst 0, 1, 0, 0), (4, .istore 5, 2, 0, 0), (6, .iload 5, 2, 0, 0), (8, .iconst 4, 1, 0, 0), (9, .if_icmp .ge 25, 3, 34, 0), (12, .aload_n 0, 1, 0, 0), (13, .aload_n 1, 1, 0, 0), (14, .iload 5, 2, 0, 0), (16, .iload_n 2, 1, 0, 0), (17, .iload_n 3, 1, 0, 0), (18, .invokevirtual 151, 3, 59, 5), (21, .ifCond .eq 13, 3, 34, 0), (24, .iload 5, 2, 0, 0), (26, .istore 4, 2, 0, 0), (28, .iinc 5 1, 3, 0, 0), (31, .goto (-25), 3, 6, 0), (34, .iload 4, 2, 0, 0), (36, .ireturn, 1, 0, 0)]
def gM_69 : MethodName × ByteArray × Nat × Option FieldType × List (Nat × Nat × Nat × Nat) := (yX10_levelFor, cX10_levelFor, 6, (some .int), [])
/-- 70: StratumLedge.log()I -/
def gC_70 : List (Nat × gI) := [(0, .iconst 0, 1, 0, 0), (1, .istore_n 1, 1, 0, 0), (2, .iconst 0, 1, 0, 0), (3, .istore_n 2, 1, 0, 0), (4, .iconst 0, 1, 0, 0), (5, .istore_n 3, 1, 0, 0), (6, .iload_n 3, 1, 0, 0), (7, .aload_n 0, 1, 0, 0), (8, .getfield 16, 3, 11, 1), (11, .invokevirtual 45, 3, 173, 1), (14, .if_icmp .ge 63, 3, 77, 0), (17, .aload_n 0, 1, 0, 0), (18, .getfield 16, 3, 11, 1), (21, .iload_n 3, 1, 0, 0), (22, .invokevirtual 135, 3, 167, 2), (25, .checkcast 93, 3, 10, 0), (28, .astore 4, 2, 0, 0), (30, .iload_n 2, 1, 0, 0), (31, .ifCond .ne 11, 3, 42, 0), (34, .aload 4, 2, 0, 0), (36, .invokevirtual 483, 3, 152, 1), (39, .ifCond .eq 7, 3, 46, 0), (42, .iconst 1, 1, 0, 0), (43, .goto 4, 3, 47, 0), (46, .iconst 0, 1, 0, 0), (47, .istore_n 2, 1, 0, 0), (48, .iload_n 2, 1, 0, 0), (49, .ifCond .eq 22, 3, 71, 0), (52, .aload 4, 2, 0, 0), (54, .getfield 373, 3, 10, 3), (57, .ifCond .eq 14, 3, 71, 0), (60, .aload 4, 2, 0, 0), (62, .invokevirtual 486, 3, 151, 1), (65, .ifCond .ne 6, 3, 71, 0), (68, .iinc 1 1, 3, 0, 0), (71, .iinc 3 1, 3, 0, 0), (74, .goto (-68), 3, 6, 0), (77, .iload_n 1, 1, 0, 0), (78, .ireturn, 1, 0, 0)]
def gM_70 : MethodName × ByteArray × Nat × Option FieldType × List (Nat × Nat × Nat × Nat) := (yX10_log, cX10_log, 5, (some .int), [])
/-- 71: StratumLedge.look(LStratumLedge$Family;IIZ)V -/
def gC_71 : List (Nat × gI) := [(0, .aload_n 0, 1, 0, 0), (1, .getfield 31, 3, 11, 5), (4, .invokevirtual 255, 3, 113, 1), (7, .aload_n 0, 1, 0, 0), (8, .aload_n 1, 1, 0, 0), (9, .iload_n 2, 1, 0, 0), (10, .iload_n 3, 1, 0, 0), (11, .invokevirtual 278, 3, 72, 4), (14, .iconst 0, 1, 0, 0), (15, .istore 5, 2, 0, 0), (17, .iload 5, 2, 0, 0), (19, .iconst 4, 1, 0, 0), (20, .if_icmp .ge 82, 3, 102, 0), (23, .aload_n 1, 1, 0, 0), (24, .iload 5, 2, 0, 0), (26, .invokevirtual 107, 3, 108, 2), (29, .astore 6, 2, 0, 0), (31, .iconst 0, 1, 0, 0), (32, .istore 7, 2, 0, 0), (34, .iload 7, 2, 0, 0), (36, .aload 6, 2, 0, 0), (38, .invokevirtual 127, 3, 119, 1), (41, .if_icmp .ge 55, 3, 96, 0), (44, .aload_n 0, 1, 0, 0), (45, .getfield 31, 3, 11, 5), (48, .getfield 258, 3, 5, 1), (51, .ifCond .ne 45, 3, 96, 0), (54, .aload 6, 2, 0, 0), (56, .getfield 281, 3, 6, 0), (59, .iload 7, 2, 0, 0), (61, .invokevirtual 135, 3, 167, 2), (64, .checkcast 284, 3, 8, 0), (67, .astore 8, 2, 0, 0), (69, .aload 8, 2, 0, 0), (71, .iload_n 2, 1, 0, 0), (72, .iload_n 2, 1, 0, 0), (73, .invokevirtual 286, 3, 147, 3), (76, .ifCond .eq 14, 3, 90, 0), (79, .aload_n 0, 1, 0, 0), (80, .aload_n 1, 1, 0, 0), (81, .aload 8, 2, 0, 0), (83, .iload_n 2, 1, 0, 0), (84, .iload_n 3, 1, 0, 0), (85, .iload 4, 2, 0, 0), (87, .invokevirtual 287, 3, 73, 6), (90, .iinc 7 1, 3, 0, 0), (93, .goto (-59), 3, 34, 0), (96, .iinc 5 1, 3, 0, 0), (99, .goto (-82), 3, 17, 0), (102, .return_, 1, 0, 0)]
def gM_71 : MethodName × ByteArray × Nat × Option FieldType × List (Nat × Nat × Nat × Nat) := (yX10_look, cX10_look, 9, none, [])
/-- 72: StratumLedge.lookInMemory(LStratumLedge$Family;II)V -/
def gC_72 : List (Nat × gI) := [(0, .aload_n 0, 1, 0, 0), (1, .getfield 16, 3, 11, 1), (4, .invokevirtual 45, 3, 173, 1), (7, .iconst 1, 1, 0, 0), (8, .isub, 1, 0, 0), (9, .istore 4, 2, 0, 0), (11, .iload 4, 2, 0, 0), (13, .ifCond .lt 79, 3, 92, 0), (16, .aload_n 0, 1, 0, 0), (17, .getfield 31, 3, 11, 5), (20, .getfield 258, 3, 5, 1), (23, .ifCond .ne 69, 3, 92, 0), (26, .aload_n 0, 1, 0, 0), (27, .getfield 16, 3, 11, 1), (30, .iload 4, 2, 0, 0), (32, .invokevirtual 135, 3, 167, 2), (35, .checkcast 93, 3, 10, 0), (38, .astore 5, 2, 0, 0), (40, .aload 5, 2, 0, 0), (42, .aload_n 1, 1, 0, 0), (43, .invokevirtual 139, 3, 153, 2), (46, .ifCond .eq 40, 3, 86, 0), (49, .aload 5, 2, 0, 0), (51, .getfield 143, 3, 10, 1), (54, .getfield 264, 3, 2, 1), (57, .iload_n 3, 1, 0, 0), (58, .if_icmp .gt 28, 3, 86, 0), (61, .aload 5, 2, 0, 0), (63, .iload_n 2, 1, 0, 0), (64, .invokevirtual 267, 3, 155, 2), (67, .ifCond .eq 19, 3, 86, 0), (70, .aload_n 0, 1, 0, 0), (71, .getfield 31, 3, 11, 5), (74, .aload 5, 2, 0, 0), (76, .getfield 143, 3, 10, 1), (79, .aload_n 1, 1, 0, 0), (80, .getfield 270, 3, 4, 1), (83, .invokevirtual 274, 3, 115, 3), (86, .iinc 4 (-1), 3, 0, 0), (89, .goto (-78), 3, 11, 0), (92, .return_, 1, 0, 0)]
def gM_72 : MethodName × ByteArray × Nat × Option FieldType × List (Nat × Nat × Nat × Nat) := (yX10_lookInMemory, cX10_lookInMemory, 6, none, [])
/-- 73: StratumLedge.lookInRun(LStratumLedge$Family;LStratumLedge$Run;IIZ)V -/
def gC_73 : List (Nat × gI) := [(0, .iload 5, 2, 0, 0), (2, .ifCond .eq 9, 3, 11, 0), (5, .aload_n 0, 1, 0, 0), (6, .aload_n 2, 1, 0, 0), (7, .iload_n 3, 1, 0, 0), (8, .invokevirtual 291, 3, 33, 3), (11, .aload_n 0, 1, 0, 0), (12, .getfield 35, 3, 11, 6), (15, .invokevirtual 295, 3, 164, 1), (18, .aload_n 2, 1, 0, 0), (19, .iload_n 3, 1, 0, 0), (20, .aload_n 0, 1, 0, 0), (21, .getfield 35, 3, 11, 6), (24, .invokevirtual 298, 3, 139, 3), (27, .iconst 0, 1, 0, 0), (28, .istore 6, 2, 0, 0), (30, .iload 6, 2, 0, 0), (32, .aload_n 0, 1, 0, 0), (33, .getfield 35, 3, 11, 6), (36, .invokevirtual 45, 3, 173, 1), (39, .if_icmp .ge 56, 3, 95, 0), (42, .aload_n 0, 1, 0, 0), (43, .getfield 31, 3, 11, 5), (46, .getfield 258, 3, 5, 1), (49, .ifCond .ne 46, 3, 95, 0), (52, .aload_n 0, 1, 0, 0), (53, .getfield 35, 3, 11, 6), (56, .iload 6, 2, 0, 0), (58, .invokevirtual 135, 3, 167, 2), (61, .checkcast 95, 3, 2, 0), (64, .astore 7, 2, 0, 0), (66, .aload 7, 2, 0, 0), (68, .getfield 264, 3, 2, 1), (71, .iload 4, 2, 0, 0), (73, .if_icmp .gt 16, 3, 89, 0), (76, .aload_n 0, 1, 0, 0), (77, .getfield 31, 3, 11, 5), (80, .aload 7, 2, 0, 0), (82, .aload_n 1, 1, 0, 0), (83, .getfield 270, 3, 4, 1), (86, .invokevirtual 274, 3, 115, 3), (89, .iinc 6 1, 3, 0, 0), (92, .goto (-62), 3, 30, 0), (95, .return_, 1, 0, 0)]
def gM_73 : MethodName × ByteArray × Nat × Option FieldType × List (Nat × Nat × Nat × Nat) := (yX10_lookInRun, cX10_lookInRun, 8, none, [])
/-- 74: StratumLedge.makeRun(ZLjava/util/ArrayList;Ljava/util/ArrayList;)LStratumLedge$Run; -/
def gC_74 : List (Nat × gI) := [(0, .aload_n 0, 1, 0, 0), (1, .dup, 1, 0, 0), (2, .getfield 389, 3, 11, 10), (5, .iconst 1, 1, 0, 0), (6, .iadd, 1, 0, 0), (7, .putfield 389, 3, 11, 10), (10, .new 284, 3, 8, 0), (13, .dup, 1, 0, 0), (14, .aload_n 0, 1, 0, 0), (15, .getfield 389, 3, 11, 10), (18, .iload_n 1, 1, 0, 0), (19, .aload_n 2, 1, 0, 0), (20, .aload_n 3, 1, 0, 0), (21, .invokespecial 392, 3, 136, 5), (24, .astore 4, 2, 0, 0), (26, .aload_n 0, 1, 0, 0), (27, .dup, 1, 0, 0), (28, .getfield 395, 3, 11, 11), (31, .aload 4, 2, 0, 0), (33, .invokevirtual 398, 3, 148, 1), (36, .iadd, 1, 0, 0), (37, .putfield 395, 3, 11, 11), (40, .aload 4, 2, 0, 0), (42, .areturn, 1, 0, 0)]
def gM_74 : MethodName × ByteArray × Nat × Option FieldType × List (Nat × Nat × Nat × Nat) := (yX10_makeRun, cX10_makeRun, 5, (some (.object "StratumLedge$Run")), [])
/-- 75: StratumLedge.merge(III)I -/
def gC_75 : List (Nat × gI) := [(0, .aload_n 0, 1, 0, 0), (1, .iload_n 1, 1, 0, 0), (2, .iconst 4, 1, 0, 0), (3, .iload_n 2, 1, 0, 0), (4, .iload_n 2, 1, 0, 0), (5, .iload_n 3, 1, 0, 0), (6, .invokevirtual 67, 3, 99, 6), (9, .ireturn, 1, 0, 0)]
def gM_75 : MethodName × ByteArray × Nat × Option FieldType × List (Nat × Nat × Nat × Nat) := (yX10_merge, cX10_merge, 4, (some .int), [])
/-- 76: StratumLedge.momentOf(I)I -/
def gC_76 : List (Nat × gI) := [(0, .iload_n 1, 1, 0, 0), (1, .iconst (-1), 1, 0, 0), (2, .if_icmp .ne 11, 3, 13, 0), (5, .aload_n 0, 1, 0, 0), (6, .getfield 16, 3, 11, 1), (9, .invokevirtual 45, 3, 173, 1), (12, .ireturn, 1, 0, 0), (13, .aload_n 0, 1, 0, 0), (14, .iload_n 1, 1, 0, 0), (15, .invokevirtual 192, 3, 83, 2), (18, .istore_n 2, 1, 0, 0), (19, .iload_n 2, 1, 0, 0), (20, .ifCond .lt 14, 3, 34, 0), (23, .iload_n 2, 1, 0, 0), (24, .aload_n 0, 1, 0, 0), (25, .getfield 19, 3, 11, 2), (28, .invokevirtual 45, 3, 173, 1), (31, .if_icmp .lt 13, 3, 44, 0), (34, .new 195, 3, 1000, 2), (37, .dup, 1, 0, 0), (38, .ldc 197, 2, 999, 0), (40, .invokespecial 199, 3, 999, 0), (43, .athrow, 1, 0, 0), (44, .aload_n 0, 1, 0, 0), (45, .getfield 19, 3, 11, 2), (48, .iload_n 2, 1, 0, 0), (49, .invokevirtual 135, 3, 167, 2), (52, .checkcast 182, 3, 9, 0), (55, .getfield 254, 3, 9, 1), (58, .ireturn, 1, 0, 0)]
def gM_76 : MethodName × ByteArray × Nat × Option FieldType × List (Nat × Nat × Nat × Nat) := (yX10_momentOf, cX10_momentOf, 3, (some .int), [])
/-- 77: StratumLedge.mostIndebtedLevel(LStratumLedge$Family;)I -/
def gC_77 : List (Nat × gI) := [(0, .iconst 0, 1, 0, 0), (1, .istore_n 1, 1, 0, 0), (2, .iconst 1, 1, 0, 0), (3, .istore_n 2, 1, 0, 0), (4, .iload_n 2, 1, 0, 0), (5, .iconst 4, 1, 0, 0), (6, .if_icmp .ge 33, 3, 39, 0), (9, .aload_n 0, 1, 0, 0), (10, .iload_n 2, 1, 0, 0), (11, .invokevirtual 107, 3, 108, 2), (14, .iload_n 2, 1, 0, 0), (15, .invokestatic 344, 3, 38, 2), (18, .aload_n 0, 1, 0, 0), (19, .iload_n 1, 1, 0, 0), (20, .invokevirtual 107, 3, 108, 2), (23, .iload_n 1, 1, 0, 0), (24, .invokestatic 344, 3, 38, 2), (27, .fcmp .l, 1, 0, 0), (28, .ifCond .le 5, 3, 33, 0), (31, .iload_n 2, 1, 0, 0), (32, .istore_n 1, 1, 0, 0), (33, .iinc 2 1, 3, 0, 0), (36, .goto (-32), 3, 4, 0), (39, .iload_n 1, 1, 0, 0), (40, .ireturn, 1, 0, 0)]
def gM_77 : MethodName × ByteArray × Nat × Option FieldType × List (Nat × Nat × Nat × Nat) := (yX10_mostIndebtedLevel, cX10_mostIndebtedLevel, 3, (some .int), [])
/-- 78: StratumLedge.next(I)I -/
def gC_78 : List (Nat × gI) := [(0, .aload_n 0, 1, 0, 0), (1, .iload_n 1, 1, 0, 0), (2, .invokevirtual 214, 3, 35, 2), (5, .astore_n 2, 1, 0, 0), (6, .aload_n 2, 1, 0, 0), (7, .getfield 218, 3, 3, 3), (10, .iconst 1, 1, 0, 0), (11, .iadd, 1, 0, 0), (12, .istore_n 3, 1, 0, 0), (13, .iload_n 3, 1, 0, 0), (14, .bipush 100, 2, 0, 0), (16, .if_icmp .ge 25, 3, 41, 0), (19, .aload_n 0, 1, 0, 0), (20, .aload_n 2, 1, 0, 0), (21, .iload_n 3, 1, 0, 0), (22, .invokevirtual 221, 3, 63, 3), (25, .ifCond .eq 10, 3, 35, 0), (28, .aload_n 2, 1, 0, 0), (29, .iload_n 3, 1, 0, 0), (30, .putfield 218, 3, 3, 3), (33, .iload_n 3, 1, 0, 0), (34, .ireturn, 1, 0, 0), (35, .iinc 3 1, 3, 0, 0), (38, .goto (-25), 3, 13, 0), (41, .aload_n 2, 1, 0, 0), (42, .bipush 100, 2, 0, 0), (44, .putfield 218, 3, 3, 3), (47, .iconst (-1), 1, 0, 0), (48, .ireturn, 1, 0, 0)]
def gM_78 : MethodName × ByteArray × Nat × Option FieldType × List (Nat × Nat × Nat × Nat) := (yX10_next, cX10_next, 4, (some .int), [])
/-- 79: StratumLedge.open(II)I -/
def gC_79 : List (Nat × gI) := [(0, .aload_n 0, 1, 0, 0), (1, .iload_n 1, 1, 0, 0), (2, .invokevirtual 71, 3, 47, 2), (5, .astore_n 3, 1, 0, 0), (6, .aload_n 0, 1, 0, 0), (7, .iload_n 2, 1, 0, 0), (8, .invokevirtual 165, 3, 76, 2), (11, .istore 4, 2, 0, 0), (13, .aload_n 0, 1, 0, 0), (14, .getfield 22, 3, 11, 3), (17, .invokevirtual 45, 3, 173, 1), (20, .iconst 4, 1, 0, 0), (21, .if_icmp .lt 13, 3, 34, 0), (24, .new 49, 3, 1002, 2), (27, .dup, 1, 0, 0), (28, .ldc 203, 2, 999, 0), (30, .invokespecial 53, 3, 999, 0), (33, .athrow, 1, 0, 0), (34, .new 205, 3, 3, 0), (37, .dup, 1, 0, 0), (38, .aload_n 0, 1, 0, 0), (39, .getfield 207, 3, 11, 9), (42, .aload_n 3, 1, 0, 0), (43, .iload 4, 2, 0, 0), (45, .invokespecial 210, 3, 103, 4), (48, .astore 5, 2, 0, 0), (50, .aload_n 0, 1, 0, 0), (51, .dup, 1, 0, 0), (52, .getfield 207, 3, 11, 9), (55, .iconst 1, 1, 0, 0), (56, .iadd, 1, 0, 0), (57, .putfield 207, 3, 11, 9), (60, .aload_n 0, 1, 0, 0), (61, .getfield 22, 3, 11, 3), (64, .aload 5, 2, 0, 0), (66, .invokevirtual 59, 3, 162, 2), (69, .pop, 1, 0, 0), (70, .aload 5, 2, 0, 0), (72, .getfield 213, 3, 3, 0), (75, .ireturn, 1, 0, 0)]
def gM_79 : MethodName × ByteArray × Nat × Option FieldType × List (Nat × Nat × Nat × Nat) := (yX10_open, cX10_open, 6, (some .int), [])
/-- 80: StratumLedge.partsOf(Ljava/util/ArrayList;II)Ljava/util/ArrayList; -/
def gC_80 : List (Nat × gI) := [(0, .new 7, 3, 0, 0), (3, .dup, 1, 0, 0), (4, .invokespecial 9, 3, 160, 1), (7, .astore_n 3, 1, 0, 0), (8, .iconst 0, 1, 0, 0), (9, .istore 4, 2, 0, 0), (11, .iload 4, 2, 0, 0), (13, .aload_n 0, 1, 0, 0), (14, .invokevirtual 45, 3, 173, 1), (17, .if_icmp .ge 67, 3, 84, 0), (20, .aload_n 0, 1, 0, 0), (21, .iload 4, 2, 0, 0), (23, .invokevirtual 135, 3, 167, 2), (26, .checkcast 95, 3, 2, 0), (29, .astore 5, 2, 0, 0), (31, .aload 5, 2, 0, 0), (33, .iload_n 1, 1, 0, 0), (34, .iload_n 2, 1, 0, 0), (35, .invokevirtual 147, 3, 102, 3), (38, .ifCond .eq 40, 3, 78, 0), (41, .aload_n 3, 1, 0, 0), (42, .new 95, 3, 2, 0), (45, .dup, 1, 0, 0), (46, .iconst 3, 1, 0, 0), (47, .aload 5, 2, 0, 0), (49, .getfield 264, 3, 2, 1), (52, .aload 5, 2, 0, 0), (54, .getfield 383, 3, 2, 2), (57, .iload_n 1, 1, 0, 0), (58, .invokestatic 471, 3, 156, 2), (61, .aload 5, 2, 0, 0), (63, .getfield 464, 3, 2, 3), (66, .iload_n 2, 1, 0, 0), (67, .invokestatic 477, 3, 157, 2), (70, .iconst 0, 1, 0, 0), (71, .invokespecial 97, 3, 101, 6), (74, .invokevirtual 59, 3, 162, 2), (77, .pop, 1, 0, 0), (78, .iinc 4 1, 3, 0, 0), (81, .goto (-70), 3, 11, 0), (84, .aload_n 3, 1, 0, 0), (85, .areturn, 1, 0, 0)]
def gM_80 : MethodName × ByteArray × Nat × Option FieldType × List (Nat × Nat × Nat × Nat) := (yX10_partsOf, cX10_partsOf, 6, (some (.object "java/util/ArrayList")), [])
/-- 81: StratumLedge.passes(IIII)Z -/
def gC_81 : List (Nat × gI) := [(0, .aload_n 0, 1, 0, 0), (1, .iload_n 1, 1, 0, 0), (2, .iload_n 2, 1, 0, 0), (3, .iload_n 3, 1, 0, 0), (4, .invokevirtual 330, 3, 89, 4), (7, .astore 5, 2, 0, 0), (9, .iload 4, 2, 0, 0), (11, .iload 4, 2, 0, 0), (13, .invokestatic 75, 3, 29, 2), (16, .aload 5, 2, 0, 0), (18, .iload 4, 2, 0, 0), (20, .invokevirtual 312, 3, 144, 2), (23, .ireturn, 1, 0, 0)]
def gM_81 : MethodName × ByteArray × Nat × Option FieldType × List (Nat × Nat × Nat × Nat) := (yX10_passes, cX10_passes, 6, (some .boolean), [])
/-- 82: StratumLedge.placeOfCursor(I)I -/
def gC_82 : List (Nat × gI) := [(0, .iconst 0, 1, 0, 0), (1, .istore_n 2, 1, 0, 0), (2, .iload_n 2, 1, 0, 0), (3, .aload_n 0, 1, 0, 0), (4, .getfield 22, 3, 11, 3), (7, .invokevirtual 45, 3, 173, 1), (10, .if_icmp .ge 29, 3, 39, 0), (13, .aload_n 0, 1, 0, 0), (14, .getfield 22, 3, 11, 3), (17, .iload_n 2, 1, 0, 0), (18, .invokevirtual 135, 3, 167, 2), (21, .checkcast 205, 3, 3, 0), (24, .getfield 213, 3, 3, 0), (27, .iload_n 1, 1, 0, 0), (28, .if_icmp .ne 5, 3, 33, 0), (31, .iload_n 2, 1, 0, 0), (32, .ireturn, 1, 0, 0), (33, .iinc 2 1, 3, 0, 0), (36, .goto (-34), 3, 2, 0), (39, .iconst (-1), 1, 0, 0), (40, .ireturn, 1, 0, 0)]
def gM_82 : MethodName × ByteArray × Nat × Option FieldType × List (Nat × Nat × Nat × Nat) := (yX10_placeOfCursor, cX10_placeOfCursor, 3, (some .int), [])
/-- 83: StratumLedge.placeOfSnapshot(I)I -/
def gC_83 : List (Nat × gI) := [(0, .iconst 0, 1, 0, 0), (1, .istore_n 2, 1, 0, 0), (2, .iload_n 2, 1, 0, 0), (3, .aload_n 0, 1, 0, 0), (4, .getfield 19, 3, 11, 2), (7, .invokevirtual 45, 3, 173, 1), (10, .if_icmp .ge 29, 3, 39, 0), (13, .aload_n 0, 1, 0, 0), (14, .getfield 19, 3, 11, 2), (17, .iload_n 2, 1, 0, 0), (18, .invokevirtual 135, 3, 167, 2), (21, .checkcast 182, 3, 9, 0), (24, .getfield 189, 3, 9, 0), (27, .iload_n 1, 1, 0, 0), (28, .if_icmp .ne 5, 3, 33, 0), (31, .iload_n 2, 1, 0, 0), (32, .ireturn, 1, 0, 0), (33, .iinc 2 1, 3, 0, 0), (36, .goto (-34), 3, 2, 0), (39, .iconst (-1), 1, 0, 0), (40, .ireturn, 1, 0, 0)]
def gM_83 : MethodName × ByteArray × Nat × Option FieldType × List (Nat × Nat × Nat × Nat) := (yX10_placeOfSnapshot, cX10_placeOfSnapshot, 3, (some .int), [])
/-- 84: StratumLedge.previous(I)I -/
def gC_84 : List (Nat × gI) := [(0, .aload_n 0, 1, 0, 0), (1, .iload_n 1, 1, 0, 0), (2, .invokevirtual 214, 3, 35, 2), (5, .astore_n 2, 1, 0, 0), (6, .aload_n 2, 1, 0, 0), (7, .getfield 218, 3, 3, 3), (10, .iconst 1, 1, 0, 0), (11, .isub, 1, 0, 0), (12, .istore_n 3, 1, 0, 0), (13, .iload_n 3, 1, 0, 0), (14, .ifCond .lt 25, 3, 39, 0), (17, .aload_n 0, 1, 0, 0), (18, .aload_n 2, 1, 0, 0), (19, .iload_n 3, 1, 0, 0), (20, .invokevirtual 221, 3, 63, 3), (23, .ifCond .eq 10, 3, 33, 0), (26, .aload_n 2, 1, 0, 0), (27, .iload_n 3, 1, 0, 0), (28, .putfield 218, 3, 3, 3), (31, .iload_n 3, 1, 0, 0), (32, .ireturn, 1, 0, 0), (33, .iinc 3 (-1), 3, 0, 0), (36, .goto (-23), 3, 13, 0), (39, .aload_n 2, 1, 0, 0), (40, .iconst (-1), 1, 0, 0), (41, .putfield 218, 3, 3, 3), (44, .iconst (-1), 1, 0, 0), (45, .ireturn, 1, 0, 0)]
def gM_84 : MethodName × ByteArray × Nat × Option FieldType × List (Nat × Nat × Nat × Nat) := (yX10_previous, cX10_previous, 4, (some .int), [])
/-- 85: StratumLedge.put(III)I -/
def gC_85 : List (Nat × gI) := [(0, .aload_n 0, 1, 0, 0), (1, .iload_n 1, 1, 0, 0), (2, .iconst 1, 1, 0, 0), (3, .iload_n 2, 1, 0, 0), (4, .iload_n 2, 1, 0, 0), (5, .iload_n 3, 1, 0, 0), (6, .invokevirtual 67, 3, 99, 6), (9, .ireturn, 1, 0, 0)]
def gM_85 : MethodName × ByteArray × Nat × Option FieldType × List (Nat × Nat × Nat × Nat) := (yX10_put, cX10_put, 4, (some .int), [])
/-- 86: StratumLedge.ranges(III)I -/
def gC_86 : List (Nat × gI) := [(0, .aload_n 0, 1, 0, 0), (1, .iload_n 1, 1, 0, 0), (2, .iload_n 2, 1, 0, 0), (3, .iload_n 3, 1, 0, 0), (4, .invokevirtual 330, 3, 89, 4), (7, .getfield 335, 3, 8, 3), (10, .invokevirtual 45, 3, 173, 1), (13, .ireturn, 1, 0, 0)]
def gM_86 : MethodName × ByteArray × Nat × Option FieldType × List (Nat × Nat × Nat × Nat) := (yX10_ranges, cX10_ranges, 4, (some .int), [])
/-- 87: StratumLedge.release(I)I -/
def gC_87 : List (Nat × gI) := [(0, .aload_n 0, 1, 0, 0), (1, .iload_n 1, 1, 0, 0), (2, .invokevirtual 192, 3, 83, 2), (5, .istore_n 2, 1, 0, 0), (6, .iload_n 2, 1, 0, 0), (7, .ifCond .lt 14, 3, 21, 0), (10, .iload_n 2, 1, 0, 0), (11, .aload_n 0, 1, 0, 0), (12, .getfield 19, 3, 11, 2), (15, .invokevirtual 45, 3, 173, 1), (18, .if_icmp .lt 13, 3, 31, 0), (21, .new 195, 3, 1000, 2), (24, .dup, 1, 0, 0), (25, .ldc 197, 2, 999, 0), (27, .invokespecial 199, 3, 999, 0), (30, .athrow, 1, 0, 0), (31, .aload_n 0, 1, 0, 0), (32, .getfield 19, 3, 11, 2), (35, .iload_n 2, 1, 0, 0), (36, .invokevirtual 200, 3, 172, 2), (39, .pop, 1, 0, 0), (40, .aload_n 0, 1, 0, 0), (41, .getfield 19, 3, 11, 2), (44, .invokevirtual 45, 3, 173, 1), (47, .ireturn, 1, 0, 0)]
def gM_87 : MethodName × ByteArray × Nat × Option FieldType × List (Nat × Nat × Nat × Nat) := (yX10_release, cX10_release, 3, (some .int), [])
/-- 88: StratumLedge.restore(I)I -/
def gC_88 : List (Nat × gI) := [(0, .aload_n 0, 1, 0, 0), (1, .iload_n 1, 1, 0, 0), (2, .invokevirtual 499, 3, 24, 2), (5, .astore_n 2, 1, 0, 0), (6, .iconst 0, 1, 0, 0), (7, .istore_n 3, 1, 0, 0), (8, .iconst 0, 1, 0, 0), (9, .istore 4, 2, 0, 0), (11, .iload 4, 2, 0, 0), (13, .aload_n 0, 1, 0, 0), (14, .getfield 10, 3, 11, 0), (17, .invokevirtual 45, 3, 173, 1), (20, .if_icmp .ge 85, 3, 105, 0), (23, .aload_n 0, 1, 0, 0), (24, .getfield 10, 3, 11, 0), (27, .iload 4, 2, 0, 0), (29, .invokevirtual 135, 3, 167, 2), (32, .checkcast 54, 3, 4, 0), (35, .astore 5, 2, 0, 0), (37, .iload 4, 2, 0, 0), (39, .aload_n 2, 1, 0, 0), (40, .getfield 503, 3, 1, 0), (43, .invokevirtual 45, 3, 173, 1), (46, .if_icmp .ge 23, 3, 69, 0), (49, .aload 5, 2, 0, 0), (51, .aload_n 2, 1, 0, 0), (52, .getfield 503, 3, 1, 0), (55, .iload 4, 2, 0, 0), (57, .invokevirtual 135, 3, 167, 2), (60, .checkcast 54, 3, 4, 0), (63, .invokevirtual 504, 3, 105, 2), (66, .goto 25, 3, 91, 0), (69, .aload 5, 2, 0, 0), (71, .new 54, 3, 4, 0), (74, .dup, 1, 0, 0), (75, .aload 5, 2, 0, 0), (77, .getfield 63, 3, 4, 0), (80, .aload 5, 2, 0, 0), (82, .getfield 270, 3, 4, 1), (85, .invokespecial 56, 3, 104, 3), (88, .invokevirtual 504, 3, 105, 2), (91, .iload_n 3, 1, 0, 0), (92, .aload 5, 2, 0, 0), (94, .invokevirtual 507, 3, 106, 1), (97, .iadd, 1, 0, 0), (98, .istore_n 3, 1, 0, 0), (99, .iinc 4 1, 3, 0, 0), (102, .goto (-91), 3, 11, 0), (105, .iconst 0, 1, 0, 0), (106, .istore 4, 2, 0, 0), (108, .iload 4, 2, 0, 0), (110, .aload_n 0, 1, 0, 0), (111, .getfield 16, 3, 11, 1), (114, .invokevirtual 45, 3, 173, 1), (117, .if_icmp .ge 45, 3, 162, 0), (120, .aload_n 0, 1, 0, 0), (121, .getfield 16, 3, 11, 1), (124, .iload 4, 2, 0, 0), (126, .invokevirtual 135, 3, 167, 2), (129, .checkcast 93, 3, 10, 0), (132, .iload 4, 2, 0, 0), (134, .aload_n 2, 1, 0, 0), (135, .getfield 510, 3, 1, 1), (138, .arraylength, 1, 0, 0), (139, .if_icmp .ge 13, 3, 152, 0), (142, .aload_n 2, 1, 0, 0), (143, .getfield 510, 3, 1, 1), (146, .iload 4, 2, 0, 0), (148, .iaload, 1, 0, 0), (149, .goto 4, 3, 153, 0), (152, .iconst 0, 1, 0, 0), (153, .putfield 373, 3, 10, 3), (156, .iinc 4 1, 3, 0, 0), (159, .goto (-51), 3, 108, 0), (162, .aload_n 0, 1, 0, 0), (163, .invokevirtual 489, 3, 53, 1), (166, .aload_n 0, 1, 0, 0), (167, .dup, 1, 0, 0), (168, .getfield 121, 3, 11, 12), (171, .iconst 1, 1, 0, 0), (172, .iadd, 1, 0, 0), (173, .putfield 121, 3, 11, 12), (176, .iload_n 3, 1, 0, 0), (177, .ireturn, 1, 0, 0)]
def gM_88 : MethodName × ByteArray × Nat × Option FieldType × List (Nat × Nat × Nat × Nat) := (yX10_restore, cX10_restore, 6, (some .int), [])
/-- 89: StratumLedge.runAt(III)LStratumLedge$Run; -/
def gC_89 : List (Nat × gI) := [(0, .aload_n 0, 1, 0, 0), (1, .iload_n 1, 1, 0, 0), (2, .iload_n 2, 1, 0, 0), (3, .invokevirtual 326, 3, 68, 3), (6, .astore 4, 2, 0, 0), (8, .iload_n 3, 1, 0, 0), (9, .ifCond .lt 12, 3, 21, 0), (12, .iload_n 3, 1, 0, 0), (13, .aload 4, 2, 0, 0), (15, .invokevirtual 127, 3, 119, 1), (18, .if_icmp .lt 14, 3, 32, 0), (21, .new 195, 3, 1000, 3), (24, .dup, 1, 0, 0), (25, .ldc_w 550, 3, 999, 0), (28, .invokespecial 199, 3, 999, 0), (31, .athrow, 1, 0, 0), (32, .aload 4, 2, 0, 0), (34, .getfield 281, 3, 6, 0), (37, .iload_n 3, 1, 0, 0), (38, .invokevirtual 135, 3, 167, 2), (41, .checkcast 284, 3, 8, 0), (44, .areturn, 1, 0, 0)]
def gM_89 : MethodName × ByteArray × Nat × Option FieldType × List (Nat × Nat × Nat × Nat) := (yX10_runAt, cX10_runAt, 5, (some (.object "StratumLedge$Run")), [])
/-- 90: StratumLedge.runs(II)I -/
def gC_90 : List (Nat × gI) := [(0, .aload_n 0, 1, 0, 0), (1, .iload_n 1, 1, 0, 0), (2, .iload_n 2, 1, 0, 0), (3, .invokevirtual 326, 3, 68, 3), (6, .invokevirtual 127, 3, 119, 1), (9, .ireturn, 1, 0, 0)]
def gM_90 : MethodName × ByteArray × Nat × Option FieldType × List (Nat × Nat × Nat × Nat) := (yX10_runs, cX10_runs, 3, (some .int), [])
/-- 91: StratumLedge.shared(II)I -/
def gC_91 : List (Nat × gI) := [(0, .aload_n 0, 1, 0, 0), (1, .iload_n 1, 1, 0, 0), (2, .invokevirtual 499, 3, 24, 2), (5, .astore_n 3, 1, 0, 0), (6, .aload_n 0, 1, 0, 0), (7, .iload_n 2, 1, 0, 0), (8, .invokevirtual 499, 3, 24, 2), (11, .astore 4, 2, 0, 0), (13, .iconst 0, 1, 0, 0), (14, .istore 5, 2, 0, 0), (16, .iconst 0, 1, 0, 0), (17, .istore 6, 2, 0, 0), (19, .iload 6, 2, 0, 0), (21, .aload_n 3, 1, 0, 0), (22, .getfield 503, 3, 1, 0), (25, .invokevirtual 45, 3, 173, 1), (28, .if_icmp .ge 55, 3, 83, 0), (31, .iload 6, 2, 0, 0), (33, .aload 4, 2, 0, 0), (35, .getfield 503, 3, 1, 0), (38, .invokevirtual 45, 3, 173, 1), (41, .if_icmp .ge 42, 3, 83, 0), (44, .iload 5, 2, 0, 0), (46, .aload_n 3, 1, 0, 0), (47, .getfield 503, 3, 1, 0), (50, .iload 6, 2, 0, 0), (52, .invokevirtual 135, 3, 167, 2), (55, .checkcast 54, 3, 4, 0), (58, .aload 4, 2, 0, 0), (60, .getfield 503, 3, 1, 0), (63, .iload 6, 2, 0, 0), (65, .invokevirtual 135, 3, 167, 2), (68, .checkcast 54, 3, 4, 0), (71, .invokevirtual 514, 3, 107, 2), (74, .iadd, 1, 0, 0), (75, .istore 5, 2, 0, 0), (77, .iinc 6 1, 3, 0, 0), (80, .goto (-61), 3, 19, 0), (83, .iload 5, 2, 0, 0), (85, .ireturn, 1, 0, 0)]
def gM_91 : MethodName × ByteArray × Nat × Option FieldType × List (Nat × Nat × Nat × Nat) := (yX10_shared, cX10_shared, 7, (some .int), [])
/-- 92: StratumLedge.sift(LStratumLedge$Merging;)V -/
def gC_92 : List (Nat × gI) := [(0, .aload_n 0, 1, 0, 0), (1, .getfield 35, 3, 11, 6), (4, .invokevirtual 295, 3, 164, 1), (7, .iconst 0, 1, 0, 0), (8, .istore_n 2, 1, 0, 0), (9, .iload_n 2, 1, 0, 0), (10, .aload_n 1, 1, 0, 0), (11, .getfield 417, 3, 7, 2), (14, .invokevirtual 45, 3, 173, 1), (17, .if_icmp .ge 31, 3, 48, 0), (20, .aload_n 1, 1, 0, 0), (21, .getfield 417, 3, 7, 2), (24, .iload_n 2, 1, 0, 0), (25, .invokevirtual 135, 3, 167, 2), (28, .checkcast 284, 3, 8, 0), (31, .aload_n 1, 1, 0, 0), (32, .getfield 408, 3, 7, 5), (35, .aload_n 0, 1, 0, 0), (36, .getfield 35, 3, 11, 6), (39, .invokevirtual 298, 3, 139, 3), (42, .iinc 2 1, 3, 0, 0), (45, .goto (-36), 3, 9, 0), (48, .aload_n 0, 1, 0, 0), (49, .getfield 35, 3, 11, 6), (52, .invokevirtual 45, 3, 173, 1), (55, .newarray .boolean, 2, 0, 0), (57, .astore_n 2, 1, 0, 0), (58, .aload_n 0, 1, 0, 0), (59, .aload_n 0, 1, 0, 0), (60, .getfield 16, 3, 11, 1), (63, .invokevirtual 45, 3, 173, 1), (66, .aload_n 2, 1, 0, 0), (67, .invokevirtual 420, 3, 65, 3), (70, .iconst 0, 1, 0, 0), (71, .istore_n 3, 1, 0, 0), (72, .iload_n 3, 1, 0, 0), (73, .aload_n 0, 1, 0, 0), (74, .getfield 19, 3, 11, 2), (77, .invokevirtual 45, 3, 173, 1), (80, .if_icmp .ge 28, 3, 108, 0), (83, .aload_n 0, 1, 0, 0), (84, .aload_n 0, 1, 0, 0), (85, .getfield 19, 3, 11, 2), (88, .iload_n 3, 1, 0, 0), (89, .invokevirtual 135, 3, 167, 2), (92, .checkcast 182, 3, 9, 0), (95, .getfield 254, 3, 9, 1), (98, .aload_n 2, 1, 0, 0), (99, .invokevirtual 420, 3, 65, 3), (102, .iinc 3 1, 3, 0, 0), (105, .goto (-33), 3, 72, 0), (108, .iconst 0, 1, 0, 0), (109, .istore_n 3, 1, 0, 0), (110, .iload_n 3, 1, 0, 0), (111, .aload_n 0, 1, 0, 0), (112, .getfield 22, 3, 11, 3), (115, .invokevirtual 45, 3, 173, 1), (118, .if_icmp .ge 28, 3, 146, 0), (121, .aload_n 0, 1, 0, 0), (122, .aload_n 0, 1, 0, 0), (123, .getfield 22, 3, 11, 3), (126, .iload_n 3, 1, 0, 0), (127, .invokevirtual 135, 3, 167, 2), (130, .checkcast 205, 3, 3, 0), (133, .getfield 238, 3, 3, 2), (136, .aload_n 2, 1, 0, 0), (137, .invokevirtual 420, 3, 65, 3), (140, .iinc 3 1, 3, 0, 0), (143, .goto (-33), 3, 110, 0), (146, .aload_n 1, 1, 0, 0), (147, .getfield 424, 3, 7, 0), (150, .aload_n 1, 1, 0, 0), (151, .getfield 425, 3, 7, 1), (154, .iconst 1, 1, 0, 0), (155, .iadd, 1, 0, 0), (156, .aload_n 1, 1, 0, 0), (157, .getfield 408, 3, 7, 5), (160, .aload_n 1, 1, 0, 0), (161, .getfield 408, 3, 7, 5), (164, .invokevirtual 428, 3, 111, 4), (167, .ifCond .ne 8, 3, 175, 0), (170, .aload_n 0, 1, 0, 0), (171, .aload_n 2, 1, 0, 0), (172, .invokevirtual 432, 3, 42, 2), (175, .iconst 0, 1, 0, 0), (176, .istore_n 3, 1, 0, 0), (177, .iload_n 3, 1, 0, 0), (178, .aload_n 0, 1, 0, 0), (179, .getfield 35, 3, 11, 6), (182, .invokevirtual 45, 3, 173, 1), (185, .if_icmp .ge 66, 3, 251, 0), (188, .iload_n 3, 1, 0, 0), (189, .aload_n 2, 1, 0, 0), (190, .arraylength, 1, 0, 0), (191, .if_icmp .ge 60, 3, 251, 0), (194, .aload_n 0, 1, 0, 0), (195, .getfield 35, 3, 11, 6), (198, .iload_n 3, 1, 0, 0), (199, .invokevirtual 135, 3, 167, 2), (202, .checkcast 95, 3, 2, 0), (205, .astore 4, 2, 0, 0), (207, .aload_n 2, 1, 0, 0), (208, .iload_n 3, 1, 0, 0), (209, .baload, 1, 0, 0), (210, .ifCond .eq 16, 3, 226, 0), (213, .aload_n 1, 1, 0, 0), (214, .getfield 436, 3, 7, 3), (217, .aload 4, 2, 0, 0), (219, .invokevirtual 59, 3, 162, 2), (222, .pop, 1, 0, 0), (223, .goto 22, 3, 245, 0), (226, .aload 4, 2, 0, 0), (228, .getfield 376, 3, 2, 0), (231, .iconst 3, 1, 0, 0), (232, .if_icmp .eq 13, 3, 245, 0), (235, .aload_n 0, 1, 0, 0), (236, .dup, 1, 0, 0), (237, .getfield 439, 3, 11, 17), (240, .iconst 1, 1, 0, 0), (241, .iadd, 1, 0, 0), (242, .putfield 439, 3, 11, 17), (245, .iinc 3 1, 3, 0, 0), (248, .goto (-71), 3, 177, 0), (251, .return_, 1, 0, 0)]
def gM_92 : MethodName × ByteArray × Nat × Option FieldType × List (Nat × Nat × Nat × Nat) := (yX10_sift, cX10_sift, 5, none, [])
/-- 93: StratumLedge.snapshot()I -/
def gC_93 : List (Nat × gI) := [(0, .aload_n 0, 1, 0, 0), (1, .getfield 19, 3, 11, 2), (4, .invokevirtual 45, 3, 173, 1), (7, .bipush 6, 2, 0, 0), (9, .if_icmp .lt 13, 3, 22, 0), (12, .new 49, 3, 1002, 2), (15, .dup, 1, 0, 0), (16, .ldc 180, 2, 999, 0), (18, .invokespecial 53, 3, 999, 0), (21, .athrow, 1, 0, 0), (22, .new 182, 3, 9, 0), (25, .dup, 1, 0, 0), (26, .aload_n 0, 1, 0, 0), (27, .getfield 184, 3, 11, 8), (30, .aload_n 0, 1, 0, 0), (31, .getfield 16, 3, 11, 1), (34, .invokevirtual 45, 3, 173, 1), (37, .invokespecial 187, 3, 149, 3), (40, .astore_n 1, 1, 0, 0), (41, .aload_n 0, 1, 0, 0), (42, .dup, 1, 0, 0), (43, .getfield 184, 3, 11, 8), (46, .iconst 1, 1, 0, 0), (47, .iadd, 1, 0, 0), (48, .putfield 184, 3, 11, 8), (51, .aload_n 0, 1, 0, 0), (52, .getfield 19, 3, 11, 2), (55, .aload_n 1, 1, 0, 0), (56, .invokevirtual 59, 3, 162, 2), (59, .pop, 1, 0, 0), (60, .aload_n 1, 1, 0, 0), (61, .getfield 189, 3, 9, 0), (64, .ireturn, 1, 0, 0)]
def gM_93 : MethodName × ByteArray × Nat × Option FieldType × List (Nat × Nat × Nat × Nat) := (yX10_snapshot, cX10_snapshot, 2, (some .int), [])
/-- 94: StratumLedge.stop()I -/
def gC_94 : List (Nat × gI) := [(0, .aload_n 0, 1, 0, 0), (1, .getfield 156, 3, 11, 7), (4, .astore_n 1, 1, 0, 0), (5, .aload_n 1, 1, 0, 0), (6, .ifnonnull 14, 3, 20, 0), (9, .new 49, 3, 1002, 3), (12, .dup, 1, 0, 0), (13, .ldc_w 364, 3, 999, 0), (16, .invokespecial 53, 3, 999, 0), (19, .athrow, 1, 0, 0), (20, .aload_n 0, 1, 0, 0), (21, .aconst_null, 1, 0, 0), (22, .putfield 156, 3, 11, 7), (25, .aload_n 1, 1, 0, 0), (26, .getfield 370, 3, 7, 6), (29, .ireturn, 1, 0, 0)]
def gM_94 : MethodName × ByteArray × Nat × Option FieldType × List (Nat × Nat × Nat × Nat) := (yX10_stop, cX10_stop, 2, (some .int), [])
/-- 95: StratumLedge.sync()I -/
def gC_95 : List (Nat × gI) := [(0, .iconst 0, 1, 0, 0), (1, .istore_n 1, 1, 0, 0), (2, .iconst 0, 1, 0, 0), (3, .istore_n 2, 1, 0, 0), (4, .iload_n 2, 1, 0, 0), (5, .aload_n 0, 1, 0, 0), (6, .getfield 16, 3, 11, 1), (9, .invokevirtual 45, 3, 173, 1), (12, .if_icmp .ge 37, 3, 49, 0), (15, .aload_n 0, 1, 0, 0), (16, .getfield 16, 3, 11, 1), (19, .iload_n 2, 1, 0, 0), (20, .invokevirtual 135, 3, 167, 2), (23, .checkcast 93, 3, 10, 0), (26, .astore_n 3, 1, 0, 0), (27, .aload_n 3, 1, 0, 0), (28, .getfield 373, 3, 10, 3), (31, .iconst 1, 1, 0, 0), (32, .if_icmp .ne 11, 3, 43, 0), (35, .aload_n 3, 1, 0, 0), (36, .iconst 2, 1, 0, 0), (37, .putfield 373, 3, 10, 3), (40, .iinc 1 1, 3, 0, 0), (43, .iinc 2 1, 3, 0, 0), (46, .goto (-42), 3, 4, 0), (49, .iload_n 1, 1, 0, 0), (50, .ireturn, 1, 0, 0)]
def gM_95 : MethodName × ByteArray × Nat × Option FieldType × List (Nat × Nat × Nat × Nat) := (yX10_sync, cX10_sync, 4, (some .int), [])
/-- 96: StratumLedge.value(I)I -/
def gC_96 : List (Nat × gI) := [(0, .aload_n 0, 1, 0, 0), (1, .iload_n 1, 1, 0, 0), (2, .invokevirtual 214, 3, 35, 2), (5, .astore_n 2, 1, 0, 0), (6, .aload_n 2, 1, 0, 0), (7, .getfield 218, 3, 3, 3), (10, .invokestatic 225, 3, 60, 1), (13, .ifCond .ne 13, 3, 26, 0), (16, .new 229, 3, 1003, 2), (19, .dup, 1, 0, 0), (20, .ldc 231, 2, 999, 0), (22, .invokespecial 233, 3, 999, 0), (25, .athrow, 1, 0, 0), (26, .aload_n 0, 1, 0, 0), (27, .aload_n 2, 1, 0, 0), (28, .getfield 234, 3, 3, 1), (31, .aload_n 2, 1, 0, 0), (32, .getfield 218, 3, 3, 3), (35, .aload_n 2, 1, 0, 0), (36, .getfield 238, 3, 3, 2), (39, .invokevirtual 176, 3, 49, 4), (42, .aload_n 0, 1, 0, 0), (43, .invokevirtual 173, 3, 54, 1), (46, .ireturn, 1, 0, 0)]
def gM_96 : MethodName × ByteArray × Nat × Option FieldType × List (Nat × Nat × Nat × Nat) := (yX10_value, cX10_value, 3, (some .int), [])
/-- 97: StratumLedge.version()I -/
def gC_97 : List (Nat × gI) := [(0, .aload_n 0, 1, 0, 0), (1, .getfield 121, 3, 11, 12), (4, .ireturn, 1, 0, 0)]
def gM_97 : MethodName × ByteArray × Nat × Option FieldType × List (Nat × Nat × Nat × Nat) := (yX10_version, cX10_version, 1, (some .int), [])
/-- 98: StratumLedge.work(I)I -/
def gC_98 : List (Nat × gI) := [(0, .iload_n 1, 1, 0, 0), (1, .iconst 1, 1, 0, 0), (2, .if_icmp .lt 9, 3, 11, 0), (5, .iload_n 1, 1, 0, 0), (6, .bipush 50, 2, 0, 0), (8, .if_icmp .le 14, 3, 22, 0), (11, .new 38, 3, 1001, 3), (14, .dup, 1, 0, 0), (15, .ldc_w 362, 3, 999, 0), (18, .invokespecial 42, 3, 999, 0), (21, .athrow, 1, 0, 0), (22, .aload_n 0, 1, 0, 0), (23, .getfield 156, 3, 11, 7), (26, .ifnonnull 14, 3, 40, 0), (29, .new 49, 3, 1002, 3), (32, .dup, 1, 0, 0), (33, .ldc_w 364, 3, 999, 0), (36, .invokespecial 53, 3, 999, 0), (39, .athrow, 1, 0, 0), (40, .iconst 0, 1, 0, 0), (41, .istore_n 2, 1, 0, 0), (42, .aload_n 0, 1, 0, 0), (43, .getfield 156, 3, 11, 7), (46, .astore_n 3, 1, 0, 0), (47, .iload_n 2, 1, 0, 0), (48, .iload_n 1, 1, 0, 0), (49, .if_icmp .ge 23, 3, 72, 0), (52, .aload_n 3, 1, 0, 0), (53, .ifnull 19, 3, 72, 0), (56, .aload_n 0, 1, 0, 0), (57, .aload_n 3, 1, 0, 0), (58, .invokevirtual 366, 3, 41, 2), (61, .iinc 2 1, 3, 0, 0), (64, .aload_n 0, 1, 0, 0), (65, .getfield 156, 3, 11, 7), (68, .astore_n 3, 1, 0, 0), (69, .goto (-22), 3, 47, 0), (72, .iload_n 2, 1, 0, 0), (73, .ireturn, 1, 0, 0)]
def gM_98 : MethodName × ByteArray × Nat × Option FieldType × List (Nat × Nat × Nat × Nat) := (yX10_work, cX10_work, 4, (some .int), [])
/-- 99: StratumLedge.write(IIIII)I -/
def gC_99 : List (Nat × gI) := [(0, .aload_n 0, 1, 0, 0), (1, .iload_n 1, 1, 0, 0), (2, .invokevirtual 71, 3, 47, 2), (5, .astore 6, 2, 0, 0), (7, .iload_n 3, 1, 0, 0), (8, .iload 4, 2, 0, 0), (10, .invokestatic 75, 3, 29, 2), (13, .aload_n 0, 1, 0, 0), (14, .aload 6, 2, 0, 0), (16, .invokevirtual 81, 3, 21, 2), (19, .aload_n 0, 1, 0, 0), (20, .getfield 16, 3, 11, 1), (23, .invokevirtual 45, 3, 173, 1), (26, .iconst 1, 1, 0, 0), (27, .iadd, 1, 0, 0), (28, .istore 7, 2, 0, 0), (30, .aload_n 0, 1, 0, 0), (31, .getfield 16, 3, 11, 1), (34, .new 93, 3, 10, 0), (37, .dup, 1, 0, 0), (38, .aload 6, 2, 0, 0), (40, .getfield 63, 3, 4, 0), (43, .new 95, 3, 2, 0), (46, .dup, 1, 0, 0), (47, .iload_n 2, 1, 0, 0), (48, .iload 7, 2, 0, 0), (50, .iload_n 3, 1, 0, 0), (51, .iload 4, 2, 0, 0), (53, .iload 5, 2, 0, 0), (55, .invokespecial 97, 3, 101, 6), (58, .iconst 0, 1, 0, 0), (59, .iconst 1, 1, 0, 0), (60, .invokespecial 100, 3, 150, 5), (63, .invokevirtual 59, 3, 162, 2), (66, .pop, 1, 0, 0), (67, .aload_n 0, 1, 0, 0), (68, .aload 6, 2, 0, 0), (70, .invokevirtual 124, 3, 32, 2), (73, .bipush 8, 2, 0, 0), (75, .if_icmp .lt 10, 3, 85, 0), (78, .aload_n 0, 1, 0, 0), (79, .aload 6, 2, 0, 0), (81, .invokevirtual 89, 3, 52, 2), (84, .pop, 1, 0, 0), (85, .iload 7, 2, 0, 0), (87, .ireturn, 1, 0, 0)]
def gM_99 : MethodName × ByteArray × Nat × Option FieldType × List (Nat × Nat × Nat × Nat) := (yX10_write, cX10_write, 8, (some .int), [])
/-- 100: StratumLedge$Backup.<init>(Ljava/util/ArrayList;Ljava/util/ArrayList;)V -/
def gC_100 : List (Nat × gI) := [(0, .aload_n 0, 1, 0, 0), (1, .invokespecial 3, 3, 900, 1), (4, .aload_n 0, 1, 0, 0), (5, .new 9, 3, 0, 0), (8, .dup, 1, 0, 0), (9, .invokespecial 11, 3, 160, 1), (12, .putfield 12, 3, 1, 0), (15, .iconst 0, 1, 0, 0), (16, .istore_n 3, 1, 0, 0), (17, .iload_n 3, 1, 0, 0), (18, .aload_n 1, 1, 0, 0), (19, .invokevirtual 18, 3, 173, 1), (22, .if_icmp .ge 63, 3, 85, 0), (25, .new 22, 3, 4, 0), (28, .dup, 1, 0, 0), (29, .aload_n 1, 1, 0, 0), (30, .iload_n 3, 1, 0, 0), (31, .invokevirtual 24, 3, 167, 2), (34, .checkcast 22, 3, 4, 0), (37, .getfield 28, 3, 4, 0), (40, .aload_n 1, 1, 0, 0), (41, .iload_n 3, 1, 0, 0), (42, .invokevirtual 24, 3, 167, 2), (45, .checkcast 22, 3, 4, 0), (48, .getfield 32, 3, 4, 1), (51, .invokespecial 36, 3, 104, 3), (54, .astore 4, 2, 0, 0), (56, .aload 4, 2, 0, 0), (58, .aload_n 1, 1, 0, 0), (59, .iload_n 3, 1, 0, 0), (60, .invokevirtual 24, 3, 167, 2), (63, .checkcast 22, 3, 4, 0), (66, .invokevirtual 39, 3, 105, 2), (69, .aload_n 0, 1, 0, 0), (70, .getfield 12, 3, 1, 0), (73, .aload 4, 2, 0, 0), (75, .invokevirtual 43, 3, 162, 2), (78, .pop, 1, 0, 0), (79, .iinc 3 1, 3, 0, 0), (82, .goto (-65), 3, 17, 0), (85, .aload_n 0, 1, 0, 0), (86, .aload_n 2, 1, 0, 0), (87, .invokevirtual 18, 3, 173, 1), (90, .newarray .int, 2, 0, 0), (92, .putfield 47, 3, 1, 1), (95, .iconst 0, 1, 0, 0), (96, .istore_n 3, 1, 0, 0), (97, .iload_n 3, 1, 0, 0), (98, .aload_n 0, 1, 0, 0), (99, .getfield 47, 3, 1, 1), (102, .arraylength, 1, 0, 0), (103, .if_icmp .ge 48, 3, 151, 0), (106, .iload_n 3, 1, 0, 0), (107, .aload_n 2, 1, 0, 0), (108, .invokevirtual 18, 3, 173, 1), (111, .if_icmp .ge 40, 3, 151, 0), (114, .aload_n 2, 1, 0, 0), (115, .iload_n 3, 1, 0, 0), (116, .invokevirtual 24, 3, 167, 2), (119, .checkcast 51, 3, 10, 0), (122, .getfield 53, 3, 10, 3), (125, .istore 4, 2, 0, 0), (127, .aload_n 0, 1, 0, 0), (128, .getfield 47, 3, 1, 1), (131, .iload_n 3, 1, 0, 0), (132, .iload 4, 2, 0, 0), (134, .iconst 1, 1, 0, 0), (135, .if_icmp .ne 7, 3, 142, 0), (138, .iconst 0, 1, 0, 0), (139, .goto 5, 3, 144, 0), (142, .iload 4, 2, 0, 0), (144, .iastore, 1, 0, 0), (145, .iinc 3 1, 3, 0, 0), (148, .goto (-51), 3, 97, 0), (151, .return_, 1, 0, 0)]
def gM_100 : MethodName × ByteArray × Nat × Option FieldType × List (Nat × Nat × Nat × Nat) := (yX0_init, cX0_init, 5, none, [])
/-- 101: StratumLedge$Change.<init>(IIIII)V -/
def gC_101 : List (Nat × gI) := [(0, .aload_n 0, 1, 0, 0), (1, .invokespecial 1, 3, 900, 1), (4, .aload_n 0, 1, 0, 0), (5, .iload_n 1, 1, 0, 0), (6, .putfield 7, 3, 2, 0), (9, .aload_n 0, 1, 0, 0), (10, .iload_n 2, 1, 0, 0), (11, .putfield 13, 3, 2, 1), (14, .aload_n 0, 1, 0, 0), (15, .iload_n 3, 1, 0, 0), (16, .putfield 16, 3, 2, 2), (19, .aload_n 0, 1, 0, 0), (20, .iload 4, 2, 0, 0), (22, .putfield 19, 3, 2, 3), (25, .aload_n 0, 1, 0, 0), (26, .iload 5, 2, 0, 0), (28, .putfield 22, 3, 2, 4), (31, .return_, 1, 0, 0)]
def gM_101 : MethodName × ByteArray × Nat × Option FieldType × List (Nat × Nat × Nat × Nat) := (yX1_init, cX1_init, 6, none, [])
/-- 102: StratumLedge$Change.overlaps(II)Z -/
def gC_102 : List (Nat × gI) := [(0, .aload_n 0, 1, 0, 0), (1, .getfield 16, 3, 2, 2), (4, .iload_n 2, 1, 0, 0), (5, .if_icmp .gt 15, 3, 20, 0), (8, .iload_n 1, 1, 0, 0), (9, .aload_n 0, 1, 0, 0), (10, .getfield 19, 3, 2, 3), (13, .if_icmp .gt 7, 3, 20, 0), (16, .iconst 1, 1, 0, 0), (17, .goto 4, 3, 21, 0), (20, .iconst 0, 1, 0, 0), (21, .ireturn, 1, 0, 0)]
def gM_102 : MethodName × ByteArray × Nat × Option FieldType × List (Nat × Nat × Nat × Nat) := (yX1_overlaps, cX1_overlaps, 3, (some .boolean), [])
/-- 103: StratumLedge$Cursor.<init>(ILStratumLedge$Family;I)V -/
def gC_103 : List (Nat × gI) := [(0, .aload_n 0, 1, 0, 0), (1, .invokespecial 3, 3, 900, 1), (4, .aload_n 0, 1, 0, 0), (5, .iconst (-1), 1, 0, 0), (6, .putfield 9, 3, 3, 3), (9, .aload_n 0, 1, 0, 0), (10, .iload_n 1, 1, 0, 0), (11, .putfield 15, 3, 3, 0), (14, .aload_n 0, 1, 0, 0), (15, .aload_n 2, 1, 0, 0), (16, .putfield 18, 3, 3, 1), (19, .aload_n 0, 1, 0, 0), (20, .iload_n 3, 1, 0, 0), (21, .putfield 22, 3, 3, 2), (24, .return_, 1, 0, 0)]
def gM_103 : MethodName × ByteArray × Nat × Option FieldType × List (Nat × Nat × Nat × Nat) := (yX2_init, cX2_init, 4, none, [])
/-- 104: StratumLedge$Family.<init>(IC)V -/
def gC_104 : List (Nat × gI) := [(0, .aload_n 0, 1, 0, 0), (1, .invokespecial 3, 3, 900, 1), (4, .aload_n 0, 1, 0, 0), (5, .iconst 4, 1, 0, 0), (6, .anewarray 9, 3, 1, 0), (9, .putfield 11, 3, 4, 2), (12, .aload_n 0, 1, 0, 0), (13, .iload_n 1, 1, 0, 0), (14, .putfield 17, 3, 4, 0), (17, .aload_n 0, 1, 0, 0), (18, .iload_n 2, 1, 0, 0), (19, .putfield 21, 3, 4, 1), (22, .iconst 0, 1, 0, 0), (23, .istore_n 3, 1, 0, 0), (24, .iload_n 3, 1, 0, 0), (25, .aload_n 0, 1, 0, 0), (26, .getfield 11, 3, 4, 2), (29, .arraylength, 1, 0, 0), (30, .if_icmp .ge 22, 3, 52, 0), (33, .aload_n 0, 1, 0, 0), (34, .getfield 11, 3, 4, 2), (37, .iload_n 3, 1, 0, 0), (38, .new 9, 3, 6, 0), (41, .dup, 1, 0, 0), (42, .invokespecial 25, 3, 117, 1), (45, .aastore, 1, 0, 0), (46, .iinc 3 1, 3, 0, 0), (49, .goto (-25), 3, 24, 0), (52, .return_, 1, 0, 0)]
def gM_104 : MethodName × ByteArray × Nat × Option FieldType × List (Nat × Nat × Nat × Nat) := (yX3_init, cX3_init, 4, none, [])
/-- 105: StratumLedge$Family.become(LStratumLedge$Family;)V -/
def gC_105 : List (Nat × gI) := [(0, .iconst 0, 1, 0, 0), (1, .istore_n 2, 1, 0, 0), (2, .iload_n 2, 1, 0, 0), (3, .aload_n 0, 1, 0, 0), (4, .getfield 11, 3, 4, 2), (7, .arraylength, 1, 0, 0), (8, .if_icmp .ge 23, 3, 31, 0), (11, .aload_n 0, 1, 0, 0), (12, .getfield 11, 3, 4, 2), (15, .iload_n 2, 1, 0, 0), (16, .aaload, 1, 0, 0), (17, .aload_n 1, 1, 0, 0), (18, .iload_n 2, 1, 0, 0), (19, .invokevirtual 35, 3, 108, 2), (22, .invokevirtual 39, 3, 118, 2), (25, .iinc 2 1, 3, 0, 0), (28, .goto (-26), 3, 2, 0), (31, .return_, 1, 0, 0)]
def gM_105 : MethodName × ByteArray × Nat × Option FieldType × List (Nat × Nat × Nat × Nat) := (yX3_become, cX3_become, 3, none, [])
/-- 106: StratumLedge$Family.countRuns()I -/
def gC_106 : List (Nat × gI) := [(0, .iconst 0, 1, 0, 0), (1, .istore_n 1, 1, 0, 0), (2, .iconst 0, 1, 0, 0), (3, .istore_n 2, 1, 0, 0), (4, .iload_n 2, 1, 0, 0), (5, .aload_n 0, 1, 0, 0), (6, .getfield 11, 3, 4, 2), (9, .arraylength, 1, 0, 0), (10, .if_icmp .ge 21, 3, 31, 0), (13, .iload_n 1, 1, 0, 0), (14, .aload_n 0, 1, 0, 0), (15, .getfield 11, 3, 4, 2), (18, .iload_n 2, 1, 0, 0), (19, .aaload, 1, 0, 0), (20, .invokevirtual 43, 3, 119, 1), (23, .iadd, 1, 0, 0), (24, .istore_n 1, 1, 0, 0), (25, .iinc 2 1, 3, 0, 0), (28, .goto (-24), 3, 4, 0), (31, .iload_n 1, 1, 0, 0), (32, .ireturn, 1, 0, 0)]
def gM_106 : MethodName × ByteArray × Nat × Option FieldType × List (Nat × Nat × Nat × Nat) := (yX3_countRuns, cX3_countRuns, 3, (some .int), [])
/-- 107: StratumLedge$Family.countShared(LStratumLedge$Family;)I -/
def gC_107 : List (Nat × gI) := [(0, .iconst 0, 1, 0, 0), (1, .istore_n 2, 1, 0, 0), (2, .iconst 0, 1, 0, 0), (3, .istore_n 3, 1, 0, 0), (4, .iload_n 3, 1, 0, 0), (5, .aload_n 0, 1, 0, 0), (6, .getfield 11, 3, 4, 2), (9, .arraylength, 1, 0, 0), (10, .if_icmp .ge 59, 3, 69, 0), (13, .iconst 0, 1, 0, 0), (14, .istore 4, 2, 0, 0), (16, .iload 4, 2, 0, 0), (18, .aload_n 0, 1, 0, 0), (19, .getfield 11, 3, 4, 2), (22, .iload_n 3, 1, 0, 0), (23, .aaload, 1, 0, 0), (24, .invokevirtual 43, 3, 119, 1), (27, .if_icmp .ge 36, 3, 63, 0), (30, .aload_n 1, 1, 0, 0), (31, .aload_n 0, 1, 0, 0), (32, .getfield 11, 3, 4, 2), (35, .iload_n 3, 1, 0, 0), (36, .aaload, 1, 0, 0), (37, .getfield 47, 3, 6, 0), (40, .iload 4, 2, 0, 0), (42, .invokevirtual 51, 3, 167, 2), (45, .checkcast 57, 3, 8, 0), (48, .invokevirtual 59, 3, 109, 2), (51, .ifCond .eq 6, 3, 57, 0), (54, .iinc 2 1, 3, 0, 0), (57, .iinc 4 1, 3, 0, 0), (60, .goto (-44), 3, 16, 0), (63, .iinc 3 1, 3, 0, 0), (66, .goto (-62), 3, 4, 0), (69, .iload_n 2, 1, 0, 0), (70, .ireturn, 1, 0, 0)]
def gM_107 : MethodName × ByteArray × Nat × Option FieldType × List (Nat × Nat × Nat × Nat) := (yX3_countShared, cX3_countShared, 5, (some .int), [])
/-- 108: StratumLedge$Family.floor(I)LStratumLedge$Level; -/
def gC_108 : List (Nat × gI) := [(0, .aload_n 0, 1, 0, 0), (1, .getfield 11, 3, 4, 2), (4, .iconst 0, 1, 0, 0), (5, .iload_n 1, 1, 0, 0), (6, .aload_n 0, 1, 0, 0), (7, .getfield 11, 3, 4, 2), (10, .arraylength, 1, 0, 0), (11, .iconst 1, 1, 0, 0), (12, .isub, 1, 0, 0), (13, .invokestatic 26, 3, 157, 2), (16, .invokestatic 32, 3, 156, 2), (19, .aaload, 1, 0, 0), (20, .areturn, 1, 0, 0)]
def gM_108 : MethodName × ByteArray × Nat × Option FieldType × List (Nat × Nat × Nat × Nat) := (yX3_floor, cX3_floor, 2, (some (.object "StratumLedge$Level")), [])
/-- 109: StratumLedge$Family.hasRun(LStratumLedge$Run;)Z -/
def gC_109 : List (Nat × gI) := [(0, .iconst 0, 1, 0, 0), (1, .istore_n 2, 1, 0, 0), (2, .iload_n 2, 1, 0, 0), (3, .aload_n 0, 1, 0, 0), (4, .getfield 11, 3, 4, 2), (7, .arraylength, 1, 0, 0), (8, .if_icmp .ge 24, 3, 32, 0), (11, .aload_n 0, 1, 0, 0), (12, .getfield 11, 3, 4, 2), (15, .iload_n 2, 1, 0, 0), (16, .aaload, 1, 0, 0), (17, .aload_n 1, 1, 0, 0), (18, .invokevirtual 63, 3, 120, 2), (21, .ifCond .eq 5, 3, 26, 0), (24, .iconst 1, 1, 0, 0), (25, .ireturn, 1, 0, 0), (26, .iinc 2 1, 3, 0, 0), (29, .goto (-27), 3, 2, 0), (32, .iconst 0, 1, 0, 0), (33, .ireturn, 1, 0, 0)]
def gM_109 : MethodName × ByteArray × Nat × Option FieldType × List (Nat × Nat × Nat × Nat) := (yX3_hasRun, cX3_hasRun, 3, (some .boolean), [])
/-- 110: StratumLedge$Family.isInShape()Z -/
def gC_110 : List (Nat × gI) := [(0, .iconst 0, 1, 0, 0), (1, .istore_n 1, 1, 0, 0), (2, .iload_n 1, 1, 0, 0), (3, .aload_n 0, 1, 0, 0), (4, .getfield 11, 3, 4, 2), (7, .arraylength, 1, 0, 0), (8, .if_icmp .ge 39, 3, 47, 0), (11, .aload_n 0, 1, 0, 0), (12, .getfield 11, 3, 4, 2), (15, .iload_n 1, 1, 0, 0), (16, .aaload, 1, 0, 0), (17, .invokevirtual 70, 3, 123, 1), (20, .ifCond .eq 19, 3, 39, 0), (23, .iload_n 1, 1, 0, 0), (24, .ifCond .le 17, 3, 41, 0), (27, .aload_n 0, 1, 0, 0), (28, .getfield 11, 3, 4, 2), (31, .iload_n 1, 1, 0, 0), (32, .aaload, 1, 0, 0), (33, .invokevirtual 74, 3, 124, 1), (36, .ifCond .ne 5, 3, 41, 0), (39, .iconst 0, 1, 0, 0), (40, .ireturn, 1, 0, 0), (41, .iinc 1 1, 3, 0, 0), (44, .goto (-42), 3, 2, 0), (47, .iconst 1, 1, 0, 0), (48, .ireturn, 1, 0, 0)]
def gM_110 : MethodName × ByteArray × Nat × Option FieldType × List (Nat × Nat × Nat × Nat) := (yX3_isInShape, cX3_isInShape, 2, (some .boolean), [])
/-- 111: StratumLedge$Family.overlapsBelow(III)Z -/
def gC_111 : List (Nat × gI) := [(0, .iconst 1, 1, 0, 0), (1, .istore 4, 2, 0, 0), (3, .iload 4, 2, 0, 0), (5, .aload_n 0, 1, 0, 0), (6, .getfield 11, 3, 4, 2), (9, .arraylength, 1, 0, 0), (10, .if_icmp .ge 32, 3, 42, 0), (13, .iload 4, 2, 0, 0), (15, .iload_n 1, 1, 0, 0), (16, .if_icmp .le 20, 3, 36, 0), (19, .aload_n 0, 1, 0, 0), (20, .getfield 11, 3, 4, 2), (23, .iload 4, 2, 0, 0), (25, .aaload, 1, 0, 0), (26, .iload_n 2, 1, 0, 0), (27, .iload_n 3, 1, 0, 0), (28, .invokevirtual 66, 3, 125, 3), (31, .ifCond .eq 5, 3, 36, 0), (34, .iconst 1, 1, 0, 0), (35, .ireturn, 1, 0, 0), (36, .iinc 4 1, 3, 0, 0), (39, .goto (-36), 3, 3, 0), (42, .iconst 0, 1, 0, 0), (43, .ireturn, 1, 0, 0)]
def gM_111 : MethodName × ByteArray × Nat × Option FieldType × List (Nat × Nat × Nat × Nat) := (yX3_overlapsBelow, cX3_overlapsBelow, 5, (some .boolean), [])
/-- 112: StratumLedge$Finding.<init>()V -/
def gC_112 : List (Nat × gI) := [(0, .aload_n 0, 1, 0, 0), (1, .invokespecial 3, 3, 900, 1), (4, .return_, 1, 0, 0)]
def gM_112 : MethodName × ByteArray × Nat × Option FieldType × List (Nat × Nat × Nat × Nat) := (yX4_init, cX4_init, 1, none, [])
/-- 113: StratumLedge$Finding.begin()V -/
def gC_113 : List (Nat × gI) := [(0, .aload_n 0, 1, 0, 0), (1, .iconst 0, 1, 0, 0), (2, .putfield 9, 3, 5, 0), (5, .aload_n 0, 1, 0, 0), (6, .iconst 0, 1, 0, 0), (7, .putfield 15, 3, 5, 1), (10, .aload_n 0, 1, 0, 0), (11, .iconst 0, 1, 0, 0), (12, .putfield 18, 3, 5, 2), (15, .return_, 1, 0, 0)]
def gM_113 : MethodName × ByteArray × Nat × Option FieldType × List (Nat × Nat × Nat × Nat) := (yX4_begin, cX4_begin, 1, none, [])
/-- 114: StratumLedge$Finding.joined(IIC)I -/
def gC_114 : List (Nat × gI) := [(0, .iload_n 2, 1, 0, 0), (1, .bipush 43, 2, 0, 0), (3, .if_icmp .ne 7, 3, 10, 0), (6, .iload_n 0, 1, 0, 0), (7, .iload_n 1, 1, 0, 0), (8, .iadd, 1, 0, 0), (9, .ireturn, 1, 0, 0), (10, .iload_n 2, 1, 0, 0), (11, .bipush 62, 2, 0, 0), (13, .if_icmp .ne 16, 3, 29, 0), (16, .iload_n 1, 1, 0, 0), (17, .iload_n 0, 1, 0, 0), (18, .if_icmp .le 7, 3, 25, 0), (21, .iconst 1, 1, 0, 0), (22, .goto 17, 3, 39, 0), (25, .iconst 0, 1, 0, 0), (26, .goto 13, 3, 39, 0), (29, .iload_n 1, 1, 0, 0), (30, .iload_n 0, 1, 0, 0), (31, .if_icmp .ge 7, 3, 38, 0), (34, .iconst 1, 1, 0, 0), (35, .goto 4, 3, 39, 0), (38, .iconst 0, 1, 0, 0), (39, .istore_n 3, 1, 0, 0), (40, .iload_n 3, 1, 0, 0), (41, .ifCond .eq 7, 3, 48, 0), (44, .iload_n 1, 1, 0, 0), (45, .goto 4, 3, 49, 0), (48, .iload_n 0, 1, 0, 0), (49, .ireturn, 1, 0, 0)]
def gM_114 : MethodName × ByteArray × Nat × Option FieldType × List (Nat × Nat × Nat × Nat) := (yX4_joined, cX4_joined, 4, (some .int), [])
/-- 115: StratumLedge$Finding.meet(LStratumLedge$Change;C)V -/
def gC_115 : List (Nat × gI) := [(0, .aload_n 1, 1, 0, 0), (1, .getfield 22, 3, 2, 0), (4, .iconst 1, 1, 0, 0), (5, .if_icmp .eq 11, 3, 16, 0), (8, .aload_n 1, 1, 0, 0), (9, .getfield 22, 3, 2, 0), (12, .iconst 4, 1, 0, 0), (13, .if_icmp .ne 12, 3, 25, 0), (16, .aload_n 0, 1, 0, 0), (17, .aload_n 1, 1, 0, 0), (18, .getfield 27, 3, 2, 4), (21, .iload_n 2, 1, 0, 0), (22, .invokevirtual 28, 3, 116, 3), (25, .aload_n 0, 1, 0, 0), (26, .aload_n 1, 1, 0, 0), (27, .getfield 22, 3, 2, 0), (30, .iconst 4, 1, 0, 0), (31, .if_icmp .eq 7, 3, 38, 0), (34, .iconst 1, 1, 0, 0), (35, .goto 4, 3, 39, 0), (38, .iconst 0, 1, 0, 0), (39, .putfield 15, 3, 5, 1), (42, .return_, 1, 0, 0)]
def gM_115 : MethodName × ByteArray × Nat × Option FieldType × List (Nat × Nat × Nat × Nat) := (yX4_meet, cX4_meet, 3, none, [])
/-- 116: StratumLedge$Finding.take(IC)V -/
def gC_116 : List (Nat × gI) := [(0, .aload_n 0, 1, 0, 0), (1, .aload_n 0, 1, 0, 0), (2, .getfield 9, 3, 5, 0), (5, .ifCond .eq 15, 3, 20, 0), (8, .iload_n 1, 1, 0, 0), (9, .aload_n 0, 1, 0, 0), (10, .getfield 18, 3, 5, 2), (13, .iload_n 2, 1, 0, 0), (14, .invokestatic 32, 3, 114, 3), (17, .goto 4, 3, 21, 0), (20, .iload_n 1, 1, 0, 0), (21, .putfield 18, 3, 5, 2), (24, .aload_n 0, 1, 0, 0), (25, .iconst 1, 1, 0, 0), (26, .putfield 9, 3, 5, 0), (29, .return_, 1, 0, 0)]
def gM_116 : MethodName × ByteArray × Nat × Option FieldType × List (Nat × Nat × Nat × Nat) := (yX4_take, cX4_take, 3, none, [])
/-- 117: StratumLedge$Level.<init>()V -/
def gC_117 : List (Nat × gI) := [(0, .aload_n 0, 1, 0, 0), (1, .invokespecial 3, 3, 900, 1), (4, .aload_n 0, 1, 0, 0), (5, .new 9, 3, 0, 0), (8, .dup, 1, 0, 0), (9, .invokespecial 11, 3, 160, 1), (12, .putfield 12, 3, 6, 0), (15, .aload_n 0, 1, 0, 0), (16, .iconst (-1), 1, 0, 0), (17, .putfield 18, 3, 6, 1), (20, .return_, 1, 0, 0)]
def gM_117 : MethodName × ByteArray × Nat × Option FieldType × List (Nat × Nat × Nat × Nat) := (yX5_init, cX5_init, 1, none, [])
/-- 118: StratumLedge$Level.become(LStratumLedge$Level;)V -/
def gC_118 : List (Nat × gI) := [(0, .aload_n 0, 1, 0, 0), (1, .getfield 12, 3, 6, 0), (4, .invokevirtual 56, 3, 164, 1), (7, .iconst 0, 1, 0, 0), (8, .istore_n 2, 1, 0, 0), (9, .iload_n 2, 1, 0, 0), (10, .aload_n 1, 1, 0, 0), (11, .getfield 12, 3, 6, 0), (14, .invokevirtual 22, 3, 173, 1), (17, .if_icmp .ge 28, 3, 45, 0), (20, .aload_n 0, 1, 0, 0), (21, .getfield 12, 3, 6, 0), (24, .aload_n 1, 1, 0, 0), (25, .getfield 12, 3, 6, 0), (28, .iload_n 2, 1, 0, 0), (29, .invokevirtual 26, 3, 167, 2), (32, .checkcast 30, 3, 8, 0), (35, .invokevirtual 59, 3, 162, 2), (38, .pop, 1, 0, 0), (39, .iinc 2 1, 3, 0, 0), (42, .goto (-33), 3, 9, 0), (45, .aload_n 0, 1, 0, 0), (46, .aload_n 1, 1, 0, 0), (47, .getfield 18, 3, 6, 1), (50, .putfield 18, 3, 6, 1), (53, .return_, 1, 0, 0)]
def gM_118 : MethodName × ByteArray × Nat × Option FieldType × List (Nat × Nat × Nat × Nat) := (yX5_become, cX5_become, 3, none, [])
/-- 119: StratumLedge$Level.count()I -/
def gC_119 : List (Nat × gI) := [(0, .aload_n 0, 1, 0, 0), (1, .getfield 12, 3, 6, 0), (4, .invokevirtual 22, 3, 173, 1), (7, .ireturn, 1, 0, 0)]
def gM_119 : MethodName × ByteArray × Nat × Option FieldType × List (Nat × Nat × Nat × Nat) := (yX5_count, cX5_count, 1, (some .int), [])
/-- 120: StratumLedge$Level.has(LStratumLedge$Run;)Z -/
def gC_120 : List (Nat × gI) := [(0, .iconst 0, 1, 0, 0), (1, .istore_n 2, 1, 0, 0), (2, .iload_n 2, 1, 0, 0), (3, .aload_n 0, 1, 0, 0), (4, .getfield 12, 3, 6, 0), (7, .invokevirtual 22, 3, 173, 1), (10, .if_icmp .ge 32, 3, 42, 0), (13, .aload_n 0, 1, 0, 0), (14, .getfield 12, 3, 6, 0), (17, .iload_n 2, 1, 0, 0), (18, .invokevirtual 26, 3, 167, 2), (21, .checkcast 30, 3, 8, 0), (24, .getfield 39, 3, 8, 0), (27, .aload_n 1, 1, 0, 0), (28, .getfield 39, 3, 8, 0), (31, .if_icmp .ne 5, 3, 36, 0), (34, .iconst 1, 1, 0, 0), (35, .ireturn, 1, 0, 0), (36, .iinc 2 1, 3, 0, 0), (39, .goto (-37), 3, 2, 0), (42, .iconst 0, 1, 0, 0), (43, .ireturn, 1, 0, 0)]
def gM_120 : MethodName × ByteArray × Nat × Option FieldType × List (Nat × Nat × Nat × Nat) := (yX5_has, cX5_has, 3, (some .boolean), [])
/-- 121: StratumLedge$Level.insert(LStratumLedge$Run;Z)V -/
def gC_121 : List (Nat × gI) := [(0, .iconst 0, 1, 0, 0), (1, .istore_n 3, 1, 0, 0), (2, .iload_n 2, 1, 0, 0), (3, .ifCond .ne 41, 3, 44, 0), (6, .iload_n 3, 1, 0, 0), (7, .aload_n 0, 1, 0, 0), (8, .getfield 12, 3, 6, 0), (11, .invokevirtual 22, 3, 173, 1), (14, .if_icmp .ge 30, 3, 44, 0), (17, .aload_n 0, 1, 0, 0), (18, .getfield 12, 3, 6, 0), (21, .iload_n 3, 1, 0, 0), (22, .invokevirtual 26, 3, 167, 2), (25, .checkcast 30, 3, 8, 0), (28, .getfield 42, 3, 8, 4), (31, .aload_n 1, 1, 0, 0), (32, .getfield 42, 3, 8, 4), (35, .if_icmp .ge 9, 3, 44, 0), (38, .iinc 3 1, 3, 0, 0), (41, .goto (-39), 3, 2, 0), (44, .aload_n 0, 1, 0, 0), (45, .getfield 12, 3, 6, 0), (48, .iload_n 3, 1, 0, 0), (49, .aload_n 1, 1, 0, 0), (50, .invokevirtual 45, 3, 161, 3), (53, .return_, 1, 0, 0)]
def gM_121 : MethodName × ByteArray × Nat × Option FieldType × List (Nat × Nat × Nat × Nat) := (yX5_insert, cX5_insert, 4, none, [])
/-- 122: StratumLedge$Level.isAmong(LStratumLedge$Run;Ljava/util/ArrayList;)Z -/
def gC_122 : List (Nat × gI) := [(0, .iconst 0, 1, 0, 0), (1, .istore_n 2, 1, 0, 0), (2, .iload_n 2, 1, 0, 0), (3, .aload_n 1, 1, 0, 0), (4, .invokevirtual 22, 3, 173, 1), (7, .if_icmp .ge 29, 3, 36, 0), (10, .aload_n 1, 1, 0, 0), (11, .iload_n 2, 1, 0, 0), (12, .invokevirtual 26, 3, 167, 2), (15, .checkcast 30, 3, 8, 0), (18, .getfield 39, 3, 8, 0), (21, .aload_n 0, 1, 0, 0), (22, .getfield 39, 3, 8, 0), (25, .if_icmp .ne 5, 3, 30, 0), (28, .iconst 1, 1, 0, 0), (29, .ireturn, 1, 0, 0), (30, .iinc 2 1, 3, 0, 0), (33, .goto (-31), 3, 2, 0), (36, .iconst 0, 1, 0, 0), (37, .ireturn, 1, 0, 0)]
def gM_122 : MethodName × ByteArray × Nat × Option FieldType × List (Nat × Nat × Nat × Nat) := (yX5_isAmong, cX5_isAmong, 3, (some .boolean), [])
/-- 123: StratumLedge$Level.isOfFairSizes()Z -/
def gC_123 : List (Nat × gI) := [(0, .iconst 0, 1, 0, 0), (1, .istore_n 1, 1, 0, 0), (2, .iload_n 1, 1, 0, 0), (3, .aload_n 0, 1, 0, 0), (4, .getfield 12, 3, 6, 0), (7, .invokevirtual 22, 3, 173, 1), (10, .if_icmp .ge 28, 3, 38, 0), (13, .aload_n 0, 1, 0, 0), (14, .getfield 12, 3, 6, 0), (17, .iload_n 1, 1, 0, 0), (18, .invokevirtual 26, 3, 167, 2), (21, .checkcast 30, 3, 8, 0), (24, .invokevirtual 65, 3, 143, 1), (27, .ifCond .ne 5, 3, 32, 0), (30, .iconst 0, 1, 0, 0), (31, .ireturn, 1, 0, 0), (32, .iinc 1 1, 3, 0, 0), (35, .goto (-33), 3, 2, 0), (38, .iconst 1, 1, 0, 0), (39, .ireturn, 1, 0, 0)]
def gM_123 : MethodName × ByteArray × Nat × Option FieldType × List (Nat × Nat × Nat × Nat) := (yX5_isOfFairSizes, cX5_isOfFairSizes, 2, (some .boolean), [])
/-- 124: StratumLedge$Level.isRising()Z -/
def gC_124 : List (Nat × gI) := [(0, .iconst 1, 1, 0, 0), (1, .istore_n 1, 1, 0, 0), (2, .iload_n 1, 1, 0, 0), (3, .aload_n 0, 1, 0, 0), (4, .getfield 12, 3, 6, 0), (7, .invokevirtual 22, 3, 173, 1), (10, .if_icmp .ge 44, 3, 54, 0), (13, .aload_n 0, 1, 0, 0), (14, .getfield 12, 3, 6, 0), (17, .iload_n 1, 1, 0, 0), (18, .iconst 1, 1, 0, 0), (19, .isub, 1, 0, 0), (20, .invokevirtual 26, 3, 167, 2), (23, .checkcast 30, 3, 8, 0), (26, .getfield 62, 3, 8, 5), (29, .aload_n 0, 1, 0, 0), (30, .getfield 12, 3, 6, 0), (33, .iload_n 1, 1, 0, 0), (34, .invokevirtual 26, 3, 167, 2), (37, .checkcast 30, 3, 8, 0), (40, .getfield 42, 3, 8, 4), (43, .if_icmp .lt 5, 3, 48, 0), (46, .iconst 0, 1, 0, 0), (47, .ireturn, 1, 0, 0), (48, .iinc 1 1, 3, 0, 0), (51, .goto (-49), 3, 2, 0), (54, .iconst 1, 1, 0, 0), (55, .ireturn, 1, 0, 0)]
def gM_124 : MethodName × ByteArray × Nat × Option FieldType × List (Nat × Nat × Nat × Nat) := (yX5_isRising, cX5_isRising, 2, (some .boolean), [])
/-- 125: StratumLedge$Level.overlaps(II)Z -/
def gC_125 : List (Nat × gI) := [(0, .iconst 0, 1, 0, 0), (1, .istore_n 3, 1, 0, 0), (2, .iload_n 3, 1, 0, 0), (3, .aload_n 0, 1, 0, 0), (4, .getfield 12, 3, 6, 0), (7, .invokevirtual 22, 3, 173, 1), (10, .if_icmp .ge 30, 3, 40, 0), (13, .aload_n 0, 1, 0, 0), (14, .getfield 12, 3, 6, 0), (17, .iload_n 3, 1, 0, 0), (18, .invokevirtual 26, 3, 167, 2), (21, .checkcast 30, 3, 8, 0), (24, .iload_n 1, 1, 0, 0), (25, .iload_n 2, 1, 0, 0), (26, .invokevirtual 35, 3, 147, 3), (29, .ifCond .eq 5, 3, 34, 0), (32, .iconst 1, 1, 0, 0), (33, .ireturn, 1, 0, 0), (34, .iinc 3 1, 3, 0, 0), (37, .goto (-35), 3, 2, 0), (40, .iconst 0, 1, 0, 0), (41, .ireturn, 1, 0, 0)]
def gM_125 : MethodName × ByteArray × Nat × Option FieldType × List (Nat × Nat × Nat × Nat) := (yX5_overlaps, cX5_overlaps, 4, (some .boolean), [])
/-- 126: StratumLedge$Level.removeAll(Ljava/util/ArrayList;)V -/
def gC_126 : List (Nat × gI) := [(0, .aload_n 0, 1, 0, 0), (1, .getfield 12, 3, 6, 0), (4, .invokevirtual 22, 3, 173, 1), (7, .iconst 1, 1, 0, 0), (8, .isub, 1, 0, 0), (9, .istore_n 2, 1, 0, 0), (10, .iload_n 2, 1, 0, 0), (11, .ifCond .lt 36, 3, 47, 0), (14, .aload_n 0, 1, 0, 0), (15, .getfield 12, 3, 6, 0), (18, .iload_n 2, 1, 0, 0), (19, .invokevirtual 26, 3, 167, 2), (22, .checkcast 30, 3, 8, 0), (25, .aload_n 1, 1, 0, 0), (26, .invokestatic 49, 3, 122, 2), (29, .ifCond .eq 12, 3, 41, 0), (32, .aload_n 0, 1, 0, 0), (33, .getfield 12, 3, 6, 0), (36, .iload_n 2, 1, 0, 0), (37, .invokevirtual 53, 3, 172, 2), (40, .pop, 1, 0, 0), (41, .iinc 2 (-1), 3, 0, 0), (44, .goto (-34), 3, 10, 0), (47, .return_, 1, 0, 0)]
def gM_126 : MethodName × ByteArray × Nat × Option FieldType × List (Nat × Nat × Nat × Nat) := (yX5_removeAll, cX5_removeAll, 3, none, [])
/-- 127: StratumLedge$Level.weight()I -/
def gC_127 : List (Nat × gI) := [(0, .iconst 0, 1, 0, 0), (1, .istore_n 1, 1, 0, 0), (2, .iconst 0, 1, 0, 0), (3, .istore_n 2, 1, 0, 0), (4, .iload_n 2, 1, 0, 0), (5, .aload_n 0, 1, 0, 0), (6, .getfield 12, 3, 6, 0), (9, .invokevirtual 22, 3, 173, 1), (12, .if_icmp .ge 26, 3, 38, 0), (15, .iload_n 1, 1, 0, 0), (16, .aload_n 0, 1, 0, 0), (17, .getfield 12, 3, 6, 0), (20, .iload_n 2, 1, 0, 0), (21, .invokevirtual 26, 3, 167, 2), (24, .checkcast 30, 3, 8, 0), (27, .invokevirtual 32, 3, 148, 1), (30, .iadd, 1, 0, 0), (31, .istore_n 1, 1, 0, 0), (32, .iinc 2 1, 3, 0, 0), (35, .goto (-31), 3, 4, 0), (38, .iload_n 1, 1, 0, 0), (39, .ireturn, 1, 0, 0)]
def gM_127 : MethodName × ByteArray × Nat × Option FieldType × List (Nat × Nat × Nat × Nat) := (yX5_weight, cX5_weight, 3, (some .int), [])
/-- 128: StratumLedge$Merging.<init>(LStratumLedge$Family;I)V -/
def gC_128 : List (Nat × gI) := [(0, .aload_n 0, 1, 0, 0), (1, .invokespecial 3, 3, 900, 1), (4, .aload_n 0, 1, 0, 0), (5, .new 9, 3, 0, 0), (8, .dup, 1, 0, 0), (9, .invokespecial 11, 3, 160, 1), (12, .putfield 12, 3, 7, 2), (15, .aload_n 0, 1, 0, 0), (16, .new 9, 3, 0, 0), (19, .dup, 1, 0, 0), (20, .invokespecial 11, 3, 160, 1), (23, .putfield 18, 3, 7, 3), (26, .aload_n 0, 1, 0, 0), (27, .iconst (-1), 1, 0, 0), (28, .putfield 21, 3, 7, 5), (31, .aload_n 0, 1, 0, 0), (32, .aload_n 1, 1, 0, 0), (33, .putfield 25, 3, 7, 0), (36, .aload_n 0, 1, 0, 0), (37, .iload_n 2, 1, 0, 0), (38, .putfield 29, 3, 7, 1), (41, .aload_n 0, 1, 0, 0), (42, .invokevirtual 32, 3, 130, 1), (45, .aload_n 0, 1, 0, 0), (46, .aload_n 0, 1, 0, 0), (47, .invokevirtual 35, 3, 132, 1), (50, .putfield 39, 3, 7, 4), (53, .aload_n 0, 1, 0, 0), (54, .invokevirtual 42, 3, 129, 1), (57, .return_, 1, 0, 0)]
def gM_128 : MethodName × ByteArray × Nat × Option FieldType × List (Nat × Nat × Nat × Nat) := (yX6_init, cX6_init, 3, none, [])
/-- 129: StratumLedge$Merging.addOverlapped()V -/
def gC_129 : List (Nat × gI) := [(0, .aload_n 0, 1, 0, 0), (1, .invokevirtual 75, 3, 134, 1), (4, .istore_n 1, 1, 0, 0), (5, .aload_n 0, 1, 0, 0), (6, .getfield 25, 3, 7, 0), (9, .aload_n 0, 1, 0, 0), (10, .getfield 29, 3, 7, 1), (13, .iconst 1, 1, 0, 0), (14, .iadd, 1, 0, 0), (15, .invokevirtual 45, 3, 108, 2), (18, .getfield 51, 3, 6, 0), (21, .astore_n 2, 1, 0, 0), (22, .iconst 0, 1, 0, 0), (23, .istore_n 3, 1, 0, 0), (24, .iload_n 3, 1, 0, 0), (25, .aload_n 2, 1, 0, 0), (26, .invokevirtual 56, 3, 173, 1), (29, .if_icmp .ge 44, 3, 73, 0), (32, .aload_n 2, 1, 0, 0), (33, .iload_n 3, 1, 0, 0), (34, .invokevirtual 59, 3, 167, 2), (37, .checkcast 63, 3, 8, 0), (40, .iload_n 1, 1, 0, 0), (41, .aload_n 0, 1, 0, 0), (42, .getfield 39, 3, 7, 4), (45, .invokevirtual 77, 3, 147, 3), (48, .ifCond .eq 19, 3, 67, 0), (51, .aload_n 0, 1, 0, 0), (52, .getfield 12, 3, 7, 2), (55, .aload_n 2, 1, 0, 0), (56, .iload_n 3, 1, 0, 0), (57, .invokevirtual 59, 3, 167, 2), (60, .checkcast 63, 3, 8, 0), (63, .invokevirtual 71, 3, 162, 2), (66, .pop, 1, 0, 0), (67, .iinc 3 1, 3, 0, 0), (70, .goto (-46), 3, 24, 0), (73, .return_, 1, 0, 0)]
def gM_129 : MethodName × ByteArray × Nat × Option FieldType × List (Nat × Nat × Nat × Nat) := (yX6_addOverlapped, cX6_addOverlapped, 4, none, [])
/-- 130: StratumLedge$Merging.addSources()V -/
def gC_130 : List (Nat × gI) := [(0, .aload_n 0, 1, 0, 0), (1, .getfield 25, 3, 7, 0), (4, .aload_n 0, 1, 0, 0), (5, .getfield 29, 3, 7, 1), (8, .invokevirtual 45, 3, 108, 2), (11, .astore_n 1, 1, 0, 0), (12, .aload_n 1, 1, 0, 0), (13, .getfield 51, 3, 6, 0), (16, .astore_n 2, 1, 0, 0), (17, .iconst 0, 1, 0, 0), (18, .istore_n 3, 1, 0, 0), (19, .aload_n 2, 1, 0, 0), (20, .invokevirtual 56, 3, 173, 1), (23, .iconst 1, 1, 0, 0), (24, .isub, 1, 0, 0), (25, .istore 4, 2, 0, 0), (27, .iload 4, 2, 0, 0), (29, .ifCond .lt 31, 3, 60, 0), (32, .aload_n 2, 1, 0, 0), (33, .iload 4, 2, 0, 0), (35, .invokevirtual 59, 3, 167, 2), (38, .checkcast 63, 3, 8, 0), (41, .getfield 65, 3, 8, 4), (44, .aload_n 1, 1, 0, 0), (45, .getfield 68, 3, 6, 1), (48, .if_icmp .le 6, 3, 54, 0), (51, .iload 4, 2, 0, 0), (53, .istore_n 3, 1, 0, 0), (54, .iinc 4 (-1), 3, 0, 0), (57, .goto (-30), 3, 27, 0), (60, .iconst 0, 1, 0, 0), (61, .istore 4, 2, 0, 0), (63, .iload 4, 2, 0, 0), (65, .aload_n 2, 1, 0, 0), (66, .invokevirtual 56, 3, 173, 1), (69, .if_icmp .ge 39, 3, 108, 0), (72, .aload_n 0, 1, 0, 0), (73, .getfield 29, 3, 7, 1), (76, .ifCond .eq 9, 3, 85, 0), (79, .iload 4, 2, 0, 0), (81, .iload_n 3, 1, 0, 0), (82, .if_icmp .ne 20, 3, 102, 0), (85, .aload_n 0, 1, 0, 0), (86, .getfield 12, 3, 7, 2), (89, .aload_n 2, 1, 0, 0), (90, .iload 4, 2, 0, 0), (92, .invokevirtual 59, 3, 167, 2), (95, .checkcast 63, 3, 8, 0), (98, .invokevirtual 71, 3, 162, 2), (101, .pop, 1, 0, 0), (102, .iinc 4 1, 3, 0, 0), (105, .goto (-42), 3, 63, 0), (108, .return_, 1, 0, 0)]
def gM_130 : MethodName × ByteArray × Nat × Option FieldType × List (Nat × Nat × Nat × Nat) := (yX6_addSources, cX6_addSources, 5, none, [])
/-- 131: StratumLedge$Merging.claims(LStratumLedge$Family;III)Z -/
def gC_131 : List (Nat × gI) := [(0, .aload_n 0, 1, 0, 0), (1, .getfield 25, 3, 7, 0), (4, .aload_n 1, 1, 0, 0), (5, .if_acmp .ne 42, 3, 47, 0), (8, .iload_n 2, 1, 0, 0), (9, .aload_n 0, 1, 0, 0), (10, .getfield 29, 3, 7, 1), (13, .if_icmp .eq 13, 3, 26, 0), (16, .iload_n 2, 1, 0, 0), (17, .aload_n 0, 1, 0, 0), (18, .getfield 29, 3, 7, 1), (21, .iconst 1, 1, 0, 0), (22, .iadd, 1, 0, 0), (23, .if_icmp .ne 24, 3, 47, 0), (26, .aload_n 0, 1, 0, 0), (27, .invokevirtual 75, 3, 134, 1), (30, .iload 4, 2, 0, 0), (32, .if_icmp .gt 15, 3, 47, 0), (35, .iload_n 3, 1, 0, 0), (36, .aload_n 0, 1, 0, 0), (37, .invokevirtual 35, 3, 132, 1), (40, .if_icmp .gt 7, 3, 47, 0), (43, .iconst 1, 1, 0, 0), (44, .goto 4, 3, 48, 0), (47, .iconst 0, 1, 0, 0), (48, .ireturn, 1, 0, 0)]
def gM_131 : MethodName × ByteArray × Nat × Option FieldType × List (Nat × Nat × Nat × Nat) := (yX6_claims, cX6_claims, 5, (some .boolean), [])
/-- 132: StratumLedge$Merging.greatest()I -/
def gC_132 : List (Nat × gI) := [(0, .iconst (-1), 1, 0, 0), (1, .istore_n 1, 1, 0, 0), (2, .iconst 0, 1, 0, 0), (3, .istore_n 2, 1, 0, 0), (4, .iload_n 2, 1, 0, 0), (5, .aload_n 0, 1, 0, 0), (6, .getfield 12, 3, 7, 2), (9, .invokevirtual 56, 3, 173, 1), (12, .if_icmp .ge 28, 3, 40, 0), (15, .iload_n 1, 1, 0, 0), (16, .aload_n 0, 1, 0, 0), (17, .getfield 12, 3, 7, 2), (20, .iload_n 2, 1, 0, 0), (21, .invokevirtual 59, 3, 167, 2), (24, .checkcast 63, 3, 8, 0), (27, .getfield 87, 3, 8, 5), (30, .invokestatic 89, 3, 156, 2), (33, .istore_n 1, 1, 0, 0), (34, .iinc 2 1, 3, 0, 0), (37, .goto (-33), 3, 4, 0), (40, .iload_n 1, 1, 0, 0), (41, .ireturn, 1, 0, 0)]
def gM_132 : MethodName × ByteArray × Nat × Option FieldType × List (Nat × Nat × Nat × Nat) := (yX6_greatest, cX6_greatest, 3, (some .int), [])
/-- 133: StratumLedge$Merging.keepsUnder(LStratumLedge$Change;)Z -/
def gC_133 : List (Nat × gI) := [(0, .iconst 0, 1, 0, 0), (1, .istore_n 2, 1, 0, 0), (2, .iload_n 2, 1, 0, 0), (3, .aload_n 0, 1, 0, 0), (4, .getfield 18, 3, 7, 3), (7, .invokevirtual 56, 3, 173, 1), (10, .if_icmp .ge 49, 3, 59, 0), (13, .aload_n 0, 1, 0, 0), (14, .getfield 18, 3, 7, 3), (17, .iload_n 2, 1, 0, 0), (18, .invokevirtual 59, 3, 167, 2), (21, .checkcast 96, 3, 2, 0), (24, .astore_n 3, 1, 0, 0), (25, .aload_n 3, 1, 0, 0), (26, .getfield 98, 3, 2, 1), (29, .aload_n 1, 1, 0, 0), (30, .getfield 98, 3, 2, 1), (33, .if_icmp .ge 20, 3, 53, 0), (36, .aload_n 1, 1, 0, 0), (37, .aload_n 3, 1, 0, 0), (38, .getfield 101, 3, 2, 2), (41, .aload_n 3, 1, 0, 0), (42, .getfield 101, 3, 2, 2), (45, .invokevirtual 104, 3, 102, 3), (48, .ifCond .eq 5, 3, 53, 0), (51, .iconst 1, 1, 0, 0), (52, .ireturn, 1, 0, 0), (53, .iinc 2 1, 3, 0, 0), (56, .goto (-54), 3, 2, 0), (59, .iconst 0, 1, 0, 0), (60, .ireturn, 1, 0, 0)]
def gM_133 : MethodName × ByteArray × Nat × Option FieldType × List (Nat × Nat × Nat × Nat) := (yX6_keepsUnder, cX6_keepsUnder, 4, (some .boolean), [])
/-- 134: StratumLedge$Merging.least()I -/
def gC_134 : List (Nat × gI) := [(0, .bipush 100, 2, 0, 0), (2, .istore_n 1, 1, 0, 0), (3, .iconst 0, 1, 0, 0), (4, .istore_n 2, 1, 0, 0), (5, .iload_n 2, 1, 0, 0), (6, .aload_n 0, 1, 0, 0), (7, .getfield 12, 3, 7, 2), (10, .invokevirtual 56, 3, 173, 1), (13, .if_icmp .ge 28, 3, 41, 0), (16, .iload_n 1, 1, 0, 0), (17, .aload_n 0, 1, 0, 0), (18, .getfield 12, 3, 7, 2), (21, .iload_n 2, 1, 0, 0), (22, .invokevirtual 59, 3, 167, 2), (25, .checkcast 63, 3, 8, 0), (28, .getfield 65, 3, 8, 4), (31, .invokestatic 81, 3, 157, 2), (34, .istore_n 1, 1, 0, 0), (35, .iinc 2 1, 3, 0, 0), (38, .goto (-33), 3, 5, 0), (41, .iload_n 1, 1, 0, 0), (42, .ireturn, 1, 0, 0)]
def gM_134 : MethodName × ByteArray × Nat × Option FieldType × List (Nat × Nat × Nat × Nat) := (yX6_least, cX6_least, 3, (some .int), [])
/-- 135: StratumLedge$Merging.nextKey()I -/
def gC_135 : List (Nat × gI) := [(0, .bipush 100, 2, 0, 0), (2, .istore_n 1, 1, 0, 0), (3, .iconst 0, 1, 0, 0), (4, .istore_n 2, 1, 0, 0), (5, .iload_n 2, 1, 0, 0), (6, .aload_n 0, 1, 0, 0), (7, .getfield 12, 3, 7, 2), (10, .invokevirtual 56, 3, 173, 1), (13, .if_icmp .ge 32, 3, 45, 0), (16, .iload_n 1, 1, 0, 0), (17, .aload_n 0, 1, 0, 0), (18, .getfield 12, 3, 7, 2), (21, .iload_n 2, 1, 0, 0), (22, .invokevirtual 59, 3, 167, 2), (25, .checkcast 63, 3, 8, 0), (28, .aload_n 0, 1, 0, 0), (29, .getfield 21, 3, 7, 5), (32, .invokevirtual 92, 3, 145, 2), (35, .invokestatic 81, 3, 157, 2), (38, .istore_n 1, 1, 0, 0), (39, .iinc 2 1, 3, 0, 0), (42, .goto (-37), 3, 5, 0), (45, .iload_n 1, 1, 0, 0), (46, .ireturn, 1, 0, 0)]
def gM_135 : MethodName × ByteArray × Nat × Option FieldType × List (Nat × Nat × Nat × Nat) := (yX6_nextKey, cX6_nextKey, 3, (some .int), [])
/-- 136: StratumLedge$Run.<init>(IZLjava/util/ArrayList;Ljava/util/ArrayList;)V -/
def gC_136 : List (Nat × gI) := [(0, .aload_n 0, 1, 0, 0), (1, .invokespecial 3, 3, 900, 1), (4, .aload_n 0, 1, 0, 0), (5, .iload_n 1, 1, 0, 0), (6, .putfield 9, 3, 8, 0), (9, .aload_n 0, 1, 0, 0), (10, .iload_n 2, 1, 0, 0), (11, .putfield 15, 3, 8, 1), (14, .aload_n 0, 1, 0, 0), (15, .aload_n 3, 1, 0, 0), (16, .putfield 19, 3, 8, 2), (19, .aload_n 0, 1, 0, 0), (20, .aload 4, 2, 0, 0), (22, .putfield 23, 3, 8, 3), (25, .aload_n 0, 1, 0, 0), (26, .aload_n 3, 1, 0, 0), (27, .invokestatic 26, 3, 146, 1), (30, .aload 4, 2, 0, 0), (32, .invokestatic 26, 3, 146, 1), (35, .invokestatic 30, 3, 157, 2), (38, .putfield 36, 3, 8, 4), (41, .aload_n 0, 1, 0, 0), (42, .aload_n 3, 1, 0, 0), (43, .invokestatic 39, 3, 142, 1), (46, .aload 4, 2, 0, 0), (48, .invokestatic 39, 3, 142, 1), (51, .invokestatic 42, 3, 156, 2), (54, .putfield 45, 3, 8, 5), (57, .aload_n 0, 1, 0, 0), (58, .aload_n 3, 1, 0, 0), (59, .invokestatic 48, 3, 141, 1), (62, .putfield 52, 3, 8, 6), (65, .return_, 1, 0, 0)]
def gM_136 : MethodName × ByteArray × Nat × Option FieldType × List (Nat × Nat × Nat × Nat) := (yX7_init, cX7_init, 5, none, [])
/-- 137: StratumLedge$Run.addToWay(LStratumLedge$Change;ILjava/util/ArrayList;)V -/
def gC_137 : List (Nat × gI) := [(0, .aload_n 0, 1, 0, 0), (1, .iload_n 1, 1, 0, 0), (2, .iload_n 1, 1, 0, 0), (3, .invokevirtual 82, 3, 102, 3), (6, .ifCond .ne 4, 3, 10, 0), (9, .return_, 1, 0, 0), (10, .iconst 0, 1, 0, 0), (11, .istore_n 3, 1, 0, 0), (12, .iload_n 3, 1, 0, 0), (13, .aload_n 2, 1, 0, 0), (14, .invokevirtual 56, 3, 173, 1), (17, .if_icmp .ge 27, 3, 44, 0), (20, .aload_n 2, 1, 0, 0), (21, .iload_n 3, 1, 0, 0), (22, .invokevirtual 62, 3, 167, 2), (25, .checkcast 66, 3, 2, 0), (28, .getfield 86, 3, 2, 1), (31, .aload_n 0, 1, 0, 0), (32, .getfield 86, 3, 2, 1), (35, .if_icmp .le 9, 3, 44, 0), (38, .iinc 3 1, 3, 0, 0), (41, .goto (-29), 3, 12, 0), (44, .aload_n 2, 1, 0, 0), (45, .iload_n 3, 1, 0, 0), (46, .aload_n 0, 1, 0, 0), (47, .invokevirtual 89, 3, 161, 3), (50, .return_, 1, 0, 0)]
def gM_137 : MethodName × ByteArray × Nat × Option FieldType × List (Nat × Nat × Nat × Nat) := (yX7_addToWay, cX7_addToWay, 4, none, [])
/-- 138: StratumLedge$Run.bitFor(III)I -/
def gC_138 : List (Nat × gI) := [(0, .iload_n 2, 1, 0, 0), (1, .iconst 1, 1, 0, 0), (2, .if_icmp .ge 5, 3, 7, 0), (5, .iconst (-1), 1, 0, 0), (6, .ireturn, 1, 0, 0), (7, .iload_n 1, 1, 0, 0), (8, .lookupswitch 48 #[(0, 28), (1, 37)], 28, 0, 0), (36, .iload_n 0, 1, 0, 0), (37, .iconst 1, 1, 0, 0), (38, .iadd, 1, 0, 0), (39, .bipush 7, 2, 0, 0), (41, .imul, 1, 0, 0), (42, .iload_n 2, 1, 0, 0), (43, .irem, 1, 0, 0), (44, .ireturn, 1, 0, 0), (45, .iload_n 0, 1, 0, 0), (46, .iconst 1, 1, 0, 0), (47, .iadd, 1, 0, 0), (48, .bipush 11, 2, 0, 0), (50, .imul, 1, 0, 0), (51, .iconst 1, 1, 0, 0), (52, .iadd, 1, 0, 0), (53, .iload_n 2, 1, 0, 0), (54, .irem, 1, 0, 0), (55, .ireturn, 1, 0, 0), (56, .iload_n 0, 1, 0, 0), (57, .iconst 1, 1, 0, 0), (58, .iadd, 1, 0, 0), (59, .bipush 13, 2, 0, 0), (61, .imul, 1, 0, 0), (62, .iconst 2, 1, 0, 0), (63, .iadd, 1, 0, 0), (64, .iload_n 2, 1, 0, 0), (65, .irem, 1, 0, 0), (66, .ireturn, 1, 0, 0)]
def gM_138 : MethodName × ByteArray × Nat × Option FieldType × List (Nat × Nat × Nat × Nat) := (yX7_bitFor, cX7_bitFor, 3, (some .int), [])
/-- 139: StratumLedge$Run.collectOver(ILjava/util/ArrayList;)V -/
def gC_139 : List (Nat × gI) := [(0, .iconst 0, 1, 0, 0), (1, .istore_n 3, 1, 0, 0), (2, .iload_n 3, 1, 0, 0), (3, .aload_n 0, 1, 0, 0), (4, .getfield 19, 3, 8, 2), (7, .invokevirtual 56, 3, 173, 1), (10, .if_icmp .ge 25, 3, 35, 0), (13, .aload_n 0, 1, 0, 0), (14, .getfield 19, 3, 8, 2), (17, .iload_n 3, 1, 0, 0), (18, .invokevirtual 62, 3, 167, 2), (21, .checkcast 66, 3, 2, 0), (24, .iload_n 1, 1, 0, 0), (25, .aload_n 2, 1, 0, 0), (26, .invokestatic 78, 3, 137, 3), (29, .iinc 3 1, 3, 0, 0), (32, .goto (-30), 3, 2, 0), (35, .iconst 0, 1, 0, 0), (36, .istore_n 3, 1, 0, 0), (37, .iload_n 3, 1, 0, 0), (38, .aload_n 0, 1, 0, 0), (39, .getfield 23, 3, 8, 3), (42, .invokevirtual 56, 3, 173, 1), (45, .if_icmp .ge 25, 3, 70, 0), (48, .aload_n 0, 1, 0, 0), (49, .getfield 23, 3, 8, 3), (52, .iload_n 3, 1, 0, 0), (53, .invokevirtual 62, 3, 167, 2), (56, .checkcast 66, 3, 2, 0), (59, .iload_n 1, 1, 0, 0), (60, .aload_n 2, 1, 0, 0), (61, .invokestatic 78, 3, 137, 3), (64, .iinc 3 1, 3, 0, 0), (67, .goto (-30), 3, 37, 0), (70, .return_, 1, 0, 0)]
def gM_139 : MethodName × ByteArray × Nat × Option FieldType × List (Nat × Nat × Nat × Nat) := (yX7_collectOver, cX7_collectOver, 4, none, [])
/-- 140: StratumLedge$Run.countBlocksWith(I)I -/
def gC_140 : List (Nat × gI) := [(0, .iconst 0, 1, 0, 0), (1, .istore_n 2, 1, 0, 0), (2, .iconst (-1), 1, 0, 0), (3, .istore_n 3, 1, 0, 0), (4, .iconst 0, 1, 0, 0), (5, .istore 4, 2, 0, 0), (7, .iload 4, 2, 0, 0), (9, .aload_n 0, 1, 0, 0), (10, .getfield 19, 3, 8, 2), (13, .invokevirtual 56, 3, 173, 1), (16, .if_icmp .ge 46, 3, 62, 0), (19, .iload 4, 2, 0, 0), (21, .iconst 4, 1, 0, 0), (22, .idiv, 1, 0, 0), (23, .istore 5, 2, 0, 0), (25, .aload_n 0, 1, 0, 0), (26, .getfield 19, 3, 8, 2), (29, .iload 4, 2, 0, 0), (31, .invokevirtual 62, 3, 167, 2), (34, .checkcast 66, 3, 2, 0), (37, .getfield 68, 3, 2, 2), (40, .iload_n 1, 1, 0, 0), (41, .if_icmp .ne 15, 3, 56, 0), (44, .iload 5, 2, 0, 0), (46, .iload_n 3, 1, 0, 0), (47, .if_icmp .eq 9, 3, 56, 0), (50, .iload 5, 2, 0, 0), (52, .istore_n 3, 1, 0, 0), (53, .iinc 2 1, 3, 0, 0), (56, .iinc 4 1, 3, 0, 0), (59, .goto (-52), 3, 7, 0), (62, .iload_n 2, 1, 0, 0), (63, .ireturn, 1, 0, 0)]
def gM_140 : MethodName × ByteArray × Nat × Option FieldType × List (Nat × Nat × Nat × Nat) := (yX7_countBlocksWith, cX7_countBlocksWith, 6, (some .int), [])
/-- 141: StratumLedge$Run.filterOf(Ljava/util/ArrayList;)[Z -/
def gC_141 : List (Nat × gI) := [(0, .iconst 0, 1, 0, 0), (1, .istore_n 1, 1, 0, 0), (2, .iconst 0, 1, 0, 0), (3, .istore_n 2, 1, 0, 0), (4, .iload_n 2, 1, 0, 0), (5, .aload_n 0, 1, 0, 0), (6, .invokevirtual 56, 3, 173, 1), (9, .if_icmp .ge 43, 3, 52, 0), (12, .iload_n 2, 1, 0, 0), (13, .ifCond .eq 30, 3, 43, 0), (16, .aload_n 0, 1, 0, 0), (17, .iload_n 2, 1, 0, 0), (18, .invokevirtual 62, 3, 167, 2), (21, .checkcast 66, 3, 2, 0), (24, .getfield 68, 3, 2, 2), (27, .aload_n 0, 1, 0, 0), (28, .iload_n 2, 1, 0, 0), (29, .iconst 1, 1, 0, 0), (30, .isub, 1, 0, 0), (31, .invokevirtual 62, 3, 167, 2), (34, .checkcast 66, 3, 2, 0), (37, .getfield 68, 3, 2, 2), (40, .if_icmp .eq 6, 3, 46, 0), (43, .iinc 1 1, 3, 0, 0), (46, .iinc 2 1, 3, 0, 0), (49, .goto (-45), 3, 4, 0), (52, .iload_n 1, 1, 0, 0), (53, .bipush 8, 2, 0, 0), (55, .imul, 1, 0, 0), (56, .newarray .boolean, 2, 0, 0), (58, .astore_n 2, 1, 0, 0), (59, .iconst 0, 1, 0, 0), (60, .istore_n 3, 1, 0, 0), (61, .iload_n 3, 1, 0, 0), (62, .aload_n 0, 1, 0, 0), (63, .invokevirtual 56, 3, 173, 1), (66, .if_icmp .ge 61, 3, 127, 0), (69, .iconst 0, 1, 0, 0), (70, .istore 4, 2, 0, 0), (72, .iload 4, 2, 0, 0), (74, .iconst 3, 1, 0, 0), (75, .if_icmp .ge 46, 3, 121, 0), (78, .aload_n 0, 1, 0, 0), (79, .iload_n 3, 1, 0, 0), (80, .invokevirtual 62, 3, 167, 2), (83, .checkcast 66, 3, 2, 0), (86, .getfield 68, 3, 2, 2), (89, .iload 4, 2, 0, 0), (91, .aload_n 2, 1, 0, 0), (92, .arraylength, 1, 0, 0), (93, .invokestatic 74, 3, 138, 3), (96, .istore 5, 2, 0, 0), (98, .iload 5, 2, 0, 0), (100, .ifCond .lt 15, 3, 115, 0), (103, .iload 5, 2, 0, 0), (105, .aload_n 2, 1, 0, 0), (106, .arraylength, 1, 0, 0), (107, .if_icmp .ge 8, 3, 115, 0), (110, .aload_n 2, 1, 0, 0), (111, .iload 5, 2, 0, 0), (113, .iconst 1, 1, 0, 0), (114, .bastore, 1, 0, 0), (115, .iinc 4 1, 3, 0, 0), (118, .goto (-46), 3, 72, 0), (121, .iinc 3 1, 3, 0, 0), (124, .goto (-63), 3, 61, 0), (127, .aload_n 2, 1, 0, 0), (128, .areturn, 1, 0, 0)]
def gM_141 : MethodName × ByteArray × Nat × Option FieldType × List (Nat × Nat × Nat × Nat) := (yX7_filterOf, cX7_filterOf, 6, (some (.array .boolean)), [])
/-- 142: StratumLedge$Run.greatestOf(Ljava/util/ArrayList;)I -/
def gC_142 : List (Nat × gI) := [(0, .iconst (-1), 1, 0, 0), (1, .istore_n 1, 1, 0, 0), (2, .iconst 0, 1, 0, 0), (3, .istore_n 2, 1, 0, 0), (4, .iload_n 2, 1, 0, 0), (5, .aload_n 0, 1, 0, 0), (6, .invokevirtual 56, 3, 173, 1), (9, .if_icmp .ge 25, 3, 34, 0), (12, .iload_n 1, 1, 0, 0), (13, .aload_n 0, 1, 0, 0), (14, .iload_n 2, 1, 0, 0), (15, .invokevirtual 62, 3, 167, 2), (18, .checkcast 66, 3, 2, 0), (21, .getfield 71, 3, 2, 3), (24, .invokestatic 42, 3, 156, 2), (27, .istore_n 1, 1, 0, 0), (28, .iinc 2 1, 3, 0, 0), (31, .goto (-27), 3, 4, 0), (34, .iload_n 1, 1, 0, 0), (35, .ireturn, 1, 0, 0)]
def gM_142 : MethodName × ByteArray × Nat × Option FieldType × List (Nat × Nat × Nat × Nat) := (yX7_greatestOf, cX7_greatestOf, 3, (some .int), [])
/-- 143: StratumLedge$Run.isOfFairSize()Z -/
def gC_143 : List (Nat × gI) := [(0, .aload_n 0, 1, 0, 0), (1, .getfield 15, 3, 8, 1), (4, .ifCond .eq 25, 3, 29, 0), (7, .aload_n 0, 1, 0, 0), (8, .getfield 19, 3, 8, 2), (11, .invokevirtual 56, 3, 173, 1), (14, .bipush 6, 2, 0, 0), (16, .if_icmp .le 13, 3, 29, 0), (19, .aload_n 0, 1, 0, 0), (20, .getfield 52, 3, 8, 6), (23, .arraylength, 1, 0, 0), (24, .bipush 8, 2, 0, 0), (26, .if_icmp .gt 7, 3, 33, 0), (29, .iconst 1, 1, 0, 0), (30, .goto 4, 3, 34, 0), (33, .iconst 0, 1, 0, 0), (34, .ireturn, 1, 0, 0)]
def gM_143 : MethodName × ByteArray × Nat × Option FieldType × List (Nat × Nat × Nat × Nat) := (yX7_isOfFairSize, cX7_isOfFairSize, 1, (some .boolean), [])
/-- 144: StratumLedge$Run.isPassedBy(I)Z -/
def gC_144 : List (Nat × gI) := [(0, .iconst 0, 1, 0, 0), (1, .istore_n 2, 1, 0, 0), (2, .iload_n 2, 1, 0, 0), (3, .iconst 3, 1, 0, 0), (4, .if_icmp .ge 44, 3, 48, 0), (7, .iload_n 1, 1, 0, 0), (8, .iload_n 2, 1, 0, 0), (9, .aload_n 0, 1, 0, 0), (10, .getfield 52, 3, 8, 6), (13, .arraylength, 1, 0, 0), (14, .invokestatic 74, 3, 138, 3), (17, .istore_n 3, 1, 0, 0), (18, .iload_n 3, 1, 0, 0), (19, .ifCond .lt 21, 3, 40, 0), (22, .iload_n 3, 1, 0, 0), (23, .aload_n 0, 1, 0, 0), (24, .getfield 52, 3, 8, 6), (27, .arraylength, 1, 0, 0), (28, .if_icmp .ge 12, 3, 40, 0), (31, .aload_n 0, 1, 0, 0), (32, .getfield 52, 3, 8, 6), (35, .iload_n 3, 1, 0, 0), (36, .baload, 1, 0, 0), (37, .ifCond .ne 5, 3, 42, 0), (40, .iconst 0, 1, 0, 0), (41, .ireturn, 1, 0, 0), (42, .iinc 2 1, 3, 0, 0), (45, .goto (-43), 3, 2, 0), (48, .iconst 1, 1, 0, 0), (49, .ireturn, 1, 0, 0)]
def gM_144 : MethodName × ByteArray × Nat × Option FieldType × List (Nat × Nat × Nat × Nat) := (yX7_isPassedBy, cX7_isPassedBy, 4, (some .boolean), [])
/-- 145: StratumLedge$Run.keyBehind(I)I -/
def gC_145 : List (Nat × gI) := [(0, .iconst 0, 1, 0, 0), (1, .istore_n 2, 1, 0, 0), (2, .iload_n 2, 1, 0, 0), (3, .aload_n 0, 1, 0, 0), (4, .getfield 19, 3, 8, 2), (7, .invokevirtual 56, 3, 173, 1), (10, .if_icmp .ge 42, 3, 52, 0), (13, .aload_n 0, 1, 0, 0), (14, .getfield 19, 3, 8, 2), (17, .iload_n 2, 1, 0, 0), (18, .invokevirtual 62, 3, 167, 2), (21, .checkcast 66, 3, 2, 0), (24, .getfield 68, 3, 2, 2), (27, .iload_n 1, 1, 0, 0), (28, .if_icmp .le 18, 3, 46, 0), (31, .aload_n 0, 1, 0, 0), (32, .getfield 19, 3, 8, 2), (35, .iload_n 2, 1, 0, 0), (36, .invokevirtual 62, 3, 167, 2), (39, .checkcast 66, 3, 2, 0), (42, .getfield 68, 3, 2, 2), (45, .ireturn, 1, 0, 0), (46, .iinc 2 1, 3, 0, 0), (49, .goto (-47), 3, 2, 0), (52, .bipush 100, 2, 0, 0), (54, .ireturn, 1, 0, 0)]
def gM_145 : MethodName × ByteArray × Nat × Option FieldType × List (Nat × Nat × Nat × Nat) := (yX7_keyBehind, cX7_keyBehind, 3, (some .int), [])
/-- 146: StratumLedge$Run.leastOf(Ljava/util/ArrayList;)I -/
def gC_146 : List (Nat × gI) := [(0, .bipush 100, 2, 0, 0), (2, .istore_n 1, 1, 0, 0), (3, .iconst 0, 1, 0, 0), (4, .istore_n 2, 1, 0, 0), (5, .iload_n 2, 1, 0, 0), (6, .aload_n 0, 1, 0, 0), (7, .invokevirtual 56, 3, 173, 1), (10, .if_icmp .ge 25, 3, 35, 0), (13, .iload_n 1, 1, 0, 0), (14, .aload_n 0, 1, 0, 0), (15, .iload_n 2, 1, 0, 0), (16, .invokevirtual 62, 3, 167, 2), (19, .checkcast 66, 3, 2, 0), (22, .getfield 68, 3, 2, 2), (25, .invokestatic 30, 3, 157, 2), (28, .istore_n 1, 1, 0, 0), (29, .iinc 2 1, 3, 0, 0), (32, .goto (-27), 3, 5, 0), (35, .iload_n 1, 1, 0, 0), (36, .ireturn, 1, 0, 0)]
def gM_146 : MethodName × ByteArray × Nat × Option FieldType × List (Nat × Nat × Nat × Nat) := (yX7_leastOf, cX7_leastOf, 3, (some .int), [])
/-- 147: StratumLedge$Run.overlaps(II)Z -/
def gC_147 : List (Nat × gI) := [(0, .aload_n 0, 1, 0, 0), (1, .getfield 36, 3, 8, 4), (4, .iload_n 2, 1, 0, 0), (5, .if_icmp .gt 15, 3, 20, 0), (8, .iload_n 1, 1, 0, 0), (9, .aload_n 0, 1, 0, 0), (10, .getfield 45, 3, 8, 5), (13, .if_icmp .gt 7, 3, 20, 0), (16, .iconst 1, 1, 0, 0), (17, .goto 4, 3, 21, 0), (20, .iconst 0, 1, 0, 0), (21, .ireturn, 1, 0, 0)]
def gM_147 : MethodName × ByteArray × Nat × Option FieldType × List (Nat × Nat × Nat × Nat) := (yX7_overlaps, cX7_overlaps, 3, (some .boolean), [])
/-- 148: StratumLedge$Run.weight()I -/
def gC_148 : List (Nat × gI) := [(0, .aload_n 0, 1, 0, 0), (1, .getfield 19, 3, 8, 2), (4, .invokevirtual 56, 3, 173, 1), (7, .aload_n 0, 1, 0, 0), (8, .getfield 23, 3, 8, 3), (11, .invokevirtual 56, 3, 173, 1), (14, .iadd, 1, 0, 0), (15, .ireturn, 1, 0, 0)]
def gM_148 : MethodName × ByteArray × Nat × Option FieldType × List (Nat × Nat × Nat × Nat) := (yX7_weight, cX7_weight, 1, (some .int), [])
/-- 149: StratumLedge$Snapshot.<init>(II)V -/
def gC_149 : List (Nat × gI) := [(0, .aload_n 0, 1, 0, 0), (1, .invokespecial 1, 3, 900, 1), (4, .aload_n 0, 1, 0, 0), (5, .iload_n 1, 1, 0, 0), (6, .putfield 7, 3, 9, 0), (9, .aload_n 0, 1, 0, 0), (10, .iload_n 2, 1, 0, 0), (11, .putfield 13, 3, 9, 1), (14, .return_, 1, 0, 0)]
def gM_149 : MethodName × ByteArray × Nat × Option FieldType × List (Nat × Nat × Nat × Nat) := (yX8_init, cX8_init, 3, none, [])
/-- 150: StratumLedge$Write.<init>(ILStratumLedge$Change;II)V -/
def gC_150 : List (Nat × gI) := [(0, .aload_n 0, 1, 0, 0), (1, .invokespecial 3, 3, 900, 1), (4, .aload_n 0, 1, 0, 0), (5, .iload_n 1, 1, 0, 0), (6, .putfield 9, 3, 10, 0), (9, .aload_n 0, 1, 0, 0), (10, .aload_n 2, 1, 0, 0), (11, .putfield 15, 3, 10, 1), (14, .aload_n 0, 1, 0, 0), (15, .iload_n 3, 1, 0, 0), (16, .putfield 19, 3, 10, 2), (19, .aload_n 0, 1, 0, 0), (20, .iload 4, 2, 0, 0), (22, .putfield 22, 3, 10, 3), (25, .return_, 1, 0, 0)]
def gM_150 : MethodName × ByteArray × Nat × Option FieldType × List (Nat × Nat × Nat × Nat) := (yX9_init, cX9_init, 5, none, [])
/-- 151: StratumLedge$Write.isBroughtIn()Z -/
def gC_151 : List (Nat × gI) := [(0, .aload_n 0, 1, 0, 0), (1, .getfield 19, 3, 10, 2), (4, .ifCond .le 7, 3, 11, 0), (7, .iconst 1, 1, 0, 0), (8, .goto 4, 3, 12, 0), (11, .iconst 0, 1, 0, 0), (12, .ireturn, 1, 0, 0)]
def gM_151 : MethodName × ByteArray × Nat × Option FieldType × List (Nat × Nat × Nat × Nat) := (yX9_isBroughtIn, cX9_isBroughtIn, 1, (some .boolean), [])
/-- 152: StratumLedge$Write.isInMemory()Z -/
def gC_152 : List (Nat × gI) := [(0, .aload_n 0, 1, 0, 0), (1, .getfield 22, 3, 10, 3), (4, .iconst 1, 1, 0, 0), (5, .if_icmp .eq 11, 3, 16, 0), (8, .aload_n 0, 1, 0, 0), (9, .getfield 22, 3, 10, 3), (12, .iconst 2, 1, 0, 0), (13, .if_icmp .ne 7, 3, 20, 0), (16, .iconst 1, 1, 0, 0), (17, .goto 4, 3, 21, 0), (20, .iconst 0, 1, 0, 0), (21, .ireturn, 1, 0, 0)]
def gM_152 : MethodName × ByteArray × Nat × Option FieldType × List (Nat × Nat × Nat × Nat) := (yX9_isInMemory, cX9_isInMemory, 1, (some .boolean), [])
/-- 153: StratumLedge$Write.isInMemoryOf(LStratumLedge$Family;)Z -/
def gC_153 : List (Nat × gI) := [(0, .aload_n 0, 1, 0, 0), (1, .getfield 9, 3, 10, 0), (4, .aload_n 1, 1, 0, 0), (5, .getfield 25, 3, 4, 0), (8, .if_icmp .ne 14, 3, 22, 0), (11, .aload_n 0, 1, 0, 0), (12, .invokevirtual 30, 3, 152, 1), (15, .ifCond .eq 7, 3, 22, 0), (18, .iconst 1, 1, 0, 0), (19, .goto 4, 3, 23, 0), (22, .iconst 0, 1, 0, 0), (23, .ireturn, 1, 0, 0)]
def gM_153 : MethodName × ByteArray × Nat × Option FieldType × List (Nat × Nat × Nat × Nat) := (yX9_isInMemoryOf, cX9_isInMemoryOf, 2, (some .boolean), [])
/-- 154: StratumLedge$Write.isOf(LStratumLedge$Family;)Z -/
def gC_154 : List (Nat × gI) := [(0, .aload_n 0, 1, 0, 0), (1, .getfield 9, 3, 10, 0), (4, .aload_n 1, 1, 0, 0), (5, .getfield 25, 3, 4, 0), (8, .if_icmp .ne 14, 3, 22, 0), (11, .aload_n 0, 1, 0, 0), (12, .getfield 22, 3, 10, 3), (15, .ifCond .eq 7, 3, 22, 0), (18, .iconst 1, 1, 0, 0), (19, .goto 4, 3, 23, 0), (22, .iconst 0, 1, 0, 0), (23, .ireturn, 1, 0, 0)]
def gM_154 : MethodName × ByteArray × Nat × Option FieldType × List (Nat × Nat × Nat × Nat) := (yX9_isOf, cX9_isOf, 2, (some .boolean), [])
/-- 155: StratumLedge$Write.touches(I)Z -/
def gC_155 : List (Nat × gI) := [(0, .aload_n 0, 1, 0, 0), (1, .getfield 15, 3, 10, 1), (4, .iload_n 1, 1, 0, 0), (5, .iload_n 1, 1, 0, 0), (6, .invokevirtual 34, 3, 102, 3), (9, .ifCond .eq 32, 3, 41, 0), (12, .aload_n 0, 1, 0, 0), (13, .getfield 19, 3, 10, 2), (16, .iconst 1, 1, 0, 0), (17, .if_icmp .lt 20, 3, 37, 0), (20, .iload_n 1, 1, 0, 0), (21, .aload_n 0, 1, 0, 0), (22, .getfield 15, 3, 10, 1), (25, .getfield 40, 3, 2, 2), (28, .isub, 1, 0, 0), (29, .aload_n 0, 1, 0, 0), (30, .getfield 19, 3, 10, 2), (33, .irem, 1, 0, 0), (34, .ifCond .ne 7, 3, 41, 0), (37, .iconst 1, 1, 0, 0), (38, .goto 4, 3, 42, 0), (41, .iconst 0, 1, 0, 0), (42, .ireturn, 1, 0, 0)]
def gM_155 : MethodName × ByteArray × Nat × Option FieldType × List (Nat × Nat × Nat × Nat) := (yX9_touches, cX9_touches, 2, (some .boolean), [])
/-- 156: java/lang/Math.max(II)I -/
def gC_156 : List (Nat × gI) := [(0, .iload_n 0, 1, 0, 0), (1, .iload_n 1, 1, 0, 0), (2, .if_icmp .lt 7, 3, 9, 0), (5, .iload_n 0, 1, 0, 0), (6, .goto 4, 3, 10, 0), (9, .iload_n 1, 1, 0, 0), (10, .ireturn, 1, 0, 0)]
def gM_156 : MethodName × ByteArray × Nat × Option FieldType × List (Nat × Nat × Nat × Nat) := (yJ9_max_7cf53, cJ9_max_7cf53, 2, (some .int), [])
/-- 157: java/lang/Math.min(II)I -/
def gC_157 : List (Nat × gI) := [(0, .iload_n 0, 1, 0, 0), (1, .iload_n 1, 1, 0, 0), (2, .if_icmp .gt 7, 3, 9, 0), (5, .iload_n 0, 1, 0, 0), (6, .goto 4, 3, 10, 0), (9, .iload_n 1, 1, 0, 0), (10, .ireturn, 1, 0, 0)]
def gM_157 : MethodName × ByteArray × Nat × Option FieldType × List (Nat × Nat × Nat × Nat) := (yJ9_min_7cf53, cJ9_min_7cf53, 2, (some .int), [])
/-- 158: java/util/AbstractCollection.<init>()V -/
def gC_158 : List (Nat × gI) := [(0, .aload_n 0, 1, 0, 0), (1, .invokespecial 1, 3, 900, 1), (4, .return_, 1, 0, 0)]
def gM_158 : MethodName × ByteArray × Nat × Option FieldType × List (Nat × Nat × Nat × Nat) := (yJxa1e45_init_da8c8, cJxa1e45_init_da8c8, 1, none, [])
/-- 159: java/util/AbstractList.<init>()V -/
def gC_159 : List (Nat × gI) := [(0, .aload_n 0, 1, 0, 0), (1, .invokespecial 1, 3, 158, 1), (4, .aload_n 0, 1, 0, 0), (5, .iconst 0, 1, 0, 0), (6, .putfield 7, 3, 0, 0), (9, .return_, 1, 0, 0)]
def gM_159 : MethodName × ByteArray × Nat × Option FieldType × List (Nat × Nat × Nat × Nat) := (yJxc12de_init_da8c8, cJxc12de_init_da8c8, 1, none, [])
/-- 160: java/util/ArrayList.<init>()V -/
def gC_160 : List (Nat × gI) := [(0, .aload_n 0, 1, 0, 0), (1, .invokespecial 1, 3, 159, 1), (4, .aload_n 0, 1, 0, 0), (5, .getstatic 39, 3, 2, 0), (8, .putfield 9, 3, 0, 1), (11, .return_, 1, 0, 0)]
def gM_160 : MethodName × ByteArray × Nat × Option FieldType × List (Nat × Nat × Nat × Nat) := (yJx4a65c_init_da8c8, cJx4a65c_init_da8c8, 1, none, [])
/-- 161: java/util/ArrayList.add(ILjava/lang/Object;)V -/
def gC_161 : List (Nat × gI) := [(0, .aload_n 0, 1, 0, 0), (1, .iload_n 1, 1, 0, 0), (2, .invokevirtual 135, 3, 171, 2), (5, .aload_n 0, 1, 0, 0), (6, .dup, 1, 0, 0), (7, .getfield 63, 3, 0, 0), (10, .iconst 1, 1, 0, 0), (11, .iadd, 1, 0, 0), (12, .putfield 63, 3, 0, 0), (15, .aload_n 0, 1, 0, 0), (16, .getfield 48, 3, 0, 2), (19, .dup, 1, 0, 0), (20, .istore_n 3, 1, 0, 0), (21, .aload_n 0, 1, 0, 0), (22, .getfield 9, 3, 0, 1), (25, .dup, 1, 0, 0), (26, .astore 4, 2, 0, 0), (28, .arraylength, 1, 0, 0), (29, .if_icmp .ne 9, 3, 38, 0), (32, .aload_n 0, 1, 0, 0), (33, .invokevirtual 129, 3, 168, 1), (36, .astore 4, 2, 0, 0), (38, .aload 4, 2, 0, 0), (40, .iload_n 1, 1, 0, 0), (41, .aload 4, 2, 0, 0), (43, .iload_n 1, 1, 0, 0), (44, .iconst 1, 1, 0, 0), (45, .iadd, 1, 0, 0), (46, .iload_n 3, 1, 0, 0), (47, .iload_n 1, 1, 0, 0), (48, .isub, 1, 0, 0), (49, .invokestatic 112, 3, 901, 5), (52, .aload 4, 2, 0, 0), (54, .iload_n 1, 1, 0, 0), (55, .aload_n 2, 1, 0, 0), (56, .aastore, 1, 0, 0), (57, .aload_n 0, 1, 0, 0), (58, .iload_n 3, 1, 0, 0), (59, .iconst 1, 1, 0, 0), (60, .iadd, 1, 0, 0), (61, .putfield 48, 3, 0, 2), (64, .return_, 1, 0, 0)]
def gM_161 : MethodName × ByteArray × Nat × Option FieldType × List (Nat × Nat × Nat × Nat) := (yJx4a65c_add_7a177, cJx4a65c_add_7a177, 5, none, [])
/-- 162: java/util/ArrayList.add(Ljava/lang/Object;)Z -/
def gC_162 : List (Nat × gI) := [(0, .aload_n 0, 1, 0, 0), (1, .dup, 1, 0, 0), (2, .getfield 63, 3, 0, 0), (5, .iconst 1, 1, 0, 0), (6, .iadd, 1, 0, 0), (7, .putfield 63, 3, 0, 0), (10, .aload_n 0, 1, 0, 0), (11, .aload_n 1, 1, 0, 0), (12, .aload_n 0, 1, 0, 0), (13, .getfield 9, 3, 0, 1), (16, .aload_n 0, 1, 0, 0), (17, .getfield 48, 3, 0, 2), (20, .invokevirtual 131, 3, 163, 4), (23, .iconst 1, 1, 0, 0), (24, .ireturn, 1, 0, 0)]
def gM_162 : MethodName × ByteArray × Nat × Option FieldType × List (Nat × Nat × Nat × Nat) := (yJx4a65c_add_9ea2d, cJx4a65c_add_9ea2d, 2, (some .boolean), [])
/-- 163: java/util/ArrayList.add(Ljava/lang/Object;[Ljava/lang/Object;I)V -/
def gC_163 : List (Nat × gI) := [(0, .iload_n 3, 1, 0, 0), (1, .aload_n 2, 1, 0, 0), (2, .arraylength, 1, 0, 0), (3, .if_icmp .ne 8, 3, 11, 0), (6, .aload_n 0, 1, 0, 0), (7, .invokevirtual 129, 3, 168, 1), (10, .astore_n 2, 1, 0, 0), (11, .aload_n 2, 1, 0, 0), (12, .iload_n 3, 1, 0, 0), (13, .aload_n 1, 1, 0, 0), (14, .aastore, 1, 0, 0), (15, .aload_n 0, 1, 0, 0), (16, .iload_n 3, 1, 0, 0), (17, .iconst 1, 1, 0, 0), (18, .iadd, 1, 0, 0), (19, .putfield 48, 3, 0, 2), (22, .return_, 1, 0, 0)]
def gM_163 : MethodName × ByteArray × Nat × Option FieldType × List (Nat × Nat × Nat × Nat) := (yJx4a65c_add_72be8, cJx4a65c_add_72be8, 4, none, [])
/-- 164: java/util/ArrayList.clear()V -/
def gC_164 : List (Nat × gI) := [(0, .aload_n 0, 1, 0, 0), (1, .dup, 1, 0, 0), (2, .getfield 63, 3, 0, 0), (5, .iconst 1, 1, 0, 0), (6, .iadd, 1, 0, 0), (7, .putfield 63, 3, 0, 0), (10, .aload_n 0, 1, 0, 0), (11, .getfield 9, 3, 0, 1), (14, .astore_n 1, 1, 0, 0), (15, .aload_n 0, 1, 0, 0), (16, .getfield 48, 3, 0, 2), (19, .istore_n 2, 1, 0, 0), (20, .aload_n 0, 1, 0, 0), (21, .iconst 0, 1, 0, 0), (22, .dup_x1, 1, 0, 0), (23, .putfield 48, 3, 0, 2), (26, .istore_n 3, 1, 0, 0), (27, .iload_n 3, 1, 0, 0), (28, .iload_n 2, 1, 0, 0), (29, .if_icmp .ge 13, 3, 42, 0), (32, .aload_n 1, 1, 0, 0), (33, .iload_n 3, 1, 0, 0), (34, .aconst_null, 1, 0, 0), (35, .aastore, 1, 0, 0), (36, .iinc 3 1, 3, 0, 0), (39, .goto (-12), 3, 27, 0), (42, .return_, 1, 0, 0)]
def gM_164 : MethodName × ByteArray × Nat × Option FieldType × List (Nat × Nat × Nat × Nat) := (yJx4a65c_clear_da8c8, cJx4a65c_clear_da8c8, 4, none, [])
/-- 165: java/util/ArrayList.elementData(I)Ljava/lang/Object; -/
def gC_165 : List (Nat × gI) := [(0, .aload_n 0, 1, 0, 0), (1, .getfield 9, 3, 0, 1), (4, .iload_n 1, 1, 0, 0), (5, .aaload, 1, 0, 0), (6, .areturn, 1, 0, 0)]
def gM_165 : MethodName × ByteArray × Nat × Option FieldType × List (Nat × Nat × Nat × Nat) := (yJx4a65c_elementData_915e3, cJx4a65c_elementData_915e3, 2, (some (.object "java/lang/Object")), [])
/-- 166: java/util/ArrayList.fastRemove([Ljava/lang/Object;I)V -/
def gC_166 : List (Nat × gI) := [(0, .aload_n 0, 1, 0, 0), (1, .dup, 1, 0, 0), (2, .getfield 63, 3, 0, 0), (5, .iconst 1, 1, 0, 0), (6, .iadd, 1, 0, 0), (7, .putfield 63, 3, 0, 0), (10, .aload_n 0, 1, 0, 0), (11, .getfield 48, 3, 0, 2), (14, .iconst 1, 1, 0, 0), (15, .isub, 1, 0, 0), (16, .dup, 1, 0, 0), (17, .istore_n 3, 1, 0, 0), (18, .iload_n 2, 1, 0, 0), (19, .if_icmp .le 15, 3, 34, 0), (22, .aload_n 1, 1, 0, 0), (23, .iload_n 2, 1, 0, 0), (24, .iconst 1, 1, 0, 0), (25, .iadd, 1, 0, 0), (26, .aload_n 1, 1, 0, 0), (27, .iload_n 2, 1, 0, 0), (28, .iload_n 3, 1, 0, 0), (29, .iload_n 2, 1, 0, 0), (30, .isub, 1, 0, 0), (31, .invokestatic 112, 3, 901, 5), (34, .aload_n 1, 1, 0, 0), (35, .aload_n 0, 1, 0, 0), (36, .iload_n 3, 1, 0, 0), (37, .dup_x1, 1, 0, 0), (38, .putfield 48, 3, 0, 2), (41, .aconst_null, 1, 0, 0), (42, .aastore, 1, 0, 0), (43, .return_, 1, 0, 0)]
def gM_166 : MethodName × ByteArray × Nat × Option FieldType × List (Nat × Nat × Nat × Nat) := (yJx4a65c_fastRemove_b59b0, cJx4a65c_fastRemove_b59b0, 4, none, [])
/-- 167: java/util/ArrayList.get(I)Ljava/lang/Object; -/
def gC_167 : List (Nat × gI) := [(0, .iload_n 1, 1, 0, 0), (1, .aload_n 0, 1, 0, 0), (2, .getfield 48, 3, 0, 2), (5, .invokestatic 118, 3, 176, 2), (8, .pop, 1, 0, 0), (9, .aload_n 0, 1, 0, 0), (10, .iload_n 1, 1, 0, 0), (11, .invokevirtual 123, 3, 165, 2), (14, .areturn, 1, 0, 0)]
def gM_167 : MethodName × ByteArray × Nat × Option FieldType × List (Nat × Nat × Nat × Nat) := (yJx4a65c_get_915e3, cJx4a65c_get_915e3, 2, (some (.object "java/lang/Object")), [])
/-- 168: java/util/ArrayList.grow()[Ljava/lang/Object; -/
def gC_168 : List (Nat × gI) := [(0, .aload_n 0, 1, 0, 0), (1, .aload_n 0, 1, 0, 0), (2, .getfield 48, 3, 0, 2), (5, .iconst 1, 1, 0, 0), (6, .iadd, 1, 0, 0), (7, .invokevirtual 69, 3, 169, 2), (10, .areturn, 1, 0, 0)]
def gM_168 : MethodName × ByteArray × Nat × Option FieldType × List (Nat × Nat × Nat × Nat) := (yJx4a65c_grow_d5877, cJx4a65c_grow_d5877, 1, (some (.array (.object "java/lang/Object"))), [])
/-- 169: java/util/ArrayList.grow(I)[Ljava/lang/Object; -/
def gC_169 : List (Nat × gI) := [(0, .aload_n 0, 1, 0, 0), (1, .getfield 9, 3, 0, 1), (4, .arraylength, 1, 0, 0), (5, .istore_n 2, 1, 0, 0), (6, .iload_n 2, 1, 0, 0), (7, .ifCond .gt 13, 3, 20, 0), (10, .aload_n 0, 1, 0, 0), (11, .getfield 9, 3, 0, 1), (14, .getstatic 39, 3, 2, 0), (17, .if_acmp .eq 28, 3, 45, 0), (20, .iload_n 2, 1, 0, 0), (21, .iload_n 1, 1, 0, 0), (22, .iload_n 2, 1, 0, 0), (23, .isub, 1, 0, 0), (24, .iload_n 2, 1, 0, 0), (25, .iconst 1, 1, 0, 0), (26, .ishr, 1, 0, 0), (27, .invokestatic 73, 3, 177, 3), (30, .istore_n 3, 1, 0, 0), (31, .aload_n 0, 1, 0, 0), (32, .aload_n 0, 1, 0, 0), (33, .getfield 9, 3, 0, 1), (36, .iload_n 3, 1, 0, 0), (37, .invokestatic 66, 3, 174, 2), (40, .dup_x1, 1, 0, 0), (41, .putfield 9, 3, 0, 1), (44, .areturn, 1, 0, 0), (45, .aload_n 0, 1, 0, 0), (46, .bipush 10, 2, 0, 0), (48, .iload_n 1, 1, 0, 0), (49, .invokestatic 79, 3, 156, 2), (52, .anewarray 7, 3, 0, 0), (55, .dup_x1, 1, 0, 0), (56, .putfield 9, 3, 0, 1), (59, .areturn, 1, 0, 0)]
def gM_169 : MethodName × ByteArray × Nat × Option FieldType × List (Nat × Nat × Nat × Nat) := (yJx4a65c_grow_92f84, cJx4a65c_grow_92f84, 4, (some (.array (.object "java/lang/Object"))), [])
/-- 170: java/util/ArrayList.isEmpty()Z -/
def gC_170 : List (Nat × gI) := [(0, .aload_n 0, 1, 0, 0), (1, .getfield 48, 3, 0, 2), (4, .ifCond .ne 7, 3, 11, 0), (7, .iconst 1, 1, 0, 0), (8, .goto 4, 3, 12, 0), (11, .iconst 0, 1, 0, 0), (12, .ireturn, 1, 0, 0)]
def gM_170 : MethodName × ByteArray × Nat × Option FieldType × List (Nat × Nat × Nat × Nat) := (yJx4a65c_isEmpty_aae02, cJx4a65c_isEmpty_aae02, 1, (some .boolean), [])
/-- 171: java/util/ArrayList.rangeCheckForAdd(I)V -/
def gC_171 : List (Nat × gI) := [(0, .iload_n 1, 1, 0, 0), (1, .aload_n 0, 1, 0, 0), (2, .getfield 48, 3, 0, 2), (5, .if_icmp .gt 7, 3, 12, 0), (8, .iload_n 1, 1, 0, 0), (9, .ifCond .ge 16, 3, 25, 0), (12, .new 187, 3, 999, 0), (15, .dup, 1, 0, 0), (16, .aload_n 0, 1, 0, 0), (17, .iload_n 1, 1, 0, 0), (18, .invokevirtual 198, 3, 999, 0), (21, .invokespecial 193, 3, 999, 0), (24, .athrow, 1, 0, 0), (25, .return_, 1, 0, 0)]
def gM_171 : MethodName × ByteArray × Nat × Option FieldType × List (Nat × Nat × Nat × Nat) := (yJx4a65c_rangeCheckForAdd_d00df, cJx4a65c_rangeCheckForAdd_d00df, 2, none, [])
/-- 172: java/util/ArrayList.remove(I)Ljava/lang/Object; -/
def gC_172 : List (Nat × gI) := [(0, .iload_n 1, 1, 0, 0), (1, .aload_n 0, 1, 0, 0), (2, .getfield 48, 3, 0, 2), (5, .invokestatic 118, 3, 176, 2), (8, .pop, 1, 0, 0), (9, .aload_n 0, 1, 0, 0), (10, .getfield 9, 3, 0, 1), (13, .astore_n 2, 1, 0, 0), (14, .aload_n 2, 1, 0, 0), (15, .iload_n 1, 1, 0, 0), (16, .aaload, 1, 0, 0), (17, .astore_n 3, 1, 0, 0), (18, .aload_n 0, 1, 0, 0), (19, .aload_n 2, 1, 0, 0), (20, .iload_n 1, 1, 0, 0), (21, .invokevirtual 144, 3, 166, 3), (24, .aload_n 3, 1, 0, 0), (25, .areturn, 1, 0, 0)]
def gM_172 : MethodName × ByteArray × Nat × Option FieldType × List (Nat × Nat × Nat × Nat) := (yJx4a65c_remove_915e3, cJx4a65c_remove_915e3, 4, (some (.object "java/lang/Object")), [])
/-- 173: java/util/ArrayList.size()I -/
def gC_173 : List (Nat × gI) := [(0, .aload_n 0, 1, 0, 0), (1, .getfield 48, 3, 0, 2), (4, .ireturn, 1, 0, 0)]
def gM_173 : MethodName × ByteArray × Nat × Option FieldType × List (Nat × Nat × Nat × Nat) := (yJx4a65c_size_8abf5, cJx4a65c_size_8abf5, 1, (some .int), [])
/-- 174: java/util/Arrays.copyOf([Ljava/lang/Object;I)[Ljava/lang/Object; -/
def gC_174 : List (Nat × gI) := [(0, .aload_n 0, 1, 0, 0), (1, .iload_n 1, 1, 0, 0), (2, .aload_n 0, 1, 0, 0), (3, .invokevirtual 86, 3, 902, 1), (6, .invokestatic 300, 3, 175, 3), (9, .areturn, 1, 0, 0)]
def gM_174 : MethodName × ByteArray × Nat × Option FieldType × List (Nat × Nat × Nat × Nat) := (yJ7_copyOf_1904c, cJ7_copyOf_1904c, 2, (some (.array (.object "java/lang/Object"))), [])
/-- 175: java/util/Arrays.copyOf([Ljava/lang/Object;ILjava/lang/Class;)[Ljava/lang/Object; -/
def gC_175 : List (Nat × gI) := [(0, .aload_n 2, 1, 0, 0), (1, .ldc 110, 2, 2, 3), (3, .if_acmp .ne 10, 3, 13, 0), (6, .iload_n 1, 1, 0, 0), (7, .anewarray 2, 3, 0, 0), (10, .goto 14, 3, 24, 0), (13, .aload_n 2, 1, 0, 0), (14, .invokevirtual 90, 3, 999, 0), (17, .iload_n 1, 1, 0, 0), (18, .invokestatic 95, 3, 999, 0), (21, .checkcast 110, 3, 1000, 0), (24, .astore_n 3, 1, 0, 0), (25, .aload_n 0, 1, 0, 0), (26, .iconst 0, 1, 0, 0), (27, .aload_n 3, 1, 0, 0), (28, .iconst 0, 1, 0, 0), (29, .aload_n 0, 1, 0, 0), (30, .arraylength, 1, 0, 0), (31, .iload_n 1, 1, 0, 0), (32, .invokestatic 304, 3, 157, 2), (35, .invokestatic 150, 3, 901, 5), (38, .aload_n 3, 1, 0, 0), (39, .areturn, 1, 0, 0)]
def gM_175 : MethodName × ByteArray × Nat × Option FieldType × List (Nat × Nat × Nat × Nat) := (yJ7_copyOf_6403c, cJ7_copyOf_6403c, 4, (some (.array (.object "java/lang/Object"))), [])
/-- 176: java/util/Objects.checkIndex(II)I -/
def gC_176 : List (Nat × gI) := [(0, .iload_n 0, 1, 0, 0), (1, .iload_n 1, 1, 0, 0), (2, .aconst_null, 1, 0, 0), (3, .invokestatic 105, 3, 178, 3), (6, .ireturn, 1, 0, 0)]
def gM_176 : MethodName × ByteArray × Nat × Option FieldType × List (Nat × Nat × Nat × Nat) := (yJ15_checkIndex_7cf53, cJ15_checkIndex_7cf53, 2, (some .int), [])
/-- 177: jdk/internal/util/ArraysSupport.newLength(III)I -/
def gC_177 : List (Nat × gI) := [(0, .iload_n 0, 1, 0, 0), (1, .iload_n 1, 1, 0, 0), (2, .iload_n 2, 1, 0, 0), (3, .invokestatic 194, 3, 156, 2), (6, .iadd, 1, 0, 0), (7, .istore_n 3, 1, 0, 0), (8, .iconst 0, 1, 0, 0), (9, .iload_n 3, 1, 0, 0), (10, .if_icmp .ge 11, 3, 21, 0), (13, .iload_n 3, 1, 0, 0), (14, .ldc 200, 2, 0, 2147483639), (16, .if_icmp .gt 5, 3, 21, 0), (19, .iload_n 3, 1, 0, 0), (20, .ireturn, 1, 0, 0), (21, .iload_n 0, 1, 0, 0), (22, .iload_n 1, 1, 0, 0), (23, .invokestatic 201, 3, 999, 0), (26, .ireturn, 1, 0, 0)]
def gM_177 : MethodName × ByteArray × Nat × Option FieldType × List (Nat × Nat × Nat × Nat) := (yJ8_newLength_cabcc, cJ8_newLength_cabcc, 4, (some .int), [])
/-- 178: jdk/internal/util/Preconditions.checkIndex(IILjava/util/function/BiFunction;)I -/
def gC_178 : List (Nat × gI) := [(0, .iload_n 0, 1, 0, 0), (1, .ifCond .lt 8, 3, 9, 0), (4, .iload_n 0, 1, 0, 0), (5, .iload_n 1, 1, 0, 0), (6, .if_icmp .lt 10, 3, 16, 0), (9, .aload_n 2, 1, 0, 0), (10, .iload_n 0, 1, 0, 0), (11, .iload_n 1, 1, 0, 0), (12, .invokestatic 95, 3, 999, 0), (15, .athrow, 1, 0, 0), (16, .iload_n 0, 1, 0, 0), (17, .ireturn, 1, 0, 0)]
def gM_178 : MethodName × ByteArray × Nat × Option FieldType × List (Nat × Nat × Nat × Nat) := (yJ3_checkIndex_8e157, cJ3_checkIndex_8e157, 3, (some .int), [])
/-- 179: java/lang/Float.floatToIntBits(F)I -/
def gC_179 : List (Nat × gI) := [(0, .fload_n 0, 1, 0, 0), (1, .invokestatic 59, 3, 180, 1), (4, .ifCond .ne 8, 3, 12, 0), (7, .fload_n 0, 1, 0, 0), (8, .invokestatic 74, 3, 904, 1), (11, .ireturn, 1, 0, 0), (12, .ldc 77, 2, 0, 2143289344), (14, .ireturn, 1, 0, 0)]
def gM_179 : MethodName × ByteArray × Nat × Option FieldType × List (Nat × Nat × Nat × Nat) := (yJxf58ca_floatToIntBits_5c35a, cJxf58ca_floatToIntBits_5c35a, 1, (some .int), [])
/-- 180: java/lang/Float.isNaN(F)Z -/
def gC_180 : List (Nat × gI) := [(0, .fload_n 0, 1, 0, 0), (1, .fload_n 0, 1, 0, 0), (2, .fcmp .l, 1, 0, 0), (3, .ifCond .eq 7, 3, 10, 0), (6, .iconst 1, 1, 0, 0), (7, .goto 4, 3, 11, 0), (10, .iconst 0, 1, 0, 0), (11, .ireturn, 1, 0, 0)]
def gM_180 : MethodName × ByteArray × Nat × Option FieldType × List (Nat × Nat × Nat × Nat) := (yJxf58ca_isNaN_12338, cJxf58ca_isNaN_12338, 1, (some .boolean), [])
def gCodes : List (List (Nat × gI)) := [gC_0, gC_1, gC_2, gC_3, gC_4, gC_5, gC_6, gC_7, gC_8, gC_9, gC_10, gC_11, gC_12, gC_13, gC_14, gC_15, gC_16, gC_17, gC_18, gC_19, gC_20, gC_21, gC_22, gC_23, gC_24, gC_25, gC_26, gC_27, gC_28, gC_29, gC_30, gC_31, gC_32, gC_33, gC_34, gC_35, gC_36, gC_37, gC_38, gC_39, gC_40, gC_41, gC_42, gC_43, gC_44, gC_45, gC_46, gC_47, gC_48, gC_49, gC_50, gC_51, gC_52, gC_53, gC_54, gC_55, gC_56, gC_57, gC_58, gC_59, gC_60, gC_61, gC_62, gC_63, gC_64, gC_65, gC_66, gC_67, gC_68, gC_69, gC_70, gC_71, gC_72, gC_73, gC_74, gC_75, gC_76, gC_77, gC_78, gC_79, gC_80, gC_81, gC_82, gC_83, gC_84, gC_85, gC_86, gC_87, gC_88, gC_89, gC_90, gC_91, gC_92, gC_93, gC_94, gC_95, gC_96, gC_97, gC_98, gC_99, gC_100, gC_101, gC_102, gC_103, gC_104, gC_105, gC_106, gC_107, gC_108, gC_109, gC_110, gC_111, gC_112, gC_113, gC_114, gC_115, gC_116, gC_117, gC_118, gC_119, gC_120, gC_121, gC_122, gC_123, gC_124, gC_125, gC_126, gC_127, gC_128, gC_129, gC_130, gC_131, gC_132, gC_133, gC_134, gC_135, gC_136, gC_137, gC_138, gC_139, gC_140, gC_141, gC_142, gC_143, gC_144, gC_145, gC_146, gC_147, gC_148, gC_149, gC_150, gC_151, gC_152, gC_153, gC_154, gC_155, gC_156, gC_157, gC_158, gC_159, gC_160, gC_161, gC_162, gC_163, gC_164, gC_165, gC_166, gC_167, gC_168, gC_169, gC_170, gC_171, gC_172, gC_173, gC_174, gC_175, gC_176, gC_177, gC_178, gC_179, gC_180]
def gMs : List (MethodName × ByteArray × Nat × Option FieldType × List (Nat × Nat × Nat × Nat)) := [gM_0, gM_1, gM_2, gM_3, gM_4, gM_5, gM_6, gM_7, gM_8, gM_9, gM_10, gM_11, gM_12, gM_13, gM_14, gM_15, gM_16, gM_17, gM_18, gM_19, gM_20, gM_21, gM_22, gM_23, gM_24, gM_25, gM_26, gM_27, gM_28, gM_29, gM_30, gM_31, gM_32, gM_33, gM_34, gM_35, gM_36, gM_37, gM_38, gM_39, gM_40, gM_41, gM_42, gM_43, gM_44, gM_45, gM_46, gM_47, gM_48, gM_49, gM_50, gM_51, gM_52, gM_53, gM_54, gM_55, gM_56, gM_57, gM_58, gM_59, gM_60, gM_61, gM_62, gM_63, gM_64, gM_65, gM_66, gM_67, gM_68, gM_69, gM_70, gM_71, gM_72, gM_73, gM_74, gM_75, gM_76, gM_77, gM_78, gM_79, gM_80, gM_81, gM_82, gM_83, gM_84, gM_85, gM_86, gM_87, gM_88, gM_89, gM_90, gM_91, gM_92, gM_93, gM_94, gM_95, gM_96, gM_97, gM_98, gM_99, gM_100, gM_101, gM_102, gM_103, gM_104, gM_105, gM_106, gM_107, gM_108, gM_109, gM_110, gM_111, gM_112, gM_113, gM_114, gM_115, gM_116, gM_117, gM_118, gM_119, gM_120, gM_121, gM_122, gM_123, gM_124, gM_125, gM_126, gM_127, gM_128, gM_129, gM_130, gM_131, gM_132, gM_133, gM_134, gM_135, gM_136, gM_137, gM_138, gM_139, gM_140, gM_141, gM_142, gM_143, gM_144, gM_145, gM_146, gM_147, gM_148, gM_149, gM_150, gM_151, gM_152, gM_153, gM_154, gM_155, gM_156, gM_157, gM_158, gM_159, gM_160, gM_161, gM_162, gM_163, gM_164, gM_165, gM_166, gM_167, gM_168, gM_169, gM_170, gM_171, gM_172, gM_173, gM_174, gM_175, gM_176, gM_177, gM_178, gM_179, gM_180]
abbrev gDeed : Nat := 2
abbrev gAsk : Nat := 8
def gM0 : MethodName × ByteArray × Nat × Option FieldType × List (Nat × Nat × Nat × Nat) := (⟨"", "", ""⟩, ⟨#[]⟩, 0, none, [])
def gM (m : Nat) : MethodName × ByteArray × Nat × Option FieldType × List (Nat × Nat × Nat × Nat) := match gMs[m]? with
  | some q => q
  | none => gM0
def gY (m : Nat) : MethodName := (gM m).1
def gB (m : Nat) : ByteArray := (gM m).2.1
def gMx (m : Nat) : Nat := (gM m).2.2.1
def gRt (m : Nat) : Option FieldType := (gM m).2.2.2.1
def gTb (m : Nat) : List (Nat × Nat × Nat × Nat) := (gM m).2.2.2.2
def gFetch (m pc : Nat) : Option gI := match gCodes[m]? with
  | some l => l.lookup pc
  | none => none
/-- the number of a thrown class: its name -/
def gEx : Nat → String
  | 0 => "java/lang/IndexOutOfBoundsException"
  | 1 => "java/lang/IllegalArgumentException"
  | 2 => "java/lang/IllegalStateException"
  | _ => "java/util/NoSuchElementException"
/-- where deed and ask catch: the handler, the local that gets the exception, where it goes on -/
def gHand (m pc E : Nat) : Option (Nat × Nat × Nat) :=
  if m = gDeed ∧ pc < 13 then (match E with | 0 => some (14, 7, 16) | 1 => some (19, 7, 21) | 2 => some (24, 7, 26) | _ => some (29, 7, 31))
  else if m = gAsk ∧ pc < 11 then (match E with | 0 => some (12, 6, 14) | 1 => some (17, 6, 19) | 2 => none | _ => some (22, 6, 24))
  else none
/-- may an exception pass a frame here: a method without handlers -/
def gPass (m : Nat) : Bool := (gTb m).isEmpty
/-- none, or a cell that is an object -/
def gObj (h : gH) : Option Nat → Bool
  | none => true
  | some k => match gGet h k with
    | some (.inl _) => true
    | _ => false
/-- what needs no code of ours -/
def gPrim (a : Nat) (st : List Value) (h : gH) : Option (List Value × gH) :=
  match a, st with
  | 900, .ref _ :: st => if st.length ≤ 8 then some (st, h) else none
  | 901, .int n :: .int dp :: .ref d :: .int sp :: .ref o :: st => match gGet h o, gGet h d with
    | some (.inr (.inr (ty, n0, f))), some (.inr (.inr (ty1, n1, g))) =>
      if ty = .object "java/lang/Object" ∧ ty1 = .object "java/lang/Object" ∧ ¬ sp < 0 ∧ ¬ dp < 0 ∧ ¬ n < 0 ∧ sp.toNatClampNeg + n.toNatClampNeg ≤ n0 ∧ dp.toNatClampNeg + n.toNatClampNeg ≤ n1 ∧ st.length ≤ 8 ∧ (List.range n.toNatClampNeg).all (fun i => gObj h (f (sp.toNatClampNeg + i))) = true then
        some (st, gPut h d (.inr (.inr (ty1, n1, va_cpy f g sp.toNatClampNeg dp.toNatClampNeg n.toNatClampNeg)))) else none
    | _, _ => none
  | 902, .ref r :: st => match gGet h r with
    | some (.inr (.inr (ty, _, _))) => if ty = .object "java/lang/Object" ∧ st.length ≤ 8 then some (.retAddr 3 :: st, h) else none
    | _ => none
  | 903, .int i :: .retAddr 1 :: st => if st.length ≤ 8 then (if i = 0 then some (.int 43 :: st, h) else if i = 1 then some (.int 62 :: st, h) else if i = 2 then some (.int 60 :: st, h) else none) else none
  | 904, .float x :: st => if st.length ≤ 8 then some (.int x.toInt32 :: st, h) else none
  | _, _ => none
/-- the locals of a method's start -/
def gStart (a : Nat) (args : List Value) : gL := args.map some ++ List.replicate (gMx a - args.length) none
/-- the class of a receiver's cell is the method's -/
def gRecv (h : gH) (a : Nat) : List Value → Bool
  | .ref r :: _ => match gGet h r with
    | some (.inl (ci, _)) => gCn ci == (gY a).cls
    | _ => false
  | _ => false
/-- what a method may return -/
def gRetOk (m : Nat) (v : Value) : Bool := match gRt m, v with
  | some .int, .int _ => true
  | some .boolean, .int x => x == 0 || x == 1
  | some .float, .float _ => true
  | some (.object _), .null => true
  | some (.object _), .ref _ => true
  | some (.object _), .retAddr _ => true
  | some (.array _), .null => true
  | some (.array _), .ref _ => true
  | some (.array _), .retAddr _ => true
  | _, _ => false
/-- a call: of what needs no code of ours, or of a method -/
def gCall (rec : Nat → Nat → Nat → gL → List Value → gH → Option (gO × gH)) (d m : Nat) (q : gI) (pc : Nat) (ls : gL) (st : List Value) (h : gH) (ok thr : Bool) : Option (gO × gH) :=
  if 900 ≤ q.2.2.1 then (match gPrim q.2.2.1 st h with
    | some r => rec d m (pc + 3) ls r.1 r.2
    | none => none)
  else if q.2.2.2 ≤ st.length ∧ (st.drop q.2.2.2).length ≤ 8 ∧ ok = true ∧ q.2.2.2 ≤ gMx q.2.2.1 then (match d with
    | 0 => none
    | d' + 1 => match rec d' q.2.2.1 0 (gStart q.2.2.1 (st.take q.2.2.2).reverse) [] h with
      | none => none
      | some (.inl v, h') => rec d m (pc + 3) ls (v.toList ++ st.drop q.2.2.2) h'
      | some (.inr E, h') => if thr = false then none else match gHand m pc E with
        | some (_, k, g) => rec d m g (ls.set k none) [] h'
        | none => if gPass m = true then some (.inr E, h') else none)
  else none
def gRefV : Value → Bool
  | .null => true
  | .ref _ => true
  | .retAddr _ => true
  | _ => false
/-- is the receiver a cell -/
def gIsRef : List Value → Bool
  | .ref _ :: _ => true
  | _ => false
/-- one step of a run, over the runs of what is called and of what follows -/
def gStp (sc : gSc) (rec : Nat → Nat → Nat → gL → List Value → gH → Option (gO × gH)) (d m pc : Nat) (ls : gL) (st : List Value) (h : gH) : Option (gO × gH) := match gFetch m pc with
  | none => none
  | some q => match q.1 with
    | .ireturn => match st with
      | [.int x] => if gRetOk m (.int x) then some (.inl (some (.int x)), h) else none
      | _ => none
    | .freturn => match st with
      | [.float x] => if gRetOk m (.float x) then some (.inl (some (.float x)), h) else none
      | _ => none
    | .areturn => match st with
      | [v] => if gRetOk m v && gRefV v then some (.inl (some v), h) else none
      | _ => none
    | .return_ => match st with
      | [] => if gRt m = none then some (.inl none, h) else none
      | _ => none
    | .new _ => if 1000 ≤ q.2.2.1 then (if st.length ≤ 8 ∧ gPass m = true then some (.inr (q.2.2.1 - 1000), (h.1 + 1, h.2.1 + 6, h.2.2)) else none)
      else match gStep sc q pc ls st h with
        | some r => rec d m r.1 r.2.1 r.2.2.1 r.2.2.2
        | none => none
    | .invokestatic _ => gCall rec d m q pc ls st h true true
    | .invokevirtual _ => gCall rec d m q pc ls st h (gRecv h q.2.2.1 (st.take q.2.2.2).reverse) true
    | .invokespecial _ => gCall rec d m q pc ls st h (gIsRef (st.take q.2.2.2).reverse) false
    | _ => match gStep sc q pc ls st h with
      | some r => rec d m r.1 r.2.1 r.2.2.1 r.2.2.2
      | none => none
/-- a run of method m from pc on: n steps at most, calls d deep at most -/
def gRun (sc : gSc) : Nat → Nat → Nat → Nat → gL → List Value → gH → Option (gO × gH)
  | 0, _, _, _, _, _, _ => none
  | n + 1, d, m, pc, ls, st, h => gStp sc (gRun sc n) d m pc ls st h
end
section
def gKinds : List (Nat × Nat) := [(9, 0), (0, 3), (0, 7), (0, 6), (0, 3), (0, 3), (0, 3), (0, 1), (0, 6), (0, 5), (0, 2), (0, 6), (0, 2), (0, 7), (0, 7), (0, 6), (0, 2), (0, 3), (2, 0), (1, 1), (0, 2), (1, 1), (1, 0), (1, 0), (1, 1), (0, 1), (1, 0), (1, 4), (1, 5), (0, 2), (1, 1), (1, 1), (1, 1), (1, 2), (1, 0), (1, 1), (1, 2), (1, 2), (0, 2), (1, 2), (1, 3), (1, 1), (1, 1), (0, 2), (0, 2), (1, 3), (1, 0), (1, 1), (1, 3), (1, 3), (1, 1), (1, 1), (1, 1), (1, 0), (1, 0), (1, 3), (1, 3), (1, 1), (1, 1), (1, 4), (0, 1), (1, 0), (1, 0), (1, 2), (1, 3), (1, 2), (0, 1), (1, 0), (1, 2), (1, 3), (1, 0), (1, 4), (1, 3), (1, 5), (1, 3), (1, 3), (1, 1), (0, 1), (1, 1), (1, 2), (0, 3), (1, 4), (1, 1), (1, 1), (1, 1), (1, 3), (1, 3), (1, 1), (1, 1), (1, 3), (1, 2), (1, 2), (1, 1), (1, 0), (1, 0), (1, 0), (1, 1), (1, 0), (1, 1), (1, 5), (2, 2), (2, 5), (1, 2), (2, 3), (2, 2), (1, 1), (1, 0), (1, 1), (1, 1), (1, 1), (1, 0), (1, 3), (2, 0), (1, 0), (0, 3), (1, 2), (1, 2), (2, 0), (1, 1), (1, 0), (1, 1), (1, 2), (0, 2), (1, 0), (1, 0), (1, 2), (1, 1), (1, 0), (2, 2), (1, 0), (1, 0), (1, 4), (1, 0), (1, 1), (1, 0), (1, 0), (2, 4), (0, 3), (0, 3), (1, 2), (1, 1), (0, 1), (0, 1), (1, 0), (1, 1), (1, 1), (0, 1), (1, 2), (1, 0), (2, 2), (2, 4), (1, 0), (1, 0), (1, 1), (1, 1), (1, 1), (0, 2), (0, 2), (2, 0), (2, 0), (2, 0), (1, 2), (1, 1), (1, 3), (1, 0), (1, 1), (1, 2), (1, 1), (1, 0), (1, 1), (1, 0), (1, 1), (1, 1), (1, 0), (0, 2), (0, 3), (0, 2), (0, 3), (0, 3), (0, 1), (0, 1)]
/-! every row of the tables is right: the bytes, the branches, the pool's words (each by its place in lw_tbl) -/
def gW (p : List Nat) (k : Nat) (w : Cond) : Bool := match p[k]? with
  | some j => decide (lw_tbl[j]? = some w)
  | none => false
theorem gW_in {p : List Nat} {k : Nat} {w : Cond} (h : gW p k w = true) : w ∈ lw_tbl := by
  unfold gW at h
  split at h
  · exact List.mem_of_getElem? (of_decide_eq_true h)
  · cases h
def gFl (p : List Nat) (own : String) (i a b : Nat) : Bool := match gCl[a]? with
  | some (C, T, N) => decide (b < N) && (gW p 0 (.fieldLink own i (T b).1 (T b).2.1 (T b).2.2.1) || gW p 0 (.fieldLink own i C (T b).2.1 (T b).2.2.1) && gW p 1 (.sameField C (T b).1 (T b).2.1 (T b).2.2.1))
  | none => false
def gFin (a b : Nat) : Bool := match gCl[a]? with
  | some (_, T, _) => (T b).2.2.2
  | none => false
def gDcl (a b : Nat) : String := match gCl[a]? with
  | some (_, T, _) => (T b).1
  | none => ""
def gCodeW (a : Nat) : Cond := match gTb a with
  | [] => .code (gY a) (gB a) (gMx a) (gRt a)
  | t => .codeWith (gY a) (gB a) (gMx a) (gRt a) t
/-- a method: 0 static, 1 by its receiver, 2 a constructor; k its parameters -/
def gMok (a : Nat) (kind k : Nat) (p : List Nat) : Bool :=
  plainFor (gY a) && decide ((gY a).cls ≠ "java/lang/invoke/MethodHandle") && decide ((gY a).cls ≠ "java/lang/invoke/VarHandle") && decide ((parseMethodDescriptor (gY a).desc).map (fun d => d.parameters.length) = some k) && gW p 0 (gCodeW a) && gW p 1 (.initialized (gY a).cls) &&
  (match kind with
  | 0 => gW p 2 (.static (gY a))
  | 1 => gW p 2 (.instanceMethod (gY a)) && gW p 3 (.selects (gY a).cls (gY a) (gY a)) && (gTb a).isEmpty
  | _ => gW p 2 (.instanceMethod (gY a)) && decide ((gY a).name = "<init>") && decide (gRt a = none) && (gTb a).isEmpty)
def gKnd (a : Nat) : Nat × Nat := match gKinds[a]? with
  | some q => q
  | none => (9, 0)
def gStrAt (p : List Nat) (k : Nat) (own : String) (i : Nat) : Bool := match p[k]? with
  | some j => (match lw_tbl[j]? with
    | some (.stringRef o i' _) => o == own && i' == i
    | _ => false)
  | none => false
/-- a throw by hand: 'new' at pc; the words of it -/
def gThr (p : List Nat) (own : String) (m pc i E : Nat) : Bool := match gFetch m (pc + 4), gFetch m (pc + 3) with
  | some (.ldc is, _, _, _), some (.dup, _, _, _) => match gFetch m (pc + 6), gFetch m (pc + 9) with
    | some (.invokespecial ic, _, _, _), some (.athrow, _, _, _) => gW p 0 (.classLink own i (gEx E)) && gW p 1 (.initialized (gEx E)) && gStrAt p 2 own is && gW p 3 (.methodLink own ic (Bundle.initS (gEx E))) && decide (E < 4)
    | _, _ => false
  | some (.ldc_w is, _, _, _), some (.dup, _, _, _) => match gFetch m (pc + 7), gFetch m (pc + 10) with
    | some (.invokespecial ic, _, _, _), some (.athrow, _, _, _) => gW p 0 (.classLink own i (gEx E)) && gW p 1 (.initialized (gEx E)) && gStrAt p 2 own is && gW p 3 (.methodLink own ic (Bundle.initS (gEx E))) && decide (E < 4)
    | _, _ => false
  | _, _ => false
/-- the lengths of the instructions, as the rows of the kit ask for them -/
def gLen : Instr → Nat → Bool
  | .tableswitch _ _ _ _, _ => true
  | .lookupswitch _ _, _ => true
  | .aload _, n => n == 2
  | .iload _, n => n == 2
  | .fload _, n => n == 2
  | .astore _, n => n == 2
  | .istore _, n => n == 2
  | .fstore _, n => n == 2
  | .bipush _, n => n == 2
  | .ldc _, n => n == 2
  | .newarray _, n => n == 2
  | .sipush _, n => n == 3
  | .ldc_w _, n => n == 3
  | .iinc _ _, n => n == 3
  | .goto _, n => n == 3
  | .ifCond _ _, n => n == 3
  | .if_icmp _ _, n => n == 3
  | .if_acmp _ _, n => n == 3
  | .ifnull _, n => n == 3
  | .ifnonnull _, n => n == 3
  | .getfield _, n => n == 3
  | .putfield _, n => n == 3
  | .getstatic _, n => n == 3
  | .new _, n => n == 3
  | .anewarray _, n => n == 3
  | .checkcast _, n => n == 3
  | .invokestatic _, n => n == 3
  | .invokevirtual _, n => n == 3
  | .invokespecial _, n => n == 3
  | _, n => n == 1
def gFb : MethodName := ⟨"java/lang/Float", "floatToRawIntBits", "(F)I"⟩
def gGc : MethodName := ⟨"java/lang/Object", "getClass", "()Ljava/lang/Class;"⟩
def gRes (m pc : Nat) (q : gI) (p : List Nat) : Bool :=
  match q.1 with
  | .ldc i => match q.2.2.1 with
    | 0 => gW p 0 (.constant (gY m).cls i (Int32.ofNat q.2.2.2))
    | 1 => gW p 0 (.constantFloat (gY m).cls i (UInt32.ofNat q.2.2.2))
    | 2 => if q.2.2.2 = 1 then gW p 0 (.stringRef (gY m).cls i "+><") else decide (q.2.2.2 = 3) && gW p 0 (.classLink (gY m).cls i "[Ljava/lang/Object;")
    | _ => true
  | .ldc_w i => match q.2.2.1 with
    | 0 => gW p 0 (.constant (gY m).cls i (Int32.ofNat q.2.2.2))
    | 1 => gW p 0 (.constantFloat (gY m).cls i (UInt32.ofNat q.2.2.2))
    | _ => true
  | .istore i => decide (i < gMx m)
  | .fstore i => decide (i < gMx m)
  | .astore i => decide (i < gMx m)
  | .istore_n i => decide ((i : Nat) < gMx m)
  | .fstore_n i => decide ((i : Nat) < gMx m)
  | .astore_n i => decide ((i : Nat) < gMx m)
  | .goto off => decide ((pc : Int) + off = (q.2.2.1 : Int))
  | .ifCond _ off => decide ((pc : Int) + off = (q.2.2.1 : Int))
  | .if_icmp _ off => decide ((pc : Int) + off = (q.2.2.1 : Int))
  | .if_acmp _ off => decide ((pc : Int) + off = (q.2.2.1 : Int))
  | .ifnull off => decide ((pc : Int) + off = (q.2.2.1 : Int))
  | .ifnonnull off => decide ((pc : Int) + off = (q.2.2.1 : Int))
  | .tableswitch dflt lo hi offs => decide (0 ≤ (pc : Int) + dflt) && offs.toList.all (fun o => decide (0 ≤ (pc : Int) + o))
  | .lookupswitch dflt ps => decide (0 ≤ (pc : Int) + dflt) && ps.toList.all (fun o => decide (0 ≤ (pc : Int) + o.2)) && (ps.toList.zip (ps.toList.drop 1)).all (fun (a, next) => a.1 < next.1)
  | .getfield i => decide (12 ≤ q.2.2.1) || gFl p (gY m).cls i q.2.2.1 q.2.2.2
  | .putfield i => decide (12 ≤ q.2.2.1) || gFl p (gY m).cls i q.2.2.1 q.2.2.2 && (!gFin q.2.2.1 q.2.2.2 || decide ((gY m).name = "<init>") && decide (gDcl q.2.2.1 q.2.2.2 = (gY m).cls))
  | .getstatic i => decide (q.2.2.1 ≠ 2) || gW p 0 (.fieldLink (gY m).cls i "java/util/ArrayList" "DEFAULTCAPACITY_EMPTY_ELEMENTDATA" "[Ljava/lang/Object;")
  | .new i => if 1000 ≤ q.2.2.1 then gThr p (gY m).cls m pc i (q.2.2.1 - 1000) else decide (12 ≤ q.2.2.1) || gW p 0 (.classLink (gY m).cls i (gCn q.2.2.1)) && gW p 1 (.instantiable (gCn q.2.2.1) (gN q.2.2.1)) && gW p 2 (.initialized (gCn q.2.2.1))
  | .newarray ty => gW p 0 (.arrayClass (newarray.typeOf ty)) && (decide (ty = .int) || decide (ty = .boolean) || decide (ty = .char))
  | .anewarray i => decide (2 < q.2.2.1) || gW p 0 (.arrayOver (gComp q.2.2.1)) && (match gComp q.2.2.1 with | .object C => gW p 1 (.classLink (gY m).cls i C) | t => gW p 1 (.classLink (gY m).cls i t.toString))
  | .checkcast i => if q.2.2.1 = 1000 then gW p 0 (.classLink (gY m).cls i "[Ljava/lang/Object;") else decide (12 ≤ q.2.2.1) || gW p 0 (.classLink (gY m).cls i (gCn q.2.2.1))
  | .invokestatic i => if 900 ≤ q.2.2.1 then (match q.2.2.1 with
      | 901 => gW p 0 (.methodLink (gY m).cls i arraycopyName) && gW p 1 (.native arraycopyName) && gW p 2 (.static arraycopyName) && gW p 3 (.initialized "java/lang/System")
      | 904 => gW p 0 (.methodLink (gY m).cls i gFb) && gW p 1 (.native gFb) && gW p 2 (.static gFb) && gW p 3 (.initialized "java/lang/Float")
      | n => decide (n = 999)) else decide (gKnd q.2.2.1 = (0, q.2.2.2)) && gW p 0 (.methodLink (gY m).cls i (gY q.2.2.1))
  | .invokevirtual i => if 900 ≤ q.2.2.1 then (match q.2.2.1 with
      | 902 => gW p 0 (.methodLink (gY m).cls i gGc) && gW p 1 (.declares gGc) && gW p 2 (.selects "[Ljava/lang/Object;" gGc gGc) && gW p 3 (.instanceMethod gGc) && gW p 4 (.native gGc)
      | 903 => gW p 0 (.methodLink (gY m).cls i ⟨"java/lang/String", "charAt", "(I)C"⟩)
      | n => decide (n = 999)) else decide (1 ≤ q.2.2.2) && decide (gKnd q.2.2.1 = (1, q.2.2.2 - 1)) && gW p 0 (.methodLink (gY m).cls i (gY q.2.2.1))
  | .invokespecial i => if 900 ≤ q.2.2.1 then (match q.2.2.1 with
      | 900 => gW p 0 (.methodLink (gY m).cls i objectInit) && gW p 1 (.instanceMethod objectInit) && gW p 2 (.code objectInit ⟨#[0xb1]⟩ 1 none)
      | n => decide (n = 999)) else decide (1 ≤ q.2.2.2) && decide (gKnd q.2.2.1 = (2, q.2.2.2 - 1)) && (gW p 0 (.methodLink (gY m).cls i (gY q.2.2.1)) || gW p 0 (.methodLinkNest (gY m).cls i (gY q.2.2.1) "StratumLedge"))
  | _ => true
def gRow (m : Nat) (r : Nat × gI) (p : List Nat) : Bool := (match decode (gB m) r.1 with
  | .ok (i, n) => decide (i = r.2.1) && decide (n = r.2.2.1)
  | .error _ => false) && gLen r.2.1 r.2.2.1 && gRes m r.1 r.2 p
def gAll (m : Nat) : List (Nat × gI) → List (Nat × Nat × List Nat) → Bool
  | [], _ => true
  | r :: l, hs => gRow m r (match hs.lookup r.1 with | some q => q.2 | none => []) && gAll m l hs
theorem gAll_app (m : Nat) (hs : List (Nat × Nat × List Nat)) : ∀ (l l' : List (Nat × gI)), gAll m l hs = true → gAll m l' hs = true → gAll m (l ++ l') hs = true
  | [], _, _, h => h
  | r :: l, l', h, h' => by
    have h1 : (gRow m r (match hs.lookup r.1 with | some q => q.2 | none => []) && gAll m l hs) = true := h
    rw [Bool.and_eq_true] at h1
    show (gRow m r (match hs.lookup r.1 with | some q => q.2 | none => []) && gAll m (l ++ l') hs) = true
    rw [h1.1, gAll_app m hs l l' h1.2 h']
    rfl
theorem gAll_nil (m : Nat) (l : List (Nat × gI)) (hs : List (Nat × Nat × List Nat)) (k : Nat) (h : l.length ≤ k) : gAll m (l.drop k) hs = true := by
  rw [List.drop_eq_nil_of_le h]
  rfl
theorem gAll_cut (m : Nat) (l : List (Nat × gI)) (hs : List (Nat × Nat × List Nat)) (k n : Nat) (h : gAll m ((l.drop k).take n) hs = true) (h' : gAll m (l.drop (k + n)) hs = true) : gAll m (l.drop k) hs = true := by
  have e : l.drop k = (l.drop k).take n ++ l.drop (k + n) := by
    rw [← List.drop_drop]
    exact (List.take_append_drop n _).symm
  rw [e]
  exact gAll_app m hs _ _ h h'
end
section
/-! THE INTERPRETER IS RIGHT. What its states are of the machine: 'ads' the addresses of the interpreter's cells, 'ex' of the four things that were there -/
def gR (ads : List Nat) (ex : Nat → Nat) : Value → Value → Prop
  | .int x, w => w = .int x
  | .float x, w => w = .float x
  | .null, w => w = .null
  | .ref k, w => ∃ a, ads[k]? = some a ∧ w = .ref a
  | .retAddr j, w => j < 4 ∧ w = .ref (ex j)
  | _, _ => False
def gRs (ads : List Nat) (ex : Nat → Nat) : List Value → List Value → Prop
  | [], w => w = []
  | v :: l, w => ∃ x l', w = x :: l' ∧ gR ads ex v x ∧ gRs ads ex l l'
def gRo (ads : List Nat) : Option Nat → Option Nat → Prop
  | none, y => y = none
  | some k, y => ∃ a, ads[k]? = some a ∧ y = some a
def gRv (ads : List Nat) (ex : Nat → Nat) : Option Value → Option Value → Prop
  | none, y => y = none
  | some v, y => ∃ w, y = some w ∧ gR ads ex v w
def gRc (ads : List Nat) (ex : Nat → Nat) (tys : List (ClassId × FieldType)) : gC → va_E → Prop
  | .inl (ci, fs), e => ∃ fs', e = .inr (ci, fs') ∧ gRs ads ex fs fs'
  | .inr (.inl (ty, n, f)), e => ∃ (cA : ClassId) (t : Nat), e = .inl (cA, n, .inl f) ∧ tys[t]? = some (cA, ty)
  | .inr (.inr (ty, n, f)), e => ∃ (cA : ClassId) (t : Nat) (g : Nat → Option Nat), e = .inl (cA, n, .inr (.inr (.inr (.inr g)))) ∧ tys[t]? = some (cA, ty) ∧ ∀ i, gRo ads (f i) (g i)
/-- the heap: the interpreter's cells, one for one -/
def gHp (B : Nat) (D : va_G) (ex : Nat → Nat) (ads : List Nat) (h : gH) (s : State) (H : Heap) : Prop :=
  ∃ (ws : va_W) (tys : List (ClassId × FieldType)), ws.map Prod.fst = ads ∧ va_P D gCl ws H ∧ va_D (fun q => B ≤ q) ws ∧ va_K D gCl tys s ∧ ws.length = h.2.2.length ∧
    ∀ (k : Nat) (x : gC), h.2.2[k]? = some x → ∃ (a : Nat) (e : va_E), ws[k]? = some (a, e) ∧ gRc ads ex tys x e
/-- what was there ahead of the law is as it was -/
def gOld (sL : State) (s : State) (H : Heap) : Prop := sL.WarmedH s.vm ∧ sL.heap.size ≤ H.size ∧ ∀ q : Nat, q < sL.heap.size → H[q]? = sL.heap[q]?
def gLo (ads : List Nat) (ex : Nat → Nat) (ls : gL) (mls : Array Slot) (nL : Nat) : Prop :=
  ls.length = nL ∧ mls.size = nL ∧ lv_wf mls ∧ ∀ (i : Nat) (v : Value), ls[i]? = some (some v) → ∃ w, mls[i]? = some (.val w) ∧ gR ads ex v w
theorem gR_cat {ads : List Nat} {ex : Nat → Nat} {v w : Value} (h : gR ads ex v w) : w.category = 1 := by
  cases v with
  | int x => cases (show w = .int x from h); rfl
  | float x => cases (show w = .float x from h); rfl
  | null => cases (show w = .null from h); rfl
  | ref k => obtain ⟨a, -, rfl⟩ := (show ∃ a, ads[k]? = some a ∧ w = .ref a from h); rfl
  | retAddr j => obtain ⟨-, rfl⟩ := (show j < 4 ∧ w = .ref (ex j) from h); rfl
  | long x => exact absurd h (by simp [gR])
  | double x => exact absurd h (by simp [gR])
theorem gR_up {ads : List Nat} {ex : Nat → Nat} {v w : Value} (x : List Nat) (h : gR ads ex v w) : gR (ads ++ x) ex v w := by
  cases v with
  | ref k =>
    obtain ⟨a, h1, rfl⟩ := (show ∃ a, ads[k]? = some a ∧ w = .ref a from h)
    exact ⟨a, by rw [List.getElem?_append_left (List.getElem?_eq_some_iff.mp h1).1]; exact h1, rfl⟩
  | _ => exact h
theorem gRs_up {ads : List Nat} {ex : Nat → Nat} (x : List Nat) : ∀ {l l' : List Value}, gRs ads ex l l' → gRs (ads ++ x) ex l l'
  | [], _, h => h
  | v :: l, _, h => by
    obtain ⟨w, l', rfl, h1, h2⟩ := h
    exact ⟨w, l', rfl, gR_up x h1, gRs_up x h2⟩
theorem gRo_up {ads : List Nat} (x : List Nat) {a b : Option Nat} (h : gRo ads a b) : gRo (ads ++ x) a b := by
  cases a with
  | none => exact h
  | some k =>
    obtain ⟨c, h1, rfl⟩ := (show ∃ c, ads[k]? = some c ∧ b = some c from h)
    exact ⟨c, by rw [List.getElem?_append_left (List.getElem?_eq_some_iff.mp h1).1]; exact h1, rfl⟩
theorem gRc_up {ads : List Nat} {ex : Nat → Nat} {tys : List (ClassId × FieldType)} (x : List Nat) (y : List (ClassId × FieldType)) {c : gC} {e : va_E} (h : gRc ads ex tys c e) : gRc (ads ++ x) ex (tys ++ y) c e := by
  rcases c with ⟨ci, fs⟩ | ⟨ty, n, f⟩ | ⟨ty, n, f⟩
  · obtain ⟨fs', rfl, h1⟩ := h
    exact ⟨fs', rfl, gRs_up x h1⟩
  · obtain ⟨cA, t, rfl, h1⟩ := h
    exact ⟨cA, t, rfl, by rw [List.getElem?_append_left (List.getElem?_eq_some_iff.mp h1).1]; exact h1⟩
  · obtain ⟨cA, t, g, rfl, h1, h2⟩ := h
    exact ⟨cA, t, g, rfl, by rw [List.getElem?_append_left (List.getElem?_eq_some_iff.mp h1).1]; exact h1, fun i => gRo_up x (h2 i)⟩
theorem gLo_up {ads : List Nat} {ex : Nat → Nat} {ls : gL} {mls : Array Slot} {nL : Nat} (x : List Nat) (h : gLo ads ex ls mls nL) : gLo (ads ++ x) ex ls mls nL :=
  ⟨h.1, h.2.1, h.2.2.1, fun i v hv => by
    obtain ⟨w, h1, h2⟩ := h.2.2.2 i v hv
    exact ⟨w, h1, gR_up x h2⟩⟩
theorem gRs_i {ads : List Nat} {ex : Nat → Nat} {x : Int32} {l m : List Value} (h : gRs ads ex (.int x :: l) m) : ∃ m', m = .int x :: m' ∧ gRs ads ex l m' := by
  obtain ⟨w, l', rfl, h1, h2⟩ := h
  cases (show w = .int x from h1)
  exact ⟨l', rfl, h2⟩
theorem gRs_f {ads : List Nat} {ex : Nat → Nat} {x : UInt32} {l m : List Value} (h : gRs ads ex (.float x :: l) m) : ∃ m', m = .float x :: m' ∧ gRs ads ex l m' := by
  obtain ⟨w, l', rfl, h1, h2⟩ := h
  cases (show w = .float x from h1)
  exact ⟨l', rfl, h2⟩
theorem gRs_n {ads : List Nat} {ex : Nat → Nat} {l m : List Value} (h : gRs ads ex (.null :: l) m) : ∃ m', m = .null :: m' ∧ gRs ads ex l m' := by
  obtain ⟨w, l', rfl, h1, h2⟩ := h
  cases (show w = .null from h1)
  exact ⟨l', rfl, h2⟩
theorem gRs_r {ads : List Nat} {ex : Nat → Nat} {k : Nat} {l m : List Value} (h : gRs ads ex (.ref k :: l) m) : ∃ a m', ads[k]? = some a ∧ m = .ref a :: m' ∧ gRs ads ex l m' := by
  obtain ⟨w, l', rfl, ⟨a, h0, rfl⟩, h2⟩ := h
  exact ⟨a, l', h0, rfl, h2⟩
theorem gRs_e {ads : List Nat} {ex : Nat → Nat} {k : Nat} {l m : List Value} (h : gRs ads ex (.retAddr k :: l) m) : ∃ m', k < 4 ∧ m = .ref (ex k) :: m' ∧ gRs ads ex l m' := by
  obtain ⟨w, l', rfl, ⟨h0, rfl⟩, h2⟩ := h
  exact ⟨l', h0, rfl, h2⟩
theorem gRs_len {ads : List Nat} {ex : Nat → Nat} : ∀ {l m : List Value}, gRs ads ex l m → m.length = l.length
  | [], _, h => by cases (show _ = [] from h); rfl
  | v :: l, _, h => by
    obtain ⟨w, l', rfl, -, h2⟩ := h
    simp [gRs_len h2]
theorem gRs_sum {ads : List Nat} {ex : Nat → Nat} : ∀ {l m : List Value}, gRs ads ex l m → (m.map fun v => v.category).sum = l.length
  | [], _, h => by cases (show _ = [] from h); rfl
  | v :: l, _, h => by
    obtain ⟨w, l', rfl, h1, h2⟩ := h
    simp [gRs_sum h2, gR_cat h1, Nat.add_comm]
theorem gRs_at {ads : List Nat} {ex : Nat → Nat} : ∀ {l m : List Value}, gRs ads ex l m → ∀ {k : Nat} {v : Value}, l[k]? = some v → ∃ w, m[k]? = some w ∧ gR ads ex v w
  | [], _, _, k, v, hk => by simp at hk
  | u :: l, _, h, k, v, hk => by
    obtain ⟨w, l', rfl, h1, h2⟩ := h
    cases k with
    | zero =>
      cases (show some u = some v from by simpa using hk)
      exact ⟨w, by simp, h1⟩
    | succ k =>
      obtain ⟨x, q1, q2⟩ := gRs_at h2 (k := k) (v := v) (by simpa using hk)
      exact ⟨x, by simpa using q1, q2⟩
theorem gRs_set {ads : List Nat} {ex : Nat → Nat} : ∀ {l m : List Value}, gRs ads ex l m → ∀ (k : Nat) {v w : Value}, gR ads ex v w → gRs ads ex (l.set k v) (m.set k w)
  | [], _, h, k, v, w, _ => by cases (show _ = [] from h); simp [gRs]
  | u :: l, _, h, k, v, w, hv => by
    obtain ⟨x, l', rfl, h1, h2⟩ := h
    cases k with
    | zero => exact ⟨w, l', by simp, hv, h2⟩
    | succ k => exact ⟨x, l'.set k w, by simp, h1, gRs_set h2 k hv⟩
theorem gRs_app {ads : List Nat} {ex : Nat → Nat} : ∀ {l m l2 m2 : List Value}, gRs ads ex l m → gRs ads ex l2 m2 → gRs ads ex (l ++ l2) (m ++ m2)
  | [], _, _, _, h, h2 => by cases (show _ = [] from h); exact h2
  | u :: l, _, _, _, h, h2 => by
    obtain ⟨x, l', rfl, h1, h3⟩ := h
    exact ⟨x, l' ++ _, rfl, h1, gRs_app h3 h2⟩
theorem gRs_rev {ads : List Nat} {ex : Nat → Nat} : ∀ {l m : List Value}, gRs ads ex l m → gRs ads ex l.reverse m.reverse
  | [], _, h => by cases (show _ = [] from h); exact rfl
  | u :: l, _, h => by
    obtain ⟨x, l', rfl, h1, h3⟩ := h
    rw [List.reverse_cons, List.reverse_cons]
    exact gRs_app (gRs_rev h3) ⟨x, [], rfl, h1, rfl⟩
theorem gRs_take {ads : List Nat} {ex : Nat → Nat} : ∀ (n : Nat) {l m : List Value}, gRs ads ex l m → gRs ads ex (l.take n) (m.take n) ∧ gRs ads ex (l.drop n) (m.drop n)
  | 0, _, _, h => by simp [gRs, h]
  | n + 1, [], _, h => by cases (show _ = [] from h); simp [gRs]
  | n + 1, u :: l, _, h => by
    obtain ⟨x, l', rfl, h1, h3⟩ := h
    obtain ⟨q1, q2⟩ := gRs_take n h3
    exact ⟨⟨x, l'.take n, rfl, h1, q1⟩, q2⟩
theorem gLd_iff {ls : gL} {i : Nat} {v : Value} (h : gLd ls i = some v) : ls[i]? = some (some v) := by
  unfold gLd at h
  split at h
  · rename_i w hw
    rw [hw, Option.some.inj h]
  · cases h
theorem gLo_at {ads : List Nat} {ex : Nat → Nat} {ls : gL} {mls : Array Slot} {nL i : Nat} {v : Value} (h : gLo ads ex ls mls nL) (hv : gLd ls i = some v) : ∃ w, mls[i]? = some (.val w) ∧ gR ads ex v w := h.2.2.2 i v (gLd_iff hv)
/-- all values that the machine's locals hold -/
def gAl (mls : Array Slot) : List (Nat × Value) := (List.range mls.size).filterMap (fun (j : Nat) => match (mls[j]? : Option Slot) with
  | some (Slot.val w) => some (j, w)
  | _ => none)
theorem gAl_has {mls : Array Slot} {nL : Nat} (h1 : mls.size = nL) (h2 : lv_wf mls) : lv_has mls nL (gAl mls) := by
  refine ⟨h1, h2, fun q hq => ?_⟩
  obtain ⟨j, -, hj⟩ := List.mem_filterMap.mp hq
  cases hm : mls[j]? with
  | none => rw [hm] at hj; cases hj
  | some x =>
    rw [hm] at hj
    cases x with
    | val w => cases hj; exact hm
    | unset => cases hj
    | second => cases hj
theorem gAl_in {mls : Array Slot} {j : Nat} {w : Value} (h : mls[j]? = some (.val w)) : (j, w) ∈ gAl mls :=
  List.mem_filterMap.mpr ⟨j, List.mem_range.mpr (Array.getElem?_eq_some_iff.mp h).1, by rw [h]⟩
theorem gLo_set {ads : List Nat} {ex : Nat → Nat} {ls : gL} {mls mls' : Array Slot} {nL i : Nat} {v w : Value} (h : gLo ads ex ls mls nL) (hv : gR ads ex v w) (hn : i < nL)
    (h' : lv_has mls' nL ((i, w) :: (gAl mls).filter (fun q => !(q.1 == i) && !(q.1 + 1 == i && q.2.category == 2)))) : gLo ads ex (gSt ls i v) mls' nL := by
  refine ⟨by unfold gSt; rw [List.length_set]; exact h.1, h'.1, h'.2.1, fun j u hu => ?_⟩
  unfold gSt at hu
  by_cases hj : i = j
  · subst hj
    rw [List.getElem?_set_self (by rw [h.1]; exact hn)] at hu
    cases hu
    exact ⟨w, h'.2.2 (i, w) List.mem_cons_self, hv⟩
  · rw [List.getElem?_set_ne hj] at hu
    obtain ⟨x, h1, h2⟩ := h.2.2.2 j u hu
    refine ⟨x, h'.2.2 (j, x) (List.mem_cons_of_mem _ (List.mem_filter.mpr ⟨gAl_in h1, ?_⟩)), h2⟩
    have e1 : (j == i) = false := by simp; exact fun e => hj e.symm
    have e2 : (x.category == 2) = false := by rw [gR_cat h2]; rfl
    simp [e1, e2]
theorem gLo_none {ads : List Nat} {ex : Nat → Nat} {ls : gL} {mls mls' : Array Slot} {nL i : Nat} {w : Value} (h : gLo ads ex ls mls nL)
    (h' : lv_has mls' nL ((i, w) :: (gAl mls).filter (fun q => !(q.1 == i) && !(q.1 + 1 == i && q.2.category == 2)))) : gLo ads ex (ls.set i none) mls' nL := by
  refine ⟨by rw [List.length_set]; exact h.1, h'.1, h'.2.1, fun j u hu => ?_⟩
  by_cases hj : i = j
  · subst hj
    rw [List.getElem?_set] at hu
    simp at hu
  · rw [List.getElem?_set_ne hj] at hu
    obtain ⟨x, h1, h2⟩ := h.2.2.2 j u hu
    refine ⟨x, h'.2.2 (j, x) (List.mem_cons_of_mem _ (List.mem_filter.mpr ⟨gAl_in h1, ?_⟩)), h2⟩
    have e1 : (j == i) = false := by simp; exact fun e => hj e.symm
    have e2 : (x.category == 2) = false := by rw [gR_cat h2]; rfl
    simp [e1, e2]
theorem gFit_ok {ads : List Nat} {ex : Nat → Nat} {ty : FieldType} {v w : Value} (h : gFit ty v = true) (hv : gR ads ex v w) : narrow ty w = w ∧ fits ty w = true := by
  cases ty <;> cases v <;> simp only [gFit, Bool.false_eq_true] at h
  all_goals first
    | (cases (show w = _ from hv); first | exact ⟨rfl, rfl⟩ | skip)
    | (obtain ⟨a, -, rfl⟩ := hv; exact ⟨rfl, rfl⟩)
    | (obtain ⟨-, rfl⟩ := hv; exact ⟨rfl, rfl⟩)
  all_goals try (rename_i x; simp only [Bool.or_eq_true, beq_iff_eq] at h; rcases h with rfl | rfl <;> exact ⟨by decide, by decide⟩)
  all_goals (rename_i x; simp only [Bool.and_eq_true, decide_eq_true_eq] at h; refine ⟨?_, by simp [fits, h.1, h.2]⟩)
  all_goals (obtain ⟨j, hj, rfl⟩ := nI_of2 (M := 65535) (n := 65535) (by decide) (by rw [Int32.not_lt]; exact h.1) h.2; exact (pk_charN (q := j) (by omega)).1)
end
section
/-- a frame of method m -/
def gFr (sL : State) (m : Nat) (p : Program) (s : State) (mth : MethodId) (meth : Method) (c : Code) : Prop :=
  p.tables.exec = Jvm.exec ∧ c.code = gB m ∧ c.maxLocals = gMx m ∧ s.vm.findClass (gY m).cls = some mth.cls ∧ meth.sig.returnType = gRt m ∧ meth.locks = false ∧ meth.name = (gY m).name ∧ gOld sL s s.heap
/-- a point of it -/
def gPt (B : Nat) (D : va_G) (ex : Nat → Nat) (h0 : gH) (s : State) (nL : Nat) (ls : gL) (st : List Value) (h : gH) (ads : List Nat) (H : Heap) (locs : List Loc) (cells slots : Nat) (mls : Array Slot) (mst : List Value) : Prop :=
  gHp B D ex ads h s H ∧ va_S (fun q => B ≤ q) s.heap H locs ∧ gLo ads ex ls mls nL ∧ gRs ads ex st mst ∧ h.1 = h0.1 + cells ∧ h.2.1 = h0.2.1 + slots
/-- what the law's start gives -/
def gLf (sL : State) (D : va_G) (ex : Nat → Nat) (sc : gSc) (aL : Array Value) : Prop :=
  (∀ w ∈ lw_tbl, w.before aL sL = true) ∧ va_X (ex 0) sc.1 sc.2 sL sL.heap ∧ ex 0 < sL.heap.size ∧ vk_R "StratumLedgeLaw" 199 "+><" (ex 1) sL ∧
  va_Z "java/util/ArrayList" "DEFAULTCAPACITY_EMPTY_ELEMENTDATA" "[Ljava/lang/Object;" (.ref (ex 2)) (fun q => sL.heap.size ≤ q) sL sL.heap ∧ va_T (.object "java/lang/Object") (ex 2) 0 (fun _ => .null) (fun q => sL.heap.size ≤ q) sL sL.heap ∧ va_Mi "[Ljava/lang/Object;" (ex 3) sL
section SND
variable {sL : State} {D : va_G} {ex : Nat → Nat} {sc : gSc} {aL : Array Value} {m : Nat} {p : Program} {l : Launch} {e : Env} {R : Room} {s : State} {mth : MethodId} {args : Array Value} {below : List Frame} {meth : Method} {c : Code} {Q : State → Prop}
variable {len a b pc : Nat} {ls : gL} {st : List Value} {h h0 : gH} {r : gQ} {ads : List Nat} {H : Heap} {locs : List Loc} {cells slots : Nat} {mls : Array Slot} {mst : List Value} {hp : List Nat}
/-- the walk goes on where the interpreter does -/
def gKk (sL : State) (D : va_G) (ex : Nat → Nat) (m : Nat) (p : Program) (l : Launch) (e : Env) (R : Room) (s : State) (mth : MethodId) (args : Array Value) (below : List Frame) (meth : Method) (c : Code) (Q : State → Prop) (h0 : gH) (ads : List Nat) (r : gQ) : Prop :=
  ∀ (ads' : List Nat) (H' : Heap) (locs' : List Loc) (cells' slots' : Nat) (mls' : Array Slot) (mst' : List Value), (∃ x, ads' = ads ++ x) → gPt sL.heap.size D ex h0 s (gMx m) r.2.1 r.2.2.1 r.2.2.2 ads' H' locs' cells' slots' mls' mst' →
    W p l e R s mth args below meth c H' locs' cells' slots' Q (F0 mth r.1 mls' mst')
theorem gw_at {w : Cond} (hW : sL.WarmedH s.vm) (hL : ∀ w ∈ lw_tbl, w.before aL sL = true) (hw : w ∈ lw_tbl) (hg : goodWord w = true) (a' : Array Value) : w.before a' s = true := word_at hW (good_of_word hg) (hL w hw)

theorem gs_null (HL : gLf sL D ex sc aL) (F : gFr sL m p s mth meth c) (hd : decode (gB m) pc = .ok (.aconst_null, len)) (hn : gLen (.aconst_null) len = true) (hres : gRes m pc (.aconst_null, len, a, b) hp = true) (hs : gStep sc (.aconst_null, len, a, b) pc ls st h = some r)
    (P : gPt sL.heap.size D ex h0 s (gMx m) ls st h ads H locs cells slots mls mst) (kk : gKk sL D ex m p l e R s mth args below meth c Q h0 ads r) : W p l e R s mth args below meth c H locs cells slots Q (F0 mth pc mls mst) := by
  obtain ⟨hx, hb, hml, hown, hret, hlk, hnm, hO⟩ := F
  obtain ⟨hH, hS, hLo, hst, hc, hsl⟩ := P
  have hn1 : len = 1 := by simpa [gLen] using hn
  subst hn1
  simp only [gStep] at hs
  cases hs
  refine lv_null hx hb hd ?_
  exact kk ads H locs cells slots mls _ ⟨[], (List.append_nil _).symm⟩ ⟨hH, hS, hLo, ⟨_, mst, rfl, rfl, hst⟩, hc, hsl⟩
theorem gs_iconst {z : Int} (HL : gLf sL D ex sc aL) (F : gFr sL m p s mth meth c) (hd : decode (gB m) pc = .ok (.iconst z, len)) (hn : gLen (.iconst z) len = true) (hres : gRes m pc (.iconst z, len, a, b) hp = true) (hs : gStep sc (.iconst z, len, a, b) pc ls st h = some r)
    (P : gPt sL.heap.size D ex h0 s (gMx m) ls st h ads H locs cells slots mls mst) (kk : gKk sL D ex m p l e R s mth args below meth c Q h0 ads r) : W p l e R s mth args below meth c H locs cells slots Q (F0 mth pc mls mst) := by
  obtain ⟨hx, hb, hml, hown, hret, hlk, hnm, hO⟩ := F
  obtain ⟨hH, hS, hLo, hst, hc, hsl⟩ := P
  have hn1 : len = 1 := by simpa [gLen] using hn
  subst hn1
  simp only [gStep] at hs
  cases hs
  refine lv_iconst hx hb hd rfl ?_
  exact kk ads H locs cells slots mls _ ⟨[], (List.append_nil _).symm⟩ ⟨hH, hS, hLo, ⟨_, mst, rfl, rfl, hst⟩, hc, hsl⟩
theorem gs_bipush {z : Int} (HL : gLf sL D ex sc aL) (F : gFr sL m p s mth meth c) (hd : decode (gB m) pc = .ok (.bipush z, len)) (hn : gLen (.bipush z) len = true) (hres : gRes m pc (.bipush z, len, a, b) hp = true) (hs : gStep sc (.bipush z, len, a, b) pc ls st h = some r)
    (P : gPt sL.heap.size D ex h0 s (gMx m) ls st h ads H locs cells slots mls mst) (kk : gKk sL D ex m p l e R s mth args below meth c Q h0 ads r) : W p l e R s mth args below meth c H locs cells slots Q (F0 mth pc mls mst) := by
  obtain ⟨hx, hb, hml, hown, hret, hlk, hnm, hO⟩ := F
  obtain ⟨hH, hS, hLo, hst, hc, hsl⟩ := P
  have hn1 : len = 2 := by simpa [gLen] using hn
  subst hn1
  simp only [gStep] at hs
  cases hs
  refine lv_bipush hx hb hd rfl ?_
  exact kk ads H locs cells slots mls _ ⟨[], (List.append_nil _).symm⟩ ⟨hH, hS, hLo, ⟨_, mst, rfl, rfl, hst⟩, hc, hsl⟩
theorem gs_sipush {z : Int} (HL : gLf sL D ex sc aL) (F : gFr sL m p s mth meth c) (hd : decode (gB m) pc = .ok (.sipush z, len)) (hn : gLen (.sipush z) len = true) (hres : gRes m pc (.sipush z, len, a, b) hp = true) (hs : gStep sc (.sipush z, len, a, b) pc ls st h = some r)
    (P : gPt sL.heap.size D ex h0 s (gMx m) ls st h ads H locs cells slots mls mst) (kk : gKk sL D ex m p l e R s mth args below meth c Q h0 ads r) : W p l e R s mth args below meth c H locs cells slots Q (F0 mth pc mls mst) := by
  obtain ⟨hx, hb, hml, hown, hret, hlk, hnm, hO⟩ := F
  obtain ⟨hH, hS, hLo, hst, hc, hsl⟩ := P
  have hn1 : len = 3 := by simpa [gLen] using hn
  subst hn1
  simp only [gStep] at hs
  cases hs
  refine lv_sipush hx hb hd rfl ?_
  exact kk ads H locs cells slots mls _ ⟨[], (List.append_nil _).symm⟩ ⟨hH, hS, hLo, ⟨_, mst, rfl, rfl, hst⟩, hc, hsl⟩
theorem gs_fconst {z : Fin 3} (HL : gLf sL D ex sc aL) (F : gFr sL m p s mth meth c) (hd : decode (gB m) pc = .ok (.fconst z, len)) (hn : gLen (.fconst z) len = true) (hres : gRes m pc (.fconst z, len, a, b) hp = true) (hs : gStep sc (.fconst z, len, a, b) pc ls st h = some r)
    (P : gPt sL.heap.size D ex h0 s (gMx m) ls st h ads H locs cells slots mls mst) (kk : gKk sL D ex m p l e R s mth args below meth c Q h0 ads r) : W p l e R s mth args below meth c H locs cells slots Q (F0 mth pc mls mst) := by
  obtain ⟨hx, hb, hml, hown, hret, hlk, hnm, hO⟩ := F
  obtain ⟨hH, hS, hLo, hst, hc, hsl⟩ := P
  have hn1 : len = 1 := by simpa [gLen] using hn
  subst hn1
  simp only [gStep] at hs
  obtain ⟨z, hz⟩ := z
  rcases z with _ | _ | _ | z
  · cases hs
    refine lv_fconst0 hx hb hd ?_
    exact kk ads H locs cells slots mls _ ⟨[], (List.append_nil _).symm⟩ ⟨hH, hS, hLo, ⟨_, mst, rfl, rfl, hst⟩, hc, hsl⟩
  · cases hs
    refine lv_fconst1 hx hb hd ?_
    exact kk ads H locs cells slots mls _ ⟨[], (List.append_nil _).symm⟩ ⟨hH, hS, hLo, ⟨_, mst, rfl, rfl, hst⟩, hc, hsl⟩
  · cases hs
    refine lv_fconst2 hx hb hd ?_
    exact kk ads H locs cells slots mls _ ⟨[], (List.append_nil _).symm⟩ ⟨hH, hS, hLo, ⟨_, mst, rfl, rfl, hst⟩, hc, hsl⟩
  · omega
theorem gs_iload {z : Nat} (HL : gLf sL D ex sc aL) (F : gFr sL m p s mth meth c) (hd : decode (gB m) pc = .ok (.iload z, len)) (hn : gLen (.iload z) len = true) (hres : gRes m pc (.iload z, len, a, b) hp = true) (hs : gStep sc (.iload z, len, a, b) pc ls st h = some r)
    (P : gPt sL.heap.size D ex h0 s (gMx m) ls st h ads H locs cells slots mls mst) (kk : gKk sL D ex m p l e R s mth args below meth c Q h0 ads r) : W p l e R s mth args below meth c H locs cells slots Q (F0 mth pc mls mst) := by
  obtain ⟨hx, hb, hml, hown, hret, hlk, hnm, hO⟩ := F
  obtain ⟨hH, hS, hLo, hst, hc, hsl⟩ := P
  have hn1 : len = 2 := by simpa [gLen] using hn
  subst hn1
  simp only [gStep] at hs
  split at hs
  · rename_i x hq
    cases hs
    obtain ⟨w, hw, hwr⟩ := gLo_at hLo hq
    cases (show w = .int x from hwr)
    refine lv_iload hx hb hd hw ?_
    exact kk ads H locs cells slots mls _ ⟨[], (List.append_nil _).symm⟩ ⟨hH, hS, hLo, ⟨_, mst, rfl, rfl, hst⟩, hc, hsl⟩
  · cases hs
theorem gs_iload_n {z : Fin 4} (HL : gLf sL D ex sc aL) (F : gFr sL m p s mth meth c) (hd : decode (gB m) pc = .ok (.iload_n z, len)) (hn : gLen (.iload_n z) len = true) (hres : gRes m pc (.iload_n z, len, a, b) hp = true) (hs : gStep sc (.iload_n z, len, a, b) pc ls st h = some r)
    (P : gPt sL.heap.size D ex h0 s (gMx m) ls st h ads H locs cells slots mls mst) (kk : gKk sL D ex m p l e R s mth args below meth c Q h0 ads r) : W p l e R s mth args below meth c H locs cells slots Q (F0 mth pc mls mst) := by
  obtain ⟨hx, hb, hml, hown, hret, hlk, hnm, hO⟩ := F
  obtain ⟨hH, hS, hLo, hst, hc, hsl⟩ := P
  have hn1 : len = 1 := by simpa [gLen] using hn
  subst hn1
  simp only [gStep] at hs
  split at hs
  · rename_i x hq
    cases hs
    obtain ⟨w, hw, hwr⟩ := gLo_at hLo hq
    cases (show w = .int x from hwr)
    refine lv_iload_n hx hb hd rfl hw ?_
    exact kk ads H locs cells slots mls _ ⟨[], (List.append_nil _).symm⟩ ⟨hH, hS, hLo, ⟨_, mst, rfl, rfl, hst⟩, hc, hsl⟩
  · cases hs
theorem gs_istore {z : Nat} (HL : gLf sL D ex sc aL) (F : gFr sL m p s mth meth c) (hd : decode (gB m) pc = .ok (.istore z, len)) (hn : gLen (.istore z) len = true) (hres : gRes m pc (.istore z, len, a, b) hp = true) (hs : gStep sc (.istore z, len, a, b) pc ls st h = some r)
    (P : gPt sL.heap.size D ex h0 s (gMx m) ls st h ads H locs cells slots mls mst) (kk : gKk sL D ex m p l e R s mth args below meth c Q h0 ads r) : W p l e R s mth args below meth c H locs cells slots Q (F0 mth pc mls mst) := by
  obtain ⟨hx, hb, hml, hown, hret, hlk, hnm, hO⟩ := F
  obtain ⟨hH, hS, hLo, hst, hc, hsl⟩ := P
  have hn1 : len = 2 := by simpa [gLen] using hn
  subst hn1
  simp only [gStep] at hs
  have hi : (z : Nat) < gMx m := by simpa [gRes] using hres
  split at hs
  · rename_i x st1
    cases hs
    obtain ⟨m1, rfl, h1⟩ := gRs_i hst
    refine lv_istore hx hb hd (gAl_has hLo.2.1 hLo.2.2.1) hi rfl (fun mls9 h9 => ?_)
    exact kk ads H locs cells slots mls9 _ ⟨[], (List.append_nil _).symm⟩ ⟨hH, hS, gLo_set hLo rfl hi h9, h1, hc, hsl⟩
  · cases hs
theorem gs_istore_n {z : Fin 4} (HL : gLf sL D ex sc aL) (F : gFr sL m p s mth meth c) (hd : decode (gB m) pc = .ok (.istore_n z, len)) (hn : gLen (.istore_n z) len = true) (hres : gRes m pc (.istore_n z, len, a, b) hp = true) (hs : gStep sc (.istore_n z, len, a, b) pc ls st h = some r)
    (P : gPt sL.heap.size D ex h0 s (gMx m) ls st h ads H locs cells slots mls mst) (kk : gKk sL D ex m p l e R s mth args below meth c Q h0 ads r) : W p l e R s mth args below meth c H locs cells slots Q (F0 mth pc mls mst) := by
  obtain ⟨hx, hb, hml, hown, hret, hlk, hnm, hO⟩ := F
  obtain ⟨hH, hS, hLo, hst, hc, hsl⟩ := P
  have hn1 : len = 1 := by simpa [gLen] using hn
  subst hn1
  simp only [gStep] at hs
  have hi : (z : Nat) < gMx m := by simpa [gRes] using hres
  split at hs
  · rename_i x st1
    cases hs
    obtain ⟨m1, rfl, h1⟩ := gRs_i hst
    refine lv_istore_n hx hb hd rfl (gAl_has hLo.2.1 hLo.2.2.1) hi rfl (fun mls9 h9 => ?_)
    exact kk ads H locs cells slots mls9 _ ⟨[], (List.append_nil _).symm⟩ ⟨hH, hS, gLo_set hLo rfl hi h9, h1, hc, hsl⟩
  · cases hs
theorem gs_fload {z : Nat} (HL : gLf sL D ex sc aL) (F : gFr sL m p s mth meth c) (hd : decode (gB m) pc = .ok (.fload z, len)) (hn : gLen (.fload z) len = true) (hres : gRes m pc (.fload z, len, a, b) hp = true) (hs : gStep sc (.fload z, len, a, b) pc ls st h = some r)
    (P : gPt sL.heap.size D ex h0 s (gMx m) ls st h ads H locs cells slots mls mst) (kk : gKk sL D ex m p l e R s mth args below meth c Q h0 ads r) : W p l e R s mth args below meth c H locs cells slots Q (F0 mth pc mls mst) := by
  obtain ⟨hx, hb, hml, hown, hret, hlk, hnm, hO⟩ := F
  obtain ⟨hH, hS, hLo, hst, hc, hsl⟩ := P
  have hn1 : len = 2 := by simpa [gLen] using hn
  subst hn1
  simp only [gStep] at hs
  split at hs
  · rename_i x hq
    cases hs
    obtain ⟨w, hw, hwr⟩ := gLo_at hLo hq
    cases (show w = .float x from hwr)
    refine lv_fload hx hb hd hw ?_
    exact kk ads H locs cells slots mls _ ⟨[], (List.append_nil _).symm⟩ ⟨hH, hS, hLo, ⟨_, mst, rfl, rfl, hst⟩, hc, hsl⟩
  · cases hs
theorem gs_fload_n {z : Fin 4} (HL : gLf sL D ex sc aL) (F : gFr sL m p s mth meth c) (hd : decode (gB m) pc = .ok (.fload_n z, len)) (hn : gLen (.fload_n z) len = true) (hres : gRes m pc (.fload_n z, len, a, b) hp = true) (hs : gStep sc (.fload_n z, len, a, b) pc ls st h = some r)
    (P : gPt sL.heap.size D ex h0 s (gMx m) ls st h ads H locs cells slots mls mst) (kk : gKk sL D ex m p l e R s mth args below meth c Q h0 ads r) : W p l e R s mth args below meth c H locs cells slots Q (F0 mth pc mls mst) := by
  obtain ⟨hx, hb, hml, hown, hret, hlk, hnm, hO⟩ := F
  obtain ⟨hH, hS, hLo, hst, hc, hsl⟩ := P
  have hn1 : len = 1 := by simpa [gLen] using hn
  subst hn1
  simp only [gStep] at hs
  split at hs
  · rename_i x hq
    cases hs
    obtain ⟨w, hw, hwr⟩ := gLo_at hLo hq
    cases (show w = .float x from hwr)
    refine lv_fload_n hx hb hd rfl hw ?_
    exact kk ads H locs cells slots mls _ ⟨[], (List.append_nil _).symm⟩ ⟨hH, hS, hLo, ⟨_, mst, rfl, rfl, hst⟩, hc, hsl⟩
  · cases hs
theorem gs_fstore {z : Nat} (HL : gLf sL D ex sc aL) (F : gFr sL m p s mth meth c) (hd : decode (gB m) pc = .ok (.fstore z, len)) (hn : gLen (.fstore z) len = true) (hres : gRes m pc (.fstore z, len, a, b) hp = true) (hs : gStep sc (.fstore z, len, a, b) pc ls st h = some r)
    (P : gPt sL.heap.size D ex h0 s (gMx m) ls st h ads H locs cells slots mls mst) (kk : gKk sL D ex m p l e R s mth args below meth c Q h0 ads r) : W p l e R s mth args below meth c H locs cells slots Q (F0 mth pc mls mst) := by
  obtain ⟨hx, hb, hml, hown, hret, hlk, hnm, hO⟩ := F
  obtain ⟨hH, hS, hLo, hst, hc, hsl⟩ := P
  have hn1 : len = 2 := by simpa [gLen] using hn
  subst hn1
  simp only [gStep] at hs
  have hi : (z : Nat) < gMx m := by simpa [gRes] using hres
  split at hs
  · rename_i x st1
    cases hs
    obtain ⟨m1, rfl, h1⟩ := gRs_f hst
    refine lv_fstore hx hb hd (gAl_has hLo.2.1 hLo.2.2.1) hi rfl (fun mls9 h9 => ?_)
    exact kk ads H locs cells slots mls9 _ ⟨[], (List.append_nil _).symm⟩ ⟨hH, hS, gLo_set hLo rfl hi h9, h1, hc, hsl⟩
  · cases hs
theorem gs_fstore_n {z : Fin 4} (HL : gLf sL D ex sc aL) (F : gFr sL m p s mth meth c) (hd : decode (gB m) pc = .ok (.fstore_n z, len)) (hn : gLen (.fstore_n z) len = true) (hres : gRes m pc (.fstore_n z, len, a, b) hp = true) (hs : gStep sc (.fstore_n z, len, a, b) pc ls st h = some r)
    (P : gPt sL.heap.size D ex h0 s (gMx m) ls st h ads H locs cells slots mls mst) (kk : gKk sL D ex m p l e R s mth args below meth c Q h0 ads r) : W p l e R s mth args below meth c H locs cells slots Q (F0 mth pc mls mst) := by
  obtain ⟨hx, hb, hml, hown, hret, hlk, hnm, hO⟩ := F
  obtain ⟨hH, hS, hLo, hst, hc, hsl⟩ := P
  have hn1 : len = 1 := by simpa [gLen] using hn
  subst hn1
  simp only [gStep] at hs
  have hi : (z : Nat) < gMx m := by simpa [gRes] using hres
  split at hs
  · rename_i x st1
    cases hs
    obtain ⟨m1, rfl, h1⟩ := gRs_f hst
    refine lv_fstore_n hx hb hd rfl (gAl_has hLo.2.1 hLo.2.2.1) hi rfl (fun mls9 h9 => ?_)
    exact kk ads H locs cells slots mls9 _ ⟨[], (List.append_nil _).symm⟩ ⟨hH, hS, gLo_set hLo rfl hi h9, h1, hc, hsl⟩
  · cases hs
theorem gs_aload {z : Nat} (HL : gLf sL D ex sc aL) (F : gFr sL m p s mth meth c) (hd : decode (gB m) pc = .ok (.aload z, len)) (hn : gLen (.aload z) len = true) (hres : gRes m pc (.aload z, len, a, b) hp = true) (hs : gStep sc (.aload z, len, a, b) pc ls st h = some r)
    (P : gPt sL.heap.size D ex h0 s (gMx m) ls st h ads H locs cells slots mls mst) (kk : gKk sL D ex m p l e R s mth args below meth c Q h0 ads r) : W p l e R s mth args below meth c H locs cells slots Q (F0 mth pc mls mst) := by
  obtain ⟨hx, hb, hml, hown, hret, hlk, hnm, hO⟩ := F
  obtain ⟨hH, hS, hLo, hst, hc, hsl⟩ := P
  have hn1 : len = 2 := by simpa [gLen] using hn
  subst hn1
  simp only [gStep] at hs
  split at hs
  · rename_i x hq
    cases hs
    obtain ⟨w, hw, hwr⟩ := gLo_at hLo hq
    obtain ⟨a9, ha, rfl⟩ := hwr
    refine lv_aload hx hb hd hw ?_
    exact kk ads H locs cells slots mls _ ⟨[], (List.append_nil _).symm⟩ ⟨hH, hS, hLo, ⟨_, mst, rfl, ⟨a9, ha, rfl⟩, hst⟩, hc, hsl⟩
  · rename_i hq
    cases hs
    obtain ⟨w, hw, hwr⟩ := gLo_at hLo hq
    cases (show w = .null from hwr)
    refine lv_aloadN hx hb hd hw ?_
    exact kk ads H locs cells slots mls _ ⟨[], (List.append_nil _).symm⟩ ⟨hH, hS, hLo, ⟨_, mst, rfl, rfl, hst⟩, hc, hsl⟩
  · rename_i x hq
    cases hs
    obtain ⟨w, hw, hwr⟩ := gLo_at hLo hq
    obtain ⟨hj, rfl⟩ := hwr
    refine lv_aload hx hb hd hw ?_
    exact kk ads H locs cells slots mls _ ⟨[], (List.append_nil _).symm⟩ ⟨hH, hS, hLo, ⟨_, mst, rfl, ⟨hj, rfl⟩, hst⟩, hc, hsl⟩
  · cases hs
theorem gs_aload_n {z : Fin 4} (HL : gLf sL D ex sc aL) (F : gFr sL m p s mth meth c) (hd : decode (gB m) pc = .ok (.aload_n z, len)) (hn : gLen (.aload_n z) len = true) (hres : gRes m pc (.aload_n z, len, a, b) hp = true) (hs : gStep sc (.aload_n z, len, a, b) pc ls st h = some r)
    (P : gPt sL.heap.size D ex h0 s (gMx m) ls st h ads H locs cells slots mls mst) (kk : gKk sL D ex m p l e R s mth args below meth c Q h0 ads r) : W p l e R s mth args below meth c H locs cells slots Q (F0 mth pc mls mst) := by
  obtain ⟨hx, hb, hml, hown, hret, hlk, hnm, hO⟩ := F
  obtain ⟨hH, hS, hLo, hst, hc, hsl⟩ := P
  have hn1 : len = 1 := by simpa [gLen] using hn
  subst hn1
  simp only [gStep] at hs
  split at hs
  · rename_i x hq
    cases hs
    obtain ⟨w, hw, hwr⟩ := gLo_at hLo hq
    obtain ⟨a9, ha, rfl⟩ := hwr
    refine lv_aload_n hx hb hd rfl hw ?_
    exact kk ads H locs cells slots mls _ ⟨[], (List.append_nil _).symm⟩ ⟨hH, hS, hLo, ⟨_, mst, rfl, ⟨a9, ha, rfl⟩, hst⟩, hc, hsl⟩
  · rename_i hq
    cases hs
    obtain ⟨w, hw, hwr⟩ := gLo_at hLo hq
    cases (show w = .null from hwr)
    refine lv_aload_nN hx hb hd rfl hw ?_
    exact kk ads H locs cells slots mls _ ⟨[], (List.append_nil _).symm⟩ ⟨hH, hS, hLo, ⟨_, mst, rfl, rfl, hst⟩, hc, hsl⟩
  · rename_i x hq
    cases hs
    obtain ⟨w, hw, hwr⟩ := gLo_at hLo hq
    obtain ⟨hj, rfl⟩ := hwr
    refine lv_aload_n hx hb hd rfl hw ?_
    exact kk ads H locs cells slots mls _ ⟨[], (List.append_nil _).symm⟩ ⟨hH, hS, hLo, ⟨_, mst, rfl, ⟨hj, rfl⟩, hst⟩, hc, hsl⟩
  · cases hs
theorem gs_astore {z : Nat} (HL : gLf sL D ex sc aL) (F : gFr sL m p s mth meth c) (hd : decode (gB m) pc = .ok (.astore z, len)) (hn : gLen (.astore z) len = true) (hres : gRes m pc (.astore z, len, a, b) hp = true) (hs : gStep sc (.astore z, len, a, b) pc ls st h = some r)
    (P : gPt sL.heap.size D ex h0 s (gMx m) ls st h ads H locs cells slots mls mst) (kk : gKk sL D ex m p l e R s mth args below meth c Q h0 ads r) : W p l e R s mth args below meth c H locs cells slots Q (F0 mth pc mls mst) := by
  obtain ⟨hx, hb, hml, hown, hret, hlk, hnm, hO⟩ := F
  obtain ⟨hH, hS, hLo, hst, hc, hsl⟩ := P
  have hn1 : len = 2 := by simpa [gLen] using hn
  subst hn1
  simp only [gStep] at hs
  have hi : (z : Nat) < gMx m := by simpa [gRes] using hres
  split at hs
  · rename_i x st1
    cases hs
    obtain ⟨a9, m1, ha, rfl, h1⟩ := gRs_r hst
    refine lv_astore hx hb hd (gAl_has hLo.2.1 hLo.2.2.1) hi rfl (fun mls9 h9 => ?_)
    exact kk ads H locs cells slots mls9 _ ⟨[], (List.append_nil _).symm⟩ ⟨hH, hS, gLo_set hLo ⟨a9, ha, rfl⟩ hi h9, h1, hc, hsl⟩
  · rename_i st1
    cases hs
    obtain ⟨m1, rfl, h1⟩ := gRs_n hst
    refine lv_astoreN hx hb hd (gAl_has hLo.2.1 hLo.2.2.1) hi rfl (fun mls9 h9 => ?_)
    exact kk ads H locs cells slots mls9 _ ⟨[], (List.append_nil _).symm⟩ ⟨hH, hS, gLo_set hLo rfl hi h9, h1, hc, hsl⟩
  · rename_i x st1
    cases hs
    obtain ⟨m1, hj, rfl, h1⟩ := gRs_e hst
    refine lv_astore hx hb hd (gAl_has hLo.2.1 hLo.2.2.1) hi rfl (fun mls9 h9 => ?_)
    exact kk ads H locs cells slots mls9 _ ⟨[], (List.append_nil _).symm⟩ ⟨hH, hS, gLo_set hLo ⟨hj, rfl⟩ hi h9, h1, hc, hsl⟩
  · cases hs
theorem gs_astore_n {z : Fin 4} (HL : gLf sL D ex sc aL) (F : gFr sL m p s mth meth c) (hd : decode (gB m) pc = .ok (.astore_n z, len)) (hn : gLen (.astore_n z) len = true) (hres : gRes m pc (.astore_n z, len, a, b) hp = true) (hs : gStep sc (.astore_n z, len, a, b) pc ls st h = some r)
    (P : gPt sL.heap.size D ex h0 s (gMx m) ls st h ads H locs cells slots mls mst) (kk : gKk sL D ex m p l e R s mth args below meth c Q h0 ads r) : W p l e R s mth args below meth c H locs cells slots Q (F0 mth pc mls mst) := by
  obtain ⟨hx, hb, hml, hown, hret, hlk, hnm, hO⟩ := F
  obtain ⟨hH, hS, hLo, hst, hc, hsl⟩ := P
  have hn1 : len = 1 := by simpa [gLen] using hn
  subst hn1
  simp only [gStep] at hs
  have hi : (z : Nat) < gMx m := by simpa [gRes] using hres
  split at hs
  · rename_i x st1
    cases hs
    obtain ⟨a9, m1, ha, rfl, h1⟩ := gRs_r hst
    refine lv_astore_n hx hb hd rfl (gAl_has hLo.2.1 hLo.2.2.1) hi rfl (fun mls9 h9 => ?_)
    exact kk ads H locs cells slots mls9 _ ⟨[], (List.append_nil _).symm⟩ ⟨hH, hS, gLo_set hLo ⟨a9, ha, rfl⟩ hi h9, h1, hc, hsl⟩
  · rename_i st1
    cases hs
    obtain ⟨m1, rfl, h1⟩ := gRs_n hst
    refine lv_astore_nN hx hb hd rfl (gAl_has hLo.2.1 hLo.2.2.1) hi rfl (fun mls9 h9 => ?_)
    exact kk ads H locs cells slots mls9 _ ⟨[], (List.append_nil _).symm⟩ ⟨hH, hS, gLo_set hLo rfl hi h9, h1, hc, hsl⟩
  · rename_i x st1
    cases hs
    obtain ⟨m1, hj, rfl, h1⟩ := gRs_e hst
    refine lv_astore_n hx hb hd rfl (gAl_has hLo.2.1 hLo.2.2.1) hi rfl (fun mls9 h9 => ?_)
    exact kk ads H locs cells slots mls9 _ ⟨[], (List.append_nil _).symm⟩ ⟨hH, hS, gLo_set hLo ⟨hj, rfl⟩ hi h9, h1, hc, hsl⟩
  · cases hs
theorem gs_iinc {z : Nat} {y : Int} (HL : gLf sL D ex sc aL) (F : gFr sL m p s mth meth c) (hd : decode (gB m) pc = .ok (.iinc z y, len)) (hn : gLen (.iinc z y) len = true) (hres : gRes m pc (.iinc z y, len, a, b) hp = true) (hs : gStep sc (.iinc z y, len, a, b) pc ls st h = some r)
    (P : gPt sL.heap.size D ex h0 s (gMx m) ls st h ads H locs cells slots mls mst) (kk : gKk sL D ex m p l e R s mth args below meth c Q h0 ads r) : W p l e R s mth args below meth c H locs cells slots Q (F0 mth pc mls mst) := by
  obtain ⟨hx, hb, hml, hown, hret, hlk, hnm, hO⟩ := F
  obtain ⟨hH, hS, hLo, hst, hc, hsl⟩ := P
  have hn1 : len = 3 := by simpa [gLen] using hn
  subst hn1
  simp only [gStep] at hs
  split at hs
  · rename_i x hq
    cases hs
    obtain ⟨w, hw, hwr⟩ := gLo_at hLo hq
    cases (show w = .int x from hwr)
    obtain ⟨k9, hk9⟩ := List.getElem?_of_mem (gAl_in hw)
    have hi : z < gMx m := by
      have h8 := (Array.getElem?_eq_some_iff.mp hw).1
      rwa [hLo.2.1] at h8
    refine lv_iinc hx hb hd (gAl_has hLo.2.1 hLo.2.2.1) hk9 rfl hi rfl (fun mls9 h9 => ?_)
    exact kk ads H locs cells slots mls9 _ ⟨[], (List.append_nil _).symm⟩ ⟨hH, hS, gLo_set hLo rfl hi h9, hst, hc, hsl⟩
  · cases hs
theorem gs_iadd (HL : gLf sL D ex sc aL) (F : gFr sL m p s mth meth c) (hd : decode (gB m) pc = .ok (.iadd, len)) (hn : gLen (.iadd) len = true) (hres : gRes m pc (.iadd, len, a, b) hp = true) (hs : gStep sc (.iadd, len, a, b) pc ls st h = some r)
    (P : gPt sL.heap.size D ex h0 s (gMx m) ls st h ads H locs cells slots mls mst) (kk : gKk sL D ex m p l e R s mth args below meth c Q h0 ads r) : W p l e R s mth args below meth c H locs cells slots Q (F0 mth pc mls mst) := by
  obtain ⟨hx, hb, hml, hown, hret, hlk, hnm, hO⟩ := F
  obtain ⟨hH, hS, hLo, hst, hc, hsl⟩ := P
  have hn1 : len = 1 := by simpa [gLen] using hn
  subst hn1
  simp only [gStep] at hs
  split at hs
  · rename_i y x st1
    cases hs
    obtain ⟨m1, rfl, h1⟩ := gRs_i hst
    obtain ⟨m2, rfl, h2⟩ := gRs_i h1
    refine lv_iadd hx hb hd ?_
    exact kk ads H locs cells slots mls _ ⟨[], (List.append_nil _).symm⟩ ⟨hH, hS, hLo, ⟨_, m2, rfl, rfl, h2⟩, hc, hsl⟩
  · cases hs
theorem gs_isub (HL : gLf sL D ex sc aL) (F : gFr sL m p s mth meth c) (hd : decode (gB m) pc = .ok (.isub, len)) (hn : gLen (.isub) len = true) (hres : gRes m pc (.isub, len, a, b) hp = true) (hs : gStep sc (.isub, len, a, b) pc ls st h = some r)
    (P : gPt sL.heap.size D ex h0 s (gMx m) ls st h ads H locs cells slots mls mst) (kk : gKk sL D ex m p l e R s mth args below meth c Q h0 ads r) : W p l e R s mth args below meth c H locs cells slots Q (F0 mth pc mls mst) := by
  obtain ⟨hx, hb, hml, hown, hret, hlk, hnm, hO⟩ := F
  obtain ⟨hH, hS, hLo, hst, hc, hsl⟩ := P
  have hn1 : len = 1 := by simpa [gLen] using hn
  subst hn1
  simp only [gStep] at hs
  split at hs
  · rename_i y x st1
    cases hs
    obtain ⟨m1, rfl, h1⟩ := gRs_i hst
    obtain ⟨m2, rfl, h2⟩ := gRs_i h1
    refine lv_isub hx hb hd ?_
    exact kk ads H locs cells slots mls _ ⟨[], (List.append_nil _).symm⟩ ⟨hH, hS, hLo, ⟨_, m2, rfl, rfl, h2⟩, hc, hsl⟩
  · cases hs
theorem gs_imul (HL : gLf sL D ex sc aL) (F : gFr sL m p s mth meth c) (hd : decode (gB m) pc = .ok (.imul, len)) (hn : gLen (.imul) len = true) (hres : gRes m pc (.imul, len, a, b) hp = true) (hs : gStep sc (.imul, len, a, b) pc ls st h = some r)
    (P : gPt sL.heap.size D ex h0 s (gMx m) ls st h ads H locs cells slots mls mst) (kk : gKk sL D ex m p l e R s mth args below meth c Q h0 ads r) : W p l e R s mth args below meth c H locs cells slots Q (F0 mth pc mls mst) := by
  obtain ⟨hx, hb, hml, hown, hret, hlk, hnm, hO⟩ := F
  obtain ⟨hH, hS, hLo, hst, hc, hsl⟩ := P
  have hn1 : len = 1 := by simpa [gLen] using hn
  subst hn1
  simp only [gStep] at hs
  split at hs
  · rename_i y x st1
    cases hs
    obtain ⟨m1, rfl, h1⟩ := gRs_i hst
    obtain ⟨m2, rfl, h2⟩ := gRs_i h1
    refine lv_imul hx hb hd ?_
    exact kk ads H locs cells slots mls _ ⟨[], (List.append_nil _).symm⟩ ⟨hH, hS, hLo, ⟨_, m2, rfl, rfl, h2⟩, hc, hsl⟩
  · cases hs
theorem gs_ixor (HL : gLf sL D ex sc aL) (F : gFr sL m p s mth meth c) (hd : decode (gB m) pc = .ok (.ixor, len)) (hn : gLen (.ixor) len = true) (hres : gRes m pc (.ixor, len, a, b) hp = true) (hs : gStep sc (.ixor, len, a, b) pc ls st h = some r)
    (P : gPt sL.heap.size D ex h0 s (gMx m) ls st h ads H locs cells slots mls mst) (kk : gKk sL D ex m p l e R s mth args below meth c Q h0 ads r) : W p l e R s mth args below meth c H locs cells slots Q (F0 mth pc mls mst) := by
  obtain ⟨hx, hb, hml, hown, hret, hlk, hnm, hO⟩ := F
  obtain ⟨hH, hS, hLo, hst, hc, hsl⟩ := P
  have hn1 : len = 1 := by simpa [gLen] using hn
  subst hn1
  simp only [gStep] at hs
  split at hs
  · rename_i y x st1
    cases hs
    obtain ⟨m1, rfl, h1⟩ := gRs_i hst
    obtain ⟨m2, rfl, h2⟩ := gRs_i h1
    refine lv_ixor hx hb hd ?_
    exact kk ads H locs cells slots mls _ ⟨[], (List.append_nil _).symm⟩ ⟨hH, hS, hLo, ⟨_, m2, rfl, rfl, h2⟩, hc, hsl⟩
  · cases hs
theorem gs_ishl (HL : gLf sL D ex sc aL) (F : gFr sL m p s mth meth c) (hd : decode (gB m) pc = .ok (.ishl, len)) (hn : gLen (.ishl) len = true) (hres : gRes m pc (.ishl, len, a, b) hp = true) (hs : gStep sc (.ishl, len, a, b) pc ls st h = some r)
    (P : gPt sL.heap.size D ex h0 s (gMx m) ls st h ads H locs cells slots mls mst) (kk : gKk sL D ex m p l e R s mth args below meth c Q h0 ads r) : W p l e R s mth args below meth c H locs cells slots Q (F0 mth pc mls mst) := by
  obtain ⟨hx, hb, hml, hown, hret, hlk, hnm, hO⟩ := F
  obtain ⟨hH, hS, hLo, hst, hc, hsl⟩ := P
  have hn1 : len = 1 := by simpa [gLen] using hn
  subst hn1
  simp only [gStep] at hs
  split at hs
  · rename_i y x st1
    cases hs
    obtain ⟨m1, rfl, h1⟩ := gRs_i hst
    obtain ⟨m2, rfl, h2⟩ := gRs_i h1
    refine lv_ishl hx hb hd ?_
    exact kk ads H locs cells slots mls _ ⟨[], (List.append_nil _).symm⟩ ⟨hH, hS, hLo, ⟨_, m2, rfl, rfl, h2⟩, hc, hsl⟩
  · cases hs
theorem gs_ishr (HL : gLf sL D ex sc aL) (F : gFr sL m p s mth meth c) (hd : decode (gB m) pc = .ok (.ishr, len)) (hn : gLen (.ishr) len = true) (hres : gRes m pc (.ishr, len, a, b) hp = true) (hs : gStep sc (.ishr, len, a, b) pc ls st h = some r)
    (P : gPt sL.heap.size D ex h0 s (gMx m) ls st h ads H locs cells slots mls mst) (kk : gKk sL D ex m p l e R s mth args below meth c Q h0 ads r) : W p l e R s mth args below meth c H locs cells slots Q (F0 mth pc mls mst) := by
  obtain ⟨hx, hb, hml, hown, hret, hlk, hnm, hO⟩ := F
  obtain ⟨hH, hS, hLo, hst, hc, hsl⟩ := P
  have hn1 : len = 1 := by simpa [gLen] using hn
  subst hn1
  simp only [gStep] at hs
  split at hs
  · rename_i y x st1
    cases hs
    obtain ⟨m1, rfl, h1⟩ := gRs_i hst
    obtain ⟨m2, rfl, h2⟩ := gRs_i h1
    refine lv_ishr hx hb hd ?_
    exact kk ads H locs cells slots mls _ ⟨[], (List.append_nil _).symm⟩ ⟨hH, hS, hLo, ⟨_, m2, rfl, rfl, h2⟩, hc, hsl⟩
  · cases hs
theorem gs_iushr (HL : gLf sL D ex sc aL) (F : gFr sL m p s mth meth c) (hd : decode (gB m) pc = .ok (.iushr, len)) (hn : gLen (.iushr) len = true) (hres : gRes m pc (.iushr, len, a, b) hp = true) (hs : gStep sc (.iushr, len, a, b) pc ls st h = some r)
    (P : gPt sL.heap.size D ex h0 s (gMx m) ls st h ads H locs cells slots mls mst) (kk : gKk sL D ex m p l e R s mth args below meth c Q h0 ads r) : W p l e R s mth args below meth c H locs cells slots Q (F0 mth pc mls mst) := by
  obtain ⟨hx, hb, hml, hown, hret, hlk, hnm, hO⟩ := F
  obtain ⟨hH, hS, hLo, hst, hc, hsl⟩ := P
  have hn1 : len = 1 := by simpa [gLen] using hn
  subst hn1
  simp only [gStep] at hs
  split at hs
  · rename_i y x st1
    cases hs
    obtain ⟨m1, rfl, h1⟩ := gRs_i hst
    obtain ⟨m2, rfl, h2⟩ := gRs_i h1
    refine lv_iushr hx hb hd rfl ?_
    exact kk ads H locs cells slots mls _ ⟨[], (List.append_nil _).symm⟩ ⟨hH, hS, hLo, ⟨_, m2, rfl, rfl, h2⟩, hc, hsl⟩
  · cases hs
theorem gs_idiv (HL : gLf sL D ex sc aL) (F : gFr sL m p s mth meth c) (hd : decode (gB m) pc = .ok (.idiv, len)) (hn : gLen (.idiv) len = true) (hres : gRes m pc (.idiv, len, a, b) hp = true) (hs : gStep sc (.idiv, len, a, b) pc ls st h = some r)
    (P : gPt sL.heap.size D ex h0 s (gMx m) ls st h ads H locs cells slots mls mst) (kk : gKk sL D ex m p l e R s mth args below meth c Q h0 ads r) : W p l e R s mth args below meth c H locs cells slots Q (F0 mth pc mls mst) := by
  obtain ⟨hx, hb, hml, hown, hret, hlk, hnm, hO⟩ := F
  obtain ⟨hH, hS, hLo, hst, hc, hsl⟩ := P
  have hn1 : len = 1 := by simpa [gLen] using hn
  subst hn1
  simp only [gStep] at hs
  split at hs
  · rename_i y x st1
    split at hs
    · cases hs
    · rename_i hy
      cases hs
      obtain ⟨m1, rfl, h1⟩ := gRs_i hst
      obtain ⟨m2, rfl, h2⟩ := gRs_i h1
      refine lv_idiv hx hb hd hy ?_
      exact kk ads H locs cells slots mls _ ⟨[], (List.append_nil _).symm⟩ ⟨hH, hS, hLo, ⟨_, m2, rfl, rfl, h2⟩, hc, hsl⟩
  · cases hs
theorem gs_irem (HL : gLf sL D ex sc aL) (F : gFr sL m p s mth meth c) (hd : decode (gB m) pc = .ok (.irem, len)) (hn : gLen (.irem) len = true) (hres : gRes m pc (.irem, len, a, b) hp = true) (hs : gStep sc (.irem, len, a, b) pc ls st h = some r)
    (P : gPt sL.heap.size D ex h0 s (gMx m) ls st h ads H locs cells slots mls mst) (kk : gKk sL D ex m p l e R s mth args below meth c Q h0 ads r) : W p l e R s mth args below meth c H locs cells slots Q (F0 mth pc mls mst) := by
  obtain ⟨hx, hb, hml, hown, hret, hlk, hnm, hO⟩ := F
  obtain ⟨hH, hS, hLo, hst, hc, hsl⟩ := P
  have hn1 : len = 1 := by simpa [gLen] using hn
  subst hn1
  simp only [gStep] at hs
  split at hs
  · rename_i y x st1
    split at hs
    · cases hs
    · rename_i hy
      cases hs
      obtain ⟨m1, rfl, h1⟩ := gRs_i hst
      obtain ⟨m2, rfl, h2⟩ := gRs_i h1
      refine lv_irem hx hb hd hy ?_
      exact kk ads H locs cells slots mls _ ⟨[], (List.append_nil _).symm⟩ ⟨hH, hS, hLo, ⟨_, m2, rfl, rfl, h2⟩, hc, hsl⟩
  · cases hs
theorem gs_i2c (HL : gLf sL D ex sc aL) (F : gFr sL m p s mth meth c) (hd : decode (gB m) pc = .ok (.i2c, len)) (hn : gLen (.i2c) len = true) (hres : gRes m pc (.i2c, len, a, b) hp = true) (hs : gStep sc (.i2c, len, a, b) pc ls st h = some r)
    (P : gPt sL.heap.size D ex h0 s (gMx m) ls st h ads H locs cells slots mls mst) (kk : gKk sL D ex m p l e R s mth args below meth c Q h0 ads r) : W p l e R s mth args below meth c H locs cells slots Q (F0 mth pc mls mst) := by
  obtain ⟨hx, hb, hml, hown, hret, hlk, hnm, hO⟩ := F
  obtain ⟨hH, hS, hLo, hst, hc, hsl⟩ := P
  have hn1 : len = 1 := by simpa [gLen] using hn
  subst hn1
  simp only [gStep] at hs
  split at hs
  · rename_i x st1
    cases hs
    obtain ⟨m1, rfl, h1⟩ := gRs_i hst
    refine lv_i2c hx hb hd rfl ?_
    exact kk ads H locs cells slots mls _ ⟨[], (List.append_nil _).symm⟩ ⟨hH, hS, hLo, ⟨_, m1, rfl, rfl, h1⟩, hc, hsl⟩
  · cases hs
theorem gs_i2f (HL : gLf sL D ex sc aL) (F : gFr sL m p s mth meth c) (hd : decode (gB m) pc = .ok (.i2f, len)) (hn : gLen (.i2f) len = true) (hres : gRes m pc (.i2f, len, a, b) hp = true) (hs : gStep sc (.i2f, len, a, b) pc ls st h = some r)
    (P : gPt sL.heap.size D ex h0 s (gMx m) ls st h ads H locs cells slots mls mst) (kk : gKk sL D ex m p l e R s mth args below meth c Q h0 ads r) : W p l e R s mth args below meth c H locs cells slots Q (F0 mth pc mls mst) := by
  obtain ⟨hx, hb, hml, hown, hret, hlk, hnm, hO⟩ := F
  obtain ⟨hH, hS, hLo, hst, hc, hsl⟩ := P
  have hn1 : len = 1 := by simpa [gLen] using hn
  subst hn1
  simp only [gStep] at hs
  split at hs
  · rename_i x st1
    cases hs
    obtain ⟨m1, rfl, h1⟩ := gRs_i hst
    refine lv_i2f hx hb hd ?_
    exact kk ads H locs cells slots mls _ ⟨[], (List.append_nil _).symm⟩ ⟨hH, hS, hLo, ⟨_, m1, rfl, rfl, h1⟩, hc, hsl⟩
  · cases hs
theorem gs_f2i (HL : gLf sL D ex sc aL) (F : gFr sL m p s mth meth c) (hd : decode (gB m) pc = .ok (.f2i, len)) (hn : gLen (.f2i) len = true) (hres : gRes m pc (.f2i, len, a, b) hp = true) (hs : gStep sc (.f2i, len, a, b) pc ls st h = some r)
    (P : gPt sL.heap.size D ex h0 s (gMx m) ls st h ads H locs cells slots mls mst) (kk : gKk sL D ex m p l e R s mth args below meth c Q h0 ads r) : W p l e R s mth args below meth c H locs cells slots Q (F0 mth pc mls mst) := by
  obtain ⟨hx, hb, hml, hown, hret, hlk, hnm, hO⟩ := F
  obtain ⟨hH, hS, hLo, hst, hc, hsl⟩ := P
  have hn1 : len = 1 := by simpa [gLen] using hn
  subst hn1
  simp only [gStep] at hs
  split at hs
  · rename_i x st1
    cases hs
    obtain ⟨m1, rfl, h1⟩ := gRs_f hst
    refine lv_f2i hx hb hd ?_
    exact kk ads H locs cells slots mls _ ⟨[], (List.append_nil _).symm⟩ ⟨hH, hS, hLo, ⟨_, m1, rfl, rfl, h1⟩, hc, hsl⟩
  · cases hs
theorem gs_fsub (HL : gLf sL D ex sc aL) (F : gFr sL m p s mth meth c) (hd : decode (gB m) pc = .ok (.fsub, len)) (hn : gLen (.fsub) len = true) (hres : gRes m pc (.fsub, len, a, b) hp = true) (hs : gStep sc (.fsub, len, a, b) pc ls st h = some r)
    (P : gPt sL.heap.size D ex h0 s (gMx m) ls st h ads H locs cells slots mls mst) (kk : gKk sL D ex m p l e R s mth args below meth c Q h0 ads r) : W p l e R s mth args below meth c H locs cells slots Q (F0 mth pc mls mst) := by
  obtain ⟨hx, hb, hml, hown, hret, hlk, hnm, hO⟩ := F
  obtain ⟨hH, hS, hLo, hst, hc, hsl⟩ := P
  have hn1 : len = 1 := by simpa [gLen] using hn
  subst hn1
  simp only [gStep] at hs
  split at hs
  · rename_i y x st1
    split at hs
    · rename_i hy
      cases hs
      obtain ⟨m1, rfl, h1⟩ := gRs_f hst
      obtain ⟨m2, rfl, h2⟩ := gRs_f h1
      refine lv_fsub hx hb hd hy ?_
      exact kk ads H locs cells slots mls _ ⟨[], (List.append_nil _).symm⟩ ⟨hH, hS, hLo, ⟨_, m2, rfl, rfl, h2⟩, hc, hsl⟩
    · cases hs
  · cases hs
theorem gs_fmul (HL : gLf sL D ex sc aL) (F : gFr sL m p s mth meth c) (hd : decode (gB m) pc = .ok (.fmul, len)) (hn : gLen (.fmul) len = true) (hres : gRes m pc (.fmul, len, a, b) hp = true) (hs : gStep sc (.fmul, len, a, b) pc ls st h = some r)
    (P : gPt sL.heap.size D ex h0 s (gMx m) ls st h ads H locs cells slots mls mst) (kk : gKk sL D ex m p l e R s mth args below meth c Q h0 ads r) : W p l e R s mth args below meth c H locs cells slots Q (F0 mth pc mls mst) := by
  obtain ⟨hx, hb, hml, hown, hret, hlk, hnm, hO⟩ := F
  obtain ⟨hH, hS, hLo, hst, hc, hsl⟩ := P
  have hn1 : len = 1 := by simpa [gLen] using hn
  subst hn1
  simp only [gStep] at hs
  split at hs
  · rename_i y x st1
    split at hs
    · rename_i hy
      cases hs
      obtain ⟨m1, rfl, h1⟩ := gRs_f hst
      obtain ⟨m2, rfl, h2⟩ := gRs_f h1
      refine lv_fmul hx hb hd hy ?_
      exact kk ads H locs cells slots mls _ ⟨[], (List.append_nil _).symm⟩ ⟨hH, hS, hLo, ⟨_, m2, rfl, rfl, h2⟩, hc, hsl⟩
    · cases hs
  · cases hs
theorem gs_fdiv (HL : gLf sL D ex sc aL) (F : gFr sL m p s mth meth c) (hd : decode (gB m) pc = .ok (.fdiv, len)) (hn : gLen (.fdiv) len = true) (hres : gRes m pc (.fdiv, len, a, b) hp = true) (hs : gStep sc (.fdiv, len, a, b) pc ls st h = some r)
    (P : gPt sL.heap.size D ex h0 s (gMx m) ls st h ads H locs cells slots mls mst) (kk : gKk sL D ex m p l e R s mth args below meth c Q h0 ads r) : W p l e R s mth args below meth c H locs cells slots Q (F0 mth pc mls mst) := by
  obtain ⟨hx, hb, hml, hown, hret, hlk, hnm, hO⟩ := F
  obtain ⟨hH, hS, hLo, hst, hc, hsl⟩ := P
  have hn1 : len = 1 := by simpa [gLen] using hn
  subst hn1
  simp only [gStep] at hs
  split at hs
  · rename_i y x st1
    split at hs
    · rename_i hy
      cases hs
      obtain ⟨m1, rfl, h1⟩ := gRs_f hst
      obtain ⟨m2, rfl, h2⟩ := gRs_f h1
      refine lv_fdiv hx hb hd hy ?_
      exact kk ads H locs cells slots mls _ ⟨[], (List.append_nil _).symm⟩ ⟨hH, hS, hLo, ⟨_, m2, rfl, rfl, h2⟩, hc, hsl⟩
    · cases hs
  · cases hs
theorem gs_fcmp {z : CmpOp} (HL : gLf sL D ex sc aL) (F : gFr sL m p s mth meth c) (hd : decode (gB m) pc = .ok (.fcmp z, len)) (hn : gLen (.fcmp z) len = true) (hres : gRes m pc (.fcmp z, len, a, b) hp = true) (hs : gStep sc (.fcmp z, len, a, b) pc ls st h = some r)
    (P : gPt sL.heap.size D ex h0 s (gMx m) ls st h ads H locs cells slots mls mst) (kk : gKk sL D ex m p l e R s mth args below meth c Q h0 ads r) : W p l e R s mth args below meth c H locs cells slots Q (F0 mth pc mls mst) := by
  obtain ⟨hx, hb, hml, hown, hret, hlk, hnm, hO⟩ := F
  obtain ⟨hH, hS, hLo, hst, hc, hsl⟩ := P
  have hn1 : len = 1 := by simpa [gLen] using hn
  subst hn1
  simp only [gStep] at hs
  split at hs
  · rename_i y x st1
    cases hs
    obtain ⟨m1, rfl, h1⟩ := gRs_f hst
    obtain ⟨m2, rfl, h2⟩ := gRs_f h1
    refine lv_fcmp hx hb hd ?_
    exact kk ads H locs cells slots mls _ ⟨[], (List.append_nil _).symm⟩ ⟨hH, hS, hLo, ⟨_, m2, rfl, rfl, h2⟩, hc, hsl⟩
  · cases hs
theorem gs_dup (HL : gLf sL D ex sc aL) (F : gFr sL m p s mth meth c) (hd : decode (gB m) pc = .ok (.dup, len)) (hn : gLen (.dup) len = true) (hres : gRes m pc (.dup, len, a, b) hp = true) (hs : gStep sc (.dup, len, a, b) pc ls st h = some r)
    (P : gPt sL.heap.size D ex h0 s (gMx m) ls st h ads H locs cells slots mls mst) (kk : gKk sL D ex m p l e R s mth args below meth c Q h0 ads r) : W p l e R s mth args below meth c H locs cells slots Q (F0 mth pc mls mst) := by
  obtain ⟨hx, hb, hml, hown, hret, hlk, hnm, hO⟩ := F
  obtain ⟨hH, hS, hLo, hst, hc, hsl⟩ := P
  have hn1 : len = 1 := by simpa [gLen] using hn
  subst hn1
  simp only [gStep] at hs
  split at hs
  · rename_i v st1
    split at hs
    · cases hs
      obtain ⟨w1, m1, rfl, q1, h1⟩ := hst
      refine lv_dup hx hb hd (gR_cat q1) ?_
      exact kk ads H locs cells slots mls _ ⟨[], (List.append_nil _).symm⟩ ⟨hH, hS, hLo, ⟨_, _, rfl, q1, _, m1, rfl, q1, h1⟩, hc, hsl⟩
    · cases hs
  · cases hs
theorem gs_pop (HL : gLf sL D ex sc aL) (F : gFr sL m p s mth meth c) (hd : decode (gB m) pc = .ok (.pop, len)) (hn : gLen (.pop) len = true) (hres : gRes m pc (.pop, len, a, b) hp = true) (hs : gStep sc (.pop, len, a, b) pc ls st h = some r)
    (P : gPt sL.heap.size D ex h0 s (gMx m) ls st h ads H locs cells slots mls mst) (kk : gKk sL D ex m p l e R s mth args below meth c Q h0 ads r) : W p l e R s mth args below meth c H locs cells slots Q (F0 mth pc mls mst) := by
  obtain ⟨hx, hb, hml, hown, hret, hlk, hnm, hO⟩ := F
  obtain ⟨hH, hS, hLo, hst, hc, hsl⟩ := P
  have hn1 : len = 1 := by simpa [gLen] using hn
  subst hn1
  simp only [gStep] at hs
  split at hs
  · rename_i v st1
    split at hs
    · cases hs
      obtain ⟨w1, m1, rfl, q1, h1⟩ := hst
      refine lv_pop hx hb hd (gR_cat q1) ?_
      exact kk ads H locs cells slots mls _ ⟨[], (List.append_nil _).symm⟩ ⟨hH, hS, hLo, h1, hc, hsl⟩
    · cases hs
  · cases hs
theorem gs_dup_x1 (HL : gLf sL D ex sc aL) (F : gFr sL m p s mth meth c) (hd : decode (gB m) pc = .ok (.dup_x1, len)) (hn : gLen (.dup_x1) len = true) (hres : gRes m pc (.dup_x1, len, a, b) hp = true) (hs : gStep sc (.dup_x1, len, a, b) pc ls st h = some r)
    (P : gPt sL.heap.size D ex h0 s (gMx m) ls st h ads H locs cells slots mls mst) (kk : gKk sL D ex m p l e R s mth args below meth c Q h0 ads r) : W p l e R s mth args below meth c H locs cells slots Q (F0 mth pc mls mst) := by
  obtain ⟨hx, hb, hml, hown, hret, hlk, hnm, hO⟩ := F
  obtain ⟨hH, hS, hLo, hst, hc, hsl⟩ := P
  have hn1 : len = 1 := by simpa [gLen] using hn
  subst hn1
  simp only [gStep] at hs
  split at hs
  · rename_i v v2 st1
    split at hs
    · cases hs
      obtain ⟨w1, m1, rfl, q1, h1⟩ := hst
      obtain ⟨w2, m2, rfl, q2, h2⟩ := h1
      refine lv_dup_x1 hx hb hd (gR_cat q1) (gR_cat q2) ?_
      exact kk ads H locs cells slots mls _ ⟨[], (List.append_nil _).symm⟩ ⟨hH, hS, hLo, ⟨_, _, rfl, q1, _, _, rfl, q2, _, m2, rfl, q1, h2⟩, hc, hsl⟩
    · cases hs
  · cases hs
theorem gs_dup2 (HL : gLf sL D ex sc aL) (F : gFr sL m p s mth meth c) (hd : decode (gB m) pc = .ok (.dup2, len)) (hn : gLen (.dup2) len = true) (hres : gRes m pc (.dup2, len, a, b) hp = true) (hs : gStep sc (.dup2, len, a, b) pc ls st h = some r)
    (P : gPt sL.heap.size D ex h0 s (gMx m) ls st h ads H locs cells slots mls mst) (kk : gKk sL D ex m p l e R s mth args below meth c Q h0 ads r) : W p l e R s mth args below meth c H locs cells slots Q (F0 mth pc mls mst) := by
  obtain ⟨hx, hb, hml, hown, hret, hlk, hnm, hO⟩ := F
  obtain ⟨hH, hS, hLo, hst, hc, hsl⟩ := P
  have hn1 : len = 1 := by simpa [gLen] using hn
  subst hn1
  simp only [gStep] at hs
  split at hs
  · rename_i v v2 st1
    split at hs
    · cases hs
      obtain ⟨w1, m1, rfl, q1, h1⟩ := hst
      obtain ⟨w2, m2, rfl, q2, h2⟩ := h1
      refine lv_dup2_11 hx hb hd (gR_cat q1) (gR_cat q2) ?_
      exact kk ads H locs cells slots mls _ ⟨[], (List.append_nil _).symm⟩ ⟨hH, hS, hLo, ⟨_, _, rfl, q1, _, _, rfl, q2, _, _, rfl, q1, _, m2, rfl, q2, h2⟩, hc, hsl⟩
    · cases hs
  · cases hs
theorem gs_goto {z : Int} (HL : gLf sL D ex sc aL) (F : gFr sL m p s mth meth c) (hd : decode (gB m) pc = .ok (.goto z, len)) (hn : gLen (.goto z) len = true) (hres : gRes m pc (.goto z, len, a, b) hp = true) (hs : gStep sc (.goto z, len, a, b) pc ls st h = some r)
    (P : gPt sL.heap.size D ex h0 s (gMx m) ls st h ads H locs cells slots mls mst) (kk : gKk sL D ex m p l e R s mth args below meth c Q h0 ads r) : W p l e R s mth args below meth c H locs cells slots Q (F0 mth pc mls mst) := by
  obtain ⟨hx, hb, hml, hown, hret, hlk, hnm, hO⟩ := F
  obtain ⟨hH, hS, hLo, hst, hc, hsl⟩ := P
  have hn1 : len = 3 := by simpa [gLen] using hn
  subst hn1
  simp only [gStep] at hs
  have ht : (pc : Int) + z = (a : Int) := by simpa [gRes] using hres
  cases hs
  refine lv_goto hx hb hd ht ?_
  exact kk ads H locs cells slots mls _ ⟨[], (List.append_nil _).symm⟩ ⟨hH, hS, hLo, hst, hc, hsl⟩
theorem gs_ifCond {y : ClassFile.Cond} {z : Int} (HL : gLf sL D ex sc aL) (F : gFr sL m p s mth meth c) (hd : decode (gB m) pc = .ok (.ifCond y z, len)) (hn : gLen (.ifCond y z) len = true) (hres : gRes m pc (.ifCond y z, len, a, b) hp = true) (hs : gStep sc (.ifCond y z, len, a, b) pc ls st h = some r)
    (P : gPt sL.heap.size D ex h0 s (gMx m) ls st h ads H locs cells slots mls mst) (kk : gKk sL D ex m p l e R s mth args below meth c Q h0 ads r) : W p l e R s mth args below meth c H locs cells slots Q (F0 mth pc mls mst) := by
  obtain ⟨hx, hb, hml, hown, hret, hlk, hnm, hO⟩ := F
  obtain ⟨hH, hS, hLo, hst, hc, hsl⟩ := P
  have hn1 : len = 3 := by simpa [gLen] using hn
  subst hn1
  simp only [gStep] at hs
  have ht : (pc : Int) + z = (a : Int) := by simpa [gRes] using hres
  split at hs
  · rename_i x st1
    obtain ⟨m1, rfl, h1⟩ := gRs_i hst
    cases y
    · refine lv_if_eq hx hb hd ht (fun hc9 => ?_) (fun hc9 => ?_)
      · rw [if_pos (by simp only [gTest]; exact decide_eq_true hc9)] at hs
        cases hs
        exact kk ads H locs cells slots mls _ ⟨[], (List.append_nil _).symm⟩ ⟨hH, hS, hLo, h1, hc, hsl⟩
      · rw [if_neg (by simp only [gTest]; exact fun q9 => hc9 (of_decide_eq_true q9))] at hs
        cases hs
        exact kk ads H locs cells slots mls _ ⟨[], (List.append_nil _).symm⟩ ⟨hH, hS, hLo, h1, hc, hsl⟩
    · refine lv_if_ne hx hb hd ht (fun hc9 => ?_) (fun hc9 => ?_)
      · rw [if_pos (by simp only [gTest]; exact decide_eq_true hc9)] at hs
        cases hs
        exact kk ads H locs cells slots mls _ ⟨[], (List.append_nil _).symm⟩ ⟨hH, hS, hLo, h1, hc, hsl⟩
      · rw [if_neg (by simp only [gTest]; exact fun q9 => (of_decide_eq_true q9) hc9)] at hs
        cases hs
        exact kk ads H locs cells slots mls _ ⟨[], (List.append_nil _).symm⟩ ⟨hH, hS, hLo, h1, hc, hsl⟩
    · refine lv_if_lt hx hb hd ht (fun hc9 => ?_) (fun hc9 => ?_)
      · rw [if_pos (by simp only [gTest]; exact decide_eq_true hc9)] at hs
        cases hs
        exact kk ads H locs cells slots mls _ ⟨[], (List.append_nil _).symm⟩ ⟨hH, hS, hLo, h1, hc, hsl⟩
      · rw [if_neg (by simp only [gTest]; exact fun q9 => hc9 (of_decide_eq_true q9))] at hs
        cases hs
        exact kk ads H locs cells slots mls _ ⟨[], (List.append_nil _).symm⟩ ⟨hH, hS, hLo, h1, hc, hsl⟩
    · refine lv_if_ge hx hb hd ht (fun hc9 => ?_) (fun hc9 => ?_)
      · rw [if_pos (by simp only [gTest]; exact decide_eq_true hc9)] at hs
        cases hs
        exact kk ads H locs cells slots mls _ ⟨[], (List.append_nil _).symm⟩ ⟨hH, hS, hLo, h1, hc, hsl⟩
      · rw [if_neg (by simp only [gTest]; exact fun q9 => hc9 (of_decide_eq_true q9))] at hs
        cases hs
        exact kk ads H locs cells slots mls _ ⟨[], (List.append_nil _).symm⟩ ⟨hH, hS, hLo, h1, hc, hsl⟩
    · refine lv_if_gt hx hb hd ht (fun hc9 => ?_) (fun hc9 => ?_)
      · rw [if_pos (by simp only [gTest]; exact decide_eq_true hc9)] at hs
        cases hs
        exact kk ads H locs cells slots mls _ ⟨[], (List.append_nil _).symm⟩ ⟨hH, hS, hLo, h1, hc, hsl⟩
      · rw [if_neg (by simp only [gTest]; exact fun q9 => hc9 (of_decide_eq_true q9))] at hs
        cases hs
        exact kk ads H locs cells slots mls _ ⟨[], (List.append_nil _).symm⟩ ⟨hH, hS, hLo, h1, hc, hsl⟩
    · refine lv_if_le hx hb hd ht (fun hc9 => ?_) (fun hc9 => ?_)
      · rw [if_pos (by simp only [gTest]; exact decide_eq_true hc9)] at hs
        cases hs
        exact kk ads H locs cells slots mls _ ⟨[], (List.append_nil _).symm⟩ ⟨hH, hS, hLo, h1, hc, hsl⟩
      · rw [if_neg (by simp only [gTest]; exact fun q9 => hc9 (of_decide_eq_true q9))] at hs
        cases hs
        exact kk ads H locs cells slots mls _ ⟨[], (List.append_nil _).symm⟩ ⟨hH, hS, hLo, h1, hc, hsl⟩
  · cases hs
theorem gs_if_icmp {y : ClassFile.Cond} {z : Int} (HL : gLf sL D ex sc aL) (F : gFr sL m p s mth meth c) (hd : decode (gB m) pc = .ok (.if_icmp y z, len)) (hn : gLen (.if_icmp y z) len = true) (hres : gRes m pc (.if_icmp y z, len, a, b) hp = true) (hs : gStep sc (.if_icmp y z, len, a, b) pc ls st h = some r)
    (P : gPt sL.heap.size D ex h0 s (gMx m) ls st h ads H locs cells slots mls mst) (kk : gKk sL D ex m p l e R s mth args below meth c Q h0 ads r) : W p l e R s mth args below meth c H locs cells slots Q (F0 mth pc mls mst) := by
  obtain ⟨hx, hb, hml, hown, hret, hlk, hnm, hO⟩ := F
  obtain ⟨hH, hS, hLo, hst, hc, hsl⟩ := P
  have hn1 : len = 3 := by simpa [gLen] using hn
  subst hn1
  simp only [gStep] at hs
  have ht : (pc : Int) + z = (a : Int) := by simpa [gRes] using hres
  split at hs
  · rename_i y9 x st1
    obtain ⟨m1, rfl, h1⟩ := gRs_i hst
    obtain ⟨m2, rfl, h2⟩ := gRs_i h1
    cases y
    · refine lv_icmp_eq hx hb hd ht (fun hc9 => ?_) (fun hc9 => ?_)
      · rw [if_pos (by simp only [gTest]; exact decide_eq_true hc9)] at hs
        cases hs
        exact kk ads H locs cells slots mls _ ⟨[], (List.append_nil _).symm⟩ ⟨hH, hS, hLo, h2, hc, hsl⟩
      · rw [if_neg (by simp only [gTest]; exact fun q9 => hc9 (of_decide_eq_true q9))] at hs
        cases hs
        exact kk ads H locs cells slots mls _ ⟨[], (List.append_nil _).symm⟩ ⟨hH, hS, hLo, h2, hc, hsl⟩
    · refine lv_icmp_ne hx hb hd ht (fun hc9 => ?_) (fun hc9 => ?_)
      · rw [if_pos (by simp only [gTest]; exact decide_eq_true hc9)] at hs
        cases hs
        exact kk ads H locs cells slots mls _ ⟨[], (List.append_nil _).symm⟩ ⟨hH, hS, hLo, h2, hc, hsl⟩
      · rw [if_neg (by simp only [gTest]; exact fun q9 => (of_decide_eq_true q9) hc9)] at hs
        cases hs
        exact kk ads H locs cells slots mls _ ⟨[], (List.append_nil _).symm⟩ ⟨hH, hS, hLo, h2, hc, hsl⟩
    · refine lv_icmp_lt hx hb hd ht (fun hc9 => ?_) (fun hc9 => ?_)
      · rw [if_pos (by simp only [gTest]; exact decide_eq_true hc9)] at hs
        cases hs
        exact kk ads H locs cells slots mls _ ⟨[], (List.append_nil _).symm⟩ ⟨hH, hS, hLo, h2, hc, hsl⟩
      · rw [if_neg (by simp only [gTest]; exact fun q9 => hc9 (of_decide_eq_true q9))] at hs
        cases hs
        exact kk ads H locs cells slots mls _ ⟨[], (List.append_nil _).symm⟩ ⟨hH, hS, hLo, h2, hc, hsl⟩
    · refine lv_icmp_ge hx hb hd ht (fun hc9 => ?_) (fun hc9 => ?_)
      · rw [if_pos (by simp only [gTest]; exact decide_eq_true hc9)] at hs
        cases hs
        exact kk ads H locs cells slots mls _ ⟨[], (List.append_nil _).symm⟩ ⟨hH, hS, hLo, h2, hc, hsl⟩
      · rw [if_neg (by simp only [gTest]; exact fun q9 => hc9 (of_decide_eq_true q9))] at hs
        cases hs
        exact kk ads H locs cells slots mls _ ⟨[], (List.append_nil _).symm⟩ ⟨hH, hS, hLo, h2, hc, hsl⟩
    · refine lv_icmp_gt hx hb hd ht (fun hc9 => ?_) (fun hc9 => ?_)
      · rw [if_pos (by simp only [gTest]; exact decide_eq_true hc9)] at hs
        cases hs
        exact kk ads H locs cells slots mls _ ⟨[], (List.append_nil _).symm⟩ ⟨hH, hS, hLo, h2, hc, hsl⟩
      · rw [if_neg (by simp only [gTest]; exact fun q9 => hc9 (of_decide_eq_true q9))] at hs
        cases hs
        exact kk ads H locs cells slots mls _ ⟨[], (List.append_nil _).symm⟩ ⟨hH, hS, hLo, h2, hc, hsl⟩
    · refine lv_icmp_le hx hb hd ht (fun hc9 => ?_) (fun hc9 => ?_)
      · rw [if_pos (by simp only [gTest]; exact decide_eq_true hc9)] at hs
        cases hs
        exact kk ads H locs cells slots mls _ ⟨[], (List.append_nil _).symm⟩ ⟨hH, hS, hLo, h2, hc, hsl⟩
      · rw [if_neg (by simp only [gTest]; exact fun q9 => hc9 (of_decide_eq_true q9))] at hs
        cases hs
        exact kk ads H locs cells slots mls _ ⟨[], (List.append_nil _).symm⟩ ⟨hH, hS, hLo, h2, hc, hsl⟩
  · cases hs
theorem gs_ifnull {z : Int} (HL : gLf sL D ex sc aL) (F : gFr sL m p s mth meth c) (hd : decode (gB m) pc = .ok (.ifnull z, len)) (hn : gLen (.ifnull z) len = true) (hres : gRes m pc (.ifnull z, len, a, b) hp = true) (hs : gStep sc (.ifnull z, len, a, b) pc ls st h = some r)
    (P : gPt sL.heap.size D ex h0 s (gMx m) ls st h ads H locs cells slots mls mst) (kk : gKk sL D ex m p l e R s mth args below meth c Q h0 ads r) : W p l e R s mth args below meth c H locs cells slots Q (F0 mth pc mls mst) := by
  obtain ⟨hx, hb, hml, hown, hret, hlk, hnm, hO⟩ := F
  obtain ⟨hH, hS, hLo, hst, hc, hsl⟩ := P
  have hn1 : len = 3 := by simpa [gLen] using hn
  subst hn1
  simp only [gStep] at hs
  have ht : (pc : Int) + z = (a : Int) := by simpa [gRes] using hres
  split at hs
  · rename_i st1
    cases hs
    obtain ⟨m1, rfl, h1⟩ := gRs_n hst
    refine lv_ifnullN hx hb hd ht ?_
    exact kk ads H locs cells slots mls _ ⟨[], (List.append_nil _).symm⟩ ⟨hH, hS, hLo, h1, hc, hsl⟩
  · rename_i x st1
    cases hs
    obtain ⟨a9, m1, ha, rfl, h1⟩ := gRs_r hst
    refine lv_ifnull hx hb hd ?_
    exact kk ads H locs cells slots mls _ ⟨[], (List.append_nil _).symm⟩ ⟨hH, hS, hLo, h1, hc, hsl⟩
  · cases hs
theorem gs_ifnonnull {z : Int} (HL : gLf sL D ex sc aL) (F : gFr sL m p s mth meth c) (hd : decode (gB m) pc = .ok (.ifnonnull z, len)) (hn : gLen (.ifnonnull z) len = true) (hres : gRes m pc (.ifnonnull z, len, a, b) hp = true) (hs : gStep sc (.ifnonnull z, len, a, b) pc ls st h = some r)
    (P : gPt sL.heap.size D ex h0 s (gMx m) ls st h ads H locs cells slots mls mst) (kk : gKk sL D ex m p l e R s mth args below meth c Q h0 ads r) : W p l e R s mth args below meth c H locs cells slots Q (F0 mth pc mls mst) := by
  obtain ⟨hx, hb, hml, hown, hret, hlk, hnm, hO⟩ := F
  obtain ⟨hH, hS, hLo, hst, hc, hsl⟩ := P
  have hn1 : len = 3 := by simpa [gLen] using hn
  subst hn1
  simp only [gStep] at hs
  have ht : (pc : Int) + z = (a : Int) := by simpa [gRes] using hres
  split at hs
  · rename_i st1
    cases hs
    obtain ⟨m1, rfl, h1⟩ := gRs_n hst
    refine lv_ifnonnullN hx hb hd ?_
    exact kk ads H locs cells slots mls _ ⟨[], (List.append_nil _).symm⟩ ⟨hH, hS, hLo, h1, hc, hsl⟩
  · rename_i x st1
    cases hs
    obtain ⟨a9, m1, ha, rfl, h1⟩ := gRs_r hst
    refine lv_ifnonnull hx hb hd ht ?_
    exact kk ads H locs cells slots mls _ ⟨[], (List.append_nil _).symm⟩ ⟨hH, hS, hLo, h1, hc, hsl⟩
  · cases hs
theorem gs_tableswitch {df lo hi : Int} {offs : Array Int} (HL : gLf sL D ex sc aL) (F : gFr sL m p s mth meth c) (hd : decode (gB m) pc = .ok (.tableswitch df lo hi offs, len)) (hres : gRes m pc (.tableswitch df lo hi offs, len, a, b) hp = true) (hs : gStep sc (.tableswitch df lo hi offs, len, a, b) pc ls st h = some r)
    (P : gPt sL.heap.size D ex h0 s (gMx m) ls st h ads H locs cells slots mls mst) (kk : gKk sL D ex m p l e R s mth args below meth c Q h0 ads r) : W p l e R s mth args below meth c H locs cells slots Q (F0 mth pc mls mst) := by
  obtain ⟨hx, hb, hml, hown, hret, hlk, hnm, hO⟩ := F
  obtain ⟨hH, hS, hLo, hst, hc, hsl⟩ := P
  simp only [gStep] at hs
  simp only [gRes, Bool.and_eq_true, decide_eq_true_eq] at hres
  split at hs
  · rename_i x st1
    obtain ⟨m1, rfl, h1⟩ := gRs_i hst
    split at hs
    · rename_i hout
      cases hs
      refine lv_tableOut hx hb hd hout (Int.toNat_of_nonneg hres.1).symm ?_
      exact kk ads H locs cells slots mls _ ⟨[], (List.append_nil _).symm⟩ ⟨hH, hS, hLo, h1, hc, hsl⟩
    · rename_i hin
      split at hs
      · rename_i off hoff
        cases hs
        have h9 := of_decide_eq_true (List.all_eq_true.mp hres.2 off (Array.mem_toList_iff.mpr (Array.mem_of_getElem? hoff)))
        refine lv_tableIn hx hb hd (fun q => hin (Or.inl q)) (fun q => hin (Or.inr q)) hoff (Int.toNat_of_nonneg h9).symm ?_
        exact kk ads H locs cells slots mls _ ⟨[], (List.append_nil _).symm⟩ ⟨hH, hS, hLo, h1, hc, hsl⟩
      · cases hs
  · cases hs
theorem g_osw {df x : Int} : ∀ {ps : List (Int × Int)}, Op.lookupswitch.offset ps df x = df ∨ ∃ q ∈ ps, Op.lookupswitch.offset ps df x = q.2
  | [] => Or.inl rfl
  | (k, o) :: ps => by
    rw [Op.lookupswitch.offset_cons]
    split
    · exact Or.inr ⟨(k, o), List.mem_cons_self, rfl⟩
    · rcases g_osw (df := df) (x := x) (ps := ps) with q | ⟨q, q1, q2⟩
      · exact Or.inl q
      · exact Or.inr ⟨q, List.mem_cons_of_mem _ q1, q2⟩
theorem gs_lookupswitch {df : Int} {ps : Array (Int × Int)} (HL : gLf sL D ex sc aL) (F : gFr sL m p s mth meth c) (hd : decode (gB m) pc = .ok (.lookupswitch df ps, len)) (hres : gRes m pc (.lookupswitch df ps, len, a, b) hp = true) (hs : gStep sc (.lookupswitch df ps, len, a, b) pc ls st h = some r)
    (P : gPt sL.heap.size D ex h0 s (gMx m) ls st h ads H locs cells slots mls mst) (kk : gKk sL D ex m p l e R s mth args below meth c Q h0 ads r) : W p l e R s mth args below meth c H locs cells slots Q (F0 mth pc mls mst) := by
  obtain ⟨hx, hb, hml, hown, hret, hlk, hnm, hO⟩ := F
  obtain ⟨hH, hS, hLo, hst, hc, hsl⟩ := P
  simp only [gStep] at hs
  simp only [gRes, Bool.and_eq_true, decide_eq_true_eq] at hres
  split at hs
  · rename_i x st1
    obtain ⟨m1, rfl, h1⟩ := gRs_i hst
    cases hs
    have h9 : 0 ≤ (pc : Int) + Op.lookupswitch.offset ps.toList df x.toInt := by
      rcases g_osw (df := df) (x := x.toInt) (ps := ps.toList) with q | ⟨q, q1, q2⟩
      · rw [q]; exact hres.1.1
      · rw [q2]; exact of_decide_eq_true (List.all_eq_true.mp hres.1.2 q q1)
    refine lv_lookup hx hb hd hres.2 rfl (Int.toNat_of_nonneg h9).symm ?_
    exact kk ads H locs cells slots mls _ ⟨[], (List.append_nil _).symm⟩ ⟨hH, hS, hLo, h1, hc, hsl⟩
  · cases hs
end SND
end
section
/-- the words of a class's fields, by their places -/
def gUok (q : vw_C) (ps : List Nat) : Bool := (List.range q.2.2).all (fun k => gW ps k (u_lay q.1 q.2.1 k) && goodWord (u_lay q.1 q.2.1 k))
def gUp : List (List Nat) := [[111, 107, 109], [1358, 1360], [915, 917, 919, 921, 923], [1133, 1135, 1137, 1139], [850, 852, 854], [126, 128, 130], [837, 839], [1238, 1240, 1242, 1244, 1246, 1248, 1250], [995, 997, 999, 1001, 1003, 1005, 1007], [1088, 1090], [937, 939, 941, 943], [151, 153, 155, 157, 159, 161, 163, 165, 167, 169, 171, 173, 175, 177, 179, 181, 183, 185]]
theorem gUok_all : (gCl.zip gUp).all (fun q => gUok q.1 q.2) = true := by decide +kernel
theorem gCl_words {ci : Nat} {q : vw_C} (h : gCl[ci]? = some q) : ∀ w ∈ u_ws q.1 q.2.1 q.2.2, w ∈ lw_tbl ∧ goodWord w = true := by
  have hl : ci < 12 := (List.getElem?_eq_some_iff.mp h).1
  obtain ⟨ps, hp⟩ : ∃ ps, gUp[ci]? = some ps := ⟨gUp[ci]'hl, List.getElem?_eq_getElem hl⟩
  have hz : (q, ps) ∈ gCl.zip gUp := List.mem_of_getElem? (i := ci) (by rw [List.getElem?_zip_eq_some]; exact ⟨h, hp⟩)
  have h1 := List.all_eq_true.mp (List.all_eq_true.mp gUok_all _ hz)
  intro w hw
  obtain ⟨k, hk, rfl⟩ := List.mem_map.mp hw
  have h2 := h1 k hk
  rw [Bool.and_eq_true] at h2
  exact ⟨gW_in h2.1, h2.2⟩
def gTok (ci : Nat) (q : vw_C) : Bool := (List.range q.2.2).all (fun k => decide (parseFieldDescriptor (q.2.1 k).2.2.1 = some (gTy ci k)) && decide (defaultValue (gTy ci k) = gZ (gTy ci k)) && (List.range q.2.2).all (fun j => decide (j = k) || decide ((q.2.1 j).2.1 ≠ (q.2.1 k).2.1)))
theorem gTok_all : (List.range 12).all (fun ci => match gCl[ci]? with | some q => gTok ci q | none => false) = true := by decide +kernel
theorem gCl_types {ci : Nat} {q : vw_C} (h : gCl[ci]? = some q) : (∀ k, k < q.2.2 → parseFieldDescriptor (q.2.1 k).2.2.1 = some (gTy ci k)) ∧ (∀ k, k < q.2.2 → defaultValue (gTy ci k) = gZ (gTy ci k)) ∧ ∀ a, a < q.2.2 → ∀ b, b < q.2.2 → a ≠ b → (q.2.1 a).2.1 ≠ (q.2.1 b).2.1 := by
  have hl : ci < 12 := (List.getElem?_eq_some_iff.mp h).1
  have h1 := List.all_eq_true.mp gTok_all ci (List.mem_range.mpr hl)
  rw [h] at h1
  have h2 := List.all_eq_true.mp (show gTok ci q = true from h1)
  have h3 : ∀ k, k < q.2.2 → _ := fun k hk => h2 k (List.mem_range.mpr hk)
  simp only [Bool.and_eq_true, decide_eq_true_eq] at h3
  refine ⟨fun k hk => (h3 k hk).1.1, fun k hk => (h3 k hk).1.2, fun a ha b hb hab => ?_⟩
  have h4 := List.all_eq_true.mp (h3 b hb).2 a (List.mem_range.mpr ha)
  simp only [Bool.or_eq_true, decide_eq_true_eq] at h4
  exact h4.resolve_left hab
theorem gCell {B : Nat} {D : va_G} {ex : Nat → Nat} {ads : List Nat} {h : gH} {ws : va_W} {tys : List (ClassId × FieldType)} (hads : ws.map Prod.fst = ads)
    (hcor : ∀ (k : Nat) (x : gC), h.2.2[k]? = some x → ∃ (a : Nat) (e : va_E), ws[k]? = some (a, e) ∧ gRc ads ex tys x e) {r a : Nat} {x : gC} (ha : ads[r]? = some a) (hx : gGet h r = some x) : ∃ e, ws[r]? = some (a, e) ∧ gRc ads ex tys x e := by
  obtain ⟨a', e, h1, h2⟩ := hcor r x hx
  rw [← hads, List.getElem?_map, h1] at ha
  cases ha
  exact ⟨e, h1, h2⟩
theorem gSet_ads {ws : va_W} {ads : List Nat} {r a : Nat} {e e' : va_E} (hads : ws.map Prod.fst = ads) (hr : ws[r]? = some (a, e)) : (ws.set r (a, e')).map Prod.fst = ads := by
  rw [← hads]
  apply List.ext_getElem?
  intro k
  rw [List.getElem?_map, List.getElem?_map, List.getElem?_set]
  by_cases hk : r = k
  · subst hk
    rw [if_pos rfl, if_pos (List.getElem?_eq_some_iff.mp hr).1, hr]
    rfl
  · rw [if_neg hk]
theorem gHp_put {B : Nat} {D : va_G} {ex : Nat → Nat} {ads : List Nat} {h : gH} {s : State} {ws : va_W} {tys : List (ClassId × FieldType)} {H' : Heap} {r a : Nat} {x' : gC} {e e' : va_E} (hads : ws.map Prod.fst = ads) (hlen : ws.length = h.2.2.length)
    (hcor : ∀ (k : Nat) (x : gC), h.2.2[k]? = some x → ∃ (a : Nat) (e : va_E), ws[k]? = some (a, e) ∧ gRc ads ex tys x e) (hr : ws[r]? = some (a, e)) (hrc : gRc ads ex tys x' e')
    (hP : va_P D gCl (ws.set r (a, e')) H') (hD : va_D (fun q => B ≤ q) (ws.set r (a, e'))) (hK : va_K D gCl tys s) : gHp B D ex ads (gPut h r x') s H' := by
  refine ⟨ws.set r (a, e'), tys, gSet_ads hads hr, hP, hD, hK, by simp [gPut, hlen], fun k x hk => ?_⟩
  simp only [gPut, List.getElem?_set] at hk
  rw [List.getElem?_set]
  by_cases hrk : r = k
  · subst hrk
    rw [if_pos rfl] at hk ⊢
    have hl := (List.getElem?_eq_some_iff.mp hr).1
    rw [if_pos (by rw [← hlen]; exact hl)] at hk
    rw [if_pos hl]
    cases hk
    exact ⟨a, e', rfl, hrc⟩
  · rw [if_neg hrk] at hk ⊢
    exact hcor k x hk
theorem gHp_new {B : Nat} {D : va_G} {ex : Nat → Nat} {ads : List Nat} {h : gH} {s : State} {ws : va_W} {tys ty' : List (ClassId × FieldType)} {H' : Heap} {q n : Nat} {x' : gC} {e' : va_E} (hads : ws.map Prod.fst = ads) (hlen : ws.length = h.2.2.length)
    (hcor : ∀ (k : Nat) (x : gC), h.2.2[k]? = some x → ∃ (a : Nat) (e : va_E), ws[k]? = some (a, e) ∧ gRc ads ex tys x e) (hrc : gRc (ads ++ [q]) ex (tys ++ ty') x' e')
    (hP : va_P D gCl (ws ++ [(q, e')]) H') (hD : va_D (fun q => B ≤ q) (ws ++ [(q, e')])) (hK : va_K D gCl (tys ++ ty') s) : gHp B D ex (ads ++ [q]) (gNew h n x') s H' := by
  refine ⟨ws ++ [(q, e')], tys ++ ty', by rw [List.map_append, hads]; rfl, hP, hD, hK, by simp [gNew, hlen], fun k x hk => ?_⟩
  simp only [gNew] at hk
  by_cases hkl : k < h.2.2.length
  · rw [List.getElem?_append_left hkl] at hk
    obtain ⟨a, e, h1, h2⟩ := hcor k x hk
    exact ⟨a, e, by rw [List.getElem?_append_left (by rw [hlen]; exact hkl)]; exact h1, gRc_up _ _ h2⟩
  · rw [List.getElem?_append_right (by omega)] at hk
    have hz : k - h.2.2.length < 1 := (List.getElem?_eq_some_iff.mp hk).1
    have e0 : k = h.2.2.length := by omega
    subst e0
    rw [Nat.sub_self] at hk
    cases hk
    refine ⟨q, e', ?_, hrc⟩
    rw [← hlen, List.getElem?_append_right (Nat.le_refl _), Nat.sub_self]
    rfl
theorem gRs_gZ {ads : List Nat} {ex : Nat → Nat} (f : Nat → FieldType) : ∀ l : List Nat, gRs ads ex (l.map (fun k => gZ (f k))) (l.map (fun k => gZ (f k)))
  | [] => rfl
  | k :: l => by
    refine ⟨_, _, rfl, ?_, gRs_gZ f l⟩
    show gR ads ex (gZ (f k)) (gZ (f k))
    cases f k <;> exact rfl
section SND2
variable {sL : State} {D : va_G} {ex : Nat → Nat} {sc : gSc} {aL : Array Value} {m : Nat} {p : Program} {l : Launch} {e : Env} {R : Room} {s : State} {mth : MethodId} {args : Array Value} {below : List Frame} {meth : Method} {c : Code} {Q : State → Prop}
variable {len a b pc z : Nat} {ls : gL} {st : List Value} {h h0 : gH} {r : gQ} {ads : List Nat} {H : Heap} {locs : List Loc} {cells slots : Nat} {mls : Array Slot} {mst : List Value} {hp : List Nat}
theorem gU_at {args : Array Value} (HL : gLf sL D ex sc aL) (hO : gOld sL s s.heap) {ci : Nat} {q : vw_C} (hcl : gCl[ci]? = some q) : ∀ w ∈ u_ws q.1 q.2.1 q.2.2, w.before args s = true := fun w hw => gw_at hO.1 HL.1 (gCl_words hcl w hw).1 (gCl_words hcl w hw).2 _
/-- a field's link at s, and its name's meaning -/
theorem gFl_at {args : Array Value} (HL : gLf sL D ex sc aL) (hO : gOld sL s s.heap) {own : String} {i ci b : Nat} {C : String} {T : u_T} {N : Nat} (hcl : gCl[ci]? = some (C, T, N)) (hf : gFl hp own i ci b = true) :
    b < N ∧ ∃ ref, (Cond.fieldLink own i ref (T b).2.1 (T b).2.2.1).before args s = true ∧ ∀ x, s.fieldFound? (T b).1 (T b).2.1 (T b).2.2.1 = some x → s.fieldFound? ref (T b).2.1 (T b).2.2.1 = some x := by
  unfold gFl at hf
  rw [hcl] at hf
  simp only [Bool.and_eq_true, Bool.or_eq_true, decide_eq_true_eq] at hf
  refine ⟨hf.1, ?_⟩
  rcases hf.2 with h1 | ⟨h1, h2⟩
  · exact ⟨_, gw_at hO.1 HL.1 (gW_in h1) rfl _, fun x hx => hx⟩
  · exact ⟨_, gw_at hO.1 HL.1 (gW_in h1) rfl _, u_same (args := args) (gw_at hO.1 HL.1 (gW_in h2) rfl _)⟩
theorem gs_getfield (HL : gLf sL D ex sc aL) (F : gFr sL m p s mth meth c) (hd : decode (gB m) pc = .ok (.getfield z, len)) (hn : gLen (.getfield z) len = true) (hres : gRes m pc (.getfield z, len, a, b) hp = true) (hs : gStep sc (.getfield z, len, a, b) pc ls st h = some r)
    (P : gPt sL.heap.size D ex h0 s (gMx m) ls st h ads H locs cells slots mls mst) (kk : gKk sL D ex m p l e R s mth args below meth c Q h0 ads r) : W p l e R s mth args below meth c H locs cells slots Q (F0 mth pc mls mst) := by
  obtain ⟨hx, hb, hml, hown, hret, hlk, hnm, hO⟩ := F
  obtain ⟨hH, hS, hLo, hst, hc, hsl⟩ := P
  have hn1 : len = 3 := by simpa [gLen] using hn
  subst hn1
  simp only [gStep] at hs
  split at hs
  · rename_i r9 st1
    split at hs
    · rename_i ci fs hq
      split at hs
      · rename_i hci
        split at hs
        · rename_i v hv
          cases hs
          obtain ⟨a9, m1, ha, rfl, h1⟩ := gRs_r hst
          obtain ⟨ws, tys, hads, hP, hD, hK, hlen, hcor⟩ := id hH
          obtain ⟨e9, he, fs', rfl, hfs⟩ := gCell (B := 0) (D := D) hads hcor ha hq
          obtain ⟨w, hw, hvw⟩ := gRs_at hfs hv
          obtain ⟨⟨C, T, N⟩, hcl, -⟩ := hP _ _ he
          have hl : ci < 12 := (List.getElem?_eq_some_iff.mp hcl).1
          have hf : gFl hp (gY m).cls z ci b = true := by
            subst hci
            simp only [gRes, Bool.or_eq_true, decide_eq_true_eq] at hres
            exact hres.resolve_left (by omega)
          obtain ⟨hbN, ref, hlink, hsame⟩ := gFl_at (args := args) HL hO hcl hf
          refine va_get (D := D) (ci := ci) hx hb (gU_at HL hO hcl) (fun w h => h) hown hK hP r9 he hcl b hbN hlink hsame hw hd ?_
          exact kk ads H locs cells slots mls _ ⟨[], (List.append_nil _).symm⟩ ⟨hH, hS, hLo, ⟨_, m1, rfl, hvw, h1⟩, hc, hsl⟩
        · cases hs
      · cases hs
    · cases hs
  · cases hs
theorem gs_putfield (HL : gLf sL D ex sc aL) (F : gFr sL m p s mth meth c) (hd : decode (gB m) pc = .ok (.putfield z, len)) (hn : gLen (.putfield z) len = true) (hres : gRes m pc (.putfield z, len, a, b) hp = true) (hs : gStep sc (.putfield z, len, a, b) pc ls st h = some r)
    (P : gPt sL.heap.size D ex h0 s (gMx m) ls st h ads H locs cells slots mls mst) (kk : gKk sL D ex m p l e R s mth args below meth c Q h0 ads r) : W p l e R s mth args below meth c H locs cells slots Q (F0 mth pc mls mst) := by
  obtain ⟨hx, hb, hml, hown, hret, hlk, hnm, hO⟩ := F
  obtain ⟨hH, hS, hLo, hst, hc, hsl⟩ := P
  have hn1 : len = 3 := by simpa [gLen] using hn
  subst hn1
  simp only [gStep] at hs
  split at hs
  · rename_i v r9 st1
    split at hs
    · rename_i ci fs hq
      split at hs
      · rename_i hcon
        obtain ⟨hci, hbl, hfit⟩ := hcon
        cases hs
        obtain ⟨w, m0, rfl, hvw, h0'⟩ := hst
        obtain ⟨a9, m1, ha, rfl, h1⟩ := gRs_r h0'
        obtain ⟨ws, tys, hads, hP, hD, hK, hlen, hcor⟩ := id hH
        obtain ⟨e9, he, fs', rfl, hfs⟩ := gCell (B := 0) (D := D) hads hcor ha hq
        obtain ⟨⟨C, T, N⟩, hcl, -⟩ := hP _ _ he
        have hl : ci < 12 := (List.getElem?_eq_some_iff.mp hcl).1
        subst hci
        simp only [gRes, Bool.or_eq_true, Bool.and_eq_true, decide_eq_true_eq, Bool.not_eq_true'] at hres
        obtain ⟨hf, hfin⟩ := hres.resolve_left (by omega)
        obtain ⟨hbN, ref, hlink, hsame⟩ := gFl_at (args := args) HL hO hcl hf
        obtain ⟨ht1, ht2, ht3⟩ := gCl_types hcl
        obtain ⟨hn9, hf9⟩ := gFit_ok hfit hvw
        have hbl' : b < fs'.length := by rw [gRs_len hfs]; exact hbl
        have e1 : gFin ci b = (T b).2.2.2 := by simp only [gFin, hcl]
        have e2 : gDcl ci b = (T b).1 := by simp only [gDcl, hcl]
        cases hfb : (T b).2.2.2 with
        | false =>
          refine va_put (D := D) (ci := ci) hx hb (gU_at HL hO hcl) (fun w h => h) (gTy ci) ht1 ht3 hown hK hP hD hS r9 he hcl b hbN hlink hsame hfb (ht1 b hbN) hn9 hf9 hbl' hd (fun H1 locs1 hP1 hD1 hS1 => ?_)
          exact kk ads H1 locs1 cells slots mls _ ⟨[], (List.append_nil _).symm⟩ ⟨gHp_put hads hlen hcor he ⟨_, rfl, gRs_set hfs b hvw⟩ hP1 hD1 hK, hS1, hLo, h1, hc, hsl⟩
        | true =>
          rw [e1, hfb] at hfin
          obtain ⟨hi1, hi2⟩ := hfin.resolve_left (by simp)
          rw [e2] at hi2
          refine va_putF (D := D) (ci := ci) hx hb (gU_at HL hO hcl) (fun w h => h) (gTy ci) ht1 ht3 hown hK hP hD hS r9 he hcl b hbN hlink hsame hfb (hnm.trans hi1) hi2 (ht1 b hbN) hn9 hf9 hbl' hd (fun H1 locs1 hP1 hD1 hS1 => ?_)
          exact kk ads H1 locs1 cells slots mls _ ⟨[], (List.append_nil _).symm⟩ ⟨gHp_put hads hlen hcor he ⟨_, rfl, gRs_set hfs b hvw⟩ hP1 hD1 hK, hS1, hLo, h1, hc, hsl⟩
      · cases hs
    · cases hs
  · cases hs
theorem gs_getstatic (HL : gLf sL D ex sc aL) (F : gFr sL m p s mth meth c) (hd : decode (gB m) pc = .ok (.getstatic z, len)) (hn : gLen (.getstatic z) len = true) (hres : gRes m pc (.getstatic z, len, a, b) hp = true) (hs : gStep sc (.getstatic z, len, a, b) pc ls st h = some r)
    (P : gPt sL.heap.size D ex h0 s (gMx m) ls st h ads H locs cells slots mls mst) (kk : gKk sL D ex m p l e R s mth args below meth c Q h0 ads r) : W p l e R s mth args below meth c H locs cells slots Q (F0 mth pc mls mst) := by
  obtain ⟨hx, hb, hml, hown, hret, hlk, hnm, hO⟩ := F
  obtain ⟨hH, hS, hLo, hst, hc, hsl⟩ := P
  have hn1 : len = 3 := by simpa [gLen] using hn
  subst hn1
  simp only [gStep] at hs
  split at hs
  · rename_i ha2
    cases hs
    subst ha2
    have hlink := gw_at (a' := args) hO.1 HL.1 (gW_in (by simpa [gRes] using hres)) rfl
    have hZ : va_Z "java/util/ArrayList" "DEFAULTCAPACITY_EMPTY_ELEMENTDATA" "[Ljava/lang/Object;" (.ref (ex 2)) (fun q => sL.heap.size ≤ q) s s.heap := (va_Z.moved hO.1.alike HL.2.2.2.2.1).kept (fun q hq _ => hO.2.2 q hq)
    refine va_gets hx hb hZ hS hown hlink (fun x hx => hx) hd ?_
    exact kk ads H locs cells slots mls _ ⟨[], (List.append_nil _).symm⟩ ⟨hH, hS, hLo, ⟨_, mst, rfl, ⟨by omega, rfl⟩, hst⟩, hc, hsl⟩
  · cases hs
theorem gs_new (HL : gLf sL D ex sc aL) (F : gFr sL m p s mth meth c) (hd : decode (gB m) pc = .ok (.new z, len)) (hn : gLen (.new z) len = true) (hres : gRes m pc (.new z, len, a, b) hp = true) (hs : gStep sc (.new z, len, a, b) pc ls st h = some r)
    (P : gPt sL.heap.size D ex h0 s (gMx m) ls st h ads H locs cells slots mls mst) (hroom : r.2.2.2.1 ≤ h0.1 + R.cells ∧ r.2.2.2.2.1 ≤ h0.2.1 + R.slots) (kk : gKk sL D ex m p l e R s mth args below meth c Q h0 ads r) : W p l e R s mth args below meth c H locs cells slots Q (F0 mth pc mls mst) := by
  obtain ⟨hx, hb, hml, hown, hret, hlk, hnm, hO⟩ := F
  obtain ⟨hH, hS, hLo, hst, hc, hsl⟩ := P
  have hn1 : len = 3 := by simpa [gLen] using hn
  subst hn1
  simp only [gStep] at hs
  split at hs
  · rename_i ha2
    cases hs
    obtain ⟨ws, tys, hads, hP, hD, hK, hlen, hcor⟩ := id hH
    obtain ⟨⟨C, T, N⟩, hcl⟩ : ∃ q, gCl[a]? = some q := ⟨_, List.getElem?_eq_getElem (show a < gCl.length from ha2)⟩
    have eC : gCn a = C := by simp only [gCn, hcl]
    have eN : gN a = N := by simp only [gN, hcl]
    simp only [gRes, if_neg (show ¬ 1000 ≤ a by omega), Bool.or_eq_true, Bool.and_eq_true, decide_eq_true_eq, eC, eN] at hres
    obtain ⟨⟨w1, w2⟩, w3⟩ := hres.resolve_left (by omega)
    obtain ⟨ht1, ht2, ht3⟩ := gCl_types hcl
    simp only [gNew, eN] at hroom
    refine va_new (ci := a) (C := C) (T := T) (N := N) (fs := (List.range N).map (fun k => gZ (gTy a k))) hx hb (gU_at HL hO hcl) (fun w h => h) (gTy a) ht1 hown (gw_at hO.1 HL.1 (gW_in w1) rfl _) (gw_at hO.1 HL.1 (gW_in w2) rfl _) (gw_at hO.1 HL.1 (gW_in w3) rfl _) hK hP hD hS (fun q hq => Nat.le_trans hO.2.1 hq) hcl (fun j hj => ?_) (by omega) (by omega) hd (fun q H1 hP1 hD1 hS1 => ?_)
    · rw [ht2 j hj]
      simp [vp_V, hj]
    · refine kk (ads ++ [q]) H1 locs (cells + 1) (slots + N) mls _ ⟨[q], rfl⟩ ⟨?_, hS1, gLo_up _ hLo, ⟨_, mst, rfl, ⟨q, ?_, rfl⟩, gRs_up _ hst⟩, by simp only [gNew]; omega, by simp only [gNew, eN]; omega⟩
      · exact gHp_new (ty' := []) hads hlen hcor ⟨_, rfl, by rw [eN]; exact gRs_gZ (gTy a) _⟩ hP1 hD1 (by rw [List.append_nil]; exact hK)
      · rw [← hads, ← hlen, List.getElem?_append_right (by simp)]
        simp
  · cases hs
end SND2
end
section
section LDWF
variable {p : Program} {l : Launch} {e : Env} {R : Room} {s : State} {m : MethodId} {args : Array Value} {below : List Frame} {meth : Method} {c : Code} {H : Heap} {locs : List Loc} {cells slots : Nat} {Q : State → Prop} {cc : ByteArray} {pc : Nat} {ls : Array Slot} {rest : List Value}
theorem gx_ldcwF {T : State} (X : Stand p l e R s m args below meth c T locs cells slots) (hexec : p.tables.exec = Jvm.exec) {own : String} {index : Nat} {v : UInt32} (hown : s.vm.findClass own = some m.cls)
    (hconst : (Cond.constantFloat own index v).before args s = true) {g : JFrame} (hg : g.method = m) (hdg : decode c.code g.pc = .ok (.ldc_w index, 3)) :
    ∀ target, Steps p.tables e below (T.setTop { g with pc := g.pc + 3, stack := .float v :: g.stack }) target → Steps p.tables e below (T.setTop g) target := by
  obtain ⟨k, cf, hk, hcf, hcp⟩ := Cond.constantFloat_spec hown hconst
  obtain ⟨k', hk', he⟩ := X.warmed.alike.2.2 _ _ hk
  intro target hrest
  subst hg
  jvm_step X.here [hexec, hdg, ldc_w.wp_float (s := T) (f := g) X.here.top hk' (by rw [he]; exact hcf) hcp]
  exact hrest
theorem gx_ldcwf (hexec : p.tables.exec = Jvm.exec) (hb : c.code = cc) {own : String} {index : Nat} {v : UInt32} (hown : s.vm.findClass own = some m.cls) (hconst : (Jvm.Cond.constantFloat own index v).before args s = true) (hdg : decode cc pc = .ok (.ldc_w index, 3)) (k : W p l e R s m args below meth c H locs cells slots Q (F0 m (pc + 3) ls (.float v :: rest))) : W p l e R s m args below meth c H locs cells slots Q (F0 m pc ls rest) := by
  intro T hT X
  obtain ⟨t, a, b⟩ := k T hT X
  exact ⟨t, gx_ldcwF X hexec hown hconst (g := F0 m pc ls rest) rfl (by rw [hb]; exact hdg) t a, b⟩
end LDWF
section SND3
variable {sL : State} {D : va_G} {ex : Nat → Nat} {sc : gSc} {aL : Array Value} {m : Nat} {p : Program} {l : Launch} {e : Env} {R : Room} {s : State} {mth : MethodId} {args : Array Value} {below : List Frame} {meth : Method} {c : Code} {Q : State → Prop}
variable {len a b pc z : Nat} {ls : gL} {st : List Value} {h h0 : gH} {r : gQ} {ads : List Nat} {H : Heap} {locs : List Loc} {cells slots : Nat} {mls : Array Slot} {mst : List Value} {hp : List Nat}

theorem gEx2 (HL : gLf sL D ex sc aL) : ex 2 < sL.heap.size := by
  obtain ⟨-, -, -, -, -, ⟨cell, h1, -⟩, -⟩ := HL
  exact (Array.getElem?_eq_some_iff.mp h1).1
theorem gSame_ok {B : Nat} {x y wx wy : Value} {t : Bool} (hH : gHp B D ex ads h s H) (h2 : ex 2 < B) (hs : gSame x y = some t) (hx : gR ads ex x wx) (hy : gR ads ex y wy) : ∃ rx ry, wx = va_rf rx ∧ wy = va_rf ry ∧ (t = true ↔ rx = ry) := by
  obtain ⟨ws, tys, hads, hP, hD, hK, hlen, hcor⟩ := hH
  have hat : ∀ k q : Nat, ads[k]? = some q → ∃ v, ws[k]? = some (q, v) := by
    intro k q hk
    rw [← hads, List.getElem?_map] at hk
    cases hw : ws[k]? with
    | none => rw [hw] at hk; cases hk
    | some v =>
      rw [hw] at hk
      cases hk
      exact ⟨v.2, rfl⟩
  unfold gSame at hs
  split at hs
  · rename_i k j
    obtain ⟨q1, ha, rfl⟩ := hx
    obtain ⟨q2, hb, rfl⟩ := hy
    cases hs
    refine ⟨some q1, some q2, rfl, rfl, fun h => ?_, fun h => ?_⟩
    · rw [beq_iff_eq] at h
      subst h
      rw [ha] at hb
      exact hb
    · cases h
      obtain ⟨v1, e1⟩ := hat _ _ ha
      obtain ⟨v2, e2⟩ := hat _ _ hb
      rw [beq_iff_eq]
      exact hD.1 _ _ _ _ e1 e2 rfl
  · cases hs
    cases (show wx = .null from hx)
    cases (show wy = .null from hy)
    exact ⟨none, none, rfl, rfl, fun _ => rfl, fun _ => rfl⟩
  · cases hs
    cases (show wx = .null from hx)
    obtain ⟨q2, hb, rfl⟩ := hy
    exact ⟨none, some q2, rfl, rfl, fun h => (by cases h), fun h => (by cases h)⟩
  · cases hs
    cases (show wy = .null from hy)
    obtain ⟨q1, ha, rfl⟩ := hx
    exact ⟨some q1, none, rfl, rfl, fun h => (by cases h), fun h => (by cases h)⟩
  · rename_i j1 j2
    split at hs
    · rename_i hj
      cases hs
      obtain ⟨-, rfl⟩ := hx
      obtain ⟨-, rfl⟩ := hy
      exact ⟨some (ex j1), some (ex j2), rfl, rfl, fun _ => by rw [hj], fun _ => rfl⟩
    · cases hs
  · cases hs
    obtain ⟨-, rfl⟩ := hx
    obtain ⟨q2, hb, rfl⟩ := hy
    obtain ⟨v2, e2⟩ := hat _ _ hb
    have h9 : B ≤ q2 := hD.2 _ _ e2
    exact ⟨some (ex 2), some q2, rfl, rfl, fun h => (by cases h), fun h => (by cases h; omega)⟩
  · cases hs
    obtain ⟨-, rfl⟩ := hy
    obtain ⟨q2, hb, rfl⟩ := hx
    obtain ⟨v2, e2⟩ := hat _ _ hb
    have h9 : B ≤ q2 := hD.2 _ _ e2
    exact ⟨some q2, some (ex 2), rfl, rfl, fun h => (by cases h), fun h => (by cases h; omega)⟩
  · cases hs
theorem gRo_rf {x y : Option Nat} (h : gRo ads x y) : gR ads ex (va_rf x) (va_rf y) := by
  cases x with
  | none => cases (show y = none from h); exact rfl
  | some k =>
    obtain ⟨q, h1, rfl⟩ := h
    exact ⟨q, h1, rfl⟩
theorem gRo_upd {f g : Nat → Option Nat} {x y : Option Nat} (h : ∀ i, gRo ads (f i) (g i)) (hxy : gRo ads x y) (k i : Nat) : gRo ads (va_up f k x i) (va_up g k y i) := by
  unfold va_up
  split
  · exact hxy
  · exact h i
def gPlus : Cond → Bool
  | .stringRef o k t => !(t == "+><") || (o == "StratumLedgeLaw" && k == 199)
  | _ => true
theorem gPlus_all : lw_tbl.all gPlus = true := by decide +kernel
theorem gPlus_at {own : String} {k : Nat} (h : Cond.stringRef own k "+><" ∈ lw_tbl) : own = "StratumLedgeLaw" ∧ k = 199 := by
  have h1 := List.all_eq_true.mp gPlus_all _ h
  simp only [gPlus, Bool.or_eq_true, Bool.and_eq_true, Bool.not_eq_true', beq_iff_eq] at h1
  rcases h1 with h1 | h1
  · simp at h1
  · exact h1

theorem gs_if_acmp {y : _} {z : Int} (HL : gLf sL D ex sc aL) (F : gFr sL m p s mth meth c) (hd : decode (gB m) pc = .ok (.if_acmp y z, len)) (hn : gLen (.if_acmp y z) len = true) (hres : gRes m pc (.if_acmp y z, len, a, b) hp = true) (hs : gStep sc (.if_acmp y z, len, a, b) pc ls st h = some r)
    (P : gPt sL.heap.size D ex h0 s (gMx m) ls st h ads H locs cells slots mls mst) (kk : gKk sL D ex m p l e R s mth args below meth c Q h0 ads r) : W p l e R s mth args below meth c H locs cells slots Q (F0 mth pc mls mst) := by
  obtain ⟨hx, hb, hml, hown, hret, hlk, hnm, hO⟩ := F
  obtain ⟨hH, hS, hLo, hst, hc, hsl⟩ := P
  have hn1 : len = 3 := by simpa [gLen] using hn
  subst hn1
  simp only [gStep] at hs
  have ht : (pc : Int) + z = (a : Int) := by simpa [gRes] using hres
  split at hs
  · rename_i y9 x9 st1
    split at hs
    · rename_i t9 hq
      obtain ⟨wy, m0, rfl, hwy, h0'⟩ := hst
      obtain ⟨wx, m1, rfl, hwx, h1⟩ := h0'
      obtain ⟨rx, ry, rfl, rfl, ht9⟩ := gSame_ok hH (gEx2 HL) hq hwx hwy
      cases y
      · refine lv_acmp_eq hx hb hd ht (fun hc9 => ?_) (fun hc9 => ?_)
        · rw [if_pos (by exact ht9.mpr hc9)] at hs
          cases hs
          exact kk ads H locs cells slots mls _ ⟨[], (List.append_nil _).symm⟩ ⟨hH, hS, hLo, h1, hc, hsl⟩
        · rw [if_neg (by exact fun q9 => hc9 (ht9.mp q9))] at hs
          cases hs
          exact kk ads H locs cells slots mls _ ⟨[], (List.append_nil _).symm⟩ ⟨hH, hS, hLo, h1, hc, hsl⟩
      · have hf9 : ¬ rx = ry → (!t9) = true := fun q9 => by
          cases t9 with
          | true => exact absurd (ht9.mp rfl) q9
          | false => rfl
        have hg9 : rx = ry → ¬ (!t9) = true := fun q9 => by rw [ht9.mpr q9]; decide
        refine lv_acmp_ne hx hb hd ht (fun hc9 => ?_) (fun hc9 => ?_)
        · rw [if_pos (by exact hf9 hc9)] at hs
          cases hs
          exact kk ads H locs cells slots mls _ ⟨[], (List.append_nil _).symm⟩ ⟨hH, hS, hLo, h1, hc, hsl⟩
        · rw [if_neg (by exact hg9 hc9)] at hs
          cases hs
          exact kk ads H locs cells slots mls _ ⟨[], (List.append_nil _).symm⟩ ⟨hH, hS, hLo, h1, hc, hsl⟩
    · cases hs
  · cases hs
theorem gs_ldc (HL : gLf sL D ex sc aL) (F : gFr sL m p s mth meth c) (hd : decode (gB m) pc = .ok (.ldc z, len)) (hn : gLen (.ldc z) len = true) (hres : gRes m pc (.ldc z, len, a, b) hp = true) (hs : gStep sc (.ldc z, len, a, b) pc ls st h = some r)
    (P : gPt sL.heap.size D ex h0 s (gMx m) ls st h ads H locs cells slots mls mst) (kk : gKk sL D ex m p l e R s mth args below meth c Q h0 ads r) : W p l e R s mth args below meth c H locs cells slots Q (F0 mth pc mls mst) := by
  obtain ⟨hx, hb, hml, hown, hret, hlk, hnm, hO⟩ := F
  obtain ⟨hH, hS, hLo, hst, hc, hsl⟩ := P
  have hn1 : len = 2 := by simpa [gLen] using hn
  subst hn1
  simp only [gStep] at hs
  split at hs
  · cases hs
    have w1 : gW hp 0 (.constant (gY m).cls z (Int32.ofNat b)) = true := by simpa [gRes] using hres
    refine lv_ldc hx hb hown (gw_at hO.1 HL.1 (gW_in w1) rfl _) hd ?_
    exact kk ads H locs cells slots mls _ ⟨[], (List.append_nil _).symm⟩ ⟨hH, hS, hLo, ⟨_, mst, rfl, rfl, hst⟩, hc, hsl⟩
  · cases hs
    have w1 : gW hp 0 (.constantFloat (gY m).cls z (UInt32.ofNat b)) = true := by simpa [gRes] using hres
    refine lv_ldcf hx hb hown (gw_at hO.1 HL.1 (gW_in w1) rfl _) hd ?_
    exact kk ads H locs cells slots mls _ ⟨[], (List.append_nil _).symm⟩ ⟨hH, hS, hLo, ⟨_, mst, rfl, rfl, hst⟩, hc, hsl⟩
  · cases hs
    by_cases hb1 : b = 1
    · subst hb1
      have w1 : gW hp 0 (.stringRef (gY m).cls z "+><") = true := by simpa [gRes] using hres
      obtain ⟨e1, rfl⟩ := gPlus_at (gW_in w1)
      refine va_ldcS hx hb hown (q := ex 1) (tx := "+><") (by rw [e1]; exact vk_R.warm hO.1 HL.2.2.2.1) hd ?_
      exact kk ads H locs cells slots mls _ ⟨[], (List.append_nil _).symm⟩ ⟨hH, hS, hLo, ⟨_, mst, rfl, ⟨by omega, rfl⟩, hst⟩, hc, hsl⟩
    · have w0 : b = 3 ∧ gW hp 0 (.classLink (gY m).cls z "[Ljava/lang/Object;") = true := by
        have h9 := hres
        simp only [gRes, if_neg hb1, Bool.and_eq_true, decide_eq_true_eq] at h9
        exact h9
      obtain ⟨rfl, w1⟩ := w0
      refine va_ldcM hx hb hown (gw_at hO.1 HL.1 (gW_in w1) rfl _) (va_Mi.moved hO.1.alike HL.2.2.2.2.2.2) hd ?_
      exact kk ads H locs cells slots mls _ ⟨[], (List.append_nil _).symm⟩ ⟨hH, hS, hLo, ⟨_, mst, rfl, ⟨by omega, rfl⟩, hst⟩, hc, hsl⟩
  · cases hs
theorem gs_ldc_w (HL : gLf sL D ex sc aL) (F : gFr sL m p s mth meth c) (hd : decode (gB m) pc = .ok (.ldc_w z, len)) (hn : gLen (.ldc_w z) len = true) (hres : gRes m pc (.ldc_w z, len, a, b) hp = true) (hs : gStep sc (.ldc_w z, len, a, b) pc ls st h = some r)
    (P : gPt sL.heap.size D ex h0 s (gMx m) ls st h ads H locs cells slots mls mst) (kk : gKk sL D ex m p l e R s mth args below meth c Q h0 ads r) : W p l e R s mth args below meth c H locs cells slots Q (F0 mth pc mls mst) := by
  obtain ⟨hx, hb, hml, hown, hret, hlk, hnm, hO⟩ := F
  obtain ⟨hH, hS, hLo, hst, hc, hsl⟩ := P
  have hn1 : len = 3 := by simpa [gLen] using hn
  subst hn1
  simp only [gStep] at hs
  split at hs
  · cases hs
    have w1 : gW hp 0 (.constant (gY m).cls z (Int32.ofNat b)) = true := by simpa [gRes] using hres
    refine lv_ldcw hx hb hown (gw_at hO.1 HL.1 (gW_in w1) rfl _) hd ?_
    exact kk ads H locs cells slots mls _ ⟨[], (List.append_nil _).symm⟩ ⟨hH, hS, hLo, ⟨_, mst, rfl, rfl, hst⟩, hc, hsl⟩
  · cases hs
    have w1 : gW hp 0 (.constantFloat (gY m).cls z (UInt32.ofNat b)) = true := by simpa [gRes] using hres
    refine gx_ldcwf hx hb hown (gw_at hO.1 HL.1 (gW_in w1) rfl _) hd ?_
    exact kk ads H locs cells slots mls _ ⟨[], (List.append_nil _).symm⟩ ⟨hH, hS, hLo, ⟨_, mst, rfl, rfl, hst⟩, hc, hsl⟩
  · cases hs
theorem gRoom1 {h0 h : gH} {n cells slots : Nat} {x : gC} {R : Room} (hc : h.1 = h0.1 + cells) (hsl : h.2.1 = h0.2.1 + slots) (hroom : (gNew h n x).1 ≤ h0.1 + R.cells ∧ (gNew h n x).2.1 ≤ h0.2.1 + R.slots) : cells + 1 ≤ R.cells ∧ slots + n ≤ R.slots ∧ (gNew h n x).1 = h0.1 + (cells + 1) ∧ (gNew h n x).2.1 = h0.2.1 + (slots + n) := by
  simp only [gNew] at hroom ⊢
  omega
theorem gAds_new {ws : va_W} {ads : List Nat} {h : gH} {q : Nat} (hads : ws.map Prod.fst = ads) (hlen : ws.length = h.2.2.length) : (ads ++ [q])[h.2.2.length]? = some q := by
  rw [← hads, ← hlen, List.getElem?_append_right (by simp)]
  simp

theorem gs_newarray {zt : ArrayType} (HL : gLf sL D ex sc aL) (F : gFr sL m p s mth meth c) (hd : decode (gB m) pc = .ok (.newarray zt, len)) (hn : gLen (.newarray zt) len = true) (hres : gRes m pc (.newarray zt, len, a, b) hp = true) (hs : gStep sc (.newarray zt, len, a, b) pc ls st h = some r)
    (P : gPt sL.heap.size D ex h0 s (gMx m) ls st h ads H locs cells slots mls mst) (hroom : r.2.2.2.1 ≤ h0.1 + R.cells ∧ r.2.2.2.2.1 ≤ h0.2.1 + R.slots) (kk : gKk sL D ex m p l e R s mth args below meth c Q h0 ads r) : W p l e R s mth args below meth c H locs cells slots Q (F0 mth pc mls mst) := by
  obtain ⟨hx, hb, hml, hown, hret, hlk, hnm, hO⟩ := F
  obtain ⟨hH, hS, hLo, hst, hc, hsl⟩ := P
  have hn1 : len = 2 := by simpa [gLen] using hn
  subst hn1
  simp only [gStep] at hs
  split at hs
  · rename_i n9 st1
    split at hs
    · cases hs
    · rename_i hcon
      cases hs
      obtain ⟨m1, rfl, h1⟩ := gRs_i hst
      obtain ⟨ws, tys, hads, hP, hD, hK, hlen, hcor⟩ := id hH
      have hn0 : ¬ n9 < 0 := fun q => hcon (Or.inl q)
      have hn2 : n9.toNatClampNeg ≤ 100000 := Nat.not_lt.mp fun q => hcon (Or.inr q)
      simp only [gRes, Bool.and_eq_true, Bool.or_eq_true, decide_eq_true_eq] at hres
      obtain ⟨w1, w2⟩ := hres
      obtain ⟨r1, r2, r3, r4⟩ := gRoom1 hc hsl hroom
      refine va_newa (D := D) (atype := zt) (N' := n9.toNatClampNeg) (a0 := (n9.toNatClampNeg, .inl (fun _ => 0))) hx hb (gw_at hO.1 HL.1 (gW_in w1) rfl _) rfl hK hP hD hS (fun q hq => Nat.le_trans hO.2.1 hq) ?_ hn0 rfl ?_ r1 r2 hd (fun q cA H1 hK1 hP1 hD1 hS1 => ?_)
      · intro cA
        rcases w2 with (rfl | rfl) | rfl <;> rfl
      · rcases w2 with (rfl | rfl) | rfl
        · show _ * 4 ≤ _; omega
        · show _ * 1 ≤ _; omega
        · show _ * 2 ≤ _; omega
      · exact kk (ads ++ [q]) H1 locs (cells + 1) (slots + n9.toNatClampNeg) mls _ ⟨[q], rfl⟩ ⟨gHp_new (ty' := [(cA, newarray.typeOf zt)]) hads hlen hcor ⟨cA, tys.length, rfl, by simp⟩ hP1 hD1 hK1, hS1, gLo_up _ hLo, ⟨_, m1, rfl, ⟨q, gAds_new hads hlen, rfl⟩, gRs_up _ h1⟩, r3, r4⟩
  · cases hs
/-- the class of arrays of arrays of a type is there (after the library's words of 'arrayOver') -/
def gAA (t : FieldType) (U : State) : Prop := ∃ (comp cA : ClassId) (k : Class), U.vm.findClass (FieldType.array t).toString = some comp ∧ (U.vm.classes.findIdx? fun (x : Class) => match x.kind with | .array component _ => component == comp | _ => false) = some cA ∧ U.vm.classes[cA]? = some k ∧ k.kind = .array comp (.array t) ∧ U.vm.findClass ("[" ++ (FieldType.array t).toString) = some cA
theorem gAA.of {t : FieldType} {A : Array Value} {U : State} (h : (Cond.arrayOver (.array t)).before A U = true) : gAA t U := by
  unfold Cond.before at h
  simp only [Cond.holds, Cond.value, beq_iff_eq] at h
  cases hc : U.vm.findClass (FieldType.array t).toString with
  | none => simp [hc] at h
  | some comp =>
    simp only [hc, Option.bind_some, Option.bind_eq_some_iff, Option.map_eq_some_iff] at h
    obtain ⟨cA, hi, k, hk, hb⟩ := h
    obtain ⟨hlt, hp, -⟩ := Array.findIdx?_eq_some_iff_getElem.mp hi
    have hkk : U.vm.classes[cA] = k := (Array.getElem?_eq_some_iff.mp hk).2
    rw [hkk] at hp
    cases hkind : k.kind with
    | array component ty =>
      rw [hkind] at hb hp
      simp at hb hp
      exact ⟨comp, cA, k, hc, hi, hk, by rw [hkind, hp, hb.1], hb.2⟩
    | _ => rw [hkind] at hb; simp at hb
theorem gAA.moved {t : FieldType} {u U : State} (hvm : u.vm.Alike U.vm) (h : gAA t u) : gAA t U := by
  obtain ⟨comp, cA, k, h1, h2, h3, h4, h5⟩ := h
  obtain ⟨k', hk', he⟩ := hvm.2.2 _ _ h3
  refine ⟨comp, cA, k', by rw [hvm.findClass]; exact h1, ?_, hk', by rw [he]; exact h4, by rw [hvm.findClass]; exact h5⟩
  refine (va_idx_bare U.vm comp).symm.trans ?_
  first | rw [hvm.bare_eq] | rw [← hvm.bare_eq]
  exact (va_idx_bare u.vm comp).trans h2
theorem gAA_new {cc : ByteArray} {rest : List Value} {lsM : Array Slot} (hexec : p.tables.exec = Jvm.exec) (hb : c.code = cc) {own : String} {t : FieldType} {index : Nat} (hown : s.vm.findClass own = some mth.cls) (hclink : (Cond.classLink own index (FieldType.array t).toString).before args s = true) (hover : gAA t s)
    (hdg : decode cc pc = .ok (.anewarray index, 3)) {n : Int32} (hn : ¬ n < 0) (hbytes : n.toNatClampNeg * 4 ≤ 536870912) (hcells : cells + 1 ≤ R.cells) (hslots : slots + n.toNatClampNeg ≤ R.slots)
    (kk : ∀ (cA : ClassId) (kA : Class) (comp : ClassId), s.vm.findClass ("[" ++ (FieldType.array t).toString) = some cA → s.vm.classes[cA]? = some kA → kA.kind = .array comp (.array t) → s.vm.findClass (FieldType.array t).toString = some comp →
      W p l e R s mth args below meth c (H.push { cls := cA, slots := Array.replicate n.toNatClampNeg .null, vm := .none }) locs (cells + 1) (slots + n.toNatClampNeg) Q (F0 mth (pc + 3) lsM (.ref H.size :: rest))) : W p l e R s mth args below meth c H locs cells slots Q (F0 mth pc lsM (.int n :: rest)) := by
  intro T hT X
  subst hT; subst hb
  have hpl : e.platform.magicAccessors = ({} : Platform).magicAccessors := by rw [X.admits.platform]
  obtain ⟨comp, cA, kA, hcomp, hidx, hkA, hkindA, hnameA⟩ := hover
  obtain ⟨kComp, hkComp, -⟩ := Vm.findClass_spec hcomp
  obtain ⟨cc, hfcc, hcl⟩ := Cond.classLink_spec hown hclink e.platform hpl
  cases hcomp.symm.trans hfcc
  obtain ⟨hg₁, hwarm₁, hready₁⟩ := State.classEntry (e := e) X.warmed hcl
  generalize T.vm.noted mth.cls index (.cls comp) = vm₁ at hg₁ hwarm₁ hready₁
  have hal : s.vm.Alike vm₁ := hwarm₁.alike
  obtain ⟨kComp₁, hkComp₁, -⟩ := hal.2.2 _ _ hkComp
  obtain ⟨kA₁, hkA₁, heA⟩ := hal.2.2 _ _ hkA
  have hkindA₁ : kA₁.kind = .array comp (.array t) := by rw [heA]; exact hkindA
  have hidx₁ : (vm₁.classes.findIdx? fun (x : Class) => match x.kind with | .array component _ => component == comp | _ => false) = some cA := by
    refine (va_idx_bare vm₁ comp).symm.trans ?_
    first | rw [hal.bare_eq] | rw [← hal.bare_eq]
    exact (va_idx_bare s.vm comp).trans hidx
  have hlimit : ¬ n.toNatClampNeg > e.platform.arrayLengthLimit := by rw [Launch.admits_arrayLengthLimit X.admits]; omega
  have hheap : ¬ n.toNatClampNeg * componentBytes (.array t) > e.platform.maxHeapBytes := by
    rw [Launch.admits_maxHeapBytes X.admits]; show ¬ n.toNatClampNeg * 4 > 536870912; omega
  have X₁ := X.noted hwarm₁
  have X₂ := X₁.pushed { cls := cA, slots := Array.replicate n.toNatClampNeg .null, vm := .none }
  obtain ⟨hr1, hr2⟩ := X.roomAbove hcells hslots
  obtain ⟨t9, a9, b9⟩ := kk cA kA comp hnameA hkA hkindA hcomp ((T.setVm vm₁).pushCell { cls := cA, slots := Array.replicate n.toNatClampNeg .null, vm := .none }) rfl (by simpa using X₂)
  refine ⟨t9, ?_, b9⟩
  jvm_step X.here [hexec, hdg, anewarray.wp_cold (e := e) (s := T) (f := F0 mth pc lsM (.int n :: rest)) X.here.top hg₁ hready₁,
    anewarray.wp_ready (e := e) (s := T.setVm vm₁) (f := F0 mth pc lsM (.int n :: rest)) (kc := kComp₁) (k := kA₁) (type := .array t) X.here.top hready₁ hkComp₁ hidx₁ hkA₁ hkindA₁ rfl rfl hn hlimit hheap]
  exact ⟨by show T.heap.size < _; omega, by show T.slotsUsed + _ ≤ _; exact hr2, a9⟩
theorem gAA_newq {cc : ByteArray} {rest : List Value} {lsM : Array Slot} {ws : va_W} {tys : List (ClassId × FieldType)} {A : Nat → Prop} {H0 : Heap} (hexec : p.tables.exec = Jvm.exec) (hb : c.code = cc) {own : String} {t : FieldType} {index : Nat} (hown : s.vm.findClass own = some mth.cls) (hclink : (Cond.classLink own index (FieldType.array t).toString).before args s = true) (hover : gAA t s)
    (hK : va_K D gCl tys s) (hP : va_P D gCl ws H) (hD : va_D A ws) (hS : va_S A H0 H locs) (hA : ∀ q, H0.size ≤ q → A q)
    (hdg : decode cc pc = .ok (.anewarray index, 3)) {n : Int32} (hn : ¬ n < 0) (hbytes : n.toNatClampNeg * 4 ≤ 536870912) (hcells : cells + 1 ≤ R.cells) (hslots : slots + n.toNatClampNeg ≤ R.slots)
    (kk : ∀ (q : Nat) (cA : ClassId) (H1 : Heap), va_K D gCl (tys ++ [(cA, .array t)]) s → va_P D gCl (ws ++ [(q, .inl (cA, n.toNatClampNeg, .inr (.inr (.inr (.inr (fun _ => none))))))]) H1 → va_D A (ws ++ [(q, .inl (cA, n.toNatClampNeg, .inr (.inr (.inr (.inr (fun _ => none))))))]) → va_S A H0 H1 locs →
      W p l e R s mth args below meth c H1 locs (cells + 1) (slots + n.toNatClampNeg) Q (F0 mth (pc + 3) lsM (.ref q :: rest))) : W p l e R s mth args below meth c H locs cells slots Q (F0 mth pc lsM (.int n :: rest)) := by
  refine gAA_new hexec hb hown hclink hover hdg hn hbytes hcells hslots fun cA kA comp f1 f2 f3 f4 => ?_
  generalize hH1 : H.push ({ cls := cA, slots := Array.replicate n.toNatClampNeg .null, vm := .none } : Cell) = H1
  have z1 : H1.size = H.size + 1 := by rw [← hH1, Array.size_push]
  have e1 : H1[H.size]? = some (arrV cA n.toNatClampNeg (fun _ => .null)) := by rw [← hH1, Array.getElem?_push_size, ← arrV_new]
  have o1 : ∀ q : Nat, q < H.size → H1[q]? = H[q]? := fun q hq => by rw [← hH1, Array.getElem?_push, if_neg (Nat.ne_of_lt hq)]
  have hAr : ArrOfT s cA (.array t) := fun N z => ⟨(fun k h => by cases h), kA, f2, comp, f3⟩
  have hk : ∀ (k : Nat) (x : Nat × va_E), ws[k]? = some x → H1[x.1]? = H[x.1]? := fun k x hx => o1 x.1 ((hP k x hx).lt)
  refine kk H.size cA H1 ⟨hK.1, fun k x hx => ?_⟩ ((hP.kept hk).app (fun k x hx => ?_)) (hD.push hP rfl (hA _ hS.1)) ⟨Nat.le_trans hS.1 (by omega), fun x h1 h2 => (o1 x (Nat.lt_of_lt_of_le h1 hS.1)).trans (hS.2.1 x h1 h2), hS.2.2⟩
  · by_cases hl : k < tys.length
    · rw [List.getElem?_append_left hl] at hx
      exact hK.2 k x hx
    · rw [List.getElem?_append_right (by omega)] at hx
      have hz : k - tys.length < 1 := (List.getElem?_eq_some_iff.mp hx).1
      rw [show k - tys.length = 0 by omega] at hx
      cases hx
      exact ⟨hAr, f1⟩
  · have hz : k < 1 := (List.getElem?_eq_some_iff.mp hx).1
    rw [show k = 0 by omega] at hx
    cases hx
    show H1[H.size]? = some (vp_cell _ _)
    rw [vp_cell_q]
    exact e1

theorem gs_anewarray (HL : gLf sL D ex sc aL) (F : gFr sL m p s mth meth c) (hd : decode (gB m) pc = .ok (.anewarray z, len)) (hn : gLen (.anewarray z) len = true) (hres : gRes m pc (.anewarray z, len, a, b) hp = true) (hs : gStep sc (.anewarray z, len, a, b) pc ls st h = some r)
    (P : gPt sL.heap.size D ex h0 s (gMx m) ls st h ads H locs cells slots mls mst) (hroom : r.2.2.2.1 ≤ h0.1 + R.cells ∧ r.2.2.2.2.1 ≤ h0.2.1 + R.slots) (kk : gKk sL D ex m p l e R s mth args below meth c Q h0 ads r) : W p l e R s mth args below meth c H locs cells slots Q (F0 mth pc mls mst) := by
  obtain ⟨hx, hb, hml, hown, hret, hlk, hnm, hO⟩ := F
  obtain ⟨hH, hS, hLo, hst, hc, hsl⟩ := P
  have hn1 : len = 3 := by simpa [gLen] using hn
  subst hn1
  simp only [gStep] at hs
  split at hs
  · rename_i n9 st1
    split at hs
    · cases hs
    · rename_i hcon
      cases hs
      obtain ⟨m1, rfl, h1⟩ := gRs_i hst
      obtain ⟨ws, tys, hads, hP, hD, hK, hlen, hcor⟩ := id hH
      have hn0 : ¬ n9 < 0 := fun q => hcon (Or.inl q)
      have hn2 : n9.toNatClampNeg ≤ 100000 := Nat.not_lt.mp fun q => hcon (Or.inr (Or.inl q))
      have hn3 : ¬ 2 < a := fun q => hcon (Or.inr (Or.inr q))
      obtain ⟨r1, r2, r3, r4⟩ := gRoom1 hc hsl hroom
      rcases a with _ | _ | _ | a
      · have w0 : gW hp 0 (.arrayOver (.object "java/lang/Object")) = true ∧ gW hp 1 (.classLink (gY m).cls z "java/lang/Object") = true := by simpa [gRes, gComp] using hres
        refine va_newq (D := D) (C := "java/lang/Object") hx hb hown (gw_at hO.1 HL.1 (gW_in w0.2) rfl _) (va_AO.moved hO.1.alike (va_AO.of (HL.1 _ (gW_in w0.1)))) hK hP hD hS (fun q hq => Nat.le_trans hO.2.1 hq) hn0 rfl (by omega) r1 r2 hd (fun q cA H1 hK1 hP1 hD1 hS1 => ?_)
        exact kk (ads ++ [q]) H1 locs (cells + 1) (slots + n9.toNatClampNeg) mls _ ⟨[q], rfl⟩ ⟨gHp_new (ty' := [(cA, _)]) hads hlen hcor ⟨cA, tys.length, _, rfl, by simp [gComp], fun _ => rfl⟩ hP1 hD1 hK1, hS1, gLo_up _ hLo, ⟨_, m1, rfl, ⟨q, gAds_new hads hlen, rfl⟩, gRs_up _ h1⟩, r3, r4⟩
      · have w0 : gW hp 0 (.arrayOver (.object RX5)) = true ∧ gW hp 1 (.classLink (gY m).cls z RX5) = true := by simpa [gRes, gComp] using hres
        refine va_newq (D := D) (C := RX5) hx hb hown (gw_at hO.1 HL.1 (gW_in w0.2) rfl _) (va_AO.moved hO.1.alike (va_AO.of (HL.1 _ (gW_in w0.1)))) hK hP hD hS (fun q hq => Nat.le_trans hO.2.1 hq) hn0 rfl (by omega) r1 r2 hd (fun q cA H1 hK1 hP1 hD1 hS1 => ?_)
        exact kk (ads ++ [q]) H1 locs (cells + 1) (slots + n9.toNatClampNeg) mls _ ⟨[q], rfl⟩ ⟨gHp_new (ty' := [(cA, _)]) hads hlen hcor ⟨cA, tys.length, _, rfl, by simp [gComp], fun _ => rfl⟩ hP1 hD1 hK1, hS1, gLo_up _ hLo, ⟨_, m1, rfl, ⟨q, gAds_new hads hlen, rfl⟩, gRs_up _ h1⟩, r3, r4⟩
      · have w0 : gW hp 0 (.arrayOver (.array .int)) = true ∧ gW hp 1 (.classLink (gY m).cls z (FieldType.array .int).toString) = true := by simpa [gRes, gComp] using hres
        refine gAA_newq (D := D) (t := .int) hx hb hown (gw_at hO.1 HL.1 (gW_in w0.2) rfl _) (gAA.moved hO.1.alike (gAA.of (HL.1 _ (gW_in w0.1)))) hK hP hD hS (fun q hq => Nat.le_trans hO.2.1 hq) hd hn0 (by omega) r1 r2 (fun q cA H1 hK1 hP1 hD1 hS1 => ?_)
        exact kk (ads ++ [q]) H1 locs (cells + 1) (slots + n9.toNatClampNeg) mls _ ⟨[q], rfl⟩ ⟨gHp_new (ty' := [(cA, _)]) hads hlen hcor ⟨cA, tys.length, _, rfl, by simp [gComp], fun _ => rfl⟩ hP1 hD1 hK1, hS1, gLo_up _ hLo, ⟨_, m1, rfl, ⟨q, gAds_new hads hlen, rfl⟩, gRs_up _ h1⟩, r3, r4⟩
      · omega
  · cases hs
theorem gs_checkcast (HL : gLf sL D ex sc aL) (F : gFr sL m p s mth meth c) (hd : decode (gB m) pc = .ok (.checkcast z, len)) (hn : gLen (.checkcast z) len = true) (hres : gRes m pc (.checkcast z, len, a, b) hp = true) (hs : gStep sc (.checkcast z, len, a, b) pc ls st h = some r)
    (P : gPt sL.heap.size D ex h0 s (gMx m) ls st h ads H locs cells slots mls mst) (kk : gKk sL D ex m p l e R s mth args below meth c Q h0 ads r) : W p l e R s mth args below meth c H locs cells slots Q (F0 mth pc mls mst) := by
  obtain ⟨hx, hb, hml, hown, hret, hlk, hnm, hO⟩ := F
  obtain ⟨hH, hS, hLo, hst, hc, hsl⟩ := P
  have hn1 : len = 3 := by simpa [gLen] using hn
  subst hn1
  simp only [gStep] at hs
  split at hs
  · cases hs
    obtain ⟨m1, rfl, h1⟩ := gRs_n hst
    refine lv_castN hx hb hd ?_
    exact kk ads H locs cells slots mls _ ⟨[], (List.append_nil _).symm⟩ ⟨hH, hS, hLo, ⟨_, m1, rfl, rfl, h1⟩, hc, hsl⟩
  · rename_i r9 st1
    obtain ⟨a9, m1, ha, rfl, h1⟩ := gRs_r hst
    obtain ⟨ws, tys, hads, hP, hD, hK, hlen, hcor⟩ := id hH
    split at hs
    · rename_i ci fs hq
      split at hs
      · rename_i hci
        cases hs
        obtain ⟨e9, he, fs', rfl, hfs⟩ := gCell (B := 0) (D := D) hads hcor ha hq
        obtain ⟨⟨C, T, N⟩, hcl, -⟩ := hP _ _ he
        have hl : ci < 12 := (List.getElem?_eq_some_iff.mp hcl).1
        subst hci
        have eC : gCn ci = C := by simp only [gCn, hcl]
        have w0 : gW hp 0 (.classLink (gY m).cls z C) = true := by
          have h9 := hres
          simp only [gRes, if_neg (show ¬ ci = 1000 by omega), Bool.or_eq_true, decide_eq_true_eq, eC] at h9
          exact h9.resolve_left (by omega)
        refine va_castS hx hb hown (gw_at hO.1 HL.1 (gW_in w0) rfl _) (hK.1 ci _ hcl).2 (va_recv hK hP hcl he) hd ?_
        exact kk ads H locs cells slots mls _ ⟨[], (List.append_nil _).symm⟩ ⟨hH, hS, hLo, ⟨_, m1, rfl, ⟨a9, ha, rfl⟩, h1⟩, hc, hsl⟩
      · cases hs
    · rename_i ty n f hq
      split at hs
      · rename_i hcon
        obtain ⟨h10, rfl⟩ := hcon
        cases hs
        subst h10
        obtain ⟨e9, he, cA, t, g, rfl, ht, hg⟩ := gCell (B := 0) (D := D) hads hcor ha hq
        have w0 : gW hp 0 (.classLink (gY m).cls z "[Ljava/lang/Object;") = true := by simpa [gRes] using hres
        refine va_castA hx hb hown (gw_at hO.1 HL.1 (gW_in w0) rfl _) hP r9 he (va_nmO (hK.2 t _ ht).2 rfl) hd ?_
        exact kk ads H locs cells slots mls _ ⟨[], (List.append_nil _).symm⟩ ⟨hH, hS, hLo, ⟨_, m1, rfl, ⟨a9, ha, rfl⟩, h1⟩, hc, hsl⟩
      · cases hs
    · cases hs
  · cases hs
theorem gs_arraylength (HL : gLf sL D ex sc aL) (F : gFr sL m p s mth meth c) (hd : decode (gB m) pc = .ok (.arraylength, len)) (hn : gLen (.arraylength) len = true) (hres : gRes m pc (.arraylength, len, a, b) hp = true) (hs : gStep sc (.arraylength, len, a, b) pc ls st h = some r)
    (P : gPt sL.heap.size D ex h0 s (gMx m) ls st h ads H locs cells slots mls mst) (kk : gKk sL D ex m p l e R s mth args below meth c Q h0 ads r) : W p l e R s mth args below meth c H locs cells slots Q (F0 mth pc mls mst) := by
  obtain ⟨hx, hb, hml, hown, hret, hlk, hnm, hO⟩ := F
  obtain ⟨hH, hS, hLo, hst, hc, hsl⟩ := P
  have hn1 : len = 1 := by simpa [gLen] using hn
  subst hn1
  simp only [gStep] at hs
  split at hs
  · rename_i r9 st1
    obtain ⟨a9, m1, ha, rfl, h1⟩ := gRs_r hst
    obtain ⟨ws, tys, hads, hP, hD, hK, hlen, hcor⟩ := id hH
    split at hs
    · rename_i ty n f hq
      cases hs
      obtain ⟨e9, he, cA, t, rfl, ht⟩ := gCell (B := 0) (D := D) hads hcor ha hq
      refine va_alen (D := D) hx hb hK hP r9 t he ht rfl hd ?_
      exact kk ads H locs cells slots mls _ ⟨[], (List.append_nil _).symm⟩ ⟨hH, hS, hLo, ⟨_, m1, rfl, rfl, h1⟩, hc, hsl⟩
    · rename_i ty n f hq
      cases hs
      obtain ⟨e9, he, cA, t, g, rfl, ht, hg⟩ := gCell (B := 0) (D := D) hads hcor ha hq
      refine va_alen (D := D) hx hb hK hP r9 t he ht rfl hd ?_
      exact kk ads H locs cells slots mls _ ⟨[], (List.append_nil _).symm⟩ ⟨hH, hS, hLo, ⟨_, m1, rfl, rfl, h1⟩, hc, hsl⟩
    · cases hs
  · cases hs
    obtain ⟨m1, -, rfl, h1⟩ := gRs_e hst
    have hX : va_X (ex 0) sc.1 sc.2 s s.heap := (va_X.moved hO.1.alike HL.2.1).kept (hO.2.2 _ HL.2.2.1)
    refine va_slen hx hb hX (Nat.lt_of_lt_of_le HL.2.2.1 hO.2.1) (Nat.not_le.mpr HL.2.2.1) hS hd ?_
    exact kk ads H locs cells slots mls _ ⟨[], (List.append_nil _).symm⟩ ⟨hH, hS, hLo, ⟨_, m1, rfl, rfl, h1⟩, hc, hsl⟩
  · cases hs
    obtain ⟨m1, -, rfl, h1⟩ := gRs_e hst
    have hT : va_T (.object "java/lang/Object") (ex 2) 0 (fun _ => .null) (fun q => sL.heap.size ≤ q) s s.heap := (va_T.moved hO.1.alike HL.2.2.2.2.2.1).kept (fun q hq _ => hO.2.2 q hq)
    refine va_tlen (v := 0) hx hb hT hS rfl hd ?_
    exact kk ads H locs cells slots mls _ ⟨[], (List.append_nil _).symm⟩ ⟨hH, hS, hLo, ⟨_, m1, rfl, rfl, h1⟩, hc, hsl⟩
  · cases hs
theorem gs_iaload (HL : gLf sL D ex sc aL) (F : gFr sL m p s mth meth c) (hd : decode (gB m) pc = .ok (.iaload, len)) (hn : gLen (.iaload) len = true) (hres : gRes m pc (.iaload, len, a, b) hp = true) (hs : gStep sc (.iaload, len, a, b) pc ls st h = some r)
    (P : gPt sL.heap.size D ex h0 s (gMx m) ls st h ads H locs cells slots mls mst) (kk : gKk sL D ex m p l e R s mth args below meth c Q h0 ads r) : W p l e R s mth args below meth c H locs cells slots Q (F0 mth pc mls mst) := by
  obtain ⟨hx, hb, hml, hown, hret, hlk, hnm, hO⟩ := F
  obtain ⟨hH, hS, hLo, hst, hc, hsl⟩ := P
  have hn1 : len = 1 := by simpa [gLen] using hn
  subst hn1
  simp only [gStep] at hs
  split at hs
  · rename_i i9 r9 st1
    obtain ⟨m0, rfl, h0'⟩ := gRs_i hst
    obtain ⟨a9, m1, ha, rfl, h1⟩ := gRs_r h0'
    obtain ⟨ws, tys, hads, hP, hD, hK, hlen, hcor⟩ := id hH
    split at hs
    · rename_i ty n f hq
      split at hs
      · rename_i hcon
        obtain ⟨rfl, hin⟩ := hcon
        cases hs
        obtain ⟨e9, he, cA, t, rfl, ht⟩ := gCell (B := 0) (D := D) hads hcor ha hq
        refine va_iald (D := D) hx hb hK hP r9 t he ht hin hd ?_
        exact kk ads H locs cells slots mls _ ⟨[], (List.append_nil _).symm⟩ ⟨hH, hS, hLo, ⟨_, m1, rfl, rfl, h1⟩, hc, hsl⟩
      · cases hs
    · cases hs
  · rename_i i9 st1
    split at hs
    · rename_i hin
      cases hs
      obtain ⟨m0, rfl, h0'⟩ := gRs_i hst
      obtain ⟨m1, -, rfl, h1⟩ := gRs_e h0'
      have hX : va_X (ex 0) sc.1 sc.2 s s.heap := (va_X.moved hO.1.alike HL.2.1).kept (hO.2.2 _ HL.2.2.1)
      refine va_sld hx hb hX (Nat.lt_of_lt_of_le HL.2.2.1 hO.2.1) (Nat.not_le.mpr HL.2.2.1) hS hin hd ?_
      exact kk ads H locs cells slots mls _ ⟨[], (List.append_nil _).symm⟩ ⟨hH, hS, hLo, ⟨_, m1, rfl, rfl, h1⟩, hc, hsl⟩
    · cases hs
  · cases hs
theorem gs_baload (HL : gLf sL D ex sc aL) (F : gFr sL m p s mth meth c) (hd : decode (gB m) pc = .ok (.baload, len)) (hn : gLen (.baload) len = true) (hres : gRes m pc (.baload, len, a, b) hp = true) (hs : gStep sc (.baload, len, a, b) pc ls st h = some r)
    (P : gPt sL.heap.size D ex h0 s (gMx m) ls st h ads H locs cells slots mls mst) (kk : gKk sL D ex m p l e R s mth args below meth c Q h0 ads r) : W p l e R s mth args below meth c H locs cells slots Q (F0 mth pc mls mst) := by
  obtain ⟨hx, hb, hml, hown, hret, hlk, hnm, hO⟩ := F
  obtain ⟨hH, hS, hLo, hst, hc, hsl⟩ := P
  have hn1 : len = 1 := by simpa [gLen] using hn
  subst hn1
  simp only [gStep] at hs
  split at hs
  · rename_i i9 r9 st1
    obtain ⟨m0, rfl, h0'⟩ := gRs_i hst
    obtain ⟨a9, m1, ha, rfl, h1⟩ := gRs_r h0'
    obtain ⟨ws, tys, hads, hP, hD, hK, hlen, hcor⟩ := id hH
    split at hs
    · rename_i ty n f hq
      split at hs
      · rename_i hcon
        obtain ⟨rfl, hin⟩ := hcon
        cases hs
        obtain ⟨e9, he, cA, t, rfl, ht⟩ := gCell (B := 0) (D := D) hads hcor ha hq
        refine va_zald (D := D) hx hb hK hP r9 t he ht hin hd ?_
        exact kk ads H locs cells slots mls _ ⟨[], (List.append_nil _).symm⟩ ⟨hH, hS, hLo, ⟨_, m1, rfl, rfl, h1⟩, hc, hsl⟩
      · cases hs
    · cases hs
  · cases hs
theorem gs_caload (HL : gLf sL D ex sc aL) (F : gFr sL m p s mth meth c) (hd : decode (gB m) pc = .ok (.caload, len)) (hn : gLen (.caload) len = true) (hres : gRes m pc (.caload, len, a, b) hp = true) (hs : gStep sc (.caload, len, a, b) pc ls st h = some r)
    (P : gPt sL.heap.size D ex h0 s (gMx m) ls st h ads H locs cells slots mls mst) (kk : gKk sL D ex m p l e R s mth args below meth c Q h0 ads r) : W p l e R s mth args below meth c H locs cells slots Q (F0 mth pc mls mst) := by
  obtain ⟨hx, hb, hml, hown, hret, hlk, hnm, hO⟩ := F
  obtain ⟨hH, hS, hLo, hst, hc, hsl⟩ := P
  have hn1 : len = 1 := by simpa [gLen] using hn
  subst hn1
  simp only [gStep] at hs
  split at hs
  · rename_i i9 r9 st1
    obtain ⟨m0, rfl, h0'⟩ := gRs_i hst
    obtain ⟨a9, m1, ha, rfl, h1⟩ := gRs_r h0'
    obtain ⟨ws, tys, hads, hP, hD, hK, hlen, hcor⟩ := id hH
    split at hs
    · rename_i ty n f hq
      split at hs
      · rename_i hcon
        obtain ⟨rfl, hin⟩ := hcon
        cases hs
        obtain ⟨e9, he, cA, t, rfl, ht⟩ := gCell (B := 0) (D := D) hads hcor ha hq
        refine va_cald (D := D) hx hb hK hP r9 t he ht hin hd ?_
        exact kk ads H locs cells slots mls _ ⟨[], (List.append_nil _).symm⟩ ⟨hH, hS, hLo, ⟨_, m1, rfl, rfl, h1⟩, hc, hsl⟩
      · cases hs
    · cases hs
  · cases hs
theorem gs_iastore (HL : gLf sL D ex sc aL) (F : gFr sL m p s mth meth c) (hd : decode (gB m) pc = .ok (.iastore, len)) (hn : gLen (.iastore) len = true) (hres : gRes m pc (.iastore, len, a, b) hp = true) (hs : gStep sc (.iastore, len, a, b) pc ls st h = some r)
    (P : gPt sL.heap.size D ex h0 s (gMx m) ls st h ads H locs cells slots mls mst) (kk : gKk sL D ex m p l e R s mth args below meth c Q h0 ads r) : W p l e R s mth args below meth c H locs cells slots Q (F0 mth pc mls mst) := by
  obtain ⟨hx, hb, hml, hown, hret, hlk, hnm, hO⟩ := F
  obtain ⟨hH, hS, hLo, hst, hc, hsl⟩ := P
  have hn1 : len = 1 := by simpa [gLen] using hn
  subst hn1
  simp only [gStep] at hs
  split at hs
  · rename_i x9 i9 r9 st1
    obtain ⟨mx, rfl, hx'⟩ := gRs_i hst
    obtain ⟨m0, rfl, h0'⟩ := gRs_i hx'
    obtain ⟨a9, m1, ha, rfl, h1⟩ := gRs_r h0'
    obtain ⟨ws, tys, hads, hP, hD, hK, hlen, hcor⟩ := id hH
    split at hs
    · rename_i ty n f hq
      split at hs
      · rename_i hcon
        obtain ⟨rfl, hin⟩ := hcon
        cases hs
        obtain ⟨e9, he, cA, t, rfl, ht⟩ := gCell (B := 0) (D := D) hads hcor ha hq
        refine va_iast (D := D) hx hb hK hP hD hS r9 t he ht hin hd (fun H1 locs1 hP1 hD1 hS1 => ?_)
        exact kk ads H1 locs1 cells slots mls _ ⟨[], (List.append_nil _).symm⟩ ⟨gHp_put hads hlen hcor he ⟨cA, t, rfl, ht⟩ hP1 hD1 hK, hS1, hLo, h1, hc, hsl⟩
      · cases hs
    · cases hs
  · cases hs
theorem gs_bastore (HL : gLf sL D ex sc aL) (F : gFr sL m p s mth meth c) (hd : decode (gB m) pc = .ok (.bastore, len)) (hn : gLen (.bastore) len = true) (hres : gRes m pc (.bastore, len, a, b) hp = true) (hs : gStep sc (.bastore, len, a, b) pc ls st h = some r)
    (P : gPt sL.heap.size D ex h0 s (gMx m) ls st h ads H locs cells slots mls mst) (kk : gKk sL D ex m p l e R s mth args below meth c Q h0 ads r) : W p l e R s mth args below meth c H locs cells slots Q (F0 mth pc mls mst) := by
  obtain ⟨hx, hb, hml, hown, hret, hlk, hnm, hO⟩ := F
  obtain ⟨hH, hS, hLo, hst, hc, hsl⟩ := P
  have hn1 : len = 1 := by simpa [gLen] using hn
  subst hn1
  simp only [gStep] at hs
  split at hs
  · rename_i x9 i9 r9 st1
    obtain ⟨mx, rfl, hx'⟩ := gRs_i hst
    obtain ⟨m0, rfl, h0'⟩ := gRs_i hx'
    obtain ⟨a9, m1, ha, rfl, h1⟩ := gRs_r h0'
    obtain ⟨ws, tys, hads, hP, hD, hK, hlen, hcor⟩ := id hH
    split at hs
    · rename_i ty n f hq
      split at hs
      · rename_i hcon
        obtain ⟨rfl, hin⟩ := hcon
        cases hs
        obtain ⟨e9, he, cA, t, rfl, ht⟩ := gCell (B := 0) (D := D) hads hcor ha hq
        refine va_zast (D := D) hx hb hK hP hD hS r9 t he ht hin hd (fun H1 locs1 hP1 hD1 hS1 => ?_)
        exact kk ads H1 locs1 cells slots mls _ ⟨[], (List.append_nil _).symm⟩ ⟨gHp_put hads hlen hcor he ⟨cA, t, rfl, ht⟩ hP1 hD1 hK, hS1, hLo, h1, hc, hsl⟩
      · cases hs
    · cases hs
  · cases hs
theorem gs_castore (HL : gLf sL D ex sc aL) (F : gFr sL m p s mth meth c) (hd : decode (gB m) pc = .ok (.castore, len)) (hn : gLen (.castore) len = true) (hres : gRes m pc (.castore, len, a, b) hp = true) (hs : gStep sc (.castore, len, a, b) pc ls st h = some r)
    (P : gPt sL.heap.size D ex h0 s (gMx m) ls st h ads H locs cells slots mls mst) (kk : gKk sL D ex m p l e R s mth args below meth c Q h0 ads r) : W p l e R s mth args below meth c H locs cells slots Q (F0 mth pc mls mst) := by
  obtain ⟨hx, hb, hml, hown, hret, hlk, hnm, hO⟩ := F
  obtain ⟨hH, hS, hLo, hst, hc, hsl⟩ := P
  have hn1 : len = 1 := by simpa [gLen] using hn
  subst hn1
  simp only [gStep] at hs
  split at hs
  · rename_i x9 i9 r9 st1
    obtain ⟨mx, rfl, hx'⟩ := gRs_i hst
    obtain ⟨m0, rfl, h0'⟩ := gRs_i hx'
    obtain ⟨a9, m1, ha, rfl, h1⟩ := gRs_r h0'
    obtain ⟨ws, tys, hads, hP, hD, hK, hlen, hcor⟩ := id hH
    split at hs
    · rename_i ty n f hq
      split at hs
      · rename_i hcon
        obtain ⟨rfl, hin⟩ := hcon
        cases hs
        obtain ⟨e9, he, cA, t, rfl, ht⟩ := gCell (B := 0) (D := D) hads hcor ha hq
        refine va_cast (D := D) hx hb hK hP hD hS r9 t he ht hin hd (fun H1 locs1 hP1 hD1 hS1 => ?_)
        exact kk ads H1 locs1 cells slots mls _ ⟨[], (List.append_nil _).symm⟩ ⟨gHp_put hads hlen hcor he ⟨cA, t, rfl, ht⟩ hP1 hD1 hK, hS1, hLo, h1, hc, hsl⟩
      · cases hs
    · cases hs
  · cases hs
theorem gs_aaload (HL : gLf sL D ex sc aL) (F : gFr sL m p s mth meth c) (hd : decode (gB m) pc = .ok (.aaload, len)) (hn : gLen (.aaload) len = true) (hres : gRes m pc (.aaload, len, a, b) hp = true) (hs : gStep sc (.aaload, len, a, b) pc ls st h = some r)
    (P : gPt sL.heap.size D ex h0 s (gMx m) ls st h ads H locs cells slots mls mst) (kk : gKk sL D ex m p l e R s mth args below meth c Q h0 ads r) : W p l e R s mth args below meth c H locs cells slots Q (F0 mth pc mls mst) := by
  obtain ⟨hx, hb, hml, hown, hret, hlk, hnm, hO⟩ := F
  obtain ⟨hH, hS, hLo, hst, hc, hsl⟩ := P
  have hn1 : len = 1 := by simpa [gLen] using hn
  subst hn1
  simp only [gStep] at hs
  split at hs
  · rename_i i9 r9 st1
    obtain ⟨m0, rfl, h0'⟩ := gRs_i hst
    obtain ⟨a9, m1, ha, rfl, h1⟩ := gRs_r h0'
    obtain ⟨ws, tys, hads, hP, hD, hK, hlen, hcor⟩ := id hH
    split at hs
    · rename_i ty n f hq
      split at hs
      · rename_i hcon
        obtain ⟨hrt, hin⟩ := hcon
        cases hs
        obtain ⟨e9, he, cA, t, g, rfl, ht, hg⟩ := gCell (B := 0) (D := D) hads hcor ha hq
        have hlt : i9.toNatClampNeg < n := Nat.not_le.mp fun q => hin (Or.inr q)
        refine W.aald (v := va_rf (g i9.toNatClampNeg)) (ty := ty) hx hb (hP r9 _ he) ((hK.2 t _ ht).1 n (fun j => va_rf (g j))) (by cases ty <;> first | rfl | (simp [gRefTy] at hrt)) (fun q => by cases q) (by show ¬ (i9 < 0 ∨ (arrV _ _ _).slots.size ≤ _); rw [arrV_size]; exact hin) (by show (arrV _ _ _).slots[_]? = _; rw [arrV_read _ _ hlt]) rfl rfl hd ?_
        exact kk ads H locs cells slots mls _ ⟨[], (List.append_nil _).symm⟩ ⟨hH, hS, hLo, ⟨_, m1, rfl, gRo_rf (hg _), h1⟩, hc, hsl⟩
      · cases hs
    · cases hs
  · cases hs
def gCas : List (Nat × Nat) := [(1, 1582), (2, 1574), (3, 1579), (4, 1571), (8, 1577), (9, 1578), (10, 1573)]
theorem gCas_ok : gCas.all (fun q => decide (lw_tbl[q.2]? = some (Cond.castable (gCn q.1) "java/lang/Object"))) = true := by decide +kernel
theorem gCas_at {ci : Nat} {q : vw_C} (h : gCl[ci]? = some q) (hm : (ci == 1 || ci == 2 || ci == 3 || ci == 4 || ci == 8 || ci == 9 || ci == 10) = true) : Cond.castable q.1 "java/lang/Object" ∈ lw_tbl := by
  have e : gCn ci = q.1 := by simp only [gCn, h]
  have h2 : ∃ k, (ci, k) ∈ gCas := by
    simp only [Bool.or_eq_true, beq_iff_eq] at hm
    rcases hm with (((((rfl | rfl) | rfl) | rfl) | rfl) | rfl) | rfl <;> exact ⟨_, by first | exact List.mem_of_getElem? (i := 0) rfl | exact List.mem_of_getElem? (i := 1) rfl | exact List.mem_of_getElem? (i := 2) rfl | exact List.mem_of_getElem? (i := 3) rfl | exact List.mem_of_getElem? (i := 4) rfl | exact List.mem_of_getElem? (i := 5) rfl | exact List.mem_of_getElem? (i := 6) rfl⟩
  obtain ⟨k, hk⟩ := h2
  have h3 := of_decide_eq_true (List.all_eq_true.mp gCas_ok _ hk)
  rw [← e]
  exact List.mem_of_getElem? h3
theorem gAOint : lw_tbl[1552]? = some (Cond.arrayOver (.array .int)) := by decide +kernel

theorem gs_aastore (HL : gLf sL D ex sc aL) (F : gFr sL m p s mth meth c) (hd : decode (gB m) pc = .ok (.aastore, len)) (hn : gLen (.aastore) len = true) (hres : gRes m pc (.aastore, len, a, b) hp = true) (hs : gStep sc (.aastore, len, a, b) pc ls st h = some r)
    (P : gPt sL.heap.size D ex h0 s (gMx m) ls st h ads H locs cells slots mls mst) (kk : gKk sL D ex m p l e R s mth args below meth c Q h0 ads r) : W p l e R s mth args below meth c H locs cells slots Q (F0 mth pc mls mst) := by
  obtain ⟨hx, hb, hml, hown, hret, hlk, hnm, hO⟩ := F
  obtain ⟨hH, hS, hLo, hst, hc, hsl⟩ := P
  have hn1 : len = 1 := by simpa [gLen] using hn
  subst hn1
  simp only [gStep] at hs
  split at hs
  · rename_i v9 i9 r9 st1
    obtain ⟨b9, mx, hbv, rfl, hx'⟩ := gRs_r hst
    obtain ⟨m0, rfl, h0'⟩ := gRs_i hx'
    obtain ⟨a9, m1, ha, rfl, h1⟩ := gRs_r h0'
    obtain ⟨ws, tys, hads, hP, hD, hK, hlen, hcor⟩ := id hH
    split at hs
    · rename_i ty n f x9 hq hqv
      split at hs
      · rename_i hcon
        obtain ⟨hin, hmay⟩ := hcon
        cases hs
        obtain ⟨e9, he, cA, t, g, rfl, ht, hg⟩ := gCell (B := 0) (D := D) hads hcor ha hq
        obtain ⟨ev, hev, hrcv⟩ := gCell (B := 0) (D := D) hads hcor hbv hqv
        have hgo : gRo ads (some v9) (some b9) := ⟨b9, hbv, rfl⟩
        cases ty with
        | object C =>
          rcases x9 with ⟨ci, fs⟩ | x9
          · obtain ⟨fs', rfl, hfs⟩ := hrcv
            obtain ⟨⟨C9, T, N⟩, hcl, -⟩ := hP _ _ hev
            simp only [gMay, Bool.or_eq_true, Bool.and_eq_true, beq_iff_eq] at hmay
            rcases hmay with ⟨rfl, hm9⟩ | ⟨rfl, rfl⟩
            · have hca : va_Nw (.castable C9 "java/lang/Object") s := va_Nw.warmC hO.1 (va_Nw.of rfl (HL.1 _ (gCas_at hcl (by simp only [Bool.or_eq_true, beq_iff_eq]; exact hm9))))
              refine va_astqO (D := D) (r := (C9, T, N)) hx hb hK hP hD hS r9 t v9 ci he ht hca hev hcl hin hd (fun H1 locs1 hP1 hD1 hS1 => ?_)
              exact kk ads H1 locs1 cells slots mls _ ⟨[], (List.append_nil _).symm⟩ ⟨gHp_put hads hlen hcor he ⟨cA, t, _, rfl, ht, gRo_upd hg hgo _⟩ hP1 hD1 hK, hS1, hLo, h1, hc, hsl⟩
            · cases hcl
              refine va_astq (D := D) (r := (RX5, TX5, 2)) hx hb hK hP hD hS r9 t v9 6 he ht hev rfl hin hd (fun H1 locs1 hP1 hD1 hS1 => ?_)
              exact kk ads H1 locs1 cells slots mls _ ⟨[], (List.append_nil _).symm⟩ ⟨gHp_put hads hlen hcor he ⟨cA, t, _, rfl, ht, gRo_upd hg hgo _⟩ hP1 hD1 hK, hS1, hLo, h1, hc, hsl⟩
          · simp [gMay] at hmay
        | array ta =>
          rcases x9 with ⟨ci, fs⟩ | ⟨tv, nv, fv⟩ | x9
          · cases ta <;> simp [gMay] at hmay
          · cases ta <;> simp [gMay] at hmay
            subst hmay
            obtain ⟨cV, tv9, rfl, htv⟩ := hrcv
            obtain ⟨comp, cA2, kA, f1, f2, f3, f4, f5⟩ := gAA.moved hO.1.alike (gAA.of (HL.1 _ (List.mem_of_getElem? gAOint)))
            have g1 : s.vm.findClass ("[" ++ (FieldType.array .int).toString) = some cA := (hK.2 t _ ht).2
            have g2 : s.vm.findClass ("[" ++ FieldType.int.toString) = some cV := (hK.2 tv9 _ htv).2
            have ecA : cA2 = cA := Option.some.inj (f5.symm.trans g1)
            have ecV : comp = cV := Option.some.inj (f1.symm.trans (show s.vm.findClass (FieldType.array .int).toString = some cV from g2))
            rw [ecA] at f3
            rw [ecV] at f1 f4
            obtain ⟨kC, hkC, -⟩ := Vm.findClass_spec f1
            have hlt : i9.toNatClampNeg < n := Nat.not_le.mp fun q => hin (Or.inr q)
            have hi0 : ¬ i9 < 0 := fun q => hin (Or.inl q)
            refine W.aast hx hb (hP r9 _ he) (fun q h => by cases h) (fun h => by cases h) f3 f4 rfl hkC ⟨hi0, by show _ < (arrV _ _ _).slots.size; rw [arrV_size]; exact hlt⟩ (hP v9 _ hev) (fun q h => by cases h) hkC (va_asg _ _) rfl rfl hd fun H1 eq9 z9 oq => ?_
            have hset : va_at D gCl (a9, .inl (cA, n, .inr (.inr (.inr (.inr (va_up g i9.toNatClampNeg (some b9))))))) H1 := by
              show H1[a9]? = some (vp_cell _ _)
              rw [eq9]
              rw [vp_cell_q, vp_cell_q, arrV_store]
              congr 2
              funext q
              by_cases hq9 : q = i9.toNatClampNeg
              · subst hq9
                simp [updV, va_up, va_rf]
              · simp [updV, va_up, hq9]
            exact kk ads H1 _ cells slots mls _ ⟨[], (List.append_nil _).symm⟩ ⟨gHp_put hads hlen hcor he ⟨cA, t, _, rfl, ht, gRo_upd hg hgo _⟩ (hP.set hD he hset oq) (hD.set he) hK, hS.put z9 oq (hD.2 r9 _ he), hLo, h1, hc, hsl⟩
          · cases ta <;> simp [gMay] at hmay
        | _ => simp [gMay] at hmay
      · cases hs
    · cases hs
  · rename_i i9 r9 st1
    obtain ⟨mx, rfl, hx'⟩ := gRs_n hst
    obtain ⟨m0, rfl, h0'⟩ := gRs_i hx'
    obtain ⟨a9, m1, ha, rfl, h1⟩ := gRs_r h0'
    obtain ⟨ws, tys, hads, hP, hD, hK, hlen, hcor⟩ := id hH
    split at hs
    · rename_i ty n f hq
      split at hs
      · rename_i hcon
        obtain ⟨hin, rfl⟩ := hcon
        cases hs
        obtain ⟨e9, he, cA, t, g, rfl, ht, hg⟩ := gCell (B := 0) (D := D) hads hcor ha hq
        have hgo : gRo ads none none := rfl
        refine va_astqN (D := D) hx hb hK hP hD hS r9 t he ht hin hd (fun H1 locs1 hP1 hD1 hS1 => ?_)
        exact kk ads H1 locs1 cells slots mls _ ⟨[], (List.append_nil _).symm⟩ ⟨gHp_put hads hlen hcor he ⟨cA, t, _, rfl, ht, gRo_upd hg hgo _⟩ hP1 hD1 hK, hS1, hLo, h1, hc, hsl⟩
      · cases hs
    · cases hs
  · cases hs
end SND3
end
