section
-- ===== PART A: goes FIRST, ahead of the names: the tables' words, and 'selects' of the private methods out of them =====
/-- a private method of a class that the tables say can be made, by its rows of tables_1 -/
def lw_okq (q : MethodName × Nat) : Prop := (q.1.cls ≠ "java/lang/invoke/MethodHandle" ∧ q.1.cls ≠ "java/lang/invoke/VarHandle") ∧ Cond.instantiable q.1.cls q.2 ∈ tables_1 ∧ Cond.privateMethod q.1 ∈ tables_1 ∧ Cond.instanceMethod q.1 ∈ tables_1
theorem lw_p0 : lw_okq (⟨"WaveFiles", "forgetReading", "()V"⟩, 11) := ⟨⟨by decide +kernel, by decide +kernel⟩, List.mem_of_getElem? (i := 29) (by decide +kernel), List.mem_of_getElem? (i := 459) (by decide +kernel), List.mem_of_getElem? (i := 460) (by decide +kernel)⟩
theorem lw_p1 : lw_okq (⟨"WaveFiles", "canBeSet", "(III)Z"⟩, 11) := ⟨⟨by decide +kernel, by decide +kernel⟩, List.mem_of_getElem? (i := 29) (by decide +kernel), List.mem_of_getElem? (i := 698) (by decide +kernel), List.mem_of_getElem? (i := 699) (by decide +kernel)⟩
theorem lw_p2 : lw_okq (⟨"java/lang/Throwable", "fillInStackTrace", "(I)Ljava/lang/Throwable;"⟩, 6) := ⟨⟨by decide +kernel, by decide +kernel⟩, List.mem_of_getElem? (i := 743) (by decide +kernel), List.mem_of_getElem? (i := 741) (by decide +kernel), List.mem_of_getElem? (i := 742) (by decide +kernel)⟩
theorem lw_p3 : lw_okq (⟨"WaveFiles", "partsOf", "(I)I"⟩, 11) := ⟨⟨by decide +kernel, by decide +kernel⟩, List.mem_of_getElem? (i := 29) (by decide +kernel), List.mem_of_getElem? (i := 854) (by decide +kernel), List.mem_of_getElem? (i := 855) (by decide +kernel)⟩
theorem lw_p4 : lw_okq (⟨"java/util/ArrayList", "add", "(Ljava/lang/Object;[Ljava/lang/Object;I)V"⟩, 3) := ⟨⟨by decide +kernel, by decide +kernel⟩, List.mem_of_getElem? (i := 75) (by decide +kernel), List.mem_of_getElem? (i := 893) (by decide +kernel), List.mem_of_getElem? (i := 894) (by decide +kernel)⟩
theorem lw_p5 : lw_okq (⟨"java/util/ArrayList", "grow", "()[Ljava/lang/Object;"⟩, 3) := ⟨⟨by decide +kernel, by decide +kernel⟩, List.mem_of_getElem? (i := 75) (by decide +kernel), List.mem_of_getElem? (i := 897) (by decide +kernel), List.mem_of_getElem? (i := 898) (by decide +kernel)⟩
theorem lw_p6 : lw_okq (⟨"java/util/ArrayList", "grow", "(I)[Ljava/lang/Object;"⟩, 3) := ⟨⟨by decide +kernel, by decide +kernel⟩, List.mem_of_getElem? (i := 75) (by decide +kernel), List.mem_of_getElem? (i := 901) (by decide +kernel), List.mem_of_getElem? (i := 902) (by decide +kernel)⟩
theorem lw_p7 : lw_okq (⟨"WaveFiles", "canBeAsked", "(III)Z"⟩, 11) := ⟨⟨by decide +kernel, by decide +kernel⟩, List.mem_of_getElem? (i := 29) (by decide +kernel), List.mem_of_getElem? (i := 1070) (by decide +kernel), List.mem_of_getElem? (i := 1071) (by decide +kernel)⟩
theorem lw_p8 : lw_okq (⟨"WaveFilesModel", "begin", "(I)V"⟩, 44) := ⟨⟨by decide +kernel, by decide +kernel⟩, List.mem_of_getElem? (i := 1101) (by decide +kernel), List.mem_of_getElem? (i := 1115) (by decide +kernel), List.mem_of_getElem? (i := 1116) (by decide +kernel)⟩
theorem lw_p9 : lw_okq (⟨"WaveFilesModel", "put", "(III)V"⟩, 44) := ⟨⟨by decide +kernel, by decide +kernel⟩, List.mem_of_getElem? (i := 1101) (by decide +kernel), List.mem_of_getElem? (i := 1119) (by decide +kernel), List.mem_of_getElem? (i := 1120) (by decide +kernel)⟩
theorem lw_p10 : lw_okq (⟨"WaveFilesModel", "isPlace", "(IIII)Z"⟩, 44) := ⟨⟨by decide +kernel, by decide +kernel⟩, List.mem_of_getElem? (i := 1101) (by decide +kernel), List.mem_of_getElem? (i := 1264) (by decide +kernel), List.mem_of_getElem? (i := 1265) (by decide +kernel)⟩
theorem lw_p11 : lw_okq (⟨"WaveFilesModel", "tiles", "(I)I"⟩, 44) := ⟨⟨by decide +kernel, by decide +kernel⟩, List.mem_of_getElem? (i := 1101) (by decide +kernel), List.mem_of_getElem? (i := 1273) (by decide +kernel), List.mem_of_getElem? (i := 1274) (by decide +kernel)⟩
theorem lw_p12 : lw_okq (⟨"WaveFilesModel", "isFixed", "()Z"⟩, 44) := ⟨⟨by decide +kernel, by decide +kernel⟩, List.mem_of_getElem? (i := 1101) (by decide +kernel), List.mem_of_getElem? (i := 1280) (by decide +kernel), List.mem_of_getElem? (i := 1281) (by decide +kernel)⟩
theorem lw_p13 : lw_okq (⟨"WaveFilesModel", "isTooMany", "(II)Z"⟩, 44) := ⟨⟨by decide +kernel, by decide +kernel⟩, List.mem_of_getElem? (i := 1101) (by decide +kernel), List.mem_of_getElem? (i := 1296) (by decide +kernel), List.mem_of_getElem? (i := 1297) (by decide +kernel)⟩
theorem lw_p14 : lw_okq (⟨"WaveFilesModel", "force", "(IIII)I"⟩, 44) := ⟨⟨by decide +kernel, by decide +kernel⟩, List.mem_of_getElem? (i := 1101) (by decide +kernel), List.mem_of_getElem? (i := 1301) (by decide +kernel), List.mem_of_getElem? (i := 1302) (by decide +kernel)⟩
theorem lw_p15 : lw_okq (⟨"WaveFilesModel", "has", "(II)Z"⟩, 44) := ⟨⟨by decide +kernel, by decide +kernel⟩, List.mem_of_getElem? (i := 1101) (by decide +kernel), List.mem_of_getElem? (i := 1308) (by decide +kernel), List.mem_of_getElem? (i := 1309) (by decide +kernel)⟩
def lw_privs_1 : List (MethodName × Nat) := [(⟨"WaveFiles", "forgetReading", "()V"⟩, 11), (⟨"WaveFiles", "canBeSet", "(III)Z"⟩, 11), (⟨"java/lang/Throwable", "fillInStackTrace", "(I)Ljava/lang/Throwable;"⟩, 6), (⟨"WaveFiles", "partsOf", "(I)I"⟩, 11), (⟨"java/util/ArrayList", "add", "(Ljava/lang/Object;[Ljava/lang/Object;I)V"⟩, 3), (⟨"java/util/ArrayList", "grow", "()[Ljava/lang/Object;"⟩, 3), (⟨"java/util/ArrayList", "grow", "(I)[Ljava/lang/Object;"⟩, 3), (⟨"WaveFiles", "canBeAsked", "(III)Z"⟩, 11), (⟨"WaveFilesModel", "begin", "(I)V"⟩, 44), (⟨"WaveFilesModel", "put", "(III)V"⟩, 44), (⟨"WaveFilesModel", "isPlace", "(IIII)Z"⟩, 44), (⟨"WaveFilesModel", "tiles", "(I)I"⟩, 44), (⟨"WaveFilesModel", "isFixed", "()Z"⟩, 44), (⟨"WaveFilesModel", "isTooMany", "(II)Z"⟩, 44), (⟨"WaveFilesModel", "force", "(IIII)I"⟩, 44), (⟨"WaveFilesModel", "has", "(II)Z"⟩, 44)]
theorem lw_r1 : ∀ q ∈ lw_privs_1, lw_okq q := List.forall_mem_cons.mpr ⟨lw_p0, List.forall_mem_cons.mpr ⟨lw_p1, List.forall_mem_cons.mpr ⟨lw_p2, List.forall_mem_cons.mpr ⟨lw_p3, List.forall_mem_cons.mpr ⟨lw_p4, List.forall_mem_cons.mpr ⟨lw_p5, List.forall_mem_cons.mpr ⟨lw_p6, List.forall_mem_cons.mpr ⟨lw_p7, List.forall_mem_cons.mpr ⟨lw_p8, List.forall_mem_cons.mpr ⟨lw_p9, List.forall_mem_cons.mpr ⟨lw_p10, List.forall_mem_cons.mpr ⟨lw_p11, List.forall_mem_cons.mpr ⟨lw_p12, List.forall_mem_cons.mpr ⟨lw_p13, List.forall_mem_cons.mpr ⟨lw_p14, List.forall_mem_cons.mpr ⟨lw_p15, fun _ h => absurd h List.not_mem_nil⟩⟩⟩⟩⟩⟩⟩⟩⟩⟩⟩⟩⟩⟩⟩⟩
theorem lw_p16 : lw_okq (⟨"WaveFilesModel", "get", "(II)I"⟩, 44) := ⟨⟨by decide +kernel, by decide +kernel⟩, List.mem_of_getElem? (i := 1101) (by decide +kernel), List.mem_of_getElem? (i := 1315) (by decide +kernel), List.mem_of_getElem? (i := 1316) (by decide +kernel)⟩
theorem lw_p17 : lw_okq (⟨"WaveFilesModel", "make", "(III)V"⟩, 44) := ⟨⟨by decide +kernel, by decide +kernel⟩, List.mem_of_getElem? (i := 1101) (by decide +kernel), List.mem_of_getElem? (i := 1319) (by decide +kernel), List.mem_of_getElem? (i := 1320) (by decide +kernel)⟩
theorem lw_p18 : lw_okq (⟨"WaveFilesModel", "isPart", "(I)Z"⟩, 44) := ⟨⟨by decide +kernel, by decide +kernel⟩, List.mem_of_getElem? (i := 1101) (by decide +kernel), List.mem_of_getElem? (i := 1331) (by decide +kernel), List.mem_of_getElem? (i := 1332) (by decide +kernel)⟩
theorem lw_p19 : lw_okq (⟨"WaveFilesModel", "layHeads", "()V"⟩, 44) := ⟨⟨by decide +kernel, by decide +kernel⟩, List.mem_of_getElem? (i := 1101) (by decide +kernel), List.mem_of_getElem? (i := 1362) (by decide +kernel), List.mem_of_getElem? (i := 1363) (by decide +kernel)⟩
theorem lw_p20 : lw_okq (⟨"WaveFilesModel", "layFour", "(I)V"⟩, 44) := ⟨⟨by decide +kernel, by decide +kernel⟩, List.mem_of_getElem? (i := 1101) (by decide +kernel), List.mem_of_getElem? (i := 1366) (by decide +kernel), List.mem_of_getElem? (i := 1367) (by decide +kernel)⟩
theorem lw_p21 : lw_okq (⟨"WaveFilesModel", "layTwo", "(I)V"⟩, 44) := ⟨⟨by decide +kernel, by decide +kernel⟩, List.mem_of_getElem? (i := 1101) (by decide +kernel), List.mem_of_getElem? (i := 1370) (by decide +kernel), List.mem_of_getElem? (i := 1371) (by decide +kernel)⟩
theorem lw_p22 : lw_okq (⟨"WaveFilesModel", "lay", "(I)V"⟩, 44) := ⟨⟨by decide +kernel, by decide +kernel⟩, List.mem_of_getElem? (i := 1101) (by decide +kernel), List.mem_of_getElem? (i := 1374) (by decide +kernel), List.mem_of_getElem? (i := 1375) (by decide +kernel)⟩
theorem lw_p23 : lw_okq (⟨"WaveFilesModel", "layBox", "(I)V"⟩, 44) := ⟨⟨by decide +kernel, by decide +kernel⟩, List.mem_of_getElem? (i := 1101) (by decide +kernel), List.mem_of_getElem? (i := 1380) (by decide +kernel), List.mem_of_getElem? (i := 1381) (by decide +kernel)⟩
theorem lw_p24 : lw_okq (⟨"WaveFilesModel", "layStream", "()V"⟩, 44) := ⟨⟨by decide +kernel, by decide +kernel⟩, List.mem_of_getElem? (i := 1101) (by decide +kernel), List.mem_of_getElem? (i := 1384) (by decide +kernel), List.mem_of_getElem? (i := 1385) (by decide +kernel)⟩
theorem lw_p25 : lw_okq (⟨"WaveFilesModel", "layMark", "(II)V"⟩, 44) := ⟨⟨by decide +kernel, by decide +kernel⟩, List.mem_of_getElem? (i := 1101) (by decide +kernel), List.mem_of_getElem? (i := 1388) (by decide +kernel), List.mem_of_getElem? (i := 1389) (by decide +kernel)⟩
theorem lw_p26 : lw_okq (⟨"WaveFilesModel", "laySegments", "(I)V"⟩, 44) := ⟨⟨by decide +kernel, by decide +kernel⟩, List.mem_of_getElem? (i := 1101) (by decide +kernel), List.mem_of_getElem? (i := 1392) (by decide +kernel), List.mem_of_getElem? (i := 1393) (by decide +kernel)⟩
theorem lw_p27 : lw_okq (⟨"WaveFilesModel", "layStyle", "(I)V"⟩, 44) := ⟨⟨by decide +kernel, by decide +kernel⟩, List.mem_of_getElem? (i := 1101) (by decide +kernel), List.mem_of_getElem? (i := 1396) (by decide +kernel), List.mem_of_getElem? (i := 1397) (by decide +kernel)⟩
theorem lw_p28 : lw_okq (⟨"WaveFilesModel", "layStep", "(I)V"⟩, 44) := ⟨⟨by decide +kernel, by decide +kernel⟩, List.mem_of_getElem? (i := 1101) (by decide +kernel), List.mem_of_getElem? (i := 1400) (by decide +kernel), List.mem_of_getElem? (i := 1401) (by decide +kernel)⟩
theorem lw_p29 : lw_okq (⟨"WaveFilesModel", "layPart", "(II)V"⟩, 44) := ⟨⟨by decide +kernel, by decide +kernel⟩, List.mem_of_getElem? (i := 1101) (by decide +kernel), List.mem_of_getElem? (i := 1404) (by decide +kernel), List.mem_of_getElem? (i := 1405) (by decide +kernel)⟩
theorem lw_p30 : lw_okq (⟨"WaveFilesModel", "layLengths", "(I)V"⟩, 44) := ⟨⟨by decide +kernel, by decide +kernel⟩, List.mem_of_getElem? (i := 1101) (by decide +kernel), List.mem_of_getElem? (i := 1408) (by decide +kernel), List.mem_of_getElem? (i := 1409) (by decide +kernel)⟩
theorem lw_p31 : lw_okq (⟨"WaveFilesModel", "isMark", "(III)Z"⟩, 44) := ⟨⟨by decide +kernel, by decide +kernel⟩, List.mem_of_getElem? (i := 1101) (by decide +kernel), List.mem_of_getElem? (i := 1436) (by decide +kernel), List.mem_of_getElem? (i := 1437) (by decide +kernel)⟩
def lw_privs_2 : List (MethodName × Nat) := [(⟨"WaveFilesModel", "get", "(II)I"⟩, 44), (⟨"WaveFilesModel", "make", "(III)V"⟩, 44), (⟨"WaveFilesModel", "isPart", "(I)Z"⟩, 44), (⟨"WaveFilesModel", "layHeads", "()V"⟩, 44), (⟨"WaveFilesModel", "layFour", "(I)V"⟩, 44), (⟨"WaveFilesModel", "layTwo", "(I)V"⟩, 44), (⟨"WaveFilesModel", "lay", "(I)V"⟩, 44), (⟨"WaveFilesModel", "layBox", "(I)V"⟩, 44), (⟨"WaveFilesModel", "layStream", "()V"⟩, 44), (⟨"WaveFilesModel", "layMark", "(II)V"⟩, 44), (⟨"WaveFilesModel", "laySegments", "(I)V"⟩, 44), (⟨"WaveFilesModel", "layStyle", "(I)V"⟩, 44), (⟨"WaveFilesModel", "layStep", "(I)V"⟩, 44), (⟨"WaveFilesModel", "layPart", "(II)V"⟩, 44), (⟨"WaveFilesModel", "layLengths", "(I)V"⟩, 44), (⟨"WaveFilesModel", "isMark", "(III)Z"⟩, 44)]
theorem lw_r2 : ∀ q ∈ lw_privs_2, lw_okq q := List.forall_mem_cons.mpr ⟨lw_p16, List.forall_mem_cons.mpr ⟨lw_p17, List.forall_mem_cons.mpr ⟨lw_p18, List.forall_mem_cons.mpr ⟨lw_p19, List.forall_mem_cons.mpr ⟨lw_p20, List.forall_mem_cons.mpr ⟨lw_p21, List.forall_mem_cons.mpr ⟨lw_p22, List.forall_mem_cons.mpr ⟨lw_p23, List.forall_mem_cons.mpr ⟨lw_p24, List.forall_mem_cons.mpr ⟨lw_p25, List.forall_mem_cons.mpr ⟨lw_p26, List.forall_mem_cons.mpr ⟨lw_p27, List.forall_mem_cons.mpr ⟨lw_p28, List.forall_mem_cons.mpr ⟨lw_p29, List.forall_mem_cons.mpr ⟨lw_p30, List.forall_mem_cons.mpr ⟨lw_p31, fun _ h => absurd h List.not_mem_nil⟩⟩⟩⟩⟩⟩⟩⟩⟩⟩⟩⟩⟩⟩⟩⟩
theorem lw_p32 : lw_okq (⟨"WaveFilesModel", "readBoxes", "()Z"⟩, 44) := ⟨⟨by decide +kernel, by decide +kernel⟩, List.mem_of_getElem? (i := 1101) (by decide +kernel), List.mem_of_getElem? (i := 1440) (by decide +kernel), List.mem_of_getElem? (i := 1441) (by decide +kernel)⟩
theorem lw_p33 : lw_okq (⟨"WaveFilesModel", "isFirstRight", "()Z"⟩, 44) := ⟨⟨by decide +kernel, by decide +kernel⟩, List.mem_of_getElem? (i := 1101) (by decide +kernel), List.mem_of_getElem? (i := 1444) (by decide +kernel), List.mem_of_getElem? (i := 1445) (by decide +kernel)⟩
theorem lw_p34 : lw_okq (⟨"WaveFilesModel", "four", "(I)J"⟩, 44) := ⟨⟨by decide +kernel, by decide +kernel⟩, List.mem_of_getElem? (i := 1101) (by decide +kernel), List.mem_of_getElem? (i := 1448) (by decide +kernel), List.mem_of_getElem? (i := 1449) (by decide +kernel)⟩
theorem lw_p35 : lw_okq (⟨"WaveFilesModel", "fails", "(I)Z"⟩, 44) := ⟨⟨by decide +kernel, by decide +kernel⟩, List.mem_of_getElem? (i := 1101) (by decide +kernel), List.mem_of_getElem? (i := 1455) (by decide +kernel), List.mem_of_getElem? (i := 1456) (by decide +kernel)⟩
theorem lw_p36 : lw_okq (⟨"WaveFilesModel", "endOf", "(IIZ)I"⟩, 44) := ⟨⟨by decide +kernel, by decide +kernel⟩, List.mem_of_getElem? (i := 1101) (by decide +kernel), List.mem_of_getElem? (i := 1459) (by decide +kernel), List.mem_of_getElem? (i := 1460) (by decide +kernel)⟩
theorem lw_p37 : lw_okq (⟨"WaveFilesModel", "readInside", "(II)Z"⟩, 44) := ⟨⟨by decide +kernel, by decide +kernel⟩, List.mem_of_getElem? (i := 1101) (by decide +kernel), List.mem_of_getElem? (i := 1466) (by decide +kernel), List.mem_of_getElem? (i := 1467) (by decide +kernel)⟩
theorem lw_p38 : lw_okq (⟨"WaveFilesModel", "keepUnknown", "(II)V"⟩, 44) := ⟨⟨by decide +kernel, by decide +kernel⟩, List.mem_of_getElem? (i := 1101) (by decide +kernel), List.mem_of_getElem? (i := 1472) (by decide +kernel), List.mem_of_getElem? (i := 1473) (by decide +kernel)⟩
theorem lw_p39 : lw_okq (⟨"WaveFilesModel", "readStream", "()Z"⟩, 44) := ⟨⟨by decide +kernel, by decide +kernel⟩, List.mem_of_getElem? (i := 1101) (by decide +kernel), List.mem_of_getElem? (i := 1477) (by decide +kernel), List.mem_of_getElem? (i := 1478) (by decide +kernel)⟩
theorem lw_p40 : lw_okq (⟨"WaveFilesModel", "readHead", "()Z"⟩, 44) := ⟨⟨by decide +kernel, by decide +kernel⟩, List.mem_of_getElem? (i := 1101) (by decide +kernel), List.mem_of_getElem? (i := 1481) (by decide +kernel), List.mem_of_getElem? (i := 1482) (by decide +kernel)⟩
theorem lw_p41 : lw_okq (⟨"WaveFilesModel", "readSizes", "()Z"⟩, 44) := ⟨⟨by decide +kernel, by decide +kernel⟩, List.mem_of_getElem? (i := 1101) (by decide +kernel), List.mem_of_getElem? (i := 1485) (by decide +kernel), List.mem_of_getElem? (i := 1486) (by decide +kernel)⟩
theorem lw_p42 : lw_okq (⟨"WaveFilesModel", "two", "(I)I"⟩, 44) := ⟨⟨by decide +kernel, by decide +kernel⟩, List.mem_of_getElem? (i := 1101) (by decide +kernel), List.mem_of_getElem? (i := 1489) (by decide +kernel), List.mem_of_getElem? (i := 1490) (by decide +kernel)⟩
theorem lw_p43 : lw_okq (⟨"WaveFilesModel", "behind", "(II)I"⟩, 44) := ⟨⟨by decide +kernel, by decide +kernel⟩, List.mem_of_getElem? (i := 1101) (by decide +kernel), List.mem_of_getElem? (i := 1494) (by decide +kernel), List.mem_of_getElem? (i := 1495) (by decide +kernel)⟩
theorem lw_p44 : lw_okq (⟨"WaveFilesModel", "takeSegment", "(II)Z"⟩, 44) := ⟨⟨by decide +kernel, by decide +kernel⟩, List.mem_of_getElem? (i := 1101) (by decide +kernel), List.mem_of_getElem? (i := 1501) (by decide +kernel), List.mem_of_getElem? (i := 1502) (by decide +kernel)⟩
theorem lw_p45 : lw_okq (⟨"WaveFilesModel", "takeStep", "(II)Z"⟩, 44) := ⟨⟨by decide +kernel, by decide +kernel⟩, List.mem_of_getElem? (i := 1101) (by decide +kernel), List.mem_of_getElem? (i := 1505) (by decide +kernel), List.mem_of_getElem? (i := 1506) (by decide +kernel)⟩
theorem lw_p46 : lw_okq (⟨"WaveFilesModel", "takeStyle", "(IIZ)Z"⟩, 44) := ⟨⟨by decide +kernel, by decide +kernel⟩, List.mem_of_getElem? (i := 1101) (by decide +kernel), List.mem_of_getElem? (i := 1509) (by decide +kernel), List.mem_of_getElem? (i := 1510) (by decide +kernel)⟩
theorem lw_p47 : lw_okq (⟨"WaveFilesModel", "readPart", "()Z"⟩, 44) := ⟨⟨by decide +kernel, by decide +kernel⟩, List.mem_of_getElem? (i := 1101) (by decide +kernel), List.mem_of_getElem? (i := 1513) (by decide +kernel), List.mem_of_getElem? (i := 1514) (by decide +kernel)⟩
def lw_privs_3 : List (MethodName × Nat) := [(⟨"WaveFilesModel", "readBoxes", "()Z"⟩, 44), (⟨"WaveFilesModel", "isFirstRight", "()Z"⟩, 44), (⟨"WaveFilesModel", "four", "(I)J"⟩, 44), (⟨"WaveFilesModel", "fails", "(I)Z"⟩, 44), (⟨"WaveFilesModel", "endOf", "(IIZ)I"⟩, 44), (⟨"WaveFilesModel", "readInside", "(II)Z"⟩, 44), (⟨"WaveFilesModel", "keepUnknown", "(II)V"⟩, 44), (⟨"WaveFilesModel", "readStream", "()Z"⟩, 44), (⟨"WaveFilesModel", "readHead", "()Z"⟩, 44), (⟨"WaveFilesModel", "readSizes", "()Z"⟩, 44), (⟨"WaveFilesModel", "two", "(I)I"⟩, 44), (⟨"WaveFilesModel", "behind", "(II)I"⟩, 44), (⟨"WaveFilesModel", "takeSegment", "(II)Z"⟩, 44), (⟨"WaveFilesModel", "takeStep", "(II)Z"⟩, 44), (⟨"WaveFilesModel", "takeStyle", "(IIZ)Z"⟩, 44), (⟨"WaveFilesModel", "readPart", "()Z"⟩, 44)]
theorem lw_r3 : ∀ q ∈ lw_privs_3, lw_okq q := List.forall_mem_cons.mpr ⟨lw_p32, List.forall_mem_cons.mpr ⟨lw_p33, List.forall_mem_cons.mpr ⟨lw_p34, List.forall_mem_cons.mpr ⟨lw_p35, List.forall_mem_cons.mpr ⟨lw_p36, List.forall_mem_cons.mpr ⟨lw_p37, List.forall_mem_cons.mpr ⟨lw_p38, List.forall_mem_cons.mpr ⟨lw_p39, List.forall_mem_cons.mpr ⟨lw_p40, List.forall_mem_cons.mpr ⟨lw_p41, List.forall_mem_cons.mpr ⟨lw_p42, List.forall_mem_cons.mpr ⟨lw_p43, List.forall_mem_cons.mpr ⟨lw_p44, List.forall_mem_cons.mpr ⟨lw_p45, List.forall_mem_cons.mpr ⟨lw_p46, List.forall_mem_cons.mpr ⟨lw_p47, fun _ h => absurd h List.not_mem_nil⟩⟩⟩⟩⟩⟩⟩⟩⟩⟩⟩⟩⟩⟩⟩⟩
theorem lw_p48 : lw_okq (⟨"WaveFilesModel", "headOf", "(IIIZ)I"⟩, 44) := ⟨⟨by decide +kernel, by decide +kernel⟩, List.mem_of_getElem? (i := 1101) (by decide +kernel), List.mem_of_getElem? (i := 1518) (by decide +kernel), List.mem_of_getElem? (i := 1519) (by decide +kernel)⟩
theorem lw_p49 : lw_okq (⟨"WaveFilesModel", "takeLengths", "(II)Z"⟩, 44) := ⟨⟨by decide +kernel, by decide +kernel⟩, List.mem_of_getElem? (i := 1101) (by decide +kernel), List.mem_of_getElem? (i := 1522) (by decide +kernel), List.mem_of_getElem? (i := 1523) (by decide +kernel)⟩
theorem lw_p50 : lw_okq (⟨"WaveFilesModel", "takePackets", "(IIIZ)V"⟩, 44) := ⟨⟨by decide +kernel, by decide +kernel⟩, List.mem_of_getElem? (i := 1101) (by decide +kernel), List.mem_of_getElem? (i := 1527) (by decide +kernel), List.mem_of_getElem? (i := 1528) (by decide +kernel)⟩
theorem lw_p51 : lw_okq (⟨"WaveFilesModel", "forget", "(I)V"⟩, 44) := ⟨⟨by decide +kernel, by decide +kernel⟩, List.mem_of_getElem? (i := 1101) (by decide +kernel), List.mem_of_getElem? (i := 1531) (by decide +kernel), List.mem_of_getElem? (i := 1532) (by decide +kernel)⟩
def lw_privs_4 : List (MethodName × Nat) := [(⟨"WaveFilesModel", "headOf", "(IIIZ)I"⟩, 44), (⟨"WaveFilesModel", "takeLengths", "(II)Z"⟩, 44), (⟨"WaveFilesModel", "takePackets", "(IIIZ)V"⟩, 44), (⟨"WaveFilesModel", "forget", "(I)V"⟩, 44)]
theorem lw_r4 : ∀ q ∈ lw_privs_4, lw_okq q := List.forall_mem_cons.mpr ⟨lw_p48, List.forall_mem_cons.mpr ⟨lw_p49, List.forall_mem_cons.mpr ⟨lw_p50, List.forall_mem_cons.mpr ⟨lw_p51, fun _ h => absurd h List.not_mem_nil⟩⟩⟩⟩
def lw_privs : List (MethodName × Nat) := lw_privs_1 ++ (lw_privs_2 ++ (lw_privs_3 ++ (lw_privs_4)))
def lw_tbl : List Cond := k2_sels lw_privs ++ tables_1
theorem lw_privs_ok : ∀ q ∈ lw_privs, lw_okq q := by
  show ∀ q ∈ lw_privs_1 ++ (lw_privs_2 ++ (lw_privs_3 ++ (lw_privs_4))), lw_okq q
  exact List.forall_mem_append.mpr ⟨lw_r1, List.forall_mem_append.mpr ⟨lw_r2, List.forall_mem_append.mpr ⟨lw_r3, lw_r4⟩⟩⟩
end
section
abbrev R0 : String := "WaveFiles"
def T0 : u_T := fun k => match k with
  | 0 => ("WaveFiles", "settings", "LWaveFiles$Settings;", true)
  | 1 => ("WaveFiles", "parts", "Ljava/util/ArrayList;", true)
  | 2 => ("WaveFiles", "boxes", "Ljava/util/ArrayList;", true)
  | 3 => ("WaveFiles", "writer", "LWaveFiles$Writer;", true)
  | 4 => ("WaveFiles", "fed", "LWaveFiles$Bytes;", true)
  | 5 => ("WaveFiles", "taken", "LWaveFiles$Bytes;", true)
  | 6 => ("WaveFiles", "readSettings", "LWaveFiles$Settings;", true)
  | 7 => ("WaveFiles", "boxReader", "LWaveFiles$BoxReader;", true)
  | 8 => ("WaveFiles", "headReader", "LWaveFiles$HeadReader;", true)
  | 9 => ("WaveFiles", "partReader", "LWaveFiles$PartReader;", true)
  | _ => ("WaveFiles", "isRead", "Z", false)
def ty0 : Nat → FieldType := fun k => match k with
  | 0 => .object "WaveFiles$Settings"
  | 1 => .object "java/util/ArrayList"
  | 2 => .object "java/util/ArrayList"
  | 3 => .object "WaveFiles$Writer"
  | 4 => .object "WaveFiles$Bytes"
  | 5 => .object "WaveFiles$Bytes"
  | 6 => .object "WaveFiles$Settings"
  | 7 => .object "WaveFiles$BoxReader"
  | 8 => .object "WaveFiles$HeadReader"
  | 9 => .object "WaveFiles$PartReader"
  | _ => .boolean
abbrev R1 : String := "WaveFiles$BoxReader"
def T1 : u_T := fun k => match k with
  | 0 => ("WaveFiles$BoxReader", "bytes", "LWaveFiles$Bytes;", true)
  | 1 => ("WaveFiles$BoxReader", "unknownPlaces", "LWaveFiles$Numbers;", true)
  | 2 => ("WaveFiles$BoxReader", "unknownEnds", "LWaveFiles$Numbers;", true)
  | 3 => ("WaveFiles$BoxReader", "colour", "I", false)
  | 4 => ("WaveFiles$BoxReader", "streamFrom", "I", false)
  | _ => ("WaveFiles$BoxReader", "streamEnd", "I", false)
def ty1 : Nat → FieldType := fun k => match k with
  | 0 => .object "WaveFiles$Bytes"
  | 1 => .object "WaveFiles$Numbers"
  | 2 => .object "WaveFiles$Numbers"
  | 3 => .int
  | 4 => .int
  | _ => .int
abbrev R2 : String := "WaveFiles$Bytes"
def T2 : u_T := fun k => match k with
  | 0 => ("WaveFiles$Bytes", "most", "I", true)
  | 1 => ("WaveFiles$Bytes", "row", "[B", false)
  | _ => ("WaveFiles$Bytes", "count", "I", false)
def ty2 : Nat → FieldType := fun k => match k with
  | 0 => .int
  | 1 => .array .byte
  | _ => .int
abbrev R3 : String := "WaveFiles$HeadReader"
def T3 : u_T := fun k => match k with
  | 0 => ("WaveFiles$HeadReader", "bytes", "LWaveFiles$Bytes;", true)
  | 1 => ("WaveFiles$HeadReader", "settings", "LWaveFiles$Settings;", true)
  | _ => ("WaveFiles$HeadReader", "headEnd", "I", false)
def ty3 : Nat → FieldType := fun k => match k with
  | 0 => .object "WaveFiles$Bytes"
  | 1 => .object "WaveFiles$Settings"
  | _ => .int
abbrev R4 : String := "WaveFiles$MadeBox"
def T4 : u_T := fun k => match k with
  | 0 => ("WaveFiles$MadeBox", "inside", "Z", true)
  | 1 => ("WaveFiles$MadeBox", "kind", "I", true)
  | _ => ("WaveFiles$MadeBox", "bytes", "LWaveFiles$Bytes;", true)
def ty4 : Nat → FieldType := fun k => match k with
  | 0 => .boolean
  | 1 => .int
  | _ => .object "WaveFiles$Bytes"
abbrev R5 : String := "WaveFiles$Numbers"
def T5 : u_T := fun k => match k with
  | 0 => ("WaveFiles$Numbers", "row", "[I", false)
  | _ => ("WaveFiles$Numbers", "count", "I", false)
def ty5 : Nat → FieldType := fun k => match k with
  | 0 => .array .int
  | _ => .int
abbrev R6 : String := "WaveFiles$PartReader"
def T6 : u_T := fun k => match k with
  | 0 => ("WaveFiles$PartReader", "bytes", "LWaveFiles$Bytes;", true)
  | 1 => ("WaveFiles$PartReader", "settings", "LWaveFiles$Settings;", true)
  | 2 => ("WaveFiles$PartReader", "heads", "LWaveFiles$HeadReader;", true)
  | 3 => ("WaveFiles$PartReader", "tiles", "[I", true)
  | 4 => ("WaveFiles$PartReader", "places", "[I", true)
  | 5 => ("WaveFiles$PartReader", "starts", "[I", true)
  | 6 => ("WaveFiles$PartReader", "sizes", "[I", true)
  | 7 => ("WaveFiles$PartReader", "packets", "[I", true)
  | 8 => ("WaveFiles$PartReader", "cuts", "[Z", true)
  | 9 => ("WaveFiles$PartReader", "partsOfTile", "[I", true)
  | 10 => ("WaveFiles$PartReader", "lengths", "[I", true)
  | 11 => ("WaveFiles$PartReader", "lengthCount", "I", false)
  | _ => ("WaveFiles$PartReader", "count", "I", false)
def ty6 : Nat → FieldType := fun k => match k with
  | 0 => .object "WaveFiles$Bytes"
  | 1 => .object "WaveFiles$Settings"
  | 2 => .object "WaveFiles$HeadReader"
  | 3 => .array .int
  | 4 => .array .int
  | 5 => .array .int
  | 6 => .array .int
  | 7 => .array .int
  | 8 => .array .boolean
  | 9 => .array .int
  | 10 => .array .int
  | 11 => .int
  | _ => .int
abbrev R7 : String := "WaveFiles$Settings"
def T7 : u_T := fun k => match k with
  | 0 => ("WaveFiles$Settings", "sizes", "[I", true)
  | 1 => ("WaveFiles$Settings", "depths", "[I", true)
  | 2 => ("WaveFiles$Settings", "numbers", "[I", true)
  | 3 => ("WaveFiles$Settings", "styles", "[Z", true)
  | 4 => ("WaveFiles$Settings", "steps", "[Z", true)
  | 5 => ("WaveFiles$Settings", "tileWidth", "I", false)
  | _ => ("WaveFiles$Settings", "tileHeight", "I", false)
def ty7 : Nat → FieldType := fun k => match k with
  | 0 => .array .int
  | 1 => .array .int
  | 2 => .array .int
  | 3 => .array .boolean
  | 4 => .array .boolean
  | 5 => .int
  | _ => .int
abbrev R8 : String := "WaveFiles$TilePart"
def T8 : u_T := fun k => match k with
  | 0 => ("WaveFiles$TilePart", "tile", "I", true)
  | 1 => ("WaveFiles$TilePart", "partsBefore", "I", true)
  | 2 => ("WaveFiles$TilePart", "lengths", "[I", true)
  | 3 => ("WaveFiles$TilePart", "bytes", "LWaveFiles$Bytes;", true)
  | _ => ("WaveFiles$TilePart", "packets", "I", false)
def ty8 : Nat → FieldType := fun k => match k with
  | 0 => .int
  | 1 => .int
  | 2 => .array .int
  | 3 => .object "WaveFiles$Bytes"
  | _ => .int
abbrev R9 : String := "WaveFiles$Writer"
def T9 : u_T := fun k => match k with
  | _ => ("WaveFiles$Writer", "out", "LWaveFiles$Bytes;", true)
def ty9 : Nat → FieldType := fun k => match k with
  | _ => .object "WaveFiles$Bytes"
abbrev R10 : String := "WaveFilesModel"
def T10 : u_T := fun k => match k with
  | 0 => ("WaveFilesModel", "code", "I", false)
  | 1 => ("WaveFilesModel", "firstWide", "I", true)
  | 2 => ("WaveFilesModel", "firstHigh", "I", true)
  | 3 => ("WaveFilesModel", "numbers", "[I", true)
  | 4 => ("WaveFilesModel", "hasStyle", "[Z", true)
  | 5 => ("WaveFilesModel", "hasStep", "[Z", true)
  | 6 => ("WaveFilesModel", "depths", "[I", true)
  | 7 => ("WaveFilesModel", "sizes", "[I", true)
  | 8 => ("WaveFilesModel", "parts", "I", false)
  | 9 => ("WaveFilesModel", "tileOf", "[I", true)
  | 10 => ("WaveFilesModel", "packets", "[I", true)
  | 11 => ("WaveFilesModel", "packetSize", "[I", true)
  | 12 => ("WaveFilesModel", "partSize", "[I", true)
  | 13 => ("WaveFilesModel", "partBytes", "[I", true)
  | 14 => ("WaveFilesModel", "boxes", "I", false)
  | 15 => ("WaveFilesModel", "isInside", "[Z", true)
  | 16 => ("WaveFilesModel", "kinds", "[I", true)
  | 17 => ("WaveFilesModel", "boxSize", "[I", true)
  | 18 => ("WaveFilesModel", "boxBytes", "[I", true)
  | 19 => ("WaveFilesModel", "file", "[I", true)
  | 20 => ("WaveFilesModel", "fileMany", "I", false)
  | 21 => ("WaveFilesModel", "fed", "[I", true)
  | 22 => ("WaveFilesModel", "fedMany", "I", false)
  | 23 => ("WaveFilesModel", "had", "[I", true)
  | 24 => ("WaveFilesModel", "hadMany", "I", false)
  | 25 => ("WaveFilesModel", "isRead", "Z", false)
  | 26 => ("WaveFilesModel", "colour", "I", false)
  | 27 => ("WaveFilesModel", "unknowns", "I", false)
  | 28 => ("WaveFilesModel", "unknownAt", "[I", true)
  | 29 => ("WaveFilesModel", "unknownSize", "[I", true)
  | 30 => ("WaveFilesModel", "readParts", "I", false)
  | 31 => ("WaveFilesModel", "readTile", "[I", true)
  | 32 => ("WaveFilesModel", "readPlace", "[I", true)
  | 33 => ("WaveFilesModel", "readFrom", "[I", true)
  | 34 => ("WaveFilesModel", "readSize", "[I", true)
  | 35 => ("WaveFilesModel", "readPackets", "[I", true)
  | 36 => ("WaveFilesModel", "isSpoilt", "[Z", true)
  | 37 => ("WaveFilesModel", "isCut", "[Z", true)
  | 38 => ("WaveFilesModel", "partsOf", "[I", true)
  | 39 => ("WaveFilesModel", "at", "I", false)
  | 40 => ("WaveFilesModel", "end", "I", false)
  | 41 => ("WaveFilesModel", "broken", "I", false)
  | 42 => ("WaveFilesModel", "lengths", "[I", true)
  | _ => ("WaveFilesModel", "lengthMany", "I", false)
def ty10 : Nat → FieldType := fun k => match k with
  | 0 => .int
  | 1 => .int
  | 2 => .int
  | 3 => .array .int
  | 4 => .array .boolean
  | 5 => .array .boolean
  | 6 => .array .int
  | 7 => .array .int
  | 8 => .int
  | 9 => .array .int
  | 10 => .array .int
  | 11 => .array .int
  | 12 => .array .int
  | 13 => .array .int
  | 14 => .int
  | 15 => .array .boolean
  | 16 => .array .int
  | 17 => .array .int
  | 18 => .array .int
  | 19 => .array .int
  | 20 => .int
  | 21 => .array .int
  | 22 => .int
  | 23 => .array .int
  | 24 => .int
  | 25 => .boolean
  | 26 => .int
  | 27 => .int
  | 28 => .array .int
  | 29 => .array .int
  | 30 => .int
  | 31 => .array .int
  | 32 => .array .int
  | 33 => .array .int
  | 34 => .array .int
  | 35 => .array .int
  | 36 => .array .boolean
  | 37 => .array .boolean
  | 38 => .array .int
  | 39 => .int
  | 40 => .int
  | 41 => .int
  | 42 => .array .int
  | _ => .int
abbrev R11 : String := "java/util/ArrayList"
def T11 : u_T := fun k => match k with
  | 0 => ("java/util/AbstractList", "modCount", "I", false)
  | 1 => ("java/util/ArrayList", "elementData", "[Ljava/lang/Object;", false)
  | _ => ("java/util/ArrayList", "size", "I", false)
def ty11 : Nat → FieldType := fun k => match k with
  | 0 => .int
  | 1 => .array (.object "java/lang/Object")
  | _ => .int
def vwCl : List vw_C := [(R0, T0, 11), (R1, T1, 6), (R2, T2, 3), (R3, T3, 3), (R4, T4, 3), (R5, T5, 2), (R6, T6, 13), (R7, T7, 7), (R8, T8, 5), (R9, T9, 1), (R10, T10, 44), (R11, T11, 3)]
def GW : List Cond := lw_tbl.filter goodWord
/-- words that warm tables keep by laws of their own -/
def pz_wk (w : Cond) : Bool := match w with
  | .fieldLinkNest _ _ _ _ _ _ => true
  | .methodLinkNest _ _ _ _ => true
  | .castable _ _ => true
  | .declares _ => true
  | _ => false
def NW : List Cond := lw_tbl.filter pz_wk
theorem pz_in {w : Cond} (h : w ∈ lw_tbl) (hg : goodWord w = true) : w ∈ GW := List.mem_filter.mpr ⟨h, hg⟩
theorem pz_inN {w : Cond} (h : w ∈ lw_tbl) (hg : pz_wk w = true) : w ∈ NW := List.mem_filter.mpr ⟨h, hg⟩
theorem pz_t0 {w : Cond} {i : Nat} (h : (k2_sels lw_privs)[i]? = some w) : w ∈ lw_tbl := List.mem_append_left _ (List.mem_of_getElem? h)
theorem pz_t1 {w : Cond} {i : Nat} (h : tables_1_1[i]? = some w) : w ∈ lw_tbl := List.mem_append_right _ (List.mem_append_left _ (List.mem_of_getElem? h))
theorem pz_t2 {w : Cond} {i : Nat} (h : tables_1_2[i]? = some w) : w ∈ lw_tbl := List.mem_append_right _ (List.mem_append_right _ (List.mem_append_left _ (List.mem_of_getElem? h)))
theorem pz_t3 {w : Cond} {i : Nat} (h : tables_1_3[i]? = some w) : w ∈ lw_tbl := List.mem_append_right _ (List.mem_append_right _ (List.mem_append_right _ (List.mem_append_left _ (List.mem_of_getElem? h))))
theorem pz_t4 {w : Cond} {i : Nat} (h : tables_1_4[i]? = some w) : w ∈ lw_tbl := List.mem_append_right _ (List.mem_append_right _ (List.mem_append_right _ (List.mem_append_right _ (List.mem_append_left _ (List.mem_of_getElem? h)))))
theorem pz_t5 {w : Cond} {i : Nat} (h : tables_1_5[i]? = some w) : w ∈ lw_tbl := List.mem_append_right _ (List.mem_append_right _ (List.mem_append_right _ (List.mem_append_right _ (List.mem_append_right _ (List.mem_append_left _ (List.mem_of_getElem? h))))))
theorem pz_t6 {w : Cond} {i : Nat} (h : tables_1_6[i]? = some w) : w ∈ lw_tbl := List.mem_append_right _ (List.mem_append_right _ (List.mem_append_right _ (List.mem_append_right _ (List.mem_append_right _ (List.mem_append_right _ (List.mem_append_left _ (List.mem_of_getElem? h)))))))
theorem pz_t7 {w : Cond} {i : Nat} (h : tables_1_7[i]? = some w) : w ∈ lw_tbl := List.mem_append_right _ (List.mem_append_right _ (List.mem_append_right _ (List.mem_append_right _ (List.mem_append_right _ (List.mem_append_right _ (List.mem_append_right _ (List.mem_of_getElem? h)))))))
theorem pz_good (w : Cond) (h : w ∈ GW) : (w.onTables && w.keeps) = true ∨ ∃ ty, w = .arrayClass ty := good_of_word (List.mem_filter.mp h).2
def pz_TYS : List FieldType := [.int, .byte, .boolean, .long, .object "java/lang/Object"]
def FUEL : Nat := 1000000
theorem gw_obji : Cond.instanceMethod Lib.objectInit ∈ GW := pz_in (pz_t1 (i := 34) (by decide +kernel)) (by decide +kernel)
theorem gw_objc : Cond.code Lib.objectInit ⟨#[0xb1]⟩ 1 none ∈ GW := pz_in (pz_t1 (i := 35) (by decide +kernel)) (by decide +kernel)
theorem gw_mi : Cond.initialized "java/lang/Math" ∈ GW := pz_in (pz_t1 (i := 12) (by decide +kernel)) (by decide +kernel)
theorem gw_mmaxs : Cond.static Lib.Math.max.name ∈ GW := pz_in (pz_t2 (i := 11) (by decide +kernel)) (by decide +kernel)
theorem gw_mmins : Cond.static Lib.Math.min.name ∈ GW := pz_in (pz_t2 (i := 8) (by decide +kernel)) (by decide +kernel)
theorem gw_mmaxc : Cond.code Lib.Math.max.name Lib.Math.max.code 2 (some .int) ∈ GW := pz_in (pz_t2 (i := 12) (by decide +kernel)) (by decide +kernel)
theorem gw_mminc : Cond.code Lib.Math.min.name Lib.Math.min.code 2 (some .int) ∈ GW := pz_in (pz_t2 (i := 9) (by decide +kernel)) (by decide +kernel)
theorem gw_acI : Cond.arrayClass .int ∈ GW := pz_in (pz_t1 (i := 72) (by decide +kernel)) (by decide +kernel)
theorem gw_acB : Cond.arrayClass .byte ∈ GW := pz_in (pz_t1 (i := 125) (by decide +kernel)) (by decide +kernel)
theorem gw_acZ : Cond.arrayClass .boolean ∈ GW := pz_in (pz_t1 (i := 73) (by decide +kernel)) (by decide +kernel)
theorem gw_acJ : Cond.arrayClass .long ∈ GW := pz_in (pz_t7 (i := 117) (by decide +kernel)) (by decide +kernel)
theorem gw_ca4 : Cond.castable "WaveFiles$MadeBox" "java/lang/Object" ∈ NW := pz_inN (pz_t7 (i := 134) (by decide +kernel)) (by decide +kernel)
theorem gw_ca8 : Cond.castable "WaveFiles$TilePart" "java/lang/Object" ∈ NW := pz_inN (pz_t7 (i := 133) (by decide +kernel)) (by decide +kernel)
abbrev cBytes_init : ByteArray := prog_3_method_1_code
def yBytes_init : MethodName := ⟨"WaveFiles$Bytes", "<init>", "(I)V"⟩
abbrev cBytes_append : ByteArray := prog_3_method_2_code
def yBytes_append : MethodName := ⟨"WaveFiles$Bytes", "append", "(I)Z"⟩
abbrev cBytes_appendNumber : ByteArray := prog_3_method_3_code
def yBytes_appendNumber : MethodName := ⟨"WaveFiles$Bytes", "appendNumber", "(II)V"⟩
abbrev cBytes_get : ByteArray := prog_3_method_4_code
def yBytes_get : MethodName := ⟨"WaveFiles$Bytes", "get", "(I)I"⟩
abbrev cBytes_put : ByteArray := prog_3_method_5_code
def yBytes_put : MethodName := ⟨"WaveFiles$Bytes", "put", "(II)V"⟩
abbrev cBytes_putNumber4 : ByteArray := prog_3_method_6_code
def yBytes_putNumber4 : MethodName := ⟨"WaveFiles$Bytes", "putNumber4", "(II)V"⟩
abbrev cBytes_number : ByteArray := prog_3_method_7_code
def yBytes_number : MethodName := ⟨"WaveFiles$Bytes", "number", "(II)J"⟩
abbrev cBytes_copy : ByteArray := prog_3_method_8_code
def yBytes_copy : MethodName := ⟨"WaveFiles$Bytes", "copy", "(LWaveFiles$Bytes;)V"⟩
abbrev cNumbers_init : ByteArray := prog_6_method_1_code
def yNumbers_init : MethodName := ⟨"WaveFiles$Numbers", "<init>", "()V"⟩
abbrev cNumbers_append : ByteArray := prog_6_method_2_code
def yNumbers_append : MethodName := ⟨"WaveFiles$Numbers", "append", "(I)V"⟩
abbrev cNumbers_get : ByteArray := prog_6_method_3_code
def yNumbers_get : MethodName := ⟨"WaveFiles$Numbers", "get", "(I)I"⟩
abbrev cTilePart_init : ByteArray := prog_9_method_1_code
def yTilePart_init : MethodName := ⟨"WaveFiles$TilePart", "<init>", "(II)V"⟩
abbrev cTilePart_grow : ByteArray := prog_9_method_2_code
def yTilePart_grow : MethodName := ⟨"WaveFiles$TilePart", "grow", "(I)Z"⟩
abbrev cMadeBox_init : ByteArray := prog_5_method_1_code
def yMadeBox_init : MethodName := ⟨"WaveFiles$MadeBox", "<init>", "(ZI)V"⟩
abbrev cSettings_init : ByteArray := prog_8_method_1_code
def ySettings_init : MethodName := ⟨"WaveFiles$Settings", "<init>", "()V"⟩
abbrev cSettings_restart : ByteArray := prog_8_method_2_code
def ySettings_restart : MethodName := ⟨"WaveFiles$Settings", "restart", "(II)V"⟩
abbrev cSettings_forgetSegments : ByteArray := prog_8_method_3_code
def ySettings_forgetSegments : MethodName := ⟨"WaveFiles$Settings", "forgetSegments", "()V"⟩
abbrev cSettings_forgetTile : ByteArray := prog_8_method_4_code
def ySettings_forgetTile : MethodName := ⟨"WaveFiles$Settings", "forgetTile", "(I)V"⟩
abbrev cSettings_isTile : ByteArray := prog_8_method_5_code
def ySettings_isTile : MethodName := ⟨"WaveFiles$Settings", "isTile", "(I)Z"⟩
abbrev cSettings_isComponent : ByteArray := prog_8_method_6_code
def ySettings_isComponent : MethodName := ⟨"WaveFiles$Settings", "isComponent", "(I)Z"⟩
abbrev cSettings_tiles : ByteArray := prog_8_method_7_code
def ySettings_tiles : MethodName := ⟨"WaveFiles$Settings", "tiles", "()I"⟩
abbrev cSettings_tilesFor : ByteArray := prog_8_method_8_code
def ySettings_tilesFor : MethodName := ⟨"WaveFiles$Settings", "tilesFor", "(II)I"⟩
abbrev cSettings_allows : ByteArray := prog_8_method_9_code
def ySettings_allows : MethodName := ⟨"WaveFiles$Settings", "allows", "(II)Z"⟩
abbrev cSettings_hasSegmentNotForAll : ByteArray := prog_8_method_10_code
def ySettings_hasSegmentNotForAll : MethodName := ⟨"WaveFiles$Settings", "hasSegmentNotForAll", "()Z"⟩
abbrev cSettings_hasStyleAndStepForAll : ByteArray := prog_8_method_11_code
def ySettings_hasStyleAndStepForAll : MethodName := ⟨"WaveFiles$Settings", "hasStyleAndStepForAll", "()Z"⟩
abbrev cSettings_hasStyle : ByteArray := prog_8_method_12_code
def ySettings_hasStyle : MethodName := ⟨"WaveFiles$Settings", "hasStyle", "(II)Z"⟩
abbrev cSettings_hasStep : ByteArray := prog_8_method_13_code
def ySettings_hasStep : MethodName := ⟨"WaveFiles$Settings", "hasStep", "(II)Z"⟩
abbrev cSettings_valueOf : ByteArray := prog_8_method_14_code
def ySettings_valueOf : MethodName := ⟨"WaveFiles$Settings", "valueOf", "(III)I"⟩
abbrev cSettings_change : ByteArray := prog_8_method_15_code
def ySettings_change : MethodName := ⟨"WaveFiles$Settings", "change", "(IIII)V"⟩
abbrev cSettings_changeDepth : ByteArray := prog_8_method_16_code
def ySettings_changeDepth : MethodName := ⟨"WaveFiles$Settings", "changeDepth", "(II)V"⟩
abbrev cSettings_makeSegment : ByteArray := prog_8_method_17_code
def ySettings_makeSegment : MethodName := ⟨"WaveFiles$Settings", "makeSegment", "(III)V"⟩
abbrev cSettings_hold : ByteArray := prog_8_method_18_code
def ySettings_hold : MethodName := ⟨"WaveFiles$Settings", "hold", "(III)V"⟩
abbrev cSettings_slotInForce : ByteArray := prog_8_method_19_code
def ySettings_slotInForce : MethodName := ⟨"WaveFiles$Settings", "slotInForce", "(III)I"⟩
abbrev cSettings_slotOf : ByteArray := prog_8_method_20_code
def ySettings_slotOf : MethodName := ⟨"WaveFiles$Settings", "slotOf", "(II)I"⟩
abbrev cSettings_place : ByteArray := prog_8_method_21_code
def ySettings_place : MethodName := ⟨"WaveFiles$Settings", "place", "(II)I"⟩
abbrev cSettings_asManyAsItTakes : ByteArray := prog_8_method_22_code
def ySettings_asManyAsItTakes : MethodName := ⟨"WaveFiles$Settings", "asManyAsItTakes", "(II)I"⟩
abbrev cWriter_init : ByteArray := prog_10_method_1_code
def yWriter_init : MethodName := ⟨"WaveFiles$Writer", "<init>", "()V"⟩
abbrev cWriter_begin : ByteArray := prog_10_method_2_code
def yWriter_begin : MethodName := ⟨"WaveFiles$Writer", "begin", "()V"⟩
abbrev cWriter_openBox : ByteArray := prog_10_method_3_code
def yWriter_openBox : MethodName := ⟨"WaveFiles$Writer", "openBox", "(I)I"⟩
abbrev cWriter_closeBox : ByteArray := prog_10_method_4_code
def yWriter_closeBox : MethodName := ⟨"WaveFiles$Writer", "closeBox", "(I)V"⟩
abbrev cWriter_headBoxes : ByteArray := prog_10_method_5_code
def yWriter_headBoxes : MethodName := ⟨"WaveFiles$Writer", "headBoxes", "(LWaveFiles$Settings;Ljava/util/ArrayList;)V"⟩
abbrev cWriter_pictureHeader : ByteArray := prog_10_method_6_code
def yWriter_pictureHeader : MethodName := ⟨"WaveFiles$Writer", "pictureHeader", "(LWaveFiles$Settings;)V"⟩
abbrev cWriter_madeBoxes : ByteArray := prog_10_method_7_code
def yWriter_madeBoxes : MethodName := ⟨"WaveFiles$Writer", "madeBoxes", "(Ljava/util/ArrayList;Z)V"⟩
abbrev cWriter_appendAll : ByteArray := prog_10_method_8_code
def yWriter_appendAll : MethodName := ⟨"WaveFiles$Writer", "appendAll", "(LWaveFiles$Bytes;)V"⟩
abbrev cWriter_streamBox : ByteArray := prog_10_method_9_code
def yWriter_streamBox : MethodName := ⟨"WaveFiles$Writer", "streamBox", "(LWaveFiles$Settings;Ljava/util/ArrayList;)V"⟩
abbrev cWriter_code : ByteArray := prog_10_method_10_code
def yWriter_code : MethodName := ⟨"WaveFiles$Writer", "code", "(I)V"⟩
abbrev cWriter_sizes : ByteArray := prog_10_method_11_code
def yWriter_sizes : MethodName := ⟨"WaveFiles$Writer", "sizes", "(LWaveFiles$Settings;)V"⟩
abbrev cWriter_segments : ByteArray := prog_10_method_12_code
def yWriter_segments : MethodName := ⟨"WaveFiles$Writer", "segments", "(LWaveFiles$Settings;I)V"⟩
abbrev cWriter_style : ByteArray := prog_10_method_13_code
def yWriter_style : MethodName := ⟨"WaveFiles$Writer", "style", "(LWaveFiles$Settings;II)V"⟩
abbrev cWriter_step : ByteArray := prog_10_method_14_code
def yWriter_step : MethodName := ⟨"WaveFiles$Writer", "step", "(LWaveFiles$Settings;II)V"⟩
abbrev cWriter_onePart : ByteArray := prog_10_method_15_code
def yWriter_onePart : MethodName := ⟨"WaveFiles$Writer", "onePart", "(LWaveFiles$Settings;LWaveFiles$TilePart;)V"⟩
abbrev cWriter_packetLengths : ByteArray := prog_10_method_16_code
def yWriter_packetLengths : MethodName := ⟨"WaveFiles$Writer", "packetLengths", "(LWaveFiles$TilePart;)V"⟩
abbrev cBoxReader_init : ByteArray := prog_2_method_1_code
def yBoxReader_init : MethodName := ⟨"WaveFiles$BoxReader", "<init>", "(LWaveFiles$Bytes;)V"⟩
abbrev cBoxReader_forget : ByteArray := prog_2_method_2_code
def yBoxReader_forget : MethodName := ⟨"WaveFiles$BoxReader", "forget", "()V"⟩
abbrev cBoxReader_findStream : ByteArray := prog_2_method_3_code
def yBoxReader_findStream : MethodName := ⟨"WaveFiles$BoxReader", "findStream", "()I"⟩
abbrev cBoxReader_beginsWithSignature : ByteArray := prog_2_method_4_code
def yBoxReader_beginsWithSignature : MethodName := ⟨"WaveFiles$BoxReader", "beginsWithSignature", "()Z"⟩
abbrev cBoxReader_readBoxes : ByteArray := prog_2_method_5_code
def yBoxReader_readBoxes : MethodName := ⟨"WaveFiles$BoxReader", "readBoxes", "()I"⟩
abbrev cBoxReader_readHeaderBoxes : ByteArray := prog_2_method_6_code
def yBoxReader_readHeaderBoxes : MethodName := ⟨"WaveFiles$BoxReader", "readHeaderBoxes", "(II)I"⟩
abbrev cBoxReader_boxEnd : ByteArray := prog_2_method_7_code
def yBoxReader_boxEnd : MethodName := ⟨"WaveFiles$BoxReader", "boxEnd", "(IIZ)I"⟩
abbrev cBoxReader_kindAt : ByteArray := prog_2_method_8_code
def yBoxReader_kindAt : MethodName := ⟨"WaveFiles$BoxReader", "kindAt", "(I)I"⟩
abbrev cBoxReader_keepUnknown : ByteArray := prog_2_method_9_code
def yBoxReader_keepUnknown : MethodName := ⟨"WaveFiles$BoxReader", "keepUnknown", "(II)V"⟩
abbrev cHeadReader_init : ByteArray := prog_4_method_1_code
def yHeadReader_init : MethodName := ⟨"WaveFiles$HeadReader", "<init>", "(LWaveFiles$Bytes;LWaveFiles$Settings;)V"⟩
abbrev cHeadReader_readHead : ByteArray := prog_4_method_2_code
def yHeadReader_readHead : MethodName := ⟨"WaveFiles$HeadReader", "readHead", "(II)I"⟩
abbrev cHeadReader_isCode : ByteArray := prog_4_method_3_code
def yHeadReader_isCode : MethodName := ⟨"WaveFiles$HeadReader", "isCode", "(III)Z"⟩
abbrev cHeadReader_segmentEnd : ByteArray := prog_4_method_4_code
def yHeadReader_segmentEnd : MethodName := ⟨"WaveFiles$HeadReader", "segmentEnd", "(II)I"⟩
abbrev cHeadReader_keepSizes : ByteArray := prog_4_method_5_code
def yHeadReader_keepSizes : MethodName := ⟨"WaveFiles$HeadReader", "keepSizes", "(II)Z"⟩
abbrev cHeadReader_keepSides : ByteArray := prog_4_method_6_code
def yHeadReader_keepSides : MethodName := ⟨"WaveFiles$HeadReader", "keepSides", "(I)Z"⟩
abbrev cHeadReader_keepDepths : ByteArray := prog_4_method_7_code
def yHeadReader_keepDepths : MethodName := ⟨"WaveFiles$HeadReader", "keepDepths", "(II)Z"⟩
abbrev cHeadReader_isTileSide : ByteArray := prog_4_method_8_code
def yHeadReader_isTileSide : MethodName := ⟨"WaveFiles$HeadReader", "isTileSide", "(J)Z"⟩
abbrev cHeadReader_isSegmentCode : ByteArray := prog_4_method_9_code
def yHeadReader_isSegmentCode : MethodName := ⟨"WaveFiles$HeadReader", "isSegmentCode", "(I)Z"⟩
abbrev cHeadReader_keepSegment : ByteArray := prog_4_method_10_code
def yHeadReader_keepSegment : MethodName := ⟨"WaveFiles$HeadReader", "keepSegment", "(III)Z"⟩
abbrev cHeadReader_keepStyleForAll : ByteArray := prog_4_method_11_code
def yHeadReader_keepStyleForAll : MethodName := ⟨"WaveFiles$HeadReader", "keepStyleForAll", "(II)Z"⟩
abbrev cHeadReader_keepStyle : ByteArray := prog_4_method_12_code
def yHeadReader_keepStyle : MethodName := ⟨"WaveFiles$HeadReader", "keepStyle", "(II)Z"⟩
abbrev cHeadReader_keepStep : ByteArray := prog_4_method_13_code
def yHeadReader_keepStep : MethodName := ⟨"WaveFiles$HeadReader", "keepStep", "(II)Z"⟩
abbrev cPartReader_init : ByteArray := prog_7_method_1_code
def yPartReader_init : MethodName := ⟨"WaveFiles$PartReader", "<init>", "(LWaveFiles$Bytes;LWaveFiles$Settings;LWaveFiles$HeadReader;)V"⟩
abbrev cPartReader_forget : ByteArray := prog_7_method_2_code
def yPartReader_forget : MethodName := ⟨"WaveFiles$PartReader", "forget", "()V"⟩
abbrev cPartReader_numberOf : ByteArray := prog_7_method_3_code
def yPartReader_numberOf : MethodName := ⟨"WaveFiles$PartReader", "numberOf", "(II)I"⟩
abbrev cPartReader_spoiltOnes : ByteArray := prog_7_method_4_code
def yPartReader_spoiltOnes : MethodName := ⟨"WaveFiles$PartReader", "spoiltOnes", "()I"⟩
abbrev cPartReader_wholePackets : ByteArray := prog_7_method_5_code
def yPartReader_wholePackets : MethodName := ⟨"WaveFiles$PartReader", "wholePackets", "()I"⟩
abbrev cPartReader_readParts : ByteArray := prog_7_method_6_code
def yPartReader_readParts : MethodName := ⟨"WaveFiles$PartReader", "readParts", "(II)V"⟩
abbrev cPartReader_beginsPart : ByteArray := prog_7_method_7_code
def yPartReader_beginsPart : MethodName := ⟨"WaveFiles$PartReader", "beginsPart", "(II)Z"⟩
abbrev cPartReader_readPart : ByteArray := prog_7_method_8_code
def yPartReader_readPart : MethodName := ⟨"WaveFiles$PartReader", "readPart", "(II)V"⟩
abbrev cPartReader_readPartHead : ByteArray := prog_7_method_9_code
def yPartReader_readPartHead : MethodName := ⟨"WaveFiles$PartReader", "readPartHead", "(III)I"⟩
abbrev cPartReader_keepLengths : ByteArray := prog_7_method_10_code
def yPartReader_keepLengths : MethodName := ⟨"WaveFiles$PartReader", "keepLengths", "(II)Z"⟩
abbrev cPartReader_weigh : ByteArray := prog_7_method_11_code
def yPartReader_weigh : MethodName := ⟨"WaveFiles$PartReader", "weigh", "(III)Z"⟩
abbrev cW_init : ByteArray := prog_1_method_1_code
def yW_init : MethodName := ⟨"WaveFiles", "<init>", "(II)V"⟩
abbrev cW_set : ByteArray := prog_1_method_2_code
def yW_set : MethodName := ⟨"WaveFiles", "set", "(IIII)I"⟩
abbrev cW_tilePart : ByteArray := prog_1_method_3_code
def yW_tilePart : MethodName := ⟨"WaveFiles", "tilePart", "(I)I"⟩
abbrev cW_packet : ByteArray := prog_1_method_4_code
def yW_packet : MethodName := ⟨"WaveFiles", "packet", "(I)I"⟩
abbrev cW_byteOf : ByteArray := prog_1_method_5_code
def yW_byteOf : MethodName := ⟨"WaveFiles", "byteOf", "(II)I"⟩
abbrev cW_box : ByteArray := prog_1_method_6_code
def yW_box : MethodName := ⟨"WaveFiles", "box", "(ZI)I"⟩
abbrev cW_boxByte : ByteArray := prog_1_method_7_code
def yW_boxByte : MethodName := ⟨"WaveFiles", "boxByte", "(II)I"⟩
abbrev cW_write : ByteArray := prog_1_method_8_code
def yW_write : MethodName := ⟨"WaveFiles", "write", "()I"⟩
abbrev cW_byteAt : ByteArray := prog_1_method_9_code
def yW_byteAt : MethodName := ⟨"WaveFiles", "byteAt", "(I)I"⟩
abbrev cW_feed : ByteArray := prog_1_method_10_code
def yW_feed : MethodName := ⟨"WaveFiles", "feed", "(I)I"⟩
abbrev cW_pass : ByteArray := prog_1_method_11_code
def yW_pass : MethodName := ⟨"WaveFiles", "pass", "(II)I"⟩
abbrev cW_alter : ByteArray := prog_1_method_12_code
def yW_alter : MethodName := ⟨"WaveFiles", "alter", "(II)I"⟩
abbrev cW_cut : ByteArray := prog_1_method_13_code
def yW_cut : MethodName := ⟨"WaveFiles", "cut", "(I)I"⟩
abbrev cW_read : ByteArray := prog_1_method_14_code
def yW_read : MethodName := ⟨"WaveFiles", "read", "()I"⟩
abbrev cW_at : ByteArray := prog_1_method_15_code
def yW_at : MethodName := ⟨"WaveFiles", "at", "(III)I"⟩
abbrev cW_part : ByteArray := prog_1_method_16_code
def yW_part : MethodName := ⟨"WaveFiles", "part", "(II)I"⟩
abbrev cW_partByte : ByteArray := prog_1_method_17_code
def yW_partByte : MethodName := ⟨"WaveFiles", "partByte", "(II)I"⟩
abbrev cW_unknown : ByteArray := prog_1_method_18_code
def yW_unknown : MethodName := ⟨"WaveFiles", "unknown", "(II)I"⟩
abbrev cW_told : ByteArray := prog_1_method_19_code
def yW_told : MethodName := ⟨"WaveFiles", "told", "(I)I"⟩
abbrev cW_clear : ByteArray := prog_1_method_20_code
def yW_clear : MethodName := ⟨"WaveFiles", "clear", "()V"⟩
abbrev cW_forgetReading : ByteArray := prog_1_method_21_code
def yW_forgetReading : MethodName := ⟨"WaveFiles", "forgetReading", "()V"⟩
abbrev cW_canBeSet : ByteArray := prog_1_method_22_code
def yW_canBeSet : MethodName := ⟨"WaveFiles", "canBeSet", "(III)Z"⟩
abbrev cW_canBeAsked : ByteArray := prog_1_method_23_code
def yW_canBeAsked : MethodName := ⟨"WaveFiles", "canBeAsked", "(III)Z"⟩
abbrev cW_partsOf : ByteArray := prog_1_method_24_code
def yW_partsOf : MethodName := ⟨"WaveFiles", "partsOf", "(I)I"⟩
abbrev cW_nearestSide : ByteArray := prog_1_method_25_code
def yW_nearestSide : MethodName := ⟨"WaveFiles", "nearestSide", "(I)I"⟩
abbrev cW_isByte : ByteArray := prog_1_method_26_code
def yW_isByte : MethodName := ⟨"WaveFiles", "isByte", "(I)Z"⟩
abbrev cW_isKind : ByteArray := prog_1_method_27_code
def yW_isKind : MethodName := ⟨"WaveFiles", "isKind", "(I)Z"⟩
abbrev cW_isOwnKind : ByteArray := prog_1_method_28_code
def yW_isOwnKind : MethodName := ⟨"WaveFiles", "isOwnKind", "(I)Z"⟩
abbrev cW_isWithin : ByteArray := prog_1_method_29_code
def yW_isWithin : MethodName := ⟨"WaveFiles", "isWithin", "(IJ)Z"⟩
abbrev cD_init : ByteArray := prog_12_method_1_code
def yD_init : MethodName := ⟨"WaveFilesModel", "<init>", "(II)V"⟩
abbrev cD_thrown : ByteArray := prog_12_method_2_code
def yD_thrown : MethodName := ⟨"WaveFilesModel", "thrown", "()I"⟩
abbrev cD_near : ByteArray := prog_12_method_3_code
def yD_near : MethodName := ⟨"WaveFilesModel", "near", "(III)I"⟩
abbrev cD_in : ByteArray := prog_12_method_4_code
def yD_in : MethodName := ⟨"WaveFilesModel", "in", "(JJJ)Z"⟩
abbrev cD_begin : ByteArray := prog_12_method_5_code
def yD_begin : MethodName := ⟨"WaveFilesModel", "begin", "(I)V"⟩
abbrev cD_put : ByteArray := prog_12_method_6_code
def yD_put : MethodName := ⟨"WaveFilesModel", "put", "(III)V"⟩
abbrev cD_get : ByteArray := prog_12_method_7_code
def yD_get : MethodName := ⟨"WaveFilesModel", "get", "(II)I"⟩
abbrev cD_placeOf : ByteArray := prog_12_method_8_code
def yD_placeOf : MethodName := ⟨"WaveFilesModel", "placeOf", "(II)I"⟩
abbrev cD_isStep : ByteArray := prog_12_method_9_code
def yD_isStep : MethodName := ⟨"WaveFilesModel", "isStep", "(I)Z"⟩
abbrev cD_has : ByteArray := prog_12_method_10_code
def yD_has : MethodName := ⟨"WaveFilesModel", "has", "(II)Z"⟩
abbrev cD_force : ByteArray := prog_12_method_11_code
def yD_force : MethodName := ⟨"WaveFilesModel", "force", "(IIII)I"⟩
abbrev cD_tilesOf : ByteArray := prog_12_method_12_code
def yD_tilesOf : MethodName := ⟨"WaveFilesModel", "tilesOf", "(JJJJ)J"⟩
abbrev cD_tiles : ByteArray := prog_12_method_13_code
def yD_tiles : MethodName := ⟨"WaveFilesModel", "tiles", "(I)I"⟩
abbrev cD_isPlace : ByteArray := prog_12_method_14_code
def yD_isPlace : MethodName := ⟨"WaveFilesModel", "isPlace", "(IIII)Z"⟩
abbrev cD_isFixed : ByteArray := prog_12_method_15_code
def yD_isFixed : MethodName := ⟨"WaveFilesModel", "isFixed", "()Z"⟩
abbrev cD_isNumber : ByteArray := prog_12_method_16_code
def yD_isNumber : MethodName := ⟨"WaveFilesModel", "isNumber", "(II)Z"⟩
abbrev cD_isTooMany : ByteArray := prog_12_method_17_code
def yD_isTooMany : MethodName := ⟨"WaveFilesModel", "isTooMany", "(II)Z"⟩
abbrev cD_make : ByteArray := prog_12_method_18_code
def yD_make : MethodName := ⟨"WaveFilesModel", "make", "(III)V"⟩
abbrev cD_set : ByteArray := prog_12_method_19_code
def yD_set : MethodName := ⟨"WaveFilesModel", "set", "(IIII)I"⟩
abbrev cD_tilePart : ByteArray := prog_12_method_20_code
def yD_tilePart : MethodName := ⟨"WaveFilesModel", "tilePart", "(I)I"⟩
abbrev cD_isPart : ByteArray := prog_12_method_21_code
def yD_isPart : MethodName := ⟨"WaveFilesModel", "isPart", "(I)Z"⟩
abbrev cD_packet : ByteArray := prog_12_method_22_code
def yD_packet : MethodName := ⟨"WaveFilesModel", "packet", "(I)I"⟩
abbrev cD_byteOf : ByteArray := prog_12_method_23_code
def yD_byteOf : MethodName := ⟨"WaveFilesModel", "byteOf", "(II)I"⟩
abbrev cD_isKind : ByteArray := prog_12_method_24_code
def yD_isKind : MethodName := ⟨"WaveFilesModel", "isKind", "(I)Z"⟩
abbrev cD_box : ByteArray := prog_12_method_25_code
def yD_box : MethodName := ⟨"WaveFilesModel", "box", "(ZI)I"⟩
abbrev cD_boxByte : ByteArray := prog_12_method_26_code
def yD_boxByte : MethodName := ⟨"WaveFilesModel", "boxByte", "(II)I"⟩
abbrev cD_lay : ByteArray := prog_12_method_27_code
def yD_lay : MethodName := ⟨"WaveFilesModel", "lay", "(I)V"⟩
abbrev cD_layTwo : ByteArray := prog_12_method_28_code
def yD_layTwo : MethodName := ⟨"WaveFilesModel", "layTwo", "(I)V"⟩
abbrev cD_layFour : ByteArray := prog_12_method_29_code
def yD_layFour : MethodName := ⟨"WaveFilesModel", "layFour", "(I)V"⟩
abbrev cD_layMark : ByteArray := prog_12_method_30_code
def yD_layMark : MethodName := ⟨"WaveFilesModel", "layMark", "(II)V"⟩
abbrev cD_layStyle : ByteArray := prog_12_method_31_code
def yD_layStyle : MethodName := ⟨"WaveFilesModel", "layStyle", "(I)V"⟩
abbrev cD_layStep : ByteArray := prog_12_method_32_code
def yD_layStep : MethodName := ⟨"WaveFilesModel", "layStep", "(I)V"⟩
abbrev cD_laySegments : ByteArray := prog_12_method_33_code
def yD_laySegments : MethodName := ⟨"WaveFilesModel", "laySegments", "(I)V"⟩
abbrev cD_layLengths : ByteArray := prog_12_method_34_code
def yD_layLengths : MethodName := ⟨"WaveFilesModel", "layLengths", "(I)V"⟩
abbrev cD_layPart : ByteArray := prog_12_method_35_code
def yD_layPart : MethodName := ⟨"WaveFilesModel", "layPart", "(II)V"⟩
abbrev cD_layStream : ByteArray := prog_12_method_36_code
def yD_layStream : MethodName := ⟨"WaveFilesModel", "layStream", "()V"⟩
abbrev cD_layBox : ByteArray := prog_12_method_37_code
def yD_layBox : MethodName := ⟨"WaveFilesModel", "layBox", "(I)V"⟩
abbrev cD_layHeads : ByteArray := prog_12_method_38_code
def yD_layHeads : MethodName := ⟨"WaveFilesModel", "layHeads", "()V"⟩
abbrev cD_write : ByteArray := prog_12_method_39_code
def yD_write : MethodName := ⟨"WaveFilesModel", "write", "()I"⟩
abbrev cD_byteAt : ByteArray := prog_12_method_40_code
def yD_byteAt : MethodName := ⟨"WaveFilesModel", "byteAt", "(I)I"⟩
abbrev cD_feed : ByteArray := prog_12_method_41_code
def yD_feed : MethodName := ⟨"WaveFilesModel", "feed", "(I)I"⟩
abbrev cD_pass : ByteArray := prog_12_method_42_code
def yD_pass : MethodName := ⟨"WaveFilesModel", "pass", "(II)I"⟩
abbrev cD_alter : ByteArray := prog_12_method_43_code
def yD_alter : MethodName := ⟨"WaveFilesModel", "alter", "(II)I"⟩
abbrev cD_cut : ByteArray := prog_12_method_44_code
def yD_cut : MethodName := ⟨"WaveFilesModel", "cut", "(I)I"⟩
abbrev cD_four : ByteArray := prog_12_method_45_code
def yD_four : MethodName := ⟨"WaveFilesModel", "four", "(I)J"⟩
abbrev cD_two : ByteArray := prog_12_method_46_code
def yD_two : MethodName := ⟨"WaveFilesModel", "two", "(I)I"⟩
abbrev cD_fails : ByteArray := prog_12_method_47_code
def yD_fails : MethodName := ⟨"WaveFilesModel", "fails", "(I)Z"⟩
abbrev cD_endOf : ByteArray := prog_12_method_48_code
def yD_endOf : MethodName := ⟨"WaveFilesModel", "endOf", "(IIZ)I"⟩
abbrev cD_keepUnknown : ByteArray := prog_12_method_49_code
def yD_keepUnknown : MethodName := ⟨"WaveFilesModel", "keepUnknown", "(II)V"⟩
abbrev cD_readInside : ByteArray := prog_12_method_50_code
def yD_readInside : MethodName := ⟨"WaveFilesModel", "readInside", "(II)Z"⟩
abbrev cD_isFirstRight : ByteArray := prog_12_method_51_code
def yD_isFirstRight : MethodName := ⟨"WaveFilesModel", "isFirstRight", "()Z"⟩
abbrev cD_readBoxes : ByteArray := prog_12_method_52_code
def yD_readBoxes : MethodName := ⟨"WaveFilesModel", "readBoxes", "()Z"⟩
abbrev cD_readSizes : ByteArray := prog_12_method_53_code
def yD_readSizes : MethodName := ⟨"WaveFilesModel", "readSizes", "()Z"⟩
abbrev cD_isSegment : ByteArray := prog_12_method_54_code
def yD_isSegment : MethodName := ⟨"WaveFilesModel", "isSegment", "(I)Z"⟩
abbrev cD_takeSegment : ByteArray := prog_12_method_55_code
def yD_takeSegment : MethodName := ⟨"WaveFilesModel", "takeSegment", "(II)Z"⟩
abbrev cD_takeStep : ByteArray := prog_12_method_56_code
def yD_takeStep : MethodName := ⟨"WaveFilesModel", "takeStep", "(II)Z"⟩
abbrev cD_takeStyle : ByteArray := prog_12_method_57_code
def yD_takeStyle : MethodName := ⟨"WaveFilesModel", "takeStyle", "(IIZ)Z"⟩
abbrev cD_behind : ByteArray := prog_12_method_58_code
def yD_behind : MethodName := ⟨"WaveFilesModel", "behind", "(II)I"⟩
abbrev cD_isMark : ByteArray := prog_12_method_59_code
def yD_isMark : MethodName := ⟨"WaveFilesModel", "isMark", "(III)Z"⟩
abbrev cD_readHead : ByteArray := prog_12_method_60_code
def yD_readHead : MethodName := ⟨"WaveFilesModel", "readHead", "()Z"⟩
abbrev cD_takeLengths : ByteArray := prog_12_method_61_code
def yD_takeLengths : MethodName := ⟨"WaveFilesModel", "takeLengths", "(II)Z"⟩
abbrev cD_headOf : ByteArray := prog_12_method_62_code
def yD_headOf : MethodName := ⟨"WaveFilesModel", "headOf", "(IIIZ)I"⟩
abbrev cD_forget : ByteArray := prog_12_method_63_code
def yD_forget : MethodName := ⟨"WaveFilesModel", "forget", "(I)V"⟩
abbrev cD_takePackets : ByteArray := prog_12_method_64_code
def yD_takePackets : MethodName := ⟨"WaveFilesModel", "takePackets", "(IIIZ)V"⟩
abbrev cD_readPart : ByteArray := prog_12_method_65_code
def yD_readPart : MethodName := ⟨"WaveFilesModel", "readPart", "()Z"⟩
abbrev cD_readStream : ByteArray := prog_12_method_66_code
def yD_readStream : MethodName := ⟨"WaveFilesModel", "readStream", "()Z"⟩
abbrev cD_read : ByteArray := prog_12_method_67_code
def yD_read : MethodName := ⟨"WaveFilesModel", "read", "()I"⟩
abbrev cD_at : ByteArray := prog_12_method_68_code
def yD_at : MethodName := ⟨"WaveFilesModel", "at", "(III)I"⟩
abbrev cD_part : ByteArray := prog_12_method_69_code
def yD_part : MethodName := ⟨"WaveFilesModel", "part", "(II)I"⟩
abbrev cD_partByte : ByteArray := prog_12_method_70_code
def yD_partByte : MethodName := ⟨"WaveFilesModel", "partByte", "(II)I"⟩
abbrev cD_unknown : ByteArray := prog_12_method_71_code
def yD_unknown : MethodName := ⟨"WaveFilesModel", "unknown", "(II)I"⟩
abbrev cD_told : ByteArray := prog_12_method_72_code
def yD_told : MethodName := ⟨"WaveFilesModel", "told", "(I)I"⟩
abbrev cD_clear : ByteArray := prog_12_method_73_code
def yD_clear : MethodName := ⟨"WaveFilesModel", "clear", "()V"⟩
abbrev cAbstractCollection_init : ByteArray := prog_26_method_1_code
def yAbstractCollection_init : MethodName := ⟨"java/util/AbstractCollection", "<init>", "()V"⟩
abbrev cAbstractList_init : ByteArray := prog_27_method_1_code
def yAbstractList_init : MethodName := ⟨"java/util/AbstractList", "<init>", "()V"⟩
abbrev cAL_init1 : ByteArray := prog_28_method_2_code
def yAL_init1 : MethodName := ⟨"java/util/ArrayList", "<init>", "()V"⟩
abbrev cAL_grow0 : ByteArray := prog_28_method_6_code
def yAL_grow0 : MethodName := ⟨"java/util/ArrayList", "grow", "(I)[Ljava/lang/Object;"⟩
abbrev cAL_grow1 : ByteArray := prog_28_method_7_code
def yAL_grow1 : MethodName := ⟨"java/util/ArrayList", "grow", "()[Ljava/lang/Object;"⟩
abbrev cAL_size : ByteArray := prog_28_method_8_code
def yAL_size : MethodName := ⟨"java/util/ArrayList", "size", "()I"⟩
abbrev cAL_isEmpty : ByteArray := prog_28_method_9_code
def yAL_isEmpty : MethodName := ⟨"java/util/ArrayList", "isEmpty", "()Z"⟩
abbrev cAL_elementData : ByteArray := prog_28_method_18_code
def yAL_elementData : MethodName := ⟨"java/util/ArrayList", "elementData", "(I)Ljava/lang/Object;"⟩
abbrev cAL_get : ByteArray := prog_28_method_20_code
def yAL_get : MethodName := ⟨"java/util/ArrayList", "get", "(I)Ljava/lang/Object;"⟩
abbrev cAL_add0 : ByteArray := prog_28_method_24_code
def yAL_add0 : MethodName := ⟨"java/util/ArrayList", "add", "(Ljava/lang/Object;[Ljava/lang/Object;I)V"⟩
abbrev cAL_add1 : ByteArray := prog_28_method_25_code
def yAL_add1 : MethodName := ⟨"java/util/ArrayList", "add", "(Ljava/lang/Object;)Z"⟩
abbrev cAL_clear : ByteArray := prog_28_method_40_code
def yAL_clear : MethodName := ⟨"java/util/ArrayList", "clear", "()V"⟩
abbrev cAR_copyOf0 : ByteArray := prog_29_method_119_code
def yAR_copyOf0 : MethodName := ⟨"java/util/Arrays", "copyOf", "([Ljava/lang/Object;I)[Ljava/lang/Object;"⟩
abbrev cAR_copyOf1 : ByteArray := prog_29_method_120_code
def yAR_copyOf1 : MethodName := ⟨"java/util/Arrays", "copyOf", "([Ljava/lang/Object;ILjava/lang/Class;)[Ljava/lang/Object;"⟩
abbrev cAR_copyOf2 : ByteArray := prog_29_method_121_code
def yAR_copyOf2 : MethodName := ⟨"java/util/Arrays", "copyOf", "([BI)[B"⟩
abbrev cAR_copyOf4 : ByteArray := prog_29_method_123_code
def yAR_copyOf4 : MethodName := ⟨"java/util/Arrays", "copyOf", "([II)[I"⟩
abbrev cObjects_checkIndex0 : ByteArray := prog_32_method_17_code
def yObjects_checkIndex0 : MethodName := ⟨"java/util/Objects", "checkIndex", "(II)I"⟩
abbrev cPreconditions_checkIndex0 : ByteArray := prog_36_method_11_code
def yPreconditions_checkIndex0 : MethodName := ⟨"jdk/internal/util/Preconditions", "checkIndex", "(IILjava/util/function/BiFunction;)I"⟩
abbrev cArraysSupport_newLength : ByteArray := prog_35_method_27_code
def yArraysSupport_newLength : MethodName := ⟨"jdk/internal/util/ArraysSupport", "newLength", "(III)I"⟩
abbrev cArraysSupport_hugeLength : ByteArray := prog_35_method_28_code
def yArraysSupport_hugeLength : MethodName := ⟨"jdk/internal/util/ArraysSupport", "hugeLength", "(II)I"⟩
theorem nm_0 : ∀ a, a < 11 → ∀ b, b < 11 → a ≠ b → (T0 a).2.1 ≠ (T0 b).2.1 := by decide +kernel
theorem to_0 : ∀ k, k < 11 → parseFieldDescriptor (T0 k).2.2.1 = some (ty0 k) := by decide +kernel
theorem nm_1 : ∀ a, a < 6 → ∀ b, b < 6 → a ≠ b → (T1 a).2.1 ≠ (T1 b).2.1 := by decide +kernel
theorem to_1 : ∀ k, k < 6 → parseFieldDescriptor (T1 k).2.2.1 = some (ty1 k) := by decide +kernel
theorem nm_2 : ∀ a, a < 3 → ∀ b, b < 3 → a ≠ b → (T2 a).2.1 ≠ (T2 b).2.1 := by decide +kernel
theorem to_2 : ∀ k, k < 3 → parseFieldDescriptor (T2 k).2.2.1 = some (ty2 k) := by decide +kernel
theorem nm_3 : ∀ a, a < 3 → ∀ b, b < 3 → a ≠ b → (T3 a).2.1 ≠ (T3 b).2.1 := by decide +kernel
theorem to_3 : ∀ k, k < 3 → parseFieldDescriptor (T3 k).2.2.1 = some (ty3 k) := by decide +kernel
theorem nm_4 : ∀ a, a < 3 → ∀ b, b < 3 → a ≠ b → (T4 a).2.1 ≠ (T4 b).2.1 := by decide +kernel
theorem to_4 : ∀ k, k < 3 → parseFieldDescriptor (T4 k).2.2.1 = some (ty4 k) := by decide +kernel
theorem nm_5 : ∀ a, a < 2 → ∀ b, b < 2 → a ≠ b → (T5 a).2.1 ≠ (T5 b).2.1 := by decide +kernel
theorem to_5 : ∀ k, k < 2 → parseFieldDescriptor (T5 k).2.2.1 = some (ty5 k) := by decide +kernel
theorem nm_6 : ∀ a, a < 13 → ∀ b, b < 13 → a ≠ b → (T6 a).2.1 ≠ (T6 b).2.1 := by decide +kernel
theorem to_6 : ∀ k, k < 13 → parseFieldDescriptor (T6 k).2.2.1 = some (ty6 k) := by decide +kernel
theorem nm_7 : ∀ a, a < 7 → ∀ b, b < 7 → a ≠ b → (T7 a).2.1 ≠ (T7 b).2.1 := by decide +kernel
theorem to_7 : ∀ k, k < 7 → parseFieldDescriptor (T7 k).2.2.1 = some (ty7 k) := by decide +kernel
theorem nm_8 : ∀ a, a < 5 → ∀ b, b < 5 → a ≠ b → (T8 a).2.1 ≠ (T8 b).2.1 := by decide +kernel
theorem to_8 : ∀ k, k < 5 → parseFieldDescriptor (T8 k).2.2.1 = some (ty8 k) := by decide +kernel
theorem nm_9 : ∀ a, a < 1 → ∀ b, b < 1 → a ≠ b → (T9 a).2.1 ≠ (T9 b).2.1 := by decide +kernel
theorem to_9 : ∀ k, k < 1 → parseFieldDescriptor (T9 k).2.2.1 = some (ty9 k) := by decide +kernel
theorem nm_10 : ∀ a, a < 44 → ∀ b, b < 44 → a ≠ b → (T10 a).2.1 ≠ (T10 b).2.1 := by decide +kernel
theorem to_10 : ∀ k, k < 44 → parseFieldDescriptor (T10 k).2.2.1 = some (ty10 k) := by decide +kernel
theorem nm_11 : ∀ a, a < 3 → ∀ b, b < 3 → a ≠ b → (T11 a).2.1 ≠ (T11 b).2.1 := by decide +kernel
theorem to_11 : ∀ k, k < 3 → parseFieldDescriptor (T11 k).2.2.1 = some (ty11 k) := by decide +kernel
/-- the given tables of numbers: LEAST, GREATEST, AT_FIRST -/
def pz_sn (j : Nat) : String := match j with
  | 0 => "LEAST"
  | 1 => "GREATEST"
  | _ => "AT_FIRST"
def pz_tab (j : Nat) : Nat → Int32 := fun k => match j with
  | 0 => ([1, 1, 1, 1, 0, 1, 0, 2, 0, 0, 0] : List Int32).getD k 0
  | 1 => ([2000, 2000, 4, 16, 4, 1000, 5, 6, 1, 31, 7] : List Int32).getD k 0
  | _ => ([0, 0, 1, 8, 0, 1, 5, 4, 1, 8, 2] : List Int32).getD k 0
/-- a static field that is laid, outside of our cells -/
def pz_ls (C n d : String) (A : Nat → Prop) (U : State) (H : Heap) : Prop := ∃ (c : ClassId) (k : Class) (i : Nat) (f : Field) (a : Nat) (cell : Cell), U.vm.findClass C = some c ∧ U.fieldFound? C n d = some (c, k, i, f) ∧ f.isStatic = true ∧ k.statics = some a ∧ H[a]? = some cell ∧ cell.vm.isStatics = true ∧ cell.cls = c ∧ f.slot < cell.slots.size ∧ k.staticTypes[f.slot]? = some f.type ∧ ¬ A a
theorem pz_ls.word {C n d : String} {A : Nat → Prop} {U : State} {args : Array Value} (h : pz_ls C n d A U U.heap) : (Cond.laysStatic C n d).before args U = true := by
  obtain ⟨c, k, i, f, a, cell, h1, h2, h3, h4, h5, h6, h7, h8, h9, -⟩ := h
  simp [Cond.before, Cond.holds, Cond.value, h1, h2, h3, h4, h5, h6, h7, h8, h9]
theorem pz_ls.kept {C n d : String} {A : Nat → Prop} {U : State} {H H1 : Heap} (h : pz_ls C n d A U H) (hq : ∀ a : Nat, a < H.size → ¬ A a → H1[a]? = H[a]?) : pz_ls C n d A U H1 := by
  obtain ⟨c, k, i, f, a, cell, h1, h2, h3, h4, h5, h6, h7, h8, h9, h10⟩ := h
  exact ⟨c, k, i, f, a, cell, h1, h2, h3, h4, by rw [hq a (Array.getElem?_eq_some_iff.mp h5).1 h10]; exact h5, h6, h7, h8, h9, h10⟩
theorem pz_ls.same {C n d : String} {A : Nat → Prop} {u U : State} {H : Heap} (hv : U.vm = u.vm) (h : pz_ls C n d A u H) : pz_ls C n d A U H := by
  obtain ⟨c, k, i, f, a, cell, h1, h2, h3⟩ := h
  exact ⟨c, k, i, f, a, cell, by rw [hv]; exact h1, by simp only [State.fieldFound?, hv] at h2 ⊢; exact h2, h3⟩
/-- the texts of the class's exceptions, by their places -/
def pz_SL : List (Nat × String) := [(93, "no such setting there"), (107, "the sizes are fixed"), (116, "beyond the bounds of the setting"), (131, "no such tile"), (138, "no room for a tile part"), (152, "no such part"), (162, "no room for a packet"), (164, "the part has no packet"), (170, "no byte"), (175, "no room for a byte"), (189, "no kind for a box"), (191, "no room for a box"), (198, "no such box"), (221, "no such byte"), (225, "fewer than no bytes"), (233, "no room for so many bytes"), (263, "nothing was read")]
/-- exceptions that are none of another class -/
def pz_NC : List (String × String) := [("java/lang/IllegalStateException", "java/lang/IndexOutOfBoundsException"), ("java/lang/IllegalArgumentException", "java/lang/IndexOutOfBoundsException"), ("java/lang/UnsupportedOperationException", "java/lang/IndexOutOfBoundsException"), ("java/lang/IndexOutOfBoundsException", "java/lang/IllegalStateException"), ("java/lang/IllegalArgumentException", "java/lang/IllegalStateException"), ("java/lang/UnsupportedOperationException", "java/lang/IllegalStateException"), ("java/lang/IndexOutOfBoundsException", "java/lang/IllegalArgumentException"), ("java/lang/IllegalStateException", "java/lang/IllegalArgumentException"), ("java/lang/UnsupportedOperationException", "java/lang/IllegalArgumentException"), ("java/lang/IndexOutOfBoundsException", "java/lang/UnsupportedOperationException"), ("java/lang/IllegalStateException", "java/lang/UnsupportedOperationException"), ("java/lang/IllegalArgumentException", "java/lang/UnsupportedOperationException")]
def pz_ext (l : Launch) (A : Nat → Prop) (X : Nat → Nat) (S : Nat × (Nat → Int32)) (U : State) : Prop := (∀ w ∈ NW, va_Nw w U) ∧ (∀ j, j < 3 → va_Z "WaveFiles" (pz_sn j) "[I" (.ref (X j)) A U U.heap ∧ va_T .int (X j) 11 (fun k => .int (pz_tab j k)) A U U.heap) ∧ va_Z "java/util/ArrayList" "DEFAULTCAPACITY_EMPTY_ELEMENTDATA" "[Ljava/lang/Object;" (.ref (X 3)) A U U.heap ∧ va_T (.object "java/lang/Object") (X 3) 0 (fun _ => .null) A U U.heap ∧ va_Mi "[Ljava/lang/Object;" (X 4) U ∧ va_AO "java/lang/Object" U ∧ l.stackTraces = false ∧ (∀ q ∈ pz_SL, ∃ sa, vk_R "WaveFiles" q.1 q.2 sa U) ∧ va_Zq "java/lang/Throwable" "UNASSIGNED_STACK" "[Ljava/lang/StackTraceElement;" A U U.heap ∧ va_Zq "java/lang/Throwable" "SUPPRESSED_SENTINEL" "Ljava/util/List;" A U U.heap ∧ pz_ls "java/lang/Throwable" "UNASSIGNED_STACK" "[Ljava/lang/StackTraceElement;" A U U.heap ∧ pz_ls "java/lang/Throwable" "SUPPRESSED_SENTINEL" "Ljava/util/List;" A U U.heap ∧ (∀ q ∈ pz_NC, va_Nc q.1 q.2 U) ∧ va_X (X 5) S.1 S.2 U U.heap ∧ X 5 < U.heap.size ∧ ¬ A (X 5)
end
section
/-! The pure world: cells by their places, and how it stands to the machine's heap. -/
abbrev PW : Type := List va_E × Nat × Nat
abbrev PR : Type := Option Value ⊕ String
abbrev PX : Type := Option (PR × PW)
/-- launch, class numbers and slots, array classes, which cells are ours, where the given tables lie, the script, what else is known of the start -/
abbrev PG : Type := Launch × va_G × List (ClassId × FieldType) × (Nat → Prop) × (Nat → Nat) × (Nat × (Nat → Int32)) × (State → Prop)
abbrev pg_l (Γ : PG) : Launch := Γ.1
abbrev pg_D (Γ : PG) : va_G := Γ.2.1
abbrev pg_T (Γ : PG) : List (ClassId × FieldType) := Γ.2.2.1
abbrev pg_A (Γ : PG) : Nat → Prop := Γ.2.2.2.1
abbrev pg_X (Γ : PG) : Nat → Nat := Γ.2.2.2.2.1
abbrev pg_S (Γ : PG) : Nat × (Nat → Int32) := Γ.2.2.2.2.2.1
abbrev pg_E (Γ : PG) : State → Prop := Γ.2.2.2.2.2.2
/-- class, name, code, locals, answer, frames, words of locals -/
abbrev PM : Type := String × MethodName × ByteArray × Nat × Option FieldType × Nat × Nat
abbrev pm_own (μ : PM) : String := μ.1
abbrev pm_y (μ : PM) : MethodName := μ.2.1
abbrev pm_cc (μ : PM) : ByteArray := μ.2.2.1
abbrev pm_nL (μ : PM) : Nat := μ.2.2.2.1
abbrev pm_ret (μ : PM) : Option FieldType := μ.2.2.2.2.1
abbrev pm_F (μ : PM) : Nat := μ.2.2.2.2.2.1
abbrev pm_L (μ : PM) : Nat := μ.2.2.2.2.2.2
def pz_vr (α : List Nat) (X : Nat → Nat) (v c : Value) : Prop := match v with
  | .ref i => ∃ a, α[i]? = some a ∧ c = .ref a
  | .retAddr k => c = .ref (X k)
  | .float _ => ∃ a, c = .ref a
  | .int x => c = .int x
  | .long x => c = .long x
  | .double x => c = .double x
  | .null => c = .null
def pz_le (α β : List Nat) : Prop := ∃ t, β = α ++ t
theorem pz_le.rf {α : List Nat} : pz_le α α := ⟨[], (List.append_nil α).symm⟩
theorem pz_le.tr {α β γ : List Nat} (h : pz_le α β) (k : pz_le β γ) : pz_le α γ := by
  obtain ⟨t, rfl⟩ := h
  obtain ⟨u, rfl⟩ := k
  exact ⟨t ++ u, List.append_assoc _ _ _⟩
theorem pz_le.get {α β : List Nat} (h : pz_le α β) {i a : Nat} (k : α[i]? = some a) : β[i]? = some a := by
  obtain ⟨t, rfl⟩ := h
  rw [List.getElem?_append_left (List.getElem?_eq_some_iff.mp k).1]
  exact k
theorem pz_vr.mono {α β : List Nat} {X : Nat → Nat} {v c : Value} (h : pz_vr α X v c) (hp : pz_le α β) : pz_vr β X v c := by
  cases v with
  | ref i => obtain ⟨a, h1, h2⟩ := h; exact ⟨a, hp.get h1, h2⟩
  | _ => exact h
theorem pz_vr.cat {α : List Nat} {X : Nat → Nat} {v c : Value} (h : pz_vr α X v c) : c.category = v.category := by
  cases v with
  | ref i => obtain ⟨a, -, rfl⟩ := h; rfl
  | float i => obtain ⟨a, rfl⟩ := h; rfl
  | retAddr k => rw [show c = .ref (X k) from h]; rfl
  | int x => rw [show c = .int x from h]
  | long x => rw [show c = .long x from h]
  | double x => rw [show c = .double x from h]
  | null => rw [show c = .null from h]
/-- locals -/
def pz_lr (α : List Nat) (X : Nat → Nat) : List (Nat × Value) → List (Nat × Value) → Prop
  | [], [] => True
  | q :: l, q' :: l' => q.1 = q'.1 ∧ pz_vr α X q.2 q'.2 ∧ pz_lr α X l l'
  | _, _ => False
theorem pz_lr.mono {α β : List Nat} {X : Nat → Nat} (hp : pz_le α β) : ∀ {l l' : List (Nat × Value)}, pz_lr α X l l' → pz_lr β X l l'
  | [], [], _ => trivial
  | _ :: _, _ :: _, h => ⟨h.1, h.2.1.mono hp, pz_lr.mono hp h.2.2⟩
  | [], _ :: _, h => h.elim
  | _ :: _, [], h => h.elim
theorem pz_lr.filter {α : List Nat} {X : Nat → Nat} (f : Nat → Nat → Bool) : ∀ {l l' : List (Nat × Value)}, pz_lr α X l l' → pz_lr α X (l.filter fun q => f q.1 q.2.category) (l'.filter fun q => f q.1 q.2.category)
  | [], [], _ => trivial
  | q :: l, q' :: l', h => by
    have ih := pz_lr.filter (α := α) (X := X) f h.2.2
    have e1 : f q'.1 q'.2.category = f q.1 q.2.category := by rw [h.1, h.2.1.cat]
    by_cases hc : f q.1 q.2.category = true
    · rw [List.filter_cons_of_pos (by exact hc), List.filter_cons_of_pos (by rw [e1]; exact hc)]
      exact ⟨h.1, h.2.1, ih⟩
    · rw [List.filter_cons_of_neg (by exact hc), List.filter_cons_of_neg (by rw [e1]; exact hc)]
      exact ih
  | [], _ :: _, h => h.elim
  | _ :: _, [], h => h.elim
theorem pz_lr.get {α : List Nat} {X : Nat → Nat} {i : Nat} {v : Value} : ∀ {l l' : List (Nat × Value)} {k : Nat}, pz_lr α X l l' → l[k]? = some (i, v) → ∃ c, (i, c) ∈ l' ∧ pz_vr α X v c
  | [], _, _, _, h => by simp at h
  | q :: l, [], _, h, _ => h.elim
  | q :: l, q' :: l', 0, h, e => by
    cases e
    refine ⟨q'.2, ?_, h.2.1⟩
    have e2 : q' = (i, q'.2) := by rw [show i = q'.1 from h.1]
    rw [← e2]
    exact List.mem_cons_self
  | q :: l, q' :: l', k + 1, h, e => by
    obtain ⟨c, h1, h2⟩ := pz_lr.get (k := k) h.2.2 (by simpa using e)
    exact ⟨c, List.mem_cons_of_mem _ h1, h2⟩
def p_let {α : Type} (a : α) (K : α → PX) : PX := K a
def p_idiv (x y : Int32) : Option Int32 := if y = 0 then none else some (x / y)
def p_irem (x y : Int32) : Option Int32 := if y = 0 then none else some (x - x / y * y)
def p_i2b (x : Int32) : Int32 := x.toInt8.toInt32
def p_ushr (x y : Int32) : Int32 := (x.toUInt32 >>> (y.toUInt32 &&& Int32.toUInt32 31)).toInt32
def p_ldiv (x y : Int64) : Option Int64 := if y = 0 then none else some (x / y)
def p_ishl (x y : Int32) : Int32 := x <<< (y &&& 31)
def p_ishr (x y : Int32) : Int32 := x >>> (y &&& 31)
def p_lshl (x : Int64) (y : Int32) : Int64 := x <<< (y.toInt64 &&& 63)
def p_max (x y : Int32) : Int32 := if x < y then y else x
def p_min (x y : Int32) : Int32 := if y < x then y else x
def p_pick (l : List (Nat × Value)) (ks : List Nat) : List (Nat × Value) := ks.filterMap (fun k => l[k]?)
theorem pz_lr.at {α : List Nat} {X : Nat → Nat} : ∀ {l l' : List (Nat × Value)}, pz_lr α X l l' → ∀ (k : Nat), (l[k]? = none ∧ l'[k]? = none) ∨ ∃ q q', l[k]? = some q ∧ l'[k]? = some q' ∧ q.1 = q'.1 ∧ pz_vr α X q.2 q'.2
  | [], [], _, k => Or.inl ⟨by simp, by simp⟩
  | q :: l, q' :: l', h, 0 => Or.inr ⟨q, q', rfl, rfl, h.1, h.2.1⟩
  | q :: l, q' :: l', h, k + 1 => by simpa using pz_lr.at h.2.2 k
  | [], _ :: _, h, _ => h.elim
  | _ :: _, [], h, _ => h.elim
theorem pz_lr.pick {α : List Nat} {X : Nat → Nat} {l l' : List (Nat × Value)} (h : pz_lr α X l l') : ∀ ks : List Nat, pz_lr α X (p_pick l ks) (lv_pick l' ks)
  | [] => trivial
  | k :: ks => by
    have ih := pz_lr.pick h ks
    rcases h.at k with ⟨h1, h2⟩ | ⟨q, q', h1, h2, h3, h4⟩
    · unfold p_pick lv_pick at *
      rw [List.filterMap_cons_none h1, List.filterMap_cons_none h2]
      exact ih
    · unfold p_pick lv_pick at *
      rw [List.filterMap_cons_some h1, List.filterMap_cons_some h2]
      exact ⟨h3, h4, ih⟩
/-- operand stack, fields -/
def pz_sr (α : List Nat) (X : Nat → Nat) : List Value → List Value → Prop
  | [], [] => True
  | q :: l, q' :: l' => pz_vr α X q q' ∧ pz_sr α X l l'
  | _, _ => False
theorem pz_sr.mono {α β : List Nat} {X : Nat → Nat} (hp : pz_le α β) : ∀ {l l' : List Value}, pz_sr α X l l' → pz_sr β X l l'
  | [], [], _ => trivial
  | _ :: _, _ :: _, h => ⟨h.1.mono hp, pz_sr.mono hp h.2⟩
  | [], _ :: _, h => h.elim
  | _ :: _, [], h => h.elim
theorem pz_sr.c {α : List Nat} {X : Nat → Nat} {v : Value} {l : List Value} : ∀ {l' : List Value}, pz_sr α X (v :: l) l' → ∃ c l1, l' = c :: l1 ∧ pz_vr α X v c ∧ pz_sr α X l l1
  | [], h => h.elim
  | c :: l1, h => ⟨c, l1, rfl, h.1, h.2⟩
theorem pz_sr.i {α : List Nat} {X : Nat → Nat} {x : Int32} {l l' : List Value} (h : pz_sr α X (.int x :: l) l') : ∃ l1, l' = .int x :: l1 ∧ pz_sr α X l l1 := by
  obtain ⟨c, l1, rfl, h1, h2⟩ := h.c
  exact ⟨l1, by rw [show c = .int x from h1], h2⟩
theorem pz_sr.l {α : List Nat} {X : Nat → Nat} {x : Int64} {l l' : List Value} (h : pz_sr α X (.long x :: l) l') : ∃ l1, l' = .long x :: l1 ∧ pz_sr α X l l1 := by
  obtain ⟨c, l1, rfl, h1, h2⟩ := h.c
  exact ⟨l1, by rw [show c = .long x from h1], h2⟩
theorem pz_sr.r {α : List Nat} {X : Nat → Nat} {i : Nat} {l l' : List Value} (h : pz_sr α X (.ref i :: l) l') : ∃ a l1, l' = .ref a :: l1 ∧ α[i]? = some a ∧ pz_sr α X l l1 := by
  obtain ⟨c, l1, rfl, ⟨a, h1, h3⟩, h2⟩ := h.c
  exact ⟨a, l1, by rw [h3], h1, h2⟩
theorem pz_sr.x {α : List Nat} {X : Nat → Nat} {k : Nat} {l l' : List Value} (h : pz_sr α X (.retAddr k :: l) l') : ∃ l1, l' = .ref (X k) :: l1 ∧ pz_sr α X l l1 := by
  obtain ⟨c, l1, rfl, h1, h2⟩ := h.c
  exact ⟨l1, by rw [show c = .ref (X k) from h1], h2⟩
theorem pz_sr.n {α : List Nat} {X : Nat → Nat} : ∀ {l' : List Value}, pz_sr α X [] l' → l' = []
  | [], _ => rfl
  | _ :: _, h => h.elim
theorem pz_sr.pc {α : List Nat} {X : Nat → Nat} {v c : Value} {l l' : List Value} (h : pz_vr α X v c) (k : pz_sr α X l l') : pz_sr α X (v :: l) (c :: l') := ⟨h, k⟩
theorem pz_sr.pi {α : List Nat} {X : Nat → Nat} {x : Int32} {l l' : List Value} (k : pz_sr α X l l') : pz_sr α X (.int x :: l) (.int x :: l') := ⟨rfl, k⟩
theorem pz_sr.pl {α : List Nat} {X : Nat → Nat} {x : Int64} {l l' : List Value} (k : pz_sr α X l l') : pz_sr α X (.long x :: l) (.long x :: l') := ⟨rfl, k⟩
theorem pz_sr.pr {α : List Nat} {X : Nat → Nat} {i a : Nat} {l l' : List Value} (h : α[i]? = some a) (k : pz_sr α X l l') : pz_sr α X (.ref i :: l) (.ref a :: l') := ⟨⟨a, h, rfl⟩, k⟩
theorem pz_sr.px {α : List Nat} {X : Nat → Nat} {i : Nat} {l l' : List Value} (k : pz_sr α X l l') : pz_sr α X (.retAddr i :: l) (.ref (X i) :: l') := ⟨rfl, k⟩
theorem pz_sr.len {α : List Nat} {X : Nat → Nat} : ∀ {l l' : List Value}, pz_sr α X l l' → l'.length = l.length
  | [], [], _ => rfl
  | _ :: _, _ :: _, h => by simp [pz_sr.len h.2]
  | [], _ :: _, h => h.elim
  | _ :: _, [], h => h.elim
theorem pz_sr.cats {α : List Nat} {X : Nat → Nat} : ∀ {l l' : List Value}, pz_sr α X l l' → (l'.map fun v => v.category) = l.map fun v => v.category
  | [], [], _ => rfl
  | _ :: _, _ :: _, h => by simp [pz_sr.cats h.2, h.1.cat]
  | [], _ :: _, h => h.elim
  | _ :: _, [], h => h.elim
theorem pz_sr.app {α : List Nat} {X : Nat → Nat} {k k' : List Value} (hk : pz_sr α X k k') : ∀ {l l' : List Value}, pz_sr α X l l' → pz_sr α X (l ++ k) (l' ++ k')
  | [], [], _ => hk
  | _ :: _, _ :: _, h => ⟨h.1, pz_sr.app hk h.2⟩
  | [], _ :: _, h => h.elim
  | _ :: _, [], h => h.elim
theorem pz_sr.split {α : List Nat} {X : Nat → Nat} {k : List Value} : ∀ {l l' : List Value}, pz_sr α X (l ++ k) l' → ∃ l1 k1, l' = l1 ++ k1 ∧ pz_sr α X l l1 ∧ pz_sr α X k k1
  | [], l', h => ⟨[], l', rfl, trivial, h⟩
  | _ :: _, [], h => h.elim
  | _ :: _, c :: _, h => by
    obtain ⟨l1, k1, e, h1, h2⟩ := pz_sr.split h.2
    exact ⟨c :: l1, k1, by rw [e]; rfl, ⟨h.1, h1⟩, h2⟩
theorem pz_sr.rev {α : List Nat} {X : Nat → Nat} : ∀ {l l' : List Value}, pz_sr α X l l' → pz_sr α X l.reverse l'.reverse
  | [], [], _ => trivial
  | _ :: _, _ :: _, h => by
    rw [List.reverse_cons, List.reverse_cons]
    exact pz_sr.app (k := [_]) (k' := [_]) ⟨h.1, trivial⟩ (pz_sr.rev h.2)
  | [], _ :: _, h => h.elim
  | _ :: _, [], h => h.elim
theorem pz_sr.get {α : List Nat} {X : Nat → Nat} : ∀ {l l' : List Value}, pz_sr α X l l' → ∀ {k : Nat} {v : Value}, l[k]? = some v → ∃ c, l'[k]? = some c ∧ pz_vr α X v c
  | [], [], _, k, v, h => by simp at h
  | q :: l, q' :: l', h, 0, v, e => by cases e; exact ⟨q', rfl, h.1⟩
  | q :: l, q' :: l', h, k + 1, v, e => by simpa using pz_sr.get h.2 (k := k) (by simpa using e)
  | [], _ :: _, h, _, _, _ => h.elim
  | _ :: _, [], h, _, _, _ => h.elim
theorem pz_sr.set {α : List Nat} {X : Nat → Nat} {v c : Value} (hv : pz_vr α X v c) : ∀ {l l' : List Value}, pz_sr α X l l' → ∀ (k : Nat), pz_sr α X (l.set k v) (l'.set k c)
  | [], [], _, _ => trivial
  | _ :: _, _ :: _, h, 0 => ⟨hv, h.2⟩
  | _ :: _, _ :: _, h, k + 1 => ⟨h.1, pz_sr.set hv h.2 k⟩
  | [], _ :: _, h, _ => h.elim
  | _ :: _, [], h, _ => h.elim
theorem pz_args {α : List Nat} {X : Nat → Nat} : ∀ {l l' : List Value} (i : Nat), pz_sr α X l l' → pz_lr α X (lv_args i l) (lv_args i l')
  | [], [], _, _ => trivial
  | v :: l, c :: l', i, h => by
    have e := h.1.cat
    unfold lv_args
    rw [e]
    exact ⟨rfl, h.1, pz_args _ h.2⟩
  | [], _ :: _, _, h => h.elim
  | _ :: _, [], _, h => h.elim
theorem pz_sl {α : List Nat} {X : Nat → Nat} : ∀ {l l' : List Value}, pz_sr α X l l' → (lg_sl l').length = (lg_sl l).length
  | [], [], _ => rfl
  | v :: l, c :: l', h => by
    have ih := pz_sl h.2
    have e := h.1.cat
    unfold lg_sl at *
    rw [List.flatMap_cons, List.flatMap_cons, List.length_append, List.length_append, ih, e]
    split <;> rfl
  | [], _ :: _, h => h.elim
  | _ :: _, [], h => h.elim
/-- cells -/
def pz_or (α : List Nat) (f g : Option Nat) : Prop := match f with
  | none => g = none
  | some i => ∃ a, α[i]? = some a ∧ g = some a
theorem pz_or.mono {α β : List Nat} {f g : Option Nat} (h : pz_or α f g) (hp : pz_le α β) : pz_or β f g := by
  cases f with
  | none => exact h
  | some i => obtain ⟨a, h1, h2⟩ := h; exact ⟨a, hp.get h1, h2⟩
def pz_kr (α : List Nat) (x y : (Nat → Int32) ⊕ (Nat → Int64) ⊕ (Nat → UInt32) ⊕ (Nat → UInt64) ⊕ (Nat → Option Nat)) : Prop := match x with
  | .inl f => y = .inl f
  | .inr (.inl f) => y = .inr (.inl f)
  | .inr (.inr (.inl f)) => y = .inr (.inr (.inl f))
  | .inr (.inr (.inr (.inl f))) => y = .inr (.inr (.inr (.inl f)))
  | .inr (.inr (.inr (.inr f))) => ∃ g, y = .inr (.inr (.inr (.inr g))) ∧ ∀ j, pz_or α (f j) (g j)
def pz_cr (α : List Nat) (X : Nat → Nat) (tys : List (ClassId × FieldType)) (x y : va_E) : Prop := match x with
  | .inl (t, n, f) => ∃ c ty g, tys[t]? = some (c, ty) ∧ y = .inl (c, n, g) ∧ pz_kr α f g
  | .inr (ci, fs) => ∃ gs, y = .inr (ci, gs) ∧ pz_sr α X fs gs
theorem pz_kr.mono {α β : List Nat} {x y : (Nat → Int32) ⊕ (Nat → Int64) ⊕ (Nat → UInt32) ⊕ (Nat → UInt64) ⊕ (Nat → Option Nat)} (h : pz_kr α x y) (hp : pz_le α β) : pz_kr β x y := by
  match x, h with
  | .inl f, h => exact h
  | .inr (.inl f), h => exact h
  | .inr (.inr (.inl f)), h => exact h
  | .inr (.inr (.inr (.inl f))), h => exact h
  | .inr (.inr (.inr (.inr f))), h => obtain ⟨g, h1, h2⟩ := h; exact ⟨g, h1, fun j => (h2 j).mono hp⟩
theorem pz_cr.mono {α β : List Nat} {X : Nat → Nat} {tys : List (ClassId × FieldType)} {x y : va_E} (h : pz_cr α X tys x y) (hp : pz_le α β) : pz_cr β X tys x y := by
  match x, h with
  | .inl (t, n, f), h => obtain ⟨c, ty, g, h1, h2, h3⟩ := h; exact ⟨c, ty, g, h1, h2, h3.mono hp⟩
  | .inr (ci, fs), h => obtain ⟨gs, h1, h2⟩ := h; exact ⟨gs, h1, h2.mono hp⟩
/-- the world -/
def pz_wr (α : List Nat) (X : Nat → Nat) (tys : List (ClassId × FieldType)) (w : List va_E) (ws : va_W) : Prop := α.length = w.length ∧ ws.length = w.length ∧ ∀ (i : Nat) (x : va_E), w[i]? = some x → ∃ a y, α[i]? = some a ∧ ws[i]? = some (a, y) ∧ pz_cr α X tys x y
theorem pz_wr.at {α : List Nat} {X : Nat → Nat} {tys : List (ClassId × FieldType)} {w : List va_E} {ws : va_W} (h : pz_wr α X tys w ws) {i a : Nat} {x : va_E} (ha : α[i]? = some a) (hx : w[i]? = some x) : ∃ y, ws[i]? = some (a, y) ∧ pz_cr α X tys x y := by
  obtain ⟨a', y, h1, h2, h3⟩ := h.2.2 i x hx
  cases ha.symm.trans h1
  exact ⟨y, h2, h3⟩
theorem pz_wr.set {α : List Nat} {X : Nat → Nat} {tys : List (ClassId × FieldType)} {w : List va_E} {ws : va_W} (h : pz_wr α X tys w ws) {i a : Nat} {x y : va_E} (ha : α[i]? = some a) (hc : pz_cr α X tys x y) : pz_wr α X tys (w.set i x) (ws.set i (a, y)) := by
  refine ⟨by rw [List.length_set]; exact h.1, by rw [List.length_set, List.length_set]; exact h.2.1, fun j z hz => ?_⟩
  have hj : j < w.length := by
    have := (List.getElem?_eq_some_iff.mp hz).1
    rwa [List.length_set] at this
  by_cases e : i = j
  · subst e
    rw [List.getElem?_set_self hj] at hz
    cases hz
    refine ⟨a, y, ha, ?_, hc⟩
    rw [List.getElem?_set_self (by rw [h.2.1]; exact hj)]
  · rw [List.getElem?_set_ne e] at hz
    obtain ⟨a', y', h1, h2, h3⟩ := h.2.2 j z hz
    exact ⟨a', y', h1, by rw [List.getElem?_set_ne e]; exact h2, h3⟩
theorem pz_wr.push {α : List Nat} {X : Nat → Nat} {tys : List (ClassId × FieldType)} {w : List va_E} {ws : va_W} (h : pz_wr α X tys w ws) {q : Nat} {x y : va_E} (hc : pz_cr α X tys x y) : pz_wr (α ++ [q]) X tys (w ++ [x]) (ws ++ [(q, y)]) := by
  have hp : pz_le α (α ++ [q]) := ⟨[q], rfl⟩
  refine ⟨by simp [h.1], by simp [h.2.1], fun j z hz => ?_⟩
  by_cases e : j < w.length
  · rw [List.getElem?_append_left e] at hz
    obtain ⟨a', y', h1, h2, h3⟩ := h.2.2 j z hz
    exact ⟨a', y', hp.get h1, by rw [List.getElem?_append_left (by rw [h.2.1]; exact e)]; exact h2, h3.mono hp⟩
  · have hj := (List.getElem?_eq_some_iff.mp hz).1
    rw [List.length_append, List.length_singleton] at hj
    have ej : j = w.length := by omega
    subst ej
    rw [List.getElem?_append_right (Nat.le_refl _), Nat.sub_self] at hz
    cases hz
    refine ⟨q, y, ?_, ?_, hc.mono hp⟩
    · rw [← h.1, List.getElem?_append_right (Nat.le_refl _), Nat.sub_self]; rfl
    · rw [← h.2.1, List.getElem?_append_right (Nat.le_refl _), Nat.sub_self]; rfl
theorem pz_wr.new {α : List Nat} {X : Nat → Nat} {tys : List (ClassId × FieldType)} {w : List va_E} {ws : va_W} (h : pz_wr α X tys w ws) (q : Nat) : (α ++ [q])[w.length]? = some q := by
  rw [← h.1, List.getElem?_append_right (Nat.le_refl _), Nat.sub_self]; rfl
end
section
/-! The judgement: the machine at a frame comes to the end that the pure computation tells. -/
/-- what is known of the start stays known -/
def pz_mv (Γ : PG) : Prop := ∀ U V : State, pg_E Γ U → U.WarmedH V.vm → U.heap.size ≤ V.heap.size → (∀ q : Nat, q < U.heap.size → ¬ pg_A Γ q → V.heap[q]? = U.heap[q]?) → pg_E Γ V
def pz_Fx (Γ : PG) (μ : PM) (p : Program) (s : State) (m : MethodId) (args : Array Value) (meth : Method) (c : Code) (R : Room) : Prop :=
  p.tables.exec = Jvm.exec ∧ c.code = pm_cc μ ∧ meth.sig.returnType = pm_ret μ ∧ c.maxLocals = pm_nL μ ∧ (∀ w ∈ GW, w.before args s = true) ∧ s.vm.findClass (pm_own μ) = some m.cls ∧ meth.locks = false ∧ va_K (pg_D Γ) vwCl (pg_T Γ) s ∧ (∀ q : Nat, s.heap.size ≤ q → pg_A Γ q) ∧ pg_E Γ s ∧ R.frames = pm_F μ ∧ R.locals = pm_L μ ∧ meth.name = (pm_y μ).name ∧ s.methodNamed? (pm_y μ) = some m ∧ (pg_T Γ).map (fun q => q.2) = pz_TYS ∧ pz_mv Γ ∧ ∀ U : State, pg_E Γ U → pz_ext (pg_l Γ) (pg_A Γ) (pg_X Γ) (pg_S Γ) U
section FX
variable {Γ : PG} {μ : PM} {p : Program} {s : State} {m : MethodId} {args : Array Value} {meth : Method} {c : Code} {R : Room}
theorem pz_Fx.x (h : pz_Fx Γ μ p s m args meth c R) : p.tables.exec = Jvm.exec := h.1
theorem pz_Fx.b (h : pz_Fx Γ μ p s m args meth c R) : c.code = pm_cc μ := h.2.1
theorem pz_Fx.r (h : pz_Fx Γ μ p s m args meth c R) : meth.sig.returnType = pm_ret μ := h.2.2.1
theorem pz_Fx.l (h : pz_Fx Γ μ p s m args meth c R) : c.maxLocals = pm_nL μ := h.2.2.2.1
theorem pz_Fx.w (h : pz_Fx Γ μ p s m args meth c R) : ∀ w ∈ GW, w.before args s = true := h.2.2.2.2.1
theorem pz_Fx.o (h : pz_Fx Γ μ p s m args meth c R) : s.vm.findClass (pm_own μ) = some m.cls := h.2.2.2.2.2.1
theorem pz_Fx.k (h : pz_Fx Γ μ p s m args meth c R) : meth.locks = false := h.2.2.2.2.2.2.1
theorem pz_Fx.K (h : pz_Fx Γ μ p s m args meth c R) : va_K (pg_D Γ) vwCl (pg_T Γ) s := h.2.2.2.2.2.2.2.1
theorem pz_Fx.A (h : pz_Fx Γ μ p s m args meth c R) : ∀ q : Nat, s.heap.size ≤ q → pg_A Γ q := h.2.2.2.2.2.2.2.2.1
theorem pz_Fx.E (h : pz_Fx Γ μ p s m args meth c R) : pg_E Γ s := h.2.2.2.2.2.2.2.2.2.1
theorem pz_Fx.F (h : pz_Fx Γ μ p s m args meth c R) : R.frames = pm_F μ := h.2.2.2.2.2.2.2.2.2.2.1
theorem pz_Fx.L (h : pz_Fx Γ μ p s m args meth c R) : R.locals = pm_L μ := h.2.2.2.2.2.2.2.2.2.2.2.1
theorem pz_Fx.n (h : pz_Fx Γ μ p s m args meth c R) : meth.name = (pm_y μ).name := h.2.2.2.2.2.2.2.2.2.2.2.2.1
theorem pz_Fx.I (h : pz_Fx Γ μ p s m args meth c R) : s.methodNamed? (pm_y μ) = some m := h.2.2.2.2.2.2.2.2.2.2.2.2.2.1
theorem pz_Fx.T (h : pz_Fx Γ μ p s m args meth c R) : (pg_T Γ).map (fun q => q.2) = pz_TYS := h.2.2.2.2.2.2.2.2.2.2.2.2.2.2.1
theorem pz_Fx.M (h : pz_Fx Γ μ p s m args meth c R) : pz_mv Γ := h.2.2.2.2.2.2.2.2.2.2.2.2.2.2.2.1
theorem pz_Fx.S (h : pz_Fx Γ μ p s m args meth c R) : ∀ U : State, pg_E Γ U → pz_ext (pg_l Γ) (pg_A Γ) (pg_X Γ) (pg_S Γ) U := h.2.2.2.2.2.2.2.2.2.2.2.2.2.2.2.2
theorem pz_Fx.N (h : pz_Fx Γ μ p s m args meth c R) {w : Cond} (hw : w ∈ NW) : va_Nw w s := (h.S s h.E).1 w hw
end FX
def pz_ov (α : List Nat) (X : Nat → Nat) (v c : Option Value) : Prop := pz_sr α X v.toList c.toList
def pz_Qc (Γ : PG) (α0 : List Nat) (rv : Option Value) (w' : PW) : Array Value → State → Outcome → State → Prop := fun _ st o t =>
  (∃ (cv : Option Value) (α : List Nat) (ws : va_W), o = .returned cv ∧ pz_ov α (pg_X Γ) rv cv ∧ pz_le α0 α ∧ va_P (pg_D Γ) vwCl ws t.heap ∧ va_D (pg_A Γ) ws ∧ pz_wr α (pg_X Γ) (pg_T Γ) w'.1 ws) ∧ va_F (pg_A Γ) st t
/-- the method has thrown an object of the class E -/
def pz_Thr (Γ : PG) (s : State) (below : List Frame) (α0 : List Nat) (E : String) (w' : PW) (mc ms : Nat) : State → Prop := fun t =>
  ∃ (q : Addr) (ce : Cell) (L : List Loc) (α : List Nat) (ws : va_W), t.status = .running ∧ Ended t below (.threw q) ∧ t.heap[q]? = some ce ∧ ce.vm = .none ∧ s.vm.findClass E = some ce.cls ∧ s.WarmedH t.vm ∧ s.sameButNew ({ t with vm := s.vm } : State) L mc ms ∧ (∀ z ∈ L, pg_A Γ z.base) ∧ pz_le α0 α ∧ va_P (pg_D Γ) vwCl ws t.heap ∧ va_D (pg_A Γ) ws ∧ pz_wr α (pg_X Γ) (pg_T Γ) w'.1 ws ∧ va_F (pg_A Γ) s t
def pz_Fin (Γ : PG) (s : State) (args : Array Value) (below : List Frame) (c : Code) (R : Room) (α0 : List Nat) (b1 b2 : Nat) (Q : State → Prop) (r : PR) (w' : PW) : Prop :=
  w'.2.1 ≤ b1 + R.cells ∧ w'.2.2 ≤ b2 + R.slots ∧ match r with
  | .inl rv => ∀ t, MQ below (pz_Qc Γ α0 rv w') args s (w'.2.1 - b1) (w'.2.2 - b2) (pg_A Γ) t → Q t
  | .inr E => (∀ x ∈ c.exceptionTable.toList, False) ∧ ∀ t, pz_Thr Γ s below α0 E w' (w'.2.1 - b1) (w'.2.2 - b2) t → Q t
def pz_St (Γ : PG) (μ : PM) (s : State) (α0 : List Nat) (b1 b2 : Nat) (lv : List (Nat × Value)) (st : List Value) (w : PW) (H : Heap) (locs : List Loc) (cells slots : Nat) (ls : Array Slot) (cst : List Value) : Prop :=
  ∃ (α : List Nat) (clv : List (Nat × Value)) (ws : va_W), pz_le α0 α ∧ va_P (pg_D Γ) vwCl ws H ∧ va_D (pg_A Γ) ws ∧ va_S (pg_A Γ) s.heap H locs ∧ pz_wr α (pg_X Γ) (pg_T Γ) w.1 ws ∧ lv_has ls (pm_nL μ) clv ∧ pz_lr α (pg_X Γ) lv clv ∧ pz_sr α (pg_X Γ) st cst ∧ w.2.1 = b1 + cells ∧ w.2.2 = b2 + slots
def pz_G (Γ : PG) (μ : PM) (p : Program) (e : Env) (s : State) (m : MethodId) (args : Array Value) (below : List Frame) (meth : Method) (c : Code) (R : Room) (α0 : List Nat) (b1 b2 : Nat) (Q : State → Prop) (pc : Nat) (lv : List (Nat × Value)) (st : List Value) (w : PW) : Prop :=
  ∀ (H : Heap) (locs : List Loc) (cells slots : Nat) (ls : Array Slot) (cst : List Value), pz_St Γ μ s α0 b1 b2 lv st w H locs cells slots ls cst → W p (pg_l Γ) e R s m args below meth c H locs cells slots Q (F0 m pc ls cst)
def EE (Γ : PG) (μ : PM) (pc : Nat) (lv : List (Nat × Value)) (st : List Value) (w : PW) (x : PX) : Prop :=
  ∀ (r : PR) (w' : PW), x = some (r, w') → w.2.1 ≤ w'.2.1 ∧ w.2.2 ≤ w'.2.2 ∧
    ∀ (p : Program) (e : Env) (s : State) (m : MethodId) (args : Array Value) (below : List Frame) (meth : Method) (c : Code) (R : Room) (α0 : List Nat) (b1 b2 : Nat) (Q : State → Prop),
      pz_Fx Γ μ p s m args meth c R → pz_Fin Γ s args below c R α0 b1 b2 Q r w' → pz_G Γ μ p e s m args below meth c R α0 b1 b2 Q pc lv st w
theorem pz_mono {p : Program} {l : Launch} {e : Env} {R : Room} {s : State} {m : MethodId} {args : Array Value} {below : List Frame} {meth : Method} {c : Code} {H : Heap} {locs : List Loc} {cells slots : Nat} {Q Q' : State → Prop} {g : JFrame} (h : ∀ t, Q t → Q' t) (k : W p l e R s m args below meth c H locs cells slots Q g) : W p l e R s m args below meth c H locs cells slots Q' g := by
  intro T hT X
  obtain ⟨t, a, b⟩ := k T hT X
  exact ⟨t, a, h t b⟩
section RULES
variable {Γ : PG} {μ : PM} {pc : Nat} {lv : List (Nat × Value)} {st : List Value} {w : PW} {x0 : PX}
/-- an instruction without effect on the world -/
theorem ee_of {pc2 : Nat} {lv2 : List (Nat × Value)} {st2 : List Value}
    (T : ∀ (p : Program) (e : Env) (s : State) (m : MethodId) (args : Array Value) (below : List Frame) (meth : Method) (c : Code) (R : Room) (α0 : List Nat) (b1 b2 : Nat) (Q : State → Prop), pz_Fx Γ μ p s m args meth c R → (w.2.1 ≤ b1 + R.cells ∧ w.2.2 ≤ b2 + R.slots) → pz_G Γ μ p e s m args below meth c R α0 b1 b2 Q pc2 lv2 st2 w → pz_G Γ μ p e s m args below meth c R α0 b1 b2 Q pc lv st w)
    (k : EE Γ μ pc2 lv2 st2 w x0) : EE Γ μ pc lv st w x0 := by
  intro r w' h
  obtain ⟨h1, h2, h3⟩ := k r w' h
  refine ⟨h1, h2, fun p e s m args below meth c R α0 b1 b2 Q hF hQ => ?_⟩
  exact T p e s m args below meth c R α0 b1 b2 Q hF ⟨Nat.le_trans h1 hQ.1, Nat.le_trans h2 hQ.2.1⟩ (h3 p e s m args below meth c R α0 b1 b2 Q hF hQ)
theorem ee_none : EE Γ μ pc lv st w none := fun _ _ h => nomatch h
theorem ee_eq {x1 : PX} (h : x0 = x1) (k : EE Γ μ pc lv st w x1) : EE Γ μ pc lv st w x0 := h ▸ k
/-- fewer locals -/
theorem ee_pick (ks : List Nat) {lv2 : List (Nat × Value)} (hl : p_pick lv ks = lv2) (k : EE Γ μ pc lv2 st w x0) : EE Γ μ pc lv st w x0 := by
  subst hl
  refine ee_of (fun p e s m args below meth c R α0 b1 b2 Q hF _ hg => ?_) k
  intro H locs cells slots ls cst ⟨α, clv, ws, hα, hP, hD, hS, hw, hls, hlr, hsr, e1, e2⟩
  exact hg _ _ _ _ _ _ ⟨α, lv_pick clv ks, ws, hα, hP, hD, hS, hw, lv_sub hls ks rfl, hlr.pick ks, hsr, e1, e2⟩

theorem ee_iconst {n : Int} {v : Int32} (hd : decode (pm_cc μ) pc = .ok (.iconst n, 1)) (hv : Int32.ofInt n = v) (k : EE Γ μ (pc + 1) lv (.int v :: st) w x0) : EE Γ μ pc lv st w x0 := by
  refine ee_of (fun p e s m args below meth c R α0 b1 b2 Q hF hB hg => ?_) k
  intro H locs cells slots ls cst ⟨α, clv, ws, hα, hP, hD, hS, hw, hls, hlr, hsr, e1, e2⟩
  exact lv_iconst hF.x hF.b hd hv (hg _ _ _ _ _ _ ⟨α, clv, ws, hα, hP, hD, hS, hw, hls, hlr, hsr.pi, e1, e2⟩)
theorem ee_bipush {n : Int} {v : Int32} (hd : decode (pm_cc μ) pc = .ok (.bipush n, 2)) (hv : (Int8.ofInt n).toInt32 = v) (k : EE Γ μ (pc + 2) lv (.int v :: st) w x0) : EE Γ μ pc lv st w x0 := by
  refine ee_of (fun p e s m args below meth c R α0 b1 b2 Q hF hB hg => ?_) k
  intro H locs cells slots ls cst ⟨α, clv, ws, hα, hP, hD, hS, hw, hls, hlr, hsr, e1, e2⟩
  exact lv_bipush hF.x hF.b hd hv (hg _ _ _ _ _ _ ⟨α, clv, ws, hα, hP, hD, hS, hw, hls, hlr, hsr.pi, e1, e2⟩)
theorem ee_sipush {n : Int} {v : Int32} (hd : decode (pm_cc μ) pc = .ok (.sipush n, 3)) (hv : (Int16.ofInt n).toInt32 = v) (k : EE Γ μ (pc + 3) lv (.int v :: st) w x0) : EE Γ μ pc lv st w x0 := by
  refine ee_of (fun p e s m args below meth c R α0 b1 b2 Q hF hB hg => ?_) k
  intro H locs cells slots ls cst ⟨α, clv, ws, hα, hP, hD, hS, hw, hls, hlr, hsr, e1, e2⟩
  exact lv_sipush hF.x hF.b hd hv (hg _ _ _ _ _ _ ⟨α, clv, ws, hα, hP, hD, hS, hw, hls, hlr, hsr.pi, e1, e2⟩)
theorem ee_lconst {n : Fin 2} {v : Int64} (hd : decode (pm_cc μ) pc = .ok (.lconst n, 1)) (hv : Int64.ofNat (n : Nat) = v) (k : EE Γ μ (pc + 1) lv (.long v :: st) w x0) : EE Γ μ pc lv st w x0 := by
  refine ee_of (fun p e s m args below meth c R α0 b1 b2 Q hF hB hg => ?_) k
  intro H locs cells slots ls cst ⟨α, clv, ws, hα, hP, hD, hS, hw, hls, hlr, hsr, e1, e2⟩
  exact lv_lconst hF.x hF.b hd hv (hg _ _ _ _ _ _ ⟨α, clv, ws, hα, hP, hD, hS, hw, hls, hlr, hsr.pl, e1, e2⟩)
theorem ee_ldc {i : Nat} {v : Int32} (hd : decode (pm_cc μ) pc = .ok (.ldc i, 2)) (hc : Jvm.Cond.constant (pm_own μ) i v ∈ GW) (k : EE Γ μ (pc + 2) lv (.int v :: st) w x0) : EE Γ μ pc lv st w x0 := by
  refine ee_of (fun p e s m args below meth c R α0 b1 b2 Q hF hB hg => ?_) k
  intro H locs cells slots ls cst ⟨α, clv, ws, hα, hP, hD, hS, hw, hls, hlr, hsr, e1, e2⟩
  exact lv_ldc hF.x hF.b hF.o (hF.w _ hc) hd (hg _ _ _ _ _ _ ⟨α, clv, ws, hα, hP, hD, hS, hw, hls, hlr, hsr.pi, e1, e2⟩)
theorem ee_ldcw {i : Nat} {v : Int32} (hd : decode (pm_cc μ) pc = .ok (.ldc_w i, 3)) (hc : Jvm.Cond.constant (pm_own μ) i v ∈ GW) (k : EE Γ μ (pc + 3) lv (.int v :: st) w x0) : EE Γ μ pc lv st w x0 := by
  refine ee_of (fun p e s m args below meth c R α0 b1 b2 Q hF hB hg => ?_) k
  intro H locs cells slots ls cst ⟨α, clv, ws, hα, hP, hD, hS, hw, hls, hlr, hsr, e1, e2⟩
  exact lv_ldcw hF.x hF.b hF.o (hF.w _ hc) hd (hg _ _ _ _ _ _ ⟨α, clv, ws, hα, hP, hD, hS, hw, hls, hlr, hsr.pi, e1, e2⟩)
theorem ee_ldc2 {i : Nat} {v : Int64} (hd : decode (pm_cc μ) pc = .ok (.ldc2_w i, 3)) (hc : Jvm.Cond.constantLong (pm_own μ) i v ∈ GW) (k : EE Γ μ (pc + 3) lv (.long v :: st) w x0) : EE Γ μ pc lv st w x0 := by
  refine ee_of (fun p e s m args below meth c R α0 b1 b2 Q hF hB hg => ?_) k
  intro H locs cells slots ls cst ⟨α, clv, ws, hα, hP, hD, hS, hw, hls, hlr, hsr, e1, e2⟩
  exact lv_ldc2 hF.x hF.b hF.o (hF.w _ hc) hd (hg _ _ _ _ _ _ ⟨α, clv, ws, hα, hP, hD, hS, hw, hls, hlr, hsr.pl, e1, e2⟩)
theorem ee_iload_n {kf : Fin 4} {x : Int32} (j : Nat) (hd : decode (pm_cc μ) pc = .ok (.iload_n kf, 1)) (hl : lv[j]? = some ((kf : Nat), .int x)) (k : EE Γ μ (pc + 1) lv (.int x :: st) w x0) : EE Γ μ pc lv st w x0 := by
  refine ee_of (fun p e s m args below meth c R α0 b1 b2 Q hF hB hg => ?_) k
  intro H locs cells slots ls cst ⟨α, clv, ws, hα, hP, hD, hS, hw, hls, hlr, hsr, e1, e2⟩
  obtain ⟨c1, hm, (rfl : c1 = .int x)⟩ := hlr.get hl
  exact lv_iload_n hF.x hF.b hd rfl (hls.2.2 _ hm) (hg _ _ _ _ _ _ ⟨α, clv, ws, hα, hP, hD, hS, hw, hls, hlr, hsr.pi, e1, e2⟩)
theorem ee_iload {i : Nat} {x : Int32} (j : Nat) (hd : decode (pm_cc μ) pc = .ok (.iload i, 2)) (hl : lv[j]? = some (i, .int x)) (k : EE Γ μ (pc + 2) lv (.int x :: st) w x0) : EE Γ μ pc lv st w x0 := by
  refine ee_of (fun p e s m args below meth c R α0 b1 b2 Q hF hB hg => ?_) k
  intro H locs cells slots ls cst ⟨α, clv, ws, hα, hP, hD, hS, hw, hls, hlr, hsr, e1, e2⟩
  obtain ⟨c1, hm, (rfl : c1 = .int x)⟩ := hlr.get hl
  exact lv_iload hF.x hF.b hd (hls.2.2 _ hm) (hg _ _ _ _ _ _ ⟨α, clv, ws, hα, hP, hD, hS, hw, hls, hlr, hsr.pi, e1, e2⟩)
theorem ee_lload_n {kf : Fin 4} {x : Int64} (j : Nat) (hd : decode (pm_cc μ) pc = .ok (.lload_n kf, 1)) (hl : lv[j]? = some ((kf : Nat), .long x)) (k : EE Γ μ (pc + 1) lv (.long x :: st) w x0) : EE Γ μ pc lv st w x0 := by
  refine ee_of (fun p e s m args below meth c R α0 b1 b2 Q hF hB hg => ?_) k
  intro H locs cells slots ls cst ⟨α, clv, ws, hα, hP, hD, hS, hw, hls, hlr, hsr, e1, e2⟩
  obtain ⟨c1, hm, (rfl : c1 = .long x)⟩ := hlr.get hl
  exact lv_lload_n hF.x hF.b hd rfl (hls.2.2 _ hm) (hg _ _ _ _ _ _ ⟨α, clv, ws, hα, hP, hD, hS, hw, hls, hlr, hsr.pl, e1, e2⟩)
theorem ee_lload {i : Nat} {x : Int64} (j : Nat) (hd : decode (pm_cc μ) pc = .ok (.lload i, 2)) (hl : lv[j]? = some (i, .long x)) (k : EE Γ μ (pc + 2) lv (.long x :: st) w x0) : EE Γ μ pc lv st w x0 := by
  refine ee_of (fun p e s m args below meth c R α0 b1 b2 Q hF hB hg => ?_) k
  intro H locs cells slots ls cst ⟨α, clv, ws, hα, hP, hD, hS, hw, hls, hlr, hsr, e1, e2⟩
  obtain ⟨c1, hm, (rfl : c1 = .long x)⟩ := hlr.get hl
  exact lv_lload hF.x hF.b hd (hls.2.2 _ hm) (hg _ _ _ _ _ _ ⟨α, clv, ws, hα, hP, hD, hS, hw, hls, hlr, hsr.pl, e1, e2⟩)
theorem ee_aload_n {kf : Fin 4} {x : Nat} (j : Nat) (hd : decode (pm_cc μ) pc = .ok (.aload_n kf, 1)) (hl : lv[j]? = some ((kf : Nat), .ref x)) (k : EE Γ μ (pc + 1) lv (.ref x :: st) w x0) : EE Γ μ pc lv st w x0 := by
  refine ee_of (fun p e s m args below meth c R α0 b1 b2 Q hF hB hg => ?_) k
  intro H locs cells slots ls cst ⟨α, clv, ws, hα, hP, hD, hS, hw, hls, hlr, hsr, e1, e2⟩
  obtain ⟨c1, hm, a, ha, rfl⟩ := hlr.get hl
  exact lv_aload_n hF.x hF.b hd rfl (hls.2.2 _ hm) (hg _ _ _ _ _ _ ⟨α, clv, ws, hα, hP, hD, hS, hw, hls, hlr, (hsr.pr ha), e1, e2⟩)
theorem ee_aload {i : Nat} {x : Nat} (j : Nat) (hd : decode (pm_cc μ) pc = .ok (.aload i, 2)) (hl : lv[j]? = some (i, .ref x)) (k : EE Γ μ (pc + 2) lv (.ref x :: st) w x0) : EE Γ μ pc lv st w x0 := by
  refine ee_of (fun p e s m args below meth c R α0 b1 b2 Q hF hB hg => ?_) k
  intro H locs cells slots ls cst ⟨α, clv, ws, hα, hP, hD, hS, hw, hls, hlr, hsr, e1, e2⟩
  obtain ⟨c1, hm, a, ha, rfl⟩ := hlr.get hl
  exact lv_aload hF.x hF.b hd (hls.2.2 _ hm) (hg _ _ _ _ _ _ ⟨α, clv, ws, hα, hP, hD, hS, hw, hls, hlr, (hsr.pr ha), e1, e2⟩)
theorem ee_istore_n {kf : Fin 4} {x : Int32} {lv2 : List (Nat × Value)} (hd : decode (pm_cc μ) pc = .ok (.istore_n kf, 1)) (hn : (kf : Nat) < pm_nL μ) (hl : ((kf : Nat), Value.int x) :: lv.filter (fun q => !(q.1 == (kf : Nat)) && !(q.1 + 1 == (kf : Nat) && q.2.category == 2)) = lv2) (k : EE Γ μ (pc + 1) lv2 st w x0) : EE Γ μ pc lv (Value.int x :: st) w x0 := by
  subst hl
  refine ee_of (fun p e s m args below meth c R α0 b1 b2 Q hF hB hg => ?_) k
  intro H locs cells slots ls cst ⟨α, clv, ws, hα, hP, hD, hS, hw, hls, hlr, hsr, e1, e2⟩
  obtain ⟨_, rfl, hs1_⟩ := hsr.i
  exact lv_istore_n hF.x hF.b hd rfl hls hn rfl (fun ls2 hls2 => hg _ _ _ _ _ _ ⟨α, _, ws, hα, hP, hD, hS, hw, hls2, ⟨rfl, rfl, hlr.filter (fun k9 c9 => !(k9 == (kf : Nat)) && !(k9 + 1 == (kf : Nat) && c9 == 2))⟩, hs1_, e1, e2⟩)
theorem ee_istore {i : Nat} {x : Int32} {lv2 : List (Nat × Value)} (hd : decode (pm_cc μ) pc = .ok (.istore i, 2)) (hn : i < pm_nL μ) (hl : (i, Value.int x) :: lv.filter (fun q => !(q.1 == i) && !(q.1 + 1 == i && q.2.category == 2)) = lv2) (k : EE Γ μ (pc + 2) lv2 st w x0) : EE Γ μ pc lv (Value.int x :: st) w x0 := by
  subst hl
  refine ee_of (fun p e s m args below meth c R α0 b1 b2 Q hF hB hg => ?_) k
  intro H locs cells slots ls cst ⟨α, clv, ws, hα, hP, hD, hS, hw, hls, hlr, hsr, e1, e2⟩
  obtain ⟨_, rfl, hs1_⟩ := hsr.i
  exact lv_istore hF.x hF.b hd hls hn rfl (fun ls2 hls2 => hg _ _ _ _ _ _ ⟨α, _, ws, hα, hP, hD, hS, hw, hls2, ⟨rfl, rfl, hlr.filter (fun k9 c9 => !(k9 == i) && !(k9 + 1 == i && c9 == 2))⟩, hs1_, e1, e2⟩)
theorem ee_lstore_n {kf : Fin 4} {x : Int64} {lv2 : List (Nat × Value)} (hd : decode (pm_cc μ) pc = .ok (.lstore_n kf, 1)) (hn : (kf : Nat) + 1 < pm_nL μ) (hl : ((kf : Nat), Value.long x) :: lv.filter (fun q => !(q.1 == (kf : Nat)) && (!(q.1 == (kf : Nat) + 1) && !(q.1 + 1 == (kf : Nat) && q.2.category == 2))) = lv2) (k : EE Γ μ (pc + 1) lv2 st w x0) : EE Γ μ pc lv (Value.long x :: st) w x0 := by
  subst hl
  refine ee_of (fun p e s m args below meth c R α0 b1 b2 Q hF hB hg => ?_) k
  intro H locs cells slots ls cst ⟨α, clv, ws, hα, hP, hD, hS, hw, hls, hlr, hsr, e1, e2⟩
  obtain ⟨_, rfl, hs1_⟩ := hsr.l
  exact lv_lstore_n hF.x hF.b hd rfl hls hn rfl (fun ls2 hls2 => hg _ _ _ _ _ _ ⟨α, _, ws, hα, hP, hD, hS, hw, hls2, ⟨rfl, rfl, hlr.filter (fun k9 c9 => !(k9 == (kf : Nat)) && (!(k9 == (kf : Nat) + 1) && !(k9 + 1 == (kf : Nat) && c9 == 2)))⟩, hs1_, e1, e2⟩)
theorem ee_lstore {i : Nat} {x : Int64} {lv2 : List (Nat × Value)} (hd : decode (pm_cc μ) pc = .ok (.lstore i, 2)) (hn : i + 1 < pm_nL μ) (hl : (i, Value.long x) :: lv.filter (fun q => !(q.1 == i) && (!(q.1 == i + 1) && !(q.1 + 1 == i && q.2.category == 2))) = lv2) (k : EE Γ μ (pc + 2) lv2 st w x0) : EE Γ μ pc lv (Value.long x :: st) w x0 := by
  subst hl
  refine ee_of (fun p e s m args below meth c R α0 b1 b2 Q hF hB hg => ?_) k
  intro H locs cells slots ls cst ⟨α, clv, ws, hα, hP, hD, hS, hw, hls, hlr, hsr, e1, e2⟩
  obtain ⟨_, rfl, hs1_⟩ := hsr.l
  exact lv_lstore hF.x hF.b hd hls hn rfl (fun ls2 hls2 => hg _ _ _ _ _ _ ⟨α, _, ws, hα, hP, hD, hS, hw, hls2, ⟨rfl, rfl, hlr.filter (fun k9 c9 => !(k9 == i) && (!(k9 == i + 1) && !(k9 + 1 == i && c9 == 2)))⟩, hs1_, e1, e2⟩)
theorem ee_astore_n {kf : Fin 4} {x : Nat} {lv2 : List (Nat × Value)} (hd : decode (pm_cc μ) pc = .ok (.astore_n kf, 1)) (hn : (kf : Nat) < pm_nL μ) (hl : ((kf : Nat), Value.ref x) :: lv.filter (fun q => !(q.1 == (kf : Nat)) && !(q.1 + 1 == (kf : Nat) && q.2.category == 2)) = lv2) (k : EE Γ μ (pc + 1) lv2 st w x0) : EE Γ μ pc lv (Value.ref x :: st) w x0 := by
  subst hl
  refine ee_of (fun p e s m args below meth c R α0 b1 b2 Q hF hB hg => ?_) k
  intro H locs cells slots ls cst ⟨α, clv, ws, hα, hP, hD, hS, hw, hls, hlr, hsr, e1, e2⟩
  obtain ⟨a0, _, rfl, ha0, hs1_⟩ := hsr.r
  exact lv_astore_n hF.x hF.b hd rfl hls hn rfl (fun ls2 hls2 => hg _ _ _ _ _ _ ⟨α, _, ws, hα, hP, hD, hS, hw, hls2, ⟨rfl, ⟨a0, ha0, rfl⟩, hlr.filter (fun k9 c9 => !(k9 == (kf : Nat)) && !(k9 + 1 == (kf : Nat) && c9 == 2))⟩, hs1_, e1, e2⟩)
theorem ee_astore {i : Nat} {x : Nat} {lv2 : List (Nat × Value)} (hd : decode (pm_cc μ) pc = .ok (.astore i, 2)) (hn : i < pm_nL μ) (hl : (i, Value.ref x) :: lv.filter (fun q => !(q.1 == i) && !(q.1 + 1 == i && q.2.category == 2)) = lv2) (k : EE Γ μ (pc + 2) lv2 st w x0) : EE Γ μ pc lv (Value.ref x :: st) w x0 := by
  subst hl
  refine ee_of (fun p e s m args below meth c R α0 b1 b2 Q hF hB hg => ?_) k
  intro H locs cells slots ls cst ⟨α, clv, ws, hα, hP, hD, hS, hw, hls, hlr, hsr, e1, e2⟩
  obtain ⟨a0, _, rfl, ha0, hs1_⟩ := hsr.r
  exact lv_astore hF.x hF.b hd hls hn rfl (fun ls2 hls2 => hg _ _ _ _ _ _ ⟨α, _, ws, hα, hP, hD, hS, hw, hls2, ⟨rfl, ⟨a0, ha0, rfl⟩, hlr.filter (fun k9 c9 => !(k9 == i) && !(k9 + 1 == i && c9 == 2))⟩, hs1_, e1, e2⟩)
theorem ee_iinc {i : Nat} {n : Int} {x e : Int32} {K : Int32 → PX} (j : Nat) (hd : decode (pm_cc μ) pc = .ok (.iinc i n, 3)) (hx : lv[j]? = some (i, .int x)) (he : Int32.ofInt n = e) (hn : i < pm_nL μ) (k : ∀ v, v = x + e → EE Γ μ (pc + 3) ((i, Value.int v) :: lv.filter (fun q => !(q.1 == i) && !(q.1 + 1 == i && q.2.category == 2))) st w (K v)) : EE Γ μ pc lv st w (p_let (x + e) K) := by
  refine ee_of (fun p e s m args below meth c R α0 b1 b2 Q hF hB hg => ?_) (k _ rfl)
  intro H locs cells slots ls cst ⟨α, clv, ws, hα, hP, hD, hS, hw, hls, hlr, hsr, e1, e2⟩
  obtain ⟨c1, hm, (rfl : c1 = .int x)⟩ := hlr.get hx
  obtain ⟨k9, hk9⟩ := List.getElem?_of_mem hm
  exact lv_iinc hF.x hF.b hd hls hk9 (by rw [he]) hn rfl (fun ls2 hls2 => hg _ _ _ _ _ _ ⟨α, _, ws, hα, hP, hD, hS, hw, hls2, ⟨rfl, rfl, hlr.filter (fun k9 c9 => !(k9 == i) && !(k9 + 1 == i && c9 == 2))⟩, hsr, e1, e2⟩)
theorem ee_lv {lv2 : List (Nat × Value)} (h : lv = lv2) (k : EE Γ μ pc lv2 st w x0) : EE Γ μ pc lv st w x0 := h ▸ k
theorem ee_iadd {x y : Int32} (hd : decode (pm_cc μ) pc = .ok (.iadd, 1)) (k : EE Γ μ (pc + 1) lv (.int (x + y) :: st) w x0) : EE Γ μ pc lv (.int y :: .int x :: st) w x0 := by
  refine ee_of (fun p e s m args below meth c R α0 b1 b2 Q hF hB hg => ?_) k
  intro H locs cells slots ls cst ⟨α, clv, ws, hα, hP, hD, hS, hw, hls, hlr, hsr, e1, e2⟩
  obtain ⟨_, rfl, hs1_⟩ := hsr.i
  obtain ⟨_, rfl, hs2_⟩ := hs1_.i
  exact lv_iadd hF.x hF.b hd (hg _ _ _ _ _ _ ⟨α, clv, ws, hα, hP, hD, hS, hw, hls, hlr, hs2_.pi, e1, e2⟩)
theorem ee_isub {x y : Int32} (hd : decode (pm_cc μ) pc = .ok (.isub, 1)) (k : EE Γ μ (pc + 1) lv (.int (x - y) :: st) w x0) : EE Γ μ pc lv (.int y :: .int x :: st) w x0 := by
  refine ee_of (fun p e s m args below meth c R α0 b1 b2 Q hF hB hg => ?_) k
  intro H locs cells slots ls cst ⟨α, clv, ws, hα, hP, hD, hS, hw, hls, hlr, hsr, e1, e2⟩
  obtain ⟨_, rfl, hs1_⟩ := hsr.i
  obtain ⟨_, rfl, hs2_⟩ := hs1_.i
  exact lv_isub hF.x hF.b hd (hg _ _ _ _ _ _ ⟨α, clv, ws, hα, hP, hD, hS, hw, hls, hlr, hs2_.pi, e1, e2⟩)
theorem ee_imul {x y : Int32} (hd : decode (pm_cc μ) pc = .ok (.imul, 1)) (k : EE Γ μ (pc + 1) lv (.int (x * y) :: st) w x0) : EE Γ μ pc lv (.int y :: .int x :: st) w x0 := by
  refine ee_of (fun p e s m args below meth c R α0 b1 b2 Q hF hB hg => ?_) k
  intro H locs cells slots ls cst ⟨α, clv, ws, hα, hP, hD, hS, hw, hls, hlr, hsr, e1, e2⟩
  obtain ⟨_, rfl, hs1_⟩ := hsr.i
  obtain ⟨_, rfl, hs2_⟩ := hs1_.i
  exact lv_imul hF.x hF.b hd (hg _ _ _ _ _ _ ⟨α, clv, ws, hα, hP, hD, hS, hw, hls, hlr, hs2_.pi, e1, e2⟩)
theorem ee_iand {x y : Int32} (hd : decode (pm_cc μ) pc = .ok (.iand, 1)) (k : EE Γ μ (pc + 1) lv (.int (x &&& y) :: st) w x0) : EE Γ μ pc lv (.int y :: .int x :: st) w x0 := by
  refine ee_of (fun p e s m args below meth c R α0 b1 b2 Q hF hB hg => ?_) k
  intro H locs cells slots ls cst ⟨α, clv, ws, hα, hP, hD, hS, hw, hls, hlr, hsr, e1, e2⟩
  obtain ⟨_, rfl, hs1_⟩ := hsr.i
  obtain ⟨_, rfl, hs2_⟩ := hs1_.i
  exact lv_iand hF.x hF.b hd (hg _ _ _ _ _ _ ⟨α, clv, ws, hα, hP, hD, hS, hw, hls, hlr, hs2_.pi, e1, e2⟩)
theorem ee_ior {x y : Int32} (hd : decode (pm_cc μ) pc = .ok (.ior, 1)) (k : EE Γ μ (pc + 1) lv (.int (x ||| y) :: st) w x0) : EE Γ μ pc lv (.int y :: .int x :: st) w x0 := by
  refine ee_of (fun p e s m args below meth c R α0 b1 b2 Q hF hB hg => ?_) k
  intro H locs cells slots ls cst ⟨α, clv, ws, hα, hP, hD, hS, hw, hls, hlr, hsr, e1, e2⟩
  obtain ⟨_, rfl, hs1_⟩ := hsr.i
  obtain ⟨_, rfl, hs2_⟩ := hs1_.i
  exact lv_ior hF.x hF.b hd (hg _ _ _ _ _ _ ⟨α, clv, ws, hα, hP, hD, hS, hw, hls, hlr, hs2_.pi, e1, e2⟩)
theorem ee_ixor {x y : Int32} (hd : decode (pm_cc μ) pc = .ok (.ixor, 1)) (k : EE Γ μ (pc + 1) lv (.int (x ^^^ y) :: st) w x0) : EE Γ μ pc lv (.int y :: .int x :: st) w x0 := by
  refine ee_of (fun p e s m args below meth c R α0 b1 b2 Q hF hB hg => ?_) k
  intro H locs cells slots ls cst ⟨α, clv, ws, hα, hP, hD, hS, hw, hls, hlr, hsr, e1, e2⟩
  obtain ⟨_, rfl, hs1_⟩ := hsr.i
  obtain ⟨_, rfl, hs2_⟩ := hs1_.i
  exact lv_ixor hF.x hF.b hd (hg _ _ _ _ _ _ ⟨α, clv, ws, hα, hP, hD, hS, hw, hls, hlr, hs2_.pi, e1, e2⟩)
theorem ee_ladd {x y : Int64} (hd : decode (pm_cc μ) pc = .ok (.ladd, 1)) (k : EE Γ μ (pc + 1) lv (.long (x + y) :: st) w x0) : EE Γ μ pc lv (.long y :: .long x :: st) w x0 := by
  refine ee_of (fun p e s m args below meth c R α0 b1 b2 Q hF hB hg => ?_) k
  intro H locs cells slots ls cst ⟨α, clv, ws, hα, hP, hD, hS, hw, hls, hlr, hsr, e1, e2⟩
  obtain ⟨_, rfl, hs1_⟩ := hsr.l
  obtain ⟨_, rfl, hs2_⟩ := hs1_.l
  exact lv_ladd hF.x hF.b hd (hg _ _ _ _ _ _ ⟨α, clv, ws, hα, hP, hD, hS, hw, hls, hlr, hs2_.pl, e1, e2⟩)
theorem ee_lsub {x y : Int64} (hd : decode (pm_cc μ) pc = .ok (.lsub, 1)) (k : EE Γ μ (pc + 1) lv (.long (x - y) :: st) w x0) : EE Γ μ pc lv (.long y :: .long x :: st) w x0 := by
  refine ee_of (fun p e s m args below meth c R α0 b1 b2 Q hF hB hg => ?_) k
  intro H locs cells slots ls cst ⟨α, clv, ws, hα, hP, hD, hS, hw, hls, hlr, hsr, e1, e2⟩
  obtain ⟨_, rfl, hs1_⟩ := hsr.l
  obtain ⟨_, rfl, hs2_⟩ := hs1_.l
  exact lv_lsub hF.x hF.b hd (hg _ _ _ _ _ _ ⟨α, clv, ws, hα, hP, hD, hS, hw, hls, hlr, hs2_.pl, e1, e2⟩)
theorem ee_lmul {x y : Int64} (hd : decode (pm_cc μ) pc = .ok (.lmul, 1)) (k : EE Γ μ (pc + 1) lv (.long (x * y) :: st) w x0) : EE Γ μ pc lv (.long y :: .long x :: st) w x0 := by
  refine ee_of (fun p e s m args below meth c R α0 b1 b2 Q hF hB hg => ?_) k
  intro H locs cells slots ls cst ⟨α, clv, ws, hα, hP, hD, hS, hw, hls, hlr, hsr, e1, e2⟩
  obtain ⟨_, rfl, hs1_⟩ := hsr.l
  obtain ⟨_, rfl, hs2_⟩ := hs1_.l
  exact lv_lmul hF.x hF.b hd (hg _ _ _ _ _ _ ⟨α, clv, ws, hα, hP, hD, hS, hw, hls, hlr, hs2_.pl, e1, e2⟩)
theorem ee_land {x y : Int64} (hd : decode (pm_cc μ) pc = .ok (.land, 1)) (k : EE Γ μ (pc + 1) lv (.long (x &&& y) :: st) w x0) : EE Γ μ pc lv (.long y :: .long x :: st) w x0 := by
  refine ee_of (fun p e s m args below meth c R α0 b1 b2 Q hF hB hg => ?_) k
  intro H locs cells slots ls cst ⟨α, clv, ws, hα, hP, hD, hS, hw, hls, hlr, hsr, e1, e2⟩
  obtain ⟨_, rfl, hs1_⟩ := hsr.l
  obtain ⟨_, rfl, hs2_⟩ := hs1_.l
  exact lv_land hF.x hF.b hd (hg _ _ _ _ _ _ ⟨α, clv, ws, hα, hP, hD, hS, hw, hls, hlr, hs2_.pl, e1, e2⟩)
theorem ee_lor {x y : Int64} (hd : decode (pm_cc μ) pc = .ok (.lor, 1)) (k : EE Γ μ (pc + 1) lv (.long (x ||| y) :: st) w x0) : EE Γ μ pc lv (.long y :: .long x :: st) w x0 := by
  refine ee_of (fun p e s m args below meth c R α0 b1 b2 Q hF hB hg => ?_) k
  intro H locs cells slots ls cst ⟨α, clv, ws, hα, hP, hD, hS, hw, hls, hlr, hsr, e1, e2⟩
  obtain ⟨_, rfl, hs1_⟩ := hsr.l
  obtain ⟨_, rfl, hs2_⟩ := hs1_.l
  exact lv_lor hF.x hF.b hd (hg _ _ _ _ _ _ ⟨α, clv, ws, hα, hP, hD, hS, hw, hls, hlr, hs2_.pl, e1, e2⟩)
theorem ee_i2l {x : Int32} (hd : decode (pm_cc μ) pc = .ok (.i2l, 1)) (k : EE Γ μ (pc + 1) lv (.long x.toInt64 :: st) w x0) : EE Γ μ pc lv (.int x :: st) w x0 := by
  refine ee_of (fun p e s m args below meth c R α0 b1 b2 Q hF hB hg => ?_) k
  intro H locs cells slots ls cst ⟨α, clv, ws, hα, hP, hD, hS, hw, hls, hlr, hsr, e1, e2⟩
  obtain ⟨_, rfl, hs1_⟩ := hsr.i
  exact lv_i2l hF.x hF.b hd rfl (hg _ _ _ _ _ _ ⟨α, clv, ws, hα, hP, hD, hS, hw, hls, hlr, hs1_.pl, e1, e2⟩)
theorem ee_l2i {x : Int64} (hd : decode (pm_cc μ) pc = .ok (.l2i, 1)) (k : EE Γ μ (pc + 1) lv (.int x.toInt32 :: st) w x0) : EE Γ μ pc lv (.long x :: st) w x0 := by
  refine ee_of (fun p e s m args below meth c R α0 b1 b2 Q hF hB hg => ?_) k
  intro H locs cells slots ls cst ⟨α, clv, ws, hα, hP, hD, hS, hw, hls, hlr, hsr, e1, e2⟩
  obtain ⟨_, rfl, hs1_⟩ := hsr.l
  exact lv_l2i hF.x hF.b hd rfl (hg _ _ _ _ _ _ ⟨α, clv, ws, hα, hP, hD, hS, hw, hls, hlr, hs1_.pi, e1, e2⟩)
theorem ee_i2b {x : Int32} (hd : decode (pm_cc μ) pc = .ok (.i2b, 1)) (k : EE Γ μ (pc + 1) lv (.int (p_i2b x) :: st) w x0) : EE Γ μ pc lv (.int x :: st) w x0 := by
  refine ee_of (fun p e s m args below meth c R α0 b1 b2 Q hF hB hg => ?_) k
  intro H locs cells slots ls cst ⟨α, clv, ws, hα, hP, hD, hS, hw, hls, hlr, hsr, e1, e2⟩
  obtain ⟨_, rfl, hs1_⟩ := hsr.i
  exact lv_i2b hF.x hF.b hd rfl (hg _ _ _ _ _ _ ⟨α, clv, ws, hα, hP, hD, hS, hw, hls, hlr, hs1_.pi, e1, e2⟩)
theorem ee_iushr {x y : Int32} (hd : decode (pm_cc μ) pc = .ok (.iushr, 1)) (k : EE Γ μ (pc + 1) lv (.int (p_ushr x y) :: st) w x0) : EE Γ μ pc lv (.int y :: .int x :: st) w x0 := by
  refine ee_of (fun p e s m args below meth c R α0 b1 b2 Q hF hB hg => ?_) k
  intro H locs cells slots ls cst ⟨α, clv, ws, hα, hP, hD, hS, hw, hls, hlr, hsr, e1, e2⟩
  obtain ⟨_, rfl, hs1_⟩ := hsr.i
  obtain ⟨_, rfl, hs2_⟩ := hs1_.i
  exact lv_iushr hF.x hF.b hd rfl (hg _ _ _ _ _ _ ⟨α, clv, ws, hα, hP, hD, hS, hw, hls, hlr, hs2_.pi, e1, e2⟩)
theorem ee_ishl {x y : Int32} (hd : decode (pm_cc μ) pc = .ok (.ishl, 1)) (k : EE Γ μ (pc + 1) lv (.int (p_ishl x y) :: st) w x0) : EE Γ μ pc lv (.int y :: .int x :: st) w x0 := by
  refine ee_of (fun p e s m args below meth c R α0 b1 b2 Q hF hB hg => ?_) k
  intro H locs cells slots ls cst ⟨α, clv, ws, hα, hP, hD, hS, hw, hls, hlr, hsr, e1, e2⟩
  obtain ⟨_, rfl, hs1_⟩ := hsr.i
  obtain ⟨_, rfl, hs2_⟩ := hs1_.i
  exact lv_ishl hF.x hF.b hd (hg _ _ _ _ _ _ ⟨α, clv, ws, hα, hP, hD, hS, hw, hls, hlr, hs2_.pi, e1, e2⟩)
theorem ee_ishr {x y : Int32} (hd : decode (pm_cc μ) pc = .ok (.ishr, 1)) (k : EE Γ μ (pc + 1) lv (.int (p_ishr x y) :: st) w x0) : EE Γ μ pc lv (.int y :: .int x :: st) w x0 := by
  refine ee_of (fun p e s m args below meth c R α0 b1 b2 Q hF hB hg => ?_) k
  intro H locs cells slots ls cst ⟨α, clv, ws, hα, hP, hD, hS, hw, hls, hlr, hsr, e1, e2⟩
  obtain ⟨_, rfl, hs1_⟩ := hsr.i
  obtain ⟨_, rfl, hs2_⟩ := hs1_.i
  exact lv_ishr hF.x hF.b hd (hg _ _ _ _ _ _ ⟨α, clv, ws, hα, hP, hD, hS, hw, hls, hlr, hs2_.pi, e1, e2⟩)
theorem ee_lshl {x : Int64} {y : Int32} (hd : decode (pm_cc μ) pc = .ok (.lshl, 1)) (k : EE Γ μ (pc + 1) lv (.long (p_lshl x y) :: st) w x0) : EE Γ μ pc lv (.int y :: .long x :: st) w x0 := by
  refine ee_of (fun p e s m args below meth c R α0 b1 b2 Q hF hB hg => ?_) k
  intro H locs cells slots ls cst ⟨α, clv, ws, hα, hP, hD, hS, hw, hls, hlr, hsr, e1, e2⟩
  obtain ⟨_, rfl, hs1_⟩ := hsr.i
  obtain ⟨_, rfl, hs2_⟩ := hs1_.l
  exact lv_lshl hF.x hF.b hd rfl (hg _ _ _ _ _ _ ⟨α, clv, ws, hα, hP, hD, hS, hw, hls, hlr, hs2_.pl, e1, e2⟩)
theorem ee_ineg {x : Int32} (hd : decode (pm_cc μ) pc = .ok (.ineg, 1)) (k : EE Γ μ (pc + 1) lv (.int (-x) :: st) w x0) : EE Γ μ pc lv (.int x :: st) w x0 := by
  refine ee_of (fun p e s m args below meth c R α0 b1 b2 Q hF hB hg => ?_) k
  intro H locs cells slots ls cst ⟨α, clv, ws, hα, hP, hD, hS, hw, hls, hlr, hsr, e1, e2⟩
  obtain ⟨_, rfl, hs1_⟩ := hsr.i
  exact lv_ineg hF.x hF.b hd (hg _ _ _ _ _ _ ⟨α, clv, ws, hα, hP, hD, hS, hw, hls, hlr, hs1_.pi, e1, e2⟩)
theorem ee_dup {v : Value} (hd : decode (pm_cc μ) pc = .ok (.dup, 1)) (hv : v.category = 1) (k : EE Γ μ (pc + 1) lv (v :: v :: st) w x0) : EE Γ μ pc lv (v :: st) w x0 := by
  refine ee_of (fun p e s m args below meth c R α0 b1 b2 Q hF hB hg => ?_) k
  intro H locs cells slots ls cst ⟨α, clv, ws, hα, hP, hD, hS, hw, hls, hlr, hsr, e1, e2⟩
  obtain ⟨c0, _, rfl, hc0, hs1_⟩ := hsr.c
  exact lv_dup hF.x hF.b hd (hc0.cat.trans hv) (hg _ _ _ _ _ _ ⟨α, clv, ws, hα, hP, hD, hS, hw, hls, hlr, ((hs1_.pc hc0).pc hc0), e1, e2⟩)
theorem ee_pop {v : Value} (hd : decode (pm_cc μ) pc = .ok (.pop, 1)) (hv : v.category = 1) (k : EE Γ μ (pc + 1) lv st w x0) : EE Γ μ pc lv (v :: st) w x0 := by
  refine ee_of (fun p e s m args below meth c R α0 b1 b2 Q hF hB hg => ?_) k
  intro H locs cells slots ls cst ⟨α, clv, ws, hα, hP, hD, hS, hw, hls, hlr, hsr, e1, e2⟩
  obtain ⟨c0, _, rfl, hc0, hs1_⟩ := hsr.c
  exact lv_pop hF.x hF.b hd (hc0.cat.trans hv) (hg _ _ _ _ _ _ ⟨α, clv, ws, hα, hP, hD, hS, hw, hls, hlr, hs1_, e1, e2⟩)
theorem ee_dup2 {v u : Value} (hd : decode (pm_cc μ) pc = .ok (.dup2, 1)) (hv : v.category = 1) (hu : u.category = 1) (k : EE Γ μ (pc + 1) lv (v :: u :: v :: u :: st) w x0) : EE Γ μ pc lv (v :: u :: st) w x0 := by
  refine ee_of (fun p e s m args below meth c R α0 b1 b2 Q hF hB hg => ?_) k
  intro H locs cells slots ls cst ⟨α, clv, ws, hα, hP, hD, hS, hw, hls, hlr, hsr, e1, e2⟩
  obtain ⟨c0, _, rfl, hc0, hs1_⟩ := hsr.c
  obtain ⟨c1, _, rfl, hc1, hs2_⟩ := hs1_.c
  exact lv_dup2_11 hF.x hF.b hd (hc0.cat.trans hv) (hc1.cat.trans hu) (hg _ _ _ _ _ _ ⟨α, clv, ws, hα, hP, hD, hS, hw, hls, hlr, ((((hs2_.pc hc1).pc hc0).pc hc1).pc hc0), e1, e2⟩)
theorem ee_dup_x1 {v u : Value} (hd : decode (pm_cc μ) pc = .ok (.dup_x1, 1)) (hv : v.category = 1) (hu : u.category = 1) (k : EE Γ μ (pc + 1) lv (v :: u :: v :: st) w x0) : EE Γ μ pc lv (v :: u :: st) w x0 := by
  refine ee_of (fun p e s m args below meth c R α0 b1 b2 Q hF hB hg => ?_) k
  intro H locs cells slots ls cst ⟨α, clv, ws, hα, hP, hD, hS, hw, hls, hlr, hsr, e1, e2⟩
  obtain ⟨c0, _, rfl, hc0, hs1_⟩ := hsr.c
  obtain ⟨c1, _, rfl, hc1, hs2_⟩ := hs1_.c
  exact lv_dup_x1 hF.x hF.b hd (hc0.cat.trans hv) (hc1.cat.trans hu) (hg _ _ _ _ _ _ ⟨α, clv, ws, hα, hP, hD, hS, hw, hls, hlr, (((hs2_.pc hc0).pc hc1).pc hc0), e1, e2⟩)
theorem ee_goto {off : Int} {tgt : Nat} (hd : decode (pm_cc μ) pc = .ok (.goto off, 3)) (ht : (pc : Int) + off = (tgt : Int)) (k : EE Γ μ tgt lv st w x0) : EE Γ μ pc lv st w x0 := by
  refine ee_of (fun p e s m args below meth c R α0 b1 b2 Q hF hB hg => ?_) k
  intro H locs cells slots ls cst ⟨α, clv, ws, hα, hP, hD, hS, hw, hls, hlr, hsr, e1, e2⟩
  exact lv_goto hF.x hF.b hd ht (hg _ _ _ _ _ _ ⟨α, clv, ws, hα, hP, hD, hS, hw, hls, hlr, hsr, e1, e2⟩)
theorem ee_icmp_eq {x y : Int32} {off : Int} {tgt : Nat} {x1 x2 : PX} (hd : decode (pm_cc μ) pc = .ok (.if_icmp .eq off, 3)) (ht : (pc : Int) + off = (tgt : Int)) (kt : x = y → EE Γ μ tgt lv st w x1) (kf : ¬ (x = y) → EE Γ μ (pc + 3) lv st w x2) : EE Γ μ pc lv (.int y :: .int x :: st) w (if x = y then x1 else x2) := by
  by_cases hcd : x = y
  · rw [if_pos hcd]
    refine ee_of (fun p e s m args below meth c R α0 b1 b2 Q hF hB hg => ?_) (kt hcd)
    intro H locs cells slots ls cst ⟨α, clv, ws, hα, hP, hD, hS, hw, hls, hlr, hsr, e1, e2⟩
    obtain ⟨_, rfl, hs1_⟩ := hsr.i
    obtain ⟨_, rfl, hs2_⟩ := hs1_.i
    exact lv_icmp_eq hF.x hF.b hd ht (fun _ => (hg _ _ _ _ _ _ ⟨α, clv, ws, hα, hP, hD, hS, hw, hls, hlr, hs2_, e1, e2⟩)) (fun hn9 => absurd hcd hn9)
  · rw [if_neg hcd]
    refine ee_of (fun p e s m args below meth c R α0 b1 b2 Q hF hB hg => ?_) (kf hcd)
    intro H locs cells slots ls cst ⟨α, clv, ws, hα, hP, hD, hS, hw, hls, hlr, hsr, e1, e2⟩
    obtain ⟨_, rfl, hs3_⟩ := hsr.i
    obtain ⟨_, rfl, hs4_⟩ := hs3_.i
    exact lv_icmp_eq hF.x hF.b hd ht (fun hn9 => absurd hn9 hcd) (fun _ => (hg _ _ _ _ _ _ ⟨α, clv, ws, hα, hP, hD, hS, hw, hls, hlr, hs4_, e1, e2⟩))
theorem ee_icmp_ne {x y : Int32} {off : Int} {tgt : Nat} {x1 x2 : PX} (hd : decode (pm_cc μ) pc = .ok (.if_icmp .ne off, 3)) (ht : (pc : Int) + off = (tgt : Int)) (kt : ¬ x = y → EE Γ μ tgt lv st w x1) (kf : ¬ (¬ x = y) → EE Γ μ (pc + 3) lv st w x2) : EE Γ μ pc lv (.int y :: .int x :: st) w (if ¬ x = y then x1 else x2) := by
  by_cases hcd : ¬ x = y
  · rw [if_pos hcd]
    refine ee_of (fun p e s m args below meth c R α0 b1 b2 Q hF hB hg => ?_) (kt hcd)
    intro H locs cells slots ls cst ⟨α, clv, ws, hα, hP, hD, hS, hw, hls, hlr, hsr, e1, e2⟩
    obtain ⟨_, rfl, hs1_⟩ := hsr.i
    obtain ⟨_, rfl, hs2_⟩ := hs1_.i
    exact lv_icmp_ne hF.x hF.b hd ht (fun _ => (hg _ _ _ _ _ _ ⟨α, clv, ws, hα, hP, hD, hS, hw, hls, hlr, hs2_, e1, e2⟩)) (fun hn9 => absurd hn9 hcd)
  · rw [if_neg hcd]
    refine ee_of (fun p e s m args below meth c R α0 b1 b2 Q hF hB hg => ?_) (kf hcd)
    intro H locs cells slots ls cst ⟨α, clv, ws, hα, hP, hD, hS, hw, hls, hlr, hsr, e1, e2⟩
    obtain ⟨_, rfl, hs3_⟩ := hsr.i
    obtain ⟨_, rfl, hs4_⟩ := hs3_.i
    exact lv_icmp_ne hF.x hF.b hd ht (fun hn9 => absurd hn9 hcd) (fun _ => (hg _ _ _ _ _ _ ⟨α, clv, ws, hα, hP, hD, hS, hw, hls, hlr, hs4_, e1, e2⟩))
theorem ee_icmp_lt {x y : Int32} {off : Int} {tgt : Nat} {x1 x2 : PX} (hd : decode (pm_cc μ) pc = .ok (.if_icmp .lt off, 3)) (ht : (pc : Int) + off = (tgt : Int)) (kt : x < y → EE Γ μ tgt lv st w x1) (kf : ¬ (x < y) → EE Γ μ (pc + 3) lv st w x2) : EE Γ μ pc lv (.int y :: .int x :: st) w (if x < y then x1 else x2) := by
  by_cases hcd : x < y
  · rw [if_pos hcd]
    refine ee_of (fun p e s m args below meth c R α0 b1 b2 Q hF hB hg => ?_) (kt hcd)
    intro H locs cells slots ls cst ⟨α, clv, ws, hα, hP, hD, hS, hw, hls, hlr, hsr, e1, e2⟩
    obtain ⟨_, rfl, hs1_⟩ := hsr.i
    obtain ⟨_, rfl, hs2_⟩ := hs1_.i
    exact lv_icmp_lt hF.x hF.b hd ht (fun _ => (hg _ _ _ _ _ _ ⟨α, clv, ws, hα, hP, hD, hS, hw, hls, hlr, hs2_, e1, e2⟩)) (fun hn9 => absurd hcd hn9)
  · rw [if_neg hcd]
    refine ee_of (fun p e s m args below meth c R α0 b1 b2 Q hF hB hg => ?_) (kf hcd)
    intro H locs cells slots ls cst ⟨α, clv, ws, hα, hP, hD, hS, hw, hls, hlr, hsr, e1, e2⟩
    obtain ⟨_, rfl, hs3_⟩ := hsr.i
    obtain ⟨_, rfl, hs4_⟩ := hs3_.i
    exact lv_icmp_lt hF.x hF.b hd ht (fun hn9 => absurd hn9 hcd) (fun _ => (hg _ _ _ _ _ _ ⟨α, clv, ws, hα, hP, hD, hS, hw, hls, hlr, hs4_, e1, e2⟩))
theorem ee_icmp_ge {x y : Int32} {off : Int} {tgt : Nat} {x1 x2 : PX} (hd : decode (pm_cc μ) pc = .ok (.if_icmp .ge off, 3)) (ht : (pc : Int) + off = (tgt : Int)) (kt : y ≤ x → EE Γ μ tgt lv st w x1) (kf : ¬ (y ≤ x) → EE Γ μ (pc + 3) lv st w x2) : EE Γ μ pc lv (.int y :: .int x :: st) w (if y ≤ x then x1 else x2) := by
  by_cases hcd : y ≤ x
  · rw [if_pos hcd]
    refine ee_of (fun p e s m args below meth c R α0 b1 b2 Q hF hB hg => ?_) (kt hcd)
    intro H locs cells slots ls cst ⟨α, clv, ws, hα, hP, hD, hS, hw, hls, hlr, hsr, e1, e2⟩
    obtain ⟨_, rfl, hs1_⟩ := hsr.i
    obtain ⟨_, rfl, hs2_⟩ := hs1_.i
    exact lv_icmp_ge hF.x hF.b hd ht (fun _ => (hg _ _ _ _ _ _ ⟨α, clv, ws, hα, hP, hD, hS, hw, hls, hlr, hs2_, e1, e2⟩)) (fun hn9 => absurd hcd hn9)
  · rw [if_neg hcd]
    refine ee_of (fun p e s m args below meth c R α0 b1 b2 Q hF hB hg => ?_) (kf hcd)
    intro H locs cells slots ls cst ⟨α, clv, ws, hα, hP, hD, hS, hw, hls, hlr, hsr, e1, e2⟩
    obtain ⟨_, rfl, hs3_⟩ := hsr.i
    obtain ⟨_, rfl, hs4_⟩ := hs3_.i
    exact lv_icmp_ge hF.x hF.b hd ht (fun hn9 => absurd hn9 hcd) (fun _ => (hg _ _ _ _ _ _ ⟨α, clv, ws, hα, hP, hD, hS, hw, hls, hlr, hs4_, e1, e2⟩))
theorem ee_icmp_gt {x y : Int32} {off : Int} {tgt : Nat} {x1 x2 : PX} (hd : decode (pm_cc μ) pc = .ok (.if_icmp .gt off, 3)) (ht : (pc : Int) + off = (tgt : Int)) (kt : y < x → EE Γ μ tgt lv st w x1) (kf : ¬ (y < x) → EE Γ μ (pc + 3) lv st w x2) : EE Γ μ pc lv (.int y :: .int x :: st) w (if y < x then x1 else x2) := by
  by_cases hcd : y < x
  · rw [if_pos hcd]
    refine ee_of (fun p e s m args below meth c R α0 b1 b2 Q hF hB hg => ?_) (kt hcd)
    intro H locs cells slots ls cst ⟨α, clv, ws, hα, hP, hD, hS, hw, hls, hlr, hsr, e1, e2⟩
    obtain ⟨_, rfl, hs1_⟩ := hsr.i
    obtain ⟨_, rfl, hs2_⟩ := hs1_.i
    exact lv_icmp_gt hF.x hF.b hd ht (fun _ => (hg _ _ _ _ _ _ ⟨α, clv, ws, hα, hP, hD, hS, hw, hls, hlr, hs2_, e1, e2⟩)) (fun hn9 => absurd hcd hn9)
  · rw [if_neg hcd]
    refine ee_of (fun p e s m args below meth c R α0 b1 b2 Q hF hB hg => ?_) (kf hcd)
    intro H locs cells slots ls cst ⟨α, clv, ws, hα, hP, hD, hS, hw, hls, hlr, hsr, e1, e2⟩
    obtain ⟨_, rfl, hs3_⟩ := hsr.i
    obtain ⟨_, rfl, hs4_⟩ := hs3_.i
    exact lv_icmp_gt hF.x hF.b hd ht (fun hn9 => absurd hn9 hcd) (fun _ => (hg _ _ _ _ _ _ ⟨α, clv, ws, hα, hP, hD, hS, hw, hls, hlr, hs4_, e1, e2⟩))
theorem ee_icmp_le {x y : Int32} {off : Int} {tgt : Nat} {x1 x2 : PX} (hd : decode (pm_cc μ) pc = .ok (.if_icmp .le off, 3)) (ht : (pc : Int) + off = (tgt : Int)) (kt : x ≤ y → EE Γ μ tgt lv st w x1) (kf : ¬ (x ≤ y) → EE Γ μ (pc + 3) lv st w x2) : EE Γ μ pc lv (.int y :: .int x :: st) w (if x ≤ y then x1 else x2) := by
  by_cases hcd : x ≤ y
  · rw [if_pos hcd]
    refine ee_of (fun p e s m args below meth c R α0 b1 b2 Q hF hB hg => ?_) (kt hcd)
    intro H locs cells slots ls cst ⟨α, clv, ws, hα, hP, hD, hS, hw, hls, hlr, hsr, e1, e2⟩
    obtain ⟨_, rfl, hs1_⟩ := hsr.i
    obtain ⟨_, rfl, hs2_⟩ := hs1_.i
    exact lv_icmp_le hF.x hF.b hd ht (fun _ => (hg _ _ _ _ _ _ ⟨α, clv, ws, hα, hP, hD, hS, hw, hls, hlr, hs2_, e1, e2⟩)) (fun hn9 => absurd hcd hn9)
  · rw [if_neg hcd]
    refine ee_of (fun p e s m args below meth c R α0 b1 b2 Q hF hB hg => ?_) (kf hcd)
    intro H locs cells slots ls cst ⟨α, clv, ws, hα, hP, hD, hS, hw, hls, hlr, hsr, e1, e2⟩
    obtain ⟨_, rfl, hs3_⟩ := hsr.i
    obtain ⟨_, rfl, hs4_⟩ := hs3_.i
    exact lv_icmp_le hF.x hF.b hd ht (fun hn9 => absurd hn9 hcd) (fun _ => (hg _ _ _ _ _ _ ⟨α, clv, ws, hα, hP, hD, hS, hw, hls, hlr, hs4_, e1, e2⟩))
theorem ee_if_eq {x : Int32} {off : Int} {tgt : Nat} {x1 x2 : PX} (hd : decode (pm_cc μ) pc = .ok (.ifCond .eq off, 3)) (ht : (pc : Int) + off = (tgt : Int)) (kt : x = 0 → EE Γ μ tgt lv st w x1) (kf : ¬ (x = 0) → EE Γ μ (pc + 3) lv st w x2) : EE Γ μ pc lv (.int x :: st) w (if x = 0 then x1 else x2) := by
  by_cases hcd : x = 0
  · rw [if_pos hcd]
    refine ee_of (fun p e s m args below meth c R α0 b1 b2 Q hF hB hg => ?_) (kt hcd)
    intro H locs cells slots ls cst ⟨α, clv, ws, hα, hP, hD, hS, hw, hls, hlr, hsr, e1, e2⟩
    obtain ⟨_, rfl, hs1_⟩ := hsr.i
    exact lv_if_eq hF.x hF.b hd ht (fun _ => (hg _ _ _ _ _ _ ⟨α, clv, ws, hα, hP, hD, hS, hw, hls, hlr, hs1_, e1, e2⟩)) (fun hn9 => absurd hcd hn9)
  · rw [if_neg hcd]
    refine ee_of (fun p e s m args below meth c R α0 b1 b2 Q hF hB hg => ?_) (kf hcd)
    intro H locs cells slots ls cst ⟨α, clv, ws, hα, hP, hD, hS, hw, hls, hlr, hsr, e1, e2⟩
    obtain ⟨_, rfl, hs2_⟩ := hsr.i
    exact lv_if_eq hF.x hF.b hd ht (fun hn9 => absurd hn9 hcd) (fun _ => (hg _ _ _ _ _ _ ⟨α, clv, ws, hα, hP, hD, hS, hw, hls, hlr, hs2_, e1, e2⟩))
theorem ee_if_ne {x : Int32} {off : Int} {tgt : Nat} {x1 x2 : PX} (hd : decode (pm_cc μ) pc = .ok (.ifCond .ne off, 3)) (ht : (pc : Int) + off = (tgt : Int)) (kt : ¬ x = 0 → EE Γ μ tgt lv st w x1) (kf : ¬ (¬ x = 0) → EE Γ μ (pc + 3) lv st w x2) : EE Γ μ pc lv (.int x :: st) w (if ¬ x = 0 then x1 else x2) := by
  by_cases hcd : ¬ x = 0
  · rw [if_pos hcd]
    refine ee_of (fun p e s m args below meth c R α0 b1 b2 Q hF hB hg => ?_) (kt hcd)
    intro H locs cells slots ls cst ⟨α, clv, ws, hα, hP, hD, hS, hw, hls, hlr, hsr, e1, e2⟩
    obtain ⟨_, rfl, hs1_⟩ := hsr.i
    exact lv_if_ne hF.x hF.b hd ht (fun _ => (hg _ _ _ _ _ _ ⟨α, clv, ws, hα, hP, hD, hS, hw, hls, hlr, hs1_, e1, e2⟩)) (fun hn9 => absurd hn9 hcd)
  · rw [if_neg hcd]
    refine ee_of (fun p e s m args below meth c R α0 b1 b2 Q hF hB hg => ?_) (kf hcd)
    intro H locs cells slots ls cst ⟨α, clv, ws, hα, hP, hD, hS, hw, hls, hlr, hsr, e1, e2⟩
    obtain ⟨_, rfl, hs2_⟩ := hsr.i
    exact lv_if_ne hF.x hF.b hd ht (fun hn9 => absurd hn9 hcd) (fun _ => (hg _ _ _ _ _ _ ⟨α, clv, ws, hα, hP, hD, hS, hw, hls, hlr, hs2_, e1, e2⟩))
theorem ee_if_lt {x : Int32} {off : Int} {tgt : Nat} {x1 x2 : PX} (hd : decode (pm_cc μ) pc = .ok (.ifCond .lt off, 3)) (ht : (pc : Int) + off = (tgt : Int)) (kt : x < 0 → EE Γ μ tgt lv st w x1) (kf : ¬ (x < 0) → EE Γ μ (pc + 3) lv st w x2) : EE Γ μ pc lv (.int x :: st) w (if x < 0 then x1 else x2) := by
  by_cases hcd : x < 0
  · rw [if_pos hcd]
    refine ee_of (fun p e s m args below meth c R α0 b1 b2 Q hF hB hg => ?_) (kt hcd)
    intro H locs cells slots ls cst ⟨α, clv, ws, hα, hP, hD, hS, hw, hls, hlr, hsr, e1, e2⟩
    obtain ⟨_, rfl, hs1_⟩ := hsr.i
    exact lv_if_lt hF.x hF.b hd ht (fun _ => (hg _ _ _ _ _ _ ⟨α, clv, ws, hα, hP, hD, hS, hw, hls, hlr, hs1_, e1, e2⟩)) (fun hn9 => absurd hcd hn9)
  · rw [if_neg hcd]
    refine ee_of (fun p e s m args below meth c R α0 b1 b2 Q hF hB hg => ?_) (kf hcd)
    intro H locs cells slots ls cst ⟨α, clv, ws, hα, hP, hD, hS, hw, hls, hlr, hsr, e1, e2⟩
    obtain ⟨_, rfl, hs2_⟩ := hsr.i
    exact lv_if_lt hF.x hF.b hd ht (fun hn9 => absurd hn9 hcd) (fun _ => (hg _ _ _ _ _ _ ⟨α, clv, ws, hα, hP, hD, hS, hw, hls, hlr, hs2_, e1, e2⟩))
theorem ee_if_ge {x : Int32} {off : Int} {tgt : Nat} {x1 x2 : PX} (hd : decode (pm_cc μ) pc = .ok (.ifCond .ge off, 3)) (ht : (pc : Int) + off = (tgt : Int)) (kt : 0 ≤ x → EE Γ μ tgt lv st w x1) (kf : ¬ (0 ≤ x) → EE Γ μ (pc + 3) lv st w x2) : EE Γ μ pc lv (.int x :: st) w (if 0 ≤ x then x1 else x2) := by
  by_cases hcd : 0 ≤ x
  · rw [if_pos hcd]
    refine ee_of (fun p e s m args below meth c R α0 b1 b2 Q hF hB hg => ?_) (kt hcd)
    intro H locs cells slots ls cst ⟨α, clv, ws, hα, hP, hD, hS, hw, hls, hlr, hsr, e1, e2⟩
    obtain ⟨_, rfl, hs1_⟩ := hsr.i
    exact lv_if_ge hF.x hF.b hd ht (fun _ => (hg _ _ _ _ _ _ ⟨α, clv, ws, hα, hP, hD, hS, hw, hls, hlr, hs1_, e1, e2⟩)) (fun hn9 => absurd hcd hn9)
  · rw [if_neg hcd]
    refine ee_of (fun p e s m args below meth c R α0 b1 b2 Q hF hB hg => ?_) (kf hcd)
    intro H locs cells slots ls cst ⟨α, clv, ws, hα, hP, hD, hS, hw, hls, hlr, hsr, e1, e2⟩
    obtain ⟨_, rfl, hs2_⟩ := hsr.i
    exact lv_if_ge hF.x hF.b hd ht (fun hn9 => absurd hn9 hcd) (fun _ => (hg _ _ _ _ _ _ ⟨α, clv, ws, hα, hP, hD, hS, hw, hls, hlr, hs2_, e1, e2⟩))
theorem ee_if_gt {x : Int32} {off : Int} {tgt : Nat} {x1 x2 : PX} (hd : decode (pm_cc μ) pc = .ok (.ifCond .gt off, 3)) (ht : (pc : Int) + off = (tgt : Int)) (kt : 0 < x → EE Γ μ tgt lv st w x1) (kf : ¬ (0 < x) → EE Γ μ (pc + 3) lv st w x2) : EE Γ μ pc lv (.int x :: st) w (if 0 < x then x1 else x2) := by
  by_cases hcd : 0 < x
  · rw [if_pos hcd]
    refine ee_of (fun p e s m args below meth c R α0 b1 b2 Q hF hB hg => ?_) (kt hcd)
    intro H locs cells slots ls cst ⟨α, clv, ws, hα, hP, hD, hS, hw, hls, hlr, hsr, e1, e2⟩
    obtain ⟨_, rfl, hs1_⟩ := hsr.i
    exact lv_if_gt hF.x hF.b hd ht (fun _ => (hg _ _ _ _ _ _ ⟨α, clv, ws, hα, hP, hD, hS, hw, hls, hlr, hs1_, e1, e2⟩)) (fun hn9 => absurd hcd hn9)
  · rw [if_neg hcd]
    refine ee_of (fun p e s m args below meth c R α0 b1 b2 Q hF hB hg => ?_) (kf hcd)
    intro H locs cells slots ls cst ⟨α, clv, ws, hα, hP, hD, hS, hw, hls, hlr, hsr, e1, e2⟩
    obtain ⟨_, rfl, hs2_⟩ := hsr.i
    exact lv_if_gt hF.x hF.b hd ht (fun hn9 => absurd hn9 hcd) (fun _ => (hg _ _ _ _ _ _ ⟨α, clv, ws, hα, hP, hD, hS, hw, hls, hlr, hs2_, e1, e2⟩))
theorem ee_if_le {x : Int32} {off : Int} {tgt : Nat} {x1 x2 : PX} (hd : decode (pm_cc μ) pc = .ok (.ifCond .le off, 3)) (ht : (pc : Int) + off = (tgt : Int)) (kt : x ≤ 0 → EE Γ μ tgt lv st w x1) (kf : ¬ (x ≤ 0) → EE Γ μ (pc + 3) lv st w x2) : EE Γ μ pc lv (.int x :: st) w (if x ≤ 0 then x1 else x2) := by
  by_cases hcd : x ≤ 0
  · rw [if_pos hcd]
    refine ee_of (fun p e s m args below meth c R α0 b1 b2 Q hF hB hg => ?_) (kt hcd)
    intro H locs cells slots ls cst ⟨α, clv, ws, hα, hP, hD, hS, hw, hls, hlr, hsr, e1, e2⟩
    obtain ⟨_, rfl, hs1_⟩ := hsr.i
    exact lv_if_le hF.x hF.b hd ht (fun _ => (hg _ _ _ _ _ _ ⟨α, clv, ws, hα, hP, hD, hS, hw, hls, hlr, hs1_, e1, e2⟩)) (fun hn9 => absurd hcd hn9)
  · rw [if_neg hcd]
    refine ee_of (fun p e s m args below meth c R α0 b1 b2 Q hF hB hg => ?_) (kf hcd)
    intro H locs cells slots ls cst ⟨α, clv, ws, hα, hP, hD, hS, hw, hls, hlr, hsr, e1, e2⟩
    obtain ⟨_, rfl, hs2_⟩ := hsr.i
    exact lv_if_le hF.x hF.b hd ht (fun hn9 => absurd hn9 hcd) (fun _ => (hg _ _ _ _ _ _ ⟨α, clv, ws, hα, hP, hD, hS, hw, hls, hlr, hs2_, e1, e2⟩))
theorem ee_lcmp {x y : Int64} (hd : decode (pm_cc μ) pc = .ok (.lcmp, 1)) (k : EE Γ μ (pc + 1) lv (.int (lg_cmp x y) :: st) w x0) : EE Γ μ pc lv (.long y :: .long x :: st) w x0 := by
  refine ee_of (fun p e s m args below meth c R α0 b1 b2 Q hF hB hg => ?_) k
  intro H locs cells slots ls cst ⟨α, clv, ws, hα, hP, hD, hS, hw, hls, hlr, hsr, e1, e2⟩
  obtain ⟨_, rfl, hs1_⟩ := hsr.l
  obtain ⟨_, rfl, hs2_⟩ := hs1_.l
  exact W.lcmp hF.x hF.b hd (hg _ _ _ _ _ _ ⟨α, clv, ws, hα, hP, hD, hS, hw, hls, hlr, hs2_.pi, e1, e2⟩)
theorem ee_letI {e : Int32} {K : Int32 → PX} (k : ∀ v, v = e → EE Γ μ pc lv (.int v :: st) w (K v)) : EE Γ μ pc lv (.int e :: st) w (p_let e K) := k e rfl
theorem ee_letJ {e : Int64} {K : Int64 → PX} (k : ∀ v, v = e → EE Γ μ pc lv (.long v :: st) w (K v)) : EE Γ μ pc lv (.long e :: st) w (p_let e K) := k e rfl
theorem ee_ite {c : Prop} [Decidable c] {x1 x2 : PX} (kt : c → EE Γ μ pc lv st w x1) (kf : ¬ c → EE Γ μ pc lv st w x2) : EE Γ μ pc lv st w (if c then x1 else x2) := by
  by_cases h : c
  · rw [if_pos h]; exact kt h
  · rw [if_neg h]; exact kf h
theorem ee_bind {α : Type} {y : Option α} {K : α → PX} (k : ∀ v, y = some v → EE Γ μ pc lv st w (K v)) : EE Γ μ pc lv st w (y.bind K) := by
  cases y with
  | none => exact ee_none
  | some v => exact k v rfl
theorem ee_ldiv {x y : Int64} {K : Int64 → PX} (hd : decode (pm_cc μ) pc = .ok (.ldiv, 1)) (k : ∀ v, p_ldiv x y = some v → EE Γ μ (pc + 1) lv (.long v :: st) w (K v)) : EE Γ μ pc lv (.long y :: .long x :: st) w ((p_ldiv x y).bind K) := by
  refine ee_bind (fun v hv => ?_)
  have h9 := k v hv
  unfold p_ldiv at hv
  by_cases hy : y = 0
  · rw [if_pos hy] at hv; cases hv
  rw [if_neg hy] at hv
  cases hv
  refine ee_of (fun p e s m args below meth c R α0 b1 b2 Q hF hB hg => ?_) h9
  intro H locs cells slots ls cst ⟨α, clv, ws, hα, hP, hD, hS, hw, hls, hlr, hsr, e1, e2⟩
  obtain ⟨_, rfl, hs1_⟩ := hsr.l
  obtain ⟨_, rfl, hs2_⟩ := hs1_.l
  exact lv_ldiv hF.x hF.b hd hy (hg _ _ _ _ _ _ ⟨α, clv, ws, hα, hP, hD, hS, hw, hls, hlr, hs2_.pl, e1, e2⟩)
theorem ee_idiv {x y : Int32} {K : Int32 → PX} (hd : decode (pm_cc μ) pc = .ok (.idiv, 1)) (k : ∀ v, p_idiv x y = some v → EE Γ μ (pc + 1) lv (.int v :: st) w (K v)) : EE Γ μ pc lv (.int y :: .int x :: st) w ((p_idiv x y).bind K) := by
  refine ee_bind (fun v hv => ?_)
  have h9 := k v hv
  unfold p_idiv at hv
  by_cases hy : y = 0
  · rw [if_pos hy] at hv; cases hv
  rw [if_neg hy] at hv
  cases hv
  refine ee_of (fun p e s m args below meth c R α0 b1 b2 Q hF hB hg => ?_) h9
  intro H locs cells slots ls cst ⟨α, clv, ws, hα, hP, hD, hS, hw, hls, hlr, hsr, e1, e2⟩
  obtain ⟨_, rfl, hs1_⟩ := hsr.i
  obtain ⟨_, rfl, hs2_⟩ := hs1_.i
  exact lv_idiv hF.x hF.b hd hy (hg _ _ _ _ _ _ ⟨α, clv, ws, hα, hP, hD, hS, hw, hls, hlr, hs2_.pi, e1, e2⟩)
theorem ee_irem {x y : Int32} {K : Int32 → PX} (hd : decode (pm_cc μ) pc = .ok (.irem, 1)) (k : ∀ v, p_irem x y = some v → EE Γ μ (pc + 1) lv (.int v :: st) w (K v)) : EE Γ μ pc lv (.int y :: .int x :: st) w ((p_irem x y).bind K) := by
  refine ee_bind (fun v hv => ?_)
  have h9 := k v hv
  unfold p_irem at hv
  by_cases hy : y = 0
  · rw [if_pos hy] at hv; cases hv
  rw [if_neg hy] at hv
  cases hv
  refine ee_of (fun p e s m args below meth c R α0 b1 b2 Q hF hB hg => ?_) h9
  intro H locs cells slots ls cst ⟨α, clv, ws, hα, hP, hD, hS, hw, hls, hlr, hsr, e1, e2⟩
  obtain ⟨_, rfl, hs1_⟩ := hsr.i
  obtain ⟨_, rfl, hs2_⟩ := hs1_.i
  exact lv_irem hF.x hF.b hd hy (hg _ _ _ _ _ _ ⟨α, clv, ws, hα, hP, hD, hS, hw, hls, hlr, hs2_.pi, e1, e2⟩)
theorem ee_tabIn {dflt lo hi : Int} {offs : Array Int} {len : Nat} {x : Int32} {off : Int} {tgt : Nat} (hd : decode (pm_cc μ) pc = .ok (.tableswitch dflt lo hi offs, len)) (h1 : ¬ x.toInt < lo) (h2 : ¬ hi < x.toInt) (ho : offs[(x.toInt - lo).toNat]? = some off) (ht : (pc : Int) + off = (tgt : Int)) (k : EE Γ μ tgt lv st w x0) : EE Γ μ pc lv (.int x :: st) w x0 := by
  refine ee_of (fun p e s m args below meth c R α0 b1 b2 Q hF hB hg => ?_) k
  intro H locs cells slots ls cst ⟨α, clv, ws, hα, hP, hD, hS, hw, hls, hlr, hsr, e1, e2⟩
  obtain ⟨_, rfl, hs1_⟩ := hsr.i
  exact lv_tableIn hF.x hF.b hd h1 h2 ho ht (hg _ _ _ _ _ _ ⟨α, clv, ws, hα, hP, hD, hS, hw, hls, hlr, hs1_, e1, e2⟩)
theorem ee_tabOut {dflt lo hi : Int} {offs : Array Int} {len : Nat} {x : Int32} {tgt : Nat} (hd : decode (pm_cc μ) pc = .ok (.tableswitch dflt lo hi offs, len)) (h : x.toInt < lo ∨ hi < x.toInt) (ht : (pc : Int) + dflt = (tgt : Int)) (k : EE Γ μ tgt lv st w x0) : EE Γ μ pc lv (.int x :: st) w x0 := by
  refine ee_of (fun p e s m args below meth c R α0 b1 b2 Q hF hB hg => ?_) k
  intro H locs cells slots ls cst ⟨α, clv, ws, hα, hP, hD, hS, hw, hls, hlr, hsr, e1, e2⟩
  obtain ⟨_, rfl, hs1_⟩ := hsr.i
  exact lv_tableOut hF.x hF.b hd h ht (hg _ _ _ _ _ _ ⟨α, clv, ws, hα, hP, hD, hS, hw, hls, hlr, hs1_, e1, e2⟩)
theorem ee_look {dflt : Int} {ps : Array (Int × Int)} {len : Nat} {x : Int32} {off : Int} {tgt : Nat} (hd : decode (pm_cc μ) pc = .ok (.lookupswitch dflt ps, len)) (hp : (ps.toList.zip (ps.toList.drop 1)).all (fun (a, next) => a.1 < next.1) = true) (ho : Op.lookupswitch.offset ps.toList dflt x.toInt = off) (ht : (pc : Int) + off = (tgt : Int)) (k : EE Γ μ tgt lv st w x0) : EE Γ μ pc lv (.int x :: st) w x0 := by
  refine ee_of (fun p e s m args below meth c R α0 b1 b2 Q hF hB hg => ?_) k
  intro H locs cells slots ls cst ⟨α, clv, ws, hα, hP, hD, hS, hw, hls, hlr, hsr, e1, e2⟩
  obtain ⟨_, rfl, hs1_⟩ := hsr.i
  exact lv_lookup hF.x hF.b hd hp ho ht (hg _ _ _ _ _ _ ⟨α, clv, ws, hα, hP, hD, hS, hw, hls, hlr, hs1_, e1, e2⟩)
/-- Object's constructor -/
theorem ee_objInit {idx a : Nat} (hd : decode (pm_cc μ) pc = .ok (.invokespecial idx, 3)) (h1 : Cond.methodLink (pm_own μ) idx Lib.objectInit ∈ GW) (h2 : Cond.instanceMethod Lib.objectInit ∈ GW) (h3 : Cond.code Lib.objectInit ⟨#[0xb1]⟩ 1 none ∈ GW) (hR : 1 ≤ pm_F μ ∧ (st.map fun v => v.category).sum + 12 ≤ pm_L μ) (k : EE Γ μ (pc + 3) lv st w x0) : EE Γ μ pc lv (.ref a :: st) w x0 := by
  refine ee_of (fun p e s m args below meth c R α0 b1 b2 Q hF hB hg => ?_) k
  intro H locs cells slots ls cst ⟨α, clv, ws, hα, hP, hD, hS, hw, hls, hlr, hsr, e1, e2⟩
  obtain ⟨a0, rest, rfl, ha0, hs1_⟩ := hsr.r
  refine W.objInit hF.x hF.b hF.o (hF.w _ h1) (hF.w _ h2) (hF.w _ h3) rfl (by rw [hF.l]; exact hls.1) rfl hd (by rw [hF.F]; exact hR.1) (by rw [hF.L]; show 0 + (rest.map fun v => v.category).sum + 12 ≤ _; rw [hs1_.cats, Nat.zero_add]; exact hR.2) ?_
  exact hg _ _ _ _ _ _ ⟨α, clv, ws, hα, hP, hD, hS, hw, hls, hlr, hs1_, e1, e2⟩
theorem ee_mmax {idx : Nat} {x y : Int32} (hd : decode (pm_cc μ) pc = .ok (.invokestatic idx, 3)) (h1 : Cond.methodLink (pm_own μ) idx Lib.Math.max.name ∈ GW) (h2 : Cond.static Lib.Math.max.name ∈ GW) (h3 : Cond.initialized "java/lang/Math" ∈ GW) (h4 : Cond.code Lib.Math.max.name Lib.Math.max.code 2 (some .int) ∈ GW) (hR : 1 ≤ pm_F μ ∧ (st.map fun v => v.category).sum + 13 ≤ pm_L μ) (k : EE Γ μ (pc + 3) lv (.int (p_max x y) :: st) w x0) : EE Γ μ pc lv (.int y :: .int x :: st) w x0 := by
  refine ee_of (fun p e s m args below meth c R α0 b1 b2 Q hF hB hg => ?_) k
  intro H locs cells slots ls cst ⟨α, clv, ws, hα, hP, hD, hS, hw, hls, hlr, hsr, e1, e2⟩
  obtain ⟨_, rfl, hs1_⟩ := hsr.i
  obtain ⟨rest, rfl, hs2_⟩ := hs1_.i
  exact va_mmax hF.x hF.b (by rw [hF.l]; exact hls.1.symm) hF.o (hF.w _ h1) (hF.w _ h2) (hF.w _ h3) (hF.w _ h4) (by rw [hF.F]; exact hR.1) (by rw [hs2_.cats, hF.L]; exact hR.2) (by omega) (by omega) hd (hg _ _ _ _ _ _ ⟨α, clv, ws, hα, hP, hD, hS, hw, hls, hlr, hs2_.pi, e1, e2⟩)
theorem ee_mmin {idx : Nat} {x y : Int32} (hd : decode (pm_cc μ) pc = .ok (.invokestatic idx, 3)) (h1 : Cond.methodLink (pm_own μ) idx Lib.Math.min.name ∈ GW) (h2 : Cond.static Lib.Math.min.name ∈ GW) (h3 : Cond.initialized "java/lang/Math" ∈ GW) (h4 : Cond.code Lib.Math.min.name Lib.Math.min.code 2 (some .int) ∈ GW) (hR : 1 ≤ pm_F μ ∧ (st.map fun v => v.category).sum + 13 ≤ pm_L μ) (k : EE Γ μ (pc + 3) lv (.int (p_min x y) :: st) w x0) : EE Γ μ pc lv (.int y :: .int x :: st) w x0 := by
  refine ee_of (fun p e s m args below meth c R α0 b1 b2 Q hF hB hg => ?_) k
  intro H locs cells slots ls cst ⟨α, clv, ws, hα, hP, hD, hS, hw, hls, hlr, hsr, e1, e2⟩
  obtain ⟨_, rfl, hs1_⟩ := hsr.i
  obtain ⟨rest, rfl, hs2_⟩ := hs1_.i
  exact va_mmin hF.x hF.b (by rw [hF.l]; exact hls.1.symm) hF.o (hF.w _ h1) (hF.w _ h2) (hF.w _ h3) (hF.w _ h4) (by rw [hF.F]; exact hR.1) (by rw [hs2_.cats, hF.L]; exact hR.2) (by omega) (by omega) hd (hg _ _ _ _ _ _ ⟨α, clv, ws, hα, hP, hD, hS, hw, hls, hlr, hs2_.pi, e1, e2⟩)
end RULES
end
section
/-! Rules for what touches the world. -/
def p_obj (w : PW) (a ci : Nat) : Option (List Value) := match w.1[a]? with
  | some (.inr (c, fs)) => if c = ci then some fs else none
  | _ => none
theorem p_obj_eq {w : PW} {a ci : Nat} {fs : List Value} : p_obj w a ci = some fs ↔ w.1[a]? = some (.inr (ci, fs)) := by
  unfold p_obj
  constructor
  · intro h
    split at h
    · rename_i c fs' he
      by_cases hc : c = ci
      · rw [if_pos hc] at h
        cases h
        rw [he, hc]
      · rw [if_neg hc] at h
        cases h
    · cases h
  · intro h
    rw [h]
    simp
def p_vI (v : Option Value) : Option Int32 := match v with
  | some (.int x) => some x
  | _ => none
def p_vJ (v : Option Value) : Option Int64 := match v with
  | some (.long x) => some x
  | _ => none
def p_vR (v : Option Value) : Option Nat := match v with
  | some (.ref x) => some x
  | _ => none
theorem p_vI_eq {v : Option Value} {x : Int32} (h : p_vI v = some x) : v = some (.int x) := by
  unfold p_vI at h
  split at h
  · cases h; rfl
  · cases h
theorem p_vJ_eq {v : Option Value} {x : Int64} (h : p_vJ v = some x) : v = some (.long x) := by
  unfold p_vJ at h
  split at h
  · cases h; rfl
  · cases h
theorem p_vR_eq {v : Option Value} {x : Nat} (h : p_vR v = some x) : v = some (.ref x) := by
  unfold p_vR at h
  split at h
  · cases h; rfl
  · cases h
def p_getI (w : PW) (a ci k : Nat) : Option Int32 := (p_obj w a ci).bind fun fs => p_vI fs[k]?
def p_getJ (w : PW) (a ci k : Nat) : Option Int64 := (p_obj w a ci).bind fun fs => p_vJ fs[k]?
def p_getR (w : PW) (a ci k : Nat) : Option Nat := (p_obj w a ci).bind fun fs => p_vR fs[k]?
def p_put (w : PW) (a ci k : Nat) (v : Value) : Option PW := (p_obj w a ci).bind fun fs => if k < fs.length then some (w.1.set a (.inr (ci, fs.set k v)), w.2) else none
def p_arr (w : PW) (a t : Nat) : Option (Nat × (Nat → Int32)) := match w.1[a]? with
  | some (.inl (t', n, .inl f)) => if t' = t then some (n, f) else none
  | _ => none
theorem p_arr_eq {w : PW} {a t : Nat} {q : Nat × (Nat → Int32)} : p_arr w a t = some q ↔ w.1[a]? = some (.inl (t, q.1, .inl q.2)) := by
  unfold p_arr
  constructor
  · intro h
    split at h
    · rename_i t' n f he
      by_cases hc : t' = t
      · rw [if_pos hc] at h
        cases h
        rw [he, hc]
      · rw [if_neg hc] at h
        cases h
    · cases h
  · intro h
    rw [h]
    simp
def p_ald (w : PW) (a t : Nat) (i : Int32) : Option Int32 := (p_arr w a t).bind fun q => if i < 0 ∨ q.1 ≤ i.toNatClampNeg then none else some (q.2 i.toNatClampNeg)
def p_ast (w : PW) (a t : Nat) (i x : Int32) : Option PW := (p_arr w a t).bind fun q => if i < 0 ∨ q.1 ≤ i.toNatClampNeg then none else some (w.1.set a (.inl (t, q.1, .inl (upd q.2 i.toNatClampNeg x))), w.2)
def p_len (w : PW) (a : Nat) : Option Int32 := match w.1[a]? with
  | some (.inl (_, n, _)) => some (Int32.ofNat n)
  | _ => none
theorem p_len_eq {w : PW} {a : Nat} {v : Int32} (h : p_len w a = some v) : ∃ t n f, w.1[a]? = some (.inl (t, n, f)) ∧ Int32.ofNat n = v := by
  unfold p_len at h
  split at h
  · rename_i t n f he
    cases h
    exact ⟨t, n, f, he, rfl⟩
  · cases h
def p_newO (w : PW) (ci N : Nat) (fs : List Value) (K : Nat → PW → PX) : PX := K w.1.length (w.1 ++ [.inr (ci, fs)], w.2.1 + 1, w.2.2 + N)
def p_newA (w : PW) (t B : Nat) (i : Int32) (K : Nat → PW → PX) : PX := if i < 0 ∨ 536870912 < i.toNatClampNeg * B then none else K w.1.length (w.1 ++ [.inl (t, i.toNatClampNeg, .inl fun _ => 0)], w.2.1 + 1, w.2.2 + i.toNatClampNeg)
/-- a class of the worlds -/
def pz_cf (ci : Nat) (C : String) (T : u_T) (N : Nat) (ty : Nat → FieldType) : Prop := vwCl[ci]? = some (C, T, N) ∧ (∀ w ∈ u_ws C T N, w ∈ GW) ∧ (∀ k, k < N → parseFieldDescriptor (T k).2.2.1 = some (ty k)) ∧ (∀ a, a < N → ∀ b, b < N → a ≠ b → (T a).2.1 ≠ (T b).2.1)
def pz_lk (own : String) (idx : Nat) (O n d : String) : Prop := Cond.fieldLink own idx O n d ∈ GW ∨ (∃ host, Cond.fieldLinkNest own idx O n d host ∈ NW) ∨ ∃ ref, Cond.fieldLink own idx ref n d ∈ GW ∧ Cond.sameField ref O n d ∈ GW
/-- a field that an instruction names -/
def pz_fl (own : String) (idx ci k : Nat) : Prop := ∃ (C : String) (T : u_T) (N : Nat) (ty : Nat → FieldType), pz_cf ci C T N ty ∧ k < N ∧ pz_lk own idx (T k).1 (T k).2.1 (T k).2.2.1
def pz_pl (own name : String) (idx ci k : Nat) (t : FieldType) : Prop := ∃ (C : String) (T : u_T) (N : Nat) (ty : Nat → FieldType), pz_cf ci C T N ty ∧ k < N ∧ parseFieldDescriptor (T k).2.2.1 = some t ∧ ((pz_lk own idx (T k).1 (T k).2.1 (T k).2.2.1 ∧ (T k).2.2.2 = false) ∨ (Cond.fieldLink own idx (T k).1 (T k).2.1 (T k).2.2.1 ∈ GW ∧ (T k).2.2.2 = true ∧ name = "<init>" ∧ (T k).1 = own))
def pz_nl (own : String) (idx ci N : Nat) (fs : List Value) : Prop := ∃ (C : String) (T : u_T) (ty : Nat → FieldType), pz_cf ci C T N ty ∧ Cond.classLink own idx C ∈ GW ∧ Cond.instantiable C N ∈ GW ∧ Cond.initialized C ∈ GW ∧ (∀ j, j < N → defaultValue (ty j) = vp_V fs j) ∧ ∀ α X, pz_sr α X fs fs
section HEAP
variable {Γ : PG} {μ : PM} {pc : Nat} {lv : List (Nat × Value)} {st : List Value} {w : PW} {x0 : PX}
/-- an instruction that makes w into w1 -/
theorem ee_w {pc2 : Nat} {lv2 : List (Nat × Value)} {st2 : List Value} {w1 : PW} (hle : w.2.1 ≤ w1.2.1 ∧ w.2.2 ≤ w1.2.2)
    (T : ∀ (p : Program) (e : Env) (s : State) (m : MethodId) (args : Array Value) (below : List Frame) (meth : Method) (c : Code) (R : Room) (α0 : List Nat) (b1 b2 : Nat) (Q : State → Prop), pz_Fx Γ μ p s m args meth c R → (w1.2.1 ≤ b1 + R.cells ∧ w1.2.2 ≤ b2 + R.slots) → pz_G Γ μ p e s m args below meth c R α0 b1 b2 Q pc2 lv2 st2 w1 → pz_G Γ μ p e s m args below meth c R α0 b1 b2 Q pc lv st w)
    (k : EE Γ μ pc2 lv2 st2 w1 x0) : EE Γ μ pc lv st w x0 := by
  intro r w' h
  obtain ⟨h1, h2, h3⟩ := k r w' h
  refine ⟨Nat.le_trans hle.1 h1, Nat.le_trans hle.2 h2, fun p e s m args below meth c R α0 b1 b2 Q hF hQ => ?_⟩
  exact T p e s m args below meth c R α0 b1 b2 Q hF ⟨Nat.le_trans h1 hQ.1, Nat.le_trans h2 hQ.2.1⟩ (h3 p e s m args below meth c R α0 b1 b2 Q hF hQ)
theorem ee_let {α : Type} {a : α} {K : α → PX} (k : ∀ v, v = a → EE Γ μ pc lv st w (K v)) : EE Γ μ pc lv st w (p_let a K) := k a rfl
theorem ee_getv {idx a ci k : Nat} {fs : List Value} {v : Value} (hd : decode (pm_cc μ) pc = .ok (.getfield idx, 3)) (hl : pz_fl (pm_own μ) idx ci k) (ho : w.1[a]? = some (.inr (ci, fs))) (hv : fs[k]? = some v) (kk : EE Γ μ (pc + 3) lv (v :: st) w x0) : EE Γ μ pc lv (.ref a :: st) w x0 := by
  refine ee_of (fun p e s m args below meth c R α0 b1 b2 Q hF hB hg => ?_) kk
  intro H locs cells slots ls cst ⟨α, clv, ws, hα, hP, hD, hS, hw, hls, hlr, hsr, e1, e2⟩
  obtain ⟨a0, _, rfl, ha0, hs1_⟩ := hsr.r
  obtain ⟨y, hy, gs, rfl, hgs⟩ := hw.at ha0 ho
  obtain ⟨c1, hc1, hvr⟩ := hgs.get hv
  obtain ⟨C, T, N, ty, ⟨q1, q2, q3, q4⟩, hk, hlk | ⟨host, hlk⟩ | ⟨ref, hlk, hsm⟩⟩ := hl
  · exact va_get hF.x hF.b hF.w q2 hF.o hF.K hP a hy q1 k hk (hF.w _ hlk) (fun _ h9 => h9) hc1 hd (hg _ _ _ _ _ _ ⟨α, clv, ws, hα, hP, hD, hS, hw, hls, hlr, hs1_.pc hvr, e1, e2⟩)
  · exact va_getN hF.x hF.b hF.w q2 hF.o hF.K hP a hy q1 k hk (va_Nw.use rfl (hF.N hlk)) (fun _ h9 => h9) hc1 hd (hg _ _ _ _ _ _ ⟨α, clv, ws, hα, hP, hD, hS, hw, hls, hlr, hs1_.pc hvr, e1, e2⟩)
  · exact va_get hF.x hF.b hF.w q2 hF.o hF.K hP a hy q1 k hk (hF.w _ hlk) (u_same (hF.w _ hsm)) hc1 hd (hg _ _ _ _ _ _ ⟨α, clv, ws, hα, hP, hD, hS, hw, hls, hlr, hs1_.pc hvr, e1, e2⟩)

theorem ee_getI {idx a ci k : Nat} {K : Int32 → PX} (hd : decode (pm_cc μ) pc = .ok (.getfield idx, 3)) (hl : pz_fl (pm_own μ) idx ci k) (kk : ∀ v, p_getI w a ci k = some v → EE Γ μ (pc + 3) lv (.int v :: st) w (K v)) : EE Γ μ pc lv (.ref a :: st) w ((p_getI w a ci k).bind K) := by
  refine ee_bind (fun v hv => ?_)
  have hk := kk v hv
  unfold p_getI at hv
  obtain ⟨fs, h1, h2⟩ := Option.bind_eq_some_iff.mp hv
  exact ee_getv hd hl (p_obj_eq.mp h1) (p_vI_eq h2) hk
theorem ee_getJ {idx a ci k : Nat} {K : Int64 → PX} (hd : decode (pm_cc μ) pc = .ok (.getfield idx, 3)) (hl : pz_fl (pm_own μ) idx ci k) (kk : ∀ v, p_getJ w a ci k = some v → EE Γ μ (pc + 3) lv (.long v :: st) w (K v)) : EE Γ μ pc lv (.ref a :: st) w ((p_getJ w a ci k).bind K) := by
  refine ee_bind (fun v hv => ?_)
  have hk := kk v hv
  unfold p_getJ at hv
  obtain ⟨fs, h1, h2⟩ := Option.bind_eq_some_iff.mp hv
  exact ee_getv hd hl (p_obj_eq.mp h1) (p_vJ_eq h2) hk
theorem ee_getR {idx a ci k : Nat} {K : Nat → PX} (hd : decode (pm_cc μ) pc = .ok (.getfield idx, 3)) (hl : pz_fl (pm_own μ) idx ci k) (kk : ∀ v, p_getR w a ci k = some v → EE Γ μ (pc + 3) lv (.ref v :: st) w (K v)) : EE Γ μ pc lv (.ref a :: st) w ((p_getR w a ci k).bind K) := by
  refine ee_bind (fun v hv => ?_)
  have hk := kk v hv
  unfold p_getR at hv
  obtain ⟨fs, h1, h2⟩ := Option.bind_eq_some_iff.mp hv
  exact ee_getv hd hl (p_obj_eq.mp h1) (p_vR_eq h2) hk
theorem ee_putv {idx a ci k : Nat} {fs : List Value} {v : Value} {t : FieldType} (hd : decode (pm_cc μ) pc = .ok (.putfield idx, 3)) (hl : pz_pl (pm_own μ) (pm_y μ).name idx ci k t) (ho : w.1[a]? = some (.inr (ci, fs))) (hk : k < fs.length) (hn : ∀ (α : List Nat) (X : Nat → Nat) (c : Value), pz_vr α X v c → narrow t c = c ∧ fits t c = true) (kk : EE Γ μ (pc + 3) lv st (w.1.set a (.inr (ci, fs.set k v)), w.2) x0) : EE Γ μ pc lv (v :: .ref a :: st) w x0 := by
  refine ee_w ⟨by exact Nat.le_refl _, by exact Nat.le_refl _⟩ (fun p e s m args below meth c R α0 b1 b2 Q hF hB hg => ?_) kk
  intro H locs cells slots ls cst ⟨α, clv, ws, hα, hP, hD, hS, hw, hls, hlr, hsr, e1, e2⟩
  obtain ⟨c1, _, rfl, hc1, hs1_⟩ := hsr.c
  obtain ⟨a0, _, rfl, ha0, hs2_⟩ := hs1_.r
  obtain ⟨y, hy, gs, rfl, hgs⟩ := hw.at ha0 ho
  obtain ⟨n1, n2⟩ := hn _ _ _ hc1
  have hkg : k < gs.length := by rw [hgs.len]; exact hk
  have hcr : pz_cr α (pg_X Γ) (pg_T Γ) (.inr (ci, fs.set k v)) (.inr (ci, gs.set k c1)) := ⟨_, rfl, hgs.set hc1 k⟩
  obtain ⟨C, T, N, ty, ⟨q1, q2, q3, q4⟩, hkN, hd9, ⟨hlk | ⟨host, hlk⟩ | ⟨ref, hlk, hsm⟩, hf9⟩ | ⟨hlk, hf9, hi9, ho9⟩⟩ := hl
  · exact va_put hF.x hF.b hF.w q2 ty q3 q4 hF.o hF.K hP hD hS a hy q1 k hkN (hF.w _ hlk) (fun _ h9 => h9) hf9 hd9 n1 n2 hkg hd (fun H1 locs1 hP1 hD1 hS1 => hg _ _ _ _ _ _ ⟨α, clv, _, hα, hP1, hD1, hS1, hw.set ha0 hcr, hls, hlr, hs2_, e1, e2⟩)
  · exact va_putN hF.x hF.b hF.w q2 ty q3 q4 hF.o hF.K hP hD hS a hy q1 k hkN (va_Nw.use rfl (hF.N hlk)) (fun _ h9 => h9) hf9 hd9 n1 n2 hkg hd (fun H1 locs1 hP1 hD1 hS1 => hg _ _ _ _ _ _ ⟨α, clv, _, hα, hP1, hD1, hS1, hw.set ha0 hcr, hls, hlr, hs2_, e1, e2⟩)
  · exact va_put hF.x hF.b hF.w q2 ty q3 q4 hF.o hF.K hP hD hS a hy q1 k hkN (hF.w _ hlk) (u_same (hF.w _ hsm)) hf9 hd9 n1 n2 hkg hd (fun H1 locs1 hP1 hD1 hS1 => hg _ _ _ _ _ _ ⟨α, clv, _, hα, hP1, hD1, hS1, hw.set ha0 hcr, hls, hlr, hs2_, e1, e2⟩)
  · exact va_putF hF.x hF.b hF.w q2 ty q3 q4 hF.o hF.K hP hD hS a hy q1 k hkN (hF.w _ hlk) (fun _ h9 => h9) hf9 (hF.n.trans hi9) ho9 hd9 n1 n2 hkg hd (fun H1 locs1 hP1 hD1 hS1 => hg _ _ _ _ _ _ ⟨α, clv, _, hα, hP1, hD1, hS1, hw.set ha0 hcr, hls, hlr, hs2_, e1, e2⟩)
theorem ee_put {idx a ci k : Nat} {v : Value} {t : FieldType} {K : PW → PX} (hd : decode (pm_cc μ) pc = .ok (.putfield idx, 3)) (hl : pz_pl (pm_own μ) (pm_y μ).name idx ci k t) (hn : ∀ (α : List Nat) (X : Nat → Nat) (c : Value), pz_vr α X v c → narrow t c = c ∧ fits t c = true) (kk : ∀ w1, p_put w a ci k v = some w1 → EE Γ μ (pc + 3) lv st w1 (K w1)) : EE Γ μ pc lv (v :: .ref a :: st) w ((p_put w a ci k v).bind K) := by
  refine ee_bind (fun w1 hv => ?_)
  have h9 := kk w1 hv
  unfold p_put at hv
  obtain ⟨fs, h1, h2⟩ := Option.bind_eq_some_iff.mp hv
  by_cases hk : k < fs.length
  · rw [if_pos hk] at h2
    cases h2
    exact ee_putv hd hl (p_obj_eq.mp h1) hk hn h9
  · rw [if_neg hk] at h2
    cases h2
theorem ee_nI (x : Int32) : ∀ (α : List Nat) (X : Nat → Nat) (c : Value), pz_vr α X (.int x) c → narrow .int c = c ∧ fits .int c = true := by
  intro α X c h
  rw [show c = .int x from h]
  exact ⟨rfl, rfl⟩
theorem ee_nJ (x : Int64) : ∀ (α : List Nat) (X : Nat → Nat) (c : Value), pz_vr α X (.long x) c → narrow .long c = c ∧ fits .long c = true := by
  intro α X c h
  rw [show c = .long x from h]
  exact ⟨rfl, rfl⟩
theorem ee_nR (i : Nat) (C : String) : ∀ (α : List Nat) (X : Nat → Nat) (c : Value), pz_vr α X (.ref i) c → narrow (.object C) c = c ∧ fits (.object C) c = true := by
  intro α X c h
  obtain ⟨a, -, rfl⟩ := h
  exact ⟨rfl, rfl⟩
theorem ee_nRA (i : Nat) (t : FieldType) : ∀ (α : List Nat) (X : Nat → Nat) (c : Value), pz_vr α X (.ref i) c → narrow (.array t) c = c ∧ fits (.array t) c = true := by
  intro α X c h
  obtain ⟨a, -, rfl⟩ := h
  exact ⟨rfl, rfl⟩
theorem ee_nZ (x : Int32) (hx : x = 0 ∨ x = 1) : ∀ (α : List Nat) (X : Nat → Nat) (c : Value), pz_vr α X (.int x) c → narrow .boolean c = c ∧ fits .boolean c = true := by
  intro α X c h
  rw [show c = .int x from h]
  rcases hx with rfl | rfl
  · exact ⟨by decide, by decide⟩
  · exact ⟨by decide, by decide⟩
theorem ee_new {idx ci N : Nat} {fs : List Value} {K : Nat → PW → PX} (hd : decode (pm_cc μ) pc = .ok (.new idx, 3)) (hl : pz_nl (pm_own μ) idx ci N fs) (kk : ∀ a w1, a = w.1.length → w1 = (w.1 ++ [.inr (ci, fs)], w.2.1 + 1, w.2.2 + N) → EE Γ μ (pc + 3) lv (.ref a :: st) w1 (K a w1)) : EE Γ μ pc lv st w (p_newO w ci N fs K) := by
  refine ee_w (w1 := (w.1 ++ [.inr (ci, fs)], w.2.1 + 1, w.2.2 + N)) ⟨Nat.le_succ _, Nat.le_add_right _ _⟩ (fun p e s m args below meth c R α0 b1 b2 Q hF hB hg => ?_) (kk _ _ rfl rfl)
  intro H locs cells slots ls cst ⟨α, clv, ws, hα, hP, hD, hS, hw, hls, hlr, hsr, e1, e2⟩
  obtain ⟨C, T, ty, ⟨q1, q2, q3, q4⟩, h1, h2, h3, h4, h5⟩ := hl
  have hB1 : w.2.1 + 1 ≤ b1 + R.cells := hB.1
  have hB2 : w.2.2 + N ≤ b2 + R.slots := hB.2
  refine va_new hF.x hF.b hF.w q2 ty q3 hF.o (hF.w _ h1) (hF.w _ h2) (hF.w _ h3) hF.K hP hD hS hF.A q1 h4 (by omega) (by omega) hd (fun q H1 hP1 hD1 hS1 => ?_)
  have hle : pz_le α (α ++ [q]) := ⟨[q], rfl⟩
  exact hg _ _ _ _ _ _ ⟨α ++ [q], clv, _, hα.tr hle, hP1, hD1, hS1, hw.push ⟨_, rfl, h5 _ _⟩, hls, hlr.mono hle, (hsr.mono hle).pr (hw.new q), by show w.2.1 + 1 = _; omega, by show w.2.2 + N = _; omega⟩
theorem pz_ty (hT : (pg_T Γ).map (fun q => q.2) = pz_TYS) {t : Nat} {c : ClassId} {ty ty2 : FieldType} (h : (pg_T Γ)[t]? = some (c, ty)) (h2 : pz_TYS[t]? = some ty2) : ty = ty2 := by
  rw [← hT, List.getElem?_map, h] at h2
  exact Option.some.inj h2
theorem ee_newa {ak : ArrayType} {ty : FieldType} {t B : Nat} {i : Int32} {K : Nat → PW → PX} (hd : decode (pm_cc μ) pc = .ok (.newarray ak, 2)) (ht : pz_TYS[t]? = some ty) (hak : newarray.typeOf ak = ty) (hdv : defaultValue ty = .int 0) (hcb : componentBytes ty = B) (hrf : ∀ U cA, va_RA U cA ty → U.vm.findClass ("[" ++ ty.toString) = some cA) (hac : Cond.arrayClass ty ∈ GW) (kk : ∀ a w1, a = w.1.length → w1 = (w.1 ++ [.inl (t, i.toNatClampNeg, .inl fun _ => 0)], w.2.1 + 1, w.2.2 + i.toNatClampNeg) → ¬ i < 0 → EE Γ μ (pc + 2) lv (.ref a :: st) w1 (K a w1)) : EE Γ μ pc lv (.int i :: st) w (p_newA w t B i K) := by
  unfold p_newA
  by_cases hc : i < 0 ∨ 536870912 < i.toNatClampNeg * B
  · rw [if_pos hc]; exact ee_none
  rw [if_neg hc]
  have hi : ¬ i < 0 := fun h => hc (Or.inl h)
  have hb : ¬ 536870912 < i.toNatClampNeg * B := fun h => hc (Or.inr h)
  refine ee_w (w1 := (w.1 ++ [.inl (t, i.toNatClampNeg, .inl fun _ => 0)], w.2.1 + 1, w.2.2 + i.toNatClampNeg)) ⟨Nat.le_succ _, Nat.le_add_right _ _⟩ (fun p e s m args below meth c R α0 b1 b2 Q hF hB hg => ?_) (kk _ _ rfl rfl hi)
  intro H locs cells slots ls cst ⟨α, clv, ws, hα, hP, hD, hS, hw, hls, hlr, hsr, e1, e2⟩
  obtain ⟨_, rfl, hs1_⟩ := hsr.i
  have hB1 : w.2.1 + 1 ≤ b1 + R.cells := hB.1
  have hB2 : w.2.2 + i.toNatClampNeg ≤ b2 + R.slots := hB.2
  refine va_newa hF.x hF.b (by rw [hak]; exact hF.w _ hac) hak hF.K hP hD hS hF.A (a0 := (i.toNatClampNeg, .inl fun _ => 0)) (fun cA => by rw [vp_cell_i, hdv]) hi rfl (by rw [hcb]; omega) (by omega) (by omega) hd (fun q cA H1 hK1 hP1 hD1 hS1 => ?_)
  have hle : pz_le α (α ++ [q]) := ⟨[q], rfl⟩
  obtain ⟨c2, ty2, h2⟩ : ∃ c2 ty2, (pg_T Γ)[t]? = some (c2, ty2) := by
    have h9 := ht
    rw [← hF.T, List.getElem?_map] at h9
    cases h8 : (pg_T Γ)[t]? with
    | none => rw [h8] at h9; cases h9
    | some q9 => exact ⟨q9.1, q9.2, rfl⟩
  have e9 : ty2 = ty := pz_ty hF.T h2 ht
  subst e9
  have r1 := hrf _ _ (hF.K.2 t _ h2).2
  have r2 := hrf _ _ (hK1.2 (pg_T Γ).length (cA, ty2) (by rw [List.getElem?_append_right (Nat.le_refl _), Nat.sub_self]; rfl)).2
  have e8 : c2 = cA := Option.some.inj (r1.symm.trans r2)
  subst e8
  exact hg _ _ _ _ _ _ ⟨α ++ [q], clv, _, hα.tr hle, hP1, hD1, hS1, hw.push ⟨_, _, _, h2, rfl, rfl⟩, hls, hlr.mono hle, (hs1_.mono hle).pr (hw.new q), by show w.2.1 + 1 = _; omega, by show w.2.2 + i.toNatClampNeg = _; omega⟩

theorem ee_iald {t a : Nat} {i : Int32} {K : Int32 → PX} (hd : decode (pm_cc μ) pc = .ok (.iaload, 1)) (ht : pz_TYS[t]? = some .int) (kk : ∀ v, p_ald w a t i = some v → EE Γ μ (pc + 1) lv (.int v :: st) w (K v)) : EE Γ μ pc lv (.int i :: .ref a :: st) w ((p_ald w a t i).bind K) := by
  refine ee_bind (fun v hv => ?_)
  have h9 := kk v hv
  unfold p_ald at hv
  obtain ⟨q, h1, h2⟩ := Option.bind_eq_some_iff.mp hv
  by_cases hc : i < 0 ∨ q.1 ≤ i.toNatClampNeg
  · rw [if_pos hc] at h2; cases h2
  rw [if_neg hc] at h2
  cases h2
  refine ee_of (fun p e s m args below meth c R α0 b1 b2 Q hF hB hg => ?_) h9
  intro H locs cells slots ls cst ⟨α, clv, ws, hα, hP, hD, hS, hw, hls, hlr, hsr, e1, e2⟩
  obtain ⟨_, rfl, hs1_⟩ := hsr.i
  obtain ⟨a0, _, rfl, ha0, hs2_⟩ := hs1_.r
  obtain ⟨y, hy, cA, ty2, g, hT, rfl, (rfl : g = .inl q.2)⟩ := hw.at ha0 (p_arr_eq.mp h1)
  have e9 := pz_ty hF.T hT ht
  subst e9
  exact va_iald hF.x hF.b hF.K hP a t hy hT hc hd (hg _ _ _ _ _ _ ⟨α, clv, ws, hα, hP, hD, hS, hw, hls, hlr, hs2_.pi, e1, e2⟩)
theorem ee_bald {t a : Nat} {i : Int32} {K : Int32 → PX} (hd : decode (pm_cc μ) pc = .ok (.baload, 1)) (ht : pz_TYS[t]? = some .byte) (kk : ∀ v, p_ald w a t i = some v → EE Γ μ (pc + 1) lv (.int v :: st) w (K v)) : EE Γ μ pc lv (.int i :: .ref a :: st) w ((p_ald w a t i).bind K) := by
  refine ee_bind (fun v hv => ?_)
  have h9 := kk v hv
  unfold p_ald at hv
  obtain ⟨q, h1, h2⟩ := Option.bind_eq_some_iff.mp hv
  by_cases hc : i < 0 ∨ q.1 ≤ i.toNatClampNeg
  · rw [if_pos hc] at h2; cases h2
  rw [if_neg hc] at h2
  cases h2
  refine ee_of (fun p e s m args below meth c R α0 b1 b2 Q hF hB hg => ?_) h9
  intro H locs cells slots ls cst ⟨α, clv, ws, hα, hP, hD, hS, hw, hls, hlr, hsr, e1, e2⟩
  obtain ⟨_, rfl, hs1_⟩ := hsr.i
  obtain ⟨a0, _, rfl, ha0, hs2_⟩ := hs1_.r
  obtain ⟨y, hy, cA, ty2, g, hT, rfl, (rfl : g = .inl q.2)⟩ := hw.at ha0 (p_arr_eq.mp h1)
  have e9 := pz_ty hF.T hT ht
  subst e9
  exact va_bald hF.x hF.b hF.K hP a t hy hT hc hd (hg _ _ _ _ _ _ ⟨α, clv, ws, hα, hP, hD, hS, hw, hls, hlr, hs2_.pi, e1, e2⟩)
theorem ee_zald {t a : Nat} {i : Int32} {K : Int32 → PX} (hd : decode (pm_cc μ) pc = .ok (.baload, 1)) (ht : pz_TYS[t]? = some .boolean) (kk : ∀ v, p_ald w a t i = some v → EE Γ μ (pc + 1) lv (.int v :: st) w (K v)) : EE Γ μ pc lv (.int i :: .ref a :: st) w ((p_ald w a t i).bind K) := by
  refine ee_bind (fun v hv => ?_)
  have h9 := kk v hv
  unfold p_ald at hv
  obtain ⟨q, h1, h2⟩ := Option.bind_eq_some_iff.mp hv
  by_cases hc : i < 0 ∨ q.1 ≤ i.toNatClampNeg
  · rw [if_pos hc] at h2; cases h2
  rw [if_neg hc] at h2
  cases h2
  refine ee_of (fun p e s m args below meth c R α0 b1 b2 Q hF hB hg => ?_) h9
  intro H locs cells slots ls cst ⟨α, clv, ws, hα, hP, hD, hS, hw, hls, hlr, hsr, e1, e2⟩
  obtain ⟨_, rfl, hs1_⟩ := hsr.i
  obtain ⟨a0, _, rfl, ha0, hs2_⟩ := hs1_.r
  obtain ⟨y, hy, cA, ty2, g, hT, rfl, (rfl : g = .inl q.2)⟩ := hw.at ha0 (p_arr_eq.mp h1)
  have e9 := pz_ty hF.T hT ht
  subst e9
  exact va_zald hF.x hF.b hF.K hP a t hy hT hc hd (hg _ _ _ _ _ _ ⟨α, clv, ws, hα, hP, hD, hS, hw, hls, hlr, hs2_.pi, e1, e2⟩)
theorem ee_iast {t a : Nat} {i x : Int32} {K : PW → PX} (hd : decode (pm_cc μ) pc = .ok (.iastore, 1)) (ht : pz_TYS[t]? = some .int) (kk : ∀ w1, p_ast w a t i x = some w1 → EE Γ μ (pc + 1) lv st w1 (K w1)) : EE Γ μ pc lv (.int x :: .int i :: .ref a :: st) w ((p_ast w a t i x).bind K) := by
  refine ee_bind (fun v hv => ?_)
  have h9 := kk v hv
  unfold p_ast at hv
  obtain ⟨q, h1, h2⟩ := Option.bind_eq_some_iff.mp hv
  by_cases hc : i < 0 ∨ q.1 ≤ i.toNatClampNeg
  · rw [if_pos hc] at h2; cases h2
  rw [if_neg hc] at h2
  cases h2
  refine ee_w ⟨by exact Nat.le_refl _, by exact Nat.le_refl _⟩ (fun p e s m args below meth c R α0 b1 b2 Q hF hB hg => ?_) h9
  intro H locs cells slots ls cst ⟨α, clv, ws, hα, hP, hD, hS, hw, hls, hlr, hsr, e1, e2⟩
  obtain ⟨_, rfl, hs1_⟩ := hsr.i
  obtain ⟨_, rfl, hs2_⟩ := hs1_.i
  obtain ⟨a0, _, rfl, ha0, hs3_⟩ := hs2_.r
  obtain ⟨y, hy, cA, ty2, g, hT, rfl, (rfl : g = .inl q.2)⟩ := hw.at ha0 (p_arr_eq.mp h1)
  have e9 := pz_ty hF.T hT ht
  subst e9
  exact va_iast hF.x hF.b hF.K hP hD hS a t hy hT hc hd (fun H1 locs1 hP1 hD1 hS1 => hg _ _ _ _ _ _ ⟨α, clv, _, hα, hP1, hD1, hS1, hw.set ha0 ⟨_, _, _, hT, rfl, rfl⟩, hls, hlr, hs3_, e1, e2⟩)
theorem ee_bast {t a : Nat} {i x : Int32} {K : PW → PX} (hd : decode (pm_cc μ) pc = .ok (.bastore, 1)) (ht : pz_TYS[t]? = some .byte) (kk : ∀ w1, p_ast w a t i (vp_nar .byte x) = some w1 → EE Γ μ (pc + 1) lv st w1 (K w1)) : EE Γ μ pc lv (.int x :: .int i :: .ref a :: st) w ((p_ast w a t i (vp_nar .byte x)).bind K) := by
  refine ee_bind (fun v hv => ?_)
  have h9 := kk v hv
  unfold p_ast at hv
  obtain ⟨q, h1, h2⟩ := Option.bind_eq_some_iff.mp hv
  by_cases hc : i < 0 ∨ q.1 ≤ i.toNatClampNeg
  · rw [if_pos hc] at h2; cases h2
  rw [if_neg hc] at h2
  cases h2
  refine ee_w ⟨by exact Nat.le_refl _, by exact Nat.le_refl _⟩ (fun p e s m args below meth c R α0 b1 b2 Q hF hB hg => ?_) h9
  intro H locs cells slots ls cst ⟨α, clv, ws, hα, hP, hD, hS, hw, hls, hlr, hsr, e1, e2⟩
  obtain ⟨_, rfl, hs1_⟩ := hsr.i
  obtain ⟨_, rfl, hs2_⟩ := hs1_.i
  obtain ⟨a0, _, rfl, ha0, hs3_⟩ := hs2_.r
  obtain ⟨y, hy, cA, ty2, g, hT, rfl, (rfl : g = .inl q.2)⟩ := hw.at ha0 (p_arr_eq.mp h1)
  have e9 := pz_ty hF.T hT ht
  subst e9
  exact va_bast hF.x hF.b hF.K hP hD hS a t hy hT hc hd (fun H1 locs1 hP1 hD1 hS1 => hg _ _ _ _ _ _ ⟨α, clv, _, hα, hP1, hD1, hS1, hw.set ha0 ⟨_, _, _, hT, rfl, rfl⟩, hls, hlr, hs3_, e1, e2⟩)
theorem ee_zast {t a : Nat} {i x : Int32} {K : PW → PX} (hd : decode (pm_cc μ) pc = .ok (.bastore, 1)) (ht : pz_TYS[t]? = some .boolean) (kk : ∀ w1, p_ast w a t i (vp_nar .boolean x) = some w1 → EE Γ μ (pc + 1) lv st w1 (K w1)) : EE Γ μ pc lv (.int x :: .int i :: .ref a :: st) w ((p_ast w a t i (vp_nar .boolean x)).bind K) := by
  refine ee_bind (fun v hv => ?_)
  have h9 := kk v hv
  unfold p_ast at hv
  obtain ⟨q, h1, h2⟩ := Option.bind_eq_some_iff.mp hv
  by_cases hc : i < 0 ∨ q.1 ≤ i.toNatClampNeg
  · rw [if_pos hc] at h2; cases h2
  rw [if_neg hc] at h2
  cases h2
  refine ee_w ⟨by exact Nat.le_refl _, by exact Nat.le_refl _⟩ (fun p e s m args below meth c R α0 b1 b2 Q hF hB hg => ?_) h9
  intro H locs cells slots ls cst ⟨α, clv, ws, hα, hP, hD, hS, hw, hls, hlr, hsr, e1, e2⟩
  obtain ⟨_, rfl, hs1_⟩ := hsr.i
  obtain ⟨_, rfl, hs2_⟩ := hs1_.i
  obtain ⟨a0, _, rfl, ha0, hs3_⟩ := hs2_.r
  obtain ⟨y, hy, cA, ty2, g, hT, rfl, (rfl : g = .inl q.2)⟩ := hw.at ha0 (p_arr_eq.mp h1)
  have e9 := pz_ty hF.T hT ht
  subst e9
  exact va_zast hF.x hF.b hF.K hP hD hS a t hy hT hc hd (fun H1 locs1 hP1 hD1 hS1 => hg _ _ _ _ _ _ ⟨α, clv, _, hα, hP1, hD1, hS1, hw.set ha0 ⟨_, _, _, hT, rfl, rfl⟩, hls, hlr, hs3_, e1, e2⟩)
theorem ee_alen {a : Nat} {K : Int32 → PX} (hd : decode (pm_cc μ) pc = .ok (.arraylength, 1)) (kk : ∀ v, p_len w a = some v → EE Γ μ (pc + 1) lv (.int v :: st) w (K v)) : EE Γ μ pc lv (.ref a :: st) w ((p_len w a).bind K) := by
  refine ee_bind (fun v hv => ?_)
  have h9 := kk v hv
  obtain ⟨t, n, f, h1, h2⟩ := p_len_eq hv
  refine ee_of (fun p e s m args below meth c R α0 b1 b2 Q hF hB hg => ?_) h9
  intro H locs cells slots ls cst ⟨α, clv, ws, hα, hP, hD, hS, hw, hls, hlr, hsr, e1, e2⟩
  obtain ⟨a0, _, rfl, ha0, hs1_⟩ := hsr.r
  obtain ⟨y, hy, cA, ty2, g, hT, rfl, hkr⟩ := hw.at ha0 h1
  exact va_alen hF.x hF.b hF.K hP a t hy hT h2 hd (hg _ _ _ _ _ _ ⟨α, clv, ws, hα, hP, hD, hS, hw, hls, hlr, hs1_.pi, e1, e2⟩)
/-- answers -/
theorem pz_end {p : Program} {e : Env} {s : State} {m : MethodId} {args : Array Value} {below : List Frame} {meth : Method} {c : Code} {R : Room} {α0 : List Nat} {b1 b2 : Nat} {Q : State → Prop} {H : Heap} {locs : List Loc} {cells slots : Nat} {g : JFrame} {rv : Option Value} (hQ : pz_Fin Γ s args below c R α0 b1 b2 Q (.inl rv) w) (e1 : w.2.1 = b1 + cells) (e2 : w.2.2 = b2 + slots)
    (k : W p (pg_l Γ) e R s m args below meth c H locs cells slots (MQ below (pz_Qc Γ α0 rv w) args s cells slots (pg_A Γ)) g) : W p (pg_l Γ) e R s m args below meth c H locs cells slots Q g := by
  refine pz_mono ?_ k
  intro t h
  have h3 := hQ.2.2 t
  rw [show w.2.1 - b1 = cells by omega, show w.2.2 - b2 = slots by omega] at h3
  exact h3 h

theorem ee_iret {v : Int32} (hr : pm_ret μ = some .int) (hd : decode (pm_cc μ) pc = .ok (.ireturn, 1)) : EE Γ μ pc lv [.int v] w (some (.inl (some (.int v)), w)) := by
  intro r w' h
  cases h
  refine ⟨Nat.le_refl _, Nat.le_refl _, fun p e s m args below meth c R α0 b1 b2 Q hF hQ => ?_⟩
  intro H locs cells slots ls cst ⟨α, clv, ws, hα, hP, hD, hS, hw, hls, hlr, hsr, e1, e2⟩
  obtain ⟨_, rfl, hs1_⟩ := hsr.i
  cases hs1_.n
  refine pz_end hQ e1 e2 ?_
  exact W.iret hF.x hF.b (hF.r.trans hr) (fun t ht hW => ⟨⟨some (.int v), α, ws, rfl, hs1_.pi, hα, by rw [ht]; exact hP, hD, hw⟩, hS.F ht⟩) hS.2.2 hd (hlocks := hF.k)
theorem ee_lret {v : Int64} (hr : pm_ret μ = some .long) (hd : decode (pm_cc μ) pc = .ok (.lreturn, 1)) : EE Γ μ pc lv [.long v] w (some (.inl (some (.long v)), w)) := by
  intro r w' h
  cases h
  refine ⟨Nat.le_refl _, Nat.le_refl _, fun p e s m args below meth c R α0 b1 b2 Q hF hQ => ?_⟩
  intro H locs cells slots ls cst ⟨α, clv, ws, hα, hP, hD, hS, hw, hls, hlr, hsr, e1, e2⟩
  obtain ⟨_, rfl, hs1_⟩ := hsr.l
  cases hs1_.n
  refine pz_end hQ e1 e2 ?_
  exact W.lret hF.x hF.b (hF.r.trans hr) (fun t ht hW => ⟨⟨some (.long v), α, ws, rfl, hs1_.pl, hα, by rw [ht]; exact hP, hD, hw⟩, hS.F ht⟩) hS.2.2 hd (hlocks := hF.k)
theorem ee_vret (hr : pm_ret μ = none) (hd : decode (pm_cc μ) pc = .ok (.return_, 1)) : EE Γ μ pc lv [] w (some (.inl (none), w)) := by
  intro r w' h
  cases h
  refine ⟨Nat.le_refl _, Nat.le_refl _, fun p e s m args below meth c R α0 b1 b2 Q hF hQ => ?_⟩
  intro H locs cells slots ls cst ⟨α, clv, ws, hα, hP, hD, hS, hw, hls, hlr, hsr, e1, e2⟩
  cases hsr.n
  refine pz_end hQ e1 e2 ?_
  exact W.vret hF.x hF.b (hF.r.trans hr) (fun t ht hW => ⟨⟨none, α, ws, rfl, trivial, hα, by rw [ht]; exact hP, hD, hw⟩, hS.F ht⟩) hS.2.2 hd (hlocks := hF.k)
theorem ee_aret {v : Nat} {rt : FieldType} (hr : pm_ret μ = some rt) (hrt : (∃ n, rt = .object n) ∨ ∃ t, rt = .array t) (hd : decode (pm_cc μ) pc = .ok (.areturn, 1)) : EE Γ μ pc lv [.ref v] w (some (.inl (some (.ref v)), w)) := by
  intro r w' h
  cases h
  refine ⟨Nat.le_refl _, Nat.le_refl _, fun p e s m args below meth c R α0 b1 b2 Q hF hQ => ?_⟩
  intro H locs cells slots ls cst ⟨α, clv, ws, hα, hP, hD, hS, hw, hls, hlr, hsr, e1, e2⟩
  obtain ⟨a0, _, rfl, ha0, hs1_⟩ := hsr.r
  cases hs1_.n
  refine pz_end hQ e1 e2 ?_
  exact W.aret hF.x hF.b (hF.r.trans hr) hrt (Or.inr ⟨a0, rfl⟩) (fun t ht hW => ⟨⟨some (.ref a0), α, ws, rfl, hs1_.pr ha0, hα, by rw [ht]; exact hP, hD, hw⟩, hS.F ht⟩) hS.2.2 hd (hlocks := hF.k)
def p_retZ (v : Int32) (w : PW) : PX := if v = 0 ∨ v = 1 then some (.inl (some (.int v)), w) else none
theorem ee_zret {v : Int32} (hr : pm_ret μ = some .boolean) (hd : decode (pm_cc μ) pc = .ok (.ireturn, 1)) : EE Γ μ pc lv [.int v] w (p_retZ v w) := by
  unfold p_retZ
  by_cases hc : v = 0 ∨ v = 1
  · rw [if_pos hc]
    intro r w' h
    cases h
    refine ⟨Nat.le_refl _, Nat.le_refl _, fun p e s m args below meth c R α0 b1 b2 Q hF hQ => ?_⟩
    intro H locs cells slots ls cst ⟨α, clv, ws, hα, hP, hD, hS, hw, hls, hlr, hsr, e1, e2⟩
    obtain ⟨_, rfl, hs1_⟩ := hsr.i
    cases hs1_.n
    refine pz_end hQ e1 e2 ?_
    exact W.zret hF.x hF.b (hF.r.trans hr) (by rcases hc with rfl | rfl <;> decide) (fun t ht hW => ⟨⟨some (.int v), α, ws, rfl, hs1_.pi, hα, by rw [ht]; exact hP, hD, hw⟩, hS.F ht⟩) hS.2.2 hd (hlocks := hF.k)
  · rw [if_neg hc]; exact ee_none
end HEAP
end
section
/-! Calls. -/
def p_call (x : PX) (K : Option Value → PW → PX) : PX := match x with
  | some (.inl rv, w1) => K rv w1
  | _ => none
def p_kI (K : Int32 → PW → PX) : Option Value → PW → PX := fun rv w1 => match rv with
  | some (.int v) => K v w1
  | _ => none
def p_kJ (K : Int64 → PW → PX) : Option Value → PW → PX := fun rv w1 => match rv with
  | some (.long v) => K v w1
  | _ => none
def p_kR (K : Nat → PW → PX) : Option Value → PW → PX := fun rv w1 => match rv with
  | some (.ref v) => K v w1
  | _ => none
def p_kV (K : PW → PX) : Option Value → PW → PX := fun rv w1 => match rv with
  | none => K w1
  | _ => none
/-- the words and the room of a method -/
abbrev pm_ws (μ : PM) : List Cond := Cond.code (pm_y μ) (pm_cc μ) (pm_nL μ) (pm_ret μ) :: GW
abbrev pm_rm (μ : PM) (w w1 : PW) : Room := { frames := pm_F μ, locals := pm_L μ, cells := w1.2.1 - w.2.1, slots := w1.2.2 - w.2.2 }
def pz_Pre (Γ : PG) (ws : va_W) (U : State) : Prop := va_P (pg_D Γ) vwCl ws U.heap ∧ va_K (pg_D Γ) vwCl (pg_T Γ) U ∧ (∀ q : Nat, U.heap.size ≤ q → pg_A Γ q) ∧ pg_E Γ U
theorem pz_blind {Γ : PG} {ws : va_W} {cas : List Value} (hM : pz_mv Γ) : FrameBlind (va_Pc cas (pz_Pre Γ ws)) := by
  intro a U g mk h
  obtain ⟨q0, q1, q2, q3, q4⟩ := h
  exact ⟨q0, q1, va_K.moved (u := U) (U := U.calling g mk a) (Vm.Alike.refl U.vm) q2, q3, hM U (U.calling g mk a) q4 (State.WarmedH.refl U) (Nat.le_refl _) (fun _ _ _ => rfl)⟩
/-- a body's judgement is the method's contract -/
theorem pz_met {Γ : PG} {μ : PM} {as cas : List Value} {w w1 : PW} {x : PX} {rv : Option Value} {α : List Nat} {ws : va_W} (hE : EE Γ μ 0 (lv_args 0 as) [] w x) (hx : x = some (.inl rv, w1))
    (hT : (pg_T Γ).map (fun q => q.2) = pz_TYS) (hM : pz_mv Γ) (hS : ∀ U : State, pg_E Γ U → pz_ext (pg_l Γ) (pg_A Γ) (pg_X Γ) (pg_S Γ) U)
    (hw : pz_wr α (pg_X Γ) (pg_T Γ) w.1 ws) (hD : va_D (pg_A Γ) ws) (has : pz_sr α (pg_X Γ) as cas) (hy : plainName (pm_y μ).cls = true ∧ (pm_y μ).cls = pm_own μ) (hn : (lg_sl as).length ≤ pm_nL μ) :
    Met (pg_l Γ) (pm_y μ) (pm_ws μ) (pm_rm μ w w1) (va_Pc cas (pz_Pre Γ ws)) (pz_Qc Γ α rv w1) (w1.2.1 - w.2.1) (w1.2.2 - w.2.2) (pg_A Γ) := by
  refine Met.ofW (cc := pm_cc μ) (maxL := pm_nL μ) (ret := pm_ret μ) hy.1 rfl ?_
  intro p e s m args below meth c s₁ B hml hv
  obtain ⟨rfl, hP, hK, hA, hX⟩ := hv
  obtain ⟨h1, h2, h3⟩ := hE _ _ hx
  have hts := atoms_spec (ws := pm_ws μ) B.pre
  have hl := lv_entry cas (n := pm_nL μ) (by rw [pz_sl has]; exact hn)
  have hown : s.vm.findClass (pm_own μ) = some m.cls := by rw [← hy.2]; exact findClass_of_methodNamed B.named
  rw [lg_entry_eq]
  refine h3 p e s m cas.toArray below meth c _ α w.2.1 w.2.2 _ ⟨B.exec, B.bytes, B.returns, hml, fun w9 h9 => hts w9 (List.mem_cons_of_mem _ h9), hown, B.notSynchronized, hK, hA, hX, rfl, rfl, (name_of_methodNamed B.named B.method).1, B.named, hT, hM, hS⟩ ⟨?_, ?_, fun t h => h⟩ _ _ _ _ _ _ ⟨α, _, ws, pz_le.rf, hP, hD, va_S.rf, hw, hl, pz_args 0 has, trivial, rfl, rfl⟩
  · show w1.2.1 ≤ w.2.1 + (w1.2.1 - w.2.1)
    omega
  · show w1.2.2 ≤ w.2.2 + (w1.2.2 - w.2.2)
    omega
theorem g_call {Γ : PG} {p : Program} {e : Env} {R : Room} {s : State} {m : MethodId} {args : Array Value} {below : List Frame} {meth : Method} {c : Code} {H : Heap} {locs : List Loc} {cells slots mc ms : Nat} {Q : State → Prop} {pc : Nat} {ls : Array Slot} {rest st0 : List Value} {a : Array Value} {α : List Nat} {rv : Option Value} {w1 : PW}
    (hr : va_Run p (pg_l Γ) e R s m args below meth c H locs cells slots mc ms (F0 m pc ls st0) rest (pz_Qc Γ α rv w1 a) (pg_A Γ)) (hS : va_S (pg_A Γ) s.heap H locs)
    (kk : ∀ (cv : Option Value) (α' : List Nat) (ws' : va_W) (H1 : Heap) (locs1 : List Loc), pz_ov α' (pg_X Γ) rv cv → pz_le α α' → va_P (pg_D Γ) vwCl ws' H1 → va_D (pg_A Γ) ws' → pz_wr α' (pg_X Γ) (pg_T Γ) w1.1 ws' → va_S (pg_A Γ) s.heap H1 locs1 → W p (pg_l Γ) e R s m args below meth c H1 locs1 (cells + mc) (slots + ms) Q (F0 m (pc + 3) ls (cv.toList ++ rest))) :
    W p (pg_l Γ) e R s m args below meth c H locs cells slots Q (F0 m pc ls st0) := by
  intro T hT X
  obtain ⟨v, st₀, t, T', L, h0, X', hL, e1, e2, ⟨⟨cv, α', ws', hv, g1, g2, g3, g4, g5⟩, hz, hk⟩, st⟩ := hr T hT X
  cases hv
  rw [h0] at hz hk
  obtain ⟨t2, a1, b1⟩ := kk v α' ws' T'.heap (locs ++ L) g1 g2 (by rw [e1]; exact g3) g4 g5
    ⟨Nat.le_trans hS.1 (by rw [e1]; exact hz), fun q h1 h2 => by rw [e1, hk q (Nat.lt_of_lt_of_le h1 hS.1) h2]; exact hS.2.1 q h1 h2, fun q hq => by
      rcases List.mem_append.mp hq with h | h
      · exact hS.2.2 q h
      · exact hL q h⟩ T' rfl X'
  exact ⟨t2, st t2 a1, b1⟩
theorem goodIn_gw {ws : List Cond} (h : ∀ w ∈ ws, w ∈ GW) : GoodIn GW ws := fun w hw => ⟨h w hw, pz_good w (h w hw)⟩
def pz_my (μ : PM) : Prop := plainName (pm_y μ).cls = true ∧ (pm_y μ).cls = pm_own μ ∧ ((pm_y μ).cls ≠ "java/lang/invoke/MethodHandle" ∧ (pm_y μ).cls ≠ "java/lang/invoke/VarHandle") ∧ Cond.code (pm_y μ) (pm_cc μ) (pm_nL μ) (pm_ret μ) ∈ GW ∧ Cond.initialized (pm_y μ).cls ∈ GW
/-- how many arguments -/
def pz_na (μ : PM) (n : Nat) : Prop := (parseMethodDescriptor (pm_y μ).desc).map (fun d => d.parameters.length) = some n
theorem pz_wsin {μ : PM} (h : pz_my μ) : ∀ w ∈ pm_ws μ, w ∈ GW := by
  intro w hw
  rcases List.mem_cons.mp hw with rfl | h9
  · exact h.2.2.2.1
  · exact h9
section CALLS
variable {Γ : PG} {μ ν : PM} {pc : Nat} {lv : List (Nat × Value)} {st : List Value} {w : PW} {x1 : PX} {K : Option Value → PW → PX}
/-- what every call has in common: from the run of the callee to the caller's judgement -/
theorem ee_call {as stk : List Value}
    (hE : EE Γ ν 0 (lv_args 0 as) [] w x1) (hy : pz_my ν) (hn : (lg_sl as).length ≤ pm_nL ν)
    (hrun : ∀ (p : Program) (e : Env) (s : State) (m : MethodId) (args : Array Value) (below : List Frame) (meth : Method) (c : Code) (R : Room) (H : Heap) (locs : List Loc) (cells slots : Nat) (ls : Array Slot) (cst : List Value) (α : List Nat) (ws : va_W) (rv : Option Value) (w1 : PW),
      pz_Fx Γ μ p s m args meth c R → va_P (pg_D Γ) vwCl ws H → va_D (pg_A Γ) ws → va_S (pg_A Γ) s.heap H locs → pz_wr α (pg_X Γ) (pg_T Γ) w.1 ws → ls.size = pm_nL μ → pz_sr α (pg_X Γ) stk cst →
      (∀ cas, pz_sr α (pg_X Γ) as cas → Met (pg_l Γ) (pm_y ν) (pm_ws ν) (pm_rm ν w w1) (va_Pc cas (pz_Pre Γ ws)) (pz_Qc Γ α rv w1) (w1.2.1 - w.2.1) (w1.2.2 - w.2.2) (pg_A Γ)) →
      cells + (w1.2.1 - w.2.1) ≤ R.cells → slots + (w1.2.2 - w.2.2) ≤ R.slots →
      ∃ (rest : List Value) (a : Array Value), pz_sr α (pg_X Γ) st rest ∧ va_Run p (pg_l Γ) e R s m args below meth c H locs cells slots (w1.2.1 - w.2.1) (w1.2.2 - w.2.2) (F0 m pc ls cst) rest (pz_Qc Γ α rv w1 a) (pg_A Γ))
    (kk : ∀ rv w1, x1 = some (.inl rv, w1) → EE Γ μ (pc + 3) lv (rv.toList ++ st) w1 (K rv w1)) : EE Γ μ pc lv stk w (p_call x1 K) := by
  intro r w' h
  unfold p_call at h
  match x1, hE, kk, h with
  | some (.inl rv, w1), hE, kk, h =>
    obtain ⟨k1, k2, k3⟩ := kk rv w1 rfl r w' h
    obtain ⟨c1, c2, -⟩ := hE _ _ rfl
    refine ⟨Nat.le_trans c1 k1, Nat.le_trans c2 k2, fun p e s m args below meth c R α0 b1 b2 Q hF hQ => ?_⟩
    have hG := k3 p e s m args below meth c R α0 b1 b2 Q hF hQ
    have hQ1 := hQ.1
    have hQ2 := hQ.2.1
    intro H locs cells slots ls cst ⟨α, clv, ws, hα, hP, hD, hS, hw, hls, hlr, hsr, e1, e2⟩
    obtain ⟨rest, a, hrest, hr⟩ := hrun p e s m args below meth c R H locs cells slots ls cst α ws rv w1 hF hP hD hS hw hls.1 hsr (fun cas hcas => pz_met hE rfl hF.T hF.M hF.S hw hD hcas ⟨hy.1, hy.2.1⟩ hn) (by omega) (by omega)
    refine g_call hr hS (fun cv α' ws' H1 locs1 g1 g2 g3 g4 g5 g6 => ?_)
    exact hG _ _ _ _ _ _ ⟨α', clv, ws', hα.tr g2, g3, g4, g6, g5, hls, hlr.mono g2, (hrest.mono g2).app g1, by omega, by omega⟩
  | none, _, _, h => cases h
  | some (.inr _, _), _, _, h => cases h
theorem pz_pre {p : Program} {s : State} {m : MethodId} {args : Array Value} {meth : Method} {c : Code} {R : Room} {H : Heap} {locs : List Loc} {ws : va_W} (hF : pz_Fx Γ μ p s m args meth c R) (hP : va_P (pg_D Γ) vwCl ws H) (hS : va_S (pg_A Γ) s.heap H locs) : ∀ U : State, U.heap = H → s.WarmedH U.vm → pz_Pre Γ ws U := by
  intro U hU hW
  subst hU
  exact ⟨hP, va_K.moved hW.alike hF.K, fun q hq => hF.A q (Nat.le_trans hS.1 hq), hF.M s U hF.E hW hS.1 (fun q h1 h2 => hS.2.1 q h1 h2)⟩
theorem ee_callV {idx b ci n : Nat} {as : List Value} {C : String} {T : u_T} {N : Nat} {fs : List Value} (hd : decode (pm_cc μ) pc = .ok (.invokevirtual idx, 3)) (hE : EE Γ ν 0 (lv_args 0 (.ref b :: as)) [] w x1) (hy : pz_my ν) (hn : (lg_sl (.ref b :: as)).length ≤ pm_nL ν) (hna : pz_na ν n) (hal : as.length = n)
    (hc : vwCl[ci]? = some (C, T, N)) (hC : (pm_y ν).cls = C) (hob : w.1[b]? = some (.inr (ci, fs)))
    (h1 : Cond.methodLink (pm_own μ) idx (pm_y ν) ∈ GW) (h2 : Cond.instanceMethod (pm_y ν) ∈ GW) (h3 : Cond.selects C (pm_y ν) (pm_y ν) ∈ GW)
    (hR : pm_F ν + 1 ≤ pm_F μ ∧ 8 + (pm_nL ν + 11) + pm_L ν ≤ pm_L μ) (hst : (st.map fun v => v.category).sum ≤ 8)
    (kk : ∀ rv w1, x1 = some (.inl rv, w1) → EE Γ μ (pc + 3) lv (rv.toList ++ st) w1 (K rv w1)) : EE Γ μ pc lv (as.reverse ++ .ref b :: st) w (p_call x1 K) := by
  refine ee_call hE hy hn ?_ kk
  intro p e s m args below meth c R H locs cells slots ls cst α ws rv w1 hF hP hD hS hw hls hsr hMet hc1 hc2
  obtain ⟨l1, k1, rfl, hs1, hs2⟩ := hsr.split
  obtain ⟨a, rest, rfl, hb, hs3⟩ := hs2.r
  have has : pz_sr α (pg_X Γ) as l1.reverse := by
    have h9 := hs1.rev
    rwa [List.reverse_reverse] at h9
  obtain ⟨y, hy9, gs, rfl, hgs⟩ := hw.at hb hob
  refine ⟨rest, _, hs3, va_runV (As := l1.reverse) (rest := rest) (C := C) ⟨hF.x, hF.b, hF.l, hF.o, hF.w⟩ (hMet (.ref a :: l1.reverse) (has.pr hb)) (cwV n hF.w (goodIn_gw ?_) rfl rfl rfl ⟨hC, hy.2.2.1.1, hy.2.2.1.2, hna⟩ (by rw [hF.F, hF.L]; exact hR)) ⟨pz_blind hF.M, va_recv hF.K hP hc hy9, fun U hU hW => ⟨rfl, pz_pre hF hP hS U hU hW⟩⟩ rfl (by rw [has.len]; exact hal) hls (by rw [List.reverse_reverse]) (lv_room (by rw [hs3.cats]; exact hst)) hd ⟨hc1, hc2⟩⟩
  intro w9 h9
  unfold wsV at h9
  rcases List.mem_append.mp h9 with h9 | h9
  · simp only [List.mem_cons, List.not_mem_nil, or_false] at h9
    rcases h9 with rfl | rfl | rfl | rfl
    · exact h1
    · exact h2
    · exact h3
    · rw [← hC]; exact hy.2.2.2.2
  · exact pz_wsin hy w9 h9
theorem ee_callI {idx b n : Nat} {as : List Value} (hd : decode (pm_cc μ) pc = .ok (.invokespecial idx, 3)) (hE : EE Γ ν 0 (lv_args 0 (.ref b :: as)) [] w x1) (hy : pz_my ν) (hn : (lg_sl (.ref b :: as)).length ≤ pm_nL ν) (hna : pz_na ν n) (hal : as.length = n) (hi : (pm_y ν).name = "<init>") (hv : pm_ret ν = none)
    (h1 : Cond.methodLink (pm_own μ) idx (pm_y ν) ∈ GW) (h2 : Cond.instanceMethod (pm_y ν) ∈ GW)
    (hR : pm_F ν + 1 ≤ pm_F μ ∧ 8 + (pm_nL ν + 11) + pm_L ν ≤ pm_L μ) (hst : (st.map fun v => v.category).sum ≤ 8)
    (kk : ∀ rv w1, x1 = some (.inl rv, w1) → EE Γ μ (pc + 3) lv (rv.toList ++ st) w1 (K rv w1)) : EE Γ μ pc lv (as.reverse ++ .ref b :: st) w (p_call x1 K) := by
  refine ee_call hE hy hn ?_ kk
  intro p e s m args below meth c R H locs cells slots ls cst α ws rv w1 hF hP hD hS hw hls hsr hMet hc1 hc2
  obtain ⟨l1, k1, rfl, hs1, hs2⟩ := hsr.split
  obtain ⟨a, rest, rfl, hb, hs3⟩ := hs2.r
  have has : pz_sr α (pg_X Γ) as l1.reverse := by
    have h9 := hs1.rev
    rwa [List.reverse_reverse] at h9
  refine ⟨rest, _, hs3, va_runI (As := l1.reverse) (rest := rest) ⟨hF.x, hF.b, hF.l, hF.o, hF.w⟩ (hMet (.ref a :: l1.reverse) (has.pr hb)) (cwI n hF.w (goodIn_gw (pz_wsin hy)) (show pm_ws ν = Cond.code (pm_y ν) (pm_cc ν) (pm_nL ν) none :: GW by rw [← hv]) rfl rfl (hF.w _ hy.2.2.2.2) (hF.w _ h1) (hF.w _ h2) hi ⟨hy.2.2.1.1, hy.2.2.1.2, hna⟩ (by rw [hF.F, hF.L]; exact hR)) ⟨pz_blind hF.M, fun U hU hW => ⟨rfl, pz_pre hF hP hS U hU hW⟩⟩ rfl (by rw [has.len]; exact hal) hls (by rw [List.reverse_reverse]) (lv_room (by rw [hs3.cats]; exact hst)) hd ⟨hc1, hc2⟩⟩
theorem ee_callS {idx n : Nat} {as : List Value} (hd : decode (pm_cc μ) pc = .ok (.invokestatic idx, 3)) (hE : EE Γ ν 0 (lv_args 0 as) [] w x1) (hy : pz_my ν) (hn : (lg_sl as).length ≤ pm_nL ν) (hna : pz_na ν n) (hal : as.length = n)
    (h1 : Cond.methodLink (pm_own μ) idx (pm_y ν) ∈ GW) (h2 : Cond.static (pm_y ν) ∈ GW)
    (hR : pm_F ν + 1 ≤ pm_F μ ∧ 8 + (pm_nL ν + 11) + pm_L ν ≤ pm_L μ) (hst : (st.map fun v => v.category).sum ≤ 8)
    (kk : ∀ rv w1, x1 = some (.inl rv, w1) → EE Γ μ (pc + 3) lv (rv.toList ++ st) w1 (K rv w1)) : EE Γ μ pc lv (as.reverse ++ st) w (p_call x1 K) := by
  refine ee_call hE hy hn ?_ kk
  intro p e s m args below meth c R H locs cells slots ls cst α ws rv w1 hF hP hD hS hw hls hsr hMet hc1 hc2
  obtain ⟨l1, rest, rfl, hs1, hs3⟩ := hsr.split
  have has : pz_sr α (pg_X Γ) as l1.reverse := by
    have h9 := hs1.rev
    rwa [List.reverse_reverse] at h9
  refine ⟨rest, _, hs3, va_runS (As := l1.reverse) (rest := rest) ⟨hF.x, hF.b, hF.l, hF.o, hF.w⟩ (hMet l1.reverse has) (va_cwS n hF.w (goodIn_gw ?_) rfl rfl rfl ⟨hy.2.2.1.1, hy.2.2.1.2, hna⟩ (by rw [hF.F, hF.L]; exact hR)) ⟨pz_blind hF.M, fun U hU hW => ⟨rfl, pz_pre hF hP hS U hU hW⟩⟩ rfl (by rw [has.len]; exact hal) hls (by rw [List.reverse_reverse]) (lv_room (by rw [hs3.cats]; exact hst)) hd ⟨hc1, hc2⟩⟩
  intro w9 h9
  unfold va_wsS at h9
  rcases List.mem_append.mp h9 with h9 | h9
  · simp only [List.mem_cons, List.not_mem_nil, or_false] at h9
    rcases h9 with rfl | rfl | rfl
    · exact h1
    · exact h2
    · exact hy.2.2.2.2
  · exact pz_wsin hy w9 h9
theorem ee_kI {rv : Option Value} {K : Int32 → PW → PX} (k : ∀ v, EE Γ μ pc lv (.int v :: st) w (K v w)) : EE Γ μ pc lv (rv.toList ++ st) w (p_kI K rv w) := by
  match rv with
  | some (.int v) => exact k v
  | none => exact ee_none
  | some (.long v) => exact ee_none
  | some (.float v) => exact ee_none
  | some (.double v) => exact ee_none
  | some .null => exact ee_none
  | some (.ref v) => exact ee_none
  | some (.retAddr v) => exact ee_none
theorem ee_kJ {rv : Option Value} {K : Int64 → PW → PX} (k : ∀ v, EE Γ μ pc lv (.long v :: st) w (K v w)) : EE Γ μ pc lv (rv.toList ++ st) w (p_kJ K rv w) := by
  match rv with
  | some (.long v) => exact k v
  | none => exact ee_none
  | some (.int v) => exact ee_none
  | some (.float v) => exact ee_none
  | some (.double v) => exact ee_none
  | some .null => exact ee_none
  | some (.ref v) => exact ee_none
  | some (.retAddr v) => exact ee_none
theorem ee_kR {rv : Option Value} {K : Nat → PW → PX} (k : ∀ v, EE Γ μ pc lv (.ref v :: st) w (K v w)) : EE Γ μ pc lv (rv.toList ++ st) w (p_kR K rv w) := by
  match rv with
  | some (.ref v) => exact k v
  | none => exact ee_none
  | some (.int v) => exact ee_none
  | some (.float v) => exact ee_none
  | some (.double v) => exact ee_none
  | some .null => exact ee_none
  | some (.long v) => exact ee_none
  | some (.retAddr v) => exact ee_none
theorem ee_kV {rv : Option Value} {K : PW → PX} (k : EE Γ μ pc lv st w (K w)) : EE Γ μ pc lv (rv.toList ++ st) w (p_kV K rv w) := by
  match rv with
  | none => exact k
  | some _ => exact ee_none
end CALLS
end
section
/-! Nest mates, given tables, casts, new arrays. -/
section NEST
variable {Γ : PG} {μ ν : PM} {pc : Nat} {lv : List (Nat × Value)} {st : List Value} {w : PW} {x0 x1 : PX} {K : Option Value → PW → PX}
theorem ee_callIN {idx b n : Nat} {host : String} {as : List Value} (hd : decode (pm_cc μ) pc = .ok (.invokespecial idx, 3)) (hE : EE Γ ν 0 (lv_args 0 (.ref b :: as)) [] w x1) (hy : pz_my ν) (hn : (lg_sl (.ref b :: as)).length ≤ pm_nL ν) (hna : pz_na ν n) (hal : as.length = n) (hi : (pm_y ν).name = "<init>") (hv : pm_ret ν = none)
    (h1 : Cond.methodLinkNest (pm_own μ) idx (pm_y ν) host ∈ NW) (h2 : Cond.instanceMethod (pm_y ν) ∈ GW)
    (hR : pm_F ν + 1 ≤ pm_F μ ∧ 8 + (pm_nL ν + 11) + pm_L ν ≤ pm_L μ) (hst : (st.map fun v => v.category).sum ≤ 8)
    (kk : ∀ rv w1, x1 = some (.inl rv, w1) → EE Γ μ (pc + 3) lv (rv.toList ++ st) w1 (K rv w1)) : EE Γ μ pc lv (as.reverse ++ .ref b :: st) w (p_call x1 K) := by
  refine ee_call hE hy hn ?_ kk
  intro p e s m args below meth c R H locs cells slots ls cst α ws rv w1 hF hP hD hS hw hls hsr hMet hc1 hc2
  obtain ⟨l1, k1, rfl, hs1, hs2⟩ := hsr.split
  obtain ⟨a, rest, rfl, hb, hs3⟩ := hs2.r
  have has : pz_sr α (pg_X Γ) as l1.reverse := by
    have h9 := hs1.rev
    rwa [List.reverse_reverse] at h9
  refine ⟨rest, _, hs3, va_runIN (As := l1.reverse) (rest := rest) ⟨hF.x, hF.b, hF.l, hF.o, hF.w⟩ (hMet (.ref a :: l1.reverse) (has.pr hb)) ⟨va_cnB n hF.w (goodIn_gw (pz_wsin hy)) (show pm_ws ν = Cond.code (pm_y ν) (pm_cc ν) (pm_nL ν) none :: GW by rw [← hv]) rfl rfl (hF.N h1) (hF.w _ hy.2.2.2.2) ⟨hy.2.2.1.1, hy.2.2.1.2, hna⟩ (by rw [hF.F, hF.L]; exact hR), hi, hF.w _ h2⟩ ⟨pz_blind hF.M, fun U hU hW => ⟨rfl, pz_pre hF hP hS U hU hW⟩⟩ rfl (by rw [has.len]; exact hal) hls (by rw [List.reverse_reverse]) (lv_room (by rw [hs3.cats]; exact hst)) hd ⟨hc1, hc2⟩⟩
theorem ee_callSN {idx n : Nat} {host : String} {as : List Value} (hd : decode (pm_cc μ) pc = .ok (.invokestatic idx, 3)) (hE : EE Γ ν 0 (lv_args 0 as) [] w x1) (hy : pz_my ν) (hn : (lg_sl as).length ≤ pm_nL ν) (hna : pz_na ν n) (hal : as.length = n)
    (h1 : Cond.methodLinkNest (pm_own μ) idx (pm_y ν) host ∈ NW) (h2 : Cond.static (pm_y ν) ∈ GW)
    (hR : pm_F ν + 1 ≤ pm_F μ ∧ 8 + (pm_nL ν + 11) + pm_L ν ≤ pm_L μ) (hst : (st.map fun v => v.category).sum ≤ 8)
    (kk : ∀ rv w1, x1 = some (.inl rv, w1) → EE Γ μ (pc + 3) lv (rv.toList ++ st) w1 (K rv w1)) : EE Γ μ pc lv (as.reverse ++ st) w (p_call x1 K) := by
  refine ee_call hE hy hn ?_ kk
  intro p e s m args below meth c R H locs cells slots ls cst α ws rv w1 hF hP hD hS hw hls hsr hMet hc1 hc2
  obtain ⟨l1, rest, rfl, hs1, hs3⟩ := hsr.split
  have has : pz_sr α (pg_X Γ) as l1.reverse := by
    have h9 := hs1.rev
    rwa [List.reverse_reverse] at h9
  exact ⟨rest, _, hs3, va_runSN (As := l1.reverse) (rest := rest) ⟨hF.x, hF.b, hF.l, hF.o, hF.w⟩ (hMet l1.reverse has) ⟨va_cnB n hF.w (goodIn_gw (pz_wsin hy)) rfl rfl rfl (hF.N h1) (hF.w _ hy.2.2.2.2) ⟨hy.2.2.1.1, hy.2.2.1.2, hna⟩ (by rw [hF.F, hF.L]; exact hR), hF.w _ h2, trivial⟩ ⟨pz_blind hF.M, fun U hU hW => ⟨rfl, pz_pre hF hP hS U hU hW⟩⟩ rfl (by rw [has.len]; exact hal) hls (by rw [List.reverse_reverse]) (lv_room (by rw [hs3.cats]; exact hst)) hd ⟨hc1, hc2⟩⟩
/-- a given table -/
theorem ee_gets {idx j : Nat} (hj : j < 3) (hd : decode (pm_cc μ) pc = .ok (.getstatic idx, 3)) (hl : pz_lk (pm_own μ) idx "WaveFiles" (pz_sn j) "[I") (k : EE Γ μ (pc + 3) lv (.retAddr j :: st) w x0) : EE Γ μ pc lv st w x0 := by
  refine ee_of (fun p e s m args below meth c R α0 b1 b2 Q hF hB hg => ?_) k
  intro H locs cells slots ls cst ⟨α, clv, ws, hα, hP, hD, hS, hw, hls, hlr, hsr, e1, e2⟩
  have hZ := ((hF.S s hF.E).2.1 j hj).1
  rcases hl with hl | ⟨host, hl⟩ | ⟨ref, hl, hsm⟩
  · exact va_gets hF.x hF.b hZ hS hF.o (hF.w _ hl) (fun _ h => h) hd (hg _ _ _ _ _ _ ⟨α, clv, ws, hα, hP, hD, hS, hw, hls, hlr, hsr.px, e1, e2⟩)
  · exact va_getsN hF.x hF.b hZ hS hF.o (va_Nw.use rfl (hF.N hl)) (fun _ h => h) hd (hg _ _ _ _ _ _ ⟨α, clv, ws, hα, hP, hD, hS, hw, hls, hlr, hsr.px, e1, e2⟩)
  · exact va_gets hF.x hF.b hZ hS hF.o (hF.w _ hl) (u_same (hF.w _ hsm)) hd (hg _ _ _ _ _ _ ⟨α, clv, ws, hα, hP, hD, hS, hw, hls, hlr, hsr.px, e1, e2⟩)
def p_tab (j : Nat) (i : Int32) : Option Int32 := if i < 0 ∨ 11 ≤ i.toNatClampNeg then none else some (pz_tab j i.toNatClampNeg)
def p_tlen (_ : Nat) : Int32 := 11
theorem ee_tald {j : Nat} {i : Int32} {K : Int32 → PX} (hj : j < 3) (hd : decode (pm_cc μ) pc = .ok (.iaload, 1)) (kk : ∀ v, p_tab j i = some v → EE Γ μ (pc + 1) lv (.int v :: st) w (K v)) : EE Γ μ pc lv (.int i :: .retAddr j :: st) w ((p_tab j i).bind K) := by
  refine ee_bind (fun v hv => ?_)
  have h9 := kk v hv
  unfold p_tab at hv
  by_cases hc : i < 0 ∨ 11 ≤ i.toNatClampNeg
  · rw [if_pos hc] at hv; cases hv
  rw [if_neg hc] at hv
  cases hv
  refine ee_of (fun p e s m args below meth c R α0 b1 b2 Q hF hB hg => ?_) h9
  intro H locs cells slots ls cst ⟨α, clv, ws, hα, hP, hD, hS, hw, hls, hlr, hsr, e1, e2⟩
  obtain ⟨_, rfl, hs1_⟩ := hsr.i
  obtain ⟨_, rfl, hs2_⟩ := hs1_.x
  exact va_ti hF.x hF.b ((hF.S s hF.E).2.1 j hj).2 hS hc rfl hd (hg _ _ _ _ _ _ ⟨α, clv, ws, hα, hP, hD, hS, hw, hls, hlr, hs2_.pi, e1, e2⟩)
theorem ee_tlen {j : Nat} (hj : j < 3) (hd : decode (pm_cc μ) pc = .ok (.arraylength, 1)) (k : EE Γ μ (pc + 1) lv (.int (p_tlen j) :: st) w x0) : EE Γ μ pc lv (.retAddr j :: st) w x0 := by
  refine ee_of (fun p e s m args below meth c R α0 b1 b2 Q hF hB hg => ?_) k
  intro H locs cells slots ls cst ⟨α, clv, ws, hα, hP, hD, hS, hw, hls, hlr, hsr, e1, e2⟩
  obtain ⟨_, rfl, hs1_⟩ := hsr.x
  exact va_tlen hF.x hF.b ((hF.S s hF.E).2.1 j hj).2 hS (v := p_tlen j) (show Int32.ofNat 11 = 11 by decide) hd (hg _ _ _ _ _ _ ⟨α, clv, ws, hα, hP, hD, hS, hw, hls, hlr, hs1_.pi, e1, e2⟩)
theorem ee_cast {idx a ci : Nat} {C nm : String} {T : u_T} {N : Nat} {fs : List Value} (hd : decode (pm_cc μ) pc = .ok (.checkcast idx, 3)) (hc : vwCl[ci]? = some (C, T, N)) (h1 : Cond.classLink (pm_own μ) idx nm ∈ GW) (h2 : Cond.castable C nm ∈ NW) (ho : w.1[a]? = some (.inr (ci, fs))) (k : EE Γ μ (pc + 3) lv (.ref a :: st) w x0) : EE Γ μ pc lv (.ref a :: st) w x0 := by
  refine ee_of (fun p e s m args below meth c R α0 b1 b2 Q hF hB hg => ?_) k
  intro H locs cells slots ls cst ⟨α, clv, ws, hα, hP, hD, hS, hw, hls, hlr, hsr, e1, e2⟩
  obtain ⟨a0, _, rfl, ha0, hs1_⟩ := hsr.r
  obtain ⟨y, hy, gs, rfl, hgs⟩ := hw.at ha0 ho
  exact va_castY hF.x hF.b hF.o (hF.w _ h1) (hF.N h2) (va_recv hF.K hP hc hy) hd (hg _ _ _ _ _ _ ⟨α, clv, ws, hα, hP, hD, hS, hw, hls, hlr, hs1_.pr ha0, e1, e2⟩)

theorem ee_newI {i : Int32} {K : Nat → PW → PX} (hd : decode (pm_cc μ) pc = .ok (.newarray .int, 2)) (kk : ∀ a w1, a = w.1.length → w1 = (w.1 ++ [.inl (0, i.toNatClampNeg, .inl fun _ => 0)], w.2.1 + 1, w.2.2 + i.toNatClampNeg) → ¬ i < 0 → EE Γ μ (pc + 2) lv (.ref a :: st) w1 (K a w1)) : EE Γ μ pc lv (.int i :: st) w (p_newA w 0 4 i K) :=
  ee_newa hd (ty := .int) rfl rfl rfl rfl (fun _ _ h => h) gw_acI kk
theorem ee_newB {i : Int32} {K : Nat → PW → PX} (hd : decode (pm_cc μ) pc = .ok (.newarray .byte, 2)) (kk : ∀ a w1, a = w.1.length → w1 = (w.1 ++ [.inl (1, i.toNatClampNeg, .inl fun _ => 0)], w.2.1 + 1, w.2.2 + i.toNatClampNeg) → ¬ i < 0 → EE Γ μ (pc + 2) lv (.ref a :: st) w1 (K a w1)) : EE Γ μ pc lv (.int i :: st) w (p_newA w 1 1 i K) :=
  ee_newa hd (ty := .byte) rfl rfl rfl rfl (fun _ _ h => h) gw_acB kk
theorem ee_newZ {i : Int32} {K : Nat → PW → PX} (hd : decode (pm_cc μ) pc = .ok (.newarray .boolean, 2)) (kk : ∀ a w1, a = w.1.length → w1 = (w.1 ++ [.inl (2, i.toNatClampNeg, .inl fun _ => 0)], w.2.1 + 1, w.2.2 + i.toNatClampNeg) → ¬ i < 0 → EE Γ μ (pc + 2) lv (.ref a :: st) w1 (K a w1)) : EE Γ μ pc lv (.int i :: st) w (p_newA w 2 1 i K) :=
  ee_newa hd (ty := .boolean) rfl rfl rfl rfl (fun _ _ h => h) gw_acZ kk
end NEST
end
section
/-! Rules for the JDK's own methods: copies, rows of references, class objects. -/
def p_copy (w : PW) (t : Nat) (ty : FieldType) (a0 : Nat) (sp : Int32) (a1 : Nat) (dp n : Int32) : Option PW := (p_arr w a0 t).bind fun q0 => (p_arr w a1 t).bind fun q1 =>
  if (¬ sp < 0 ∧ ¬ dp < 0 ∧ ¬ n < 0 ∧ sp.toNatClampNeg + n.toNatClampNeg ≤ q0.1 ∧ dp.toNatClampNeg + n.toNatClampNeg ≤ q1.1) ∧ ∀ i, i < n.toNatClampNeg → fits ty (.int (q0.2 (sp.toNatClampNeg + i))) = true then some (w.1.set a1 (.inl (t, q1.1, .inl (va_cpy q0.2 q1.2 sp.toNatClampNeg dp.toNatClampNeg n.toNatClampNeg))), w.2) else none
def p_arrR (w : PW) (a : Nat) : Option (Nat × (Nat → Option Nat)) := match w.1[a]? with
  | some (.inl (t', n, .inr (.inr (.inr (.inr f))))) => if t' = 4 then some (n, f) else none
  | _ => none
theorem p_arrR_eq {w : PW} {a : Nat} {q : Nat × (Nat → Option Nat)} : p_arrR w a = some q ↔ w.1[a]? = some (.inl (4, q.1, .inr (.inr (.inr (.inr q.2))))) := by
  unfold p_arrR
  constructor
  · intro h
    split at h
    · rename_i t' n f he
      by_cases hc : t' = 4
      · rw [if_pos hc] at h
        cases h
        rw [he, hc]
      · rw [if_neg hc] at h
        cases h
    · cases h
  · intro h
    rw [h]
    simp
/-- a made box or a tile part lies there -/
def p_elt (w : PW) (a : Nat) : Bool := match w.1[a]? with
  | some (.inr (c, _)) => c == 4 || c == 8
  | _ => false
def p_eltO (w : PW) (x : Option Nat) : Bool := match x with
  | none => true
  | some a => p_elt w a
def p_aldR (w : PW) (a : Nat) (i : Int32) : Option Nat := (p_arrR w a).bind fun q => if i < 0 ∨ q.1 ≤ i.toNatClampNeg then none else q.2 i.toNatClampNeg
def p_astR (w : PW) (a : Nat) (i : Int32) (x : Option Nat) : Option PW := (p_arrR w a).bind fun q => if i < 0 ∨ q.1 ≤ i.toNatClampNeg ∨ p_eltO w x = false then none else some (w.1.set a (.inl (4, q.1, .inr (.inr (.inr (.inr (va_up q.2 i.toNatClampNeg x)))))), w.2)
def p_newR (w : PW) (i : Int32) (K : Nat → PW → PX) : PX := if i < 0 ∨ 536870912 < i.toNatClampNeg * 4 then none else K w.1.length (w.1 ++ [.inl (4, i.toNatClampNeg, .inr (.inr (.inr (.inr fun _ => none))))], w.2.1 + 1, w.2.2 + i.toNatClampNeg)
def p_copyR (w : PW) (a0 : Nat) (sp : Int32) (a1 : Nat) (dp n : Int32) : Option PW := (p_arrR w a0).bind fun q0 => (p_arrR w a1).bind fun q1 =>
  if (¬ sp < 0 ∧ ¬ dp < 0 ∧ ¬ n < 0 ∧ sp.toNatClampNeg + n.toNatClampNeg ≤ q0.1 ∧ dp.toNatClampNeg + n.toNatClampNeg ≤ q1.1) ∧ ∀ i, i < n.toNatClampNeg → p_eltO w (q0.2 (sp.toNatClampNeg + i)) = true then some (w.1.set a1 (.inl (4, q1.1, .inr (.inr (.inr (.inr (va_cpy q0.2 q1.2 sp.toNatClampNeg dp.toNatClampNeg n.toNatClampNeg)))))), w.2) else none
theorem p_elt_eq {w : PW} {a : Nat} (h : p_elt w a = true) : ∃ ci fs, (ci = 4 ∨ ci = 8) ∧ w.1[a]? = some (.inr (ci, fs)) := by
  unfold p_elt at h
  split at h
  · rename_i c fs he
    simp at h
    exact ⟨c, fs, h, he⟩
  · cases h
section JDKR
variable {Γ : PG} {μ : PM} {pc : Nat} {lv : List (Nat × Value)} {st : List Value} {w : PW} {x0 : PX}
theorem ee_copy {t : Nat} {ty : FieldType} {idx a0 a1 : Nat} {sp dp n : Int32} {K : PW → PX} (hd : decode (pm_cc μ) pc = .ok (.invokestatic idx, 3)) (ht : pz_TYS[t]? = some ty) (hp9 : refKind ty = false) (h1 : Cond.methodLink (pm_own μ) idx arraycopyName ∈ GW) (h2 : Cond.native arraycopyName ∈ GW) (h3 : Cond.static arraycopyName ∈ GW) (h4 : Cond.initialized "java/lang/System" ∈ GW) (hR : 1 ≤ pm_F μ ∧ (st.map fun v => v.category).sum + (nativeFrameWords "java/lang/System" "arraycopy" 5 + 11) ≤ pm_L μ)
    (kk : ∀ w1, p_copy w t ty a0 sp a1 dp n = some w1 → EE Γ μ (pc + 3) lv st w1 (K w1)) : EE Γ μ pc lv (.int n :: .int dp :: .ref a1 :: .int sp :: .ref a0 :: st) w ((p_copy w t ty a0 sp a1 dp n).bind K) := by
  refine ee_bind (fun w1 hv => ?_)
  have h9 := kk w1 hv
  unfold p_copy at hv
  obtain ⟨q0, g1, hv⟩ := Option.bind_eq_some_iff.mp hv
  obtain ⟨q1, g2, hv⟩ := Option.bind_eq_some_iff.mp hv
  split at hv
  · rename_i hc
    cases hv
    obtain ⟨⟨c1, c2, c3, c4, c5⟩, c6⟩ := hc
    refine ee_w ⟨by exact Nat.le_refl _, by exact Nat.le_refl _⟩ (fun p e s m args below meth c R α0 b1 b2 Q hF hB hg => ?_) h9
    intro H locs cells slots ls cst ⟨α, clv, ws, hα, hP, hD, hS, hw, hls, hlr, hsr, e1, e2⟩
    obtain ⟨_, rfl, hs1_⟩ := hsr.i
    obtain ⟨_, rfl, hs2_⟩ := hs1_.i
    obtain ⟨x1, _, rfl, hx1, hs3_⟩ := hs2_.r
    obtain ⟨_, rfl, hs4_⟩ := hs3_.i
    obtain ⟨x0, rest, rfl, hx0, hs5_⟩ := hs4_.r
    obtain ⟨y, hy, cA, ty2, g, hT, rfl, (rfl : g = .inl q0.2)⟩ := hw.at hx0 (p_arr_eq.mp g1)
    obtain ⟨y, hz, cB, ty3, g, hT3, rfl, (rfl : g = .inl q1.2)⟩ := hw.at hx1 (p_arr_eq.mp g2)
    have e9 := pz_ty hF.T hT ht
    have e8 := pz_ty hF.T hT3 ht
    subst e9
    subst e8
    exact va_copyi hF.x hF.b (by rw [hF.l]; exact hls.1.symm) hF.o (hF.w _ h1) (hF.w _ h2) (hF.w _ h3) (hF.w _ h4) hF.K hP hD hS a0 a1 t t hy hz hT hT3 hp9 c1 c2 c3 c4 c5 c6 (by rw [hF.F]; exact hR.1) (by rw [hs5_.cats, hF.L]; exact hR.2) hd (fun H1 locs1 hP1 hD1 hS1 => hg _ _ _ _ _ _ ⟨α, clv, _, hα, hP1, hD1, hS1, hw.set hx1 ⟨_, _, _, hT3, rfl, rfl⟩, hls, hlr, hs5_, e1, e2⟩)
  · cases hv
/-- ArrayList's empty row -/
theorem ee_getsE {idx : Nat} (hd : decode (pm_cc μ) pc = .ok (.getstatic idx, 3)) (hl : Cond.fieldLink (pm_own μ) idx "java/util/ArrayList" "DEFAULTCAPACITY_EMPTY_ELEMENTDATA" "[Ljava/lang/Object;" ∈ GW) (k : EE Γ μ (pc + 3) lv (.retAddr 3 :: st) w x0) : EE Γ μ pc lv st w x0 := by
  refine ee_of (fun p e s m args below meth c R α0 b1 b2 Q hF hB hg => ?_) k
  intro H locs cells slots ls cst ⟨α, clv, ws, hα, hP, hD, hS, hw, hls, hlr, hsr, e1, e2⟩
  exact va_gets hF.x hF.b (hF.S s hF.E).2.2.1 hS hF.o (hF.w _ hl) (fun _ h => h) hd (hg _ _ _ _ _ _ ⟨α, clv, ws, hα, hP, hD, hS, hw, hls, hlr, hsr.px, e1, e2⟩)
theorem ee_tlenE (hd : decode (pm_cc μ) pc = .ok (.arraylength, 1)) (k : EE Γ μ (pc + 1) lv (.int 0 :: st) w x0) : EE Γ μ pc lv (.retAddr 3 :: st) w x0 := by
  refine ee_of (fun p e s m args below meth c R α0 b1 b2 Q hF hB hg => ?_) k
  intro H locs cells slots ls cst ⟨α, clv, ws, hα, hP, hD, hS, hw, hls, hlr, hsr, e1, e2⟩
  obtain ⟨_, rfl, hs1_⟩ := hsr.x
  exact va_tlen hF.x hF.b (hF.S s hF.E).2.2.2.1 hS (v := 0) (by decide) hd (hg _ _ _ _ _ _ ⟨α, clv, ws, hα, hP, hD, hS, hw, hls, hlr, hs1_.pi, e1, e2⟩)
def p_getV (w : PW) (a ci k : Nat) : Option Value := (p_obj w a ci).bind fun fs => fs[k]?
def p_spl (v : Value) (K1 : Nat → PX) (K2 : PX) : PX := match v with
  | .ref x => K1 x
  | .retAddr n => if n = 3 then K2 else none
  | _ => none
theorem ee_spl {v : Value} {K1 : Nat → PX} {K2 : PX} (k1 : ∀ x, EE Γ μ pc lv (.ref x :: st) w (K1 x)) (k2 : EE Γ μ pc lv (.retAddr 3 :: st) w K2) : EE Γ μ pc lv (v :: st) w (p_spl v K1 K2) := by
  match v with
  | .ref x => exact k1 x
  | .retAddr n =>
    show EE Γ μ pc lv (.retAddr n :: st) w (if n = 3 then K2 else none)
    by_cases h : n = 3
    · subst h; rw [if_pos rfl]; exact k2
    · rw [if_neg h]; exact ee_none
  | .int _ => exact ee_none
  | .long _ => exact ee_none
  | .float _ => exact ee_none
  | .double _ => exact ee_none
  | .null => exact ee_none
theorem ee_getV {idx a ci k : Nat} {K1 : Nat → PX} {K2 : PX} (hd : decode (pm_cc μ) pc = .ok (.getfield idx, 3)) (hl : pz_fl (pm_own μ) idx ci k) (k1 : ∀ x, EE Γ μ (pc + 3) lv (.ref x :: st) w (K1 x)) (k2 : EE Γ μ (pc + 3) lv (.retAddr 3 :: st) w K2) : EE Γ μ pc lv (.ref a :: st) w ((p_getV w a ci k).bind fun v => p_spl v K1 K2) := by
  refine ee_bind (fun v hv => ?_)
  unfold p_getV at hv
  obtain ⟨fs, h1, h2⟩ := Option.bind_eq_some_iff.mp hv
  exact ee_getv hd hl (p_obj_eq.mp h1) h2 (ee_spl k1 k2)
/-- a split of a local -/
theorem ee_splL {v : Value} {K1 : Nat → PX} {K2 : PX} {l1 l2 : List (Nat × Value)} {i : Nat} (k1 : ∀ x, EE Γ μ pc (l1 ++ (i, .ref x) :: l2) st w (K1 x)) (k2 : EE Γ μ pc (l1 ++ (i, .retAddr 3) :: l2) st w K2) : EE Γ μ pc (l1 ++ (i, v) :: l2) st w (p_spl v K1 K2) := by
  match v with
  | .ref x => exact k1 x
  | .retAddr n =>
    show EE Γ μ pc (l1 ++ (i, .retAddr n) :: l2) st w (if n = 3 then K2 else none)
    by_cases h : n = 3
    · subst h; rw [if_pos rfl]; exact k2
    · rw [if_neg h]; exact ee_none
  | .int _ => exact ee_none
  | .long _ => exact ee_none
  | .float _ => exact ee_none
  | .double _ => exact ee_none
  | .null => exact ee_none
theorem ee_aload_nT {kf : Fin 4} {x : Nat} (j : Nat) (hd : decode (pm_cc μ) pc = .ok (.aload_n kf, 1)) (hl : lv[j]? = some ((kf : Nat), .retAddr x)) (k : EE Γ μ (pc + 1) lv (.retAddr x :: st) w x0) : EE Γ μ pc lv st w x0 := by
  refine ee_of (fun p e s m args below meth c R α0 b1 b2 Q hF hB hg => ?_) k
  intro H locs cells slots ls cst ⟨α, clv, ws, hα, hP, hD, hS, hw, hls, hlr, hsr, e1, e2⟩
  obtain ⟨c1, hm, (rfl : c1 = .ref (pg_X Γ x))⟩ := hlr.get hl
  exact lv_aload_n hF.x hF.b hd rfl (hls.2.2 _ hm) (hg _ _ _ _ _ _ ⟨α, clv, ws, hα, hP, hD, hS, hw, hls, hlr, hsr.px, e1, e2⟩)
theorem ee_astore_nT {kf : Fin 4} {x : Nat} {lv2 : List (Nat × Value)} (hd : decode (pm_cc μ) pc = .ok (.astore_n kf, 1)) (hn : (kf : Nat) < pm_nL μ) (hl : ((kf : Nat), Value.retAddr x) :: lv.filter (fun q => !(q.1 == (kf : Nat)) && !(q.1 + 1 == (kf : Nat) && q.2.category == 2)) = lv2) (k : EE Γ μ (pc + 1) lv2 st w x0) : EE Γ μ pc lv (Value.retAddr x :: st) w x0 := by
  subst hl
  refine ee_of (fun p e s m args below meth c R α0 b1 b2 Q hF hB hg => ?_) k
  intro H locs cells slots ls cst ⟨α, clv, ws, hα, hP, hD, hS, hw, hls, hlr, hsr, e1, e2⟩
  obtain ⟨_, rfl, hs1_⟩ := hsr.x
  exact lv_astore_n hF.x hF.b hd rfl hls hn rfl (fun ls2 hls2 => hg _ _ _ _ _ _ ⟨α, _, ws, hα, hP, hD, hS, hw, hls2, ⟨rfl, rfl, hlr.filter (fun k9 c9 => !(k9 == (kf : Nat)) && !(k9 + 1 == (kf : Nat) && c9 == 2))⟩, hs1_, e1, e2⟩)
theorem ee_nT (k : Nat) (t : FieldType) : ∀ (α : List Nat) (X : Nat → Nat) (c : Value), pz_vr α X (.retAddr k) c → narrow (.array t) c = c ∧ fits (.array t) c = true := by
  intro α X c h
  rw [show c = .ref (X k) from h]
  exact ⟨rfl, rfl⟩
theorem ee_null (hd : decode (pm_cc μ) pc = .ok (.aconst_null, 1)) (k : EE Γ μ (pc + 1) lv (.null :: st) w x0) : EE Γ μ pc lv st w x0 := by
  refine ee_of (fun p e s m args below meth c R α0 b1 b2 Q hF hB hg => ?_) k
  intro H locs cells slots ls cst ⟨α, clv, ws, hα, hP, hD, hS, hw, hls, hlr, hsr, e1, e2⟩
  exact lv_null hF.x hF.b hd (hg _ _ _ _ _ _ ⟨α, clv, ws, hα, hP, hD, hS, hw, hls, hlr, (hsr.pc (show pz_vr α (pg_X Γ) .null .null from rfl)), e1, e2⟩)
theorem ee_aald {a : Nat} {i : Int32} {K : Nat → PX} (hd : decode (pm_cc μ) pc = .ok (.aaload, 1)) (kk : ∀ v, p_aldR w a i = some v → EE Γ μ (pc + 1) lv (.ref v :: st) w (K v)) : EE Γ μ pc lv (.int i :: .ref a :: st) w ((p_aldR w a i).bind K) := by
  refine ee_bind (fun v hv => ?_)
  have h9 := kk v hv
  unfold p_aldR at hv
  obtain ⟨q, h1, h2⟩ := Option.bind_eq_some_iff.mp hv
  by_cases hc : i < 0 ∨ q.1 ≤ i.toNatClampNeg
  · rw [if_pos hc] at h2; cases h2
  rw [if_neg hc] at h2
  refine ee_of (fun p e s m args below meth c R α0 b1 b2 Q hF hB hg => ?_) h9
  intro H locs cells slots ls cst ⟨α, clv, ws, hα, hP, hD, hS, hw, hls, hlr, hsr, e1, e2⟩
  obtain ⟨_, rfl, hs1_⟩ := hsr.i
  obtain ⟨a0, _, rfl, ha0, hs2_⟩ := hs1_.r
  obtain ⟨y, hy, cA, ty2, g, hT, rfl, f, rfl, hf⟩ := hw.at ha0 (p_arrR_eq.mp h1)
  have e9 := pz_ty hF.T hT (ty2 := .object "java/lang/Object") rfl
  subst e9
  have h5 := hf i.toNatClampNeg
  rw [h2] at h5
  obtain ⟨b, hb, h6⟩ := h5
  refine va_aldq hF.x hF.b hF.K hP a 4 hy hT hc hd ?_
  rw [h6]
  exact hg _ _ _ _ _ _ ⟨α, clv, ws, hα, hP, hD, hS, hw, hls, hlr, hs2_.pr hb, e1, e2⟩
theorem pz_upr {α : List Nat} {f g : Nat → Option Nat} {x y : Option Nat} (h : ∀ j, pz_or α (f j) (g j)) (hx : pz_or α x y) (k : Nat) : ∀ j, pz_or α (va_up f k x j) (va_up g k y j) := by
  intro j
  unfold va_up
  by_cases e : j = k
  · rw [if_pos e, if_pos e]; exact hx
  · rw [if_neg e, if_neg e]; exact h j
theorem pz_cpr {α : List Nat} {f g f' g' : Nat → Option Nat} (h : ∀ j, pz_or α (f j) (f' j)) (h2 : ∀ j, pz_or α (g j) (g' j)) (sp dp n : Nat) : ∀ j, pz_or α (va_cpy f g sp dp n j) (va_cpy f' g' sp dp n j) := by
  intro j
  unfold va_cpy
  by_cases e : dp ≤ j ∧ j < dp + n
  · rw [if_pos e, if_pos e]; exact h _
  · rw [if_neg e, if_neg e]; exact h2 _
theorem ee_aastN {a : Nat} {i : Int32} {K : PW → PX} (hd : decode (pm_cc μ) pc = .ok (.aastore, 1)) (kk : ∀ w1, p_astR w a i none = some w1 → EE Γ μ (pc + 1) lv st w1 (K w1)) : EE Γ μ pc lv (.null :: .int i :: .ref a :: st) w ((p_astR w a i none).bind K) := by
  refine ee_bind (fun v hv => ?_)
  have h9 := kk v hv
  unfold p_astR at hv
  obtain ⟨q, h1, h2⟩ := Option.bind_eq_some_iff.mp hv
  by_cases hc : i < 0 ∨ q.1 ≤ i.toNatClampNeg ∨ p_eltO w none = false
  · rw [if_pos hc] at h2; cases h2
  rw [if_neg hc] at h2
  cases h2
  have hin : vp_in i q.1 := fun h => hc (h.elim Or.inl (fun h => Or.inr (Or.inl h)))
  refine ee_w ⟨by exact Nat.le_refl _, by exact Nat.le_refl _⟩ (fun p e s m args below meth c R α0 b1 b2 Q hF hB hg => ?_) h9
  intro H locs cells slots ls cst ⟨α, clv, ws, hα, hP, hD, hS, hw, hls, hlr, hsr, e1, e2⟩
  obtain ⟨c0, _, rfl, (rfl : c0 = .null), hs1_⟩ := hsr.c
  obtain ⟨_, rfl, hs2_⟩ := hs1_.i
  obtain ⟨a0, _, rfl, ha0, hs3_⟩ := hs2_.r
  obtain ⟨y, hy, cA, ty2, g, hT, rfl, f, rfl, hf⟩ := hw.at ha0 (p_arrR_eq.mp h1)
  have e9 := pz_ty hF.T hT (ty2 := .object "java/lang/Object") rfl
  subst e9
  exact va_astqN hF.x hF.b hF.K hP hD hS a 4 hy hT hin hd (fun H1 locs1 hP1 hD1 hS1 => hg _ _ _ _ _ _ ⟨α, clv, _, hα, hP1, hD1, hS1, hw.set ha0 ⟨_, _, _, hT, rfl, _, rfl, pz_upr hf (show pz_or α none none from rfl) _⟩, hls, hlr, hs3_, e1, e2⟩)
theorem ee_aast {a x : Nat} {i : Int32} {K : PW → PX} (hd : decode (pm_cc μ) pc = .ok (.aastore, 1)) (kk : ∀ w1, p_astR w a i (some x) = some w1 → EE Γ μ (pc + 1) lv st w1 (K w1)) : EE Γ μ pc lv (.ref x :: .int i :: .ref a :: st) w ((p_astR w a i (some x)).bind K) := by
  refine ee_bind (fun v hv => ?_)
  have h9 := kk v hv
  unfold p_astR at hv
  obtain ⟨q, h1, h2⟩ := Option.bind_eq_some_iff.mp hv
  by_cases hc : i < 0 ∨ q.1 ≤ i.toNatClampNeg ∨ p_eltO w (some x) = false
  · rw [if_pos hc] at h2; cases h2
  rw [if_neg hc] at h2
  cases h2
  have hin : vp_in i q.1 := fun h => hc (h.elim Or.inl (fun h => Or.inr (Or.inl h)))
  have hel : p_elt w x = true := by
    cases h8 : p_elt w x with
    | true => rfl
    | false => exact absurd (Or.inr (Or.inr h8)) hc
  obtain ⟨ci, fs, hci, hx⟩ := p_elt_eq hel
  refine ee_w ⟨by exact Nat.le_refl _, by exact Nat.le_refl _⟩ (fun p e s m args below meth c R α0 b1 b2 Q hF hB hg => ?_) h9
  intro H locs cells slots ls cst ⟨α, clv, ws, hα, hP, hD, hS, hw, hls, hlr, hsr, e1, e2⟩
  obtain ⟨b0, _, rfl, hb0, hs1_⟩ := hsr.r
  obtain ⟨_, rfl, hs2_⟩ := hs1_.i
  obtain ⟨a0, _, rfl, ha0, hs3_⟩ := hs2_.r
  obtain ⟨y, hy, cA, ty2, g, hT, rfl, f, rfl, hf⟩ := hw.at ha0 (p_arrR_eq.mp h1)
  obtain ⟨y, hz, gs, rfl, hgs⟩ := hw.at hb0 hx
  have e9 := pz_ty hF.T hT (ty2 := .object "java/lang/Object") rfl
  subst e9
  rcases hci with rfl | rfl
  · exact va_astqO hF.x hF.b hF.K hP hD hS a 4 x 4 hy hT (r := (R4, T4, 3)) (hF.N gw_ca4) hz rfl hin hd (fun H1 locs1 hP1 hD1 hS1 => hg _ _ _ _ _ _ ⟨α, clv, _, hα, hP1, hD1, hS1, hw.set ha0 ⟨_, _, _, hT, rfl, _, rfl, pz_upr hf (show pz_or α (some x) (some b0) from ⟨_, hb0, rfl⟩) _⟩, hls, hlr, hs3_, e1, e2⟩)
  · exact va_astqO hF.x hF.b hF.K hP hD hS a 4 x 8 hy hT (r := (R8, T8, 5)) (hF.N gw_ca8) hz rfl hin hd (fun H1 locs1 hP1 hD1 hS1 => hg _ _ _ _ _ _ ⟨α, clv, _, hα, hP1, hD1, hS1, hw.set ha0 ⟨_, _, _, hT, rfl, _, rfl, pz_upr hf (show pz_or α (some x) (some b0) from ⟨_, hb0, rfl⟩) _⟩, hls, hlr, hs3_, e1, e2⟩)
theorem ee_newR {idx : Nat} {i : Int32} {K : Nat → PW → PX} (hd : decode (pm_cc μ) pc = .ok (.anewarray idx, 3)) (hl : Cond.classLink (pm_own μ) idx "java/lang/Object" ∈ GW) (kk : ∀ a w1, a = w.1.length → w1 = (w.1 ++ [.inl (4, i.toNatClampNeg, .inr (.inr (.inr (.inr fun _ => none))))], w.2.1 + 1, w.2.2 + i.toNatClampNeg) → ¬ i < 0 → EE Γ μ (pc + 3) lv (.ref a :: st) w1 (K a w1)) : EE Γ μ pc lv (.int i :: st) w (p_newR w i K) := by
  unfold p_newR
  by_cases hc : i < 0 ∨ 536870912 < i.toNatClampNeg * 4
  · rw [if_pos hc]; exact ee_none
  rw [if_neg hc]
  have hi : ¬ i < 0 := fun h => hc (Or.inl h)
  have hb : ¬ 536870912 < i.toNatClampNeg * 4 := fun h => hc (Or.inr h)
  refine ee_w (w1 := (w.1 ++ [.inl (4, i.toNatClampNeg, .inr (.inr (.inr (.inr fun _ => none))))], w.2.1 + 1, w.2.2 + i.toNatClampNeg)) ⟨Nat.le_succ _, Nat.le_add_right _ _⟩ (fun p e s m args below meth c R α0 b1 b2 Q hF hB hg => ?_) (kk _ _ rfl rfl hi)
  intro H locs cells slots ls cst ⟨α, clv, ws, hα, hP, hD, hS, hw, hls, hlr, hsr, e1, e2⟩
  obtain ⟨_, rfl, hs1_⟩ := hsr.i
  have hB1 : w.2.1 + 1 ≤ b1 + R.cells := hB.1
  have hB2 : w.2.2 + i.toNatClampNeg ≤ b2 + R.slots := hB.2
  refine va_newq hF.x hF.b hF.o (hF.w _ hl) (hF.S s hF.E).2.2.2.2.2.1 hF.K hP hD hS hF.A hi rfl (by omega) (by omega) (by omega) hd (fun q cA H1 hK1 hP1 hD1 hS1 => ?_)
  have hle : pz_le α (α ++ [q]) := ⟨[q], rfl⟩
  obtain ⟨c2, ty2, h2⟩ : ∃ c2 ty2, (pg_T Γ)[4]? = some (c2, ty2) := by
    have h9 : pz_TYS[4]? = some (.object "java/lang/Object") := rfl
    rw [← hF.T, List.getElem?_map] at h9
    cases h8 : (pg_T Γ)[4]? with
    | none => rw [h8] at h9; cases h9
    | some q9 => exact ⟨q9.1, q9.2, rfl⟩
  have e9 := pz_ty hF.T h2 (ty2 := .object "java/lang/Object") rfl
  subst e9
  obtain ⟨k1, p1, _, _, _, r1⟩ := (hF.K.2 4 _ h2).2
  obtain ⟨k2, p2, _, _, _, r2⟩ := (hK1.2 (pg_T Γ).length (cA, .object "java/lang/Object") (by rw [List.getElem?_append_right (Nat.le_refl _), Nat.sub_self]; rfl)).2
  have e8 : c2 = cA := Option.some.inj (r1.symm.trans r2)
  subst e8
  exact hg _ _ _ _ _ _ ⟨α ++ [q], clv, _, hα.tr hle, hP1, hD1, hS1, hw.push ⟨_, _, _, h2, rfl, _, rfl, fun _ => rfl⟩, hls, hlr.mono hle, (hs1_.mono hle).pr (hw.new q), by show w.2.1 + 1 = _; omega, by show w.2.2 + i.toNatClampNeg = _; omega⟩
theorem ee_acmpRT {x : Nat} {off : Int} (hd : decode (pm_cc μ) pc = .ok (.if_acmp .eq off, 3)) {tgt : Nat} (ht : (pc : Int) + off = (tgt : Int)) {fs : va_E} (hx : w.1[x]? = some fs) (k : EE Γ μ (pc + 3) lv st w x0) : EE Γ μ pc lv (.retAddr 3 :: .ref x :: st) w x0 := by
  refine ee_of (fun p e s m args below meth c R α0 b1 b2 Q hF hB hg => ?_) k
  intro H locs cells slots ls cst ⟨α, clv, ws, hα, hP, hD, hS, hw, hls, hlr, hsr, e1, e2⟩
  obtain ⟨_, rfl, hs1_⟩ := hsr.x
  obtain ⟨a0, _, rfl, ha0, hs2_⟩ := hs1_.r
  obtain ⟨y, hy, hcr⟩ := hw.at ha0 hx
  have hA : pg_A Γ a0 := hD.2 x _ hy
  obtain ⟨cell, _, _, _, _, _, _, hn⟩ := (hF.S s hF.E).2.2.2.1
  refine lv_acmp_eq (rx := some a0) (ry := some (pg_X Γ 3)) hF.x hF.b hd ht (fun h => ?_) (fun _ => (hg _ _ _ _ _ _ ⟨α, clv, ws, hα, hP, hD, hS, hw, hls, hlr, hs2_, e1, e2⟩))
  cases h
  exact absurd hA hn
theorem ee_acmpTT {k9 : Nat} {off : Int} {tgt : Nat} (hd : decode (pm_cc μ) pc = .ok (.if_acmp .eq off, 3)) (ht : (pc : Int) + off = (tgt : Int)) (k : EE Γ μ tgt lv st w x0) : EE Γ μ pc lv (.retAddr k9 :: .retAddr k9 :: st) w x0 := by
  refine ee_of (fun p e s m args below meth c R α0 b1 b2 Q hF hB hg => ?_) k
  intro H locs cells slots ls cst ⟨α, clv, ws, hα, hP, hD, hS, hw, hls, hlr, hsr, e1, e2⟩
  obtain ⟨_, rfl, hs1_⟩ := hsr.x
  obtain ⟨_, rfl, hs2_⟩ := hs1_.x
  exact lv_acmp_eq (rx := some (pg_X Γ k9)) (ry := some (pg_X Γ k9)) hF.x hF.b hd ht (fun _ => (hg _ _ _ _ _ _ ⟨α, clv, ws, hα, hP, hD, hS, hw, hls, hlr, hs2_, e1, e2⟩)) (fun h => absurd rfl h)
theorem ee_acmpneTT {k9 : Nat} {off : Int} {tgt : Nat} (hd : decode (pm_cc μ) pc = .ok (.if_acmp .ne off, 3)) (ht : (pc : Int) + off = (tgt : Int)) (k : EE Γ μ (pc + 3) lv st w x0) : EE Γ μ pc lv (.retAddr k9 :: .retAddr k9 :: st) w x0 := by
  refine ee_of (fun p e s m args below meth c R α0 b1 b2 Q hF hB hg => ?_) k
  intro H locs cells slots ls cst ⟨α, clv, ws, hα, hP, hD, hS, hw, hls, hlr, hsr, e1, e2⟩
  obtain ⟨_, rfl, hs1_⟩ := hsr.x
  obtain ⟨_, rfl, hs2_⟩ := hs1_.x
  exact lv_acmp_ne (rx := some (pg_X Γ k9)) (ry := some (pg_X Γ k9)) hF.x hF.b hd ht (fun h => absurd rfl h) (fun _ => (hg _ _ _ _ _ _ ⟨α, clv, ws, hα, hP, hD, hS, hw, hls, hlr, hs2_, e1, e2⟩))
theorem ee_ldcM {idx : Nat} (hd : decode (pm_cc μ) pc = .ok (.ldc idx, 2)) (hl : Cond.classLink (pm_own μ) idx "[Ljava/lang/Object;" ∈ GW) (k : EE Γ μ (pc + 2) lv (.retAddr 4 :: st) w x0) : EE Γ μ pc lv st w x0 := by
  refine ee_of (fun p e s m args below meth c R α0 b1 b2 Q hF hB hg => ?_) k
  intro H locs cells slots ls cst ⟨α, clv, ws, hα, hP, hD, hS, hw, hls, hlr, hsr, e1, e2⟩
  exact va_ldcM hF.x hF.b hF.o (hF.w _ hl) (hF.S s hF.E).2.2.2.2.1 hd (hg _ _ _ _ _ _ ⟨α, clv, ws, hα, hP, hD, hS, hw, hls, hlr, hsr.px, e1, e2⟩)
def yObj_getClass : MethodName := ⟨"java/lang/Object", "getClass", "()Ljava/lang/Class;"⟩
theorem ee_getC {idx a : Nat} {q : Nat × (Nat → Option Nat)} (hd : decode (pm_cc μ) pc = .ok (.invokevirtual idx, 3)) (ha : p_arrR w a = some q) (h1 : Cond.methodLink (pm_own μ) idx yObj_getClass ∈ GW) (h2 : Cond.declares yObj_getClass ∈ NW) (h3 : Cond.selects "[Ljava/lang/Object;" yObj_getClass yObj_getClass ∈ GW) (h4 : Cond.instanceMethod yObj_getClass ∈ GW) (h5 : Cond.native yObj_getClass ∈ GW) (hR : 1 ≤ pm_F μ ∧ (st.map fun v => v.category).sum + 14 ≤ pm_L μ) (k : EE Γ μ (pc + 3) lv (.retAddr 4 :: st) w x0) : EE Γ μ pc lv (.ref a :: st) w x0 := by
  refine ee_of (fun p e s m args below meth c R α0 b1 b2 Q hF hB hg => ?_) k
  intro H locs cells slots ls cst ⟨α, clv, ws, hα, hP, hD, hS, hw, hls, hlr, hsr, e1, e2⟩
  obtain ⟨a0, rest, rfl, ha0, hs1_⟩ := hsr.r
  obtain ⟨y, hy, cA, ty2, g, hT, rfl, f, rfl, hf⟩ := hw.at ha0 (p_arrR_eq.mp ha)
  have e9 := pz_ty hF.T hT (ty2 := .object "java/lang/Object") rfl
  subst e9
  have hcell := hP a _ hy
  exact va_getC (C := "[Ljava/lang/Object;") hF.x hF.b (by rw [hF.l]; exact hls.1.symm) hF.o (hF.w _ h1) (va_Nw.use rfl (hF.N h2)) (hF.w _ h3) (hF.w _ h4) (hF.w _ h5) (hF.S s hF.E).2.2.2.2.1 ⟨_, hcell, rfl, va_nmO (hF.K.2 4 _ hT).2 (by decide)⟩ (by rw [hF.F]; exact hR.1) (by rw [hs1_.cats, hF.L]; exact hR.2) hd (hg _ _ _ _ _ _ ⟨α, clv, ws, hα, hP, hD, hS, hw, hls, hlr, hs1_.px, e1, e2⟩)
theorem pz_any {p : Program} {s : State} {m : MethodId} {args : Array Value} {meth : Method} {c : Code} {R : Room} {H : Heap} {ws : va_W} {α : List Nat} (hF : pz_Fx Γ μ p s m args meth c R) (hP : va_P (pg_D Γ) vwCl ws H) (hw : pz_wr α (pg_X Γ) (pg_T Γ) w.1 ws) {x a : Nat} (hx : p_elt w x = true) (ha : α[x]? = some a) : va_Any "java/lang/Object" s H a := by
  obtain ⟨ci, fs, hci, hx⟩ := p_elt_eq hx
  obtain ⟨y, hz, gs, rfl, hgs⟩ := hw.at ha hx
  rcases hci with rfl | rfl
  · refine va_rAny hF.K hP hz (r := (R4, T4, 3)) rfl (fun comp c0 g1 g2 => ?_)
    obtain ⟨c3, c4, h3, h4, h5⟩ := Cond.castable_spec (hF.N gw_ca4)
    cases h3.symm.trans g2
    cases h4.symm.trans g1
    exact h5
  · refine va_rAny hF.K hP hz (r := (R8, T8, 5)) rfl (fun comp c0 g1 g2 => ?_)
    obtain ⟨c3, c4, h3, h4, h5⟩ := Cond.castable_spec (hF.N gw_ca8)
    cases h3.symm.trans g2
    cases h4.symm.trans g1
    exact h5
theorem ee_copyR {idx a0 a1 : Nat} {sp dp n : Int32} {K : PW → PX} (hd : decode (pm_cc μ) pc = .ok (.invokestatic idx, 3)) (h1 : Cond.methodLink (pm_own μ) idx arraycopyName ∈ GW) (h2 : Cond.native arraycopyName ∈ GW) (h3 : Cond.static arraycopyName ∈ GW) (h4 : Cond.initialized "java/lang/System" ∈ GW) (hR : 1 ≤ pm_F μ ∧ (st.map fun v => v.category).sum + (nativeFrameWords "java/lang/System" "arraycopy" 5 + 11) ≤ pm_L μ)
    (kk : ∀ w1, p_copyR w a0 sp a1 dp n = some w1 → EE Γ μ (pc + 3) lv st w1 (K w1)) : EE Γ μ pc lv (.int n :: .int dp :: .ref a1 :: .int sp :: .ref a0 :: st) w ((p_copyR w a0 sp a1 dp n).bind K) := by
  refine ee_bind (fun w1 hv => ?_)
  have h9 := kk w1 hv
  unfold p_copyR at hv
  obtain ⟨q0, g1, hv⟩ := Option.bind_eq_some_iff.mp hv
  obtain ⟨q1, g2, hv⟩ := Option.bind_eq_some_iff.mp hv
  split at hv
  · rename_i hc
    cases hv
    obtain ⟨⟨c1, c2, c3, c4, c5⟩, c6⟩ := hc
    refine ee_w ⟨by exact Nat.le_refl _, by exact Nat.le_refl _⟩ (fun p e s m args below meth c R α0 b1 b2 Q hF hB hg => ?_) h9
    intro H locs cells slots ls cst ⟨α, clv, ws, hα, hP, hD, hS, hw, hls, hlr, hsr, e1, e2⟩
    obtain ⟨_, rfl, hs1_⟩ := hsr.i
    obtain ⟨_, rfl, hs2_⟩ := hs1_.i
    obtain ⟨x1, _, rfl, hx1, hs3_⟩ := hs2_.r
    obtain ⟨_, rfl, hs4_⟩ := hs3_.i
    obtain ⟨x0, rest, rfl, hx0, hs5_⟩ := hs4_.r
    obtain ⟨y, hy, cA, ty2, g, hT, rfl, f, rfl, hf⟩ := hw.at hx0 (p_arrR_eq.mp g1)
    obtain ⟨y, hz, cB, ty3, g, hT3, rfl, f3, rfl, hf3⟩ := hw.at hx1 (p_arrR_eq.mp g2)
    have e9 := pz_ty hF.T hT (ty2 := .object "java/lang/Object") rfl
    have e8 := pz_ty hF.T hT3 (ty2 := .object "java/lang/Object") rfl
    subst e9
    subst e8
    refine va_copyM hF.x hF.b (by rw [hF.l]; exact hls.1.symm) hF.o (hF.w _ h1) (hF.w _ h2) (hF.w _ h3) (hF.w _ h4) hF.K hP hD hS a0 a1 4 4 hy hz hT hT3 c1 c2 c3 c4 c5 ?_ (by rw [hF.F]; exact hR.1) (by rw [hs5_.cats, hF.L]; exact hR.2) hd (fun H1 locs1 hP1 hD1 hS1 => hg _ _ _ _ _ _ ⟨α, clv, _, hα, hP1, hD1, hS1, hw.set hx1 ⟨_, _, _, hT3, rfl, _, rfl, pz_cpr hf hf3 _ _ _⟩, hls, hlr, hs5_, e1, e2⟩)
    intro i hi y9 hy9
    have h5 := hf (sp.toNatClampNeg + i)
    have h6 := c6 i hi
    rw [hy9] at h5
    cases h7 : q0.2 (sp.toNatClampNeg + i) with
    | none => rw [h7] at h5; cases h5
    | some x9 =>
      rw [h7] at h5 h6
      obtain ⟨b9, hb9, h8⟩ := h5
      cases h8
      exact pz_any hF hP hw h6 hb9
  · cases hv
end JDKR
end
section
/-! 'throw new E("..")', in launches without stack traces. -/
section THROW
variable {p : Program} {l : Launch} {e : Env} {R : Room} {s : State} {m : MethodId} {args : Array Value} {below : List Frame} {meth : Method} {c : Code} {T : State} {locs : List Loc} {cells slots : Nat}
/-- the same place, told from the present heap on -/
theorem pz_anew (X : Stand p l e R s m args below meth c T locs cells slots) {R' : Room} (h1 : R'.frames ≤ R.frames) (h2 : R'.locals ≤ R.locals) (h3 : cells + R'.cells ≤ R.cells) (h4 : slots + R'.slots ≤ R.slots) :
    Stand p l e R' ({ s with heap := T.heap, slotsUsed := T.slotsUsed } : State) m args below meth c T [] 0 0 := by
  have hsame := X.same
  obtain ⟨a1, a2, a3, a4, a5, a6⟩ := hsame
  have a3' : T.heap.size ≤ s.heap.size + cells := a3
  have a4' : T.slotsUsed = s.slotsUsed + ((T.heap.toList.drop s.heap.size).map (·.slots.size)).sum := a4
  have a5' : ((T.heap.toList.drop s.heap.size).map (·.slots.size)).sum ≤ slots := a5
  have hr := X.room
  have hb := X.book
  refine { admits := X.admits, cas := X.cas, clock := X.clock, frames := X.frames, room := ?_, hears := X.hears, method := X.method, code := X.code, here := X.here, tail := X.tail, warmed := X.warmed, limits := X.limits, bytes := X.bytes, same := ?_ }
  · simp only [State.hasRoom, Bool.and_eq_true, decide_eq_true_eq] at hr ⊢
    obtain ⟨⟨⟨⟨r1, r2, r2b, r2c, r2d, r2e⟩, r3⟩, r4⟩, r5⟩ := hr
    refine ⟨⟨⟨⟨?_, ?_, ?_, ?_, ?_, r2e⟩, ?_⟩, ?_⟩, hb⟩
    · exact Nat.le_trans (Nat.add_le_add_right (Nat.add_le_add_left h2 _) _) r1
    · exact Nat.le_trans (Nat.add_le_add_left h1 _) r2
    · exact Nat.le_trans (Nat.add_le_add_left h1 _) r2b
    · exact Nat.le_trans (Nat.add_le_add_left h2 _) r2c
    · exact Nat.le_trans (Nat.add_le_add_left h2 _) r2d
    · show T.heap.size + R'.cells ≤ _
      omega
    · show T.slotsUsed + R'.slots ≤ _
      omega
  · have hd : T.heap.toList.drop T.heap.size = [] := List.drop_eq_nil_of_le (by simp)
    refine ⟨a1, Nat.le_refl _, Nat.le_refl _, ?_, ?_, fun a c hc => ⟨c, hc, rfl, rfl, fun _ _ => rfl⟩⟩
    · show T.slotsUsed = T.slotsUsed + ((T.heap.toList.drop T.heap.size).map (·.slots.size)).sum
      rw [hd]; rfl
    · show ((T.heap.toList.drop T.heap.size).map (·.slots.size)).sum ≤ 0
      rw [hd]; exact Nat.le_refl _
theorem pz_isRef {A : Nat → Prop} {C n d : String} {args : Array Value} {U : State} (h : va_Zq C n d A U U.heap) : (Cond.isRef (.static C n d)).before args U = true := by
  have key : ∀ v : Value, va_Z C n d v A U U.heap → (Term.static C n d).eval args U none [] U = some v := by
    intro v hz
    obtain ⟨cf, kf, fi, f, a, cell, h1, h2, h3, h4, h5, h6, h7, -⟩ := hz
    simp [Term.eval, State.fieldNamed?, h1, h2, h4, h5, h6, h7]
  rcases h with h | ⟨t, h⟩
  · simp [Cond.before, Cond.holds, Cond.value, key _ h, Value.isRef]
  · simp [Cond.before, Cond.holds, Cond.value, key _ h, Value.isRef]
end THROW
def p_throw (E : String) (w : PW) : PX := some (.inr E, (w.1, w.2.1 + 1, w.2.2 + 6))
theorem pz_wk_on {a : Cond} (h : pz_wk a = true) : a.onTables = true := by
  cases a <;> first | rfl | (simp [pz_wk] at h)
/-- the atoms of the constructors' chain are among the words, but two -/
def pz_oa (own : String) (ic : Nat) (cls : String) (names : List String) : Prop := ∀ a ∈ Bundle.ownAtoms own ic cls names, (a ∈ GW ∨ a ∈ NW) ∨ a = .isRef (.static "java/lang/Throwable" "UNASSIGNED_STACK" "[Ljava/lang/StackTraceElement;") ∨ a = .isRef (.static "java/lang/Throwable" "SUPPRESSED_SENTINEL" "Ljava/util/List;") ∨ a = .laysStatic "java/lang/Throwable" "UNASSIGNED_STACK" "[Ljava/lang/StackTraceElement;" ∨ a = .laysStatic "java/lang/Throwable" "SUPPRESSED_SENTINEL" "Ljava/util/List;"
section THROW2
variable {Γ : PG} {μ : PM} {pc : Nat} {lv : List (Nat × Value)} {st : List Value} {w : PW}
theorem ee_throw {cls text : String} {names : List String} {ik is ic L4 : Nat} (hw4 : L4 = 6 ∨ L4 = 7) (d0 : decode (pm_cc μ) pc = .ok (.new ik, 3)) (d3 : decode (pm_cc μ) (pc + 3) = .ok (.dup, 1))
    (d4 : ∀ (p : Program) (e : Env) (R : Room) (s : State) (m : MethodId) (args : Array Value) (below : List Frame) (meth : Method) (c : Code) (H : Heap) (cells slots sa : Nat) (Q : State → Prop) (ls : Array Slot) (rest : List Value), p.tables.exec = Jvm.exec → c.code = pm_cc μ → s.vm.findClass (pm_own μ) = some m.cls → vk_R (pm_own μ) is text sa s → W p (pg_l Γ) e R s m args below meth c H [] cells slots Q (F0 m (pc + L4) ls (.ref sa :: rest)) → W p (pg_l Γ) e R s m args below meth c H [] cells slots Q (F0 m (pc + 4) ls rest))
    (d6 : decode (pm_cc μ) (pc + L4) = .ok (.invokespecial ic, 3)) (d9 : decode (pm_cc μ) (pc + L4 + 3) = .ok (.athrow, 1))
    (hcls : Bundle.fit cls = true) (hnames : ∀ n ∈ names, Bundle.fit n = true) (hk : Cond.classLink (pm_own μ) ik cls ∈ GW) (hini : Cond.initialized cls ∈ GW) (hat : pz_oa (pm_own μ) ic cls names) (hown : pm_own μ = "WaveFiles") (hsl : (is, text) ∈ pz_SL)
    (hR : names.length + 3 < pm_F μ ∧ (st.map fun v => v.category).sum + (13 * (names.length + 1) + 43) ≤ pm_L μ) : EE Γ μ pc lv st w (p_throw cls w) := by
  intro r w' h
  cases h
  refine ⟨Nat.le_succ _, Nat.le_add_right _ _, fun p e s m args below meth c R α0 b1 b2 Q hF hQ => ?_⟩
  intro H locs cells slots ls cst ⟨α, clv, ws, hα, hP, hD, hS, hw, hls, hlr, hsr, e1, e2⟩
  obtain ⟨hq1, hq2, htab, hq3⟩ := hQ
  have hq1' : w.2.1 + 1 ≤ b1 + R.cells := hq1
  have hq2' : w.2.2 + 6 ≤ b2 + R.slots := hq2
  obtain ⟨-, -, -, -, -, -, hl, hSL, hZ1, hZ2, hN1, hN2, -⟩ := hF.S s hF.E
  intro T hT X
  subst hT
  have htr : e.platform.stackTraces = false := (show e.platform.stackTraces = (pg_l Γ).stackTraces by rw [X.admits.platform]).trans hl
  have Y := pz_anew X (R' := { frames := R.frames, locals := R.locals, cells := 1, slots := 6 }) (Nat.le_refl _) (Nat.le_refl _) (by show cells + 1 ≤ R.cells; omega) (by show slots + 6 ≤ R.slots; omega)
  obtain ⟨s', hs'⟩ : ∃ z, z = ({ s with heap := T.heap, slotsUsed := T.slotsUsed } : State) := ⟨_, rfl⟩
  rw [← hs'] at Y
  have hvm : s'.vm = s.vm := by rw [hs']
  have hhp : s'.heap = T.heap := by rw [hs']
  have hW0 : s.WarmedH s'.vm := by rw [hvm]; exact State.WarmedH.refl s
  have hwd : ∀ a, a ∈ GW ∨ a ∈ NW → a.before args s' = true := by
    intro a ha
    rcases ha with ha | ha
    · exact word_at hW0 (pz_good a ha) (hF.w a ha)
    · exact va_tabs (pz_wk_on (List.mem_filter.mp ha).2) hvm.symm (hF.N ha)
  have hat' : ∀ a ∈ Bundle.ownAtoms (pm_own μ) ic cls names, a.before args s' = true := by
    intro a ha
    rcases hat a ha with h | rfl | rfl | rfl | rfl
    · exact hwd a h
    · refine pz_isRef (A := pg_A Γ) ?_
      rw [hhp]
      exact va_Zq.moved hW0.alike (hZ1.kept hS.2.1)
    · refine pz_isRef (A := pg_A Γ) ?_
      rw [hhp]
      exact va_Zq.moved hW0.alike (hZ2.kept hS.2.1)
    · refine pz_ls.word (A := pg_A Γ) ?_
      rw [hhp]
      exact pz_ls.same hvm (hN1.kept hS.2.1)
    · refine pz_ls.word (A := pg_A Γ) ?_
      rw [hhp]
      exact pz_ls.same hvm (hN2.kept hS.2.1)
  have hown' : s'.vm.findClass (pm_own μ) = some m.cls := by rw [hvm]; exact hF.o
  obtain ⟨sa, hsa⟩ := hSL _ hsl
  have hsa' : vk_R (pm_own μ) is text sa s' := by rw [hown]; exact vk_R.same hvm hsa
  have hins : (Cond.instantiable cls 6).before args s' = true := hat' _ (by simp [Bundle.ownAtoms])
  have K : W p (pg_l Γ) e { frames := R.frames, locals := R.locals, cells := 1, slots := 6 } s' m args below meth c T.heap [] 0 0 (fun t => ∃ ce, t.status = .running ∧ Ended t below (.threw T.heap.size) ∧ s'.WarmedH t.vm ∧ s'.sameButNew ({ t with vm := s'.vm } : State) [] 1 6 ∧ t.heap[T.heap.size]? = some ce ∧ Bundle.OwnCell args s' cls T.heap.size (.ref sa) ce) (F0 m pc ls cst) := by
    refine W.newc hF.x hF.b hown' (hwd _ (Or.inl hk)) hins (hwd _ (Or.inl hini)) (g := F0 m pc ls cst) rfl d0 (Nat.le_refl _) (Nat.le_refl _) (fun cC kC f1 f2 f3 f4 => ?_)
    refine W.eq (g2 := F0 m (pc + 3) ls (.ref T.heap.size :: cst)) rfl ?_
    refine lv_dup hF.x hF.b d3 rfl ?_
    refine d4 p e _ s' m args below meth c _ _ _ sa _ ls _ hF.x hF.b hown' hsa' ?_
    intro T2 hT2 X2
    obtain ⟨U, u1, u2, u3, u4, u5, ce, u6, u7⟩ := X2.ctorThrowS hF.x htr (own := pm_own μ) (cls := cls) (names := names) (ic := ic) hown' hcls hnames hat' (fun x hx => nomatch hx) f1 f2 (a := T.heap.size) (by rw [hT2]; exact Array.getElem?_push_size) (by rw [hhp]; exact Nat.le_refl _) (msg := .ref sa) rfl (g := F0 m (pc + L4) ls (.ref sa :: .ref T.heap.size :: .ref T.heap.size :: cst)) rfl (by rw [hF.l]; exact hls.1) rfl rfl (rest := cst) rfl (by rw [hF.b]; exact d6) (by rw [hF.b]; exact d9) (fun x hx => (htab x hx).elim) (by rw [hF.F]; exact hR.1) (by show 2 * 0 + _ + _ ≤ R.locals; rw [List.map_cons, List.sum_cons, hsr.cats, hF.L]; have := hR.2; show 2 * 0 + (1 + _) + _ ≤ _; omega) hF.k
    exact ⟨U, u1, ce, u2, u3, u4, u5, u6, u7⟩
  obtain ⟨t, k1, ce, k2, k3, k4, k5, k6, k7⟩ := K T rfl Y
  refine ⟨t, k1, hq3 t ?_⟩
  have hkeep : ∀ q : Nat, q < T.heap.size → t.heap[q]? = T.heap[q]? := by
    intro q hq
    obtain ⟨c9, hc9⟩ : ∃ c9, T.heap[q]? = some c9 := ⟨T.heap[q], Array.getElem?_eq_getElem hq⟩
    rw [hc9]
    exact State.sameButNew.old_cell k5 (by rw [hhp]; exact hc9)
  have hsz : T.heap.size ≤ t.heap.size := by
    have := k5.2.1
    rw [hhp] at this
    exact this
  have hsame : s.sameButNew ({ t with vm := s.vm } : State) locs (cells + 1) (slots + 6) := by
    have h2 : (T.setVm s.vm).sameButNew ({ t with vm := s.vm } : State) [] 1 6 := by
      obtain ⟨j1, j2, j3, j4, j5, j6⟩ := k5
      subst hs'
      refine ⟨?_, j2, j3, j4, j5, j6⟩
      have e9 : (T.setVm s.vm).setFrames t.frames = ({ s.setFrames t.frames with heap := T.heap, slotsUsed := T.slotsUsed } : State) := by
        refine (congrArg (·.setFrames t.frames) X.same.1).trans ?_
        show ({ (s.setFrames _).setFrames t.frames with heap := T.heap, slotsUsed := T.slotsUsed } : State) = _
        rw [State.setFrames_setFrames]
      refine j1.trans ?_
      show ({ s.setFrames t.frames with heap := t.heap, slotsUsed := t.slotsUsed } : State) = { (T.setVm s.vm).setFrames t.frames with heap := t.heap, slotsUsed := t.slotsUsed }
      rw [e9]
    have h3 := X.same.trans h2
    rw [List.append_nil] at h3
    exact h3
  have m1 : (w.1, w.2.1 + 1, w.2.2 + 6).2.1 - b1 = cells + 1 := by show w.2.1 + 1 - b1 = _; omega
  have m2 : (w.1, w.2.1 + 1, w.2.2 + 6).2.2 - b2 = slots + 6 := by show w.2.2 + 6 - b2 = _; omega
  rw [m1, m2]
  exact ⟨T.heap.size, ce, locs, α, ws, k2, k3, k6, k7.vm, by rw [← hvm]; exact k7.cls, State.WarmedH.trans hW0 k4, hsame, hS.2.2, hα, hP.kept (fun k q hq => hkeep q.1 ((hP k q hq).lt)), hD, hw, ⟨Nat.le_trans hS.1 hsz, fun q h1 h2 => (hkeep q (Nat.lt_of_lt_of_le h1 hS.1)).trans (hS.2.1 q h1 h2)⟩⟩
end THROW2
end
section
/-! the exceptions' chains -/
def pz_oaB (own : String) (ic : Nat) (cls : String) (names : List String) : Bool := (Bundle.ownAtoms own ic cls names).all (fun a => (decide (a ∈ lw_tbl) && (goodWord a || pz_wk a)) || decide (a = .isRef (.static "java/lang/Throwable" "UNASSIGNED_STACK" "[Ljava/lang/StackTraceElement;")) || decide (a = .isRef (.static "java/lang/Throwable" "SUPPRESSED_SENTINEL" "Ljava/util/List;")) || decide (a = .laysStatic "java/lang/Throwable" "UNASSIGNED_STACK" "[Ljava/lang/StackTraceElement;") || decide (a = .laysStatic "java/lang/Throwable" "SUPPRESSED_SENTINEL" "Ljava/util/List;"))
theorem pz_oa_of {own : String} {ic : Nat} {cls : String} {names : List String} (h : pz_oaB own ic cls names = true) : pz_oa own ic cls names := by
  intro a ha
  have h1 := List.all_eq_true.mp h a ha
  simp only [Bool.or_eq_true, Bool.and_eq_true, decide_eq_true_eq] at h1
  rcases h1 with (((⟨h1, h2 | h2⟩ | h1) | h1) | h1) | h1
  · exact Or.inl (Or.inl (pz_in h1 h2))
  · exact Or.inl (Or.inr (pz_inN h1 h2))
  · exact Or.inr (Or.inl h1)
  · exact Or.inr (Or.inr (Or.inl h1))
  · exact Or.inr (Or.inr (Or.inr (Or.inl h1)))
  · exact Or.inr (Or.inr (Or.inr (Or.inr h1)))
theorem oa_95 : pz_oa "WaveFiles" 95 "java/lang/IndexOutOfBoundsException" ["java/lang/RuntimeException", "java/lang/Exception"] := pz_oa_of (by decide +kernel)
theorem oa_109 : pz_oa "WaveFiles" 109 "java/lang/IllegalStateException" ["java/lang/RuntimeException", "java/lang/Exception"] := pz_oa_of (by decide +kernel)
theorem oa_118 : pz_oa "WaveFiles" 118 "java/lang/IllegalArgumentException" ["java/lang/RuntimeException", "java/lang/Exception"] := pz_oa_of (by decide +kernel)
theorem oa_140 : pz_oa "WaveFiles" 140 "java/lang/UnsupportedOperationException" ["java/lang/RuntimeException", "java/lang/Exception"] := pz_oa_of (by decide +kernel)
end
section
/-! A callee that throws, and its catching. -/
section SEARCH
variable {E : CtlPost} {e : Env} {d : Bool} {acts : List Action} {s : State} {f : JFrame} {a : Addr} {Q : Handler → Pre}
/-- a row of the table that names a class, resolved now or before -/
theorem pz_goC {x : ExceptionTableEntry} {t : List ExceptionTableEntry} {c : ClassId} {vm1 : Vm} {cell : Cell} (hx : covers x f.pc = true) (h0 : x.catchType ≠ 0)
    (hg : (Jvm.resolveClass f.method.cls x.catchType).Gives e.toSetting s.vm (.ok c) vm1) (hsz : vm1.classes.size ≤ s.vm.classes.size) (hcell : s.heap[a]? = some cell) (hobj : ∀ k, cell.vm ≠ .statics k)
    (hk : ∃ k, vm1.classes[cell.cls]? = some k) (hc : ∃ k, vm1.classes[c]? = some k) :
    wp (findHandler.go f a (x :: t)) Q E e d acts s ↔ if vm1.assignable cell.cls c = true then Q (.found x.handlerPc) d acts (s.setVm vm1) else wp (findHandler.go f a t) Q E e d acts (s.setVm vm1) := by
  simp only [covers] at hx
  obtain ⟨ha, ht⟩ := hg.op (op := VmOp.resolveClass f.method.cls x.catchType) rfl
  cases hfit : vm1.assignable cell.cls c <;>
    simp [findHandler.go, hx, h0, ha, ht, hsz, hcell, hobj, hk, hc, hfit, VmOp.dirties, VmOp.acts]
end SEARCH
/-- the rows of a table that cover the place: the first whose class takes E leads to hp -/
def pz_tab' (s : State) (args : Array Value) (own E : String) (pc : Nat) : List ExceptionTableEntry → Nat → Prop
  | [], _ => False
  | x :: t, hp => covers x pc = true ∧ x.catchType ≠ 0 ∧ ∃ nm, (Cond.classLink own x.catchType nm).before args s = true ∧ ((va_Nw (.castable E nm) s ∧ x.handlerPc = hp) ∨ (va_Nc E nm s ∧ pz_tab' s args own E pc t hp))
theorem pz_search {e : Env} {s : State} {args : Array Value} {m : MethodId} {own E : String} {g : JFrame} {a : Addr} {cell : Cell} {hp : Nat} (hpl : e.platform.magicAccessors = ({} : Platform).magicAccessors) (hown : s.vm.findClass own = some m.cls) (hg : g.method = m) (hcl : s.vm.findClass E = some cell.cls) (hobj : cell.vm = .none) :
    ∀ (tab : List ExceptionTableEntry), pz_tab' s args own E g.pc tab hp → ∀ S : State, s.WarmedH S.vm → S.heap[a]? = some cell → ∃ vm', s.WarmedH vm' ∧ ∀ (Q : Handler → Pre) (E : CtlPost) (d : Bool) (acts : List Action), wp (findHandler.go g a tab) Q E e d acts S ↔ Q (.found hp) d acts (S.setVm vm')
  | [], h, _, _, _ => h.elim
  | x :: t, h, S, hW, hc => by
    obtain ⟨h1, h2, nm, h3, h4⟩ := h
    obtain ⟨c5, hc5, hl5⟩ := Cond.classLink_spec hown h3 e.platform hpl
    rw [← hg] at hl5
    obtain ⟨g1, g2, -⟩ := State.classEntry (e := e) hW hl5
    have hsz : (S.vm.noted g.method.cls x.catchType (.cls c5)).classes.size ≤ S.vm.classes.size := by simp
    generalize S.vm.noted g.method.cls x.catchType (.cls c5) = vm1 at g1 g2 hsz
    have hk : ∃ k, vm1.classes[cell.cls]? = some k := by
      obtain ⟨k0, hk0⟩ := Vm.classAt_of_findClass hcl
      obtain ⟨k1, hk1, -⟩ := g2.alike.2.2 _ _ hk0
      exact ⟨k1, hk1⟩
    have hk2 : ∃ k, vm1.classes[c5]? = some k := by
      obtain ⟨k0, hk0⟩ := Vm.classAt_of_findClass hc5
      obtain ⟨k1, hk1, -⟩ := g2.alike.2.2 _ _ hk0
      exact ⟨k1, hk1⟩
    have hns : ∀ k, cell.vm ≠ .statics k := fun k h => by rw [hobj] at h; cases h
    have ha : vm1.assignable cell.cls c5 = s.vm.assignable cell.cls c5 := g2.alike.assignable _ _
    rcases h4 with ⟨h5, h6⟩ | ⟨h5, h6⟩
    · obtain ⟨c3, c4, q3, q4, q5⟩ := Cond.castable_spec h5
      cases q3.symm.trans hcl
      cases q4.symm.trans hc5
      refine ⟨vm1, g2, fun Q E d acts => ?_⟩
      rw [pz_goC h1 h2 g1 hsz hc hns hk hk2, ha, if_pos q5, h6]
    · obtain ⟨c3, c4, q3, q4, q5⟩ := h5
      cases q3.symm.trans hcl
      cases q4.symm.trans hc5
      obtain ⟨vm', w1, w2⟩ := pz_search hpl hown hg hcl hobj t h6 (S.setVm vm1) g2 hc
      refine ⟨vm', w1, fun Q E d acts => ?_⟩
      rw [pz_goC h1 h2 g1 hsz hc hns hk hk2, ha, if_neg (by rw [q5]; exact Bool.false_ne_true), w2]
      rfl
section CATCH
variable {p : Program} {l : Launch} {e : Env} {R : Room} {s : State} {m : MethodId} {args : Array Value} {below : List Frame} {meth : Method} {c : Code} {T : State} {locs : List Loc} {cells slots : Nat}
/-- the note of a throw over the frame g: the machine goes on at the handler -/
theorem pz_caught (X : Stand p l e R s m args below meth c T locs cells slots) {own E : String} (hown : s.vm.findClass own = some m.cls) {g : JFrame} (hg : g.method = m) {a : Addr} {cell : Cell} (hcell : T.heap[a]? = some cell) (hobj : cell.vm = .none) (hcl : s.vm.findClass E = some cell.cls) {hp : Nat} (htab : pz_tab' s args own E g.pc c.exceptionTable.toList hp) :
    ∃ vm', Stand p l e R s m args below meth c (T.setVm vm') locs cells slots ∧ Steps p.tables e below ((T.setTop g).pushFrame (.throwing a)) ((T.setVm vm').setTop { g with pc := hp, stack := [.ref a] }) := by
  have hpl : e.platform.magicAccessors = ({} : Platform).magicAccessors := by rw [X.admits.platform]
  have hvm : ((T.setTop g).pushFrame (.throwing a)).vm = T.vm := Stand.throwing_vm T g a
  have hhp : ((T.setTop g).pushFrame (.throwing a)).heap = T.heap := Stand.throwing_heap T g a
  obtain ⟨vm', w1, w2⟩ := pz_search (m := m) hpl hown hg hcl hobj _ htab ((T.setTop g).pushFrame (.throwing a)) (by rw [hvm]; exact X.warmed) (by rw [hhp]; exact hcell)
  refine ⟨vm', X.noted w1, ?_⟩
  have h : At T g.method c below := by rw [hg]; exact X.here
  have hm' : ((T.setTop g).pushFrame (.throwing a)).vm.method? g.method = some meth := by rw [hvm, hg]; exact X.method'
  obtain ⟨hgo, hw⟩ := h.throwing a
  refine Steps.head hgo hw ?_
  rw [stepThread_throwing (frames_entered h.top _)]
  have hst : (stepThrowing e ((T.setTop g).pushFrame (.throwing a)) a (.java g :: T.frames.tail)).Is ((((T.setTop g).pushFrame (.throwing a)).setVm vm').setFrames (.java { g with pc := hp, stack := [.ref a] } :: T.frames.tail)) [] := by
    simp only [stepThrowing, searchFrame, vmDo]
    generalize hr : Sem.go _ e false [] ((T.setTop g).pushFrame (.throwing a)) = res
    obtain ⟨as, rfl, ha⟩ := Sem.eq_ok_of hr (a := Handler.found hp) (s' := ((T.setTop g).pushFrame (.throwing a)).setVm vm') (acts' := []) (by simp [W.findHandler_eq hm' X.code, w2])
    exact ⟨rfl, ha⟩
  rw [hst.1]
  obtain ⟨g₀, hg0⟩ := Option.isSome_iff_exists.mp h.top
  obtain ⟨r, hr⟩ := State.topJava?_eq_some.mp hg0
  have hr' : (T.setVm vm').frames = .java g₀ :: r := hr
  have e9 : (((T.setTop g).pushFrame (.throwing a)).setVm vm').setFrames (.java { g with pc := hp, stack := [.ref a] } :: T.frames.tail) = (T.setVm vm').setTop { g with pc := hp, stack := [.ref a] } := by
    rw [State.setTop_of_frames _ hr', hr]
    rw [State.pushFrame, State.setTop_of_frames _ hr]
    show ((((T.setFrames _).setFrames _).setFrames _).setVm vm') = _
    rw [State.setFrames_setFrames, State.setFrames_setFrames]
    rfl
  rw [e9]
  exact Steps.refl _
end CATCH
end
section
/-! Calls of methods that throw. -/
/-- what is known where a method has thrown q -/
def pz_ThrQ (Γ : PG) (α0 : List Nat) (E : String) (w' : PW) (mc ms : Nat) (st : State) (q : Addr) (t : State) : Prop :=
  ∃ (ce : Cell) (L : List Loc) (α : List Nat) (ws : va_W), t.heap[q]? = some ce ∧ ce.vm = .none ∧ st.vm.findClass E = some ce.cls ∧ st.WarmedH t.vm ∧ st.sameButNew ({ t with vm := st.vm } : State) L mc ms ∧ (∀ z ∈ L, pg_A Γ z.base) ∧ pz_le α0 α ∧ va_P (pg_D Γ) vwCl ws t.heap ∧ va_D (pg_A Γ) ws ∧ pz_wr α (pg_X Γ) (pg_T Γ) w'.1 ws ∧ va_F (pg_A Γ) st t
theorem pz_metX {Γ : PG} {μ : PM} {as cas : List Value} {w w1 : PW} {x : PX} {E : String} {α : List Nat} {ws : va_W} (hE : EE Γ μ 0 (lv_args 0 as) [] w x) (hx : x = some (.inr E, w1))
    (hT : (pg_T Γ).map (fun q => q.2) = pz_TYS) (hM : pz_mv Γ) (hS : ∀ U : State, pg_E Γ U → pz_ext (pg_l Γ) (pg_A Γ) (pg_X Γ) (pg_S Γ) U)
    (hw : pz_wr α (pg_X Γ) (pg_T Γ) w.1 ws) (hD : va_D (pg_A Γ) ws) (has : pz_sr α (pg_X Γ) as cas) (hy : plainName (pm_y μ).cls = true ∧ (pm_y μ).cls = pm_own μ) (hn : (lg_sl as).length ≤ pm_nL μ) :
    MetFree (pg_l Γ) (pm_y μ) (headSpec (pm_ws μ) (pm_rm μ w w1)) (va_Pc cas (pz_Pre Γ ws)) (fun _ _ _ _ _ => True) (fun _ st o t => ∃ q, o = .threw q ∧ pz_ThrQ Γ α E w1 (w1.2.1 - w.2.1) (w1.2.2 - w.2.2) st q t) := by
  refine MetFree.of_bodyS (code := pm_cc μ) (maxLocals := pm_nL μ) (ret := pm_ret μ) hy.1 ?_ ?_
  · intro args s m h hn9
    obtain ⟨meth, c, h1, h2, h3, h4, h5, h6, -, -⟩ := Cond.code_spec hn9 (atoms_spec (ws := pm_ws μ) h _ List.mem_cons_self)
    exact ⟨meth, c, h1, h2, h3, h4, h5, h6⟩
  · intro p e s m args below meth c s₁ B hml hv _
    obtain ⟨rfl, hP, hK, hA, hX⟩ := hv
    obtain ⟨h1, h2, h3⟩ := hE _ _ hx
    have hts := atoms_spec (ws := pm_ws μ) B.pre
    have hl := lv_entry cas (n := pm_nL μ) (by rw [pz_sl has]; exact hn)
    have hown : s.vm.findClass (pm_own μ) = some m.cls := by rw [← hy.2]; exact findClass_of_methodNamed B.named
    have htab : ∀ x ∈ c.exceptionTable.toList, False := by
      obtain ⟨meth', c', g1, g2, g3, g4, g5, g6, g7, g8⟩ := Cond.code_spec B.named (hts _ List.mem_cons_self)
      have X := Stand.of_body B
      cases g1.symm.trans X.method
      cases g2.symm.trans X.code
      intro x hx
      rw [Array.isEmpty_iff] at g7
      rw [g7] at hx
      cases hx
    have hh0 : s₁.heap = s.heap := by rw [B.state]; rfl
    have K := h3 p e s m cas.toArray below meth c (headSpec (pm_ws μ) (pm_rm μ w w1)).room α w.2.1 w.2.2 (pz_Thr Γ s below α E w1 (w1.2.1 - w.2.1) (w1.2.2 - w.2.2)) ⟨B.exec, B.bytes, B.returns, hml, fun w9 h9 => hts w9 (List.mem_cons_of_mem _ h9), hown, B.notSynchronized, hK, hA, hX, rfl, rfl, (name_of_methodNamed B.named B.method).1, B.named, hT, hM, hS⟩ ⟨by show w1.2.1 ≤ w.2.1 + (w1.2.1 - w.2.1); omega, by show w1.2.2 ≤ w.2.2 + (w1.2.2 - w.2.2); omega, htab, fun t h => h⟩ s.heap [] 0 0 _ [] ⟨α, _, ws, pz_le.rf, hP, hD, va_S.rf, hw, hl, pz_args 0 has, trivial, rfl, rfl⟩
    rw [← lg_entry_eq] at K
    obtain ⟨t, a1, q, ce, L, α', ws', k1, k2, k3, k4, k5, k6, k7, k8, k9, k10, k11, k12, k13⟩ := K s₁ hh0 (Stand.of_body B)
    exact ⟨t, .threw q, a1, k1, k2, q, rfl, ce, L, α', ws', k3, k4, k5, k6, k7, k8, k9, k10, k11, k12, k13⟩

section CALLX
variable {p : Program} {l : Launch} {e : Env} {R : Room} {s : State} {m : MethodId} {args : Array Value} {below : List Frame} {meth : Method} {c : Code} {T : State} {locs : List Loc} {cells slots : Nat}
/-- an invocation that throws: the caller's frame, with the note of the throw over it -/
theorem pz_invX (X : Stand p l e R s m args below meth c T locs cells slots) {y : MethodName} {S : Spec} {P : Array Value → State → Prop} {Q : Addr → State → State → Prop} {bytes : ByteArray} {maxL : Nat} {ret : Option FieldType} {mc ms len W9 : Nat} {FL : List Loc → Prop}
    (hM : MetFree l y S P (fun _ _ _ _ _ => True) (fun _ st o t => ∃ q, o = .threw q ∧ Q q st t)) (hframes : S.room.frames + 1 ≤ R.frames) (hlocals : W9 + (maxL + 11) + S.room.locals ≤ R.locals) (hcells : cells + S.room.cells ≤ R.cells) (hslots : slots + S.room.slots ≤ R.slots)
    {g : JFrame} {ig : Instr} {mk : MethodId} {a : Array Value} (hg : g.method = m) (hsize : g.locals.size = c.maxLocals) (hdg : decode c.code g.pc = .ok (ig, len)) (hW : 2 * g.monitorRoom + (g.stack.map fun v => v.category).sum ≤ W9) (hn : T.methodNamed? y = some mk)
    (h1 : S.pre.before a T = true) (h2 : (Cond.code y bytes maxL ret).before a T = true) (h3 : (Cond.initialized y.cls).before a T = true) (hP : ∀ g', P a (T.calling g' mk a))
    (hQ : ∀ q st t, Q q st t → ∃ L, FL L ∧ st.WarmedH t.vm ∧ st.sameButNew ({ t with vm := st.vm } : State) L mc ms) :
    ∃ (q : Addr) (t : State) (L : List Loc) (g' : JFrame), Q q (T.calling g' mk a) t ∧ FL L ∧ Stand p l e R s m args below meth c (({ T with heap := t.heap, slotsUsed := t.slotsUsed } : State).setVm t.vm) (locs ++ L) (cells + mc) (slots + ms) ∧ (T.calling g' mk a).sameButNew ({ t with vm := (T.calling g' mk a).vm } : State) L mc ms ∧
      Steps p.tables e below (doInvoke e (T.setTop g) [] mk a).1 (((({ T with heap := t.heap, slotsUsed := t.slotsUsed } : State).setVm t.vm).setTop g).pushFrame (.throwing q)) := by
  obtain ⟨methY, cY, hmY, hcY, -, hlY, -, -, -, -⟩ := Cond.code_spec hn h2
  obtain ⟨kY, hkY, -⟩ := className_of_methodNamed hn
  have hinitY : kY.init = .initialized := Cond.initialized_spec (findClass_of_methodNamed hn) hkY h3
  have h : At T g.method c below := by rw [hg]; exact X.here
  have happ : S.appliesLoose y e.platform (T.calling g mk a) = true :=
    Spec.appliesLoose_calling (g := g) h hdg hn hkY hinitY (X.room_calling (g := g) (R' := S.room) hsize hmY hcY hframes (by rw [hlY]; omega) hcells hslots) h1
  obtain ⟨mid, hmid⟩ := h.above
  have hfr : (T.setTop g).frames = (.java g :: mid) ++ below := by rw [State.frames_setTop' g h.top, hmid]; rfl
  obtain ⟨o, s₂, hsteps, -, hend, q, rfl, hq⟩ := Steps.callFree hM p X.admits X.cas X.clock (acts := []) hfr happ (hP g) trivial
  have hq' : Q q (T.calling g mk a) s₂ := hq
  obtain ⟨L, hFL, hW2, hsame⟩ := hQ _ _ _ hq'
  have hW' : T.WarmedH s₂.vm := hW2
  obtain ⟨e2, q2, q3, q4, q5, q6⟩ := id hsame
  rw [State.frames_setTop' g h.top] at hend
  have hend' : s₂.frames = .throwing q :: .java g :: T.frames.tail := hend
  have e3 : s₂ = ({ (T.calling g mk a).setFrames s₂.frames with heap := s₂.heap, slotsUsed := s₂.slotsUsed } : State).setVm s₂.vm := by
    have e5 : s₂ = ({ s₂ with vm := (T.calling g mk a).vm } : State).setVm s₂.vm := rfl
    rw [e2] at e5
    exact e5
  obtain ⟨g₀, hg0⟩ := Option.isSome_iff_exists.mp h.top
  obtain ⟨r, hr⟩ := State.topJava?_eq_some.mp hg0
  have hs₂ : s₂ = ((({ T with heap := s₂.heap, slotsUsed := s₂.slotsUsed } : State).setVm s₂.vm).setTop g).pushFrame (.throwing q) := by
    have hr' : (({ T with heap := s₂.heap, slotsUsed := s₂.slotsUsed } : State).setVm s₂.vm).frames = .java g₀ :: r := hr
    have hst : ((({ T with heap := s₂.heap, slotsUsed := s₂.slotsUsed } : State).setVm s₂.vm).setTop g).frames = .java g :: r := by
      rw [State.frames_setTop' g (by rw [State.topJava?_eq_some.mpr ⟨r, hr'⟩]; rfl), hr']
      rfl
    refine e3.trans ?_
    rw [hend', State.calling_eq h.top, State.setFrames_setFrames, State.pushFrame, hst, State.setTop_of_frames _ hr', State.setFrames_setFrames, hr]
    rfl
  have hsame2 : T.sameButNew ({ T with heap := s₂.heap, slotsUsed := s₂.slotsUsed } : State) L mc ms := by
    refine ⟨?_, q2, q3, q4, q5, q6⟩
    obtain ⟨t9, ht9, -⟩ := State.frames_cons hr
    show ({ T with heap := s₂.heap, slotsUsed := s₂.slotsUsed } : State) = { T.setFrames T.frames with heap := s₂.heap, slotsUsed := s₂.slotsUsed }
    rw [State.setFrames_self ht9]
  subst hg
  refine ⟨q, s₂, L, g, hq', hFL, ⟨X.admits, X.cas, X.clock, X.frames, X.room, X.hears, X.method, X.code, (X.here.setHeapUsed s₂.heap s₂.slotsUsed).setVm hW'.alike, X.tail, State.WarmedH.trans X.warmed hW', X.limits, X.bytes, X.same.trans (hsame2.setVm s.vm)⟩, hsame, ?_⟩
  rw [← hs₂]
  exact hsteps
end CALLX
end
section
/-! Calls with handlers around them, and of methods with handlers. -/
def p_kX : List (String × (PW → PX)) → String → PW → PX
  | [], _, _ => none
  | q :: t, E, w => if E = q.1 then q.2 w else p_kX t E w
def p_callX (x : PX) (K : Option Value → PW → PX) (KL : List (String × (PW → PX))) : PX := match x with
  | some (.inl rv, w1) => K rv w1
  | some (.inr E, w1) => p_kX KL E w1
  | none => none
theorem p_kX_some {E : String} {w : PW} {y : PR × PW} : ∀ {KL : List (String × (PW → PX))}, p_kX KL E w = some y → ∃ q ∈ KL, q.1 = E ∧ q.2 w = some y
  | [], h => nomatch h
  | q :: t, h => by
    unfold p_kX at h
    by_cases e : E = q.1
    · rw [if_pos e] at h
      exact ⟨q, List.mem_cons_self, e.symm, h⟩
    · rw [if_neg e] at h
      obtain ⟨q', h1, h2⟩ := p_kX_some h
      exact ⟨q', List.mem_cons_of_mem _ h1, h2⟩
/-- which handler takes E, by the words -/
def pz_hit (own E : String) (pc : Nat) : List (Nat × Nat × Nat × Nat) → Nat → Prop
  | [], _ => False
  | q :: t, hp => (q.1 ≤ pc ∧ pc < q.2.1 ∧ q.2.2.2 ≠ 0) ∧ ∃ nm, Cond.classLink own q.2.2.2 nm ∈ GW ∧ ((Cond.castable E nm ∈ NW ∧ q.2.2.1 = hp) ∨ ((E, nm) ∈ pz_NC ∧ pz_hit own E pc t hp))
theorem pz_hit.tab {Γ : PG} {μ : PM} {p : Program} {s : State} {m : MethodId} {args : Array Value} {meth : Method} {c : Code} {R : Room} (hF : pz_Fx Γ μ p s m args meth c R) {E : String} {pc hp : Nat} : ∀ {tab : List ExceptionTableEntry} {hh : List (Nat × Nat × Nat × Nat)}, tab.map (fun h => (h.startPc, h.endPc, h.handlerPc, h.catchType)) = hh → pz_hit (pm_own μ) E pc hh hp → pz_tab' s args (pm_own μ) E pc tab hp
  | [], [], _, h => h.elim
  | x :: t, q :: hh, e, h => by
    rw [List.map_cons] at e
    obtain ⟨e1, e2⟩ := List.cons.inj e
    subst e1
    obtain ⟨⟨h1, h2, h3⟩, nm, h4, h5⟩ := h
    refine ⟨by simp only [covers, Bool.and_eq_true, decide_eq_true_eq]; exact ⟨h1, h2⟩, h3, nm, hF.w _ h4, ?_⟩
    rcases h5 with ⟨h5, h6⟩ | ⟨h5, h6⟩
    · exact Or.inl ⟨hF.N h5, h6⟩
    · obtain ⟨-, -, -, -, -, -, -, -, -, -, -, -, hNC, -⟩ := hF.S s hF.E
      exact Or.inr ⟨hNC _ h5, pz_hit.tab hF e2 h6⟩
  | [], _ :: _, e, _ => nomatch e
  | _ :: _, [], e, _ => nomatch e
section WRAP
variable {Γ : PG} {μ ν : PM} {pc : Nat} {lv : List (Nat × Value)} {st : List Value} {w : PW} {x0 x1 : PX} {K : Option Value → PW → PX} {KL : List (String × (PW → PX))}
theorem ee_callVX {idx b ci n : Nat} {as : List Value} {C : String} {T : u_T} {N nL : Nat} {fs : List Value} {ret : Option FieldType} {hh : List (Nat × Nat × Nat × Nat)} (hd : decode (pm_cc μ) pc = .ok (.invokevirtual idx, 3)) (hE : EE Γ ν 0 (lv_args 0 (.ref b :: as)) [] w x1) (hy : pz_my ν) (hn : (lg_sl (.ref b :: as)).length ≤ pm_nL ν) (hna : pz_na ν n) (hal : as.length = n)
    (hc : vwCl[ci]? = some (C, T, N)) (hC : (pm_y ν).cls = C) (hob : w.1[b]? = some (.inr (ci, fs)))
    (h1 : Cond.methodLink (pm_own μ) idx (pm_y ν) ∈ GW) (h2 : Cond.instanceMethod (pm_y ν) ∈ GW) (h3 : Cond.selects C (pm_y ν) (pm_y ν) ∈ GW)
    (hR : pm_F ν + 1 ≤ pm_F μ ∧ 8 + (pm_nL ν + 11) + pm_L ν ≤ pm_L μ) (hst : (st.map fun v => v.category).sum ≤ 8)
    (hcw : Cond.codeWith (pm_y μ) (pm_cc μ) nL ret hh ∈ GW) (hx : ∀ q ∈ KL, ∃ hp, pz_hit (pm_own μ) q.1 pc hh hp ∧ ∀ w1, EE Γ μ hp lv [.float 0] w1 (q.2 w1))
    (kk : ∀ rv w1, x1 = some (.inl rv, w1) → EE Γ μ (pc + 3) lv (rv.toList ++ st) w1 (K rv w1)) : EE Γ μ pc lv (as.reverse ++ .ref b :: st) w (p_callX x1 K KL) := by
  match x1, hE, kk with
  | none, _, _ => exact ee_none
  | some (.inl rv, w1), hE, kk => exact ee_callV hd hE hy hn hna hal hc hC hob h1 h2 h3 hR hst kk
  | some (.inr E, w1), hE, _ =>
    intro r w' h
    obtain ⟨q, hq, rfl, hkx⟩ := p_kX_some (show p_kX KL E w1 = some (r, w') from h)
    obtain ⟨hp, hit, hEE⟩ := hx q hq
    obtain ⟨k1, k2, k3⟩ := hEE w1 r w' hkx
    obtain ⟨c1, c2, -⟩ := hE _ _ rfl
    refine ⟨Nat.le_trans c1 k1, Nat.le_trans c2 k2, fun p e s m args below meth c R α0 b1 b2 Q hF hQ => ?_⟩
    have hG := k3 p e s m args below meth c R α0 b1 b2 Q hF hQ
    have hQ1 := hQ.1
    have hQ2 := hQ.2.1
    intro H locs cells slots ls cst ⟨α, clv, ws, hα, hP, hD, hS, hw, hls, hlr, hsr, e1, e2⟩
    obtain ⟨l1, k9, rfl, hs1, hs2⟩ := hsr.split
    obtain ⟨a, rest, rfl, hb, hs3⟩ := hs2.r
    have has : pz_sr α (pg_X Γ) as l1.reverse := by
      have h9 := hs1.rev
      rwa [List.reverse_reverse] at h9
    obtain ⟨y, hy9, gs, rfl, hgs⟩ := hw.at hb hob
    intro T hT X
    subst hT
    have htb : pz_tab' s args (pm_own μ) q.1 pc c.exceptionTable.toList hp := by
      obtain ⟨m9, meth9, c9, g1, g2, g3, g4, g5, g6, -⟩ := Cond.codeWith_spec (hF.w _ hcw)
      cases hF.I.symm.trans g1
      cases X.method.symm.trans g2
      cases X.code.symm.trans g3
      exact pz_hit.tab hF g6 hit
    obtain ⟨mk, methM, hnamed, hmethM, hstM, habM⟩ := Cond.instanceMethod_spec (hF.w _ h2)
    obtain ⟨methM', cM, hmethM', -, -, -, -, -, -, hsigM⟩ := Cond.code_spec hnamed (hF.w _ hy.2.2.2.1)
    cases hmethM.symm.trans hmethM'
    obtain ⟨cS, rS, mS, q1, q2, q3, q4, kP, hkP, hkPi⟩ := Cond.selects_spec (hF.w _ h3)
    obtain ⟨cellB, hcB, hoB, hclB⟩ := va_recv hF.K hP hc hy9
    cases hclB.symm.trans q1
    cases (State.methodFound?_of_named hnamed hy.2.2.1).symm.trans q2
    cases hnamed.symm.trans q3
    have hselP : selectMethod e.platform s.vm cellB.cls mk = .method mk := by rw [Launch.admits_selectMethod X.admits]; exact q4
    have hlen : l1.reverse.length = methM.sig.parameters.length := by
      have h8 := hna
      unfold pz_na at h8
      rw [hsigM] at h8
      rw [has.len, hal]
      exact (Option.some.inj h8).symm
    obtain ⟨vm₁, X₁, hstep₁⟩ := X.invokevirtual hF.x hF.o (hF.w _ h1) hnamed hmethM hstM hkP hkPi hy.2.2.1 (a := a) (cell := cellB) hcB (fun z h => by rw [h] at hoB; cases hoB) hselP hmethM habM hkP hkPi (g := F0 m pc ls (l1 ++ .ref a :: rest)) rfl (argsL := l1.reverse) (rest := rest) hlen (by rw [List.reverse_reverse]) (by rw [hF.b]; exact hd)
    have hpre1 := pz_pre hF hP hS (T.setVm vm₁) rfl X₁.warmed
    have hwords : ∀ w9 ∈ pm_ws ν, ∀ a' : Array Value, w9.before a' (T.setVm vm₁) = true := fun w9 h9 a' => word_at X₁.warmed (pz_good w9 (pz_wsin hy w9 h9)) (hF.w w9 (pz_wsin hy w9 h9))
    obtain ⟨qa, t, L, g', hthr, hLA, X', -, hsteps⟩ := pz_invX X₁ (S := headSpec (pm_ws ν) (pm_rm ν w w1)) (W9 := 8) (len := 3) (mc := w1.2.1 - w.2.1) (ms := w1.2.2 - w.2.2) (bytes := pm_cc ν) (maxL := pm_nL ν) (ret := pm_ret ν) (FL := fun L => ∀ z ∈ L, pg_A Γ z.base) (Q := fun q9 st9 t9 => pz_ThrQ Γ α q.1 w1 (w1.2.1 - w.2.1) (w1.2.2 - w.2.2) st9 q9 t9) (pz_metX hE rfl hF.T hF.M hF.S hw hD (cas := .ref a :: l1.reverse) (has.pr hb) ⟨hy.1, hy.2.1⟩ hn) (by rw [hF.F]; exact hR.1) (by rw [hF.L]; exact hR.2) (by show cells + (w1.2.1 - w.2.1) ≤ R.cells; omega) (by show slots + (w1.2.2 - w.2.2) ≤ R.slots; omega) (g := F0 m pc ls rest) (ig := .invokevirtual idx) (mk := mk) (a := (Value.ref a :: l1.reverse).toArray) rfl (by rw [hF.l]; exact hls.1) (by rw [hF.b]; exact hd) (lv_room (by rw [hs3.cats]; exact hst)) (X₁.named hnamed) (atoms_intro fun w9 h9 => hwords w9 h9 _) (hwords _ List.mem_cons_self _) (hwords _ (List.mem_cons_of_mem _ hy.2.2.2.2) _) (fun g9 => pz_blind hF.M _ _ g9 mk ⟨rfl, hpre1⟩) (fun q9 st9 t9 h9 => by
      obtain ⟨ce9, L9, _, _, _, _, _, j1, j2, j3, _⟩ := h9
      exact ⟨L9, j3, j1, j2⟩)
    obtain ⟨ce, L9, α', ws', t1, t2, t3, t4, t5, t6, t7, t8, t9, t10, t11⟩ := hthr
    have t3' : s.vm.findClass q.1 = some ce.cls := by
      have h9 : (T.setVm vm₁).vm.findClass q.1 = some ce.cls := t3
      rw [X₁.warmed.alike.findClass] at h9
      exact h9
    obtain ⟨vm2, X2, st2⟩ := pz_caught X' hF.o (g := F0 m pc ls rest) rfl (a := qa) (cell := ce) t1 t2 t3' htb
    have hS' : va_S (pg_A Γ) s.heap t.heap (locs ++ L) := by
      obtain ⟨f1, f2⟩ := t11
      have f1' : T.heap.size ≤ t.heap.size := f1
      have f2' : ∀ q : Nat, q < T.heap.size → ¬ pg_A Γ q → t.heap[q]? = T.heap[q]? := f2
      refine ⟨Nat.le_trans hS.1 f1', fun q9 z1 z2 => (f2' q9 (Nat.lt_of_lt_of_le z1 hS.1) z2).trans (hS.2.1 q9 z1 z2), fun z hz => ?_⟩
      rcases List.mem_append.mp hz with hz | hz
      · exact hS.2.2 z hz
      · exact hLA z hz
    obtain ⟨u, u1, u2⟩ := hG t.heap (locs ++ L) (cells + (w1.2.1 - w.2.1)) (slots + (w1.2.2 - w.2.2)) ls [.ref qa] ⟨α', clv, ws', hα.tr t7, t8, t9, hS', t10, hls, hlr.mono t7, ⟨⟨qa, rfl⟩, trivial⟩, by omega, by omega⟩ _ (by exact rfl) X2
    exact ⟨u, hstep₁ _ fun acts => by rw [doInvoke_state]; exact hsteps.trans (st2.trans u1), u2⟩
/-- the words of a method with handlers -/
abbrev pm_wsW (μ : PM) (hh : List (Nat × Nat × Nat × Nat)) : List Cond := Cond.codeWith (pm_y μ) (pm_cc μ) (pm_nL μ) (pm_ret μ) hh :: GW
theorem pz_metW {as cas : List Value} {w1 : PW} {x : PX} {rv : Option Value} {α : List Nat} {ws : va_W} {hh : List (Nat × Nat × Nat × Nat)} (hE : EE Γ μ 0 (lv_args 0 as) [] w x) (hx : x = some (.inl rv, w1))
    (hT : (pg_T Γ).map (fun q => q.2) = pz_TYS) (hM : pz_mv Γ) (hS : ∀ U : State, pg_E Γ U → pz_ext (pg_l Γ) (pg_A Γ) (pg_X Γ) (pg_S Γ) U)
    (hw : pz_wr α (pg_X Γ) (pg_T Γ) w.1 ws) (hD : va_D (pg_A Γ) ws) (has : pz_sr α (pg_X Γ) as cas) (hy : plainName (pm_y μ).cls = true ∧ (pm_y μ).cls = pm_own μ) (hn : (lg_sl as).length ≤ pm_nL μ) :
    Met (pg_l Γ) (pm_y μ) (pm_wsW μ hh) (pm_rm μ w w1) (va_Pc cas (pz_Pre Γ ws)) (pz_Qc Γ α rv w1) (w1.2.1 - w.2.1) (w1.2.2 - w.2.2) (pg_A Γ) := by
  refine va_MetW (cc := pm_cc μ) (maxL := pm_nL μ) (ret := pm_ret μ) (hh := hh) hy.1 rfl ?_
  intro p e s m args below meth c s₁ B hml hv
  obtain ⟨rfl, hP, hK, hA, hX⟩ := hv
  obtain ⟨h1, h2, h3⟩ := hE _ _ hx
  have hts := atoms_spec (ws := pm_wsW μ hh) B.pre
  have hl := lv_entry cas (n := pm_nL μ) (by rw [pz_sl has]; exact hn)
  have hown : s.vm.findClass (pm_own μ) = some m.cls := by rw [← hy.2]; exact findClass_of_methodNamed B.named
  rw [lg_entry_eq]
  refine h3 p e s m cas.toArray below meth c _ α w.2.1 w.2.2 _ ⟨B.exec, B.bytes, B.returns, hml, fun w9 h9 => hts w9 (List.mem_cons_of_mem _ h9), hown, B.notSynchronized, hK, hA, hX, rfl, rfl, (name_of_methodNamed B.named B.method).1, B.named, hT, hM, hS⟩ ⟨?_, ?_, fun t h => h⟩ _ _ _ _ _ _ ⟨α, _, ws, pz_le.rf, hP, hD, va_S.rf, hw, hl, pz_args 0 has, trivial, rfl, rfl⟩
  · show w1.2.1 ≤ w.2.1 + (w1.2.1 - w.2.1)
    omega
  · show w1.2.2 ≤ w.2.2 + (w1.2.2 - w.2.2)
    omega
theorem ee_callSW {idx n : Nat} {as : List Value} {hh : List (Nat × Nat × Nat × Nat)} (hd : decode (pm_cc μ) pc = .ok (.invokestatic idx, 3)) (hE : EE Γ ν 0 (lv_args 0 as) [] w x1) (hy : plainName (pm_y ν).cls = true ∧ (pm_y ν).cls = pm_own ν ∧ ((pm_y ν).cls ≠ "java/lang/invoke/MethodHandle" ∧ (pm_y ν).cls ≠ "java/lang/invoke/VarHandle")) (hcw : Cond.codeWith (pm_y ν) (pm_cc ν) (pm_nL ν) (pm_ret ν) hh ∈ GW) (hini : Cond.initialized (pm_y ν).cls ∈ GW) (hn : (lg_sl as).length ≤ pm_nL ν) (hna : pz_na ν n) (hal : as.length = n)
    (h1 : Cond.methodLink (pm_own μ) idx (pm_y ν) ∈ GW) (h2 : Cond.static (pm_y ν) ∈ GW)
    (hR : pm_F ν + 1 ≤ pm_F μ ∧ 8 + (pm_nL ν + 11) + pm_L ν ≤ pm_L μ) (hst : (st.map fun v => v.category).sum ≤ 8)
    (kk : ∀ rv w1, x1 = some (.inl rv, w1) → EE Γ μ (pc + 3) lv (rv.toList ++ st) w1 (K rv w1)) : EE Γ μ pc lv (as.reverse ++ st) w (p_call x1 K) := by
  match x1, hE, kk with
  | none, _, _ => exact ee_none
  | some (.inr _, _), _, _ => exact ee_none
  | some (.inl rv, w1), hE, kk =>
    intro r w' h
    obtain ⟨k1, k2, k3⟩ := kk rv w1 rfl r w' h
    obtain ⟨c1, c2, -⟩ := hE _ _ rfl
    refine ⟨Nat.le_trans c1 k1, Nat.le_trans c2 k2, fun p e s m args below meth c R α0 b1 b2 Q hF hQ => ?_⟩
    have hG := k3 p e s m args below meth c R α0 b1 b2 Q hF hQ
    have hQ1 := hQ.1
    have hQ2 := hQ.2.1
    intro H locs cells slots ls cst ⟨α, clv, ws, hα, hP, hD, hS, hw, hls, hlr, hsr, e1, e2⟩
    obtain ⟨l1, rest, rfl, hs1, hs3⟩ := hsr.split
    have has : pz_sr α (pg_X Γ) as l1.reverse := by
      have h9 := hs1.rev
      rwa [List.reverse_reverse] at h9
    have hMet := pz_metW (hh := hh) hE rfl hF.T hF.M hF.S hw hD has ⟨hy.1, hy.2.1⟩ hn
    have hin : ∀ w9 ∈ pm_wsW ν hh, w9 ∈ GW := by
      intro w9 h9
      rcases List.mem_cons.mp h9 with rfl | h9
      · exact hcw
      · exact h9
    have hB : Back (pg_l Γ) R p e below s args (pm_y ν) 3 8 (PreOf R (w1.2.1 - w.2.1) (w1.2.2 - w.2.2) (va_Pc l1.reverse (pz_Pre Γ ws))) (PostOf (pz_Qc Γ α rv w1) (w1.2.1 - w.2.1) (w1.2.2 - w.2.2) (pg_A Γ)) :=
      va_backW (hh := hh) (bytes := pm_cc ν) (maxL := pm_nL ν) (ret := pm_ret ν) hMet (pz_blind hF.M) rfl rfl (by rw [hF.F]; exact hR.1) (by rw [hF.L]; exact hR.2) (fun w9 h9 a' U hW => word_at hW (pz_good w9 (hin w9 h9)) (hF.w w9 (hin w9 h9))) List.mem_cons_self (fun a' U hW => word_at hW (pz_good _ hini) (hF.w _ hini))
    refine g_call (α := α) (rv := rv) (w1 := w1) (a := l1.reverse.toArray) (mc := w1.2.1 - w.2.1) (ms := w1.2.2 - w.2.2) (rest := rest) ?_ hS (fun cv α' ws' H1 locs1 g1 g2 g3 g4 g5 g6 => hG _ _ _ _ _ _ ⟨α', clv, ws', hα.tr g2, g3, g4, g6, g5, hls, hlr.mono g2, (hs3.mono g2).app g1, by omega, by omega⟩)
    intro T hT X
    obtain ⟨mk, methM, cM, hnamed, hmethM, _, _, _, _, _, _, hsigM⟩ := Cond.codeWith_spec (hF.w _ hcw)
    have hstatic : methM.isStatic = true := Cond.static_spec hnamed hmethM (hF.w _ h2)
    obtain ⟨kP, hkP, -⟩ := className_of_methodNamed hnamed
    have hinitP : kP.init = .initialized := Cond.initialized_spec (findClass_of_methodNamed hnamed) hkP (hF.w _ hini)
    have hlen : l1.reverse.length = methM.sig.parameters.length := by
      have h8 := hna
      unfold pz_na at h8
      rw [hsigM] at h8
      rw [has.len, hal]
      exact (Option.some.inj h8).symm
    obtain ⟨vm₁, X₁, hstep₁⟩ := X.invokestatic hF.x hF.o (hF.w _ h1) hnamed hmethM hstatic hkP hinitP hy.2.2 (g := F0 m pc ls (l1 ++ rest)) rfl (argsL := l1.reverse) (rest := rest) hlen (by rw [List.reverse_reverse]) (by rw [hF.b]; exact hd)
    obtain ⟨v, ⟨U', l2, c2', s2'⟩, X', ⟨g', mk', t, L, j1, j2, hq, j3, hL, j4, j5⟩, hsteps⟩ := hB m meth c ⟨T.setVm vm₁, locs, cells, slots⟩ (F0 m pc ls rest) (.invokestatic idx) mk l1.reverse.toArray X₁ rfl (by rw [hF.l]; exact hls.1) (by rw [hF.b]; exact hd) (lv_room (by rw [hs3.cats]; exact hst)) (X₁.named hnamed) ⟨by show cells + _ ≤ _; omega, by show slots + _ ≤ _; omega, rfl, pz_pre hF hP hS (T.setVm vm₁) hT X₁.warmed⟩
    dsimp only [Pt.U, Pt.locs, Pt.cells, Pt.slots] at X' j1 j2 j3 j4 j5 hsteps
    subst j3
    subst j4
    subst j5
    exact ⟨v, (T.setVm vm₁).calling g' mk' l1.reverse.toArray, t, U', L, hT, X', hL, j1, j2, hq, fun target h9 => hstep₁ _ fun acts => by rw [doInvoke_state]; exact hsteps.trans h9⟩
/-- the caught object is put away -/
theorem ee_astore_nE {kf : Fin 4} {v : UInt32} {lv2 : List (Nat × Value)} (hd : decode (pm_cc μ) pc = .ok (.astore_n kf, 1)) (hn : (kf : Nat) < pm_nL μ) (hl : ((kf : Nat), Value.float v) :: lv.filter (fun q => !(q.1 == (kf : Nat)) && !(q.1 + 1 == (kf : Nat) && q.2.category == 2)) = lv2) (k : EE Γ μ (pc + 1) lv2 st w x0) : EE Γ μ pc lv (Value.float v :: st) w x0 := by
  subst hl
  refine ee_of (fun p e s m args below meth c R α0 b1 b2 Q hF hB hg => ?_) k
  intro H locs cells slots ls cst ⟨α, clv, ws, hα, hP, hD, hS, hw, hls, hlr, hsr, e1, e2⟩
  obtain ⟨c0, _, rfl, ⟨a9, rfl⟩, hs9⟩ := hsr.c
  exact lv_astore_n hF.x hF.b hd rfl hls hn rfl (fun ls2 hls2 => hg _ _ _ _ _ _ ⟨α, _, ws, hα, hP, hD, hS, hw, hls2, ⟨rfl, ⟨a9, rfl⟩, hlr.filter (fun k9 c9 => !(k9 == (kf : Nat)) && !(k9 + 1 == (kf : Nat) && c9 == 2))⟩, hs9, e1, e2⟩)
theorem ee_astoreE {i : Nat} {v : UInt32} {lv2 : List (Nat × Value)} (hd : decode (pm_cc μ) pc = .ok (.astore i, 2)) (hn : i < pm_nL μ) (hl : (i, Value.float v) :: lv.filter (fun q => !(q.1 == i) && !(q.1 + 1 == i && q.2.category == 2)) = lv2) (k : EE Γ μ (pc + 2) lv2 st w x0) : EE Γ μ pc lv (Value.float v :: st) w x0 := by
  subst hl
  refine ee_of (fun p e s m args below meth c R α0 b1 b2 Q hF hB hg => ?_) k
  intro H locs cells slots ls cst ⟨α, clv, ws, hα, hP, hD, hS, hw, hls, hlr, hsr, e1, e2⟩
  obtain ⟨c0, _, rfl, ⟨a9, rfl⟩, hs9⟩ := hsr.c
  exact lv_astore hF.x hF.b hd hls hn rfl (fun ls2 hls2 => hg _ _ _ _ _ _ ⟨α, _, ws, hα, hP, hD, hS, hw, hls2, ⟨rfl, ⟨a9, rfl⟩, hlr.filter (fun k9 c9 => !(k9 == i) && !(k9 + 1 == i && c9 == 2))⟩, hs9, e1, e2⟩)
/-- rows of longs -/
def p_arrJ (w : PW) (a : Nat) : Option (Nat × (Nat → Int64)) := match w.1[a]? with
  | some (.inl (t', n, .inr (.inl f))) => if t' = 3 then some (n, f) else none
  | _ => none
theorem p_arrJ_eq {w : PW} {a : Nat} {q : Nat × (Nat → Int64)} : p_arrJ w a = some q ↔ w.1[a]? = some (.inl (3, q.1, .inr (.inl q.2))) := by
  unfold p_arrJ
  constructor
  · intro h
    split at h
    · rename_i t' n f he
      by_cases hc : t' = 3
      · rw [if_pos hc] at h
        cases h
        rw [he, hc]
      · rw [if_neg hc] at h
        cases h
    · cases h
  · intro h
    rw [h]
    simp
def p_aldJ (w : PW) (a : Nat) (i : Int32) : Option Int64 := (p_arrJ w a).bind fun q => if i < 0 ∨ q.1 ≤ i.toNatClampNeg then none else some (q.2 i.toNatClampNeg)
def p_astJ (w : PW) (a : Nat) (i : Int32) (x : Int64) : Option PW := (p_arrJ w a).bind fun q => if i < 0 ∨ q.1 ≤ i.toNatClampNeg then none else some (w.1.set a (.inl (3, q.1, .inr (.inl (vp_updL q.2 i.toNatClampNeg x)))), w.2)
def p_newJ (w : PW) (i : Int32) (K : Nat → PW → PX) : PX := if i < 0 ∨ 536870912 < i.toNatClampNeg * 8 then none else K w.1.length (w.1 ++ [.inl (3, i.toNatClampNeg, .inr (.inl fun _ => 0))], w.2.1 + 1, w.2.2 + i.toNatClampNeg)
theorem ee_lald {a : Nat} {i : Int32} {K : Int64 → PX} (hd : decode (pm_cc μ) pc = .ok (.laload, 1)) (kk : ∀ v, p_aldJ w a i = some v → EE Γ μ (pc + 1) lv (.long v :: st) w (K v)) : EE Γ μ pc lv (.int i :: .ref a :: st) w ((p_aldJ w a i).bind K) := by
  refine ee_bind (fun v hv => ?_)
  have h9 := kk v hv
  unfold p_aldJ at hv
  obtain ⟨q, h1, h2⟩ := Option.bind_eq_some_iff.mp hv
  by_cases hc : i < 0 ∨ q.1 ≤ i.toNatClampNeg
  · rw [if_pos hc] at h2; cases h2
  rw [if_neg hc] at h2
  cases h2
  refine ee_of (fun p e s m args below meth c R α0 b1 b2 Q hF hB hg => ?_) h9
  intro H locs cells slots ls cst ⟨α, clv, ws, hα, hP, hD, hS, hw, hls, hlr, hsr, e1, e2⟩
  obtain ⟨_, rfl, hs1⟩ := hsr.i
  obtain ⟨a0, _, rfl, ha0, hs2⟩ := hs1.r
  obtain ⟨y, hy, cA, ty2, g, hT, rfl, (rfl : g = .inr (.inl q.2))⟩ := hw.at ha0 (p_arrJ_eq.mp h1)
  have e9 := pz_ty hF.T hT (ty2 := .long) rfl
  subst e9
  exact va_lald hF.x hF.b hF.K hP a 3 hy hT hc hd (hg _ _ _ _ _ _ ⟨α, clv, ws, hα, hP, hD, hS, hw, hls, hlr, hs2.pl, e1, e2⟩)
theorem ee_last {a : Nat} {i : Int32} {x : Int64} {K : PW → PX} (hd : decode (pm_cc μ) pc = .ok (.lastore, 1)) (kk : ∀ w1, p_astJ w a i x = some w1 → EE Γ μ (pc + 1) lv st w1 (K w1)) : EE Γ μ pc lv (.long x :: .int i :: .ref a :: st) w ((p_astJ w a i x).bind K) := by
  refine ee_bind (fun v hv => ?_)
  have h9 := kk v hv
  unfold p_astJ at hv
  obtain ⟨q, h1, h2⟩ := Option.bind_eq_some_iff.mp hv
  by_cases hc : i < 0 ∨ q.1 ≤ i.toNatClampNeg
  · rw [if_pos hc] at h2; cases h2
  rw [if_neg hc] at h2
  cases h2
  refine ee_w ⟨by exact Nat.le_refl _, by exact Nat.le_refl _⟩ (fun p e s m args below meth c R α0 b1 b2 Q hF hB hg => ?_) h9
  intro H locs cells slots ls cst ⟨α, clv, ws, hα, hP, hD, hS, hw, hls, hlr, hsr, e1, e2⟩
  obtain ⟨_, rfl, hs1⟩ := hsr.l
  obtain ⟨_, rfl, hs2⟩ := hs1.i
  obtain ⟨a0, _, rfl, ha0, hs3⟩ := hs2.r
  obtain ⟨y, hy, cA, ty2, g, hT, rfl, (rfl : g = .inr (.inl q.2))⟩ := hw.at ha0 (p_arrJ_eq.mp h1)
  have e9 := pz_ty hF.T hT (ty2 := .long) rfl
  subst e9
  exact va_last hF.x hF.b hF.K hP hD hS a 3 hy hT hc hd (fun H1 locs1 hP1 hD1 hS1 => hg _ _ _ _ _ _ ⟨α, clv, _, hα, hP1, hD1, hS1, hw.set ha0 ⟨_, _, _, hT, rfl, rfl⟩, hls, hlr, hs3, e1, e2⟩)
theorem ee_newJ {i : Int32} {K : Nat → PW → PX} (hd : decode (pm_cc μ) pc = .ok (.newarray .long, 2)) (kk : ∀ a w1, a = w.1.length → w1 = (w.1 ++ [.inl (3, i.toNatClampNeg, .inr (.inl fun _ => 0))], w.2.1 + 1, w.2.2 + i.toNatClampNeg) → ¬ i < 0 → EE Γ μ (pc + 2) lv (.ref a :: st) w1 (K a w1)) : EE Γ μ pc lv (.int i :: st) w (p_newJ w i K) := by
  unfold p_newJ
  by_cases hc : i < 0 ∨ 536870912 < i.toNatClampNeg * 8
  · rw [if_pos hc]; exact ee_none
  rw [if_neg hc]
  have hi : ¬ i < 0 := fun h => hc (Or.inl h)
  have hb : ¬ 536870912 < i.toNatClampNeg * 8 := fun h => hc (Or.inr h)
  refine ee_w (w1 := (w.1 ++ [.inl (3, i.toNatClampNeg, .inr (.inl fun _ => 0))], w.2.1 + 1, w.2.2 + i.toNatClampNeg)) ⟨Nat.le_succ _, Nat.le_add_right _ _⟩ (fun p e s m args below meth c R α0 b1 b2 Q hF hB hg => ?_) (kk _ _ rfl rfl hi)
  intro H locs cells slots ls cst ⟨α, clv, ws, hα, hP, hD, hS, hw, hls, hlr, hsr, e1, e2⟩
  obtain ⟨_, rfl, hs1⟩ := hsr.i
  have hB1 : w.2.1 + 1 ≤ b1 + R.cells := hB.1
  have hB2 : w.2.2 + i.toNatClampNeg ≤ b2 + R.slots := hB.2
  refine va_newa (atype := .long) (ty := .long) hF.x hF.b (hF.w _ gw_acJ) rfl hF.K hP hD hS hF.A (a0 := (i.toNatClampNeg, .inr (.inl fun _ => 0))) (fun cA => by rw [vp_cell_l]; rfl) hi rfl (by show i.toNatClampNeg * 8 ≤ _; omega) (by omega) (by omega) hd (fun q cA H1 hK1 hP1 hD1 hS1 => ?_)
  have hle : pz_le α (α ++ [q]) := ⟨[q], rfl⟩
  obtain ⟨c2, ty2, h2⟩ : ∃ c2 ty2, (pg_T Γ)[3]? = some (c2, ty2) := by
    have h9 : pz_TYS[3]? = some .long := rfl
    rw [← hF.T, List.getElem?_map] at h9
    cases h8 : (pg_T Γ)[3]? with
    | none => rw [h8] at h9; cases h9
    | some q9 => exact ⟨q9.1, q9.2, rfl⟩
  have e9 := pz_ty hF.T h2 (ty2 := .long) rfl
  subst e9
  have r1 : s.vm.findClass ("[" ++ FieldType.long.toString) = some c2 := (hF.K.2 3 _ h2).2
  have r2 : s.vm.findClass ("[" ++ FieldType.long.toString) = some cA := (hK1.2 (pg_T Γ).length (cA, .long) (by rw [List.getElem?_append_right (Nat.le_refl _), Nat.sub_self]; rfl)).2
  have e8 : c2 = cA := Option.some.inj (r1.symm.trans r2)
  subst e8
  exact hg _ _ _ _ _ _ ⟨α ++ [q], clv, _, hα.tr hle, hP1, hD1, hS1, hw.push ⟨_, _, _, h2, rfl, rfl⟩, hls, hlr.mono hle, (hs1.mono hle).pr (hw.new q), by show w.2.1 + 1 = _; omega, by show w.2.2 + i.toNatClampNeg = _; omega⟩
/-- the script -/
def p_sld (S : Nat × (Nat → Int32)) (i : Int32) : Option Int32 := if i < 0 ∨ S.1 ≤ i.toNatClampNeg then none else some (S.2 i.toNatClampNeg)
theorem ee_sld {i : Int32} {K : Int32 → PX} (hd : decode (pm_cc μ) pc = .ok (.iaload, 1)) (kk : ∀ v, p_sld (pg_S Γ) i = some v → EE Γ μ (pc + 1) lv (.int v :: st) w (K v)) : EE Γ μ pc lv (.int i :: .retAddr 5 :: st) w ((p_sld (pg_S Γ) i).bind K) := by
  refine ee_bind (fun v hv => ?_)
  have h9 := kk v hv
  unfold p_sld at hv
  by_cases hc : i < 0 ∨ (pg_S Γ).1 ≤ i.toNatClampNeg
  · rw [if_pos hc] at hv; cases hv
  rw [if_neg hc] at hv
  cases hv
  refine ee_of (fun p e s m args below meth c R α0 b1 b2 Q hF hB hg => ?_) h9
  intro H locs cells slots ls cst ⟨α, clv, ws, hα, hP, hD, hS, hw, hls, hlr, hsr, e1, e2⟩
  obtain ⟨_, rfl, hs1⟩ := hsr.i
  obtain ⟨_, rfl, hs2⟩ := hs1.x
  obtain ⟨-, -, -, -, -, -, -, -, -, -, -, -, -, x1, x2, x3⟩ := hF.S s hF.E
  exact va_sld hF.x hF.b x1 x2 x3 hS hc hd (hg _ _ _ _ _ _ ⟨α, clv, ws, hα, hP, hD, hS, hw, hls, hlr, hs2.pi, e1, e2⟩)
theorem ee_slen {K : Int32 → PX} (hd : decode (pm_cc μ) pc = .ok (.arraylength, 1)) (kk : ∀ v, v = Int32.ofNat (pg_S Γ).1 → EE Γ μ (pc + 1) lv (.int v :: st) w (K v)) : EE Γ μ pc lv (.retAddr 5 :: st) w (p_let (Int32.ofNat (pg_S Γ).1) K) := by
  refine ee_of (fun p e s m args below meth c R α0 b1 b2 Q hF hB hg => ?_) (kk _ rfl)
  intro H locs cells slots ls cst ⟨α, clv, ws, hα, hP, hD, hS, hw, hls, hlr, hsr, e1, e2⟩
  obtain ⟨_, rfl, hs2⟩ := hsr.x
  obtain ⟨-, -, -, -, -, -, -, -, -, -, -, -, -, x1, x2, x3⟩ := hF.S s hF.E
  exact va_slen hF.x hF.b x1 x2 x3 hS hd (hg _ _ _ _ _ _ ⟨α, clv, ws, hα, hP, hD, hS, hw, hls, hlr, hs2.pi, e1, e2⟩)
end WRAP
end
