section
-- ===== PART A: goes FIRST, ahead of the names: the tables' words, and 'selects' of the private methods out of them =====
/-- a private method of a class that the tables say can be made, by its rows of tables_1 -/
def lw_okq (q : MethodName × Nat) : Prop := (q.1.cls ≠ "java/lang/invoke/MethodHandle" ∧ q.1.cls ≠ "java/lang/invoke/VarHandle") ∧ Cond.instantiable q.1.cls q.2 ∈ tables_1 ∧ Cond.privateMethod q.1 ∈ tables_1 ∧ Cond.instanceMethod q.1 ∈ tables_1
theorem lw_p0 : lw_okq (⟨"PuddleBoatyard$SlipPlan", "clearSlips", "()V"⟩, 3) := ⟨⟨by decide +kernel, by decide +kernel⟩, List.mem_of_getElem? (i := 259) (by decide +kernel), List.mem_of_getElem? (i := 333) (by decide +kernel), List.mem_of_getElem? (i := 334) (by decide +kernel)⟩
theorem lw_p1 : lw_okq (⟨"PuddleBoatyard$SlipPlan", "findsPlace", "(LPuddleBoatyard$Yard;II)Z"⟩, 3) := ⟨⟨by decide +kernel, by decide +kernel⟩, List.mem_of_getElem? (i := 259) (by decide +kernel), List.mem_of_getElem? (i := 337) (by decide +kernel), List.mem_of_getElem? (i := 338) (by decide +kernel)⟩
theorem lw_p2 : lw_okq (⟨"PuddleBoatyard$SlipPlan", "shortestFreeSlip", "(LPuddleBoatyard$Yard;I)I"⟩, 3) := ⟨⟨by decide +kernel, by decide +kernel⟩, List.mem_of_getElem? (i := 259) (by decide +kernel), List.mem_of_getElem? (i := 356) (by decide +kernel), List.mem_of_getElem? (i := 357) (by decide +kernel)⟩
theorem lw_p3 : lw_okq (⟨"PuddleBoatyard$SlipPlan", "addUsesWith", "(LPuddleBoatyard$Yard;I)V"⟩, 3) := ⟨⟨by decide +kernel, by decide +kernel⟩, List.mem_of_getElem? (i := 259) (by decide +kernel), List.mem_of_getElem? (i := 368) (by decide +kernel), List.mem_of_getElem? (i := 369) (by decide +kernel)⟩
theorem lw_p4 : lw_okq (⟨"PuddleBoatyard$Orders", "dearestLeft", "(II)I"⟩, 7) := ⟨⟨by decide +kernel, by decide +kernel⟩, List.mem_of_getElem? (i := 50) (by decide +kernel), List.mem_of_getElem? (i := 390) (by decide +kernel), List.mem_of_getElem? (i := 391) (by decide +kernel)⟩
theorem lw_p5 : lw_okq (⟨"PuddleBoatyard", "modify", "(IIII)I"⟩, 13) := ⟨⟨by decide +kernel, by decide +kernel⟩, List.mem_of_getElem? (i := 34) (by decide +kernel), List.mem_of_getElem? (i := 434) (by decide +kernel), List.mem_of_getElem? (i := 435) (by decide +kernel)⟩
theorem lw_p6 : lw_okq (⟨"PuddleBoatyard$Yard", "faultOfFrame", "(III)I"⟩, 7) := ⟨⟨by decide +kernel, by decide +kernel⟩, List.mem_of_getElem? (i := 42) (by decide +kernel), List.mem_of_getElem? (i := 442) (by decide +kernel), List.mem_of_getElem? (i := 443) (by decide +kernel)⟩
theorem lw_p7 : lw_okq (⟨"PuddleBoatyard$Yard", "faultUnlessIn", "(III)I"⟩, 7) := ⟨⟨by decide +kernel, by decide +kernel⟩, List.mem_of_getElem? (i := 42) (by decide +kernel), List.mem_of_getElem? (i := 453) (by decide +kernel), List.mem_of_getElem? (i := 454) (by decide +kernel)⟩
theorem lw_p8 : lw_okq (⟨"PuddleBoatyard$Yard", "faultOfUnits", "(IIII)I"⟩, 7) := ⟨⟨by decide +kernel, by decide +kernel⟩, List.mem_of_getElem? (i := 42) (by decide +kernel), List.mem_of_getElem? (i := 457) (by decide +kernel), List.mem_of_getElem? (i := 458) (by decide +kernel)⟩
theorem lw_p9 : lw_okq (⟨"PuddleBoatyard$Yard", "faultOfLaunch", "(I)I"⟩, 7) := ⟨⟨by decide +kernel, by decide +kernel⟩, List.mem_of_getElem? (i := 42) (by decide +kernel), List.mem_of_getElem? (i := 461) (by decide +kernel), List.mem_of_getElem? (i := 462) (by decide +kernel)⟩
theorem lw_p10 : lw_okq (⟨"PuddleBoatyard$Yard", "faultOfCaulking", "(II)I"⟩, 7) := ⟨⟨by decide +kernel, by decide +kernel⟩, List.mem_of_getElem? (i := 42) (by decide +kernel), List.mem_of_getElem? (i := 491) (by decide +kernel), List.mem_of_getElem? (i := 492) (by decide +kernel)⟩
theorem lw_p11 : lw_okq (⟨"PuddleBoatyard$Yard", "faultOfOrder", "(III)I"⟩, 7) := ⟨⟨by decide +kernel, by decide +kernel⟩, List.mem_of_getElem? (i := 42) (by decide +kernel), List.mem_of_getElem? (i := 499) (by decide +kernel), List.mem_of_getElem? (i := 500) (by decide +kernel)⟩
theorem lw_p12 : lw_okq (⟨"PuddleBoatyard$Yard", "faultOfDelivery", "(II)I"⟩, 7) := ⟨⟨by decide +kernel, by decide +kernel⟩, List.mem_of_getElem? (i := 42) (by decide +kernel), List.mem_of_getElem? (i := 503) (by decide +kernel), List.mem_of_getElem? (i := 504) (by decide +kernel)⟩
theorem lw_p13 : lw_okq (⟨"PuddleBoatyard", "storeIfRefusal", "(II)V"⟩, 13) := ⟨⟨by decide +kernel, by decide +kernel⟩, List.mem_of_getElem? (i := 34) (by decide +kernel), List.mem_of_getElem? (i := 511) (by decide +kernel), List.mem_of_getElem? (i := 512) (by decide +kernel)⟩
theorem lw_p14 : lw_okq (⟨"java/lang/Throwable", "fillInStackTrace", "(I)Ljava/lang/Throwable;"⟩, 6) := ⟨⟨by decide +kernel, by decide +kernel⟩, List.mem_of_getElem? (i := 562) (by decide +kernel), List.mem_of_getElem? (i := 560) (by decide +kernel), List.mem_of_getElem? (i := 561) (by decide +kernel)⟩
theorem lw_p15 : lw_okq (⟨"PuddleBoatyard$Yard", "letHoursPass", "(I)I"⟩, 7) := ⟨⟨by decide +kernel, by decide +kernel⟩, List.mem_of_getElem? (i := 42) (by decide +kernel), List.mem_of_getElem? (i := 679) (by decide +kernel), List.mem_of_getElem? (i := 680) (by decide +kernel)⟩
def lw_privs_1 : List (MethodName × Nat) := [(⟨"PuddleBoatyard$SlipPlan", "clearSlips", "()V"⟩, 3), (⟨"PuddleBoatyard$SlipPlan", "findsPlace", "(LPuddleBoatyard$Yard;II)Z"⟩, 3), (⟨"PuddleBoatyard$SlipPlan", "shortestFreeSlip", "(LPuddleBoatyard$Yard;I)I"⟩, 3), (⟨"PuddleBoatyard$SlipPlan", "addUsesWith", "(LPuddleBoatyard$Yard;I)V"⟩, 3), (⟨"PuddleBoatyard$Orders", "dearestLeft", "(II)I"⟩, 7), (⟨"PuddleBoatyard", "modify", "(IIII)I"⟩, 13), (⟨"PuddleBoatyard$Yard", "faultOfFrame", "(III)I"⟩, 7), (⟨"PuddleBoatyard$Yard", "faultUnlessIn", "(III)I"⟩, 7), (⟨"PuddleBoatyard$Yard", "faultOfUnits", "(IIII)I"⟩, 7), (⟨"PuddleBoatyard$Yard", "faultOfLaunch", "(I)I"⟩, 7), (⟨"PuddleBoatyard$Yard", "faultOfCaulking", "(II)I"⟩, 7), (⟨"PuddleBoatyard$Yard", "faultOfOrder", "(III)I"⟩, 7), (⟨"PuddleBoatyard$Yard", "faultOfDelivery", "(II)I"⟩, 7), (⟨"PuddleBoatyard", "storeIfRefusal", "(II)V"⟩, 13), (⟨"java/lang/Throwable", "fillInStackTrace", "(I)Ljava/lang/Throwable;"⟩, 6), (⟨"PuddleBoatyard$Yard", "letHoursPass", "(I)I"⟩, 7)]
theorem lw_r1 : ∀ q ∈ lw_privs_1, lw_okq q := List.forall_mem_cons.mpr ⟨lw_p0, List.forall_mem_cons.mpr ⟨lw_p1, List.forall_mem_cons.mpr ⟨lw_p2, List.forall_mem_cons.mpr ⟨lw_p3, List.forall_mem_cons.mpr ⟨lw_p4, List.forall_mem_cons.mpr ⟨lw_p5, List.forall_mem_cons.mpr ⟨lw_p6, List.forall_mem_cons.mpr ⟨lw_p7, List.forall_mem_cons.mpr ⟨lw_p8, List.forall_mem_cons.mpr ⟨lw_p9, List.forall_mem_cons.mpr ⟨lw_p10, List.forall_mem_cons.mpr ⟨lw_p11, List.forall_mem_cons.mpr ⟨lw_p12, List.forall_mem_cons.mpr ⟨lw_p13, List.forall_mem_cons.mpr ⟨lw_p14, List.forall_mem_cons.mpr ⟨lw_p15, fun _ h => absurd h List.not_mem_nil⟩⟩⟩⟩⟩⟩⟩⟩⟩⟩⟩⟩⟩⟩⟩⟩
theorem lw_p16 : lw_okq (⟨"PuddleBoatyard$Yard", "sinksInThisHour", "(LPuddleBoatyard$Hull;)Z"⟩, 7) := ⟨⟨by decide +kernel, by decide +kernel⟩, List.mem_of_getElem? (i := 42) (by decide +kernel), List.mem_of_getElem? (i := 683) (by decide +kernel), List.mem_of_getElem? (i := 684) (by decide +kernel)⟩
theorem lw_p17 : lw_okq (⟨"PuddleBoatyard$Yard", "handOver", "(II)I"⟩, 7) := ⟨⟨by decide +kernel, by decide +kernel⟩, List.mem_of_getElem? (i := 42) (by decide +kernel), List.mem_of_getElem? (i := 699) (by decide +kernel), List.mem_of_getElem? (i := 700) (by decide +kernel)⟩
theorem lw_p18 : lw_okq (⟨"PuddleBoatyard", "knownHull", "(I)LPuddleBoatyard$Hull;"⟩, 13) := ⟨⟨by decide +kernel, by decide +kernel⟩, List.mem_of_getElem? (i := 34) (by decide +kernel), List.mem_of_getElem? (i := 780) (by decide +kernel), List.mem_of_getElem? (i := 781) (by decide +kernel)⟩
theorem lw_p19 : lw_okq (⟨"PuddleBoatyard", "draughtForLaunch", "(I)I"⟩, 13) := ⟨⟨by decide +kernel, by decide +kernel⟩, List.mem_of_getElem? (i := 34) (by decide +kernel), List.mem_of_getElem? (i := 954) (by decide +kernel), List.mem_of_getElem? (i := 955) (by decide +kernel)⟩
theorem lw_p20 : lw_okq (⟨"PuddleBoatyard$Program", "readCommand", "(II)Z"⟩, 7) := ⟨⟨by decide +kernel, by decide +kernel⟩, List.mem_of_getElem? (i := 181) (by decide +kernel), List.mem_of_getElem? (i := 1395) (by decide +kernel), List.mem_of_getElem? (i := 1396) (by decide +kernel)⟩
theorem lw_p21 : lw_okq (⟨"PuddleBoatyard$Program", "fitsForm", "(Ljava/lang/String;II)Z"⟩, 7) := ⟨⟨by decide +kernel, by decide +kernel⟩, List.mem_of_getElem? (i := 181) (by decide +kernel), List.mem_of_getElem? (i := 1413) (by decide +kernel), List.mem_of_getElem? (i := 1414) (by decide +kernel)⟩
theorem lw_p22 : lw_okq (⟨"PuddleBoatyard$Program", "countDigits", "(I)I"⟩, 7) := ⟨⟨by decide +kernel, by decide +kernel⟩, List.mem_of_getElem? (i := 181) (by decide +kernel), List.mem_of_getElem? (i := 1433) (by decide +kernel), List.mem_of_getElem? (i := 1434) (by decide +kernel)⟩
theorem lw_p23 : lw_okq (⟨"PuddleBoatyard$Program", "valueOf", "(I)I"⟩, 7) := ⟨⟨by decide +kernel, by decide +kernel⟩, List.mem_of_getElem? (i := 181) (by decide +kernel), List.mem_of_getElem? (i := 1438) (by decide +kernel), List.mem_of_getElem? (i := 1439) (by decide +kernel)⟩
theorem lw_p24 : lw_okq (⟨"PuddleBoatyard", "runProgram", "()I"⟩, 13) := ⟨⟨by decide +kernel, by decide +kernel⟩, List.mem_of_getElem? (i := 34) (by decide +kernel), List.mem_of_getElem? (i := 1444) (by decide +kernel), List.mem_of_getElem? (i := 1445) (by decide +kernel)⟩
theorem lw_p25 : lw_okq (⟨"PuddleBoatyardModel", "starts", "()V"⟩, 24) := ⟨⟨by decide +kernel, by decide +kernel⟩, List.mem_of_getElem? (i := 1489) (by decide +kernel), List.mem_of_getElem? (i := 1576) (by decide +kernel), List.mem_of_getElem? (i := 1577) (by decide +kernel)⟩
theorem lw_p26 : lw_okq (⟨"PuddleBoatyardModel", "hullIt", "()I"⟩, 24) := ⟨⟨by decide +kernel, by decide +kernel⟩, List.mem_of_getElem? (i := 1489) (by decide +kernel), List.mem_of_getElem? (i := 1580) (by decide +kernel), List.mem_of_getElem? (i := 1581) (by decide +kernel)⟩
theorem lw_p27 : lw_okq (⟨"PuddleBoatyardModel", "throwing", "(I)I"⟩, 24) := ⟨⟨by decide +kernel, by decide +kernel⟩, List.mem_of_getElem? (i := 1489) (by decide +kernel), List.mem_of_getElem? (i := 1584) (by decide +kernel), List.mem_of_getElem? (i := 1585) (by decide +kernel)⟩
theorem lw_p28 : lw_okq (⟨"PuddleBoatyardModel", "changed", "(I)I"⟩, 24) := ⟨⟨by decide +kernel, by decide +kernel⟩, List.mem_of_getElem? (i := 1489) (by decide +kernel), List.mem_of_getElem? (i := 1588) (by decide +kernel), List.mem_of_getElem? (i := 1589) (by decide +kernel)⟩
theorem lw_p29 : lw_okq (⟨"PuddleBoatyardModel", "frameIt", "(III)I"⟩, 24) := ⟨⟨by decide +kernel, by decide +kernel⟩, List.mem_of_getElem? (i := 1489) (by decide +kernel), List.mem_of_getElem? (i := 1596) (by decide +kernel), List.mem_of_getElem? (i := 1597) (by decide +kernel)⟩
theorem lw_p30 : lw_okq (⟨"PuddleBoatyardModel", "isHull", "(I)Z"⟩, 24) := ⟨⟨by decide +kernel, by decide +kernel⟩, List.mem_of_getElem? (i := 1489) (by decide +kernel), List.mem_of_getElem? (i := 1600) (by decide +kernel), List.mem_of_getElem? (i := 1601) (by decide +kernel)⟩
theorem lw_p31 : lw_okq (⟨"PuddleBoatyardModel", "state", "(I)I"⟩, 24) := ⟨⟨by decide +kernel, by decide +kernel⟩, List.mem_of_getElem? (i := 1489) (by decide +kernel), List.mem_of_getElem? (i := 1608) (by decide +kernel), List.mem_of_getElem? (i := 1609) (by decide +kernel)⟩
def lw_privs_2 : List (MethodName × Nat) := [(⟨"PuddleBoatyard$Yard", "sinksInThisHour", "(LPuddleBoatyard$Hull;)Z"⟩, 7), (⟨"PuddleBoatyard$Yard", "handOver", "(II)I"⟩, 7), (⟨"PuddleBoatyard", "knownHull", "(I)LPuddleBoatyard$Hull;"⟩, 13), (⟨"PuddleBoatyard", "draughtForLaunch", "(I)I"⟩, 13), (⟨"PuddleBoatyard$Program", "readCommand", "(II)Z"⟩, 7), (⟨"PuddleBoatyard$Program", "fitsForm", "(Ljava/lang/String;II)Z"⟩, 7), (⟨"PuddleBoatyard$Program", "countDigits", "(I)I"⟩, 7), (⟨"PuddleBoatyard$Program", "valueOf", "(I)I"⟩, 7), (⟨"PuddleBoatyard", "runProgram", "()I"⟩, 13), (⟨"PuddleBoatyardModel", "starts", "()V"⟩, 24), (⟨"PuddleBoatyardModel", "hullIt", "()I"⟩, 24), (⟨"PuddleBoatyardModel", "throwing", "(I)I"⟩, 24), (⟨"PuddleBoatyardModel", "changed", "(I)I"⟩, 24), (⟨"PuddleBoatyardModel", "frameIt", "(III)I"⟩, 24), (⟨"PuddleBoatyardModel", "isHull", "(I)Z"⟩, 24), (⟨"PuddleBoatyardModel", "state", "(I)I"⟩, 24)]
theorem lw_r2 : ∀ q ∈ lw_privs_2, lw_okq q := List.forall_mem_cons.mpr ⟨lw_p16, List.forall_mem_cons.mpr ⟨lw_p17, List.forall_mem_cons.mpr ⟨lw_p18, List.forall_mem_cons.mpr ⟨lw_p19, List.forall_mem_cons.mpr ⟨lw_p20, List.forall_mem_cons.mpr ⟨lw_p21, List.forall_mem_cons.mpr ⟨lw_p22, List.forall_mem_cons.mpr ⟨lw_p23, List.forall_mem_cons.mpr ⟨lw_p24, List.forall_mem_cons.mpr ⟨lw_p25, List.forall_mem_cons.mpr ⟨lw_p26, List.forall_mem_cons.mpr ⟨lw_p27, List.forall_mem_cons.mpr ⟨lw_p28, List.forall_mem_cons.mpr ⟨lw_p29, List.forall_mem_cons.mpr ⟨lw_p30, List.forall_mem_cons.mpr ⟨lw_p31, fun _ h => absurd h List.not_mem_nil⟩⟩⟩⟩⟩⟩⟩⟩⟩⟩⟩⟩⟩⟩⟩⟩
theorem lw_p32 : lw_okq (⟨"PuddleBoatyardModel", "frames", "(I)I"⟩, 24) := ⟨⟨by decide +kernel, by decide +kernel⟩, List.mem_of_getElem? (i := 1489) (by decide +kernel), List.mem_of_getElem? (i := 1615) (by decide +kernel), List.mem_of_getElem? (i := 1616) (by decide +kernel)⟩
theorem lw_p33 : lw_okq (⟨"PuddleBoatyardModel", "mirrorIt", "(I)I"⟩, 24) := ⟨⟨by decide +kernel, by decide +kernel⟩, List.mem_of_getElem? (i := 1489) (by decide +kernel), List.mem_of_getElem? (i := 1623) (by decide +kernel), List.mem_of_getElem? (i := 1624) (by decide +kernel)⟩
theorem lw_p34 : lw_okq (⟨"PuddleBoatyardModel", "width", "(III)I"⟩, 24) := ⟨⟨by decide +kernel, by decide +kernel⟩, List.mem_of_getElem? (i := 1489) (by decide +kernel), List.mem_of_getElem? (i := 1627) (by decide +kernel), List.mem_of_getElem? (i := 1628) (by decide +kernel)⟩
theorem lw_p35 : lw_okq (⟨"PuddleBoatyardModel", "cargoIt", "(II)I"⟩, 24) := ⟨⟨by decide +kernel, by decide +kernel⟩, List.mem_of_getElem? (i := 1489) (by decide +kernel), List.mem_of_getElem? (i := 1635) (by decide +kernel), List.mem_of_getElem? (i := 1636) (by decide +kernel)⟩
theorem lw_p36 : lw_okq (⟨"PuddleBoatyardModel", "isWorked", "(I)Z"⟩, 24) := ⟨⟨by decide +kernel, by decide +kernel⟩, List.mem_of_getElem? (i := 1489) (by decide +kernel), List.mem_of_getElem? (i := 1640) (by decide +kernel), List.mem_of_getElem? (i := 1641) (by decide +kernel)⟩
theorem lw_p37 : lw_okq (⟨"PuddleBoatyardModel", "launchIt", "(I)I"⟩, 24) := ⟨⟨by decide +kernel, by decide +kernel⟩, List.mem_of_getElem? (i := 1489) (by decide +kernel), List.mem_of_getElem? (i := 1648) (by decide +kernel), List.mem_of_getElem? (i := 1649) (by decide +kernel)⟩
theorem lw_p38 : lw_okq (⟨"PuddleBoatyardModel", "weight", "(I)I"⟩, 24) := ⟨⟨by decide +kernel, by decide +kernel⟩, List.mem_of_getElem? (i := 1489) (by decide +kernel), List.mem_of_getElem? (i := 1652) (by decide +kernel), List.mem_of_getElem? (i := 1653) (by decide +kernel)⟩
theorem lw_p39 : lw_okq (⟨"PuddleBoatyardModel", "dry", "(I)I"⟩, 24) := ⟨⟨by decide +kernel, by decide +kernel⟩, List.mem_of_getElem? (i := 1489) (by decide +kernel), List.mem_of_getElem? (i := 1656) (by decide +kernel), List.mem_of_getElem? (i := 1657) (by decide +kernel)⟩
theorem lw_p40 : lw_okq (⟨"PuddleBoatyardModel", "draught", "(II)I"⟩, 24) := ⟨⟨by decide +kernel, by decide +kernel⟩, List.mem_of_getElem? (i := 1489) (by decide +kernel), List.mem_of_getElem? (i := 1660) (by decide +kernel), List.mem_of_getElem? (i := 1661) (by decide +kernel)⟩
theorem lw_p41 : lw_okq (⟨"PuddleBoatyardModel", "seams", "(I)I"⟩, 24) := ⟨⟨by decide +kernel, by decide +kernel⟩, List.mem_of_getElem? (i := 1489) (by decide +kernel), List.mem_of_getElem? (i := 1664) (by decide +kernel), List.mem_of_getElem? (i := 1665) (by decide +kernel)⟩
theorem lw_p42 : lw_okq (⟨"PuddleBoatyardModel", "tide", "(I)I"⟩, 24) := ⟨⟨by decide +kernel, by decide +kernel⟩, List.mem_of_getElem? (i := 1489) (by decide +kernel), List.mem_of_getElem? (i := 1669) (by decide +kernel), List.mem_of_getElem? (i := 1670) (by decide +kernel)⟩
theorem lw_p43 : lw_okq (⟨"PuddleBoatyardModel", "caulkIt", "(II)I"⟩, 24) := ⟨⟨by decide +kernel, by decide +kernel⟩, List.mem_of_getElem? (i := 1489) (by decide +kernel), List.mem_of_getElem? (i := 1677) (by decide +kernel), List.mem_of_getElem? (i := 1678) (by decide +kernel)⟩
theorem lw_p44 : lw_okq (⟨"PuddleBoatyardModel", "isSeam", "(II)Z"⟩, 24) := ⟨⟨by decide +kernel, by decide +kernel⟩, List.mem_of_getElem? (i := 1489) (by decide +kernel), List.mem_of_getElem? (i := 1681) (by decide +kernel), List.mem_of_getElem? (i := 1682) (by decide +kernel)⟩
theorem lw_p45 : lw_okq (⟨"PuddleBoatyardModel", "pumpIt", "(II)I"⟩, 24) := ⟨⟨by decide +kernel, by decide +kernel⟩, List.mem_of_getElem? (i := 1489) (by decide +kernel), List.mem_of_getElem? (i := 1689) (by decide +kernel), List.mem_of_getElem? (i := 1690) (by decide +kernel)⟩
theorem lw_p46 : lw_okq (⟨"PuddleBoatyardModel", "tideIt", "(II)I"⟩, 24) := ⟨⟨by decide +kernel, by decide +kernel⟩, List.mem_of_getElem? (i := 1489) (by decide +kernel), List.mem_of_getElem? (i := 1697) (by decide +kernel), List.mem_of_getElem? (i := 1698) (by decide +kernel)⟩
theorem lw_p47 : lw_okq (⟨"PuddleBoatyardModel", "hoursIt", "(I)I"⟩, 24) := ⟨⟨by decide +kernel, by decide +kernel⟩, List.mem_of_getElem? (i := 1489) (by decide +kernel), List.mem_of_getElem? (i := 1707) (by decide +kernel), List.mem_of_getElem? (i := 1708) (by decide +kernel)⟩
def lw_privs_3 : List (MethodName × Nat) := [(⟨"PuddleBoatyardModel", "frames", "(I)I"⟩, 24), (⟨"PuddleBoatyardModel", "mirrorIt", "(I)I"⟩, 24), (⟨"PuddleBoatyardModel", "width", "(III)I"⟩, 24), (⟨"PuddleBoatyardModel", "cargoIt", "(II)I"⟩, 24), (⟨"PuddleBoatyardModel", "isWorked", "(I)Z"⟩, 24), (⟨"PuddleBoatyardModel", "launchIt", "(I)I"⟩, 24), (⟨"PuddleBoatyardModel", "weight", "(I)I"⟩, 24), (⟨"PuddleBoatyardModel", "dry", "(I)I"⟩, 24), (⟨"PuddleBoatyardModel", "draught", "(II)I"⟩, 24), (⟨"PuddleBoatyardModel", "seams", "(I)I"⟩, 24), (⟨"PuddleBoatyardModel", "tide", "(I)I"⟩, 24), (⟨"PuddleBoatyardModel", "caulkIt", "(II)I"⟩, 24), (⟨"PuddleBoatyardModel", "isSeam", "(II)Z"⟩, 24), (⟨"PuddleBoatyardModel", "pumpIt", "(II)I"⟩, 24), (⟨"PuddleBoatyardModel", "tideIt", "(II)I"⟩, 24), (⟨"PuddleBoatyardModel", "hoursIt", "(I)I"⟩, 24)]
theorem lw_r3 : ∀ q ∈ lw_privs_3, lw_okq q := List.forall_mem_cons.mpr ⟨lw_p32, List.forall_mem_cons.mpr ⟨lw_p33, List.forall_mem_cons.mpr ⟨lw_p34, List.forall_mem_cons.mpr ⟨lw_p35, List.forall_mem_cons.mpr ⟨lw_p36, List.forall_mem_cons.mpr ⟨lw_p37, List.forall_mem_cons.mpr ⟨lw_p38, List.forall_mem_cons.mpr ⟨lw_p39, List.forall_mem_cons.mpr ⟨lw_p40, List.forall_mem_cons.mpr ⟨lw_p41, List.forall_mem_cons.mpr ⟨lw_p42, List.forall_mem_cons.mpr ⟨lw_p43, List.forall_mem_cons.mpr ⟨lw_p44, List.forall_mem_cons.mpr ⟨lw_p45, List.forall_mem_cons.mpr ⟨lw_p46, List.forall_mem_cons.mpr ⟨lw_p47, fun _ h => absurd h List.not_mem_nil⟩⟩⟩⟩⟩⟩⟩⟩⟩⟩⟩⟩⟩⟩⟩⟩
theorem lw_p48 : lw_okq (⟨"PuddleBoatyardModel", "passesHour", "()I"⟩, 24) := ⟨⟨by decide +kernel, by decide +kernel⟩, List.mem_of_getElem? (i := 1489) (by decide +kernel), List.mem_of_getElem? (i := 1712) (by decide +kernel), List.mem_of_getElem? (i := 1713) (by decide +kernel)⟩
theorem lw_p49 : lw_okq (⟨"PuddleBoatyardModel", "orderIt", "(III)I"⟩, 24) := ⟨⟨by decide +kernel, by decide +kernel⟩, List.mem_of_getElem? (i := 1489) (by decide +kernel), List.mem_of_getElem? (i := 1726) (by decide +kernel), List.mem_of_getElem? (i := 1727) (by decide +kernel)⟩
theorem lw_p50 : lw_okq (⟨"PuddleBoatyardModel", "deliverIt", "(II)I"⟩, 24) := ⟨⟨by decide +kernel, by decide +kernel⟩, List.mem_of_getElem? (i := 1489) (by decide +kernel), List.mem_of_getElem? (i := 1735) (by decide +kernel), List.mem_of_getElem? (i := 1736) (by decide +kernel)⟩
theorem lw_p51 : lw_okq (⟨"PuddleBoatyardModel", "find", "(I)I"⟩, 24) := ⟨⟨by decide +kernel, by decide +kernel⟩, List.mem_of_getElem? (i := 1489) (by decide +kernel), List.mem_of_getElem? (i := 1739) (by decide +kernel), List.mem_of_getElem? (i := 1740) (by decide +kernel)⟩
theorem lw_p52 : lw_okq (⟨"PuddleBoatyardModel", "coins", "(I)I"⟩, 24) := ⟨⟨by decide +kernel, by decide +kernel⟩, List.mem_of_getElem? (i := 1489) (by decide +kernel), List.mem_of_getElem? (i := 1743) (by decide +kernel), List.mem_of_getElem? (i := 1744) (by decide +kernel)⟩
theorem lw_p53 : lw_okq (⟨"PuddleBoatyardModel", "ofHull", "(II)I"⟩, 24) := ⟨⟨by decide +kernel, by decide +kernel⟩, List.mem_of_getElem? (i := 1489) (by decide +kernel), List.mem_of_getElem? (i := 1755) (by decide +kernel), List.mem_of_getElem? (i := 1756) (by decide +kernel)⟩
theorem lw_p54 : lw_okq (⟨"PuddleBoatyardModel", "isReflection", "(II)Z"⟩, 24) := ⟨⟨by decide +kernel, by decide +kernel⟩, List.mem_of_getElem? (i := 1489) (by decide +kernel), List.mem_of_getElem? (i := 1804) (by decide +kernel), List.mem_of_getElem? (i := 1805) (by decide +kernel)⟩
theorem lw_p55 : lw_okq (⟨"PuddleBoatyardModel", "isMirrored", "(IIII)Z"⟩, 24) := ⟨⟨by decide +kernel, by decide +kernel⟩, List.mem_of_getElem? (i := 1489) (by decide +kernel), List.mem_of_getElem? (i := 1808) (by decide +kernel), List.mem_of_getElem? (i := 1809) (by decide +kernel)⟩
theorem lw_p56 : lw_okq (⟨"PuddleBoatyardModel", "worksUses", "()V"⟩, 24) := ⟨⟨by decide +kernel, by decide +kernel⟩, List.mem_of_getElem? (i := 1489) (by decide +kernel), List.mem_of_getElem? (i := 1851) (by decide +kernel), List.mem_of_getElem? (i := 1852) (by decide +kernel)⟩
theorem lw_p57 : lw_okq (⟨"PuddleBoatyardModel", "useOf", "(I)I"⟩, 24) := ⟨⟨by decide +kernel, by decide +kernel⟩, List.mem_of_getElem? (i := 1489) (by decide +kernel), List.mem_of_getElem? (i := 1855) (by decide +kernel), List.mem_of_getElem? (i := 1856) (by decide +kernel)⟩
theorem lw_p58 : lw_okq (⟨"PuddleBoatyardModel", "before", "(I)I"⟩, 24) := ⟨⟨by decide +kernel, by decide +kernel⟩, List.mem_of_getElem? (i := 1489) (by decide +kernel), List.mem_of_getElem? (i := 1884) (by decide +kernel), List.mem_of_getElem? (i := 1885) (by decide +kernel)⟩
theorem lw_p59 : lw_okq (⟨"PuddleBoatyardModel", "writesNumber", "(I)V"⟩, 24) := ⟨⟨by decide +kernel, by decide +kernel⟩, List.mem_of_getElem? (i := 1489) (by decide +kernel), List.mem_of_getElem? (i := 1908) (by decide +kernel), List.mem_of_getElem? (i := 1909) (by decide +kernel)⟩
theorem lw_p60 : lw_okq (⟨"PuddleBoatyardModel", "sign", "(I)V"⟩, 24) := ⟨⟨by decide +kernel, by decide +kernel⟩, List.mem_of_getElem? (i := 1489) (by decide +kernel), List.mem_of_getElem? (i := 1912) (by decide +kernel), List.mem_of_getElem? (i := 1913) (by decide +kernel)⟩
theorem lw_p61 : lw_okq (⟨"PuddleBoatyardModel", "readCommand", "()V"⟩, 24) := ⟨⟨by decide +kernel, by decide +kernel⟩, List.mem_of_getElem? (i := 1489) (by decide +kernel), List.mem_of_getElem? (i := 1930) (by decide +kernel), List.mem_of_getElem? (i := 1931) (by decide +kernel)⟩
theorem lw_p62 : lw_okq (⟨"PuddleBoatyardModel", "likeness", "(I)I"⟩, 24) := ⟨⟨by decide +kernel, by decide +kernel⟩, List.mem_of_getElem? (i := 1489) (by decide +kernel), List.mem_of_getElem? (i := 1934) (by decide +kernel), List.mem_of_getElem? (i := 1935) (by decide +kernel)⟩
theorem lw_p63 : lw_okq (⟨"PuddleBoatyardModel", "readArguments", "(II)V"⟩, 24) := ⟨⟨by decide +kernel, by decide +kernel⟩, List.mem_of_getElem? (i := 1489) (by decide +kernel), List.mem_of_getElem? (i := 1938) (by decide +kernel), List.mem_of_getElem? (i := 1939) (by decide +kernel)⟩
def lw_privs_4 : List (MethodName × Nat) := [(⟨"PuddleBoatyardModel", "passesHour", "()I"⟩, 24), (⟨"PuddleBoatyardModel", "orderIt", "(III)I"⟩, 24), (⟨"PuddleBoatyardModel", "deliverIt", "(II)I"⟩, 24), (⟨"PuddleBoatyardModel", "find", "(I)I"⟩, 24), (⟨"PuddleBoatyardModel", "coins", "(I)I"⟩, 24), (⟨"PuddleBoatyardModel", "ofHull", "(II)I"⟩, 24), (⟨"PuddleBoatyardModel", "isReflection", "(II)Z"⟩, 24), (⟨"PuddleBoatyardModel", "isMirrored", "(IIII)Z"⟩, 24), (⟨"PuddleBoatyardModel", "worksUses", "()V"⟩, 24), (⟨"PuddleBoatyardModel", "useOf", "(I)I"⟩, 24), (⟨"PuddleBoatyardModel", "before", "(I)I"⟩, 24), (⟨"PuddleBoatyardModel", "writesNumber", "(I)V"⟩, 24), (⟨"PuddleBoatyardModel", "sign", "(I)V"⟩, 24), (⟨"PuddleBoatyardModel", "readCommand", "()V"⟩, 24), (⟨"PuddleBoatyardModel", "likeness", "(I)I"⟩, 24), (⟨"PuddleBoatyardModel", "readArguments", "(II)V"⟩, 24)]
theorem lw_r4 : ∀ q ∈ lw_privs_4, lw_okq q := List.forall_mem_cons.mpr ⟨lw_p48, List.forall_mem_cons.mpr ⟨lw_p49, List.forall_mem_cons.mpr ⟨lw_p50, List.forall_mem_cons.mpr ⟨lw_p51, List.forall_mem_cons.mpr ⟨lw_p52, List.forall_mem_cons.mpr ⟨lw_p53, List.forall_mem_cons.mpr ⟨lw_p54, List.forall_mem_cons.mpr ⟨lw_p55, List.forall_mem_cons.mpr ⟨lw_p56, List.forall_mem_cons.mpr ⟨lw_p57, List.forall_mem_cons.mpr ⟨lw_p58, List.forall_mem_cons.mpr ⟨lw_p59, List.forall_mem_cons.mpr ⟨lw_p60, List.forall_mem_cons.mpr ⟨lw_p61, List.forall_mem_cons.mpr ⟨lw_p62, List.forall_mem_cons.mpr ⟨lw_p63, fun _ h => absurd h List.not_mem_nil⟩⟩⟩⟩⟩⟩⟩⟩⟩⟩⟩⟩⟩⟩⟩⟩
theorem lw_p64 : lw_okq (⟨"PuddleBoatyardModel", "number", "()I"⟩, 24) := ⟨⟨by decide +kernel, by decide +kernel⟩, List.mem_of_getElem? (i := 1489) (by decide +kernel), List.mem_of_getElem? (i := 1942) (by decide +kernel), List.mem_of_getElem? (i := 1943) (by decide +kernel)⟩
theorem lw_p65 : lw_okq (⟨"PuddleBoatyardModel", "digit", "()I"⟩, 24) := ⟨⟨by decide +kernel, by decide +kernel⟩, List.mem_of_getElem? (i := 1489) (by decide +kernel), List.mem_of_getElem? (i := 1946) (by decide +kernel), List.mem_of_getElem? (i := 1947) (by decide +kernel)⟩
theorem lw_p66 : lw_okq (⟨"PuddleBoatyardModel", "here", "()I"⟩, 24) := ⟨⟨by decide +kernel, by decide +kernel⟩, List.mem_of_getElem? (i := 1489) (by decide +kernel), List.mem_of_getElem? (i := 1950) (by decide +kernel), List.mem_of_getElem? (i := 1951) (by decide +kernel)⟩
theorem lw_p67 : lw_okq (⟨"PuddleBoatyardModel", "numberBehind", "(I)I"⟩, 24) := ⟨⟨by decide +kernel, by decide +kernel⟩, List.mem_of_getElem? (i := 1489) (by decide +kernel), List.mem_of_getElem? (i := 1956) (by decide +kernel), List.mem_of_getElem? (i := 1957) (by decide +kernel)⟩
theorem lw_p68 : lw_okq (⟨"PuddleBoatyardModel", "expects", "(I)V"⟩, 24) := ⟨⟨by decide +kernel, by decide +kernel⟩, List.mem_of_getElem? (i := 1489) (by decide +kernel), List.mem_of_getElem? (i := 1960) (by decide +kernel), List.mem_of_getElem? (i := 1961) (by decide +kernel)⟩
theorem lw_p69 : lw_okq (⟨"PuddleBoatyardModel", "digitBehind", "()I"⟩, 24) := ⟨⟨by decide +kernel, by decide +kernel⟩, List.mem_of_getElem? (i := 1489) (by decide +kernel), List.mem_of_getElem? (i := 1964) (by decide +kernel), List.mem_of_getElem? (i := 1965) (by decide +kernel)⟩
theorem lw_p70 : lw_okq (⟨"PuddleBoatyardModel", "does", "(I)V"⟩, 24) := ⟨⟨by decide +kernel, by decide +kernel⟩, List.mem_of_getElem? (i := 1489) (by decide +kernel), List.mem_of_getElem? (i := 1968) (by decide +kernel), List.mem_of_getElem? (i := 1969) (by decide +kernel)⟩
def lw_privs_5 : List (MethodName × Nat) := [(⟨"PuddleBoatyardModel", "number", "()I"⟩, 24), (⟨"PuddleBoatyardModel", "digit", "()I"⟩, 24), (⟨"PuddleBoatyardModel", "here", "()I"⟩, 24), (⟨"PuddleBoatyardModel", "numberBehind", "(I)I"⟩, 24), (⟨"PuddleBoatyardModel", "expects", "(I)V"⟩, 24), (⟨"PuddleBoatyardModel", "digitBehind", "()I"⟩, 24), (⟨"PuddleBoatyardModel", "does", "(I)V"⟩, 24)]
theorem lw_r5 : ∀ q ∈ lw_privs_5, lw_okq q := List.forall_mem_cons.mpr ⟨lw_p64, List.forall_mem_cons.mpr ⟨lw_p65, List.forall_mem_cons.mpr ⟨lw_p66, List.forall_mem_cons.mpr ⟨lw_p67, List.forall_mem_cons.mpr ⟨lw_p68, List.forall_mem_cons.mpr ⟨lw_p69, List.forall_mem_cons.mpr ⟨lw_p70, fun _ h => absurd h List.not_mem_nil⟩⟩⟩⟩⟩⟩⟩
def lw_privs : List (MethodName × Nat) := lw_privs_1 ++ (lw_privs_2 ++ (lw_privs_3 ++ (lw_privs_4 ++ (lw_privs_5))))
def lw_tbl : List Cond := k2_sels lw_privs ++ tables_1
theorem lw_privs_ok : ∀ q ∈ lw_privs, lw_okq q := by
  show ∀ q ∈ lw_privs_1 ++ (lw_privs_2 ++ (lw_privs_3 ++ (lw_privs_4 ++ (lw_privs_5)))), lw_okq q
  exact List.forall_mem_append.mpr ⟨lw_r1, List.forall_mem_append.mpr ⟨lw_r2, List.forall_mem_append.mpr ⟨lw_r3, List.forall_mem_append.mpr ⟨lw_r4, lw_r5⟩⟩⟩⟩
/-- the streams that the claim lets the run draw from -/
abbrev lw_cs : List Choice := [Jvm.Choice.named "NaN.bits"]
theorem lw_bits : nanBits ∈ lw_cs := by first | decide | exact List.mem_cons_self | simp [lw_cs, nanBits]
-- ===== end of PART A
/-! ===== BEGIN words of one list among another's, by their places ===== -/
theorem goodIn_r {big : List Cond} (ws : List Cond) (ps : List Nat) (hp : ws = ps.filterMap (fun i => big[i]?)) (h : ws.all goodWord = true) : GoodIn big ws := by
  intro w hw
  have h1 := List.all_eq_true.mp h w hw
  rw [hp] at hw
  obtain ⟨i, -, hi⟩ := List.mem_filterMap.mp hw
  have hm : w ∈ big := by first | exact List.mem_of_getElem? hi | exact List.getElem?_mem hi
  exact ⟨hm, good_of_word h1⟩
theorem goodIn_app {big a b : List Cond} (ha : GoodIn big a) (hb : GoodIn big b) : GoodIn big (a ++ b) := fun w h => (List.mem_append.mp h).elim (ha w) (hb w)
theorem goodIn_ca {big a b : List Cond} {c : Cond} (ha : GoodIn big (c :: a)) (hb : GoodIn big b) : GoodIn big (c :: (a ++ b)) := fun w h => (List.mem_cons.mp h).elim (fun e => ha w (List.mem_cons.mpr (Or.inl e))) (fun h => (List.mem_append.mp h).elim (fun h => ha w (List.mem_cons.mpr (Or.inr h))) (hb w))
theorem goodIn_sub {big ws : List Cond} (hm : ∀ w ∈ ws, w ∈ big) (h : ws.all goodWord = true) : GoodIn big ws := fun w hw => ⟨hm w hw, good_of_word (List.all_eq_true.mp h w hw)⟩
/-! ===== END ===== -/


/-! ===== BEGIN exceptions that leave a method, and their catching by the caller (launches without stack traces) ===== -/
section VXA
/-! The laws vx_back, vx_callV, vx_callS, vx_callSW, vx_throw0, vx_throwS follow proofs of the library, with one case more: JvmDerived/Free/Laws.lean (Back.of_free), Shelf42/LK1.lean (callV, callS), Shelf/KitTraced.lean (throwNew0V, throwNewS). -/
/-- where a method has thrown q: the class by its name, the cell, what was written, the world -/
def vx_T (XC : String → State → State → Prop) (st : State) (q : Addr) (t : State) (mc ms : Nat) (free : Addr → Prop) : Prop :=
  ∃ (E : String) (ce : Cell) (L : List Loc), XC E st t ∧ t.heap[q]? = some ce ∧ ce.vm = .none ∧ st.vm.findClass E = some ce.cls ∧ st.WarmedH t.vm ∧ st.sameButNew ({ t with vm := st.vm } : State) L mc ms ∧ ∀ z ∈ L, free z.base
def vx_Q (Qc : Array Value → State → Outcome → State → Prop) (XC : String → State → State → Prop) (mc ms : Nat) (free : Addr → Prop) : Array Value → State → Outcome → State → Prop := fun a st o t =>
  (Qc a st o t ∧ ∃ L, FrameEnd st o t L mc ms ∧ ∀ q ∈ L, free q.base) ∨ ∃ q, o = .threw q ∧ vx_T XC st q t mc ms free
/-- a callee that returns or throws -/
def vx_Met (l : Launch) (y : MethodName) (ws : List Cond) (rm : Room) (Pc : Array Value → State → Prop) (Qc : Array Value → State → Outcome → State → Prop) (XC : String → State → State → Prop) (mc ms : Nat) (free : Addr → Prop) : Prop :=
  MetFree l y (headSpec ws rm) Pc (fun _ _ _ _ _ => True) (vx_Q Qc XC mc ms free)
def vx_Post (XC : String → State → State → Prop) (mc ms : Nat) (free : Addr → Prop) : Pt → Array Value → Addr → Pt → Prop := fun A a q B =>
  ∃ (g : JFrame) (mk : MethodId) (t : State) (L : List Loc) (E : String) (ce : Cell), B.U.heap = t.heap ∧ B.U.vm = t.vm ∧ XC E (A.U.calling g mk a) t ∧ t.heap[q]? = some ce ∧ ce.vm = .none ∧ A.U.vm.findClass E = some ce.cls ∧ B.locs = A.locs ++ L ∧ (∀ z ∈ L, free z.base) ∧ B.cells = A.cells + mc ∧ B.slots = A.slots + ms
def vx_Back (l : Launch) (R : Room) (p : Program) (e : Env) (below : List Frame) (s : State) (sargs : Array Value) (y : MethodName) (len W9 : Nat)
    (Pre : Pt → Array Value → Prop) (Post : Pt → Array Value → Option Value → Pt → Prop) (PostX : Pt → Array Value → Addr → Pt → Prop) : Prop :=
  ∀ (m : MethodId) (meth : Method) (c : Code) (A : Pt) (g : JFrame) (ig : Instr) (mk : MethodId) (a : Array Value),
    Stand p l e R s m sargs below meth c A.U A.locs A.cells A.slots → g.method = m → g.locals.size = c.maxLocals → decode c.code g.pc = .ok (ig, len) →
    2 * g.monitorRoom + (g.stack.map fun v => v.category).sum ≤ W9 → A.U.methodNamed? y = some mk → Pre A a →
    (∃ (v : Option Value) (B : Pt), Stand p l e R s m sargs below meth c B.U B.locs B.cells B.slots ∧ Post A a v B ∧
      Steps p.tables e below (doInvoke e (A.U.setTop g) [] mk a).1 (B.U.setTop { g with pc := g.pc + len, stack := v.toList ++ g.stack })) ∨
    (∃ (q : Addr) (B : Pt), Stand p l e R s m sargs below meth c B.U B.locs B.cells B.slots ∧ PostX A a q B ∧
      Steps p.tables e below (doInvoke e (A.U.setTop g) [] mk a).1 ((B.U.setTop g).pushFrame (.throwing q)))
section Payer
variable {l : Launch} {R : Room} {p : Program} {e : Env} {below : List Frame} {s : State} {sargs : Array Value} {y : MethodName} {len W9 : Nat}
theorem vx_back {ws : List Cond} {rm : Room} {Pc : Array Value → State → Prop} {Qc : Array Value → State → Outcome → State → Prop} {XC : String → State → State → Prop} {mc ms : Nat} {free : Addr → Prop} {bytes : ByteArray} {maxL : Nat} {ret : Option FieldType}
    (hM : vx_Met l y ws rm Pc Qc XC mc ms free) (hblind : FrameBlind Pc) (hrc : rm.cells = mc) (hrs : rm.slots = ms)
    (hframes : rm.frames + 1 ≤ R.frames) (hlocals : W9 + (maxL + 11) + rm.locals ≤ R.locals)
    (hws : ∀ w ∈ ws, ∀ a' U, s.WarmedH U.vm → w.before a' U = true) (hcode : Cond.code y bytes maxL ret ∈ ws) (hinit : ∀ a' U, s.WarmedH U.vm → (Cond.initialized y.cls).before a' U = true) :
    vx_Back l R p e below s sargs y len W9 (PreOf R mc ms Pc) (PostOf Qc mc ms free) (vx_Post XC mc ms free) := by
  intro m meth c A g ig mk a X hg hsize hdg hW hn hp
  have h1 : (headSpec ws rm).pre.before a A.U = true := atoms_intro fun w hw => hws w hw _ _ X.warmed
  have h2 : (Cond.code y bytes maxL ret).before a A.U = true := hws _ hcode _ _ X.warmed
  have h3 : (Cond.initialized y.cls).before a A.U = true := hinit _ _ X.warmed
  have h4 : A.cells + (headSpec ws rm).room.cells ≤ R.cells := by rw [show (headSpec ws rm).room.cells = mc from hrc]; exact hp.1
  have h5 : A.slots + (headSpec ws rm).room.slots ≤ R.slots := by rw [show (headSpec ws rm).room.slots = ms from hrs]; exact hp.2.1
  have hPc : Pc a (A.U.calling g mk a) := hblind _ _ _ _ hp.2.2
  obtain ⟨U, Ls, c0, s0⟩ := A
  dsimp only [Pt.U, Pt.locs, Pt.cells, Pt.slots] at h1 h2 h3 h4 h5 X hn hPc ⊢
  obtain ⟨methY, cY, hmY, hcY, -, hlY, -, -, -, -⟩ := Cond.code_spec hn h2
  obtain ⟨kY, hkY, -⟩ := className_of_methodNamed hn
  have hinitY : kY.init = .initialized := Cond.initialized_spec (findClass_of_methodNamed hn) hkY h3
  have h : At U g.method c below := by rw [hg]; exact X.here
  have hlocals9 : W9 + (maxL + 11) + (headSpec ws rm).room.locals ≤ R.locals := hlocals
  have happ : (headSpec ws rm).appliesLoose y e.platform (U.calling g mk a) = true :=
    Spec.appliesLoose_calling (g := g) h hdg hn hkY hinitY
      (X.room_calling (g := g) (R' := (headSpec ws rm).room) hsize hmY hcY hframes (by rw [hlY]; omega) h4 h5) h1
  obtain ⟨mid, hmid⟩ := h.above
  have hfr : (U.setTop g).frames = (.java g :: mid) ++ below := by rw [State.frames_setTop' g h.top, hmid]; rfl
  obtain ⟨o, s₂, hsteps, -, hend, hq⟩ := Steps.callFree hM p X.admits X.cas X.clock (acts := []) hfr happ hPc trivial
  have hq' : vx_Q Qc XC mc ms free a (U.calling g mk a) o s₂ := hq
  rw [State.frames_setTop' g h.top] at hend
  obtain ⟨g₀, hg0⟩ := Option.isSome_iff_exists.mp h.top
  obtain ⟨r, hr⟩ := State.topJava?_eq_some.mp hg0
  have hr' : (({ U with heap := s₂.heap, slotsUsed := s₂.slotsUsed } : State).setVm s₂.vm).frames = .java g₀ :: r := hr
  rcases hq' with ⟨hqc, L, hfe, hL⟩ | ⟨q, rfl, E, ce, L, hx, hce, hcv, hcl, hW₂, hsm, hL⟩
  · obtain ⟨⟨v, rfl⟩, hW₂, e2, q2, q3, q4, q5, q6⟩ := id hfe
    have e3 : s₂ = ({ (U.calling g mk a).setFrames s₂.frames with heap := s₂.heap, slotsUsed := s₂.slotsUsed } : State).setVm s₂.vm := by
      have : s₂ = ({ s₂ with vm := (U.calling g mk a).vm } : State).setVm s₂.vm := rfl
      rw [e2] at this
      exact this
    obtain ⟨c₂, i₂, len₂, hc₂, hd₂, hf₂⟩ := hend
    have hW' : U.WarmedH s₂.vm := hW₂
    have hcc : c₂ = c := by
      have h1 : s₂.code? g.method = U.code? g.method := by
        rw [State.code?_eq, State.code?_eq, hW'.alike.method?]
      exact Option.some.inj (hc₂.symm.trans (h1.trans h.code))
    subst hcc
    have hlen : len₂ = len := by rw [hdg] at hd₂; cases hd₂; rfl
    subst hlen
    have hs₂ : s₂ = (({ U with heap := s₂.heap, slotsUsed := s₂.slotsUsed } : State).setVm s₂.vm).setTop { g with pc := g.pc + len₂, stack := v.toList ++ g.stack } := by
      refine e3.trans ?_
      rw [hf₂, State.calling_eq h.top, State.setFrames_setFrames, State.setTop_of_frames _ hr', hr]
      rfl
    have hsame : U.sameButNew ({ U with heap := s₂.heap, slotsUsed := s₂.slotsUsed } : State) L mc ms := by
      refine ⟨?_, q2, q3, q4, q5, q6⟩
      obtain ⟨t, ht, -⟩ := State.frames_cons hr
      show ({ U with heap := s₂.heap, slotsUsed := s₂.slotsUsed } : State) = { U.setFrames U.frames with heap := s₂.heap, slotsUsed := s₂.slotsUsed }
      rw [State.setFrames_self ht]
    subst hg
    refine Or.inl ⟨v, ⟨(({ U with heap := s₂.heap, slotsUsed := s₂.slotsUsed } : State).setVm s₂.vm), Ls ++ L, c0 + mc, s0 + ms⟩,
      ⟨X.admits, X.cas, X.clock, X.frames, X.room, X.hears, X.method, X.code, (X.here.setHeapUsed s₂.heap s₂.slotsUsed).setVm hW'.alike, X.tail, State.WarmedH.trans X.warmed hW', X.limits, X.bytes, X.same.trans (hsame.setVm s.vm)⟩,
      ⟨g, mk, s₂, L, rfl, rfl, hqc, rfl, hL, rfl, rfl⟩, ?_⟩
    show Steps p.tables e below _ ((({ U with heap := s₂.heap, slotsUsed := s₂.slotsUsed } : State).setVm s₂.vm).setTop { g with pc := g.pc + len₂, stack := v.toList ++ g.stack })
    rw [← hs₂]
    exact hsteps
  · obtain ⟨e2, q2, q3, q4, q5, q6⟩ := id hsm
    have e3 : s₂ = ({ (U.calling g mk a).setFrames s₂.frames with heap := s₂.heap, slotsUsed := s₂.slotsUsed } : State).setVm s₂.vm := by
      have : s₂ = ({ s₂ with vm := (U.calling g mk a).vm } : State).setVm s₂.vm := rfl
      rw [e2] at this
      exact this
    have hf₂ : s₂.frames = .throwing q :: .java g :: U.frames.tail := hend
    have hW' : U.WarmedH s₂.vm := hW₂
    have hs₂ : s₂ = ((({ U with heap := s₂.heap, slotsUsed := s₂.slotsUsed } : State).setVm s₂.vm).setTop g).pushFrame (.throwing q) := by
      refine e3.trans ?_
      rw [hf₂, State.calling_eq h.top, State.setFrames_setFrames, State.pushFrame, State.frames_setTop _ hr', State.setTop_of_frames _ hr', State.setFrames_setFrames, hr]
      rfl
    have hsame : U.sameButNew ({ U with heap := s₂.heap, slotsUsed := s₂.slotsUsed } : State) L mc ms := by
      refine ⟨?_, q2, q3, q4, q5, q6⟩
      obtain ⟨t, ht, -⟩ := State.frames_cons hr
      show ({ U with heap := s₂.heap, slotsUsed := s₂.slotsUsed } : State) = { U.setFrames U.frames with heap := s₂.heap, slotsUsed := s₂.slotsUsed }
      rw [State.setFrames_self ht]
    subst hg
    refine Or.inr ⟨q, ⟨(({ U with heap := s₂.heap, slotsUsed := s₂.slotsUsed } : State).setVm s₂.vm), Ls ++ L, c0 + mc, s0 + ms⟩,
      ⟨X.admits, X.cas, X.clock, X.frames, X.room, X.hears, X.method, X.code, (X.here.setHeapUsed s₂.heap s₂.slotsUsed).setVm hW'.alike, X.tail, State.WarmedH.trans X.warmed hW', X.limits, X.bytes, X.same.trans (hsame.setVm s.vm)⟩,
      ⟨g, mk, s₂, L, E, ce, rfl, rfl, hx, hce, hcv, hcl, rfl, hL, rfl, rfl⟩, ?_⟩
    show Steps p.tables e below _ (((({ U with heap := s₂.heap, slotsUsed := s₂.slotsUsed } : State).setVm s₂.vm).setTop g).pushFrame (.throwing q))
    rw [← hs₂]
    exact hsteps
end Payer
section Calls
variable {p : Program} {l : Launch} {e : Env} {R : Room} {s : State} {m : MethodId} {args : Array Value} {below : List Frame} {meth : Method} {c : Code} {T : State} {locs : List Loc} {cells slots : Nat}
theorem vx_callV (X : Stand p l e R s m args below meth c T locs cells slots) (hexec : p.tables.exec = Jvm.exec) {own C : String} {index : Nat} {y : MethodName} {bytes : ByteArray} {maxL : Nat} {ret : Option FieldType}
    (hown : s.vm.findClass own = some m.cls) (hlink : (Cond.methodLink own index y).before args s = true) (hinst : (Cond.instanceMethod y).before args s = true) (hsel : (Cond.selects C y y).before args s = true)
    (hcode : (Cond.code y bytes maxL ret).before args s = true) (hy : y.cls ≠ "java/lang/invoke/MethodHandle" ∧ y.cls ≠ "java/lang/invoke/VarHandle")
    {W9 : Nat} {Pre : Pt → Array Value → Prop} {Post : Pt → Array Value → Option Value → Pt → Prop} {PostX : Pt → Array Value → Addr → Pt → Prop} (hK : vx_Back l R p e below s args y 3 W9 Pre Post PostX)
    {b : Addr} {cellB : Cell} (hcell : T.heap[b]? = some cellB) (hobj : cellB.vm.isStatics = false) (hcls : s.vm.findClass C = some cellB.cls)
    {g : JFrame} (hg : g.method = m) (hsize : g.locals.size = c.maxLocals) {argsL rest : List Value} (hlen : ∀ sig, parseMethodDescriptor y.desc = some sig → argsL.length = sig.parameters.length)
    (hstack : g.stack = argsL.reverse ++ .ref b :: rest) (hW : 2 * g.monitorRoom + (rest.map fun v => v.category).sum ≤ W9) (hdg : decode c.code g.pc = .ok (.invokevirtual index, 3))
    (hpre : ∀ vm₁, s.WarmedH vm₁ → Pre ⟨T.setVm vm₁, locs, cells, slots⟩ (Value.ref b :: argsL).toArray) :
    (∃ (v : Option Value) (vm₁ : Vm) (B : Pt), s.WarmedH vm₁ ∧ Stand p l e R s m args below meth c B.U B.locs B.cells B.slots ∧ Post ⟨T.setVm vm₁, locs, cells, slots⟩ (Value.ref b :: argsL).toArray v B ∧
      ∀ target, Steps p.tables e below (B.U.setTop { g with pc := g.pc + 3, stack := v.toList ++ rest }) target → Steps p.tables e below (T.setTop g) target) ∨
    (∃ (q : Addr) (vm₁ : Vm) (B : Pt), s.WarmedH vm₁ ∧ Stand p l e R s m args below meth c B.U B.locs B.cells B.slots ∧ PostX ⟨T.setVm vm₁, locs, cells, slots⟩ (Value.ref b :: argsL).toArray q B ∧
      Steps p.tables e below (T.setTop g) ((B.U.setTop { g with stack := rest }).pushFrame (.throwing q))) := by
  obtain ⟨mk, methM, hnamed, hmethM, hstM, habM⟩ := Cond.instanceMethod_spec hinst
  obtain ⟨methM', cM, hmethM', -, -, -, -, -, -, hsigM⟩ := Cond.code_spec hnamed hcode
  cases hmethM.symm.trans hmethM'
  obtain ⟨c2, r2, m2, q1, q2, q3, q4, kP, hkP, hkPi⟩ := Cond.selects_spec hsel
  cases hcls.symm.trans q1
  cases (State.methodFound?_of_named hnamed hy).symm.trans q2
  cases hnamed.symm.trans q3
  have hselP : selectMethod e.platform s.vm cellB.cls mk = .method mk := by rw [Launch.admits_selectMethod X.admits]; exact q4
  obtain ⟨vm₁, X₁, hstep₁⟩ := X.invokevirtual hexec hown hlink hnamed hmethM hstM hkP hkPi hy (a := b) (cell := cellB) hcell
    (fun z h => by rw [h] at hobj; cases hobj) hselP hmethM habM hkP hkPi (g := g) hg (argsL := argsL) (rest := rest) (hlen _ hsigM) hstack hdg
  rcases hK m meth c ⟨T.setVm vm₁, locs, cells, slots⟩ { g with stack := rest } (.invokevirtual index) mk (Value.ref b :: argsL).toArray X₁ hg hsize hdg hW (X₁.named hnamed) (hpre vm₁ X₁.warmed) with ⟨v, B, X', hpost, hsteps⟩ | ⟨q, B, X', hpost, hsteps⟩
  · exact Or.inl ⟨v, vm₁, B, X₁.warmed, X', hpost, fun target h => hstep₁ _ fun acts => by rw [doInvoke_state]; exact hsteps.trans h⟩
  · exact Or.inr ⟨q, vm₁, B, X₁.warmed, X', hpost, hstep₁ _ fun acts => by rw [doInvoke_state]; exact hsteps⟩
theorem vx_callS (X : Stand p l e R s m args below meth c T locs cells slots) (hexec : p.tables.exec = Jvm.exec) {own : String} {index : Nat} {y : MethodName} {bytes : ByteArray} {maxL : Nat} {ret : Option FieldType}
    (hown : s.vm.findClass own = some m.cls) (hlink : (Cond.methodLink own index y).before args s = true) (hstat : (Cond.static y).before args s = true) (hinit : (Cond.initialized y.cls).before args s = true)
    (hcode : (Cond.code y bytes maxL ret).before args s = true) (hy : y.cls ≠ "java/lang/invoke/MethodHandle" ∧ y.cls ≠ "java/lang/invoke/VarHandle")
    {W9 : Nat} {Pre : Pt → Array Value → Prop} {Post : Pt → Array Value → Option Value → Pt → Prop} {PostX : Pt → Array Value → Addr → Pt → Prop} (hK : vx_Back l R p e below s args y 3 W9 Pre Post PostX)
    {g : JFrame} (hg : g.method = m) (hsize : g.locals.size = c.maxLocals) {argsL rest : List Value} (hlen : ∀ sig, parseMethodDescriptor y.desc = some sig → argsL.length = sig.parameters.length)
    (hstack : g.stack = argsL.reverse ++ rest) (hW : 2 * g.monitorRoom + (rest.map fun v => v.category).sum ≤ W9) (hdg : decode c.code g.pc = .ok (.invokestatic index, 3))
    (hpre : ∀ vm₁, s.WarmedH vm₁ → Pre ⟨T.setVm vm₁, locs, cells, slots⟩ argsL.toArray) :
    (∃ (v : Option Value) (vm₁ : Vm) (B : Pt), s.WarmedH vm₁ ∧ Stand p l e R s m args below meth c B.U B.locs B.cells B.slots ∧ Post ⟨T.setVm vm₁, locs, cells, slots⟩ argsL.toArray v B ∧
      ∀ target, Steps p.tables e below (B.U.setTop { g with pc := g.pc + 3, stack := v.toList ++ rest }) target → Steps p.tables e below (T.setTop g) target) ∨
    (∃ (q : Addr) (vm₁ : Vm) (B : Pt), s.WarmedH vm₁ ∧ Stand p l e R s m args below meth c B.U B.locs B.cells B.slots ∧ PostX ⟨T.setVm vm₁, locs, cells, slots⟩ argsL.toArray q B ∧
      Steps p.tables e below (T.setTop g) ((B.U.setTop { g with stack := rest }).pushFrame (.throwing q))) := by
  obtain ⟨mk, hnamed⟩ := Cond.code_named hcode
  obtain ⟨methM, cM, hmethM, -, -, -, -, -, -, hsigM⟩ := Cond.code_spec hnamed hcode
  have hstatic : methM.isStatic = true := Cond.static_spec hnamed hmethM hstat
  obtain ⟨kP, hkP, -⟩ := className_of_methodNamed hnamed
  have hinitP : kP.init = .initialized := Cond.initialized_spec (findClass_of_methodNamed hnamed) hkP hinit
  obtain ⟨vm₁, X₁, hstep₁⟩ := X.invokestatic hexec hown hlink hnamed hmethM hstatic hkP hinitP hy (g := g) hg (argsL := argsL) (rest := rest) (hlen _ hsigM) hstack hdg
  rcases hK m meth c ⟨T.setVm vm₁, locs, cells, slots⟩ { g with stack := rest } (.invokestatic index) mk argsL.toArray X₁ hg hsize hdg hW (X₁.named hnamed) (hpre vm₁ X₁.warmed) with ⟨v, B, X', hpost, hsteps⟩ | ⟨q, B, X', hpost, hsteps⟩
  · exact Or.inl ⟨v, vm₁, B, X₁.warmed, X', hpost, fun target h => hstep₁ _ fun acts => by rw [doInvoke_state]; exact hsteps.trans h⟩
  · exact Or.inr ⟨q, vm₁, B, X₁.warmed, X', hpost, hstep₁ _ fun acts => by rw [doInvoke_state]; exact hsteps⟩
end Calls
theorem vx_cls {s : State} {T : State} {vm₁ : Vm} {E : String} {k : ClassId} (hW : s.WarmedH vm₁) (h : (T.setVm vm₁).vm.findClass E = some k) : s.vm.findClass E = some k := by
  have h1 : vm₁.findClass E = some k := h
  rw [hW.alike.findClass] at h1
  exact h1
/-- the method's frame g, with q thrown over it -/
def vx_W (p : Program) (l : Launch) (e : Env) (R : Room) (s : State) (m : MethodId) (args : Array Value) (below : List Frame) (meth : Method) (c : Code) (H : Heap) (locs : List Loc) (cells slots : Nat) (Q : State → Prop) (g : JFrame) (q : Addr) : Prop :=
  ∀ T : State, T.heap = H → Stand p l e R s m args below meth c T locs cells slots → ∃ t, Steps p.tables e below ((T.setTop g).pushFrame (.throwing q)) t ∧ Q t
def vx_Run (p : Program) (l : Launch) (e : Env) (R : Room) (s : State) (m : MethodId) (args : Array Value) (below : List Frame) (meth : Method) (c : Code) (H : Heap) (locs : List Loc) (cells slots mc ms : Nat) (g : JFrame) (rest : List Value) (Qa : State → Outcome → State → Prop) (XC : String → State → State → Prop) (free : Addr → Prop) : Prop :=
  ∀ T : State, T.heap = H → Stand p l e R s m args below meth c T locs cells slots →
    (∃ (v : Option Value) (st₀ t T' : State) (L : List Loc), st₀.heap = H ∧ Stand p l e R s m args below meth c T' (locs ++ L) (cells + mc) (slots + ms) ∧ (∀ q ∈ L, free q.base) ∧ T'.heap = t.heap ∧ T'.vm = t.vm ∧ Qa st₀ (.returned v) t ∧
      Goes p e below T g T' { g with pc := g.pc + 3, stack := v.toList ++ rest }) ∨
    (∃ (q : Addr) (st₀ t T' : State) (L : List Loc) (E : String) (ce : Cell), st₀.heap = H ∧ Stand p l e R s m args below meth c T' (locs ++ L) (cells + mc) (slots + ms) ∧ (∀ z ∈ L, free z.base) ∧ T'.heap = t.heap ∧ T'.vm = t.vm ∧ XC E st₀ t ∧ t.heap[q]? = some ce ∧ ce.vm = .none ∧ s.vm.findClass E = some ce.cls ∧
      Steps p.tables e below (T.setTop g) ((T'.setTop { g with stack := rest }).pushFrame (.throwing q)))
def vx_X {S : Type} (px : S → Prop) (B : String → S → State → Prop) (A : Nat → Prop) : String → State → State → Prop := fun E st t => ∃ u : S, px u ∧ B E u t ∧ va_F A st t
section Runs
variable {p : Program} {l : Launch} {e : Env} {R : Room} {s : State} {m : MethodId} {args : Array Value} {below : List Frame} {meth : Method} {c : Code} {H : Heap} {locs : List Loc} {cells slots : Nat}
variable {y : MethodName} {bytes cc : ByteArray} {maxL nL mc ms n index : Nat} {ret : Option FieldType} {ws : List Cond} {rm : Room} {Pc : Array Value → State → Prop} {Qc : Array Value → State → Outcome → State → Prop} {XC : String → State → State → Prop} {free : Addr → Prop} {Ts : List Cond} {own C : String} {b : Addr} {As rest : List Value} {g : JFrame}
theorem vx_callBack (cb : CallB R s args own index y bytes maxL ret ws rm mc ms n) (hM : vx_Met l y ws rm Pc Qc XC mc ms free) (hbl : FrameBlind Pc) : vx_Back l R p e below s args y 3 8 (PreOf R mc ms Pc) (PostOf Qc mc ms free) (vx_Post XC mc ms free) := by
  obtain ⟨hrc, hrs, hfr, hlo, hws, hcw, -, hini, -⟩ := cb
  exact vx_back (bytes := bytes) (maxL := maxL) (ret := ret) hM hbl hrc hrs hfr hlo hws hcw (fun a' U hW => word_at hW (Or.inl (by first | rfl | simp [Cond.onTables, Cond.keeps, Cond.steady])) hini)
theorem vx_runV (S : CallFix p m c cc nL s args Ts own) (hM : vx_Met l y ws rm Pc Qc XC mc ms free) (cw : CallW R s args own C index y bytes maxL ret ws rm mc ms n) (hp : PreV s H C b Pc As)
    (hg : g.method = m) (hn : As.length = n) (hsize : g.locals.size = nL) (hstack : g.stack = As.reverse ++ .ref b :: rest) (hW : 2 * g.monitorRoom + (rest.map fun v => v.category).sum ≤ 8) (hdg : decode cc g.pc = .ok (.invokevirtual index, 3)) (hf : cells + mc ≤ R.cells ∧ slots + ms ≤ R.slots) :
    vx_Run p l e R s m args below meth c H locs cells slots mc ms g rest (Qc (Value.ref b :: As).toArray) XC free := by
  have hK : vx_Back l R p e below s args y 3 8 (PreOf R mc ms Pc) (PostOf Qc mc ms free) (vx_Post XC mc ms free) := vx_callBack cw.1 hM hp.1
  obtain ⟨⟨-, -, -, -, -, -, hcode, -, hy, hlen, hl⟩, hin, hse⟩ := cw
  obtain ⟨hx, hb, hml, ho, -⟩ := S
  obtain ⟨-, ⟨cellB, hcB, hoB, hclB⟩, hPc⟩ := hp
  intro T hT X
  rcases vx_callV X hx (C := C) (bytes := bytes) (maxL := maxL) (ret := ret) ho hl hin hse hcode hy hK (by rw [hT]; exact hcB) hoB hclB hg (hsize.trans hml.symm) (argsL := As) (rest := rest) (fun sig h => hn.trans (hlen sig h)) hstack hW (by rw [hb]; exact hdg)
    (fun vm₁ hW₁ => ⟨hf.1, hf.2, hPc (T.setVm vm₁) hT hW₁⟩) with ⟨v, vm₁, ⟨U', l2, c2, s2⟩, hW₁, X', ⟨g', mk, t, L, e1, e2, hq, h1, hL, h2, h3⟩, st⟩ | ⟨q, vm₁, ⟨U', l2, c2, s2⟩, hW₁, X', ⟨g', mk, t, L, E, ce, e1, e2, hq, hce, hcv, hcl, h1, hL, h2, h3⟩, st⟩
  · dsimp only [Pt.U, Pt.locs, Pt.cells, Pt.slots] at X' e1 e2 h1 h2 h3 st
    subst h1; subst h2; subst h3
    exact Or.inl ⟨v, (T.setVm vm₁).calling g' mk (Value.ref b :: As).toArray, t, U', L, hT, X', hL, e1, e2, hq, st⟩
  · dsimp only [Pt.U, Pt.locs, Pt.cells, Pt.slots] at X' e1 e2 h1 h2 h3 st hcl
    subst h1; subst h2; subst h3
    exact Or.inr ⟨q, (T.setVm vm₁).calling g' mk (Value.ref b :: As).toArray, t, U', L, E, ce, hT, X', hL, e1, e2, hq, hce, hcv, vx_cls hW₁ hcl, st⟩
theorem vx_runS (S : CallFix p m c cc nL s args Ts own) (hM : vx_Met l y ws rm Pc Qc XC mc ms free) (cw : CallB R s args own index y bytes maxL ret ws rm mc ms n ∧ (Cond.static y).before args s = true) (hp : PreS s H Pc As)
    (hg : g.method = m) (hn : As.length = n) (hsize : g.locals.size = nL) (hstack : g.stack = As.reverse ++ rest) (hW : 2 * g.monitorRoom + (rest.map fun v => v.category).sum ≤ 8) (hdg : decode cc g.pc = .ok (.invokestatic index, 3)) (hf : cells + mc ≤ R.cells ∧ slots + ms ≤ R.slots) :
    vx_Run p l e R s m args below meth c H locs cells slots mc ms g rest (Qc As.toArray) XC free := by
  have hK : vx_Back l R p e below s args y 3 8 (PreOf R mc ms Pc) (PostOf Qc mc ms free) (vx_Post XC mc ms free) := vx_callBack cw.1 hM hp.1
  obtain ⟨⟨-, -, -, -, -, -, hcode, hini, hy, hlen, hl⟩, hstt⟩ := cw
  obtain ⟨hx, hb, hml, ho, -⟩ := S
  intro T hT X
  rcases vx_callS X hx (bytes := bytes) (maxL := maxL) (ret := ret) ho hl hstt hini hcode hy hK hg (hsize.trans hml.symm) (argsL := As) (rest := rest) (fun sig h => hn.trans (hlen sig h)) hstack hW (by rw [hb]; exact hdg)
    (fun vm₁ hW₁ => ⟨hf.1, hf.2, hp.2 (T.setVm vm₁) hT hW₁⟩) with ⟨v, vm₁, ⟨U', l2, c2, s2⟩, hW₁, X', ⟨g', mk, t, L, e1, e2, hq, h1, hL, h2, h3⟩, st⟩ | ⟨q, vm₁, ⟨U', l2, c2, s2⟩, hW₁, X', ⟨g', mk, t, L, E, ce, e1, e2, hq, hce, hcv, hcl, h1, hL, h2, h3⟩, st⟩
  · dsimp only [Pt.U, Pt.locs, Pt.cells, Pt.slots] at X' e1 e2 h1 h2 h3 st
    subst h1; subst h2; subst h3
    exact Or.inl ⟨v, (T.setVm vm₁).calling g' mk As.toArray, t, U', L, hT, X', hL, e1, e2, hq, st⟩
  · dsimp only [Pt.U, Pt.locs, Pt.cells, Pt.slots] at X' e1 e2 h1 h2 h3 st hcl
    subst h1; subst h2; subst h3
    exact Or.inr ⟨q, (T.setVm vm₁).calling g' mk As.toArray, t, U', L, E, ce, hT, X', hL, e1, e2, hq, hce, hcv, vx_cls hW₁ hcl, st⟩
end Runs
section Rows
variable {p : Program} {l : Launch} {e : Env} {R : Room} {s : State} {m : MethodId} {args : Array Value} {below : List Frame} {meth : Method} {c : Code} {H : Heap} {locs : List Loc} {cells slots : Nat} {Q : State → Prop}
variable {mc ms : Nat} {free : Addr → Prop} {A0 A1 : Nat → Prop} {H0 : Heap} {a : Array Value} {pc : Nat} {ls : Array Slot} {st0 rest : List Value}
theorem vx_keep {st₀ t T' : State} {L : List Loc} (h0 : st₀.heap = H) (e1 : T'.heap = t.heap) (hS : va_S A0 H0 H locs) (hA : ∀ q, q < H.size → A1 q → A0 q) (hf : ∀ q, free q → A0 q) (hL : ∀ q ∈ L, free q.base) (hF : va_F A1 st₀ t) :
    H.size ≤ T'.heap.size ∧ (∀ q : Nat, q < H.size → ¬ A1 q → T'.heap[q]? = H[q]?) ∧ va_S A0 H0 T'.heap (locs ++ L) := by
  obtain ⟨hz, hk⟩ := hF
  rw [h0] at hz hk
  exact ⟨by rw [e1]; exact hz, fun q h1 h2 => by rw [e1]; exact hk q h1 h2,
    ⟨Nat.le_trans hS.1 (by rw [e1]; exact hz), fun q h1 h2 => by rw [e1, hk q (Nat.lt_of_lt_of_le h1 hS.1) (fun z => h2 (hA q (Nat.lt_of_lt_of_le h1 hS.1) z))]; exact hS.2.1 q h1 h2, fun q hq => by
      rcases List.mem_append.mp hq with h | h
      · exact hS.2.2 q h
      · exact hf _ (hL q h)⟩⟩
theorem vx_calli {S SX : Type} {post : Int32 → S → Prop} {px : SX → Prop} {B : S → State → Prop} {BX : String → SX → State → Prop} {AX : Nat → Prop} (hr : vx_Run p l e R s m args below meth c H locs cells slots mc ms (F0 m pc ls st0) rest (va_Qi post B A1 a) (vx_X px BX AX) free) (hS : va_S A0 H0 H locs) (hA : ∀ q, q < H.size → A1 q → A0 q) (hf : ∀ q, free q → A0 q) (hAX : ∀ q, q < H.size → AX q → A0 q)
    (kx : ∀ (E : String) (ce : Cell) (q9 : Addr) (u : SX) (t : State) (H1 : Heap) (locs1 : List Loc), t.heap = H1 → s.vm.Alike t.vm → px u → BX E u t → H.size ≤ H1.size → (∀ q : Nat, q < H.size → ¬ AX q → H1[q]? = H[q]?) → va_S A0 H0 H1 locs1 → H1[q9]? = some ce → ce.vm = .none → s.vm.findClass E = some ce.cls → vx_W p l e R s m args below meth c H1 locs1 (cells + mc) (slots + ms) Q (F0 m pc ls rest) q9)
    (kk : ∀ (r : Int32) (u : S) (t : State) (H1 : Heap) (locs1 : List Loc), t.heap = H1 → s.vm.Alike t.vm → post r u → B u t → H.size ≤ H1.size → (∀ q : Nat, q < H.size → ¬ A1 q → H1[q]? = H[q]?) → va_S A0 H0 H1 locs1 → W p l e R s m args below meth c H1 locs1 (cells + mc) (slots + ms) Q (F0 m (pc + 3) ls (.int r :: rest))) : W p l e R s m args below meth c H locs cells slots Q (F0 m pc ls st0) := by
  intro T hT X
  rcases hr T hT X with ⟨v, st₀, t, T', L, h0, X', hL, e1, e2, ⟨⟨r, u, hv, hp, hb⟩, hF⟩, st⟩ | ⟨q, st₀, t, T', L, E, ce, h0, X', hL, e1, e2, ⟨u, hp, hb, hF⟩, hce, hcv, hcl, st⟩
  · cases hv
    obtain ⟨k1, k2, k3⟩ := vx_keep h0 e1 hS hA hf hL hF
    obtain ⟨t2, a1, b1⟩ := kk r u t T'.heap (locs ++ L) e1.symm (by rw [← e2]; exact X'.warmed.alike) hp hb k1 k2 k3 T' rfl X'
    exact ⟨t2, st t2 a1, b1⟩
  · obtain ⟨k1, k2, k3⟩ := vx_keep h0 e1 hS hAX hf hL hF
    obtain ⟨t2, a1, b1⟩ := kx E ce q u t T'.heap (locs ++ L) e1.symm (by rw [← e2]; exact X'.warmed.alike) hp hb k1 k2 k3 (by rw [e1]; exact hce) hcv hcl T' rfl X'
    exact ⟨t2, st.trans a1, b1⟩
theorem vx_calll {S SX : Type} {post : Int64 → S → Prop} {px : SX → Prop} {B : S → State → Prop} {BX : String → SX → State → Prop} {AX : Nat → Prop} (hr : vx_Run p l e R s m args below meth c H locs cells slots mc ms (F0 m pc ls st0) rest (va_Ql post B A1 a) (vx_X px BX AX) free) (hS : va_S A0 H0 H locs) (hA : ∀ q, q < H.size → A1 q → A0 q) (hf : ∀ q, free q → A0 q) (hAX : ∀ q, q < H.size → AX q → A0 q)
    (kx : ∀ (E : String) (ce : Cell) (q9 : Addr) (u : SX) (t : State) (H1 : Heap) (locs1 : List Loc), t.heap = H1 → s.vm.Alike t.vm → px u → BX E u t → H.size ≤ H1.size → (∀ q : Nat, q < H.size → ¬ AX q → H1[q]? = H[q]?) → va_S A0 H0 H1 locs1 → H1[q9]? = some ce → ce.vm = .none → s.vm.findClass E = some ce.cls → vx_W p l e R s m args below meth c H1 locs1 (cells + mc) (slots + ms) Q (F0 m pc ls rest) q9)
    (kk : ∀ (r : Int64) (u : S) (t : State) (H1 : Heap) (locs1 : List Loc), t.heap = H1 → s.vm.Alike t.vm → post r u → B u t → H.size ≤ H1.size → (∀ q : Nat, q < H.size → ¬ A1 q → H1[q]? = H[q]?) → va_S A0 H0 H1 locs1 → W p l e R s m args below meth c H1 locs1 (cells + mc) (slots + ms) Q (F0 m (pc + 3) ls (.long r :: rest))) : W p l e R s m args below meth c H locs cells slots Q (F0 m pc ls st0) := by
  intro T hT X
  rcases hr T hT X with ⟨v, st₀, t, T', L, h0, X', hL, e1, e2, ⟨⟨r, u, hv, hp, hb⟩, hF⟩, st⟩ | ⟨q, st₀, t, T', L, E, ce, h0, X', hL, e1, e2, ⟨u, hp, hb, hF⟩, hce, hcv, hcl, st⟩
  · cases hv
    obtain ⟨k1, k2, k3⟩ := vx_keep h0 e1 hS hA hf hL hF
    obtain ⟨t2, a1, b1⟩ := kk r u t T'.heap (locs ++ L) e1.symm (by rw [← e2]; exact X'.warmed.alike) hp hb k1 k2 k3 T' rfl X'
    exact ⟨t2, st t2 a1, b1⟩
  · obtain ⟨k1, k2, k3⟩ := vx_keep h0 e1 hS hAX hf hL hF
    obtain ⟨t2, a1, b1⟩ := kx E ce q u t T'.heap (locs ++ L) e1.symm (by rw [← e2]; exact X'.warmed.alike) hp hb k1 k2 k3 (by rw [e1]; exact hce) hcv hcl T' rfl X'
    exact ⟨t2, st.trans a1, b1⟩
theorem vx_callf {S SX : Type} {post : UInt32 → S → Prop} {px : SX → Prop} {B : S → State → Prop} {BX : String → SX → State → Prop} {AX : Nat → Prop} (hr : vx_Run p l e R s m args below meth c H locs cells slots mc ms (F0 m pc ls st0) rest (va_Qf post B A1 a) (vx_X px BX AX) free) (hS : va_S A0 H0 H locs) (hA : ∀ q, q < H.size → A1 q → A0 q) (hf : ∀ q, free q → A0 q) (hAX : ∀ q, q < H.size → AX q → A0 q)
    (kx : ∀ (E : String) (ce : Cell) (q9 : Addr) (u : SX) (t : State) (H1 : Heap) (locs1 : List Loc), t.heap = H1 → s.vm.Alike t.vm → px u → BX E u t → H.size ≤ H1.size → (∀ q : Nat, q < H.size → ¬ AX q → H1[q]? = H[q]?) → va_S A0 H0 H1 locs1 → H1[q9]? = some ce → ce.vm = .none → s.vm.findClass E = some ce.cls → vx_W p l e R s m args below meth c H1 locs1 (cells + mc) (slots + ms) Q (F0 m pc ls rest) q9)
    (kk : ∀ (r : UInt32) (u : S) (t : State) (H1 : Heap) (locs1 : List Loc), t.heap = H1 → s.vm.Alike t.vm → post r u → B u t → H.size ≤ H1.size → (∀ q : Nat, q < H.size → ¬ A1 q → H1[q]? = H[q]?) → va_S A0 H0 H1 locs1 → W p l e R s m args below meth c H1 locs1 (cells + mc) (slots + ms) Q (F0 m (pc + 3) ls (.float r :: rest))) : W p l e R s m args below meth c H locs cells slots Q (F0 m pc ls st0) := by
  intro T hT X
  rcases hr T hT X with ⟨v, st₀, t, T', L, h0, X', hL, e1, e2, ⟨⟨r, u, hv, hp, hb⟩, hF⟩, st⟩ | ⟨q, st₀, t, T', L, E, ce, h0, X', hL, e1, e2, ⟨u, hp, hb, hF⟩, hce, hcv, hcl, st⟩
  · cases hv
    obtain ⟨k1, k2, k3⟩ := vx_keep h0 e1 hS hA hf hL hF
    obtain ⟨t2, a1, b1⟩ := kk r u t T'.heap (locs ++ L) e1.symm (by rw [← e2]; exact X'.warmed.alike) hp hb k1 k2 k3 T' rfl X'
    exact ⟨t2, st t2 a1, b1⟩
  · obtain ⟨k1, k2, k3⟩ := vx_keep h0 e1 hS hAX hf hL hF
    obtain ⟨t2, a1, b1⟩ := kx E ce q u t T'.heap (locs ++ L) e1.symm (by rw [← e2]; exact X'.warmed.alike) hp hb k1 k2 k3 (by rw [e1]; exact hce) hcv hcl T' rfl X'
    exact ⟨t2, st.trans a1, b1⟩
theorem vx_calld {S SX : Type} {post : UInt64 → S → Prop} {px : SX → Prop} {B : S → State → Prop} {BX : String → SX → State → Prop} {AX : Nat → Prop} (hr : vx_Run p l e R s m args below meth c H locs cells slots mc ms (F0 m pc ls st0) rest (va_Qd post B A1 a) (vx_X px BX AX) free) (hS : va_S A0 H0 H locs) (hA : ∀ q, q < H.size → A1 q → A0 q) (hf : ∀ q, free q → A0 q) (hAX : ∀ q, q < H.size → AX q → A0 q)
    (kx : ∀ (E : String) (ce : Cell) (q9 : Addr) (u : SX) (t : State) (H1 : Heap) (locs1 : List Loc), t.heap = H1 → s.vm.Alike t.vm → px u → BX E u t → H.size ≤ H1.size → (∀ q : Nat, q < H.size → ¬ AX q → H1[q]? = H[q]?) → va_S A0 H0 H1 locs1 → H1[q9]? = some ce → ce.vm = .none → s.vm.findClass E = some ce.cls → vx_W p l e R s m args below meth c H1 locs1 (cells + mc) (slots + ms) Q (F0 m pc ls rest) q9)
    (kk : ∀ (r : UInt64) (u : S) (t : State) (H1 : Heap) (locs1 : List Loc), t.heap = H1 → s.vm.Alike t.vm → post r u → B u t → H.size ≤ H1.size → (∀ q : Nat, q < H.size → ¬ A1 q → H1[q]? = H[q]?) → va_S A0 H0 H1 locs1 → W p l e R s m args below meth c H1 locs1 (cells + mc) (slots + ms) Q (F0 m (pc + 3) ls (.double r :: rest))) : W p l e R s m args below meth c H locs cells slots Q (F0 m pc ls st0) := by
  intro T hT X
  rcases hr T hT X with ⟨v, st₀, t, T', L, h0, X', hL, e1, e2, ⟨⟨r, u, hv, hp, hb⟩, hF⟩, st⟩ | ⟨q, st₀, t, T', L, E, ce, h0, X', hL, e1, e2, ⟨u, hp, hb, hF⟩, hce, hcv, hcl, st⟩
  · cases hv
    obtain ⟨k1, k2, k3⟩ := vx_keep h0 e1 hS hA hf hL hF
    obtain ⟨t2, a1, b1⟩ := kk r u t T'.heap (locs ++ L) e1.symm (by rw [← e2]; exact X'.warmed.alike) hp hb k1 k2 k3 T' rfl X'
    exact ⟨t2, st t2 a1, b1⟩
  · obtain ⟨k1, k2, k3⟩ := vx_keep h0 e1 hS hAX hf hL hF
    obtain ⟨t2, a1, b1⟩ := kx E ce q u t T'.heap (locs ++ L) e1.symm (by rw [← e2]; exact X'.warmed.alike) hp hb k1 k2 k3 (by rw [e1]; exact hce) hcv hcl T' rfl X'
    exact ⟨t2, st.trans a1, b1⟩
theorem vx_callv {S SX : Type} {post : S → Prop} {px : SX → Prop} {B : S → State → Prop} {BX : String → SX → State → Prop} {AX : Nat → Prop} (hr : vx_Run p l e R s m args below meth c H locs cells slots mc ms (F0 m pc ls st0) rest (va_Qv post B A1 a) (vx_X px BX AX) free) (hS : va_S A0 H0 H locs) (hA : ∀ q, q < H.size → A1 q → A0 q) (hf : ∀ q, free q → A0 q) (hAX : ∀ q, q < H.size → AX q → A0 q)
    (kx : ∀ (E : String) (ce : Cell) (q9 : Addr) (u : SX) (t : State) (H1 : Heap) (locs1 : List Loc), t.heap = H1 → s.vm.Alike t.vm → px u → BX E u t → H.size ≤ H1.size → (∀ q : Nat, q < H.size → ¬ AX q → H1[q]? = H[q]?) → va_S A0 H0 H1 locs1 → H1[q9]? = some ce → ce.vm = .none → s.vm.findClass E = some ce.cls → vx_W p l e R s m args below meth c H1 locs1 (cells + mc) (slots + ms) Q (F0 m pc ls rest) q9)
    (kk : ∀ (u : S) (t : State) (H1 : Heap) (locs1 : List Loc), t.heap = H1 → s.vm.Alike t.vm → post u → B u t → H.size ≤ H1.size → (∀ q : Nat, q < H.size → ¬ A1 q → H1[q]? = H[q]?) → va_S A0 H0 H1 locs1 → W p l e R s m args below meth c H1 locs1 (cells + mc) (slots + ms) Q (F0 m (pc + 3) ls (rest))) : W p l e R s m args below meth c H locs cells slots Q (F0 m pc ls st0) := by
  intro T hT X
  rcases hr T hT X with ⟨v, st₀, t, T', L, h0, X', hL, e1, e2, ⟨⟨u, hv, hp, hb⟩, hF⟩, st⟩ | ⟨q, st₀, t, T', L, E, ce, h0, X', hL, e1, e2, ⟨u, hp, hb, hF⟩, hce, hcv, hcl, st⟩
  · cases hv
    obtain ⟨k1, k2, k3⟩ := vx_keep h0 e1 hS hA hf hL hF
    obtain ⟨t2, a1, b1⟩ := kk u t T'.heap (locs ++ L) e1.symm (by rw [← e2]; exact X'.warmed.alike) hp hb k1 k2 k3 T' rfl X'
    exact ⟨t2, st t2 a1, b1⟩
  · obtain ⟨k1, k2, k3⟩ := vx_keep h0 e1 hS hAX hf hL hF
    obtain ⟨t2, a1, b1⟩ := kx E ce q u t T'.heap (locs ++ L) e1.symm (by rw [← e2]; exact X'.warmed.alike) hp hb k1 k2 k3 (by rw [e1]; exact hce) hcv hcl T' rfl X'
    exact ⟨t2, st.trans a1, b1⟩
/-- caught by the row x of this method's table; the rows ahead don't take it -/
theorem vx_catch {own name : String} {E : String} {ce : Cell} {q : Addr} (hown : s.vm.findClass own = some m.cls) (pre : List ExceptionTableEntry) (x : ExceptionTableEntry) (suf : List ExceptionTableEntry) (hsplit : c.exceptionTable.toList = pre ++ x :: suf)
    (hpass : ∀ z ∈ pre, covers z pc = false ∨ (z.catchType ≠ 0 ∧ ∃ nm : String, (Cond.classLink own z.catchType nm).before args s = true ∧ va_Nc E nm s)) (hx : covers x pc = true) (h0 : x.catchType ≠ 0)
    (hlink : (Cond.classLink own x.catchType name).before args s = true) (hcast : (Cond.castable E name).before args s = true) (hcell : H[q]? = some ce) (hv : ce.vm = .none) (hcl : s.vm.findClass E = some ce.cls)
    (kk : W p l e R s m args below meth c H locs cells slots Q (F0 m x.handlerPc ls [.ref q])) : vx_W p l e R s m args below meth c H locs cells slots Q (F0 m pc ls rest) q := by
  intro T hT X
  have hpl : e.platform.magicAccessors = ({} : Platform).magicAccessors := by rw [X.admits.platform]
  obtain ⟨c3, c4, hc3, hc4, hasg⟩ := Cond.castable_spec hcast
  cases Option.some.inj (hc3.symm.trans hcl)
  obtain ⟨c5, hc5, hcl5⟩ := Cond.classLink_spec hown hlink e.platform hpl
  cases Option.some.inj (hc4.symm.trans hc5)
  obtain ⟨vm', X', st⟩ := X.thenCaughtThrough q (g := F0 m pc ls rest) rfl (Steps.refl _) (by rw [hT]; exact hcell) (by rw [hv]; rfl) (by obtain ⟨k9, h9, -⟩ := Vm.findClass_spec hcl; exact ⟨k9, h9⟩) pre x suf hsplit
    (fun z hz => by
      rcases hpass z hz with h | ⟨hz0, nm, hl1, hn1⟩
      · exact Or.inl h
      · obtain ⟨c6, hc6, hcl6⟩ := Cond.classLink_spec hown hl1 e.platform hpl
        obtain ⟨a8, b8, h1, h2, h3⟩ := hn1
        cases Option.some.inj (h1.symm.trans hcl)
        cases Option.some.inj (h2.symm.trans hc6)
        exact Or.inr ⟨hz0, _, hcl6, h3⟩) hx (Or.inr ⟨h0, c4, hcl5, hasg⟩)
  obtain ⟨t, a1, b1⟩ := kk (T.setVm vm') hT X'
  exact ⟨t, st.trans a1, b1⟩
end Rows
section Ends
variable {p : Program} {l : Launch} {e : Env} {R : Room} {s : State} {m : MethodId} {args : Array Value} {below : List Frame} {meth : Method} {c : Code} {H : Heap} {locs : List Loc} {cells slots : Nat} {Q : State → Prop}
variable {mc ms : Nat} {free : Addr → Prop} {A0 A1 : Nat → Prop} {H0 : Heap} {a : Array Value} {ls : Array Slot} {st0 rest : List Value}
variable {Qc : Array Value → State → Outcome → State → Prop} {XC : String → State → State → Prop}
/-- what a body that may throw owes at its end -/
def vx_MQ (below : List Frame) (Qc : Array Value → State → Outcome → State → Prop) (XC : String → State → State → Prop) (a : Array Value) (s : State) (mc ms : Nat) (free : Addr → Prop) : State → Prop := fun t =>
  ∃ o, t.status = .running ∧ Ended t below o ∧ vx_Q Qc XC mc ms free a s o t
theorem vx_ret {g : JFrame} {mc ms : Nat} (k : W p l e R s m args below meth c H locs cells slots (MQ below Qc args s mc ms free) g) : W p l e R s m args below meth c H locs cells slots (vx_MQ below Qc XC args s mc ms free) g := by
  intro T hT X
  obtain ⟨t, a1, o, b1, b2, b3, b4⟩ := k T hT X
  exact ⟨t, a1, o, b1, b2, Or.inl ⟨b3, b4⟩⟩
/-- not caught here: it goes on to the caller -/
theorem vx_widen {g : JFrame} {q : Addr} {k n : Nat} (h1 : cells ≤ k) (h2 : slots ≤ n) (kk : vx_W p l e R s m args below meth c H locs k n Q g q) : vx_W p l e R s m args below meth c H locs cells slots Q g q := fun T hT X => kk T hT (stand_widen X h1 h2)
theorem vx_out {pc : Nat} {E : String} {ce : Cell} {q : Addr} {mc ms : Nat} (hout : ∀ x ∈ c.exceptionTable.toList, covers x pc = false) (hlocks : meth.locks = false) (hcell : H[q]? = some ce) (hv : ce.vm = .none) (hcl : s.vm.findClass E = some ce.cls)
    (hx : ∀ t : State, t.heap = H → s.vm.Alike t.vm → XC E s t) (hf : ∀ z ∈ locs, free z.base) (hc : cells ≤ mc) (hs : slots ≤ ms) :
    vx_W p l e R s m args below meth c H locs cells slots (vx_MQ below Qc XC args s mc ms free) (F0 m pc ls rest) q := by
  intro T hT X
  obtain ⟨st1, hrun, hend, hW, hsm⟩ := X.leaveThrown q (g := F0 m pc ls rest) rfl rfl rfl hout hlocks
  have hcell9 : (T.setFrames (.throwing q :: below)).heap[q]? = some ce := by
    show T.heap[q]? = some ce
    rw [hT]; exact hcell
  exact ⟨_, st1, .threw q, hrun, hend, Or.inr ⟨q, rfl, E, ce, locs, hx _ hT hW.alike, hcell9, hv, hcl, hW, hsm.mono hc hs, hf⟩⟩
theorem vx_frame {U : State} {k n : Nat} (h : s.sameButNew ({ U with vm := s.vm } : State) locs k n) : s.heap.size ≤ U.heap.size ∧ ∀ q : Nat, q < s.heap.size → (∀ z ∈ locs, z.base ≠ q) → U.heap[q]? = s.heap[q]? := by
  obtain ⟨-, h2, -, -, -, h6⟩ := h
  refine ⟨h2, fun q hq hz => ?_⟩
  obtain ⟨c9, e1, e2, e3, e4⟩ := h6 q _ (Array.getElem?_eq_getElem hq)
  have hs : c9.slots = (s.heap[q]).slots := Array.ext_getElem? fun i => e4 i fun hm => hz _ hm rfl
  have h9 : c9 = s.heap[q] := by
    rw [hs] at e2
    exact e2
  have e5 : U.heap[q]? = some c9 := e1
  rw [e5, h9, Array.getElem?_eq_getElem hq]
/-- the words of a throw but the four that speak of the heap -/
def vx_no (w : Cond) : Bool := decide (w ≠ .isRef (.static Bundle.tN "UNASSIGNED_STACK" Bundle.steD)) && decide (w ≠ .isRef (.static Bundle.tN "SUPPRESSED_SENTINEL" Bundle.listD)) && decide (w ≠ .laysStatic Bundle.tN "UNASSIGNED_STACK" Bundle.steD) && decide (w ≠ .laysStatic Bundle.tN "SUPPRESSED_SENTINEL" Bundle.listD)
def vx_at0 (own : String) (ic : Nat) (X : String) (names : List String) : List Cond := (Bundle.ownAtoms0 own ic X names).filter vx_no
def vx_atS (own : String) (ic : Nat) (X : String) (names : List String) : List Cond := (Bundle.ownAtoms own ic X names).filter vx_no
/-- a word that the tables alone decide, or a good one -/
def vx_ot (w : Cond) : Bool := w.onTables || goodWord w
theorem vx_ot_at {args a' : Array Value} {s U : State} {w : Cond} (hW : s.WarmedH U.vm) (hvm : s.vm = U.vm) (hg : vx_ot w = true) (h : w.before args s = true) : w.before a' U = true := by
  simp only [vx_ot, Bool.or_eq_true] at hg
  rcases hg with hg | hg
  · exact va_tabs hg hvm h
  · exact word_at hW (good_of_word hg) h
/-- a list's words: the good ones out of the method's own list, the others by premises of their own -/
theorem vx_hat {args : Array Value} {s : State} {L B : List Cond} (h1 : ∀ w ∈ L.filter goodWord, w.before args s = true) (h2 : ∀ w ∈ L.filter (fun w => !goodWord w), w ∈ B) (h3 : ∀ w ∈ B, w.before args s = true) : ∀ w ∈ L, w.before args s = true := by
  intro w hw
  by_cases g : goodWord w = true
  · exact h1 w (List.mem_filter.mpr ⟨hw, g⟩)
  · refine h3 w (h2 w (List.mem_filter.mpr ⟨hw, ?_⟩))
    show (!goodWord w) = true
    cases hgw : goodWord w
    · rfl
    · exact absurd hgw g
theorem vx_c {args : Array Value} {s : State} {w : Cond} {B : List Cond} (h : w.before args s = true) (t : ∀ w ∈ B, w.before args s = true) : ∀ w' ∈ w :: B, w'.before args s = true := fun w' h' => (List.mem_cons.mp h').elim (fun e => by rw [e]; exact h) (t w')
theorem vx_n {args : Array Value} {s : State} : ∀ w ∈ ([] : List Cond), w.before args s = true := fun _ h => nomatch h
theorem vx_own {args : Array Value} {s : State} {L : List Cond} (h1 : ∀ w ∈ L.filter vx_no, w.before args s = true)
    (hU : (Cond.isRef (.static Bundle.tN "UNASSIGNED_STACK" Bundle.steD)).before args s = true) (hN : (Cond.isRef (.static Bundle.tN "SUPPRESSED_SENTINEL" Bundle.listD)).before args s = true)
    (lU : (Cond.laysStatic Bundle.tN "UNASSIGNED_STACK" Bundle.steD).before args s = true) (lN : (Cond.laysStatic Bundle.tN "SUPPRESSED_SENTINEL" Bundle.listD).before args s = true) : ∀ w ∈ L, w.before args s = true := by
  intro w hw
  by_cases e1 : w = .isRef (.static Bundle.tN "UNASSIGNED_STACK" Bundle.steD)
  · rw [e1]; exact hU
  · by_cases e2 : w = .isRef (.static Bundle.tN "SUPPRESSED_SENTINEL" Bundle.listD)
    · rw [e2]; exact hN
    · by_cases e3 : w = .laysStatic Bundle.tN "UNASSIGNED_STACK" Bundle.steD
      · rw [e3]; exact lU
      · by_cases e4 : w = .laysStatic Bundle.tN "SUPPRESSED_SENTINEL" Bundle.listD
        · rw [e4]; exact lN
        · exact h1 w (List.mem_filter.mpr ⟨hw, by unfold vx_no; rw [decide_eq_true e1, decide_eq_true e2, decide_eq_true e3, decide_eq_true e4]; rfl⟩)
/-- where a static field lies, its class's statics cell in H -/
def vx_L (C n d : String) (A : Nat → Prop) (U : State) (H : Heap) : Prop := ∃ (c : ClassId) (k : Class) (i : Nat) (f : Field) (a : Nat) (cell : Cell), U.vm.findClass C = some c ∧ U.fieldFound? C n d = some (c, k, i, f) ∧ f.isStatic = true ∧ k.statics = some a ∧ H[a]? = some cell ∧ cell.vm.isStatics = true ∧ cell.cls = c ∧ f.slot < cell.slots.size ∧ k.staticTypes[f.slot]? = some f.type ∧ ¬ A a
theorem vx_L.moved {C n d : String} {A : Nat → Prop} {u U : State} {H : Heap} (hvm : u.vm.Alike U.vm) (h : vx_L C n d A u H) : vx_L C n d A U H := by
  obtain ⟨c, k, i, f, a, cell, h1, h2, h3, h4, h5, h6, h7, h8, h9, h10⟩ := h
  obtain ⟨k', hi', he⟩ := State.fieldFound?_setVm hvm h2
  exact ⟨c, k', i, f, a, cell, by rw [hvm.findClass]; exact h1, hi', h3, by rw [he]; exact h4, h5, h6, h7, h8, by rw [he]; exact h9, h10⟩
theorem vx_L.kept {C n d : String} {A : Nat → Prop} {U : State} {H H1 : Heap} (h : vx_L C n d A U H) (hq : ∀ a : Nat, a < H.size → ¬ A a → H1[a]? = H[a]?) : vx_L C n d A U H1 := by
  obtain ⟨c, k, i, f, a, cell, h1, h2, h3, h4, h5, h6, h7, h8, h9, h10⟩ := h
  exact ⟨c, k, i, f, a, cell, h1, h2, h3, h4, by rw [hq a (Array.getElem?_eq_some_iff.mp h5).1 h10]; exact h5, h6, h7, h8, h9, h10⟩
theorem vx_L.narrow {C n d : String} {A B : Nat → Prop} {U : State} {H : Heap} (h : vx_L C n d A U H) (hAB : ∀ q, B q → A q) : vx_L C n d B U H := by
  obtain ⟨c, k, i, f, a, cell, h1, h2, h3, h4, h5, h6, h7, h8, h9, h10⟩ := h
  exact ⟨c, k, i, f, a, cell, h1, h2, h3, h4, h5, h6, h7, h8, h9, fun z => h10 (hAB _ z)⟩
theorem vx_L.word {C n d : String} {A : Nat → Prop} {s : State} {args : Array Value} (h : vx_L C n d A s s.heap) : (Cond.laysStatic C n d).before args s = true := by
  obtain ⟨c, k, i, f, a, cell, h1, h2, h3, h4, h5, h6, h7, h8, h9, -⟩ := h
  show (Cond.laysStatic C n d).holds args s none s [] = true
  exact Cond.laysStatic_of h1 h2 h3 h4 h5 h6 h7 h8 h9
/-- .. and what it holds: null or some reference -/
def vx_Zq (C n d : String) (A : Nat → Prop) (U : State) (H : Heap) : Prop := va_Zq C n d A U H ∧ vx_L C n d A U H
theorem vx_Zq.moved {C n d : String} {A : Nat → Prop} {u U : State} {H : Heap} (hvm : u.vm.Alike U.vm) (h : vx_Zq C n d A u H) : vx_Zq C n d A U H := ⟨va_Zq.moved hvm h.1, vx_L.moved hvm h.2⟩
theorem vx_Zq.kept {C n d : String} {A : Nat → Prop} {U : State} {H H1 : Heap} (h : vx_Zq C n d A U H) (hq : ∀ a : Nat, a < H.size → ¬ A a → H1[a]? = H[a]?) : vx_Zq C n d A U H1 := ⟨va_Zq.kept h.1 hq, vx_L.kept h.2 hq⟩
theorem vx_Zq.narrow {C n d : String} {A B : Nat → Prop} {U : State} {H : Heap} (h : vx_Zq C n d A U H) (hAB : ∀ q, B q → A q) : vx_Zq C n d B U H := ⟨va_Zq.narrow h.1 hAB, vx_L.narrow h.2 hAB⟩
theorem vx_Zqof {args : Array Value} {s : State} {C n d : String} {A : Nat → Prop} (hl : (Cond.laysStatic C n d).before args s = true) (hini : (Cond.initialized C).before args s = true) (h : (Cond.isRef (.static C n d)).before args s = true) (hA : ∀ a : Nat, a < s.heap.size → ¬ A a) : vx_Zq C n d A s s.heap := by
  refine ⟨va_Zqof hl hini h hA, ?_⟩
  obtain ⟨c, k, i, f, a, cell, h1, h2, h3, h4, h5, h6, h7, h8, h9⟩ := Cond.laysStatic_spec hl
  exact ⟨c, k, i, f, a, cell, h1, h2, h3, h4, h5, h6, h7, h8, h9, hA a (Array.getElem?_eq_some_iff.mp h5).1⟩
theorem vx_isRef {C n d : String} {v : Value} {A : Nat → Prop} {s : State} {args : Array Value} (h : va_Z C n d v A s s.heap) (hv : v.isRef = true) : (Cond.isRef (.static C n d)).before args s = true := by
  obtain ⟨cf, kf, fi, f, a, cell, h1, h2, h3, h4, h5, h6, h7, -⟩ := h
  have he : (Term.static C n d).eval args s none [] s = some v := by
    simp [Term.eval, State.fieldNamed?, h1, h2, h4, h5, h6, h7]
  simp only [Cond.before, Cond.holds, Cond.value, he]
  cases v <;> simp_all [Value.isRef]
theorem vx_isRefq {C n d : String} {A : Nat → Prop} {s : State} {args : Array Value} (h : va_Zq C n d A s s.heap) : (Cond.isRef (.static C n d)).before args s = true := by
  rcases h with h | ⟨t, h⟩
  · exact vx_isRef h rfl
  · exact vx_isRef h rfl
/-- the same frame, seen from here: as if the method were called anew in this heap -/
theorem vx_rebase {T : State} (X : Stand p l e R s m args below meth c T locs cells slots) {R' : Room} (hf : R'.frames ≤ R.frames) (hl : R'.locals ≤ R.locals) (hc : cells + R'.cells ≤ R.cells) (hs : slots + R'.slots ≤ R.slots) :
    Stand p l e R' ((T.setVm s.vm).setFrames (.invoking m args :: below)) m args below meth c T [] 0 0 := by
  have htop : (T.setVm s.vm).topJava?.isSome := X.here.top
  have hF : ((T.setVm s.vm).setFrames (.invoking m args :: below)).frames = .invoking m args :: below := State.frames_setFrames _ (State.cur_lt_of_top htop)
  obtain ⟨g₀, hg0⟩ := Option.isSome_iff_exists.mp htop
  obtain ⟨r, hr⟩ := State.topJava?_eq_some.mp hg0
  have hl9 : e.platform.stackLimits (T.setVm s.vm).me = e.platform.stackLimits s.me := X.limits
  have hb9 : (T.setVm s.vm).me.stackBytes = s.me.stackBytes := X.bytes
  refine ⟨X.admits, X.cas, X.clock, hF, ?_, X.hears, X.method, X.code, X.here, X.tail, X.warmed, ?_, ?_, ?_⟩
  · have h := X.room
    have hU : ((T.setVm s.vm).setFrames (.invoking m args :: below)).localsInUse = s.localsInUse := by
      rw [State.localsInUse_invoking hF (meth := meth) (c := c) X.method X.code, State.localsInUse_invoking X.frames X.method X.code]
    simp only [State.hasRoom, Bool.and_eq_true, decide_eq_true_eq] at h ⊢
    obtain ⟨⟨⟨⟨h1, h2, h3, h4, h5, h6⟩, h7⟩, h8⟩, h9⟩ := h
    rw [X.frames, List.length_cons] at h2 h3
    have q1 := X.heapSize
    have q2 := X.used
    simp only [hF, hU, List.length_cons, State.stackLimits_setFrames, State.stackBytes_setFrames, hl9, hb9]
    refine ⟨⟨⟨⟨by omega, by omega, by omega, by omega, by omega, h6⟩, ?_⟩, ?_⟩, X.book⟩
    · show T.heap.size + R'.cells ≤ e.platform.maxCells
      omega
    · show T.slotsUsed + R'.slots ≤ e.platform.maxSlots
      omega
  · rw [State.stackLimits_setFrames]; rfl
  · rw [State.stackBytes_setFrames]; rfl
  · refine ⟨?_, Nat.le_refl _, Nat.le_refl _, ?_, ?_, fun a c9 h9 => ⟨c9, h9, rfl, rfl, fun _ _ => rfl⟩⟩
    · obtain ⟨t, ht, -⟩ := State.frames_cons hr
      show T.setVm s.vm = { ((T.setVm s.vm).setFrames (.invoking m args :: below)).setFrames (T.setVm s.vm).frames with heap := T.heap, slotsUsed := T.slotsUsed }
      rw [State.setFrames_setFrames, State.setFrames_self ht]
      rfl
    · show T.slotsUsed = T.slotsUsed + ((T.heap.toList.drop T.heap.size).map (·.slots.size)).sum
      rw [List.drop_eq_nil_of_le (Nat.le_of_eq Array.length_toList)]
      rfl
    · show ((T.heap.toList.drop T.heap.size).map (·.slots.size)).sum ≤ 0
      rw [List.drop_eq_nil_of_le (Nat.le_of_eq Array.length_toList)]
      exact Nat.le_refl _
/-- 'throw new E()': new; dup; invokespecial; athrow -/
theorem vx_throw0 {cc : ByteArray} {pc : Nat} (hexec : p.tables.exec = Jvm.exec) (hb : c.code = cc) (hl : l.stackTraces = false) {own cls : String} {names : List String} {ik ic mc ms : Nat} {A : Nat → Prop}
    (hown : s.vm.findClass own = some m.cls) (hcls : Bundle.fit cls = true) (hnames : ∀ n ∈ names, Bundle.fit n = true)
    (hk : (Cond.classLink own ik cls).before args s = true) (hini : (Cond.initialized cls).before args s = true) (hat : ∀ w ∈ vx_at0 own ic cls names, w.before args s = true)
    (hgood : ∀ w ∈ Cond.classLink own ik cls :: Cond.initialized cls :: vx_at0 own ic cls names, vx_ot w = true)
    (hU : vx_Zq Bundle.tN "UNASSIGNED_STACK" Bundle.steD A s s.heap) (hN : vx_Zq Bundle.tN "SUPPRESSED_SENTINEL" Bundle.listD A s s.heap) (hS : va_S A s.heap H locs) (hsize : ls.size = c.maxLocals)
    (d0 : decode cc pc = .ok (.new ik, 3)) (d3 : decode cc (pc + 3) = .ok (.dup, 1)) (d4 : decode cc (pc + 4) = .ok (.invokespecial ic, 3)) (d7 : decode cc (pc + 7) = .ok (.athrow, 1))
    (hout : ∀ x ∈ c.exceptionTable.toList, covers x (pc + 7) = false)
    (hRframes : names.length + 3 < R.frames) (hRlocals : (rest.map fun v => v.category).sum + (13 * (names.length + 1) + 42) ≤ R.locals) (hRcells : cells + 1 ≤ R.cells) (hRslots : slots + 6 ≤ R.slots) (hlocks : meth.locks = false)
    (hx : ∀ t : State, s.vm.Alike t.vm → H.size ≤ t.heap.size → (∀ q : Nat, q < H.size → t.heap[q]? = H[q]?) → XC cls s t)
    (hf : ∀ z ∈ locs, free z.base) (hc : cells + 1 ≤ mc) (hs : slots + 6 ≤ ms) :
    W p l e R s m args below meth c H locs cells slots (vx_MQ below Qc XC args s mc ms free) (F0 m pc ls rest) := by
  intro T hT X
  have htr : e.platform.stackTraces = false := (show e.platform.stackTraces = l.stackTraces by rw [X.admits.platform]).trans hl
  have Y := vx_rebase X (R' := { frames := R.frames, locals := R.locals, cells := 1, slots := 6 }) (Nat.le_refl _) (Nat.le_refl _) hRcells hRslots
  obtain ⟨s', hA⟩ : ∃ z, z = (T.setVm s.vm).setFrames (.invoking m args :: below) := ⟨_, rfl⟩
  rw [← hA] at Y
  have hvm : s'.vm = s.vm := by rw [hA]; rfl
  have hhp : s'.heap = H := by rw [hA]; exact hT
  have hW0 : s.WarmedH s'.vm := by rw [hvm]; exact State.WarmedH.refl s
  have hat' : ∀ w ∈ vx_at0 own ic cls names, w.before args s' = true := fun w hw => vx_ot_at hW0 hvm.symm (hgood w (List.mem_cons_of_mem _ (List.mem_cons_of_mem _ hw))) (hat w hw)
  have hk' : (Cond.classLink own ik cls).before args s' = true := vx_ot_at hW0 hvm.symm (hgood _ List.mem_cons_self) hk
  have hini' : (Cond.initialized cls).before args s' = true := vx_ot_at hW0 hvm.symm (hgood _ (List.mem_cons_of_mem _ List.mem_cons_self)) hini
  have hU' : vx_Zq Bundle.tN "UNASSIGNED_STACK" Bundle.steD A s' s'.heap := by rw [hhp]; exact vx_Zq.moved hW0.alike (hU.kept hS.2.1)
  have hN' : vx_Zq Bundle.tN "SUPPRESSED_SENTINEL" Bundle.listD A s' s'.heap := by rw [hhp]; exact vx_Zq.moved hW0.alike (hN.kept hS.2.1)
  have h : ∀ w ∈ Bundle.ownAtoms0 own ic cls names, w.before args s' = true := vx_own hat' (vx_isRefq hU'.1) (vx_isRefq hN'.1) hU'.2.word hN'.2.word
  have hown' : s'.vm.findClass own = some m.cls := by rw [hvm]; exact hown
  have hins : (Cond.instantiable cls 6).before args s' = true := h _ (by simp [Bundle.ownAtoms0])
  obtain ⟨vm₁, cX, kX, hfX, hkX, -, -, X₁, st1⟩ := Y.newCold hexec (own := own) (C := cls) (index := ik) (n := 6) hown' hk' hins hini'
    (g := F0 m pc ls rest) rfl (by rw [hb]; exact d0) (Nat.le_refl _) (Nat.le_refl _)
  generalize hT1 : (T.setVm vm₁).pushCell { cls := cX, slots := kX.instanceTypes.map defaultValue, vm := .none } = T1 at X₁ st1
  have hcat : (Value.ref T.heap.size).category = 1 := rfl
  have hcellA : T1.heap[T.heap.size]? = some (freshCell cX kX) := by rw [← hT1]; exact State.heap_pushCell_size _ _
  have d3' : decode c.code (pc + 3) = .ok (.dup, 1) := by rw [hb]; exact d3
  obtain ⟨U, hsteps, hrun, hend, hW, hsame, ce, hce, hO⟩ := X₁.ctorThrow0 hexec htr (own := own) (cls := cls) (names := names) (ic := ic) hown' hcls hnames h (fun x hx => nomatch hx) hfX hkX hcellA (by rw [hhp, hT]; exact Nat.le_refl _)
    (g := { method := m, pc := pc + 4, locals := ls, stack := .ref T.heap.size :: .ref T.heap.size :: rest, locked := none }) rfl hsize rfl rfl (rest := rest) rfl
    (by rw [hb]; exact d4) (by rw [hb]; exact d7) hout hRframes (by simp only [List.map_cons, List.sum_cons, hcat]; omega) hlocks
  obtain ⟨f1, f2⟩ := vx_frame hsame
  rw [hhp] at f1 f2
  have hWs : s.WarmedH U.vm := State.WarmedH.trans hW0 hW
  have hcl : s.vm.findClass cls = some ce.cls := by
    have h9 := hO.cls
    rw [hvm] at h9
    exact h9
  have hall : s.sameButNew ({ U with vm := s.vm } : State) locs mc ms := by
    subst hA
    obtain ⟨e1, e2⟩ := hsame
    rw [State.setFrames_setFrames] at e1
    have h2 : (T.setVm s.vm).sameButNew ({ U with vm := s.vm } : State) [] (0 + 1) (0 + 6) := ⟨e1, e2⟩
    have h3 := X.same.trans h2
    rw [List.append_nil] at h3
    exact h3.mono hc hs
  refine ⟨U, ?_, .threw T.heap.size, hrun, hend, Or.inr ⟨T.heap.size, rfl, cls, ce, locs, hx U hWs.alike f1 (fun q hq => f2 q hq (fun z hz => nomatch hz)), hce, hO.vm, hcl, hWs, hall, hf⟩⟩
  refine st1 _ ?_
  show Steps p.tables e below (T1.setTop { method := m, pc := pc + 3, locals := ls, stack := .ref T.heap.size :: rest, locked := none }) _
  jvm_step X₁.here [X₁.here.top, hexec, d3', Value.category]
  exact hsteps
/-- 'throw new E("text")': new; dup; ldc; invokespecial; athrow -/
theorem vx_throwS {cc : ByteArray} {pc : Nat} (hexec : p.tables.exec = Jvm.exec) (hb : c.code = cc) (hl : l.stackTraces = false) {own cls text : String} {names : List String} {ik is ic mc ms sa : Nat} {A : Nat → Prop}
    (hown : s.vm.findClass own = some m.cls) (hcls : Bundle.fit cls = true) (hnames : ∀ n ∈ names, Bundle.fit n = true)
    (hk : (Cond.classLink own ik cls).before args s = true) (hini : (Cond.initialized cls).before args s = true) (hstr : vk_R own is text sa s) (hat : ∀ w ∈ vx_atS own ic cls names, w.before args s = true)
    (hgood : ∀ w ∈ Cond.classLink own ik cls :: Cond.initialized cls :: vx_atS own ic cls names, vx_ot w = true)
    (hU : vx_Zq Bundle.tN "UNASSIGNED_STACK" Bundle.steD A s s.heap) (hN : vx_Zq Bundle.tN "SUPPRESSED_SENTINEL" Bundle.listD A s s.heap) (hS : va_S A s.heap H locs) (hsize : ls.size = c.maxLocals)
    (d0 : decode cc pc = .ok (.new ik, 3)) (d3 : decode cc (pc + 3) = .ok (.dup, 1)) (d4 : decode cc (pc + 4) = .ok (.ldc is, 2)) (d6 : decode cc (pc + 6) = .ok (.invokespecial ic, 3)) (d9 : decode cc (pc + 9) = .ok (.athrow, 1))
    (hout : ∀ x ∈ c.exceptionTable.toList, covers x (pc + 9) = false)
    (hRframes : names.length + 3 < R.frames) (hRlocals : (rest.map fun v => v.category).sum + (13 * (names.length + 1) + 43) ≤ R.locals) (hRcells : cells + 1 ≤ R.cells) (hRslots : slots + 6 ≤ R.slots) (hlocks : meth.locks = false)
    (hx : ∀ t : State, s.vm.Alike t.vm → H.size ≤ t.heap.size → (∀ q : Nat, q < H.size → t.heap[q]? = H[q]?) → XC cls s t)
    (hf : ∀ z ∈ locs, free z.base) (hc : cells + 1 ≤ mc) (hs : slots + 6 ≤ ms) :
    W p l e R s m args below meth c H locs cells slots (vx_MQ below Qc XC args s mc ms free) (F0 m pc ls rest) := by
  intro T hT X
  have htr : e.platform.stackTraces = false := (show e.platform.stackTraces = l.stackTraces by rw [X.admits.platform]).trans hl
  have Y := vx_rebase X (R' := { frames := R.frames, locals := R.locals, cells := 1, slots := 6 }) (Nat.le_refl _) (Nat.le_refl _) hRcells hRslots
  obtain ⟨s', hA⟩ : ∃ z, z = (T.setVm s.vm).setFrames (.invoking m args :: below) := ⟨_, rfl⟩
  rw [← hA] at Y
  have hvm : s'.vm = s.vm := by rw [hA]; rfl
  have hhp : s'.heap = H := by rw [hA]; exact hT
  have hW0 : s.WarmedH s'.vm := by rw [hvm]; exact State.WarmedH.refl s
  have hat' : ∀ w ∈ vx_atS own ic cls names, w.before args s' = true := fun w hw => vx_ot_at hW0 hvm.symm (hgood w (List.mem_cons_of_mem _ (List.mem_cons_of_mem _ hw))) (hat w hw)
  have hk' : (Cond.classLink own ik cls).before args s' = true := vx_ot_at hW0 hvm.symm (hgood _ List.mem_cons_self) hk
  have hini' : (Cond.initialized cls).before args s' = true := vx_ot_at hW0 hvm.symm (hgood _ (List.mem_cons_of_mem _ List.mem_cons_self)) hini
  have hU' : vx_Zq Bundle.tN "UNASSIGNED_STACK" Bundle.steD A s' s'.heap := by rw [hhp]; exact vx_Zq.moved hW0.alike (hU.kept hS.2.1)
  have hN' : vx_Zq Bundle.tN "SUPPRESSED_SENTINEL" Bundle.listD A s' s'.heap := by rw [hhp]; exact vx_Zq.moved hW0.alike (hN.kept hS.2.1)
  have h : ∀ w ∈ Bundle.ownAtoms own ic cls names, w.before args s' = true := vx_own hat' (vx_isRefq hU'.1) (vx_isRefq hN'.1) hU'.2.word hN'.2.word
  have hown' : s'.vm.findClass own = some m.cls := by rw [hvm]; exact hown
  have hins : (Cond.instantiable cls 6).before args s' = true := h _ (by simp [Bundle.ownAtoms])
  obtain ⟨vm₁, cX, kX, hfX, hkX, -, -, X₁, st1⟩ := Y.newCold hexec (own := own) (C := cls) (index := ik) (n := 6) hown' hk' hins hini'
    (g := F0 m pc ls rest) rfl (by rw [hb]; exact d0) (Nat.le_refl _) (Nat.le_refl _)
  generalize hT1 : (T.setVm vm₁).pushCell { cls := cX, slots := kX.instanceTypes.map defaultValue, vm := .none } = T1 at X₁ st1
  have hcat : (Value.ref T.heap.size).category = 1 := rfl
  have hcellA : T1.heap[T.heap.size]? = some (freshCell cX kX) := by rw [← hT1]; exact State.heap_pushCell_size _ _
  have d3' : decode c.code (pc + 3) = .ok (.dup, 1) := by rw [hb]; exact d3
  have d4' : decode c.code (pc + 4) = .ok (.ldc is, 2) := by rw [hb]; exact d4
  have hstr' : vk_R own is text sa s' := vk_R.warm hW0 hstr
  obtain ⟨U, hsteps, hrun, hend, hW, hsame, ce, hce, hO⟩ := X₁.ctorThrowS hexec htr (own := own) (cls := cls) (names := names) (ic := ic) hown' hcls hnames h (fun x hx => nomatch hx) hfX hkX hcellA (by rw [hhp, hT]; exact Nat.le_refl _) (msg := .ref sa) rfl
    (g := { method := m, pc := pc + 6, locals := ls, stack := .ref sa :: .ref T.heap.size :: .ref T.heap.size :: rest, locked := none }) rfl hsize rfl rfl (rest := rest) rfl
    (by rw [hb]; exact d6) (by rw [hb]; exact d9) hout hRframes (by simp only [List.map_cons, List.sum_cons, hcat]; omega) hlocks
  obtain ⟨f1, f2⟩ := vx_frame hsame
  rw [hhp] at f1 f2
  have hWs : s.WarmedH U.vm := State.WarmedH.trans hW0 hW
  have hcl : s.vm.findClass cls = some ce.cls := by
    have h9 := hO.cls
    rw [hvm] at h9
    exact h9
  have hall : s.sameButNew ({ U with vm := s.vm } : State) locs mc ms := by
    subst hA
    obtain ⟨e1, e2⟩ := hsame
    rw [State.setFrames_setFrames] at e1
    have h2 : (T.setVm s.vm).sameButNew ({ U with vm := s.vm } : State) [] (0 + 1) (0 + 6) := ⟨e1, e2⟩
    have h3 := X.same.trans h2
    rw [List.append_nil] at h3
    exact h3.mono hc hs
  refine ⟨U, ?_, .threw T.heap.size, hrun, hend, Or.inr ⟨T.heap.size, rfl, cls, ce, locs, hx U hWs.alike f1 (fun q hq => f2 q hq (fun z hz => nomatch hz)), hce, hO.vm, hcl, hWs, hall, hf⟩⟩
  refine st1 _ ?_
  show Steps p.tables e below (T1.setTop { method := m, pc := pc + 3, locals := ls, stack := .ref T.heap.size :: rest, locked := none }) _
  jvm_step X₁.here [X₁.here.top, hexec, d3', Value.category]
  exact X₁.ldcString hexec (own := own) (text := text) (index := is) (a := sa) hown' hstr'.1 hstr'.2
    (g := { method := m, pc := pc + 4, locals := ls, stack := .ref T.heap.size :: .ref T.heap.size :: rest, locked := none }) rfl d4' _ hsteps
/-- 'throw new E("text")', the text by a wide index -/
theorem vx_throwSW {cc : ByteArray} {pc : Nat} (hexec : p.tables.exec = Jvm.exec) (hb : c.code = cc) (hl : l.stackTraces = false) {own cls text : String} {names : List String} {ik is ic mc ms sa : Nat} {A : Nat → Prop}
    (hown : s.vm.findClass own = some m.cls) (hcls : Bundle.fit cls = true) (hnames : ∀ n ∈ names, Bundle.fit n = true)
    (hk : (Cond.classLink own ik cls).before args s = true) (hini : (Cond.initialized cls).before args s = true) (hstr : vk_R own is text sa s) (hat : ∀ w ∈ vx_atS own ic cls names, w.before args s = true)
    (hgood : ∀ w ∈ Cond.classLink own ik cls :: Cond.initialized cls :: vx_atS own ic cls names, vx_ot w = true)
    (hU : vx_Zq Bundle.tN "UNASSIGNED_STACK" Bundle.steD A s s.heap) (hN : vx_Zq Bundle.tN "SUPPRESSED_SENTINEL" Bundle.listD A s s.heap) (hS : va_S A s.heap H locs) (hsize : ls.size = c.maxLocals)
    (d0 : decode cc pc = .ok (.new ik, 3)) (d3 : decode cc (pc + 3) = .ok (.dup, 1)) (d4 : decode cc (pc + 4) = .ok (.ldc_w is, 3)) (d7 : decode cc (pc + 7) = .ok (.invokespecial ic, 3)) (d10 : decode cc (pc + 10) = .ok (.athrow, 1))
    (hout : ∀ x ∈ c.exceptionTable.toList, covers x (pc + 10) = false)
    (hRframes : names.length + 3 < R.frames) (hRlocals : (rest.map fun v => v.category).sum + (13 * (names.length + 1) + 43) ≤ R.locals) (hRcells : cells + 1 ≤ R.cells) (hRslots : slots + 6 ≤ R.slots) (hlocks : meth.locks = false)
    (hx : ∀ t : State, s.vm.Alike t.vm → H.size ≤ t.heap.size → (∀ q : Nat, q < H.size → t.heap[q]? = H[q]?) → XC cls s t)
    (hf : ∀ z ∈ locs, free z.base) (hc : cells + 1 ≤ mc) (hs : slots + 6 ≤ ms) :
    W p l e R s m args below meth c H locs cells slots (vx_MQ below Qc XC args s mc ms free) (F0 m pc ls rest) := by
  intro T hT X
  have htr : e.platform.stackTraces = false := (show e.platform.stackTraces = l.stackTraces by rw [X.admits.platform]).trans hl
  have Y := vx_rebase X (R' := { frames := R.frames, locals := R.locals, cells := 1, slots := 6 }) (Nat.le_refl _) (Nat.le_refl _) hRcells hRslots
  obtain ⟨s', hA⟩ : ∃ z, z = (T.setVm s.vm).setFrames (.invoking m args :: below) := ⟨_, rfl⟩
  rw [← hA] at Y
  have hvm : s'.vm = s.vm := by rw [hA]; rfl
  have hhp : s'.heap = H := by rw [hA]; exact hT
  have hW0 : s.WarmedH s'.vm := by rw [hvm]; exact State.WarmedH.refl s
  have hat' : ∀ w ∈ vx_atS own ic cls names, w.before args s' = true := fun w hw => vx_ot_at hW0 hvm.symm (hgood w (List.mem_cons_of_mem _ (List.mem_cons_of_mem _ hw))) (hat w hw)
  have hk' : (Cond.classLink own ik cls).before args s' = true := vx_ot_at hW0 hvm.symm (hgood _ List.mem_cons_self) hk
  have hini' : (Cond.initialized cls).before args s' = true := vx_ot_at hW0 hvm.symm (hgood _ (List.mem_cons_of_mem _ List.mem_cons_self)) hini
  have hU' : vx_Zq Bundle.tN "UNASSIGNED_STACK" Bundle.steD A s' s'.heap := by rw [hhp]; exact vx_Zq.moved hW0.alike (hU.kept hS.2.1)
  have hN' : vx_Zq Bundle.tN "SUPPRESSED_SENTINEL" Bundle.listD A s' s'.heap := by rw [hhp]; exact vx_Zq.moved hW0.alike (hN.kept hS.2.1)
  have h : ∀ w ∈ Bundle.ownAtoms own ic cls names, w.before args s' = true := vx_own hat' (vx_isRefq hU'.1) (vx_isRefq hN'.1) hU'.2.word hN'.2.word
  have hown' : s'.vm.findClass own = some m.cls := by rw [hvm]; exact hown
  have hins : (Cond.instantiable cls 6).before args s' = true := h _ (by simp [Bundle.ownAtoms])
  obtain ⟨vm₁, cX, kX, hfX, hkX, -, -, X₁, st1⟩ := Y.newCold hexec (own := own) (C := cls) (index := ik) (n := 6) hown' hk' hins hini'
    (g := F0 m pc ls rest) rfl (by rw [hb]; exact d0) (Nat.le_refl _) (Nat.le_refl _)
  generalize hT1 : (T.setVm vm₁).pushCell { cls := cX, slots := kX.instanceTypes.map defaultValue, vm := .none } = T1 at X₁ st1
  have hcat : (Value.ref T.heap.size).category = 1 := rfl
  have hcellA : T1.heap[T.heap.size]? = some (freshCell cX kX) := by rw [← hT1]; exact State.heap_pushCell_size _ _
  have d3' : decode c.code (pc + 3) = .ok (.dup, 1) := by rw [hb]; exact d3
  have d4' : decode c.code (pc + 4) = .ok (.ldc_w is, 3) := by rw [hb]; exact d4
  have hstr' : vk_R own is text sa s' := vk_R.warm hW0 hstr
  obtain ⟨U, hsteps, hrun, hend, hW, hsame, ce, hce, hO⟩ := X₁.ctorThrowS hexec htr (own := own) (cls := cls) (names := names) (ic := ic) hown' hcls hnames h (fun x hx => nomatch hx) hfX hkX hcellA (by rw [hhp, hT]; exact Nat.le_refl _) (msg := .ref sa) rfl
    (g := { method := m, pc := pc + 7, locals := ls, stack := .ref sa :: .ref T.heap.size :: .ref T.heap.size :: rest, locked := none }) rfl hsize rfl rfl (rest := rest) rfl
    (by rw [hb]; exact d7) (by rw [hb]; exact d10) hout hRframes (by simp only [List.map_cons, List.sum_cons, hcat]; omega) hlocks
  obtain ⟨f1, f2⟩ := vx_frame hsame
  rw [hhp] at f1 f2
  have hWs : s.WarmedH U.vm := State.WarmedH.trans hW0 hW
  have hcl : s.vm.findClass cls = some ce.cls := by
    have h9 := hO.cls
    rw [hvm] at h9
    exact h9
  have hall : s.sameButNew ({ U with vm := s.vm } : State) locs mc ms := by
    subst hA
    obtain ⟨e1, e2⟩ := hsame
    rw [State.setFrames_setFrames] at e1
    have h2 : (T.setVm s.vm).sameButNew ({ U with vm := s.vm } : State) [] (0 + 1) (0 + 6) := ⟨e1, e2⟩
    have h3 := X.same.trans h2
    rw [List.append_nil] at h3
    exact h3.mono hc hs
  refine ⟨U, ?_, .threw T.heap.size, hrun, hend, Or.inr ⟨T.heap.size, rfl, cls, ce, locs, hx U hWs.alike f1 (fun q hq => f2 q hq (fun z hz => nomatch hz)), hce, hO.vm, hcl, hWs, hall, hf⟩⟩
  refine st1 _ ?_
  show Steps p.tables e below (T1.setTop { method := m, pc := pc + 3, locals := ls, stack := .ref T.heap.size :: rest, locked := none }) _
  jvm_step X₁.here [X₁.here.top, hexec, d3', Value.category]
  exact X₁.ldcStringW hexec (own := own) (text := text) (index := is) (a := sa) hown' hstr'.1 hstr'.2
    (g := { method := m, pc := pc + 4, locals := ls, stack := .ref T.heap.size :: .ref T.heap.size :: rest, locked := none }) rfl d4' _ hsteps
end Ends
section Bodies
variable {l : Launch}
theorem vx_ofW {y : MethodName} {ws ws' : List Cond} {rm : Room} {Pc : Array Value → State → Prop} {Qc : Array Value → State → Outcome → State → Prop} {XC : String → State → State → Prop} {mc ms : Nat} {free : Addr → Prop} {cc : ByteArray} {maxL : Nat} {ret : Option FieldType}
    (hy : plainName y.cls = true) (hw : ws = Cond.code y cc maxL ret :: ws')
    (body : ∀ p e s m args below meth c s₁, BodyLoose p l y (headSpec ws rm) cc maxL ret e s m args below meth c s₁ → c.maxLocals = maxL → (∀ x ∈ c.exceptionTable.toList, False) → Pc args s →
      W p l e (headSpec ws rm).room s m args below meth c s.heap [] 0 0 (vx_MQ below Qc XC args s mc ms free) (entryFrame m args maxL)) : vx_Met l y ws rm Pc Qc XC mc ms free := by
  refine MetFree.of_bodyS (code := cc) (maxLocals := maxL) (ret := ret) hy ?_ ?_
  · intro args s m h hn
    obtain ⟨meth, c, h1, h2, h3, h4, h5, h6, -, -⟩ := Cond.code_spec hn (atoms_spec (ws := ws) h _ (by rw [hw]; exact List.mem_cons_self))
    exact ⟨meth, c, h1, h2, h3, h4, h5, h6⟩
  · intro p e s m args below meth c s₁ B hml hP _
    have hh0 : s₁.heap = s.heap := by rw [B.state]; rfl
    have ht : ∀ x ∈ c.exceptionTable.toList, False := by
      obtain ⟨meth9, c9, h1, h2, -, -, -, -, h7, -⟩ := Cond.code_spec B.named (atoms_spec (ws := ws) B.pre _ (by rw [hw]; exact List.mem_cons_self))
      cases Option.some.inj (h1.symm.trans B.method)
      cases Option.some.inj (h2.symm.trans (Stand.of_body B).code)
      intro x hx
      rw [Array.isEmpty_iff.mp h7] at hx
      cases hx
    obtain ⟨t, a1, o, b1, b2, b3⟩ := body p e s m args below meth c s₁ B hml ht hP s₁ hh0 (Stand.of_body B)
    exact ⟨t, o, a1, b1, b2, b3⟩
/-- the table of a body with handlers -/
theorem vx_table {p : Program} {x y : MethodName} {S : Spec} {cc bytes : ByteArray} {maxL maxL' : Nat} {ret ret' : Option FieldType} {e : Env} {s s₁ : State} {m : MethodId} {args : Array Value} {below : List Frame} {meth : Method} {c : Code} {hh : List (Nat × Nat × Nat × Nat)}
    (B : BodyLoose p l y S cc maxL ret e s m args below meth c s₁) (h : (Cond.codeWith y bytes maxL' ret' hh).before args s = true) : c.exceptionTable.toList = tableOf hh := by
  obtain ⟨m9, meth9, c9, hn9, h1, h2, -, -, h6, -⟩ := Cond.codeWith_spec h
  cases Option.some.inj (hn9.symm.trans B.named)
  cases Option.some.inj (h1.symm.trans B.method)
  cases Option.some.inj (h2.symm.trans (Stand.of_body B).code)
  rw [← h6, table_eq]
end Bodies
end VXA
/-! ===== END ===== -/
/-! ===== BEGIN a static call of a method with an exception table ===== -/
section VXS
variable {p : Program} {l : Launch} {e : Env} {R : Room} {s : State} {m : MethodId} {args : Array Value} {below : List Frame} {meth : Method} {c : Code} {T : State} {H : Heap} {locs : List Loc} {cells slots : Nat}
abbrev vx_CSW (R : Room) (s : State) (args : Array Value) (own : String) (index : Nat) (y : MethodName) (bytes : ByteArray) (maxL : Nat) (ret : Option FieldType) (hh : List (Nat × Nat × Nat × Nat)) (ws : List Cond) (rm : Room) (mc ms n : Nat) : Prop :=
  (rm.cells = mc ∧ rm.slots = ms ∧ rm.frames + 1 ≤ R.frames ∧ 8 + (maxL + 11) + rm.locals ≤ R.locals ∧ (∀ w ∈ ws, ∀ (a' : Array Value) (U : State), s.WarmedH U.vm → w.before a' U = true) ∧ Cond.codeWith y bytes maxL ret hh ∈ ws) ∧
  (Cond.codeWith y bytes maxL ret hh).before args s = true ∧ (Cond.initialized y.cls).before args s = true ∧ (y.cls ≠ "java/lang/invoke/MethodHandle" ∧ y.cls ≠ "java/lang/invoke/VarHandle") ∧
  (∀ sig, parseMethodDescriptor y.desc = some sig → n = sig.parameters.length) ∧ (Cond.methodLink own index y).before args s = true ∧ (Cond.static y).before args s = true
theorem vx_cwSW {own : String} {index maxL mc ms : Nat} {y : MethodName} {bytes : ByteArray} {ret : Option FieldType} {hh : List (Nat × Nat × Nat × Nat)} {Ts ws ws' : List Cond} {rm : Room} (n : Nat) (ht : ∀ w ∈ Ts, w.before args s = true) (hT : GoodIn Ts (va_wsS own index y ws)) (hw : ws = Cond.codeWith y bytes maxL ret hh :: ws') (hrc : rm.cells = mc) (hrs : rm.slots = ms)
    (hd : y.cls ≠ "java/lang/invoke/MethodHandle" ∧ y.cls ≠ "java/lang/invoke/VarHandle" ∧ (parseMethodDescriptor y.desc).map (fun d => d.parameters.length) = some n) (hR : rm.frames + 1 ≤ R.frames ∧ 8 + (maxL + 11) + rm.locals ≤ R.locals) :
    vx_CSW R s args own index y bytes maxL ret hh ws rm mc ms n := by
  have ok : ∀ w ∈ va_wsS own index y ws, w.before args s = true := fun w h => ht w (hT w h).1
  have hG : GoodIn Ts ws := fun w h => hT w (by unfold va_wsS; exact List.mem_append_right _ h)
  have hc : Cond.codeWith y bytes maxL ret hh ∈ ws := by rw [hw]; exact List.mem_cons_self
  refine ⟨⟨hrc, hrs, hR.1, hR.2, pay_in ht hG, hc⟩, ht _ (hG _ hc).1, ok _ (by simp [va_wsS]), ⟨hd.1, hd.2.1⟩, fun sig h => ?_, ok _ (by simp [va_wsS]), ok _ (by simp [va_wsS])⟩
  have h2 := hd.2.2
  rw [h] at h2
  exact (Option.some.inj h2).symm
theorem vx_callSW (X : Stand p l e R s m args below meth c T locs cells slots) (hexec : p.tables.exec = Jvm.exec) {own : String} {index : Nat} {y : MethodName} {bytes : ByteArray} {maxL : Nat} {ret : Option FieldType} {hh : List (Nat × Nat × Nat × Nat)}
    (hown : s.vm.findClass own = some m.cls) (hlink : (Cond.methodLink own index y).before args s = true) (hstat : (Cond.static y).before args s = true) (hinit : (Cond.initialized y.cls).before args s = true)
    (hcode : (Cond.codeWith y bytes maxL ret hh).before args s = true) (hy : y.cls ≠ "java/lang/invoke/MethodHandle" ∧ y.cls ≠ "java/lang/invoke/VarHandle")
    {W9 : Nat} {Pre : Pt → Array Value → Prop} {Post : Pt → Array Value → Option Value → Pt → Prop} (hK : Back l R p e below s args y 3 W9 Pre Post)
    {g : JFrame} (hg : g.method = m) (hsize : g.locals.size = c.maxLocals) {argsL rest : List Value} (hlen : ∀ sig, parseMethodDescriptor y.desc = some sig → argsL.length = sig.parameters.length)
    (hstack : g.stack = argsL.reverse ++ rest) (hW : 2 * g.monitorRoom + (rest.map fun v => v.category).sum ≤ W9) (hdg : decode c.code g.pc = .ok (.invokestatic index, 3))
    (hpre : ∀ vm₁, s.WarmedH vm₁ → Pre ⟨T.setVm vm₁, locs, cells, slots⟩ argsL.toArray) :
    ∃ (v : Option Value) (vm₁ : Vm) (B : Pt), s.WarmedH vm₁ ∧ Stand p l e R s m args below meth c B.U B.locs B.cells B.slots ∧ Post ⟨T.setVm vm₁, locs, cells, slots⟩ argsL.toArray v B ∧
      ∀ target, Steps p.tables e below (B.U.setTop { g with pc := g.pc + 3, stack := v.toList ++ rest }) target → Steps p.tables e below (T.setTop g) target := by
  obtain ⟨mk, methM, cM, hnamed, hmethM, -, -, -, -, -, -, hsigM⟩ := Cond.codeWith_spec hcode
  have hstatic : methM.isStatic = true := Cond.static_spec hnamed hmethM hstat
  obtain ⟨kP, hkP, -⟩ := className_of_methodNamed hnamed
  have hinitP : kP.init = .initialized := Cond.initialized_spec (findClass_of_methodNamed hnamed) hkP hinit
  obtain ⟨vm₁, X₁, hstep₁⟩ := X.invokestatic hexec hown hlink hnamed hmethM hstatic hkP hinitP hy (g := g) hg (argsL := argsL) (rest := rest) (hlen _ hsigM) hstack hdg
  obtain ⟨v, B, X', hpost, hsteps⟩ := hK m meth c ⟨T.setVm vm₁, locs, cells, slots⟩ { g with stack := rest } (.invokestatic index) mk argsL.toArray X₁ hg hsize hdg hW (X₁.named hnamed) (hpre vm₁ X₁.warmed)
  exact ⟨v, vm₁, B, X₁.warmed, X', hpost, fun target h => hstep₁ _ fun acts => by rw [doInvoke_state]; exact hsteps.trans h⟩
theorem vx_runSW {y : MethodName} {bytes cc : ByteArray} {maxL nL mc ms n index : Nat} {ret : Option FieldType} {hh : List (Nat × Nat × Nat × Nat)} {ws : List Cond} {rm : Room} {Pc : Array Value → State → Prop} {Qc : Array Value → State → Outcome → State → Prop} {free : Addr → Prop} {Ts : List Cond} {own : String} {As rest : List Value} {g : JFrame}
    (S : CallFix p m c cc nL s args Ts own) (hM : Met l y ws rm Pc Qc mc ms free) (cw : vx_CSW R s args own index y bytes maxL ret hh ws rm mc ms n) (hp : PreS s H Pc As)
    (hg : g.method = m) (hn : As.length = n) (hsize : g.locals.size = nL) (hstack : g.stack = As.reverse ++ rest) (hW : 2 * g.monitorRoom + (rest.map fun v => v.category).sum ≤ 8) (hdg : decode cc g.pc = .ok (.invokestatic index, 3)) (hf : cells + mc ≤ R.cells ∧ slots + ms ≤ R.slots) :
    va_Run p l e R s m args below meth c H locs cells slots mc ms g rest (Qc As.toArray) (free) := by
  obtain ⟨⟨hrc, hrs, hfr, hlo, hws, hcw⟩, hcode, hini, hy, hlen, hl, hstt⟩ := cw
  have hK : Back l R p e below s args y 3 8 (PreOf R mc ms Pc) (PostOf Qc mc ms free) := va_backW (hh := hh) (bytes := bytes) (maxL := maxL) (ret := ret) hM hp.1 hrc hrs hfr hlo hws hcw (fun a' U hW => word_at hW (Or.inl (by first | rfl | simp [Cond.onTables, Cond.keeps, Cond.steady])) hini)
  obtain ⟨hx, hb, hml, ho, -⟩ := S
  intro T hT X
  obtain ⟨v, vm₁, ⟨U', l2, c2, s2⟩, hW₁, X', ⟨g', mk, t, L, e1, e2, hq, h1, hL, h2, h3⟩, st⟩ := vx_callSW X hx (hh := hh) (bytes := bytes) (maxL := maxL) (ret := ret) ho hl hstt hini hcode hy hK hg (hsize.trans hml.symm) (argsL := As) (rest := rest) (fun sig h => hn.trans (hlen sig h)) hstack hW (by rw [hb]; exact hdg)
    (fun vm₁ hW₁ => ⟨hf.1, hf.2, hp.2 (T.setVm vm₁) hT hW₁⟩)
  dsimp only [Pt.U, Pt.locs, Pt.cells, Pt.slots] at X' e1 e2 h1 h2 h3 st
  subst h1; subst h2; subst h3
  exact ⟨v, (T.setVm vm₁).calling g' mk As.toArray, t, U', L, hT, X', hL, e1, e2, hq, st⟩
/-- not caught here, past rows that name other classes: it goes on to the caller -/
theorem vx_outP {p : Program} {l : Launch} {e : Env} {R : Room} {s : State} {m : MethodId} {args : Array Value} {below : List Frame} {meth : Method} {c : Code} {H : Heap} {locs : List Loc} {cells slots : Nat} {free : Addr → Prop} {ls : Array Slot} {rest : List Value} {Qc : Array Value → State → Outcome → State → Prop} {XC : String → State → State → Prop}
    {pc : Nat} {own E : String} {ce : Cell} {q : Addr} {mc ms : Nat} (hown : s.vm.findClass own = some m.cls) (hlocks : meth.locks = false)
    (hpass : ∀ z ∈ c.exceptionTable.toList, covers z pc = false ∨ (z.catchType ≠ 0 ∧ ∃ nm : String, (Cond.classLink own z.catchType nm).before args s = true ∧ va_Nc E nm s)) (hcell : H[q]? = some ce) (hv : ce.vm = .none) (hcl : s.vm.findClass E = some ce.cls)
    (hx : ∀ t : State, t.heap = H → s.vm.Alike t.vm → XC E s t) (hf : ∀ z ∈ locs, free z.base) (hc : cells ≤ mc) (hs : slots ≤ ms) :
    vx_W p l e R s m args below meth c H locs cells slots (vx_MQ below Qc XC args s mc ms free) (F0 m pc ls rest) q := by
  intro T hT X
  have hpl : e.platform.magicAccessors = ({} : Platform).magicAccessors := by rw [X.admits.platform]
  obtain ⟨vm', hW', X', st⟩ := X.outThrough hlocks q (g := F0 m pc ls rest) rfl rfl rfl (cell := ce) (by rw [hT]; exact hcell) (by rw [hv]; rfl)
    (by obtain ⟨k9, h9, -⟩ := Vm.findClass_spec hcl; exact ⟨k9, h9⟩) (fun z hz => by
      rcases hpass z hz with h | ⟨hz0, nm, hl1, hn1⟩
      · exact Or.inl h
      · obtain ⟨c6, hc6, hcl6⟩ := Cond.classLink_spec hown hl1 e.platform hpl
        obtain ⟨a8, b8, h1, h2, h3⟩ := hn1
        cases Option.some.inj (h1.symm.trans hcl)
        cases Option.some.inj (h2.symm.trans hc6)
        exact Or.inr ⟨hz0, _, hcl6, h3⟩)
  obtain ⟨g₀, hfr⟩ := X'.frames_eq
  have hcell9 : ((T.setVm vm').setFrames (.throwing q :: below)).heap[q]? = some ce := by
    show T.heap[q]? = some ce
    rw [hT]; exact hcell
  have hend : Ended ((T.setVm vm').setFrames (.throwing q :: below)) below (.threw q) := State.frames_setFrames _ (State.cur_lt_of_frames hfr)
  refine ⟨(T.setVm vm').setFrames (.throwing q :: below), ?_, .threw q, X'.here.running, hend, Or.inr ⟨q, rfl, E, ce, locs, hx _ hT (X'.ends _).1.alike, hcell9, hv, hcl, (X'.ends _).1, (X'.ends _).2.mono hc hs, hf⟩⟩
  rw [X.pushThrowing_eq]
  exact st
/-- a thing of a world lies in the heap -/
theorem vx_lt {D : va_G} {cl : List vw_C} {ws : va_W} {H1 : Heap} (h : va_P D cl ws H1) {k : Nat} {q : Nat × va_E} (hk : ws[k]? = some q) : q.1 < H1.size := (h k q hk).lt
end VXS
/-! ===== END ===== -/
/-! ===== BEGIN methods with a table of their own: called by a name, returning or throwing ===== -/
section VXH
/-! vx_backW, vx_callVX, vx_callSX, vx_callVW, vx_runVW, vx_runVX, vx_runSX, vx_ofWH follow the same proofs as their sisters above (Free/Laws.lean, Shelf42/LK1.lean); vx_outP calls Shelf42/NT130.lean (outThrough). -/
section
variable {l : Launch} {R : Room} {p : Program} {e : Env} {below : List Frame} {s : State} {sargs : Array Value} {y : MethodName} {len W9 : Nat}
theorem vx_backW {ws : List Cond} {rm : Room} {Pc : Array Value → State → Prop} {Qc : Array Value → State → Outcome → State → Prop} {XC : String → State → State → Prop} {mc ms : Nat} {free : Addr → Prop} {bytes : ByteArray} {maxL : Nat} {ret : Option FieldType} {hh : List (Nat × Nat × Nat × Nat)}
    (hM : vx_Met l y ws rm Pc Qc XC mc ms free) (hblind : FrameBlind Pc) (hrc : rm.cells = mc) (hrs : rm.slots = ms)
    (hframes : rm.frames + 1 ≤ R.frames) (hlocals : W9 + (maxL + 11) + rm.locals ≤ R.locals)
    (hws : ∀ w ∈ ws, ∀ a' U, s.WarmedH U.vm → w.before a' U = true) (hcode : Cond.codeWith y bytes maxL ret hh ∈ ws) (hinit : ∀ a' U, s.WarmedH U.vm → (Cond.initialized y.cls).before a' U = true) :
    vx_Back l R p e below s sargs y len W9 (PreOf R mc ms Pc) (PostOf Qc mc ms free) (vx_Post XC mc ms free) := by
  intro m meth c A g ig mk a X hg hsize hdg hW hn hp
  have h1 : (headSpec ws rm).pre.before a A.U = true := atoms_intro fun w hw => hws w hw _ _ X.warmed
  have h2 : (Cond.codeWith y bytes maxL ret hh).before a A.U = true := hws _ hcode _ _ X.warmed
  have h3 : (Cond.initialized y.cls).before a A.U = true := hinit _ _ X.warmed
  have h4 : A.cells + (headSpec ws rm).room.cells ≤ R.cells := by rw [show (headSpec ws rm).room.cells = mc from hrc]; exact hp.1
  have h5 : A.slots + (headSpec ws rm).room.slots ≤ R.slots := by rw [show (headSpec ws rm).room.slots = ms from hrs]; exact hp.2.1
  have hPc : Pc a (A.U.calling g mk a) := hblind _ _ _ _ hp.2.2
  obtain ⟨U, Ls, c0, s0⟩ := A
  dsimp only [Pt.U, Pt.locs, Pt.cells, Pt.slots] at h1 h2 h3 h4 h5 X hn hPc ⊢
  obtain ⟨m9, methY, cY, hn9, hmY, hcY, -, hlY, -⟩ := Cond.codeWith_spec h2
  cases Option.some.inj (hn9.symm.trans hn)
  obtain ⟨kY, hkY, -⟩ := className_of_methodNamed hn
  have hinitY : kY.init = .initialized := Cond.initialized_spec (findClass_of_methodNamed hn) hkY h3
  have h : At U g.method c below := by rw [hg]; exact X.here
  have hlocals9 : W9 + (maxL + 11) + (headSpec ws rm).room.locals ≤ R.locals := hlocals
  have happ : (headSpec ws rm).appliesLoose y e.platform (U.calling g mk a) = true :=
    Spec.appliesLoose_calling (g := g) h hdg hn hkY hinitY
      (X.room_calling (g := g) (R' := (headSpec ws rm).room) hsize hmY hcY hframes (by rw [hlY]; omega) h4 h5) h1
  obtain ⟨mid, hmid⟩ := h.above
  have hfr : (U.setTop g).frames = (.java g :: mid) ++ below := by rw [State.frames_setTop' g h.top, hmid]; rfl
  obtain ⟨o, s₂, hsteps, -, hend, hq⟩ := Steps.callFree hM p X.admits X.cas X.clock (acts := []) hfr happ hPc trivial
  have hq' : vx_Q Qc XC mc ms free a (U.calling g mk a) o s₂ := hq
  rw [State.frames_setTop' g h.top] at hend
  obtain ⟨g₀, hg0⟩ := Option.isSome_iff_exists.mp h.top
  obtain ⟨r, hr⟩ := State.topJava?_eq_some.mp hg0
  have hr' : (({ U with heap := s₂.heap, slotsUsed := s₂.slotsUsed } : State).setVm s₂.vm).frames = .java g₀ :: r := hr
  rcases hq' with ⟨hqc, L, hfe, hL⟩ | ⟨q, rfl, E, ce, L, hx, hce, hcv, hcl, hW₂, hsm, hL⟩
  · obtain ⟨⟨v, rfl⟩, hW₂, e2, q2, q3, q4, q5, q6⟩ := id hfe
    have e3 : s₂ = ({ (U.calling g mk a).setFrames s₂.frames with heap := s₂.heap, slotsUsed := s₂.slotsUsed } : State).setVm s₂.vm := by
      have : s₂ = ({ s₂ with vm := (U.calling g mk a).vm } : State).setVm s₂.vm := rfl
      rw [e2] at this
      exact this
    obtain ⟨c₂, i₂, len₂, hc₂, hd₂, hf₂⟩ := hend
    have hW' : U.WarmedH s₂.vm := hW₂
    have hcc : c₂ = c := by
      have h1 : s₂.code? g.method = U.code? g.method := by
        rw [State.code?_eq, State.code?_eq, hW'.alike.method?]
      exact Option.some.inj (hc₂.symm.trans (h1.trans h.code))
    subst hcc
    have hlen : len₂ = len := by rw [hdg] at hd₂; cases hd₂; rfl
    subst hlen
    have hs₂ : s₂ = (({ U with heap := s₂.heap, slotsUsed := s₂.slotsUsed } : State).setVm s₂.vm).setTop { g with pc := g.pc + len₂, stack := v.toList ++ g.stack } := by
      refine e3.trans ?_
      rw [hf₂, State.calling_eq h.top, State.setFrames_setFrames, State.setTop_of_frames _ hr', hr]
      rfl
    have hsame : U.sameButNew ({ U with heap := s₂.heap, slotsUsed := s₂.slotsUsed } : State) L mc ms := by
      refine ⟨?_, q2, q3, q4, q5, q6⟩
      obtain ⟨t, ht, -⟩ := State.frames_cons hr
      show ({ U with heap := s₂.heap, slotsUsed := s₂.slotsUsed } : State) = { U.setFrames U.frames with heap := s₂.heap, slotsUsed := s₂.slotsUsed }
      rw [State.setFrames_self ht]
    subst hg
    refine Or.inl ⟨v, ⟨(({ U with heap := s₂.heap, slotsUsed := s₂.slotsUsed } : State).setVm s₂.vm), Ls ++ L, c0 + mc, s0 + ms⟩,
      ⟨X.admits, X.cas, X.clock, X.frames, X.room, X.hears, X.method, X.code, (X.here.setHeapUsed s₂.heap s₂.slotsUsed).setVm hW'.alike, X.tail, State.WarmedH.trans X.warmed hW', X.limits, X.bytes, X.same.trans (hsame.setVm s.vm)⟩,
      ⟨g, mk, s₂, L, rfl, rfl, hqc, rfl, hL, rfl, rfl⟩, ?_⟩
    show Steps p.tables e below _ ((({ U with heap := s₂.heap, slotsUsed := s₂.slotsUsed } : State).setVm s₂.vm).setTop { g with pc := g.pc + len₂, stack := v.toList ++ g.stack })
    rw [← hs₂]
    exact hsteps
  · obtain ⟨e2, q2, q3, q4, q5, q6⟩ := id hsm
    have e3 : s₂ = ({ (U.calling g mk a).setFrames s₂.frames with heap := s₂.heap, slotsUsed := s₂.slotsUsed } : State).setVm s₂.vm := by
      have : s₂ = ({ s₂ with vm := (U.calling g mk a).vm } : State).setVm s₂.vm := rfl
      rw [e2] at this
      exact this
    have hf₂ : s₂.frames = .throwing q :: .java g :: U.frames.tail := hend
    have hW' : U.WarmedH s₂.vm := hW₂
    have hs₂ : s₂ = ((({ U with heap := s₂.heap, slotsUsed := s₂.slotsUsed } : State).setVm s₂.vm).setTop g).pushFrame (.throwing q) := by
      refine e3.trans ?_
      rw [hf₂, State.calling_eq h.top, State.setFrames_setFrames, State.pushFrame, State.frames_setTop _ hr', State.setTop_of_frames _ hr', State.setFrames_setFrames, hr]
      rfl
    have hsame : U.sameButNew ({ U with heap := s₂.heap, slotsUsed := s₂.slotsUsed } : State) L mc ms := by
      refine ⟨?_, q2, q3, q4, q5, q6⟩
      obtain ⟨t, ht, -⟩ := State.frames_cons hr
      show ({ U with heap := s₂.heap, slotsUsed := s₂.slotsUsed } : State) = { U.setFrames U.frames with heap := s₂.heap, slotsUsed := s₂.slotsUsed }
      rw [State.setFrames_self ht]
    subst hg
    refine Or.inr ⟨q, ⟨(({ U with heap := s₂.heap, slotsUsed := s₂.slotsUsed } : State).setVm s₂.vm), Ls ++ L, c0 + mc, s0 + ms⟩,
      ⟨X.admits, X.cas, X.clock, X.frames, X.room, X.hears, X.method, X.code, (X.here.setHeapUsed s₂.heap s₂.slotsUsed).setVm hW'.alike, X.tail, State.WarmedH.trans X.warmed hW', X.limits, X.bytes, X.same.trans (hsame.setVm s.vm)⟩,
      ⟨g, mk, s₂, L, E, ce, rfl, rfl, hx, hce, hcv, hcl, rfl, hL, rfl, rfl⟩, ?_⟩
    show Steps p.tables e below _ (((({ U with heap := s₂.heap, slotsUsed := s₂.slotsUsed } : State).setVm s₂.vm).setTop g).pushFrame (.throwing q))
    rw [← hs₂]
    exact hsteps
end
variable {p : Program} {l : Launch} {e : Env} {R : Room} {s : State} {m : MethodId} {args : Array Value} {below : List Frame} {meth : Method} {c : Code} {T : State} {H : Heap} {locs : List Loc} {cells slots : Nat}
theorem vx_callVX (X : Stand p l e R s m args below meth c T locs cells slots) (hexec : p.tables.exec = Jvm.exec) {own C : String} {index : Nat} {y : MethodName} {bytes : ByteArray} {maxL : Nat} {ret : Option FieldType} {hh : List (Nat × Nat × Nat × Nat)}
    (hown : s.vm.findClass own = some m.cls) (hlink : (Cond.methodLink own index y).before args s = true) (hinst : (Cond.instanceMethod y).before args s = true) (hsel : (Cond.selects C y y).before args s = true)
    (hcode : (Cond.codeWith y bytes maxL ret hh).before args s = true) (hy : y.cls ≠ "java/lang/invoke/MethodHandle" ∧ y.cls ≠ "java/lang/invoke/VarHandle")
    {W9 : Nat} {Pre : Pt → Array Value → Prop} {Post : Pt → Array Value → Option Value → Pt → Prop} {PostX : Pt → Array Value → Addr → Pt → Prop} (hK : vx_Back l R p e below s args y 3 W9 Pre Post PostX)
    {b : Addr} {cellB : Cell} (hcell : T.heap[b]? = some cellB) (hobj : cellB.vm.isStatics = false) (hcls : s.vm.findClass C = some cellB.cls)
    {g : JFrame} (hg : g.method = m) (hsize : g.locals.size = c.maxLocals) {argsL rest : List Value} (hlen : ∀ sig, parseMethodDescriptor y.desc = some sig → argsL.length = sig.parameters.length)
    (hstack : g.stack = argsL.reverse ++ .ref b :: rest) (hW : 2 * g.monitorRoom + (rest.map fun v => v.category).sum ≤ W9) (hdg : decode c.code g.pc = .ok (.invokevirtual index, 3))
    (hpre : ∀ vm₁, s.WarmedH vm₁ → Pre ⟨T.setVm vm₁, locs, cells, slots⟩ (Value.ref b :: argsL).toArray) :
    (∃ (v : Option Value) (vm₁ : Vm) (B : Pt), s.WarmedH vm₁ ∧ Stand p l e R s m args below meth c B.U B.locs B.cells B.slots ∧ Post ⟨T.setVm vm₁, locs, cells, slots⟩ (Value.ref b :: argsL).toArray v B ∧
      ∀ target, Steps p.tables e below (B.U.setTop { g with pc := g.pc + 3, stack := v.toList ++ rest }) target → Steps p.tables e below (T.setTop g) target) ∨
    (∃ (q : Addr) (vm₁ : Vm) (B : Pt), s.WarmedH vm₁ ∧ Stand p l e R s m args below meth c B.U B.locs B.cells B.slots ∧ PostX ⟨T.setVm vm₁, locs, cells, slots⟩ (Value.ref b :: argsL).toArray q B ∧
      Steps p.tables e below (T.setTop g) ((B.U.setTop { g with stack := rest }).pushFrame (.throwing q))) := by
  obtain ⟨mk, methM, hnamed, hmethM, hstM, habM⟩ := Cond.instanceMethod_spec hinst
  obtain ⟨m8, methM', cM, hn8, hmethM', -, -, -, -, -, -, hsigM⟩ := Cond.codeWith_spec hcode
  cases Option.some.inj (hn8.symm.trans hnamed)
  cases hmethM.symm.trans hmethM'
  obtain ⟨c2, r2, m2, q1, q2, q3, q4, kP, hkP, hkPi⟩ := Cond.selects_spec hsel
  cases hcls.symm.trans q1
  cases (State.methodFound?_of_named hnamed hy).symm.trans q2
  cases hnamed.symm.trans q3
  have hselP : selectMethod e.platform s.vm cellB.cls mk = .method mk := by rw [Launch.admits_selectMethod X.admits]; exact q4
  obtain ⟨vm₁, X₁, hstep₁⟩ := X.invokevirtual hexec hown hlink hnamed hmethM hstM hkP hkPi hy (a := b) (cell := cellB) hcell
    (fun z h => by rw [h] at hobj; cases hobj) hselP hmethM habM hkP hkPi (g := g) hg (argsL := argsL) (rest := rest) (hlen _ hsigM) hstack hdg
  rcases hK m meth c ⟨T.setVm vm₁, locs, cells, slots⟩ { g with stack := rest } (.invokevirtual index) mk (Value.ref b :: argsL).toArray X₁ hg hsize hdg hW (X₁.named hnamed) (hpre vm₁ X₁.warmed) with ⟨v, B, X', hpost, hsteps⟩ | ⟨q, B, X', hpost, hsteps⟩
  · exact Or.inl ⟨v, vm₁, B, X₁.warmed, X', hpost, fun target h => hstep₁ _ fun acts => by rw [doInvoke_state]; exact hsteps.trans h⟩
  · exact Or.inr ⟨q, vm₁, B, X₁.warmed, X', hpost, hstep₁ _ fun acts => by rw [doInvoke_state]; exact hsteps⟩
theorem vx_callSX (X : Stand p l e R s m args below meth c T locs cells slots) (hexec : p.tables.exec = Jvm.exec) {own : String} {index : Nat} {y : MethodName} {bytes : ByteArray} {maxL : Nat} {ret : Option FieldType} {hh : List (Nat × Nat × Nat × Nat)}
    (hown : s.vm.findClass own = some m.cls) (hlink : (Cond.methodLink own index y).before args s = true) (hstat : (Cond.static y).before args s = true) (hinit : (Cond.initialized y.cls).before args s = true)
    (hcode : (Cond.codeWith y bytes maxL ret hh).before args s = true) (hy : y.cls ≠ "java/lang/invoke/MethodHandle" ∧ y.cls ≠ "java/lang/invoke/VarHandle")
    {W9 : Nat} {Pre : Pt → Array Value → Prop} {Post : Pt → Array Value → Option Value → Pt → Prop} {PostX : Pt → Array Value → Addr → Pt → Prop} (hK : vx_Back l R p e below s args y 3 W9 Pre Post PostX)
    {g : JFrame} (hg : g.method = m) (hsize : g.locals.size = c.maxLocals) {argsL rest : List Value} (hlen : ∀ sig, parseMethodDescriptor y.desc = some sig → argsL.length = sig.parameters.length)
    (hstack : g.stack = argsL.reverse ++ rest) (hW : 2 * g.monitorRoom + (rest.map fun v => v.category).sum ≤ W9) (hdg : decode c.code g.pc = .ok (.invokestatic index, 3))
    (hpre : ∀ vm₁, s.WarmedH vm₁ → Pre ⟨T.setVm vm₁, locs, cells, slots⟩ argsL.toArray) :
    (∃ (v : Option Value) (vm₁ : Vm) (B : Pt), s.WarmedH vm₁ ∧ Stand p l e R s m args below meth c B.U B.locs B.cells B.slots ∧ Post ⟨T.setVm vm₁, locs, cells, slots⟩ argsL.toArray v B ∧
      ∀ target, Steps p.tables e below (B.U.setTop { g with pc := g.pc + 3, stack := v.toList ++ rest }) target → Steps p.tables e below (T.setTop g) target) ∨
    (∃ (q : Addr) (vm₁ : Vm) (B : Pt), s.WarmedH vm₁ ∧ Stand p l e R s m args below meth c B.U B.locs B.cells B.slots ∧ PostX ⟨T.setVm vm₁, locs, cells, slots⟩ argsL.toArray q B ∧
      Steps p.tables e below (T.setTop g) ((B.U.setTop { g with stack := rest }).pushFrame (.throwing q))) := by
  obtain ⟨mk, methM, cM, hnamed, hmethM, -, -, -, -, -, -, hsigM⟩ := Cond.codeWith_spec hcode
  have hstatic : methM.isStatic = true := Cond.static_spec hnamed hmethM hstat
  obtain ⟨kP, hkP, -⟩ := className_of_methodNamed hnamed
  have hinitP : kP.init = .initialized := Cond.initialized_spec (findClass_of_methodNamed hnamed) hkP hinit
  obtain ⟨vm₁, X₁, hstep₁⟩ := X.invokestatic hexec hown hlink hnamed hmethM hstatic hkP hinitP hy (g := g) hg (argsL := argsL) (rest := rest) (hlen _ hsigM) hstack hdg
  rcases hK m meth c ⟨T.setVm vm₁, locs, cells, slots⟩ { g with stack := rest } (.invokestatic index) mk argsL.toArray X₁ hg hsize hdg hW (X₁.named hnamed) (hpre vm₁ X₁.warmed) with ⟨v, B, X', hpost, hsteps⟩ | ⟨q, B, X', hpost, hsteps⟩
  · exact Or.inl ⟨v, vm₁, B, X₁.warmed, X', hpost, fun target h => hstep₁ _ fun acts => by rw [doInvoke_state]; exact hsteps.trans h⟩
  · exact Or.inr ⟨q, vm₁, B, X₁.warmed, X', hpost, hstep₁ _ fun acts => by rw [doInvoke_state]; exact hsteps⟩
theorem vx_callVW (X : Stand p l e R s m args below meth c T locs cells slots) (hexec : p.tables.exec = Jvm.exec) {own C : String} {index : Nat} {y : MethodName} {bytes : ByteArray} {maxL : Nat} {ret : Option FieldType} {hh : List (Nat × Nat × Nat × Nat)}
    (hown : s.vm.findClass own = some m.cls) (hlink : (Cond.methodLink own index y).before args s = true) (hinst : (Cond.instanceMethod y).before args s = true) (hsel : (Cond.selects C y y).before args s = true)
    (hcode : (Cond.codeWith y bytes maxL ret hh).before args s = true) (hy : y.cls ≠ "java/lang/invoke/MethodHandle" ∧ y.cls ≠ "java/lang/invoke/VarHandle")
    {W9 : Nat} {Pre : Pt → Array Value → Prop} {Post : Pt → Array Value → Option Value → Pt → Prop} (hK : Back l R p e below s args y 3 W9 Pre Post)
    {b : Addr} {cellB : Cell} (hcell : T.heap[b]? = some cellB) (hobj : cellB.vm.isStatics = false) (hcls : s.vm.findClass C = some cellB.cls)
    {g : JFrame} (hg : g.method = m) (hsize : g.locals.size = c.maxLocals) {argsL rest : List Value} (hlen : ∀ sig, parseMethodDescriptor y.desc = some sig → argsL.length = sig.parameters.length)
    (hstack : g.stack = argsL.reverse ++ .ref b :: rest) (hW : 2 * g.monitorRoom + (rest.map fun v => v.category).sum ≤ W9) (hdg : decode c.code g.pc = .ok (.invokevirtual index, 3))
    (hpre : ∀ vm₁, s.WarmedH vm₁ → Pre ⟨T.setVm vm₁, locs, cells, slots⟩ (Value.ref b :: argsL).toArray) :
    ∃ (v : Option Value) (vm₁ : Vm) (B : Pt), s.WarmedH vm₁ ∧ Stand p l e R s m args below meth c B.U B.locs B.cells B.slots ∧ Post ⟨T.setVm vm₁, locs, cells, slots⟩ (Value.ref b :: argsL).toArray v B ∧
      ∀ target, Steps p.tables e below (B.U.setTop { g with pc := g.pc + 3, stack := v.toList ++ rest }) target → Steps p.tables e below (T.setTop g) target := by
  obtain ⟨mk, methM, hnamed, hmethM, hstM, habM⟩ := Cond.instanceMethod_spec hinst
  obtain ⟨m8, methM', cM, hn8, hmethM', -, -, -, -, -, -, hsigM⟩ := Cond.codeWith_spec hcode
  cases Option.some.inj (hn8.symm.trans hnamed)
  cases hmethM.symm.trans hmethM'
  obtain ⟨c2, r2, m2, q1, q2, q3, q4, kP, hkP, hkPi⟩ := Cond.selects_spec hsel
  cases hcls.symm.trans q1
  cases (State.methodFound?_of_named hnamed hy).symm.trans q2
  cases hnamed.symm.trans q3
  have hselP : selectMethod e.platform s.vm cellB.cls mk = .method mk := by rw [Launch.admits_selectMethod X.admits]; exact q4
  obtain ⟨vm₁, X₁, hstep₁⟩ := X.invokevirtual hexec hown hlink hnamed hmethM hstM hkP hkPi hy (a := b) (cell := cellB) hcell
    (fun z h => by rw [h] at hobj; cases hobj) hselP hmethM habM hkP hkPi (g := g) hg (argsL := argsL) (rest := rest) (hlen _ hsigM) hstack hdg
  obtain ⟨v, B, X', hpost, hsteps⟩ := hK m meth c ⟨T.setVm vm₁, locs, cells, slots⟩ { g with stack := rest } (.invokevirtual index) mk (Value.ref b :: argsL).toArray X₁ hg hsize hdg hW (X₁.named hnamed) (hpre vm₁ X₁.warmed)
  exact ⟨v, vm₁, B, X₁.warmed, X', hpost, fun target h => hstep₁ _ fun acts => by rw [doInvoke_state]; exact hsteps.trans h⟩
abbrev vx_CVW (R : Room) (s : State) (args : Array Value) (own C : String) (index : Nat) (y : MethodName) (bytes : ByteArray) (maxL : Nat) (ret : Option FieldType) (hh : List (Nat × Nat × Nat × Nat)) (ws : List Cond) (rm : Room) (mc ms n : Nat) : Prop :=
  (rm.cells = mc ∧ rm.slots = ms ∧ rm.frames + 1 ≤ R.frames ∧ 8 + (maxL + 11) + rm.locals ≤ R.locals ∧ (∀ w ∈ ws, ∀ (a' : Array Value) (U : State), s.WarmedH U.vm → w.before a' U = true) ∧ Cond.codeWith y bytes maxL ret hh ∈ ws) ∧
  (Cond.codeWith y bytes maxL ret hh).before args s = true ∧ (Cond.initialized y.cls).before args s = true ∧ (y.cls ≠ "java/lang/invoke/MethodHandle" ∧ y.cls ≠ "java/lang/invoke/VarHandle") ∧
  (∀ sig, parseMethodDescriptor y.desc = some sig → n = sig.parameters.length) ∧ (Cond.methodLink own index y).before args s = true ∧ (Cond.instanceMethod y).before args s = true ∧ (Cond.selects C y y).before args s = true
theorem vx_cwVW {own C : String} {index maxL mc ms : Nat} {y : MethodName} {bytes : ByteArray} {ret : Option FieldType} {hh : List (Nat × Nat × Nat × Nat)} {Ts ws ws' : List Cond} {rm : Room} (n : Nat) (ht : ∀ w ∈ Ts, w.before args s = true) (hT : GoodIn Ts (wsV own index C y ws)) (hw : ws = Cond.codeWith y bytes maxL ret hh :: ws') (hrc : rm.cells = mc) (hrs : rm.slots = ms)
    (hd : y.cls = C ∧ y.cls ≠ "java/lang/invoke/MethodHandle" ∧ y.cls ≠ "java/lang/invoke/VarHandle" ∧ (parseMethodDescriptor y.desc).map (fun d => d.parameters.length) = some n) (hR : rm.frames + 1 ≤ R.frames ∧ 8 + (maxL + 11) + rm.locals ≤ R.locals) :
    vx_CVW R s args own C index y bytes maxL ret hh ws rm mc ms n := by
  obtain ⟨hC, hd⟩ := hd
  subst hC
  have ok : ∀ w ∈ wsV own index y.cls y ws, w.before args s = true := fun w h => ht w (hT w h).1
  have hG : GoodIn Ts ws := fun w h => hT w (by unfold wsV; exact List.mem_append_right _ h)
  have hc : Cond.codeWith y bytes maxL ret hh ∈ ws := by rw [hw]; exact List.mem_cons_self
  refine ⟨⟨hrc, hrs, hR.1, hR.2, pay_in ht hG, hc⟩, ht _ (hG _ hc).1, ok _ (by simp [wsV]), ⟨hd.1, hd.2.1⟩, fun sig h => ?_, ok _ (by simp [wsV]), ok _ (by simp [wsV]), ok _ (by simp [wsV])⟩
  have h2 := hd.2.2
  rw [h] at h2
  exact (Option.some.inj h2).symm
theorem vx_runVW {y : MethodName} {bytes cc : ByteArray} {maxL nL mc ms n index : Nat} {ret : Option FieldType} {hh : List (Nat × Nat × Nat × Nat)} {ws : List Cond} {rm : Room} {Pc : Array Value → State → Prop} {Qc : Array Value → State → Outcome → State → Prop} {free : Addr → Prop} {Ts : List Cond} {own C : String} {b : Addr} {As rest : List Value} {g : JFrame}
    (S : CallFix p m c cc nL s args Ts own) (hM : Met l y ws rm Pc Qc mc ms free) (cw : vx_CVW R s args own C index y bytes maxL ret hh ws rm mc ms n) (hp : PreV s H C b Pc As)
    (hg : g.method = m) (hn : As.length = n) (hsize : g.locals.size = nL) (hstack : g.stack = As.reverse ++ .ref b :: rest) (hW : 2 * g.monitorRoom + (rest.map fun v => v.category).sum ≤ 8) (hdg : decode cc g.pc = .ok (.invokevirtual index, 3)) (hf : cells + mc ≤ R.cells ∧ slots + ms ≤ R.slots) :
    va_Run p l e R s m args below meth c H locs cells slots mc ms g rest (Qc (Value.ref b :: As).toArray) free := by
  obtain ⟨⟨hrc, hrs, hfr, hlo, hws, hcw⟩, hcode, hini, hy, hlen, hl, hin, hse⟩ := cw
  have hK : Back l R p e below s args y 3 8 (PreOf R mc ms Pc) (PostOf Qc mc ms free) := va_backW (hh := hh) (bytes := bytes) (maxL := maxL) (ret := ret) hM hp.1 hrc hrs hfr hlo hws hcw (fun a' U hW => word_at hW (Or.inl (by first | rfl | simp [Cond.onTables, Cond.keeps, Cond.steady])) hini)
  obtain ⟨hx, hb, hml, ho, -⟩ := S
  obtain ⟨-, ⟨cellB, hcB, hoB, hclB⟩, hPc⟩ := hp
  intro T hT X
  obtain ⟨v, vm₁, ⟨U', l2, c2, s2⟩, hW₁, X', ⟨g', mk, t, L, e1, e2, hq, h1, hL, h2, h3⟩, st⟩ := vx_callVW X hx (C := C) (hh := hh) (bytes := bytes) (maxL := maxL) (ret := ret) ho hl hin hse hcode hy hK (by rw [hT]; exact hcB) hoB hclB hg (hsize.trans hml.symm) (argsL := As) (rest := rest) (fun sig h => hn.trans (hlen sig h)) hstack hW (by rw [hb]; exact hdg)
    (fun vm₁ hW₁ => ⟨hf.1, hf.2, hPc (T.setVm vm₁) hT hW₁⟩)
  dsimp only [Pt.U, Pt.locs, Pt.cells, Pt.slots] at X' e1 e2 h1 h2 h3 st
  subst h1; subst h2; subst h3
  exact ⟨v, (T.setVm vm₁).calling g' mk (Value.ref b :: As).toArray, t, U', L, hT, X', hL, e1, e2, hq, st⟩
section
variable {y : MethodName} {bytes cc : ByteArray} {maxL nL mc ms n index : Nat} {ret : Option FieldType} {ws : List Cond} {rm : Room} {Pc : Array Value → State → Prop} {Qc : Array Value → State → Outcome → State → Prop} {XC : String → State → State → Prop} {free : Addr → Prop} {Ts : List Cond} {own C : String} {b : Addr} {As rest : List Value} {g : JFrame}
theorem vx_runVX {hh : List (Nat × Nat × Nat × Nat)} (S : CallFix p m c cc nL s args Ts own) (hM : vx_Met l y ws rm Pc Qc XC mc ms free) (cw : vx_CVW R s args own C index y bytes maxL ret hh ws rm mc ms n) (hp : PreV s H C b Pc As)
    (hg : g.method = m) (hn : As.length = n) (hsize : g.locals.size = nL) (hstack : g.stack = As.reverse ++ .ref b :: rest) (hW : 2 * g.monitorRoom + (rest.map fun v => v.category).sum ≤ 8) (hdg : decode cc g.pc = .ok (.invokevirtual index, 3)) (hf : cells + mc ≤ R.cells ∧ slots + ms ≤ R.slots) :
    vx_Run p l e R s m args below meth c H locs cells slots mc ms g rest (Qc (Value.ref b :: As).toArray) XC free := by
  obtain ⟨⟨hrc, hrs, hfr, hlo, hws, hcw⟩, hcode, hini, hy, hlen, hl, hin, hse⟩ := cw
  have hK : vx_Back l R p e below s args y 3 8 (PreOf R mc ms Pc) (PostOf Qc mc ms free) (vx_Post XC mc ms free) := vx_backW (hh := hh) (bytes := bytes) (maxL := maxL) (ret := ret) hM hp.1 hrc hrs hfr hlo hws hcw (fun a' U hW => word_at hW (Or.inl (by first | rfl | simp [Cond.onTables, Cond.keeps, Cond.steady])) hini)
  obtain ⟨hx, hb, hml, ho, -⟩ := S
  obtain ⟨-, ⟨cellB, hcB, hoB, hclB⟩, hPc⟩ := hp
  intro T hT X
  rcases vx_callVX X hx (C := C) (hh := hh) (bytes := bytes) (maxL := maxL) (ret := ret) ho hl hin hse hcode hy hK (by rw [hT]; exact hcB) hoB hclB hg (hsize.trans hml.symm) (argsL := As) (rest := rest) (fun sig h => hn.trans (hlen sig h)) hstack hW (by rw [hb]; exact hdg)
    (fun vm₁ hW₁ => ⟨hf.1, hf.2, hPc (T.setVm vm₁) hT hW₁⟩) with ⟨v, vm₁, ⟨U', l2, c2, s2⟩, hW₁, X', ⟨g', mk, t, L, e1, e2, hq, h1, hL, h2, h3⟩, st⟩ | ⟨q, vm₁, ⟨U', l2, c2, s2⟩, hW₁, X', ⟨g', mk, t, L, E, ce, e1, e2, hq, hce, hcv, hcl, h1, hL, h2, h3⟩, st⟩
  · dsimp only [Pt.U, Pt.locs, Pt.cells, Pt.slots] at X' e1 e2 h1 h2 h3 st
    subst h1; subst h2; subst h3
    exact Or.inl ⟨v, (T.setVm vm₁).calling g' mk (Value.ref b :: As).toArray, t, U', L, hT, X', hL, e1, e2, hq, st⟩
  · dsimp only [Pt.U, Pt.locs, Pt.cells, Pt.slots] at X' e1 e2 h1 h2 h3 st hcl
    subst h1; subst h2; subst h3
    exact Or.inr ⟨q, (T.setVm vm₁).calling g' mk (Value.ref b :: As).toArray, t, U', L, E, ce, hT, X', hL, e1, e2, hq, hce, hcv, vx_cls hW₁ hcl, st⟩
theorem vx_runSX {hh : List (Nat × Nat × Nat × Nat)} (S : CallFix p m c cc nL s args Ts own) (hM : vx_Met l y ws rm Pc Qc XC mc ms free) (cw : vx_CSW R s args own index y bytes maxL ret hh ws rm mc ms n) (hp : PreS s H Pc As)
    (hg : g.method = m) (hn : As.length = n) (hsize : g.locals.size = nL) (hstack : g.stack = As.reverse ++ rest) (hW : 2 * g.monitorRoom + (rest.map fun v => v.category).sum ≤ 8) (hdg : decode cc g.pc = .ok (.invokestatic index, 3)) (hf : cells + mc ≤ R.cells ∧ slots + ms ≤ R.slots) :
    vx_Run p l e R s m args below meth c H locs cells slots mc ms g rest (Qc As.toArray) XC free := by
  obtain ⟨⟨hrc, hrs, hfr, hlo, hws, hcw⟩, hcode, hini, hy, hlen, hl, hstt⟩ := cw
  have hK : vx_Back l R p e below s args y 3 8 (PreOf R mc ms Pc) (PostOf Qc mc ms free) (vx_Post XC mc ms free) := vx_backW (hh := hh) (bytes := bytes) (maxL := maxL) (ret := ret) hM hp.1 hrc hrs hfr hlo hws hcw (fun a' U hW => word_at hW (Or.inl (by first | rfl | simp [Cond.onTables, Cond.keeps, Cond.steady])) hini)
  obtain ⟨hx, hb, hml, ho, -⟩ := S
  intro T hT X
  rcases vx_callSX X hx (hh := hh) (bytes := bytes) (maxL := maxL) (ret := ret) ho hl hstt hini hcode hy hK hg (hsize.trans hml.symm) (argsL := As) (rest := rest) (fun sig h => hn.trans (hlen sig h)) hstack hW (by rw [hb]; exact hdg)
    (fun vm₁ hW₁ => ⟨hf.1, hf.2, hp.2 (T.setVm vm₁) hT hW₁⟩) with ⟨v, vm₁, ⟨U', l2, c2, s2⟩, hW₁, X', ⟨g', mk, t, L, e1, e2, hq, h1, hL, h2, h3⟩, st⟩ | ⟨q, vm₁, ⟨U', l2, c2, s2⟩, hW₁, X', ⟨g', mk, t, L, E, ce, e1, e2, hq, hce, hcv, hcl, h1, hL, h2, h3⟩, st⟩
  · dsimp only [Pt.U, Pt.locs, Pt.cells, Pt.slots] at X' e1 e2 h1 h2 h3 st
    subst h1; subst h2; subst h3
    exact Or.inl ⟨v, (T.setVm vm₁).calling g' mk As.toArray, t, U', L, hT, X', hL, e1, e2, hq, st⟩
  · dsimp only [Pt.U, Pt.locs, Pt.cells, Pt.slots] at X' e1 e2 h1 h2 h3 st hcl
    subst h1; subst h2; subst h3
    exact Or.inr ⟨q, (T.setVm vm₁).calling g' mk As.toArray, t, U', L, E, ce, hT, X', hL, e1, e2, hq, hce, hcv, vx_cls hW₁ hcl, st⟩
end
end VXH
theorem vx_ofWH {l : Launch} {y : MethodName} {ws ws' : List Cond} {rm : Room} {Pc : Array Value → State → Prop} {Qc : Array Value → State → Outcome → State → Prop} {XC : String → State → State → Prop} {mc ms : Nat} {free : Addr → Prop} {cc : ByteArray} {maxL : Nat} {ret : Option FieldType} {hh : List (Nat × Nat × Nat × Nat)}
    (hy : plainName y.cls = true) (hw : ws = Cond.codeWith y cc maxL ret hh :: ws')
    (body : ∀ p e s m args below meth c s₁, BodyLoose p l y (headSpec ws rm) cc maxL ret e s m args below meth c s₁ → c.maxLocals = maxL → Pc args s →
      W p l e (headSpec ws rm).room s m args below meth c s.heap [] 0 0 (vx_MQ below Qc XC args s mc ms free) (entryFrame m args maxL)) : vx_Met l y ws rm Pc Qc XC mc ms free := by
  refine MetFree.of_bodyS (code := cc) (maxLocals := maxL) (ret := ret) hy ?_ ?_
  · intro args s m h hn
    obtain ⟨m9, meth, c, hn9, h1, h2, h3, h4, -, h5, h6, -⟩ := Cond.codeWith_spec (atoms_spec (ws := ws) h _ (by rw [hw]; exact List.mem_cons_self))
    cases hn.symm.trans hn9
    exact ⟨meth, c, h1, h2, h3, h4, h5, h6⟩
  · intro p e s m args below meth c s₁ B hml hP _
    have hh0 : s₁.heap = s.heap := by rw [B.state]; rfl
    obtain ⟨t, a1, o, b1, b2, b3⟩ := body p e s m args below meth c s₁ B hml hP s₁ hh0 (Stand.of_body B)
    exact ⟨t, o, a1, b1, b2, b3⟩
/-! ===== END ===== -/

/-! ===== BEGIN what the machine throws by itself, no traces kept ===== -/
section VXM
set_option maxHeartbeats 1000000 in
/-- the machine throws cls with the message text, no traces kept: from its note over the frame g to 'throwing' over the same frame (follows the proofs of Stand.vmThrowsMessage, Shelf/KitTracedVmS.lean, and Stand.throwsMessageColdBareV, StandMessageColdV.lean, without the step out of the frame) -/
theorem vx_vmAt {p : Program} {l : Launch} {e : Env} {R : Room} {s : State} {m₀ : MethodId} {args : Array Value} {below : List Frame} {meth : Method} {c : Code} {W : State} {locs : List Loc} {cells slots : Nat}
    (X : Stand p l e R s m₀ args below meth c W locs cells slots) (hexec : p.tables.exec = Jvm.exec) (htr : e.platform.stackTraces = false) {cls : String} {names : List String} {text : String}
    (hcls : Bundle.fit cls = true) (hnames : ∀ n ∈ names, Bundle.fit n = true) (hsoe : (cls == "java/lang/StackOverflowError") = false) (hoom : (cls == "java/lang/OutOfMemoryError") = false)
    (h : ∀ a ∈ Bundle.messageArmAtoms cls names, a.before args s = true)
    (hlocs : ∀ x ∈ locs, ∀ cell, s.heap[x.base]? = some cell → cell.vm.isStatics = false)
    (htext : (text == notModelled) = false) (hlimit : ¬ (stringBytes (stringToUtf16 text)).size > e.platform.arrayLengthLimit) (hheap : ¬ (stringBytes (stringToUtf16 text)).size * componentBytes .byte > e.platform.maxHeapBytes)
    {g : JFrame} (hg : g.method = m₀) (hsize : g.locals.size = c.maxLocals)
    (hRframes : names.length + 4 < R.frames) (hRlocals : 2 * g.monitorRoom + (g.stack.map fun v => v.category).sum + 10240 ≤ R.locals) (hshort : 13 * names.length + 55 ≤ 10240)
    (hRcells : cells + 3 ≤ R.cells) (hRslots : slots + ((stringBytes (stringToUtf16 text)).size + 4 + 6) ≤ R.slots) (hlocks : meth.locks = false) :
    ∃ (S : State) (q : Addr) (ce : Cell), (∀ target, Steps p.tables e below ((S.setTop g).pushFrame (.throwing q)) target → Steps p.tables e below ((W.setTop g).pushFrame (.throwNew cls (some text) none)) target) ∧
      Stand p l e R s m₀ args below meth c S locs (cells + 3) (slots + ((stringBytes (stringToUtf16 text)).size + 4 + 6)) ∧ S.heap[q]? = some ce ∧ s.vm.findClass cls = some ce.cls ∧ ce.vm = .none := by
  have howns : e.platform.frameOwnsMonitors = true := by rw [X.admits.platform]
  have hfin : e.platform.finalization = false := by rw [X.admits.platform]
  have hpl : e.platform.magicAccessors = ({} : Platform).magicAccessors := by rw [X.admits.platform]
  have a : ∀ x, x ∈ Bundle.messageArmAtoms cls names → x.holds args s none s [] = true := fun x hx => h x hx
  obtain ⟨T, Z0, L, -, Y⟩ := ThrowableC.of_atoms (args := args) howns hfin hpl (fun x hx => h x (by simp [Bundle.messageArmAtoms, hx]))
  obtain ⟨Z, M, LZ, LM, hnZ⟩ := Init0T.ofS_atoms (args := args) hpl L Y (fun x hx => h x (by simp [Bundle.messageArmAtoms, hx]))
  obtain ⟨P1, Ps, hlen, L1, hL, hP1m, hlink1, hlink⟩ := Bundle.chainS (args := args) hpl hnZ names cls hcls hnames (fun x hx => h x (by simp [Bundle.messageArmAtoms, hx]))
  obtain ⟨Zs, LZs, hn4, hfitv, hfitc⟩ := StringT.of_atoms (args := args) (fun x hx => h x (by simp [Bundle.messageArmAtoms, hx]))
  have hfound : s.vm.findClass cls = some P1.m.cls := findClass_of_methodNamed hP1m
  obtain ⟨c1, kX, hc1, hk, hord, -, -, hn6⟩ := Cond.instantiable_spec (a (.instantiable cls 6) (by simp [Bundle.messageArmAtoms]))
  cases Option.some.inj (hc1.symm.trans hfound)
  have hinit := Cond.initialized_spec hfound hk (a (.initialized cls) (by simp [Bundle.messageArmAtoms]))
  have hctor : kX.findMethod "<init>" "(Ljava/lang/String;)V" = some P1.m.idx := findMethod_of_methodNamed hP1m hk
  have hsel0 : selectMethod e.platform s.vm P1.m.cls T.fill0 = .method T.fill0 := by
    obtain ⟨c2, r2, m2, q1, q2, q3, q4, -⟩ := Cond.selects_spec (a (.selects cls Bundle.tFill0 Bundle.tFill0) (by simp [Bundle.messageArmAtoms]))
    cases Option.some.inj (q1.symm.trans hfound)
    cases Option.some.inj (q2.symm.trans (State.methodFound?_of_named Y.fill0 (by decide)))
    cases Option.some.inj (q3.symm.trans Y.fill0)
    rw [Launch.admits_selectMethod X.admits]; exact q4
  have hselF : selectMethod e.platform s.vm P1.m.cls T.fill = .method T.fill := by
    obtain ⟨c2, r2, m2, q1, q2, q3, q4, -⟩ := Cond.selects_spec (a (.selects cls Bundle.tFill Bundle.tFill) (by simp [Bundle.messageArmAtoms]))
    cases Option.some.inj (q1.symm.trans hfound)
    cases Option.some.inj (q2.symm.trans (State.methodFound?_of_named Y.fill (by decide)))
    cases Option.some.inj (q3.symm.trans Y.fill)
    rw [Launch.admits_selectMethod X.admits]; exact q4
  obtain ⟨cellS0, hcS0, hiss⟩ := Y.statics
  obtain ⟨u0, hu0⟩ := Cond.staticRefV Y.unassigned L.unassignedStatic L.statics hcS0 hiss (a (.isRef (.static Bundle.tN "UNASSIGNED_STACK" Bundle.steD)) (by simp [Bundle.messageArmAtoms]))
  obtain ⟨sen, hsen⟩ := Cond.staticRefV Y.sentinel L.sentinelStatic L.statics hcS0 hiss (a (.isRef (.static Bundle.tN "SUPPRESSED_SENTINEL" Bundle.listD)) (by simp [Bundle.messageArmAtoms]))
  obtain ⟨ci198, i198, fB, hk198, hg198, ha198, hsB, -, hnB, htB, hffB⟩ := Cond.ownField (t := .object "java/lang/Object") Y.found L.cls (by decide +kernel) (a (.fieldLink Bundle.tN 198 Bundle.tN "backtrace" "Ljava/lang/Object;") (by simp [Bundle.messageArmAtoms])) (a (.lays Bundle.tN Bundle.tN "backtrace" "Ljava/lang/Object;") (by simp [Bundle.messageArmAtoms])) e.platform hpl
  obtain ⟨cellS, hcS', heS, -, hkeep⟩ := X.same.2.2.2.2.2 T.aS cellS0 hcS0
  have hcellS : W.heap[T.aS]? = some cellS := hcS'
  have hout' : ∀ i, (⟨T.aS, i⟩ : Loc) ∉ locs := fun i hmem => by
    have := hlocs _ hmem cellS0 hcS0
    rw [hiss] at this; cases this
  have hknownS : cellS.vm ≠ .unknown := by
    rw [heS]; intro hu
    rw [show cellS0.vm = .unknown from hu] at hiss
    cases hiss
  have hvU : cellS.slots[T.fUnassigned.slot]? = some u0.v := by rw [hkeep _ (hout' _)]; exact hu0
  have hvSen : cellS.slots[T.fSentinel.slot]? = some sen.v := by rw [hkeep _ (hout' _)]; exact hsen
  obtain ⟨iM, hffM⟩ := Y.msg
  obtain ⟨tyC, dC, hdC, hdnC⟩ := Cond.laysAt hfound hk Y.cause (a (.lays cls Bundle.tN "cause" "Ljava/lang/Throwable;") (by simp [Bundle.messageArmAtoms]))
  obtain ⟨tyS, dS, hdS, hdnS⟩ := Cond.laysAt hfound hk Y.stack (a (.lays cls Bundle.tN "stackTrace" Bundle.steD) (by simp [Bundle.messageArmAtoms]))
  obtain ⟨tyP, dP, hdP, hdnP⟩ := Cond.laysAt hfound hk Y.supp (a (.lays cls Bundle.tN "suppressedExceptions" Bundle.listD) (by simp [Bundle.messageArmAtoms]))
  obtain ⟨tyM, dM, hdM, hdnM⟩ := Cond.laysAt hfound hk hffM (a (.lays cls Bundle.tN "detailMessage" "Ljava/lang/String;") (by simp [Bundle.messageArmAtoms]))
  obtain ⟨tyB, dB, hdB, hdnB⟩ := Cond.laysAt hfound hk hffB (a (.lays cls Bundle.tN "backtrace" "Ljava/lang/Object;") (by simp [Bundle.messageArmAtoms]))
  have bC := Cond.laysApart hdB hdC hdnB hdnC (by rw [hnB, Y.causeName]; decide)
  have bS := Cond.laysApart hdB hdS hdnB hdnS (by rw [hnB, Y.stackName]; decide)
  have bP := Cond.laysApart hdB hdP hdnB hdnP (by rw [hnB, Y.suppName]; decide)
  have hbk : ((preparedCellV T.toThrowableT (freshCell P1.m.cls kX) (W.heap.size + 2) u0 sen).withEntry W.cur).slots[fB.slot]? = some .null := by
    have := fresh_default (c := P1.m.cls) tyB
    rw [htB] at this
    simpa [preparedCellV, Cell.setSlot, Cell.withEntry, Array.getElem?_setIfInBounds, bC, bS, bP, bC.symm, bS.symm, bP.symm, defaultValue] using this
  have tkC := Takes.of_laid (v := .ref (W.heap.size + 2)) hk hord tyC (by rw [Y.causeType]; rfl)
  have tkS := Takes.of_laid (v := u0.v) hk hord tyS (by rw [Y.stackType]; exact fits_refV_array _ u0)
  have tkP := Takes.of_laid (v := sen.v) hk hord tyP (by rw [Y.suppType]; exact fits_refV_object _ sen)
  have tkM := Takes.of_laid (v := .ref (W.heap.size + 1)) hk hord tyM (by rw [Y.msgType]; rfl)
  have hskip : SkipFacts T e.platform s (fun u => u) u0 ((preparedCellV T.toThrowableT (freshCell P1.m.cls kX) (W.heap.size + 2) u0 sen).withEntry W.cur) := ⟨{ ci198 := ci198, i198 := i198, fBack := fB }, ⟨hk198, hg198, ha198, hsB⟩, hbk, fun _ _ => rfl⟩
  have h0 : At W g.method c below := by rw [hg]; exact X.here
  obtain ⟨hbeyond, hfreeW⟩ := X.vmMayThrow hsize (.throwNew cls (some text) none) (fun f hf => by cases hf) rfl hRlocals
  have hfr' : W.frames.length + Ps.length + 4 < (e.platform.stackLimits W.me).1 := by have := X.framesAbove hRframes; omega
  have hwd' : (stackUse (.java g :: W.frames.tail)).2 + 13 * Ps.length + 55 ≤ (e.platform.stackLimits W.me).2 := by have := X.stackAbove hsize (K := 13 * Ps.length + 55) (by omega); omega
  have hslots : W.slotsUsed + (stringBytes (stringToUtf16 text)).size + Zs.kS.instanceTypes.size + kX.instanceTypes.size ≤ e.platform.maxSlots := by
    have := X.slotsAbove hRslots
    rw [hn4, hn6]
    omega
  obtain ⟨vm', hW', st⟩ := Steps.vmThrowsMessageColdByV p (s₀ := s) (S := W) (g := g) h0 hexec T L Z LZ M LM X.warmed (t := W.cur) rfl Zs LZs P1 L1 Ps hL hlink1 hlink hsoe hoom hfound hk hinit hord hctor
    (Launch.admits_hotImplicitExceptions X.admits) hbeyond hfreeW htext hlimit hheap (X.cellsAbove hRcells) hslots (hfitv _) (hfitc _)
    (Nn := fun u => u) heapOnly_id (fun _ _ => rfl) (fun _ => rfl) (fun u x y => setCell_twice _ _ _ _) (fun _ => Nat.le_refl _) (cN := ((preparedCellV T.toThrowableT (freshCell P1.m.cls kX) (W.heap.size + 2) u0 sen).withEntry W.cur))
    hsel0 hcellS hknownS hvU tkS (fun _ hu => hu) (fun _ hu => hu) rfl rfl rfl (by simp [preparedCellV, Cell.setSlot, Cell.withEntry]) hskip (fun _ _ hA hW _ hroom _ hrest => L.nativeOff p htr hA hW hroom hrest) hselF hvSen tkC tkP tkM Y.objLocals rfl hfr' hwd'
  rw [plainBareV_eq T.toThrowableT (W.heap.size + 2) u0 sen (.ref (W.heap.size + 1)) W.cur rfl rfl] at st
  obtain ⟨-, -, w3, w4, -, -, -⟩ := withThrown_facts e.platform W Zs text P1.m.cls kX
  have X3 := ((X.pushed (bytesOf Zs.cB (stringToUtf16 text))).pushed (stringAt Zs.cS Zs.kS Zs.fv Zs.fc (stringToUtf16 text) W.heap.size)).pushed (freshCell P1.m.cls kX)
  rw [← withString_eq] at X3
  have X4 := X3.noted hW'
  have ha : (W.heap.size + 2) < ((withThrown W Zs text P1.m.cls kX).setVm vm').heap.size := by show _ < (withThrown W Zs text P1.m.cls kX).heap.size; rw [w3]; omega
  have hcell : ((withThrown W Zs text P1.m.cls kX).setVm vm').heap[(W.heap.size + 2)]? = some (freshCell P1.m.cls kX) := w4
  have X5 := ((((X4.stored hcell T.fCause.slot (.ref (W.heap.size + 2))).storedAgain ha T.fStack.slot u0.v).storedAgain ha T.fSupp.slot sen.v).storedAgain ha T.fStack.slot u0.v).storedAgain ha T.fMsg.slot (.ref (W.heap.size + 1))
  obtain ⟨g₁, hfrM⟩ := X5.frames_eq
  have hU : ((((withThrown W Zs text P1.m.cls kX).setVm vm').setCell (W.heap.size + 2) (plainBareV T.toThrowableT (freshCell P1.m.cls kX) (W.heap.size + 2) u0 sen (.ref (W.heap.size + 1)))).setTop g).pushFrame (.throwing (W.heap.size + 2)) = (((withThrown W Zs text P1.m.cls kX).setVm vm').setCell (W.heap.size + 2) (plainBareV T.toThrowableT (freshCell P1.m.cls kX) (W.heap.size + 2) u0 sen (.ref (W.heap.size + 1)))).setFrames (.throwing (W.heap.size + 2) :: .java g :: below) := by
    rw [State.pushFrame, State.frames_setTop _ hfrM, State.setTop_of_frames _ hfrM, State.setFrames_setFrames]
  have b1 : (bytesOf Zs.cB (stringToUtf16 text)).slots.size = (stringBytes (stringToUtf16 text)).size := by
    rw [(Cell.writeAll_facts _ _).2.2]; simp [bytes0]
  have b2 : (stringAt Zs.cS Zs.kS Zs.fv Zs.fc (stringToUtf16 text) W.heap.size).slots.size = 4 := by simp [string0, Cell.setSlot, hn4]
  have b3 : (freshCell P1.m.cls kX).slots.size = 6 := by simp [hn6]
  rw [b1, b2, b3] at X5
  have e9 : slots + (stringBytes (stringToUtf16 text)).size + 4 + 6 = slots + ((stringBytes (stringToUtf16 text)).size + 4 + 6) := by omega
  rw [e9] at X5
  simp only [List.append_assoc, List.cons_append, List.nil_append] at X5
  refine ⟨((withThrown W Zs text P1.m.cls kX).setVm vm').setCell (W.heap.size + 2) (plainBareV T.toThrowableT (freshCell P1.m.cls kX) (W.heap.size + 2) u0 sen (.ref (W.heap.size + 1))), W.heap.size + 2, _, fun target ht => st _ (by rw [X.tail, ← hU]; exact ht),
    X5.forget (fun y hy => ?_), heapAt_setCell_self _ ha, hfound, rfl⟩
  simp only [List.mem_cons, List.not_mem_nil, or_false] at hy
  have hge : s.heap.size ≤ W.heap.size := X.same.2.1
  rcases hy with rfl | rfl | rfl | rfl | rfl <;> exact Nat.le_trans hge (Nat.le_add_right _ 2)
set_option maxHeartbeats 1000000 in
/-- the machine throws NullPointerException, no traces kept: from its note over the frame g to 'throwing' over the same frame (follows the proof of Stand.vmThrowsNpe, Shelf42/KT2.lean; throwsNpeColdBareVAt, Shelf42/NT91.lean, called) -/
theorem vx_npeAt {p : Program} {l : Launch} {e : Env} {R : Room} {s : State} {m₀ : MethodId} {args : Array Value} {below : List Frame} {meth : Method} {c : Code} {W : State} {locs : List Loc} {cells slots : Nat}
    (X : Stand p l e R s m₀ args below meth c W locs cells slots) (hexec : p.tables.exec = Jvm.exec) (htr : e.platform.stackTraces = false) {n : Nat}
    (h : ∀ a ∈ Bundle.npeArmAtoms n, a.before args s = true)
    (hlocs : ∀ x ∈ locs, ∀ cell, s.heap[x.base]? = some cell → cell.vm.isStatics = false)
    {g : JFrame} (hg : g.method = m₀) (hsize : g.locals.size = c.maxLocals)
    (hRframes : 7 < R.frames) (hRlocals : 2 * g.monitorRoom + (g.stack.map fun v => v.category).sum + 10240 ≤ R.locals)
    (hRcells : cells + 1 ≤ R.cells) (hRslots : slots + n ≤ R.slots) (hlocks : meth.locks = false) :
    ∃ (S : State) (q : Addr) (ce : Cell), (∀ target, Steps p.tables e below ((S.setTop g).pushFrame (.throwing q)) target → Steps p.tables e below ((W.setTop g).pushFrame (.throwNew "java/lang/NullPointerException" none none)) target) ∧
      Stand p l e R s m₀ args below meth c S locs (cells + 1) (slots + n) ∧ S.heap[q]? = some ce ∧ s.vm.findClass "java/lang/NullPointerException" = some ce.cls ∧ ce.vm = .none := by
  have howns : e.platform.frameOwnsMonitors = true := by rw [X.admits.platform]
  have hfin : e.platform.finalization = false := by rw [X.admits.platform]
  have hpl : e.platform.magicAccessors = ({} : Platform).magicAccessors := by rw [X.admits.platform]
  have hpl2 : e.platform.arrayCloneIsPublic = true := by rw [X.admits.platform]
  have a' : ∀ x, x ∈ Bundle.npeArmAtoms n → x.holds args s none s [] = true := fun x hx => h x hx
  obtain ⟨T, Z, L, LZ, Y⟩ := ThrowableC.of_atoms (args := args) howns hfin hpl (fun x hx => h x (by simp [Bundle.npeArmAtoms, hx]))
  obtain ⟨N, LN, hcN, hnNF, hordN, hffS⟩ := NpeC.of_atoms (args := args) hpl hpl2 L Y (fun x hx => h x (by simp [Bundle.npeArmAtoms, hx]))
  obtain ⟨P1, L1, hP1m, hP1s⟩ := PassC.of_atoms (args := args) (s := s) hpl (X := Bundle.nN) (Y := Bundle.rN) (by decide) (by decide) LibCode.NullPointerException.Init0.at_0 LibCode.NullPointerException.Init0.at_1 LibCode.NullPointerException.Init0.at_4 (fun x hx => h x (by simp [Bundle.npeArmAtoms, hx]))
  obtain ⟨PR, LR, hPRm, hPRs⟩ := PassC.of_atoms (args := args) (s := s) hpl (X := Bundle.rN) (Y := Bundle.eN) (by decide) (by decide) LibCode.RuntimeException.Init0.at_0 LibCode.RuntimeException.Init0.at_1 LibCode.RuntimeException.Init0.at_4 (fun x hx => h x (by simp [Bundle.npeArmAtoms, hx]))
  obtain ⟨PE, LEx, hPEm, hPEs⟩ := PassC.of_atoms (args := args) (s := s) hpl (X := Bundle.eN) (Y := Bundle.tN) (by decide) (by decide) LibCode.Exception.Init0.at_0 LibCode.Exception.Init0.at_1 LibCode.Exception.Init0.at_4 (fun x hx => h x (by simp [Bundle.npeArmAtoms, hx]))
  have hfound : s.vm.findClass Bundle.nN = some P1.m.cls := findClass_of_methodNamed hP1m
  have ecls : N.cN = P1.m.cls := Option.some.inj (hcN.symm.trans hfound)
  have hk : s.vm.classes[P1.m.cls]? = some N.kN := by rw [← ecls]; exact LN.cls
  have hinit := Cond.initialized_spec hfound hk (a' (.initialized Bundle.nN) (by simp [Bundle.npeArmAtoms]))
  have hctor : N.kN.findMethod "<init>" "()V" = some P1.m.idx := findMethod_of_methodNamed hP1m hk
  obtain ⟨c1, k1, hc1, hk1, -, -, -, hn⟩ := Cond.instantiable_spec (a' (.instantiable Bundle.nN n) (by simp [Bundle.npeArmAtoms]))
  cases Option.some.inj (hc1.symm.trans hfound)
  cases Option.some.inj (hk1.symm.trans hk)
  have hfsz : (freshCell P1.m.cls N.kN).slots.size = n := by simp [hn]
  have hlink1 : P1.sup = PR.m := Option.some.inj (hP1s.symm.trans hPRm)
  have hlinkR : PR.sup = PE.m := Option.some.inj (hPRs.symm.trans hPEm)
  have hlinkE : PE.sup = Z.m T.toThrowableT := Option.some.inj (hPEs.symm.trans Y.init0)
  have hLs : ∀ P, P ∈ [PR, PE] → P.Links0 e.platform s := fun P hP => by
    simp only [List.mem_cons, List.not_mem_nil, or_false] at hP
    rcases hP with rfl | rfl
    · exact LR
    · exact LEx
  have hsel0 : selectMethod e.platform s.vm P1.m.cls T.fill0 = .method T.fill0 := by
    obtain ⟨c2, r2, m2, q1, q2, q3, q4, -⟩ := Cond.selects_spec (a' (.selects Bundle.nN Bundle.tFill0 Bundle.tFill0) (by simp [Bundle.npeArmAtoms]))
    cases Option.some.inj (q1.symm.trans hfound)
    cases Option.some.inj (q2.symm.trans (State.methodFound?_of_named Y.fill0 (by decide)))
    cases Option.some.inj (q3.symm.trans Y.fill0)
    rw [Launch.admits_selectMethod X.admits]; exact q4
  have hselF : selectMethod e.platform s.vm P1.m.cls T.fill = .method N.fill := by
    obtain ⟨c2, r2, m2, q1, q2, q3, q4, -⟩ := Cond.selects_spec (a' (.selects Bundle.nN Bundle.tFill Bundle.nFill) (by simp [Bundle.npeArmAtoms]))
    cases Option.some.inj (q1.symm.trans hfound)
    cases Option.some.inj (q2.symm.trans (State.methodFound?_of_named Y.fill (by decide)))
    cases Option.some.inj (q3.symm.trans hnNF)
    rw [Launch.admits_selectMethod X.admits]; exact q4
  obtain ⟨cellS0, hcS0, hiss⟩ := Y.statics
  obtain ⟨u0, hu0⟩ := Cond.staticRefV Y.unassigned L.unassignedStatic L.statics hcS0 hiss (a' (.isRef (.static Bundle.tN "UNASSIGNED_STACK" Bundle.steD)) (by simp [Bundle.npeArmAtoms]))
  obtain ⟨sen, hsen⟩ := Cond.staticRefV Y.sentinel L.sentinelStatic L.statics hcS0 hiss (a' (.isRef (.static Bundle.tN "SUPPRESSED_SENTINEL" Bundle.listD)) (by simp [Bundle.npeArmAtoms]))
  obtain ⟨ci198, i198, fB, hk198, hg198, ha198, hsB, -, hnB, htB, hffB⟩ := Cond.ownField (t := .object "java/lang/Object") Y.found L.cls (by decide +kernel) (a' (.fieldLink Bundle.tN 198 Bundle.tN "backtrace" Bundle.objD) (by simp [Bundle.npeArmAtoms])) (a' (.lays Bundle.tN Bundle.tN "backtrace" Bundle.objD) (by simp [Bundle.npeArmAtoms])) e.platform hpl
  obtain ⟨cellS, hcS', heS, -, hkeep⟩ := X.same.2.2.2.2.2 T.aS cellS0 hcS0
  have hcellS : W.heap[T.aS]? = some cellS := hcS'
  have hout' : ∀ i, (⟨T.aS, i⟩ : Loc) ∉ locs := fun i hmem => by
    have := hlocs _ hmem cellS0 hcS0
    rw [hiss] at this; cases this
  have hknownS : cellS.vm ≠ .unknown := by
    rw [heS]; intro hu
    rw [show cellS0.vm = .unknown from hu] at hiss
    cases hiss
  have hvU : cellS.slots[T.fUnassigned.slot]? = some u0.v := by rw [hkeep _ (hout' _)]; exact hu0
  have hvSen : cellS.slots[T.fSentinel.slot]? = some sen.v := by rw [hkeep _ (hout' _)]; exact hsen
  obtain ⟨tyC, dC, hdC, hdnC⟩ := Cond.laysAt hfound hk Y.cause (a' (.lays Bundle.nN Bundle.tN "cause" "Ljava/lang/Throwable;") (by simp [Bundle.npeArmAtoms]))
  obtain ⟨tyS, dS, hdS, hdnS⟩ := Cond.laysAt hfound hk Y.stack (a' (.lays Bundle.nN Bundle.tN "stackTrace" Bundle.steD) (by simp [Bundle.npeArmAtoms]))
  obtain ⟨tyP, dP, hdP, hdnP⟩ := Cond.laysAt hfound hk Y.supp (a' (.lays Bundle.nN Bundle.tN "suppressedExceptions" Bundle.listD) (by simp [Bundle.npeArmAtoms]))
  obtain ⟨tyX, dX, hdX, hdnX⟩ := Cond.laysAt hfound hk hffS (a' (.lays Bundle.nN Bundle.nN "extendedMessageState" "I") (by simp [Bundle.npeArmAtoms, Bundle.npeAtoms]))
  obtain ⟨hnX, htX⟩ := State.fieldFound?_type hffS (t := .int) (by decide +kernel)
  have xC := Cond.laysApart hdC hdX hdnC hdnX (by rw [hnX, Y.causeName]; decide)
  have xS := Cond.laysApart hdS hdX hdnS hdnX (by rw [hnX, Y.stackName]; decide)
  have xP := Cond.laysApart hdP hdX hdnP hdnX (by rw [hnX, Y.suppName]; decide)
  have hv0 : (freshCell P1.m.cls N.kN).slots[N.fState.slot]? = some (.int 0) := by
    have := fresh_default (c := P1.m.cls) tyX
    rw [htX] at this; exact this
  obtain ⟨tyB, dB, hdB, hdnB⟩ := Cond.laysAt hfound hk hffB (a' (.lays Bundle.nN Bundle.tN "backtrace" Bundle.objD) (by simp [Bundle.npeArmAtoms]))
  have bC := Cond.laysApart hdB hdC hdnB hdnC (by rw [hnB, Y.causeName]; decide)
  have bS := Cond.laysApart hdB hdS hdnB hdnS (by rw [hnB, Y.stackName]; decide)
  have bP := Cond.laysApart hdB hdP hdnB hdnP (by rw [hnB, Y.suppName]; decide)
  have bX := Cond.laysApart hdB hdX hdnB hdnX (by rw [hnB, hnX]; decide)
  have hbk : ((npeCell N.toNpeT (preparedCellV T.toThrowableT (freshCell P1.m.cls N.kN) W.heap.size u0 sen) W.cur).withEntry W.cur).slots[fB.slot]? = some .null := by
    have := fresh_default (c := P1.m.cls) tyB
    rw [htB] at this
    simpa [npeCell, preparedCellV, Cell.setSlot, Cell.withEntry, Array.getElem?_setIfInBounds, bC, bS, bP, bX, bC.symm, bS.symm, bP.symm, bX.symm, defaultValue] using this
  have tkC := Takes.of_laid (v := .ref W.heap.size) hk hordN tyC (by rw [Y.causeType]; rfl)
  have tkS := Takes.of_laid (v := u0.v) hk hordN tyS (by rw [Y.stackType]; exact fits_refV_array _ u0)
  have tkP := Takes.of_laid (v := sen.v) hk hordN tyP (by rw [Y.suppType]; exact fits_refV_object _ sen)
  have tkX := Takes.of_laid (v := .int 1) hk hordN tyX (by rw [htX]; rfl)
  have hskip : SkipFacts T e.platform s (fun u => u) u0 ((npeCell N.toNpeT (preparedCellV T.toThrowableT (freshCell P1.m.cls N.kN) W.heap.size u0 sen) W.cur).withEntry W.cur) := ⟨{ ci198 := ci198, i198 := i198, fBack := fB }, ⟨hk198, hg198, ha198, hsB⟩, hbk, fun _ _ => rfl⟩
  obtain ⟨vm', X3, st, -⟩ := X.throwsNpeColdBareVAt hexec hg hsize T L Z LZ N LN P1 L1 [PR, PE] hLs hlink1 ⟨hlinkR, hlinkE, trivial⟩ hfound hk hinit hordN hctor hsel0 hselF hcellS hknownS hvU hvSen
    hv0 xC xS xP tkC tkS tkP tkX Y.objLocals hskip (fun _ _ hA hW _ hroom _ hrest => L.nativeOff p htr hA hW hroom hrest) (by simpa using hRframes) hRlocals (by simp) hRcells (by rw [hn]; exact hRslots)
  have hlt : W.heap.size < ((W.pushCell (freshCell P1.m.cls N.kN)).setVm vm').heap.size := by
    show W.heap.size < (W.pushCell (freshCell P1.m.cls N.kN)).heap.size
    rw [State.heap_size_pushCell]; omega
  rw [hfsz] at X3
  obtain ⟨g₁, hfrM⟩ := X3.frames_eq
  have hU : ((((W.pushCell (freshCell P1.m.cls N.kN)).setVm vm').setCell W.heap.size (npeBareV T.toThrowableT N.toNpeT (freshCell P1.m.cls N.kN) W.heap.size u0 sen)).setTop g).pushFrame (.throwing W.heap.size) = (((W.pushCell (freshCell P1.m.cls N.kN)).setVm vm').setCell W.heap.size (npeBareV T.toThrowableT N.toNpeT (freshCell P1.m.cls N.kN) W.heap.size u0 sen)).setFrames (.throwing W.heap.size :: .java g :: below) := by
    rw [State.pushFrame, State.frames_setTop _ hfrM, State.setTop_of_frames _ hfrM, State.setFrames_setFrames]
  refine ⟨_, W.heap.size, _, fun target ht => st.trans (by rw [← hU]; exact ht), X3.forget (fun y hy => ?_), heapAt_setCell_self _ hlt, hfound, rfl⟩
  simp only [List.mem_cons, List.not_mem_nil, or_false] at hy
  have hge : s.heap.size ≤ W.heap.size := X.same.2.1
  rcases hy with rfl | rfl | rfl | rfl | rfl <;> exact hge
/-- the words of a machine's NullPointerException, but the four that speak of the heap -/
def vx_atN (n : Nat) : List Cond := (Bundle.npeArmAtoms n).filter vx_no
/-- the words of a machine's throw with a message, but the four that speak of the heap -/
def vx_atM (X : String) (names : List String) : List Cond := (Bundle.messageArmAtoms X names).filter vx_no
section
variable {p : Program} {l : Launch} {e : Env} {R : Room} {s : State} {m : MethodId} {args : Array Value} {below : List Frame} {meth : Method} {c : Code} {H : Heap} {locs : List Loc} {cells slots : Nat}
/-- a frame seen from a rebased start, seen from the first start again -/
theorem vx_back9 {T S : State} {R' : Room} {k n : Nat} (X : Stand p l e R s m args below meth c T locs cells slots) (Y : Stand p l e R' ((T.setVm s.vm).setFrames (.invoking m args :: below)) m args below meth c T [] 0 0) (Z : Stand p l e R' ((T.setVm s.vm).setFrames (.invoking m args :: below)) m args below meth c S [] k n) :
    Stand p l e R s m args below meth c S locs (cells + k) (slots + n) := by
  have hW0 : s.WarmedH ((T.setVm s.vm).setFrames (.invoking m args :: below)).vm := State.WarmedH.refl s
  refine { admits := X.admits, cas := X.cas, clock := X.clock, frames := X.frames, room := X.room, hears := X.hears, method := X.method, code := X.code, here := Z.here, tail := Z.tail, warmed := State.WarmedH.trans hW0 Z.warmed, limits := Z.limits.trans (Y.limits.symm.trans X.limits), bytes := Z.bytes.trans (Y.bytes.symm.trans X.bytes), same := ?_ }
  obtain ⟨e1, e2⟩ := Z.same
  rw [State.setFrames_setFrames] at e1
  have h2 : (T.setVm s.vm).sameButNew (S.setVm s.vm) [] k n := ⟨e1, e2⟩
  have h3 := X.same.trans h2
  rw [List.append_nil] at h3
  exact h3
/-- from the machine's note that E is thrown here with this text -/
def vx_Note (p : Program) (l : Launch) (e : Env) (R : Room) (s : State) (m : MethodId) (args : Array Value) (below : List Frame) (meth : Method) (c : Code) (H : Heap) (locs : List Loc) (cells slots : Nat) (Q : State → Prop) (g : JFrame) (E text : String) : Prop :=
  ∀ T : State, T.heap = H → Stand p l e R s m args below meth c T locs cells slots → ∃ t, Steps p.tables e below ((T.setTop g).pushFrame (.throwNew E (some text) none)) t ∧ Q t
theorem vx_vm {pc : Nat} {ls : Array Slot} {rest : List Value} {Q : State → Prop} (hexec : p.tables.exec = Jvm.exec) (hl : l.stackTraces = false) {cls text : String} {names : List String} {nb : Nat} {A : Nat → Prop}
    (hcls : Bundle.fit cls = true) (hnames : ∀ n ∈ names, Bundle.fit n = true) (hsoe : (cls == "java/lang/StackOverflowError") = false) (hoom : (cls == "java/lang/OutOfMemoryError") = false)
    (hat : ∀ w ∈ vx_atM cls names, w.before args s = true) (hgood : ∀ w ∈ vx_atM cls names, vx_ot w = true)
    (hU : vx_Zq Bundle.tN "UNASSIGNED_STACK" Bundle.steD A s s.heap) (hN : vx_Zq Bundle.tN "SUPPRESSED_SENTINEL" Bundle.listD A s s.heap) (hS : va_S A s.heap H locs) (hsize : ls.size = c.maxLocals)
    (htext : (text == notModelled) = false) (hnb : (stringBytes (stringToUtf16 text)).size ≤ nb) (hnb1 : nb ≤ 1000)
    (hRframes : names.length + 4 < R.frames) (hRlocals : (rest.map fun v => v.category).sum + 10240 ≤ R.locals) (hshort : 13 * names.length + 55 ≤ 10240) (hRcells : cells + 3 ≤ R.cells) (hRslots : slots + (nb + 10) ≤ R.slots) (hlocks : meth.locks = false)
    (k : ∀ (H1 : Heap) (q9 : Addr) (ce : Cell), H.size ≤ H1.size → (∀ q : Nat, q < H.size → H1[q]? = H[q]?) → va_S A s.heap H1 locs → H1[q9]? = some ce → ce.vm = .none → s.vm.findClass cls = some ce.cls → vx_W p l e R s m args below meth c H1 locs (cells + 3) (slots + (nb + 10)) Q (F0 m pc ls rest) q9) :
    vx_Note p l e R s m args below meth c H locs cells slots Q (F0 m pc ls rest) cls text := by
  intro T hT X
  have htr : e.platform.stackTraces = false := (show e.platform.stackTraces = l.stackTraces by rw [X.admits.platform]).trans hl
  have Y := vx_rebase X (R' := { frames := R.frames, locals := R.locals, cells := 3, slots := nb + 10 }) (Nat.le_refl _) (Nat.le_refl _) hRcells hRslots
  have hhp : ((T.setVm s.vm).setFrames (.invoking m args :: below)).heap = H := hT
  have hW0 : s.WarmedH ((T.setVm s.vm).setFrames (.invoking m args :: below)).vm := State.WarmedH.refl s
  have hat' : ∀ w ∈ vx_atM cls names, w.before args ((T.setVm s.vm).setFrames (.invoking m args :: below)) = true := fun w hw => vx_ot_at hW0 rfl (hgood w hw) (hat w hw)
  have hU' : vx_Zq Bundle.tN "UNASSIGNED_STACK" Bundle.steD A ((T.setVm s.vm).setFrames (.invoking m args :: below)) ((T.setVm s.vm).setFrames (.invoking m args :: below)).heap := by rw [hhp]; exact vx_Zq.moved hW0.alike (hU.kept hS.2.1)
  have hN' : vx_Zq Bundle.tN "SUPPRESSED_SENTINEL" Bundle.listD A ((T.setVm s.vm).setFrames (.invoking m args :: below)) ((T.setVm s.vm).setFrames (.invoking m args :: below)).heap := by rw [hhp]; exact vx_Zq.moved hW0.alike (hN.kept hS.2.1)
  obtain ⟨S, q, ce, st, Z, hce, hcl', hv⟩ := vx_vmAt Y hexec htr (cls := cls) (names := names) (text := text) hcls hnames hsoe hoom (vx_own hat' (vx_isRefq hU'.1) (vx_isRefq hN'.1) hU'.2.word hN'.2.word) (fun x hx => nomatch hx) htext
    (by rw [Launch.admits_arrayLengthLimit X.admits]; omega) (by rw [Launch.admits_maxHeapBytes X.admits]; simp only [componentBytes]; omega)
    (g := F0 m pc ls rest) rfl hsize hRframes (by show 2 * 0 + (rest.map fun v => v.category).sum + 10240 ≤ R.locals; omega) hshort (by show 0 + 3 ≤ 3; omega) (by show 0 + (_ + 4 + 6) ≤ nb + 10; omega) hlocks
  obtain ⟨f1, f2⟩ := vx_frame Z.same
  have f1' : H.size ≤ S.heap.size := by rw [← hT]; exact f1
  have f2' : ∀ q : Nat, q < H.size → S.heap[q]? = H[q]? := fun q hq => by
    rw [← hT]
    exact f2 q (by rw [← hT] at hq; exact hq) (fun z hz => nomatch hz)
  have X5 := vx_back9 X Y Z
  have X6 : Stand p l e R s m args below meth c S locs (cells + 3) (slots + (nb + 10)) := { X5 with same := X5.same.mono (by omega) (by omega) }
  obtain ⟨t, a1, b1⟩ := k S.heap q ce f1' f2' ⟨Nat.le_trans hS.1 f1', fun q h1 h2 => (f2' q (Nat.lt_of_lt_of_le h1 hS.1)).trans (hS.2.1 q h1 h2), hS.2.2⟩ hce hv hcl' S rfl X6
  exact ⟨t, st t a1, b1⟩
/-- from the machine's note that NullPointerException is thrown here -/
def vx_NoteN (p : Program) (l : Launch) (e : Env) (R : Room) (s : State) (m : MethodId) (args : Array Value) (below : List Frame) (meth : Method) (c : Code) (H : Heap) (locs : List Loc) (cells slots : Nat) (Q : State → Prop) (g : JFrame) : Prop :=
  ∀ T : State, T.heap = H → Stand p l e R s m args below meth c T locs cells slots → ∃ t, Steps p.tables e below ((T.setTop g).pushFrame (.throwNew "java/lang/NullPointerException" none none)) t ∧ Q t
theorem vx_npe {pc : Nat} {ls : Array Slot} {rest : List Value} {Q : State → Prop} (hexec : p.tables.exec = Jvm.exec) (hl : l.stackTraces = false) {nb : Nat} {A : Nat → Prop}
    (hat : ∀ w ∈ vx_atN nb, w.before args s = true) (hgood : ∀ w ∈ vx_atN nb, vx_ot w = true)
    (hU : vx_Zq Bundle.tN "UNASSIGNED_STACK" Bundle.steD A s s.heap) (hN : vx_Zq Bundle.tN "SUPPRESSED_SENTINEL" Bundle.listD A s s.heap) (hS : va_S A s.heap H locs) (hsize : ls.size = c.maxLocals)
    (hRframes : 7 < R.frames) (hRlocals : (rest.map fun v => v.category).sum + 10240 ≤ R.locals) (hRcells : cells + 1 ≤ R.cells) (hRslots : slots + nb ≤ R.slots) (hlocks : meth.locks = false)
    (k : ∀ (H1 : Heap) (q9 : Addr) (ce : Cell), H.size ≤ H1.size → (∀ q : Nat, q < H.size → H1[q]? = H[q]?) → va_S A s.heap H1 locs → H1[q9]? = some ce → ce.vm = .none → s.vm.findClass "java/lang/NullPointerException" = some ce.cls → vx_W p l e R s m args below meth c H1 locs (cells + 1) (slots + nb) Q (F0 m pc ls rest) q9) :
    vx_NoteN p l e R s m args below meth c H locs cells slots Q (F0 m pc ls rest) := by
  intro T hT X
  have htr : e.platform.stackTraces = false := (show e.platform.stackTraces = l.stackTraces by rw [X.admits.platform]).trans hl
  have Y := vx_rebase X (R' := { frames := R.frames, locals := R.locals, cells := 1, slots := nb }) (Nat.le_refl _) (Nat.le_refl _) hRcells hRslots
  have hhp : ((T.setVm s.vm).setFrames (.invoking m args :: below)).heap = H := hT
  have hW0 : s.WarmedH ((T.setVm s.vm).setFrames (.invoking m args :: below)).vm := State.WarmedH.refl s
  have hat' : ∀ w ∈ vx_atN nb, w.before args ((T.setVm s.vm).setFrames (.invoking m args :: below)) = true := fun w hw => vx_ot_at hW0 rfl (hgood w hw) (hat w hw)
  have hU' : vx_Zq Bundle.tN "UNASSIGNED_STACK" Bundle.steD A ((T.setVm s.vm).setFrames (.invoking m args :: below)) ((T.setVm s.vm).setFrames (.invoking m args :: below)).heap := by rw [hhp]; exact vx_Zq.moved hW0.alike (hU.kept hS.2.1)
  have hN' : vx_Zq Bundle.tN "SUPPRESSED_SENTINEL" Bundle.listD A ((T.setVm s.vm).setFrames (.invoking m args :: below)) ((T.setVm s.vm).setFrames (.invoking m args :: below)).heap := by rw [hhp]; exact vx_Zq.moved hW0.alike (hN.kept hS.2.1)
  obtain ⟨S, q, ce, st, Z, hce, hcl', hv⟩ := vx_npeAt Y hexec htr (n := nb) (vx_own hat' (vx_isRefq hU'.1) (vx_isRefq hN'.1) hU'.2.word hN'.2.word) (fun x hx => nomatch hx)
    (g := F0 m pc ls rest) rfl hsize hRframes (by show 2 * 0 + (rest.map fun v => v.category).sum + 10240 ≤ R.locals; omega) (by show 0 + 1 ≤ 1; omega) (by show 0 + nb ≤ nb; omega) hlocks
  obtain ⟨f1, f2⟩ := vx_frame Z.same
  have f1' : H.size ≤ S.heap.size := by rw [← hT]; exact f1
  have f2' : ∀ q : Nat, q < H.size → S.heap[q]? = H[q]? := fun q hq => by
    rw [← hT]
    exact f2 q (by rw [← hT] at hq; exact hq) (fun z hz => nomatch hz)
  have X5 := vx_back9 X Y Z
  have X6 : Stand p l e R s m args below meth c S locs (cells + 1) (slots + nb) := { X5 with same := X5.same.mono (by omega) (by omega) }
  obtain ⟨t, a1, b1⟩ := k S.heap q ce f1' f2' ⟨Nat.le_trans hS.1 f1', fun q h1 h2 => (f2' q (Nat.lt_of_lt_of_le h1 hS.1)).trans (hS.2.1 q h1 h2), hS.2.2⟩ hce hv hcl' S rfl X6
  exact ⟨t, st t a1, b1⟩
variable {Q : State → Prop} {cc : ByteArray} {pc : Nat} {ls : Array Slot} {rest : List Value}
theorem vx_idivZ (hexec : p.tables.exec = Jvm.exec) (hb : c.code = cc) {a b : Int32} (h0 : b = 0) (d : decode cc pc = .ok (.idiv, 1)) (k : vx_Note p l e R s m args below meth c H locs cells slots Q (F0 m pc ls rest) "java/lang/ArithmeticException" "/ by zero") :
    W p l e R s m args below meth c H locs cells slots Q (F0 m pc ls (.int b :: .int a :: rest)) := by
  intro T hT X
  obtain ⟨t, st, q⟩ := k T hT X
  exact ⟨t, X.idivZero hexec (g := F0 m pc ls (.int b :: .int a :: rest)) rfl (a := a) (rest := rest) (by rw [h0]) (by rw [hb]; exact d) t st, q⟩
theorem vx_iremZ (hexec : p.tables.exec = Jvm.exec) (hb : c.code = cc) {a b : Int32} (h0 : b = 0) (d : decode cc pc = .ok (.irem, 1)) (k : vx_Note p l e R s m args below meth c H locs cells slots Q (F0 m pc ls rest) "java/lang/ArithmeticException" "/ by zero") :
    W p l e R s m args below meth c H locs cells slots Q (F0 m pc ls (.int b :: .int a :: rest)) := by
  intro T hT X
  obtain ⟨t, st, q⟩ := k T hT X
  exact ⟨t, X.iremZero hexec (g := F0 m pc ls (.int b :: .int a :: rest)) rfl (a := a) (rest := rest) (by rw [h0]) (by rw [hb]; exact d) t st, q⟩
theorem vx_ldivZ (hexec : p.tables.exec = Jvm.exec) (hb : c.code = cc) {a b : Int64} (h0 : b = 0) (d : decode cc pc = .ok (.ldiv, 1)) (k : vx_Note p l e R s m args below meth c H locs cells slots Q (F0 m pc ls rest) "java/lang/ArithmeticException" "/ by zero") :
    W p l e R s m args below meth c H locs cells slots Q (F0 m pc ls (.long b :: .long a :: rest)) := by
  intro T hT X
  obtain ⟨t, st, q⟩ := k T hT X
  exact ⟨t, X.ldivZero hexec (g := F0 m pc ls (.long b :: .long a :: rest)) rfl (a := a) (rest := rest) (by rw [h0]) (by rw [hb]; exact d) t st, q⟩
theorem vx_lremZ (hexec : p.tables.exec = Jvm.exec) (hb : c.code = cc) {a b : Int64} (h0 : b = 0) (d : decode cc pc = .ok (.lrem, 1)) (k : vx_Note p l e R s m args below meth c H locs cells slots Q (F0 m pc ls rest) "java/lang/ArithmeticException" "/ by zero") :
    W p l e R s m args below meth c H locs cells slots Q (F0 m pc ls (.long b :: .long a :: rest)) := by
  intro T hT X
  obtain ⟨t, st, q⟩ := k T hT X
  exact ⟨t, X.lremZero hexec (g := F0 m pc ls (.long b :: .long a :: rest)) rfl (a := a) (rest := rest) (by rw [h0]) (by rw [hb]; exact d) t st, q⟩
theorem vx_ialdZ {D : va_G} {cl : List vw_C} {ws : va_W} {tys : List (ClassId × FieldType)} {a : Nat} (hexec : p.tables.exec = Jvm.exec) (hb : c.code = cc) (hK : va_K D cl tys s) (hP : va_P D cl ws H) (q0 t0 : Nat) {cA : ClassId} {n : Nat} {f : Nat → Int32} (ha : ws[q0]? = some (a, .inl (cA, n, .inl f))) (ht : tys[t0]? = some (cA, .int)) {i : Int32} (hout : ¬ vp_in i n) (hdg : decode cc pc = .ok (.iaload, 1))
    (k : ∀ tx : String, tx = (toString "Index " ++ toString i ++ toString " out of bounds for length " ++ toString n : String) → vx_Note p l e R s m args below meth c H locs cells slots Q (F0 m pc ls rest) "java/lang/ArrayIndexOutOfBoundsException" tx) : W p l e R s m args below meth c H locs cells slots Q (F0 m pc ls (.int i :: .ref a :: rest)) := by
  intro T hT X
  obtain ⟨t, st, q⟩ := k _ rfl T hT X
  refine ⟨t, ?_, q⟩
  have h1 := X.ialoadOut hexec (by rw [hT]; exact hP q0 _ ha) ((hK.2 t0 _ ht).1 n (fun j => .int (f j))) (j := i) (by show (i < 0 ∨ (arrV _ _ _).slots.size ≤ _); rw [arrV_size]; exact Classical.byContradiction hout) (g := F0 m pc ls (.int i :: .ref a :: rest)) rfl (rest := rest) rfl (by rw [hb]; exact hdg) t
  simp only [arrV_size] at h1
  exact h1 st
theorem vx_iastZ {D : va_G} {cl : List vw_C} {ws : va_W} {tys : List (ClassId × FieldType)} {a : Nat} (hexec : p.tables.exec = Jvm.exec) (hb : c.code = cc) (hK : va_K D cl tys s) (hP : va_P D cl ws H) (q0 t0 : Nat) {cA : ClassId} {n : Nat} {f : Nat → Int32} (ha : ws[q0]? = some (a, .inl (cA, n, .inl f))) (ht : tys[t0]? = some (cA, .int)) {i : Int32} {x : Int32} (hout : ¬ vp_in i n) (hdg : decode cc pc = .ok (.iastore, 1))
    (k : ∀ tx : String, tx = (toString "Index " ++ toString i ++ toString " out of bounds for length " ++ toString n : String) → vx_Note p l e R s m args below meth c H locs cells slots Q (F0 m pc ls rest) "java/lang/ArrayIndexOutOfBoundsException" tx) : W p l e R s m args below meth c H locs cells slots Q (F0 m pc ls (.int x :: .int i :: .ref a :: rest)) := by
  intro T hT X
  obtain ⟨t, st, q⟩ := k _ rfl T hT X
  refine ⟨t, ?_, q⟩
  have h1 := X.iastoreOut hexec (by rw [hT]; exact hP q0 _ ha) ((hK.2 t0 _ ht).1 n (fun j => .int (f j))) (j := i) (by show (i < 0 ∨ (arrV _ _ _).slots.size ≤ _); rw [arrV_size]; exact Classical.byContradiction hout) (g := F0 m pc ls (.int x :: .int i :: .ref a :: rest)) rfl (rest := rest) rfl (by rw [hb]; exact hdg) t
  simp only [arrV_size] at h1
  exact h1 st
theorem vx_baldZ {D : va_G} {cl : List vw_C} {ws : va_W} {tys : List (ClassId × FieldType)} {a : Nat} (hexec : p.tables.exec = Jvm.exec) (hb : c.code = cc) (hK : va_K D cl tys s) (hP : va_P D cl ws H) (q0 t0 : Nat) {cA : ClassId} {n : Nat} {f : Nat → Int32} (ha : ws[q0]? = some (a, .inl (cA, n, .inl f))) (ht : tys[t0]? = some (cA, .byte)) {i : Int32} (hout : ¬ vp_in i n) (hdg : decode cc pc = .ok (.baload, 1))
    (k : ∀ tx : String, tx = (toString "Index " ++ toString i ++ toString " out of bounds for length " ++ toString n : String) → vx_Note p l e R s m args below meth c H locs cells slots Q (F0 m pc ls rest) "java/lang/ArrayIndexOutOfBoundsException" tx) : W p l e R s m args below meth c H locs cells slots Q (F0 m pc ls (.int i :: .ref a :: rest)) := by
  intro T hT X
  obtain ⟨t, st, q⟩ := k _ rfl T hT X
  refine ⟨t, ?_, q⟩
  have h1 := X.baloadOut hexec (by rw [hT]; exact hP q0 _ ha) ((hK.2 t0 _ ht).1 n (fun j => .int (f j))) (j := i) (by show (i < 0 ∨ (arrV _ _ _).slots.size ≤ _); rw [arrV_size]; exact Classical.byContradiction hout) (g := F0 m pc ls (.int i :: .ref a :: rest)) rfl (rest := rest) rfl (by rw [hb]; exact hdg) t
  simp only [arrV_size] at h1
  exact h1 st
theorem vx_bastZ {D : va_G} {cl : List vw_C} {ws : va_W} {tys : List (ClassId × FieldType)} {a : Nat} (hexec : p.tables.exec = Jvm.exec) (hb : c.code = cc) (hK : va_K D cl tys s) (hP : va_P D cl ws H) (q0 t0 : Nat) {cA : ClassId} {n : Nat} {f : Nat → Int32} (ha : ws[q0]? = some (a, .inl (cA, n, .inl f))) (ht : tys[t0]? = some (cA, .byte)) {i : Int32} {x : Int32} (hout : ¬ vp_in i n) (hdg : decode cc pc = .ok (.bastore, 1))
    (k : ∀ tx : String, tx = (toString "Index " ++ toString i ++ toString " out of bounds for length " ++ toString n : String) → vx_Note p l e R s m args below meth c H locs cells slots Q (F0 m pc ls rest) "java/lang/ArrayIndexOutOfBoundsException" tx) : W p l e R s m args below meth c H locs cells slots Q (F0 m pc ls (.int x :: .int i :: .ref a :: rest)) := by
  intro T hT X
  obtain ⟨t, st, q⟩ := k _ rfl T hT X
  refine ⟨t, ?_, q⟩
  have h1 := X.bastoreOut hexec (by rw [hT]; exact hP q0 _ ha) ((hK.2 t0 _ ht).1 n (fun j => .int (f j))) (j := i) (by show (i < 0 ∨ (arrV _ _ _).slots.size ≤ _); rw [arrV_size]; exact Classical.byContradiction hout) (g := F0 m pc ls (.int x :: .int i :: .ref a :: rest)) rfl (rest := rest) rfl (by rw [hb]; exact hdg) t
  simp only [arrV_size] at h1
  exact h1 st
theorem vx_zaldZ {D : va_G} {cl : List vw_C} {ws : va_W} {tys : List (ClassId × FieldType)} {a : Nat} (hexec : p.tables.exec = Jvm.exec) (hb : c.code = cc) (hK : va_K D cl tys s) (hP : va_P D cl ws H) (q0 t0 : Nat) {cA : ClassId} {n : Nat} {f : Nat → Int32} (ha : ws[q0]? = some (a, .inl (cA, n, .inl f))) (ht : tys[t0]? = some (cA, .boolean)) {i : Int32} (hout : ¬ vp_in i n) (hdg : decode cc pc = .ok (.baload, 1))
    (k : ∀ tx : String, tx = (toString "Index " ++ toString i ++ toString " out of bounds for length " ++ toString n : String) → vx_Note p l e R s m args below meth c H locs cells slots Q (F0 m pc ls rest) "java/lang/ArrayIndexOutOfBoundsException" tx) : W p l e R s m args below meth c H locs cells slots Q (F0 m pc ls (.int i :: .ref a :: rest)) := by
  intro T hT X
  obtain ⟨t, st, q⟩ := k _ rfl T hT X
  refine ⟨t, ?_, q⟩
  have h1 := X.baloadOut hexec (by rw [hT]; exact hP q0 _ ha) ((hK.2 t0 _ ht).1 n (fun j => .int (f j))) (j := i) (by show (i < 0 ∨ (arrV _ _ _).slots.size ≤ _); rw [arrV_size]; exact Classical.byContradiction hout) (g := F0 m pc ls (.int i :: .ref a :: rest)) rfl (rest := rest) rfl (by rw [hb]; exact hdg) t
  simp only [arrV_size] at h1
  exact h1 st
theorem vx_zastZ {D : va_G} {cl : List vw_C} {ws : va_W} {tys : List (ClassId × FieldType)} {a : Nat} (hexec : p.tables.exec = Jvm.exec) (hb : c.code = cc) (hK : va_K D cl tys s) (hP : va_P D cl ws H) (q0 t0 : Nat) {cA : ClassId} {n : Nat} {f : Nat → Int32} (ha : ws[q0]? = some (a, .inl (cA, n, .inl f))) (ht : tys[t0]? = some (cA, .boolean)) {i : Int32} {x : Int32} (hout : ¬ vp_in i n) (hdg : decode cc pc = .ok (.bastore, 1))
    (k : ∀ tx : String, tx = (toString "Index " ++ toString i ++ toString " out of bounds for length " ++ toString n : String) → vx_Note p l e R s m args below meth c H locs cells slots Q (F0 m pc ls rest) "java/lang/ArrayIndexOutOfBoundsException" tx) : W p l e R s m args below meth c H locs cells slots Q (F0 m pc ls (.int x :: .int i :: .ref a :: rest)) := by
  intro T hT X
  obtain ⟨t, st, q⟩ := k _ rfl T hT X
  refine ⟨t, ?_, q⟩
  have h1 := X.bastoreOut hexec (by rw [hT]; exact hP q0 _ ha) ((hK.2 t0 _ ht).1 n (fun j => .int (f j))) (j := i) (by show (i < 0 ∨ (arrV _ _ _).slots.size ≤ _); rw [arrV_size]; exact Classical.byContradiction hout) (g := F0 m pc ls (.int x :: .int i :: .ref a :: rest)) rfl (rest := rest) rfl (by rw [hb]; exact hdg) t
  simp only [arrV_size] at h1
  exact h1 st
theorem vx_caldZ {D : va_G} {cl : List vw_C} {ws : va_W} {tys : List (ClassId × FieldType)} {a : Nat} (hexec : p.tables.exec = Jvm.exec) (hb : c.code = cc) (hK : va_K D cl tys s) (hP : va_P D cl ws H) (q0 t0 : Nat) {cA : ClassId} {n : Nat} {f : Nat → Int32} (ha : ws[q0]? = some (a, .inl (cA, n, .inl f))) (ht : tys[t0]? = some (cA, .char)) {i : Int32} (hout : ¬ vp_in i n) (hdg : decode cc pc = .ok (.caload, 1))
    (k : ∀ tx : String, tx = (toString "Index " ++ toString i ++ toString " out of bounds for length " ++ toString n : String) → vx_Note p l e R s m args below meth c H locs cells slots Q (F0 m pc ls rest) "java/lang/ArrayIndexOutOfBoundsException" tx) : W p l e R s m args below meth c H locs cells slots Q (F0 m pc ls (.int i :: .ref a :: rest)) := by
  intro T hT X
  obtain ⟨t, st, q⟩ := k _ rfl T hT X
  refine ⟨t, ?_, q⟩
  have h1 := X.caloadOut hexec (by rw [hT]; exact hP q0 _ ha) ((hK.2 t0 _ ht).1 n (fun j => .int (f j))) (j := i) (by show (i < 0 ∨ (arrV _ _ _).slots.size ≤ _); rw [arrV_size]; exact Classical.byContradiction hout) (g := F0 m pc ls (.int i :: .ref a :: rest)) rfl (rest := rest) rfl (by rw [hb]; exact hdg) t
  simp only [arrV_size] at h1
  exact h1 st
theorem vx_castZ {D : va_G} {cl : List vw_C} {ws : va_W} {tys : List (ClassId × FieldType)} {a : Nat} (hexec : p.tables.exec = Jvm.exec) (hb : c.code = cc) (hK : va_K D cl tys s) (hP : va_P D cl ws H) (q0 t0 : Nat) {cA : ClassId} {n : Nat} {f : Nat → Int32} (ha : ws[q0]? = some (a, .inl (cA, n, .inl f))) (ht : tys[t0]? = some (cA, .char)) {i : Int32} {x : Int32} (hout : ¬ vp_in i n) (hdg : decode cc pc = .ok (.castore, 1))
    (k : ∀ tx : String, tx = (toString "Index " ++ toString i ++ toString " out of bounds for length " ++ toString n : String) → vx_Note p l e R s m args below meth c H locs cells slots Q (F0 m pc ls rest) "java/lang/ArrayIndexOutOfBoundsException" tx) : W p l e R s m args below meth c H locs cells slots Q (F0 m pc ls (.int x :: .int i :: .ref a :: rest)) := by
  intro T hT X
  obtain ⟨t, st, q⟩ := k _ rfl T hT X
  refine ⟨t, ?_, q⟩
  have h1 := X.castoreOut hexec (by rw [hT]; exact hP q0 _ ha) ((hK.2 t0 _ ht).1 n (fun j => .int (f j))) (j := i) (by show (i < 0 ∨ (arrV _ _ _).slots.size ≤ _); rw [arrV_size]; exact Classical.byContradiction hout) (g := F0 m pc ls (.int x :: .int i :: .ref a :: rest)) rfl (rest := rest) rfl (by rw [hb]; exact hdg) t
  simp only [arrV_size] at h1
  exact h1 st
theorem vx_saldZ {D : va_G} {cl : List vw_C} {ws : va_W} {tys : List (ClassId × FieldType)} {a : Nat} (hexec : p.tables.exec = Jvm.exec) (hb : c.code = cc) (hK : va_K D cl tys s) (hP : va_P D cl ws H) (q0 t0 : Nat) {cA : ClassId} {n : Nat} {f : Nat → Int32} (ha : ws[q0]? = some (a, .inl (cA, n, .inl f))) (ht : tys[t0]? = some (cA, .short)) {i : Int32} (hout : ¬ vp_in i n) (hdg : decode cc pc = .ok (.saload, 1))
    (k : ∀ tx : String, tx = (toString "Index " ++ toString i ++ toString " out of bounds for length " ++ toString n : String) → vx_Note p l e R s m args below meth c H locs cells slots Q (F0 m pc ls rest) "java/lang/ArrayIndexOutOfBoundsException" tx) : W p l e R s m args below meth c H locs cells slots Q (F0 m pc ls (.int i :: .ref a :: rest)) := by
  intro T hT X
  obtain ⟨t, st, q⟩ := k _ rfl T hT X
  refine ⟨t, ?_, q⟩
  have h1 := X.saloadOut hexec (by rw [hT]; exact hP q0 _ ha) ((hK.2 t0 _ ht).1 n (fun j => .int (f j))) (j := i) (by show (i < 0 ∨ (arrV _ _ _).slots.size ≤ _); rw [arrV_size]; exact Classical.byContradiction hout) (g := F0 m pc ls (.int i :: .ref a :: rest)) rfl (rest := rest) rfl (by rw [hb]; exact hdg) t
  simp only [arrV_size] at h1
  exact h1 st
theorem vx_sastZ {D : va_G} {cl : List vw_C} {ws : va_W} {tys : List (ClassId × FieldType)} {a : Nat} (hexec : p.tables.exec = Jvm.exec) (hb : c.code = cc) (hK : va_K D cl tys s) (hP : va_P D cl ws H) (q0 t0 : Nat) {cA : ClassId} {n : Nat} {f : Nat → Int32} (ha : ws[q0]? = some (a, .inl (cA, n, .inl f))) (ht : tys[t0]? = some (cA, .short)) {i : Int32} {x : Int32} (hout : ¬ vp_in i n) (hdg : decode cc pc = .ok (.sastore, 1))
    (k : ∀ tx : String, tx = (toString "Index " ++ toString i ++ toString " out of bounds for length " ++ toString n : String) → vx_Note p l e R s m args below meth c H locs cells slots Q (F0 m pc ls rest) "java/lang/ArrayIndexOutOfBoundsException" tx) : W p l e R s m args below meth c H locs cells slots Q (F0 m pc ls (.int x :: .int i :: .ref a :: rest)) := by
  intro T hT X
  obtain ⟨t, st, q⟩ := k _ rfl T hT X
  refine ⟨t, ?_, q⟩
  have h1 := X.sastoreOut hexec (by rw [hT]; exact hP q0 _ ha) ((hK.2 t0 _ ht).1 n (fun j => .int (f j))) (j := i) (by show (i < 0 ∨ (arrV _ _ _).slots.size ≤ _); rw [arrV_size]; exact Classical.byContradiction hout) (g := F0 m pc ls (.int x :: .int i :: .ref a :: rest)) rfl (rest := rest) rfl (by rw [hb]; exact hdg) t
  simp only [arrV_size] at h1
  exact h1 st
theorem vx_laldZ {D : va_G} {cl : List vw_C} {ws : va_W} {tys : List (ClassId × FieldType)} {a : Nat} (hexec : p.tables.exec = Jvm.exec) (hb : c.code = cc) (hK : va_K D cl tys s) (hP : va_P D cl ws H) (q0 t0 : Nat) {cA : ClassId} {n : Nat} {f : Nat → Int64} (ha : ws[q0]? = some (a, .inl (cA, n, .inr (.inl f)))) (ht : tys[t0]? = some (cA, .long)) {i : Int32} (hout : ¬ vp_in i n) (hdg : decode cc pc = .ok (.laload, 1))
    (k : ∀ tx : String, tx = (toString "Index " ++ toString i ++ toString " out of bounds for length " ++ toString n : String) → vx_Note p l e R s m args below meth c H locs cells slots Q (F0 m pc ls rest) "java/lang/ArrayIndexOutOfBoundsException" tx) : W p l e R s m args below meth c H locs cells slots Q (F0 m pc ls (.int i :: .ref a :: rest)) := by
  intro T hT X
  obtain ⟨t, st, q⟩ := k _ rfl T hT X
  refine ⟨t, ?_, q⟩
  have h1 := X.laloadOut hexec (by rw [hT]; exact hP q0 _ ha) ((hK.2 t0 _ ht).1 n (fun j => .long (f j))) (j := i) (by show (i < 0 ∨ (arrV _ _ _).slots.size ≤ _); rw [arrV_size]; exact Classical.byContradiction hout) (g := F0 m pc ls (.int i :: .ref a :: rest)) rfl (rest := rest) rfl (by rw [hb]; exact hdg) t
  simp only [arrV_size] at h1
  exact h1 st
theorem vx_lastZ {D : va_G} {cl : List vw_C} {ws : va_W} {tys : List (ClassId × FieldType)} {a : Nat} (hexec : p.tables.exec = Jvm.exec) (hb : c.code = cc) (hK : va_K D cl tys s) (hP : va_P D cl ws H) (q0 t0 : Nat) {cA : ClassId} {n : Nat} {f : Nat → Int64} (ha : ws[q0]? = some (a, .inl (cA, n, .inr (.inl f)))) (ht : tys[t0]? = some (cA, .long)) {i : Int32} {x : Int64} (hout : ¬ vp_in i n) (hdg : decode cc pc = .ok (.lastore, 1))
    (k : ∀ tx : String, tx = (toString "Index " ++ toString i ++ toString " out of bounds for length " ++ toString n : String) → vx_Note p l e R s m args below meth c H locs cells slots Q (F0 m pc ls rest) "java/lang/ArrayIndexOutOfBoundsException" tx) : W p l e R s m args below meth c H locs cells slots Q (F0 m pc ls (.long x :: .int i :: .ref a :: rest)) := by
  intro T hT X
  obtain ⟨t, st, q⟩ := k _ rfl T hT X
  refine ⟨t, ?_, q⟩
  have h1 := X.lastoreOut hexec (by rw [hT]; exact hP q0 _ ha) ((hK.2 t0 _ ht).1 n (fun j => .long (f j))) (j := i) (by show (i < 0 ∨ (arrV _ _ _).slots.size ≤ _); rw [arrV_size]; exact Classical.byContradiction hout) (g := F0 m pc ls (.long x :: .int i :: .ref a :: rest)) rfl (rest := rest) rfl (by rw [hb]; exact hdg) t
  simp only [arrV_size] at h1
  exact h1 st
theorem vx_faldZ {D : va_G} {cl : List vw_C} {ws : va_W} {tys : List (ClassId × FieldType)} {a : Nat} (hexec : p.tables.exec = Jvm.exec) (hb : c.code = cc) (hK : va_K D cl tys s) (hP : va_P D cl ws H) (q0 t0 : Nat) {cA : ClassId} {n : Nat} {f : Nat → UInt32} (ha : ws[q0]? = some (a, .inl (cA, n, .inr (.inr (.inl f))))) (ht : tys[t0]? = some (cA, .float)) {i : Int32} (hout : ¬ vp_in i n) (hdg : decode cc pc = .ok (.faload, 1))
    (k : ∀ tx : String, tx = (toString "Index " ++ toString i ++ toString " out of bounds for length " ++ toString n : String) → vx_Note p l e R s m args below meth c H locs cells slots Q (F0 m pc ls rest) "java/lang/ArrayIndexOutOfBoundsException" tx) : W p l e R s m args below meth c H locs cells slots Q (F0 m pc ls (.int i :: .ref a :: rest)) := by
  intro T hT X
  obtain ⟨t, st, q⟩ := k _ rfl T hT X
  refine ⟨t, ?_, q⟩
  have h1 := X.faloadOut hexec (by rw [hT]; exact hP q0 _ ha) ((hK.2 t0 _ ht).1 n (fun j => .float (f j))) (j := i) (by show (i < 0 ∨ (arrV _ _ _).slots.size ≤ _); rw [arrV_size]; exact Classical.byContradiction hout) (g := F0 m pc ls (.int i :: .ref a :: rest)) rfl (rest := rest) rfl (by rw [hb]; exact hdg) t
  simp only [arrV_size] at h1
  exact h1 st
theorem vx_fastZ {D : va_G} {cl : List vw_C} {ws : va_W} {tys : List (ClassId × FieldType)} {a : Nat} (hexec : p.tables.exec = Jvm.exec) (hb : c.code = cc) (hK : va_K D cl tys s) (hP : va_P D cl ws H) (q0 t0 : Nat) {cA : ClassId} {n : Nat} {f : Nat → UInt32} (ha : ws[q0]? = some (a, .inl (cA, n, .inr (.inr (.inl f))))) (ht : tys[t0]? = some (cA, .float)) {i : Int32} {x : UInt32} (hout : ¬ vp_in i n) (hdg : decode cc pc = .ok (.fastore, 1))
    (k : ∀ tx : String, tx = (toString "Index " ++ toString i ++ toString " out of bounds for length " ++ toString n : String) → vx_Note p l e R s m args below meth c H locs cells slots Q (F0 m pc ls rest) "java/lang/ArrayIndexOutOfBoundsException" tx) : W p l e R s m args below meth c H locs cells slots Q (F0 m pc ls (.float x :: .int i :: .ref a :: rest)) := by
  intro T hT X
  obtain ⟨t, st, q⟩ := k _ rfl T hT X
  refine ⟨t, ?_, q⟩
  have h1 := X.fastoreOut hexec (by rw [hT]; exact hP q0 _ ha) ((hK.2 t0 _ ht).1 n (fun j => .float (f j))) (j := i) (by show (i < 0 ∨ (arrV _ _ _).slots.size ≤ _); rw [arrV_size]; exact Classical.byContradiction hout) (g := F0 m pc ls (.float x :: .int i :: .ref a :: rest)) rfl (rest := rest) rfl (by rw [hb]; exact hdg) t
  simp only [arrV_size] at h1
  exact h1 st
theorem vx_daldZ {D : va_G} {cl : List vw_C} {ws : va_W} {tys : List (ClassId × FieldType)} {a : Nat} (hexec : p.tables.exec = Jvm.exec) (hb : c.code = cc) (hK : va_K D cl tys s) (hP : va_P D cl ws H) (q0 t0 : Nat) {cA : ClassId} {n : Nat} {f : Nat → UInt64} (ha : ws[q0]? = some (a, .inl (cA, n, .inr (.inr (.inr (.inl f)))))) (ht : tys[t0]? = some (cA, .double)) {i : Int32} (hout : ¬ vp_in i n) (hdg : decode cc pc = .ok (.daload, 1))
    (k : ∀ tx : String, tx = (toString "Index " ++ toString i ++ toString " out of bounds for length " ++ toString n : String) → vx_Note p l e R s m args below meth c H locs cells slots Q (F0 m pc ls rest) "java/lang/ArrayIndexOutOfBoundsException" tx) : W p l e R s m args below meth c H locs cells slots Q (F0 m pc ls (.int i :: .ref a :: rest)) := by
  intro T hT X
  obtain ⟨t, st, q⟩ := k _ rfl T hT X
  refine ⟨t, ?_, q⟩
  have h1 := X.daloadOut hexec (by rw [hT]; exact hP q0 _ ha) ((hK.2 t0 _ ht).1 n (fun j => .double (f j))) (j := i) (by show (i < 0 ∨ (arrV _ _ _).slots.size ≤ _); rw [arrV_size]; exact Classical.byContradiction hout) (g := F0 m pc ls (.int i :: .ref a :: rest)) rfl (rest := rest) rfl (by rw [hb]; exact hdg) t
  simp only [arrV_size] at h1
  exact h1 st
theorem vx_dastZ {D : va_G} {cl : List vw_C} {ws : va_W} {tys : List (ClassId × FieldType)} {a : Nat} (hexec : p.tables.exec = Jvm.exec) (hb : c.code = cc) (hK : va_K D cl tys s) (hP : va_P D cl ws H) (q0 t0 : Nat) {cA : ClassId} {n : Nat} {f : Nat → UInt64} (ha : ws[q0]? = some (a, .inl (cA, n, .inr (.inr (.inr (.inl f)))))) (ht : tys[t0]? = some (cA, .double)) {i : Int32} {x : UInt64} (hout : ¬ vp_in i n) (hdg : decode cc pc = .ok (.dastore, 1))
    (k : ∀ tx : String, tx = (toString "Index " ++ toString i ++ toString " out of bounds for length " ++ toString n : String) → vx_Note p l e R s m args below meth c H locs cells slots Q (F0 m pc ls rest) "java/lang/ArrayIndexOutOfBoundsException" tx) : W p l e R s m args below meth c H locs cells slots Q (F0 m pc ls (.double x :: .int i :: .ref a :: rest)) := by
  intro T hT X
  obtain ⟨t, st, q⟩ := k _ rfl T hT X
  refine ⟨t, ?_, q⟩
  have h1 := X.dastoreOut hexec (by rw [hT]; exact hP q0 _ ha) ((hK.2 t0 _ ht).1 n (fun j => .double (f j))) (j := i) (by show (i < 0 ∨ (arrV _ _ _).slots.size ≤ _); rw [arrV_size]; exact Classical.byContradiction hout) (g := F0 m pc ls (.double x :: .int i :: .ref a :: rest)) rfl (rest := rest) rfl (by rw [hb]; exact hdg) t
  simp only [arrV_size] at h1
  exact h1 st
theorem vx_arraylengthN (hexec : p.tables.exec = Jvm.exec) (hb : c.code = cc) (hdg : decode cc pc = .ok (.arraylength, 1)) (k : vx_NoteN p l e R s m args below meth c H locs cells slots Q (F0 m pc ls rest)) : W p l e R s m args below meth c H locs cells slots Q (F0 m pc ls (.null :: rest)) := by
  intro T hT X
  obtain ⟨t, st, q⟩ := k T hT X
  exact ⟨t, X.arraylengthNull hexec (g := F0 m pc ls (.null :: rest)) rfl (rest := rest) rfl (by rw [hb]; exact hdg) t st, q⟩
theorem vx_ialoadN (hexec : p.tables.exec = Jvm.exec) (hb : c.code = cc) {i : Int32} (hdg : decode cc pc = .ok (.iaload, 1)) (k : vx_NoteN p l e R s m args below meth c H locs cells slots Q (F0 m pc ls rest)) : W p l e R s m args below meth c H locs cells slots Q (F0 m pc ls (.int i :: .null :: rest)) := by
  intro T hT X
  obtain ⟨t, st, q⟩ := k T hT X
  exact ⟨t, X.ialoadNull hexec (g := F0 m pc ls (.int i :: .null :: rest)) rfl (rest := rest) rfl (by rw [hb]; exact hdg) t st, q⟩
theorem vx_laloadN (hexec : p.tables.exec = Jvm.exec) (hb : c.code = cc) {i : Int32} (hdg : decode cc pc = .ok (.laload, 1)) (k : vx_NoteN p l e R s m args below meth c H locs cells slots Q (F0 m pc ls rest)) : W p l e R s m args below meth c H locs cells slots Q (F0 m pc ls (.int i :: .null :: rest)) := by
  intro T hT X
  obtain ⟨t, st, q⟩ := k T hT X
  exact ⟨t, X.laloadNull hexec (g := F0 m pc ls (.int i :: .null :: rest)) rfl (rest := rest) rfl (by rw [hb]; exact hdg) t st, q⟩
theorem vx_faloadN (hexec : p.tables.exec = Jvm.exec) (hb : c.code = cc) {i : Int32} (hdg : decode cc pc = .ok (.faload, 1)) (k : vx_NoteN p l e R s m args below meth c H locs cells slots Q (F0 m pc ls rest)) : W p l e R s m args below meth c H locs cells slots Q (F0 m pc ls (.int i :: .null :: rest)) := by
  intro T hT X
  obtain ⟨t, st, q⟩ := k T hT X
  exact ⟨t, X.faloadNull hexec (g := F0 m pc ls (.int i :: .null :: rest)) rfl (rest := rest) rfl (by rw [hb]; exact hdg) t st, q⟩
theorem vx_daloadN (hexec : p.tables.exec = Jvm.exec) (hb : c.code = cc) {i : Int32} (hdg : decode cc pc = .ok (.daload, 1)) (k : vx_NoteN p l e R s m args below meth c H locs cells slots Q (F0 m pc ls rest)) : W p l e R s m args below meth c H locs cells slots Q (F0 m pc ls (.int i :: .null :: rest)) := by
  intro T hT X
  obtain ⟨t, st, q⟩ := k T hT X
  exact ⟨t, X.daloadNull hexec (g := F0 m pc ls (.int i :: .null :: rest)) rfl (rest := rest) rfl (by rw [hb]; exact hdg) t st, q⟩
theorem vx_aaloadN (hexec : p.tables.exec = Jvm.exec) (hb : c.code = cc) {i : Int32} (hdg : decode cc pc = .ok (.aaload, 1)) (k : vx_NoteN p l e R s m args below meth c H locs cells slots Q (F0 m pc ls rest)) : W p l e R s m args below meth c H locs cells slots Q (F0 m pc ls (.int i :: .null :: rest)) := by
  intro T hT X
  obtain ⟨t, st, q⟩ := k T hT X
  exact ⟨t, X.aaloadNull hexec (g := F0 m pc ls (.int i :: .null :: rest)) rfl (rest := rest) rfl (by rw [hb]; exact hdg) t st, q⟩
theorem vx_baloadN (hexec : p.tables.exec = Jvm.exec) (hb : c.code = cc) {i : Int32} (hdg : decode cc pc = .ok (.baload, 1)) (k : vx_NoteN p l e R s m args below meth c H locs cells slots Q (F0 m pc ls rest)) : W p l e R s m args below meth c H locs cells slots Q (F0 m pc ls (.int i :: .null :: rest)) := by
  intro T hT X
  obtain ⟨t, st, q⟩ := k T hT X
  exact ⟨t, X.baloadNull hexec (g := F0 m pc ls (.int i :: .null :: rest)) rfl (rest := rest) rfl (by rw [hb]; exact hdg) t st, q⟩
theorem vx_caloadN (hexec : p.tables.exec = Jvm.exec) (hb : c.code = cc) {i : Int32} (hdg : decode cc pc = .ok (.caload, 1)) (k : vx_NoteN p l e R s m args below meth c H locs cells slots Q (F0 m pc ls rest)) : W p l e R s m args below meth c H locs cells slots Q (F0 m pc ls (.int i :: .null :: rest)) := by
  intro T hT X
  obtain ⟨t, st, q⟩ := k T hT X
  exact ⟨t, X.caloadNull hexec (g := F0 m pc ls (.int i :: .null :: rest)) rfl (rest := rest) rfl (by rw [hb]; exact hdg) t st, q⟩
theorem vx_saloadN (hexec : p.tables.exec = Jvm.exec) (hb : c.code = cc) {i : Int32} (hdg : decode cc pc = .ok (.saload, 1)) (k : vx_NoteN p l e R s m args below meth c H locs cells slots Q (F0 m pc ls rest)) : W p l e R s m args below meth c H locs cells slots Q (F0 m pc ls (.int i :: .null :: rest)) := by
  intro T hT X
  obtain ⟨t, st, q⟩ := k T hT X
  exact ⟨t, X.saloadNull hexec (g := F0 m pc ls (.int i :: .null :: rest)) rfl (rest := rest) rfl (by rw [hb]; exact hdg) t st, q⟩
theorem vx_iastoreN (hexec : p.tables.exec = Jvm.exec) (hb : c.code = cc) {x : Int32} {i : Int32} (hdg : decode cc pc = .ok (.iastore, 1)) (k : vx_NoteN p l e R s m args below meth c H locs cells slots Q (F0 m pc ls rest)) : W p l e R s m args below meth c H locs cells slots Q (F0 m pc ls (.int x :: .int i :: .null :: rest)) := by
  intro T hT X
  obtain ⟨t, st, q⟩ := k T hT X
  exact ⟨t, X.iastoreNull hexec (g := F0 m pc ls (.int x :: .int i :: .null :: rest)) rfl (rest := rest) rfl (by rw [hb]; exact hdg) t st, q⟩
theorem vx_lastoreN (hexec : p.tables.exec = Jvm.exec) (hb : c.code = cc) {x : Int64} {i : Int32} (hdg : decode cc pc = .ok (.lastore, 1)) (k : vx_NoteN p l e R s m args below meth c H locs cells slots Q (F0 m pc ls rest)) : W p l e R s m args below meth c H locs cells slots Q (F0 m pc ls (.long x :: .int i :: .null :: rest)) := by
  intro T hT X
  obtain ⟨t, st, q⟩ := k T hT X
  exact ⟨t, X.lastoreNull hexec (g := F0 m pc ls (.long x :: .int i :: .null :: rest)) rfl (rest := rest) rfl (by rw [hb]; exact hdg) t st, q⟩
theorem vx_fastoreN (hexec : p.tables.exec = Jvm.exec) (hb : c.code = cc) {x : UInt32} {i : Int32} (hdg : decode cc pc = .ok (.fastore, 1)) (k : vx_NoteN p l e R s m args below meth c H locs cells slots Q (F0 m pc ls rest)) : W p l e R s m args below meth c H locs cells slots Q (F0 m pc ls (.float x :: .int i :: .null :: rest)) := by
  intro T hT X
  obtain ⟨t, st, q⟩ := k T hT X
  exact ⟨t, X.fastoreNull hexec (g := F0 m pc ls (.float x :: .int i :: .null :: rest)) rfl (rest := rest) rfl (by rw [hb]; exact hdg) t st, q⟩
theorem vx_dastoreN (hexec : p.tables.exec = Jvm.exec) (hb : c.code = cc) {x : UInt64} {i : Int32} (hdg : decode cc pc = .ok (.dastore, 1)) (k : vx_NoteN p l e R s m args below meth c H locs cells slots Q (F0 m pc ls rest)) : W p l e R s m args below meth c H locs cells slots Q (F0 m pc ls (.double x :: .int i :: .null :: rest)) := by
  intro T hT X
  obtain ⟨t, st, q⟩ := k T hT X
  exact ⟨t, X.dastoreNull hexec (g := F0 m pc ls (.double x :: .int i :: .null :: rest)) rfl (rest := rest) rfl (by rw [hb]; exact hdg) t st, q⟩
theorem vx_bastoreN (hexec : p.tables.exec = Jvm.exec) (hb : c.code = cc) {x : Int32} {i : Int32} (hdg : decode cc pc = .ok (.bastore, 1)) (k : vx_NoteN p l e R s m args below meth c H locs cells slots Q (F0 m pc ls rest)) : W p l e R s m args below meth c H locs cells slots Q (F0 m pc ls (.int x :: .int i :: .null :: rest)) := by
  intro T hT X
  obtain ⟨t, st, q⟩ := k T hT X
  exact ⟨t, X.bastoreNull hexec (g := F0 m pc ls (.int x :: .int i :: .null :: rest)) rfl (rest := rest) rfl (by rw [hb]; exact hdg) t st, q⟩
theorem vx_castoreN (hexec : p.tables.exec = Jvm.exec) (hb : c.code = cc) {x : Int32} {i : Int32} (hdg : decode cc pc = .ok (.castore, 1)) (k : vx_NoteN p l e R s m args below meth c H locs cells slots Q (F0 m pc ls rest)) : W p l e R s m args below meth c H locs cells slots Q (F0 m pc ls (.int x :: .int i :: .null :: rest)) := by
  intro T hT X
  obtain ⟨t, st, q⟩ := k T hT X
  exact ⟨t, X.castoreNull hexec (g := F0 m pc ls (.int x :: .int i :: .null :: rest)) rfl (rest := rest) rfl (by rw [hb]; exact hdg) t st, q⟩
theorem vx_sastoreN (hexec : p.tables.exec = Jvm.exec) (hb : c.code = cc) {x : Int32} {i : Int32} (hdg : decode cc pc = .ok (.sastore, 1)) (k : vx_NoteN p l e R s m args below meth c H locs cells slots Q (F0 m pc ls rest)) : W p l e R s m args below meth c H locs cells slots Q (F0 m pc ls (.int x :: .int i :: .null :: rest)) := by
  intro T hT X
  obtain ⟨t, st, q⟩ := k T hT X
  exact ⟨t, X.sastoreNull hexec (g := F0 m pc ls (.int x :: .int i :: .null :: rest)) rfl (rest := rest) rfl (by rw [hb]; exact hdg) t st, q⟩
theorem vx_invokeN {own C : String} {index maxL : Nat} {y : MethodName} {bytes : ByteArray} {ret : Option FieldType} (hexec : p.tables.exec = Jvm.exec) (hb : c.code = cc) (hown : s.vm.findClass own = some m.cls) (hlink : (Cond.methodLink own index y).before args s = true) (hinst : (Cond.instanceMethod y).before args s = true) (hcode : (Cond.code y bytes maxL ret).before args s = true) (hsel : (Cond.selects C y y).before args s = true)
    (hx : y.cls ≠ "java/lang/invoke/MethodHandle" ∧ y.cls ≠ "java/lang/invoke/VarHandle") {As : List Value} (hlen : (parseMethodDescriptor y.desc).map (fun d => d.parameters.length) = some As.length) (hdg : decode cc pc = .ok (.invokevirtual index, 3))
    (k : vx_NoteN p l e R s m args below meth c H locs cells slots Q (F0 m pc ls rest)) {st0 : List Value} (hst : st0 = As.reverse ++ .null :: rest) : W p l e R s m args below meth c H locs cells slots Q (F0 m pc ls st0) := by
  intro T hT X
  obtain ⟨r0, r, hn, hrm, hstR, hsigR⟩ := va_Decl.of hinst hcode
  obtain ⟨c2, r2, m2, q1, q2, q3, q4, kP, hkP, hkPi⟩ := Cond.selects_spec hsel
  cases hn.symm.trans q3
  have hl9 : As.length = r.sig.parameters.length := by
    rw [hsigR] at hlen
    exact (Option.some.inj hlen).symm
  obtain ⟨vm', X1, st1⟩ := X.invokevirtualNull hexec hown hlink hn hrm hstR hkP hkPi hx (g := F0 m pc ls st0) rfl (argsL := As) (rest := rest) hl9 hst (by rw [hb]; exact hdg)
  obtain ⟨t, st, q⟩ := k (T.setVm vm') hT X1
  exact ⟨t, st1 t st, q⟩
theorem vx_newarrayZ {atype : ArrayType} (hexec : p.tables.exec = Jvm.exec) (hb : c.code = cc) {n : Int32} (h0 : n < 0) (hdg : decode cc pc = .ok (.newarray atype, 2)) (k : ∀ tx : String, tx = toString n → vx_Note p l e R s m args below meth c H locs cells slots Q (F0 m pc ls rest) "java/lang/NegativeArraySizeException" tx) : W p l e R s m args below meth c H locs cells slots Q (F0 m pc ls (.int n :: rest)) := by
  intro T hT X
  obtain ⟨t, st, q⟩ := k _ rfl T hT X
  exact ⟨t, X.newarrayNegative hexec (g := F0 m pc ls (.int n :: rest)) rfl h0 (rest := rest) rfl (by rw [hb]; exact hdg) t st, q⟩
end
end VXM
/-! ===== END ===== -/

def RX0 : String := "PuddleBoatyard$History"
def TX0 : u_T := fun k => match k with
  | 0 => ("PuddleBoatyard$History", "kept", "[LPuddleBoatyard$Yard;", true)
  | 1 => ("PuddleBoatyard$History", "oldest", "I", false)
  | _ => ("PuddleBoatyard$History", "size", "I", false)
def tyX0 : Nat → FieldType := fun k => match k with
  | 0 => .array (.object "PuddleBoatyard$Yard")
  | 1 => .int
  | _ => .int
abbrev wsX00 : List Cond := u_ws RX0 TX0 3
theorem nmX0 : ∀ a, a < 3 → ∀ b, b < 3 → a ≠ b → (TX0 a).2.1 ≠ (TX0 b).2.1 := by decide +kernel
theorem tyX0_ok : ∀ k, k < 3 → parseFieldDescriptor (TX0 k).2.2.1 = some (tyX0 k) := by decide +kernel
abbrev cX0_init : ByteArray := prog_2_method_1_code
def yX0_init : MethodName := ⟨RX0, "<init>", "()V"⟩
abbrev cX0_keep : ByteArray := prog_2_method_2_code
def yX0_keep : MethodName := ⟨RX0, "keep", "(LPuddleBoatyard$Yard;)V"⟩
abbrev cX0_takeBack : ByteArray := prog_2_method_3_code
def yX0_takeBack : MethodName := ⟨RX0, "takeBack", "(LPuddleBoatyard$Yard;)V"⟩
def RX1 : String := "PuddleBoatyard$Hull"
def TX1 : u_T := fun k => match k with
  | 0 => ("PuddleBoatyard$Hull", "left", "[I", true)
  | 1 => ("PuddleBoatyard$Hull", "right", "[I", true)
  | 2 => ("PuddleBoatyard$Hull", "caulking", "[I", true)
  | 3 => ("PuddleBoatyard$Hull", "frames", "I", false)
  | 4 => ("PuddleBoatyard$Hull", "state", "I", false)
  | 5 => ("PuddleBoatyard$Hull", "cargo", "I", false)
  | _ => ("PuddleBoatyard$Hull", "water", "I", false)
def tyX1 : Nat → FieldType := fun k => match k with
  | 0 => .array .int
  | 1 => .array .int
  | 2 => .array .int
  | 3 => .int
  | 4 => .int
  | 5 => .int
  | _ => .int
abbrev wsX10 : List Cond := u_ws RX1 TX1 7
theorem nmX1 : ∀ a, a < 7 → ∀ b, b < 7 → a ≠ b → (TX1 a).2.1 ≠ (TX1 b).2.1 := by decide +kernel
theorem tyX1_ok : ∀ k, k < 7 → parseFieldDescriptor (TX1 k).2.2.1 = some (tyX1 k) := by decide +kernel
abbrev cX1_init : ByteArray := prog_3_method_1_code
def yX1_init : MethodName := ⟨RX1, "<init>", "()V"⟩
abbrev cX1_become : ByteArray := prog_3_method_2_code
def yX1_become : MethodName := ⟨RX1, "become", "(LPuddleBoatyard$Hull;)V"⟩
abbrev cX1_hasSeam : ByteArray := prog_3_method_3_code
def yX1_hasSeam : MethodName := ⟨RX1, "hasSeam", "(I)Z"⟩
abbrev cX1_weight : ByteArray := prog_3_method_4_code
def yX1_weight : MethodName := ⟨RX1, "weight", "()I"⟩
abbrev cX1_heel : ByteArray := prog_3_method_5_code
def yX1_heel : MethodName := ⟨RX1, "heel", "()I"⟩
abbrev cX1_widthsAtSeams : ByteArray := prog_3_method_6_code
def yX1_widthsAtSeams : MethodName := ⟨RX1, "widthsAtSeams", "()I"⟩
abbrev cX1_buoyancy : ByteArray := prog_3_method_7_code
def yX1_buoyancy : MethodName := ⟨RX1, "buoyancy", "(II)I"⟩
abbrev cX1_triedDraught : ByteArray := prog_3_method_8_code
def yX1_triedDraught : MethodName := ⟨RX1, "triedDraught", "()I"⟩
abbrev cX1_halvedDraught : ByteArray := prog_3_method_9_code
def yX1_halvedDraught : MethodName := ⟨RX1, "halvedDraught", "()I"⟩
abbrev cX1_floats : ByteArray := prog_3_method_10_code
def yX1_floats : MethodName := ⟨RX1, "floats", "()Z"⟩
abbrev cX1_leak : ByteArray := prog_3_method_11_code
def yX1_leak : MethodName := ⟨RX1, "leak", "(I)V"⟩
abbrev cX1_addFrameAtStern : ByteArray := prog_3_method_12_code
def yX1_addFrameAtStern : MethodName := ⟨RX1, "addFrameAtStern", "(II)I"⟩
abbrev cX1_exchangeSides : ByteArray := prog_3_method_13_code
def yX1_exchangeSides : MethodName := ⟨RX1, "exchangeSides", "()I"⟩
abbrev cX1_frameEqualsReflected : ByteArray := prog_3_method_14_code
def yX1_frameEqualsReflected : MethodName := ⟨RX1, "frameEqualsReflected", "(ILPuddleBoatyard$Hull;I)Z"⟩
abbrev cX1_equalsReflectionOf : ByteArray := prog_3_method_15_code
def yX1_equalsReflectionOf : MethodName := ⟨RX1, "equalsReflectionOf", "(LPuddleBoatyard$Hull;)Z"⟩
abbrev cX1_isForSlips : ByteArray := prog_3_method_16_code
def yX1_isForSlips : MethodName := ⟨RX1, "isForSlips", "()Z"⟩
def RX2 : String := "PuddleBoatyard$Orders"
def TX2 : u_T := fun k => match k with
  | 0 => ("PuddleBoatyard$Orders", "ids", "[I", true)
  | 1 => ("PuddleBoatyard$Orders", "frames", "[I", true)
  | 2 => ("PuddleBoatyard$Orders", "hours", "[I", true)
  | 3 => ("PuddleBoatyard$Orders", "coins", "[I", true)
  | 4 => ("PuddleBoatyard$Orders", "taken", "[Z", true)
  | 5 => ("PuddleBoatyard$Orders", "count", "I", false)
  | _ => ("PuddleBoatyard$Orders", "nextId", "I", false)
def tyX2 : Nat → FieldType := fun k => match k with
  | 0 => .array .int
  | 1 => .array .int
  | 2 => .array .int
  | 3 => .array .int
  | 4 => .array .boolean
  | 5 => .int
  | _ => .int
abbrev wsX20 : List Cond := u_ws RX2 TX2 7
theorem nmX2 : ∀ a, a < 7 → ∀ b, b < 7 → a ≠ b → (TX2 a).2.1 ≠ (TX2 b).2.1 := by decide +kernel
theorem tyX2_ok : ∀ k, k < 7 → parseFieldDescriptor (TX2 k).2.2.1 = some (tyX2 k) := by decide +kernel
abbrev cX2_init : ByteArray := prog_4_method_1_code
def yX2_init : MethodName := ⟨RX2, "<init>", "()V"⟩
abbrev cX2_become : ByteArray := prog_4_method_2_code
def yX2_become : MethodName := ⟨RX2, "become", "(LPuddleBoatyard$Orders;)V"⟩
abbrev cX2_positionOf : ByteArray := prog_4_method_3_code
def yX2_positionOf : MethodName := ⟨RX2, "positionOf", "(I)I"⟩
abbrev cX2_coinsDue : ByteArray := prog_4_method_4_code
def yX2_coinsDue : MethodName := ⟨RX2, "coinsDue", "(II)I"⟩
abbrev cX2_append : ByteArray := prog_4_method_5_code
def yX2_append : MethodName := ⟨RX2, "append", "(III)I"⟩
abbrev cX2_removeAt : ByteArray := prog_4_method_6_code
def yX2_removeAt : MethodName := ⟨RX2, "removeAt", "(I)V"⟩
abbrev cX2_bestSum : ByteArray := prog_4_method_7_code
def yX2_bestSum : MethodName := ⟨RX2, "bestSum", "([LPuddleBoatyard$Hull;II)I"⟩
abbrev cX2_dearestLeft : ByteArray := prog_4_method_8_code
def yX2_dearestLeft : MethodName := ⟨RX2, "dearestLeft", "(II)I"⟩
def RX3 : String := "PuddleBoatyard$Program"
def TX3 : u_T := fun k => match k with
  | 0 => ("PuddleBoatyard$Program", "text", "[C", true)
  | 1 => ("PuddleBoatyard$Program", "length", "I", false)
  | 2 => ("PuddleBoatyard$Program", "kinds", "[I", true)
  | 3 => ("PuddleBoatyard$Program", "numbers", "[I", true)
  | 4 => ("PuddleBoatyard$Program", "commands", "I", false)
  | 5 => ("PuddleBoatyard$Program", "error", "I", false)
  | _ => ("PuddleBoatyard$Program", "reached", "I", false)
def tyX3 : Nat → FieldType := fun k => match k with
  | 0 => .array .char
  | 1 => .int
  | 2 => .array .int
  | 3 => .array .int
  | 4 => .int
  | 5 => .int
  | _ => .int
abbrev wsX30 : List Cond := u_ws RX3 TX3 7
theorem nmX3 : ∀ a, a < 7 → ∀ b, b < 7 → a ≠ b → (TX3 a).2.1 ≠ (TX3 b).2.1 := by decide +kernel
theorem tyX3_ok : ∀ k, k < 7 → parseFieldDescriptor (TX3 k).2.2.1 = some (tyX3 k) := by decide +kernel
abbrev cX3_init : ByteArray := prog_5_method_1_code
def yX3_init : MethodName := ⟨RX3, "<init>", "()V"⟩
abbrev cX3_append : ByteArray := prog_5_method_2_code
def yX3_append : MethodName := ⟨RX3, "append", "(C)I"⟩
abbrev cX3_numberOf : ByteArray := prog_5_method_3_code
def yX3_numberOf : MethodName := ⟨RX3, "numberOf", "(II)I"⟩
abbrev cX3_formOf : ByteArray := prog_5_method_4_code
def yX3_formOf : MethodName := ⟨RX3, "formOf", "(I)Ljava/lang/String;"⟩
abbrev cX3_read : ByteArray := prog_5_method_5_code
def yX3_read : MethodName := ⟨RX3, "read", "()Z"⟩
abbrev cX3_readCommand : ByteArray := prog_5_method_6_code
def yX3_readCommand : MethodName := ⟨RX3, "readCommand", "(II)Z"⟩
abbrev cX3_fitsForm : ByteArray := prog_5_method_7_code
def yX3_fitsForm : MethodName := ⟨RX3, "fitsForm", "(Ljava/lang/String;II)Z"⟩
abbrev cX3_countDigits : ByteArray := prog_5_method_8_code
def yX3_countDigits : MethodName := ⟨RX3, "countDigits", "(I)I"⟩
abbrev cX3_valueOf : ByteArray := prog_5_method_9_code
def yX3_valueOf : MethodName := ⟨RX3, "valueOf", "(I)I"⟩
def RX4 : String := "PuddleBoatyard$SlipPlan"
def TX4 : u_T := fun k => match k with
  | 0 => ("PuddleBoatyard$SlipPlan", "hullOn", "[I", true)
  | 1 => ("PuddleBoatyard$SlipPlan", "asked", "[Z", true)
  | _ => ("PuddleBoatyard$SlipPlan", "uses", "[I", true)
def tyX4 : Nat → FieldType := fun k => match k with
  | 0 => .array .int
  | 1 => .array .boolean
  | _ => .array .int
abbrev wsX40 : List Cond := u_ws RX4 TX4 3
theorem nmX4 : ∀ a, a < 3 → ∀ b, b < 3 → a ≠ b → (TX4 a).2.1 ≠ (TX4 b).2.1 := by decide +kernel
theorem tyX4_ok : ∀ k, k < 3 → parseFieldDescriptor (TX4 k).2.2.1 = some (tyX4 k) := by decide +kernel
abbrev cX4_init : ByteArray := prog_6_method_1_code
def yX4_init : MethodName := ⟨RX4, "<init>", "()V"⟩
abbrev cX4_fits : ByteArray := prog_6_method_2_code
def yX4_fits : MethodName := ⟨RX4, "fits", "(LPuddleBoatyard$Yard;II)Z"⟩
abbrev cX4_clearSlips : ByteArray := prog_6_method_3_code
def yX4_clearSlips : MethodName := ⟨RX4, "clearSlips", "()V"⟩
abbrev cX4_mostByMoving : ByteArray := prog_6_method_4_code
def yX4_mostByMoving : MethodName := ⟨RX4, "mostByMoving", "(LPuddleBoatyard$Yard;)I"⟩
abbrev cX4_findsPlace : ByteArray := prog_6_method_5_code
def yX4_findsPlace : MethodName := ⟨RX4, "findsPlace", "(LPuddleBoatyard$Yard;II)Z"⟩
abbrev cX4_mostFromShortest : ByteArray := prog_6_method_6_code
def yX4_mostFromShortest : MethodName := ⟨RX4, "mostFromShortest", "(LPuddleBoatyard$Yard;)I"⟩
abbrev cX4_shortestFreeSlip : ByteArray := prog_6_method_7_code
def yX4_shortestFreeSlip : MethodName := ⟨RX4, "shortestFreeSlip", "(LPuddleBoatyard$Yard;I)I"⟩
abbrev cX4_countBestUses : ByteArray := prog_6_method_8_code
def yX4_countBestUses : MethodName := ⟨RX4, "countBestUses", "(LPuddleBoatyard$Yard;)I"⟩
abbrev cX4_addUsesWith : ByteArray := prog_6_method_9_code
def yX4_addUsesWith : MethodName := ⟨RX4, "addUsesWith", "(LPuddleBoatyard$Yard;I)V"⟩
def RX5 : String := "PuddleBoatyard$Stretches"
def TX5 : u_T := fun k => match k with
  | _ => ("PuddleBoatyard$Stretches", "lengths", "[[I", true)
def tyX5 : Nat → FieldType := fun k => match k with
  | _ => .array (.array .int)
abbrev wsX50 : List Cond := u_ws RX5 TX5 1
theorem nmX5 : ∀ a, a < 1 → ∀ b, b < 1 → a ≠ b → (TX5 a).2.1 ≠ (TX5 b).2.1 := by decide +kernel
theorem tyX5_ok : ∀ k, k < 1 → parseFieldDescriptor (TX5 k).2.2.1 = some (tyX5 k) := by decide +kernel
abbrev cX5_init : ByteArray := prog_7_method_1_code
def yX5_init : MethodName := ⟨RX5, "<init>", "()V"⟩
abbrev cX5_longestByTable : ByteArray := prog_7_method_2_code
def yX5_longestByTable : MethodName := ⟨RX5, "longestByTable", "(LPuddleBoatyard$Hull;LPuddleBoatyard$Hull;)I"⟩
abbrev cX5_longestByTrying : ByteArray := prog_7_method_3_code
def yX5_longestByTrying : MethodName := ⟨RX5, "longestByTrying", "(LPuddleBoatyard$Hull;LPuddleBoatyard$Hull;)I"⟩
abbrev cX5_lengthFrom : ByteArray := prog_7_method_4_code
def yX5_lengthFrom : MethodName := ⟨RX5, "lengthFrom", "(LPuddleBoatyard$Hull;ILPuddleBoatyard$Hull;I)I"⟩
def RX6 : String := "PuddleBoatyard$Yard"
def TX6 : u_T := fun k => match k with
  | 0 => ("PuddleBoatyard$Yard", "hulls", "[LPuddleBoatyard$Hull;", true)
  | 1 => ("PuddleBoatyard$Yard", "tides", "[I", true)
  | 2 => ("PuddleBoatyard$Yard", "slips", "[I", true)
  | 3 => ("PuddleBoatyard$Yard", "orders", "LPuddleBoatyard$Orders;", true)
  | 4 => ("PuddleBoatyard$Yard", "begun", "I", false)
  | 5 => ("PuddleBoatyard$Yard", "now", "I", false)
  | _ => ("PuddleBoatyard$Yard", "paid", "J", false)
def tyX6 : Nat → FieldType := fun k => match k with
  | 0 => .array (.object "PuddleBoatyard$Hull")
  | 1 => .array .int
  | 2 => .array .int
  | 3 => .object "PuddleBoatyard$Orders"
  | 4 => .int
  | 5 => .int
  | _ => .long
abbrev wsX60 : List Cond := u_ws RX6 TX6 7
theorem nmX6 : ∀ a, a < 7 → ∀ b, b < 7 → a ≠ b → (TX6 a).2.1 ≠ (TX6 b).2.1 := by decide +kernel
theorem tyX6_ok : ∀ k, k < 7 → parseFieldDescriptor (TX6 k).2.2.1 = some (tyX6 k) := by decide +kernel
abbrev cX6_init : ByteArray := prog_8_method_1_code
def yX6_init : MethodName := ⟨RX6, "<init>", "()V"⟩
abbrev cX6_become : ByteArray := prog_8_method_2_code
def yX6_become : MethodName := ⟨RX6, "become", "(LPuddleBoatyard$Yard;)V"⟩
abbrev cX6_hasHull : ByteArray := prog_8_method_3_code
def yX6_hasHull : MethodName := ⟨RX6, "hasHull", "(I)Z"⟩
abbrev cX6_tideIn : ByteArray := prog_8_method_4_code
def yX6_tideIn : MethodName := ⟨RX6, "tideIn", "(I)I"⟩
abbrev cX6_rankByWeight : ByteArray := prog_8_method_5_code
def yX6_rankByWeight : MethodName := ⟨RX6, "rankByWeight", "(I)I"⟩
abbrev cX6_refusalOf : ByteArray := prog_8_method_6_code
def yX6_refusalOf : MethodName := ⟨RX6, "refusalOf", "(I)I"⟩
abbrev cX6_faultOf : ByteArray := prog_8_method_7_code
def yX6_faultOf : MethodName := ⟨RX6, "faultOf", "(IIII)I"⟩
abbrev cX6_faultUnlessIn : ByteArray := prog_8_method_8_code
def yX6_faultUnlessIn : MethodName := ⟨RX6, "faultUnlessIn", "(III)I"⟩
abbrev cX6_faultOfFrame : ByteArray := prog_8_method_9_code
def yX6_faultOfFrame : MethodName := ⟨RX6, "faultOfFrame", "(III)I"⟩
abbrev cX6_faultOfUnits : ByteArray := prog_8_method_10_code
def yX6_faultOfUnits : MethodName := ⟨RX6, "faultOfUnits", "(IIII)I"⟩
abbrev cX6_faultOfLaunch : ByteArray := prog_8_method_11_code
def yX6_faultOfLaunch : MethodName := ⟨RX6, "faultOfLaunch", "(I)I"⟩
abbrev cX6_faultOfCaulking : ByteArray := prog_8_method_12_code
def yX6_faultOfCaulking : MethodName := ⟨RX6, "faultOfCaulking", "(II)I"⟩
abbrev cX6_faultOfOrder : ByteArray := prog_8_method_13_code
def yX6_faultOfOrder : MethodName := ⟨RX6, "faultOfOrder", "(III)I"⟩
abbrev cX6_faultOfDelivery : ByteArray := prog_8_method_14_code
def yX6_faultOfDelivery : MethodName := ⟨RX6, "faultOfDelivery", "(II)I"⟩
abbrev cX6_perform : ByteArray := prog_8_method_15_code
def yX6_perform : MethodName := ⟨RX6, "perform", "(IIII)I"⟩
abbrev cX6_replace : ByteArray := prog_8_method_16_code
def yX6_replace : MethodName := ⟨RX6, "replace", "([III)I"⟩
abbrev cX6_changeCargo : ByteArray := prog_8_method_17_code
def yX6_changeCargo : MethodName := ⟨RX6, "changeCargo", "(LPuddleBoatyard$Hull;I)I"⟩
abbrev cX6_letHoursPass : ByteArray := prog_8_method_18_code
def yX6_letHoursPass : MethodName := ⟨RX6, "letHoursPass", "(I)I"⟩
abbrev cX6_sinksInThisHour : ByteArray := prog_8_method_19_code
def yX6_sinksInThisHour : MethodName := ⟨RX6, "sinksInThisHour", "(LPuddleBoatyard$Hull;)Z"⟩
abbrev cX6_handOver : ByteArray := prog_8_method_20_code
def yX6_handOver : MethodName := ⟨RX6, "handOver", "(II)I"⟩
def RX7 : String := "PuddleBoatyard"
def TX7 : u_T := fun k => match k with
  | 0 => ("PuddleBoatyard", "yard", "LPuddleBoatyard$Yard;", true)
  | 1 => ("PuddleBoatyard", "history", "LPuddleBoatyard$History;", true)
  | 2 => ("PuddleBoatyard", "snapshot", "LPuddleBoatyard$Yard;", true)
  | 3 => ("PuddleBoatyard", "hasSnapshot", "Z", false)
  | 4 => ("PuddleBoatyard", "program", "LPuddleBoatyard$Program;", true)
  | 5 => ("PuddleBoatyard", "beforeProgram", "LPuddleBoatyard$Yard;", true)
  | 6 => ("PuddleBoatyard", "line", "Ljava/lang/StringBuilder;", true)
  | 7 => ("PuddleBoatyard", "lastRefusal", "I", false)
  | 8 => ("PuddleBoatyard", "lastErrorPosition", "I", false)
  | 9 => ("PuddleBoatyard", "lastFailedCommand", "I", false)
  | 10 => ("PuddleBoatyard", "stretches", "LPuddleBoatyard$Stretches;", true)
  | 11 => ("PuddleBoatyard", "slipPlan", "LPuddleBoatyard$SlipPlan;", true)
  | _ => ("PuddleBoatyard", "trialHull", "LPuddleBoatyard$Hull;", true)
def tyX7 : Nat → FieldType := fun k => match k with
  | 0 => .object "PuddleBoatyard$Yard"
  | 1 => .object "PuddleBoatyard$History"
  | 2 => .object "PuddleBoatyard$Yard"
  | 3 => .boolean
  | 4 => .object "PuddleBoatyard$Program"
  | 5 => .object "PuddleBoatyard$Yard"
  | 6 => .object "java/lang/StringBuilder"
  | 7 => .int
  | 8 => .int
  | 9 => .int
  | 10 => .object "PuddleBoatyard$Stretches"
  | 11 => .object "PuddleBoatyard$SlipPlan"
  | _ => .object "PuddleBoatyard$Hull"
abbrev wsX70 : List Cond := u_ws RX7 TX7 13
theorem nmX7 : ∀ a, a < 13 → ∀ b, b < 13 → a ≠ b → (TX7 a).2.1 ≠ (TX7 b).2.1 := by decide +kernel
theorem tyX7_ok : ∀ k, k < 13 → parseFieldDescriptor (TX7 k).2.2.1 = some (tyX7 k) := by decide +kernel
abbrev cX7_init : ByteArray := prog_1_method_1_code
def yX7_init : MethodName := ⟨RX7, "<init>", "()V"⟩
abbrev cX7_beginHull : ByteArray := prog_1_method_2_code
def yX7_beginHull : MethodName := ⟨RX7, "beginHull", "()I"⟩
abbrev cX7_addFrame : ByteArray := prog_1_method_3_code
def yX7_addFrame : MethodName := ⟨RX7, "addFrame", "(III)I"⟩
abbrev cX7_mirror : ByteArray := prog_1_method_4_code
def yX7_mirror : MethodName := ⟨RX7, "mirror", "(I)I"⟩
abbrev cX7_setCargo : ByteArray := prog_1_method_5_code
def yX7_setCargo : MethodName := ⟨RX7, "setCargo", "(II)I"⟩
abbrev cX7_launch : ByteArray := prog_1_method_6_code
def yX7_launch : MethodName := ⟨RX7, "launch", "(I)I"⟩
abbrev cX7_caulk : ByteArray := prog_1_method_7_code
def yX7_caulk : MethodName := ⟨RX7, "caulk", "(II)I"⟩
abbrev cX7_pump : ByteArray := prog_1_method_8_code
def yX7_pump : MethodName := ⟨RX7, "pump", "(II)I"⟩
abbrev cX7_hullCount : ByteArray := prog_1_method_9_code
def yX7_hullCount : MethodName := ⟨RX7, "hullCount", "()I"⟩
abbrev cX7_stateOf : ByteArray := prog_1_method_10_code
def yX7_stateOf : MethodName := ⟨RX7, "stateOf", "(I)I"⟩
abbrev cX7_frameCount : ByteArray := prog_1_method_11_code
def yX7_frameCount : MethodName := ⟨RX7, "frameCount", "(I)I"⟩
abbrev cX7_widthOf : ByteArray := prog_1_method_12_code
def yX7_widthOf : MethodName := ⟨RX7, "widthOf", "(IIZ)I"⟩
abbrev cX7_caulkingOf : ByteArray := prog_1_method_13_code
def yX7_caulkingOf : MethodName := ⟨RX7, "caulkingOf", "(II)I"⟩
abbrev cX7_waterIn : ByteArray := prog_1_method_14_code
def yX7_waterIn : MethodName := ⟨RX7, "waterIn", "(I)I"⟩
abbrev cX7_weightOf : ByteArray := prog_1_method_15_code
def yX7_weightOf : MethodName := ⟨RX7, "weightOf", "(I)I"⟩
abbrev cX7_draughtOf : ByteArray := prog_1_method_16_code
def yX7_draughtOf : MethodName := ⟨RX7, "draughtOf", "(I)I"⟩
abbrev cX7_draughtByHalving : ByteArray := prog_1_method_17_code
def yX7_draughtByHalving : MethodName := ⟨RX7, "draughtByHalving", "(I)I"⟩
abbrev cX7_heelOf : ByteArray := prog_1_method_18_code
def yX7_heelOf : MethodName := ⟨RX7, "heelOf", "(I)I"⟩
abbrev cX7_hullAtRank : ByteArray := prog_1_method_19_code
def yX7_hullAtRank : MethodName := ⟨RX7, "hullAtRank", "(I)I"⟩
abbrev cX7_isSymmetric : ByteArray := prog_1_method_20_code
def yX7_isSymmetric : MethodName := ⟨RX7, "isSymmetric", "(I)Z"⟩
abbrev cX7_isReflectionOf : ByteArray := prog_1_method_21_code
def yX7_isReflectionOf : MethodName := ⟨RX7, "isReflectionOf", "(II)Z"⟩
abbrev cX7_commonStretch : ByteArray := prog_1_method_22_code
def yX7_commonStretch : MethodName := ⟨RX7, "commonStretch", "(II)I"⟩
abbrev cX7_commonStretchByTrying : ByteArray := prog_1_method_23_code
def yX7_commonStretchByTrying : MethodName := ⟨RX7, "commonStretchByTrying", "(II)I"⟩
abbrev cX7_setTide : ByteArray := prog_1_method_24_code
def yX7_setTide : MethodName := ⟨RX7, "setTide", "(II)I"⟩
abbrev cX7_pass : ByteArray := prog_1_method_25_code
def yX7_pass : MethodName := ⟨RX7, "pass", "(I)I"⟩
abbrev cX7_hour : ByteArray := prog_1_method_26_code
def yX7_hour : MethodName := ⟨RX7, "hour", "()I"⟩
abbrev cX7_tideAfter : ByteArray := prog_1_method_27_code
def yX7_tideAfter : MethodName := ⟨RX7, "tideAfter", "(I)I"⟩
abbrev cX7_hoursToLaunch : ByteArray := prog_1_method_28_code
def yX7_hoursToLaunch : MethodName := ⟨RX7, "hoursToLaunch", "(I)I"⟩
abbrev cX7_hoursToLaunchByTides : ByteArray := prog_1_method_29_code
def yX7_hoursToLaunchByTides : MethodName := ⟨RX7, "hoursToLaunchByTides", "(I)I"⟩
abbrev cX7_hoursToSinking : ByteArray := prog_1_method_30_code
def yX7_hoursToSinking : MethodName := ⟨RX7, "hoursToSinking", "(I)I"⟩
abbrev cX7_setSlip : ByteArray := prog_1_method_31_code
def yX7_setSlip : MethodName := ⟨RX7, "setSlip", "(II)I"⟩
abbrev cX7_slipLength : ByteArray := prog_1_method_32_code
def yX7_slipLength : MethodName := ⟨RX7, "slipLength", "(I)I"⟩
abbrev cX7_mostOnSlips : ByteArray := prog_1_method_33_code
def yX7_mostOnSlips : MethodName := ⟨RX7, "mostOnSlips", "()I"⟩
abbrev cX7_mostOnSlipsByLengths : ByteArray := prog_1_method_34_code
def yX7_mostOnSlipsByLengths : MethodName := ⟨RX7, "mostOnSlipsByLengths", "()I"⟩
abbrev cX7_bestUses : ByteArray := prog_1_method_35_code
def yX7_bestUses : MethodName := ⟨RX7, "bestUses", "()I"⟩
abbrev cX7_addOrder : ByteArray := prog_1_method_36_code
def yX7_addOrder : MethodName := ⟨RX7, "addOrder", "(III)I"⟩
abbrev cX7_deliver : ByteArray := prog_1_method_37_code
def yX7_deliver : MethodName := ⟨RX7, "deliver", "(II)I"⟩
abbrev cX7_orderCount : ByteArray := prog_1_method_38_code
def yX7_orderCount : MethodName := ⟨RX7, "orderCount", "()I"⟩
abbrev cX7_orderAt : ByteArray := prog_1_method_39_code
def yX7_orderAt : MethodName := ⟨RX7, "orderAt", "(I)I"⟩
abbrev cX7_coinsFor : ByteArray := prog_1_method_40_code
def yX7_coinsFor : MethodName := ⟨RX7, "coinsFor", "(I)I"⟩
abbrev cX7_bestDelivery : ByteArray := prog_1_method_41_code
def yX7_bestDelivery : MethodName := ⟨RX7, "bestDelivery", "()I"⟩
abbrev cX7_paidCoins : ByteArray := prog_1_method_42_code
def yX7_paidCoins : MethodName := ⟨RX7, "paidCoins", "()J"⟩
abbrev cX7_hullsIn : ByteArray := prog_1_method_43_code
def yX7_hullsIn : MethodName := ⟨RX7, "hullsIn", "(I)I"⟩
abbrev cX7_refusalReason : ByteArray := prog_1_method_44_code
def yX7_refusalReason : MethodName := ⟨RX7, "refusalReason", "()I"⟩
abbrev cX7_meanWeight : ByteArray := prog_1_method_45_code
def yX7_meanWeight : MethodName := ⟨RX7, "meanWeight", "()D"⟩
abbrev cX7_writeHull : ByteArray := prog_1_method_46_code
def yX7_writeHull : MethodName := ⟨RX7, "writeHull", "(I)I"⟩
abbrev cX7_lineAt : ByteArray := prog_1_method_47_code
def yX7_lineAt : MethodName := ⟨RX7, "lineAt", "(I)C"⟩
abbrev cX7_type : ByteArray := prog_1_method_48_code
def yX7_type : MethodName := ⟨RX7, "type", "(C)I"⟩
abbrev cX7_execute : ByteArray := prog_1_method_49_code
def yX7_execute : MethodName := ⟨RX7, "execute", "()I"⟩
abbrev cX7_errorPosition : ByteArray := prog_1_method_50_code
def yX7_errorPosition : MethodName := ⟨RX7, "errorPosition", "()I"⟩
abbrev cX7_failedCommand : ByteArray := prog_1_method_51_code
def yX7_failedCommand : MethodName := ⟨RX7, "failedCommand", "()I"⟩
abbrev cX7_undo : ByteArray := prog_1_method_52_code
def yX7_undo : MethodName := ⟨RX7, "undo", "()I"⟩
abbrev cX7_save : ByteArray := prog_1_method_53_code
def yX7_save : MethodName := ⟨RX7, "save", "()I"⟩
abbrev cX7_restore : ByteArray := prog_1_method_54_code
def yX7_restore : MethodName := ⟨RX7, "restore", "()I"⟩
abbrev cX7_modify : ByteArray := prog_1_method_55_code
def yX7_modify : MethodName := ⟨RX7, "modify", "(IIII)I"⟩
abbrev cX7_storeIfRefusal : ByteArray := prog_1_method_56_code
def yX7_storeIfRefusal : MethodName := ⟨RX7, "storeIfRefusal", "(II)V"⟩
abbrev cX7_runProgram : ByteArray := prog_1_method_57_code
def yX7_runProgram : MethodName := ⟨RX7, "runProgram", "()I"⟩
abbrev cX7_throwFor : ByteArray := prog_1_method_58_code
def yX7_throwFor : MethodName := ⟨RX7, "throwFor", "(I)V"⟩
abbrev cX7_knownHull : ByteArray := prog_1_method_59_code
def yX7_knownHull : MethodName := ⟨RX7, "knownHull", "(I)LPuddleBoatyard$Hull;"⟩
abbrev cX7_knownDraught : ByteArray := prog_1_method_60_code
def yX7_knownDraught : MethodName := ⟨RX7, "knownDraught", "(I)I"⟩
abbrev cX7_draughtForLaunch : ByteArray := prog_1_method_61_code
def yX7_draughtForLaunch : MethodName := ⟨RX7, "draughtForLaunch", "(I)I"⟩
abbrev cX7_isFromTo : ByteArray := prog_1_method_62_code
def yX7_isFromTo : MethodName := ⟨RX7, "isFromTo", "(III)Z"⟩
abbrev cX7_stateLetter : ByteArray := prog_1_method_63_code
def yX7_stateLetter : MethodName := ⟨RX7, "stateLetter", "(I)C"⟩
def RX8 : String := "PuddleBoatyardModel"
def TX8 : u_T := fun k => match k with
  | 0 => ("PuddleBoatyardModel", "m", "[I", true)
  | 1 => ("PuddleBoatyardModel", "aside", "[I", true)
  | 2 => ("PuddleBoatyardModel", "saved", "[I", true)
  | 3 => ("PuddleBoatyardModel", "isSaved", "Z", false)
  | 4 => ("PuddleBoatyardModel", "past", "[I", true)
  | 5 => ("PuddleBoatyardModel", "changes", "I", false)
  | 6 => ("PuddleBoatyardModel", "errorAt", "I", false)
  | 7 => ("PuddleBoatyardModel", "failed", "I", false)
  | 8 => ("PuddleBoatyardModel", "refusal", "I", false)
  | 9 => ("PuddleBoatyardModel", "thrown", "I", false)
  | 10 => ("PuddleBoatyardModel", "input", "[I", true)
  | 11 => ("PuddleBoatyardModel", "inputMany", "I", false)
  | 12 => ("PuddleBoatyardModel", "caulks", "[I", true)
  | 13 => ("PuddleBoatyardModel", "most", "I", false)
  | 14 => ("PuddleBoatyardModel", "uses", "J", false)
  | 15 => ("PuddleBoatyardModel", "line", "[I", true)
  | 16 => ("PuddleBoatyardModel", "lineMany", "I", false)
  | 17 => ("PuddleBoatyardModel", "letters", "[C", true)
  | 18 => ("PuddleBoatyardModel", "begins0", "[I", true)
  | 19 => ("PuddleBoatyardModel", "commands", "[I", true)
  | 20 => ("PuddleBoatyardModel", "commandMany", "I", false)
  | 21 => ("PuddleBoatyardModel", "place0", "I", false)
  | 22 => ("PuddleBoatyardModel", "size0", "I", false)
  | _ => ("PuddleBoatyardModel", "isWrong", "Z", false)
def tyX8 : Nat → FieldType := fun k => match k with
  | 0 => .array .int
  | 1 => .array .int
  | 2 => .array .int
  | 3 => .boolean
  | 4 => .array .int
  | 5 => .int
  | 6 => .int
  | 7 => .int
  | 8 => .int
  | 9 => .int
  | 10 => .array .int
  | 11 => .int
  | 12 => .array .int
  | 13 => .int
  | 14 => .long
  | 15 => .array .int
  | 16 => .int
  | 17 => .array .char
  | 18 => .array .int
  | 19 => .array .int
  | 20 => .int
  | 21 => .int
  | 22 => .int
  | _ => .boolean
abbrev wsX80 : List Cond := u_ws RX8 TX8 24
theorem nmX8 : ∀ a, a < 24 → ∀ b, b < 24 → a ≠ b → (TX8 a).2.1 ≠ (TX8 b).2.1 := by decide +kernel
theorem tyX8_ok : ∀ k, k < 24 → parseFieldDescriptor (TX8 k).2.2.1 = some (tyX8 k) := by decide +kernel
abbrev cX8_init : ByteArray := prog_10_method_1_code
def yX8_init : MethodName := ⟨RX8, "<init>", "()V"⟩
abbrev cX8_thrown : ByteArray := prog_10_method_2_code
def yX8_thrown : MethodName := ⟨RX8, "thrown", "()I"⟩
abbrev cX8_throwing : ByteArray := prog_10_method_3_code
def yX8_throwing : MethodName := ⟨RX8, "throwing", "(I)I"⟩
abbrev cX8_in : ByteArray := prog_10_method_4_code
def yX8_in : MethodName := ⟨RX8, "in", "(JJJ)Z"⟩
abbrev cX8_starts : ByteArray := prog_10_method_5_code
def yX8_starts : MethodName := ⟨RX8, "starts", "()V"⟩
abbrev cX8_changed : ByteArray := prog_10_method_6_code
def yX8_changed : MethodName := ⟨RX8, "changed", "(I)I"⟩
abbrev cX8_hullAt : ByteArray := prog_10_method_7_code
def yX8_hullAt : MethodName := ⟨RX8, "hullAt", "(I)I"⟩
abbrev cX8_isHull : ByteArray := prog_10_method_8_code
def yX8_isHull : MethodName := ⟨RX8, "isHull", "(I)Z"⟩
abbrev cX8_state : ByteArray := prog_10_method_9_code
def yX8_state : MethodName := ⟨RX8, "state", "(I)I"⟩
abbrev cX8_frames : ByteArray := prog_10_method_10_code
def yX8_frames : MethodName := ⟨RX8, "frames", "(I)I"⟩
abbrev cX8_width : ByteArray := prog_10_method_11_code
def yX8_width : MethodName := ⟨RX8, "width", "(III)I"⟩
abbrev cX8_seams : ByteArray := prog_10_method_12_code
def yX8_seams : MethodName := ⟨RX8, "seams", "(I)I"⟩
abbrev cX8_dry : ByteArray := prog_10_method_13_code
def yX8_dry : MethodName := ⟨RX8, "dry", "(I)I"⟩
abbrev cX8_weight : ByteArray := prog_10_method_14_code
def yX8_weight : MethodName := ⟨RX8, "weight", "(I)I"⟩
abbrev cX8_draught : ByteArray := prog_10_method_15_code
def yX8_draught : MethodName := ⟨RX8, "draught", "(II)I"⟩
abbrev cX8_isWorked : ByteArray := prog_10_method_16_code
def yX8_isWorked : MethodName := ⟨RX8, "isWorked", "(I)Z"⟩
abbrev cX8_isSeam : ByteArray := prog_10_method_17_code
def yX8_isSeam : MethodName := ⟨RX8, "isSeam", "(II)Z"⟩
abbrev cX8_tide : ByteArray := prog_10_method_18_code
def yX8_tide : MethodName := ⟨RX8, "tide", "(I)I"⟩
abbrev cX8_find : ByteArray := prog_10_method_19_code
def yX8_find : MethodName := ⟨RX8, "find", "(I)I"⟩
abbrev cX8_coins : ByteArray := prog_10_method_20_code
def yX8_coins : MethodName := ⟨RX8, "coins", "(I)I"⟩
abbrev cX8_hullIt : ByteArray := prog_10_method_21_code
def yX8_hullIt : MethodName := ⟨RX8, "hullIt", "()I"⟩
abbrev cX8_beginHull : ByteArray := prog_10_method_22_code
def yX8_beginHull : MethodName := ⟨RX8, "beginHull", "()I"⟩
abbrev cX8_frameIt : ByteArray := prog_10_method_23_code
def yX8_frameIt : MethodName := ⟨RX8, "frameIt", "(III)I"⟩
abbrev cX8_addFrame : ByteArray := prog_10_method_24_code
def yX8_addFrame : MethodName := ⟨RX8, "addFrame", "(III)I"⟩
abbrev cX8_mirrorIt : ByteArray := prog_10_method_25_code
def yX8_mirrorIt : MethodName := ⟨RX8, "mirrorIt", "(I)I"⟩
abbrev cX8_mirror : ByteArray := prog_10_method_26_code
def yX8_mirror : MethodName := ⟨RX8, "mirror", "(I)I"⟩
abbrev cX8_cargoIt : ByteArray := prog_10_method_27_code
def yX8_cargoIt : MethodName := ⟨RX8, "cargoIt", "(II)I"⟩
abbrev cX8_setCargo : ByteArray := prog_10_method_28_code
def yX8_setCargo : MethodName := ⟨RX8, "setCargo", "(II)I"⟩
abbrev cX8_launchIt : ByteArray := prog_10_method_29_code
def yX8_launchIt : MethodName := ⟨RX8, "launchIt", "(I)I"⟩
abbrev cX8_launch : ByteArray := prog_10_method_30_code
def yX8_launch : MethodName := ⟨RX8, "launch", "(I)I"⟩
abbrev cX8_caulkIt : ByteArray := prog_10_method_31_code
def yX8_caulkIt : MethodName := ⟨RX8, "caulkIt", "(II)I"⟩
abbrev cX8_caulk : ByteArray := prog_10_method_32_code
def yX8_caulk : MethodName := ⟨RX8, "caulk", "(II)I"⟩
abbrev cX8_pumpIt : ByteArray := prog_10_method_33_code
def yX8_pumpIt : MethodName := ⟨RX8, "pumpIt", "(II)I"⟩
abbrev cX8_pump : ByteArray := prog_10_method_34_code
def yX8_pump : MethodName := ⟨RX8, "pump", "(II)I"⟩
abbrev cX8_tideIt : ByteArray := prog_10_method_35_code
def yX8_tideIt : MethodName := ⟨RX8, "tideIt", "(II)I"⟩
abbrev cX8_setTide : ByteArray := prog_10_method_36_code
def yX8_setTide : MethodName := ⟨RX8, "setTide", "(II)I"⟩
abbrev cX8_passesHour : ByteArray := prog_10_method_37_code
def yX8_passesHour : MethodName := ⟨RX8, "passesHour", "()I"⟩
abbrev cX8_hoursIt : ByteArray := prog_10_method_38_code
def yX8_hoursIt : MethodName := ⟨RX8, "hoursIt", "(I)I"⟩
abbrev cX8_pass : ByteArray := prog_10_method_39_code
def yX8_pass : MethodName := ⟨RX8, "pass", "(I)I"⟩
abbrev cX8_setSlip : ByteArray := prog_10_method_40_code
def yX8_setSlip : MethodName := ⟨RX8, "setSlip", "(II)I"⟩
abbrev cX8_orderIt : ByteArray := prog_10_method_41_code
def yX8_orderIt : MethodName := ⟨RX8, "orderIt", "(III)I"⟩
abbrev cX8_addOrder : ByteArray := prog_10_method_42_code
def yX8_addOrder : MethodName := ⟨RX8, "addOrder", "(III)I"⟩
abbrev cX8_deliverIt : ByteArray := prog_10_method_43_code
def yX8_deliverIt : MethodName := ⟨RX8, "deliverIt", "(II)I"⟩
abbrev cX8_deliver : ByteArray := prog_10_method_44_code
def yX8_deliver : MethodName := ⟨RX8, "deliver", "(II)I"⟩
abbrev cX8_hullCount : ByteArray := prog_10_method_45_code
def yX8_hullCount : MethodName := ⟨RX8, "hullCount", "()I"⟩
abbrev cX8_ofHull : ByteArray := prog_10_method_46_code
def yX8_ofHull : MethodName := ⟨RX8, "ofHull", "(II)I"⟩
abbrev cX8_stateOf : ByteArray := prog_10_method_47_code
def yX8_stateOf : MethodName := ⟨RX8, "stateOf", "(I)I"⟩
abbrev cX8_frameCount : ByteArray := prog_10_method_48_code
def yX8_frameCount : MethodName := ⟨RX8, "frameCount", "(I)I"⟩
abbrev cX8_widthOf : ByteArray := prog_10_method_49_code
def yX8_widthOf : MethodName := ⟨RX8, "widthOf", "(IIZ)I"⟩
abbrev cX8_caulkingOf : ByteArray := prog_10_method_50_code
def yX8_caulkingOf : MethodName := ⟨RX8, "caulkingOf", "(II)I"⟩
abbrev cX8_waterIn : ByteArray := prog_10_method_51_code
def yX8_waterIn : MethodName := ⟨RX8, "waterIn", "(I)I"⟩
abbrev cX8_weightOf : ByteArray := prog_10_method_52_code
def yX8_weightOf : MethodName := ⟨RX8, "weightOf", "(I)I"⟩
abbrev cX8_draughtOf : ByteArray := prog_10_method_53_code
def yX8_draughtOf : MethodName := ⟨RX8, "draughtOf", "(I)I"⟩
abbrev cX8_draughtByHalving : ByteArray := prog_10_method_54_code
def yX8_draughtByHalving : MethodName := ⟨RX8, "draughtByHalving", "(I)I"⟩
abbrev cX8_heelOf : ByteArray := prog_10_method_55_code
def yX8_heelOf : MethodName := ⟨RX8, "heelOf", "(I)I"⟩
abbrev cX8_hullAtRank : ByteArray := prog_10_method_56_code
def yX8_hullAtRank : MethodName := ⟨RX8, "hullAtRank", "(I)I"⟩
abbrev cX8_isMirrored : ByteArray := prog_10_method_57_code
def yX8_isMirrored : MethodName := ⟨RX8, "isMirrored", "(IIII)Z"⟩
abbrev cX8_isReflection : ByteArray := prog_10_method_58_code
def yX8_isReflection : MethodName := ⟨RX8, "isReflection", "(II)Z"⟩
abbrev cX8_isSymmetric : ByteArray := prog_10_method_59_code
def yX8_isSymmetric : MethodName := ⟨RX8, "isSymmetric", "(I)Z"⟩
abbrev cX8_isReflectionOf : ByteArray := prog_10_method_60_code
def yX8_isReflectionOf : MethodName := ⟨RX8, "isReflectionOf", "(II)Z"⟩
abbrev cX8_commonStretch : ByteArray := prog_10_method_61_code
def yX8_commonStretch : MethodName := ⟨RX8, "commonStretch", "(II)I"⟩
abbrev cX8_commonStretchByTrying : ByteArray := prog_10_method_62_code
def yX8_commonStretchByTrying : MethodName := ⟨RX8, "commonStretchByTrying", "(II)I"⟩
abbrev cX8_hour : ByteArray := prog_10_method_63_code
def yX8_hour : MethodName := ⟨RX8, "hour", "()I"⟩
abbrev cX8_tideAfter : ByteArray := prog_10_method_64_code
def yX8_tideAfter : MethodName := ⟨RX8, "tideAfter", "(I)I"⟩
abbrev cX8_hoursToLaunch : ByteArray := prog_10_method_65_code
def yX8_hoursToLaunch : MethodName := ⟨RX8, "hoursToLaunch", "(I)I"⟩
abbrev cX8_hoursToLaunchByTides : ByteArray := prog_10_method_66_code
def yX8_hoursToLaunchByTides : MethodName := ⟨RX8, "hoursToLaunchByTides", "(I)I"⟩
abbrev cX8_hoursToSinking : ByteArray := prog_10_method_67_code
def yX8_hoursToSinking : MethodName := ⟨RX8, "hoursToSinking", "(I)I"⟩
abbrev cX8_slipLength : ByteArray := prog_10_method_68_code
def yX8_slipLength : MethodName := ⟨RX8, "slipLength", "(I)I"⟩
abbrev cX8_useOf : ByteArray := prog_10_method_69_code
def yX8_useOf : MethodName := ⟨RX8, "useOf", "(I)I"⟩
abbrev cX8_worksUses : ByteArray := prog_10_method_70_code
def yX8_worksUses : MethodName := ⟨RX8, "worksUses", "()V"⟩
abbrev cX8_mostOnSlips : ByteArray := prog_10_method_71_code
def yX8_mostOnSlips : MethodName := ⟨RX8, "mostOnSlips", "()I"⟩
abbrev cX8_mostOnSlipsByLengths : ByteArray := prog_10_method_72_code
def yX8_mostOnSlipsByLengths : MethodName := ⟨RX8, "mostOnSlipsByLengths", "()I"⟩
abbrev cX8_bestUses : ByteArray := prog_10_method_73_code
def yX8_bestUses : MethodName := ⟨RX8, "bestUses", "()I"⟩
abbrev cX8_orderCount : ByteArray := prog_10_method_74_code
def yX8_orderCount : MethodName := ⟨RX8, "orderCount", "()I"⟩
abbrev cX8_orderAt : ByteArray := prog_10_method_75_code
def yX8_orderAt : MethodName := ⟨RX8, "orderAt", "(I)I"⟩
abbrev cX8_coinsFor : ByteArray := prog_10_method_76_code
def yX8_coinsFor : MethodName := ⟨RX8, "coinsFor", "(I)I"⟩
abbrev cX8_before : ByteArray := prog_10_method_77_code
def yX8_before : MethodName := ⟨RX8, "before", "(I)I"⟩
abbrev cX8_bestDelivery : ByteArray := prog_10_method_78_code
def yX8_bestDelivery : MethodName := ⟨RX8, "bestDelivery", "()I"⟩
abbrev cX8_paidCoins : ByteArray := prog_10_method_79_code
def yX8_paidCoins : MethodName := ⟨RX8, "paidCoins", "()J"⟩
abbrev cX8_hullsIn : ByteArray := prog_10_method_80_code
def yX8_hullsIn : MethodName := ⟨RX8, "hullsIn", "(I)I"⟩
abbrev cX8_refusalReason : ByteArray := prog_10_method_81_code
def yX8_refusalReason : MethodName := ⟨RX8, "refusalReason", "()I"⟩
abbrev cX8_meanWeight : ByteArray := prog_10_method_82_code
def yX8_meanWeight : MethodName := ⟨RX8, "meanWeight", "()D"⟩
abbrev cX8_sign : ByteArray := prog_10_method_83_code
def yX8_sign : MethodName := ⟨RX8, "sign", "(I)V"⟩
abbrev cX8_writesNumber : ByteArray := prog_10_method_84_code
def yX8_writesNumber : MethodName := ⟨RX8, "writesNumber", "(I)V"⟩
abbrev cX8_writeHull : ByteArray := prog_10_method_85_code
def yX8_writeHull : MethodName := ⟨RX8, "writeHull", "(I)I"⟩
abbrev cX8_lineAt : ByteArray := prog_10_method_86_code
def yX8_lineAt : MethodName := ⟨RX8, "lineAt", "(I)C"⟩
abbrev cX8_type : ByteArray := prog_10_method_87_code
def yX8_type : MethodName := ⟨RX8, "type", "(C)I"⟩
abbrev cX8_here : ByteArray := prog_10_method_88_code
def yX8_here : MethodName := ⟨RX8, "here", "()I"⟩
abbrev cX8_expects : ByteArray := prog_10_method_89_code
def yX8_expects : MethodName := ⟨RX8, "expects", "(I)V"⟩
abbrev cX8_digit : ByteArray := prog_10_method_90_code
def yX8_digit : MethodName := ⟨RX8, "digit", "()I"⟩
abbrev cX8_number : ByteArray := prog_10_method_91_code
def yX8_number : MethodName := ⟨RX8, "number", "()I"⟩
abbrev cX8_digitBehind : ByteArray := prog_10_method_92_code
def yX8_digitBehind : MethodName := ⟨RX8, "digitBehind", "()I"⟩
abbrev cX8_numberBehind : ByteArray := prog_10_method_93_code
def yX8_numberBehind : MethodName := ⟨RX8, "numberBehind", "(I)I"⟩
abbrev cX8_likeness : ByteArray := prog_10_method_94_code
def yX8_likeness : MethodName := ⟨RX8, "likeness", "(I)I"⟩
abbrev cX8_readArguments : ByteArray := prog_10_method_95_code
def yX8_readArguments : MethodName := ⟨RX8, "readArguments", "(II)V"⟩
abbrev cX8_readCommand : ByteArray := prog_10_method_96_code
def yX8_readCommand : MethodName := ⟨RX8, "readCommand", "()V"⟩
abbrev cX8_does : ByteArray := prog_10_method_97_code
def yX8_does : MethodName := ⟨RX8, "does", "(I)V"⟩
abbrev cX8_execute : ByteArray := prog_10_method_98_code
def yX8_execute : MethodName := ⟨RX8, "execute", "()I"⟩
abbrev cX8_errorPosition : ByteArray := prog_10_method_99_code
def yX8_errorPosition : MethodName := ⟨RX8, "errorPosition", "()I"⟩
abbrev cX8_failedCommand : ByteArray := prog_10_method_100_code
def yX8_failedCommand : MethodName := ⟨RX8, "failedCommand", "()I"⟩
abbrev cX8_undo : ByteArray := prog_10_method_101_code
def yX8_undo : MethodName := ⟨RX8, "undo", "()I"⟩
abbrev cX8_save : ByteArray := prog_10_method_102_code
def yX8_save : MethodName := ⟨RX8, "save", "()I"⟩
abbrev cX8_restore : ByteArray := prog_10_method_103_code
def yX8_restore : MethodName := ⟨RX8, "restore", "()I"⟩
def RJx145de : String := "java/io/Serializable"
def TJx145de : u_T := fun k => match k with
  | _ => ("", "", "", false)
def tyJx145de : Nat → FieldType := fun k => match k with
  | _ => .int
abbrev wsJx145de0 : List Cond := u_ws RJx145de TJx145de 0
theorem nmJx145de : ∀ a, a < 0 → ∀ b, b < 0 → a ≠ b → (TJx145de a).2.1 ≠ (TJx145de b).2.1 := by decide +kernel
theorem tyJx145de_ok : ∀ k, k < 0 → parseFieldDescriptor (TJx145de k).2.2.1 = some (tyJx145de k) := by decide +kernel
def RJ5 : String := "java/lang/AbstractStringBuilder"
def TJ5 : u_T := fun k => match k with
  | _ => ("", "", "", false)
def tyJ5 : Nat → FieldType := fun k => match k with
  | _ => .int
abbrev wsJ50 : List Cond := u_ws RJ5 TJ5 0
theorem nmJ5 : ∀ a, a < 0 → ∀ b, b < 0 → a ≠ b → (TJ5 a).2.1 ≠ (TJ5 b).2.1 := by decide +kernel
theorem tyJ5_ok : ∀ k, k < 0 → parseFieldDescriptor (TJ5 k).2.2.1 = some (tyJ5 k) := by decide +kernel
abbrev cJ5_init_d00df : ByteArray := prog_12_method_2_code
def yJ5_init_d00df : MethodName := ⟨RJ5, "<init>", "(I)V"⟩
abbrev cJ5_length_8abf5 : ByteArray := prog_12_method_6_code
def yJ5_length_8abf5 : MethodName := ⟨RJ5, "length", "()I"⟩
abbrev cJ5_ensureCapacityInternal_d00df : ByteArray := prog_12_method_9_code
def yJ5_ensureCapacityInternal_d00df : MethodName := ⟨RJ5, "ensureCapacityInternal", "(I)V"⟩
abbrev cJ5_newCapacity_0f7a4 : ByteArray := prog_12_method_10_code
def yJ5_newCapacity_0f7a4 : MethodName := ⟨RJ5, "newCapacity", "(I)I"⟩
abbrev cJ5_inflate_da8c8 : ByteArray := prog_12_method_11_code
def yJ5_inflate_da8c8 : MethodName := ⟨RJ5, "inflate", "()V"⟩
abbrev cJ5_setLength_d00df : ByteArray := prog_12_method_13_code
def yJ5_setLength_d00df : MethodName := ⟨RJ5, "setLength", "(I)V"⟩
abbrev cJ5_charAt_5068e : ByteArray := prog_12_method_14_code
def yJ5_charAt_5068e : MethodName := ⟨RJ5, "charAt", "(I)C"⟩
abbrev cJ5_append_cf1ce : ByteArray := prog_12_method_22_code
def yJ5_append_cf1ce : MethodName := ⟨RJ5, "append", "(Ljava/lang/String;)Ljava/lang/AbstractStringBuilder;"⟩
abbrev cJ5_appendNull_278bc : ByteArray := prog_12_method_26_code
def yJ5_appendNull_278bc : MethodName := ⟨RJ5, "appendNull", "()Ljava/lang/AbstractStringBuilder;"⟩
abbrev cJ5_append_3fe6f : ByteArray := prog_12_method_31_code
def yJ5_append_3fe6f : MethodName := ⟨RJ5, "append", "(C)Ljava/lang/AbstractStringBuilder;"⟩
abbrev cJ5_append_c97b9 : ByteArray := prog_12_method_32_code
def yJ5_append_c97b9 : MethodName := ⟨RJ5, "append", "(I)Ljava/lang/AbstractStringBuilder;"⟩
abbrev cJ5_getValue_6d5f1 : ByteArray := prog_12_method_64_code
def yJ5_getValue_6d5f1 : MethodName := ⟨RJ5, "getValue", "()[B"⟩
abbrev cJ5_isLatin1_aae02 : ByteArray := prog_12_method_68_code
def yJ5_isLatin1_aae02 : MethodName := ⟨RJ5, "isLatin1", "()Z"⟩
abbrev cJ5_inflateIfNeededFor_a7421 : ByteArray := prog_12_method_71_code
def yJ5_inflateIfNeededFor_a7421 : MethodName := ⟨RJ5, "inflateIfNeededFor", "(Ljava/lang/String;)V"⟩
abbrev cJ5_putStringAt_47b60 : ByteArray := prog_12_method_73_code
def yJ5_putStringAt_47b60 : MethodName := ⟨RJ5, "putStringAt", "(ILjava/lang/String;)V"⟩
def RJx2cfe8 : String := "java/lang/Appendable"
def TJx2cfe8 : u_T := fun k => match k with
  | _ => ("", "", "", false)
def tyJx2cfe8 : Nat → FieldType := fun k => match k with
  | _ => .int
abbrev wsJx2cfe80 : List Cond := u_ws RJx2cfe8 TJx2cfe8 0
theorem nmJx2cfe8 : ∀ a, a < 0 → ∀ b, b < 0 → a ≠ b → (TJx2cfe8 a).2.1 ≠ (TJx2cfe8 b).2.1 := by decide +kernel
theorem tyJx2cfe8_ok : ∀ k, k < 0 → parseFieldDescriptor (TJx2cfe8 k).2.2.1 = some (tyJx2cfe8 k) := by decide +kernel
def RJx00060 : String := "java/lang/ArrayIndexOutOfBoundsException"
def TJx00060 : u_T := fun k => match k with
  | 0 => ("java/lang/Throwable", "backtrace", "Ljava/lang/Object;", false)
  | 1 => ("java/lang/Throwable", "detailMessage", "Ljava/lang/String;", false)
  | 2 => ("java/lang/Throwable", "cause", "Ljava/lang/Throwable;", false)
  | 3 => ("java/lang/Throwable", "stackTrace", "[Ljava/lang/StackTraceElement;", false)
  | 4 => ("java/lang/Throwable", "depth", "I", false)
  | _ => ("java/lang/Throwable", "suppressedExceptions", "Ljava/util/List;", false)
def tyJx00060 : Nat → FieldType := fun k => match k with
  | 0 => .object "java/lang/Object"
  | 1 => .object "java/lang/String"
  | 2 => .object "java/lang/Throwable"
  | 3 => .array (.object "java/lang/StackTraceElement")
  | 4 => .int
  | _ => .object "java/util/List"
abbrev wsJx000600 : List Cond := u_ws RJx00060 TJx00060 6
theorem nmJx00060 : ∀ a, a < 6 → ∀ b, b < 6 → a ≠ b → (TJx00060 a).2.1 ≠ (TJx00060 b).2.1 := by decide +kernel
theorem tyJx00060_ok : ∀ k, k < 6 → parseFieldDescriptor (TJx00060 k).2.2.1 = some (tyJx00060 k) := by decide +kernel
abbrev cJx00060_init_a7421 : ByteArray := prog_15_method_2_code
def yJx00060_init_a7421 : MethodName := ⟨RJx00060, "<init>", "(Ljava/lang/String;)V"⟩
abbrev cJx00060_init_d00df : ByteArray := prog_15_method_3_code
def yJx00060_init_d00df : MethodName := ⟨RJx00060, "<init>", "(I)V"⟩
def RJx9f9b0 : String := "java/lang/CharSequence"
def TJx9f9b0 : u_T := fun k => match k with
  | _ => ("", "", "", false)
def tyJx9f9b0 : Nat → FieldType := fun k => match k with
  | _ => .int
abbrev wsJx9f9b00 : List Cond := u_ws RJx9f9b0 TJx9f9b0 0
theorem nmJx9f9b0 : ∀ a, a < 0 → ∀ b, b < 0 → a ≠ b → (TJx9f9b0 a).2.1 ≠ (TJx9f9b0 b).2.1 := by decide +kernel
theorem tyJx9f9b0_ok : ∀ k, k < 0 → parseFieldDescriptor (TJx9f9b0 k).2.2.1 = some (tyJx9f9b0 k) := by decide +kernel
def RJx8e188 : String := "java/lang/Cloneable"
def TJx8e188 : u_T := fun k => match k with
  | _ => ("", "", "", false)
def tyJx8e188 : Nat → FieldType := fun k => match k with
  | _ => .int
abbrev wsJx8e1880 : List Cond := u_ws RJx8e188 TJx8e188 0
theorem nmJx8e188 : ∀ a, a < 0 → ∀ b, b < 0 → a ≠ b → (TJx8e188 a).2.1 ≠ (TJx8e188 b).2.1 := by decide +kernel
theorem tyJx8e188_ok : ∀ k, k < 0 → parseFieldDescriptor (TJx8e188 k).2.2.1 = some (tyJx8e188 k) := by decide +kernel
def RJxb160c : String := "java/lang/Comparable"
def TJxb160c : u_T := fun k => match k with
  | _ => ("", "", "", false)
def tyJxb160c : Nat → FieldType := fun k => match k with
  | _ => .int
abbrev wsJxb160c0 : List Cond := u_ws RJxb160c TJxb160c 0
theorem nmJxb160c : ∀ a, a < 0 → ∀ b, b < 0 → a ≠ b → (TJxb160c a).2.1 ≠ (TJxb160c b).2.1 := by decide +kernel
theorem tyJxb160c_ok : ∀ k, k < 0 → parseFieldDescriptor (TJxb160c k).2.2.1 = some (tyJxb160c k) := by decide +kernel
def RJ6 : String := "java/lang/Integer"
def TJ6 : u_T := fun k => match k with
  | _ => ("", "", "", false)
def tyJ6 : Nat → FieldType := fun k => match k with
  | _ => .int
abbrev wsJ60 : List Cond := u_ws RJ6 TJ6 0
theorem nmJ6 : ∀ a, a < 0 → ∀ b, b < 0 → a ≠ b → (TJ6 a).2.1 ≠ (TJ6 b).2.1 := by decide +kernel
theorem tyJ6_ok : ∀ k, k < 0 → parseFieldDescriptor (TJ6 k).2.2.1 = some (tyJ6 k) := by decide +kernel
abbrev cJ6_getChars_ba4f3 : ByteArray := prog_23_method_12_code
def yJ6_getChars_ba4f3 : MethodName := ⟨RJ6, "getChars", "(II[B)I"⟩
abbrev cJ6_stringSize_0f7a4 : ByteArray := prog_23_method_13_code
def yJ6_stringSize_0f7a4 : MethodName := ⟨RJ6, "stringSize", "(I)I"⟩
abbrev cJ6_bitCount_0f7a4 : ByteArray := prog_23_method_49_code
def yJ6_bitCount_0f7a4 : MethodName := ⟨RJ6, "bitCount", "(I)I"⟩
def RJ9 : String := "java/lang/Math"
def TJ9 : u_T := fun k => match k with
  | _ => ("", "", "", false)
def tyJ9 : Nat → FieldType := fun k => match k with
  | _ => .int
abbrev wsJ90 : List Cond := u_ws RJ9 TJ9 0
theorem nmJ9 : ∀ a, a < 0 → ∀ b, b < 0 → a ≠ b → (TJ9 a).2.1 ≠ (TJ9 b).2.1 := by decide +kernel
theorem tyJ9_ok : ∀ k, k < 0 → parseFieldDescriptor (TJ9 k).2.2.1 = some (tyJ9 k) := by decide +kernel
abbrev cJ9_floorMod_7cf53 : ByteArray := prog_24_method_50_code
def yJ9_floorMod_7cf53 : MethodName := ⟨RJ9, "floorMod", "(II)I"⟩
abbrev cJ9_max_7cf53 : ByteArray := prog_24_method_65_code
def yJ9_max_7cf53 : MethodName := ⟨RJ9, "max", "(II)I"⟩
abbrev cJ9_min_7cf53 : ByteArray := prog_24_method_69_code
def yJ9_min_7cf53 : MethodName := ⟨RJ9, "min", "(II)I"⟩
def RJxd2413 : String := "java/lang/Number"
def TJxd2413 : u_T := fun k => match k with
  | _ => ("", "", "", false)
def tyJxd2413 : Nat → FieldType := fun k => match k with
  | _ => .int
abbrev wsJxd24130 : List Cond := u_ws RJxd2413 TJxd2413 0
theorem nmJxd2413 : ∀ a, a < 0 → ∀ b, b < 0 → a ≠ b → (TJxd2413 a).2.1 ≠ (TJxd2413 b).2.1 := by decide +kernel
theorem tyJxd2413_ok : ∀ k, k < 0 → parseFieldDescriptor (TJxd2413 k).2.2.1 = some (tyJxd2413 k) := by decide +kernel
def RJ0 : String := "java/lang/String"
def TJ0 : u_T := fun k => match k with
  | 0 => ("java/lang/String", "value", "[B", true)
  | 1 => ("java/lang/String", "coder", "B", true)
  | 2 => ("java/lang/String", "hash", "I", false)
  | _ => ("java/lang/String", "hashIsZero", "Z", false)
def tyJ0 : Nat → FieldType := fun k => match k with
  | 0 => .array .byte
  | 1 => .byte
  | 2 => .int
  | _ => .boolean
abbrev wsJ00 : List Cond := u_ws RJ0 TJ0 4
theorem nmJ0 : ∀ a, a < 4 → ∀ b, b < 4 → a ≠ b → (TJ0 a).2.1 ≠ (TJ0 b).2.1 := by decide +kernel
theorem tyJ0_ok : ∀ k, k < 4 → parseFieldDescriptor (TJ0 k).2.2.1 = some (tyJ0 k) := by decide +kernel
abbrev cJ0_init_81219 : ByteArray := prog_27_method_53_code
def yJ0_init_81219 : MethodName := ⟨RJ0, "<init>", "(Ljava/lang/StringBuilder;)V"⟩
abbrev cJ0_length_8abf5 : ByteArray := prog_27_method_54_code
def yJ0_length_8abf5 : MethodName := ⟨RJ0, "length", "()I"⟩
abbrev cJ0_charAt_5068e : ByteArray := prog_27_method_56_code
def yJ0_charAt_5068e : MethodName := ⟨RJ0, "charAt", "(I)C"⟩
abbrev cJ0_getBytes_840e7 : ByteArray := prog_27_method_147_code
def yJ0_getBytes_840e7 : MethodName := ⟨RJ0, "getBytes", "([BIB)V"⟩
abbrev cJ0_init_db425 : ByteArray := prog_27_method_150_code
def yJ0_init_db425 : MethodName := ⟨RJ0, "<init>", "(Ljava/lang/AbstractStringBuilder;Ljava/lang/Void;)V"⟩
abbrev cJ0_coder_7d493 : ByteArray := prog_27_method_152_code
def yJ0_coder_7d493 : MethodName := ⟨RJ0, "coder", "()B"⟩
abbrev cJ0_isLatin1_aae02 : ByteArray := prog_27_method_154_code
def yJ0_isLatin1_aae02 : MethodName := ⟨RJ0, "isLatin1", "()Z"⟩
abbrev cJ0_checkIndex_df160 : ByteArray := prog_27_method_155_code
def yJ0_checkIndex_df160 : MethodName := ⟨RJ0, "checkIndex", "(II)V"⟩
abbrev cJ0_checkBoundsOffCount_cabcc : ByteArray := prog_27_method_157_code
def yJ0_checkBoundsOffCount_cabcc : MethodName := ⟨RJ0, "checkBoundsOffCount", "(III)I"⟩
abbrev cJ0_checkBoundsBeginEnd_23922 : ByteArray := prog_27_method_158_code
def yJ0_checkBoundsBeginEnd_23922 : MethodName := ⟨RJ0, "checkBoundsBeginEnd", "(III)V"⟩
def RJ4 : String := "java/lang/StringBuilder"
def TJ4 : u_T := fun k => match k with
  | 0 => ("java/lang/AbstractStringBuilder", "value", "[B", false)
  | 1 => ("java/lang/AbstractStringBuilder", "coder", "B", false)
  | 2 => ("java/lang/AbstractStringBuilder", "maybeLatin1", "Z", false)
  | _ => ("java/lang/AbstractStringBuilder", "count", "I", false)
def tyJ4 : Nat → FieldType := fun k => match k with
  | 0 => .array .byte
  | 1 => .byte
  | 2 => .boolean
  | _ => .int
abbrev wsJ40 : List Cond := u_ws RJ4 TJ4 4
theorem nmJ4 : ∀ a, a < 4 → ∀ b, b < 4 → a ≠ b → (TJ4 a).2.1 ≠ (TJ4 b).2.1 := by decide +kernel
theorem tyJ4_ok : ∀ k, k < 4 → parseFieldDescriptor (TJ4 k).2.2.1 = some (tyJ4 k) := by decide +kernel
abbrev cJ4_init_da8c8 : ByteArray := prog_28_method_1_code
def yJ4_init_da8c8 : MethodName := ⟨RJ4, "<init>", "()V"⟩
abbrev cJ4_append_15ec4 : ByteArray := prog_28_method_7_code
def yJ4_append_15ec4 : MethodName := ⟨RJ4, "append", "(Ljava/lang/String;)Ljava/lang/StringBuilder;"⟩
abbrev cJ4_append_cf468 : ByteArray := prog_28_method_14_code
def yJ4_append_cf468 : MethodName := ⟨RJ4, "append", "(C)Ljava/lang/StringBuilder;"⟩
abbrev cJ4_append_bf812 : ByteArray := prog_28_method_15_code
def yJ4_append_bf812 : MethodName := ⟨RJ4, "append", "(I)Ljava/lang/StringBuilder;"⟩
abbrev cJ4_toString_0e30d : ByteArray := prog_28_method_42_code
def yJ4_toString_0e30d : MethodName := ⟨RJ4, "toString", "()Ljava/lang/String;"⟩
abbrev cJ4_charAt_5068e : ByteArray := prog_28_method_88_code
def yJ4_charAt_5068e : MethodName := ⟨RJ4, "charAt", "(I)C"⟩
abbrev cJ4_setLength_d00df : ByteArray := prog_28_method_89_code
def yJ4_setLength_d00df : MethodName := ⟨RJ4, "setLength", "(I)V"⟩
abbrev cJ4_length_8abf5 : ByteArray := prog_28_method_93_code
def yJ4_length_8abf5 : MethodName := ⟨RJ4, "length", "()I"⟩
def RJx7c733 : String := "java/lang/StringIndexOutOfBoundsException"
def TJx7c733 : u_T := fun k => match k with
  | 0 => ("java/lang/Throwable", "backtrace", "Ljava/lang/Object;", false)
  | 1 => ("java/lang/Throwable", "detailMessage", "Ljava/lang/String;", false)
  | 2 => ("java/lang/Throwable", "cause", "Ljava/lang/Throwable;", false)
  | 3 => ("java/lang/Throwable", "stackTrace", "[Ljava/lang/StackTraceElement;", false)
  | 4 => ("java/lang/Throwable", "depth", "I", false)
  | _ => ("java/lang/Throwable", "suppressedExceptions", "Ljava/util/List;", false)
def tyJx7c733 : Nat → FieldType := fun k => match k with
  | 0 => .object "java/lang/Object"
  | 1 => .object "java/lang/String"
  | 2 => .object "java/lang/Throwable"
  | 3 => .array (.object "java/lang/StackTraceElement")
  | 4 => .int
  | _ => .object "java/util/List"
abbrev wsJx7c7330 : List Cond := u_ws RJx7c733 TJx7c733 6
theorem nmJx7c733 : ∀ a, a < 6 → ∀ b, b < 6 → a ≠ b → (TJx7c733 a).2.1 ≠ (TJx7c733 b).2.1 := by decide +kernel
theorem tyJx7c733_ok : ∀ k, k < 6 → parseFieldDescriptor (TJx7c733 k).2.2.1 = some (tyJx7c733 k) := by decide +kernel
abbrev cJx7c733_init_d00df : ByteArray := prog_29_method_3_code
def yJx7c733_init_d00df : MethodName := ⟨RJx7c733, "<init>", "(I)V"⟩
def RJ1 : String := "java/lang/StringLatin1"
def TJ1 : u_T := fun k => match k with
  | _ => ("", "", "", false)
def tyJ1 : Nat → FieldType := fun k => match k with
  | _ => .int
abbrev wsJ10 : List Cond := u_ws RJ1 TJ1 0
theorem nmJ1 : ∀ a, a < 0 → ∀ b, b < 0 → a ≠ b → (TJ1 a).2.1 ≠ (TJ1 b).2.1 := by decide +kernel
theorem tyJ1_ok : ∀ k, k < 0 → parseFieldDescriptor (TJ1 k).2.2.1 = some (tyJ1 k) := by decide +kernel
abbrev cJ1_charAt_3b067 : ByteArray := prog_30_method_2_code
def yJ1_charAt_3b067 : MethodName := ⟨RJ1, "charAt", "([BI)C"⟩
abbrev cJ1_canEncode_fc78d : ByteArray := prog_30_method_3_code
def yJ1_canEncode_fc78d : MethodName := ⟨RJ1, "canEncode", "(C)Z"⟩
abbrev cJ1_fillNull_b72d1 : ByteArray := prog_30_method_48_code
def yJ1_fillNull_b72d1 : MethodName := ⟨RJ1, "fillNull", "([BII)V"⟩
abbrev cJ1_inflate_0e8fd : ByteArray := prog_30_method_50_code
def yJ1_inflate_0e8fd : MethodName := ⟨RJ1, "inflate", "([BI[BII)V"⟩
def RJ2 : String := "java/lang/StringUTF16"
def TJ2 : u_T := fun k => match k with
  | _ => ("", "", "", false)
def tyJ2 : Nat → FieldType := fun k => match k with
  | _ => .int
abbrev wsJ20 : List Cond := u_ws RJ2 TJ2 0
theorem nmJ2 : ∀ a, a < 0 → ∀ b, b < 0 → a ≠ b → (TJ2 a).2.1 ≠ (TJ2 b).2.1 := by decide +kernel
theorem tyJ2_ok : ∀ k, k < 0 → parseFieldDescriptor (TJ2 k).2.2.1 = some (tyJ2 k) := by decide +kernel
abbrev cJ2_newBytesFor_77867 : ByteArray := prog_31_method_2_code
def yJ2_newBytesFor_77867 : MethodName := ⟨RJ2, "newBytesFor", "(I)[B"⟩
abbrev cJ2_newBytesLength_0f7a4 : ByteArray := prog_31_method_3_code
def yJ2_newBytesLength_0f7a4 : MethodName := ⟨RJ2, "newBytesLength", "(I)I"⟩
abbrev cJ2_putChar_b72d1 : ByteArray := prog_31_method_4_code
def yJ2_putChar_b72d1 : MethodName := ⟨RJ2, "putChar", "([BII)V"⟩
abbrev cJ2_getChar_3b067 : ByteArray := prog_31_method_5_code
def yJ2_getChar_3b067 : MethodName := ⟨RJ2, "getChar", "([BI)C"⟩
abbrev cJ2_length_9d52b : ByteArray := prog_31_method_6_code
def yJ2_length_9d52b : MethodName := ⟨RJ2, "length", "([B)I"⟩
abbrev cJ2_coderFromArrayLen_85cad : ByteArray := prog_31_method_15_code
def yJ2_coderFromArrayLen_85cad : MethodName := ⟨RJ2, "coderFromArrayLen", "([BI)B"⟩
abbrev cJ2_compress_39247 : ByteArray := prog_31_method_17_code
def yJ2_compress_39247 : MethodName := ⟨RJ2, "compress", "([BII)[B"⟩
abbrev cJ2_compress_5af95 : ByteArray := prog_31_method_22_code
def yJ2_compress_5af95 : MethodName := ⟨RJ2, "compress", "([BI[BII)I"⟩
abbrev cJ2_fillNull_b72d1 : ByteArray := prog_31_method_70_code
def yJ2_fillNull_b72d1 : MethodName := ⟨RJ2, "fillNull", "([BII)V"⟩
abbrev cJ2_putCharSB_b72d1 : ByteArray := prog_31_method_71_code
def yJ2_putCharSB_b72d1 : MethodName := ⟨RJ2, "putCharSB", "([BII)V"⟩
abbrev cJ2_getChars_46870 : ByteArray := prog_31_method_77_code
def yJ2_getChars_46870 : MethodName := ⟨RJ2, "getChars", "(III[B)I"⟩
abbrev cJ2_putCharsAt_cd4e5 : ByteArray := prog_31_method_81_code
def yJ2_putCharsAt_cd4e5 : MethodName := ⟨RJ2, "putCharsAt", "([BICCCC)I"⟩
abbrev cJ2_charAt_3b067 : ByteArray := prog_31_method_83_code
def yJ2_charAt_3b067 : MethodName := ⟨RJ2, "charAt", "([BI)C"⟩
abbrev cJ2_inflate_0e8fd : ByteArray := prog_31_method_86_code
def yJ2_inflate_0e8fd : MethodName := ⟨RJ2, "inflate", "([BI[BII)V"⟩
abbrev cJ2_getChars_ba4f3 : ByteArray := prog_31_method_89_code
def yJ2_getChars_ba4f3 : MethodName := ⟨RJ2, "getChars", "(II[B)I"⟩
abbrev cJ2_checkIndex_2214a : ByteArray := prog_31_method_91_code
def yJ2_checkIndex_2214a : MethodName := ⟨RJ2, "checkIndex", "(I[B)V"⟩
abbrev cJ2_checkBoundsBeginEnd_d044e : ByteArray := prog_31_method_93_code
def yJ2_checkBoundsBeginEnd_d044e : MethodName := ⟨RJ2, "checkBoundsBeginEnd", "(II[B)V"⟩
abbrev cJ2_checkBoundsOffCount_d044e : ByteArray := prog_31_method_94_code
def yJ2_checkBoundsOffCount_d044e : MethodName := ⟨RJ2, "checkBoundsOffCount", "(II[B)V"⟩
def RJ10 : String := "java/lang/System"
def TJ10 : u_T := fun k => match k with
  | _ => ("", "", "", false)
def tyJ10 : Nat → FieldType := fun k => match k with
  | _ => .int
abbrev wsJ100 : List Cond := u_ws RJ10 TJ10 0
theorem nmJ10 : ∀ a, a < 0 → ∀ b, b < 0 → a ≠ b → (TJ10 a).2.1 ≠ (TJ10 b).2.1 := by decide +kernel
theorem tyJ10_ok : ∀ k, k < 0 → parseFieldDescriptor (TJ10 k).2.2.1 = some (tyJ10 k) := by decide +kernel
def RJxfd54e : String := "java/lang/constant/Constable"
def TJxfd54e : u_T := fun k => match k with
  | _ => ("", "", "", false)
def tyJxfd54e : Nat → FieldType := fun k => match k with
  | _ => .int
abbrev wsJxfd54e0 : List Cond := u_ws RJxfd54e TJxfd54e 0
theorem nmJxfd54e : ∀ a, a < 0 → ∀ b, b < 0 → a ≠ b → (TJxfd54e a).2.1 ≠ (TJxfd54e b).2.1 := by decide +kernel
theorem tyJxfd54e_ok : ∀ k, k < 0 → parseFieldDescriptor (TJxfd54e k).2.2.1 = some (tyJxfd54e k) := by decide +kernel
def RJx3cf43 : String := "java/lang/constant/ConstantDesc"
def TJx3cf43 : u_T := fun k => match k with
  | _ => ("", "", "", false)
def tyJx3cf43 : Nat → FieldType := fun k => match k with
  | _ => .int
abbrev wsJx3cf430 : List Cond := u_ws RJx3cf43 TJx3cf43 0
theorem nmJx3cf43 : ∀ a, a < 0 → ∀ b, b < 0 → a ≠ b → (TJx3cf43 a).2.1 ≠ (TJx3cf43 b).2.1 := by decide +kernel
theorem tyJx3cf43_ok : ∀ k, k < 0 → parseFieldDescriptor (TJx3cf43 k).2.2.1 = some (tyJx3cf43 k) := by decide +kernel
def RJ7 : String := "java/util/Arrays"
def TJ7 : u_T := fun k => match k with
  | _ => ("", "", "", false)
def tyJ7 : Nat → FieldType := fun k => match k with
  | _ => .int
abbrev wsJ70 : List Cond := u_ws RJ7 TJ7 0
theorem nmJ7 : ∀ a, a < 0 → ∀ b, b < 0 → a ≠ b → (TJ7 a).2.1 ≠ (TJ7 b).2.1 := by decide +kernel
theorem tyJ7_ok : ∀ k, k < 0 → parseFieldDescriptor (TJ7 k).2.2.1 = some (tyJ7 k) := by decide +kernel
abbrev cJ7_rangeCheck_23922 : ByteArray := prog_37_method_30_code
def yJ7_rangeCheck_23922 : MethodName := ⟨RJ7, "rangeCheck", "(III)V"⟩
abbrev cJ7_fill_eb02e : ByteArray := prog_37_method_110_code
def yJ7_fill_eb02e : MethodName := ⟨RJ7, "fill", "([BIIB)V"⟩
abbrev cJ7_copyOf_9075b : ByteArray := prog_37_method_121_code
def yJ7_copyOf_9075b : MethodName := ⟨RJ7, "copyOf", "([BI)[B"⟩
abbrev cJ7_checkLength_df160 : ByteArray := prog_37_method_131_code
def yJ7_checkLength_df160 : MethodName := ⟨RJ7, "checkLength", "(II)V"⟩
abbrev cJ7_copyOfRange_39247 : ByteArray := prog_37_method_132_code
def yJ7_copyOfRange_39247 : MethodName := ⟨RJ7, "copyOfRange", "([BII)[B"⟩
abbrev cJ7_copyOfRangeByte_39247 : ByteArray := prog_37_method_133_code
def yJ7_copyOfRangeByte_39247 : MethodName := ⟨RJ7, "copyOfRangeByte", "([BII)[B"⟩
def RJ8 : String := "jdk/internal/util/ArraysSupport"
def TJ8 : u_T := fun k => match k with
  | _ => ("", "", "", false)
def tyJ8 : Nat → FieldType := fun k => match k with
  | _ => .int
abbrev wsJ80 : List Cond := u_ws RJ8 TJ8 0
theorem nmJ8 : ∀ a, a < 0 → ∀ b, b < 0 → a ≠ b → (TJ8 a).2.1 ≠ (TJ8 b).2.1 := by decide +kernel
theorem tyJ8_ok : ∀ k, k < 0 → parseFieldDescriptor (TJ8 k).2.2.1 = some (tyJ8 k) := by decide +kernel
abbrev cJ8_newLength_cabcc : ByteArray := prog_39_method_27_code
def yJ8_newLength_cabcc : MethodName := ⟨RJ8, "newLength", "(III)I"⟩
abbrev cJ8_hugeLength_7cf53 : ByteArray := prog_39_method_28_code
def yJ8_hugeLength_7cf53 : MethodName := ⟨RJ8, "hugeLength", "(II)I"⟩
def RJ3 : String := "jdk/internal/util/Preconditions"
def TJ3 : u_T := fun k => match k with
  | _ => ("", "", "", false)
def tyJ3 : Nat → FieldType := fun k => match k with
  | _ => .int
abbrev wsJ30 : List Cond := u_ws RJ3 TJ3 0
theorem nmJ3 : ∀ a, a < 0 → ∀ b, b < 0 → a ≠ b → (TJ3 a).2.1 ≠ (TJ3 b).2.1 := by decide +kernel
theorem tyJ3_ok : ∀ k, k < 0 → parseFieldDescriptor (TJ3 k).2.2.1 = some (tyJ3 k) := by decide +kernel
abbrev cJ3_checkIndex_8e157 : ByteArray := prog_40_method_11_code
def yJ3_checkIndex_8e157 : MethodName := ⟨RJ3, "checkIndex", "(IILjava/util/function/BiFunction;)I"⟩
abbrev cJ3_checkFromToIndex_8c36e : ByteArray := prog_40_method_12_code
def yJ3_checkFromToIndex_8c36e : MethodName := ⟨RJ3, "checkFromToIndex", "(IIILjava/util/function/BiFunction;)I"⟩
abbrev cJ3_checkFromIndexSize_8c36e : ByteArray := prog_40_method_13_code
def yJ3_checkFromIndexSize_8c36e : MethodName := ⟨RJ3, "checkFromIndexSize", "(IIILjava/util/function/BiFunction;)I"⟩
def RL : String := "PuddleBoatyardLaw"
abbrev cL_beginHull : ByteArray := method_3_code
def yL_beginHull : MethodName := ⟨RL, "beginHull", "(LPuddleBoatyard;[J)I"⟩
abbrev cL_addFrame : ByteArray := method_4_code
def yL_addFrame : MethodName := ⟨RL, "addFrame", "(LPuddleBoatyard;III[J)I"⟩
abbrev cL_mirror : ByteArray := method_5_code
def yL_mirror : MethodName := ⟨RL, "mirror", "(LPuddleBoatyard;I[J)I"⟩
abbrev cL_setCargo : ByteArray := method_6_code
def yL_setCargo : MethodName := ⟨RL, "setCargo", "(LPuddleBoatyard;II[J)I"⟩
abbrev cL_launch : ByteArray := method_7_code
def yL_launch : MethodName := ⟨RL, "launch", "(LPuddleBoatyard;I[J)I"⟩
abbrev cL_caulk : ByteArray := method_8_code
def yL_caulk : MethodName := ⟨RL, "caulk", "(LPuddleBoatyard;II[J)I"⟩
abbrev cL_pump : ByteArray := method_9_code
def yL_pump : MethodName := ⟨RL, "pump", "(LPuddleBoatyard;II[J)I"⟩
abbrev cL_stateOf : ByteArray := method_10_code
def yL_stateOf : MethodName := ⟨RL, "stateOf", "(LPuddleBoatyard;I[J)I"⟩
abbrev cL_frameCount : ByteArray := method_11_code
def yL_frameCount : MethodName := ⟨RL, "frameCount", "(LPuddleBoatyard;I[J)I"⟩
abbrev cL_widthOf : ByteArray := method_12_code
def yL_widthOf : MethodName := ⟨RL, "widthOf", "(LPuddleBoatyard;IIZ[J)I"⟩
abbrev cL_caulkingOf : ByteArray := method_13_code
def yL_caulkingOf : MethodName := ⟨RL, "caulkingOf", "(LPuddleBoatyard;II[J)I"⟩
abbrev cL_waterIn : ByteArray := method_14_code
def yL_waterIn : MethodName := ⟨RL, "waterIn", "(LPuddleBoatyard;I[J)I"⟩
abbrev cL_weightOf : ByteArray := method_15_code
def yL_weightOf : MethodName := ⟨RL, "weightOf", "(LPuddleBoatyard;I[J)I"⟩
abbrev cL_draughtOf : ByteArray := method_16_code
def yL_draughtOf : MethodName := ⟨RL, "draughtOf", "(LPuddleBoatyard;I[J)I"⟩
abbrev cL_draughtByHalving : ByteArray := method_17_code
def yL_draughtByHalving : MethodName := ⟨RL, "draughtByHalving", "(LPuddleBoatyard;I[J)I"⟩
abbrev cL_heelOf : ByteArray := method_18_code
def yL_heelOf : MethodName := ⟨RL, "heelOf", "(LPuddleBoatyard;I[J)I"⟩
abbrev cL_hullAtRank : ByteArray := method_19_code
def yL_hullAtRank : MethodName := ⟨RL, "hullAtRank", "(LPuddleBoatyard;I[J)I"⟩
abbrev cL_isSymmetric : ByteArray := method_20_code
def yL_isSymmetric : MethodName := ⟨RL, "isSymmetric", "(LPuddleBoatyard;I[J)I"⟩
abbrev cL_isReflectionOf : ByteArray := method_21_code
def yL_isReflectionOf : MethodName := ⟨RL, "isReflectionOf", "(LPuddleBoatyard;II[J)I"⟩
abbrev cL_commonStretch : ByteArray := method_22_code
def yL_commonStretch : MethodName := ⟨RL, "commonStretch", "(LPuddleBoatyard;II[J)I"⟩
abbrev cL_commonStretchByTrying : ByteArray := method_23_code
def yL_commonStretchByTrying : MethodName := ⟨RL, "commonStretchByTrying", "(LPuddleBoatyard;II[J)I"⟩
abbrev cL_setTide : ByteArray := method_24_code
def yL_setTide : MethodName := ⟨RL, "setTide", "(LPuddleBoatyard;II[J)I"⟩
abbrev cL_pass : ByteArray := method_25_code
def yL_pass : MethodName := ⟨RL, "pass", "(LPuddleBoatyard;I[J)I"⟩
abbrev cL_tideAfter : ByteArray := method_26_code
def yL_tideAfter : MethodName := ⟨RL, "tideAfter", "(LPuddleBoatyard;I[J)I"⟩
abbrev cL_hoursToLaunch : ByteArray := method_27_code
def yL_hoursToLaunch : MethodName := ⟨RL, "hoursToLaunch", "(LPuddleBoatyard;I[J)I"⟩
abbrev cL_hoursToLaunchByTides : ByteArray := method_28_code
def yL_hoursToLaunchByTides : MethodName := ⟨RL, "hoursToLaunchByTides", "(LPuddleBoatyard;I[J)I"⟩
abbrev cL_hoursToSinking : ByteArray := method_29_code
def yL_hoursToSinking : MethodName := ⟨RL, "hoursToSinking", "(LPuddleBoatyard;I[J)I"⟩
abbrev cL_setSlip : ByteArray := method_30_code
def yL_setSlip : MethodName := ⟨RL, "setSlip", "(LPuddleBoatyard;II[J)I"⟩
abbrev cL_slipLength : ByteArray := method_31_code
def yL_slipLength : MethodName := ⟨RL, "slipLength", "(LPuddleBoatyard;I[J)I"⟩
abbrev cL_addOrder : ByteArray := method_32_code
def yL_addOrder : MethodName := ⟨RL, "addOrder", "(LPuddleBoatyard;III[J)I"⟩
abbrev cL_deliver : ByteArray := method_33_code
def yL_deliver : MethodName := ⟨RL, "deliver", "(LPuddleBoatyard;II[J)I"⟩
abbrev cL_orderAt : ByteArray := method_34_code
def yL_orderAt : MethodName := ⟨RL, "orderAt", "(LPuddleBoatyard;I[J)I"⟩
abbrev cL_coinsFor : ByteArray := method_35_code
def yL_coinsFor : MethodName := ⟨RL, "coinsFor", "(LPuddleBoatyard;I[J)I"⟩
abbrev cL_hullsIn : ByteArray := method_36_code
def yL_hullsIn : MethodName := ⟨RL, "hullsIn", "(LPuddleBoatyard;I[J)I"⟩
abbrev cL_refusalReason : ByteArray := method_37_code
def yL_refusalReason : MethodName := ⟨RL, "refusalReason", "(LPuddleBoatyard;[J)I"⟩
abbrev cL_meanWeight : ByteArray := method_38_code
def yL_meanWeight : MethodName := ⟨RL, "meanWeight", "(LPuddleBoatyard;[D)I"⟩
abbrev cL_writeHull : ByteArray := method_39_code
def yL_writeHull : MethodName := ⟨RL, "writeHull", "(LPuddleBoatyard;I[J)I"⟩
abbrev cL_lineAt : ByteArray := method_40_code
def yL_lineAt : MethodName := ⟨RL, "lineAt", "(LPuddleBoatyard;I[J)I"⟩
abbrev cL_type : ByteArray := method_41_code
def yL_type : MethodName := ⟨RL, "type", "(LPuddleBoatyard;C[J)I"⟩
abbrev cL_execute : ByteArray := method_42_code
def yL_execute : MethodName := ⟨RL, "execute", "(LPuddleBoatyard;[J)I"⟩
abbrev cL_errorPosition : ByteArray := method_43_code
def yL_errorPosition : MethodName := ⟨RL, "errorPosition", "(LPuddleBoatyard;[J)I"⟩
abbrev cL_failedCommand : ByteArray := method_44_code
def yL_failedCommand : MethodName := ⟨RL, "failedCommand", "(LPuddleBoatyard;[J)I"⟩
abbrev cL_undo : ByteArray := method_45_code
def yL_undo : MethodName := ⟨RL, "undo", "(LPuddleBoatyard;[J)I"⟩
abbrev cL_restore : ByteArray := method_46_code
def yL_restore : MethodName := ⟨RL, "restore", "(LPuddleBoatyard;[J)I"⟩
abbrev cL_law : ByteArray := code
def yL_law : MethodName := ⟨RL, "law", "([I)Z"⟩
abbrev vwCl : List vw_C := [(RJ0, TJ0, 4), (RJ4, TJ4, 4), (RJx00060, TJx00060, 6), (RJx7c733, TJx7c733, 6), (RX0, TX0, 3), (RX1, TX1, 7), (RX2, TX2, 7), (RX3, TX3, 7), (RX4, TX4, 3), (RX5, TX5, 1), (RX6, TX6, 7), (RX7, TX7, 13), (RX8, TX8, 24)]
end
section
/-! FLAT MEMORY: every int, long and double of the worlds at (kind, yard, place, slot); references are (kind, yard, place) -/
abbrev fV : Type := (Nat × Nat × Nat) ⊕ (Int32 ⊕ (Int64 ⊕ UInt64))
abbrev fM : Type := (Nat → Nat → Nat → Nat → Int32) × (Nat → Nat → Nat → Nat → Int64) × (Nat → Nat → Nat → Nat → UInt64)
abbrev vR (c y h : Nat) : fV := Sum.inl (c, y, h)
abbrev vI (x : Int32) : fV := Sum.inr (Sum.inl x)
abbrev vL (x : Int64) : fV := Sum.inr (Sum.inr (Sum.inl x))
abbrev vD (x : UInt64) : fV := Sum.inr (Sum.inr (Sum.inr x))
/-- what a method answers: a value or none (.inl), or the number of the exception that it throws (.inr); and the memory behind it -/
abbrev fR : Type := (Option fV ⊕ Nat) × fM
abbrev fS : Type := List fV → fM → Option fR
def fI (μ : fM) (c y h k : Nat) (v : Int32) : fM := (fun c' y' h' k' => if c' = c ∧ k' = k ∧ y' = y ∧ h' = h then v else μ.1 c' y' h' k', μ.2)
def fJ (μ : fM) (c y h k : Nat) (v : Int64) : fM := (μ.1, fun c' y' h' k' => if c' = c ∧ k' = k ∧ y' = y ∧ h' = h then v else μ.2.1 c' y' h' k', μ.2.2)
def fD (μ : fM) (c y h k : Nat) (v : UInt64) : fM := (μ.1, μ.2.1, fun c' y' h' k' => if c' = c ∧ k' = k ∧ y' = y ∧ h' = h then v else μ.2.2 c' y' h' k')
/-- the exceptions by their numbers -/
def fexn : List String := ["java/lang/IndexOutOfBoundsException", "java/lang/IllegalArgumentException", "java/lang/IllegalStateException", "java/lang/UnsupportedOperationException", "java/util/NoSuchElementException", "java/lang/ArithmeticException"]
def fcl : List vw_C := [(RX0, TX0, 3), (RX1, TX1, 7), (RX2, TX2, 7), (RX3, TX3, 7), (RX4, TX4, 3), (RX5, TX5, 1), (RX6, TX6, 7), (RX7, TX7, 13), (RX8, TX8, 24), (RJ4, TJ4, 4)]
/-- the fields' codes: 0 int, 1 boolean, 2 long, 3 reference -/
def fkfL : List (List Nat) := [[3, 0, 0], [3, 3, 3, 0, 0, 0, 0], [3, 3, 3, 3, 3, 0, 0], [3, 0, 3, 3, 0, 0, 0], [3, 3, 3], [3], [3, 3, 3, 3, 0, 0, 2], [3, 3, 3, 1, 3, 3, 3, 0, 0, 0, 3, 3, 3], [3, 3, 3, 1, 3, 0, 0, 0, 0, 0, 3, 0, 3, 0, 2, 3, 0, 3, 3, 3, 0, 0, 0, 1]]
/-- where a field that is a reference points: kind, and yard and place, each the object's own (1) or a constant -/
def frfL : List (List (Nat × Nat × Nat × Nat × Nat)) := [[(29, 0, 0, 0, 0), (0, 0, 0, 0, 0), (0, 0, 0, 0, 0)], [(10, 1, 0, 1, 0), (11, 1, 0, 1, 0), (12, 1, 0, 1, 0), (0, 0, 0, 0, 0), (0, 0, 0, 0, 0), (0, 0, 0, 0, 0), (0, 0, 0, 0, 0)], [(16, 1, 0, 1, 0), (17, 1, 0, 1, 0), (18, 1, 0, 1, 0), (19, 1, 0, 1, 0), (20, 1, 0, 1, 0), (0, 0, 0, 0, 0), (0, 0, 0, 0, 0)], [(21, 0, 0, 0, 0), (0, 0, 0, 0, 0), (22, 0, 0, 0, 0), (23, 0, 0, 0, 0), (0, 0, 0, 0, 0), (0, 0, 0, 0, 0), (0, 0, 0, 0, 0)], [(24, 0, 0, 0, 0), (25, 0, 0, 0, 0), (26, 0, 0, 0, 0)], [(27, 0, 0, 0, 0)], [(13, 1, 0, 1, 0), (14, 1, 0, 1, 0), (15, 1, 0, 1, 0), (2, 1, 0, 1, 0), (0, 0, 0, 0, 0), (0, 0, 0, 0, 0), (0, 0, 0, 0, 0)], [(6, 0, 0, 0, 0), (0, 0, 0, 0, 0), (6, 0, 1, 0, 0), (0, 0, 0, 0, 0), (3, 0, 0, 0, 0), (6, 0, 2, 0, 0), (51, 0, 0, 0, 0), (0, 0, 0, 0, 0), (0, 0, 0, 0, 0), (0, 0, 0, 0, 0), (5, 0, 0, 0, 0), (4, 0, 0, 0, 0), (1, 0, 11, 0, 0)], [(30, 0, 0, 0, 0), (31, 0, 0, 0, 0), (32, 0, 0, 0, 0), (0, 0, 0, 0, 0), (33, 0, 0, 0, 0), (0, 0, 0, 0, 0), (0, 0, 0, 0, 0), (0, 0, 0, 0, 0), (0, 0, 0, 0, 0), (0, 0, 0, 0, 0), (34, 0, 0, 0, 0), (0, 0, 0, 0, 0), (35, 0, 0, 0, 0), (0, 0, 0, 0, 0), (0, 0, 0, 0, 0), (36, 0, 0, 0, 0), (0, 0, 0, 0, 0), (37, 0, 0, 0, 0), (38, 0, 0, 0, 0), (39, 0, 0, 0, 0), (0, 0, 0, 0, 0), (0, 0, 0, 0, 0), (0, 0, 0, 0, 0), (0, 0, 0, 0, 0)]]
def ftgt (q : Nat × Nat × Nat × Nat × Nat) (y h : Nat) : Nat × Nat × Nat := (q.1, bif Nat.beq q.2.1 1 then y else q.2.2.1, bif Nat.beq q.2.2.2.1 1 then h else q.2.2.2.2)
/-- the value of field k of the object (c, y, h) -/
def ffv (μ : fM) (c y h k : Nat) : fV := match (fkfL.getD c []).getD k 0 with
  | 0 => vI (μ.1 c y h k)
  | 1 => vI (μ.1 c y h k)
  | 2 => vL (μ.2.1 c y h k)
  | _ => Sum.inl (ftgt ((frfL.getD c []).getD k (0, 0, 0, 0, 0)) y h)
/-- arrays: code of the elements (0 int, 1 boolean, 2 char, 3 long, 4 double, 5 Hull, 6 Yard, 7 int[]) and length -/
def fal (c : Nat) : Nat × Nat := (bif Nat.ble c 25 then (bif Nat.ble c 17 then (bif Nat.ble c 13 then (bif Nat.ble c 11 then (bif Nat.ble c 10 then (bif Nat.beq c 10 then (0, 8) else (9, 0)) else (bif Nat.beq c 11 then (0, 8) else (9, 0))) else (bif Nat.ble c 12 then (bif Nat.beq c 12 then (0, 8) else (9, 0)) else (bif Nat.beq c 13 then (5, 6) else (9, 0)))) else (bif Nat.ble c 15 then (bif Nat.ble c 14 then (bif Nat.beq c 14 then (0, 12) else (9, 0)) else (bif Nat.beq c 15 then (0, 4) else (9, 0))) else (bif Nat.ble c 16 then (bif Nat.beq c 16 then (0, 6) else (9, 0)) else (bif Nat.beq c 17 then (0, 6) else (9, 0))))) else (bif Nat.ble c 21 then (bif Nat.ble c 19 then (bif Nat.ble c 18 then (bif Nat.beq c 18 then (0, 6) else (9, 0)) else (bif Nat.beq c 19 then (0, 6) else (9, 0))) else (bif Nat.ble c 20 then (bif Nat.beq c 20 then (1, 6) else (9, 0)) else (bif Nat.beq c 21 then (2, 60) else (9, 0)))) else (bif Nat.ble c 23 then (bif Nat.ble c 22 then (bif Nat.beq c 22 then (0, 12) else (9, 0)) else (bif Nat.beq c 23 then (0, 36) else (9, 0))) else (bif Nat.ble c 24 then (bif Nat.beq c 24 then (0, 4) else (9, 0)) else (bif Nat.beq c 25 then (1, 4) else (9, 0)))))) else (bif Nat.ble c 33 then (bif Nat.ble c 29 then (bif Nat.ble c 27 then (bif Nat.ble c 26 then (bif Nat.beq c 26 then (0, 64) else (9, 0)) else (bif Nat.beq c 27 then (7, 9) else (9, 0))) else (bif Nat.ble c 28 then (bif Nat.beq c 28 then (0, 9) else (9, 0)) else (bif Nat.beq c 29 then (6, 8) else (9, 0)))) else (bif Nat.ble c 31 then (bif Nat.ble c 30 then (bif Nat.beq c 30 then (0, 213) else (9, 0)) else (bif Nat.beq c 31 then (0, 213) else (9, 0))) else (bif Nat.ble c 32 then (bif Nat.beq c 32 then (0, 213) else (9, 0)) else (bif Nat.beq c 33 then (0, 1704) else (9, 0))))) else (bif Nat.ble c 37 then (bif Nat.ble c 35 then (bif Nat.ble c 34 then (bif Nat.beq c 34 then (0, 60) else (9, 0)) else (bif Nat.beq c 35 then (0, 8) else (9, 0))) else (bif Nat.ble c 36 then (bif Nat.beq c 36 then (0, 100) else (9, 0)) else (bif Nat.beq c 37 then (2, 66) else (9, 0)))) else (bif Nat.ble c 39 then (bif Nat.ble c 38 then (bif Nat.beq c 38 then (0, 12) else (9, 0)) else (bif Nat.beq c 39 then (0, 244) else (9, 0))) else (bif Nat.ble c 40 then (bif Nat.beq c 40 then (3, 1) else (9, 0)) else (bif Nat.beq c 41 then (4, 1) else (9, 0)))))))
def fel (c y i : Nat) : Nat × Nat × Nat := bif Nat.beq c 13 then (1, y, i) else bif Nat.beq c 29 then (6, 3 + i, 0) else (28, 0, i)
def frefs : List (Nat × Nat × Nat) := [(0, 0, 0), (1, 0, 0), (1, 0, 1), (1, 0, 2), (1, 0, 3), (1, 0, 4), (1, 0, 5), (1, 1, 0), (1, 1, 1), (1, 1, 2), (1, 1, 3), (1, 1, 4), (1, 1, 5), (1, 2, 0), (1, 2, 1), (1, 2, 2), (1, 2, 3), (1, 2, 4), (1, 2, 5), (1, 3, 0), (1, 3, 1), (1, 3, 2), (1, 3, 3), (1, 3, 4), (1, 3, 5), (1, 4, 0), (1, 4, 1), (1, 4, 2), (1, 4, 3), (1, 4, 4), (1, 4, 5), (1, 5, 0), (1, 5, 1), (1, 5, 2), (1, 5, 3), (1, 5, 4), (1, 5, 5), (1, 6, 0), (1, 6, 1), (1, 6, 2), (1, 6, 3), (1, 6, 4), (1, 6, 5), (1, 7, 0), (1, 7, 1), (1, 7, 2), (1, 7, 3), (1, 7, 4), (1, 7, 5), (1, 8, 0), (1, 8, 1), (1, 8, 2), (1, 8, 3), (1, 8, 4), (1, 8, 5), (1, 9, 0), (1, 9, 1), (1, 9, 2), (1, 9, 3), (1, 9, 4), (1, 9, 5), (1, 10, 0), (1, 10, 1), (1, 10, 2), (1, 10, 3), (1, 10, 4), (1, 10, 5), (1, 11, 0), (10, 0, 0), (10, 0, 1), (10, 0, 2), (10, 0, 3), (10, 0, 4), (10, 0, 5), (10, 1, 0), (10, 1, 1), (10, 1, 2), (10, 1, 3), (10, 1, 4), (10, 1, 5), (10, 2, 0), (10, 2, 1), (10, 2, 2), (10, 2, 3), (10, 2, 4), (10, 2, 5), (10, 3, 0), (10, 3, 1), (10, 3, 2), (10, 3, 3), (10, 3, 4), (10, 3, 5), (10, 4, 0), (10, 4, 1), (10, 4, 2), (10, 4, 3), (10, 4, 4), (10, 4, 5), (10, 5, 0), (10, 5, 1), (10, 5, 2), (10, 5, 3), (10, 5, 4), (10, 5, 5), (10, 6, 0), (10, 6, 1), (10, 6, 2), (10, 6, 3), (10, 6, 4), (10, 6, 5), (10, 7, 0), (10, 7, 1), (10, 7, 2), (10, 7, 3), (10, 7, 4), (10, 7, 5), (10, 8, 0), (10, 8, 1), (10, 8, 2), (10, 8, 3), (10, 8, 4), (10, 8, 5), (10, 9, 0), (10, 9, 1), (10, 9, 2), (10, 9, 3), (10, 9, 4), (10, 9, 5), (10, 10, 0), (10, 10, 1), (10, 10, 2), (10, 10, 3), (10, 10, 4), (10, 10, 5), (10, 11, 0), (11, 0, 0), (11, 0, 1), (11, 0, 2), (11, 0, 3), (11, 0, 4), (11, 0, 5), (11, 1, 0), (11, 1, 1), (11, 1, 2), (11, 1, 3), (11, 1, 4), (11, 1, 5), (11, 2, 0), (11, 2, 1), (11, 2, 2), (11, 2, 3), (11, 2, 4), (11, 2, 5), (11, 3, 0), (11, 3, 1), (11, 3, 2), (11, 3, 3), (11, 3, 4), (11, 3, 5), (11, 4, 0), (11, 4, 1), (11, 4, 2), (11, 4, 3), (11, 4, 4), (11, 4, 5), (11, 5, 0), (11, 5, 1), (11, 5, 2), (11, 5, 3), (11, 5, 4), (11, 5, 5), (11, 6, 0), (11, 6, 1), (11, 6, 2), (11, 6, 3), (11, 6, 4), (11, 6, 5), (11, 7, 0), (11, 7, 1), (11, 7, 2), (11, 7, 3), (11, 7, 4), (11, 7, 5), (11, 8, 0), (11, 8, 1), (11, 8, 2), (11, 8, 3), (11, 8, 4), (11, 8, 5), (11, 9, 0), (11, 9, 1), (11, 9, 2), (11, 9, 3), (11, 9, 4), (11, 9, 5), (11, 10, 0), (11, 10, 1), (11, 10, 2), (11, 10, 3), (11, 10, 4), (11, 10, 5), (11, 11, 0), (12, 0, 0), (12, 0, 1), (12, 0, 2), (12, 0, 3), (12, 0, 4), (12, 0, 5), (12, 1, 0), (12, 1, 1), (12, 1, 2), (12, 1, 3), (12, 1, 4), (12, 1, 5), (12, 2, 0), (12, 2, 1), (12, 2, 2), (12, 2, 3), (12, 2, 4), (12, 2, 5), (12, 3, 0), (12, 3, 1), (12, 3, 2), (12, 3, 3), (12, 3, 4), (12, 3, 5), (12, 4, 0), (12, 4, 1), (12, 4, 2), (12, 4, 3), (12, 4, 4), (12, 4, 5), (12, 5, 0), (12, 5, 1), (12, 5, 2), (12, 5, 3), (12, 5, 4), (12, 5, 5), (12, 6, 0), (12, 6, 1), (12, 6, 2), (12, 6, 3), (12, 6, 4), (12, 6, 5), (12, 7, 0), (12, 7, 1), (12, 7, 2), (12, 7, 3), (12, 7, 4), (12, 7, 5), (12, 8, 0), (12, 8, 1), (12, 8, 2), (12, 8, 3), (12, 8, 4), (12, 8, 5), (12, 9, 0), (12, 9, 1), (12, 9, 2), (12, 9, 3), (12, 9, 4), (12, 9, 5), (12, 10, 0), (12, 10, 1), (12, 10, 2), (12, 10, 3), (12, 10, 4), (12, 10, 5), (12, 11, 0), (2, 0, 0), (2, 1, 0), (2, 2, 0), (2, 3, 0), (2, 4, 0), (2, 5, 0), (2, 6, 0), (2, 7, 0), (2, 8, 0), (2, 9, 0), (2, 10, 0), (16, 0, 0), (16, 1, 0), (16, 2, 0), (16, 3, 0), (16, 4, 0), (16, 5, 0), (16, 6, 0), (16, 7, 0), (16, 8, 0), (16, 9, 0), (16, 10, 0), (17, 0, 0), (17, 1, 0), (17, 2, 0), (17, 3, 0), (17, 4, 0), (17, 5, 0), (17, 6, 0), (17, 7, 0), (17, 8, 0), (17, 9, 0), (17, 10, 0), (18, 0, 0), (18, 1, 0), (18, 2, 0), (18, 3, 0), (18, 4, 0), (18, 5, 0), (18, 6, 0), (18, 7, 0), (18, 8, 0), (18, 9, 0), (18, 10, 0), (19, 0, 0), (19, 1, 0), (19, 2, 0), (19, 3, 0), (19, 4, 0), (19, 5, 0), (19, 6, 0), (19, 7, 0), (19, 8, 0), (19, 9, 0), (19, 10, 0), (20, 0, 0), (20, 1, 0), (20, 2, 0), (20, 3, 0), (20, 4, 0), (20, 5, 0), (20, 6, 0), (20, 7, 0), (20, 8, 0), (20, 9, 0), (20, 10, 0), (6, 0, 0), (6, 1, 0), (6, 2, 0), (6, 3, 0), (6, 4, 0), (6, 5, 0), (6, 6, 0), (6, 7, 0), (6, 8, 0), (6, 9, 0), (6, 10, 0), (13, 0, 0), (13, 1, 0), (13, 2, 0), (13, 3, 0), (13, 4, 0), (13, 5, 0), (13, 6, 0), (13, 7, 0), (13, 8, 0), (13, 9, 0), (13, 10, 0), (14, 0, 0), (14, 1, 0), (14, 2, 0), (14, 3, 0), (14, 4, 0), (14, 5, 0), (14, 6, 0), (14, 7, 0), (14, 8, 0), (14, 9, 0), (14, 10, 0), (15, 0, 0), (15, 1, 0), (15, 2, 0), (15, 3, 0), (15, 4, 0), (15, 5, 0), (15, 6, 0), (15, 7, 0), (15, 8, 0), (15, 9, 0), (15, 10, 0), (3, 0, 0), (4, 0, 0), (5, 0, 0), (7, 0, 0), (8, 0, 0), (21, 0, 0), (22, 0, 0), (23, 0, 0), (24, 0, 0), (25, 0, 0), (26, 0, 0), (27, 0, 0), (29, 0, 0), (30, 0, 0), (31, 0, 0), (32, 0, 0), (33, 0, 0), (34, 0, 0), (35, 0, 0), (36, 0, 0), (37, 0, 0), (38, 0, 0), (39, 0, 0), (40, 0, 0), (41, 0, 0), (28, 0, 0), (28, 0, 1), (28, 0, 2), (28, 0, 3), (28, 0, 4), (28, 0, 5), (28, 0, 6), (28, 0, 7), (28, 0, 8)]
def ftag : fV → Nat
  | .inl _ => 0
  | .inr (.inl _) => 1
  | .inr (.inr (.inl _)) => 2
  | .inr (.inr (.inr _)) => 3
def fcat (v : fV) : Nat := bif Nat.ble 2 (ftag v) then 2 else 1
def fcats : List fV → Nat
  | [] => 0
  | v :: r => fcat v + fcats r
/-- an instruction as the flat machine takes it: itself, the next pc, two numbers, an int, a list -/
abbrev fO : Type := Instr × Nat × Nat × Nat × Int32 × List Nat
abbrev fK : Type := Nat → List (Option fV) → List fV → fM → Nat → Nat → Option fR
/-- callees (meaning, cells, slots), the method's own bounds of cells and slots, handlers (from, to, exception, pc behind its astore, its local), the law's script -/
abbrev fE : Type := List (fS × Nat × Nat) × (Nat × Nat) × List (Nat × Nat × Nat × Nat × Nat) × Option (Nat × (Nat → Int32))
def fload (L : List (Option fV)) (a t : Nat) (k : fV → Option fR) : Option fR := match L[a]? with
  | some (some v) => bif Nat.beq (ftag v) t then k v else none
  | _ => none
def fdrop (L : List (Option fV)) (a : Nat) : List (Option fV) := match a with
  | 0 => L
  | a' + 1 => match L[a']? with
    | some (some w) => bif Nat.ble 2 (ftag w) then L.set a' none else L
    | _ => L
def fput1 (L : List (Option fV)) (a : Nat) (v : Option fV) : List (Option fV) := (fdrop L a).set a v
def fput2 (L : List (Option fV)) (a : Nat) (v : fV) : List (Option fV) := ((fdrop L a).set a (some v)).set (a + 1) none
def fnar (b : Nat) (x : Int32) : Int32 := bif Nat.beq b 0 then x else bif Nat.beq b 1 then x &&& 1 else x.toUInt32.toUInt16.toUInt32.toInt32
def fcmp (q : ClassFile.Cond) (x y : Int32) (k1 k2 : Option fR) : Option fR := match q with
  | .eq => if x = y then k1 else k2
  | .ne => if x = y then k2 else k1
  | .lt => if x < y then k1 else k2
  | .ge => if y ≤ x then k1 else k2
  | .gt => if y < x then k1 else k2
  | .le => if x ≤ y then k1 else k2
def fhand : List (Nat × Nat × Nat × Nat × Nat) → Nat → Nat → Option (Nat × Nat)
  | [], _, _ => none
  | (f, t, e, nx, a) :: r, pc, x => bif Nat.ble f pc && (Nat.blt pc t && Nat.beq e x) then some (nx, a) else fhand r pc x
def fthrow (E : fE) (pc : Nat) (L : List (Option fV)) (μ : fM) (cc ss x : Nat) (k : fK) : Option fR := match E.2.2.1 with
  | [] => some (.inr x, μ)
  | _ => match fhand E.2.2.1 pc x with
    | some (nx, a) => k nx (fput1 L a none) [] μ cc ss
    | none => none
def fbind (q : Option fR) (k : fR → Option fR) : Option fR := match q with
  | none => none
  | some r => k r
def fcall (E : fE) (a b nx pc : Nat) (L : List (Option fV)) (S : List fV) (μ : fM) (cc ss : Nat) (k : fK) : Option fR := match E.1[a]? with
  | none => none
  | some f => bif Nat.ble (cc + f.2.1) E.2.1.1 && (Nat.ble (ss + f.2.2) E.2.1.2 && (Nat.ble b S.length && Nat.ble (fcats (S.drop b)) 8)) then
      fbind (f.1 (S.take b).reverse μ) (fun r => match r with
      | (.inl v, μ') => k nx L (v.toList ++ S.drop b) μ' (cc + f.2.1) (ss + f.2.2)
      | (.inr x, μ') => fthrow E pc L μ' (cc + f.2.1) (ss + f.2.2) x k)
    else none
/-- an int's place in an array of n -/
abbrev fin (i : Int32) (n : Nat) : Prop := ¬ (i < 0 ∨ n ≤ i.toNatClampNeg)
def fstep (E : fE) (o : fO) (pc : Nat) (L : List (Option fV)) (S : List fV) (μ : fM) (cc ss : Nat) (k : fK) : Option fR := match o with
  | (ins, nx, a, b, v, ts) => match ins with
    | .iconst _ => k nx L (vI v :: S) μ cc ss
    | .bipush _ => k nx L (vI v :: S) μ cc ss
    | .sipush _ => k nx L (vI v :: S) μ cc ss
    | .ldc _ => bif Nat.beq b 1 then k nx L (vI v :: S) μ cc ss else k nx L (vR 52 a 0 :: S) μ cc ss
    | .lconst _ => k nx L (vL (Int64.ofNat a) :: S) μ cc ss
    | .ldc2_w _ => k nx L (vL (Int64.ofNat a) :: S) μ cc ss
    | .dconst _ => bif Nat.beq a 0 then k nx L (vD FP.dconst0 :: S) μ cc ss else none
    | .iload _ => fload L a 1 fun x => k nx L (x :: S) μ cc ss
    | .iload_n _ => fload L a 1 fun x => k nx L (x :: S) μ cc ss
    | .aload _ => fload L a 0 fun x => k nx L (x :: S) μ cc ss
    | .aload_n _ => fload L a 0 fun x => k nx L (x :: S) μ cc ss
    | .lload _ => fload L a 2 fun x => k nx L (x :: S) μ cc ss
    | .lload_n _ => fload L a 2 fun x => k nx L (x :: S) μ cc ss
    | .dload _ => fload L a 3 fun x => k nx L (x :: S) μ cc ss
    | .istore _ => match S with
      | .inr (.inl x) :: S => k nx (fput1 L a (some (vI x))) S μ cc ss
      | _ => none
    | .istore_n _ => match S with
      | .inr (.inl x) :: S => k nx (fput1 L a (some (vI x))) S μ cc ss
      | _ => none
    | .astore _ => match S with
      | .inl x :: S => k nx (fput1 L a (some (.inl x))) S μ cc ss
      | _ => none
    | .astore_n _ => match S with
      | .inl x :: S => k nx (fput1 L a (some (.inl x))) S μ cc ss
      | _ => none
    | .dstore _ => match S with
      | .inr (.inr (.inr x)) :: S => k nx (fput2 L a (vD x)) S μ cc ss
      | _ => none
    | .iinc _ _ => match L[a]? with
      | some (some (.inr (.inl x))) => k nx (fput1 L a (some (vI (x + v)))) S μ cc ss
      | _ => none
    | .iaload => match S with
      | .inr (.inl i) :: .inl (c, y, h) :: S => bif Nat.beq c 50 then (match E.2.2.2 with
            | some X => if fin i X.1 then k nx L (vI (X.2 i.toNatClampNeg) :: S) μ cc ss else none
            | none => none)
          else bif Nat.beq (fal c).1 0 then (if fin i (fal c).2 then k nx L (vI (μ.1 c y h i.toNatClampNeg) :: S) μ cc ss else none) else none
      | _ => none
    | .baload => match S with
      | .inr (.inl i) :: .inl (c, y, h) :: S => bif Nat.beq (fal c).1 1 then (if fin i (fal c).2 then k nx L (vI (μ.1 c y h i.toNatClampNeg) :: S) μ cc ss else none) else none
      | _ => none
    | .caload => match S with
      | .inr (.inl i) :: .inl (c, y, h) :: S => bif Nat.beq (fal c).1 2 then (if fin i (fal c).2 then k nx L (vI (μ.1 c y h i.toNatClampNeg) :: S) μ cc ss else none) else none
      | _ => none
    | .laload => match S with
      | .inr (.inl i) :: .inl (c, y, h) :: S => bif Nat.beq (fal c).1 3 then (if fin i (fal c).2 then k nx L (vL (μ.2.1 c y h i.toNatClampNeg) :: S) μ cc ss else none) else none
      | _ => none
    | .daload => match S with
      | .inr (.inl i) :: .inl (c, y, h) :: S => bif Nat.beq (fal c).1 4 then (if fin i (fal c).2 then k nx L (vD (μ.2.2 c y h i.toNatClampNeg) :: S) μ cc ss else none) else none
      | _ => none
    | .aaload => match S with
      | .inr (.inl i) :: .inl (c, y, _) :: S => bif Nat.ble 5 (fal c).1 && Nat.ble (fal c).1 7 then (if fin i (fal c).2 then k nx L (.inl (fel c y i.toNatClampNeg) :: S) μ cc ss else none) else none
      | _ => none
    | .iastore => match S with
      | .inr (.inl x) :: .inr (.inl i) :: .inl (c, y, h) :: S => bif Nat.beq (fal c).1 0 then (if fin i (fal c).2 then k nx L S (fI μ c y h i.toNatClampNeg x) cc ss else none) else none
      | _ => none
    | .bastore => match S with
      | .inr (.inl x) :: .inr (.inl i) :: .inl (c, y, h) :: S => bif Nat.beq (fal c).1 1 then (if fin i (fal c).2 then k nx L S (fI μ c y h i.toNatClampNeg (fnar 1 x)) cc ss else none) else none
      | _ => none
    | .castore => match S with
      | .inr (.inl x) :: .inr (.inl i) :: .inl (c, y, h) :: S => bif Nat.beq (fal c).1 2 then (if fin i (fal c).2 then k nx L S (fI μ c y h i.toNatClampNeg (fnar 2 x)) cc ss else none) else none
      | _ => none
    | .lastore => match S with
      | .inr (.inr (.inl x)) :: .inr (.inl i) :: .inl (c, y, h) :: S => bif Nat.beq (fal c).1 3 then (if fin i (fal c).2 then k nx L S (fJ μ c y h i.toNatClampNeg x) cc ss else none) else none
      | _ => none
    | .dastore => match S with
      | .inr (.inr (.inr x)) :: .inr (.inl i) :: .inl (c, y, h) :: S => bif Nat.beq (fal c).1 4 then (if fin i (fal c).2 then k nx L S (fD μ c y h i.toNatClampNeg x) cc ss else none) else none
      | _ => none
    | .arraylength => match S with
      | .inl (c, _, _) :: S => bif Nat.beq c 50 then (match E.2.2.2 with
          | some X => k nx L (vI (nI X.1) :: S) μ cc ss
          | none => none) else none
      | _ => none
    | .iadd => match S with
      | .inr (.inl y) :: .inr (.inl x) :: S => k nx L (vI (x + y) :: S) μ cc ss
      | _ => none
    | .isub => match S with
      | .inr (.inl y) :: .inr (.inl x) :: S => k nx L (vI (x - y) :: S) μ cc ss
      | _ => none
    | .imul => match S with
      | .inr (.inl y) :: .inr (.inl x) :: S => k nx L (vI (x * y) :: S) μ cc ss
      | _ => none
    | .idiv => match S with
      | .inr (.inl y) :: .inr (.inl x) :: S => if y = 0 then none else k nx L (vI (x / y) :: S) μ cc ss
      | _ => none
    | .irem => match S with
      | .inr (.inl y) :: .inr (.inl x) :: S => if y = 0 then none else k nx L (vI (x - x / y * y) :: S) μ cc ss
      | _ => none
    | .iand => match S with
      | .inr (.inl y) :: .inr (.inl x) :: S => k nx L (vI (x &&& y) :: S) μ cc ss
      | _ => none
    | .ior => match S with
      | .inr (.inl y) :: .inr (.inl x) :: S => k nx L (vI (x ||| y) :: S) μ cc ss
      | _ => none
    | .ixor => match S with
      | .inr (.inl y) :: .inr (.inl x) :: S => k nx L (vI (x ^^^ y) :: S) μ cc ss
      | _ => none
    | .ishl => match S with
      | .inr (.inl y) :: .inr (.inl x) :: S => k nx L (vI (x <<< (y &&& 31)) :: S) μ cc ss
      | _ => none
    | .ishr => match S with
      | .inr (.inl y) :: .inr (.inl x) :: S => k nx L (vI (x >>> (y &&& 31)) :: S) μ cc ss
      | _ => none
    | .ladd => match S with
      | .inr (.inr (.inl y)) :: .inr (.inr (.inl x)) :: S => k nx L (vL (x + y) :: S) μ cc ss
      | _ => none
    | .lcmp => match S with
      | .inr (.inr (.inl y)) :: .inr (.inr (.inl x)) :: S => k nx L (vI (lg_cmp x y) :: S) μ cc ss
      | _ => none
    | .i2l => match S with
      | .inr (.inl x) :: S => k nx L (vL x.toInt64 :: S) μ cc ss
      | _ => none
    | .l2i => match S with
      | .inr (.inr (.inl x)) :: S => k nx L (vI x.toInt32 :: S) μ cc ss
      | _ => none
    | .i2c => match S with
      | .inr (.inl x) :: S => k nx L (vI (x.toUInt32 % 65536).toInt32 :: S) μ cc ss
      | _ => none
    | .i2d => match S with
      | .inr (.inl x) :: S => k nx L (vD (FP.i2d x) :: S) μ cc ss
      | _ => none
    | .ddiv => match S with
      | .inr (.inr (.inr y)) :: .inr (.inr (.inr x)) :: S => if FP.ddiv x y &&& 0x7fffffffffffffff ≤ 0x7ff0000000000000 then k nx L (vD (FP.ddiv x y) :: S) μ cc ss else none
      | _ => none
    | .dcmp op => match S with
      | .inr (.inr (.inr y)) :: .inr (.inr (.inr x)) :: S => k nx L (vI (Op.cmpValue (FP.dcmp x y) op) :: S) μ cc ss
      | _ => none
    | .dup => match S with
      | x :: S => bif Nat.ble (ftag x) 1 then k nx L (x :: x :: S) μ cc ss else none
      | _ => none
    | .dup2 => match S with
      | x :: y :: S => bif Nat.ble (ftag x) 1 && Nat.ble (ftag y) 1 then k nx L (x :: y :: x :: y :: S) μ cc ss else none
      | _ => none
    | .pop => match S with
      | x :: S => bif Nat.ble (ftag x) 1 then k nx L S μ cc ss else none
      | _ => none
    | .if_icmp q _ => match S with
      | .inr (.inl y) :: .inr (.inl x) :: S => fcmp q x y (k a L S μ cc ss) (k nx L S μ cc ss)
      | _ => none
    | .ifCond q _ => match S with
      | .inr (.inl x) :: S => fcmp q x 0 (k a L S μ cc ss) (k nx L S μ cc ss)
      | _ => none
    | .goto _ => k a L S μ cc ss
    | .tableswitch _ _ _ _ => match S with
      | .inr (.inl x) :: S => if x.toInt < v.toInt ∨ (b : Int) < x.toInt then k a L S μ cc ss else k (ts.getD (x.toInt - v.toInt).toNat 0) L S μ cc ss
      | _ => none
    | .getfield _ => match S with
      | .inl (c, y, h) :: S => bif Nat.beq c a then (match ts with
          | [] => k nx L (vI (μ.1 a y h b) :: S) μ cc ss
          | [_] => k nx L (vL (μ.2.1 a y h b) :: S) μ cc ss
          | [c', my, oy, mh, oh] => k nx L (.inl (ftgt (c', my, oy, mh, oh) y h) :: S) μ cc ss
          | _ => none) else none
      | _ => none
    | .putfield _ => match S with
      | .inr (.inl x) :: .inl (c, y, h) :: S => bif Nat.beq c a then (match ts with
          | [] => k nx L S (fI μ a y h b x) cc ss
          | [_] => if x = 0 ∨ x = 1 then k nx L S (fI μ a y h b x) cc ss else none
          | _ => none) else none
      | .inr (.inr (.inl x)) :: .inl (c, y, h) :: S => bif Nat.beq c a then (match ts with
          | [_, _] => k nx L S (fJ μ a y h b x) cc ss
          | _ => none) else none
      | _ => none
    | .invokevirtual _ => fcall E a b nx pc L S μ cc ss k
    | .invokespecial _ => fcall E a b nx pc L S μ cc ss k
    | .invokestatic _ => fcall E a b nx pc L S μ cc ss k
    | .new _ => match E.2.2.1 with
      | [] => bif Nat.ble (cc + 1) E.2.1.1 && (Nat.ble (ss + 6) E.2.1.2 && Nat.ble (fcats S) 8) then some (.inr a, μ) else none
      | _ => none
    | .ireturn => match S with
      | [.inr (.inl x)] => some (.inl (some (vI (fnar b x))), μ)
      | _ => none
    | .lreturn => match S with
      | [.inr (.inr (.inl x))] => some (.inl (some (vL x)), μ)
      | _ => none
    | .dreturn => match S with
      | [.inr (.inr (.inr x))] => some (.inl (some (vD x)), μ)
      | _ => none
    | .areturn => match S with
      | [.inl x] => some (.inl (some (.inl x)), μ)
      | _ => none
    | .return_ => match S with
      | [] => some (.inl none, μ)
      | _ => none
    | _ => none
def flk1 : List (Nat × fO) → Nat → Option fO
  | [], _ => none
  | q :: r, pc => bif Nat.beq q.1 pc then some q.2 else flk1 r pc
abbrev fTb : Type := List (Nat × List (Nat × fO))
def flk : fTb → Nat → Option fO
  | [], _ => none
  | q :: r, pc => bif Nat.ble pc q.1 then flk1 q.2 pc else flk r pc
def frun (E : fE) (t : fTb) : Nat → fK
  | 0 => fun _ _ _ _ _ _ => none
  | n + 1 => fun pc L S μ cc ss => match flk t pc with
    | none => none
    | some o => fstep E o pc L S μ cc ss (frun E t n)
/-! WALKS OVER THE FLAT MACHINE: x n is the answer with n steps allowed -/
def fEnds (x : Nat → Option fR) (res : fR) : Prop := ∃ n, x n = some res
theorem fE_step {x y : Nat → Option fR} {res : fR} (k : Nat) (h : ∀ n, x (n + k) = y n) (H : fEnds y res) : fEnds x res := H.elim fun n hn => ⟨n + k, (h n).trans hn⟩
theorem fE_ret {x : Nat → Option fR} {res : fR} (k : Nat) (h : ∀ n, x (n + k) = some res) : fEnds x res := ⟨0 + k, h 0⟩
theorem fE_ite {x y z : Nat → Option fR} {res : fR} {c : Prop} {dc : Decidable c} (k : Nat) (h : ∀ n, x (n + k) = @ite _ c dc (y n) (z n)) (hy : c → fEnds y res) (hz : ¬ c → fEnds z res) : fEnds x res := by
  by_cases hc : c
  · exact fE_step k (fun n => by rw [h, if_pos hc]) (hy hc)
  · exact fE_step k (fun n => by rw [h, if_neg hc]) (hz hc)
theorem fE_pos {x y z : Nat → Option fR} {res : fR} {c : Prop} {dc : Decidable c} (hc : c) (k : Nat) (h : ∀ n, x (n + k) = @ite _ c dc (y n) (z n)) (hy : fEnds y res) : fEnds x res := fE_step k (fun n => by rw [h, if_pos hc]) hy
theorem fE_neg {x y z : Nat → Option fR} {res : fR} {c : Prop} {dc : Decidable c} (hc : ¬ c) (k : Nat) (h : ∀ n, x (n + k) = @ite _ c dc (y n) (z n)) (hz : fEnds z res) : fEnds x res := fE_step k (fun n => by rw [h, if_neg hc]) hz
theorem fE_call {x : Nat → Option fR} {y : Nat → fR → Option fR} {res r : fR} {q : Option fR} (hq : q = some r) (k : Nat) (h : ∀ n, x (n + k) = fbind q (y n)) (H : fEnds (fun n => y n r) res) : fEnds x res := fE_step k (fun n => by rw [h, hq]; rfl) H
theorem fE_id {x : Nat → Option fR} {res : fR} (H : fEnds x res) : fEnds (fun n => x n) res := H
end
section
/-! THE FLAT MEMORY IN THE HEAP. G: addresses of references, the kit's dictionary, the array classes by code, the heap's size at the law's start -/
abbrev fG : Type := (Nat × Nat × Nat → Nat) × va_G × (Nat → ClassId) × Nat
abbrev fA (G : fG) : Nat → Prop := fun q => G.2.2.2 ≤ q
def ftv (G : fG) : fV → Value
  | .inl r => .ref (G.1 r)
  | .inr (.inl x) => .int x
  | .inr (.inr (.inl x)) => .long x
  | .inr (.inr (.inr x)) => .double x
def fnf (c : Nat) : Nat := ([3, 7, 7, 7, 3, 1, 7, 13, 24] : List Nat).getD c 0
def fty : List FieldType := [.int, .boolean, .char, .long, .double, .object "PuddleBoatyard$Hull", .object "PuddleBoatyard$Yard", .array .int, .byte]
abbrev ftys (G : fG) : List (ClassId × FieldType) := (List.range 9).map (fun t => (G.2.2.1 t, fty.getD t .int))
def facon (G : fG) (μ : fM) (c y h : Nat) : (Nat → Int32) ⊕ (Nat → Int64) ⊕ (Nat → UInt32) ⊕ (Nat → UInt64) ⊕ (Nat → Option Nat) := match (fal c).1 with
  | 0 => .inl (fun j => μ.1 c y h j)
  | 1 => .inl (fun j => μ.1 c y h j)
  | 2 => .inl (fun j => μ.1 c y h j)
  | 3 => .inr (.inl (fun j => μ.2.1 c y h j))
  | 4 => .inr (.inr (.inr (.inl (fun j => μ.2.2 c y h j))))
  | _ => .inr (.inr (.inr (.inr (fun j => some (G.1 (fel c y j))))))
def ffs (G : fG) (μ : fM) (c y h : Nat) : List Value := (List.range (fnf c)).map (fun k => ftv G (ffv μ c y h k))
def fcell (G : fG) (μ : fM) (r : Nat × Nat × Nat) : va_E := if r.1 < 9 then .inr (r.1, ffs G μ r.1 r.2.1 r.2.2) else .inl (G.2.2.1 (fal r.1).1, (fal r.1).2, facon G μ r.1 r.2.1 r.2.2)
def fws (G : fG) (μ : fM) : va_W := frefs.map (fun r => (G.1 r, fcell G μ r))
/-- the StringBuilder and its bytes: the text's letters are ints at (51, 0, 0, j), its length at (51, 1, 0, 0) -/
def fSB (G : fG) (μ : fM) (H : Heap) : Prop := ∃ (q m n : Nat) (a : Nat → Int32) (ml : Int32), va_P G.2.1 fcl [(G.1 (51, 0, 0), .inr (9, [.ref q, .int 0, .int ml, .int (nI n)])), (q, .inl (G.2.2.1 8, m, .inl a))] H ∧
  (∀ r ∈ frefs, G.1 r ≠ q) ∧ G.2.2.2 ≤ q ∧ q ≠ G.1 (51, 0, 0) ∧ n ≤ m ∧ m ≤ 200 ∧ sb_Fit a ∧ μ.1 51 1 0 0 = nI n ∧ ∀ j, j < n → 0 ≤ a j ∧ μ.1 51 0 0 j = a j
def fMem (G : fG) (μ : fM) (H : Heap) : Prop := va_P G.2.1 fcl (fws G μ) H ∧ fSB G μ H
def fWf (G : fG) : Prop := (∀ r ∈ frefs, ∀ r' ∈ frefs, G.1 r = G.1 r' → r = r') ∧ (∀ r ∈ frefs, G.2.2.2 ≤ G.1 r) ∧ (∀ r ∈ frefs, G.1 r ≠ G.1 (51, 0, 0)) ∧ G.2.2.2 ≤ G.1 (51, 0, 0)
theorem frefs_nodup : frefs.Nodup := by decide +kernel
theorem fidx {r : Nat × Nat × Nat} (h : r ∈ frefs) : ∃ i : Nat, frefs[i]? = some r := List.getElem?_of_mem h
theorem fws_at {G : fG} {μ : fM} {i : Nat} {r : Nat × Nat × Nat} (h : frefs[i]? = some r) : (fws G μ)[i]? = some (G.1 r, fcell G μ r) := by
  simp [fws, h]
theorem fcell_o {G : fG} {μ : fM} {c y h : Nat} (hc : c < 9) : fcell G μ (c, y, h) = .inr (c, ffs G μ c y h) := if_pos hc
theorem fcell_a {G : fG} {μ : fM} {c y h : Nat} (hc : ¬ c < 9) : fcell G μ (c, y, h) = .inl (G.2.2.1 (fal c).1, (fal c).2, facon G μ c y h) := if_neg hc
theorem ffs_at {G : fG} {μ : fM} {c y h k : Nat} (hk : k < fnf c) : (ffs G μ c y h)[k]? = some (ftv G (ffv μ c y h k)) := by
  simp [ffs, hk]
theorem ffs_len {G : fG} {μ : fM} {c y h : Nat} : (ffs G μ c y h).length = fnf c := by simp [ffs]
theorem fD_ws {G : fG} {μ : fM} (hG : fWf G) : va_D (fA G) (fws G μ) := by
  refine ⟨fun i j p q hi hj hpq => ?_, fun k q hk => ?_⟩
  · simp only [fws, List.getElem?_map, Option.map_eq_some_iff] at hi hj
    obtain ⟨r, hr, rfl⟩ := hi
    obtain ⟨r', hr', rfl⟩ := hj
    have e := hG.1 r (List.mem_of_getElem? hr) r' (List.mem_of_getElem? hr') hpq
    subst e
    exact (List.getElem?_inj (List.getElem?_eq_some_iff.mp hr).1 frefs_nodup).mp (hr.trans hr'.symm)
  · simp only [fws, List.getElem?_map, Option.map_eq_some_iff] at hk
    obtain ⟨r, hr, rfl⟩ := hk
    exact hG.2.1 r (List.mem_of_getElem? hr)
/-- one cell written: the list of cells is that of the new memory -/
theorem fws_set {G : fG} {μ μ' : fM} {i : Nat} {r : Nat × Nat × Nat} {e : va_E} (h : frefs[i]? = some r) (he : fcell G μ' r = e) (hs : ∀ r' ∈ frefs, r' ≠ r → fcell G μ' r' = fcell G μ r') : (fws G μ).set i (G.1 r, e) = fws G μ' := by
  apply List.ext_getElem?
  intro j
  rw [List.getElem?_set]
  by_cases hij : i = j
  · subst hij
    have hl : i < (fws G μ).length := by
      simp only [fws, List.length_map]
      exact (List.getElem?_eq_some_iff.mp h).1
    rw [if_pos rfl, if_pos hl, fws_at h, he]
  · rw [if_neg hij]
    simp only [fws, List.getElem?_map]
    cases hj : frefs[j]? with
    | none => rfl
    | some r' =>
      have hne : r' ≠ r := by
        intro e2
        subst e2
        exact hij ((List.getElem?_inj (List.getElem?_eq_some_iff.mp h).1 frefs_nodup).mp (h.trans hj.symm))
      simp only [Option.map_some]
      rw [hs r' (List.mem_of_getElem? hj) hne]
end
section
theorem fal_lt : ∀ c, c < 9 → (fal c).1 = 9 := by decide +kernel
theorem fal_ge {c : Nat} (h : (fal c).1 ≠ 9) : ¬ c < 9 := fun q => h (fal_lt c q)
/-- what a write at another kind, or another place, leaves -/
theorem fcell_fI_ne {G : fG} {μ : fM} {c y h k : Nat} {x : Int32} {r : Nat × Nat × Nat} (hne : r ≠ (c, y, h)) : fcell G (fI μ c y h k x) r = fcell G μ r := by
  obtain ⟨c', y', h'⟩ := r
  have hn : ∀ j, ¬ (c' = c ∧ j = k ∧ y' = y ∧ h' = h) := fun j q => hne (by rw [q.1, q.2.2.1, q.2.2.2])
  have e : ∀ j, (fI μ c y h k x).1 c' y' h' j = μ.1 c' y' h' j := fun j => if_neg (hn j)
  have e2 : ∀ j, ffv (fI μ c y h k x) c' y' h' j = ffv μ c' y' h' j := fun j => by
    unfold ffv
    rw [e j]
    rfl
  unfold fcell
  simp only [ffs, e2, facon, e]
  rfl
theorem fcell_fJ_ne {G : fG} {μ : fM} {c y h k : Nat} {x : Int64} {r : Nat × Nat × Nat} (hne : r ≠ (c, y, h)) : fcell G (fJ μ c y h k x) r = fcell G μ r := by
  obtain ⟨c', y', h'⟩ := r
  have hn : ∀ j, ¬ (c' = c ∧ j = k ∧ y' = y ∧ h' = h) := fun j q => hne (by rw [q.1, q.2.2.1, q.2.2.2])
  have e : ∀ j, (fJ μ c y h k x).2.1 c' y' h' j = μ.2.1 c' y' h' j := fun j => if_neg (hn j)
  have e2 : ∀ j, ffv (fJ μ c y h k x) c' y' h' j = ffv μ c' y' h' j := fun j => by
    unfold ffv
    rw [e j]
    rfl
  unfold fcell
  simp only [ffs, e2, facon, e]
  rfl
theorem fcell_fD_ne {G : fG} {μ : fM} {c y h k : Nat} {x : UInt64} {r : Nat × Nat × Nat} (hne : r ≠ (c, y, h)) : fcell G (fD μ c y h k x) r = fcell G μ r := by
  obtain ⟨c', y', h'⟩ := r
  have hn : ∀ j, ¬ (c' = c ∧ j = k ∧ y' = y ∧ h' = h) := fun j q => hne (by rw [q.1, q.2.2.1, q.2.2.2])
  have e : ∀ j, (fD μ c y h k x).2.2 c' y' h' j = μ.2.2 c' y' h' j := fun j => if_neg (hn j)
  unfold fcell
  simp only [facon, e]
  rfl
theorem fcell_fI_arr {G : fG} {μ : fM} {c y h k : Nat} {x : Int32} (hc : (fal c).1 = 0 ∨ (fal c).1 = 1 ∨ (fal c).1 = 2) : fcell G (fI μ c y h k x) (c, y, h) = .inl (G.2.2.1 (fal c).1, (fal c).2, .inl (upd (fun j => μ.1 c y h j) k x)) := by
  have h9 : ¬ c < 9 := fal_ge (by omega)
  have e : (fun j => (fI μ c y h k x).1 c y h j) = upd (fun j => μ.1 c y h j) k x := by
    funext j
    simp [fI, upd]
  rw [fcell_a h9]
  rcases hc with hc | hc | hc <;> simp only [facon, hc, e]
theorem fcell_fJ_arr {G : fG} {μ : fM} {c y h k : Nat} {x : Int64} (hc : (fal c).1 = 3) : fcell G (fJ μ c y h k x) (c, y, h) = .inl (G.2.2.1 (fal c).1, (fal c).2, .inr (.inl (vp_updL (fun j => μ.2.1 c y h j) k x))) := by
  have h9 : ¬ c < 9 := fal_ge (by omega)
  have e : (fun j => (fJ μ c y h k x).2.1 c y h j) = vp_updL (fun j => μ.2.1 c y h j) k x := by
    funext j
    simp [fJ, vp_updL]
  rw [fcell_a h9]
  simp only [facon, hc, e]
theorem fcell_fD_arr {G : fG} {μ : fM} {c y h k : Nat} {x : UInt64} (hc : (fal c).1 = 4) : fcell G (fD μ c y h k x) (c, y, h) = .inl (G.2.2.1 (fal c).1, (fal c).2, .inr (.inr (.inr (.inl (vf_upd (fun j => μ.2.2 c y h j) k x))))) := by
  have h9 : ¬ c < 9 := fal_ge (by omega)
  have e : (fun j => (fD μ c y h k x).2.2 c y h j) = vf_upd (fun j => μ.2.2 c y h j) k x := by
    funext j
    simp [fD, vf_upd]
  rw [fcell_a h9]
  simp only [facon, hc, e]
theorem ffs_fI {G : fG} {μ : fM} {c y h k : Nat} {x : Int32} (hk : k < fnf c) (hc : (fkfL.getD c []).getD k 0 = 0 ∨ (fkfL.getD c []).getD k 0 = 1) : ffs G (fI μ c y h k x) c y h = (ffs G μ c y h).set k (.int x) := by
  apply List.ext_getElem?
  intro j
  rw [List.getElem?_set]
  by_cases hj : k = j
  · subst hj
    rw [if_pos rfl, if_pos (by rw [ffs_len]; exact hk), ffs_at hk]
    unfold ffv
    rcases hc with hc | hc <;> (rw [hc]; simp [fI, ftv])
  · rw [if_neg hj]
    have e : ffv (fI μ c y h k x) c y h j = ffv μ c y h j := by
      unfold ffv
      have : (fI μ c y h k x).1 c y h j = μ.1 c y h j := if_neg (fun q => hj q.2.1.symm)
      rw [this]
      rfl
    simp only [ffs, List.getElem?_map]
    cases hr : (List.range (fnf c))[j]? with
    | none => rfl
    | some w =>
      have : w = j := by
        obtain ⟨h1, h2⟩ := List.getElem?_eq_some_iff.mp hr
        simpa using h2.symm
      subst this
      simp only [Option.map_some, e]
theorem ffs_fJ {G : fG} {μ : fM} {c y h k : Nat} {x : Int64} (hk : k < fnf c) (hc : (fkfL.getD c []).getD k 0 = 2) : ffs G (fJ μ c y h k x) c y h = (ffs G μ c y h).set k (.long x) := by
  apply List.ext_getElem?
  intro j
  rw [List.getElem?_set]
  by_cases hj : k = j
  · subst hj
    rw [if_pos rfl, if_pos (by rw [ffs_len]; exact hk), ffs_at hk]
    unfold ffv
    rw [hc]
    simp [fJ, ftv]
  · rw [if_neg hj]
    have e : ffv (fJ μ c y h k x) c y h j = ffv μ c y h j := by
      unfold ffv
      have : (fJ μ c y h k x).2.1 c y h j = μ.2.1 c y h j := if_neg (fun q => hj q.2.1.symm)
      rw [this]
      rfl
    simp only [ffs, List.getElem?_map]
    cases hr : (List.range (fnf c))[j]? with
    | none => rfl
    | some w =>
      have : w = j := by
        obtain ⟨h1, h2⟩ := List.getElem?_eq_some_iff.mp hr
        simpa using h2.symm
      subst this
      simp only [Option.map_some, e]
/-- all cells of the memory as one list -/
theorem fMem_open {G : fG} {μ : fM} {H : Heap} (hG : fWf G) (hM : fMem G μ H) : ∃ sw : va_W, va_P G.2.1 fcl (fws G μ ++ sw) H ∧ va_D (fA G) (fws G μ ++ sw) ∧ ∀ (μ' : fM) (H1 : Heap), (∀ y j, μ'.1 51 y 0 j = μ.1 51 y 0 j) → va_P G.2.1 fcl (fws G μ' ++ sw) H1 → fMem G μ' H1 := by
  obtain ⟨hP, q, m, n, a, ml, hQ, h1, h2, h3, h4, h5, h6, h7, h8⟩ := hM
  refine ⟨[(G.1 (51, 0, 0), .inr (9, [.ref q, .int 0, .int ml, .int (nI n)])), (q, .inl (G.2.2.1 8, m, .inl a))], hP.app hQ, va_D.app (fD_ws hG) ⟨fun i j x y hx hy hxy => ?_, fun i x hx => ?_⟩ (fun i j x y hx hy hxy => ?_), fun μ' H1 hm hP1 => ⟨fun k x hx => hP1 k x (by rw [List.getElem?_append_left (List.getElem?_eq_some_iff.mp hx).1]; exact hx), q, m, n, a, ml, fun k x hx => ?_, h1, h2, h3, h4, h5, h6, (hm 1 0).trans h7, fun j hj => ⟨(h8 j hj).1, (hm 0 j).trans (h8 j hj).2⟩⟩⟩
  · match i, j, hx, hy with
    | 0, 0, _, _ => rfl
    | 1, 1, _, _ => rfl
    | 0, 1, hx, hy => cases hx; cases hy; exact absurd hxy.symm h3
    | 1, 0, hx, hy => cases hx; cases hy; exact absurd hxy h3
  · match i, hx with
    | 0, hx => cases hx; exact hG.2.2.2
    | 1, hx => cases hx; exact h2
  · simp only [fws, List.getElem?_map, Option.map_eq_some_iff] at hx
    obtain ⟨r, hr, rfl⟩ := hx
    match j, hy with
    | 0, hy => cases hy; exact hG.2.2.1 r (List.mem_of_getElem? hr) hxy
    | 1, hy => cases hy; exact h1 r (List.mem_of_getElem? hr) hxy
  · exact hP1 ((fws G μ').length + k) x (by rw [List.getElem?_append_right (Nat.le_add_right _ _), Nat.add_sub_cancel_left]; exact hx)
theorem fws_len (G : fG) (μ : fM) : (fws G μ).length = frefs.length := by simp [fws]
theorem fopen_at {G : fG} {μ : fM} {sw : va_W} {j : Nat} {r : Nat × Nat × Nat} (hj : frefs[j]? = some r) : (fws G μ ++ sw)[j]? = some (G.1 r, fcell G μ r) := by
  rw [List.getElem?_append_left (by rw [fws_len]; exact (List.getElem?_eq_some_iff.mp hj).1)]
  exact fws_at hj
theorem fopen_set {G : fG} {μ μ' : fM} {sw : va_W} {j : Nat} {r : Nat × Nat × Nat} {ee : va_E} (hj : frefs[j]? = some r) (he : fcell G μ' r = ee) (hs : ∀ r' ∈ frefs, r' ≠ r → fcell G μ' r' = fcell G μ r') : (fws G μ ++ sw).set j (G.1 r, ee) = fws G μ' ++ sw := by
  rw [List.set_append_left _ _ (by rw [fws_len]; exact (List.getElem?_eq_some_iff.mp hj).1), fws_set hj he hs]
section FRW
variable {p : Program} {l : Launch} {e : Env} {R : Room} {s : State} {m : MethodId} {args : Array Value} {below : List Frame} {meth : Method} {c : Code} {H : Heap} {locs : List Loc} {cells slots : Nat} {Q : State → Prop}
variable {cc : ByteArray} {pc : Nat} {ls : Array Slot} {rest : List Value} {G : fG} {μ : fM} {q y h : Nat} {i : Int32}
theorem ftys_at (G : fG) (t : Nat) (ht : t < 9) : (ftys G)[t]? = some (G.2.2.1 t, fty.getD t .int) := by
  simp [ftys, ht]
theorem fr_iald (hx : p.tables.exec = Jvm.exec) (hb : c.code = cc) (hK : va_K G.2.1 fcl (ftys G) s) (hM : fMem G μ H) (hr : (q, y, h) ∈ frefs) (hc : (fal q).1 = 0) (hin : fin i (fal q).2) (hdg : decode cc pc = .ok (.iaload, 1))
    (kk : W p l e R s m args below meth c H locs cells slots Q (F0 m (pc + 1) ls (.int (μ.1 q y h i.toNatClampNeg) :: rest))) : W p l e R s m args below meth c H locs cells slots Q (F0 m pc ls (.int i :: .ref (G.1 (q, y, h)) :: rest)) := by
  obtain ⟨j, hj⟩ := fidx hr
  exact va_iald hx hb hK hM.1 j 0 (cA := G.2.2.1 0) (n := (fal q).2) (f := fun j => μ.1 q y h j) (by rw [fws_at hj, fcell_a (fal_ge (by omega)), hc]; simp only [facon, hc]) (ftys_at G 0 (by omega)) hin hdg kk
theorem fr_zald (hx : p.tables.exec = Jvm.exec) (hb : c.code = cc) (hK : va_K G.2.1 fcl (ftys G) s) (hM : fMem G μ H) (hr : (q, y, h) ∈ frefs) (hc : (fal q).1 = 1) (hin : fin i (fal q).2) (hdg : decode cc pc = .ok (.baload, 1))
    (kk : W p l e R s m args below meth c H locs cells slots Q (F0 m (pc + 1) ls (.int (μ.1 q y h i.toNatClampNeg) :: rest))) : W p l e R s m args below meth c H locs cells slots Q (F0 m pc ls (.int i :: .ref (G.1 (q, y, h)) :: rest)) := by
  obtain ⟨j, hj⟩ := fidx hr
  exact va_zald hx hb hK hM.1 j 1 (cA := G.2.2.1 1) (n := (fal q).2) (f := fun j => μ.1 q y h j) (by rw [fws_at hj, fcell_a (fal_ge (by omega)), hc]; simp only [facon, hc]) (ftys_at G 1 (by omega)) hin hdg kk
theorem fr_cald (hx : p.tables.exec = Jvm.exec) (hb : c.code = cc) (hK : va_K G.2.1 fcl (ftys G) s) (hM : fMem G μ H) (hr : (q, y, h) ∈ frefs) (hc : (fal q).1 = 2) (hin : fin i (fal q).2) (hdg : decode cc pc = .ok (.caload, 1))
    (kk : W p l e R s m args below meth c H locs cells slots Q (F0 m (pc + 1) ls (.int (μ.1 q y h i.toNatClampNeg) :: rest))) : W p l e R s m args below meth c H locs cells slots Q (F0 m pc ls (.int i :: .ref (G.1 (q, y, h)) :: rest)) := by
  obtain ⟨j, hj⟩ := fidx hr
  exact va_cald hx hb hK hM.1 j 2 (cA := G.2.2.1 2) (n := (fal q).2) (f := fun j => μ.1 q y h j) (by rw [fws_at hj, fcell_a (fal_ge (by omega)), hc]; simp only [facon, hc]) (ftys_at G 2 (by omega)) hin hdg kk
theorem fr_lald (hx : p.tables.exec = Jvm.exec) (hb : c.code = cc) (hK : va_K G.2.1 fcl (ftys G) s) (hM : fMem G μ H) (hr : (q, y, h) ∈ frefs) (hc : (fal q).1 = 3) (hin : fin i (fal q).2) (hdg : decode cc pc = .ok (.laload, 1))
    (kk : W p l e R s m args below meth c H locs cells slots Q (F0 m (pc + 1) ls (.long (μ.2.1 q y h i.toNatClampNeg) :: rest))) : W p l e R s m args below meth c H locs cells slots Q (F0 m pc ls (.int i :: .ref (G.1 (q, y, h)) :: rest)) := by
  obtain ⟨j, hj⟩ := fidx hr
  exact va_lald hx hb hK hM.1 j 3 (cA := G.2.2.1 3) (n := (fal q).2) (f := fun j => μ.2.1 q y h j) (by rw [fws_at hj, fcell_a (fal_ge (by omega)), hc]; simp only [facon, hc]) (ftys_at G 3 (by omega)) hin hdg kk
theorem fr_dald (hx : p.tables.exec = Jvm.exec) (hb : c.code = cc) (hK : va_K G.2.1 fcl (ftys G) s) (hM : fMem G μ H) (hr : (q, y, h) ∈ frefs) (hc : (fal q).1 = 4) (hin : fin i (fal q).2) (hdg : decode cc pc = .ok (.daload, 1))
    (kk : W p l e R s m args below meth c H locs cells slots Q (F0 m (pc + 1) ls (.double (μ.2.2 q y h i.toNatClampNeg) :: rest))) : W p l e R s m args below meth c H locs cells slots Q (F0 m pc ls (.int i :: .ref (G.1 (q, y, h)) :: rest)) := by
  obtain ⟨j, hj⟩ := fidx hr
  exact va_dald hx hb hK hM.1 j 4 (cA := G.2.2.1 4) (n := (fal q).2) (f := fun j => μ.2.2 q y h j) (by rw [fws_at hj, fcell_a (fal_ge (by omega)), hc]; simp only [facon, hc]) (ftys_at G 4 (by omega)) hin hdg kk
theorem fI51 {μ : fM} {c y h k : Nat} {x : Int32} (hc : c ≠ 51) : ∀ y' j, (fI μ c y h k x).1 51 y' 0 j = μ.1 51 y' 0 j := fun y' j => if_neg (fun q => hc q.1.symm)
theorem fal51 {q n : Nat} (hc : (fal q).1 = n) (hn : n ≠ 9) : q ≠ 51 := by
  rintro rfl
  exact hn (hc.symm.trans (by decide +kernel))
theorem fw_iast {x : Int32} (hx : p.tables.exec = Jvm.exec) (hb : c.code = cc) (hK : va_K G.2.1 fcl (ftys G) s) (hG : fWf G) (hM : fMem G μ H) (hS : va_S (fA G) s.heap H locs) (hr : (q, y, h) ∈ frefs) (hc : (fal q).1 = 0) (hin : fin i (fal q).2) (hdg : decode cc pc = .ok (.iastore, 1))
    (kk : ∀ (H1 : Heap) (locs1 : List Loc), fMem G (fI μ q y h i.toNatClampNeg x) H1 → va_S (fA G) s.heap H1 locs1 → W p l e R s m args below meth c H1 locs1 cells slots Q (F0 m (pc + 1) ls rest)) : W p l e R s m args below meth c H locs cells slots Q (F0 m pc ls (.int x :: .int i :: .ref (G.1 (q, y, h)) :: rest)) := by
  obtain ⟨j, hj⟩ := fidx hr
  obtain ⟨sw, hP, hD, hback⟩ := fMem_open hG hM
  refine va_iast hx hb hK hP hD hS j 0 (cA := G.2.2.1 0) (n := (fal q).2) (f := fun j => μ.1 q y h j) (by rw [fopen_at hj, fcell_a (fal_ge (by omega)), hc]; simp only [facon, hc]) (ftys_at G 0 (by omega)) hin hdg (fun H1 locs1 hP1 hD1 hS1 => kk H1 locs1 (hback _ H1 (fI51 (fal51 hc (by omega))) ?_) hS1)
  rw [fopen_set (μ' := fI μ q y h i.toNatClampNeg x) hj (by rw [fcell_fI_arr (by omega), hc]; try rfl) (fun r' _ hne => fcell_fI_ne hne)] at hP1
  exact hP1
theorem fw_zast {x : Int32} (hx : p.tables.exec = Jvm.exec) (hb : c.code = cc) (hK : va_K G.2.1 fcl (ftys G) s) (hG : fWf G) (hM : fMem G μ H) (hS : va_S (fA G) s.heap H locs) (hr : (q, y, h) ∈ frefs) (hc : (fal q).1 = 1) (hin : fin i (fal q).2) (hdg : decode cc pc = .ok (.bastore, 1))
    (kk : ∀ (H1 : Heap) (locs1 : List Loc), fMem G (fI μ q y h i.toNatClampNeg (fnar 1 x)) H1 → va_S (fA G) s.heap H1 locs1 → W p l e R s m args below meth c H1 locs1 cells slots Q (F0 m (pc + 1) ls rest)) : W p l e R s m args below meth c H locs cells slots Q (F0 m pc ls (.int x :: .int i :: .ref (G.1 (q, y, h)) :: rest)) := by
  obtain ⟨j, hj⟩ := fidx hr
  obtain ⟨sw, hP, hD, hback⟩ := fMem_open hG hM
  refine va_zast hx hb hK hP hD hS j 1 (cA := G.2.2.1 1) (n := (fal q).2) (f := fun j => μ.1 q y h j) (by rw [fopen_at hj, fcell_a (fal_ge (by omega)), hc]; simp only [facon, hc]) (ftys_at G 1 (by omega)) hin hdg (fun H1 locs1 hP1 hD1 hS1 => kk H1 locs1 (hback _ H1 (fI51 (fal51 hc (by omega))) ?_) hS1)
  rw [fopen_set (μ' := fI μ q y h i.toNatClampNeg (fnar 1 x)) hj (by rw [fcell_fI_arr (by omega), hc]; try rfl) (fun r' _ hne => fcell_fI_ne hne)] at hP1
  exact hP1
theorem fw_cast {x : Int32} (hx : p.tables.exec = Jvm.exec) (hb : c.code = cc) (hK : va_K G.2.1 fcl (ftys G) s) (hG : fWf G) (hM : fMem G μ H) (hS : va_S (fA G) s.heap H locs) (hr : (q, y, h) ∈ frefs) (hc : (fal q).1 = 2) (hin : fin i (fal q).2) (hdg : decode cc pc = .ok (.castore, 1))
    (kk : ∀ (H1 : Heap) (locs1 : List Loc), fMem G (fI μ q y h i.toNatClampNeg (fnar 2 x)) H1 → va_S (fA G) s.heap H1 locs1 → W p l e R s m args below meth c H1 locs1 cells slots Q (F0 m (pc + 1) ls rest)) : W p l e R s m args below meth c H locs cells slots Q (F0 m pc ls (.int x :: .int i :: .ref (G.1 (q, y, h)) :: rest)) := by
  obtain ⟨j, hj⟩ := fidx hr
  obtain ⟨sw, hP, hD, hback⟩ := fMem_open hG hM
  refine va_cast hx hb hK hP hD hS j 2 (cA := G.2.2.1 2) (n := (fal q).2) (f := fun j => μ.1 q y h j) (by rw [fopen_at hj, fcell_a (fal_ge (by omega)), hc]; simp only [facon, hc]) (ftys_at G 2 (by omega)) hin hdg (fun H1 locs1 hP1 hD1 hS1 => kk H1 locs1 (hback _ H1 (fI51 (fal51 hc (by omega))) ?_) hS1)
  rw [fopen_set (μ' := fI μ q y h i.toNatClampNeg (fnar 2 x)) hj (by rw [fcell_fI_arr (by omega), hc]; try rfl) (fun r' _ hne => fcell_fI_ne hne)] at hP1
  exact hP1
theorem fw_last {x : Int64} (hx : p.tables.exec = Jvm.exec) (hb : c.code = cc) (hK : va_K G.2.1 fcl (ftys G) s) (hG : fWf G) (hM : fMem G μ H) (hS : va_S (fA G) s.heap H locs) (hr : (q, y, h) ∈ frefs) (hc : (fal q).1 = 3) (hin : fin i (fal q).2) (hdg : decode cc pc = .ok (.lastore, 1))
    (kk : ∀ (H1 : Heap) (locs1 : List Loc), fMem G (fJ μ q y h i.toNatClampNeg x) H1 → va_S (fA G) s.heap H1 locs1 → W p l e R s m args below meth c H1 locs1 cells slots Q (F0 m (pc + 1) ls rest)) : W p l e R s m args below meth c H locs cells slots Q (F0 m pc ls (.long x :: .int i :: .ref (G.1 (q, y, h)) :: rest)) := by
  obtain ⟨j, hj⟩ := fidx hr
  obtain ⟨sw, hP, hD, hback⟩ := fMem_open hG hM
  refine va_last hx hb hK hP hD hS j 3 (cA := G.2.2.1 3) (n := (fal q).2) (f := fun j => μ.2.1 q y h j) (by rw [fopen_at hj, fcell_a (fal_ge (by omega)), hc]; simp only [facon, hc]) (ftys_at G 3 (by omega)) hin hdg (fun H1 locs1 hP1 hD1 hS1 => kk H1 locs1 (hback _ H1 (fun _ _ => rfl) ?_) hS1)
  rw [fopen_set (μ' := fJ μ q y h i.toNatClampNeg x) hj (by rw [fcell_fJ_arr (by omega), hc]; try rfl) (fun r' _ hne => fcell_fJ_ne hne)] at hP1
  exact hP1
theorem fw_dast {x : UInt64} (hx : p.tables.exec = Jvm.exec) (hb : c.code = cc) (hK : va_K G.2.1 fcl (ftys G) s) (hG : fWf G) (hM : fMem G μ H) (hS : va_S (fA G) s.heap H locs) (hr : (q, y, h) ∈ frefs) (hc : (fal q).1 = 4) (hin : fin i (fal q).2) (hdg : decode cc pc = .ok (.dastore, 1))
    (kk : ∀ (H1 : Heap) (locs1 : List Loc), fMem G (fD μ q y h i.toNatClampNeg x) H1 → va_S (fA G) s.heap H1 locs1 → W p l e R s m args below meth c H1 locs1 cells slots Q (F0 m (pc + 1) ls rest)) : W p l e R s m args below meth c H locs cells slots Q (F0 m pc ls (.double x :: .int i :: .ref (G.1 (q, y, h)) :: rest)) := by
  obtain ⟨j, hj⟩ := fidx hr
  obtain ⟨sw, hP, hD, hback⟩ := fMem_open hG hM
  refine va_dast hx hb hK hP hD hS j 4 (cA := G.2.2.1 4) (n := (fal q).2) (f := fun j => μ.2.2 q y h j) (by rw [fopen_at hj, fcell_a (fal_ge (by omega)), hc]; simp only [facon, hc]) (ftys_at G 4 (by omega)) hin hdg (fun H1 locs1 hP1 hD1 hS1 => kk H1 locs1 (hback _ H1 (fun _ _ => rfl) ?_) hS1)
  rw [fopen_set (μ' := fD μ q y h i.toNatClampNeg x) hj (by rw [fcell_fD_arr (by omega), hc]; try rfl) (fun r' _ hne => fcell_fD_ne hne)] at hP1
  exact hP1
end FRW
end
section
/-! WORDS: the good words of the tables, for every method the same -/
def fT : List Jvm.Cond := lw_tbl.filter goodWord
theorem fT_mem {w : Jvm.Cond} (i : Nat) (h : lw_tbl[i]? = some w) (g : goodWord w = true) : w ∈ fT := List.mem_filter.mpr ⟨List.mem_of_getElem? h, g⟩
theorem fT_good {w : Jvm.Cond} (h : w ∈ fT) : goodWord w = true := (List.mem_filter.mp h).2
abbrev fct (a : Nat) : vw_C := fcl.getD a (RX0, TX0, 3)
def ffw (own : String) (q : Nat × Nat × Nat × Nat) : Jvm.Cond := .fieldLink own q.1 ((fct q.2.1).2.1 q.2.2.1).1 ((fct q.2.1).2.1 q.2.2.1).2.1 ((fct q.2.1).2.1 q.2.2.1).2.2.1
/-- the fields that a class' code names: constant, kind, field, place among the tables' words -/
def ffl_ok (own : String) (fl : List (Nat × Nat × Nat × Nat)) : Prop := ∀ q ∈ fl, ffw own q ∈ fT
theorem ffl_of {own : String} {fl : List (Nat × Nat × Nat × Nat)} (h : ∀ q ∈ fl, lw_tbl[q.2.2.2]? = some (ffw own q)) : ffl_ok own fl := fun q hq => fT_mem _ (h q hq) rfl
def flX0 : List (Nat × Nat × Nat × Nat) := [(11, 0, 0, 240), (18, 0, 1, 241), (22, 0, 2, 242)]
theorem flX0_ok : ffl_ok RX0 flX0 := ffl_of (by decide +kernel)
def flX1 : List (Nat × Nat × Nat × Nat) := [(9, 1, 0, 159), (15, 1, 1, 161), (18, 1, 2, 163), (21, 1, 4, 172), (31, 1, 3, 168), (34, 1, 5, 176), (37, 1, 6, 178)]
theorem flX1_ok : ffl_ok RX1 flX1 := ffl_of (by decide +kernel)
def flX2 : List (Nat × Nat × Nat × Nat) := [(9, 2, 0, 126), (15, 2, 1, 128), (18, 2, 2, 130), (21, 2, 3, 131), (24, 2, 4, 132), (34, 2, 5, 133), (38, 2, 6, 136), (47, 1, 4, 173), (52, 1, 3, 170)]
theorem flX2_ok : ffl_ok RX2 flX2 := ffl_of (by decide +kernel)
def flX3 : List (Nat × Nat × Nat × Nat) := [(9, 3, 0, 257), (15, 3, 2, 260), (19, 3, 3, 262), (22, 3, 1, 258), (52, 3, 4, 263), (55, 3, 6, 267), (58, 3, 5, 265)]
theorem flX3_ok : ffl_ok RX3 flX3 := ffl_of (by decide +kernel)
def flX4 : List (Nat × Nat × Nat × Nat) := [(9, 4, 0, 335), (15, 4, 1, 336), (19, 4, 2, 337), (22, 6, 0, 200), (34, 6, 2, 205), (37, 1, 3, 167), (44, 6, 4, 210)]
theorem flX4_ok : ffl_ok RX4 flX4 := ffl_of (by decide +kernel)
def flX5 : List (Nat × Nat × Nat × Nat) := [(11, 5, 0, 325), (16, 1, 3, 166)]
theorem flX5_ok : ffl_ok RX5 flX5 := ffl_of (by decide +kernel)
def flX6 : List (Nat × Nat × Nat × Nat) := [(11, 6, 0, 199), (17, 6, 1, 202), (21, 6, 2, 204), (27, 6, 3, 207), (51, 6, 4, 209), (55, 6, 5, 212), (58, 6, 6, 214), (69, 1, 3, 169), (110, 1, 4, 174), (119, 2, 5, 134), (125, 2, 1, 129), (137, 1, 2, 165), (144, 1, 6, 180), (159, 1, 5, 177)]
theorem flX6_ok : ffl_ok RX6 flX6 := ffl_of (by decide +kernel)
def flX7 : List (Nat × Nat × Nat × Nat) := [(10, 7, 0, 347), (19, 7, 1, 348), (23, 7, 2, 349), (29, 7, 4, 351), (33, 7, 5, 352), (39, 7, 6, 353), (43, 7, 8, 355), (47, 7, 9, 356), (53, 7, 10, 357), (60, 7, 11, 358), (67, 7, 12, 359), (75, 6, 4, 211), (82, 1, 4, 175), (85, 1, 3, 171), (95, 1, 0, 160), (99, 1, 1, 162), (108, 1, 2, 164), (111, 1, 6, 179), (150, 6, 5, 213), (170, 6, 1, 203), (203, 6, 2, 206), (216, 6, 3, 208), (220, 2, 5, 135), (227, 2, 0, 127), (238, 6, 0, 201), (246, 6, 6, 215), (252, 7, 7, 354), (286, 3, 1, 259), (296, 3, 5, 266), (306, 3, 4, 264), (313, 0, 2, 243), (324, 7, 3, 350), (349, 3, 2, 261)]
theorem flX7_ok : ffl_ok RX7 flX7 := ffl_of (by decide +kernel)
def flX8 : List (Nat × Nat × Nat × Nat) := [(9, 8, 0, 1565), (13, 8, 1, 1566), (16, 8, 2, 1567), (19, 8, 4, 1569), (22, 8, 6, 1571), (26, 8, 7, 1572), (29, 8, 10, 1575), (32, 8, 12, 1577), (35, 8, 15, 1580), (38, 8, 17, 1582), (42, 8, 18, 1583), (45, 8, 19, 1584), (48, 8, 9, 1574), (51, 8, 5, 1570), (126, 8, 8, 1573), (197, 8, 13, 1578), (200, 8, 14, 1579), (216, 8, 16, 1581), (230, 8, 11, 1576), (233, 8, 21, 1586), (236, 8, 22, 1587), (239, 8, 23, 1588), (265, 8, 20, 1585), (281, 8, 3, 1568)]
theorem flX8_ok : ffl_ok RX8 flX8 := ffl_of (by decide +kernel)
theorem uwX0_ok : ∀ w ∈ u_ws RX0 TX0 3, w ∈ fT := by
  have h : ∀ q ∈ (u_ws RX0 TX0 3).zip [244, 246, 248], lw_tbl[q.2]? = some q.1 := by decide +kernel
  have g : ∀ w ∈ u_ws RX0 TX0 3, goodWord w = true := by decide +kernel
  have z : ((u_ws RX0 TX0 3).zip [244, 246, 248]).map Prod.fst = u_ws RX0 TX0 3 := by decide +kernel
  intro w hw
  rw [← z] at hw
  obtain ⟨q, hq, rfl⟩ := List.mem_map.mp hw
  exact fT_mem _ (h q hq) (g _ (by rw [← z]; exact List.mem_map.mpr ⟨q, hq, rfl⟩))
theorem uwX1_ok : ∀ w ∈ u_ws RX1 TX1 7, w ∈ fT := by
  have h : ∀ q ∈ (u_ws RX1 TX1 7).zip [181, 183, 185, 187, 189, 191, 193], lw_tbl[q.2]? = some q.1 := by decide +kernel
  have g : ∀ w ∈ u_ws RX1 TX1 7, goodWord w = true := by decide +kernel
  have z : ((u_ws RX1 TX1 7).zip [181, 183, 185, 187, 189, 191, 193]).map Prod.fst = u_ws RX1 TX1 7 := by decide +kernel
  intro w hw
  rw [← z] at hw
  obtain ⟨q, hq, rfl⟩ := List.mem_map.mp hw
  exact fT_mem _ (h q hq) (g _ (by rw [← z]; exact List.mem_map.mpr ⟨q, hq, rfl⟩))
theorem uwX2_ok : ∀ w ∈ u_ws RX2 TX2 7, w ∈ fT := by
  have h : ∀ q ∈ (u_ws RX2 TX2 7).zip [137, 139, 141, 143, 145, 147, 149], lw_tbl[q.2]? = some q.1 := by decide +kernel
  have g : ∀ w ∈ u_ws RX2 TX2 7, goodWord w = true := by decide +kernel
  have z : ((u_ws RX2 TX2 7).zip [137, 139, 141, 143, 145, 147, 149]).map Prod.fst = u_ws RX2 TX2 7 := by decide +kernel
  intro w hw
  rw [← z] at hw
  obtain ⟨q, hq, rfl⟩ := List.mem_map.mp hw
  exact fT_mem _ (h q hq) (g _ (by rw [← z]; exact List.mem_map.mpr ⟨q, hq, rfl⟩))
theorem uwX3_ok : ∀ w ∈ u_ws RX3 TX3 7, w ∈ fT := by
  have h : ∀ q ∈ (u_ws RX3 TX3 7).zip [268, 270, 272, 274, 276, 278, 280], lw_tbl[q.2]? = some q.1 := by decide +kernel
  have g : ∀ w ∈ u_ws RX3 TX3 7, goodWord w = true := by decide +kernel
  have z : ((u_ws RX3 TX3 7).zip [268, 270, 272, 274, 276, 278, 280]).map Prod.fst = u_ws RX3 TX3 7 := by decide +kernel
  intro w hw
  rw [← z] at hw
  obtain ⟨q, hq, rfl⟩ := List.mem_map.mp hw
  exact fT_mem _ (h q hq) (g _ (by rw [← z]; exact List.mem_map.mpr ⟨q, hq, rfl⟩))
theorem uwX4_ok : ∀ w ∈ u_ws RX4 TX4 3, w ∈ fT := by
  have h : ∀ q ∈ (u_ws RX4 TX4 3).zip [338, 340, 342], lw_tbl[q.2]? = some q.1 := by decide +kernel
  have g : ∀ w ∈ u_ws RX4 TX4 3, goodWord w = true := by decide +kernel
  have z : ((u_ws RX4 TX4 3).zip [338, 340, 342]).map Prod.fst = u_ws RX4 TX4 3 := by decide +kernel
  intro w hw
  rw [← z] at hw
  obtain ⟨q, hq, rfl⟩ := List.mem_map.mp hw
  exact fT_mem _ (h q hq) (g _ (by rw [← z]; exact List.mem_map.mpr ⟨q, hq, rfl⟩))
theorem uwX5_ok : ∀ w ∈ u_ws RX5 TX5 1, w ∈ fT := by
  have h : ∀ q ∈ (u_ws RX5 TX5 1).zip [326], lw_tbl[q.2]? = some q.1 := by decide +kernel
  have g : ∀ w ∈ u_ws RX5 TX5 1, goodWord w = true := by decide +kernel
  have z : ((u_ws RX5 TX5 1).zip [326]).map Prod.fst = u_ws RX5 TX5 1 := by decide +kernel
  intro w hw
  rw [← z] at hw
  obtain ⟨q, hq, rfl⟩ := List.mem_map.mp hw
  exact fT_mem _ (h q hq) (g _ (by rw [← z]; exact List.mem_map.mpr ⟨q, hq, rfl⟩))
theorem uwX6_ok : ∀ w ∈ u_ws RX6 TX6 7, w ∈ fT := by
  have h : ∀ q ∈ (u_ws RX6 TX6 7).zip [216, 218, 220, 222, 224, 226, 228], lw_tbl[q.2]? = some q.1 := by decide +kernel
  have g : ∀ w ∈ u_ws RX6 TX6 7, goodWord w = true := by decide +kernel
  have z : ((u_ws RX6 TX6 7).zip [216, 218, 220, 222, 224, 226, 228]).map Prod.fst = u_ws RX6 TX6 7 := by decide +kernel
  intro w hw
  rw [← z] at hw
  obtain ⟨q, hq, rfl⟩ := List.mem_map.mp hw
  exact fT_mem _ (h q hq) (g _ (by rw [← z]; exact List.mem_map.mpr ⟨q, hq, rfl⟩))
theorem uwX7_ok : ∀ w ∈ u_ws RX7 TX7 13, w ∈ fT := by
  have h : ∀ q ∈ (u_ws RX7 TX7 13).zip [360, 362, 364, 366, 368, 370, 372, 374, 376, 378, 380, 382, 384], lw_tbl[q.2]? = some q.1 := by decide +kernel
  have g : ∀ w ∈ u_ws RX7 TX7 13, goodWord w = true := by decide +kernel
  have z : ((u_ws RX7 TX7 13).zip [360, 362, 364, 366, 368, 370, 372, 374, 376, 378, 380, 382, 384]).map Prod.fst = u_ws RX7 TX7 13 := by decide +kernel
  intro w hw
  rw [← z] at hw
  obtain ⟨q, hq, rfl⟩ := List.mem_map.mp hw
  exact fT_mem _ (h q hq) (g _ (by rw [← z]; exact List.mem_map.mpr ⟨q, hq, rfl⟩))
theorem uwX8_ok : ∀ w ∈ u_ws RX8 TX8 24, w ∈ fT := by
  have h : ∀ q ∈ (u_ws RX8 TX8 24).zip [1589, 1591, 1593, 1595, 1597, 1599, 1601, 1603, 1605, 1607, 1609, 1611, 1613, 1615, 1617, 1619, 1621, 1623, 1625, 1627, 1629, 1631, 1633, 1635], lw_tbl[q.2]? = some q.1 := by decide +kernel
  have g : ∀ w ∈ u_ws RX8 TX8 24, goodWord w = true := by decide +kernel
  have z : ((u_ws RX8 TX8 24).zip [1589, 1591, 1593, 1595, 1597, 1599, 1601, 1603, 1605, 1607, 1609, 1611, 1613, 1615, 1617, 1619, 1621, 1623, 1625, 1627, 1629, 1631, 1633, 1635]).map Prod.fst = u_ws RX8 TX8 24 := by decide +kernel
  intro w hw
  rw [← z] at hw
  obtain ⟨q, hq, rfl⟩ := List.mem_map.mp hw
  exact fT_mem _ (h q hq) (g _ (by rw [← z]; exact List.mem_map.mpr ⟨q, hq, rfl⟩))
theorem f_lt9 {P : Nat → Prop} (h0 : P 0) (h1 : P 1) (h2 : P 2) (h3 : P 3) (h4 : P 4) (h5 : P 5) (h6 : P 6) (h7 : P 7) (h8 : P 8) : ∀ a, a < 9 → P a := fun a ha => match a, ha with
  | 0, _ => h0
  | 1, _ => h1
  | 2, _ => h2
  | 3, _ => h3
  | 4, _ => h4
  | 5, _ => h5
  | 6, _ => h6
  | 7, _ => h7
  | 8, _ => h8
theorem fuw_ok : ∀ a, a < 9 → ∀ w ∈ u_ws (fct a).1 (fct a).2.1 (fct a).2.2, w ∈ fT := f_lt9 uwX0_ok uwX1_ok uwX2_ok uwX3_ok uwX4_ok uwX5_ok uwX6_ok uwX7_ok uwX8_ok
theorem fnm_ok : ∀ a, a < 9 → ∀ i, i < (fct a).2.2 → ∀ j, j < (fct a).2.2 → i ≠ j → ((fct a).2.1 i).2.1 ≠ ((fct a).2.1 j).2.1 := f_lt9 nmX0 nmX1 nmX2 nmX3 nmX4 nmX5 nmX6 nmX7 nmX8
theorem fty_ok : ∀ a, a < 9 → ∃ ty : Nat → FieldType, ∀ k, k < (fct a).2.2 → parseFieldDescriptor ((fct a).2.1 k).2.2.1 = some (ty k) := f_lt9 ⟨_, tyX0_ok⟩ ⟨_, tyX1_ok⟩ ⟨_, tyX2_ok⟩ ⟨_, tyX3_ok⟩ ⟨_, tyX4_ok⟩ ⟨_, tyX5_ok⟩ ⟨_, tyX6_ok⟩ ⟨_, tyX7_ok⟩ ⟨_, tyX8_ok⟩
theorem fnf_ok : ∀ a, a < 9 → (fct a).2.2 = fnf a := by decide +kernel
theorem fcl_at : ∀ a, a < 9 → fcl[a]? = some (fct a) := by
  refine f_lt9 ?_ ?_ ?_ ?_ ?_ ?_ ?_ ?_ ?_ <;> rfl
/-- what the code of a field says of its type -/
def fcty (n : Nat) : FieldType := match n with
  | 0 => .int
  | 1 => .boolean
  | _ => .long
theorem fcty_ok : ∀ a, a < 9 → ∀ k, k < fnf a → (fkfL.getD a []).getD k 0 < 3 → parseFieldDescriptor ((fct a).2.1 k).2.2.1 = some (fcty ((fkfL.getD a []).getD k 0)) := by decide +kernel
section FRG
variable {p : Program} {l : Launch} {e : Env} {R : Room} {s : State} {m : MethodId} {args : Array Value} {below : List Frame} {meth : Method} {c : Code} {H : Heap} {locs : List Loc} {cells slots : Nat} {Q : State → Prop}
variable {cc : ByteArray} {pc : Nat} {ls : Array Slot} {rest : List Value} {G : fG} {μ : fM} {q y h : Nat} {i : Int32} {own : String} {index k : Nat}
theorem fr_get (hx : p.tables.exec = Jvm.exec) (hb : c.code = cc) (hts : ∀ w ∈ fT, w.before args s = true) (hown : s.vm.findClass own = some m.cls) (hK : va_K G.2.1 fcl (ftys G) s) (hM : fMem G μ H) (hr : (q, y, h) ∈ frefs) (hq : q < 9) (hk : k < fnf q) {z : Nat} (hl : ffw own (index, q, k, z) ∈ fT) (hdg : decode cc pc = .ok (.getfield index, 3))
    (kk : W p l e R s m args below meth c H locs cells slots Q (F0 m (pc + 3) ls (ftv G (ffv μ q y h k) :: rest))) : W p l e R s m args below meth c H locs cells slots Q (F0 m pc ls (.ref (G.1 (q, y, h)) :: rest)) := by
  obtain ⟨j, hj⟩ := fidx hr
  exact va_get (C := (fct q).1) (T := (fct q).2.1) (N := (fct q).2.2) (ci := q) hx hb hts (fuw_ok q hq) hown hK hM.1 j (by rw [fws_at hj, fcell_o hq]) (fcl_at q hq) k (by rw [fnf_ok q hq]; exact hk) (hts _ hl) (fun _ h9 => h9) (ffs_at hk) hdg kk
theorem fw_put {v : Value} {μ' : fM} {ty : FieldType} (hx : p.tables.exec = Jvm.exec) (hb : c.code = cc) (hts : ∀ w ∈ fT, w.before args s = true) (hown : s.vm.findClass own = some m.cls) (hK : va_K G.2.1 fcl (ftys G) s) (hG : fWf G) (hM : fMem G μ H) (hS : va_S (fA G) s.heap H locs) (hr : (q, y, h) ∈ frefs) (hq : q < 9) (hk : k < fnf q) {z : Nat} (hl : ffw own (index, q, k, z) ∈ fT) (hfin : ((fct q).2.1 k).2.2.2 = false)
    (hd : parseFieldDescriptor ((fct q).2.1 k).2.2.1 = some ty) (hn : narrow ty v = v) (hfit : fits ty v = true) (he : ffs G μ' q y h = (ffs G μ q y h).set k v) (hs : ∀ r' ∈ frefs, r' ≠ (q, y, h) → fcell G μ' r' = fcell G μ r') (h51 : ∀ y j, μ'.1 51 y 0 j = μ.1 51 y 0 j) (hdg : decode cc pc = .ok (.putfield index, 3))
    (kk : ∀ (H1 : Heap) (locs1 : List Loc), fMem G μ' H1 → va_S (fA G) s.heap H1 locs1 → W p l e R s m args below meth c H1 locs1 cells slots Q (F0 m (pc + 3) ls rest)) : W p l e R s m args below meth c H locs cells slots Q (F0 m pc ls (v :: .ref (G.1 (q, y, h)) :: rest)) := by
  obtain ⟨j, hj⟩ := fidx hr
  obtain ⟨sw, hP, hD, hback⟩ := fMem_open hG hM
  obtain ⟨ty0, hty⟩ := fty_ok q hq
  refine va_put (C := (fct q).1) (T := (fct q).2.1) (N := (fct q).2.2) (ci := q) hx hb hts (fuw_ok q hq) ty0 hty (fnm_ok q hq) hown hK hP hD hS j (by rw [fopen_at hj, fcell_o hq]) (fcl_at q hq) k (by rw [fnf_ok q hq]; exact hk) (hts _ hl) (fun _ h9 => h9) hfin hd hn hfit (by rw [ffs_len]; exact hk) hdg (fun H1 locs1 hP1 hD1 hS1 => kk H1 locs1 (hback μ' H1 h51 ?_) hS1)
  rw [fopen_set hj (by rw [fcell_o hq, he]) hs] at hP1
  exact hP1
theorem fr_aald {t : Nat} (hx : p.tables.exec = Jvm.exec) (hb : c.code = cc) (hK : va_K G.2.1 fcl (ftys G) s) (hM : fMem G μ H) (hr : (q, y, h) ∈ frefs) (hc : (fal q).1 = t) (ht : 5 ≤ t ∧ t ≤ 7) (hin : fin i (fal q).2) (hdg : decode cc pc = .ok (.aaload, 1))
    (kk : W p l e R s m args below meth c H locs cells slots Q (F0 m (pc + 1) ls (.ref (G.1 (fel q y i.toNatClampNeg)) :: rest))) : W p l e R s m args below meth c H locs cells slots Q (F0 m pc ls (.int i :: .ref (G.1 (q, y, h)) :: rest)) := by
  obtain ⟨j, hj⟩ := fidx hr
  have hlt : i.toNatClampNeg < (fal q).2 := Nat.not_le.mp fun q => hin (Or.inr q)
  have ha : (fws G μ)[j]? = some (G.1 (q, y, h), .inl (G.2.2.1 t, (fal q).2, .inr (.inr (.inr (.inr (fun j => some (G.1 (fel q y j)))))))) := by
    rw [fws_at hj, fcell_a (fal_ge (by omega)), hc]
    have : t = 5 ∨ t = 6 ∨ t = 7 := by omega
    rcases this with rfl | rfl | rfl <;> simp only [facon, hc]
  have ht3 : t = 5 ∨ t = 6 ∨ t = 7 := by omega
  rcases ht3 with rfl | rfl | rfl
  · exact W.aald (v := .ref (G.1 (fel q y i.toNatClampNeg))) (ty := .object "PuddleBoatyard$Hull") hx hb (hM.1 j _ ha) ((hK.2 5 _ (ftys_at G 5 (by omega))).1 _ (fun j => va_rf (some (G.1 (fel q y j))))) rfl (fun q => by cases q) (by show ¬ (i < 0 ∨ (arrV _ _ _).slots.size ≤ _); rw [arrV_size]; exact hin) (by show (arrV _ _ _).slots[_]? = _; rw [arrV_read _ _ hlt]; rfl) rfl rfl hdg kk
  · exact W.aald (v := .ref (G.1 (fel q y i.toNatClampNeg))) (ty := .object "PuddleBoatyard$Yard") hx hb (hM.1 j _ ha) ((hK.2 6 _ (ftys_at G 6 (by omega))).1 _ (fun j => va_rf (some (G.1 (fel q y j))))) rfl (fun q => by cases q) (by show ¬ (i < 0 ∨ (arrV _ _ _).slots.size ≤ _); rw [arrV_size]; exact hin) (by show (arrV _ _ _).slots[_]? = _; rw [arrV_read _ _ hlt]; rfl) rfl rfl hdg kk
  · exact W.aald (v := .ref (G.1 (fel q y i.toNatClampNeg))) (ty := .array .int) hx hb (hM.1 j _ ha) ((hK.2 7 _ (ftys_at G 7 (by omega))).1 _ (fun j => va_rf (some (G.1 (fel q y j))))) rfl (fun q => by cases q) (by show ¬ (i < 0 ∨ (arrV _ _ _).slots.size ≤ _); rw [arrV_size]; exact hin) (by show (arrV _ _ _).slots[_]? = _; rw [arrV_read _ _ hlt]; rfl) rfl rfl hdg kk
end FRG
end
section
/-! LOCALS of the flat machine against the machine's -/
theorem ftv_cat (G : fG) (v : fV) : (ftv G v).category = fcat v := by
  rcases v with r | x | x | x <;> rfl
def fLH (G : fG) (ls : Array Slot) (nL : Nat) (L : List (Option fV)) : Prop := ls.size = nL ∧ lv_wf ls ∧ L.length ≤ nL ∧ ∀ (i : Nat) (v : fV), L[i]? = some (some v) → ls[i]? = some (.val (ftv G v))
def flv (G : fG) (L : List (Option fV)) : List (Nat × Value) := (List.range L.length).filterMap (fun i => match L[i]? with
  | some (some v) => some (i, ftv G v)
  | _ => none)
theorem flv_mem {G : fG} {L : List (Option fV)} {q : Nat × Value} : q ∈ flv G L ↔ ∃ v, L[q.1]? = some (some v) ∧ q.2 = ftv G v := by
  unfold flv
  rw [List.mem_filterMap]
  constructor
  · rintro ⟨i, -, hi⟩
    cases h : L[i]? with
    | none => rw [h] at hi; cases hi
    | some w =>
      cases w with
      | none => rw [h] at hi; cases hi
      | some v =>
        rw [h] at hi
        cases hi
        exact ⟨v, h, rfl⟩
  · rintro ⟨v, h1, h2⟩
    refine ⟨q.1, List.mem_range.mpr (List.getElem?_eq_some_iff.mp h1).1, ?_⟩
    rw [h1]
    show some (q.1, ftv G v) = some q
    rw [← h2]
theorem fLH.has {G : fG} {ls : Array Slot} {nL : Nat} {L : List (Option fV)} (h : fLH G ls nL L) : lv_has ls nL (flv G L) := ⟨h.1, h.2.1, fun q hq => by
  obtain ⟨v, h1, h2⟩ := flv_mem.mp hq
  rw [h2]
  exact h.2.2.2 q.1 v h1⟩
theorem fdrop_len (L : List (Option fV)) (a : Nat) : (fdrop L a).length = L.length := by
  unfold fdrop
  split
  · rfl
  · split
    · cases Nat.ble 2 (ftag _) <;> simp
    · rfl
theorem fdrop_at {L : List (Option fV)} {a j : Nat} {v : fV} (h : (fdrop L a)[j]? = some (some v)) : L[j]? = some (some v) ∧ ¬ (j + 1 = a ∧ fcat v = 2) := by
  unfold fdrop at h
  split at h
  · exact ⟨h, by omega⟩
  · rename_i a'
    split at h
    · rename_i w hw
      by_cases hb : Nat.ble 2 (ftag w) = true
      · rw [hb] at h
        simp only [cond_true] at h
        rw [List.getElem?_set] at h
        by_cases hj : a' = j
        · subst hj
          rw [if_pos rfl] at h
          split at h <;> cases h
        · rw [if_neg hj] at h
          exact ⟨h, by omega⟩
      · have hb' : Nat.ble 2 (ftag w) = false := Bool.eq_false_iff.mpr hb
        rw [hb'] at h
        simp only [cond_false] at h
        refine ⟨h, fun q => ?_⟩
        have e : a' = j := by omega
        subst e
        rw [hw] at h
        cases h
        have := q.2
        unfold fcat at this
        rw [hb'] at this
        simp at this
    · rename_i hn
      refine ⟨h, fun q => ?_⟩
      have e : a' = j := by omega
      subst e
      exact hn _ h
theorem fLH.put1 {G : fG} {ls ls' : Array Slot} {nL a : Nat} {L : List (Option fV)} {v : fV} {w : Option fV} (h : fLH G ls nL L) (hw : w = some v ∨ w = none) (h' : lv_has ls' nL ((a, ftv G v) :: (flv G L).filter (fun q => !(q.1 == a) && !(q.1 + 1 == a && q.2.category == 2)))) : fLH G ls' nL (fput1 L a w) := by
  refine ⟨h'.1, h'.2.1, by unfold fput1; rw [List.length_set, fdrop_len]; exact h.2.2.1, fun i x hx => ?_⟩
  unfold fput1 at hx
  rw [List.getElem?_set] at hx
  by_cases hi : a = i
  · subst hi
    rw [if_pos rfl] at hx
    rcases hw with rfl | rfl
    · split at hx
      · cases hx
        exact h'.2.2 (a, ftv G v) List.mem_cons_self
      · cases hx
    · split at hx <;> cases hx
  · rw [if_neg hi] at hx
    obtain ⟨h1, h2⟩ := fdrop_at hx
    refine h'.2.2 (i, ftv G x) (List.mem_cons_of_mem _ (List.mem_filter.mpr ⟨flv_mem.mpr ⟨x, h1, rfl⟩, ?_⟩))
    have e1 : (i == a) = false := by simpa using fun q => hi q.symm
    show (!(i == a) && !(i + 1 == a && (ftv G x).category == 2)) = true
    rw [e1, ftv_cat]
    by_cases e2 : i + 1 = a
    · have : ¬ fcat x = 2 := fun q => h2 ⟨e2, q⟩
      simp [this]
    · simp [e2]
theorem fLH.put2 {G : fG} {ls ls' : Array Slot} {nL a : Nat} {L : List (Option fV)} {v : fV} (h : fLH G ls nL L) (h' : lv_has ls' nL ((a, ftv G v) :: (flv G L).filter (fun q => !(q.1 == a) && (!(q.1 == a + 1) && !(q.1 + 1 == a && q.2.category == 2))))) : fLH G ls' nL (fput2 L a v) := by
  refine ⟨h'.1, h'.2.1, by unfold fput2; rw [List.length_set, List.length_set, fdrop_len]; exact h.2.2.1, fun i x hx => ?_⟩
  unfold fput2 at hx
  rw [List.getElem?_set] at hx
  by_cases hi2 : a + 1 = i
  · rw [if_pos hi2] at hx
    split at hx <;> cases hx
  rw [if_neg hi2, List.getElem?_set] at hx
  by_cases hi : a = i
  · subst hi
    rw [if_pos rfl] at hx
    split at hx
    · cases hx
      exact h'.2.2 (a, ftv G v) List.mem_cons_self
    · cases hx
  · rw [if_neg hi] at hx
    obtain ⟨h1, h2⟩ := fdrop_at hx
    refine h'.2.2 (i, ftv G x) (List.mem_cons_of_mem _ (List.mem_filter.mpr ⟨flv_mem.mpr ⟨x, h1, rfl⟩, ?_⟩))
    have e1 : (i == a) = false := by simpa using fun q => hi q.symm
    have e3 : (i == a + 1) = false := by simpa using fun q => hi2 q.symm
    show (!(i == a) && (!(i == a + 1) && !(i + 1 == a && (ftv G x).category == 2))) = true
    rw [e1, e3, ftv_cat]
    by_cases e2 : i + 1 = a
    · have : ¬ fcat x = 2 := fun q => h2 ⟨e2, q⟩
      simp [this]
    · simp [e2]
/-- at the entry: the arguments by their places, the rest not set -/
def fargs : List fV → List (Option fV)
  | [] => []
  | v :: r => bif Nat.ble 2 (ftag v) then some v :: none :: fargs r else some v :: fargs r
def fentry (a : List fV) (n : Nat) : List (Option fV) := fargs a ++ List.replicate (n - (fargs a).length) none
theorem fargs_len (G : fG) : ∀ a : List fV, (lg_sl (a.map (ftv G))).length = (fargs a).length
  | [] => rfl
  | v :: r => by
    have ih := fargs_len G r
    have hc := ftv_cat G v
    simp only [lg_sl, List.map_cons, List.flatMap_cons, List.length_append] at ih ⊢
    unfold fargs
    unfold fcat at hc
    cases hb : Nat.ble 2 (ftag v) <;> rw [hb] at hc <;> (simp [hc, ih]; try omega)
theorem fargs_at (G : fG) : ∀ (a : List fV) (i : Nat) (v : fV), (fargs a)[i]? = some (some v) → (lg_sl (a.map (ftv G)))[i]? = some (.val (ftv G v))
  | [], i, v, h => by simp [fargs] at h
  | w :: r, i, v, h => by
    have ih := fargs_at G r
    have hc := ftv_cat G w
    unfold fargs at h
    unfold fcat at hc
    simp only [lg_sl, List.map_cons, List.flatMap_cons] at ih ⊢
    cases hb : Nat.ble 2 (ftag w) <;> rw [hb] at hc h <;> simp only [cond_true, cond_false] at hc h
    · rw [if_neg (by omega)]
      match i with
      | 0 => simp at h; subst h; simp
      | i + 1 => simpa using ih i v (by simpa using h)
    · rw [if_pos hc]
      match i with
      | 0 => simp at h; subst h; simp
      | 1 => simp at h
      | i + 2 => simpa using ih i v (by simpa using h)
theorem fentry_LH (G : fG) (a : List fV) {n : Nat} (hn : (fargs a).length ≤ n) : fLH G ((lg_sl (a.map (ftv G)) ++ List.replicate (n - (lg_sl (a.map (ftv G))).length) Slot.unset).toArray) n (fentry a n) := by
  have h := lv_entry (a.map (ftv G)) (n := n) (by rw [fargs_len]; exact hn)
  refine ⟨h.1, h.2.1, by unfold fentry; simp; omega, fun i v hi => ?_⟩
  unfold fentry at hi
  by_cases hl : i < (fargs a).length
  · rw [List.getElem?_append_left hl] at hi
    have := fargs_at G a i v hi
    rw [List.getElem?_toArray, List.getElem?_append_left (by rw [fargs_len]; exact hl)]
    exact this
  · rw [List.getElem?_append_right (by omega)] at hi
    rw [List.getElem?_replicate] at hi
    split at hi <;> cases hi
end
section
/-! ===== BEGIN a private method of a nest mate that may throw (follows va_callVN, va_callSN, va_runVN, va_runSN) ===== -/
section
variable {p : Program} {l : Launch} {e : Env} {R : Room} {s : State} {m : MethodId} {args : Array Value} {below : List Frame} {meth : Method} {c : Code} {H : Heap} {locs : List Loc} {cells slots : Nat}
variable {T : State}
theorem vx_callVN (X : Stand p l e R s m args below meth c T locs cells slots) (hexec : p.tables.exec = Jvm.exec) {own C : String} {index : Nat} {host : String} {y : MethodName} {bytes : ByteArray} {maxL : Nat} {ret : Option FieldType}
    (hown : s.vm.findClass own = some m.cls) (hlink : (Cond.methodLinkNest own index y host).before args s = true) (hinst : (Cond.instanceMethod y).before args s = true) (hsel : (Cond.selects C y y).before args s = true)
    (hcode : (Cond.code y bytes maxL ret).before args s = true) (hy : y.cls ≠ "java/lang/invoke/MethodHandle" ∧ y.cls ≠ "java/lang/invoke/VarHandle")
    {W : Nat} {Pre : Pt → Array Value → Prop} {Post : Pt → Array Value → Option Value → Pt → Prop} {PostX : Pt → Array Value → Addr → Pt → Prop} (hK : vx_Back l R p e below s args y 3 W Pre Post PostX)
    {b : Addr} {cellB : Cell} (hcell : T.heap[b]? = some cellB) (hobj : cellB.vm.isStatics = false) (hcls : s.vm.findClass C = some cellB.cls)
    {g : JFrame} (hg : g.method = m) (hsize : g.locals.size = c.maxLocals) {argsL rest : List Value} (hlen : ∀ sig, parseMethodDescriptor y.desc = some sig → argsL.length = sig.parameters.length)
    (hstack : g.stack = argsL.reverse ++ .ref b :: rest) (hW : 2 * g.monitorRoom + (rest.map fun v => v.category).sum ≤ W) (hdg : decode c.code g.pc = .ok (.invokevirtual index, 3))
    (hpre : ∀ vm₁, s.WarmedH vm₁ → Pre ⟨T.setVm vm₁, locs, cells, slots⟩ (Value.ref b :: argsL).toArray) :
    (∃ (v : Option Value) (vm₁ : Vm) (B : Pt), s.WarmedH vm₁ ∧ Stand p l e R s m args below meth c B.U B.locs B.cells B.slots ∧ Post ⟨T.setVm vm₁, locs, cells, slots⟩ (Value.ref b :: argsL).toArray v B ∧
      ∀ target, Steps p.tables e below (B.U.setTop { g with pc := g.pc + 3, stack := v.toList ++ rest }) target → Steps p.tables e below (T.setTop g) target) ∨
    (∃ (q : Addr) (vm₁ : Vm) (B : Pt), s.WarmedH vm₁ ∧ Stand p l e R s m args below meth c B.U B.locs B.cells B.slots ∧ PostX ⟨T.setVm vm₁, locs, cells, slots⟩ (Value.ref b :: argsL).toArray q B ∧
      Steps p.tables e below (T.setTop g) ((B.U.setTop { g with stack := rest }).pushFrame (.throwing q))) := by
  obtain ⟨mk, methM, hnamed, hmethM, hstM, habM⟩ := Cond.instanceMethod_spec hinst
  obtain ⟨methM', cM, hmethM', -, -, -, -, -, -, hsigM⟩ := Cond.code_spec hnamed hcode
  cases hmethM.symm.trans hmethM'
  obtain ⟨c2, r2, m2, q1, q2, q3, q4, kP, hkP, hkPi⟩ := Cond.selects_spec hsel
  cases hcls.symm.trans q1
  cases (State.methodFound?_of_named hnamed hy).symm.trans q2
  cases hnamed.symm.trans q3
  have hselP : selectMethod e.platform s.vm cellB.cls mk = .method mk := by rw [Launch.admits_selectMethod X.admits]; exact q4
  obtain ⟨vm₁, X₁, hstep₁⟩ := X.invokevirtualNest hexec hown hlink hnamed hmethM hstM hkP hkPi hy (a := b) (cell := cellB) hcell
    (fun z h => by rw [h] at hobj; cases hobj) hselP hmethM habM hkP hkPi (g := g) hg (argsL := argsL) (rest := rest) (hlen _ hsigM) hstack hdg
  rcases hK m meth c ⟨T.setVm vm₁, locs, cells, slots⟩ { g with stack := rest } (.invokevirtual index) mk (Value.ref b :: argsL).toArray X₁ hg hsize hdg hW (X₁.named hnamed) (hpre vm₁ X₁.warmed) with ⟨v, B, X', hpost, hsteps⟩ | ⟨q, B, X', hpost, hsteps⟩
  · exact Or.inl ⟨v, vm₁, B, X₁.warmed, X', hpost, fun target h => hstep₁ _ fun acts => by rw [doInvoke_state]; exact hsteps.trans h⟩
  · exact Or.inr ⟨q, vm₁, B, X₁.warmed, X', hpost, hstep₁ _ fun acts => by rw [doInvoke_state]; exact hsteps⟩
theorem vx_callSN (X : Stand p l e R s m args below meth c T locs cells slots) (hexec : p.tables.exec = Jvm.exec) {own : String} {index : Nat} {host : String} {y : MethodName} {bytes : ByteArray} {maxL : Nat} {ret : Option FieldType}
    (hown : s.vm.findClass own = some m.cls) (hlink : (Cond.methodLinkNest own index y host).before args s = true) (hstat : (Cond.static y).before args s = true) (hinit : (Cond.initialized y.cls).before args s = true)
    (hcode : (Cond.code y bytes maxL ret).before args s = true) (hy : y.cls ≠ "java/lang/invoke/MethodHandle" ∧ y.cls ≠ "java/lang/invoke/VarHandle")
    {W : Nat} {Pre : Pt → Array Value → Prop} {Post : Pt → Array Value → Option Value → Pt → Prop} {PostX : Pt → Array Value → Addr → Pt → Prop} (hK : vx_Back l R p e below s args y 3 W Pre Post PostX)
    {g : JFrame} (hg : g.method = m) (hsize : g.locals.size = c.maxLocals) {argsL rest : List Value} (hlen : ∀ sig, parseMethodDescriptor y.desc = some sig → argsL.length = sig.parameters.length)
    (hstack : g.stack = argsL.reverse ++ rest) (hW : 2 * g.monitorRoom + (rest.map fun v => v.category).sum ≤ W) (hdg : decode c.code g.pc = .ok (.invokestatic index, 3))
    (hpre : ∀ vm₁, s.WarmedH vm₁ → Pre ⟨T.setVm vm₁, locs, cells, slots⟩ argsL.toArray) :
    (∃ (v : Option Value) (vm₁ : Vm) (B : Pt), s.WarmedH vm₁ ∧ Stand p l e R s m args below meth c B.U B.locs B.cells B.slots ∧ Post ⟨T.setVm vm₁, locs, cells, slots⟩ argsL.toArray v B ∧
      ∀ target, Steps p.tables e below (B.U.setTop { g with pc := g.pc + 3, stack := v.toList ++ rest }) target → Steps p.tables e below (T.setTop g) target) ∨
    (∃ (q : Addr) (vm₁ : Vm) (B : Pt), s.WarmedH vm₁ ∧ Stand p l e R s m args below meth c B.U B.locs B.cells B.slots ∧ PostX ⟨T.setVm vm₁, locs, cells, slots⟩ argsL.toArray q B ∧
      Steps p.tables e below (T.setTop g) ((B.U.setTop { g with stack := rest }).pushFrame (.throwing q))) := by
  obtain ⟨mk, hnamed⟩ := Cond.code_named hcode
  obtain ⟨methM, cM, hmethM, -, -, -, -, -, -, hsigM⟩ := Cond.code_spec hnamed hcode
  have hstatic : methM.isStatic = true := Cond.static_spec hnamed hmethM hstat
  obtain ⟨kP, hkP, -⟩ := className_of_methodNamed hnamed
  have hinitP : kP.init = .initialized := Cond.initialized_spec (findClass_of_methodNamed hnamed) hkP hinit
  obtain ⟨vm₁, X₁, hstep₁⟩ := X.invokestaticNest hexec hown hlink hnamed hmethM hstatic hkP hinitP hy (g := g) hg (argsL := argsL) (rest := rest) (hlen _ hsigM) hstack hdg
  rcases hK m meth c ⟨T.setVm vm₁, locs, cells, slots⟩ { g with stack := rest } (.invokestatic index) mk argsL.toArray X₁ hg hsize hdg hW (X₁.named hnamed) (hpre vm₁ X₁.warmed) with ⟨v, B, X', hpost, hsteps⟩ | ⟨q, B, X', hpost, hsteps⟩
  · exact Or.inl ⟨v, vm₁, B, X₁.warmed, X', hpost, fun target h => hstep₁ _ fun acts => by rw [doInvoke_state]; exact hsteps.trans h⟩
  · exact Or.inr ⟨q, vm₁, B, X₁.warmed, X', hpost, hstep₁ _ fun acts => by rw [doInvoke_state]; exact hsteps⟩
theorem vx_runVN {y : MethodName} {bytes cc : ByteArray} {maxL nL mc ms n index : Nat} {ret : Option FieldType} {ws : List Cond} {rm : Room} {Pc : Array Value → State → Prop} {Qc : Array Value → State → Outcome → State → Prop} {XC : String → State → State → Prop} {free : Addr → Prop} {Ts : List Cond} {own C host : String} {b : Addr} {As rest : List Value} {g : JFrame}
    (S : CallFix p m c cc nL s args Ts own) (hM : vx_Met l y ws rm Pc Qc XC mc ms free) (cw : va_CN R s args own index y host bytes maxL ret ws rm mc ms n ∧ (Cond.instanceMethod y).before args s = true ∧ (Cond.selects C y y).before args s = true) (hp : PreV s H C b Pc As)
    (hg : g.method = m) (hn : As.length = n) (hsize : g.locals.size = nL) (hstack : g.stack = As.reverse ++ .ref b :: rest) (hW : 2 * g.monitorRoom + (rest.map fun v => v.category).sum ≤ 8) (hdg : decode cc g.pc = .ok (.invokevirtual index, 3)) (hf : cells + mc ≤ R.cells ∧ slots + ms ≤ R.slots) :
    vx_Run p l e R s m args below meth c H locs cells slots mc ms g rest (Qc (Value.ref b :: As).toArray) XC free := by
  obtain ⟨⟨⟨hrc, hrs, hfr, hlo, hws, hcw⟩, hcode, hini, hy, hlen, hl⟩, hx1, hx2⟩ := cw
  have hK : vx_Back l R p e below s args y 3 8 (PreOf R mc ms Pc) (PostOf Qc mc ms free) (vx_Post XC mc ms free) := vx_back (bytes := bytes) (maxL := maxL) (ret := ret) hM hp.1 hrc hrs hfr hlo hws hcw (fun a' U hW => word_at hW (Or.inl (by first | rfl | simp [Cond.onTables, Cond.keeps, Cond.steady])) hini)
  obtain ⟨hx, hb, hml, ho, -⟩ := S
  obtain ⟨-, ⟨cellB, hcB, hoB, hclB⟩, hPc⟩ := hp
  intro T hT X
  rcases vx_callVN X hx (C := C) (bytes := bytes) (maxL := maxL) (ret := ret) ho hl hx1 hx2 hcode hy hK (by rw [hT]; exact hcB) hoB hclB hg (hsize.trans hml.symm) (argsL := As) (rest := rest) (fun sig h => hn.trans (hlen sig h)) hstack hW (by rw [hb]; exact hdg)
    (fun vm₁ hW₁ => ⟨hf.1, hf.2, hPc (T.setVm vm₁) hT hW₁⟩) with ⟨v, vm₁, ⟨U', l2, c2, s2⟩, hW₁, X', ⟨g', mk, t, L, e1, e2, hq, h1, hL, h2, h3⟩, st⟩ | ⟨q, vm₁, ⟨U', l2, c2, s2⟩, hW₁, X', ⟨g', mk, t, L, E, ce, e1, e2, hq, hce, hcv, hcl, h1, hL, h2, h3⟩, st⟩
  · dsimp only [Pt.U, Pt.locs, Pt.cells, Pt.slots] at X' e1 e2 h1 h2 h3 st
    subst h1; subst h2; subst h3
    exact Or.inl ⟨v, (T.setVm vm₁).calling g' mk (Value.ref b :: As).toArray, t, U', L, hT, X', hL, e1, e2, hq, st⟩
  · dsimp only [Pt.U, Pt.locs, Pt.cells, Pt.slots] at X' e1 e2 h1 h2 h3 st hcl
    subst h1; subst h2; subst h3
    exact Or.inr ⟨q, (T.setVm vm₁).calling g' mk (Value.ref b :: As).toArray, t, U', L, E, ce, hT, X', hL, e1, e2, hq, hce, hcv, vx_cls hW₁ hcl, st⟩
theorem vx_runSN {y : MethodName} {bytes cc : ByteArray} {maxL nL mc ms n index : Nat} {ret : Option FieldType} {ws : List Cond} {rm : Room} {Pc : Array Value → State → Prop} {Qc : Array Value → State → Outcome → State → Prop} {XC : String → State → State → Prop} {free : Addr → Prop} {Ts : List Cond} {own host : String} {As rest : List Value} {g : JFrame}
    (S : CallFix p m c cc nL s args Ts own) (hM : vx_Met l y ws rm Pc Qc XC mc ms free) (cw : va_CN R s args own index y host bytes maxL ret ws rm mc ms n ∧ (Cond.static y).before args s = true ∧ True) (hp : PreS s H Pc As)
    (hg : g.method = m) (hn : As.length = n) (hsize : g.locals.size = nL) (hstack : g.stack = As.reverse ++ rest) (hW : 2 * g.monitorRoom + (rest.map fun v => v.category).sum ≤ 8) (hdg : decode cc g.pc = .ok (.invokestatic index, 3)) (hf : cells + mc ≤ R.cells ∧ slots + ms ≤ R.slots) :
    vx_Run p l e R s m args below meth c H locs cells slots mc ms g rest (Qc As.toArray) XC free := by
  obtain ⟨⟨⟨hrc, hrs, hfr, hlo, hws, hcw⟩, hcode, hini, hy, hlen, hl⟩, hx1, hx2⟩ := cw
  have hK : vx_Back l R p e below s args y 3 8 (PreOf R mc ms Pc) (PostOf Qc mc ms free) (vx_Post XC mc ms free) := vx_back (bytes := bytes) (maxL := maxL) (ret := ret) hM hp.1 hrc hrs hfr hlo hws hcw (fun a' U hW => word_at hW (Or.inl (by first | rfl | simp [Cond.onTables, Cond.keeps, Cond.steady])) hini)
  obtain ⟨hx, hb, hml, ho, -⟩ := S
  have hPc := hp.2
  intro T hT X
  rcases vx_callSN X hx (bytes := bytes) (maxL := maxL) (ret := ret) ho hl hx1 hini hcode hy hK hg (hsize.trans hml.symm) (argsL := As) (rest := rest) (fun sig h => hn.trans (hlen sig h)) hstack hW (by rw [hb]; exact hdg)
    (fun vm₁ hW₁ => ⟨hf.1, hf.2, hPc (T.setVm vm₁) hT hW₁⟩) with ⟨v, vm₁, ⟨U', l2, c2, s2⟩, hW₁, X', ⟨g', mk, t, L, e1, e2, hq, h1, hL, h2, h3⟩, st⟩ | ⟨q, vm₁, ⟨U', l2, c2, s2⟩, hW₁, X', ⟨g', mk, t, L, E, ce, e1, e2, hq, hce, hcv, hcl, h1, hL, h2, h3⟩, st⟩
  · dsimp only [Pt.U, Pt.locs, Pt.cells, Pt.slots] at X' e1 e2 h1 h2 h3 st
    subst h1; subst h2; subst h3
    exact Or.inl ⟨v, (T.setVm vm₁).calling g' mk As.toArray, t, U', L, hT, X', hL, e1, e2, hq, st⟩
  · dsimp only [Pt.U, Pt.locs, Pt.cells, Pt.slots] at X' e1 e2 h1 h2 h3 st hcl
    subst h1; subst h2; subst h3
    exact Or.inr ⟨q, (T.setVm vm₁).calling g' mk As.toArray, t, U', L, E, ce, hT, X', hL, e1, e2, hq, hce, hcv, vx_cls hW₁ hcl, st⟩
end
/-! ===== END ===== -/
/-! WHAT HOLDS OF THE START OF EVERY METHOD beside its memory: classes, statics, strings, words that are not good ones -/
def fNwb : Jvm.Cond → Bool
  | .methodLinkNest .. => true
  | .castable .. => true
  | .declares .. => true
  | _ => false
def fNw : List Jvm.Cond := lw_tbl.filter fNwb
def fStr : List (String × Nat × String) := [("PuddleBoatyard", 355, "no such hull or seam"), ("PuddleBoatyard", 357, "a number is out of range"), ("PuddleBoatyard", 359, "the boatyard or the hull does not allow it now"), ("PuddleBoatyard", 363, "the launch is refused"), ("PuddleBoatyard", 233, "no such order"), ("PuddleBoatyard", 369, "no such hull"), ("PuddleBoatyard", 90, "no such frame"), ("PuddleBoatyard", 106, "no such seam"), ("PuddleBoatyard", 371, "the hull cannot float"), ("PuddleBoatyard", 136, "no such rank"), ("PuddleBoatyard", 159, "hours out of range"), ("PuddleBoatyard", 373, "the hull is not built"), ("PuddleBoatyard", 375, "the hull is too short"), ("PuddleBoatyard", 168, "no tide is high enough"), ("PuddleBoatyard", 184, "the hull is not afloat"), ("PuddleBoatyard", 199, "it does not sink in this time"), ("PuddleBoatyard", 201, "no such slip"), ("PuddleBoatyard", 225, "no such position"), ("PuddleBoatyard", 250, "no such state"), ("PuddleBoatyard", 255, "no launch was refused"), ("PuddleBoatyard", 259, "there are no hulls"), ("PuddleBoatyard", 279, "no such character"), ("PuddleBoatyard", 284, "no such character can be typed"), ("PuddleBoatyard", 288, "the buffer is full"), ("PuddleBoatyard", 299, "the program is malformed"), ("PuddleBoatyard", 304, "a command fails"), ("PuddleBoatyard", 309, "no program was malformed"), ("PuddleBoatyard", 311, "no command failed"), ("PuddleBoatyard", 316, "nothing can be undone"), ("PuddleBoatyard", 328, "there is no snapshot")]
def fForm : List (Nat × String) := [(26, "hull"), (28, "frame # */*"), (30, "mirror #"), (32, "cargo # *"), (34, "launch #"), (36, "caulk # #"), (38, "pump # *"), (40, "hours *"), (42, "tide * *"), (44, "order # * *"), (46, "deliver * #")]
def fLen : List Nat := [4, 11, 8, 9, 8, 9, 8, 7, 8, 11, 11]
def fByt : List (List Int32) := [[104, 117, 108, 108], [102, 114, 97, 109, 101, 32, 35, 32, 42, 47, 42], [109, 105, 114, 114, 111, 114, 32, 35], [99, 97, 114, 103, 111, 32, 35, 32, 42], [108, 97, 117, 110, 99, 104, 32, 35], [99, 97, 117, 108, 107, 32, 35, 32, 35], [112, 117, 109, 112, 32, 35, 32, 42], [104, 111, 117, 114, 115, 32, 42], [116, 105, 100, 101, 32, 42, 32, 42], [111, 114, 100, 101, 114, 32, 35, 32, 42, 32, 42], [100, 101, 108, 105, 118, 101, 114, 32, 42, 32, 35]]
def fConst (G : fG) (U : State) : Prop := (∃ adV : Nat → Nat, vk_S 11 fLen fByt (fun i => G.1 (52, i, 0)) adV (fA G) U U.heap) ∧ (∀ i, i < 11 → vk_R "PuddleBoatyard$Program" (fForm.getD i (0, "")).1 (fForm.getD i (0, "")).2 (G.1 (52, i, 0)) U) ∧
  va_Z "java/lang/String" "COMPACT_STRINGS" "Z" (.int 1) (fA G) U U.heap ∧ (∃ t : Nat, va_Z "java/lang/Integer" "DigitOnes" "[B" (.ref t) (fA G) U U.heap ∧ va_T .byte t 100 (fun j => .int (nI (48 + j % 10))) (fA G) U U.heap) ∧ (∃ t : Nat, va_Z "java/lang/Integer" "DigitTens" "[B" (.ref t) (fA G) U U.heap ∧ va_T .byte t 100 (fun j => .int (nI (48 + j / 10))) (fA G) U U.heap)
def fPre (G : fG) (U : State) : Prop := va_K G.2.1 fcl (ftys G) U ∧ G.2.2.2 ≤ U.heap.size ∧ vx_Zq Bundle.tN "UNASSIGNED_STACK" Bundle.steD (fA G) U U.heap ∧ vx_Zq Bundle.tN "SUPPRESSED_SENTINEL" Bundle.listD (fA G) U U.heap ∧ (∀ w ∈ fNw, va_Nw w U) ∧ (∀ q ∈ fStr, ∃ a, vk_R q.1 q.2.1 q.2.2 a U) ∧ fConst G U
def fScr (G : fG) (o : Option (Nat × (Nat → Int32))) (U : State) : Prop := match o with
  | none => True
  | some X => va_X (G.1 (50, 0, 0)) X.1 X.2 U U.heap ∧ G.1 (50, 0, 0) < U.heap.size ∧ ¬ fA G (G.1 (50, 0, 0))
theorem fNw_warm {w : Jvm.Cond} {s U : State} (hb : fNwb w = true) (hW : s.WarmedH U.vm) (h : va_Nw w s) : va_Nw w U := by
  unfold fNwb at hb
  split at hb
  · exact va_Nw.warmM hW h
  · exact va_Nw.warmC hW h
  · exact va_Nw.warmD hW h
  · cases hb
theorem fNw_same {w : Jvm.Cond} {s U : State} (hb : fNwb w = true) (hv : s.vm = U.vm) (h : va_Nw w s) : va_Nw w U := by
  unfold fNwb at hb
  split at hb
  · exact va_Nw.same rfl hv h
  · exact va_Nw.same rfl hv h
  · exact va_Nw.same rfl hv h
  · cases hb
theorem fConst_to {G : fG} {s U : State} (hA : s.vm.Alike U.vm) (hR : ∀ own k tx a, vk_R own k tx a s → vk_R own k tx a U) (hq : ∀ a : Nat, a < s.heap.size → ¬ fA G a → U.heap[a]? = s.heap[a]?) (h : fConst G s) : fConst G U := by
  obtain ⟨⟨adV, h1⟩, h2, h3, ⟨t, h4, h5⟩, ⟨t', h6, h7⟩⟩ := h
  exact ⟨⟨adV, (h1.moved hA).kept hq⟩, fun i hi => hR _ _ _ _ (h2 i hi), (h3.moved hA).kept hq, ⟨t, (h4.moved hA).kept hq, (h5.moved hA).kept hq⟩, ⟨t', (h6.moved hA).kept hq, (h7.moved hA).kept hq⟩⟩
theorem fPre_gen {G : fG} {s U : State} (hA : s.vm.Alike U.vm) (hR : ∀ own k tx a, vk_R own k tx a s → vk_R own k tx a U) (hN : ∀ w, fNwb w = true → va_Nw w s → va_Nw w U) (hz : s.heap.size ≤ U.heap.size) (hq : ∀ a : Nat, a < s.heap.size → ¬ fA G a → U.heap[a]? = s.heap[a]?) (h : fPre G s) : fPre G U := by
  obtain ⟨h1, h2, h3, h4, h5, h6, h7⟩ := h
  exact ⟨h1.moved hA, Nat.le_trans h2 hz, (h3.moved hA).kept hq, (h4.moved hA).kept hq, fun w hw => hN w (List.mem_filter.mp hw).2 (h5 w hw), fun q hq => (h6 q hq).elim fun a ha => ⟨a, hR _ _ _ _ ha⟩, fConst_to hA hR hq h7⟩
theorem fPre_warm {G : fG} {s U : State} {locs : List Loc} (hW : s.WarmedH U.vm) (hS : va_S (fA G) s.heap U.heap locs) (h : fPre G s) : fPre G U := fPre_gen hW.alike (fun _ _ _ _ => vk_R.warm hW) (fun _ hb => fNw_warm hb hW) hS.1 hS.2.1 h
theorem fPre_same {G : fG} {s U : State} (hv : s.vm = U.vm) (hh : U.heap = s.heap) (h : fPre G s) : fPre G U := fPre_gen (by rw [← hv]; exact Vm.Alike.refl _) (fun _ _ _ _ => vk_R.same hv.symm) (fun _ hb => fNw_same hb hv) (by rw [hh]; exact Nat.le_refl _) (fun a _ _ => by rw [hh]) h
/-! CONTRACTS -/
def fExn (n : Nat) : String := fexn.getD n ""
def fVok (v : fV) : Prop := match v with
  | .inl r => r ∈ frefs ∨ (50 ≤ r.1 ∧ (r.1 = 52 ∨ r.2.1 = 0) ∧ r.2.2 = 0)
  | .inr _ => True
def fQ (G : fG) (res : fR) : Array Value → State → Outcome → State → Prop := fun _ st o t => (∃ v, res.1 = .inl v ∧ o = .returned (v.map (ftv G)) ∧ (∀ x, v = some x → fVok x) ∧ fMem G res.2 t.heap) ∧ va_F (fA G) st t
def fXC (G : fG) (res : fR) : String → State → State → Prop := fun E st t => (∃ n, res.1 = .inr n ∧ E = fExn n ∧ fMem G res.2 t.heap) ∧ va_F (fA G) st t
def fPc (G : fG) (a : List fV) (μ : fM) : Array Value → State → Prop := fun v U => v = (a.map (ftv G)).toArray ∧ fPre G U ∧ fMem G μ U.heap
def fCT (G : fG) (l : Launch) (y : MethodName) (ws : List Jvm.Cond) (rm : Room) (S : fS) : Prop := ∀ (a : List fV) (μ : fM) (res : fR), S a μ = some res → (∀ v ∈ a, fVok v) → vx_Met l y ws rm (fPc G a μ) (fQ G res) (fXC G res) rm.cells rm.slots (fA G)
/-- what a caller's body has at hand -/
def fCx (G : fG) (p : Program) (l : Launch) (s : State) (m : MethodId) (args : Array Value) (meth : Method) (c : Code) (cc : ByteArray) (own : String) (nL : Nat) : Prop :=
  p.tables.exec = Jvm.exec ∧ c.code = cc ∧ c.maxLocals = nL ∧ s.vm.findClass own = some m.cls ∧ (∀ w ∈ fT, w.before args s = true) ∧ meth.locks = false ∧ l.stackTraces = false ∧ fWf G ∧ fPre G s
/-- a call of the flat machine, taken by the machine -/
def fCS (G : fG) (l : Launch) (own : String) (cc : ByteArray) (nL : Nat) (R : Room) (ins : Instr) (b : Nat) (S : fS) (mc ms : Nat) : Prop :=
  ∀ (p : Program) (e : Env) (s : State) (m : MethodId) (args : Array Value) (below : List Frame) (meth : Method) (c : Code) (H : Heap) (locs : List Loc) (cells slots : Nat) (Q : State → Prop) (pc : Nat) (ls : Array Slot), fCx G p l s m args meth c cc own nL → decode cc pc = .ok (ins, 3) → ls.size = nL →
  ∀ (as rest : List fV) (μ : fM) (res : fR), as.length = b → S as μ = some res → (∀ v ∈ as, fVok v) → fcats rest ≤ 8 → fMem G μ H → va_S (fA G) s.heap H locs → cells + mc ≤ R.cells → slots + ms ≤ R.slots →
  (∀ v, res.1 = .inl v → (∀ x, v = some x → fVok x) → ∀ (H1 : Heap) (locs1 : List Loc), fMem G res.2 H1 → va_S (fA G) s.heap H1 locs1 → W p l e R s m args below meth c H1 locs1 (cells + mc) (slots + ms) Q (F0 m (pc + 3) ls ((v.toList ++ rest).map (ftv G)))) →
  (∀ n, res.1 = .inr n → ∀ (H1 : Heap) (locs1 : List Loc) (q : Addr) (ce : Cell), fMem G res.2 H1 → va_S (fA G) s.heap H1 locs1 → H1[q]? = some ce → ce.vm = .none → s.vm.findClass (fExn n) = some ce.cls → vx_W p l e R s m args below meth c H1 locs1 (cells + mc) (slots + ms) Q (F0 m pc ls (rest.map (ftv G))) q) →
  W p l e R s m args below meth c H locs cells slots Q (F0 m pc ls ((as.reverse ++ rest).map (ftv G)))
theorem fcats_sum (G : fG) : ∀ r : List fV, ((r.map (ftv G)).map fun v => v.category).sum = fcats r
  | [] => rfl
  | v :: r => by
    simp only [List.map_cons, List.sum_cons, fcats, ftv_cat]
    rw [fcats_sum G r]
section FCS
variable {p : Program} {l : Launch} {e : Env} {R : Room} {s : State} {m : MethodId} {args : Array Value} {below : List Frame} {meth : Method} {c : Code} {H : Heap} {locs : List Loc} {cells slots mc ms : Nat} {Q : State → Prop} {pc : Nat} {ls : Array Slot} {G : fG}
theorem fcs_run {res : fR} {rest : List fV} {st0 : List Value} {a : Array Value} (hr : vx_Run p l e R s m args below meth c H locs cells slots mc ms (F0 m pc ls st0) (rest.map (ftv G)) (fQ G res a) (fXC G res) (fA G)) (hS : va_S (fA G) s.heap H locs)
    (kk : ∀ v, res.1 = .inl v → (∀ x, v = some x → fVok x) → ∀ (H1 : Heap) (locs1 : List Loc), fMem G res.2 H1 → va_S (fA G) s.heap H1 locs1 → W p l e R s m args below meth c H1 locs1 (cells + mc) (slots + ms) Q (F0 m (pc + 3) ls ((v.toList ++ rest).map (ftv G))))
    (kx : ∀ n, res.1 = .inr n → ∀ (H1 : Heap) (locs1 : List Loc) (q : Addr) (ce : Cell), fMem G res.2 H1 → va_S (fA G) s.heap H1 locs1 → H1[q]? = some ce → ce.vm = .none → s.vm.findClass (fExn n) = some ce.cls → vx_W p l e R s m args below meth c H1 locs1 (cells + mc) (slots + ms) Q (F0 m pc ls (rest.map (ftv G))) q) :
    W p l e R s m args below meth c H locs cells slots Q (F0 m pc ls st0) := by
  intro T hT X
  rcases hr T hT X with ⟨v, st₀, t, T', L, h0, X', hL, e1, e2, ⟨⟨v', hv', ho, hok, hm⟩, hF⟩, st⟩ | ⟨q, st₀, t, T', L, E, ce, h0, X', hL, e1, e2, ⟨⟨n, hn, hE, hm⟩, hF⟩, hce, hcv, hcl, st⟩
  · cases ho
    obtain ⟨k1, k2, k3⟩ := vx_keep h0 e1 hS (fun _ _ h => h) (fun _ h => h) hL hF
    obtain ⟨t2, a1, b1⟩ := kk v' hv' hok T'.heap (locs ++ L) (by rw [e1]; exact hm) k3 T' rfl X'
    refine ⟨t2, st t2 ?_, b1⟩
    have e9 : ((v'.map (ftv G)).toList ++ rest.map (ftv G)) = (v'.toList ++ rest).map (ftv G) := by
      cases v' <;> simp
    rw [e9]
    exact a1
  · subst hE
    obtain ⟨k1, k2, k3⟩ := vx_keep h0 e1 hS (fun _ _ h => h) (fun _ h => h) hL hF
    obtain ⟨t2, a1, b1⟩ := kx n hn T'.heap (locs ++ L) q ce (by rw [e1]; exact hm) k3 (by rw [e1]; exact hce) hcv hcl T' rfl X'
    exact ⟨t2, st.trans a1, b1⟩
theorem fPc_blind {a : List fV} {μ : fM} : FrameBlind (fPc G a μ) := fun a' U g mk h => ⟨h.1, fPre_same (s := U) (U := U.calling g mk a') rfl rfl h.2.1, h.2.2⟩
theorem fPc_in {as : List fV} {μ : fM} (hP : fPre G s) (hM : fMem G μ H) (hS : va_S (fA G) s.heap H locs) : ∀ U : State, U.heap = H → s.WarmedH U.vm → fPc G as μ (as.map (ftv G)).toArray U := fun U hU hW => ⟨rfl, fPre_warm (locs := locs) hW (by rw [hU]; exact hS) hP, by rw [hU]; exact hM⟩
end FCS
/-! the words of a callee: its code ahead of fT -/
abbrev fw0 (y : MethodName) (cy : ByteArray) (n : Nat) (ret : Option FieldType) : List Jvm.Cond := Jvm.Cond.code y cy n ret :: fT
def fhd (y : MethodName) (b : Nat) : Prop := y.cls ≠ "java/lang/invoke/MethodHandle" ∧ y.cls ≠ "java/lang/invoke/VarHandle" ∧ (parseMethodDescriptor y.desc).map (fun d => d.parameters.length) = some b
theorem fT_fw0 {y : MethodName} {cy : ByteArray} {n : Nat} {ret : Option FieldType} (h : Jvm.Cond.code y cy n ret ∈ fT) : GoodIn fT (fw0 y cy n ret) := fun w hw => by
  have : w ∈ fT := (List.mem_cons.mp hw).elim (fun e => e ▸ h) id
  exact ⟨this, good_of_word (fT_good this)⟩
section FCB
variable {p : Program} {l : Launch} {e : Env} {R : Room} {s : State} {m : MethodId} {args : Array Value} {below : List Frame} {meth : Method} {c : Code}
theorem fCallB {own : String} {idx n : Nat} {y : MethodName} {cy : ByteArray} {ret : Option FieldType} {rm : Room} {b : Nat} (hts : ∀ w ∈ fT, w.before args s = true) (hcode : Jvm.Cond.code y cy n ret ∈ fT) (hini : Jvm.Cond.initialized y.cls ∈ fT) (hl : Jvm.Cond.methodLink own idx y ∈ fT) (hd : fhd y b) (hR : rm.frames + 1 ≤ R.frames ∧ 8 + (n + 11) + rm.locals ≤ R.locals) :
    CallB R s args own idx y cy n ret (fw0 y cy n ret) rm rm.cells rm.slots b := callB_of b hts (fT_fw0 hcode) rfl rfl rfl (hts _ hini) (hts _ hl) hd hR
end FCB
/-- a virtual call -/
theorem fCS_V {G : fG} {l : Launch} {own : String} {cc : ByteArray} {nL idx n b : Nat} {R rm : Room} {y : MethodName} {cy : ByteArray} {ret : Option FieldType} {S : fS} {kd : Nat} (hc : fCT G l y (fw0 y cy n ret) rm S) (hkd : kd < 9) (hy : (fct kd).1 = y.cls) (hcode : Jvm.Cond.code y cy n ret ∈ fT) (hini : Jvm.Cond.initialized y.cls ∈ fT) (hl : Jvm.Cond.methodLink own idx y ∈ fT) (hins : Jvm.Cond.instanceMethod y ∈ fT) (hsel : Jvm.Cond.selects y.cls y y ∈ fT) (hd : fhd y b)
    (hR : rm.frames + 1 ≤ R.frames ∧ 8 + (n + 11) + rm.locals ≤ R.locals) (hrecv : ∀ as μ res, S as μ = some res → ∃ y' h r, as = .inl (kd, y', h) :: r) : fCS G l own cc nL R (.invokevirtual idx) (b + 1) S rm.cells rm.slots := by
  intro p e s m args below meth c H locs cells slots Q pc ls C hdg hls as rest μ res hlen hS hok hcat hM hSS hcl hsl kk kx
  obtain ⟨hx, hb, hml, hown, hts, hlocks, hst, hG, hP⟩ := C
  obtain ⟨y', h', r, rfl⟩ := hrecv as μ res hS
  have hr0 : (kd, y', h') ∈ frefs := by
    rcases hok _ List.mem_cons_self with h | h
    · exact h
    · exact absurd h.1 (by show ¬ 50 ≤ kd; omega)
  obtain ⟨j, hj⟩ := fidx hr0
  have hrv := va_recv (q := fct kd) (ci := kd) (q0 := j) hP.1 hM.1 (fcl_at kd hkd) (by rw [fws_at hj, fcell_o hkd])
  rw [hy] at hrv
  refine fcs_run (res := res) (rest := rest) (a := (Value.ref (G.1 (kd, y', h')) :: r.map (ftv G)).toArray) (vx_runV (As := r.map (ftv G)) (C := y.cls) (b := G.1 (kd, y', h')) (Ts := fT) (own := own) (nL := nL) (n := b) ⟨hx, hb, hml, hown, hts⟩ (hc _ _ _ hS hok) ⟨fCallB hts hcode hini hl hd hR, hts _ hins, hts _ hsel⟩ ⟨fPc_blind, hrv, fun U hU hW => fPc_in hP hM hSS U hU hW⟩ rfl (by simpa using hlen) hls (by simp [ftv]) (by rw [fcats_sum]; show 2 * 0 + _ ≤ 8; omega) hdg ⟨hcl, hsl⟩) hSS kk kx
/-- a static call of a method of any class, named by its own link -/
theorem fCS_S {G : fG} {l : Launch} {own : String} {cc : ByteArray} {nL idx n b : Nat} {R rm : Room} {y : MethodName} {cy : ByteArray} {ret : Option FieldType} {S : fS} (hc : fCT G l y (fw0 y cy n ret) rm S) (hcode : Jvm.Cond.code y cy n ret ∈ fT) (hini : Jvm.Cond.initialized y.cls ∈ fT) (hl : Jvm.Cond.methodLink own idx y ∈ fT) (hst : Jvm.Cond.static y ∈ fT) (hd : fhd y b)
    (hR : rm.frames + 1 ≤ R.frames ∧ 8 + (n + 11) + rm.locals ≤ R.locals) : fCS G l own cc nL R (.invokestatic idx) b S rm.cells rm.slots := by
  intro p e s m args below meth c H locs cells slots Q pc ls C hdg hls as rest μ res hlen hS hok hcat hM hSS hcl hsl kk kx
  obtain ⟨hx, hb, hml, hown, hts, hlocks, hst', hG, hP⟩ := C
  refine fcs_run (res := res) (rest := rest) (a := (as.map (ftv G)).toArray) (vx_runS (As := as.map (ftv G)) (Ts := fT) (own := own) (nL := nL) (n := b) ⟨hx, hb, hml, hown, hts⟩ (hc _ _ _ hS hok) ⟨fCallB hts hcode hini hl hd hR, hts _ hst⟩ ⟨fPc_blind, fun U hU hW => fPc_in hP hM hSS U hU hW⟩ rfl (by simpa using hlen) hls (by simp) (by rw [fcats_sum]; show 2 * 0 + _ ≤ 8; omega) hdg ⟨hcl, hsl⟩) hSS kk kx
/-- a static call of a nest mate's private method -/
theorem fCS_SN {G : fG} {l : Launch} {own host : String} {cc : ByteArray} {nL idx n b : Nat} {R rm : Room} {y : MethodName} {cy : ByteArray} {ret : Option FieldType} {S : fS} (hc : fCT G l y (fw0 y cy n ret) rm S) (hcode : Jvm.Cond.code y cy n ret ∈ fT) (hini : Jvm.Cond.initialized y.cls ∈ fT) (hl : Jvm.Cond.methodLinkNest own idx y host ∈ fNw) (hst : Jvm.Cond.static y ∈ fT) (hd : fhd y b)
    (hR : rm.frames + 1 ≤ R.frames ∧ 8 + (n + 11) + rm.locals ≤ R.locals) : fCS G l own cc nL R (.invokestatic idx) b S rm.cells rm.slots := by
  intro p e s m args below meth c H locs cells slots Q pc ls C hdg hls as rest μ res hlen hS hok hcat hM hSS hcl hsl kk kx
  obtain ⟨hx, hb, hml, hown, hts, hlocks, hst', hG, hP⟩ := C
  refine fcs_run (res := res) (rest := rest) (a := (as.map (ftv G)).toArray) (vx_runSN (As := as.map (ftv G)) (Ts := fT) (own := own) (nL := nL) (n := b) ⟨hx, hb, hml, hown, hts⟩ (hc _ _ _ hS hok) ⟨va_cnB b hts (fT_fw0 hcode) rfl rfl rfl (hP.2.2.2.2.1 _ hl) (hts _ hini) hd hR, hts _ hst, trivial⟩ ⟨fPc_blind, fun U hU hW => fPc_in hP hM hSS U hU hW⟩ rfl (by simpa using hlen) hls (by simp) (by rw [fcats_sum]; show 2 * 0 + _ ≤ 8; omega) hdg ⟨hcl, hsl⟩) hSS kk kx
end
section
/-! SOUNDNESS: what the flat machine answers, the machine does. First: what is checked of a table's rows -/
/-- fl: fields; cs: calls; ths: throws; lc: long constants (constant, value, place of the word); li: int constants; lst: string constants (constant, form) -/
abbrev fT5 : Type := List (Nat × Nat × Nat × Nat) × List (Instr × Nat × Nat) × List (Nat × Nat) × List (Nat × Nat) × List (Nat × Int32) × List (Nat × Nat)
def fok (nL : Nat) (ret : Option FieldType) (Z : fT5) (pc : Nat) (ln : Nat) (o : fO) : Bool := match o with
  | (ins, nx, a, b, v, ts) => match ins with
    | .iconst n => decide (ln = 1) && (decide (nx = pc + 1) && decide (v = Int32.ofInt n))
    | .bipush n => decide (ln = 2) && (decide (nx = pc + 2) && decide (v = (Int8.ofInt n).toInt32))
    | .sipush n => decide (ln = 3) && (decide (nx = pc + 3) && decide (v = (Int16.ofInt n).toInt32))
    | .ldc x => decide (ln = 2) && (decide (nx = pc + 2) && (bif Nat.beq b 1 then decide ((x, v) ∈ Z.2.2.2.2.1) else decide ((x, a) ∈ Z.2.2.2.2.2)))
    | .lconst n => decide (ln = 1) && (decide (nx = pc + 1) && decide (a = (n : Nat)))
    | .ldc2_w x => decide (ln = 3) && (decide (nx = pc + 3) && decide ((x, a) ∈ Z.2.2.2.1))
    | .dconst n => decide (ln = 1) && (decide (nx = pc + 1) && decide (a = (n : Nat)))
    | .iload i => decide (ln = 2) && (decide (nx = pc + 2) && decide (a = i))
    | .aload i => decide (ln = 2) && (decide (nx = pc + 2) && decide (a = i))
    | .lload i => decide (ln = 2) && (decide (nx = pc + 2) && decide (a = i))
    | .dload i => decide (ln = 2) && (decide (nx = pc + 2) && decide (a = i))
    | .iload_n i => decide (ln = 1) && (decide (nx = pc + 1) && decide (a = (i : Nat)))
    | .aload_n i => decide (ln = 1) && (decide (nx = pc + 1) && decide (a = (i : Nat)))
    | .lload_n i => decide (ln = 1) && (decide (nx = pc + 1) && decide (a = (i : Nat)))
    | .istore i => decide (ln = 2) && (decide (nx = pc + 2) && (decide (a = i) && decide (a < nL)))
    | .astore i => decide (ln = 2) && (decide (nx = pc + 2) && (decide (a = i) && decide (a < nL)))
    | .istore_n i => decide (ln = 1) && (decide (nx = pc + 1) && (decide (a = (i : Nat)) && decide (a < nL)))
    | .astore_n i => decide (ln = 1) && (decide (nx = pc + 1) && (decide (a = (i : Nat)) && decide (a < nL)))
    | .dstore i => decide (ln = 2) && (decide (nx = pc + 2) && (decide (a = i) && decide (a + 1 < nL)))
    | .iinc i n => decide (ln = 3) && (decide (nx = pc + 3) && (decide (a = i) && (decide (v = Int32.ofInt n) && decide (a < nL))))
    | .if_icmp _ off => decide (ln = 3) && (decide (nx = pc + 3) && decide ((pc : Int) + off = (a : Int)))
    | .ifCond _ off => decide (ln = 3) && (decide (nx = pc + 3) && decide ((pc : Int) + off = (a : Int)))
    | .goto off => decide (ln = 3) && decide ((pc : Int) + off = (a : Int))
    | .tableswitch d lo hi offs => decide (lo = v.toInt) && (decide (hi = (b : Int)) && (decide ((pc : Int) + d = (a : Int)) && decide (∀ j, j < (hi - lo).toNat + 1 → (offs[j]?).map (fun z => (pc : Int) + z) = (ts[j]?).map (fun z => (z : Int)) ∧ (ts[j]?).isSome = true)))
    | .getfield x => decide (ln = 3) && (decide (nx = pc + 3) && (Z.1.any (fun q => decide (q.1 = x) && (decide (q.2.1 = a) && decide (q.2.2.1 = b))) && (decide (a < 9) && (decide (b < fnf a) && (match ts with
        | [] => decide ((fkfL.getD a []).getD b 0 < 2)
        | [_] => decide ((fkfL.getD a []).getD b 0 = 2)
        | [c', my, oy, mh, oh] => decide (2 < (fkfL.getD a []).getD b 0) && decide ((frfL.getD a []).getD b (0, 0, 0, 0, 0) = (c', my, oy, mh, oh))
        | _ => false)))))
    | .putfield x => decide (ln = 3) && (decide (nx = pc + 3) && (Z.1.any (fun q => decide (q.1 = x) && (decide (q.2.1 = a) && decide (q.2.2.1 = b))) && (decide (a < 9) && (decide (b < fnf a) && (decide (((fct a).2.1 b).2.2.2 = false) && (match ts with
        | [] => decide ((fkfL.getD a []).getD b 0 = 0)
        | [_] => decide ((fkfL.getD a []).getD b 0 = 1)
        | [_, _] => decide ((fkfL.getD a []).getD b 0 = 2)
        | _ => false))))))
    | .invokevirtual x => decide (ln = 3) && (decide (nx = pc + 3) && Z.2.1.any (fun q => decide (q.1 = Instr.invokevirtual x) && (decide (q.2.1 = a) && decide (q.2.2 = b))))
    | .invokespecial x => decide (ln = 3) && (decide (nx = pc + 3) && Z.2.1.any (fun q => decide (q.1 = Instr.invokespecial x) && (decide (q.2.1 = a) && decide (q.2.2 = b))))
    | .invokestatic x => decide (ln = 3) && (decide (nx = pc + 3) && Z.2.1.any (fun q => decide (q.1 = Instr.invokestatic x) && (decide (q.2.1 = a) && decide (q.2.2 = b))))
    | .new _ => decide ((pc, a) ∈ Z.2.2.1)
    | .ireturn => decide (ln = 1) && (decide (b = 0 ∧ ret = some .int) || (decide (b = 1 ∧ ret = some .boolean) || decide (b = 2 ∧ ret = some .char)))
    | .lreturn => decide (ln = 1) && decide (ret = some .long)
    | .dreturn => decide (ln = 1) && decide (ret = some .double)
    | .areturn => decide (ln = 1) && (match ret with
        | some (.object _) => true
        | some (.array _) => true
        | _ => false)
    | .return_ => decide (ln = 1) && decide (ret = none)
    | _ => decide (ln = 1) && decide (nx = pc + 1)
def fokR (cc : ByteArray) (nL : Nat) (ret : Option FieldType) (Z : fT5) (q : Nat × fO) : Bool := match decode cc q.1 with
  | .ok (i, ln) => decide (i = q.2.1) && fok nL ret Z q.1 ln q.2
  | _ => false
def fokT (cc : ByteArray) (nL : Nat) (ret : Option FieldType) (Z : fT5) (t : fTb) : Bool := t.all (fun ch => ch.2.all (fokR cc nL ret Z))
theorem flk1_mem : ∀ {l : List (Nat × fO)} {pc : Nat} {o : fO}, flk1 l pc = some o → (pc, o) ∈ l
  | q :: r, pc, o, h => by
    unfold flk1 at h
    cases hb : Nat.beq q.1 pc <;> rw [hb] at h
    · exact List.mem_cons_of_mem _ (flk1_mem h)
    · have e : q.1 = pc := Nat.eq_of_beq_eq_true hb
      cases h
      rw [← e]
      exact List.mem_cons_self
theorem flk_mem : ∀ {t : fTb} {pc : Nat} {o : fO}, flk t pc = some o → ∃ ch ∈ t, (pc, o) ∈ ch.2
  | q :: r, pc, o, h => by
    unfold flk at h
    cases hb : Nat.ble pc q.1 <;> rw [hb] at h
    · obtain ⟨ch, h1, h2⟩ := flk_mem h
      exact ⟨ch, List.mem_cons_of_mem _ h1, h2⟩
    · exact ⟨q, List.mem_cons_self, flk1_mem h⟩
theorem fokT_at {cc : ByteArray} {nL : Nat} {ret : Option FieldType} {Z : fT5} {t : fTb} (h : fokT cc nL ret Z t = true) {pc : Nat} {o : fO} (ho : flk t pc = some o) : ∃ ln, decode cc pc = .ok (o.1, ln) ∧ fok nL ret Z pc ln o = true := by
  obtain ⟨ch, h1, h2⟩ := flk_mem ho
  have h3 := List.all_eq_true.mp (List.all_eq_true.mp h ch h1) _ h2
  unfold fokR at h3
  split at h3
  · rename_i i ln hd
    rw [Bool.and_eq_true, decide_eq_true_eq] at h3
    exact ⟨ln, by rw [hd, h3.1], h3.2⟩
  · cases h3
/-! references: where they lead they stay among the known ones -/
def fvb (q : Nat × Nat × Nat) : Bool := decide (q ∈ frefs) || (decide (50 ≤ q.1) && ((decide (q.1 = 52) || decide (q.2.1 = 0)) && decide (q.2.2 = 0)))
theorem fvb_ok {q : Nat × Nat × Nat} (h : fvb q = true) : fVok (.inl q) := by
  simp only [fvb, Bool.or_eq_true, Bool.and_eq_true, decide_eq_true_eq] at h
  exact h
theorem frf_ok : ∀ r ∈ frefs, r.1 < 9 → ∀ k, k < fnf r.1 → 2 < (fkfL.getD r.1 []).getD k 0 → fVok (.inl (ftgt ((frfL.getD r.1 []).getD k (0, 0, 0, 0, 0)) r.2.1 r.2.2)) := by
  have h : ∀ r ∈ frefs, r.1 < 9 → ∀ k, k < fnf r.1 → 2 < (fkfL.getD r.1 []).getD k 0 → fvb (ftgt ((frfL.getD r.1 []).getD k (0, 0, 0, 0, 0)) r.2.1 r.2.2) = true := by decide +kernel
  exact fun r hr hc k hk h2 => fvb_ok (h r hr hc k hk h2)
theorem fel_ok : ∀ r ∈ frefs, 5 ≤ (fal r.1).1 → (fal r.1).1 ≤ 7 → ∀ j, j < (fal r.1).2 → fel r.1 r.2.1 j ∈ frefs := by decide +kernel
theorem fal_50 : ∀ c, 50 ≤ c → (fal c).1 = 9 := by
  intro c hc
  have h1 : ∀ k, k < 42 → Nat.ble c k = false := fun k hk => by
    cases h : Nat.ble c k
    · rfl
    · exact absurd (Nat.le_of_ble_eq_true h) (by omega)
  have h2 : ∀ k, k < 42 → Nat.beq c k = false := fun k hk => by
    cases h : Nat.beq c k
    · rfl
    · exact absurd (Nat.eq_of_beq_eq_true h) (by omega)
  unfold fal
  simp [h1, h2, -Nat.ble_eq, -Nat.beq_eq]
end
section
/-! SOUNDNESS, instruction by instruction -/
def fSt (G : fG) (s : State) (nL MC MS : Nat) (L : List (Option fV)) (S : List fV) (μ : fM) (k n : Nat) (H : Heap) (locs : List Loc) (ls : Array Slot) : Prop :=
  fMem G μ H ∧ va_S (fA G) s.heap H locs ∧ fLH G ls nL L ∧ (∀ (i : Nat) (v : fV), L[i]? = some (some v) → fVok v) ∧ (∀ v ∈ S, fVok v) ∧ k ≤ MC ∧ n ≤ MS
def fGo (p : Program) (l : Launch) (e : Env) (R : Room) (s : State) (m : MethodId) (args : Array Value) (below : List Frame) (meth : Method) (c : Code) (G : fG) (nL MC MS : Nat) (res : fR) (k : fK) : Prop :=
  ∀ (pc : Nat) (L : List (Option fV)) (S : List fV) (μ : fM) (k1 n1 : Nat) (H : Heap) (locs : List Loc) (ls : Array Slot), k pc L S μ k1 n1 = some res → fSt G s nL MC MS L S μ k1 n1 H locs ls →
    W p l e R s m args below meth c H locs k1 n1 (vx_MQ below (fQ G res) (fXC G res) args s MC MS (fA G)) (F0 m pc ls (S.map (ftv G)))
theorem fdrop_ok {L : List (Option fV)} (h : ∀ (i : Nat) (v : fV), L[i]? = some (some v) → fVok v) (a : Nat) : ∀ (i : Nat) (v : fV), (fdrop L a)[i]? = some (some v) → fVok v := fun i v hi => h i v (fdrop_at hi).1
theorem fput1_ok {L : List (Option fV)} (h : ∀ (i : Nat) (v : fV), L[i]? = some (some v) → fVok v) {a : Nat} {w : Option fV} (hw : ∀ v, w = some v → fVok v) : ∀ (i : Nat) (v : fV), (fput1 L a w)[i]? = some (some v) → fVok v := by
  intro i v hi
  unfold fput1 at hi
  rw [List.getElem?_set] at hi
  split at hi
  · split at hi
    · exact hw v (Option.some.inj hi)
    · cases hi
  · exact fdrop_ok h a i v hi
theorem fput2_ok {L : List (Option fV)} (h : ∀ (i : Nat) (v : fV), L[i]? = some (some v) → fVok v) {a : Nat} {w : fV} (hw : fVok w) : ∀ (i : Nat) (v : fV), (fput2 L a w)[i]? = some (some v) → fVok v := by
  intro i v hi
  unfold fput2 at hi
  rw [List.getElem?_set] at hi
  split at hi
  · split at hi <;> cases hi
  · exact fput1_ok h (a := a) (w := some w) (fun v hv => by cases hv; exact hw) i v (by unfold fput1; exact hi)
theorem fok_cons {S : List fV} {v : fV} (hv : fVok v) (h : ∀ x ∈ S, fVok x) : ∀ x ∈ v :: S, fVok x := fun x hx => (List.mem_cons.mp hx).elim (fun e => e ▸ hv) (h x)
theorem fok_tail {S : List fV} {v : fV} (h : ∀ x ∈ v :: S, fVok x) : ∀ x ∈ S, fVok x := fun x hx => h x (List.mem_cons_of_mem _ hx)
section FSND
variable {p : Program} {l : Launch} {e : Env} {R : Room} {s : State} {m : MethodId} {args : Array Value} {below : List Frame} {meth : Method} {c : Code} {G : fG} {cc : ByteArray} {own : String} {nL MC MS : Nat} {res : fR}
variable {ret : Option FieldType} {Z : fT5} {E : fE} {k : fK} {ln nx a b : Nat} {v : Int32} {ts : List Nat} {pc : Nat} {L : List (Option fV)} {S : List fV} {μ : fM} {k1 n1 : Nat} {H : Heap} {locs : List Loc} {ls : Array Slot}
theorem fld {t : Nat} {kk : fV → Option fR} (h : fload L a t kk = some res) : ∃ x, L[a]? = some (some x) ∧ ftag x = t ∧ kk x = some res := by
  unfold fload at h
  split at h
  · rename_i x hx
    cases hb : Nat.beq (ftag x) t <;> rw [hb] at h
    · cases h
    · exact ⟨x, hx, Nat.eq_of_beq_eq_true hb, h⟩
  · cases h
theorem ftag0 {x : fV} (h : ftag x = 0) : ∃ r, x = .inl r := by
  rcases x with r | r | r | r <;> first | exact ⟨_, rfl⟩ | cases h
theorem ftag1 {x : fV} (h : ftag x = 1) : ∃ r, x = vI r := by
  rcases x with r | r | r | r <;> first | exact ⟨_, rfl⟩ | cases h
theorem ftag2 {x : fV} (h : ftag x = 2) : ∃ r, x = vL r := by
  rcases x with r | r | r | r <;> first | exact ⟨_, rfl⟩ | cases h
theorem ftag3 {x : fV} (h : ftag x = 3) : ∃ r, x = vD r := by
  rcases x with r | r | r | r <;> first | exact ⟨_, rfl⟩ | cases h
theorem ftag01 {x : fV} (h : Nat.ble (ftag x) 1 = true) : (ftv G x).category = 1 := by
  rcases x with r | r | r | r <;> first | rfl | cases h
theorem fs_iconst {n : Int} (C : fCx G p l s m args meth c cc own nL) (hd : decode cc pc = .ok (.iconst n, ln)) (hk : fok nL ret Z pc ln (.iconst n, nx, a, b, v, ts) = true) (K : fGo p l e R s m args below meth c G nL MC MS res k) (h : fstep E (.iconst n, nx, a, b, v, ts) pc L S μ k1 n1 k = some res) (hs : fSt G s nL MC MS L S μ k1 n1 H locs ls) :
    W p l e R s m args below meth c H locs k1 n1 (vx_MQ below (fQ G res) (fXC G res) args s MC MS (fA G)) (F0 m pc ls (S.map (ftv G))) := by
  obtain ⟨hx, hb, hml, hown, hts, hlocks, hst, hG, hP⟩ := C
  obtain ⟨hM, hS, hl, hL, hSk, hk1, hn1⟩ := hs
  simp only [fok, Bool.and_eq_true, Bool.or_eq_true, decide_eq_true_eq] at hk
  obtain ⟨rfl, rfl, hv⟩ := hk
  refine lv_iconst (v := v) hx hb hd hv.symm ?_
  exact K _ L (vI v :: S) μ k1 n1 H locs ls h ⟨hM, hS, hl, hL, fok_cons trivial hSk, hk1, hn1⟩
theorem fs_bipush {n : Int} (C : fCx G p l s m args meth c cc own nL) (hd : decode cc pc = .ok (.bipush n, ln)) (hk : fok nL ret Z pc ln (.bipush n, nx, a, b, v, ts) = true) (K : fGo p l e R s m args below meth c G nL MC MS res k) (h : fstep E (.bipush n, nx, a, b, v, ts) pc L S μ k1 n1 k = some res) (hs : fSt G s nL MC MS L S μ k1 n1 H locs ls) :
    W p l e R s m args below meth c H locs k1 n1 (vx_MQ below (fQ G res) (fXC G res) args s MC MS (fA G)) (F0 m pc ls (S.map (ftv G))) := by
  obtain ⟨hx, hb, hml, hown, hts, hlocks, hst, hG, hP⟩ := C
  obtain ⟨hM, hS, hl, hL, hSk, hk1, hn1⟩ := hs
  simp only [fok, Bool.and_eq_true, Bool.or_eq_true, decide_eq_true_eq] at hk
  obtain ⟨rfl, rfl, hv⟩ := hk
  refine lv_bipush (v := v) hx hb hd hv.symm ?_
  exact K _ L (vI v :: S) μ k1 n1 H locs ls h ⟨hM, hS, hl, hL, fok_cons trivial hSk, hk1, hn1⟩
theorem fs_sipush {n : Int} (C : fCx G p l s m args meth c cc own nL) (hd : decode cc pc = .ok (.sipush n, ln)) (hk : fok nL ret Z pc ln (.sipush n, nx, a, b, v, ts) = true) (K : fGo p l e R s m args below meth c G nL MC MS res k) (h : fstep E (.sipush n, nx, a, b, v, ts) pc L S μ k1 n1 k = some res) (hs : fSt G s nL MC MS L S μ k1 n1 H locs ls) :
    W p l e R s m args below meth c H locs k1 n1 (vx_MQ below (fQ G res) (fXC G res) args s MC MS (fA G)) (F0 m pc ls (S.map (ftv G))) := by
  obtain ⟨hx, hb, hml, hown, hts, hlocks, hst, hG, hP⟩ := C
  obtain ⟨hM, hS, hl, hL, hSk, hk1, hn1⟩ := hs
  simp only [fok, Bool.and_eq_true, Bool.or_eq_true, decide_eq_true_eq] at hk
  obtain ⟨rfl, rfl, hv⟩ := hk
  refine lv_sipush (v := v) hx hb hd hv.symm ?_
  exact K _ L (vI v :: S) μ k1 n1 H locs ls h ⟨hM, hS, hl, hL, fok_cons trivial hSk, hk1, hn1⟩
theorem fs_lconst {n : Fin 2} (C : fCx G p l s m args meth c cc own nL) (hd : decode cc pc = .ok (.lconst n, ln)) (hk : fok nL ret Z pc ln (.lconst n, nx, a, b, v, ts) = true) (K : fGo p l e R s m args below meth c G nL MC MS res k) (h : fstep E (.lconst n, nx, a, b, v, ts) pc L S μ k1 n1 k = some res) (hs : fSt G s nL MC MS L S μ k1 n1 H locs ls) :
    W p l e R s m args below meth c H locs k1 n1 (vx_MQ below (fQ G res) (fXC G res) args s MC MS (fA G)) (F0 m pc ls (S.map (ftv G))) := by
  obtain ⟨hx, hb, hml, hown, hts, hlocks, hst, hG, hP⟩ := C
  obtain ⟨hM, hS, hl, hL, hSk, hk1, hn1⟩ := hs
  simp only [fok, Bool.and_eq_true, Bool.or_eq_true, decide_eq_true_eq] at hk
  obtain ⟨rfl, rfl, hv⟩ := hk
  refine lv_lconst (v := Int64.ofNat a) hx hb hd (by rw [hv]) ?_
  exact K _ L (vL (Int64.ofNat a) :: S) μ k1 n1 H locs ls h ⟨hM, hS, hl, hL, fok_cons trivial hSk, hk1, hn1⟩
theorem fs_dconst {n : Fin 2} (C : fCx G p l s m args meth c cc own nL) (hd : decode cc pc = .ok (.dconst n, ln)) (hk : fok nL ret Z pc ln (.dconst n, nx, a, b, v, ts) = true) (K : fGo p l e R s m args below meth c G nL MC MS res k) (h : fstep E (.dconst n, nx, a, b, v, ts) pc L S μ k1 n1 k = some res) (hs : fSt G s nL MC MS L S μ k1 n1 H locs ls) :
    W p l e R s m args below meth c H locs k1 n1 (vx_MQ below (fQ G res) (fXC G res) args s MC MS (fA G)) (F0 m pc ls (S.map (ftv G))) := by
  obtain ⟨hx, hb, hml, hown, hts, hlocks, hst, hG, hP⟩ := C
  obtain ⟨hM, hS, hl, hL, hSk, hk1, hn1⟩ := hs
  simp only [fok, Bool.and_eq_true, Bool.or_eq_true, decide_eq_true_eq] at hk
  obtain ⟨rfl, rfl, hv⟩ := hk
  simp only [fstep] at h
  cases hb0 : Nat.beq a 0 <;> rw [hb0] at h
  · cases h
  · have e0 : n = 0 := by
      have := Nat.eq_of_beq_eq_true hb0
      exact Fin.ext (by rw [← hv, this]; rfl)
    subst e0
    refine lv_dconst0 hx hb hd ?_
    exact K _ L (vD FP.dconst0 :: S) μ k1 n1 H locs ls h ⟨hM, hS, hl, hL, fok_cons trivial hSk, hk1, hn1⟩
theorem fs_ldc2 {n : Nat} (C : fCx G p l s m args meth c cc own nL) (hd : decode cc pc = .ok (.ldc2_w n, ln)) (hk : fok nL ret Z pc ln (.ldc2_w n, nx, a, b, v, ts) = true) (hlc : ∀ q ∈ Z.2.2.2.1, Jvm.Cond.constantLong own q.1 (Int64.ofNat q.2) ∈ fT) (K : fGo p l e R s m args below meth c G nL MC MS res k) (h : fstep E (.ldc2_w n, nx, a, b, v, ts) pc L S μ k1 n1 k = some res) (hs : fSt G s nL MC MS L S μ k1 n1 H locs ls) :
    W p l e R s m args below meth c H locs k1 n1 (vx_MQ below (fQ G res) (fXC G res) args s MC MS (fA G)) (F0 m pc ls (S.map (ftv G))) := by
  obtain ⟨hx, hb, hml, hown, hts, hlocks, hst, hG, hP⟩ := C
  obtain ⟨hM, hS, hl, hL, hSk, hk1, hn1⟩ := hs
  simp only [fok, Bool.and_eq_true, Bool.or_eq_true, decide_eq_true_eq] at hk
  obtain ⟨rfl, rfl, hv⟩ := hk
  refine lv_ldc2 (v := Int64.ofNat a) hx hb hown (hts _ (hlc (n, a) hv)) hd ?_
  exact K _ L (vL (Int64.ofNat a) :: S) μ k1 n1 H locs ls h ⟨hM, hS, hl, hL, fok_cons trivial hSk, hk1, hn1⟩
theorem fs_ldc {n : Nat} (C : fCx G p l s m args meth c cc own nL) (hd : decode cc pc = .ok (.ldc n, ln)) (hk : fok nL ret Z pc ln (.ldc n, nx, a, b, v, ts) = true) (hli : ∀ q ∈ Z.2.2.2.2.1, Jvm.Cond.constant own q.1 q.2 ∈ fT) (hlst : ∀ q ∈ Z.2.2.2.2.2, vk_R own q.1 (fForm.getD q.2 (0, "")).2 (G.1 (52, q.2, 0)) s) (K : fGo p l e R s m args below meth c G nL MC MS res k) (h : fstep E (.ldc n, nx, a, b, v, ts) pc L S μ k1 n1 k = some res) (hs : fSt G s nL MC MS L S μ k1 n1 H locs ls) :
    W p l e R s m args below meth c H locs k1 n1 (vx_MQ below (fQ G res) (fXC G res) args s MC MS (fA G)) (F0 m pc ls (S.map (ftv G))) := by
  obtain ⟨hx, hb, hml, hown, hts, hlocks, hst, hG, hP⟩ := C
  obtain ⟨hM, hS, hl, hL, hSk, hk1, hn1⟩ := hs
  simp only [fok, Bool.and_eq_true, Bool.or_eq_true, decide_eq_true_eq] at hk
  obtain ⟨rfl, rfl, hv⟩ := hk
  simp only [fstep] at h
  cases hb0 : Nat.beq b 1 <;> rw [hb0] at h hv
  · simp only [cond_false, decide_eq_true_eq] at h hv
    refine va_ldcS hx hb hown (hlst _ hv) hd ?_
    exact K _ L (vR 52 a 0 :: S) μ k1 n1 H locs ls h ⟨hM, hS, hl, hL, fok_cons (Or.inr ⟨show 50 ≤ 52 by decide, Or.inl rfl, rfl⟩) hSk, hk1, hn1⟩
  · simp only [cond_true, decide_eq_true_eq] at h hv
    refine lv_ldc (v := v) hx hb hown (hts _ (hli _ hv)) hd ?_
    exact K _ L (vI v :: S) μ k1 n1 H locs ls h ⟨hM, hS, hl, hL, fok_cons trivial hSk, hk1, hn1⟩
theorem fs_iload {i : Nat} (C : fCx G p l s m args meth c cc own nL) (hd : decode cc pc = .ok (.iload i, ln)) (hk : fok nL ret Z pc ln (.iload i, nx, a, b, v, ts) = true) (K : fGo p l e R s m args below meth c G nL MC MS res k) (h : fstep E (.iload i, nx, a, b, v, ts) pc L S μ k1 n1 k = some res) (hs : fSt G s nL MC MS L S μ k1 n1 H locs ls) :
    W p l e R s m args below meth c H locs k1 n1 (vx_MQ below (fQ G res) (fXC G res) args s MC MS (fA G)) (F0 m pc ls (S.map (ftv G))) := by
  obtain ⟨hx, hb, hml, hown, hts, hlocks, hst, hG, hP⟩ := C
  obtain ⟨hM, hS, hl, hL, hSk, hk1, hn1⟩ := hs
  simp only [fok, Bool.and_eq_true, Bool.or_eq_true, decide_eq_true_eq] at hk
  obtain ⟨rfl, rfl, rfl⟩ := hk
  obtain ⟨x, hx1, hx2, hx3⟩ := fld h
  obtain ⟨r, rfl⟩ := ftag1 hx2
  refine lv_iload hx hb hd (hl.2.2.2 _ _ hx1) ?_
  exact K _ L (_ :: S) μ k1 n1 H locs ls hx3 ⟨hM, hS, hl, hL, fok_cons (hL _ _ hx1) hSk, hk1, hn1⟩
theorem fs_aload {i : Nat} (C : fCx G p l s m args meth c cc own nL) (hd : decode cc pc = .ok (.aload i, ln)) (hk : fok nL ret Z pc ln (.aload i, nx, a, b, v, ts) = true) (K : fGo p l e R s m args below meth c G nL MC MS res k) (h : fstep E (.aload i, nx, a, b, v, ts) pc L S μ k1 n1 k = some res) (hs : fSt G s nL MC MS L S μ k1 n1 H locs ls) :
    W p l e R s m args below meth c H locs k1 n1 (vx_MQ below (fQ G res) (fXC G res) args s MC MS (fA G)) (F0 m pc ls (S.map (ftv G))) := by
  obtain ⟨hx, hb, hml, hown, hts, hlocks, hst, hG, hP⟩ := C
  obtain ⟨hM, hS, hl, hL, hSk, hk1, hn1⟩ := hs
  simp only [fok, Bool.and_eq_true, Bool.or_eq_true, decide_eq_true_eq] at hk
  obtain ⟨rfl, rfl, rfl⟩ := hk
  obtain ⟨x, hx1, hx2, hx3⟩ := fld h
  obtain ⟨r, rfl⟩ := ftag0 hx2
  refine lv_aload hx hb hd (hl.2.2.2 _ _ hx1) ?_
  exact K _ L (_ :: S) μ k1 n1 H locs ls hx3 ⟨hM, hS, hl, hL, fok_cons (hL _ _ hx1) hSk, hk1, hn1⟩
theorem fs_lload {i : Nat} (C : fCx G p l s m args meth c cc own nL) (hd : decode cc pc = .ok (.lload i, ln)) (hk : fok nL ret Z pc ln (.lload i, nx, a, b, v, ts) = true) (K : fGo p l e R s m args below meth c G nL MC MS res k) (h : fstep E (.lload i, nx, a, b, v, ts) pc L S μ k1 n1 k = some res) (hs : fSt G s nL MC MS L S μ k1 n1 H locs ls) :
    W p l e R s m args below meth c H locs k1 n1 (vx_MQ below (fQ G res) (fXC G res) args s MC MS (fA G)) (F0 m pc ls (S.map (ftv G))) := by
  obtain ⟨hx, hb, hml, hown, hts, hlocks, hst, hG, hP⟩ := C
  obtain ⟨hM, hS, hl, hL, hSk, hk1, hn1⟩ := hs
  simp only [fok, Bool.and_eq_true, Bool.or_eq_true, decide_eq_true_eq] at hk
  obtain ⟨rfl, rfl, rfl⟩ := hk
  obtain ⟨x, hx1, hx2, hx3⟩ := fld h
  obtain ⟨r, rfl⟩ := ftag2 hx2
  refine lv_lload hx hb hd (hl.2.2.2 _ _ hx1) ?_
  exact K _ L (_ :: S) μ k1 n1 H locs ls hx3 ⟨hM, hS, hl, hL, fok_cons (hL _ _ hx1) hSk, hk1, hn1⟩
theorem fs_dload {i : Nat} (C : fCx G p l s m args meth c cc own nL) (hd : decode cc pc = .ok (.dload i, ln)) (hk : fok nL ret Z pc ln (.dload i, nx, a, b, v, ts) = true) (K : fGo p l e R s m args below meth c G nL MC MS res k) (h : fstep E (.dload i, nx, a, b, v, ts) pc L S μ k1 n1 k = some res) (hs : fSt G s nL MC MS L S μ k1 n1 H locs ls) :
    W p l e R s m args below meth c H locs k1 n1 (vx_MQ below (fQ G res) (fXC G res) args s MC MS (fA G)) (F0 m pc ls (S.map (ftv G))) := by
  obtain ⟨hx, hb, hml, hown, hts, hlocks, hst, hG, hP⟩ := C
  obtain ⟨hM, hS, hl, hL, hSk, hk1, hn1⟩ := hs
  simp only [fok, Bool.and_eq_true, Bool.or_eq_true, decide_eq_true_eq] at hk
  obtain ⟨rfl, rfl, rfl⟩ := hk
  obtain ⟨x, hx1, hx2, hx3⟩ := fld h
  obtain ⟨r, rfl⟩ := ftag3 hx2
  refine lv_dload hx hb hd (hl.2.2.2 _ _ hx1) ?_
  exact K _ L (_ :: S) μ k1 n1 H locs ls hx3 ⟨hM, hS, hl, hL, fok_cons (hL _ _ hx1) hSk, hk1, hn1⟩
theorem fs_iload_n {i : Fin 4} (C : fCx G p l s m args meth c cc own nL) (hd : decode cc pc = .ok (.iload_n i, ln)) (hk : fok nL ret Z pc ln (.iload_n i, nx, a, b, v, ts) = true) (K : fGo p l e R s m args below meth c G nL MC MS res k) (h : fstep E (.iload_n i, nx, a, b, v, ts) pc L S μ k1 n1 k = some res) (hs : fSt G s nL MC MS L S μ k1 n1 H locs ls) :
    W p l e R s m args below meth c H locs k1 n1 (vx_MQ below (fQ G res) (fXC G res) args s MC MS (fA G)) (F0 m pc ls (S.map (ftv G))) := by
  obtain ⟨hx, hb, hml, hown, hts, hlocks, hst, hG, hP⟩ := C
  obtain ⟨hM, hS, hl, hL, hSk, hk1, hn1⟩ := hs
  simp only [fok, Bool.and_eq_true, Bool.or_eq_true, decide_eq_true_eq] at hk
  obtain ⟨rfl, rfl, rfl⟩ := hk
  obtain ⟨x, hx1, hx2, hx3⟩ := fld h
  obtain ⟨r, rfl⟩ := ftag1 hx2
  refine lv_iload_n hx hb hd rfl (hl.2.2.2 _ _ hx1) ?_
  exact K _ L (_ :: S) μ k1 n1 H locs ls hx3 ⟨hM, hS, hl, hL, fok_cons (hL _ _ hx1) hSk, hk1, hn1⟩
theorem fs_aload_n {i : Fin 4} (C : fCx G p l s m args meth c cc own nL) (hd : decode cc pc = .ok (.aload_n i, ln)) (hk : fok nL ret Z pc ln (.aload_n i, nx, a, b, v, ts) = true) (K : fGo p l e R s m args below meth c G nL MC MS res k) (h : fstep E (.aload_n i, nx, a, b, v, ts) pc L S μ k1 n1 k = some res) (hs : fSt G s nL MC MS L S μ k1 n1 H locs ls) :
    W p l e R s m args below meth c H locs k1 n1 (vx_MQ below (fQ G res) (fXC G res) args s MC MS (fA G)) (F0 m pc ls (S.map (ftv G))) := by
  obtain ⟨hx, hb, hml, hown, hts, hlocks, hst, hG, hP⟩ := C
  obtain ⟨hM, hS, hl, hL, hSk, hk1, hn1⟩ := hs
  simp only [fok, Bool.and_eq_true, Bool.or_eq_true, decide_eq_true_eq] at hk
  obtain ⟨rfl, rfl, rfl⟩ := hk
  obtain ⟨x, hx1, hx2, hx3⟩ := fld h
  obtain ⟨r, rfl⟩ := ftag0 hx2
  refine lv_aload_n hx hb hd rfl (hl.2.2.2 _ _ hx1) ?_
  exact K _ L (_ :: S) μ k1 n1 H locs ls hx3 ⟨hM, hS, hl, hL, fok_cons (hL _ _ hx1) hSk, hk1, hn1⟩
theorem fs_lload_n {i : Fin 4} (C : fCx G p l s m args meth c cc own nL) (hd : decode cc pc = .ok (.lload_n i, ln)) (hk : fok nL ret Z pc ln (.lload_n i, nx, a, b, v, ts) = true) (K : fGo p l e R s m args below meth c G nL MC MS res k) (h : fstep E (.lload_n i, nx, a, b, v, ts) pc L S μ k1 n1 k = some res) (hs : fSt G s nL MC MS L S μ k1 n1 H locs ls) :
    W p l e R s m args below meth c H locs k1 n1 (vx_MQ below (fQ G res) (fXC G res) args s MC MS (fA G)) (F0 m pc ls (S.map (ftv G))) := by
  obtain ⟨hx, hb, hml, hown, hts, hlocks, hst, hG, hP⟩ := C
  obtain ⟨hM, hS, hl, hL, hSk, hk1, hn1⟩ := hs
  simp only [fok, Bool.and_eq_true, Bool.or_eq_true, decide_eq_true_eq] at hk
  obtain ⟨rfl, rfl, rfl⟩ := hk
  obtain ⟨x, hx1, hx2, hx3⟩ := fld h
  obtain ⟨r, rfl⟩ := ftag2 hx2
  refine lv_lload_n hx hb hd rfl (hl.2.2.2 _ _ hx1) ?_
  exact K _ L (_ :: S) μ k1 n1 H locs ls hx3 ⟨hM, hS, hl, hL, fok_cons (hL _ _ hx1) hSk, hk1, hn1⟩
theorem fs_istore {i : Nat} (C : fCx G p l s m args meth c cc own nL) (hd : decode cc pc = .ok (.istore i, ln)) (hk : fok nL ret Z pc ln (.istore i, nx, a, b, v, ts) = true) (K : fGo p l e R s m args below meth c G nL MC MS res k) (h : fstep E (.istore i, nx, a, b, v, ts) pc L S μ k1 n1 k = some res) (hs : fSt G s nL MC MS L S μ k1 n1 H locs ls) :
    W p l e R s m args below meth c H locs k1 n1 (vx_MQ below (fQ G res) (fXC G res) args s MC MS (fA G)) (F0 m pc ls (S.map (ftv G))) := by
  obtain ⟨hx, hb, hml, hown, hts, hlocks, hst, hG, hP⟩ := C
  obtain ⟨hM, hS, hl, hL, hSk, hk1, hn1⟩ := hs
  simp only [fok, Bool.and_eq_true, Bool.or_eq_true, decide_eq_true_eq] at hk
  obtain ⟨rfl, rfl, rfl, ha⟩ := hk
  simp only [fstep] at h
  split at h
  · rename_i x S'
    refine lv_istore hx hb hd hl.has ha rfl (fun ls' hl' => ?_)
    exact K _ (fput1 L _ (some (vI x))) S' μ k1 n1 H locs ls' h ⟨hM, hS, hl.put1 (Or.inl rfl) hl', fput1_ok hL (fun v hv => by cases hv; exact hSk _ List.mem_cons_self), fok_tail hSk, hk1, hn1⟩
  · cases h
theorem fs_istore_n {i : Fin 4} (C : fCx G p l s m args meth c cc own nL) (hd : decode cc pc = .ok (.istore_n i, ln)) (hk : fok nL ret Z pc ln (.istore_n i, nx, a, b, v, ts) = true) (K : fGo p l e R s m args below meth c G nL MC MS res k) (h : fstep E (.istore_n i, nx, a, b, v, ts) pc L S μ k1 n1 k = some res) (hs : fSt G s nL MC MS L S μ k1 n1 H locs ls) :
    W p l e R s m args below meth c H locs k1 n1 (vx_MQ below (fQ G res) (fXC G res) args s MC MS (fA G)) (F0 m pc ls (S.map (ftv G))) := by
  obtain ⟨hx, hb, hml, hown, hts, hlocks, hst, hG, hP⟩ := C
  obtain ⟨hM, hS, hl, hL, hSk, hk1, hn1⟩ := hs
  simp only [fok, Bool.and_eq_true, Bool.or_eq_true, decide_eq_true_eq] at hk
  obtain ⟨rfl, rfl, rfl, ha⟩ := hk
  simp only [fstep] at h
  split at h
  · rename_i x S'
    refine lv_istore_n hx hb hd rfl hl.has ha rfl (fun ls' hl' => ?_)
    exact K _ (fput1 L _ (some (vI x))) S' μ k1 n1 H locs ls' h ⟨hM, hS, hl.put1 (Or.inl rfl) hl', fput1_ok hL (fun v hv => by cases hv; exact hSk _ List.mem_cons_self), fok_tail hSk, hk1, hn1⟩
  · cases h
theorem fs_astore {i : Nat} (C : fCx G p l s m args meth c cc own nL) (hd : decode cc pc = .ok (.astore i, ln)) (hk : fok nL ret Z pc ln (.astore i, nx, a, b, v, ts) = true) (K : fGo p l e R s m args below meth c G nL MC MS res k) (h : fstep E (.astore i, nx, a, b, v, ts) pc L S μ k1 n1 k = some res) (hs : fSt G s nL MC MS L S μ k1 n1 H locs ls) :
    W p l e R s m args below meth c H locs k1 n1 (vx_MQ below (fQ G res) (fXC G res) args s MC MS (fA G)) (F0 m pc ls (S.map (ftv G))) := by
  obtain ⟨hx, hb, hml, hown, hts, hlocks, hst, hG, hP⟩ := C
  obtain ⟨hM, hS, hl, hL, hSk, hk1, hn1⟩ := hs
  simp only [fok, Bool.and_eq_true, Bool.or_eq_true, decide_eq_true_eq] at hk
  obtain ⟨rfl, rfl, rfl, ha⟩ := hk
  simp only [fstep] at h
  split at h
  · rename_i x S'
    refine lv_astore hx hb hd hl.has ha rfl (fun ls' hl' => ?_)
    exact K _ (fput1 L _ (some (.inl x))) S' μ k1 n1 H locs ls' h ⟨hM, hS, hl.put1 (Or.inl rfl) hl', fput1_ok hL (fun v hv => by cases hv; exact hSk _ List.mem_cons_self), fok_tail hSk, hk1, hn1⟩
  · cases h
theorem fs_astore_n {i : Fin 4} (C : fCx G p l s m args meth c cc own nL) (hd : decode cc pc = .ok (.astore_n i, ln)) (hk : fok nL ret Z pc ln (.astore_n i, nx, a, b, v, ts) = true) (K : fGo p l e R s m args below meth c G nL MC MS res k) (h : fstep E (.astore_n i, nx, a, b, v, ts) pc L S μ k1 n1 k = some res) (hs : fSt G s nL MC MS L S μ k1 n1 H locs ls) :
    W p l e R s m args below meth c H locs k1 n1 (vx_MQ below (fQ G res) (fXC G res) args s MC MS (fA G)) (F0 m pc ls (S.map (ftv G))) := by
  obtain ⟨hx, hb, hml, hown, hts, hlocks, hst, hG, hP⟩ := C
  obtain ⟨hM, hS, hl, hL, hSk, hk1, hn1⟩ := hs
  simp only [fok, Bool.and_eq_true, Bool.or_eq_true, decide_eq_true_eq] at hk
  obtain ⟨rfl, rfl, rfl, ha⟩ := hk
  simp only [fstep] at h
  split at h
  · rename_i x S'
    refine lv_astore_n hx hb hd rfl hl.has ha rfl (fun ls' hl' => ?_)
    exact K _ (fput1 L _ (some (.inl x))) S' μ k1 n1 H locs ls' h ⟨hM, hS, hl.put1 (Or.inl rfl) hl', fput1_ok hL (fun v hv => by cases hv; exact hSk _ List.mem_cons_self), fok_tail hSk, hk1, hn1⟩
  · cases h
theorem fs_dstore {i : Nat} (C : fCx G p l s m args meth c cc own nL) (hd : decode cc pc = .ok (.dstore i, ln)) (hk : fok nL ret Z pc ln (.dstore i, nx, a, b, v, ts) = true) (K : fGo p l e R s m args below meth c G nL MC MS res k) (h : fstep E (.dstore i, nx, a, b, v, ts) pc L S μ k1 n1 k = some res) (hs : fSt G s nL MC MS L S μ k1 n1 H locs ls) :
    W p l e R s m args below meth c H locs k1 n1 (vx_MQ below (fQ G res) (fXC G res) args s MC MS (fA G)) (F0 m pc ls (S.map (ftv G))) := by
  obtain ⟨hx, hb, hml, hown, hts, hlocks, hst, hG, hP⟩ := C
  obtain ⟨hM, hS, hl, hL, hSk, hk1, hn1⟩ := hs
  simp only [fok, Bool.and_eq_true, Bool.or_eq_true, decide_eq_true_eq] at hk
  obtain ⟨rfl, rfl, rfl, ha⟩ := hk
  simp only [fstep] at h
  split at h
  · rename_i x S'
    refine lv_dstore hx hb hd hl.has ha rfl (fun ls' hl' => ?_)
    exact K _ (fput2 L _ (vD x)) S' μ k1 n1 H locs ls' h ⟨hM, hS, hl.put2 hl', fput2_ok hL trivial, fok_tail hSk, hk1, hn1⟩
  · cases h
theorem fs_iinc {i : Nat} {n : Int} (C : fCx G p l s m args meth c cc own nL) (hd : decode cc pc = .ok (.iinc i n, ln)) (hk : fok nL ret Z pc ln (.iinc i n, nx, a, b, v, ts) = true) (K : fGo p l e R s m args below meth c G nL MC MS res k) (h : fstep E (.iinc i n, nx, a, b, v, ts) pc L S μ k1 n1 k = some res) (hs : fSt G s nL MC MS L S μ k1 n1 H locs ls) :
    W p l e R s m args below meth c H locs k1 n1 (vx_MQ below (fQ G res) (fXC G res) args s MC MS (fA G)) (F0 m pc ls (S.map (ftv G))) := by
  obtain ⟨hx, hb, hml, hown, hts, hlocks, hst, hG, hP⟩ := C
  obtain ⟨hM, hS, hl, hL, hSk, hk1, hn1⟩ := hs
  simp only [fok, Bool.and_eq_true, Bool.or_eq_true, decide_eq_true_eq] at hk
  obtain ⟨rfl, rfl, rfl, hv, ha⟩ := hk
  simp only [fstep] at h
  split at h
  · rename_i x hx1
    obtain ⟨j, hj⟩ := List.getElem?_of_mem (flv_mem.mpr ⟨vI x, hx1, rfl⟩ : (a, ftv G (vI x)) ∈ flv G L)
    refine lv_iinc (v := x + v) hx hb hd hl.has (k := j) hj (by rw [hv]) ha rfl (fun ls' hl' => ?_)
    exact K _ (fput1 L _ (some (vI (x + v)))) S μ k1 n1 H locs ls' h ⟨hM, hS, hl.put1 (Or.inl rfl) hl', fput1_ok hL (fun v hv => by cases hv; trivial), hSk, hk1, hn1⟩
  · cases h
theorem fs_iadd  (C : fCx G p l s m args meth c cc own nL) (hd : decode cc pc = .ok (.iadd, ln)) (hk : fok nL ret Z pc ln (.iadd, nx, a, b, v, ts) = true) (K : fGo p l e R s m args below meth c G nL MC MS res k) (h : fstep E (.iadd, nx, a, b, v, ts) pc L S μ k1 n1 k = some res) (hs : fSt G s nL MC MS L S μ k1 n1 H locs ls) :
    W p l e R s m args below meth c H locs k1 n1 (vx_MQ below (fQ G res) (fXC G res) args s MC MS (fA G)) (F0 m pc ls (S.map (ftv G))) := by
  obtain ⟨hx, hb, hml, hown, hts, hlocks, hst, hG, hP⟩ := C
  obtain ⟨hM, hS, hl, hL, hSk, hk1, hn1⟩ := hs
  simp only [fok, Bool.and_eq_true, Bool.or_eq_true, decide_eq_true_eq] at hk
  obtain ⟨rfl, rfl⟩ := hk
  simp only [fstep] at h
  split at h
  · rename_i y x S'
    refine lv_iadd hx hb hd ?_
    exact K _ L (vI (x + y) :: S') μ k1 n1 H locs ls h ⟨hM, hS, hl, hL, fok_cons trivial (fok_tail (fok_tail hSk)), hk1, hn1⟩
  · cases h
theorem fs_isub  (C : fCx G p l s m args meth c cc own nL) (hd : decode cc pc = .ok (.isub, ln)) (hk : fok nL ret Z pc ln (.isub, nx, a, b, v, ts) = true) (K : fGo p l e R s m args below meth c G nL MC MS res k) (h : fstep E (.isub, nx, a, b, v, ts) pc L S μ k1 n1 k = some res) (hs : fSt G s nL MC MS L S μ k1 n1 H locs ls) :
    W p l e R s m args below meth c H locs k1 n1 (vx_MQ below (fQ G res) (fXC G res) args s MC MS (fA G)) (F0 m pc ls (S.map (ftv G))) := by
  obtain ⟨hx, hb, hml, hown, hts, hlocks, hst, hG, hP⟩ := C
  obtain ⟨hM, hS, hl, hL, hSk, hk1, hn1⟩ := hs
  simp only [fok, Bool.and_eq_true, Bool.or_eq_true, decide_eq_true_eq] at hk
  obtain ⟨rfl, rfl⟩ := hk
  simp only [fstep] at h
  split at h
  · rename_i y x S'
    refine lv_isub hx hb hd ?_
    exact K _ L (vI (x - y) :: S') μ k1 n1 H locs ls h ⟨hM, hS, hl, hL, fok_cons trivial (fok_tail (fok_tail hSk)), hk1, hn1⟩
  · cases h
theorem fs_imul  (C : fCx G p l s m args meth c cc own nL) (hd : decode cc pc = .ok (.imul, ln)) (hk : fok nL ret Z pc ln (.imul, nx, a, b, v, ts) = true) (K : fGo p l e R s m args below meth c G nL MC MS res k) (h : fstep E (.imul, nx, a, b, v, ts) pc L S μ k1 n1 k = some res) (hs : fSt G s nL MC MS L S μ k1 n1 H locs ls) :
    W p l e R s m args below meth c H locs k1 n1 (vx_MQ below (fQ G res) (fXC G res) args s MC MS (fA G)) (F0 m pc ls (S.map (ftv G))) := by
  obtain ⟨hx, hb, hml, hown, hts, hlocks, hst, hG, hP⟩ := C
  obtain ⟨hM, hS, hl, hL, hSk, hk1, hn1⟩ := hs
  simp only [fok, Bool.and_eq_true, Bool.or_eq_true, decide_eq_true_eq] at hk
  obtain ⟨rfl, rfl⟩ := hk
  simp only [fstep] at h
  split at h
  · rename_i y x S'
    refine lv_imul hx hb hd ?_
    exact K _ L (vI (x * y) :: S') μ k1 n1 H locs ls h ⟨hM, hS, hl, hL, fok_cons trivial (fok_tail (fok_tail hSk)), hk1, hn1⟩
  · cases h
theorem fs_iand  (C : fCx G p l s m args meth c cc own nL) (hd : decode cc pc = .ok (.iand, ln)) (hk : fok nL ret Z pc ln (.iand, nx, a, b, v, ts) = true) (K : fGo p l e R s m args below meth c G nL MC MS res k) (h : fstep E (.iand, nx, a, b, v, ts) pc L S μ k1 n1 k = some res) (hs : fSt G s nL MC MS L S μ k1 n1 H locs ls) :
    W p l e R s m args below meth c H locs k1 n1 (vx_MQ below (fQ G res) (fXC G res) args s MC MS (fA G)) (F0 m pc ls (S.map (ftv G))) := by
  obtain ⟨hx, hb, hml, hown, hts, hlocks, hst, hG, hP⟩ := C
  obtain ⟨hM, hS, hl, hL, hSk, hk1, hn1⟩ := hs
  simp only [fok, Bool.and_eq_true, Bool.or_eq_true, decide_eq_true_eq] at hk
  obtain ⟨rfl, rfl⟩ := hk
  simp only [fstep] at h
  split at h
  · rename_i y x S'
    refine lv_iand hx hb hd ?_
    exact K _ L (vI (x &&& y) :: S') μ k1 n1 H locs ls h ⟨hM, hS, hl, hL, fok_cons trivial (fok_tail (fok_tail hSk)), hk1, hn1⟩
  · cases h
theorem fs_ior  (C : fCx G p l s m args meth c cc own nL) (hd : decode cc pc = .ok (.ior, ln)) (hk : fok nL ret Z pc ln (.ior, nx, a, b, v, ts) = true) (K : fGo p l e R s m args below meth c G nL MC MS res k) (h : fstep E (.ior, nx, a, b, v, ts) pc L S μ k1 n1 k = some res) (hs : fSt G s nL MC MS L S μ k1 n1 H locs ls) :
    W p l e R s m args below meth c H locs k1 n1 (vx_MQ below (fQ G res) (fXC G res) args s MC MS (fA G)) (F0 m pc ls (S.map (ftv G))) := by
  obtain ⟨hx, hb, hml, hown, hts, hlocks, hst, hG, hP⟩ := C
  obtain ⟨hM, hS, hl, hL, hSk, hk1, hn1⟩ := hs
  simp only [fok, Bool.and_eq_true, Bool.or_eq_true, decide_eq_true_eq] at hk
  obtain ⟨rfl, rfl⟩ := hk
  simp only [fstep] at h
  split at h
  · rename_i y x S'
    refine lv_ior hx hb hd ?_
    exact K _ L (vI (x ||| y) :: S') μ k1 n1 H locs ls h ⟨hM, hS, hl, hL, fok_cons trivial (fok_tail (fok_tail hSk)), hk1, hn1⟩
  · cases h
theorem fs_ixor  (C : fCx G p l s m args meth c cc own nL) (hd : decode cc pc = .ok (.ixor, ln)) (hk : fok nL ret Z pc ln (.ixor, nx, a, b, v, ts) = true) (K : fGo p l e R s m args below meth c G nL MC MS res k) (h : fstep E (.ixor, nx, a, b, v, ts) pc L S μ k1 n1 k = some res) (hs : fSt G s nL MC MS L S μ k1 n1 H locs ls) :
    W p l e R s m args below meth c H locs k1 n1 (vx_MQ below (fQ G res) (fXC G res) args s MC MS (fA G)) (F0 m pc ls (S.map (ftv G))) := by
  obtain ⟨hx, hb, hml, hown, hts, hlocks, hst, hG, hP⟩ := C
  obtain ⟨hM, hS, hl, hL, hSk, hk1, hn1⟩ := hs
  simp only [fok, Bool.and_eq_true, Bool.or_eq_true, decide_eq_true_eq] at hk
  obtain ⟨rfl, rfl⟩ := hk
  simp only [fstep] at h
  split at h
  · rename_i y x S'
    refine lv_ixor hx hb hd ?_
    exact K _ L (vI (x ^^^ y) :: S') μ k1 n1 H locs ls h ⟨hM, hS, hl, hL, fok_cons trivial (fok_tail (fok_tail hSk)), hk1, hn1⟩
  · cases h
theorem fs_ishl  (C : fCx G p l s m args meth c cc own nL) (hd : decode cc pc = .ok (.ishl, ln)) (hk : fok nL ret Z pc ln (.ishl, nx, a, b, v, ts) = true) (K : fGo p l e R s m args below meth c G nL MC MS res k) (h : fstep E (.ishl, nx, a, b, v, ts) pc L S μ k1 n1 k = some res) (hs : fSt G s nL MC MS L S μ k1 n1 H locs ls) :
    W p l e R s m args below meth c H locs k1 n1 (vx_MQ below (fQ G res) (fXC G res) args s MC MS (fA G)) (F0 m pc ls (S.map (ftv G))) := by
  obtain ⟨hx, hb, hml, hown, hts, hlocks, hst, hG, hP⟩ := C
  obtain ⟨hM, hS, hl, hL, hSk, hk1, hn1⟩ := hs
  simp only [fok, Bool.and_eq_true, Bool.or_eq_true, decide_eq_true_eq] at hk
  obtain ⟨rfl, rfl⟩ := hk
  simp only [fstep] at h
  split at h
  · rename_i y x S'
    refine lv_ishl hx hb hd ?_
    exact K _ L (vI (x <<< (y &&& 31)) :: S') μ k1 n1 H locs ls h ⟨hM, hS, hl, hL, fok_cons trivial (fok_tail (fok_tail hSk)), hk1, hn1⟩
  · cases h
theorem fs_ishr  (C : fCx G p l s m args meth c cc own nL) (hd : decode cc pc = .ok (.ishr, ln)) (hk : fok nL ret Z pc ln (.ishr, nx, a, b, v, ts) = true) (K : fGo p l e R s m args below meth c G nL MC MS res k) (h : fstep E (.ishr, nx, a, b, v, ts) pc L S μ k1 n1 k = some res) (hs : fSt G s nL MC MS L S μ k1 n1 H locs ls) :
    W p l e R s m args below meth c H locs k1 n1 (vx_MQ below (fQ G res) (fXC G res) args s MC MS (fA G)) (F0 m pc ls (S.map (ftv G))) := by
  obtain ⟨hx, hb, hml, hown, hts, hlocks, hst, hG, hP⟩ := C
  obtain ⟨hM, hS, hl, hL, hSk, hk1, hn1⟩ := hs
  simp only [fok, Bool.and_eq_true, Bool.or_eq_true, decide_eq_true_eq] at hk
  obtain ⟨rfl, rfl⟩ := hk
  simp only [fstep] at h
  split at h
  · rename_i y x S'
    refine lv_ishr hx hb hd ?_
    exact K _ L (vI (x >>> (y &&& 31)) :: S') μ k1 n1 H locs ls h ⟨hM, hS, hl, hL, fok_cons trivial (fok_tail (fok_tail hSk)), hk1, hn1⟩
  · cases h
theorem fs_ladd  (C : fCx G p l s m args meth c cc own nL) (hd : decode cc pc = .ok (.ladd, ln)) (hk : fok nL ret Z pc ln (.ladd, nx, a, b, v, ts) = true) (K : fGo p l e R s m args below meth c G nL MC MS res k) (h : fstep E (.ladd, nx, a, b, v, ts) pc L S μ k1 n1 k = some res) (hs : fSt G s nL MC MS L S μ k1 n1 H locs ls) :
    W p l e R s m args below meth c H locs k1 n1 (vx_MQ below (fQ G res) (fXC G res) args s MC MS (fA G)) (F0 m pc ls (S.map (ftv G))) := by
  obtain ⟨hx, hb, hml, hown, hts, hlocks, hst, hG, hP⟩ := C
  obtain ⟨hM, hS, hl, hL, hSk, hk1, hn1⟩ := hs
  simp only [fok, Bool.and_eq_true, Bool.or_eq_true, decide_eq_true_eq] at hk
  obtain ⟨rfl, rfl⟩ := hk
  simp only [fstep] at h
  split at h
  · rename_i y x S'
    refine lv_ladd hx hb hd ?_
    exact K _ L (vL (x + y) :: S') μ k1 n1 H locs ls h ⟨hM, hS, hl, hL, fok_cons trivial (fok_tail (fok_tail hSk)), hk1, hn1⟩
  · cases h
theorem fs_lcmp  (C : fCx G p l s m args meth c cc own nL) (hd : decode cc pc = .ok (.lcmp, ln)) (hk : fok nL ret Z pc ln (.lcmp, nx, a, b, v, ts) = true) (K : fGo p l e R s m args below meth c G nL MC MS res k) (h : fstep E (.lcmp, nx, a, b, v, ts) pc L S μ k1 n1 k = some res) (hs : fSt G s nL MC MS L S μ k1 n1 H locs ls) :
    W p l e R s m args below meth c H locs k1 n1 (vx_MQ below (fQ G res) (fXC G res) args s MC MS (fA G)) (F0 m pc ls (S.map (ftv G))) := by
  obtain ⟨hx, hb, hml, hown, hts, hlocks, hst, hG, hP⟩ := C
  obtain ⟨hM, hS, hl, hL, hSk, hk1, hn1⟩ := hs
  simp only [fok, Bool.and_eq_true, Bool.or_eq_true, decide_eq_true_eq] at hk
  obtain ⟨rfl, rfl⟩ := hk
  simp only [fstep] at h
  split at h
  · rename_i y x S'
    refine W.lcmp hx hb hd ?_
    exact K _ L (vI (lg_cmp x y) :: S') μ k1 n1 H locs ls h ⟨hM, hS, hl, hL, fok_cons trivial (fok_tail (fok_tail hSk)), hk1, hn1⟩
  · cases h
theorem fs_idiv  (C : fCx G p l s m args meth c cc own nL) (hd : decode cc pc = .ok (.idiv, ln)) (hk : fok nL ret Z pc ln (.idiv, nx, a, b, v, ts) = true) (K : fGo p l e R s m args below meth c G nL MC MS res k) (h : fstep E (.idiv, nx, a, b, v, ts) pc L S μ k1 n1 k = some res) (hs : fSt G s nL MC MS L S μ k1 n1 H locs ls) :
    W p l e R s m args below meth c H locs k1 n1 (vx_MQ below (fQ G res) (fXC G res) args s MC MS (fA G)) (F0 m pc ls (S.map (ftv G))) := by
  obtain ⟨hx, hb, hml, hown, hts, hlocks, hst, hG, hP⟩ := C
  obtain ⟨hM, hS, hl, hL, hSk, hk1, hn1⟩ := hs
  simp only [fok, Bool.and_eq_true, Bool.or_eq_true, decide_eq_true_eq] at hk
  obtain ⟨rfl, rfl⟩ := hk
  simp only [fstep] at h
  split at h
  · rename_i y x S'
    split at h
    · cases h
    · rename_i hg
      refine lv_idiv hx hb hd hg ?_
      exact K _ L (vI (x / y) :: S') μ k1 n1 H locs ls h ⟨hM, hS, hl, hL, fok_cons trivial (fok_tail (fok_tail hSk)), hk1, hn1⟩
  · cases h
theorem fs_irem  (C : fCx G p l s m args meth c cc own nL) (hd : decode cc pc = .ok (.irem, ln)) (hk : fok nL ret Z pc ln (.irem, nx, a, b, v, ts) = true) (K : fGo p l e R s m args below meth c G nL MC MS res k) (h : fstep E (.irem, nx, a, b, v, ts) pc L S μ k1 n1 k = some res) (hs : fSt G s nL MC MS L S μ k1 n1 H locs ls) :
    W p l e R s m args below meth c H locs k1 n1 (vx_MQ below (fQ G res) (fXC G res) args s MC MS (fA G)) (F0 m pc ls (S.map (ftv G))) := by
  obtain ⟨hx, hb, hml, hown, hts, hlocks, hst, hG, hP⟩ := C
  obtain ⟨hM, hS, hl, hL, hSk, hk1, hn1⟩ := hs
  simp only [fok, Bool.and_eq_true, Bool.or_eq_true, decide_eq_true_eq] at hk
  obtain ⟨rfl, rfl⟩ := hk
  simp only [fstep] at h
  split at h
  · rename_i y x S'
    split at h
    · cases h
    · rename_i hg
      refine lv_irem hx hb hd hg ?_
      exact K _ L (vI (x - x / y * y) :: S') μ k1 n1 H locs ls h ⟨hM, hS, hl, hL, fok_cons trivial (fok_tail (fok_tail hSk)), hk1, hn1⟩
  · cases h
theorem fs_ddiv  (C : fCx G p l s m args meth c cc own nL) (hd : decode cc pc = .ok (.ddiv, ln)) (hk : fok nL ret Z pc ln (.ddiv, nx, a, b, v, ts) = true) (K : fGo p l e R s m args below meth c G nL MC MS res k) (h : fstep E (.ddiv, nx, a, b, v, ts) pc L S μ k1 n1 k = some res) (hs : fSt G s nL MC MS L S μ k1 n1 H locs ls) :
    W p l e R s m args below meth c H locs k1 n1 (vx_MQ below (fQ G res) (fXC G res) args s MC MS (fA G)) (F0 m pc ls (S.map (ftv G))) := by
  obtain ⟨hx, hb, hml, hown, hts, hlocks, hst, hG, hP⟩ := C
  obtain ⟨hM, hS, hl, hL, hSk, hk1, hn1⟩ := hs
  simp only [fok, Bool.and_eq_true, Bool.or_eq_true, decide_eq_true_eq] at hk
  obtain ⟨rfl, rfl⟩ := hk
  simp only [fstep] at h
  split at h
  · rename_i y x S'
    split at h
    · rename_i hg
      refine lv_ddiv hx hb hd hg ?_
      exact K _ L (vD (FP.ddiv x y) :: S') μ k1 n1 H locs ls h ⟨hM, hS, hl, hL, fok_cons trivial (fok_tail (fok_tail hSk)), hk1, hn1⟩
    · cases h
  · cases h
theorem fs_dcmp {op : CmpOp} (C : fCx G p l s m args meth c cc own nL) (hd : decode cc pc = .ok (.dcmp op, ln)) (hk : fok nL ret Z pc ln (.dcmp op, nx, a, b, v, ts) = true) (K : fGo p l e R s m args below meth c G nL MC MS res k) (h : fstep E (.dcmp op, nx, a, b, v, ts) pc L S μ k1 n1 k = some res) (hs : fSt G s nL MC MS L S μ k1 n1 H locs ls) :
    W p l e R s m args below meth c H locs k1 n1 (vx_MQ below (fQ G res) (fXC G res) args s MC MS (fA G)) (F0 m pc ls (S.map (ftv G))) := by
  obtain ⟨hx, hb, hml, hown, hts, hlocks, hst, hG, hP⟩ := C
  obtain ⟨hM, hS, hl, hL, hSk, hk1, hn1⟩ := hs
  simp only [fok, Bool.and_eq_true, Bool.or_eq_true, decide_eq_true_eq] at hk
  obtain ⟨rfl, rfl⟩ := hk
  simp only [fstep] at h
  split at h
  · rename_i y x S'
    refine lv_dcmp hx hb hd ?_
    exact K _ L (vI (Op.cmpValue (FP.dcmp x y) op) :: S') μ k1 n1 H locs ls h ⟨hM, hS, hl, hL, fok_cons trivial (fok_tail (fok_tail hSk)), hk1, hn1⟩
  · cases h
theorem fs_i2l  (C : fCx G p l s m args meth c cc own nL) (hd : decode cc pc = .ok (.i2l, ln)) (hk : fok nL ret Z pc ln (.i2l, nx, a, b, v, ts) = true) (K : fGo p l e R s m args below meth c G nL MC MS res k) (h : fstep E (.i2l, nx, a, b, v, ts) pc L S μ k1 n1 k = some res) (hs : fSt G s nL MC MS L S μ k1 n1 H locs ls) :
    W p l e R s m args below meth c H locs k1 n1 (vx_MQ below (fQ G res) (fXC G res) args s MC MS (fA G)) (F0 m pc ls (S.map (ftv G))) := by
  obtain ⟨hx, hb, hml, hown, hts, hlocks, hst, hG, hP⟩ := C
  obtain ⟨hM, hS, hl, hL, hSk, hk1, hn1⟩ := hs
  simp only [fok, Bool.and_eq_true, Bool.or_eq_true, decide_eq_true_eq] at hk
  obtain ⟨rfl, rfl⟩ := hk
  simp only [fstep] at h
  split at h
  · rename_i x S'
    refine lv_i2l (v := x.toInt64) hx hb hd rfl ?_
    exact K _ L (vL x.toInt64 :: S') μ k1 n1 H locs ls h ⟨hM, hS, hl, hL, fok_cons trivial (fok_tail hSk), hk1, hn1⟩
  · cases h
theorem fs_l2i  (C : fCx G p l s m args meth c cc own nL) (hd : decode cc pc = .ok (.l2i, ln)) (hk : fok nL ret Z pc ln (.l2i, nx, a, b, v, ts) = true) (K : fGo p l e R s m args below meth c G nL MC MS res k) (h : fstep E (.l2i, nx, a, b, v, ts) pc L S μ k1 n1 k = some res) (hs : fSt G s nL MC MS L S μ k1 n1 H locs ls) :
    W p l e R s m args below meth c H locs k1 n1 (vx_MQ below (fQ G res) (fXC G res) args s MC MS (fA G)) (F0 m pc ls (S.map (ftv G))) := by
  obtain ⟨hx, hb, hml, hown, hts, hlocks, hst, hG, hP⟩ := C
  obtain ⟨hM, hS, hl, hL, hSk, hk1, hn1⟩ := hs
  simp only [fok, Bool.and_eq_true, Bool.or_eq_true, decide_eq_true_eq] at hk
  obtain ⟨rfl, rfl⟩ := hk
  simp only [fstep] at h
  split at h
  · rename_i x S'
    refine lv_l2i (v := x.toInt32) hx hb hd rfl ?_
    exact K _ L (vI x.toInt32 :: S') μ k1 n1 H locs ls h ⟨hM, hS, hl, hL, fok_cons trivial (fok_tail hSk), hk1, hn1⟩
  · cases h
theorem fs_i2c  (C : fCx G p l s m args meth c cc own nL) (hd : decode cc pc = .ok (.i2c, ln)) (hk : fok nL ret Z pc ln (.i2c, nx, a, b, v, ts) = true) (K : fGo p l e R s m args below meth c G nL MC MS res k) (h : fstep E (.i2c, nx, a, b, v, ts) pc L S μ k1 n1 k = some res) (hs : fSt G s nL MC MS L S μ k1 n1 H locs ls) :
    W p l e R s m args below meth c H locs k1 n1 (vx_MQ below (fQ G res) (fXC G res) args s MC MS (fA G)) (F0 m pc ls (S.map (ftv G))) := by
  obtain ⟨hx, hb, hml, hown, hts, hlocks, hst, hG, hP⟩ := C
  obtain ⟨hM, hS, hl, hL, hSk, hk1, hn1⟩ := hs
  simp only [fok, Bool.and_eq_true, Bool.or_eq_true, decide_eq_true_eq] at hk
  obtain ⟨rfl, rfl⟩ := hk
  simp only [fstep] at h
  split at h
  · rename_i x S'
    refine lv_i2c hx hb hd rfl ?_
    exact K _ L (vI (x.toUInt32 % 65536).toInt32 :: S') μ k1 n1 H locs ls h ⟨hM, hS, hl, hL, fok_cons trivial (fok_tail hSk), hk1, hn1⟩
  · cases h
theorem fs_i2d  (C : fCx G p l s m args meth c cc own nL) (hd : decode cc pc = .ok (.i2d, ln)) (hk : fok nL ret Z pc ln (.i2d, nx, a, b, v, ts) = true) (K : fGo p l e R s m args below meth c G nL MC MS res k) (h : fstep E (.i2d, nx, a, b, v, ts) pc L S μ k1 n1 k = some res) (hs : fSt G s nL MC MS L S μ k1 n1 H locs ls) :
    W p l e R s m args below meth c H locs k1 n1 (vx_MQ below (fQ G res) (fXC G res) args s MC MS (fA G)) (F0 m pc ls (S.map (ftv G))) := by
  obtain ⟨hx, hb, hml, hown, hts, hlocks, hst, hG, hP⟩ := C
  obtain ⟨hM, hS, hl, hL, hSk, hk1, hn1⟩ := hs
  simp only [fok, Bool.and_eq_true, Bool.or_eq_true, decide_eq_true_eq] at hk
  obtain ⟨rfl, rfl⟩ := hk
  simp only [fstep] at h
  split at h
  · rename_i x S'
    refine lv_i2d hx hb hd ?_
    exact K _ L (vD (FP.i2d x) :: S') μ k1 n1 H locs ls h ⟨hM, hS, hl, hL, fok_cons trivial (fok_tail hSk), hk1, hn1⟩
  · cases h
theorem fs_dup  (C : fCx G p l s m args meth c cc own nL) (hd : decode cc pc = .ok (.dup, ln)) (hk : fok nL ret Z pc ln (.dup, nx, a, b, v, ts) = true) (K : fGo p l e R s m args below meth c G nL MC MS res k) (h : fstep E (.dup, nx, a, b, v, ts) pc L S μ k1 n1 k = some res) (hs : fSt G s nL MC MS L S μ k1 n1 H locs ls) :
    W p l e R s m args below meth c H locs k1 n1 (vx_MQ below (fQ G res) (fXC G res) args s MC MS (fA G)) (F0 m pc ls (S.map (ftv G))) := by
  obtain ⟨hx, hb, hml, hown, hts, hlocks, hst, hG, hP⟩ := C
  obtain ⟨hM, hS, hl, hL, hSk, hk1, hn1⟩ := hs
  simp only [fok, Bool.and_eq_true, Bool.or_eq_true, decide_eq_true_eq] at hk
  obtain ⟨rfl, rfl⟩ := hk
  simp only [fstep] at h
  split at h
  · rename_i x S'
    cases hb0 : Nat.ble (ftag x) 1 <;> rw [hb0] at h
    · cases h
    refine lv_dup hx hb hd (ftag01 hb0) ?_
    exact K _ L (x :: x :: S') μ k1 n1 H locs ls h ⟨hM, hS, hl, hL, fok_cons (hSk _ List.mem_cons_self) hSk, hk1, hn1⟩
  · cases h
theorem fs_pop  (C : fCx G p l s m args meth c cc own nL) (hd : decode cc pc = .ok (.pop, ln)) (hk : fok nL ret Z pc ln (.pop, nx, a, b, v, ts) = true) (K : fGo p l e R s m args below meth c G nL MC MS res k) (h : fstep E (.pop, nx, a, b, v, ts) pc L S μ k1 n1 k = some res) (hs : fSt G s nL MC MS L S μ k1 n1 H locs ls) :
    W p l e R s m args below meth c H locs k1 n1 (vx_MQ below (fQ G res) (fXC G res) args s MC MS (fA G)) (F0 m pc ls (S.map (ftv G))) := by
  obtain ⟨hx, hb, hml, hown, hts, hlocks, hst, hG, hP⟩ := C
  obtain ⟨hM, hS, hl, hL, hSk, hk1, hn1⟩ := hs
  simp only [fok, Bool.and_eq_true, Bool.or_eq_true, decide_eq_true_eq] at hk
  obtain ⟨rfl, rfl⟩ := hk
  simp only [fstep] at h
  split at h
  · rename_i x S'
    cases hb0 : Nat.ble (ftag x) 1 <;> rw [hb0] at h
    · cases h
    refine lv_pop hx hb hd (ftag01 hb0) ?_
    exact K _ L S' μ k1 n1 H locs ls h ⟨hM, hS, hl, hL, fok_tail hSk, hk1, hn1⟩
  · cases h
theorem fs_dup2  (C : fCx G p l s m args meth c cc own nL) (hd : decode cc pc = .ok (.dup2, ln)) (hk : fok nL ret Z pc ln (.dup2, nx, a, b, v, ts) = true) (K : fGo p l e R s m args below meth c G nL MC MS res k) (h : fstep E (.dup2, nx, a, b, v, ts) pc L S μ k1 n1 k = some res) (hs : fSt G s nL MC MS L S μ k1 n1 H locs ls) :
    W p l e R s m args below meth c H locs k1 n1 (vx_MQ below (fQ G res) (fXC G res) args s MC MS (fA G)) (F0 m pc ls (S.map (ftv G))) := by
  obtain ⟨hx, hb, hml, hown, hts, hlocks, hst, hG, hP⟩ := C
  obtain ⟨hM, hS, hl, hL, hSk, hk1, hn1⟩ := hs
  simp only [fok, Bool.and_eq_true, Bool.or_eq_true, decide_eq_true_eq] at hk
  obtain ⟨rfl, rfl⟩ := hk
  simp only [fstep] at h
  split at h
  · rename_i x y S'
    cases hb0 : Nat.ble (ftag x) 1 <;> cases hb1 : Nat.ble (ftag y) 1 <;> rw [hb0, hb1] at h
    · cases h
    · cases h
    · cases h
    refine lv_dup2_11 hx hb hd (ftag01 hb0) (ftag01 hb1) ?_
    exact K _ L (x :: y :: x :: y :: S') μ k1 n1 H locs ls h ⟨hM, hS, hl, hL, fok_cons (hSk _ List.mem_cons_self) (fok_cons (hSk _ (List.mem_cons_of_mem _ List.mem_cons_self)) hSk), hk1, hn1⟩
  · cases h
theorem fcmp_t {q : ClassFile.Cond} {x y : Int32} {A B : Option fR} {P : Prop} (h : fcmp q x y A B = some res) (hA : A = some res → P) (hB : B = some res → P) : P := by
  unfold fcmp at h
  split at h <;> (split at h <;> first | exact hA h | exact hB h)
theorem fs_icmp {q : ClassFile.Cond} {off : Int} (C : fCx G p l s m args meth c cc own nL) (hd : decode cc pc = .ok (.if_icmp q off, ln)) (hk : fok nL ret Z pc ln (.if_icmp q off, nx, a, b, v, ts) = true) (K : fGo p l e R s m args below meth c G nL MC MS res k) (h : fstep E (.if_icmp q off, nx, a, b, v, ts) pc L S μ k1 n1 k = some res) (hs : fSt G s nL MC MS L S μ k1 n1 H locs ls) :
    W p l e R s m args below meth c H locs k1 n1 (vx_MQ below (fQ G res) (fXC G res) args s MC MS (fA G)) (F0 m pc ls (S.map (ftv G))) := by
  obtain ⟨hx, hb, hml, hown, hts, hlocks, hst, hG, hP⟩ := C
  obtain ⟨hM, hS, hl, hL, hSk, hk1, hn1⟩ := hs
  simp only [fok, Bool.and_eq_true, Bool.or_eq_true, decide_eq_true_eq] at hk
  obtain ⟨rfl, rfl, ho⟩ := hk
  simp only [fstep] at h
  split at h
  · rename_i y x S'
    have hst' : ∀ pc', k pc' L S' μ k1 n1 = some res → W p l e R s m args below meth c H locs k1 n1 (vx_MQ below (fQ G res) (fXC G res) args s MC MS (fA G)) (F0 m pc' ls (S'.map (ftv G))) := fun pc' hh => K pc' L S' μ k1 n1 H locs ls hh ⟨hM, hS, hl, hL, fok_tail (fok_tail hSk), hk1, hn1⟩
    cases q <;> simp only [fcmp] at h
    · refine lv_icmp_eq (tgt := a) hx hb hd ho (fun hc => ?_) (fun hc => ?_)
      · rw [if_pos hc] at h
        exact hst' _ h
      · rw [if_neg hc] at h
        exact hst' _ h
    · refine lv_icmp_ne (tgt := a) hx hb hd ho (fun hc => ?_) (fun hc => ?_)
      · rw [if_neg hc] at h
        exact hst' _ h
      · rw [if_pos hc] at h
        exact hst' _ h
    · refine lv_icmp_lt (tgt := a) hx hb hd ho (fun hc => ?_) (fun hc => ?_)
      · rw [if_pos hc] at h
        exact hst' _ h
      · rw [if_neg hc] at h
        exact hst' _ h
    · refine lv_icmp_ge (tgt := a) hx hb hd ho (fun hc => ?_) (fun hc => ?_)
      · rw [if_pos hc] at h
        exact hst' _ h
      · rw [if_neg hc] at h
        exact hst' _ h
    · refine lv_icmp_gt (tgt := a) hx hb hd ho (fun hc => ?_) (fun hc => ?_)
      · rw [if_pos hc] at h
        exact hst' _ h
      · rw [if_neg hc] at h
        exact hst' _ h
    · refine lv_icmp_le (tgt := a) hx hb hd ho (fun hc => ?_) (fun hc => ?_)
      · rw [if_pos hc] at h
        exact hst' _ h
      · rw [if_neg hc] at h
        exact hst' _ h
  · cases h
theorem fs_ifc {q : ClassFile.Cond} {off : Int} (C : fCx G p l s m args meth c cc own nL) (hd : decode cc pc = .ok (.ifCond q off, ln)) (hk : fok nL ret Z pc ln (.ifCond q off, nx, a, b, v, ts) = true) (K : fGo p l e R s m args below meth c G nL MC MS res k) (h : fstep E (.ifCond q off, nx, a, b, v, ts) pc L S μ k1 n1 k = some res) (hs : fSt G s nL MC MS L S μ k1 n1 H locs ls) :
    W p l e R s m args below meth c H locs k1 n1 (vx_MQ below (fQ G res) (fXC G res) args s MC MS (fA G)) (F0 m pc ls (S.map (ftv G))) := by
  obtain ⟨hx, hb, hml, hown, hts, hlocks, hst, hG, hP⟩ := C
  obtain ⟨hM, hS, hl, hL, hSk, hk1, hn1⟩ := hs
  simp only [fok, Bool.and_eq_true, Bool.or_eq_true, decide_eq_true_eq] at hk
  obtain ⟨rfl, rfl, ho⟩ := hk
  simp only [fstep] at h
  split at h
  · rename_i x S'
    have hst' : ∀ pc', k pc' L S' μ k1 n1 = some res → W p l e R s m args below meth c H locs k1 n1 (vx_MQ below (fQ G res) (fXC G res) args s MC MS (fA G)) (F0 m pc' ls (S'.map (ftv G))) := fun pc' hh => K pc' L S' μ k1 n1 H locs ls hh ⟨hM, hS, hl, hL, fok_tail hSk, hk1, hn1⟩
    cases q <;> simp only [fcmp] at h
    · refine lv_if_eq (tgt := a) hx hb hd ho (fun hc => ?_) (fun hc => ?_)
      · rw [if_pos hc] at h
        exact hst' _ h
      · rw [if_neg hc] at h
        exact hst' _ h
    · refine lv_if_ne (tgt := a) hx hb hd ho (fun hc => ?_) (fun hc => ?_)
      · rw [if_neg hc] at h
        exact hst' _ h
      · rw [if_pos hc] at h
        exact hst' _ h
    · refine lv_if_lt (tgt := a) hx hb hd ho (fun hc => ?_) (fun hc => ?_)
      · rw [if_pos hc] at h
        exact hst' _ h
      · rw [if_neg hc] at h
        exact hst' _ h
    · refine lv_if_ge (tgt := a) hx hb hd ho (fun hc => ?_) (fun hc => ?_)
      · rw [if_pos hc] at h
        exact hst' _ h
      · rw [if_neg hc] at h
        exact hst' _ h
    · refine lv_if_gt (tgt := a) hx hb hd ho (fun hc => ?_) (fun hc => ?_)
      · rw [if_pos hc] at h
        exact hst' _ h
      · rw [if_neg hc] at h
        exact hst' _ h
    · refine lv_if_le (tgt := a) hx hb hd ho (fun hc => ?_) (fun hc => ?_)
      · rw [if_pos hc] at h
        exact hst' _ h
      · rw [if_neg hc] at h
        exact hst' _ h
  · cases h
theorem fs_goto {off : Int} (C : fCx G p l s m args meth c cc own nL) (hd : decode cc pc = .ok (.goto off, ln)) (hk : fok nL ret Z pc ln (.goto off, nx, a, b, v, ts) = true) (K : fGo p l e R s m args below meth c G nL MC MS res k) (h : fstep E (.goto off, nx, a, b, v, ts) pc L S μ k1 n1 k = some res) (hs : fSt G s nL MC MS L S μ k1 n1 H locs ls) :
    W p l e R s m args below meth c H locs k1 n1 (vx_MQ below (fQ G res) (fXC G res) args s MC MS (fA G)) (F0 m pc ls (S.map (ftv G))) := by
  obtain ⟨hx, hb, hml, hown, hts, hlocks, hst, hG, hP⟩ := C
  obtain ⟨hM, hS, hl, hL, hSk, hk1, hn1⟩ := hs
  simp only [fok, Bool.and_eq_true, Bool.or_eq_true, decide_eq_true_eq] at hk
  obtain ⟨rfl, ho⟩ := hk
  refine lv_goto (tgt := a) hx hb hd ho ?_
  exact K _ L S μ k1 n1 H locs ls h ⟨hM, hS, hl, hL, hSk, hk1, hn1⟩
theorem fs_table {d lo hi : Int} {offs : Array Int} (C : fCx G p l s m args meth c cc own nL) (hd : decode cc pc = .ok (.tableswitch d lo hi offs, ln)) (hk : fok nL ret Z pc ln (.tableswitch d lo hi offs, nx, a, b, v, ts) = true) (K : fGo p l e R s m args below meth c G nL MC MS res k) (h : fstep E (.tableswitch d lo hi offs, nx, a, b, v, ts) pc L S μ k1 n1 k = some res) (hs : fSt G s nL MC MS L S μ k1 n1 H locs ls) :
    W p l e R s m args below meth c H locs k1 n1 (vx_MQ below (fQ G res) (fXC G res) args s MC MS (fA G)) (F0 m pc ls (S.map (ftv G))) := by
  obtain ⟨hx, hb, hml, hown, hts, hlocks, hst, hG, hP⟩ := C
  obtain ⟨hM, hS, hl, hL, hSk, hk1, hn1⟩ := hs
  simp only [fok, Bool.and_eq_true, Bool.or_eq_true, decide_eq_true_eq] at hk
  obtain ⟨rfl, rfl, ho, hj⟩ := hk
  simp only [fstep] at h
  split at h
  · rename_i x S'
    split at h
    · rename_i hc
      refine lv_tableOut (tgt := a) hx hb hd hc ho ?_
      exact K _ L S' μ k1 n1 H locs ls h ⟨hM, hS, hl, hL, fok_tail hSk, hk1, hn1⟩
    · rename_i hc
      obtain ⟨e1, e2⟩ := hj (x.toInt - v.toInt).toNat (by omega)
      cases ht : ts[(x.toInt - v.toInt).toNat]? with
      | none => rw [ht] at e2; cases e2
      | some t =>
        rw [ht] at e1
        cases hoff : offs[(x.toInt - v.toInt).toNat]? with
        | none => rw [hoff] at e1; cases e1
        | some off =>
          rw [hoff] at e1
          have e3 : (pc : Int) + off = (t : Int) := by simpa using e1
          refine lv_tableIn (tgt := t) hx hb hd (by omega) (by omega) hoff e3 ?_
          rw [List.getD_eq_getElem?_getD, ht] at h
          exact K _ L S' μ k1 n1 H locs ls h ⟨hM, hS, hl, hL, fok_tail hSk, hk1, hn1⟩
  · cases h
end FSND
end
section
section FSND2
variable {p : Program} {l : Launch} {e : Env} {R : Room} {s : State} {m : MethodId} {args : Array Value} {below : List Frame} {meth : Method} {c : Code} {G : fG} {cc : ByteArray} {own : String} {nL MC MS : Nat} {res : fR}
variable {ret : Option FieldType} {Z : fT5} {E : fE} {k : fK} {ln nx a b : Nat} {v : Int32} {ts : List Nat} {pc : Nat} {L : List (Option fV)} {S : List fV} {μ : fM} {k1 n1 : Nat} {H : Heap} {locs : List Loc} {ls : Array Slot}
theorem fin_frefs {c y h : Nat} (hv : fVok (.inl (c, y, h))) (hc : (fal c).1 ≠ 9) : (c, y, h) ∈ frefs := by
  rcases hv with hv | hv
  · exact hv
  · exact absurd (fal_50 c hv.1) hc
theorem fhd1 {x : fV} {S : List fV} (h : ∀ v ∈ x :: S, fVok v) : fVok x := h _ List.mem_cons_self
theorem fhd2 {x y : fV} {S : List fV} (h : ∀ v ∈ x :: y :: S, fVok v) : fVok y := h _ (List.mem_cons_of_mem _ List.mem_cons_self)
theorem fhd3 {x y z : fV} {S : List fV} (h : ∀ v ∈ x :: y :: z :: S, fVok v) : fVok z := h _ (List.mem_cons_of_mem _ (List.mem_cons_of_mem _ List.mem_cons_self))
theorem f50 {y h : Nat} (hv : fVok (.inl (50, y, h))) : (50, y, h) = (50, 0, 0) := by
  rcases hv with hv | ⟨-, hv, hv2⟩
  · exact absurd hv (fun q => by
      have : ∀ r ∈ frefs, r.1 ≠ 50 := by decide +kernel
      exact this _ q rfl)
  · rcases hv with hv | hv
    · cases hv
    · simp only at hv hv2
      rw [hv, hv2]
theorem fs_baload  (C : fCx G p l s m args meth c cc own nL) (hd : decode cc pc = .ok (.baload, ln)) (hk : fok nL ret Z pc ln (.baload, nx, a, b, v, ts) = true) (K : fGo p l e R s m args below meth c G nL MC MS res k) (h : fstep E (.baload, nx, a, b, v, ts) pc L S μ k1 n1 k = some res) (hs : fSt G s nL MC MS L S μ k1 n1 H locs ls) :
    W p l e R s m args below meth c H locs k1 n1 (vx_MQ below (fQ G res) (fXC G res) args s MC MS (fA G)) (F0 m pc ls (S.map (ftv G))) := by
  obtain ⟨hx, hb, hml, hown, hts, hlocks, hst, hG, hP⟩ := C
  obtain ⟨hM, hS, hl, hL, hSk, hk1, hn1⟩ := hs
  simp only [fok, Bool.and_eq_true, Bool.or_eq_true, decide_eq_true_eq] at hk
  obtain ⟨rfl, rfl⟩ := hk
  simp only [fstep] at h
  split at h
  · rename_i i q y h' S'
    cases hb0 : Nat.beq (fal q).1 1 <;> rw [hb0] at h
    · cases h
    have hc := Nat.eq_of_beq_eq_true hb0
    simp only [cond_true] at h
    split at h
    · rename_i hin
      refine fr_zald hx hb hP.1 hM (fin_frefs (fhd2 hSk) (by omega)) hc hin hd ?_
      exact K _ L (vI (μ.1 q y h' i.toNatClampNeg) :: S') μ k1 n1 H locs ls h ⟨hM, hS, hl, hL, fok_cons trivial (fok_tail (fok_tail hSk)), hk1, hn1⟩
    · cases h
  · cases h
theorem fs_caload  (C : fCx G p l s m args meth c cc own nL) (hd : decode cc pc = .ok (.caload, ln)) (hk : fok nL ret Z pc ln (.caload, nx, a, b, v, ts) = true) (K : fGo p l e R s m args below meth c G nL MC MS res k) (h : fstep E (.caload, nx, a, b, v, ts) pc L S μ k1 n1 k = some res) (hs : fSt G s nL MC MS L S μ k1 n1 H locs ls) :
    W p l e R s m args below meth c H locs k1 n1 (vx_MQ below (fQ G res) (fXC G res) args s MC MS (fA G)) (F0 m pc ls (S.map (ftv G))) := by
  obtain ⟨hx, hb, hml, hown, hts, hlocks, hst, hG, hP⟩ := C
  obtain ⟨hM, hS, hl, hL, hSk, hk1, hn1⟩ := hs
  simp only [fok, Bool.and_eq_true, Bool.or_eq_true, decide_eq_true_eq] at hk
  obtain ⟨rfl, rfl⟩ := hk
  simp only [fstep] at h
  split at h
  · rename_i i q y h' S'
    cases hb0 : Nat.beq (fal q).1 2 <;> rw [hb0] at h
    · cases h
    have hc := Nat.eq_of_beq_eq_true hb0
    simp only [cond_true] at h
    split at h
    · rename_i hin
      refine fr_cald hx hb hP.1 hM (fin_frefs (fhd2 hSk) (by omega)) hc hin hd ?_
      exact K _ L (vI (μ.1 q y h' i.toNatClampNeg) :: S') μ k1 n1 H locs ls h ⟨hM, hS, hl, hL, fok_cons trivial (fok_tail (fok_tail hSk)), hk1, hn1⟩
    · cases h
  · cases h
theorem fs_laload  (C : fCx G p l s m args meth c cc own nL) (hd : decode cc pc = .ok (.laload, ln)) (hk : fok nL ret Z pc ln (.laload, nx, a, b, v, ts) = true) (K : fGo p l e R s m args below meth c G nL MC MS res k) (h : fstep E (.laload, nx, a, b, v, ts) pc L S μ k1 n1 k = some res) (hs : fSt G s nL MC MS L S μ k1 n1 H locs ls) :
    W p l e R s m args below meth c H locs k1 n1 (vx_MQ below (fQ G res) (fXC G res) args s MC MS (fA G)) (F0 m pc ls (S.map (ftv G))) := by
  obtain ⟨hx, hb, hml, hown, hts, hlocks, hst, hG, hP⟩ := C
  obtain ⟨hM, hS, hl, hL, hSk, hk1, hn1⟩ := hs
  simp only [fok, Bool.and_eq_true, Bool.or_eq_true, decide_eq_true_eq] at hk
  obtain ⟨rfl, rfl⟩ := hk
  simp only [fstep] at h
  split at h
  · rename_i i q y h' S'
    cases hb0 : Nat.beq (fal q).1 3 <;> rw [hb0] at h
    · cases h
    have hc := Nat.eq_of_beq_eq_true hb0
    simp only [cond_true] at h
    split at h
    · rename_i hin
      refine fr_lald hx hb hP.1 hM (fin_frefs (fhd2 hSk) (by omega)) hc hin hd ?_
      exact K _ L (vL (μ.2.1 q y h' i.toNatClampNeg) :: S') μ k1 n1 H locs ls h ⟨hM, hS, hl, hL, fok_cons trivial (fok_tail (fok_tail hSk)), hk1, hn1⟩
    · cases h
  · cases h
theorem fs_daload  (C : fCx G p l s m args meth c cc own nL) (hd : decode cc pc = .ok (.daload, ln)) (hk : fok nL ret Z pc ln (.daload, nx, a, b, v, ts) = true) (K : fGo p l e R s m args below meth c G nL MC MS res k) (h : fstep E (.daload, nx, a, b, v, ts) pc L S μ k1 n1 k = some res) (hs : fSt G s nL MC MS L S μ k1 n1 H locs ls) :
    W p l e R s m args below meth c H locs k1 n1 (vx_MQ below (fQ G res) (fXC G res) args s MC MS (fA G)) (F0 m pc ls (S.map (ftv G))) := by
  obtain ⟨hx, hb, hml, hown, hts, hlocks, hst, hG, hP⟩ := C
  obtain ⟨hM, hS, hl, hL, hSk, hk1, hn1⟩ := hs
  simp only [fok, Bool.and_eq_true, Bool.or_eq_true, decide_eq_true_eq] at hk
  obtain ⟨rfl, rfl⟩ := hk
  simp only [fstep] at h
  split at h
  · rename_i i q y h' S'
    cases hb0 : Nat.beq (fal q).1 4 <;> rw [hb0] at h
    · cases h
    have hc := Nat.eq_of_beq_eq_true hb0
    simp only [cond_true] at h
    split at h
    · rename_i hin
      refine fr_dald hx hb hP.1 hM (fin_frefs (fhd2 hSk) (by omega)) hc hin hd ?_
      exact K _ L (vD (μ.2.2 q y h' i.toNatClampNeg) :: S') μ k1 n1 H locs ls h ⟨hM, hS, hl, hL, fok_cons trivial (fok_tail (fok_tail hSk)), hk1, hn1⟩
    · cases h
  · cases h
theorem fs_iaload  (C : fCx G p l s m args meth c cc own nL) (hd : decode cc pc = .ok (.iaload, ln)) (hk : fok nL ret Z pc ln (.iaload, nx, a, b, v, ts) = true) (hscr : fScr G E.2.2.2 s) (K : fGo p l e R s m args below meth c G nL MC MS res k) (h : fstep E (.iaload, nx, a, b, v, ts) pc L S μ k1 n1 k = some res) (hs : fSt G s nL MC MS L S μ k1 n1 H locs ls) :
    W p l e R s m args below meth c H locs k1 n1 (vx_MQ below (fQ G res) (fXC G res) args s MC MS (fA G)) (F0 m pc ls (S.map (ftv G))) := by
  obtain ⟨hx, hb, hml, hown, hts, hlocks, hst, hG, hP⟩ := C
  obtain ⟨hM, hS, hl, hL, hSk, hk1, hn1⟩ := hs
  simp only [fok, Bool.and_eq_true, Bool.or_eq_true, decide_eq_true_eq] at hk
  obtain ⟨rfl, rfl⟩ := hk
  simp only [fstep] at h
  split at h
  · rename_i i q y h' S'
    cases hb5 : Nat.beq q 50 <;> rw [hb5] at h
    · simp only [cond_false] at h
      cases hb0 : Nat.beq (fal q).1 0 <;> rw [hb0] at h
      · cases h
      have hc := Nat.eq_of_beq_eq_true hb0
      simp only [cond_true] at h
      split at h
      · rename_i hin
        refine fr_iald hx hb hP.1 hM (fin_frefs (fhd2 hSk) (by omega)) hc hin hd ?_
        exact K _ L (vI (μ.1 q y h' i.toNatClampNeg) :: S') μ k1 n1 H locs ls h ⟨hM, hS, hl, hL, fok_cons trivial (fok_tail (fok_tail hSk)), hk1, hn1⟩
      · cases h
    · simp only [cond_true] at h
      cases hE : E.2.2.2 with
      | none => rw [hE] at h; cases h
      | some X =>
        rw [hE] at h hscr
        simp only at h
        split at h
        · rename_i hin
          have hq := Nat.eq_of_beq_eq_true hb5
          subst hq
          have h50 : (50, y, h') = (50, 0, 0) := f50 (fhd2 hSk)
          rw [show ((vI i :: Sum.inl (50, y, h') :: S').map (ftv G)) = (.int i :: .ref (G.1 (50, y, h')) :: S'.map (ftv G)) from rfl, h50]
          refine va_sld hx hb hscr.1 hscr.2.1 hscr.2.2 hS hin hd ?_
          exact K _ L (vI (X.2 i.toNatClampNeg) :: S') μ k1 n1 H locs ls h ⟨hM, hS, hl, hL, fok_cons trivial (fok_tail (fok_tail hSk)), hk1, hn1⟩
        · cases h
  · cases h
theorem fs_alen  (C : fCx G p l s m args meth c cc own nL) (hd : decode cc pc = .ok (.arraylength, ln)) (hk : fok nL ret Z pc ln (.arraylength, nx, a, b, v, ts) = true) (hscr : fScr G E.2.2.2 s) (K : fGo p l e R s m args below meth c G nL MC MS res k) (h : fstep E (.arraylength, nx, a, b, v, ts) pc L S μ k1 n1 k = some res) (hs : fSt G s nL MC MS L S μ k1 n1 H locs ls) :
    W p l e R s m args below meth c H locs k1 n1 (vx_MQ below (fQ G res) (fXC G res) args s MC MS (fA G)) (F0 m pc ls (S.map (ftv G))) := by
  obtain ⟨hx, hb, hml, hown, hts, hlocks, hst, hG, hP⟩ := C
  obtain ⟨hM, hS, hl, hL, hSk, hk1, hn1⟩ := hs
  simp only [fok, Bool.and_eq_true, Bool.or_eq_true, decide_eq_true_eq] at hk
  obtain ⟨rfl, rfl⟩ := hk
  simp only [fstep] at h
  split at h
  · rename_i q y h' S'
    cases hb5 : Nat.beq q 50 <;> rw [hb5] at h
    · cases h
    · simp only [cond_true] at h
      cases hE : E.2.2.2 with
      | none => rw [hE] at h; cases h
      | some X =>
        rw [hE] at h hscr
        simp only at h
        have hq := Nat.eq_of_beq_eq_true hb5
        subst hq
        have h50 : (50, y, h') = (50, 0, 0) := f50 (fhd1 hSk)
        rw [show ((Sum.inl (50, y, h') :: S').map (ftv G)) = (.ref (G.1 (50, y, h')) :: S'.map (ftv G)) from rfl, h50]
        refine va_slen hx hb hscr.1 hscr.2.1 hscr.2.2 hS hd ?_
        exact K _ L (vI (nI X.1) :: S') μ k1 n1 H locs ls h ⟨hM, hS, hl, hL, fok_cons trivial (fok_tail hSk), hk1, hn1⟩
  · cases h
theorem fs_aaload  (C : fCx G p l s m args meth c cc own nL) (hd : decode cc pc = .ok (.aaload, ln)) (hk : fok nL ret Z pc ln (.aaload, nx, a, b, v, ts) = true) (K : fGo p l e R s m args below meth c G nL MC MS res k) (h : fstep E (.aaload, nx, a, b, v, ts) pc L S μ k1 n1 k = some res) (hs : fSt G s nL MC MS L S μ k1 n1 H locs ls) :
    W p l e R s m args below meth c H locs k1 n1 (vx_MQ below (fQ G res) (fXC G res) args s MC MS (fA G)) (F0 m pc ls (S.map (ftv G))) := by
  obtain ⟨hx, hb, hml, hown, hts, hlocks, hst, hG, hP⟩ := C
  obtain ⟨hM, hS, hl, hL, hSk, hk1, hn1⟩ := hs
  simp only [fok, Bool.and_eq_true, Bool.or_eq_true, decide_eq_true_eq] at hk
  obtain ⟨rfl, rfl⟩ := hk
  simp only [fstep] at h
  split at h
  · rename_i i q y h' S'
    cases hb0 : (Nat.ble 5 (fal q).1 && Nat.ble (fal q).1 7) <;> rw [hb0] at h
    · cases h
    rw [Bool.and_eq_true] at hb0
    have hc1 := Nat.le_of_ble_eq_true hb0.1
    have hc2 := Nat.le_of_ble_eq_true hb0.2
    simp only [cond_true] at h
    split at h
    · rename_i hin
      have hr := fin_frefs (fhd2 hSk) (by omega)
      refine fr_aald hx hb hP.1 hM hr rfl ⟨hc1, hc2⟩ hin hd ?_
      exact K _ L (.inl (fel q y i.toNatClampNeg) :: S') μ k1 n1 H locs ls h ⟨hM, hS, hl, hL, fok_cons (Or.inl (fel_ok _ hr hc1 hc2 _ (Nat.not_le.mp fun z => hin (Or.inr z)))) (fok_tail (fok_tail hSk)), hk1, hn1⟩
    · cases h
  · cases h
theorem fs_iastore  (C : fCx G p l s m args meth c cc own nL) (hd : decode cc pc = .ok (.iastore, ln)) (hk : fok nL ret Z pc ln (.iastore, nx, a, b, v, ts) = true) (K : fGo p l e R s m args below meth c G nL MC MS res k) (h : fstep E (.iastore, nx, a, b, v, ts) pc L S μ k1 n1 k = some res) (hs : fSt G s nL MC MS L S μ k1 n1 H locs ls) :
    W p l e R s m args below meth c H locs k1 n1 (vx_MQ below (fQ G res) (fXC G res) args s MC MS (fA G)) (F0 m pc ls (S.map (ftv G))) := by
  obtain ⟨hx, hb, hml, hown, hts, hlocks, hst, hG, hP⟩ := C
  obtain ⟨hM, hS, hl, hL, hSk, hk1, hn1⟩ := hs
  simp only [fok, Bool.and_eq_true, Bool.or_eq_true, decide_eq_true_eq] at hk
  obtain ⟨rfl, rfl⟩ := hk
  simp only [fstep] at h
  split at h
  · rename_i x i q y h' S'
    cases hb0 : Nat.beq (fal q).1 0 <;> rw [hb0] at h
    · cases h
    have hc := Nat.eq_of_beq_eq_true hb0
    simp only [cond_true] at h
    split at h
    · rename_i hin
      refine fw_iast hx hb hP.1 hG hM hS (fin_frefs (fhd3 hSk) (by omega)) hc hin hd (fun H1 locs1 hM1 hS1 => ?_)
      exact K _ L S' (fI μ q y h' i.toNatClampNeg x) k1 n1 H1 locs1 ls h ⟨hM1, hS1, hl, hL, fok_tail (fok_tail (fok_tail hSk)), hk1, hn1⟩
    · cases h
  · cases h
theorem fs_bastore  (C : fCx G p l s m args meth c cc own nL) (hd : decode cc pc = .ok (.bastore, ln)) (hk : fok nL ret Z pc ln (.bastore, nx, a, b, v, ts) = true) (K : fGo p l e R s m args below meth c G nL MC MS res k) (h : fstep E (.bastore, nx, a, b, v, ts) pc L S μ k1 n1 k = some res) (hs : fSt G s nL MC MS L S μ k1 n1 H locs ls) :
    W p l e R s m args below meth c H locs k1 n1 (vx_MQ below (fQ G res) (fXC G res) args s MC MS (fA G)) (F0 m pc ls (S.map (ftv G))) := by
  obtain ⟨hx, hb, hml, hown, hts, hlocks, hst, hG, hP⟩ := C
  obtain ⟨hM, hS, hl, hL, hSk, hk1, hn1⟩ := hs
  simp only [fok, Bool.and_eq_true, Bool.or_eq_true, decide_eq_true_eq] at hk
  obtain ⟨rfl, rfl⟩ := hk
  simp only [fstep] at h
  split at h
  · rename_i x i q y h' S'
    cases hb0 : Nat.beq (fal q).1 1 <;> rw [hb0] at h
    · cases h
    have hc := Nat.eq_of_beq_eq_true hb0
    simp only [cond_true] at h
    split at h
    · rename_i hin
      refine fw_zast hx hb hP.1 hG hM hS (fin_frefs (fhd3 hSk) (by omega)) hc hin hd (fun H1 locs1 hM1 hS1 => ?_)
      exact K _ L S' (fI μ q y h' i.toNatClampNeg (fnar 1 x)) k1 n1 H1 locs1 ls h ⟨hM1, hS1, hl, hL, fok_tail (fok_tail (fok_tail hSk)), hk1, hn1⟩
    · cases h
  · cases h
theorem fs_castore  (C : fCx G p l s m args meth c cc own nL) (hd : decode cc pc = .ok (.castore, ln)) (hk : fok nL ret Z pc ln (.castore, nx, a, b, v, ts) = true) (K : fGo p l e R s m args below meth c G nL MC MS res k) (h : fstep E (.castore, nx, a, b, v, ts) pc L S μ k1 n1 k = some res) (hs : fSt G s nL MC MS L S μ k1 n1 H locs ls) :
    W p l e R s m args below meth c H locs k1 n1 (vx_MQ below (fQ G res) (fXC G res) args s MC MS (fA G)) (F0 m pc ls (S.map (ftv G))) := by
  obtain ⟨hx, hb, hml, hown, hts, hlocks, hst, hG, hP⟩ := C
  obtain ⟨hM, hS, hl, hL, hSk, hk1, hn1⟩ := hs
  simp only [fok, Bool.and_eq_true, Bool.or_eq_true, decide_eq_true_eq] at hk
  obtain ⟨rfl, rfl⟩ := hk
  simp only [fstep] at h
  split at h
  · rename_i x i q y h' S'
    cases hb0 : Nat.beq (fal q).1 2 <;> rw [hb0] at h
    · cases h
    have hc := Nat.eq_of_beq_eq_true hb0
    simp only [cond_true] at h
    split at h
    · rename_i hin
      refine fw_cast hx hb hP.1 hG hM hS (fin_frefs (fhd3 hSk) (by omega)) hc hin hd (fun H1 locs1 hM1 hS1 => ?_)
      exact K _ L S' (fI μ q y h' i.toNatClampNeg (fnar 2 x)) k1 n1 H1 locs1 ls h ⟨hM1, hS1, hl, hL, fok_tail (fok_tail (fok_tail hSk)), hk1, hn1⟩
    · cases h
  · cases h
theorem fs_lastore  (C : fCx G p l s m args meth c cc own nL) (hd : decode cc pc = .ok (.lastore, ln)) (hk : fok nL ret Z pc ln (.lastore, nx, a, b, v, ts) = true) (K : fGo p l e R s m args below meth c G nL MC MS res k) (h : fstep E (.lastore, nx, a, b, v, ts) pc L S μ k1 n1 k = some res) (hs : fSt G s nL MC MS L S μ k1 n1 H locs ls) :
    W p l e R s m args below meth c H locs k1 n1 (vx_MQ below (fQ G res) (fXC G res) args s MC MS (fA G)) (F0 m pc ls (S.map (ftv G))) := by
  obtain ⟨hx, hb, hml, hown, hts, hlocks, hst, hG, hP⟩ := C
  obtain ⟨hM, hS, hl, hL, hSk, hk1, hn1⟩ := hs
  simp only [fok, Bool.and_eq_true, Bool.or_eq_true, decide_eq_true_eq] at hk
  obtain ⟨rfl, rfl⟩ := hk
  simp only [fstep] at h
  split at h
  · rename_i x i q y h' S'
    cases hb0 : Nat.beq (fal q).1 3 <;> rw [hb0] at h
    · cases h
    have hc := Nat.eq_of_beq_eq_true hb0
    simp only [cond_true] at h
    split at h
    · rename_i hin
      refine fw_last hx hb hP.1 hG hM hS (fin_frefs (fhd3 hSk) (by omega)) hc hin hd (fun H1 locs1 hM1 hS1 => ?_)
      exact K _ L S' (fJ μ q y h' i.toNatClampNeg x) k1 n1 H1 locs1 ls h ⟨hM1, hS1, hl, hL, fok_tail (fok_tail (fok_tail hSk)), hk1, hn1⟩
    · cases h
  · cases h
theorem fs_dastore  (C : fCx G p l s m args meth c cc own nL) (hd : decode cc pc = .ok (.dastore, ln)) (hk : fok nL ret Z pc ln (.dastore, nx, a, b, v, ts) = true) (K : fGo p l e R s m args below meth c G nL MC MS res k) (h : fstep E (.dastore, nx, a, b, v, ts) pc L S μ k1 n1 k = some res) (hs : fSt G s nL MC MS L S μ k1 n1 H locs ls) :
    W p l e R s m args below meth c H locs k1 n1 (vx_MQ below (fQ G res) (fXC G res) args s MC MS (fA G)) (F0 m pc ls (S.map (ftv G))) := by
  obtain ⟨hx, hb, hml, hown, hts, hlocks, hst, hG, hP⟩ := C
  obtain ⟨hM, hS, hl, hL, hSk, hk1, hn1⟩ := hs
  simp only [fok, Bool.and_eq_true, Bool.or_eq_true, decide_eq_true_eq] at hk
  obtain ⟨rfl, rfl⟩ := hk
  simp only [fstep] at h
  split at h
  · rename_i x i q y h' S'
    cases hb0 : Nat.beq (fal q).1 4 <;> rw [hb0] at h
    · cases h
    have hc := Nat.eq_of_beq_eq_true hb0
    simp only [cond_true] at h
    split at h
    · rename_i hin
      refine fw_dast hx hb hP.1 hG hM hS (fin_frefs (fhd3 hSk) (by omega)) hc hin hd (fun H1 locs1 hM1 hS1 => ?_)
      exact K _ L S' (fD μ q y h' i.toNatClampNeg x) k1 n1 H1 locs1 ls h ⟨hM1, hS1, hl, hL, fok_tail (fok_tail (fok_tail hSk)), hk1, hn1⟩
    · cases h
  · cases h
theorem ffl_any {Z1 : List (Nat × Nat × Nat × Nat)} {x a b : Nat} (hfl : ffl_ok own Z1) (h : Z1.any (fun q => decide (q.1 = x) && (decide (q.2.1 = a) && decide (q.2.2.1 = b))) = true) : ∃ z, ffw own (x, a, b, z) ∈ fT := by
  obtain ⟨q, hq, h2⟩ := List.any_eq_true.mp h
  simp only [Bool.and_eq_true, decide_eq_true_eq] at h2
  obtain ⟨e1, e2, e3⟩ := h2
  refine ⟨q.2.2.2, ?_⟩
  rw [← e1, ← e2, ← e3]
  exact hfl q hq
theorem ffv_0 {μ : fM} {c y h k : Nat} (hc : (fkfL.getD c []).getD k 0 < 2) : ffv μ c y h k = vI (μ.1 c y h k) := by
  unfold ffv
  have : (fkfL.getD c []).getD k 0 = 0 ∨ (fkfL.getD c []).getD k 0 = 1 := by omega
  rcases this with e | e <;> (rw [e]; rfl)
theorem ffv_2 {μ : fM} {c y h k : Nat} (hc : (fkfL.getD c []).getD k 0 = 2) : ffv μ c y h k = vL (μ.2.1 c y h k) := by
  unfold ffv
  rw [hc]
  rfl
theorem ffv_3 {μ : fM} {c y h k : Nat} (hc : 2 < (fkfL.getD c []).getD k 0) : ffv μ c y h k = .inl (ftgt ((frfL.getD c []).getD k (0, 0, 0, 0, 0)) y h) := by
  unfold ffv
  split <;> first | rfl | omega
theorem fs_getfield {x : Nat} (C : fCx G p l s m args meth c cc own nL) (hd : decode cc pc = .ok (.getfield x, ln)) (hk : fok nL ret Z pc ln (.getfield x, nx, a, b, v, ts) = true) (hfl : ffl_ok own Z.1) (K : fGo p l e R s m args below meth c G nL MC MS res k) (h : fstep E (.getfield x, nx, a, b, v, ts) pc L S μ k1 n1 k = some res) (hs : fSt G s nL MC MS L S μ k1 n1 H locs ls) :
    W p l e R s m args below meth c H locs k1 n1 (vx_MQ below (fQ G res) (fXC G res) args s MC MS (fA G)) (F0 m pc ls (S.map (ftv G))) := by
  obtain ⟨hx, hb, hml, hown, hts, hlocks, hst, hG, hP⟩ := C
  obtain ⟨hM, hS, hl, hL, hSk, hk1, hn1⟩ := hs
  simp only [fok, Bool.and_eq_true, Bool.or_eq_true, decide_eq_true_eq] at hk
  obtain ⟨rfl, rfl, hany, ha, hbk, hts2⟩ := hk
  obtain ⟨z, hl9⟩ := ffl_any hfl hany
  simp only [fstep] at h
  split at h
  · rename_i q y h' S'
    cases hb0 : Nat.beq q a <;> rw [hb0] at h
    · cases h
    have hq := Nat.eq_of_beq_eq_true hb0
    subst hq
    have hr : (q, y, h') ∈ frefs := by
      rcases fhd1 hSk with hv | hv
      · exact hv
      · exact absurd hv.1 (by show ¬ 50 ≤ q; omega)
    refine fr_get hx hb hts hown hP.1 hM hr ha hbk hl9 hd ?_
    simp only [cond_true] at h
    split at h
    · simp only [decide_eq_true_eq] at hts2
      rw [ffv_0 hts2]
      exact K _ L (vI (μ.1 q y h' b) :: S') μ k1 n1 H locs ls h ⟨hM, hS, hl, hL, fok_cons trivial (fok_tail hSk), hk1, hn1⟩
    · simp only [decide_eq_true_eq] at hts2
      rw [ffv_2 hts2]
      exact K _ L (vL (μ.2.1 q y h' b) :: S') μ k1 n1 H locs ls h ⟨hM, hS, hl, hL, fok_cons trivial (fok_tail hSk), hk1, hn1⟩
    · simp only [Bool.and_eq_true, decide_eq_true_eq] at hts2
      have hv3 := frf_ok (q, y, h') hr ha b hbk hts2.1
      rw [ffv_3 hts2.1]
      simp only [hts2.2] at hv3 ⊢
      exact K _ L (.inl _ :: S') μ k1 n1 H locs ls h ⟨hM, hS, hl, hL, fok_cons hv3 (fok_tail hSk), hk1, hn1⟩
    · cases h
  · cases h
theorem fs_putfield {x : Nat} (C : fCx G p l s m args meth c cc own nL) (hd : decode cc pc = .ok (.putfield x, ln)) (hk : fok nL ret Z pc ln (.putfield x, nx, a, b, v, ts) = true) (hfl : ffl_ok own Z.1) (K : fGo p l e R s m args below meth c G nL MC MS res k) (h : fstep E (.putfield x, nx, a, b, v, ts) pc L S μ k1 n1 k = some res) (hs : fSt G s nL MC MS L S μ k1 n1 H locs ls) :
    W p l e R s m args below meth c H locs k1 n1 (vx_MQ below (fQ G res) (fXC G res) args s MC MS (fA G)) (F0 m pc ls (S.map (ftv G))) := by
  obtain ⟨hx, hb, hml, hown, hts, hlocks, hst, hG, hP⟩ := C
  obtain ⟨hM, hS, hl, hL, hSk, hk1, hn1⟩ := hs
  simp only [fok, Bool.and_eq_true, Bool.or_eq_true, decide_eq_true_eq] at hk
  obtain ⟨rfl, rfl, hany, ha, hbk, hfin, hts2⟩ := hk
  obtain ⟨z, hl9⟩ := ffl_any hfl hany
  simp only [fstep] at h
  split at h
  · rename_i w q y h' S'
    cases hb0 : Nat.beq q a <;> rw [hb0] at h
    · cases h
    have hq := Nat.eq_of_beq_eq_true hb0
    subst hq
    have hr : (q, y, h') ∈ frefs := by
      rcases fhd2 hSk with hv | hv
      · exact hv
      · exact absurd hv.1 (by show ¬ 50 ≤ q; omega)
    have h51 : q ≠ 51 := by omega
    simp only [cond_true] at h
    split at h
    · simp only [decide_eq_true_eq] at hts2
      refine fw_put (v := .int w) (μ' := fI μ q y h' b w) (ty := .int) hx hb hts hown hP.1 hG hM hS hr ha hbk hl9 hfin (by rw [fcty_ok q ha b hbk (by omega), hts2]; rfl) rfl rfl (ffs_fI hbk (Or.inl hts2)) (fun r' _ hne => fcell_fI_ne hne) (fI51 h51) hd (fun H1 locs1 hM1 hS1 => ?_)
      exact K _ L S' (fI μ q y h' b w) k1 n1 H1 locs1 ls h ⟨hM1, hS1, hl, hL, fok_tail (fok_tail hSk), hk1, hn1⟩
    · simp only [decide_eq_true_eq] at hts2
      split at h
      · rename_i hw
        refine fw_put (v := .int w) (μ' := fI μ q y h' b w) (ty := .boolean) hx hb hts hown hP.1 hG hM hS hr ha hbk hl9 hfin (by rw [fcty_ok q ha b hbk (by omega), hts2]; rfl) (by rcases hw with rfl | rfl <;> rfl) (by rcases hw with rfl | rfl <;> rfl) (ffs_fI hbk (Or.inr hts2)) (fun r' _ hne => fcell_fI_ne hne) (fI51 h51) hd (fun H1 locs1 hM1 hS1 => ?_)
        exact K _ L S' (fI μ q y h' b w) k1 n1 H1 locs1 ls h ⟨hM1, hS1, hl, hL, fok_tail (fok_tail hSk), hk1, hn1⟩
      · cases h
    · cases h
  · rename_i w q y h' S'
    cases hb0 : Nat.beq q a <;> rw [hb0] at h
    · cases h
    have hq := Nat.eq_of_beq_eq_true hb0
    subst hq
    have hr : (q, y, h') ∈ frefs := by
      rcases fhd2 hSk with hv | hv
      · exact hv
      · exact absurd hv.1 (by show ¬ 50 ≤ q; omega)
    simp only [cond_true] at h
    split at h
    · simp only [decide_eq_true_eq] at hts2
      refine fw_put (v := .long w) (μ' := fJ μ q y h' b w) (ty := .long) hx hb hts hown hP.1 hG hM hS hr ha hbk hl9 hfin (by rw [fcty_ok q ha b hbk (by omega), hts2]; rfl) rfl rfl (ffs_fJ hbk hts2) (fun r' _ hne => fcell_fJ_ne hne) (fun _ _ => rfl) hd (fun H1 locs1 hM1 hS1 => ?_)
      exact K _ L S' (fJ μ q y h' b w) k1 n1 H1 locs1 ls h ⟨hM1, hS1, hl, hL, fok_tail (fok_tail hSk), hk1, hn1⟩
    · cases h
  · cases h
end FSND2
end
section
def fTH (G : fG) (l : Launch) (own : String) (cc : ByteArray) (nL : Nat) (R : Room) (pc a : Nat) : Prop :=
  ∀ (p : Program) (e : Env) (s : State) (m : MethodId) (args : Array Value) (below : List Frame) (meth : Method) (c : Code) (H : Heap) (locs : List Loc) (k1 n1 MC MS : Nat) (ls : Array Slot) (rest : List fV) (Qc : Array Value → State → Outcome → State → Prop) (XC : String → State → State → Prop), fCx G p l s m args meth c cc own nL → (∀ x ∈ c.exceptionTable.toList, False) → va_S (fA G) s.heap H locs → ls.size = nL → fcats rest ≤ 8 →
  k1 + 1 ≤ R.cells → n1 + 6 ≤ R.slots → k1 + 1 ≤ MC → n1 + 6 ≤ MS → (∀ t : State, s.vm.Alike t.vm → H.size ≤ t.heap.size → (∀ q : Nat, q < H.size → t.heap[q]? = H[q]?) → XC (fExn a) s t) →
  W p l e R s m args below meth c H locs k1 n1 (vx_MQ below Qc XC args s MC MS (fA G)) (F0 m pc ls (rest.map (ftv G)))
theorem va_at_lt {D : va_G} {cl : List vw_C} {q : Nat × va_E} {H : Heap} (h : va_at D cl q H) : q.1 < H.size := by
  unfold va_at at h
  split at h
  · exact (Array.getElem?_eq_some_iff.mp h).1
  · obtain ⟨r, -, cell, hc, -⟩ := h
    exact (Array.getElem?_eq_some_iff.mp hc).1
theorem fMem_kept {G : fG} {μ : fM} {H H1 : Heap} (hq : ∀ q : Nat, q < H.size → H1[q]? = H[q]?) (h : fMem G μ H) : fMem G μ H1 := by
  obtain ⟨h1, q, m, n, a, ml, hP, h2⟩ := h
  exact ⟨fun k x hx => (h1 k x hx).kept (hq _ (va_at_lt (h1 k x hx))), q, m, n, a, ml, fun k x hx => (hP k x hx).kept (hq _ (va_at_lt (hP k x hx))), h2⟩
section FSND3
variable {p : Program} {l : Launch} {e : Env} {R : Room} {s : State} {m : MethodId} {args : Array Value} {below : List Frame} {meth : Method} {c : Code} {G : fG} {cc : ByteArray} {own : String} {nL MC MS : Nat} {res : fR}
variable {ret : Option FieldType} {Z : fT5} {E : fE} {k : fK} {ln nx a b : Nat} {v : Int32} {ts : List Nat} {pc : Nat} {L : List (Option fV)} {S : List fV} {μ : fM} {k1 n1 : Nat} {H : Heap} {locs : List Loc} {ls : Array Slot}
/-- a return of a small type: what the type keeps is answered -/
theorem fW_zret {Qc : Array Value → State → Outcome → State → Prop} {free : Addr → Prop} {v w : Int32} {ty : FieldType} (hexec : p.tables.exec = Jvm.exec) (hb : c.code = cc) (hr : meth.sig.returnType = some ty) (hn : narrow ty (.int v) = .int w)
    (hq : ∀ t : State, t.heap = H → s.WarmedH t.vm → Qc args s (.returned (some (.int w))) t) (hf : ∀ q ∈ locs, free q.base)
    {pc : Nat} {ls : Array Slot} (hdg : decode cc pc = .ok (.ireturn, 1)) (hlocks : meth.locks = false) : W p l e R s m args below meth c H locs k1 n1 (MQ below Qc args s k1 n1 free) (F0 m pc ls [.int v]) := by
  intro T hT X
  obtain ⟨fs, hret, hrun, hended, hW, hframe⟩ := X.leave (v := some (.int w)) (fun h => by rw [hr] at h; cases h)
  have hmeth' : T.vm.method? m = some meth := X.method'
  refine ⟨T.setFrames fs, ?_, .returned (some (.int w)), hrun, hended, hq _ hT hW, locs, ⟨⟨_, rfl⟩, hW, hframe⟩, hf⟩
  jvm_step X.here [X.here.top, hexec, hb, hdg, hmeth', hr, hn]
  (try refine ⟨rfl, ?_⟩); (try refine ⟨rfl, ?_⟩)
  first | (intro acts; rw [hret _ acts rfl rfl rfl]) | rw [hret _ _ rfl rfl rfl]
  exact Steps.refl _
theorem fq_ret {v : Option fV} {μ : fM} {t : State} (hv : ∀ x, v = some x → fVok x) (hM : fMem G μ H) (hS : va_S (fA G) s.heap H locs) (ht : t.heap = H) : fQ G (.inl v, μ) args s (.returned (v.map (ftv G))) t := ⟨⟨v, rfl, rfl, hv, by rw [ht]; exact hM⟩, hS.F ht⟩
theorem fs_ireturn  (C : fCx G p l s m args meth c cc own nL) (hd : decode cc pc = .ok (.ireturn, ln)) (hk : fok nL ret Z pc ln (.ireturn, nx, a, b, v, ts) = true) (hr : meth.sig.returnType = ret) (K : fGo p l e R s m args below meth c G nL MC MS res k) (h : fstep E (.ireturn, nx, a, b, v, ts) pc L S μ k1 n1 k = some res) (hs : fSt G s nL MC MS L S μ k1 n1 H locs ls) :
    W p l e R s m args below meth c H locs k1 n1 (vx_MQ below (fQ G res) (fXC G res) args s MC MS (fA G)) (F0 m pc ls (S.map (ftv G))) := by
  obtain ⟨hx, hb, hml, hown, hts, hlocks, hst, hG, hP⟩ := C
  obtain ⟨hM, hS, hl, hL, hSk, hk1, hn1⟩ := hs
  simp only [fok, Bool.and_eq_true, Bool.or_eq_true, decide_eq_true_eq] at hk
  obtain ⟨rfl, hk⟩ := hk
  simp only [fstep] at h
  split at h
  · rename_i x
    cases h
    refine W.widen hk1 hn1 (vx_ret ?_)
    rcases hk with ⟨rfl, rfl⟩ | ⟨rfl, rfl⟩ | ⟨rfl, rfl⟩
    · exact fW_zret (v := x) (w := x) hx hb hr rfl (fun t ht hW => fq_ret (v := some (vI x)) (fun y hy => by cases hy; trivial) hM hS ht) hS.2.2 hd hlocks
    · exact fW_zret (v := x) (w := x &&& 1) hx hb hr rfl (fun t ht hW => fq_ret (v := some (vI (x &&& 1))) (fun y hy => by cases hy; trivial) hM hS ht) hS.2.2 hd hlocks
    · exact fW_zret (v := x) (w := x.toUInt32.toUInt16.toUInt32.toInt32) hx hb hr rfl (fun t ht hW => fq_ret (v := some (vI (x.toUInt32.toUInt16.toUInt32.toInt32))) (fun y hy => by cases hy; trivial) hM hS ht) hS.2.2 hd hlocks
  · cases h
theorem fs_lreturn  (C : fCx G p l s m args meth c cc own nL) (hd : decode cc pc = .ok (.lreturn, ln)) (hk : fok nL ret Z pc ln (.lreturn, nx, a, b, v, ts) = true) (hr : meth.sig.returnType = ret) (K : fGo p l e R s m args below meth c G nL MC MS res k) (h : fstep E (.lreturn, nx, a, b, v, ts) pc L S μ k1 n1 k = some res) (hs : fSt G s nL MC MS L S μ k1 n1 H locs ls) :
    W p l e R s m args below meth c H locs k1 n1 (vx_MQ below (fQ G res) (fXC G res) args s MC MS (fA G)) (F0 m pc ls (S.map (ftv G))) := by
  obtain ⟨hx, hb, hml, hown, hts, hlocks, hst, hG, hP⟩ := C
  obtain ⟨hM, hS, hl, hL, hSk, hk1, hn1⟩ := hs
  simp only [fok, Bool.and_eq_true, Bool.or_eq_true, decide_eq_true_eq] at hk
  obtain ⟨rfl, rfl⟩ := hk
  simp only [fstep] at h
  split at h
  · rename_i x
    cases h
    refine W.widen hk1 hn1 (vx_ret ?_)
    exact W.lret (v := x) hx hb hr (fun t ht hW => fq_ret (v := some (vL x)) (fun y hy => by cases hy; trivial) hM hS ht) hS.2.2 hd hlocks
  · cases h
theorem fs_dreturn  (C : fCx G p l s m args meth c cc own nL) (hd : decode cc pc = .ok (.dreturn, ln)) (hk : fok nL ret Z pc ln (.dreturn, nx, a, b, v, ts) = true) (hr : meth.sig.returnType = ret) (K : fGo p l e R s m args below meth c G nL MC MS res k) (h : fstep E (.dreturn, nx, a, b, v, ts) pc L S μ k1 n1 k = some res) (hs : fSt G s nL MC MS L S μ k1 n1 H locs ls) :
    W p l e R s m args below meth c H locs k1 n1 (vx_MQ below (fQ G res) (fXC G res) args s MC MS (fA G)) (F0 m pc ls (S.map (ftv G))) := by
  obtain ⟨hx, hb, hml, hown, hts, hlocks, hst, hG, hP⟩ := C
  obtain ⟨hM, hS, hl, hL, hSk, hk1, hn1⟩ := hs
  simp only [fok, Bool.and_eq_true, Bool.or_eq_true, decide_eq_true_eq] at hk
  obtain ⟨rfl, rfl⟩ := hk
  simp only [fstep] at h
  split at h
  · rename_i x
    cases h
    refine W.widen hk1 hn1 (vx_ret ?_)
    exact W.dret (v := x) hx hb hr (fun t ht hW => fq_ret (v := some (vD x)) (fun y hy => by cases hy; trivial) hM hS ht) hS.2.2 hd hlocks
  · cases h
theorem fs_areturn  (C : fCx G p l s m args meth c cc own nL) (hd : decode cc pc = .ok (.areturn, ln)) (hk : fok nL ret Z pc ln (.areturn, nx, a, b, v, ts) = true) (hr : meth.sig.returnType = ret) (K : fGo p l e R s m args below meth c G nL MC MS res k) (h : fstep E (.areturn, nx, a, b, v, ts) pc L S μ k1 n1 k = some res) (hs : fSt G s nL MC MS L S μ k1 n1 H locs ls) :
    W p l e R s m args below meth c H locs k1 n1 (vx_MQ below (fQ G res) (fXC G res) args s MC MS (fA G)) (F0 m pc ls (S.map (ftv G))) := by
  obtain ⟨hx, hb, hml, hown, hts, hlocks, hst, hG, hP⟩ := C
  obtain ⟨hM, hS, hl, hL, hSk, hk1, hn1⟩ := hs
  simp only [fok, Bool.and_eq_true, Bool.or_eq_true, decide_eq_true_eq] at hk
  obtain ⟨rfl, hk⟩ := hk
  simp only [fstep] at h
  split at h
  · rename_i x
    cases h
    refine W.widen hk1 hn1 (vx_ret ?_)
    have hv : ∀ y, some (Sum.inl x : fV) = some y → fVok y := fun y hy => by cases hy; exact hSk _ List.mem_cons_self
    split at hk
    · rename_i n
      exact W.aret (v := .ref (G.1 x)) hx hb hr (Or.inl ⟨n, rfl⟩) (Or.inr ⟨_, rfl⟩) (fun t ht hW => fq_ret (v := some (.inl x)) hv hM hS ht) hS.2.2 hd hlocks
    · rename_i n
      exact W.aret (v := .ref (G.1 x)) hx hb hr (Or.inr ⟨n, rfl⟩) (Or.inr ⟨_, rfl⟩) (fun t ht hW => fq_ret (v := some (.inl x)) hv hM hS ht) hS.2.2 hd hlocks
    · cases hk
  · cases h
theorem fs_return  (C : fCx G p l s m args meth c cc own nL) (hd : decode cc pc = .ok (.return_, ln)) (hk : fok nL ret Z pc ln (.return_, nx, a, b, v, ts) = true) (hr : meth.sig.returnType = ret) (K : fGo p l e R s m args below meth c G nL MC MS res k) (h : fstep E (.return_, nx, a, b, v, ts) pc L S μ k1 n1 k = some res) (hs : fSt G s nL MC MS L S μ k1 n1 H locs ls) :
    W p l e R s m args below meth c H locs k1 n1 (vx_MQ below (fQ G res) (fXC G res) args s MC MS (fA G)) (F0 m pc ls (S.map (ftv G))) := by
  obtain ⟨hx, hb, hml, hown, hts, hlocks, hst, hG, hP⟩ := C
  obtain ⟨hM, hS, hl, hL, hSk, hk1, hn1⟩ := hs
  simp only [fok, Bool.and_eq_true, Bool.or_eq_true, decide_eq_true_eq] at hk
  obtain ⟨rfl, rfl⟩ := hk
  simp only [fstep] at h
  split at h
  · cases h
    refine W.widen hk1 hn1 (vx_ret ?_)
    exact W.vret hx hb hr (fun t ht hW => fq_ret (v := none) (fun y hy => by cases hy) hM hS ht) hS.2.2 hd hlocks
  · cases h
theorem fs_new {x : Nat} (C : fCx G p l s m args meth c cc own nL) (hd : decode cc pc = .ok (.new x, ln)) (hk : fok nL ret Z pc ln (.new x, nx, a, b, v, ts) = true) (hE : E.2.1 = (MC, MS)) (hR : MC ≤ R.cells ∧ MS ≤ R.slots) (hth : ∀ x ∈ Z.2.2.1, fTH G l own cc nL R x.1 x.2) (hex : E.2.2.1 = [] → ∀ x ∈ c.exceptionTable.toList, False) (K : fGo p l e R s m args below meth c G nL MC MS res k) (h : fstep E (.new x, nx, a, b, v, ts) pc L S μ k1 n1 k = some res) (hs : fSt G s nL MC MS L S μ k1 n1 H locs ls) :
    W p l e R s m args below meth c H locs k1 n1 (vx_MQ below (fQ G res) (fXC G res) args s MC MS (fA G)) (F0 m pc ls (S.map (ftv G))) := by
  obtain ⟨hx, hb, hml, hown, hts, hlocks, hst, hG, hP⟩ := C
  obtain ⟨hM, hS, hl, hL, hSk, hk1, hn1⟩ := hs
  simp only [fok, Bool.and_eq_true, Bool.or_eq_true, decide_eq_true_eq] at hk
  simp only [fstep] at h
  split at h
  · rename_i hnil
    rw [hE] at h
    cases hb0 : (Nat.ble (k1 + 1) MC && (Nat.ble (n1 + 6) MS && Nat.ble (fcats S) 8)) <;> rw [hb0] at h
    · cases h
    simp only [cond_true] at h
    cases h
    rw [Bool.and_eq_true, Bool.and_eq_true] at hb0
    obtain ⟨g1, g2, g3⟩ := hb0
    have g1 := Nat.le_of_ble_eq_true g1
    have g2 := Nat.le_of_ble_eq_true g2
    have g3 := Nat.le_of_ble_eq_true g3
    refine hth (pc, a) hk p e s m args below meth c H locs k1 n1 MC MS ls S _ _ ⟨hx, hb, hml, hown, hts, hlocks, hst, hG, hP⟩ (hex hnil) hS hl.1 g3 (by omega) (by omega) g1 g2 (fun t hvm hz hq => ⟨⟨a, rfl, rfl, fMem_kept hq hM⟩, Nat.le_trans hS.1 hz, fun q h1 h2 => ?_⟩)
    rw [hq q (Nat.lt_of_lt_of_le h1 hS.1)]
    exact hS.2.1 q h1 h2
  · cases h
/-- what a handler of this method takes -/
def fHN (p : Program) (l : Launch) (e : Env) (R : Room) (s : State) (m : MethodId) (args : Array Value) (below : List Frame) (meth : Method) (c : Code) (G : fG) (nL pc x nx a : Nat) : Prop :=
  ∀ (H : Heap) (locs : List Loc) (k1 n1 : Nat) (Q : State → Prop) (ls : Array Slot) (rest : List Value) (q : Addr) (ce : Cell) (L : List (Option fV)), H[q]? = some ce → ce.vm = .none → s.vm.findClass (fExn x) = some ce.cls → fLH G ls nL L → (∀ ls' : Array Slot, fLH G ls' nL (fput1 L a none) → W p l e R s m args below meth c H locs k1 n1 Q (F0 m nx ls' [])) → vx_W p l e R s m args below meth c H locs k1 n1 Q (F0 m pc ls rest) q
theorem fs_call {ins : Instr} (C : fCx G p l s m args meth c cc own nL) (hd : decode cc pc = .ok (ins, 3)) (hin : (ins, a, b) ∈ Z.2.1) (hE : E.2.1 = (MC, MS)) (hR : MC ≤ R.cells ∧ MS ≤ R.slots) (hex : E.2.2.1 = [] → ∀ x ∈ c.exceptionTable.toList, False) (hhn : ∀ pc x nx a, fhand E.2.2.1 pc x = some (nx, a) → fHN p l e R s m args below meth c G nL pc x nx a)
    (hcs : ∀ x ∈ Z.2.1, ∃ f, E.1[x.2.1]? = some f ∧ fCS G l own cc nL R x.1 x.2.2 f.1 f.2.1 f.2.2) (K : fGo p l e R s m args below meth c G nL MC MS res k) (h : fcall E a b (pc + 3) pc L S μ k1 n1 k = some res) (hs : fSt G s nL MC MS L S μ k1 n1 H locs ls) :
    W p l e R s m args below meth c H locs k1 n1 (vx_MQ below (fQ G res) (fXC G res) args s MC MS (fA G)) (F0 m pc ls (S.map (ftv G))) := by
  have C' := C
  obtain ⟨hx, hb, hml, hown, hts, hlocks, hst, hG, hP⟩ := C
  obtain ⟨hM, hS, hl, hL, hSk, hk1, hn1⟩ := hs
  obtain ⟨f, hf, hF⟩ := hcs _ hin
  unfold fcall at h
  rw [show E.1[a]? = some f from hf] at h
  simp only [hE] at h
  cases hb0 : (Nat.ble (k1 + f.2.1) MC && (Nat.ble (n1 + f.2.2) MS && (Nat.ble b S.length && Nat.ble (fcats (S.drop b)) 8))) <;> rw [hb0] at h
  · cases h
  simp only [cond_true] at h
  rw [Bool.and_eq_true, Bool.and_eq_true, Bool.and_eq_true] at hb0
  obtain ⟨g1, g2, g3, g4⟩ := hb0
  have g1 := Nat.le_of_ble_eq_true g1
  have g2 := Nat.le_of_ble_eq_true g2
  have g3 := Nat.le_of_ble_eq_true g3
  have g4 := Nat.le_of_ble_eq_true g4
  cases hq : f.1 (S.take b).reverse μ with
  | none => rw [hq] at h; cases h
  | some r =>
    rw [hq] at h
    have hSr : S = (S.take b).reverse.reverse ++ S.drop b := by rw [List.reverse_reverse, List.take_append_drop]
    have hdok : ∀ v ∈ S.drop b, fVok v := fun v hv => hSk v (List.mem_of_mem_drop hv)
    rw [hSr]
    refine hF p e s m args below meth c H locs k1 n1 _ pc ls C' hd hl.1 (S.take b).reverse (S.drop b) μ r (by rw [List.length_reverse, List.length_take]; exact Nat.min_eq_left g3) hq (fun v hv => hSk v (List.mem_of_mem_take (List.mem_reverse.mp hv))) g4 hM hS (by omega) (by omega) (fun v hv hvo H1 locs1 hM1 hS1 => ?_) (fun x hn H1 locs1 q ce hM1 hS1 hce hcv hcl => ?_)
    · obtain ⟨r1, r2⟩ := r
      simp only at hv hM1
      subst hv
      refine K (pc + 3) L (v.toList ++ S.drop b) r2 (k1 + f.2.1) (n1 + f.2.2) H1 locs1 ls h ⟨hM1, hS1, hl, hL, fun x hx => ?_, g1, g2⟩
      rcases List.mem_append.mp hx with hx | hx
      · exact hvo x (Option.mem_toList.mp hx)
      · exact hdok x hx
    · obtain ⟨r1, r2⟩ := r
      simp only at hn hM1
      subst hn
      have h2 : fthrow E pc L r2 (k1 + f.2.1) (n1 + f.2.2) x k = some res := h
      unfold fthrow at h2
      split at h2
      · rename_i hnil
        cases h2
        exact vx_out (E := fExn x) (fun z hz => absurd (hex hnil z hz) id) hlocks hce hcv hcl (fun t ht hvm => ⟨⟨x, rfl, rfl, by rw [ht]; exact hM1⟩, hS1.F ht⟩) hS1.2.2 g1 g2
      · split at h2
        · rename_i nx' a' hh
          exact hhn pc x nx' a' hh H1 locs1 _ _ _ ls _ q ce L hce hcv hcl hl (fun ls' hl' => K nx' (fput1 L a' none) [] r2 _ _ H1 locs1 ls' h2 ⟨hM1, hS1, hl', fput1_ok hL (fun v hv => by cases hv), fun _ hx => (List.not_mem_nil hx).elim, g1, g2⟩)
        · cases h2
theorem fcs_any {ins : Instr} {a b : Nat} {l2 : List (Instr × Nat × Nat)} (h : l2.any (fun q => decide (q.1 = ins) && (decide (q.2.1 = a) && decide (q.2.2 = b))) = true) : (ins, a, b) ∈ l2 := by
  obtain ⟨q, hq, h2⟩ := List.any_eq_true.mp h
  simp only [Bool.and_eq_true, decide_eq_true_eq] at h2
  obtain ⟨e1, e2, e3⟩ := h2
  rw [← e1, ← e2, ← e3]
  exact hq
end FSND3
end
section
section FMAIN
variable {p : Program} {l : Launch} {e : Env} {R : Room} {s : State} {m : MethodId} {args : Array Value} {below : List Frame} {meth : Method} {c : Code} {G : fG} {cc : ByteArray} {own : String} {nL MC MS : Nat} {res : fR}
variable {ret : Option FieldType} {Z : fT5} {E : fE}
set_option maxHeartbeats 4000000 in
/-- SOUNDNESS: the flat machine's answer is the machine's -/
theorem fsound {t : fTb} (C : fCx G p l s m args meth c cc own nL) (hT : fokT cc nL ret Z t = true) (hr : meth.sig.returnType = ret) (hE : E.2.1 = (MC, MS)) (hR : MC ≤ R.cells ∧ MS ≤ R.slots) (hex : E.2.2.1 = [] → ∀ x ∈ c.exceptionTable.toList, False) (hhn : ∀ pc x nx a, fhand E.2.2.1 pc x = some (nx, a) → fHN p l e R s m args below meth c G nL pc x nx a)
    (hfl : ffl_ok own Z.1) (hcs : ∀ x ∈ Z.2.1, ∃ f, E.1[x.2.1]? = some f ∧ fCS G l own cc nL R x.1 x.2.2 f.1 f.2.1 f.2.2) (hth : ∀ x ∈ Z.2.2.1, fTH G l own cc nL R x.1 x.2) (hlc : ∀ q ∈ Z.2.2.2.1, Jvm.Cond.constantLong own q.1 (Int64.ofNat q.2) ∈ fT) (hli : ∀ q ∈ Z.2.2.2.2.1, Jvm.Cond.constant own q.1 q.2 ∈ fT) (hlst : ∀ q ∈ Z.2.2.2.2.2, vk_R own q.1 (fForm.getD q.2 (0, "")).2 (G.1 (52, q.2, 0)) s) (hscr : fScr G E.2.2.2 s) :
    ∀ n, fGo p l e R s m args below meth c G nL MC MS res (frun E t n) := by
  intro n
  induction n with
  | zero => intro pc L S μ k1 n1 H locs ls h; cases h
  | succ n K =>
    intro pc L S μ k1 n1 H locs ls h hs
    unfold frun at h
    cases ho : flk t pc with
    | none => rw [ho] at h; cases h
    | some o =>
      rw [ho] at h
      obtain ⟨ln, hd, hk⟩ := fokT_at hT ho
      obtain ⟨ins, nx, a, b, v, ts⟩ := o
      simp only at h hd
      cases ins
      case iconst => exact fs_iconst C hd hk K h hs
      case bipush => exact fs_bipush C hd hk K h hs
      case sipush => exact fs_sipush C hd hk K h hs
      case lconst => exact fs_lconst C hd hk K h hs
      case dconst => exact fs_dconst C hd hk K h hs
      case iload => exact fs_iload C hd hk K h hs
      case aload => exact fs_aload C hd hk K h hs
      case lload => exact fs_lload C hd hk K h hs
      case dload => exact fs_dload C hd hk K h hs
      case iload_n => exact fs_iload_n C hd hk K h hs
      case aload_n => exact fs_aload_n C hd hk K h hs
      case lload_n => exact fs_lload_n C hd hk K h hs
      case istore => exact fs_istore C hd hk K h hs
      case istore_n => exact fs_istore_n C hd hk K h hs
      case astore => exact fs_astore C hd hk K h hs
      case astore_n => exact fs_astore_n C hd hk K h hs
      case dstore => exact fs_dstore C hd hk K h hs
      case iinc => exact fs_iinc C hd hk K h hs
      case iadd => exact fs_iadd C hd hk K h hs
      case isub => exact fs_isub C hd hk K h hs
      case imul => exact fs_imul C hd hk K h hs
      case iand => exact fs_iand C hd hk K h hs
      case ior => exact fs_ior C hd hk K h hs
      case ixor => exact fs_ixor C hd hk K h hs
      case ishl => exact fs_ishl C hd hk K h hs
      case ishr => exact fs_ishr C hd hk K h hs
      case ladd => exact fs_ladd C hd hk K h hs
      case lcmp => exact fs_lcmp C hd hk K h hs
      case idiv => exact fs_idiv C hd hk K h hs
      case irem => exact fs_irem C hd hk K h hs
      case ddiv => exact fs_ddiv C hd hk K h hs
      case dcmp => exact fs_dcmp C hd hk K h hs
      case i2l => exact fs_i2l C hd hk K h hs
      case l2i => exact fs_l2i C hd hk K h hs
      case i2c => exact fs_i2c C hd hk K h hs
      case i2d => exact fs_i2d C hd hk K h hs
      case dup => exact fs_dup C hd hk K h hs
      case pop => exact fs_pop C hd hk K h hs
      case dup2 => exact fs_dup2 C hd hk K h hs
      case if_icmp => exact fs_icmp C hd hk K h hs
      case ifCond => exact fs_ifc C hd hk K h hs
      case goto => exact fs_goto C hd hk K h hs
      case tableswitch => exact fs_table C hd hk K h hs
      case baload => exact fs_baload C hd hk K h hs
      case caload => exact fs_caload C hd hk K h hs
      case laload => exact fs_laload C hd hk K h hs
      case daload => exact fs_daload C hd hk K h hs
      case aaload => exact fs_aaload C hd hk K h hs
      case iastore => exact fs_iastore C hd hk K h hs
      case bastore => exact fs_bastore C hd hk K h hs
      case castore => exact fs_castore C hd hk K h hs
      case lastore => exact fs_lastore C hd hk K h hs
      case dastore => exact fs_dastore C hd hk K h hs
      case ldc2_w => exact fs_ldc2 C hd hk hlc K h hs
      case ldc => exact fs_ldc C hd hk hli hlst K h hs
      case iaload => exact fs_iaload C hd hk hscr K h hs
      case arraylength => exact fs_alen C hd hk hscr K h hs
      case getfield => exact fs_getfield C hd hk hfl K h hs
      case putfield => exact fs_putfield C hd hk hfl K h hs
      case ireturn => exact fs_ireturn C hd hk hr K h hs
      case lreturn => exact fs_lreturn C hd hk hr K h hs
      case dreturn => exact fs_dreturn C hd hk hr K h hs
      case areturn => exact fs_areturn C hd hk hr K h hs
      case return_ => exact fs_return C hd hk hr K h hs
      case new => exact fs_new C hd hk hE hR hth hex K h hs
      case invokevirtual x =>
        simp only [fok, Bool.and_eq_true, decide_eq_true_eq] at hk
        obtain ⟨rfl, rfl, hk⟩ := hk
        exact fs_call C hd (fcs_any hk) hE hR hex hhn hcs K h hs
      case invokespecial x =>
        simp only [fok, Bool.and_eq_true, decide_eq_true_eq] at hk
        obtain ⟨rfl, rfl, hk⟩ := hk
        exact fs_call C hd (fcs_any hk) hE hR hex hhn hcs K h hs
      case invokestatic x =>
        simp only [fok, Bool.and_eq_true, decide_eq_true_eq] at hk
        obtain ⟨rfl, rfl, hk⟩ := hk
        exact fs_call C hd (fcs_any hk) hE hR hex hhn hcs K h hs
      all_goals cases h
end FMAIN
theorem fargs_mem : ∀ {a : List fV} {v : fV}, some v ∈ fargs a → v ∈ a
  | w :: r, v, h => by
    unfold fargs at h
    cases hb : Nat.ble 2 (ftag w) <;> rw [hb] at h
    · rcases List.mem_cons.mp h with h | h
      · cases h; exact List.mem_cons_self
      · exact List.mem_cons_of_mem _ (fargs_mem h)
    · rcases List.mem_cons.mp h with h | h
      · cases h; exact List.mem_cons_self
      · rcases List.mem_cons.mp h with h | h
        · cases h
        · exact List.mem_cons_of_mem _ (fargs_mem h)
/-- A CONTRACT out of the flat machine's run (a method without handlers) -/
theorem fcontract {G : fG} {l : Launch} {y : MethodName} {cc : ByteArray} {nL : Nat} {ret : Option FieldType} {own : String} {rm : Room} {E : fE} {t : fTb} {Z : fT5} {S : fS} (hl : l.stackTraces = false) (hG : fWf G) (hy : plainName y.cls = true) (hown : y.cls = own) (hT : fokT cc nL ret Z t = true) (hE : E.2.1 = (rm.cells, rm.slots)) (hE0 : E.2.2 = ([], none)) (hfl : ffl_ok own Z.1)
    (hcs : ∀ x ∈ Z.2.1, ∃ f, E.1[x.2.1]? = some f ∧ fCS G l own cc nL rm x.1 x.2.2 f.1 f.2.1 f.2.2) (hth : ∀ x ∈ Z.2.2.1, fTH G l own cc nL rm x.1 x.2) (hlc : ∀ q ∈ Z.2.2.2.1, Jvm.Cond.constantLong own q.1 (Int64.ofNat q.2) ∈ fT) (hli : ∀ q ∈ Z.2.2.2.2.1, Jvm.Cond.constant own q.1 q.2 ∈ fT) (hlst : ∀ q ∈ Z.2.2.2.2.2, own = "PuddleBoatyard$Program" ∧ q.2 < 11 ∧ (fForm.getD q.2 (0, "")).1 = q.1)
    (hS : ∀ a μ res, S a μ = some res → (fargs a).length ≤ nL ∧ fEnds (fun n => frun E t n 0 (fentry a nL) [] μ 0 0) res) : fCT G l y (fw0 y cc nL ret) rm S := by
  intro a μ res hres hok
  obtain ⟨hlen, n, hn⟩ := hS a μ res hres
  refine vx_ofW (cc := cc) (maxL := nL) (ret := ret) hy rfl ?_
  intro p e s m args below meth c s₁ B hml hex hv
  obtain ⟨rfl, hP, hM⟩ := hv
  have hts : ∀ w ∈ fT, w.before (a.map (ftv G)).toArray s = true := fun w hw => atoms_spec (ws := fw0 y cc nL ret) B.pre w (List.mem_cons_of_mem _ hw)
  have hown' : s.vm.findClass own = some m.cls := by rw [← hown]; exact findClass_of_methodNamed B.named
  have C : fCx G p l s m (a.map (ftv G)).toArray meth c cc own nL := ⟨B.exec, B.bytes, hml, hown', hts, B.notSynchronized, hl, hG, hP⟩
  rw [lg_entry_eq]
  refine fsound (R := (headSpec (fw0 y cc nL ret) rm).room) (ret := ret) (Z := Z) (E := E) (res := res) (MC := rm.cells) (MS := rm.slots) C hT B.returns hE ⟨Nat.le_refl _, Nat.le_refl _⟩ (fun _ => hex) ?_ hfl hcs hth hlc hli ?_ ?_ n 0 (fentry a nL) [] μ 0 0 s.heap [] _ hn ⟨hM, va_S.rf, fentry_LH G a hlen, ?_, fun _ h => (List.not_mem_nil h).elim, Nat.zero_le _, Nat.zero_le _⟩
  · intro pc x nx a' h
    rw [hE0] at h
    cases h
  · intro q hq
    obtain ⟨h1, h2, h3⟩ := hlst q hq
    have h9 := hP.2.2.2.2.2.2.2.1 q.2 h2
    rw [h3] at h9
    rw [h1]
    exact h9
  · rw [hE0]
    trivial
  · intro i v hi
    refine hok v ?_
    have hm := List.mem_of_getElem? hi
    unfold fentry at hm
    rcases List.mem_append.mp hm with hm | hm
    · exact fargs_mem hm
    · rw [List.mem_replicate] at hm
      cases hm.2
end
section
/-! MORE STEPS CHANGE NO ANSWER; what a table means -/
section FMONO
variable {r : fR}
theorem cond_mono {b : Bool} {A A' B B' : Option fR} (h1 : A = some r → A' = some r) (h2 : B = some r → B' = some r) (h : cond b A B = some r) : cond b A' B' = some r := by
  cases b
  · exact h2 h
  · exact h1 h
theorem ite_mono {c : Prop} {dc : Decidable c} {A A' B B' : Option fR} (h1 : A = some r → A' = some r) (h2 : B = some r → B' = some r) (h : @ite _ c dc A B = some r) : @ite _ c dc A' B' = some r := by
  by_cases hc : c
  · rw [if_pos hc] at h ⊢
    exact h1 h
  · rw [if_neg hc] at h ⊢
    exact h2 h
theorem fload_mono {L : List (Option fV)} {a t : Nat} {f g : fV → Option fR} (hf : ∀ x, f x = some r → g x = some r) (h : fload L a t f = some r) : fload L a t g = some r := by
  unfold fload at h ⊢
  cases hL : L[a]? with
  | none => rw [hL] at h; cases h
  | some w =>
    rw [hL] at h
    cases w with
    | none => cases h
    | some x => exact cond_mono (hf x) (fun h => by cases h) h
theorem fcmp_mono {q : ClassFile.Cond} {x y : Int32} {A A' B B' : Option fR} (h1 : A = some r → A' = some r) (h2 : B = some r → B' = some r) (h : fcmp q x y A B = some r) : fcmp q x y A' B' = some r := by
  cases q
  · exact ite_mono h1 h2 h
  · exact ite_mono h2 h1 h
  · exact ite_mono h1 h2 h
  · exact ite_mono h1 h2 h
  · exact ite_mono h1 h2 h
  · exact ite_mono h1 h2 h
theorem fthrow_mono {E : fE} {pc : Nat} {L : List (Option fV)} {μ : fM} {cc ss x : Nat} {k k' : fK} (hk : ∀ pc L S μ c s, k pc L S μ c s = some r → k' pc L S μ c s = some r) (h : fthrow E pc L μ cc ss x k = some r) : fthrow E pc L μ cc ss x k' = some r := by
  unfold fthrow at h ⊢
  cases hE : E.2.2.1 with
  | nil => rw [hE] at h; exact h
  | cons a b =>
    rw [hE] at h
    simp only at h ⊢
    cases hh : fhand (a :: b) pc x with
    | none => rw [hh] at h; cases h
    | some w =>
      rw [hh] at h
      exact hk _ _ _ _ _ _ h
theorem fcall_mono {E : fE} {a b nx pc : Nat} {L : List (Option fV)} {S : List fV} {μ : fM} {cc ss : Nat} {k k' : fK} (hk : ∀ pc L S μ c s, k pc L S μ c s = some r → k' pc L S μ c s = some r) (h : fcall E a b nx pc L S μ cc ss k = some r) : fcall E a b nx pc L S μ cc ss k' = some r := by
  unfold fcall at h ⊢
  cases hE : E.1[a]? with
  | none => rw [hE] at h; cases h
  | some f =>
    rw [hE] at h
    simp only at h ⊢
    refine cond_mono (fun h => ?_) (fun h => h) h
    cases hq : f.1 (S.take b).reverse μ with
    | none => rw [hq] at h; cases h
    | some x =>
      rw [hq] at h
      obtain ⟨x1, x2⟩ := x
      cases x1 with
      | inl v => exact hk _ _ _ _ _ _ h
      | inr v => exact fthrow_mono hk h
set_option maxHeartbeats 4000000 in
theorem fstep_mono {E : fE} {o : fO} {pc : Nat} {L : List (Option fV)} {S : List fV} {μ : fM} {cc ss : Nat} {k k' : fK} (hk : ∀ pc L S μ c s, k pc L S μ c s = some r → k' pc L S μ c s = some r) (h : fstep E o pc L S μ cc ss k = some r) : fstep E o pc L S μ cc ss k' = some r := by
  obtain ⟨ins, nx, a, b, v, ts⟩ := o
  obtain ⟨env, mm, hs, scr⟩ := E
  cases ins
  all_goals simp only [fstep] at h ⊢
  all_goals first
    | exact hk _ _ _ _ _ _ h
    | exact fload_mono (fun x => hk _ _ _ _ _ _) h
    | exact fcall_mono hk h
    | exact cond_mono (hk _ _ _ _ _ _) (hk _ _ _ _ _ _) h
    | exact cond_mono (hk _ _ _ _ _ _) (fun h => h) h
    | cases h
    | skip
  all_goals try (cases hl : L[a]? with
    | none => rw [hl] at h; cases h
    | some w =>
      rw [hl] at h
      rcases w with _ | (_ | _ | _ | _)
      all_goals first
        | exact hk _ _ _ _ _ _ h
        | cases h)
  all_goals (split at h)
  all_goals first
    | exact h
    | cases h
    | exact hk _ _ _ _ _ _ h
    | exact fcmp_mono (hk _ _ _ _ _ _) (hk _ _ _ _ _ _) h
    | exact ite_mono (hk _ _ _ _ _ _) (hk _ _ _ _ _ _) h
    | exact ite_mono (hk _ _ _ _ _ _) (fun h => h) h
    | exact ite_mono (fun h => h) (hk _ _ _ _ _ _) h
    | exact cond_mono (hk _ _ _ _ _ _) (fun h => h) h
    | exact cond_mono (ite_mono (hk _ _ _ _ _ _) (fun h => h)) (fun h => h) h
    | skip
  all_goals (first
    | (refine cond_mono (fun h => ?_) (fun h => h) h
       split at h
       all_goals first
         | exact h
         | cases h
         | exact hk _ _ _ _ _ _ h
         | exact ite_mono (hk _ _ _ _ _ _) (fun h => h) h)
    | (refine cond_mono (fun h => ?_) (fun h => cond_mono (ite_mono (hk _ _ _ _ _ _) (fun h => h)) (fun h => h) h) h
       split at h
       all_goals first
         | exact h
         | cases h
         | exact ite_mono (hk _ _ _ _ _ _) (fun h => h) h))
theorem frun_succ {E : fE} {t : fTb} : ∀ (n : Nat) {pc : Nat} {L : List (Option fV)} {S : List fV} {μ : fM} {cc ss : Nat}, frun E t n pc L S μ cc ss = some r → frun E t (n + 1) pc L S μ cc ss = some r
  | 0, _, _, _, _, _, _, h => by cases h
  | n + 1, pc, L, S, μ, cc, ss, h => by
    unfold frun at h ⊢
    cases ho : flk t pc with
    | none => rw [ho] at h; cases h
    | some o =>
      rw [ho] at h
      exact fstep_mono (fun _ _ _ _ _ _ h => frun_succ n h) h
theorem frun_add {E : fE} {t : fTb} {n : Nat} (j : Nat) {pc : Nat} {L : List (Option fV)} {S : List fV} {μ : fM} {cc ss : Nat} (h : frun E t n pc L S μ cc ss = some r) : frun E t (n + j) pc L S μ cc ss = some r := by
  induction j with
  | zero => exact h
  | succ j ih => exact frun_succ _ ih
end FMONO
theorem frun_one {E : fE} {t : fTb} {pc : Nat} {L : List (Option fV)} {S : List fV} {μ : fM} {cc ss : Nat} {r r' : fR} (h : fEnds (fun n => frun E t n pc L S μ cc ss) r) (h' : fEnds (fun n => frun E t n pc L S μ cc ss) r') : r = r' := by
  obtain ⟨n, hn⟩ := h
  obtain ⟨n', hn'⟩ := h'
  have e1 := frun_add n' hn
  have e2 := frun_add n hn'
  rw [Nat.add_comm] at e2
  exact Option.some.inj (e1.symm.trans e2)
/-- what a table of code means, as a function -/
noncomputable def fsem (E : fE) (t : fTb) (nL : Nat) : fS := fun a μ => @dite _ ((fargs a).length ≤ nL ∧ ∃ res, fEnds (fun n => frun E t n 0 (fentry a nL) [] μ 0 0) res) (Classical.propDecidable _) (fun h => some (Classical.choose h.2)) (fun _ => none)
/-- .. of a method of objects of kind kd -/
noncomputable def fsemV (kd : Nat) (E : fE) (t : fTb) (nL : Nat) : fS := fun a μ => match a with
  | .inl (c, y, h) :: r => bif Nat.beq c kd then fsem E t nL (.inl (c, y, h) :: r) μ else none
  | _ => none
theorem fsem_of {E : fE} {t : fTb} {nL : Nat} {a : List fV} {μ : fM} {res : fR} (h1 : (fargs a).length ≤ nL) (h2 : fEnds (fun n => frun E t n 0 (fentry a nL) [] μ 0 0) res) : fsem E t nL a μ = some res := by
  unfold fsem
  have h : (fargs a).length ≤ nL ∧ ∃ res, fEnds (fun n => frun E t n 0 (fentry a nL) [] μ 0 0) res := ⟨h1, res, h2⟩
  rw [dif_pos h]
  exact congrArg some (frun_one (Classical.choose_spec h.2) h2)
theorem fsem_to {E : fE} {t : fTb} {nL : Nat} {a : List fV} {μ : fM} {res : fR} (h : fsem E t nL a μ = some res) : (fargs a).length ≤ nL ∧ fEnds (fun n => frun E t n 0 (fentry a nL) [] μ 0 0) res := by
  unfold fsem at h
  by_cases hc : (fargs a).length ≤ nL ∧ ∃ res, fEnds (fun n => frun E t n 0 (fentry a nL) [] μ 0 0) res
  · rw [dif_pos hc] at h
    cases h
    exact ⟨hc.1, Classical.choose_spec hc.2⟩
  · rw [dif_neg hc] at h
    cases h
theorem fsemV_of {kd : Nat} {E : fE} {t : fTb} {nL y h : Nat} {r : List fV} {μ : fM} {res : fR} (h1 : (fargs (vR kd y h :: r)).length ≤ nL) (h2 : fEnds (fun n => frun E t n 0 (fentry (vR kd y h :: r) nL) [] μ 0 0) res) : fsemV kd E t nL (vR kd y h :: r) μ = some res := by
  unfold fsemV
  simp only [Nat.beq_refl, cond_true]
  exact fsem_of h1 h2
theorem fsemV_to {kd : Nat} {E : fE} {t : fTb} {nL : Nat} {a : List fV} {μ : fM} {res : fR} (h : fsemV kd E t nL a μ = some res) : fsem E t nL a μ = some res ∧ ∃ y h r, a = .inl (kd, y, h) :: r := by
  unfold fsemV at h
  split at h
  · rename_i c y h' r
    cases hb : Nat.beq c kd <;> rw [hb] at h
    · cases h
    · have := Nat.eq_of_beq_eq_true hb
      subst this
      exact ⟨h, y, h', r, rfl⟩
  · cases h
end
section
/-! THROWS: new E("text") -/
abbrev fnms : List String := ["java/lang/RuntimeException", "java/lang/Exception"]
def fxw (X : String) : List Jvm.Cond := Bundle.throwableAtoms ++ Bundle.throwableSAtoms ++ Bundle.chainSAtoms X fnms ++ (Bundle.ownAtoms "" 0 X fnms).drop (Bundle.throwableAtoms ++ Bundle.throwableSAtoms ++ Bundle.chainSAtoms X fnms ++ [Jvm.Cond.methodLink "" 0 (Bundle.initS X)]).length
def fxb (w : Jvm.Cond) : Bool := !vx_no w || (decide (w ∈ lw_tbl) && (goodWord w || fNwb w) && vx_ot w)
theorem fxw_own {own X : String} {ic : Nat} : Bundle.ownAtoms own ic X fnms = Bundle.throwableAtoms ++ Bundle.throwableSAtoms ++ Bundle.chainSAtoms X fnms ++ (Jvm.Cond.methodLink own ic (Bundle.initS X) :: (Bundle.ownAtoms own ic X fnms).drop (Bundle.throwableAtoms ++ Bundle.throwableSAtoms ++ Bundle.chainSAtoms X fnms ++ [Jvm.Cond.methodLink "" 0 (Bundle.initS X)]).length) := by
  unfold Bundle.ownAtoms
  simp
theorem fxw_at {own X : String} {ic : Nat} (h : (fxw X).all fxb = true) (hm : Jvm.Cond.methodLink own ic (Bundle.initS X) ∈ fT) : ∀ w ∈ vx_atS own ic X fnms, (w ∈ fT ∨ w ∈ fNw) ∧ vx_ot w = true := by
  intro w hw
  obtain ⟨h1, h2⟩ := List.mem_filter.mp hw
  have key : w ∈ fxw X → (w ∈ fT ∨ w ∈ fNw) ∧ vx_ot w = true := by
    intro h3
    have h4 := List.all_eq_true.mp h w h3
    unfold fxb at h4
    rw [h2] at h4
    simp only [Bool.not_true, Bool.false_or, Bool.and_eq_true, Bool.or_eq_true, decide_eq_true_eq] at h4
    obtain ⟨⟨h5, h6⟩, h7⟩ := h4
    refine ⟨?_, h7⟩
    rcases h6 with h6 | h6
    · exact Or.inl (List.mem_filter.mpr ⟨h5, h6⟩)
    · exact Or.inr (List.mem_filter.mpr ⟨h5, h6⟩)
  rw [fxw_own] at h1
  have e : (Bundle.ownAtoms own ic X fnms).drop (Bundle.throwableAtoms ++ Bundle.throwableSAtoms ++ Bundle.chainSAtoms X fnms ++ [Jvm.Cond.methodLink "" 0 (Bundle.initS X)]).length = (Bundle.ownAtoms "" 0 X fnms).drop (Bundle.throwableAtoms ++ Bundle.throwableSAtoms ++ Bundle.chainSAtoms X fnms ++ [Jvm.Cond.methodLink "" 0 (Bundle.initS X)]).length := by
    unfold Bundle.ownAtoms
    simp
  rw [e] at h1
  rcases List.mem_append.mp h1 with h3 | h3
  · exact key (List.mem_append_left _ h3)
  · rcases List.mem_cons.mp h3 with rfl | h3
    · exact ⟨Or.inl hm, by unfold vx_ot; rw [fT_good hm]; simp⟩
    · exact key (List.mem_append_right _ h3)
theorem fxw_0 : (fxw "java/lang/IndexOutOfBoundsException").all fxb = true := by decide +kernel
theorem fxw_1 : (fxw "java/lang/IllegalArgumentException").all fxb = true := by decide +kernel
theorem fxw_2 : (fxw "java/lang/IllegalStateException").all fxb = true := by decide +kernel
theorem fxw_3 : (fxw "java/lang/UnsupportedOperationException").all fxb = true := by decide +kernel
theorem fxw_5 : (fxw "java/lang/ArithmeticException").all fxb = true := by decide +kernel
theorem fxw_all : ∀ a, a < 6 → a ≠ 4 → (fxw (fExn a)).all fxb = true := fun a ha h4 => match a, ha, h4 with
  | 0, _, _ => fxw_0
  | 1, _, _ => fxw_1
  | 2, _, _ => fxw_2
  | 3, _, _ => fxw_3
  | 4, _, h => absurd rfl h
  | 5, _, _ => fxw_5
theorem fx_fit : ∀ a, a < 6 → Bundle.fit (fExn a) = true := by decide +kernel
theorem fx_at {G : fG} {own X : String} {ic : Nat} {args : Array Value} {s : State} (hts : ∀ w ∈ fT, w.before args s = true) (hP : fPre G s) (h : ∀ w ∈ vx_atS own ic X fnms, (w ∈ fT ∨ w ∈ fNw) ∧ vx_ot w = true) : ∀ w ∈ vx_atS own ic X fnms, w.before args s = true := by
  intro w hw
  rcases (h w hw).1 with h1 | h1
  · exact hts w h1
  · have h2 := hP.2.2.2.2.1 w h1
    have hb := (List.mem_filter.mp h1).2
    unfold fNwb at hb
    split at hb
    · exact va_Nw.use rfl h2
    · exact va_Nw.use rfl h2
    · exact va_Nw.use rfl h2
    · cases hb
theorem fTH_S {G : fG} {l : Launch} {own : String} {cc : ByteArray} {nL pc a ik is ic : Nat} {text : String} {R : Room} (ha : a < 6) (h4 : a ≠ 4) (hk : Jvm.Cond.classLink own ik (fExn a) ∈ fT) (hini : Jvm.Cond.initialized (fExn a) ∈ fT) (hstr : (own, is, text) ∈ fStr) (hm : Jvm.Cond.methodLink own ic (Bundle.initS (fExn a)) ∈ fT) (hR : 5 < R.frames ∧ 90 ≤ R.locals)
    (d0 : decode cc pc = .ok (.new ik, 3)) (d3 : decode cc (pc + 3) = .ok (.dup, 1)) (d4 : decode cc (pc + 4) = .ok (.ldc is, 2)) (d6 : decode cc (pc + 6) = .ok (.invokespecial ic, 3)) (d9 : decode cc (pc + 9) = .ok (.athrow, 1)) : fTH G l own cc nL R pc a := by
  intro p e s m args below meth c H locs k1 n1 MC MS ls rest Qc XC C hex hS hsz hcat hc1 hs1 hc2 hs2 hX
  obtain ⟨hx, hb, hml, hown, hts, hlocks, hst, hG, hP⟩ := C
  have hw := fxw_at (own := own) (ic := ic) (fxw_all a ha h4) hm
  obtain ⟨sa, hsa⟩ := hP.2.2.2.2.2.1 _ hstr
  exact vx_throwS (names := fnms) (sa := sa) hx hb hst hown (fx_fit a ha) (by decide +kernel) (hts _ hk) (hts _ hini) hsa (fx_at hts hP hw) (fun w hw' => (List.mem_cons.mp hw').elim (fun e => by rw [e]; rfl) (fun h => (List.mem_cons.mp h).elim (fun e => by rw [e]; rfl) (fun h => (hw w h).2))) hP.2.2.1 hP.2.2.2.1 hS (hsz.trans hml.symm) d0 d3 d4 d6 d9 (fun x hx => (hex x hx).elim) hR.1 (by rw [fcats_sum]; show _ + 82 ≤ _; omega) hc1 hs1 hlocks hX hS.2.2 hc2 hs2
theorem fTH_SW {G : fG} {l : Launch} {own : String} {cc : ByteArray} {nL pc a ik is ic : Nat} {text : String} {R : Room} (ha : a < 6) (h4 : a ≠ 4) (hk : Jvm.Cond.classLink own ik (fExn a) ∈ fT) (hini : Jvm.Cond.initialized (fExn a) ∈ fT) (hstr : (own, is, text) ∈ fStr) (hm : Jvm.Cond.methodLink own ic (Bundle.initS (fExn a)) ∈ fT) (hR : 5 < R.frames ∧ 90 ≤ R.locals)
    (d0 : decode cc pc = .ok (.new ik, 3)) (d3 : decode cc (pc + 3) = .ok (.dup, 1)) (d4 : decode cc (pc + 4) = .ok (.ldc_w is, 3)) (d7 : decode cc (pc + 7) = .ok (.invokespecial ic, 3)) (d10 : decode cc (pc + 10) = .ok (.athrow, 1)) : fTH G l own cc nL R pc a := by
  intro p e s m args below meth c H locs k1 n1 MC MS ls rest Qc XC C hex hS hsz hcat hc1 hs1 hc2 hs2 hX
  obtain ⟨hx, hb, hml, hown, hts, hlocks, hst, hG, hP⟩ := C
  have hw := fxw_at (own := own) (ic := ic) (fxw_all a ha h4) hm
  obtain ⟨sa, hsa⟩ := hP.2.2.2.2.2.1 _ hstr
  exact vx_throwSW (names := fnms) (sa := sa) hx hb hst hown (fx_fit a ha) (by decide +kernel) (hts _ hk) (hts _ hini) hsa (fx_at hts hP hw) (fun w hw' => (List.mem_cons.mp hw').elim (fun e => by rw [e]; rfl) (fun h => (List.mem_cons.mp h).elim (fun e => by rw [e]; rfl) (fun h => (hw w h).2))) hP.2.2.1 hP.2.2.2.1 hS (hsz.trans hml.symm) d0 d3 d4 d7 d10 (fun x hx => (hex x hx).elim) hR.1 (by rw [fcats_sum]; show _ + 82 ≤ _; omega) hc1 hs1 hlocks hX hS.2.2 hc2 hs2
end
section
/-! THROWS OF java.util.NoSuchElementException: its constructor's link has another number than the kit's bundle has; the words, the chain and two laws anew (after the kit's own for the usual number) -/
abbrev fNSE : String := "java/util/NoSuchElementException"
def fownN (own : String) (ic : Nat) : List Jvm.Cond := Bundle.throwableAtoms ++ Bundle.throwableSAtoms ++ (Bundle.passSAtoms fNSE "java/lang/RuntimeException" 13 prog_38_method_4_code ++ Bundle.chainSAtoms "java/lang/RuntimeException" ["java/lang/Exception"]) ++
  [.methodLink own ic (Bundle.initS fNSE), .instantiable fNSE 6, .castable fNSE fNSE, .selects fNSE Bundle.tFill0 Bundle.tFill0, .selects fNSE Bundle.tFill Bundle.tFill,
   .lays fNSE Bundle.tN "cause" "Ljava/lang/Throwable;", .lays fNSE Bundle.tN "stackTrace" Bundle.steD, .lays fNSE Bundle.tN "suppressedExceptions" Bundle.listD, .lays fNSE Bundle.tN "detailMessage" "Ljava/lang/String;",
   .isRef (.static Bundle.tN "UNASSIGNED_STACK" Bundle.steD), .isRef (.static Bundle.tN "SUPPRESSED_SENTINEL" Bundle.listD),
   .fieldLink Bundle.tN 198 Bundle.tN "backtrace" "Ljava/lang/Object;", .lays Bundle.tN Bundle.tN "backtrace" "Ljava/lang/Object;", .lays fNSE Bundle.tN "backtrace" "Ljava/lang/Object;"]
theorem fchainN {args : Array Value} {s : State} {pl : Platform} (hpl : pl.magicAccessors = ({} : Platform).magicAccessors) {top : MethodId} (htop : s.methodNamed? (Bundle.initS Bundle.tN) = some top)
    (h : ∀ c ∈ Bundle.passSAtoms fNSE "java/lang/RuntimeException" 13 prog_38_method_4_code ++ Bundle.chainSAtoms "java/lang/RuntimeException" ["java/lang/Exception"], c.before args s = true) :
      ∃ (P1 : PassC) (Ps : List PassC), Ps.length = 2 ∧ P1.LinksS pl s ∧ (∀ P, P ∈ Ps → P.LinksS pl s) ∧ s.methodNamed? (Bundle.initS fNSE) = some P1.m ∧ P1.sup = firstOf top (Ps.map (·.toPassT)) ∧ PassesOn top (Ps.map (·.toPassT)) := by
  obtain ⟨P, L, hm, hs⟩ := PassC.ofS_atoms (args := args) (s := s) hpl (X := fNSE) (Y := "java/lang/RuntimeException") (by decide +kernel) (by decide) (by decide +kernel) (by decide +kernel) (by decide +kernel) (by decide +kernel) (fun c hc => h c (List.mem_append_left _ hc))
  obtain ⟨P', Ps, hlen, L', hL, hm', hsup, hpass⟩ := Bundle.chainS (args := args) (s := s) hpl htop ["java/lang/Exception"] "java/lang/RuntimeException" (by decide +kernel) (by decide +kernel) (fun c hc => h c (List.mem_append_right _ hc))
  refine ⟨P, P' :: Ps, by simp [hlen], L, ?_, hm, Option.some.inj (hs.symm.trans hm'), hsup, hpass⟩
  intro Q hQ
  rcases List.mem_cons.mp hQ with rfl | hQ
  · exact L'
  · exact hL Q hQ
section FCTN
variable {p : Program} {l : Launch} {e : Env} {R : Room} {s : State} {m₀ : MethodId} {args : Array Value} {below : List Frame} {meth : Method} {c : Code} {W : State} {locs : List Loc} {cells slots : Nat}
set_option maxHeartbeats 1000000 in
theorem fctorN (X : Stand p l e R s m₀ args below meth c W locs cells slots) (hexec : p.tables.exec = Jvm.exec) (htr : e.platform.stackTraces = false) {own : String} {ic : Nat}
    (hown : s.vm.findClass own = some m₀.cls) 
    (h : ∀ a ∈ fownN own ic, a.before args s = true)
    (hlocs : ∀ x ∈ locs, ∀ cell, s.heap[x.base]? = some cell → cell.vm.isStatics = false)
    {a : Addr} {cX : ClassId} {kX : Class} (hfoundX : s.vm.findClass fNSE = some cX) (hkX : s.vm.classes[cX]? = some kX) (hcell : W.heap[a]? = some (freshCell cX kX)) (hnew : s.heap.size ≤ a)
    {msg : Value} (hmsg : msg.isRef = true)
    {g : JFrame} (hg : g.method = m₀) (hsize : g.locals.size = c.maxLocals) (hlocked : g.locked = none) (hentered : g.entered = []) {rest : List Value} (hstack : g.stack = msg :: .ref a :: .ref a :: rest)
    (hd6 : decode c.code g.pc = .ok (.invokespecial ic, 3)) (hd9 : decode c.code (g.pc + 3) = .ok (.athrow, 1)) (hout : ∀ x ∈ c.exceptionTable.toList, covers x (g.pc + 3) = false)
    (hRframes : 2 + 3 < R.frames) (hRlocals : 2 * g.monitorRoom + ((Value.ref a :: rest).map fun v => v.category).sum + (13 * (2 + 1) + 42) ≤ R.locals) (hlocks : meth.locks = false := by first | assumption | exact BodyLoose.notSynchronized (by assumption) | exact Body.notSynchronized (by assumption)) :
    ∃ U : State, Steps p.tables e below (W.setTop g) U ∧ U.status = .running ∧ Ended U below (.threw a) ∧ s.WarmedH U.vm ∧ s.sameButNew ({ U with vm := s.vm } : State) locs cells slots ∧
      ∃ ce, U.heap[a]? = some ce ∧ Bundle.OwnCell args s fNSE a msg ce := by
  have howns : e.platform.frameOwnsMonitors = true := by rw [X.admits.platform]
  have hfin : e.platform.finalization = false := by rw [X.admits.platform]
  have hpl : e.platform.magicAccessors = ({} : Platform).magicAccessors := by rw [X.admits.platform]
  have a' : ∀ x, x ∈ fownN own ic → x.holds args s none s [] = true := fun x hx => h x hx
  obtain ⟨T, Z0, L, -, Y⟩ := ThrowableC.of_atoms (args := args) howns hfin hpl (fun x hx => h x (by simp [fownN, hx]))
  obtain ⟨Z, M, LZ, LM, hnZ⟩ := Init0T.ofS_atoms (args := args) hpl L Y (fun x hx => h x (by simp [fownN, hx]))
  obtain ⟨P1, Ps, hlen, L1, hL, hP1m, hlink1, hlink⟩ := fchainN (args := args) hpl hnZ (fun x hx => h x (by unfold fownN; exact List.mem_append_left _ (List.mem_append_right _ hx)))
              
  have hfound : s.vm.findClass fNSE = some P1.m.cls := findClass_of_methodNamed hP1m
  cases Option.some.inj (hfoundX.symm.trans hfound)
  obtain ⟨c1, kX', hc1, hk, hord, -, -, hn6⟩ := Cond.instantiable_spec (a' (.instantiable fNSE 6) (by simp [fownN]))
  cases Option.some.inj (hc1.symm.trans hfound)
  cases Option.some.inj (hkX.symm.trans hk)
  have hsel0 : selectMethod e.platform s.vm P1.m.cls T.fill0 = .method T.fill0 := by
    obtain ⟨c2, r2, m2, q1, q2, q3, q4, -⟩ := Cond.selects_spec (a' (.selects fNSE Bundle.tFill0 Bundle.tFill0) (by simp [fownN]))
    cases Option.some.inj (q1.symm.trans hfound)
    cases Option.some.inj (q2.symm.trans (State.methodFound?_of_named Y.fill0 (by decide)))
    cases Option.some.inj (q3.symm.trans Y.fill0)
    rw [Launch.admits_selectMethod X.admits]; exact q4
  have hselF : selectMethod e.platform s.vm P1.m.cls T.fill = .method T.fill := by
    obtain ⟨c2, r2, m2, q1, q2, q3, q4, -⟩ := Cond.selects_spec (a' (.selects fNSE Bundle.tFill Bundle.tFill) (by simp [fownN]))
    cases Option.some.inj (q1.symm.trans hfound)
    cases Option.some.inj (q2.symm.trans (State.methodFound?_of_named Y.fill (by decide)))
    cases Option.some.inj (q3.symm.trans Y.fill)
    rw [Launch.admits_selectMethod X.admits]; exact q4
  obtain ⟨cellS0, hcS0, hiss⟩ := Y.statics
  obtain ⟨u0, hu0⟩ := Cond.staticRefV Y.unassigned L.unassignedStatic L.statics hcS0 hiss (a' (.isRef (.static Bundle.tN "UNASSIGNED_STACK" Bundle.steD)) (by simp [fownN]))
  obtain ⟨sen, hsen⟩ := Cond.staticRefV Y.sentinel L.sentinelStatic L.statics hcS0 hiss (a' (.isRef (.static Bundle.tN "SUPPRESSED_SENTINEL" Bundle.listD)) (by simp [fownN]))
  obtain ⟨ci198, i198, fB, hk198, hg198, ha198, hsB, -, hnB, htB, hffB⟩ := Cond.ownField (t := .object "java/lang/Object") Y.found L.cls (by decide +kernel) (a' (.fieldLink Bundle.tN 198 Bundle.tN "backtrace" "Ljava/lang/Object;") (by simp [fownN])) (a' (.lays Bundle.tN Bundle.tN "backtrace" "Ljava/lang/Object;") (by simp [fownN])) e.platform hpl
  obtain ⟨cellS, hcS', heS, -, hkeep⟩ := X.same.2.2.2.2.2 T.aS cellS0 hcS0
  have hcellS : W.heap[T.aS]? = some cellS := hcS'
  have hout' : ∀ i, (⟨T.aS, i⟩ : Loc) ∉ locs := fun i hmem => by
    have := hlocs _ hmem cellS0 hcS0
    rw [hiss] at this; cases this
  have hknownS : cellS.vm ≠ .unknown := by
    rw [heS]; intro hu
    rw [show cellS0.vm = .unknown from hu] at hiss
    cases hiss
  have hneS : T.aS ≠ a := Nat.ne_of_lt (Nat.lt_of_lt_of_le (Array.getElem?_eq_some_iff.mp hcS0).1 hnew)
  obtain ⟨iM, hffM⟩ := Y.msg
  obtain ⟨tyC, dC, hdC, hdnC⟩ := Cond.laysAt hfound hk Y.cause (a' (.lays fNSE Bundle.tN "cause" "Ljava/lang/Throwable;") (by simp [fownN]))
  obtain ⟨tyS, dS, hdS, hdnS⟩ := Cond.laysAt hfound hk Y.stack (a' (.lays fNSE Bundle.tN "stackTrace" Bundle.steD) (by simp [fownN]))
  obtain ⟨tyP, dP, hdP, hdnP⟩ := Cond.laysAt hfound hk Y.supp (a' (.lays fNSE Bundle.tN "suppressedExceptions" Bundle.listD) (by simp [fownN]))
  obtain ⟨tyM, dM, hdM, hdnM⟩ := Cond.laysAt hfound hk hffM (a' (.lays fNSE Bundle.tN "detailMessage" "Ljava/lang/String;") (by simp [fownN]))
  obtain ⟨tyB, dB, hdB, hdnB⟩ := Cond.laysAt hfound hk hffB (a' (.lays fNSE Bundle.tN "backtrace" "Ljava/lang/Object;") (by simp [fownN]))
  have bC := Cond.laysApart hdB hdC hdnB hdnC (by rw [hnB, Y.causeName]; decide)
  have bS := Cond.laysApart hdB hdS hdnB hdnS (by rw [hnB, Y.stackName]; decide)
  have bP := Cond.laysApart hdB hdP hdnB hdnP (by rw [hnB, Y.suppName]; decide)
  have hskip : SkipFacts T e.platform s (fun u => u) u0 ((preparedCellV T.toThrowableT (freshCell P1.m.cls kX) a u0 sen).withEntry W.cur) :=
    ⟨{ ci198 := ci198, i198 := i198, fBack := fB }, ⟨hk198, hg198, ha198, hsB⟩, by
      have := fresh_default (c := P1.m.cls) tyB
      rw [htB] at this
      simpa [preparedCellV, Cell.setSlot, Cell.withEntry, Array.getElem?_setIfInBounds, bC, bS, bP, bC.symm, bS.symm, bP.symm, defaultValue] using this, fun _ _ => rfl⟩
                                     
  obtain ⟨tm, methC, cdC, kC, vm₁, hnC, -, -, -, -, -, -, -, hW₁, st1⟩ := Steps.initColdS (tb := p.tables) (e := e) (below := below) (s := s) (U := W) X.here hexec X.warmed hpl hown (t := Bundle.initS fNSE) rfl rfl (Bundle.fit_spec (by decide +kernel : Bundle.fit fNSE = true)).2
    (a' (.methodLink own ic (Bundle.initS fNSE)) (by simp [fownN])) (h (.instanceMethod (Bundle.initS fNSE)) (by simp [fownN, Bundle.passSAtoms])) (bytes := prog_38_method_4_code) (maxL := 2) (h (.code (Bundle.initS fNSE) prog_38_method_4_code 2 none) (by simp [fownN, Bundle.passSAtoms]))
    (f := g) hg (a := a) (msg := msg) (rest := .ref a :: rest) hstack hd6
  cases Option.some.inj (hnC.symm.trans hP1m)
  have X₁ := X.noted hW₁
                                 
  obtain ⟨vm₂, X₂, st2⟩ := X₁.ctorMessageOffV hexec (g := { g with stack := .ref a :: rest }) hg hsize T L Z LZ M LM (P1 :: Ps)
    (fun P hP => by rcases List.mem_cons.mp hP with rfl | hP; exact L1; exact hL P hP) ⟨hlink1, hlink⟩ (u0 := u0) (sen := sen) (self := a) hmsg (cell := freshCell P1.m.cls kX) (cellS := cellS)
    hcell (fun _ => by simp) (by simp) rfl rfl hsel0 hselF hcellS hneS hknownS (by rw [hkeep _ (hout' _)]; exact hu0) (by rw [hkeep _ (hout' _)]; exact hsen)
    (Takes.of_laid hk hord tyC (by rw [Y.causeType]; rfl)) (Takes.of_laid hk hord tyS (by rw [Y.stackType]; exact fits_refV_array _ u0)) (Takes.of_laid hk hord tyP (by rw [Y.suppType]; exact fits_refV_object _ sen))
    (Takes.of_laid hk hord tyM (by rw [Y.msgType]; exact fits_refV_object _ ⟨msg, hmsg⟩)) Y.objLocals hskip htr [] hd6
    (by simp only [List.length_cons, hlen]; omega) (by simp only [List.length_cons, hlen]; exact hRlocals)
                                    
  obtain ⟨hwalk, hrun, hended, hWU, hsame⟩ := X₂.athrowLeaves hexec (g := { g with stack := .ref a :: rest, pc := g.pc + 3 }) hg hlocked hentered hout (a := a) (rest := rest) rfl hd9
  obtain ⟨c3, c4, hc3, hc4, hasg⟩ := Cond.castable_spec (a' (.castable fNSE fNSE) (by simp [fownN]))
  cases Option.some.inj (hc3.symm.trans hfound)
  cases Option.some.inj (hc4.symm.trans hfound)
  have hlt : a < ((W.setVm vm₁).setVm vm₂).heap.size := (Array.getElem?_eq_some_iff.mp hcell).1
  have hU := heapAt_setCell_self (s := (W.setVm vm₁).setVm vm₂) (plainBareV T.toThrowableT (freshCell P1.m.cls kX) a u0 sen msg) hlt
  have hnM : T.fMsg.name = "detailMessage" := (State.fieldFound?_type hffM (t := .object "java/lang/String") (by decide +kernel)).1
  have nCS := Cond.laysApart hdC hdS hdnC hdnS (by rw [Y.causeName, Y.stackName]; decide)
  have nCP := Cond.laysApart hdC hdP hdnC hdnP (by rw [Y.causeName, Y.suppName]; decide)
  have nCM := Cond.laysApart hdC hdM hdnC hdnM (by rw [Y.causeName, hnM]; decide)
  have nSP := Cond.laysApart hdS hdP hdnS hdnP (by rw [Y.stackName, Y.suppName]; decide)
  have nSM := Cond.laysApart hdS hdM hdnS hdnM (by rw [Y.stackName, hnM]; decide)
  have nPM := Cond.laysApart hdP hdM hdnP hdnM (by rw [Y.suppName, hnM]; decide)
  have lC : T.fCause.slot < kX.instanceTypes.size := (Array.getElem?_eq_some_iff.mp tyC).1
  have lS : T.fStack.slot < kX.instanceTypes.size := (Array.getElem?_eq_some_iff.mp tyS).1
  have lP : T.fSupp.slot < kX.instanceTypes.size := (Array.getElem?_eq_some_iff.mp tyP).1
  have lM : T.fMsg.slot < kX.instanceTypes.size := (Array.getElem?_eq_some_iff.mp tyM).1
  have evU : ∀ o, (Term.static Bundle.tN "UNASSIGNED_STACK" Bundle.steD).eval args s o [] s = some u0.v := by
    intro o
    simp [Term.eval, State.fieldNamed?, Y.unassigned, L.unassignedStatic, L.statics, hcS0, hiss, hu0]
  have evS : ∀ o, (Term.static Bundle.tN "SUPPRESSED_SENTINEL" Bundle.listD).eval args s o [] s = some sen.v := by
    intro o
    simp [Term.eval, State.fieldNamed?, Y.sentinel, L.sentinelStatic, L.statics, hcS0, hiss, hsen]
  refine ⟨_, st1 _ (fun acts => ?_), hrun, hended, hWU, hsame.weaken (fun y hy hlt' => ?_) (Nat.le_refl _) (Nat.le_refl _), _, hU, ?_⟩
  · rw [doInvoke_state]
    exact st2 _ hwalk
  · rcases List.mem_append.mp hy with h1 | h1
    · exact h1
    · exfalso
      have hb : y.base = a := by
        simp only [List.mem_cons, List.not_mem_nil, or_false] at h1
        rcases h1 with rfl | rfl | rfl | rfl | rfl <;> rfl
      rw [hb] at hlt'
      exact Nat.not_lt.mpr hnew hlt'
  · exact { cls := hfound, self := hasg, monitor := rfl, hash := rfl, vm := rfl, size := by simp [plainBareV, preparedCellV, Cell.setSlot, hn6]
            cause := ⟨_, _, _, _, Y.cause, by simp [plainBareV, preparedCellV, Cell.setSlot, nCS.symm, nCP.symm, nCM.symm, lC]⟩
            stack := ⟨_, _, _, _, u0, Y.stack, by simp [plainBareV, preparedCellV, Cell.setSlot, nSM.symm, lS], evU⟩
            supp := ⟨_, _, _, _, sen, Y.supp, by simp [plainBareV, preparedCellV, Cell.setSlot, nSP, nPM.symm, lP], evS⟩
            msg := ⟨_, _, _, _, hffM, by simp [plainBareV, preparedCellV, Cell.setSlot, lM]⟩
            other := fun O f d c k i fd hf hy n1 n2 n3 n4 => by
              obtain ⟨ty, dd, hdd, hddn⟩ := Cond.laysAt hfound hk hf hy
              have m1 := Cond.laysApart hdd hdC hddn hdnC (by rw [Y.causeName]; exact n1)
              have m2 := Cond.laysApart hdd hdS hddn hdnS (by rw [Y.stackName]; exact n2)
              have m3 := Cond.laysApart hdd hdP hddn hdnP (by rw [Y.suppName]; exact n3)
              have m4 := Cond.laysApart hdd hdM hddn hdnM (by rw [hnM]; exact n4)
              have := fresh_default (c := P1.m.cls) ty
              simpa [plainBareV, preparedCellV, Cell.setSlot, Array.getElem?_setIfInBounds, m1, m2, m3, m4, m1.symm, m2.symm, m3.symm, m4.symm] using this }
end FCTN
section FTHN
variable {p : Program} {l : Launch} {e : Env} {R : Room} {s : State} {m : MethodId} {args : Array Value} {below : List Frame} {meth : Method} {c : Code} {H : Heap} {locs : List Loc} {cells slots : Nat} {free : Addr → Prop} {ls : Array Slot} {rest : List Value} {Qc : Array Value → State → Outcome → State → Prop} {XC : String → State → State → Prop}
theorem fthrN {cc : ByteArray} {pc : Nat} (hexec : p.tables.exec = Jvm.exec) (hb : c.code = cc) (hl : l.stackTraces = false) {own text : String} {ik is ic mc ms sa : Nat} {A : Nat → Prop}
    (hown : s.vm.findClass own = some m.cls) 
    (hk : (Cond.classLink own ik fNSE).before args s = true) (hini : (Cond.initialized fNSE).before args s = true) (hstr : vk_R own is text sa s) (hat : ∀ w ∈ (fownN own ic).filter vx_no, w.before args s = true)
    (hgood : ∀ w ∈ Cond.classLink own ik fNSE :: Cond.initialized fNSE :: (fownN own ic).filter vx_no, vx_ot w = true)
    (hU : vx_Zq Bundle.tN "UNASSIGNED_STACK" Bundle.steD A s s.heap) (hN : vx_Zq Bundle.tN "SUPPRESSED_SENTINEL" Bundle.listD A s s.heap) (hS : va_S A s.heap H locs) (hsize : ls.size = c.maxLocals)
    (d0 : decode cc pc = .ok (.new ik, 3)) (d3 : decode cc (pc + 3) = .ok (.dup, 1)) (d4 : decode cc (pc + 4) = .ok (.ldc is, 2)) (d6 : decode cc (pc + 6) = .ok (.invokespecial ic, 3)) (d9 : decode cc (pc + 9) = .ok (.athrow, 1))
    (hout : ∀ x ∈ c.exceptionTable.toList, covers x (pc + 9) = false)
    (hRframes : 2 + 3 < R.frames) (hRlocals : (rest.map fun v => v.category).sum + (13 * (2 + 1) + 43) ≤ R.locals) (hRcells : cells + 1 ≤ R.cells) (hRslots : slots + 6 ≤ R.slots) (hlocks : meth.locks = false)
    (hx : ∀ t : State, s.vm.Alike t.vm → H.size ≤ t.heap.size → (∀ q : Nat, q < H.size → t.heap[q]? = H[q]?) → XC fNSE s t)
    (hf : ∀ z ∈ locs, free z.base) (hc : cells + 1 ≤ mc) (hs : slots + 6 ≤ ms) :
    W p l e R s m args below meth c H locs cells slots (vx_MQ below Qc XC args s mc ms free) (F0 m pc ls rest) := by
  intro T hT X
  have htr : e.platform.stackTraces = false := (show e.platform.stackTraces = l.stackTraces by rw [X.admits.platform]).trans hl
  have Y := vx_rebase X (R' := { frames := R.frames, locals := R.locals, cells := 1, slots := 6 }) (Nat.le_refl _) (Nat.le_refl _) hRcells hRslots
  obtain ⟨s', hA⟩ : ∃ z, z = (T.setVm s.vm).setFrames (.invoking m args :: below) := ⟨_, rfl⟩
  rw [← hA] at Y
  have hvm : s'.vm = s.vm := by rw [hA]; rfl
  have hhp : s'.heap = H := by rw [hA]; exact hT
  have hW0 : s.WarmedH s'.vm := by rw [hvm]; exact State.WarmedH.refl s
  have hat' : ∀ w ∈ (fownN own ic).filter vx_no, w.before args s' = true := fun w hw => vx_ot_at hW0 hvm.symm (hgood w (List.mem_cons_of_mem _ (List.mem_cons_of_mem _ hw))) (hat w hw)
  have hk' : (Cond.classLink own ik fNSE).before args s' = true := vx_ot_at hW0 hvm.symm (hgood _ List.mem_cons_self) hk
  have hini' : (Cond.initialized fNSE).before args s' = true := vx_ot_at hW0 hvm.symm (hgood _ (List.mem_cons_of_mem _ List.mem_cons_self)) hini
  have hU' : vx_Zq Bundle.tN "UNASSIGNED_STACK" Bundle.steD A s' s'.heap := by rw [hhp]; exact vx_Zq.moved hW0.alike (hU.kept hS.2.1)
  have hN' : vx_Zq Bundle.tN "SUPPRESSED_SENTINEL" Bundle.listD A s' s'.heap := by rw [hhp]; exact vx_Zq.moved hW0.alike (hN.kept hS.2.1)
  have h : ∀ w ∈ fownN own ic, w.before args s' = true := vx_own hat' (vx_isRefq hU'.1) (vx_isRefq hN'.1) hU'.2.word hN'.2.word
  have hown' : s'.vm.findClass own = some m.cls := by rw [hvm]; exact hown
  have hins : (Cond.instantiable fNSE 6).before args s' = true := h _ (by simp [fownN])
  obtain ⟨vm₁, cX, kX, hfX, hkX, -, -, X₁, st1⟩ := Y.newCold hexec (own := own) (C := fNSE) (index := ik) (n := 6) hown' hk' hins hini'
    (g := F0 m pc ls rest) rfl (by rw [hb]; exact d0) (Nat.le_refl _) (Nat.le_refl _)
  generalize hT1 : (T.setVm vm₁).pushCell { cls := cX, slots := kX.instanceTypes.map defaultValue, vm := .none } = T1 at X₁ st1
  have hcat : (Value.ref T.heap.size).category = 1 := rfl
  have hcellA : T1.heap[T.heap.size]? = some (freshCell cX kX) := by rw [← hT1]; exact State.heap_pushCell_size _ _
  have d3' : decode c.code (pc + 3) = .ok (.dup, 1) := by rw [hb]; exact d3
  have d4' : decode c.code (pc + 4) = .ok (.ldc is, 2) := by rw [hb]; exact d4
  have hstr' : vk_R own is text sa s' := vk_R.warm hW0 hstr
  obtain ⟨U, hsteps, hrun, hend, hW, hsame, ce, hce, hO⟩ := fctorN X₁ hexec htr (own := own) (ic := ic) hown' h (fun x hx => nomatch hx) hfX hkX hcellA (by rw [hhp, hT]; exact Nat.le_refl _) (msg := .ref sa) rfl
    (g := { method := m, pc := pc + 6, locals := ls, stack := .ref sa :: .ref T.heap.size :: .ref T.heap.size :: rest, locked := none }) rfl hsize rfl rfl (rest := rest) rfl
    (by rw [hb]; exact d6) (by rw [hb]; exact d9) hout hRframes (by simp only [List.map_cons, List.sum_cons, hcat]; omega) hlocks
  obtain ⟨f1, f2⟩ := vx_frame hsame
  rw [hhp] at f1 f2
  have hWs : s.WarmedH U.vm := State.WarmedH.trans hW0 hW
  have hcl : s.vm.findClass fNSE = some ce.cls := by
    have h9 := hO.cls
    rw [hvm] at h9
    exact h9
  have hall : s.sameButNew ({ U with vm := s.vm } : State) locs mc ms := by
    subst hA
    obtain ⟨e1, e2⟩ := hsame
    rw [State.setFrames_setFrames] at e1
    have h2 : (T.setVm s.vm).sameButNew ({ U with vm := s.vm } : State) [] (0 + 1) (0 + 6) := ⟨e1, e2⟩
    have h3 := X.same.trans h2
    rw [List.append_nil] at h3
    exact h3.mono hc hs
  refine ⟨U, ?_, .threw T.heap.size, hrun, hend, Or.inr ⟨T.heap.size, rfl, fNSE, ce, locs, hx U hWs.alike f1 (fun q hq => f2 q hq (fun z hz => nomatch hz)), hce, hO.vm, hcl, hWs, hall, hf⟩⟩
  refine st1 _ ?_
  show Steps p.tables e below (T1.setTop { method := m, pc := pc + 3, locals := ls, stack := .ref T.heap.size :: rest, locked := none }) _
  jvm_step X₁.here [X₁.here.top, hexec, d3', Value.category]
  exact X₁.ldcString hexec (own := own) (text := text) (index := is) (a := sa) hown' hstr'.1 hstr'.2
    (g := { method := m, pc := pc + 4, locals := ls, stack := .ref T.heap.size :: .ref T.heap.size :: rest, locked := none }) rfl d4' _ hsteps
theorem fthrNW {cc : ByteArray} {pc : Nat} (hexec : p.tables.exec = Jvm.exec) (hb : c.code = cc) (hl : l.stackTraces = false) {own text : String} {ik is ic mc ms sa : Nat} {A : Nat → Prop}
    (hown : s.vm.findClass own = some m.cls) 
    (hk : (Cond.classLink own ik fNSE).before args s = true) (hini : (Cond.initialized fNSE).before args s = true) (hstr : vk_R own is text sa s) (hat : ∀ w ∈ (fownN own ic).filter vx_no, w.before args s = true)
    (hgood : ∀ w ∈ Cond.classLink own ik fNSE :: Cond.initialized fNSE :: (fownN own ic).filter vx_no, vx_ot w = true)
    (hU : vx_Zq Bundle.tN "UNASSIGNED_STACK" Bundle.steD A s s.heap) (hN : vx_Zq Bundle.tN "SUPPRESSED_SENTINEL" Bundle.listD A s s.heap) (hS : va_S A s.heap H locs) (hsize : ls.size = c.maxLocals)
    (d0 : decode cc pc = .ok (.new ik, 3)) (d3 : decode cc (pc + 3) = .ok (.dup, 1)) (d4 : decode cc (pc + 4) = .ok (.ldc_w is, 3)) (d7 : decode cc (pc + 7) = .ok (.invokespecial ic, 3)) (d10 : decode cc (pc + 10) = .ok (.athrow, 1))
    (hout : ∀ x ∈ c.exceptionTable.toList, covers x (pc + 10) = false)
    (hRframes : 2 + 3 < R.frames) (hRlocals : (rest.map fun v => v.category).sum + (13 * (2 + 1) + 43) ≤ R.locals) (hRcells : cells + 1 ≤ R.cells) (hRslots : slots + 6 ≤ R.slots) (hlocks : meth.locks = false)
    (hx : ∀ t : State, s.vm.Alike t.vm → H.size ≤ t.heap.size → (∀ q : Nat, q < H.size → t.heap[q]? = H[q]?) → XC fNSE s t)
    (hf : ∀ z ∈ locs, free z.base) (hc : cells + 1 ≤ mc) (hs : slots + 6 ≤ ms) :
    W p l e R s m args below meth c H locs cells slots (vx_MQ below Qc XC args s mc ms free) (F0 m pc ls rest) := by
  intro T hT X
  have htr : e.platform.stackTraces = false := (show e.platform.stackTraces = l.stackTraces by rw [X.admits.platform]).trans hl
  have Y := vx_rebase X (R' := { frames := R.frames, locals := R.locals, cells := 1, slots := 6 }) (Nat.le_refl _) (Nat.le_refl _) hRcells hRslots
  obtain ⟨s', hA⟩ : ∃ z, z = (T.setVm s.vm).setFrames (.invoking m args :: below) := ⟨_, rfl⟩
  rw [← hA] at Y
  have hvm : s'.vm = s.vm := by rw [hA]; rfl
  have hhp : s'.heap = H := by rw [hA]; exact hT
  have hW0 : s.WarmedH s'.vm := by rw [hvm]; exact State.WarmedH.refl s
  have hat' : ∀ w ∈ (fownN own ic).filter vx_no, w.before args s' = true := fun w hw => vx_ot_at hW0 hvm.symm (hgood w (List.mem_cons_of_mem _ (List.mem_cons_of_mem _ hw))) (hat w hw)
  have hk' : (Cond.classLink own ik fNSE).before args s' = true := vx_ot_at hW0 hvm.symm (hgood _ List.mem_cons_self) hk
  have hini' : (Cond.initialized fNSE).before args s' = true := vx_ot_at hW0 hvm.symm (hgood _ (List.mem_cons_of_mem _ List.mem_cons_self)) hini
  have hU' : vx_Zq Bundle.tN "UNASSIGNED_STACK" Bundle.steD A s' s'.heap := by rw [hhp]; exact vx_Zq.moved hW0.alike (hU.kept hS.2.1)
  have hN' : vx_Zq Bundle.tN "SUPPRESSED_SENTINEL" Bundle.listD A s' s'.heap := by rw [hhp]; exact vx_Zq.moved hW0.alike (hN.kept hS.2.1)
  have h : ∀ w ∈ fownN own ic, w.before args s' = true := vx_own hat' (vx_isRefq hU'.1) (vx_isRefq hN'.1) hU'.2.word hN'.2.word
  have hown' : s'.vm.findClass own = some m.cls := by rw [hvm]; exact hown
  have hins : (Cond.instantiable fNSE 6).before args s' = true := h _ (by simp [fownN])
  obtain ⟨vm₁, cX, kX, hfX, hkX, -, -, X₁, st1⟩ := Y.newCold hexec (own := own) (C := fNSE) (index := ik) (n := 6) hown' hk' hins hini'
    (g := F0 m pc ls rest) rfl (by rw [hb]; exact d0) (Nat.le_refl _) (Nat.le_refl _)
  generalize hT1 : (T.setVm vm₁).pushCell { cls := cX, slots := kX.instanceTypes.map defaultValue, vm := .none } = T1 at X₁ st1
  have hcat : (Value.ref T.heap.size).category = 1 := rfl
  have hcellA : T1.heap[T.heap.size]? = some (freshCell cX kX) := by rw [← hT1]; exact State.heap_pushCell_size _ _
  have d3' : decode c.code (pc + 3) = .ok (.dup, 1) := by rw [hb]; exact d3
  have d4' : decode c.code (pc + 4) = .ok (.ldc_w is, 3) := by rw [hb]; exact d4
  have hstr' : vk_R own is text sa s' := vk_R.warm hW0 hstr
  obtain ⟨U, hsteps, hrun, hend, hW, hsame, ce, hce, hO⟩ := fctorN X₁ hexec htr (own := own) (ic := ic) hown' h (fun x hx => nomatch hx) hfX hkX hcellA (by rw [hhp, hT]; exact Nat.le_refl _) (msg := .ref sa) rfl
    (g := { method := m, pc := pc + 7, locals := ls, stack := .ref sa :: .ref T.heap.size :: .ref T.heap.size :: rest, locked := none }) rfl hsize rfl rfl (rest := rest) rfl
    (by rw [hb]; exact d7) (by rw [hb]; exact d10) hout hRframes (by simp only [List.map_cons, List.sum_cons, hcat]; omega) hlocks
  obtain ⟨f1, f2⟩ := vx_frame hsame
  rw [hhp] at f1 f2
  have hWs : s.WarmedH U.vm := State.WarmedH.trans hW0 hW
  have hcl : s.vm.findClass fNSE = some ce.cls := by
    have h9 := hO.cls
    rw [hvm] at h9
    exact h9
  have hall : s.sameButNew ({ U with vm := s.vm } : State) locs mc ms := by
    subst hA
    obtain ⟨e1, e2⟩ := hsame
    rw [State.setFrames_setFrames] at e1
    have h2 : (T.setVm s.vm).sameButNew ({ U with vm := s.vm } : State) [] (0 + 1) (0 + 6) := ⟨e1, e2⟩
    have h3 := X.same.trans h2
    rw [List.append_nil] at h3
    exact h3.mono hc hs
  refine ⟨U, ?_, .threw T.heap.size, hrun, hend, Or.inr ⟨T.heap.size, rfl, fNSE, ce, locs, hx U hWs.alike f1 (fun q hq => f2 q hq (fun z hz => nomatch hz)), hce, hO.vm, hcl, hWs, hall, hf⟩⟩
  refine st1 _ ?_
  show Steps p.tables e below (T1.setTop { method := m, pc := pc + 3, locals := ls, stack := .ref T.heap.size :: rest, locked := none }) _
  jvm_step X₁.here [X₁.here.top, hexec, d3', Value.category]
  exact X₁.ldcStringW hexec (own := own) (text := text) (index := is) (a := sa) hown' hstr'.1 hstr'.2
    (g := { method := m, pc := pc + 4, locals := ls, stack := .ref T.heap.size :: .ref T.heap.size :: rest, locked := none }) rfl d4' _ hsteps
end FTHN
def fxwN : List Jvm.Cond := (fownN "" 0).filter (fun w => decide (w ≠ Jvm.Cond.methodLink "" 0 (Bundle.initS fNSE)))
theorem fxwN_ok : fxwN.all fxb = true := by decide +kernel
theorem fxwN_at {own : String} {ic : Nat} (hm : Jvm.Cond.methodLink own ic (Bundle.initS fNSE) ∈ fT) : ∀ w ∈ (fownN own ic).filter vx_no, (w ∈ fT ∨ w ∈ fNw) ∧ vx_ot w = true := by
  intro w hw
  obtain ⟨h1, h2⟩ := List.mem_filter.mp hw
  have hsplit : w = Jvm.Cond.methodLink own ic (Bundle.initS fNSE) ∨ w ∈ fownN "" 0 := by
    unfold fownN at h1 ⊢
    rcases List.mem_append.mp h1 with h3 | h3
    · exact Or.inr (List.mem_append_left _ h3)
    · rcases List.mem_cons.mp h3 with h3 | h3
      · exact Or.inl h3
      · exact Or.inr (List.mem_append_right _ (List.mem_cons_of_mem _ h3))
  by_cases hme : w = Jvm.Cond.methodLink own ic (Bundle.initS fNSE)
  · rw [hme]
    exact ⟨Or.inl hm, by unfold vx_ot; rw [fT_good hm]; simp⟩
  · have h3 := hsplit.resolve_left hme
    by_cases hm0 : w = Jvm.Cond.methodLink "" 0 (Bundle.initS fNSE)
    · exfalso
      subst hm0
      unfold fownN at h1
      revert h1
      have hno : ∀ o i, Jvm.Cond.methodLink "" 0 (Bundle.initS fNSE) ∈ Bundle.throwableAtoms ++ Bundle.throwableSAtoms ++ (Bundle.passSAtoms fNSE "java/lang/RuntimeException" 13 prog_38_method_4_code ++ Bundle.chainSAtoms "java/lang/RuntimeException" ["java/lang/Exception"]) ++ (Jvm.Cond.methodLink o i (Bundle.initS fNSE) :: ((fownN "" 0).drop (Bundle.throwableAtoms ++ Bundle.throwableSAtoms ++ (Bundle.passSAtoms fNSE "java/lang/RuntimeException" 13 prog_38_method_4_code ++ Bundle.chainSAtoms "java/lang/RuntimeException" ["java/lang/Exception"]) ++ [Jvm.Cond.methodLink "" 0 (Bundle.initS fNSE)]).length)) → Jvm.Cond.methodLink "" 0 (Bundle.initS fNSE) = Jvm.Cond.methodLink o i (Bundle.initS fNSE) := by
        intro o i h
        have d1 : Jvm.Cond.methodLink "" 0 (Bundle.initS fNSE) ∉ Bundle.throwableAtoms ++ Bundle.throwableSAtoms ++ (Bundle.passSAtoms fNSE "java/lang/RuntimeException" 13 prog_38_method_4_code ++ Bundle.chainSAtoms "java/lang/RuntimeException" ["java/lang/Exception"]) := by decide +kernel
        have d2 : Jvm.Cond.methodLink "" 0 (Bundle.initS fNSE) ∉ (fownN "" 0).drop (Bundle.throwableAtoms ++ Bundle.throwableSAtoms ++ (Bundle.passSAtoms fNSE "java/lang/RuntimeException" 13 prog_38_method_4_code ++ Bundle.chainSAtoms "java/lang/RuntimeException" ["java/lang/Exception"]) ++ [Jvm.Cond.methodLink "" 0 (Bundle.initS fNSE)]).length := by decide +kernel
        rcases List.mem_append.mp h with h | h
        · exact absurd h d1
        · rcases List.mem_cons.mp h with h | h
          · exact h
          · exact absurd h d2
      intro h1
      exact hme (hno own ic h1)
    · have h4 := List.all_eq_true.mp fxwN_ok w (List.mem_filter.mpr ⟨h3, by simpa using hm0⟩)
      unfold fxb at h4
      rw [h2] at h4
      simp only [Bool.not_true, Bool.false_or, Bool.and_eq_true, Bool.or_eq_true, decide_eq_true_eq] at h4
      obtain ⟨⟨h5, h6⟩, h7⟩ := h4
      refine ⟨?_, h7⟩
      rcases h6 with h6 | h6
      · exact Or.inl (List.mem_filter.mpr ⟨h5, h6⟩)
      · exact Or.inr (List.mem_filter.mpr ⟨h5, h6⟩)
theorem fxN_at {G : fG} {own : String} {ic : Nat} {args : Array Value} {s : State} (hts : ∀ w ∈ fT, w.before args s = true) (hP : fPre G s) (h : ∀ w ∈ (fownN own ic).filter vx_no, (w ∈ fT ∨ w ∈ fNw) ∧ vx_ot w = true) : ∀ w ∈ (fownN own ic).filter vx_no, w.before args s = true := by
  intro w hw
  rcases (h w hw).1 with h1 | h1
  · exact hts w h1
  · have h2 := hP.2.2.2.2.1 w h1
    have hb := (List.mem_filter.mp h1).2
    unfold fNwb at hb
    split at hb
    · exact va_Nw.use rfl h2
    · exact va_Nw.use rfl h2
    · exact va_Nw.use rfl h2
    · cases hb
theorem fTH_N {G : fG} {l : Launch} {own : String} {cc : ByteArray} {nL pc ik is ic : Nat} {text : String} {R : Room} (hk : Jvm.Cond.classLink own ik fNSE ∈ fT) (hini : Jvm.Cond.initialized fNSE ∈ fT) (hstr : (own, is, text) ∈ fStr) (hm : Jvm.Cond.methodLink own ic (Bundle.initS fNSE) ∈ fT) (hR : 5 < R.frames ∧ 90 ≤ R.locals)
    (d0 : decode cc pc = .ok (.new ik, 3)) (d3 : decode cc (pc + 3) = .ok (.dup, 1)) (d4 : decode cc (pc + 4) = .ok (.ldc is, 2)) (d6 : decode cc (pc + 6) = .ok (.invokespecial ic, 3)) (d9 : decode cc (pc + 9) = .ok (.athrow, 1)) : fTH G l own cc nL R pc 4 := by
  intro p e s m args below meth c H locs k1 n1 MC MS ls rest Qc XC C hex hS hsz hcat hc1 hs1 hc2 hs2 hX
  obtain ⟨hx, hb, hml, hown, hts, hlocks, hst, hG, hP⟩ := C
  have hw := fxwN_at (own := own) (ic := ic) hm
  obtain ⟨sa, hsa⟩ := hP.2.2.2.2.2.1 _ hstr
  exact fthrN (sa := sa) hx hb hst hown (hts _ hk) (hts _ hini) hsa (fxN_at hts hP hw) (fun w hw' => (List.mem_cons.mp hw').elim (fun e => by rw [e]; rfl) (fun h => (List.mem_cons.mp h).elim (fun e => by rw [e]; rfl) (fun h => (hw w h).2))) hP.2.2.1 hP.2.2.2.1 hS (hsz.trans hml.symm) d0 d3 d4 d6 d9 (fun x hx => (hex x hx).elim) hR.1 (by rw [fcats_sum]; show _ + 82 ≤ _; omega) hc1 hs1 hlocks hX hS.2.2 hc2 hs2
theorem fTH_NW {G : fG} {l : Launch} {own : String} {cc : ByteArray} {nL pc ik is ic : Nat} {text : String} {R : Room} (hk : Jvm.Cond.classLink own ik fNSE ∈ fT) (hini : Jvm.Cond.initialized fNSE ∈ fT) (hstr : (own, is, text) ∈ fStr) (hm : Jvm.Cond.methodLink own ic (Bundle.initS fNSE) ∈ fT) (hR : 5 < R.frames ∧ 90 ≤ R.locals)
    (d0 : decode cc pc = .ok (.new ik, 3)) (d3 : decode cc (pc + 3) = .ok (.dup, 1)) (d4 : decode cc (pc + 4) = .ok (.ldc_w is, 3)) (d6 : decode cc (pc + 7) = .ok (.invokespecial ic, 3)) (d9 : decode cc (pc + 10) = .ok (.athrow, 1)) : fTH G l own cc nL R pc 4 := by
  intro p e s m args below meth c H locs k1 n1 MC MS ls rest Qc XC C hex hS hsz hcat hc1 hs1 hc2 hs2 hX
  obtain ⟨hx, hb, hml, hown, hts, hlocks, hst, hG, hP⟩ := C
  have hw := fxwN_at (own := own) (ic := ic) hm
  obtain ⟨sa, hsa⟩ := hP.2.2.2.2.2.1 _ hstr
  exact fthrNW (sa := sa) hx hb hst hown (hts _ hk) (hts _ hini) hsa (fxN_at hts hP hw) (fun w hw' => (List.mem_cons.mp hw').elim (fun e => by rw [e]; rfl) (fun h => (List.mem_cons.mp h).elim (fun e => by rw [e]; rfl) (fun h => (hw w h).2))) hP.2.2.1 hP.2.2.2.1 hS (hsz.trans hml.symm) d0 d3 d4 d6 d9 (fun x hx => (hex x hx).elim) hR.1 (by rw [fcats_sum]; show _ + 82 ≤ _; omega) hc1 hs1 hlocks hX hS.2.2 hc2 hs2
end
