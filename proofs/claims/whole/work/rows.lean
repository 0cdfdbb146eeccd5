section
-- ===== PART A: goes FIRST, ahead of the names: the tables' words, and 'selects' of the private methods out of them =====
/-- a private method of a class that the tables say can be made, by its rows of tables_1 -/
def lw_okq (q : MethodName × Nat) : Prop := (q.1.cls ≠ "java/lang/invoke/MethodHandle" ∧ q.1.cls ≠ "java/lang/invoke/VarHandle") ∧ Cond.instantiable q.1.cls q.2 ∈ tables_1 ∧ Cond.privateMethod q.1 ∈ tables_1 ∧ Cond.instanceMethod q.1 ∈ tables_1
theorem lw_p0 : lw_okq (⟨"RoadsWithTides$Land", "readPlace", "(LRoadsWithTides$Text;)Z"⟩, 9) := ⟨⟨by decide +kernel, by decide +kernel⟩, List.mem_of_getElem? (i := 118) (by decide +kernel), List.mem_of_getElem? (i := 473) (by decide +kernel), List.mem_of_getElem? (i := 474) (by decide +kernel)⟩
theorem lw_p1 : lw_okq (⟨"RoadsWithTides$Land", "readRoad", "(LRoadsWithTides$Text;)Z"⟩, 9) := ⟨⟨by decide +kernel, by decide +kernel⟩, List.mem_of_getElem? (i := 118) (by decide +kernel), List.mem_of_getElem? (i := 490) (by decide +kernel), List.mem_of_getElem? (i := 491) (by decide +kernel)⟩
theorem lw_p2 : lw_okq (⟨"RoadsWithTides$Tide", "readRound", "(LRoadsWithTides$Text;I)Z"⟩, 4) := ⟨⟨by decide +kernel, by decide +kernel⟩, List.mem_of_getElem? (i := 61) (by decide +kernel), List.mem_of_getElem? (i := 527) (by decide +kernel), List.mem_of_getElem? (i := 528) (by decide +kernel)⟩
theorem lw_p3 : lw_okq (⟨"RoadsWithTides$Tide", "readPart", "(LRoadsWithTides$Text;III)Z"⟩, 4) := ⟨⟨by decide +kernel, by decide +kernel⟩, List.mem_of_getElem? (i := 61) (by decide +kernel), List.mem_of_getElem? (i := 531) (by decide +kernel), List.mem_of_getElem? (i := 532) (by decide +kernel)⟩
theorem lw_p4 : lw_okq (⟨"RoadsWithTides$Land", "readCart", "(LRoadsWithTides$Text;)Z"⟩, 9) := ⟨⟨by decide +kernel, by decide +kernel⟩, List.mem_of_getElem? (i := 118) (by decide +kernel), List.mem_of_getElem? (i := 553) (by decide +kernel), List.mem_of_getElem? (i := 554) (by decide +kernel)⟩
theorem lw_p5 : lw_okq (⟨"RoadsWithTides$Rule", "popTo", "(I)V"⟩, 10) := ⟨⟨by decide +kernel, by decide +kernel⟩, List.mem_of_getElem? (i := 81) (by decide +kernel), List.mem_of_getElem? (i := 579) (by decide +kernel), List.mem_of_getElem? (i := 580) (by decide +kernel)⟩
theorem lw_p6 : lw_okq (⟨"RoadsWithTides$Rule", "put", "(I)V"⟩, 10) := ⟨⟨by decide +kernel, by decide +kernel⟩, List.mem_of_getElem? (i := 81) (by decide +kernel), List.mem_of_getElem? (i := 589) (by decide +kernel), List.mem_of_getElem? (i := 590) (by decide +kernel)⟩
theorem lw_p7 : lw_okq (⟨"RoadsWithTides$Rule", "readAhead", "(LRoadsWithTides$Text;)Z"⟩, 10) := ⟨⟨by decide +kernel, by decide +kernel⟩, List.mem_of_getElem? (i := 81) (by decide +kernel), List.mem_of_getElem? (i := 593) (by decide +kernel), List.mem_of_getElem? (i := 594) (by decide +kernel)⟩
theorem lw_p8 : lw_okq (⟨"RoadsWithTides$Rule", "push", "(I)V"⟩, 10) := ⟨⟨by decide +kernel, by decide +kernel⟩, List.mem_of_getElem? (i := 81) (by decide +kernel), List.mem_of_getElem? (i := 598) (by decide +kernel), List.mem_of_getElem? (i := 599) (by decide +kernel)⟩
theorem lw_p9 : lw_okq (⟨"RoadsWithTides$Rule", "readThing", "(LRoadsWithTides$Text;)Z"⟩, 10) := ⟨⟨by decide +kernel, by decide +kernel⟩, List.mem_of_getElem? (i := 81) (by decide +kernel), List.mem_of_getElem? (i := 602) (by decide +kernel), List.mem_of_getElem? (i := 603) (by decide +kernel)⟩
theorem lw_p10 : lw_okq (⟨"RoadsWithTides$Rule", "readClose", "(LRoadsWithTides$Text;)Z"⟩, 10) := ⟨⟨by decide +kernel, by decide +kernel⟩, List.mem_of_getElem? (i := 81) (by decide +kernel), List.mem_of_getElem? (i := 610) (by decide +kernel), List.mem_of_getElem? (i := 611) (by decide +kernel)⟩
theorem lw_p11 : lw_okq (⟨"RoadsWithTides$Rule", "readOperator", "(LRoadsWithTides$Text;)Z"⟩, 10) := ⟨⟨by decide +kernel, by decide +kernel⟩, List.mem_of_getElem? (i := 81) (by decide +kernel), List.mem_of_getElem? (i := 614) (by decide +kernel), List.mem_of_getElem? (i := 615) (by decide +kernel)⟩
theorem lw_p12 : lw_okq (⟨"RoadsWithTides$Rule", "reckon", "()I"⟩, 10) := ⟨⟨by decide +kernel, by decide +kernel⟩, List.mem_of_getElem? (i := 81) (by decide +kernel), List.mem_of_getElem? (i := 692) (by decide +kernel), List.mem_of_getElem? (i := 693) (by decide +kernel)⟩
theorem lw_p13 : lw_okq (⟨"RoadsWithTides$Rule", "valueOf", "(I)I"⟩, 10) := ⟨⟨by decide +kernel, by decide +kernel⟩, List.mem_of_getElem? (i := 81) (by decide +kernel), List.mem_of_getElem? (i := 696) (by decide +kernel), List.mem_of_getElem? (i := 697) (by decide +kernel)⟩
theorem lw_p14 : lw_okq (⟨"RoadsWithTides$Turns", "goOn", "(II)Z"⟩, 12) := ⟨⟨by decide +kernel, by decide +kernel⟩, List.mem_of_getElem? (i := 204) (by decide +kernel), List.mem_of_getElem? (i := 764) (by decide +kernel), List.mem_of_getElem? (i := 765) (by decide +kernel)⟩
theorem lw_p15 : lw_okq (⟨"RoadsWithTides$Day", "readAct", "(LRoadsWithTides$Text;)Z"⟩, 5) := ⟨⟨by decide +kernel, by decide +kernel⟩, List.mem_of_getElem? (i := 289) (by decide +kernel), List.mem_of_getElem? (i := 789) (by decide +kernel), List.mem_of_getElem? (i := 790) (by decide +kernel)⟩
def lw_privs_1 : List (MethodName × Nat) := [(⟨"RoadsWithTides$Land", "readPlace", "(LRoadsWithTides$Text;)Z"⟩, 9), (⟨"RoadsWithTides$Land", "readRoad", "(LRoadsWithTides$Text;)Z"⟩, 9), (⟨"RoadsWithTides$Tide", "readRound", "(LRoadsWithTides$Text;I)Z"⟩, 4), (⟨"RoadsWithTides$Tide", "readPart", "(LRoadsWithTides$Text;III)Z"⟩, 4), (⟨"RoadsWithTides$Land", "readCart", "(LRoadsWithTides$Text;)Z"⟩, 9), (⟨"RoadsWithTides$Rule", "popTo", "(I)V"⟩, 10), (⟨"RoadsWithTides$Rule", "put", "(I)V"⟩, 10), (⟨"RoadsWithTides$Rule", "readAhead", "(LRoadsWithTides$Text;)Z"⟩, 10), (⟨"RoadsWithTides$Rule", "push", "(I)V"⟩, 10), (⟨"RoadsWithTides$Rule", "readThing", "(LRoadsWithTides$Text;)Z"⟩, 10), (⟨"RoadsWithTides$Rule", "readClose", "(LRoadsWithTides$Text;)Z"⟩, 10), (⟨"RoadsWithTides$Rule", "readOperator", "(LRoadsWithTides$Text;)Z"⟩, 10), (⟨"RoadsWithTides$Rule", "reckon", "()I"⟩, 10), (⟨"RoadsWithTides$Rule", "valueOf", "(I)I"⟩, 10), (⟨"RoadsWithTides$Turns", "goOn", "(II)Z"⟩, 12), (⟨"RoadsWithTides$Day", "readAct", "(LRoadsWithTides$Text;)Z"⟩, 5)]
theorem lw_r1 : ∀ q ∈ lw_privs_1, lw_okq q := List.forall_mem_cons.mpr ⟨lw_p0, List.forall_mem_cons.mpr ⟨lw_p1, List.forall_mem_cons.mpr ⟨lw_p2, List.forall_mem_cons.mpr ⟨lw_p3, List.forall_mem_cons.mpr ⟨lw_p4, List.forall_mem_cons.mpr ⟨lw_p5, List.forall_mem_cons.mpr ⟨lw_p6, List.forall_mem_cons.mpr ⟨lw_p7, List.forall_mem_cons.mpr ⟨lw_p8, List.forall_mem_cons.mpr ⟨lw_p9, List.forall_mem_cons.mpr ⟨lw_p10, List.forall_mem_cons.mpr ⟨lw_p11, List.forall_mem_cons.mpr ⟨lw_p12, List.forall_mem_cons.mpr ⟨lw_p13, List.forall_mem_cons.mpr ⟨lw_p14, List.forall_mem_cons.mpr ⟨lw_p15, fun _ h => absurd h List.not_mem_nil⟩⟩⟩⟩⟩⟩⟩⟩⟩⟩⟩⟩⟩⟩⟩⟩
theorem lw_p16 : lw_okq (⟨"RoadsWithTides$Day", "runAct", "(LRoadsWithTides$Turns;III)I"⟩, 5) := ⟨⟨by decide +kernel, by decide +kernel⟩, List.mem_of_getElem? (i := 289) (by decide +kernel), List.mem_of_getElem? (i := 800) (by decide +kernel), List.mem_of_getElem? (i := 801) (by decide +kernel)⟩
theorem lw_p17 : lw_okq (⟨"RoadsWithTides", "soonestWay", "(III)I"⟩, 10) := ⟨⟨by decide +kernel, by decide +kernel⟩, List.mem_of_getElem? (i := 25) (by decide +kernel), List.mem_of_getElem? (i := 871) (by decide +kernel), List.mem_of_getElem? (i := 872) (by decide +kernel)⟩
theorem lw_p18 : lw_okq (⟨"RoadsWithTides$Ways", "noteOut", "(III)V"⟩, 12) := ⟨⟨by decide +kernel, by decide +kernel⟩, List.mem_of_getElem? (i := 312) (by decide +kernel), List.mem_of_getElem? (i := 885) (by decide +kernel), List.mem_of_getElem? (i := 886) (by decide +kernel)⟩
theorem lw_p19 : lw_okq (⟨"RoadsWithTides$Ways", "goBetween", "(IIII)Z"⟩, 12) := ⟨⟨by decide +kernel, by decide +kernel⟩, List.mem_of_getElem? (i := 312) (by decide +kernel), List.mem_of_getElem? (i := 893) (by decide +kernel), List.mem_of_getElem? (i := 894) (by decide +kernel)⟩
theorem lw_p20 : lw_okq (⟨"RoadsWithTides$Ways", "outFrom", "(II)I"⟩, 12) := ⟨⟨by decide +kernel, by decide +kernel⟩, List.mem_of_getElem? (i := 312) (by decide +kernel), List.mem_of_getElem? (i := 897) (by decide +kernel), List.mem_of_getElem? (i := 898) (by decide +kernel)⟩
theorem lw_p21 : lw_okq (⟨"RoadsWithTides$Ways", "leastWayOn", "(IIIII)I"⟩, 12) := ⟨⟨by decide +kernel, by decide +kernel⟩, List.mem_of_getElem? (i := 312) (by decide +kernel), List.mem_of_getElem? (i := 905) (by decide +kernel), List.mem_of_getElem? (i := 906) (by decide +kernel)⟩
theorem lw_p22 : lw_okq (⟨"RoadsWithTides$Ways", "serveAll", "(I)Z"⟩, 12) := ⟨⟨by decide +kernel, by decide +kernel⟩, List.mem_of_getElem? (i := 312) (by decide +kernel), List.mem_of_getElem? (i := 959) (by decide +kernel), List.mem_of_getElem? (i := 960) (by decide +kernel)⟩
theorem lw_p23 : lw_okq (⟨"RoadsWithTides$Marks", "suits", "(IIII)Z"⟩, 7) := ⟨⟨by decide +kernel, by decide +kernel⟩, List.mem_of_getElem? (i := 358) (by decide +kernel), List.mem_of_getElem? (i := 1018) (by decide +kernel), List.mem_of_getElem? (i := 1019) (by decide +kernel)⟩
theorem lw_p24 : lw_okq (⟨"RoadsWithTides$Turns", "draw", "(I)I"⟩, 12) := ⟨⟨by decide +kernel, by decide +kernel⟩, List.mem_of_getElem? (i := 204) (by decide +kernel), List.mem_of_getElem? (i := 1063) (by decide +kernel), List.mem_of_getElem? (i := 1064) (by decide +kernel)⟩
theorem lw_p25 : lw_okq (⟨"java/lang/Throwable", "fillInStackTrace", "(I)Ljava/lang/Throwable;"⟩, 6) := ⟨⟨by decide +kernel, by decide +kernel⟩, List.mem_of_getElem? (i := 1136) (by decide +kernel), List.mem_of_getElem? (i := 1134) (by decide +kernel), List.mem_of_getElem? (i := 1135) (by decide +kernel)⟩
theorem lw_p26 : lw_okq (⟨"RoadsWithTidesModel", "begin", "([BII)V"⟩, 56) := ⟨⟨by decide +kernel, by decide +kernel⟩, List.mem_of_getElem? (i := 1187) (by decide +kernel), List.mem_of_getElem? (i := 1382) (by decide +kernel), List.mem_of_getElem? (i := 1383) (by decide +kernel)⟩
theorem lw_p27 : lw_okq (⟨"RoadsWithTidesModel", "fine", "()Z"⟩, 56) := ⟨⟨by decide +kernel, by decide +kernel⟩, List.mem_of_getElem? (i := 1187) (by decide +kernel), List.mem_of_getElem? (i := 1386) (by decide +kernel), List.mem_of_getElem? (i := 1387) (by decide +kernel)⟩
theorem lw_p28 : lw_okq (⟨"RoadsWithTidesModel", "readLine", "()V"⟩, 56) := ⟨⟨by decide +kernel, by decide +kernel⟩, List.mem_of_getElem? (i := 1187) (by decide +kernel), List.mem_of_getElem? (i := 1390) (by decide +kernel), List.mem_of_getElem? (i := 1391) (by decide +kernel)⟩
theorem lw_p29 : lw_okq (⟨"RoadsWithTidesModel", "here", "()I"⟩, 56) := ⟨⟨by decide +kernel, by decide +kernel⟩, List.mem_of_getElem? (i := 1187) (by decide +kernel), List.mem_of_getElem? (i := 1394) (by decide +kernel), List.mem_of_getElem? (i := 1395) (by decide +kernel)⟩
theorem lw_p30 : lw_okq (⟨"RoadsWithTidesModel", "number", "(I)I"⟩, 56) := ⟨⟨by decide +kernel, by decide +kernel⟩, List.mem_of_getElem? (i := 1187) (by decide +kernel), List.mem_of_getElem? (i := 1398) (by decide +kernel), List.mem_of_getElem? (i := 1399) (by decide +kernel)⟩
theorem lw_p31 : lw_okq (⟨"RoadsWithTidesModel", "digit", "(I)I"⟩, 56) := ⟨⟨by decide +kernel, by decide +kernel⟩, List.mem_of_getElem? (i := 1187) (by decide +kernel), List.mem_of_getElem? (i := 1402) (by decide +kernel), List.mem_of_getElem? (i := 1403) (by decide +kernel)⟩
def lw_privs_2 : List (MethodName × Nat) := [(⟨"RoadsWithTides$Day", "runAct", "(LRoadsWithTides$Turns;III)I"⟩, 5), (⟨"RoadsWithTides", "soonestWay", "(III)I"⟩, 10), (⟨"RoadsWithTides$Ways", "noteOut", "(III)V"⟩, 12), (⟨"RoadsWithTides$Ways", "goBetween", "(IIII)Z"⟩, 12), (⟨"RoadsWithTides$Ways", "outFrom", "(II)I"⟩, 12), (⟨"RoadsWithTides$Ways", "leastWayOn", "(IIIII)I"⟩, 12), (⟨"RoadsWithTides$Ways", "serveAll", "(I)Z"⟩, 12), (⟨"RoadsWithTides$Marks", "suits", "(IIII)Z"⟩, 7), (⟨"RoadsWithTides$Turns", "draw", "(I)I"⟩, 12), (⟨"java/lang/Throwable", "fillInStackTrace", "(I)Ljava/lang/Throwable;"⟩, 6), (⟨"RoadsWithTidesModel", "begin", "([BII)V"⟩, 56), (⟨"RoadsWithTidesModel", "fine", "()Z"⟩, 56), (⟨"RoadsWithTidesModel", "readLine", "()V"⟩, 56), (⟨"RoadsWithTidesModel", "here", "()I"⟩, 56), (⟨"RoadsWithTidesModel", "number", "(I)I"⟩, 56), (⟨"RoadsWithTidesModel", "digit", "(I)I"⟩, 56)]
theorem lw_r2 : ∀ q ∈ lw_privs_2, lw_okq q := List.forall_mem_cons.mpr ⟨lw_p16, List.forall_mem_cons.mpr ⟨lw_p17, List.forall_mem_cons.mpr ⟨lw_p18, List.forall_mem_cons.mpr ⟨lw_p19, List.forall_mem_cons.mpr ⟨lw_p20, List.forall_mem_cons.mpr ⟨lw_p21, List.forall_mem_cons.mpr ⟨lw_p22, List.forall_mem_cons.mpr ⟨lw_p23, List.forall_mem_cons.mpr ⟨lw_p24, List.forall_mem_cons.mpr ⟨lw_p25, List.forall_mem_cons.mpr ⟨lw_p26, List.forall_mem_cons.mpr ⟨lw_p27, List.forall_mem_cons.mpr ⟨lw_p28, List.forall_mem_cons.mpr ⟨lw_p29, List.forall_mem_cons.mpr ⟨lw_p30, List.forall_mem_cons.mpr ⟨lw_p31, fun _ h => absurd h List.not_mem_nil⟩⟩⟩⟩⟩⟩⟩⟩⟩⟩⟩⟩⟩⟩⟩⟩
theorem lw_p32 : lw_okq (⟨"RoadsWithTidesModel", "oneOf", "(CII)I"⟩, 56) := ⟨⟨by decide +kernel, by decide +kernel⟩, List.mem_of_getElem? (i := 1187) (by decide +kernel), List.mem_of_getElem? (i := 1406) (by decide +kernel), List.mem_of_getElem? (i := 1407) (by decide +kernel)⟩
theorem lw_p33 : lw_okq (⟨"RoadsWithTidesModel", "fault", "(I)V"⟩, 56) := ⟨⟨by decide +kernel, by decide +kernel⟩, List.mem_of_getElem? (i := 1187) (by decide +kernel), List.mem_of_getElem? (i := 1410) (by decide +kernel), List.mem_of_getElem? (i := 1411) (by decide +kernel)⟩
theorem lw_p34 : lw_okq (⟨"RoadsWithTidesModel", "need", "(C)V"⟩, 56) := ⟨⟨by decide +kernel, by decide +kernel⟩, List.mem_of_getElem? (i := 1187) (by decide +kernel), List.mem_of_getElem? (i := 1414) (by decide +kernel), List.mem_of_getElem? (i := 1415) (by decide +kernel)⟩
theorem lw_p35 : lw_okq (⟨"RoadsWithTidesModel", "passes", "(C)Z"⟩, 56) := ⟨⟨by decide +kernel, by decide +kernel⟩, List.mem_of_getElem? (i := 1187) (by decide +kernel), List.mem_of_getElem? (i := 1418) (by decide +kernel), List.mem_of_getElem? (i := 1419) (by decide +kernel)⟩
theorem lw_p36 : lw_okq (⟨"RoadsWithTidesModel", "number", "(II)I"⟩, 56) := ⟨⟨by decide +kernel, by decide +kernel⟩, List.mem_of_getElem? (i := 1187) (by decide +kernel), List.mem_of_getElem? (i := 1426) (by decide +kernel), List.mem_of_getElem? (i := 1427) (by decide +kernel)⟩
theorem lw_p37 : lw_okq (⟨"RoadsWithTidesModel", "held", "(I)I"⟩, 56) := ⟨⟨by decide +kernel, by decide +kernel⟩, List.mem_of_getElem? (i := 1187) (by decide +kernel), List.mem_of_getElem? (i := 1441) (by decide +kernel), List.mem_of_getElem? (i := 1442) (by decide +kernel)⟩
theorem lw_p38 : lw_okq (⟨"RoadsWithTidesModel", "sum", "(I)I"⟩, 56) := ⟨⟨by decide +kernel, by decide +kernel⟩, List.mem_of_getElem? (i := 1187) (by decide +kernel), List.mem_of_getElem? (i := 1445) (by decide +kernel), List.mem_of_getElem? (i := 1446) (by decide +kernel)⟩
theorem lw_p39 : lw_okq (⟨"RoadsWithTidesModel", "product", "(I)I"⟩, 56) := ⟨⟨by decide +kernel, by decide +kernel⟩, List.mem_of_getElem? (i := 1187) (by decide +kernel), List.mem_of_getElem? (i := 1449) (by decide +kernel), List.mem_of_getElem? (i := 1450) (by decide +kernel)⟩
theorem lw_p40 : lw_okq (⟨"RoadsWithTidesModel", "thing", "(I)I"⟩, 56) := ⟨⟨by decide +kernel, by decide +kernel⟩, List.mem_of_getElem? (i := 1187) (by decide +kernel), List.mem_of_getElem? (i := 1453) (by decide +kernel), List.mem_of_getElem? (i := 1454) (by decide +kernel)⟩
theorem lw_p41 : lw_okq (⟨"RoadsWithTidesModel", "isPlace", "(I)Z"⟩, 56) := ⟨⟨by decide +kernel, by decide +kernel⟩, List.mem_of_getElem? (i := 1187) (by decide +kernel), List.mem_of_getElem? (i := 1464) (by decide +kernel), List.mem_of_getElem? (i := 1465) (by decide +kernel)⟩
theorem lw_p42 : lw_okq (⟨"RoadsWithTidesModel", "lost", "()I"⟩, 56) := ⟨⟨by decide +kernel, by decide +kernel⟩, List.mem_of_getElem? (i := 1187) (by decide +kernel), List.mem_of_getElem? (i := 1468) (by decide +kernel), List.mem_of_getElem? (i := 1469) (by decide +kernel)⟩
theorem lw_p43 : lw_okq (⟨"RoadsWithTidesModel", "cartsAt", "(II)I"⟩, 56) := ⟨⟨by decide +kernel, by decide +kernel⟩, List.mem_of_getElem? (i := 1187) (by decide +kernel), List.mem_of_getElem? (i := 1472) (by decide +kernel), List.mem_of_getElem? (i := 1473) (by decide +kernel)⟩
theorem lw_p44 : lw_okq (⟨"RoadsWithTidesModel", "isThere", "(II)Z"⟩, 56) := ⟨⟨by decide +kernel, by decide +kernel⟩, List.mem_of_getElem? (i := 1187) (by decide +kernel), List.mem_of_getElem? (i := 1482) (by decide +kernel), List.mem_of_getElem? (i := 1483) (by decide +kernel)⟩
theorem lw_p45 : lw_okq (⟨"RoadsWithTidesModel", "levelAt", "(I)I"⟩, 56) := ⟨⟨by decide +kernel, by decide +kernel⟩, List.mem_of_getElem? (i := 1187) (by decide +kernel), List.mem_of_getElem? (i := 1486) (by decide +kernel), List.mem_of_getElem? (i := 1487) (by decide +kernel)⟩
theorem lw_p46 : lw_okq (⟨"RoadsWithTidesModel", "isRoad", "(I)Z"⟩, 56) := ⟨⟨by decide +kernel, by decide +kernel⟩, List.mem_of_getElem? (i := 1187) (by decide +kernel), List.mem_of_getElem? (i := 1497) (by decide +kernel), List.mem_of_getElem? (i := 1498) (by decide +kernel)⟩
theorem lw_p47 : lw_okq (⟨"RoadsWithTidesModel", "turnsOf", "(IIII)I"⟩, 56) := ⟨⟨by decide +kernel, by decide +kernel⟩, List.mem_of_getElem? (i := 1187) (by decide +kernel), List.mem_of_getElem? (i := 1501) (by decide +kernel), List.mem_of_getElem? (i := 1502) (by decide +kernel)⟩
def lw_privs_3 : List (MethodName × Nat) := [(⟨"RoadsWithTidesModel", "oneOf", "(CII)I"⟩, 56), (⟨"RoadsWithTidesModel", "fault", "(I)V"⟩, 56), (⟨"RoadsWithTidesModel", "need", "(C)V"⟩, 56), (⟨"RoadsWithTidesModel", "passes", "(C)Z"⟩, 56), (⟨"RoadsWithTidesModel", "number", "(II)I"⟩, 56), (⟨"RoadsWithTidesModel", "held", "(I)I"⟩, 56), (⟨"RoadsWithTidesModel", "sum", "(I)I"⟩, 56), (⟨"RoadsWithTidesModel", "product", "(I)I"⟩, 56), (⟨"RoadsWithTidesModel", "thing", "(I)I"⟩, 56), (⟨"RoadsWithTidesModel", "isPlace", "(I)Z"⟩, 56), (⟨"RoadsWithTidesModel", "lost", "()I"⟩, 56), (⟨"RoadsWithTidesModel", "cartsAt", "(II)I"⟩, 56), (⟨"RoadsWithTidesModel", "isThere", "(II)Z"⟩, 56), (⟨"RoadsWithTidesModel", "levelAt", "(I)I"⟩, 56), (⟨"RoadsWithTidesModel", "isRoad", "(I)Z"⟩, 56), (⟨"RoadsWithTidesModel", "turnsOf", "(IIII)I"⟩, 56)]
theorem lw_r3 : ∀ q ∈ lw_privs_3, lw_okq q := List.forall_mem_cons.mpr ⟨lw_p32, List.forall_mem_cons.mpr ⟨lw_p33, List.forall_mem_cons.mpr ⟨lw_p34, List.forall_mem_cons.mpr ⟨lw_p35, List.forall_mem_cons.mpr ⟨lw_p36, List.forall_mem_cons.mpr ⟨lw_p37, List.forall_mem_cons.mpr ⟨lw_p38, List.forall_mem_cons.mpr ⟨lw_p39, List.forall_mem_cons.mpr ⟨lw_p40, List.forall_mem_cons.mpr ⟨lw_p41, List.forall_mem_cons.mpr ⟨lw_p42, List.forall_mem_cons.mpr ⟨lw_p43, List.forall_mem_cons.mpr ⟨lw_p44, List.forall_mem_cons.mpr ⟨lw_p45, List.forall_mem_cons.mpr ⟨lw_p46, List.forall_mem_cons.mpr ⟨lw_p47, fun _ h => absurd h List.not_mem_nil⟩⟩⟩⟩⟩⟩⟩⟩⟩⟩⟩⟩⟩⟩⟩⟩
theorem lw_p48 : lw_okq (⟨"RoadsWithTidesModel", "isCart", "(I)Z"⟩, 56) := ⟨⟨by decide +kernel, by decide +kernel⟩, List.mem_of_getElem? (i := 1187) (by decide +kernel), List.mem_of_getElem? (i := 1511) (by decide +kernel), List.mem_of_getElem? (i := 1512) (by decide +kernel)⟩
theorem lw_p49 : lw_okq (⟨"RoadsWithTidesModel", "refusesOut", "(II)I"⟩, 56) := ⟨⟨by decide +kernel, by decide +kernel⟩, List.mem_of_getElem? (i := 1187) (by decide +kernel), List.mem_of_getElem? (i := 1527) (by decide +kernel), List.mem_of_getElem? (i := 1528) (by decide +kernel)⟩
theorem lw_p50 : lw_okq (⟨"RoadsWithTidesModel", "remember", "([I)V"⟩, 56) := ⟨⟨by decide +kernel, by decide +kernel⟩, List.mem_of_getElem? (i := 1187) (by decide +kernel), List.mem_of_getElem? (i := 1531) (by decide +kernel), List.mem_of_getElem? (i := 1532) (by decide +kernel)⟩
theorem lw_p51 : lw_okq (⟨"RoadsWithTidesModel", "goOut", "(II)I"⟩, 56) := ⟨⟨by decide +kernel, by decide +kernel⟩, List.mem_of_getElem? (i := 1187) (by decide +kernel), List.mem_of_getElem? (i := 1538) (by decide +kernel), List.mem_of_getElem? (i := 1539) (by decide +kernel)⟩
theorem lw_p52 : lw_okq (⟨"RoadsWithTidesModel", "canRound", "(I)Z"⟩, 56) := ⟨⟨by decide +kernel, by decide +kernel⟩, List.mem_of_getElem? (i := 1187) (by decide +kernel), List.mem_of_getElem? (i := 1546) (by decide +kernel), List.mem_of_getElem? (i := 1547) (by decide +kernel)⟩
theorem lw_p53 : lw_okq (⟨"RoadsWithTidesModel", "goRound", "(I)I"⟩, 56) := ⟨⟨by decide +kernel, by decide +kernel⟩, List.mem_of_getElem? (i := 1187) (by decide +kernel), List.mem_of_getElem? (i := 1550) (by decide +kernel), List.mem_of_getElem? (i := 1551) (by decide +kernel)⟩
theorem lw_p54 : lw_okq (⟨"RoadsWithTidesModel", "canChain", "(I)Z"⟩, 56) := ⟨⟨by decide +kernel, by decide +kernel⟩, List.mem_of_getElem? (i := 1187) (by decide +kernel), List.mem_of_getElem? (i := 1558) (by decide +kernel), List.mem_of_getElem? (i := 1559) (by decide +kernel)⟩
theorem lw_p55 : lw_okq (⟨"RoadsWithTidesModel", "canLoad", "(I)Z"⟩, 56) := ⟨⟨by decide +kernel, by decide +kernel⟩, List.mem_of_getElem? (i := 1187) (by decide +kernel), List.mem_of_getElem? (i := 1566) (by decide +kernel), List.mem_of_getElem? (i := 1567) (by decide +kernel)⟩
theorem lw_p56 : lw_okq (⟨"RoadsWithTidesModel", "isUsed", "([II)Z"⟩, 56) := ⟨⟨by decide +kernel, by decide +kernel⟩, List.mem_of_getElem? (i := 1187) (by decide +kernel), List.mem_of_getElem? (i := 1574) (by decide +kernel), List.mem_of_getElem? (i := 1575) (by decide +kernel)⟩
theorem lw_p57 : lw_okq (⟨"RoadsWithTidesModel", "beginTurns", "()V"⟩, 56) := ⟨⟨by decide +kernel, by decide +kernel⟩, List.mem_of_getElem? (i := 1187) (by decide +kernel), List.mem_of_getElem? (i := 1582) (by decide +kernel), List.mem_of_getElem? (i := 1583) (by decide +kernel)⟩
theorem lw_p58 : lw_okq (⟨"RoadsWithTidesModel", "goTurns", "([II)V"⟩, 56) := ⟨⟨by decide +kernel, by decide +kernel⟩, List.mem_of_getElem? (i := 1187) (by decide +kernel), List.mem_of_getElem? (i := 1586) (by decide +kernel), List.mem_of_getElem? (i := 1587) (by decide +kernel)⟩
theorem lw_p59 : lw_okq (⟨"RoadsWithTidesModel", "goTurn", "([I)V"⟩, 56) := ⟨⟨by decide +kernel, by decide +kernel⟩, List.mem_of_getElem? (i := 1187) (by decide +kernel), List.mem_of_getElem? (i := 1590) (by decide +kernel), List.mem_of_getElem? (i := 1591) (by decide +kernel)⟩
theorem lw_p60 : lw_okq (⟨"RoadsWithTidesModel", "tell", "(I)V"⟩, 56) := ⟨⟨by decide +kernel, by decide +kernel⟩, List.mem_of_getElem? (i := 1187) (by decide +kernel), List.mem_of_getElem? (i := 1595) (by decide +kernel), List.mem_of_getElem? (i := 1596) (by decide +kernel)⟩
theorem lw_p61 : lw_okq (⟨"RoadsWithTidesModel", "readAct", "(I)V"⟩, 56) := ⟨⟨by decide +kernel, by decide +kernel⟩, List.mem_of_getElem? (i := 1187) (by decide +kernel), List.mem_of_getElem? (i := 1603) (by decide +kernel), List.mem_of_getElem? (i := 1604) (by decide +kernel)⟩
theorem lw_p62 : lw_okq (⟨"RoadsWithTidesModel", "act", "(III)Z"⟩, 56) := ⟨⟨by decide +kernel, by decide +kernel⟩, List.mem_of_getElem? (i := 1187) (by decide +kernel), List.mem_of_getElem? (i := 1607) (by decide +kernel), List.mem_of_getElem? (i := 1608) (by decide +kernel)⟩
theorem lw_p63 : lw_okq (⟨"RoadsWithTidesModel", "levelIn", "(I)I"⟩, 56) := ⟨⟨by decide +kernel, by decide +kernel⟩, List.mem_of_getElem? (i := 1187) (by decide +kernel), List.mem_of_getElem? (i := 1622) (by decide +kernel), List.mem_of_getElem? (i := 1623) (by decide +kernel)⟩
def lw_privs_4 : List (MethodName × Nat) := [(⟨"RoadsWithTidesModel", "isCart", "(I)Z"⟩, 56), (⟨"RoadsWithTidesModel", "refusesOut", "(II)I"⟩, 56), (⟨"RoadsWithTidesModel", "remember", "([I)V"⟩, 56), (⟨"RoadsWithTidesModel", "goOut", "(II)I"⟩, 56), (⟨"RoadsWithTidesModel", "canRound", "(I)Z"⟩, 56), (⟨"RoadsWithTidesModel", "goRound", "(I)I"⟩, 56), (⟨"RoadsWithTidesModel", "canChain", "(I)Z"⟩, 56), (⟨"RoadsWithTidesModel", "canLoad", "(I)Z"⟩, 56), (⟨"RoadsWithTidesModel", "isUsed", "([II)Z"⟩, 56), (⟨"RoadsWithTidesModel", "beginTurns", "()V"⟩, 56), (⟨"RoadsWithTidesModel", "goTurns", "([II)V"⟩, 56), (⟨"RoadsWithTidesModel", "goTurn", "([I)V"⟩, 56), (⟨"RoadsWithTidesModel", "tell", "(I)V"⟩, 56), (⟨"RoadsWithTidesModel", "readAct", "(I)V"⟩, 56), (⟨"RoadsWithTidesModel", "act", "(III)Z"⟩, 56), (⟨"RoadsWithTidesModel", "levelIn", "(I)I"⟩, 56)]
theorem lw_r4 : ∀ q ∈ lw_privs_4, lw_okq q := List.forall_mem_cons.mpr ⟨lw_p48, List.forall_mem_cons.mpr ⟨lw_p49, List.forall_mem_cons.mpr ⟨lw_p50, List.forall_mem_cons.mpr ⟨lw_p51, List.forall_mem_cons.mpr ⟨lw_p52, List.forall_mem_cons.mpr ⟨lw_p53, List.forall_mem_cons.mpr ⟨lw_p54, List.forall_mem_cons.mpr ⟨lw_p55, List.forall_mem_cons.mpr ⟨lw_p56, List.forall_mem_cons.mpr ⟨lw_p57, List.forall_mem_cons.mpr ⟨lw_p58, List.forall_mem_cons.mpr ⟨lw_p59, List.forall_mem_cons.mpr ⟨lw_p60, List.forall_mem_cons.mpr ⟨lw_p61, List.forall_mem_cons.mpr ⟨lw_p62, List.forall_mem_cons.mpr ⟨lw_p63, fun _ h => absurd h List.not_mem_nil⟩⟩⟩⟩⟩⟩⟩⟩⟩⟩⟩⟩⟩⟩⟩⟩
theorem lw_p64 : lw_okq (⟨"RoadsWithTidesModel", "comesIn", "(II)Z"⟩, 56) := ⟨⟨by decide +kernel, by decide +kernel⟩, List.mem_of_getElem? (i := 1187) (by decide +kernel), List.mem_of_getElem? (i := 1631) (by decide +kernel), List.mem_of_getElem? (i := 1632) (by decide +kernel)⟩
theorem lw_p65 : lw_okq (⟨"RoadsWithTidesModel", "wayOf", "(III)I"⟩, 56) := ⟨⟨by decide +kernel, by decide +kernel⟩, List.mem_of_getElem? (i := 1187) (by decide +kernel), List.mem_of_getElem? (i := 1658) (by decide +kernel), List.mem_of_getElem? (i := 1659) (by decide +kernel)⟩
theorem lw_p66 : lw_okq (⟨"RoadsWithTidesModel", "findSoon", "(III)V"⟩, 56) := ⟨⟨by decide +kernel, by decide +kernel⟩, List.mem_of_getElem? (i := 1187) (by decide +kernel), List.mem_of_getElem? (i := 1662) (by decide +kernel), List.mem_of_getElem? (i := 1663) (by decide +kernel)⟩
theorem lw_p67 : lw_okq (⟨"RoadsWithTidesModel", "soonestBy", "(IIIII)I"⟩, 56) := ⟨⟨by decide +kernel, by decide +kernel⟩, List.mem_of_getElem? (i := 1187) (by decide +kernel), List.mem_of_getElem? (i := 1670) (by decide +kernel), List.mem_of_getElem? (i := 1671) (by decide +kernel)⟩
theorem lw_p68 : lw_okq (⟨"RoadsWithTidesModel", "canGo", "(IIII)Z"⟩, 56) := ⟨⟨by decide +kernel, by decide +kernel⟩, List.mem_of_getElem? (i := 1187) (by decide +kernel), List.mem_of_getElem? (i := 1674) (by decide +kernel), List.mem_of_getElem? (i := 1675) (by decide +kernel)⟩
theorem lw_p69 : lw_okq (⟨"RoadsWithTidesModel", "nextRoad", "(IIIIII)I"⟩, 56) := ⟨⟨by decide +kernel, by decide +kernel⟩, List.mem_of_getElem? (i := 1187) (by decide +kernel), List.mem_of_getElem? (i := 1678) (by decide +kernel), List.mem_of_getElem? (i := 1679) (by decide +kernel)⟩
theorem lw_p70 : lw_okq (⟨"RoadsWithTidesModel", "canCome", "(IIIIII)Z"⟩, 56) := ⟨⟨by decide +kernel, by decide +kernel⟩, List.mem_of_getElem? (i := 1187) (by decide +kernel), List.mem_of_getElem? (i := 1682) (by decide +kernel), List.mem_of_getElem? (i := 1683) (by decide +kernel)⟩
theorem lw_p71 : lw_okq (⟨"RoadsWithTidesModel", "goCarrier", "(IIIII)V"⟩, 56) := ⟨⟨by decide +kernel, by decide +kernel⟩, List.mem_of_getElem? (i := 1187) (by decide +kernel), List.mem_of_getElem? (i := 1706) (by decide +kernel), List.mem_of_getElem? (i := 1707) (by decide +kernel)⟩
theorem lw_p72 : lw_okq (⟨"RoadsWithTidesModel", "soonFrom", "(III)I"⟩, 56) := ⟨⟨by decide +kernel, by decide +kernel⟩, List.mem_of_getElem? (i := 1187) (by decide +kernel), List.mem_of_getElem? (i := 1710) (by decide +kernel), List.mem_of_getElem? (i := 1711) (by decide +kernel)⟩
theorem lw_p73 : lw_okq (⟨"RoadsWithTidesModel", "ridesOn", "(I)Z"⟩, 56) := ⟨⟨by decide +kernel, by decide +kernel⟩, List.mem_of_getElem? (i := 1187) (by decide +kernel), List.mem_of_getElem? (i := 1722) (by decide +kernel), List.mem_of_getElem? (i := 1723) (by decide +kernel)⟩
theorem lw_p74 : lw_okq (⟨"RoadsWithTidesModel", "rides", "(IIIIZ)Z"⟩, 56) := ⟨⟨by decide +kernel, by decide +kernel⟩, List.mem_of_getElem? (i := 1187) (by decide +kernel), List.mem_of_getElem? (i := 1726) (by decide +kernel), List.mem_of_getElem? (i := 1727) (by decide +kernel)⟩
theorem lw_p75 : lw_okq (⟨"RoadsWithTidesModel", "fitsBy", "(IIII)Z"⟩, 56) := ⟨⟨by decide +kernel, by decide +kernel⟩, List.mem_of_getElem? (i := 1187) (by decide +kernel), List.mem_of_getElem? (i := 1750) (by decide +kernel), List.mem_of_getElem? (i := 1751) (by decide +kernel)⟩
theorem lw_p76 : lw_okq (⟨"RoadsWithTidesModel", "findTold", "(III)V"⟩, 56) := ⟨⟨by decide +kernel, by decide +kernel⟩, List.mem_of_getElem? (i := 1187) (by decide +kernel), List.mem_of_getElem? (i := 1759) (by decide +kernel), List.mem_of_getElem? (i := 1760) (by decide +kernel)⟩
theorem lw_p77 : lw_okq (⟨"RoadsWithTidesModel", "toldAt", "(I)I"⟩, 56) := ⟨⟨by decide +kernel, by decide +kernel⟩, List.mem_of_getElem? (i := 1187) (by decide +kernel), List.mem_of_getElem? (i := 1763) (by decide +kernel), List.mem_of_getElem? (i := 1764) (by decide +kernel)⟩
theorem lw_p78 : lw_okq (⟨"RoadsWithTidesModel", "draw", "(I)I"⟩, 56) := ⟨⟨by decide +kernel, by decide +kernel⟩, List.mem_of_getElem? (i := 1187) (by decide +kernel), List.mem_of_getElem? (i := 1775) (by decide +kernel), List.mem_of_getElem? (i := 1776) (by decide +kernel)⟩
def lw_privs_5 : List (MethodName × Nat) := [(⟨"RoadsWithTidesModel", "comesIn", "(II)Z"⟩, 56), (⟨"RoadsWithTidesModel", "wayOf", "(III)I"⟩, 56), (⟨"RoadsWithTidesModel", "findSoon", "(III)V"⟩, 56), (⟨"RoadsWithTidesModel", "soonestBy", "(IIIII)I"⟩, 56), (⟨"RoadsWithTidesModel", "canGo", "(IIII)Z"⟩, 56), (⟨"RoadsWithTidesModel", "nextRoad", "(IIIIII)I"⟩, 56), (⟨"RoadsWithTidesModel", "canCome", "(IIIIII)Z"⟩, 56), (⟨"RoadsWithTidesModel", "goCarrier", "(IIIII)V"⟩, 56), (⟨"RoadsWithTidesModel", "soonFrom", "(III)I"⟩, 56), (⟨"RoadsWithTidesModel", "ridesOn", "(I)Z"⟩, 56), (⟨"RoadsWithTidesModel", "rides", "(IIIIZ)Z"⟩, 56), (⟨"RoadsWithTidesModel", "fitsBy", "(IIII)Z"⟩, 56), (⟨"RoadsWithTidesModel", "findTold", "(III)V"⟩, 56), (⟨"RoadsWithTidesModel", "toldAt", "(I)I"⟩, 56), (⟨"RoadsWithTidesModel", "draw", "(I)I"⟩, 56)]
theorem lw_r5 : ∀ q ∈ lw_privs_5, lw_okq q := List.forall_mem_cons.mpr ⟨lw_p64, List.forall_mem_cons.mpr ⟨lw_p65, List.forall_mem_cons.mpr ⟨lw_p66, List.forall_mem_cons.mpr ⟨lw_p67, List.forall_mem_cons.mpr ⟨lw_p68, List.forall_mem_cons.mpr ⟨lw_p69, List.forall_mem_cons.mpr ⟨lw_p70, List.forall_mem_cons.mpr ⟨lw_p71, List.forall_mem_cons.mpr ⟨lw_p72, List.forall_mem_cons.mpr ⟨lw_p73, List.forall_mem_cons.mpr ⟨lw_p74, List.forall_mem_cons.mpr ⟨lw_p75, List.forall_mem_cons.mpr ⟨lw_p76, List.forall_mem_cons.mpr ⟨lw_p77, List.forall_mem_cons.mpr ⟨lw_p78, fun _ h => absurd h List.not_mem_nil⟩⟩⟩⟩⟩⟩⟩⟩⟩⟩⟩⟩⟩⟩⟩
def lw_privs : List (MethodName × Nat) := lw_privs_1 ++ (lw_privs_2 ++ (lw_privs_3 ++ (lw_privs_4 ++ (lw_privs_5))))
def lw_tbl : List Cond := k2_sels lw_privs ++ tables_1
theorem lw_privs_ok : ∀ q ∈ lw_privs, lw_okq q := by
  show ∀ q ∈ lw_privs_1 ++ (lw_privs_2 ++ (lw_privs_3 ++ (lw_privs_4 ++ (lw_privs_5)))), lw_okq q
  exact List.forall_mem_append.mpr ⟨lw_r1, List.forall_mem_append.mpr ⟨lw_r2, List.forall_mem_append.mpr ⟨lw_r3, List.forall_mem_append.mpr ⟨lw_r4, lw_r5⟩⟩⟩⟩
def RX0 : String := "RoadsWithTides$Day"
def TX0 : u_T := fun k => match k with
  | 0 => ("RoadsWithTides$Day", "kinds", "[I", true)
  | 1 => ("RoadsWithTides$Day", "ones", "[I", true)
  | 2 => ("RoadsWithTides$Day", "others", "[I", true)
  | 3 => ("RoadsWithTides$Day", "many", "I", false)
  | _ => ("RoadsWithTides$Day", "came", "I", false)
def tyX0 : Nat → FieldType := fun k => match k with
  | 0 => .array .int
  | 1 => .array .int
  | 2 => .array .int
  | 3 => .int
  | _ => .int
abbrev wsX00 : List Cond := u_ws RX0 TX0 5
theorem nmX0 : ∀ a, a < 5 → ∀ b, b < 5 → a ≠ b → (TX0 a).2.1 ≠ (TX0 b).2.1 := by decide +kernel
theorem tyX0_ok : ∀ k, k < 5 → parseFieldDescriptor (TX0 k).2.2.1 = some (tyX0 k) := by decide +kernel
abbrev cX0_init : ByteArray := prog_2_method_1_code
def yX0_init : MethodName := ⟨RX0, "<init>", "()V"⟩
abbrev cX0_readActs : ByteArray := prog_2_method_2_code
def yX0_readActs : MethodName := ⟨RX0, "readActs", "(LRoadsWithTides$Text;)I"⟩
abbrev cX0_readAct : ByteArray := prog_2_method_3_code
def yX0_readAct : MethodName := ⟨RX0, "readAct", "(LRoadsWithTides$Text;)Z"⟩
abbrev cX0_runOn : ByteArray := prog_2_method_4_code
def yX0_runOn : MethodName := ⟨RX0, "runOn", "(LRoadsWithTides$Turns;)I"⟩
abbrev cX0_runAct : ByteArray := prog_2_method_5_code
def yX0_runAct : MethodName := ⟨RX0, "runAct", "(LRoadsWithTides$Turns;III)I"⟩
def RX1 : String := "RoadsWithTides$History"
def TX1 : u_T := fun k => match k with
  | 0 => ("RoadsWithTides$History", "ring", "[LRoadsWithTides$Moment;", true)
  | 1 => ("RoadsWithTides$History", "kept", "[LRoadsWithTides$Moment;", true)
  | 2 => ("RoadsWithTides$History", "isKept", "[Z", true)
  | 3 => ("RoadsWithTides$History", "aside", "LRoadsWithTides$Moment;", true)
  | 4 => ("RoadsWithTides$History", "free", "I", false)
  | _ => ("RoadsWithTides$History", "size", "I", false)
def tyX1 : Nat → FieldType := fun k => match k with
  | 0 => .array (.object "RoadsWithTides$Moment")
  | 1 => .array (.object "RoadsWithTides$Moment")
  | 2 => .array .boolean
  | 3 => .object "RoadsWithTides$Moment"
  | 4 => .int
  | _ => .int
abbrev wsX10 : List Cond := u_ws RX1 TX1 6
theorem nmX1 : ∀ a, a < 6 → ∀ b, b < 6 → a ≠ b → (TX1 a).2.1 ≠ (TX1 b).2.1 := by decide +kernel
theorem tyX1_ok : ∀ k, k < 6 → parseFieldDescriptor (TX1 k).2.2.1 = some (tyX1 k) := by decide +kernel
abbrev cX1_init : ByteArray := prog_3_method_1_code
def yX1_init : MethodName := ⟨RX1, "<init>", "()V"⟩
abbrev cX1_prepare : ByteArray := prog_3_method_2_code
def yX1_prepare : MethodName := ⟨RX1, "prepare", "(LRoadsWithTides$Moment;)V"⟩
abbrev cX1_keepIfDone : ByteArray := prog_3_method_3_code
def yX1_keepIfDone : MethodName := ⟨RX1, "keepIfDone", "(I)I"⟩
abbrev cX1_stepBack : ByteArray := prog_3_method_4_code
def yX1_stepBack : MethodName := ⟨RX1, "stepBack", "(LRoadsWithTides$Moment;)Z"⟩
abbrev cX1_store : ByteArray := prog_3_method_5_code
def yX1_store : MethodName := ⟨RX1, "store", "(ILRoadsWithTides$Moment;)Z"⟩
abbrev cX1_restore : ByteArray := prog_3_method_6_code
def yX1_restore : MethodName := ⟨RX1, "restore", "(ILRoadsWithTides$Moment;)Z"⟩
abbrev cX1_forgetAll : ByteArray := prog_3_method_7_code
def yX1_forgetAll : MethodName := ⟨RX1, "forgetAll", "()V"⟩
def RX2 : String := "RoadsWithTides$Land"
def TX2 : u_T := fun k => match k with
  | 0 => ("RoadsWithTides$Land", "present", "LRoadsWithTides$Moment;", true)
  | 1 => ("RoadsWithTides$Land", "places", "I", false)
  | 2 => ("RoadsWithTides$Land", "roads", "I", false)
  | 3 => ("RoadsWithTides$Land", "placeHeight", "[I", true)
  | 4 => ("RoadsWithTides$Land", "steps", "[I", true)
  | 5 => ("RoadsWithTides$Land", "roadHeight", "[I", true)
  | 6 => ("RoadsWithTides$Land", "newPlaces", "I", false)
  | 7 => ("RoadsWithTides$Land", "newRoads", "I", false)
  | _ => ("RoadsWithTides$Land", "newCarts", "I", false)
def tyX2 : Nat → FieldType := fun k => match k with
  | 0 => .object "RoadsWithTides$Moment"
  | 1 => .int
  | 2 => .int
  | 3 => .array .int
  | 4 => .array .int
  | 5 => .array .int
  | 6 => .int
  | 7 => .int
  | _ => .int
abbrev wsX20 : List Cond := u_ws RX2 TX2 9
theorem nmX2 : ∀ a, a < 9 → ∀ b, b < 9 → a ≠ b → (TX2 a).2.1 ≠ (TX2 b).2.1 := by decide +kernel
theorem tyX2_ok : ∀ k, k < 9 → parseFieldDescriptor (TX2 k).2.2.1 = some (tyX2 k) := by decide +kernel
abbrev cX2_init : ByteArray := prog_4_method_1_code
def yX2_init : MethodName := ⟨RX2, "<init>", "()V"⟩
abbrev cX2_hasPlace : ByteArray := prog_4_method_2_code
def yX2_hasPlace : MethodName := ⟨RX2, "hasPlace", "(I)Z"⟩
abbrev cX2_hasRoad : ByteArray := prog_4_method_3_code
def yX2_hasRoad : MethodName := ⟨RX2, "hasRoad", "(I)Z"⟩
abbrev cX2_hasCart : ByteArray := prog_4_method_4_code
def yX2_hasCart : MethodName := ⟨RX2, "hasCart", "(I)Z"⟩
abbrev cX2_allPlaces : ByteArray := prog_4_method_5_code
def yX2_allPlaces : MethodName := ⟨RX2, "allPlaces", "()I"⟩
abbrev cX2_roadsAt : ByteArray := prog_4_method_6_code
def yX2_roadsAt : MethodName := ⟨RX2, "roadsAt", "(I)I"⟩
abbrev cX2_readFlats : ByteArray := prog_4_method_7_code
def yX2_readFlats : MethodName := ⟨RX2, "readFlats", "(LRoadsWithTides$Text;)I"⟩
abbrev cX2_readPlace : ByteArray := prog_4_method_8_code
def yX2_readPlace : MethodName := ⟨RX2, "readPlace", "(LRoadsWithTides$Text;)Z"⟩
abbrev cX2_readRoad : ByteArray := prog_4_method_9_code
def yX2_readRoad : MethodName := ⟨RX2, "readRoad", "(LRoadsWithTides$Text;)Z"⟩
abbrev cX2_acceptFlats : ByteArray := prog_4_method_10_code
def yX2_acceptFlats : MethodName := ⟨RX2, "acceptFlats", "()V"⟩
abbrev cX2_readCarts : ByteArray := prog_4_method_11_code
def yX2_readCarts : MethodName := ⟨RX2, "readCarts", "(LRoadsWithTides$Text;)I"⟩
abbrev cX2_readCart : ByteArray := prog_4_method_12_code
def yX2_readCart : MethodName := ⟨RX2, "readCart", "(LRoadsWithTides$Text;)Z"⟩
abbrev cX2_acceptCarts : ByteArray := prog_4_method_13_code
def yX2_acceptCarts : MethodName := ⟨RX2, "acceptCarts", "()V"⟩
abbrev cX2_tellHeights : ByteArray := prog_4_method_14_code
def yX2_tellHeights : MethodName := ⟨RX2, "tellHeights", "(IIII)I"⟩
abbrev cX2_entryOf : ByteArray := prog_4_method_15_code
def yX2_entryOf : MethodName := ⟨RX2, "entryOf", "(II)I"⟩
def RX3 : String := "RoadsWithTides$Marks"
def TX3 : u_T := fun k => match k with
  | 0 => ("RoadsWithTides$Marks", "times", "[I", true)
  | 1 => ("RoadsWithTides$Marks", "levels", "[I", true)
  | 2 => ("RoadsWithTides$Marks", "many", "I", false)
  | 3 => ("RoadsWithTides$Marks", "seen", "[J", true)
  | 4 => ("RoadsWithTides$Marks", "leastLong", "I", false)
  | 5 => ("RoadsWithTides$Marks", "leastHigh", "I", false)
  | _ => ("RoadsWithTides$Marks", "leastOn", "I", false)
def tyX3 : Nat → FieldType := fun k => match k with
  | 0 => .array .int
  | 1 => .array .int
  | 2 => .int
  | 3 => .array .long
  | 4 => .int
  | 5 => .int
  | _ => .int
abbrev wsX30 : List Cond := u_ws RX3 TX3 7
theorem nmX3 : ∀ a, a < 7 → ∀ b, b < 7 → a ≠ b → (TX3 a).2.1 ≠ (TX3 b).2.1 := by decide +kernel
theorem tyX3_ok : ∀ k, k < 7 → parseFieldDescriptor (TX3 k).2.2.1 = some (tyX3 k) := by decide +kernel
abbrev cX3_init : ByteArray := prog_5_method_1_code
def yX3_init : MethodName := ⟨RX3, "<init>", "()V"⟩
abbrev cX3_isError : ByteArray := prog_5_method_2_code
def yX3_isError : MethodName := ⟨RX3, "isError", "(I)Z"⟩
abbrev cX3_isTime : ByteArray := prog_5_method_3_code
def yX3_isTime : MethodName := ⟨RX3, "isTime", "(I)Z"⟩
abbrev cX3_put : ByteArray := prog_5_method_4_code
def yX3_put : MethodName := ⟨RX3, "put", "(II)Z"⟩
abbrev cX3_search : ByteArray := prog_5_method_5_code
def yX3_search : MethodName := ⟨RX3, "search", "(III)I"⟩
abbrev cX3_suits : ByteArray := prog_5_method_6_code
def yX3_suits : MethodName := ⟨RX3, "suits", "(IIII)Z"⟩
def RX4 : String := "RoadsWithTides$Moment"
def TX4 : u_T := fun k => match k with
  | 0 => ("RoadsWithTides$Moment", "now", "I", false)
  | 1 => ("RoadsWithTides$Moment", "cartCount", "I", false)
  | 2 => ("RoadsWithTides$Moment", "cartParts", "[I", true)
  | 3 => ("RoadsWithTides$Moment", "first", "[I", true)
  | _ => ("RoadsWithTides$Moment", "other", "[I", true)
def tyX4 : Nat → FieldType := fun k => match k with
  | 0 => .int
  | 1 => .int
  | 2 => .array .int
  | 3 => .array .int
  | _ => .array .int
abbrev wsX40 : List Cond := u_ws RX4 TX4 5
theorem nmX4 : ∀ a, a < 5 → ∀ b, b < 5 → a ≠ b → (TX4 a).2.1 ≠ (TX4 b).2.1 := by decide +kernel
theorem tyX4_ok : ∀ k, k < 5 → parseFieldDescriptor (TX4 k).2.2.1 = some (tyX4 k) := by decide +kernel
abbrev cX4_init : ByteArray := prog_6_method_1_code
def yX4_init : MethodName := ⟨RX4, "<init>", "()V"⟩
abbrev cX4_copyFrom : ByteArray := prog_6_method_2_code
def yX4_copyFrom : MethodName := ⟨RX4, "copyFrom", "(LRoadsWithTides$Moment;)V"⟩
abbrev cX4_of : ByteArray := prog_6_method_3_code
def yX4_of : MethodName := ⟨RX4, "of", "(II)I"⟩
abbrev cX4_put : ByteArray := prog_6_method_4_code
def yX4_put : MethodName := ⟨RX4, "put", "(III)V"⟩
abbrev cX4_putAtPlace : ByteArray := prog_6_method_5_code
def yX4_putAtPlace : MethodName := ⟨RX4, "putAtPlace", "(II)V"⟩
abbrev cX4_putOnRoad : ByteArray := prog_6_method_6_code
def yX4_putOnRoad : MethodName := ⟨RX4, "putOnRoad", "(IIII)V"⟩
abbrev cX4_cartsWith : ByteArray := prog_6_method_7_code
def yX4_cartsWith : MethodName := ⟨RX4, "cartsWith", "(II)I"⟩
abbrev cX4_cartsCut : ByteArray := prog_6_method_8_code
def yX4_cartsCut : MethodName := ⟨RX4, "cartsCut", "()I"⟩
abbrev cX4_farEnd : ByteArray := prog_6_method_9_code
def yX4_farEnd : MethodName := ⟨RX4, "farEnd", "(II)I"⟩
def RX5 : String := "RoadsWithTides$Row"
def TX5 : u_T := fun k => match k with
  | 0 => ("RoadsWithTides$Row", "numbers", "[I", true)
  | _ => ("RoadsWithTides$Row", "size", "I", false)
def tyX5 : Nat → FieldType := fun k => match k with
  | 0 => .array .int
  | _ => .int
abbrev wsX50 : List Cond := u_ws RX5 TX5 2
theorem nmX5 : ∀ a, a < 2 → ∀ b, b < 2 → a ≠ b → (TX5 a).2.1 ≠ (TX5 b).2.1 := by decide +kernel
theorem tyX5_ok : ∀ k, k < 2 → parseFieldDescriptor (TX5 k).2.2.1 = some (tyX5 k) := by decide +kernel
abbrev cX5_init : ByteArray := prog_7_method_1_code
def yX5_init : MethodName := ⟨RX5, "<init>", "()V"⟩
abbrev cX5_clear : ByteArray := prog_7_method_2_code
def yX5_clear : MethodName := ⟨RX5, "clear", "()V"⟩
abbrev cX5_add : ByteArray := prog_7_method_3_code
def yX5_add : MethodName := ⟨RX5, "add", "(I)V"⟩
def RX6 : String := "RoadsWithTides$Rule"
def TX6 : u_T := fun k => match k with
  | 0 => ("RoadsWithTides$Rule", "code", "[I", true)
  | 1 => ("RoadsWithTides$Rule", "size", "I", false)
  | 2 => ("RoadsWithTides$Rule", "draft", "[I", true)
  | 3 => ("RoadsWithTides$Rule", "draftSize", "I", false)
  | 4 => ("RoadsWithTides$Rule", "waiting", "[I", true)
  | 5 => ("RoadsWithTides$Rule", "waitingSize", "I", false)
  | 6 => ("RoadsWithTides$Rule", "stack", "[I", true)
  | 7 => ("RoadsWithTides$Rule", "values", "[I", true)
  | 8 => ("RoadsWithTides$Rule", "depth", "I", false)
  | _ => ("RoadsWithTides$Rule", "compared", "I", false)
def tyX6 : Nat → FieldType := fun k => match k with
  | 0 => .array .int
  | 1 => .int
  | 2 => .array .int
  | 3 => .int
  | 4 => .array .int
  | 5 => .int
  | 6 => .array .int
  | 7 => .array .int
  | 8 => .int
  | _ => .int
abbrev wsX60 : List Cond := u_ws RX6 TX6 10
theorem nmX6 : ∀ a, a < 10 → ∀ b, b < 10 → a ≠ b → (TX6 a).2.1 ≠ (TX6 b).2.1 := by decide +kernel
theorem tyX6_ok : ∀ k, k < 10 → parseFieldDescriptor (TX6 k).2.2.1 = some (tyX6 k) := by decide +kernel
abbrev cX6_init : ByteArray := prog_8_method_1_code
def yX6_init : MethodName := ⟨RX6, "<init>", "()V"⟩
abbrev cX6_readRule : ByteArray := prog_8_method_2_code
def yX6_readRule : MethodName := ⟨RX6, "readRule", "(LRoadsWithTides$Text;)Z"⟩
abbrev cX6_readAhead : ByteArray := prog_8_method_3_code
def yX6_readAhead : MethodName := ⟨RX6, "readAhead", "(LRoadsWithTides$Text;)Z"⟩
abbrev cX6_readThing : ByteArray := prog_8_method_4_code
def yX6_readThing : MethodName := ⟨RX6, "readThing", "(LRoadsWithTides$Text;)Z"⟩
abbrev cX6_readClose : ByteArray := prog_8_method_5_code
def yX6_readClose : MethodName := ⟨RX6, "readClose", "(LRoadsWithTides$Text;)Z"⟩
abbrev cX6_readOperator : ByteArray := prog_8_method_6_code
def yX6_readOperator : MethodName := ⟨RX6, "readOperator", "(LRoadsWithTides$Text;)Z"⟩
abbrev cX6_popTo : ByteArray := prog_8_method_7_code
def yX6_popTo : MethodName := ⟨RX6, "popTo", "(I)V"⟩
abbrev cX6_push : ByteArray := prog_8_method_8_code
def yX6_push : MethodName := ⟨RX6, "push", "(I)V"⟩
abbrev cX6_put : ByteArray := prog_8_method_9_code
def yX6_put : MethodName := ⟨RX6, "put", "(I)V"⟩
abbrev cX6_letterOf : ByteArray := prog_8_method_10_code
def yX6_letterOf : MethodName := ⟨RX6, "letterOf", "(I)I"⟩
abbrev cX6_rankOf : ByteArray := prog_8_method_11_code
def yX6_rankOf : MethodName := ⟨RX6, "rankOf", "(I)I"⟩
abbrev cX6_accept : ByteArray := prog_8_method_12_code
def yX6_accept : MethodName := ⟨RX6, "accept", "()V"⟩
abbrev cX6_turnsOf : ByteArray := prog_8_method_13_code
def yX6_turnsOf : MethodName := ⟨RX6, "turnsOf", "(IIIIII)I"⟩
abbrev cX6_reckon : ByteArray := prog_8_method_14_code
def yX6_reckon : MethodName := ⟨RX6, "reckon", "()I"⟩
abbrev cX6_valueOf : ByteArray := prog_8_method_15_code
def yX6_valueOf : MethodName := ⟨RX6, "valueOf", "(I)I"⟩
abbrev cX6_join : ByteArray := prog_8_method_16_code
def yX6_join : MethodName := ⟨RX6, "join", "(III)I"⟩
def RX7 : String := "RoadsWithTides$Text"
def TX7 : u_T := fun k => match k with
  | 0 => ("RoadsWithTides$Text", "signs", "[I", true)
  | 1 => ("RoadsWithTides$Text", "length", "I", false)
  | 2 => ("RoadsWithTides$Text", "at", "I", false)
  | _ => ("RoadsWithTides$Text", "limit", "I", false)
def tyX7 : Nat → FieldType := fun k => match k with
  | 0 => .array .int
  | 1 => .int
  | 2 => .int
  | _ => .int
abbrev wsX70 : List Cond := u_ws RX7 TX7 4
theorem nmX7 : ∀ a, a < 4 → ∀ b, b < 4 → a ≠ b → (TX7 a).2.1 ≠ (TX7 b).2.1 := by decide +kernel
theorem tyX7_ok : ∀ k, k < 4 → parseFieldDescriptor (TX7 k).2.2.1 = some (tyX7 k) := by decide +kernel
abbrev cX7_init : ByteArray := prog_9_method_1_code
def yX7_init : MethodName := ⟨RX7, "<init>", "()V"⟩
abbrev cX7_addFour : ByteArray := prog_9_method_2_code
def yX7_addFour : MethodName := ⟨RX7, "addFour", "(I)Z"⟩
abbrev cX7_cutTo : ByteArray := prog_9_method_3_code
def yX7_cutTo : MethodName := ⟨RX7, "cutTo", "(I)Z"⟩
abbrev cX7_clear : ByteArray := prog_9_method_4_code
def yX7_clear : MethodName := ⟨RX7, "clear", "()V"⟩
abbrev cX7_open : ByteArray := prog_9_method_5_code
def yX7_open : MethodName := ⟨RX7, "open", "(I)V"⟩
abbrev cX7_isAllRead : ByteArray := prog_9_method_6_code
def yX7_isAllRead : MethodName := ⟨RX7, "isAllRead", "()Z"⟩
abbrev cX7_peek : ByteArray := prog_9_method_7_code
def yX7_peek : MethodName := ⟨RX7, "peek", "()I"⟩
abbrev cX7_take : ByteArray := prog_9_method_8_code
def yX7_take : MethodName := ⟨RX7, "take", "(I)Z"⟩
abbrev cX7_isDigit : ByteArray := prog_9_method_9_code
def yX7_isDigit : MethodName := ⟨RX7, "isDigit", "()Z"⟩
abbrev cX7_takeNumber : ByteArray := prog_9_method_10_code
def yX7_takeNumber : MethodName := ⟨RX7, "takeNumber", "(I)I"⟩
abbrev cX7_takeLetter : ByteArray := prog_9_method_11_code
def yX7_takeLetter : MethodName := ⟨RX7, "takeLetter", "(I)I"⟩
abbrev cX7_behindLine : ByteArray := prog_9_method_12_code
def yX7_behindLine : MethodName := ⟨RX7, "behindLine", "()I"⟩
def RX8 : String := "RoadsWithTides$Tide"
def TX8 : u_T := fun k => match k with
  | 0 => ("RoadsWithTides$Tide", "parts", "[I", true)
  | 1 => ("RoadsWithTides$Tide", "draft", "[I", true)
  | 2 => ("RoadsWithTides$Tide", "rounds", "I", false)
  | _ => ("RoadsWithTides$Tide", "draftRounds", "I", false)
def tyX8 : Nat → FieldType := fun k => match k with
  | 0 => .array .int
  | 1 => .array .int
  | 2 => .int
  | _ => .int
abbrev wsX80 : List Cond := u_ws RX8 TX8 4
theorem nmX8 : ∀ a, a < 4 → ∀ b, b < 4 → a ≠ b → (TX8 a).2.1 ≠ (TX8 b).2.1 := by decide +kernel
theorem tyX8_ok : ∀ k, k < 4 → parseFieldDescriptor (TX8 k).2.2.1 = some (tyX8 k) := by decide +kernel
abbrev cX8_init : ByteArray := prog_10_method_1_code
def yX8_init : MethodName := ⟨RX8, "<init>", "()V"⟩
abbrev cX8_ofRound : ByteArray := prog_10_method_2_code
def yX8_ofRound : MethodName := ⟨RX8, "ofRound", "(IIII)I"⟩
abbrev cX8_heightAt : ByteArray := prog_10_method_3_code
def yX8_heightAt : MethodName := ⟨RX8, "heightAt", "(I)I"⟩
abbrev cX8_allGoInto : ByteArray := prog_10_method_4_code
def yX8_allGoInto : MethodName := ⟨RX8, "allGoInto", "(I)Z"⟩
abbrev cX8_readRounds : ByteArray := prog_10_method_5_code
def yX8_readRounds : MethodName := ⟨RX8, "readRounds", "(LRoadsWithTides$Text;)Z"⟩
abbrev cX8_readRound : ByteArray := prog_10_method_6_code
def yX8_readRound : MethodName := ⟨RX8, "readRound", "(LRoadsWithTides$Text;I)Z"⟩
abbrev cX8_readPart : ByteArray := prog_10_method_7_code
def yX8_readPart : MethodName := ⟨RX8, "readPart", "(LRoadsWithTides$Text;III)Z"⟩
abbrev cX8_accept : ByteArray := prog_10_method_8_code
def yX8_accept : MethodName := ⟨RX8, "accept", "()V"⟩
def RX9 : String := "RoadsWithTides$Turns"
def TX9 : u_T := fun k => match k with
  | 0 => ("RoadsWithTides$Turns", "land", "LRoadsWithTides$Land;", true)
  | 1 => ("RoadsWithTides$Turns", "present", "LRoadsWithTides$Moment;", true)
  | 2 => ("RoadsWithTides$Turns", "sea", "LRoadsWithTides$Tide;", true)
  | 3 => ("RoadsWithTides$Turns", "byRule", "LRoadsWithTides$Rule;", true)
  | 4 => ("RoadsWithTides$Turns", "patienceNow", "I", false)
  | 5 => ("RoadsWithTides$Turns", "cameBits", "I", false)
  | 6 => ("RoadsWithTides$Turns", "wreckedBits", "I", false)
  | 7 => ("RoadsWithTides$Turns", "tripTurns", "I", false)
  | 8 => ("RoadsWithTides$Turns", "tripMissed", "I", false)
  | 9 => ("RoadsWithTides$Turns", "yearsWrecked", "I", false)
  | 10 => ("RoadsWithTides$Turns", "yearsStill", "I", false)
  | _ => ("RoadsWithTides$Turns", "drawn", "I", false)
def tyX9 : Nat → FieldType := fun k => match k with
  | 0 => .object "RoadsWithTides$Land"
  | 1 => .object "RoadsWithTides$Moment"
  | 2 => .object "RoadsWithTides$Tide"
  | 3 => .object "RoadsWithTides$Rule"
  | 4 => .int
  | 5 => .int
  | 6 => .int
  | 7 => .int
  | 8 => .int
  | 9 => .int
  | 10 => .int
  | _ => .int
abbrev wsX90 : List Cond := u_ws RX9 TX9 12
theorem nmX9 : ∀ a, a < 12 → ∀ b, b < 12 → a ≠ b → (TX9 a).2.1 ≠ (TX9 b).2.1 := by decide +kernel
theorem tyX9_ok : ∀ k, k < 12 → parseFieldDescriptor (TX9 k).2.2.1 = some (tyX9 k) := by decide +kernel
abbrev cX9_init : ByteArray := prog_11_method_1_code
def yX9_init : MethodName := ⟨RX9, "<init>", "(LRoadsWithTides$Land;LRoadsWithTides$Tide;LRoadsWithTides$Rule;)V"⟩
abbrev cX9_isThere : ByteArray := prog_11_method_2_code
def yX9_isThere : MethodName := ⟨RX9, "isThere", "(II)Z"⟩
abbrev cX9_roadsThereAt : ByteArray := prog_11_method_3_code
def yX9_roadsThereAt : MethodName := ⟨RX9, "roadsThereAt", "(I)I"⟩
abbrev cX9_stays : ByteArray := prog_11_method_4_code
def yX9_stays : MethodName := ⟨RX9, "stays", "(III)I"⟩
abbrev cX9_turnsBy : ByteArray := prog_11_method_5_code
def yX9_turnsBy : MethodName := ⟨RX9, "turnsBy", "(IIII)I"⟩
abbrev cX9_setOut : ByteArray := prog_11_method_6_code
def yX9_setOut : MethodName := ⟨RX9, "setOut", "(II)I"⟩
abbrev cX9_turnRound : ByteArray := prog_11_method_7_code
def yX9_turnRound : MethodName := ⟨RX9, "turnRound", "(I)I"⟩
abbrev cX9_putChain : ByteArray := prog_11_method_8_code
def yX9_putChain : MethodName := ⟨RX9, "putChain", "(II)I"⟩
abbrev cX9_putLoad : ByteArray := prog_11_method_9_code
def yX9_putLoad : MethodName := ⟨RX9, "putLoad", "(II)I"⟩
abbrev cX9_throwRoad : ByteArray := prog_11_method_10_code
def yX9_throwRoad : MethodName := ⟨RX9, "throwRoad", "(III)I"⟩
abbrev cX9_goBy : ByteArray := prog_11_method_11_code
def yX9_goBy : MethodName := ⟨RX9, "goBy", "(I)I"⟩
abbrev cX9_goOn : ByteArray := prog_11_method_12_code
def yX9_goOn : MethodName := ⟨RX9, "goOn", "(II)Z"⟩
abbrev cX9_travels : ByteArray := prog_11_method_13_code
def yX9_travels : MethodName := ⟨RX9, "travels", "(IIIII)Z"⟩
abbrev cX9_foresee : ByteArray := prog_11_method_14_code
def yX9_foresee : MethodName := ⟨RX9, "foresee", "(I)Z"⟩
abbrev cX9_draw : ByteArray := prog_11_method_15_code
def yX9_draw : MethodName := ⟨RX9, "draw", "(I)I"⟩
abbrev cX9_stormYears : ByteArray := prog_11_method_16_code
def yX9_stormYears : MethodName := ⟨RX9, "stormYears", "(II)I"⟩
def RX10 : String := "RoadsWithTides$Ways"
def TX10 : u_T := fun k => match k with
  | 0 => ("RoadsWithTides$Ways", "turns", "LRoadsWithTides$Turns;", true)
  | 1 => ("RoadsWithTides$Ways", "land", "LRoadsWithTides$Land;", true)
  | 2 => ("RoadsWithTides$Ways", "takes", "[I", true)
  | 3 => ("RoadsWithTides$Ways", "outs", "[I", true)
  | 4 => ("RoadsWithTides$Ways", "runs", "[I", true)
  | 5 => ("RoadsWithTides$Ways", "soon", "[I", true)
  | 6 => ("RoadsWithTides$Ways", "reach", "[I", true)
  | 7 => ("RoadsWithTides$Ways", "bestOrder", "[I", true)
  | 8 => ("RoadsWithTides$Ways", "order", "[I", true)
  | 9 => ("RoadsWithTides$Ways", "soonByDepth", "[I", true)
  | 10 => ("RoadsWithTides$Ways", "home", "I", false)
  | _ => ("RoadsWithTides$Ways", "bestBack", "I", false)
def tyX10 : Nat → FieldType := fun k => match k with
  | 0 => .object "RoadsWithTides$Turns"
  | 1 => .object "RoadsWithTides$Land"
  | 2 => .array .int
  | 3 => .array .int
  | 4 => .array .int
  | 5 => .array .int
  | 6 => .array .int
  | 7 => .array .int
  | 8 => .array .int
  | 9 => .array .int
  | 10 => .int
  | _ => .int
abbrev wsX100 : List Cond := u_ws RX10 TX10 12
theorem nmX10 : ∀ a, a < 12 → ∀ b, b < 12 → a ≠ b → (TX10 a).2.1 ≠ (TX10 b).2.1 := by decide +kernel
theorem tyX10_ok : ∀ k, k < 12 → parseFieldDescriptor (TX10 k).2.2.1 = some (tyX10 k) := by decide +kernel
abbrev cX10_init : ByteArray := prog_12_method_1_code
def yX10_init : MethodName := ⟨RX10, "<init>", "(LRoadsWithTides$Turns;)V"⟩
abbrev cX10_lookOn : ByteArray := prog_12_method_2_code
def yX10_lookOn : MethodName := ⟨RX10, "lookOn", "(I)V"⟩
abbrev cX10_noteOut : ByteArray := prog_12_method_3_code
def yX10_noteOut : MethodName := ⟨RX10, "noteOut", "(III)V"⟩
abbrev cX10_outFrom : ByteArray := prog_12_method_4_code
def yX10_outFrom : MethodName := ⟨RX10, "outFrom", "(II)I"⟩
abbrev cX10_spread : ByteArray := prog_12_method_5_code
def yX10_spread : MethodName := ⟨RX10, "spread", "(III)V"⟩
abbrev cX10_goBetween : ByteArray := prog_12_method_6_code
def yX10_goBetween : MethodName := ⟨RX10, "goBetween", "(IIII)Z"⟩
abbrev cX10_reachedBy : ByteArray := prog_12_method_7_code
def yX10_reachedBy : MethodName := ⟨RX10, "reachedBy", "(I)I"⟩
abbrev cX10_tellLeastWay : ByteArray := prog_12_method_8_code
def yX10_tellLeastWay : MethodName := ⟨RX10, "tellLeastWay", "(IIILRoadsWithTides$Row;)V"⟩
abbrev cX10_leastWayOn : ByteArray := prog_12_method_9_code
def yX10_leastWayOn : MethodName := ⟨RX10, "leastWayOn", "(IIIII)I"⟩
abbrev cX10_goRound : ByteArray := prog_12_method_10_code
def yX10_goRound : MethodName := ⟨RX10, "goRound", "(II)I"⟩
abbrev cX10_callOn : ByteArray := prog_12_method_11_code
def yX10_callOn : MethodName := ⟨RX10, "callOn", "(LRoadsWithTides$Ways;IIII)V"⟩
abbrev cX10_fewestInns : ByteArray := prog_12_method_12_code
def yX10_fewestInns : MethodName := ⟨RX10, "fewestInns", "(I)I"⟩
abbrev cX10_serveAll : ByteArray := prog_12_method_13_code
def yX10_serveAll : MethodName := ⟨RX10, "serveAll", "(I)Z"⟩
def RX11 : String := "RoadsWithTides"
def TX11 : u_T := fun k => match k with
  | 0 => ("RoadsWithTides", "text", "LRoadsWithTides$Text;", true)
  | 1 => ("RoadsWithTides", "sea", "LRoadsWithTides$Tide;", true)
  | 2 => ("RoadsWithTides", "byRule", "LRoadsWithTides$Rule;", true)
  | 3 => ("RoadsWithTides", "land", "LRoadsWithTides$Land;", true)
  | 4 => ("RoadsWithTides", "turns", "LRoadsWithTides$Turns;", true)
  | 5 => ("RoadsWithTides", "history", "LRoadsWithTides$History;", true)
  | 6 => ("RoadsWithTides", "acts", "LRoadsWithTides$Day;", true)
  | 7 => ("RoadsWithTides", "ways", "LRoadsWithTides$Ways;", true)
  | 8 => ("RoadsWithTides", "marks", "LRoadsWithTides$Marks;", true)
  | _ => ("RoadsWithTides", "told", "LRoadsWithTides$Row;", true)
def tyX11 : Nat → FieldType := fun k => match k with
  | 0 => .object "RoadsWithTides$Text"
  | 1 => .object "RoadsWithTides$Tide"
  | 2 => .object "RoadsWithTides$Rule"
  | 3 => .object "RoadsWithTides$Land"
  | 4 => .object "RoadsWithTides$Turns"
  | 5 => .object "RoadsWithTides$History"
  | 6 => .object "RoadsWithTides$Day"
  | 7 => .object "RoadsWithTides$Ways"
  | 8 => .object "RoadsWithTides$Marks"
  | _ => .object "RoadsWithTides$Row"
abbrev wsX110 : List Cond := u_ws RX11 TX11 10
theorem nmX11 : ∀ a, a < 10 → ∀ b, b < 10 → a ≠ b → (TX11 a).2.1 ≠ (TX11 b).2.1 := by decide +kernel
theorem tyX11_ok : ∀ k, k < 10 → parseFieldDescriptor (TX11 k).2.2.1 = some (tyX11 k) := by decide +kernel
abbrev cX11_init : ByteArray := prog_1_method_1_code
def yX11_init : MethodName := ⟨RX11, "<init>", "()V"⟩
abbrev cX11_sign : ByteArray := prog_1_method_2_code
def yX11_sign : MethodName := ⟨RX11, "sign", "(I)I"⟩
abbrev cX11_end : ByteArray := prog_1_method_3_code
def yX11_end : MethodName := ⟨RX11, "end", "(I)Z"⟩
abbrev cX11_flats : ByteArray := prog_1_method_4_code
def yX11_flats : MethodName := ⟨RX11, "flats", "()I"⟩
abbrev cX11_tide : ByteArray := prog_1_method_5_code
def yX11_tide : MethodName := ⟨RX11, "tide", "()I"⟩
abbrev cX11_carts : ByteArray := prog_1_method_6_code
def yX11_carts : MethodName := ⟨RX11, "carts", "()I"⟩
abbrev cX11_rule : ByteArray := prog_1_method_7_code
def yX11_rule : MethodName := ⟨RX11, "rule", "()I"⟩
abbrev cX11_place : ByteArray := prog_1_method_8_code
def yX11_place : MethodName := ⟨RX11, "place", "(II)I"⟩
abbrev cX11_road : ByteArray := prog_1_method_9_code
def yX11_road : MethodName := ⟨RX11, "road", "(II)I"⟩
abbrev cX11_cart : ByteArray := prog_1_method_10_code
def yX11_cart : MethodName := ⟨RX11, "cart", "(II)I"⟩
abbrev cX11_patience : ByteArray := prog_1_method_11_code
def yX11_patience : MethodName := ⟨RX11, "patience", "(I)I"⟩
abbrev cX11_sheet : ByteArray := prog_1_method_12_code
def yX11_sheet : MethodName := ⟨RX11, "sheet", "(IIII)I"⟩
abbrev cX11_out : ByteArray := prog_1_method_13_code
def yX11_out : MethodName := ⟨RX11, "out", "(II)I"⟩
abbrev cX11_round : ByteArray := prog_1_method_14_code
def yX11_round : MethodName := ⟨RX11, "round", "(I)I"⟩
abbrev cX11_chain : ByteArray := prog_1_method_15_code
def yX11_chain : MethodName := ⟨RX11, "chain", "(II)I"⟩
abbrev cX11_load : ByteArray := prog_1_method_16_code
def yX11_load : MethodName := ⟨RX11, "load", "(II)I"⟩
abbrev cX11_storm : ByteArray := prog_1_method_17_code
def yX11_storm : MethodName := ⟨RX11, "storm", "(III)I"⟩
abbrev cX11_pass : ByteArray := prog_1_method_18_code
def yX11_pass : MethodName := ⟨RX11, "pass", "(I)I"⟩
abbrev cX11_day : ByteArray := prog_1_method_19_code
def yX11_day : MethodName := ⟨RX11, "day", "()I"⟩
abbrev cX11_undo : ByteArray := prog_1_method_20_code
def yX11_undo : MethodName := ⟨RX11, "undo", "()I"⟩
abbrev cX11_level : ByteArray := prog_1_method_21_code
def yX11_level : MethodName := ⟨RX11, "level", "(I)I"⟩
abbrev cX11_table : ByteArray := prog_1_method_22_code
def yX11_table : MethodName := ⟨RX11, "table", "(II)I"⟩
abbrev cX11_comes : ByteArray := prog_1_method_23_code
def yX11_comes : MethodName := ⟨RX11, "comes", "(I)I"⟩
abbrev cX11_ebb : ByteArray := prog_1_method_24_code
def yX11_ebb : MethodName := ⟨RX11, "ebb", "()I"⟩
abbrev cX11_slack : ByteArray := prog_1_method_25_code
def yX11_slack : MethodName := ⟨RX11, "slack", "()I"⟩
abbrev cX11_period : ByteArray := prog_1_method_26_code
def yX11_period : MethodName := ⟨RX11, "period", "()I"⟩
abbrev cX11_soonest : ByteArray := prog_1_method_27_code
def yX11_soonest : MethodName := ⟨RX11, "soonest", "(II)I"⟩
abbrev cX11_latest : ByteArray := prog_1_method_28_code
def yX11_latest : MethodName := ⟨RX11, "latest", "(III)I"⟩
abbrev cX11_safe : ByteArray := prog_1_method_29_code
def yX11_safe : MethodName := ⟨RX11, "safe", "(III)I"⟩
abbrev cX11_within : ByteArray := prog_1_method_30_code
def yX11_within : MethodName := ⟨RX11, "within", "(II)I"⟩
abbrev cX11_cutoff : ByteArray := prog_1_method_31_code
def yX11_cutoff : MethodName := ⟨RX11, "cutoff", "(I)I"⟩
abbrev cX11_carrier : ByteArray := prog_1_method_32_code
def yX11_carrier : MethodName := ⟨RX11, "carrier", "(II)I"⟩
abbrev cX11_inns : ByteArray := prog_1_method_33_code
def yX11_inns : MethodName := ⟨RX11, "inns", "(I)I"⟩
abbrev cX11_arrives : ByteArray := prog_1_method_34_code
def yX11_arrives : MethodName := ⟨RX11, "arrives", "(I)I"⟩
abbrev cX11_best : ByteArray := prog_1_method_35_code
def yX11_best : MethodName := ⟨RX11, "best", "(II)I"⟩
abbrev cX11_could : ByteArray := prog_1_method_36_code
def yX11_could : MethodName := ⟨RX11, "could", "(II)I"⟩
abbrev cX11_mark : ByteArray := prog_1_method_37_code
def yX11_mark : MethodName := ⟨RX11, "mark", "(II)I"⟩
abbrev cX11_wash : ByteArray := prog_1_method_38_code
def yX11_wash : MethodName := ⟨RX11, "wash", "()I"⟩
abbrev cX11_fits : ByteArray := prog_1_method_39_code
def yX11_fits : MethodName := ⟨RX11, "fits", "(I)I"⟩
abbrev cX11_read : ByteArray := prog_1_method_40_code
def yX11_read : MethodName := ⟨RX11, "read", "(II)I"⟩
abbrev cX11_lookat : ByteArray := prog_1_method_41_code
def yX11_lookat : MethodName := ⟨RX11, "lookat", "(I)I"⟩
abbrev cX11_years : ByteArray := prog_1_method_42_code
def yX11_years : MethodName := ⟨RX11, "years", "(II)I"⟩
abbrev cX11_keep : ByteArray := prog_1_method_43_code
def yX11_keep : MethodName := ⟨RX11, "keep", "(I)Z"⟩
abbrev cX11_again : ByteArray := prog_1_method_44_code
def yX11_again : MethodName := ⟨RX11, "again", "(I)Z"⟩
abbrev cX11_count : ByteArray := prog_1_method_45_code
def yX11_count : MethodName := ⟨RX11, "count", "(I)I"⟩
abbrev cX11_row : ByteArray := prog_1_method_46_code
def yX11_row : MethodName := ⟨RX11, "row", "(I)I"⟩
abbrev cX11_soonestWay : ByteArray := prog_1_method_47_code
def yX11_soonestWay : MethodName := ⟨RX11, "soonestWay", "(III)I"⟩
def RX12 : String := "RoadsWithTidesModel"
def TX12 : u_T := fun k => match k with
  | 0 => ("RoadsWithTidesModel", "now", "[I", true)
  | 1 => ("RoadsWithTidesModel", "places", "I", false)
  | 2 => ("RoadsWithTidesModel", "height", "[I", true)
  | 3 => ("RoadsWithTidesModel", "roads", "I", false)
  | 4 => ("RoadsWithTidesModel", "steps", "[I", true)
  | 5 => ("RoadsWithTidesModel", "roadHeight", "[I", true)
  | 6 => ("RoadsWithTidesModel", "carts", "I", false)
  | 7 => ("RoadsWithTidesModel", "rounds", "I", false)
  | 8 => ("RoadsWithTidesModel", "tides", "[I", true)
  | 9 => ("RoadsWithTidesModel", "patience", "I", false)
  | 10 => ("RoadsWithTidesModel", "text", "[B", true)
  | 11 => ("RoadsWithTidesModel", "typed", "I", false)
  | 12 => ("RoadsWithTidesModel", "row", "[I", true)
  | 13 => ("RoadsWithTidesModel", "rowMany", "I", false)
  | 14 => ("RoadsWithTidesModel", "thrown", "I", false)
  | 15 => ("RoadsWithTidesModel", "read", "[B", false)
  | 16 => ("RoadsWithTidesModel", "length", "I", false)
  | 17 => ("RoadsWithTidesModel", "top", "I", false)
  | 18 => ("RoadsWithTidesModel", "at", "I", false)
  | 19 => ("RoadsWithTidesModel", "wrong", "I", false)
  | 20 => ("RoadsWithTidesModel", "newPlaces", "[I", true)
  | 21 => ("RoadsWithTidesModel", "newRoads", "[I", true)
  | 22 => ("RoadsWithTidesModel", "newPlaceMany", "I", false)
  | 23 => ("RoadsWithTidesModel", "newRoadMany", "I", false)
  | 24 => ("RoadsWithTidesModel", "newTides", "[I", true)
  | 25 => ("RoadsWithTidesModel", "comes", "[I", true)
  | 26 => ("RoadsWithTidesModel", "rule", "[B", true)
  | 27 => ("RoadsWithTidesModel", "ruleSize", "I", false)
  | 28 => ("RoadsWithTidesModel", "isAsked", "Z", false)
  | 29 => ("RoadsWithTidesModel", "asked", "[I", true)
  | 30 => ("RoadsWithTidesModel", "undos", "[I", true)
  | 31 => ("RoadsWithTidesModel", "undoMany", "I", false)
  | 32 => ("RoadsWithTidesModel", "aside", "[I", true)
  | 33 => ("RoadsWithTidesModel", "arrived", "I", false)
  | 34 => ("RoadsWithTidesModel", "broken", "I", false)
  | 35 => ("RoadsWithTidesModel", "allCame", "I", false)
  | 36 => ("RoadsWithTidesModel", "allArrived", "I", false)
  | 37 => ("RoadsWithTidesModel", "allBroken", "I", false)
  | 38 => ("RoadsWithTidesModel", "acts", "[I", true)
  | 39 => ("RoadsWithTidesModel", "soon", "[I", true)
  | 40 => ("RoadsWithTidesModel", "order", "[I", true)
  | 41 => ("RoadsWithTidesModel", "bestOrder", "[I", true)
  | 42 => ("RoadsWithTidesModel", "bestBack", "I", false)
  | 43 => ("RoadsWithTidesModel", "near", "[I", true)
  | 44 => ("RoadsWithTidesModel", "rideTurns", "I", false)
  | 45 => ("RoadsWithTidesModel", "rideGone", "I", false)
  | 46 => ("RoadsWithTidesModel", "rideWreck", "I", false)
  | 47 => ("RoadsWithTidesModel", "marks", "[I", true)
  | 48 => ("RoadsWithTidesModel", "markMany", "I", false)
  | 49 => ("RoadsWithTidesModel", "isTold", "[Z", true)
  | 50 => ("RoadsWithTidesModel", "drawn", "I", false)
  | 51 => ("RoadsWithTidesModel", "then", "[I", true)
  | 52 => ("RoadsWithTidesModel", "came", "I", false)
  | 53 => ("RoadsWithTidesModel", "kept", "[I", true)
  | 54 => ("RoadsWithTidesModel", "isKept", "[Z", true)
  | _ => ("RoadsWithTidesModel", "keptCame", "[I", true)
def tyX12 : Nat → FieldType := fun k => match k with
  | 0 => .array .int
  | 1 => .int
  | 2 => .array .int
  | 3 => .int
  | 4 => .array .int
  | 5 => .array .int
  | 6 => .int
  | 7 => .int
  | 8 => .array .int
  | 9 => .int
  | 10 => .array .byte
  | 11 => .int
  | 12 => .array .int
  | 13 => .int
  | 14 => .int
  | 15 => .array .byte
  | 16 => .int
  | 17 => .int
  | 18 => .int
  | 19 => .int
  | 20 => .array .int
  | 21 => .array .int
  | 22 => .int
  | 23 => .int
  | 24 => .array .int
  | 25 => .array .int
  | 26 => .array .byte
  | 27 => .int
  | 28 => .boolean
  | 29 => .array .int
  | 30 => .array .int
  | 31 => .int
  | 32 => .array .int
  | 33 => .int
  | 34 => .int
  | 35 => .int
  | 36 => .int
  | 37 => .int
  | 38 => .array .int
  | 39 => .array .int
  | 40 => .array .int
  | 41 => .array .int
  | 42 => .int
  | 43 => .array .int
  | 44 => .int
  | 45 => .int
  | 46 => .int
  | 47 => .array .int
  | 48 => .int
  | 49 => .array .boolean
  | 50 => .int
  | 51 => .array .int
  | 52 => .int
  | 53 => .array .int
  | 54 => .array .boolean
  | _ => .array .int
abbrev wsX120 : List Cond := u_ws RX12 TX12 56
theorem nmX12 : ∀ a, a < 56 → ∀ b, b < 56 → a ≠ b → (TX12 a).2.1 ≠ (TX12 b).2.1 := by decide +kernel
theorem tyX12_ok : ∀ k, k < 56 → parseFieldDescriptor (TX12 k).2.2.1 = some (tyX12 k) := by decide +kernel
abbrev cX12_init : ByteArray := prog_14_method_1_code
def yX12_init : MethodName := ⟨RX12, "<init>", "()V"⟩
abbrev cX12_thrown : ByteArray := prog_14_method_2_code
def yX12_thrown : MethodName := ⟨RX12, "thrown", "()I"⟩
abbrev cX12_in : ByteArray := prog_14_method_3_code
def yX12_in : MethodName := ⟨RX12, "in", "(III)Z"⟩
abbrev cX12_has : ByteArray := prog_14_method_4_code
def yX12_has : MethodName := ⟨RX12, "has", "(II)Z"⟩
abbrev cX12_lost : ByteArray := prog_14_method_5_code
def yX12_lost : MethodName := ⟨RX12, "lost", "()I"⟩
abbrev cX12_tell : ByteArray := prog_14_method_6_code
def yX12_tell : MethodName := ⟨RX12, "tell", "(I)V"⟩
abbrev cX12_isPlace : ByteArray := prog_14_method_7_code
def yX12_isPlace : MethodName := ⟨RX12, "isPlace", "(I)Z"⟩
abbrev cX12_isRoad : ByteArray := prog_14_method_8_code
def yX12_isRoad : MethodName := ⟨RX12, "isRoad", "(I)Z"⟩
abbrev cX12_isCart : ByteArray := prog_14_method_9_code
def yX12_isCart : MethodName := ⟨RX12, "isCart", "(I)Z"⟩
abbrev cX12_sign : ByteArray := prog_14_method_10_code
def yX12_sign : MethodName := ⟨RX12, "sign", "(I)I"⟩
abbrev cX12_end : ByteArray := prog_14_method_11_code
def yX12_end : MethodName := ⟨RX12, "end", "(I)Z"⟩
abbrev cX12_begin : ByteArray := prog_14_method_12_code
def yX12_begin : MethodName := ⟨RX12, "begin", "([BII)V"⟩
abbrev cX12_here : ByteArray := prog_14_method_13_code
def yX12_here : MethodName := ⟨RX12, "here", "()I"⟩
abbrev cX12_fine : ByteArray := prog_14_method_14_code
def yX12_fine : MethodName := ⟨RX12, "fine", "()Z"⟩
abbrev cX12_fault : ByteArray := prog_14_method_15_code
def yX12_fault : MethodName := ⟨RX12, "fault", "(I)V"⟩
abbrev cX12_passes : ByteArray := prog_14_method_16_code
def yX12_passes : MethodName := ⟨RX12, "passes", "(C)Z"⟩
abbrev cX12_need : ByteArray := prog_14_method_17_code
def yX12_need : MethodName := ⟨RX12, "need", "(C)V"⟩
abbrev cX12_oneOf : ByteArray := prog_14_method_18_code
def yX12_oneOf : MethodName := ⟨RX12, "oneOf", "(CII)I"⟩
abbrev cX12_digit : ByteArray := prog_14_method_19_code
def yX12_digit : MethodName := ⟨RX12, "digit", "(I)I"⟩
abbrev cX12_number : ByteArray := prog_14_method_20_code
def yX12_number : MethodName := ⟨RX12, "number", "(I)I"⟩
abbrev cX12_number_ : ByteArray := prog_14_method_21_code
def yX12_number_ : MethodName := ⟨RX12, "number", "(II)I"⟩
abbrev cX12_readLine : ByteArray := prog_14_method_22_code
def yX12_readLine : MethodName := ⟨RX12, "readLine", "()V"⟩
abbrev cX12_flats : ByteArray := prog_14_method_23_code
def yX12_flats : MethodName := ⟨RX12, "flats", "()I"⟩
abbrev cX12_tide : ByteArray := prog_14_method_24_code
def yX12_tide : MethodName := ⟨RX12, "tide", "()I"⟩
abbrev cX12_carts : ByteArray := prog_14_method_25_code
def yX12_carts : MethodName := ⟨RX12, "carts", "()I"⟩
abbrev cX12_stand : ByteArray := prog_14_method_26_code
def yX12_stand : MethodName := ⟨RX12, "stand", "([III)V"⟩
abbrev cX12_held : ByteArray := prog_14_method_27_code
def yX12_held : MethodName := ⟨RX12, "held", "(I)I"⟩
abbrev cX12_sum : ByteArray := prog_14_method_28_code
def yX12_sum : MethodName := ⟨RX12, "sum", "(I)I"⟩
abbrev cX12_product : ByteArray := prog_14_method_29_code
def yX12_product : MethodName := ⟨RX12, "product", "(I)I"⟩
abbrev cX12_letterOf : ByteArray := prog_14_method_30_code
def yX12_letterOf : MethodName := ⟨RX12, "letterOf", "(I)I"⟩
abbrev cX12_thing : ByteArray := prog_14_method_31_code
def yX12_thing : MethodName := ⟨RX12, "thing", "(I)I"⟩
abbrev cX12_rule : ByteArray := prog_14_method_32_code
def yX12_rule : MethodName := ⟨RX12, "rule", "()I"⟩
abbrev cX12_turnsOf : ByteArray := prog_14_method_33_code
def yX12_turnsOf : MethodName := ⟨RX12, "turnsOf", "(IIII)I"⟩
abbrev cX12_heightOf : ByteArray := prog_14_method_34_code
def yX12_heightOf : MethodName := ⟨RX12, "heightOf", "(IIII)I"⟩
abbrev cX12_levelAt : ByteArray := prog_14_method_35_code
def yX12_levelAt : MethodName := ⟨RX12, "levelAt", "(I)I"⟩
abbrev cX12_isThere : ByteArray := prog_14_method_36_code
def yX12_isThere : MethodName := ⟨RX12, "isThere", "(II)Z"⟩
abbrev cX12_endOf : ByteArray := prog_14_method_37_code
def yX12_endOf : MethodName := ⟨RX12, "endOf", "([III)I"⟩
abbrev cX12_beyond : ByteArray := prog_14_method_38_code
def yX12_beyond : MethodName := ⟨RX12, "beyond", "([III)I"⟩
abbrev cX12_cartsAt : ByteArray := prog_14_method_39_code
def yX12_cartsAt : MethodName := ⟨RX12, "cartsAt", "(II)I"⟩
abbrev cX12_place : ByteArray := prog_14_method_40_code
def yX12_place : MethodName := ⟨RX12, "place", "(II)I"⟩
abbrev cX12_road : ByteArray := prog_14_method_41_code
def yX12_road : MethodName := ⟨RX12, "road", "(II)I"⟩
abbrev cX12_cart : ByteArray := prog_14_method_42_code
def yX12_cart : MethodName := ⟨RX12, "cart", "(II)I"⟩
abbrev cX12_patience : ByteArray := prog_14_method_43_code
def yX12_patience : MethodName := ⟨RX12, "patience", "(I)I"⟩
abbrev cX12_sheet : ByteArray := prog_14_method_44_code
def yX12_sheet : MethodName := ⟨RX12, "sheet", "(IIII)I"⟩
abbrev cX12_lay : ByteArray := prog_14_method_45_code
def yX12_lay : MethodName := ⟨RX12, "lay", "([I[II)V"⟩
abbrev cX12_remember : ByteArray := prog_14_method_46_code
def yX12_remember : MethodName := ⟨RX12, "remember", "([I)V"⟩
abbrev cX12_refusesOut : ByteArray := prog_14_method_47_code
def yX12_refusesOut : MethodName := ⟨RX12, "refusesOut", "(II)I"⟩
abbrev cX12_goOut : ByteArray := prog_14_method_48_code
def yX12_goOut : MethodName := ⟨RX12, "goOut", "(II)I"⟩
abbrev cX12_out : ByteArray := prog_14_method_49_code
def yX12_out : MethodName := ⟨RX12, "out", "(II)I"⟩
abbrev cX12_canRound : ByteArray := prog_14_method_50_code
def yX12_canRound : MethodName := ⟨RX12, "canRound", "(I)Z"⟩
abbrev cX12_goRound : ByteArray := prog_14_method_51_code
def yX12_goRound : MethodName := ⟨RX12, "goRound", "(I)I"⟩
abbrev cX12_round : ByteArray := prog_14_method_52_code
def yX12_round : MethodName := ⟨RX12, "round", "(I)I"⟩
abbrev cX12_canChain : ByteArray := prog_14_method_53_code
def yX12_canChain : MethodName := ⟨RX12, "canChain", "(I)Z"⟩
abbrev cX12_chain : ByteArray := prog_14_method_54_code
def yX12_chain : MethodName := ⟨RX12, "chain", "(II)I"⟩
abbrev cX12_canLoad : ByteArray := prog_14_method_55_code
def yX12_canLoad : MethodName := ⟨RX12, "canLoad", "(I)Z"⟩
abbrev cX12_load : ByteArray := prog_14_method_56_code
def yX12_load : MethodName := ⟨RX12, "load", "(II)I"⟩
abbrev cX12_isUsed : ByteArray := prog_14_method_57_code
def yX12_isUsed : MethodName := ⟨RX12, "isUsed", "([II)Z"⟩
abbrev cX12_storm : ByteArray := prog_14_method_58_code
def yX12_storm : MethodName := ⟨RX12, "storm", "(III)I"⟩
abbrev cX12_goTurn : ByteArray := prog_14_method_59_code
def yX12_goTurn : MethodName := ⟨RX12, "goTurn", "([I)V"⟩
abbrev cX12_beginTurns : ByteArray := prog_14_method_60_code
def yX12_beginTurns : MethodName := ⟨RX12, "beginTurns", "()V"⟩
abbrev cX12_goTurns : ByteArray := prog_14_method_61_code
def yX12_goTurns : MethodName := ⟨RX12, "goTurns", "([II)V"⟩
abbrev cX12_pass : ByteArray := prog_14_method_62_code
def yX12_pass : MethodName := ⟨RX12, "pass", "(I)I"⟩
abbrev cX12_day : ByteArray := prog_14_method_63_code
def yX12_day : MethodName := ⟨RX12, "day", "()I"⟩
abbrev cX12_readAct : ByteArray := prog_14_method_64_code
def yX12_readAct : MethodName := ⟨RX12, "readAct", "(I)V"⟩
abbrev cX12_act : ByteArray := prog_14_method_65_code
def yX12_act : MethodName := ⟨RX12, "act", "(III)Z"⟩
abbrev cX12_undo : ByteArray := prog_14_method_66_code
def yX12_undo : MethodName := ⟨RX12, "undo", "()I"⟩
abbrev cX12_isLook : ByteArray := prog_14_method_67_code
def yX12_isLook : MethodName := ⟨RX12, "isLook", "(I)Z"⟩
abbrev cX12_levelIn : ByteArray := prog_14_method_68_code
def yX12_levelIn : MethodName := ⟨RX12, "levelIn", "(I)I"⟩
abbrev cX12_comesIn : ByteArray := prog_14_method_69_code
def yX12_comesIn : MethodName := ⟨RX12, "comesIn", "(II)Z"⟩
abbrev cX12_level : ByteArray := prog_14_method_70_code
def yX12_level : MethodName := ⟨RX12, "level", "(I)I"⟩
abbrev cX12_table : ByteArray := prog_14_method_71_code
def yX12_table : MethodName := ⟨RX12, "table", "(II)I"⟩
abbrev cX12_comes : ByteArray := prog_14_method_72_code
def yX12_comes : MethodName := ⟨RX12, "comes", "(I)I"⟩
abbrev cX12_ebb : ByteArray := prog_14_method_73_code
def yX12_ebb : MethodName := ⟨RX12, "ebb", "()I"⟩
abbrev cX12_slack : ByteArray := prog_14_method_74_code
def yX12_slack : MethodName := ⟨RX12, "slack", "()I"⟩
abbrev cX12_common : ByteArray := prog_14_method_75_code
def yX12_common : MethodName := ⟨RX12, "common", "(II)I"⟩
abbrev cX12_period : ByteArray := prog_14_method_76_code
def yX12_period : MethodName := ⟨RX12, "period", "()I"⟩
abbrev cX12_canGo : ByteArray := prog_14_method_77_code
def yX12_canGo : MethodName := ⟨RX12, "canGo", "(IIII)Z"⟩
abbrev cX12_soonestBy : ByteArray := prog_14_method_78_code
def yX12_soonestBy : MethodName := ⟨RX12, "soonestBy", "(IIIII)I"⟩
abbrev cX12_findSoon : ByteArray := prog_14_method_79_code
def yX12_findSoon : MethodName := ⟨RX12, "findSoon", "(III)V"⟩
abbrev cX12_canCome : ByteArray := prog_14_method_80_code
def yX12_canCome : MethodName := ⟨RX12, "canCome", "(IIIIII)Z"⟩
abbrev cX12_soonest : ByteArray := prog_14_method_81_code
def yX12_soonest : MethodName := ⟨RX12, "soonest", "(II)I"⟩
abbrev cX12_wayOf : ByteArray := prog_14_method_82_code
def yX12_wayOf : MethodName := ⟨RX12, "wayOf", "(III)I"⟩
abbrev cX12_nextRoad : ByteArray := prog_14_method_83_code
def yX12_nextRoad : MethodName := ⟨RX12, "nextRoad", "(IIIIII)I"⟩
abbrev cX12_latest : ByteArray := prog_14_method_84_code
def yX12_latest : MethodName := ⟨RX12, "latest", "(III)I"⟩
abbrev cX12_safe : ByteArray := prog_14_method_85_code
def yX12_safe : MethodName := ⟨RX12, "safe", "(III)I"⟩
abbrev cX12_within : ByteArray := prog_14_method_86_code
def yX12_within : MethodName := ⟨RX12, "within", "(II)I"⟩
abbrev cX12_cutoff : ByteArray := prog_14_method_87_code
def yX12_cutoff : MethodName := ⟨RX12, "cutoff", "(I)I"⟩
abbrev cX12_soonFrom : ByteArray := prog_14_method_88_code
def yX12_soonFrom : MethodName := ⟨RX12, "soonFrom", "(III)I"⟩
abbrev cX12_goCarrier : ByteArray := prog_14_method_89_code
def yX12_goCarrier : MethodName := ⟨RX12, "goCarrier", "(IIIII)V"⟩
abbrev cX12_carrier : ByteArray := prog_14_method_90_code
def yX12_carrier : MethodName := ⟨RX12, "carrier", "(II)I"⟩
abbrev cX12_inns : ByteArray := prog_14_method_91_code
def yX12_inns : MethodName := ⟨RX12, "inns", "(I)I"⟩
abbrev cX12_rides : ByteArray := prog_14_method_92_code
def yX12_rides : MethodName := ⟨RX12, "rides", "(IIIIZ)Z"⟩
abbrev cX12_ridesOn : ByteArray := prog_14_method_93_code
def yX12_ridesOn : MethodName := ⟨RX12, "ridesOn", "(I)Z"⟩
abbrev cX12_arrives : ByteArray := prog_14_method_94_code
def yX12_arrives : MethodName := ⟨RX12, "arrives", "(I)I"⟩
abbrev cX12_best : ByteArray := prog_14_method_95_code
def yX12_best : MethodName := ⟨RX12, "best", "(II)I"⟩
abbrev cX12_could : ByteArray := prog_14_method_96_code
def yX12_could : MethodName := ⟨RX12, "could", "(II)I"⟩
abbrev cX12_mark : ByteArray := prog_14_method_97_code
def yX12_mark : MethodName := ⟨RX12, "mark", "(II)I"⟩
abbrev cX12_wash : ByteArray := prog_14_method_98_code
def yX12_wash : MethodName := ⟨RX12, "wash", "()I"⟩
abbrev cX12_fitsBy : ByteArray := prog_14_method_99_code
def yX12_fitsBy : MethodName := ⟨RX12, "fitsBy", "(IIII)Z"⟩
abbrev cX12_fits : ByteArray := prog_14_method_100_code
def yX12_fits : MethodName := ⟨RX12, "fits", "(I)I"⟩
abbrev cX12_findTold : ByteArray := prog_14_method_101_code
def yX12_findTold : MethodName := ⟨RX12, "findTold", "(III)V"⟩
abbrev cX12_toldAt : ByteArray := prog_14_method_102_code
def yX12_toldAt : MethodName := ⟨RX12, "toldAt", "(I)I"⟩
abbrev cX12_read : ByteArray := prog_14_method_103_code
def yX12_read : MethodName := ⟨RX12, "read", "(II)I"⟩
abbrev cX12_lookat : ByteArray := prog_14_method_104_code
def yX12_lookat : MethodName := ⟨RX12, "lookat", "(I)I"⟩
abbrev cX12_draw : ByteArray := prog_14_method_105_code
def yX12_draw : MethodName := ⟨RX12, "draw", "(I)I"⟩
abbrev cX12_years : ByteArray := prog_14_method_106_code
def yX12_years : MethodName := ⟨RX12, "years", "(II)I"⟩
abbrev cX12_keep : ByteArray := prog_14_method_107_code
def yX12_keep : MethodName := ⟨RX12, "keep", "(I)Z"⟩
abbrev cX12_again : ByteArray := prog_14_method_108_code
def yX12_again : MethodName := ⟨RX12, "again", "(I)Z"⟩
abbrev cX12_count : ByteArray := prog_14_method_109_code
def yX12_count : MethodName := ⟨RX12, "count", "(I)I"⟩
abbrev cX12_row : ByteArray := prog_14_method_110_code
def yX12_row : MethodName := ⟨RX12, "row", "(I)I"⟩
def RJx145de : String := "java/io/Serializable"
def TJx145de : u_T := fun k => match k with
  | _ => ("", "", "", false)
def tyJx145de : Nat → FieldType := fun k => match k with
  | _ => .int
abbrev wsJx145de0 : List Cond := u_ws RJx145de TJx145de 0
theorem nmJx145de : ∀ a, a < 0 → ∀ b, b < 0 → a ≠ b → (TJx145de a).2.1 ≠ (TJx145de b).2.1 := by decide +kernel
theorem tyJx145de_ok : ∀ k, k < 0 → parseFieldDescriptor (TJx145de k).2.2.1 = some (tyJx145de k) := by decide +kernel
def RJxb160c : String := "java/lang/Comparable"
def TJxb160c : u_T := fun k => match k with
  | _ => ("", "", "", false)
def tyJxb160c : Nat → FieldType := fun k => match k with
  | _ => .int
abbrev wsJxb160c0 : List Cond := u_ws RJxb160c TJxb160c 0
theorem nmJxb160c : ∀ a, a < 0 → ∀ b, b < 0 → a ≠ b → (TJxb160c a).2.1 ≠ (TJxb160c b).2.1 := by decide +kernel
theorem tyJxb160c_ok : ∀ k, k < 0 → parseFieldDescriptor (TJxb160c k).2.2.1 = some (tyJxb160c k) := by decide +kernel
def RJ6 : String := "java/lang/Integer"
def TJ6 : u_T := fun k => match k with
  | _ => ("", "", "", false)
def tyJ6 : Nat → FieldType := fun k => match k with
  | _ => .int
abbrev wsJ60 : List Cond := u_ws RJ6 TJ6 0
theorem nmJ6 : ∀ a, a < 0 → ∀ b, b < 0 → a ≠ b → (TJ6 a).2.1 ≠ (TJ6 b).2.1 := by decide +kernel
theorem tyJ6_ok : ∀ k, k < 0 → parseFieldDescriptor (TJ6 k).2.2.1 = some (tyJ6 k) := by decide +kernel
abbrev cJ6_compare_7cf53 : ByteArray := prog_17_method_40_code
def yJ6_compare_7cf53 : MethodName := ⟨RJ6, "compare", "(II)I"⟩
abbrev cJ6_numberOfLeadingZeros_0f7a4 : ByteArray := prog_17_method_47_code
def yJ6_numberOfLeadingZeros_0f7a4 : MethodName := ⟨RJ6, "numberOfLeadingZeros", "(I)I"⟩
abbrev cJ6_numberOfTrailingZeros_0f7a4 : ByteArray := prog_17_method_48_code
def yJ6_numberOfTrailingZeros_0f7a4 : MethodName := ⟨RJ6, "numberOfTrailingZeros", "(I)I"⟩
abbrev cJ6_bitCount_0f7a4 : ByteArray := prog_17_method_49_code
def yJ6_bitCount_0f7a4 : MethodName := ⟨RJ6, "bitCount", "(I)I"⟩
def RJ13 : String := "java/lang/Long"
def TJ13 : u_T := fun k => match k with
  | _ => ("", "", "", false)
def tyJ13 : Nat → FieldType := fun k => match k with
  | _ => .int
abbrev wsJ130 : List Cond := u_ws RJ13 TJ13 0
theorem nmJ13 : ∀ a, a < 0 → ∀ b, b < 0 → a ≠ b → (TJ13 a).2.1 ≠ (TJ13 b).2.1 := by decide +kernel
theorem tyJ13_ok : ∀ k, k < 0 → parseFieldDescriptor (TJ13 k).2.2.1 = some (tyJ13 k) := by decide +kernel
abbrev cJ13_numberOfLeadingZeros_95d88 : ByteArray := prog_18_method_48_code
def yJ13_numberOfLeadingZeros_95d88 : MethodName := ⟨RJ13, "numberOfLeadingZeros", "(J)I"⟩
abbrev cJ13_numberOfTrailingZeros_95d88 : ByteArray := prog_18_method_49_code
def yJ13_numberOfTrailingZeros_95d88 : MethodName := ⟨RJ13, "numberOfTrailingZeros", "(J)I"⟩
abbrev cJ13_bitCount_95d88 : ByteArray := prog_18_method_50_code
def yJ13_bitCount_95d88 : MethodName := ⟨RJ13, "bitCount", "(J)I"⟩
def RJ9 : String := "java/lang/Math"
def TJ9 : u_T := fun k => match k with
  | _ => ("", "", "", false)
def tyJ9 : Nat → FieldType := fun k => match k with
  | _ => .int
abbrev wsJ90 : List Cond := u_ws RJ9 TJ9 0
theorem nmJ9 : ∀ a, a < 0 → ∀ b, b < 0 → a ≠ b → (TJ9 a).2.1 ≠ (TJ9 b).2.1 := by decide +kernel
theorem tyJ9_ok : ∀ k, k < 0 → parseFieldDescriptor (TJ9 k).2.2.1 = some (tyJ9 k) := by decide +kernel
abbrev cJ9_abs_0f7a4 : ByteArray := prog_19_method_59_code
def yJ9_abs_0f7a4 : MethodName := ⟨RJ9, "abs", "(I)I"⟩
abbrev cJ9_max_7cf53 : ByteArray := prog_19_method_65_code
def yJ9_max_7cf53 : MethodName := ⟨RJ9, "max", "(II)I"⟩
abbrev cJ9_min_7cf53 : ByteArray := prog_19_method_69_code
def yJ9_min_7cf53 : MethodName := ⟨RJ9, "min", "(II)I"⟩
def RJxd2413 : String := "java/lang/Number"
def TJxd2413 : u_T := fun k => match k with
  | _ => ("", "", "", false)
def tyJxd2413 : Nat → FieldType := fun k => match k with
  | _ => .int
abbrev wsJxd24130 : List Cond := u_ws RJxd2413 TJxd2413 0
theorem nmJxd2413 : ∀ a, a < 0 → ∀ b, b < 0 → a ≠ b → (TJxd2413 a).2.1 ≠ (TJxd2413 b).2.1 := by decide +kernel
theorem tyJxd2413_ok : ∀ k, k < 0 → parseFieldDescriptor (TJxd2413 k).2.2.1 = some (tyJxd2413 k) := by decide +kernel
def RJ10 : String := "java/lang/System"
def TJ10 : u_T := fun k => match k with
  | _ => ("", "", "", false)
def tyJ10 : Nat → FieldType := fun k => match k with
  | _ => .int
abbrev wsJ100 : List Cond := u_ws RJ10 TJ10 0
theorem nmJ10 : ∀ a, a < 0 → ∀ b, b < 0 → a ≠ b → (TJ10 a).2.1 ≠ (TJ10 b).2.1 := by decide +kernel
theorem tyJ10_ok : ∀ k, k < 0 → parseFieldDescriptor (TJ10 k).2.2.1 = some (tyJ10 k) := by decide +kernel
def RJxfd54e : String := "java/lang/constant/Constable"
def TJxfd54e : u_T := fun k => match k with
  | _ => ("", "", "", false)
def tyJxfd54e : Nat → FieldType := fun k => match k with
  | _ => .int
abbrev wsJxfd54e0 : List Cond := u_ws RJxfd54e TJxfd54e 0
theorem nmJxfd54e : ∀ a, a < 0 → ∀ b, b < 0 → a ≠ b → (TJxfd54e a).2.1 ≠ (TJxfd54e b).2.1 := by decide +kernel
theorem tyJxfd54e_ok : ∀ k, k < 0 → parseFieldDescriptor (TJxfd54e k).2.2.1 = some (tyJxfd54e k) := by decide +kernel
def RJx3cf43 : String := "java/lang/constant/ConstantDesc"
def TJx3cf43 : u_T := fun k => match k with
  | _ => ("", "", "", false)
def tyJx3cf43 : Nat → FieldType := fun k => match k with
  | _ => .int
abbrev wsJx3cf430 : List Cond := u_ws RJx3cf43 TJx3cf43 0
theorem nmJx3cf43 : ∀ a, a < 0 → ∀ b, b < 0 → a ≠ b → (TJx3cf43 a).2.1 ≠ (TJx3cf43 b).2.1 := by decide +kernel
theorem tyJx3cf43_ok : ∀ k, k < 0 → parseFieldDescriptor (TJx3cf43 k).2.2.1 = some (tyJx3cf43 k) := by decide +kernel
def RJ7 : String := "java/util/Arrays"
def TJ7 : u_T := fun k => match k with
  | _ => ("", "", "", false)
def tyJ7 : Nat → FieldType := fun k => match k with
  | _ => .int
abbrev wsJ70 : List Cond := u_ws RJ7 TJ7 0
theorem nmJ7 : ∀ a, a < 0 → ∀ b, b < 0 → a ≠ b → (TJ7 a).2.1 ≠ (TJ7 b).2.1 := by decide +kernel
theorem tyJ7_ok : ∀ k, k < 0 → parseFieldDescriptor (TJ7 k).2.2.1 = some (tyJ7 k) := by decide +kernel
abbrev cJ7_fill_d0a16 : ByteArray := prog_24_method_101_code
def yJ7_fill_d0a16 : MethodName := ⟨RJ7, "fill", "([JJ)V"⟩
abbrev cJ7_fill_53178 : ByteArray := prog_24_method_103_code
def yJ7_fill_53178 : MethodName := ⟨RJ7, "fill", "([II)V"⟩
def RL : String := "RoadsWithTidesLaw"
abbrev cL_place : ByteArray := method_3_code
def yL_place : MethodName := ⟨RL, "place", "(LRoadsWithTides;II[J)I"⟩
abbrev cL_road : ByteArray := method_4_code
def yL_road : MethodName := ⟨RL, "road", "(LRoadsWithTides;II[J)I"⟩
abbrev cL_cart : ByteArray := method_5_code
def yL_cart : MethodName := ⟨RL, "cart", "(LRoadsWithTides;II[J)I"⟩
abbrev cL_row : ByteArray := method_6_code
def yL_row : MethodName := ⟨RL, "row", "(LRoadsWithTides;I[J)I"⟩
abbrev cL_law : ByteArray := code
def yL_law : MethodName := ⟨RL, "law", "([I)Z"⟩
abbrev vwCl : List vw_C := [(RX0, TX0, 5), (RX1, TX1, 6), (RX2, TX2, 9), (RX3, TX3, 7), (RX4, TX4, 5), (RX5, TX5, 2), (RX6, TX6, 10), (RX7, TX7, 4), (RX8, TX8, 4), (RX9, TX9, 12), (RX10, TX10, 12), (RX11, TX11, 10), (RX12, TX12, 56)]
def rt_tbl : List Cond := lw_tbl.filter goodWord
theorem rt_at {w : Cond} (i : Nat) (h : lw_tbl[i]? = some w) (g : goodWord w = true) : w ∈ rt_tbl := List.mem_filter.mpr ⟨List.mem_of_getElem? h, g⟩
theorem rt_atL (ws : List Cond) (ps : List Nat) (hp : ws = ps.filterMap (fun i => lw_tbl[i]?)) (h : ws.all goodWord = true) : ∀ w ∈ ws, w ∈ rt_tbl := by
  intro w hw
  have h1 := List.all_eq_true.mp h w hw
  rw [hp] at hw
  obtain ⟨i, -, hi⟩ := List.mem_filterMap.mp hw
  exact rt_at i hi h1
theorem rt_sub : ∀ w ∈ rt_tbl, w ∈ lw_tbl := fun _ h => (List.mem_filter.mp h).1
theorem rt_good : ∀ w ∈ rt_tbl, goodWord w = true := fun _ h => (List.mem_filter.mp h).2
theorem rt_uX0 : ∀ w ∈ u_ws RX0 TX0 5, w ∈ rt_tbl := rt_atL _ [379, 381, 383, 385, 387] (by decide +kernel) (by decide +kernel)
theorem rt_uX1 : ∀ w ∈ u_ws RX1 TX1 6, w ∈ rt_tbl := rt_atL _ [353, 355, 357, 359, 361, 363] (by decide +kernel) (by decide +kernel)
theorem rt_uX2 : ∀ w ∈ u_ws RX2 TX2 9, w ∈ rt_tbl := rt_atL _ [263, 265, 267, 269, 271, 273, 275, 277, 279] (by decide +kernel) (by decide +kernel)
theorem rt_uX3 : ∀ w ∈ u_ws RX3 TX3 7, w ∈ rt_tbl := rt_atL _ [454, 456, 458, 460, 462, 464, 466] (by decide +kernel) (by decide +kernel)
theorem rt_uX4 : ∀ w ∈ u_ws RX4 TX4 5, w ∈ rt_tbl := rt_atL _ [227, 229, 231, 233, 235] (by decide +kernel) (by decide +kernel)
theorem rt_uX5 : ∀ w ∈ u_ws RX5 TX5 2, w ∈ rt_tbl := rt_atL _ [480, 482] (by decide +kernel) (by decide +kernel)
theorem rt_uX6 : ∀ w ∈ u_ws RX6 TX6 10, w ∈ rt_tbl := rt_atL _ [175, 177, 179, 181, 183, 185, 187, 189, 191, 193] (by decide +kernel) (by decide +kernel)
theorem rt_uX7 : ∀ w ∈ u_ws RX7 TX7 4, w ∈ rt_tbl := rt_atL _ [129, 131, 133, 135] (by decide +kernel) (by decide +kernel)
theorem rt_uX8 : ∀ w ∈ u_ws RX8 TX8 4, w ∈ rt_tbl := rt_atL _ [150, 152, 154, 156] (by decide +kernel) (by decide +kernel)
theorem rt_uX9 : ∀ w ∈ u_ws RX9 TX9 12, w ∈ rt_tbl := rt_atL _ [311, 313, 315, 317, 319, 321, 323, 325, 327, 329, 331, 333] (by decide +kernel) (by decide +kernel)
theorem rt_uX10 : ∀ w ∈ u_ws RX10 TX10 12, w ∈ rt_tbl := rt_atL _ [411, 413, 415, 417, 419, 421, 423, 425, 427, 429, 431, 433] (by decide +kernel) (by decide +kernel)
theorem rt_uX11 : ∀ w ∈ u_ws RX11 TX11 10, w ∈ rt_tbl := rt_atL _ [495, 497, 499, 501, 503, 505, 507, 509, 511, 513] (by decide +kernel) (by decide +kernel)
theorem rt_uX12 : ∀ w ∈ u_ws RX12 TX12 56, w ∈ rt_tbl := rt_atL _ [1327, 1329, 1331, 1333, 1335, 1337, 1339, 1341, 1343, 1345, 1347, 1349, 1351, 1353, 1355, 1357, 1359, 1361, 1363, 1365, 1367, 1369, 1371, 1373, 1375, 1377, 1379, 1381, 1383, 1385, 1387, 1389, 1391, 1393, 1395, 1397, 1399, 1401, 1403, 1405, 1407, 1409, 1411, 1413, 1415, 1417, 1419, 1421, 1423, 1425, 1427, 1429, 1431, 1433, 1435, 1437] (by decide +kernel) (by decide +kernel)
abbrev rt_K : Type := MethodName × ByteArray × Nat × Option FieldType
def kX0_readActs : rt_K := (yX0_readActs, cX0_readActs, 3, (some FieldType.int))
def kX0_readAct : rt_K := (yX0_readAct, cX0_readAct, 3, (some FieldType.boolean))
def kX0_runOn : rt_K := (yX0_runOn, cX0_runOn, 3, (some FieldType.int))
def kX0_runAct : rt_K := (yX0_runAct, cX0_runAct, 5, (some FieldType.int))
def kX1_prepare : rt_K := (yX1_prepare, cX1_prepare, 2, none)
def kX1_keepIfDone : rt_K := (yX1_keepIfDone, cX1_keepIfDone, 2, (some FieldType.int))
def kX1_stepBack : rt_K := (yX1_stepBack, cX1_stepBack, 2, (some FieldType.boolean))
def kX1_store : rt_K := (yX1_store, cX1_store, 3, (some FieldType.boolean))
def kX1_restore : rt_K := (yX1_restore, cX1_restore, 3, (some FieldType.boolean))
def kX1_forgetAll : rt_K := (yX1_forgetAll, cX1_forgetAll, 2, none)
def kX2_hasPlace : rt_K := (yX2_hasPlace, cX2_hasPlace, 2, (some FieldType.boolean))
def kX2_hasRoad : rt_K := (yX2_hasRoad, cX2_hasRoad, 2, (some FieldType.boolean))
def kX2_hasCart : rt_K := (yX2_hasCart, cX2_hasCart, 2, (some FieldType.boolean))
def kX2_allPlaces : rt_K := (yX2_allPlaces, cX2_allPlaces, 1, (some FieldType.int))
def kX2_roadsAt : rt_K := (yX2_roadsAt, cX2_roadsAt, 4, (some FieldType.int))
def kX2_readFlats : rt_K := (yX2_readFlats, cX2_readFlats, 5, (some FieldType.int))
def kX2_readPlace : rt_K := (yX2_readPlace, cX2_readPlace, 3, (some FieldType.boolean))
def kX2_readRoad : rt_K := (yX2_readRoad, cX2_readRoad, 6, (some FieldType.boolean))
def kX2_acceptFlats : rt_K := (yX2_acceptFlats, cX2_acceptFlats, 1, none)
def kX2_readCarts : rt_K := (yX2_readCarts, cX2_readCarts, 4, (some FieldType.int))
def kX2_readCart : rt_K := (yX2_readCart, cX2_readCart, 4, (some FieldType.boolean))
def kX2_acceptCarts : rt_K := (yX2_acceptCarts, cX2_acceptCarts, 1, none)
def kX2_tellHeights : rt_K := (yX2_tellHeights, cX2_tellHeights, 8, (some FieldType.int))
def kX2_entryOf : rt_K := (yX2_entryOf, cX2_entryOf, 2, (some FieldType.int))
def kX3_isError : rt_K := (yX3_isError, cX3_isError, 1, (some FieldType.boolean))
def kX3_isTime : rt_K := (yX3_isTime, cX3_isTime, 1, (some FieldType.boolean))
def kX3_put : rt_K := (yX3_put, cX3_put, 3, (some FieldType.boolean))
def kX3_search : rt_K := (yX3_search, cX3_search, 9, (some FieldType.int))
def kX3_suits : rt_K := (yX3_suits, cX3_suits, 6, (some FieldType.boolean))
def kX4_copyFrom : rt_K := (yX4_copyFrom, cX4_copyFrom, 2, none)
def kX4_of : rt_K := (yX4_of, cX4_of, 3, (some FieldType.int))
def kX4_put : rt_K := (yX4_put, cX4_put, 4, none)
def kX4_putAtPlace : rt_K := (yX4_putAtPlace, cX4_putAtPlace, 3, none)
def kX4_putOnRoad : rt_K := (yX4_putOnRoad, cX4_putOnRoad, 5, none)
def kX4_cartsWith : rt_K := (yX4_cartsWith, cX4_cartsWith, 5, (some FieldType.int))
def kX4_cartsCut : rt_K := (yX4_cartsCut, cX4_cartsCut, 3, (some FieldType.int))
def kX4_farEnd : rt_K := (yX4_farEnd, cX4_farEnd, 3, (some FieldType.int))
def kX5_clear : rt_K := (yX5_clear, cX5_clear, 1, none)
def kX5_add : rt_K := (yX5_add, cX5_add, 2, none)
def kX6_readRule : rt_K := (yX6_readRule, cX6_readRule, 4, (some FieldType.boolean))
def kX6_readAhead : rt_K := (yX6_readAhead, cX6_readAhead, 2, (some FieldType.boolean))
def kX6_readThing : rt_K := (yX6_readThing, cX6_readThing, 4, (some FieldType.boolean))
def kX6_readClose : rt_K := (yX6_readClose, cX6_readClose, 2, (some FieldType.boolean))
def kX6_readOperator : rt_K := (yX6_readOperator, cX6_readOperator, 4, (some FieldType.boolean))
def kX6_popTo : rt_K := (yX6_popTo, cX6_popTo, 4, none)
def kX6_push : rt_K := (yX6_push, cX6_push, 2, none)
def kX6_put : rt_K := (yX6_put, cX6_put, 2, none)
def kX6_letterOf : rt_K := (yX6_letterOf, cX6_letterOf, 1, (some FieldType.int))
def kX6_rankOf : rt_K := (yX6_rankOf, cX6_rankOf, 1, (some FieldType.int))
def kX6_accept : rt_K := (yX6_accept, cX6_accept, 1, none)
def kX6_turnsOf : rt_K := (yX6_turnsOf, cX6_turnsOf, 8, (some FieldType.int))
def kX6_reckon : rt_K := (yX6_reckon, cX6_reckon, 4, (some FieldType.int))
def kX6_valueOf : rt_K := (yX6_valueOf, cX6_valueOf, 2, (some FieldType.int))
def kX6_join : rt_K := (yX6_join, cX6_join, 3, (some FieldType.int))
def kX7_addFour : rt_K := (yX7_addFour, cX7_addFour, 3, (some FieldType.boolean))
def kX7_cutTo : rt_K := (yX7_cutTo, cX7_cutTo, 2, (some FieldType.boolean))
def kX7_clear : rt_K := (yX7_clear, cX7_clear, 1, none)
def kX7_open : rt_K := (yX7_open, cX7_open, 2, none)
def kX7_isAllRead : rt_K := (yX7_isAllRead, cX7_isAllRead, 1, (some FieldType.boolean))
def kX7_peek : rt_K := (yX7_peek, cX7_peek, 1, (some FieldType.int))
def kX7_take : rt_K := (yX7_take, cX7_take, 2, (some FieldType.boolean))
def kX7_isDigit : rt_K := (yX7_isDigit, cX7_isDigit, 1, (some FieldType.boolean))
def kX7_takeNumber : rt_K := (yX7_takeNumber, cX7_takeNumber, 4, (some FieldType.int))
def kX7_takeLetter : rt_K := (yX7_takeLetter, cX7_takeLetter, 3, (some FieldType.int))
def kX7_behindLine : rt_K := (yX7_behindLine, cX7_behindLine, 1, (some FieldType.int))
def kX8_ofRound : rt_K := (yX8_ofRound, cX8_ofRound, 6, (some FieldType.int))
def kX8_heightAt : rt_K := (yX8_heightAt, cX8_heightAt, 4, (some FieldType.int))
def kX8_allGoInto : rt_K := (yX8_allGoInto, cX8_allGoInto, 4, (some FieldType.boolean))
def kX8_readRounds : rt_K := (yX8_readRounds, cX8_readRounds, 3, (some FieldType.boolean))
def kX8_readRound : rt_K := (yX8_readRound, cX8_readRound, 3, (some FieldType.boolean))
def kX8_readPart : rt_K := (yX8_readPart, cX8_readPart, 6, (some FieldType.boolean))
def kX8_accept : rt_K := (yX8_accept, cX8_accept, 1, none)
def kX9_isThere : rt_K := (yX9_isThere, cX9_isThere, 3, (some FieldType.boolean))
def kX9_roadsThereAt : rt_K := (yX9_roadsThereAt, cX9_roadsThereAt, 5, (some FieldType.int))
def kX9_stays : rt_K := (yX9_stays, cX9_stays, 5, (some FieldType.int))
def kX9_turnsBy : rt_K := (yX9_turnsBy, cX9_turnsBy, 7, (some FieldType.int))
def kX9_setOut : rt_K := (yX9_setOut, cX9_setOut, 6, (some FieldType.int))
def kX9_turnRound : rt_K := (yX9_turnRound, cX9_turnRound, 7, (some FieldType.int))
def kX9_putChain : rt_K := (yX9_putChain, cX9_putChain, 4, (some FieldType.int))
def kX9_putLoad : rt_K := (yX9_putLoad, cX9_putLoad, 4, (some FieldType.int))
def kX9_throwRoad : rt_K := (yX9_throwRoad, cX9_throwRoad, 5, (some FieldType.int))
def kX9_goBy : rt_K := (yX9_goBy, cX9_goBy, 6, (some FieldType.int))
def kX9_goOn : rt_K := (yX9_goOn, cX9_goOn, 5, (some FieldType.boolean))
def kX9_travels : rt_K := (yX9_travels, cX9_travels, 9, (some FieldType.boolean))
def kX9_foresee : rt_K := (yX9_foresee, cX9_foresee, 3, (some FieldType.boolean))
def kX9_draw : rt_K := (yX9_draw, cX9_draw, 2, (some FieldType.int))
def kX9_stormYears : rt_K := (yX9_stormYears, cX9_stormYears, 8, (some FieldType.int))
def kX10_lookOn : rt_K := (yX10_lookOn, cX10_lookOn, 6, none)
def kX10_noteOut : rt_K := (yX10_noteOut, cX10_noteOut, 5, none)
def kX10_outFrom : rt_K := (yX10_outFrom, cX10_outFrom, 3, (some FieldType.int))
def kX10_spread : rt_K := (yX10_spread, cX10_spread, 11, none)
def kX10_goBetween : rt_K := (yX10_goBetween, cX10_goBetween, 6, (some FieldType.boolean))
def kX10_reachedBy : rt_K := (yX10_reachedBy, cX10_reachedBy, 4, (some FieldType.int))
def kX10_tellLeastWay : rt_K := (yX10_tellLeastWay, cX10_tellLeastWay, 11, none)
def kX10_leastWayOn : rt_K := (yX10_leastWayOn, cX10_leastWayOn, 12, (some FieldType.int))
def kX10_goRound : rt_K := (yX10_goRound, cX10_goRound, 3, (some FieldType.int))
def kX10_callOn : rt_K := (yX10_callOn, cX10_callOn, 8, none)
def kX10_fewestInns : rt_K := (yX10_fewestInns, cX10_fewestInns, 4, (some FieldType.int))
def kX10_serveAll : rt_K := (yX10_serveAll, cX10_serveAll, 3, (some FieldType.boolean))
def kX11_sign : rt_K := (yX11_sign, cX11_sign, 2, (some FieldType.int))
def kX11_end : rt_K := (yX11_end, cX11_end, 2, (some FieldType.boolean))
def kX11_flats : rt_K := (yX11_flats, cX11_flats, 4, (some FieldType.int))
def kX11_tide : rt_K := (yX11_tide, cX11_tide, 3, (some FieldType.int))
def kX11_carts : rt_K := (yX11_carts, cX11_carts, 4, (some FieldType.int))
def kX11_rule : rt_K := (yX11_rule, cX11_rule, 3, (some FieldType.int))
def kX11_place : rt_K := (yX11_place, cX11_place, 3, (some FieldType.int))
def kX11_road : rt_K := (yX11_road, cX11_road, 5, (some FieldType.int))
def kX11_cart : rt_K := (yX11_cart, cX11_cart, 3, (some FieldType.int))
def kX11_patience : rt_K := (yX11_patience, cX11_patience, 3, (some FieldType.int))
def kX11_sheet : rt_K := (yX11_sheet, cX11_sheet, 5, (some FieldType.int))
def kX11_out : rt_K := (yX11_out, cX11_out, 3, (some FieldType.int))
def kX11_round : rt_K := (yX11_round, cX11_round, 2, (some FieldType.int))
def kX11_chain : rt_K := (yX11_chain, cX11_chain, 3, (some FieldType.int))
def kX11_load : rt_K := (yX11_load, cX11_load, 3, (some FieldType.int))
def kX11_storm : rt_K := (yX11_storm, cX11_storm, 4, (some FieldType.int))
def kX11_pass : rt_K := (yX11_pass, cX11_pass, 3, (some FieldType.int))
def kX11_day : rt_K := (yX11_day, cX11_day, 5, (some FieldType.int))
def kX11_undo : rt_K := (yX11_undo, cX11_undo, 1, (some FieldType.int))
def kX11_level : rt_K := (yX11_level, cX11_level, 3, (some FieldType.int))
def kX11_table : rt_K := (yX11_table, cX11_table, 10, (some FieldType.int))
def kX11_comes : rt_K := (yX11_comes, cX11_comes, 3, (some FieldType.int))
def kX11_ebb : rt_K := (yX11_ebb, cX11_ebb, 7, (some FieldType.int))
def kX11_slack : rt_K := (yX11_slack, cX11_slack, 6, (some FieldType.int))
def kX11_period : rt_K := (yX11_period, cX11_period, 2, (some FieldType.int))
def kX11_soonest : rt_K := (yX11_soonest, cX11_soonest, 3, (some FieldType.int))
def kX11_latest : rt_K := (yX11_latest, cX11_latest, 5, (some FieldType.int))
def kX11_safe : rt_K := (yX11_safe, cX11_safe, 4, (some FieldType.int))
def kX11_within : rt_K := (yX11_within, cX11_within, 5, (some FieldType.int))
def kX11_cutoff : rt_K := (yX11_cutoff, cX11_cutoff, 2, (some FieldType.int))
def kX11_carrier : rt_K := (yX11_carrier, cX11_carrier, 7, (some FieldType.int))
def kX11_inns : rt_K := (yX11_inns, cX11_inns, 3, (some FieldType.int))
def kX11_arrives : rt_K := (yX11_arrives, cX11_arrives, 3, (some FieldType.int))
def kX11_best : rt_K := (yX11_best, cX11_best, 14, (some FieldType.int))
def kX11_could : rt_K := (yX11_could, cX11_could, 7, (some FieldType.int))
def kX11_mark : rt_K := (yX11_mark, cX11_mark, 3, (some FieldType.int))
def kX11_wash : rt_K := (yX11_wash, cX11_wash, 2, (some FieldType.int))
def kX11_fits : rt_K := (yX11_fits, cX11_fits, 3, (some FieldType.int))
def kX11_read : rt_K := (yX11_read, cX11_read, 5, (some FieldType.int))
def kX11_lookat : rt_K := (yX11_lookat, cX11_lookat, 4, (some FieldType.int))
def kX11_years : rt_K := (yX11_years, cX11_years, 4, (some FieldType.int))
def kX11_keep : rt_K := (yX11_keep, cX11_keep, 2, (some FieldType.boolean))
def kX11_again : rt_K := (yX11_again, cX11_again, 2, (some FieldType.boolean))
def kX11_count : rt_K := (yX11_count, cX11_count, 2, (some FieldType.int))
def kX11_row : rt_K := (yX11_row, cX11_row, 2, (some FieldType.int))
def kX11_soonestWay : rt_K := (yX11_soonestWay, cX11_soonestWay, 5, (some FieldType.int))
def kX12_thrown : rt_K := (yX12_thrown, cX12_thrown, 1, (some FieldType.int))
def kX12_in : rt_K := (yX12_in, cX12_in, 3, (some FieldType.boolean))
def kX12_has : rt_K := (yX12_has, cX12_has, 2, (some FieldType.boolean))
def kX12_lost : rt_K := (yX12_lost, cX12_lost, 1, (some FieldType.int))
def kX12_tell : rt_K := (yX12_tell, cX12_tell, 2, none)
def kX12_isPlace : rt_K := (yX12_isPlace, cX12_isPlace, 2, (some FieldType.boolean))
def kX12_isRoad : rt_K := (yX12_isRoad, cX12_isRoad, 2, (some FieldType.boolean))
def kX12_isCart : rt_K := (yX12_isCart, cX12_isCart, 2, (some FieldType.boolean))
def kX12_sign : rt_K := (yX12_sign, cX12_sign, 3, (some FieldType.int))
def kX12_end : rt_K := (yX12_end, cX12_end, 2, (some FieldType.boolean))
def kX12_begin : rt_K := (yX12_begin, cX12_begin, 4, none)
def kX12_here : rt_K := (yX12_here, cX12_here, 1, (some FieldType.int))
def kX12_fine : rt_K := (yX12_fine, cX12_fine, 1, (some FieldType.boolean))
def kX12_fault : rt_K := (yX12_fault, cX12_fault, 2, none)
def kX12_passes : rt_K := (yX12_passes, cX12_passes, 2, (some FieldType.boolean))
def kX12_need : rt_K := (yX12_need, cX12_need, 2, none)
def kX12_oneOf : rt_K := (yX12_oneOf, cX12_oneOf, 4, (some FieldType.int))
def kX12_digit : rt_K := (yX12_digit, cX12_digit, 2, (some FieldType.int))
def kX12_number : rt_K := (yX12_number, cX12_number, 4, (some FieldType.int))
def kX12_number_ : rt_K := (yX12_number_, cX12_number_, 4, (some FieldType.int))
def kX12_readLine : rt_K := (yX12_readLine, cX12_readLine, 3, none)
def kX12_flats : rt_K := (yX12_flats, cX12_flats, 3, (some FieldType.int))
def kX12_tide : rt_K := (yX12_tide, cX12_tide, 4, (some FieldType.int))
def kX12_carts : rt_K := (yX12_carts, cX12_carts, 5, (some FieldType.int))
def kX12_stand : rt_K := (yX12_stand, cX12_stand, 3, none)
def kX12_held : rt_K := (yX12_held, cX12_held, 3, (some FieldType.int))
def kX12_sum : rt_K := (yX12_sum, cX12_sum, 5, (some FieldType.int))
def kX12_product : rt_K := (yX12_product, cX12_product, 5, (some FieldType.int))
def kX12_letterOf : rt_K := (yX12_letterOf, cX12_letterOf, 1, (some FieldType.int))
def kX12_thing : rt_K := (yX12_thing, cX12_thing, 4, (some FieldType.int))
def kX12_rule : rt_K := (yX12_rule, cX12_rule, 3, (some FieldType.int))
def kX12_turnsOf : rt_K := (yX12_turnsOf, cX12_turnsOf, 7, (some FieldType.int))
def kX12_heightOf : rt_K := (yX12_heightOf, cX12_heightOf, 5, (some FieldType.int))
def kX12_levelAt : rt_K := (yX12_levelAt, cX12_levelAt, 4, (some FieldType.int))
def kX12_isThere : rt_K := (yX12_isThere, cX12_isThere, 3, (some FieldType.boolean))
def kX12_endOf : rt_K := (yX12_endOf, cX12_endOf, 3, (some FieldType.int))
def kX12_beyond : rt_K := (yX12_beyond, cX12_beyond, 3, (some FieldType.int))
def kX12_cartsAt : rt_K := (yX12_cartsAt, cX12_cartsAt, 5, (some FieldType.int))
def kX12_place : rt_K := (yX12_place, cX12_place, 5, (some FieldType.int))
def kX12_road : rt_K := (yX12_road, cX12_road, 5, (some FieldType.int))
def kX12_cart : rt_K := (yX12_cart, cX12_cart, 3, (some FieldType.int))
def kX12_patience : rt_K := (yX12_patience, cX12_patience, 3, (some FieldType.int))
def kX12_sheet : rt_K := (yX12_sheet, cX12_sheet, 9, (some FieldType.int))
def kX12_lay : rt_K := (yX12_lay, cX12_lay, 4, none)
def kX12_remember : rt_K := (yX12_remember, cX12_remember, 3, none)
def kX12_refusesOut : rt_K := (yX12_refusesOut, cX12_refusesOut, 4, (some FieldType.int))
def kX12_goOut : rt_K := (yX12_goOut, cX12_goOut, 6, (some FieldType.int))
def kX12_out : rt_K := (yX12_out, cX12_out, 4, (some FieldType.int))
def kX12_canRound : rt_K := (yX12_canRound, cX12_canRound, 2, (some FieldType.boolean))
def kX12_goRound : rt_K := (yX12_goRound, cX12_goRound, 6, (some FieldType.int))
def kX12_round : rt_K := (yX12_round, cX12_round, 2, (some FieldType.int))
def kX12_canChain : rt_K := (yX12_canChain, cX12_canChain, 2, (some FieldType.boolean))
def kX12_chain : rt_K := (yX12_chain, cX12_chain, 4, (some FieldType.int))
def kX12_canLoad : rt_K := (yX12_canLoad, cX12_canLoad, 2, (some FieldType.boolean))
def kX12_load : rt_K := (yX12_load, cX12_load, 4, (some FieldType.int))
def kX12_isUsed : rt_K := (yX12_isUsed, cX12_isUsed, 4, (some FieldType.boolean))
def kX12_storm : rt_K := (yX12_storm, cX12_storm, 5, (some FieldType.int))
def kX12_goTurn : rt_K := (yX12_goTurn, cX12_goTurn, 4, none)
def kX12_beginTurns : rt_K := (yX12_beginTurns, cX12_beginTurns, 1, none)
def kX12_goTurns : rt_K := (yX12_goTurns, cX12_goTurns, 4, none)
def kX12_pass : rt_K := (yX12_pass, cX12_pass, 2, (some FieldType.int))
def kX12_day : rt_K := (yX12_day, cX12_day, 4, (some FieldType.int))
def kX12_readAct : rt_K := (yX12_readAct, cX12_readAct, 3, none)
def kX12_act : rt_K := (yX12_act, cX12_act, 4, (some FieldType.boolean))
def kX12_undo : rt_K := (yX12_undo, cX12_undo, 2, (some FieldType.int))
def kX12_isLook : rt_K := (yX12_isLook, cX12_isLook, 1, (some FieldType.boolean))
def kX12_levelIn : rt_K := (yX12_levelIn, cX12_levelIn, 2, (some FieldType.int))
def kX12_comesIn : rt_K := (yX12_comesIn, cX12_comesIn, 3, (some FieldType.boolean))
def kX12_level : rt_K := (yX12_level, cX12_level, 2, (some FieldType.int))
def kX12_table : rt_K := (yX12_table, cX12_table, 10, (some FieldType.int))
def kX12_comes : rt_K := (yX12_comes, cX12_comes, 4, (some FieldType.int))
def kX12_ebb : rt_K := (yX12_ebb, cX12_ebb, 4, (some FieldType.int))
def kX12_slack : rt_K := (yX12_slack, cX12_slack, 5, (some FieldType.int))
def kX12_common : rt_K := (yX12_common, cX12_common, 2, (some FieldType.int))
def kX12_period : rt_K := (yX12_period, cX12_period, 3, (some FieldType.int))
def kX12_canGo : rt_K := (yX12_canGo, cX12_canGo, 6, (some FieldType.boolean))
def kX12_soonestBy : rt_K := (yX12_soonestBy, cX12_soonestBy, 8, (some FieldType.int))
def kX12_findSoon : rt_K := (yX12_findSoon, cX12_findSoon, 9, none)
def kX12_canCome : rt_K := (yX12_canCome, cX12_canCome, 10, (some FieldType.boolean))
def kX12_soonest : rt_K := (yX12_soonest, cX12_soonest, 3, (some FieldType.int))
def kX12_wayOf : rt_K := (yX12_wayOf, cX12_wayOf, 10, (some FieldType.int))
def kX12_nextRoad : rt_K := (yX12_nextRoad, cX12_nextRoad, 10, (some FieldType.int))
def kX12_latest : rt_K := (yX12_latest, cX12_latest, 5, (some FieldType.int))
def kX12_safe : rt_K := (yX12_safe, cX12_safe, 4, (some FieldType.int))
def kX12_within : rt_K := (yX12_within, cX12_within, 6, (some FieldType.int))
def kX12_cutoff : rt_K := (yX12_cutoff, cX12_cutoff, 4, (some FieldType.int))
def kX12_soonFrom : rt_K := (yX12_soonFrom, cX12_soonFrom, 4, (some FieldType.int))
def kX12_goCarrier : rt_K := (yX12_goCarrier, cX12_goCarrier, 8, none)
def kX12_carrier : rt_K := (yX12_carrier, cX12_carrier, 5, (some FieldType.int))
def kX12_inns : rt_K := (yX12_inns, cX12_inns, 6, (some FieldType.int))
def kX12_rides : rt_K := (yX12_rides, cX12_rides, 8, (some FieldType.boolean))
def kX12_ridesOn : rt_K := (yX12_ridesOn, cX12_ridesOn, 3, (some FieldType.boolean))
def kX12_arrives : rt_K := (yX12_arrives, cX12_arrives, 4, (some FieldType.int))
def kX12_best : rt_K := (yX12_best, cX12_best, 10, (some FieldType.int))
def kX12_could : rt_K := (yX12_could, cX12_could, 8, (some FieldType.int))
def kX12_mark : rt_K := (yX12_mark, cX12_mark, 3, (some FieldType.int))
def kX12_wash : rt_K := (yX12_wash, cX12_wash, 2, (some FieldType.int))
def kX12_fitsBy : rt_K := (yX12_fitsBy, cX12_fitsBy, 6, (some FieldType.boolean))
def kX12_fits : rt_K := (yX12_fits, cX12_fits, 6, (some FieldType.int))
def kX12_findTold : rt_K := (yX12_findTold, cX12_findTold, 8, none)
def kX12_toldAt : rt_K := (yX12_toldAt, cX12_toldAt, 4, (some FieldType.int))
def kX12_read : rt_K := (yX12_read, cX12_read, 6, (some FieldType.int))
def kX12_lookat : rt_K := (yX12_lookat, cX12_lookat, 4, (some FieldType.int))
def kX12_draw : rt_K := (yX12_draw, cX12_draw, 2, (some FieldType.int))
def kX12_years : rt_K := (yX12_years, cX12_years, 8, (some FieldType.int))
def kX12_keep : rt_K := (yX12_keep, cX12_keep, 2, (some FieldType.boolean))
def kX12_again : rt_K := (yX12_again, cX12_again, 3, (some FieldType.boolean))
def kX12_count : rt_K := (yX12_count, cX12_count, 4, (some FieldType.int))
def kX12_row : rt_K := (yX12_row, cX12_row, 2, (some FieldType.int))
def kJ6_compare_7cf53 : rt_K := (yJ6_compare_7cf53, cJ6_compare_7cf53, 2, (some FieldType.int))
def kJ6_numberOfLeadingZeros_0f7a4 : rt_K := (yJ6_numberOfLeadingZeros_0f7a4, cJ6_numberOfLeadingZeros_0f7a4, 2, (some FieldType.int))
def kJ6_numberOfTrailingZeros_0f7a4 : rt_K := (yJ6_numberOfTrailingZeros_0f7a4, cJ6_numberOfTrailingZeros_0f7a4, 2, (some FieldType.int))
def kJ6_bitCount_0f7a4 : rt_K := (yJ6_bitCount_0f7a4, cJ6_bitCount_0f7a4, 1, (some FieldType.int))
def kJ13_numberOfLeadingZeros_95d88 : rt_K := (yJ13_numberOfLeadingZeros_95d88, cJ13_numberOfLeadingZeros_95d88, 3, (some FieldType.int))
def kJ13_numberOfTrailingZeros_95d88 : rt_K := (yJ13_numberOfTrailingZeros_95d88, cJ13_numberOfTrailingZeros_95d88, 3, (some FieldType.int))
def kJ13_bitCount_95d88 : rt_K := (yJ13_bitCount_95d88, cJ13_bitCount_95d88, 2, (some FieldType.int))
def kJ9_abs_0f7a4 : rt_K := (yJ9_abs_0f7a4, cJ9_abs_0f7a4, 1, (some FieldType.int))
def kJ9_max_7cf53 : rt_K := (yJ9_max_7cf53, cJ9_max_7cf53, 2, (some FieldType.int))
def kJ9_min_7cf53 : rt_K := (yJ9_min_7cf53, cJ9_min_7cf53, 2, (some FieldType.int))
def kJ7_fill_d0a16 : rt_K := (yJ7_fill_d0a16, cJ7_fill_d0a16, 5, none)
def kJ7_fill_53178 : rt_K := (yJ7_fill_53178, cJ7_fill_53178, 4, none)
def rt_okK (K : rt_K) (n : Nat) (ci : Option Nat) : Prop := Cond.code K.1 K.2.1 K.2.2.1 K.2.2.2 ∈ rt_tbl ∧ Cond.initialized K.1.cls ∈ rt_tbl ∧ (K.1.cls ≠ "java/lang/invoke/MethodHandle" ∧ K.1.cls ≠ "java/lang/invoke/VarHandle" ∧ (parseMethodDescriptor K.1.desc).map (fun d => d.parameters.length) = some n) ∧ K.2.2.1 ≤ 41 ∧ match ci with
  | none => Cond.static K.1 ∈ rt_tbl
  | some c => Cond.instanceMethod K.1 ∈ rt_tbl ∧ Cond.selects K.1.cls K.1 K.1 ∈ rt_tbl ∧ ∃ q : vw_C, vwCl[c]? = some q ∧ q.1 = K.1.cls
theorem okX0_readActs : rt_okK kX0_readActs 1 (some 0) := ⟨rt_at 866 (by decide +kernel) (by decide +kernel), rt_at 88 (by decide +kernel) (by decide +kernel), ⟨by decide +kernel, by decide +kernel, by decide +kernel⟩, Nat.le_of_ble_eq_true rfl, ⟨rt_at 864 (by decide +kernel) (by decide +kernel), rt_at 865 (by decide +kernel) (by decide +kernel), _, rfl, rfl⟩⟩
theorem okX0_readAct : rt_okK kX0_readAct 1 (some 0) := ⟨rt_at 870 (by decide +kernel) (by decide +kernel), rt_at 88 (by decide +kernel) (by decide +kernel), ⟨by decide +kernel, by decide +kernel, by decide +kernel⟩, Nat.le_of_ble_eq_true rfl, ⟨rt_at 869 (by decide +kernel) (by decide +kernel), rt_at 15 (by decide +kernel) (by decide +kernel), _, rfl, rfl⟩⟩
theorem okX0_runOn : rt_okK kX0_runOn 1 (some 0) := ⟨rt_at 877 (by decide +kernel) (by decide +kernel), rt_at 88 (by decide +kernel) (by decide +kernel), ⟨by decide +kernel, by decide +kernel, by decide +kernel⟩, Nat.le_of_ble_eq_true rfl, ⟨rt_at 875 (by decide +kernel) (by decide +kernel), rt_at 876 (by decide +kernel) (by decide +kernel), _, rfl, rfl⟩⟩
theorem okX0_runAct : rt_okK kX0_runAct 4 (some 0) := ⟨rt_at 881 (by decide +kernel) (by decide +kernel), rt_at 88 (by decide +kernel) (by decide +kernel), ⟨by decide +kernel, by decide +kernel, by decide +kernel⟩, Nat.le_of_ble_eq_true rfl, ⟨rt_at 880 (by decide +kernel) (by decide +kernel), rt_at 16 (by decide +kernel) (by decide +kernel), _, rfl, rfl⟩⟩
theorem okX1_prepare : rt_okK kX1_prepare 1 (some 1) := ⟨rt_at 725 (by decide +kernel) (by decide +kernel), rt_at 87 (by decide +kernel) (by decide +kernel), ⟨by decide +kernel, by decide +kernel, by decide +kernel⟩, Nat.le_of_ble_eq_true rfl, ⟨rt_at 723 (by decide +kernel) (by decide +kernel), rt_at 724 (by decide +kernel) (by decide +kernel), _, rfl, rfl⟩⟩
theorem okX1_keepIfDone : rt_okK kX1_keepIfDone 1 (some 1) := ⟨rt_at 789 (by decide +kernel) (by decide +kernel), rt_at 87 (by decide +kernel) (by decide +kernel), ⟨by decide +kernel, by decide +kernel, by decide +kernel⟩, Nat.le_of_ble_eq_true rfl, ⟨rt_at 787 (by decide +kernel) (by decide +kernel), rt_at 788 (by decide +kernel) (by decide +kernel), _, rfl, rfl⟩⟩
theorem okX1_stepBack : rt_okK kX1_stepBack 1 (some 1) := ⟨rt_at 896 (by decide +kernel) (by decide +kernel), rt_at 87 (by decide +kernel) (by decide +kernel), ⟨by decide +kernel, by decide +kernel, by decide +kernel⟩, Nat.le_of_ble_eq_true rfl, ⟨rt_at 894 (by decide +kernel) (by decide +kernel), rt_at 895 (by decide +kernel) (by decide +kernel), _, rfl, rfl⟩⟩
theorem okX1_store : rt_okK kX1_store 2 (some 1) := ⟨rt_at 1156 (by decide +kernel) (by decide +kernel), rt_at 87 (by decide +kernel) (by decide +kernel), ⟨by decide +kernel, by decide +kernel, by decide +kernel⟩, Nat.le_of_ble_eq_true rfl, ⟨rt_at 1154 (by decide +kernel) (by decide +kernel), rt_at 1155 (by decide +kernel) (by decide +kernel), _, rfl, rfl⟩⟩
theorem okX1_restore : rt_okK kX1_restore 2 (some 1) := ⟨rt_at 1164 (by decide +kernel) (by decide +kernel), rt_at 87 (by decide +kernel) (by decide +kernel), ⟨by decide +kernel, by decide +kernel, by decide +kernel⟩, Nat.le_of_ble_eq_true rfl, ⟨rt_at 1162 (by decide +kernel) (by decide +kernel), rt_at 1163 (by decide +kernel) (by decide +kernel), _, rfl, rfl⟩⟩
theorem okX1_forgetAll : rt_okK kX1_forgetAll 0 (some 1) := ⟨rt_at 596 (by decide +kernel) (by decide +kernel), rt_at 87 (by decide +kernel) (by decide +kernel), ⟨by decide +kernel, by decide +kernel, by decide +kernel⟩, Nat.le_of_ble_eq_true rfl, ⟨rt_at 594 (by decide +kernel) (by decide +kernel), rt_at 595 (by decide +kernel) (by decide +kernel), _, rfl, rfl⟩⟩
theorem okX2_hasPlace : rt_okK kX2_hasPlace 1 (some 2) := ⟨rt_at 828 (by decide +kernel) (by decide +kernel), rt_at 84 (by decide +kernel) (by decide +kernel), ⟨by decide +kernel, by decide +kernel, by decide +kernel⟩, Nat.le_of_ble_eq_true rfl, ⟨rt_at 826 (by decide +kernel) (by decide +kernel), rt_at 827 (by decide +kernel) (by decide +kernel), _, rfl, rfl⟩⟩
theorem okX2_hasRoad : rt_okK kX2_hasRoad 1 (some 2) := ⟨rt_at 742 (by decide +kernel) (by decide +kernel), rt_at 84 (by decide +kernel) (by decide +kernel), ⟨by decide +kernel, by decide +kernel, by decide +kernel⟩, Nat.le_of_ble_eq_true rfl, ⟨rt_at 740 (by decide +kernel) (by decide +kernel), rt_at 741 (by decide +kernel) (by decide +kernel), _, rfl, rfl⟩⟩
theorem okX2_hasCart : rt_okK kX2_hasCart 1 (some 2) := ⟨rt_at 738 (by decide +kernel) (by decide +kernel), rt_at 84 (by decide +kernel) (by decide +kernel), ⟨by decide +kernel, by decide +kernel, by decide +kernel⟩, Nat.le_of_ble_eq_true rfl, ⟨rt_at 736 (by decide +kernel) (by decide +kernel), rt_at 737 (by decide +kernel) (by decide +kernel), _, rfl, rfl⟩⟩
theorem okX2_allPlaces : rt_okK kX2_allPlaces 0 (some 2) := ⟨rt_at 1013 (by decide +kernel) (by decide +kernel), rt_at 84 (by decide +kernel) (by decide +kernel), ⟨by decide +kernel, by decide +kernel, by decide +kernel⟩, Nat.le_of_ble_eq_true rfl, ⟨rt_at 1011 (by decide +kernel) (by decide +kernel), rt_at 1012 (by decide +kernel) (by decide +kernel), _, rfl, rfl⟩⟩
theorem okX2_roadsAt : rt_okK kX2_roadsAt 1 (some 2) := ⟨rt_at 1242 (by decide +kernel) (by decide +kernel), rt_at 84 (by decide +kernel) (by decide +kernel), ⟨by decide +kernel, by decide +kernel, by decide +kernel⟩, Nat.le_of_ble_eq_true rfl, ⟨rt_at 1240 (by decide +kernel) (by decide +kernel), rt_at 1241 (by decide +kernel) (by decide +kernel), _, rfl, rfl⟩⟩
theorem okX2_readFlats : rt_okK kX2_readFlats 1 (some 2) := ⟨rt_at 546 (by decide +kernel) (by decide +kernel), rt_at 84 (by decide +kernel) (by decide +kernel), ⟨by decide +kernel, by decide +kernel, by decide +kernel⟩, Nat.le_of_ble_eq_true rfl, ⟨rt_at 544 (by decide +kernel) (by decide +kernel), rt_at 545 (by decide +kernel) (by decide +kernel), _, rfl, rfl⟩⟩
theorem okX2_readPlace : rt_okK kX2_readPlace 1 (some 2) := ⟨rt_at 554 (by decide +kernel) (by decide +kernel), rt_at 84 (by decide +kernel) (by decide +kernel), ⟨by decide +kernel, by decide +kernel, by decide +kernel⟩, Nat.le_of_ble_eq_true rfl, ⟨rt_at 553 (by decide +kernel) (by decide +kernel), rt_at 0 (by decide +kernel) (by decide +kernel), _, rfl, rfl⟩⟩
theorem okX2_readRoad : rt_okK kX2_readRoad 1 (some 2) := ⟨rt_at 571 (by decide +kernel) (by decide +kernel), rt_at 84 (by decide +kernel) (by decide +kernel), ⟨by decide +kernel, by decide +kernel, by decide +kernel⟩, Nat.le_of_ble_eq_true rfl, ⟨rt_at 570 (by decide +kernel) (by decide +kernel), rt_at 1 (by decide +kernel) (by decide +kernel), _, rfl, rfl⟩⟩
theorem okX2_acceptFlats : rt_okK kX2_acceptFlats 0 (some 2) := ⟨rt_at 592 (by decide +kernel) (by decide +kernel), rt_at 84 (by decide +kernel) (by decide +kernel), ⟨by decide +kernel, by decide +kernel, by decide +kernel⟩, Nat.le_of_ble_eq_true rfl, ⟨rt_at 590 (by decide +kernel) (by decide +kernel), rt_at 591 (by decide +kernel) (by decide +kernel), _, rfl, rfl⟩⟩
theorem okX2_readCarts : rt_okK kX2_readCarts 1 (some 2) := ⟨rt_at 630 (by decide +kernel) (by decide +kernel), rt_at 84 (by decide +kernel) (by decide +kernel), ⟨by decide +kernel, by decide +kernel, by decide +kernel⟩, Nat.le_of_ble_eq_true rfl, ⟨rt_at 628 (by decide +kernel) (by decide +kernel), rt_at 629 (by decide +kernel) (by decide +kernel), _, rfl, rfl⟩⟩
theorem okX2_readCart : rt_okK kX2_readCart 1 (some 2) := ⟨rt_at 634 (by decide +kernel) (by decide +kernel), rt_at 84 (by decide +kernel) (by decide +kernel), ⟨by decide +kernel, by decide +kernel, by decide +kernel⟩, Nat.le_of_ble_eq_true rfl, ⟨rt_at 633 (by decide +kernel) (by decide +kernel), rt_at 4 (by decide +kernel) (by decide +kernel), _, rfl, rfl⟩⟩
theorem okX2_acceptCarts : rt_okK kX2_acceptCarts 0 (some 2) := ⟨rt_at 647 (by decide +kernel) (by decide +kernel), rt_at 84 (by decide +kernel) (by decide +kernel), ⟨by decide +kernel, by decide +kernel, by decide +kernel⟩, Nat.le_of_ble_eq_true rfl, ⟨rt_at 645 (by decide +kernel) (by decide +kernel), rt_at 646 (by decide +kernel) (by decide +kernel), _, rfl, rfl⟩⟩
theorem okX2_tellHeights : rt_okK kX2_tellHeights 4 (some 2) := ⟨rt_at 712 (by decide +kernel) (by decide +kernel), rt_at 84 (by decide +kernel) (by decide +kernel), ⟨by decide +kernel, by decide +kernel, by decide +kernel⟩, Nat.le_of_ble_eq_true rfl, ⟨rt_at 710 (by decide +kernel) (by decide +kernel), rt_at 711 (by decide +kernel) (by decide +kernel), _, rfl, rfl⟩⟩
theorem okX2_entryOf : rt_okK kX2_entryOf 2 none := ⟨rt_at 715 (by decide +kernel) (by decide +kernel), rt_at 84 (by decide +kernel) (by decide +kernel), ⟨by decide +kernel, by decide +kernel, by decide +kernel⟩, Nat.le_of_ble_eq_true rfl, rt_at 714 (by decide +kernel) (by decide +kernel)⟩
theorem okX3_isError : rt_okK kX3_isError 1 none := ⟨rt_at 1088 (by decide +kernel) (by decide +kernel), rt_at 90 (by decide +kernel) (by decide +kernel), ⟨by decide +kernel, by decide +kernel, by decide +kernel⟩, Nat.le_of_ble_eq_true rfl, rt_at 1087 (by decide +kernel) (by decide +kernel)⟩
theorem okX3_isTime : rt_okK kX3_isTime 1 none := ⟨rt_at 1077 (by decide +kernel) (by decide +kernel), rt_at 90 (by decide +kernel) (by decide +kernel), ⟨by decide +kernel, by decide +kernel, by decide +kernel⟩, Nat.le_of_ble_eq_true rfl, rt_at 1076 (by decide +kernel) (by decide +kernel)⟩
theorem okX3_put : rt_okK kX3_put 2 (some 3) := ⟨rt_at 1074 (by decide +kernel) (by decide +kernel), rt_at 90 (by decide +kernel) (by decide +kernel), ⟨by decide +kernel, by decide +kernel, by decide +kernel⟩, Nat.le_of_ble_eq_true rfl, ⟨rt_at 1072 (by decide +kernel) (by decide +kernel), rt_at 1073 (by decide +kernel) (by decide +kernel), _, rfl, rfl⟩⟩
theorem okX3_search : rt_okK kX3_search 3 (some 3) := ⟨rt_at 1092 (by decide +kernel) (by decide +kernel), rt_at 90 (by decide +kernel) (by decide +kernel), ⟨by decide +kernel, by decide +kernel, by decide +kernel⟩, Nat.le_of_ble_eq_true rfl, ⟨rt_at 1090 (by decide +kernel) (by decide +kernel), rt_at 1091 (by decide +kernel) (by decide +kernel), _, rfl, rfl⟩⟩
theorem okX3_suits : rt_okK kX3_suits 4 (some 3) := ⟨rt_at 1099 (by decide +kernel) (by decide +kernel), rt_at 90 (by decide +kernel) (by decide +kernel), ⟨by decide +kernel, by decide +kernel, by decide +kernel⟩, Nat.le_of_ble_eq_true rfl, ⟨rt_at 1098 (by decide +kernel) (by decide +kernel), rt_at 23 (by decide +kernel) (by decide +kernel), _, rfl, rfl⟩⟩
theorem okX4_copyFrom : rt_okK kX4_copyFrom 1 (some 4) := ⟨rt_at 729 (by decide +kernel) (by decide +kernel), rt_at 85 (by decide +kernel) (by decide +kernel), ⟨by decide +kernel, by decide +kernel, by decide +kernel⟩, Nat.le_of_ble_eq_true rfl, ⟨rt_at 727 (by decide +kernel) (by decide +kernel), rt_at 728 (by decide +kernel) (by decide +kernel), _, rfl, rfl⟩⟩
theorem okX4_of : rt_okK kX4_of 2 (some 4) := ⟨rt_at 746 (by decide +kernel) (by decide +kernel), rt_at 85 (by decide +kernel) (by decide +kernel), ⟨by decide +kernel, by decide +kernel, by decide +kernel⟩, Nat.le_of_ble_eq_true rfl, ⟨rt_at 744 (by decide +kernel) (by decide +kernel), rt_at 745 (by decide +kernel) (by decide +kernel), _, rfl, rfl⟩⟩
theorem okX4_put : rt_okK kX4_put 3 (some 4) := ⟨rt_at 642 (by decide +kernel) (by decide +kernel), rt_at 85 (by decide +kernel) (by decide +kernel), ⟨by decide +kernel, by decide +kernel, by decide +kernel⟩, Nat.le_of_ble_eq_true rfl, ⟨rt_at 640 (by decide +kernel) (by decide +kernel), rt_at 641 (by decide +kernel) (by decide +kernel), _, rfl, rfl⟩⟩
theorem okX4_putAtPlace : rt_okK kX4_putAtPlace 2 (some 4) := ⟨rt_at 638 (by decide +kernel) (by decide +kernel), rt_at 85 (by decide +kernel) (by decide +kernel), ⟨by decide +kernel, by decide +kernel, by decide +kernel⟩, Nat.le_of_ble_eq_true rfl, ⟨rt_at 636 (by decide +kernel) (by decide +kernel), rt_at 637 (by decide +kernel) (by decide +kernel), _, rfl, rfl⟩⟩
theorem okX4_putOnRoad : rt_okK kX4_putOnRoad 4 (some 4) := ⟨rt_at 785 (by decide +kernel) (by decide +kernel), rt_at 85 (by decide +kernel) (by decide +kernel), ⟨by decide +kernel, by decide +kernel, by decide +kernel⟩, Nat.le_of_ble_eq_true rfl, ⟨rt_at 783 (by decide +kernel) (by decide +kernel), rt_at 784 (by decide +kernel) (by decide +kernel), _, rfl, rfl⟩⟩
theorem okX4_cartsWith : rt_okK kX4_cartsWith 2 (some 4) := ⟨rt_at 832 (by decide +kernel) (by decide +kernel), rt_at 85 (by decide +kernel) (by decide +kernel), ⟨by decide +kernel, by decide +kernel, by decide +kernel⟩, Nat.le_of_ble_eq_true rfl, ⟨rt_at 830 (by decide +kernel) (by decide +kernel), rt_at 831 (by decide +kernel) (by decide +kernel), _, rfl, rfl⟩⟩
theorem okX4_cartsCut : rt_okK kX4_cartsCut 0 (some 4) := ⟨rt_at 858 (by decide +kernel) (by decide +kernel), rt_at 85 (by decide +kernel) (by decide +kernel), ⟨by decide +kernel, by decide +kernel, by decide +kernel⟩, Nat.le_of_ble_eq_true rfl, ⟨rt_at 856 (by decide +kernel) (by decide +kernel), rt_at 857 (by decide +kernel) (by decide +kernel), _, rfl, rfl⟩⟩
theorem okX4_farEnd : rt_okK kX4_farEnd 2 (some 4) := ⟨rt_at 750 (by decide +kernel) (by decide +kernel), rt_at 85 (by decide +kernel) (by decide +kernel), ⟨by decide +kernel, by decide +kernel, by decide +kernel⟩, Nat.le_of_ble_eq_true rfl, ⟨rt_at 748 (by decide +kernel) (by decide +kernel), rt_at 749 (by decide +kernel) (by decide +kernel), _, rfl, rfl⟩⟩
theorem okX5_clear : rt_okK kX5_clear 0 (some 5) := ⟨rt_at 850 (by decide +kernel) (by decide +kernel), rt_at 91 (by decide +kernel) (by decide +kernel), ⟨by decide +kernel, by decide +kernel, by decide +kernel⟩, Nat.le_of_ble_eq_true rfl, ⟨rt_at 848 (by decide +kernel) (by decide +kernel), rt_at 849 (by decide +kernel) (by decide +kernel), _, rfl, rfl⟩⟩
theorem okX5_add : rt_okK kX5_add 1 (some 5) := ⟨rt_at 854 (by decide +kernel) (by decide +kernel), rt_at 91 (by decide +kernel) (by decide +kernel), ⟨by decide +kernel, by decide +kernel, by decide +kernel⟩, Nat.le_of_ble_eq_true rfl, ⟨rt_at 852 (by decide +kernel) (by decide +kernel), rt_at 853 (by decide +kernel) (by decide +kernel), _, rfl, rfl⟩⟩
theorem okX6_readRule : rt_okK kX6_readRule 1 (some 6) := ⟨rt_at 655 (by decide +kernel) (by decide +kernel), rt_at 83 (by decide +kernel) (by decide +kernel), ⟨by decide +kernel, by decide +kernel, by decide +kernel⟩, Nat.le_of_ble_eq_true rfl, ⟨rt_at 653 (by decide +kernel) (by decide +kernel), rt_at 654 (by decide +kernel) (by decide +kernel), _, rfl, rfl⟩⟩
theorem okX6_readAhead : rt_okK kX6_readAhead 1 (some 6) := ⟨rt_at 674 (by decide +kernel) (by decide +kernel), rt_at 83 (by decide +kernel) (by decide +kernel), ⟨by decide +kernel, by decide +kernel, by decide +kernel⟩, Nat.le_of_ble_eq_true rfl, ⟨rt_at 673 (by decide +kernel) (by decide +kernel), rt_at 7 (by decide +kernel) (by decide +kernel), _, rfl, rfl⟩⟩
theorem okX6_readThing : rt_okK kX6_readThing 1 (some 6) := ⟨rt_at 683 (by decide +kernel) (by decide +kernel), rt_at 83 (by decide +kernel) (by decide +kernel), ⟨by decide +kernel, by decide +kernel, by decide +kernel⟩, Nat.le_of_ble_eq_true rfl, ⟨rt_at 682 (by decide +kernel) (by decide +kernel), rt_at 9 (by decide +kernel) (by decide +kernel), _, rfl, rfl⟩⟩
theorem okX6_readClose : rt_okK kX6_readClose 1 (some 6) := ⟨rt_at 691 (by decide +kernel) (by decide +kernel), rt_at 83 (by decide +kernel) (by decide +kernel), ⟨by decide +kernel, by decide +kernel, by decide +kernel⟩, Nat.le_of_ble_eq_true rfl, ⟨rt_at 690 (by decide +kernel) (by decide +kernel), rt_at 10 (by decide +kernel) (by decide +kernel), _, rfl, rfl⟩⟩
theorem okX6_readOperator : rt_okK kX6_readOperator 1 (some 6) := ⟨rt_at 695 (by decide +kernel) (by decide +kernel), rt_at 83 (by decide +kernel) (by decide +kernel), ⟨by decide +kernel, by decide +kernel, by decide +kernel⟩, Nat.le_of_ble_eq_true rfl, ⟨rt_at 694 (by decide +kernel) (by decide +kernel), rt_at 11 (by decide +kernel) (by decide +kernel), _, rfl, rfl⟩⟩
theorem okX6_popTo : rt_okK kX6_popTo 1 (some 6) := ⟨rt_at 660 (by decide +kernel) (by decide +kernel), rt_at 83 (by decide +kernel) (by decide +kernel), ⟨by decide +kernel, by decide +kernel, by decide +kernel⟩, Nat.le_of_ble_eq_true rfl, ⟨rt_at 659 (by decide +kernel) (by decide +kernel), rt_at 5 (by decide +kernel) (by decide +kernel), _, rfl, rfl⟩⟩
theorem okX6_push : rt_okK kX6_push 1 (some 6) := ⟨rt_at 679 (by decide +kernel) (by decide +kernel), rt_at 83 (by decide +kernel) (by decide +kernel), ⟨by decide +kernel, by decide +kernel, by decide +kernel⟩, Nat.le_of_ble_eq_true rfl, ⟨rt_at 678 (by decide +kernel) (by decide +kernel), rt_at 8 (by decide +kernel) (by decide +kernel), _, rfl, rfl⟩⟩
theorem okX6_put : rt_okK kX6_put 1 (some 6) := ⟨rt_at 670 (by decide +kernel) (by decide +kernel), rt_at 83 (by decide +kernel) (by decide +kernel), ⟨by decide +kernel, by decide +kernel, by decide +kernel⟩, Nat.le_of_ble_eq_true rfl, ⟨rt_at 669 (by decide +kernel) (by decide +kernel), rt_at 6 (by decide +kernel) (by decide +kernel), _, rfl, rfl⟩⟩
theorem okX6_letterOf : rt_okK kX6_letterOf 1 none := ⟨rt_at 687 (by decide +kernel) (by decide +kernel), rt_at 83 (by decide +kernel) (by decide +kernel), ⟨by decide +kernel, by decide +kernel, by decide +kernel⟩, Nat.le_of_ble_eq_true rfl, rt_at 686 (by decide +kernel) (by decide +kernel)⟩
theorem okX6_rankOf : rt_okK kX6_rankOf 1 none := ⟨rt_at 663 (by decide +kernel) (by decide +kernel), rt_at 83 (by decide +kernel) (by decide +kernel), ⟨by decide +kernel, by decide +kernel, by decide +kernel⟩, Nat.le_of_ble_eq_true rfl, rt_at 662 (by decide +kernel) (by decide +kernel)⟩
theorem okX6_accept : rt_okK kX6_accept 0 (some 6) := ⟨rt_at 699 (by decide +kernel) (by decide +kernel), rt_at 83 (by decide +kernel) (by decide +kernel), ⟨by decide +kernel, by decide +kernel, by decide +kernel⟩, Nat.le_of_ble_eq_true rfl, ⟨rt_at 697 (by decide +kernel) (by decide +kernel), rt_at 698 (by decide +kernel) (by decide +kernel), _, rfl, rfl⟩⟩
theorem okX6_turnsOf : rt_okK kX6_turnsOf 6 (some 6) := ⟨rt_at 769 (by decide +kernel) (by decide +kernel), rt_at 83 (by decide +kernel) (by decide +kernel), ⟨by decide +kernel, by decide +kernel, by decide +kernel⟩, Nat.le_of_ble_eq_true rfl, ⟨rt_at 767 (by decide +kernel) (by decide +kernel), rt_at 768 (by decide +kernel) (by decide +kernel), _, rfl, rfl⟩⟩
theorem okX6_reckon : rt_okK kX6_reckon 0 (some 6) := ⟨rt_at 773 (by decide +kernel) (by decide +kernel), rt_at 83 (by decide +kernel) (by decide +kernel), ⟨by decide +kernel, by decide +kernel, by decide +kernel⟩, Nat.le_of_ble_eq_true rfl, ⟨rt_at 772 (by decide +kernel) (by decide +kernel), rt_at 12 (by decide +kernel) (by decide +kernel), _, rfl, rfl⟩⟩
theorem okX6_valueOf : rt_okK kX6_valueOf 1 (some 6) := ⟨rt_at 777 (by decide +kernel) (by decide +kernel), rt_at 83 (by decide +kernel) (by decide +kernel), ⟨by decide +kernel, by decide +kernel, by decide +kernel⟩, Nat.le_of_ble_eq_true rfl, ⟨rt_at 776 (by decide +kernel) (by decide +kernel), rt_at 13 (by decide +kernel) (by decide +kernel), _, rfl, rfl⟩⟩
theorem okX6_join : rt_okK kX6_join 3 none := ⟨rt_at 780 (by decide +kernel) (by decide +kernel), rt_at 83 (by decide +kernel) (by decide +kernel), ⟨by decide +kernel, by decide +kernel, by decide +kernel⟩, Nat.le_of_ble_eq_true rfl, rt_at 779 (by decide +kernel) (by decide +kernel)⟩
theorem okX7_addFour : rt_okK kX7_addFour 1 (some 7) := ⟨rt_at 523 (by decide +kernel) (by decide +kernel), rt_at 81 (by decide +kernel) (by decide +kernel), ⟨by decide +kernel, by decide +kernel, by decide +kernel⟩, Nat.le_of_ble_eq_true rfl, ⟨rt_at 521 (by decide +kernel) (by decide +kernel), rt_at 522 (by decide +kernel) (by decide +kernel), _, rfl, rfl⟩⟩
theorem okX7_cutTo : rt_okK kX7_cutTo 1 (some 7) := ⟨rt_at 531 (by decide +kernel) (by decide +kernel), rt_at 81 (by decide +kernel) (by decide +kernel), ⟨by decide +kernel, by decide +kernel, by decide +kernel⟩, Nat.le_of_ble_eq_true rfl, ⟨rt_at 529 (by decide +kernel) (by decide +kernel), rt_at 530 (by decide +kernel) (by decide +kernel), _, rfl, rfl⟩⟩
theorem okX7_clear : rt_okK kX7_clear 0 (some 7) := ⟨rt_at 588 (by decide +kernel) (by decide +kernel), rt_at 81 (by decide +kernel) (by decide +kernel), ⟨by decide +kernel, by decide +kernel, by decide +kernel⟩, Nat.le_of_ble_eq_true rfl, ⟨rt_at 586 (by decide +kernel) (by decide +kernel), rt_at 587 (by decide +kernel) (by decide +kernel), _, rfl, rfl⟩⟩
theorem okX7_open : rt_okK kX7_open 1 (some 7) := ⟨rt_at 539 (by decide +kernel) (by decide +kernel), rt_at 81 (by decide +kernel) (by decide +kernel), ⟨by decide +kernel, by decide +kernel, by decide +kernel⟩, Nat.le_of_ble_eq_true rfl, ⟨rt_at 537 (by decide +kernel) (by decide +kernel), rt_at 538 (by decide +kernel) (by decide +kernel), _, rfl, rfl⟩⟩
theorem okX7_isAllRead : rt_okK kX7_isAllRead 0 (some 7) := ⟨rt_at 584 (by decide +kernel) (by decide +kernel), rt_at 81 (by decide +kernel) (by decide +kernel), ⟨by decide +kernel, by decide +kernel, by decide +kernel⟩, Nat.le_of_ble_eq_true rfl, ⟨rt_at 582 (by decide +kernel) (by decide +kernel), rt_at 583 (by decide +kernel) (by decide +kernel), _, rfl, rfl⟩⟩
theorem okX7_peek : rt_okK kX7_peek 0 (some 7) := ⟨rt_at 550 (by decide +kernel) (by decide +kernel), rt_at 81 (by decide +kernel) (by decide +kernel), ⟨by decide +kernel, by decide +kernel, by decide +kernel⟩, Nat.le_of_ble_eq_true rfl, ⟨rt_at 548 (by decide +kernel) (by decide +kernel), rt_at 549 (by decide +kernel) (by decide +kernel), _, rfl, rfl⟩⟩
theorem okX7_take : rt_okK kX7_take 1 (some 7) := ⟨rt_at 558 (by decide +kernel) (by decide +kernel), rt_at 81 (by decide +kernel) (by decide +kernel), ⟨by decide +kernel, by decide +kernel, by decide +kernel⟩, Nat.le_of_ble_eq_true rfl, ⟨rt_at 556 (by decide +kernel) (by decide +kernel), rt_at 557 (by decide +kernel) (by decide +kernel), _, rfl, rfl⟩⟩
theorem okX7_isDigit : rt_okK kX7_isDigit 0 (some 7) := ⟨rt_at 567 (by decide +kernel) (by decide +kernel), rt_at 81 (by decide +kernel) (by decide +kernel), ⟨by decide +kernel, by decide +kernel, by decide +kernel⟩, Nat.le_of_ble_eq_true rfl, ⟨rt_at 565 (by decide +kernel) (by decide +kernel), rt_at 566 (by decide +kernel) (by decide +kernel), _, rfl, rfl⟩⟩
theorem okX7_takeNumber : rt_okK kX7_takeNumber 1 (some 7) := ⟨rt_at 563 (by decide +kernel) (by decide +kernel), rt_at 81 (by decide +kernel) (by decide +kernel), ⟨by decide +kernel, by decide +kernel, by decide +kernel⟩, Nat.le_of_ble_eq_true rfl, ⟨rt_at 561 (by decide +kernel) (by decide +kernel), rt_at 562 (by decide +kernel) (by decide +kernel), _, rfl, rfl⟩⟩
theorem okX7_takeLetter : rt_okK kX7_takeLetter 1 (some 7) := ⟨rt_at 575 (by decide +kernel) (by decide +kernel), rt_at 81 (by decide +kernel) (by decide +kernel), ⟨by decide +kernel, by decide +kernel, by decide +kernel⟩, Nat.le_of_ble_eq_true rfl, ⟨rt_at 573 (by decide +kernel) (by decide +kernel), rt_at 574 (by decide +kernel) (by decide +kernel), _, rfl, rfl⟩⟩
theorem okX7_behindLine : rt_okK kX7_behindLine 0 (some 7) := ⟨rt_at 579 (by decide +kernel) (by decide +kernel), rt_at 81 (by decide +kernel) (by decide +kernel), ⟨by decide +kernel, by decide +kernel, by decide +kernel⟩, Nat.le_of_ble_eq_true rfl, ⟨rt_at 577 (by decide +kernel) (by decide +kernel), rt_at 578 (by decide +kernel) (by decide +kernel), _, rfl, rfl⟩⟩
theorem okX8_ofRound : rt_okK kX8_ofRound 4 none := ⟨rt_at 761 (by decide +kernel) (by decide +kernel), rt_at 82 (by decide +kernel) (by decide +kernel), ⟨by decide +kernel, by decide +kernel, by decide +kernel⟩, Nat.le_of_ble_eq_true rfl, rt_at 760 (by decide +kernel) (by decide +kernel)⟩
theorem okX8_heightAt : rt_okK kX8_heightAt 1 (some 8) := ⟨rt_at 758 (by decide +kernel) (by decide +kernel), rt_at 82 (by decide +kernel) (by decide +kernel), ⟨by decide +kernel, by decide +kernel, by decide +kernel⟩, Nat.le_of_ble_eq_true rfl, ⟨rt_at 756 (by decide +kernel) (by decide +kernel), rt_at 757 (by decide +kernel) (by decide +kernel), _, rfl, rfl⟩⟩
theorem okX8_allGoInto : rt_okK kX8_allGoInto 1 (some 8) := ⟨rt_at 944 (by decide +kernel) (by decide +kernel), rt_at 82 (by decide +kernel) (by decide +kernel), ⟨by decide +kernel, by decide +kernel, by decide +kernel⟩, Nat.le_of_ble_eq_true rfl, ⟨rt_at 942 (by decide +kernel) (by decide +kernel), rt_at 943 (by decide +kernel) (by decide +kernel), _, rfl, rfl⟩⟩
theorem okX8_readRounds : rt_okK kX8_readRounds 1 (some 8) := ⟨rt_at 604 (by decide +kernel) (by decide +kernel), rt_at 82 (by decide +kernel) (by decide +kernel), ⟨by decide +kernel, by decide +kernel, by decide +kernel⟩, Nat.le_of_ble_eq_true rfl, ⟨rt_at 602 (by decide +kernel) (by decide +kernel), rt_at 603 (by decide +kernel) (by decide +kernel), _, rfl, rfl⟩⟩
theorem okX8_readRound : rt_okK kX8_readRound 2 (some 8) := ⟨rt_at 608 (by decide +kernel) (by decide +kernel), rt_at 82 (by decide +kernel) (by decide +kernel), ⟨by decide +kernel, by decide +kernel, by decide +kernel⟩, Nat.le_of_ble_eq_true rfl, ⟨rt_at 607 (by decide +kernel) (by decide +kernel), rt_at 2 (by decide +kernel) (by decide +kernel), _, rfl, rfl⟩⟩
theorem okX8_readPart : rt_okK kX8_readPart 4 (some 8) := ⟨rt_at 612 (by decide +kernel) (by decide +kernel), rt_at 82 (by decide +kernel) (by decide +kernel), ⟨by decide +kernel, by decide +kernel, by decide +kernel⟩, Nat.le_of_ble_eq_true rfl, ⟨rt_at 611 (by decide +kernel) (by decide +kernel), rt_at 3 (by decide +kernel) (by decide +kernel), _, rfl, rfl⟩⟩
theorem okX8_accept : rt_okK kX8_accept 0 (some 8) := ⟨rt_at 619 (by decide +kernel) (by decide +kernel), rt_at 82 (by decide +kernel) (by decide +kernel), ⟨by decide +kernel, by decide +kernel, by decide +kernel⟩, Nat.le_of_ble_eq_true rfl, ⟨rt_at 617 (by decide +kernel) (by decide +kernel), rt_at 618 (by decide +kernel) (by decide +kernel), _, rfl, rfl⟩⟩
theorem okX9_isThere : rt_okK kX9_isThere 2 (some 9) := ⟨rt_at 754 (by decide +kernel) (by decide +kernel), rt_at 86 (by decide +kernel) (by decide +kernel), ⟨by decide +kernel, by decide +kernel, by decide +kernel⟩, Nat.le_of_ble_eq_true rfl, ⟨rt_at 752 (by decide +kernel) (by decide +kernel), rt_at 753 (by decide +kernel) (by decide +kernel), _, rfl, rfl⟩⟩
theorem okX9_roadsThereAt : rt_okK kX9_roadsThereAt 1 (some 9) := ⟨rt_at 930 (by decide +kernel) (by decide +kernel), rt_at 86 (by decide +kernel) (by decide +kernel), ⟨by decide +kernel, by decide +kernel, by decide +kernel⟩, Nat.le_of_ble_eq_true rfl, ⟨rt_at 928 (by decide +kernel) (by decide +kernel), rt_at 929 (by decide +kernel) (by decide +kernel), _, rfl, rfl⟩⟩
theorem okX9_stays : rt_okK kX9_stays 3 (some 9) := ⟨rt_at 918 (by decide +kernel) (by decide +kernel), rt_at 86 (by decide +kernel) (by decide +kernel), ⟨by decide +kernel, by decide +kernel, by decide +kernel⟩, Nat.le_of_ble_eq_true rfl, ⟨rt_at 916 (by decide +kernel) (by decide +kernel), rt_at 917 (by decide +kernel) (by decide +kernel), _, rfl, rfl⟩⟩
theorem okX9_turnsBy : rt_okK kX9_turnsBy 4 (some 9) := ⟨rt_at 765 (by decide +kernel) (by decide +kernel), rt_at 86 (by decide +kernel) (by decide +kernel), ⟨by decide +kernel, by decide +kernel, by decide +kernel⟩, Nat.le_of_ble_eq_true rfl, ⟨rt_at 763 (by decide +kernel) (by decide +kernel), rt_at 764 (by decide +kernel) (by decide +kernel), _, rfl, rfl⟩⟩
theorem okX9_setOut : rt_okK kX9_setOut 2 (some 9) := ⟨rt_at 734 (by decide +kernel) (by decide +kernel), rt_at 86 (by decide +kernel) (by decide +kernel), ⟨by decide +kernel, by decide +kernel, by decide +kernel⟩, Nat.le_of_ble_eq_true rfl, ⟨rt_at 732 (by decide +kernel) (by decide +kernel), rt_at 733 (by decide +kernel) (by decide +kernel), _, rfl, rfl⟩⟩
theorem okX9_turnRound : rt_okK kX9_turnRound 1 (some 9) := ⟨rt_at 798 (by decide +kernel) (by decide +kernel), rt_at 86 (by decide +kernel) (by decide +kernel), ⟨by decide +kernel, by decide +kernel, by decide +kernel⟩, Nat.le_of_ble_eq_true rfl, ⟨rt_at 796 (by decide +kernel) (by decide +kernel), rt_at 797 (by decide +kernel) (by decide +kernel), _, rfl, rfl⟩⟩
theorem okX9_putChain : rt_okK kX9_putChain 2 (some 9) := ⟨rt_at 807 (by decide +kernel) (by decide +kernel), rt_at 86 (by decide +kernel) (by decide +kernel), ⟨by decide +kernel, by decide +kernel, by decide +kernel⟩, Nat.le_of_ble_eq_true rfl, ⟨rt_at 805 (by decide +kernel) (by decide +kernel), rt_at 806 (by decide +kernel) (by decide +kernel), _, rfl, rfl⟩⟩
theorem okX9_putLoad : rt_okK kX9_putLoad 2 (some 9) := ⟨rt_at 816 (by decide +kernel) (by decide +kernel), rt_at 86 (by decide +kernel) (by decide +kernel), ⟨by decide +kernel, by decide +kernel, by decide +kernel⟩, Nat.le_of_ble_eq_true rfl, ⟨rt_at 814 (by decide +kernel) (by decide +kernel), rt_at 815 (by decide +kernel) (by decide +kernel), _, rfl, rfl⟩⟩
theorem okX9_throwRoad : rt_okK kX9_throwRoad 3 (some 9) := ⟨rt_at 824 (by decide +kernel) (by decide +kernel), rt_at 86 (by decide +kernel) (by decide +kernel), ⟨by decide +kernel, by decide +kernel, by decide +kernel⟩, Nat.le_of_ble_eq_true rfl, ⟨rt_at 822 (by decide +kernel) (by decide +kernel), rt_at 823 (by decide +kernel) (by decide +kernel), _, rfl, rfl⟩⟩
theorem okX9_goBy : rt_okK kX9_goBy 1 (some 9) := ⟨rt_at 841 (by decide +kernel) (by decide +kernel), rt_at 86 (by decide +kernel) (by decide +kernel), ⟨by decide +kernel, by decide +kernel, by decide +kernel⟩, Nat.le_of_ble_eq_true rfl, ⟨rt_at 839 (by decide +kernel) (by decide +kernel), rt_at 840 (by decide +kernel) (by decide +kernel), _, rfl, rfl⟩⟩
theorem okX9_goOn : rt_okK kX9_goOn 2 (some 9) := ⟨rt_at 845 (by decide +kernel) (by decide +kernel), rt_at 86 (by decide +kernel) (by decide +kernel), ⟨by decide +kernel, by decide +kernel, by decide +kernel⟩, Nat.le_of_ble_eq_true rfl, ⟨rt_at 844 (by decide +kernel) (by decide +kernel), rt_at 14 (by decide +kernel) (by decide +kernel), _, rfl, rfl⟩⟩
theorem okX9_travels : rt_okK kX9_travels 5 (some 9) := ⟨rt_at 1054 (by decide +kernel) (by decide +kernel), rt_at 86 (by decide +kernel) (by decide +kernel), ⟨by decide +kernel, by decide +kernel, by decide +kernel⟩, Nat.le_of_ble_eq_true rfl, ⟨rt_at 1052 (by decide +kernel) (by decide +kernel), rt_at 1053 (by decide +kernel) (by decide +kernel), _, rfl, rfl⟩⟩
theorem okX9_foresee : rt_okK kX9_foresee 1 (some 9) := ⟨rt_at 1050 (by decide +kernel) (by decide +kernel), rt_at 86 (by decide +kernel) (by decide +kernel), ⟨by decide +kernel, by decide +kernel, by decide +kernel⟩, Nat.le_of_ble_eq_true rfl, ⟨rt_at 1048 (by decide +kernel) (by decide +kernel), rt_at 1049 (by decide +kernel) (by decide +kernel), _, rfl, rfl⟩⟩
theorem okX9_draw : rt_okK kX9_draw 1 (some 9) := ⟨rt_at 1144 (by decide +kernel) (by decide +kernel), rt_at 86 (by decide +kernel) (by decide +kernel), ⟨by decide +kernel, by decide +kernel, by decide +kernel⟩, Nat.le_of_ble_eq_true rfl, ⟨rt_at 1143 (by decide +kernel) (by decide +kernel), rt_at 24 (by decide +kernel) (by decide +kernel), _, rfl, rfl⟩⟩
theorem okX9_stormYears : rt_okK kX9_stormYears 2 (some 9) := ⟨rt_at 1140 (by decide +kernel) (by decide +kernel), rt_at 86 (by decide +kernel) (by decide +kernel), ⟨by decide +kernel, by decide +kernel, by decide +kernel⟩, Nat.le_of_ble_eq_true rfl, ⟨rt_at 1138 (by decide +kernel) (by decide +kernel), rt_at 1139 (by decide +kernel) (by decide +kernel), _, rfl, rfl⟩⟩
theorem okX10_lookOn : rt_okK kX10_lookOn 1 (some 10) := ⟨rt_at 957 (by decide +kernel) (by decide +kernel), rt_at 89 (by decide +kernel) (by decide +kernel), ⟨by decide +kernel, by decide +kernel, by decide +kernel⟩, Nat.le_of_ble_eq_true rfl, ⟨rt_at 955 (by decide +kernel) (by decide +kernel), rt_at 956 (by decide +kernel) (by decide +kernel), _, rfl, rfl⟩⟩
theorem okX10_noteOut : rt_okK kX10_noteOut 3 (some 10) := ⟨rt_at 966 (by decide +kernel) (by decide +kernel), rt_at 89 (by decide +kernel) (by decide +kernel), ⟨by decide +kernel, by decide +kernel, by decide +kernel⟩, Nat.le_of_ble_eq_true rfl, ⟨rt_at 965 (by decide +kernel) (by decide +kernel), rt_at 18 (by decide +kernel) (by decide +kernel), _, rfl, rfl⟩⟩
theorem okX10_outFrom : rt_okK kX10_outFrom 2 (some 10) := ⟨rt_at 978 (by decide +kernel) (by decide +kernel), rt_at 89 (by decide +kernel) (by decide +kernel), ⟨by decide +kernel, by decide +kernel, by decide +kernel⟩, Nat.le_of_ble_eq_true rfl, ⟨rt_at 977 (by decide +kernel) (by decide +kernel), rt_at 20 (by decide +kernel) (by decide +kernel), _, rfl, rfl⟩⟩
theorem okX10_spread : rt_okK kX10_spread 3 (some 10) := ⟨rt_at 970 (by decide +kernel) (by decide +kernel), rt_at 89 (by decide +kernel) (by decide +kernel), ⟨by decide +kernel, by decide +kernel, by decide +kernel⟩, Nat.le_of_ble_eq_true rfl, ⟨rt_at 968 (by decide +kernel) (by decide +kernel), rt_at 969 (by decide +kernel) (by decide +kernel), _, rfl, rfl⟩⟩
theorem okX10_goBetween : rt_okK kX10_goBetween 4 (some 10) := ⟨rt_at 974 (by decide +kernel) (by decide +kernel), rt_at 89 (by decide +kernel) (by decide +kernel), ⟨by decide +kernel, by decide +kernel, by decide +kernel⟩, Nat.le_of_ble_eq_true rfl, ⟨rt_at 973 (by decide +kernel) (by decide +kernel), rt_at 19 (by decide +kernel) (by decide +kernel), _, rfl, rfl⟩⟩
theorem okX10_reachedBy : rt_okK kX10_reachedBy 1 (some 10) := ⟨rt_at 1005 (by decide +kernel) (by decide +kernel), rt_at 89 (by decide +kernel) (by decide +kernel), ⟨by decide +kernel, by decide +kernel, by decide +kernel⟩, Nat.le_of_ble_eq_true rfl, ⟨rt_at 1003 (by decide +kernel) (by decide +kernel), rt_at 1004 (by decide +kernel) (by decide +kernel), _, rfl, rfl⟩⟩
theorem okX10_tellLeastWay : rt_okK kX10_tellLeastWay 4 (some 10) := ⟨rt_at 982 (by decide +kernel) (by decide +kernel), rt_at 89 (by decide +kernel) (by decide +kernel), ⟨by decide +kernel, by decide +kernel, by decide +kernel⟩, Nat.le_of_ble_eq_true rfl, ⟨rt_at 980 (by decide +kernel) (by decide +kernel), rt_at 981 (by decide +kernel) (by decide +kernel), _, rfl, rfl⟩⟩
theorem okX10_leastWayOn : rt_okK kX10_leastWayOn 5 (some 10) := ⟨rt_at 986 (by decide +kernel) (by decide +kernel), rt_at 89 (by decide +kernel) (by decide +kernel), ⟨by decide +kernel, by decide +kernel, by decide +kernel⟩, Nat.le_of_ble_eq_true rfl, ⟨rt_at 985 (by decide +kernel) (by decide +kernel), rt_at 21 (by decide +kernel) (by decide +kernel), _, rfl, rfl⟩⟩
theorem okX10_goRound : rt_okK kX10_goRound 2 (some 10) := ⟨rt_at 1021 (by decide +kernel) (by decide +kernel), rt_at 89 (by decide +kernel) (by decide +kernel), ⟨by decide +kernel, by decide +kernel, by decide +kernel⟩, Nat.le_of_ble_eq_true rfl, ⟨rt_at 1019 (by decide +kernel) (by decide +kernel), rt_at 1020 (by decide +kernel) (by decide +kernel), _, rfl, rfl⟩⟩
theorem okX10_callOn : rt_okK kX10_callOn 5 none := ⟨rt_at 1024 (by decide +kernel) (by decide +kernel), rt_at 89 (by decide +kernel) (by decide +kernel), ⟨by decide +kernel, by decide +kernel, by decide +kernel⟩, Nat.le_of_ble_eq_true rfl, rt_at 1023 (by decide +kernel) (by decide +kernel)⟩
theorem okX10_fewestInns : rt_okK kX10_fewestInns 1 (some 10) := ⟨rt_at 1033 (by decide +kernel) (by decide +kernel), rt_at 89 (by decide +kernel) (by decide +kernel), ⟨by decide +kernel, by decide +kernel, by decide +kernel⟩, Nat.le_of_ble_eq_true rfl, ⟨rt_at 1031 (by decide +kernel) (by decide +kernel), rt_at 1032 (by decide +kernel) (by decide +kernel), _, rfl, rfl⟩⟩
theorem okX10_serveAll : rt_okK kX10_serveAll 1 (some 10) := ⟨rt_at 1040 (by decide +kernel) (by decide +kernel), rt_at 89 (by decide +kernel) (by decide +kernel), ⟨by decide +kernel, by decide +kernel, by decide +kernel⟩, Nat.le_of_ble_eq_true rfl, ⟨rt_at 1039 (by decide +kernel) (by decide +kernel), rt_at 22 (by decide +kernel) (by decide +kernel), _, rfl, rfl⟩⟩
theorem okX11_sign : rt_okK kX11_sign 1 (some 11) := ⟨rt_at 519 (by decide +kernel) (by decide +kernel), rt_at 80 (by decide +kernel) (by decide +kernel), ⟨by decide +kernel, by decide +kernel, by decide +kernel⟩, Nat.le_of_ble_eq_true rfl, ⟨rt_at 517 (by decide +kernel) (by decide +kernel), rt_at 518 (by decide +kernel) (by decide +kernel), _, rfl, rfl⟩⟩
theorem okX11_end : rt_okK kX11_end 1 (some 11) := ⟨rt_at 527 (by decide +kernel) (by decide +kernel), rt_at 80 (by decide +kernel) (by decide +kernel), ⟨by decide +kernel, by decide +kernel, by decide +kernel⟩, Nat.le_of_ble_eq_true rfl, ⟨rt_at 525 (by decide +kernel) (by decide +kernel), rt_at 526 (by decide +kernel) (by decide +kernel), _, rfl, rfl⟩⟩
theorem okX11_flats : rt_okK kX11_flats 0 (some 11) := ⟨rt_at 535 (by decide +kernel) (by decide +kernel), rt_at 80 (by decide +kernel) (by decide +kernel), ⟨by decide +kernel, by decide +kernel, by decide +kernel⟩, Nat.le_of_ble_eq_true rfl, ⟨rt_at 533 (by decide +kernel) (by decide +kernel), rt_at 534 (by decide +kernel) (by decide +kernel), _, rfl, rfl⟩⟩
theorem okX11_tide : rt_okK kX11_tide 0 (some 11) := ⟨rt_at 600 (by decide +kernel) (by decide +kernel), rt_at 80 (by decide +kernel) (by decide +kernel), ⟨by decide +kernel, by decide +kernel, by decide +kernel⟩, Nat.le_of_ble_eq_true rfl, ⟨rt_at 598 (by decide +kernel) (by decide +kernel), rt_at 599 (by decide +kernel) (by decide +kernel), _, rfl, rfl⟩⟩
theorem okX11_carts : rt_okK kX11_carts 0 (some 11) := ⟨rt_at 626 (by decide +kernel) (by decide +kernel), rt_at 80 (by decide +kernel) (by decide +kernel), ⟨by decide +kernel, by decide +kernel, by decide +kernel⟩, Nat.le_of_ble_eq_true rfl, ⟨rt_at 624 (by decide +kernel) (by decide +kernel), rt_at 625 (by decide +kernel) (by decide +kernel), _, rfl, rfl⟩⟩
theorem okX11_rule : rt_okK kX11_rule 0 (some 11) := ⟨rt_at 651 (by decide +kernel) (by decide +kernel), rt_at 80 (by decide +kernel) (by decide +kernel), ⟨by decide +kernel, by decide +kernel, by decide +kernel⟩, Nat.le_of_ble_eq_true rfl, ⟨rt_at 649 (by decide +kernel) (by decide +kernel), rt_at 650 (by decide +kernel) (by decide +kernel), _, rfl, rfl⟩⟩
theorem okX11_place : rt_okK kX11_place 2 (some 11) := ⟨rt_at 1177 (by decide +kernel) (by decide +kernel), rt_at 80 (by decide +kernel) (by decide +kernel), ⟨by decide +kernel, by decide +kernel, by decide +kernel⟩, Nat.le_of_ble_eq_true rfl, ⟨rt_at 1175 (by decide +kernel) (by decide +kernel), rt_at 1176 (by decide +kernel) (by decide +kernel), _, rfl, rfl⟩⟩
theorem okX11_road : rt_okK kX11_road 2 (some 11) := ⟨rt_at 1250 (by decide +kernel) (by decide +kernel), rt_at 80 (by decide +kernel) (by decide +kernel), ⟨by decide +kernel, by decide +kernel, by decide +kernel⟩, Nat.le_of_ble_eq_true rfl, ⟨rt_at 1248 (by decide +kernel) (by decide +kernel), rt_at 1249 (by decide +kernel) (by decide +kernel), _, rfl, rfl⟩⟩
theorem okX11_cart : rt_okK kX11_cart 2 (some 11) := ⟨rt_at 1257 (by decide +kernel) (by decide +kernel), rt_at 80 (by decide +kernel) (by decide +kernel), ⟨by decide +kernel, by decide +kernel, by decide +kernel⟩, Nat.le_of_ble_eq_true rfl, ⟨rt_at 1255 (by decide +kernel) (by decide +kernel), rt_at 1256 (by decide +kernel) (by decide +kernel), _, rfl, rfl⟩⟩
theorem okX11_patience : rt_okK kX11_patience 1 (some 11) := ⟨rt_at 704 (by decide +kernel) (by decide +kernel), rt_at 80 (by decide +kernel) (by decide +kernel), ⟨by decide +kernel, by decide +kernel, by decide +kernel⟩, Nat.le_of_ble_eq_true rfl, ⟨rt_at 702 (by decide +kernel) (by decide +kernel), rt_at 703 (by decide +kernel) (by decide +kernel), _, rfl, rfl⟩⟩
theorem okX11_sheet : rt_okK kX11_sheet 4 (some 11) := ⟨rt_at 708 (by decide +kernel) (by decide +kernel), rt_at 80 (by decide +kernel) (by decide +kernel), ⟨by decide +kernel, by decide +kernel, by decide +kernel⟩, Nat.le_of_ble_eq_true rfl, ⟨rt_at 706 (by decide +kernel) (by decide +kernel), rt_at 707 (by decide +kernel) (by decide +kernel), _, rfl, rfl⟩⟩
theorem okX11_out : rt_okK kX11_out 2 (some 11) := ⟨rt_at 721 (by decide +kernel) (by decide +kernel), rt_at 80 (by decide +kernel) (by decide +kernel), ⟨by decide +kernel, by decide +kernel, by decide +kernel⟩, Nat.le_of_ble_eq_true rfl, ⟨rt_at 719 (by decide +kernel) (by decide +kernel), rt_at 720 (by decide +kernel) (by decide +kernel), _, rfl, rfl⟩⟩
theorem okX11_round : rt_okK kX11_round 1 (some 11) := ⟨rt_at 794 (by decide +kernel) (by decide +kernel), rt_at 80 (by decide +kernel) (by decide +kernel), ⟨by decide +kernel, by decide +kernel, by decide +kernel⟩, Nat.le_of_ble_eq_true rfl, ⟨rt_at 792 (by decide +kernel) (by decide +kernel), rt_at 793 (by decide +kernel) (by decide +kernel), _, rfl, rfl⟩⟩
theorem okX11_chain : rt_okK kX11_chain 2 (some 11) := ⟨rt_at 803 (by decide +kernel) (by decide +kernel), rt_at 80 (by decide +kernel) (by decide +kernel), ⟨by decide +kernel, by decide +kernel, by decide +kernel⟩, Nat.le_of_ble_eq_true rfl, ⟨rt_at 801 (by decide +kernel) (by decide +kernel), rt_at 802 (by decide +kernel) (by decide +kernel), _, rfl, rfl⟩⟩
theorem okX11_load : rt_okK kX11_load 2 (some 11) := ⟨rt_at 812 (by decide +kernel) (by decide +kernel), rt_at 80 (by decide +kernel) (by decide +kernel), ⟨by decide +kernel, by decide +kernel, by decide +kernel⟩, Nat.le_of_ble_eq_true rfl, ⟨rt_at 810 (by decide +kernel) (by decide +kernel), rt_at 811 (by decide +kernel) (by decide +kernel), _, rfl, rfl⟩⟩
theorem okX11_storm : rt_okK kX11_storm 3 (some 11) := ⟨rt_at 820 (by decide +kernel) (by decide +kernel), rt_at 80 (by decide +kernel) (by decide +kernel), ⟨by decide +kernel, by decide +kernel, by decide +kernel⟩, Nat.le_of_ble_eq_true rfl, ⟨rt_at 818 (by decide +kernel) (by decide +kernel), rt_at 819 (by decide +kernel) (by decide +kernel), _, rfl, rfl⟩⟩
theorem okX11_pass : rt_okK kX11_pass 1 (some 11) := ⟨rt_at 837 (by decide +kernel) (by decide +kernel), rt_at 80 (by decide +kernel) (by decide +kernel), ⟨by decide +kernel, by decide +kernel, by decide +kernel⟩, Nat.le_of_ble_eq_true rfl, ⟨rt_at 835 (by decide +kernel) (by decide +kernel), rt_at 836 (by decide +kernel) (by decide +kernel), _, rfl, rfl⟩⟩
theorem okX11_day : rt_okK kX11_day 0 (some 11) := ⟨rt_at 862 (by decide +kernel) (by decide +kernel), rt_at 80 (by decide +kernel) (by decide +kernel), ⟨by decide +kernel, by decide +kernel, by decide +kernel⟩, Nat.le_of_ble_eq_true rfl, ⟨rt_at 860 (by decide +kernel) (by decide +kernel), rt_at 861 (by decide +kernel) (by decide +kernel), _, rfl, rfl⟩⟩
theorem okX11_undo : rt_okK kX11_undo 0 (some 11) := ⟨rt_at 892 (by decide +kernel) (by decide +kernel), rt_at 80 (by decide +kernel) (by decide +kernel), ⟨by decide +kernel, by decide +kernel, by decide +kernel⟩, Nat.le_of_ble_eq_true rfl, ⟨rt_at 890 (by decide +kernel) (by decide +kernel), rt_at 891 (by decide +kernel) (by decide +kernel), _, rfl, rfl⟩⟩
theorem okX11_level : rt_okK kX11_level 1 (some 11) := ⟨rt_at 900 (by decide +kernel) (by decide +kernel), rt_at 80 (by decide +kernel) (by decide +kernel), ⟨by decide +kernel, by decide +kernel, by decide +kernel⟩, Nat.le_of_ble_eq_true rfl, ⟨rt_at 898 (by decide +kernel) (by decide +kernel), rt_at 899 (by decide +kernel) (by decide +kernel), _, rfl, rfl⟩⟩
theorem okX11_table : rt_okK kX11_table 2 (some 11) := ⟨rt_at 908 (by decide +kernel) (by decide +kernel), rt_at 80 (by decide +kernel) (by decide +kernel), ⟨by decide +kernel, by decide +kernel, by decide +kernel⟩, Nat.le_of_ble_eq_true rfl, ⟨rt_at 906 (by decide +kernel) (by decide +kernel), rt_at 907 (by decide +kernel) (by decide +kernel), _, rfl, rfl⟩⟩
theorem okX11_comes : rt_okK kX11_comes 1 (some 11) := ⟨rt_at 914 (by decide +kernel) (by decide +kernel), rt_at 80 (by decide +kernel) (by decide +kernel), ⟨by decide +kernel, by decide +kernel, by decide +kernel⟩, Nat.le_of_ble_eq_true rfl, ⟨rt_at 912 (by decide +kernel) (by decide +kernel), rt_at 913 (by decide +kernel) (by decide +kernel), _, rfl, rfl⟩⟩
theorem okX11_ebb : rt_okK kX11_ebb 0 (some 11) := ⟨rt_at 922 (by decide +kernel) (by decide +kernel), rt_at 80 (by decide +kernel) (by decide +kernel), ⟨by decide +kernel, by decide +kernel, by decide +kernel⟩, Nat.le_of_ble_eq_true rfl, ⟨rt_at 920 (by decide +kernel) (by decide +kernel), rt_at 921 (by decide +kernel) (by decide +kernel), _, rfl, rfl⟩⟩
theorem okX11_slack : rt_okK kX11_slack 0 (some 11) := ⟨rt_at 926 (by decide +kernel) (by decide +kernel), rt_at 80 (by decide +kernel) (by decide +kernel), ⟨by decide +kernel, by decide +kernel, by decide +kernel⟩, Nat.le_of_ble_eq_true rfl, ⟨rt_at 924 (by decide +kernel) (by decide +kernel), rt_at 925 (by decide +kernel) (by decide +kernel), _, rfl, rfl⟩⟩
theorem okX11_period : rt_okK kX11_period 0 (some 11) := ⟨rt_at 940 (by decide +kernel) (by decide +kernel), rt_at 80 (by decide +kernel) (by decide +kernel), ⟨by decide +kernel, by decide +kernel, by decide +kernel⟩, Nat.le_of_ble_eq_true rfl, ⟨rt_at 938 (by decide +kernel) (by decide +kernel), rt_at 939 (by decide +kernel) (by decide +kernel), _, rfl, rfl⟩⟩
theorem okX11_soonest : rt_okK kX11_soonest 2 (some 11) := ⟨rt_at 948 (by decide +kernel) (by decide +kernel), rt_at 80 (by decide +kernel) (by decide +kernel), ⟨by decide +kernel, by decide +kernel, by decide +kernel⟩, Nat.le_of_ble_eq_true rfl, ⟨rt_at 946 (by decide +kernel) (by decide +kernel), rt_at 947 (by decide +kernel) (by decide +kernel), _, rfl, rfl⟩⟩
theorem okX11_latest : rt_okK kX11_latest 3 (some 11) := ⟨rt_at 993 (by decide +kernel) (by decide +kernel), rt_at 80 (by decide +kernel) (by decide +kernel), ⟨by decide +kernel, by decide +kernel, by decide +kernel⟩, Nat.le_of_ble_eq_true rfl, ⟨rt_at 991 (by decide +kernel) (by decide +kernel), rt_at 992 (by decide +kernel) (by decide +kernel), _, rfl, rfl⟩⟩
theorem okX11_safe : rt_okK kX11_safe 3 (some 11) := ⟨rt_at 997 (by decide +kernel) (by decide +kernel), rt_at 80 (by decide +kernel) (by decide +kernel), ⟨by decide +kernel, by decide +kernel, by decide +kernel⟩, Nat.le_of_ble_eq_true rfl, ⟨rt_at 995 (by decide +kernel) (by decide +kernel), rt_at 996 (by decide +kernel) (by decide +kernel), _, rfl, rfl⟩⟩
theorem okX11_within : rt_okK kX11_within 2 (some 11) := ⟨rt_at 1001 (by decide +kernel) (by decide +kernel), rt_at 80 (by decide +kernel) (by decide +kernel), ⟨by decide +kernel, by decide +kernel, by decide +kernel⟩, Nat.le_of_ble_eq_true rfl, ⟨rt_at 999 (by decide +kernel) (by decide +kernel), rt_at 1000 (by decide +kernel) (by decide +kernel), _, rfl, rfl⟩⟩
theorem okX11_cutoff : rt_okK kX11_cutoff 1 (some 11) := ⟨rt_at 1009 (by decide +kernel) (by decide +kernel), rt_at 80 (by decide +kernel) (by decide +kernel), ⟨by decide +kernel, by decide +kernel, by decide +kernel⟩, Nat.le_of_ble_eq_true rfl, ⟨rt_at 1007 (by decide +kernel) (by decide +kernel), rt_at 1008 (by decide +kernel) (by decide +kernel), _, rfl, rfl⟩⟩
theorem okX11_carrier : rt_okK kX11_carrier 2 (some 11) := ⟨rt_at 1017 (by decide +kernel) (by decide +kernel), rt_at 80 (by decide +kernel) (by decide +kernel), ⟨by decide +kernel, by decide +kernel, by decide +kernel⟩, Nat.le_of_ble_eq_true rfl, ⟨rt_at 1015 (by decide +kernel) (by decide +kernel), rt_at 1016 (by decide +kernel) (by decide +kernel), _, rfl, rfl⟩⟩
theorem okX11_inns : rt_okK kX11_inns 1 (some 11) := ⟨rt_at 1029 (by decide +kernel) (by decide +kernel), rt_at 80 (by decide +kernel) (by decide +kernel), ⟨by decide +kernel, by decide +kernel, by decide +kernel⟩, Nat.le_of_ble_eq_true rfl, ⟨rt_at 1027 (by decide +kernel) (by decide +kernel), rt_at 1028 (by decide +kernel) (by decide +kernel), _, rfl, rfl⟩⟩
theorem okX11_arrives : rt_okK kX11_arrives 1 (some 11) := ⟨rt_at 1044 (by decide +kernel) (by decide +kernel), rt_at 80 (by decide +kernel) (by decide +kernel), ⟨by decide +kernel, by decide +kernel, by decide +kernel⟩, Nat.le_of_ble_eq_true rfl, ⟨rt_at 1042 (by decide +kernel) (by decide +kernel), rt_at 1043 (by decide +kernel) (by decide +kernel), _, rfl, rfl⟩⟩
theorem okX11_best : rt_okK kX11_best 2 (some 11) := ⟨rt_at 1058 (by decide +kernel) (by decide +kernel), rt_at 80 (by decide +kernel) (by decide +kernel), ⟨by decide +kernel, by decide +kernel, by decide +kernel⟩, Nat.le_of_ble_eq_true rfl, ⟨rt_at 1056 (by decide +kernel) (by decide +kernel), rt_at 1057 (by decide +kernel) (by decide +kernel), _, rfl, rfl⟩⟩
theorem okX11_could : rt_okK kX11_could 2 (some 11) := ⟨rt_at 1066 (by decide +kernel) (by decide +kernel), rt_at 80 (by decide +kernel) (by decide +kernel), ⟨by decide +kernel, by decide +kernel, by decide +kernel⟩, Nat.le_of_ble_eq_true rfl, ⟨rt_at 1064 (by decide +kernel) (by decide +kernel), rt_at 1065 (by decide +kernel) (by decide +kernel), _, rfl, rfl⟩⟩
theorem okX11_mark : rt_okK kX11_mark 2 (some 11) := ⟨rt_at 1070 (by decide +kernel) (by decide +kernel), rt_at 80 (by decide +kernel) (by decide +kernel), ⟨by decide +kernel, by decide +kernel, by decide +kernel⟩, Nat.le_of_ble_eq_true rfl, ⟨rt_at 1068 (by decide +kernel) (by decide +kernel), rt_at 1069 (by decide +kernel) (by decide +kernel), _, rfl, rfl⟩⟩
theorem okX11_wash : rt_okK kX11_wash 0 (some 11) := ⟨rt_at 1081 (by decide +kernel) (by decide +kernel), rt_at 80 (by decide +kernel) (by decide +kernel), ⟨by decide +kernel, by decide +kernel, by decide +kernel⟩, Nat.le_of_ble_eq_true rfl, ⟨rt_at 1079 (by decide +kernel) (by decide +kernel), rt_at 1080 (by decide +kernel) (by decide +kernel), _, rfl, rfl⟩⟩
theorem okX11_fits : rt_okK kX11_fits 1 (some 11) := ⟨rt_at 1085 (by decide +kernel) (by decide +kernel), rt_at 80 (by decide +kernel) (by decide +kernel), ⟨by decide +kernel, by decide +kernel, by decide +kernel⟩, Nat.le_of_ble_eq_true rfl, ⟨rt_at 1083 (by decide +kernel) (by decide +kernel), rt_at 1084 (by decide +kernel) (by decide +kernel), _, rfl, rfl⟩⟩
theorem okX11_read : rt_okK kX11_read 2 (some 11) := ⟨rt_at 1107 (by decide +kernel) (by decide +kernel), rt_at 80 (by decide +kernel) (by decide +kernel), ⟨by decide +kernel, by decide +kernel, by decide +kernel⟩, Nat.le_of_ble_eq_true rfl, ⟨rt_at 1105 (by decide +kernel) (by decide +kernel), rt_at 1106 (by decide +kernel) (by decide +kernel), _, rfl, rfl⟩⟩
theorem okX11_lookat : rt_okK kX11_lookat 1 (some 11) := ⟨rt_at 1131 (by decide +kernel) (by decide +kernel), rt_at 80 (by decide +kernel) (by decide +kernel), ⟨by decide +kernel, by decide +kernel, by decide +kernel⟩, Nat.le_of_ble_eq_true rfl, ⟨rt_at 1129 (by decide +kernel) (by decide +kernel), rt_at 1130 (by decide +kernel) (by decide +kernel), _, rfl, rfl⟩⟩
theorem okX11_years : rt_okK kX11_years 2 (some 11) := ⟨rt_at 1135 (by decide +kernel) (by decide +kernel), rt_at 80 (by decide +kernel) (by decide +kernel), ⟨by decide +kernel, by decide +kernel, by decide +kernel⟩, Nat.le_of_ble_eq_true rfl, ⟨rt_at 1133 (by decide +kernel) (by decide +kernel), rt_at 1134 (by decide +kernel) (by decide +kernel), _, rfl, rfl⟩⟩
theorem okX11_keep : rt_okK kX11_keep 1 (some 11) := ⟨rt_at 1152 (by decide +kernel) (by decide +kernel), rt_at 80 (by decide +kernel) (by decide +kernel), ⟨by decide +kernel, by decide +kernel, by decide +kernel⟩, Nat.le_of_ble_eq_true rfl, ⟨rt_at 1150 (by decide +kernel) (by decide +kernel), rt_at 1151 (by decide +kernel) (by decide +kernel), _, rfl, rfl⟩⟩
theorem okX11_again : rt_okK kX11_again 1 (some 11) := ⟨rt_at 1160 (by decide +kernel) (by decide +kernel), rt_at 80 (by decide +kernel) (by decide +kernel), ⟨by decide +kernel, by decide +kernel, by decide +kernel⟩, Nat.le_of_ble_eq_true rfl, ⟨rt_at 1158 (by decide +kernel) (by decide +kernel), rt_at 1159 (by decide +kernel) (by decide +kernel), _, rfl, rfl⟩⟩
theorem okX11_count : rt_okK kX11_count 1 (some 11) := ⟨rt_at 1168 (by decide +kernel) (by decide +kernel), rt_at 80 (by decide +kernel) (by decide +kernel), ⟨by decide +kernel, by decide +kernel, by decide +kernel⟩, Nat.le_of_ble_eq_true rfl, ⟨rt_at 1166 (by decide +kernel) (by decide +kernel), rt_at 1167 (by decide +kernel) (by decide +kernel), _, rfl, rfl⟩⟩
theorem okX11_row : rt_okK kX11_row 1 (some 11) := ⟨rt_at 1264 (by decide +kernel) (by decide +kernel), rt_at 80 (by decide +kernel) (by decide +kernel), ⟨by decide +kernel, by decide +kernel, by decide +kernel⟩, Nat.le_of_ble_eq_true rfl, ⟨rt_at 1262 (by decide +kernel) (by decide +kernel), rt_at 1263 (by decide +kernel) (by decide +kernel), _, rfl, rfl⟩⟩
theorem okX11_soonestWay : rt_okK kX11_soonestWay 3 (some 11) := ⟨rt_at 952 (by decide +kernel) (by decide +kernel), rt_at 80 (by decide +kernel) (by decide +kernel), ⟨by decide +kernel, by decide +kernel, by decide +kernel⟩, Nat.le_of_ble_eq_true rfl, ⟨rt_at 951 (by decide +kernel) (by decide +kernel), rt_at 17 (by decide +kernel) (by decide +kernel), _, rfl, rfl⟩⟩
theorem okX12_thrown : rt_okK kX12_thrown 0 (some 12) := ⟨rt_at 1444 (by decide +kernel) (by decide +kernel), rt_at 92 (by decide +kernel) (by decide +kernel), ⟨by decide +kernel, by decide +kernel, by decide +kernel⟩, Nat.le_of_ble_eq_true rfl, ⟨rt_at 1442 (by decide +kernel) (by decide +kernel), rt_at 1443 (by decide +kernel) (by decide +kernel), _, rfl, rfl⟩⟩
theorem okX12_in : rt_okK kX12_in 3 none := ⟨rt_at 1455 (by decide +kernel) (by decide +kernel), rt_at 92 (by decide +kernel) (by decide +kernel), ⟨by decide +kernel, by decide +kernel, by decide +kernel⟩, Nat.le_of_ble_eq_true rfl, rt_at 1454 (by decide +kernel) (by decide +kernel)⟩
theorem okX12_has : rt_okK kX12_has 2 none := ⟨rt_at 1747 (by decide +kernel) (by decide +kernel), rt_at 92 (by decide +kernel) (by decide +kernel), ⟨by decide +kernel, by decide +kernel, by decide +kernel⟩, Nat.le_of_ble_eq_true rfl, rt_at 1746 (by decide +kernel) (by decide +kernel)⟩
theorem okX12_lost : rt_okK kX12_lost 0 (some 12) := ⟨rt_at 1549 (by decide +kernel) (by decide +kernel), rt_at 92 (by decide +kernel) (by decide +kernel), ⟨by decide +kernel, by decide +kernel, by decide +kernel⟩, Nat.le_of_ble_eq_true rfl, ⟨rt_at 1548 (by decide +kernel) (by decide +kernel), rt_at 42 (by decide +kernel) (by decide +kernel), _, rfl, rfl⟩⟩
theorem okX12_tell : rt_okK kX12_tell 1 (some 12) := ⟨rt_at 1676 (by decide +kernel) (by decide +kernel), rt_at 92 (by decide +kernel) (by decide +kernel), ⟨by decide +kernel, by decide +kernel, by decide +kernel⟩, Nat.le_of_ble_eq_true rfl, ⟨rt_at 1675 (by decide +kernel) (by decide +kernel), rt_at 60 (by decide +kernel) (by decide +kernel), _, rfl, rfl⟩⟩
theorem okX12_isPlace : rt_okK kX12_isPlace 1 (some 12) := ⟨rt_at 1545 (by decide +kernel) (by decide +kernel), rt_at 92 (by decide +kernel) (by decide +kernel), ⟨by decide +kernel, by decide +kernel, by decide +kernel⟩, Nat.le_of_ble_eq_true rfl, ⟨rt_at 1544 (by decide +kernel) (by decide +kernel), rt_at 41 (by decide +kernel) (by decide +kernel), _, rfl, rfl⟩⟩
theorem okX12_isRoad : rt_okK kX12_isRoad 1 (some 12) := ⟨rt_at 1578 (by decide +kernel) (by decide +kernel), rt_at 92 (by decide +kernel) (by decide +kernel), ⟨by decide +kernel, by decide +kernel, by decide +kernel⟩, Nat.le_of_ble_eq_true rfl, ⟨rt_at 1577 (by decide +kernel) (by decide +kernel), rt_at 46 (by decide +kernel) (by decide +kernel), _, rfl, rfl⟩⟩
theorem okX12_isCart : rt_okK kX12_isCart 1 (some 12) := ⟨rt_at 1592 (by decide +kernel) (by decide +kernel), rt_at 92 (by decide +kernel) (by decide +kernel), ⟨by decide +kernel, by decide +kernel, by decide +kernel⟩, Nat.le_of_ble_eq_true rfl, ⟨rt_at 1591 (by decide +kernel) (by decide +kernel), rt_at 48 (by decide +kernel) (by decide +kernel), _, rfl, rfl⟩⟩
theorem okX12_sign : rt_okK kX12_sign 1 (some 12) := ⟨rt_at 1448 (by decide +kernel) (by decide +kernel), rt_at 92 (by decide +kernel) (by decide +kernel), ⟨by decide +kernel, by decide +kernel, by decide +kernel⟩, Nat.le_of_ble_eq_true rfl, ⟨rt_at 1446 (by decide +kernel) (by decide +kernel), rt_at 1447 (by decide +kernel) (by decide +kernel), _, rfl, rfl⟩⟩
theorem okX12_end : rt_okK kX12_end 1 (some 12) := ⟨rt_at 1452 (by decide +kernel) (by decide +kernel), rt_at 92 (by decide +kernel) (by decide +kernel), ⟨by decide +kernel, by decide +kernel, by decide +kernel⟩, Nat.le_of_ble_eq_true rfl, ⟨rt_at 1450 (by decide +kernel) (by decide +kernel), rt_at 1451 (by decide +kernel) (by decide +kernel), _, rfl, rfl⟩⟩
theorem okX12_begin : rt_okK kX12_begin 3 (some 12) := ⟨rt_at 1463 (by decide +kernel) (by decide +kernel), rt_at 92 (by decide +kernel) (by decide +kernel), ⟨by decide +kernel, by decide +kernel, by decide +kernel⟩, Nat.le_of_ble_eq_true rfl, ⟨rt_at 1462 (by decide +kernel) (by decide +kernel), rt_at 26 (by decide +kernel) (by decide +kernel), _, rfl, rfl⟩⟩
theorem okX12_here : rt_okK kX12_here 0 (some 12) := ⟨rt_at 1475 (by decide +kernel) (by decide +kernel), rt_at 92 (by decide +kernel) (by decide +kernel), ⟨by decide +kernel, by decide +kernel, by decide +kernel⟩, Nat.le_of_ble_eq_true rfl, ⟨rt_at 1474 (by decide +kernel) (by decide +kernel), rt_at 29 (by decide +kernel) (by decide +kernel), _, rfl, rfl⟩⟩
theorem okX12_fine : rt_okK kX12_fine 0 (some 12) := ⟨rt_at 1467 (by decide +kernel) (by decide +kernel), rt_at 92 (by decide +kernel) (by decide +kernel), ⟨by decide +kernel, by decide +kernel, by decide +kernel⟩, Nat.le_of_ble_eq_true rfl, ⟨rt_at 1466 (by decide +kernel) (by decide +kernel), rt_at 27 (by decide +kernel) (by decide +kernel), _, rfl, rfl⟩⟩
theorem okX12_fault : rt_okK kX12_fault 1 (some 12) := ⟨rt_at 1491 (by decide +kernel) (by decide +kernel), rt_at 92 (by decide +kernel) (by decide +kernel), ⟨by decide +kernel, by decide +kernel, by decide +kernel⟩, Nat.le_of_ble_eq_true rfl, ⟨rt_at 1490 (by decide +kernel) (by decide +kernel), rt_at 33 (by decide +kernel) (by decide +kernel), _, rfl, rfl⟩⟩
theorem okX12_passes : rt_okK kX12_passes 1 (some 12) := ⟨rt_at 1499 (by decide +kernel) (by decide +kernel), rt_at 92 (by decide +kernel) (by decide +kernel), ⟨by decide +kernel, by decide +kernel, by decide +kernel⟩, Nat.le_of_ble_eq_true rfl, ⟨rt_at 1498 (by decide +kernel) (by decide +kernel), rt_at 35 (by decide +kernel) (by decide +kernel), _, rfl, rfl⟩⟩
theorem okX12_need : rt_okK kX12_need 1 (some 12) := ⟨rt_at 1495 (by decide +kernel) (by decide +kernel), rt_at 92 (by decide +kernel) (by decide +kernel), ⟨by decide +kernel, by decide +kernel, by decide +kernel⟩, Nat.le_of_ble_eq_true rfl, ⟨rt_at 1494 (by decide +kernel) (by decide +kernel), rt_at 34 (by decide +kernel) (by decide +kernel), _, rfl, rfl⟩⟩
theorem okX12_oneOf : rt_okK kX12_oneOf 3 (some 12) := ⟨rt_at 1487 (by decide +kernel) (by decide +kernel), rt_at 92 (by decide +kernel) (by decide +kernel), ⟨by decide +kernel, by decide +kernel, by decide +kernel⟩, Nat.le_of_ble_eq_true rfl, ⟨rt_at 1486 (by decide +kernel) (by decide +kernel), rt_at 32 (by decide +kernel) (by decide +kernel), _, rfl, rfl⟩⟩
theorem okX12_digit : rt_okK kX12_digit 1 (some 12) := ⟨rt_at 1483 (by decide +kernel) (by decide +kernel), rt_at 92 (by decide +kernel) (by decide +kernel), ⟨by decide +kernel, by decide +kernel, by decide +kernel⟩, Nat.le_of_ble_eq_true rfl, ⟨rt_at 1482 (by decide +kernel) (by decide +kernel), rt_at 31 (by decide +kernel) (by decide +kernel), _, rfl, rfl⟩⟩
theorem okX12_number : rt_okK kX12_number 1 (some 12) := ⟨rt_at 1479 (by decide +kernel) (by decide +kernel), rt_at 92 (by decide +kernel) (by decide +kernel), ⟨by decide +kernel, by decide +kernel, by decide +kernel⟩, Nat.le_of_ble_eq_true rfl, ⟨rt_at 1478 (by decide +kernel) (by decide +kernel), rt_at 30 (by decide +kernel) (by decide +kernel), _, rfl, rfl⟩⟩
theorem okX12_number_ : rt_okK kX12_number_ 2 (some 12) := ⟨rt_at 1507 (by decide +kernel) (by decide +kernel), rt_at 92 (by decide +kernel) (by decide +kernel), ⟨by decide +kernel, by decide +kernel, by decide +kernel⟩, Nat.le_of_ble_eq_true rfl, ⟨rt_at 1506 (by decide +kernel) (by decide +kernel), rt_at 36 (by decide +kernel) (by decide +kernel), _, rfl, rfl⟩⟩
theorem okX12_readLine : rt_okK kX12_readLine 0 (some 12) := ⟨rt_at 1471 (by decide +kernel) (by decide +kernel), rt_at 92 (by decide +kernel) (by decide +kernel), ⟨by decide +kernel, by decide +kernel, by decide +kernel⟩, Nat.le_of_ble_eq_true rfl, ⟨rt_at 1470 (by decide +kernel) (by decide +kernel), rt_at 28 (by decide +kernel) (by decide +kernel), _, rfl, rfl⟩⟩
theorem okX12_flats : rt_okK kX12_flats 0 (some 12) := ⟨rt_at 1459 (by decide +kernel) (by decide +kernel), rt_at 92 (by decide +kernel) (by decide +kernel), ⟨by decide +kernel, by decide +kernel, by decide +kernel⟩, Nat.le_of_ble_eq_true rfl, ⟨rt_at 1457 (by decide +kernel) (by decide +kernel), rt_at 1458 (by decide +kernel) (by decide +kernel), _, rfl, rfl⟩⟩
theorem okX12_tide : rt_okK kX12_tide 0 (some 12) := ⟨rt_at 1503 (by decide +kernel) (by decide +kernel), rt_at 92 (by decide +kernel) (by decide +kernel), ⟨by decide +kernel, by decide +kernel, by decide +kernel⟩, Nat.le_of_ble_eq_true rfl, ⟨rt_at 1501 (by decide +kernel) (by decide +kernel), rt_at 1502 (by decide +kernel) (by decide +kernel), _, rfl, rfl⟩⟩
theorem okX12_carts : rt_okK kX12_carts 0 (some 12) := ⟨rt_at 1511 (by decide +kernel) (by decide +kernel), rt_at 92 (by decide +kernel) (by decide +kernel), ⟨by decide +kernel, by decide +kernel, by decide +kernel⟩, Nat.le_of_ble_eq_true rfl, ⟨rt_at 1509 (by decide +kernel) (by decide +kernel), rt_at 1510 (by decide +kernel) (by decide +kernel), _, rfl, rfl⟩⟩
theorem okX12_stand : rt_okK kX12_stand 3 none := ⟨rt_at 1514 (by decide +kernel) (by decide +kernel), rt_at 92 (by decide +kernel) (by decide +kernel), ⟨by decide +kernel, by decide +kernel, by decide +kernel⟩, Nat.le_of_ble_eq_true rfl, rt_at 1513 (by decide +kernel) (by decide +kernel)⟩
theorem okX12_held : rt_okK kX12_held 1 (some 12) := ⟨rt_at 1522 (by decide +kernel) (by decide +kernel), rt_at 92 (by decide +kernel) (by decide +kernel), ⟨by decide +kernel, by decide +kernel, by decide +kernel⟩, Nat.le_of_ble_eq_true rfl, ⟨rt_at 1521 (by decide +kernel) (by decide +kernel), rt_at 37 (by decide +kernel) (by decide +kernel), _, rfl, rfl⟩⟩
theorem okX12_sum : rt_okK kX12_sum 1 (some 12) := ⟨rt_at 1526 (by decide +kernel) (by decide +kernel), rt_at 92 (by decide +kernel) (by decide +kernel), ⟨by decide +kernel, by decide +kernel, by decide +kernel⟩, Nat.le_of_ble_eq_true rfl, ⟨rt_at 1525 (by decide +kernel) (by decide +kernel), rt_at 38 (by decide +kernel) (by decide +kernel), _, rfl, rfl⟩⟩
theorem okX12_product : rt_okK kX12_product 1 (some 12) := ⟨rt_at 1530 (by decide +kernel) (by decide +kernel), rt_at 92 (by decide +kernel) (by decide +kernel), ⟨by decide +kernel, by decide +kernel, by decide +kernel⟩, Nat.le_of_ble_eq_true rfl, ⟨rt_at 1529 (by decide +kernel) (by decide +kernel), rt_at 39 (by decide +kernel) (by decide +kernel), _, rfl, rfl⟩⟩
theorem okX12_letterOf : rt_okK kX12_letterOf 1 none := ⟨rt_at 1537 (by decide +kernel) (by decide +kernel), rt_at 92 (by decide +kernel) (by decide +kernel), ⟨by decide +kernel, by decide +kernel, by decide +kernel⟩, Nat.le_of_ble_eq_true rfl, rt_at 1536 (by decide +kernel) (by decide +kernel)⟩
theorem okX12_thing : rt_okK kX12_thing 1 (some 12) := ⟨rt_at 1534 (by decide +kernel) (by decide +kernel), rt_at 92 (by decide +kernel) (by decide +kernel), ⟨by decide +kernel, by decide +kernel, by decide +kernel⟩, Nat.le_of_ble_eq_true rfl, ⟨rt_at 1533 (by decide +kernel) (by decide +kernel), rt_at 40 (by decide +kernel) (by decide +kernel), _, rfl, rfl⟩⟩
theorem okX12_rule : rt_okK kX12_rule 0 (some 12) := ⟨rt_at 1518 (by decide +kernel) (by decide +kernel), rt_at 92 (by decide +kernel) (by decide +kernel), ⟨by decide +kernel, by decide +kernel, by decide +kernel⟩, Nat.le_of_ble_eq_true rfl, ⟨rt_at 1516 (by decide +kernel) (by decide +kernel), rt_at 1517 (by decide +kernel) (by decide +kernel), _, rfl, rfl⟩⟩
theorem okX12_turnsOf : rt_okK kX12_turnsOf 4 (some 12) := ⟨rt_at 1582 (by decide +kernel) (by decide +kernel), rt_at 92 (by decide +kernel) (by decide +kernel), ⟨by decide +kernel, by decide +kernel, by decide +kernel⟩, Nat.le_of_ble_eq_true rfl, ⟨rt_at 1581 (by decide +kernel) (by decide +kernel), rt_at 47 (by decide +kernel) (by decide +kernel), _, rfl, rfl⟩⟩
theorem okX12_heightOf : rt_okK kX12_heightOf 4 none := ⟨rt_at 1570 (by decide +kernel) (by decide +kernel), rt_at 92 (by decide +kernel) (by decide +kernel), ⟨by decide +kernel, by decide +kernel, by decide +kernel⟩, Nat.le_of_ble_eq_true rfl, rt_at 1569 (by decide +kernel) (by decide +kernel)⟩
theorem okX12_levelAt : rt_okK kX12_levelAt 1 (some 12) := ⟨rt_at 1567 (by decide +kernel) (by decide +kernel), rt_at 92 (by decide +kernel) (by decide +kernel), ⟨by decide +kernel, by decide +kernel, by decide +kernel⟩, Nat.le_of_ble_eq_true rfl, ⟨rt_at 1566 (by decide +kernel) (by decide +kernel), rt_at 45 (by decide +kernel) (by decide +kernel), _, rfl, rfl⟩⟩
theorem okX12_isThere : rt_okK kX12_isThere 2 (some 12) := ⟨rt_at 1563 (by decide +kernel) (by decide +kernel), rt_at 92 (by decide +kernel) (by decide +kernel), ⟨by decide +kernel, by decide +kernel, by decide +kernel⟩, Nat.le_of_ble_eq_true rfl, ⟨rt_at 1562 (by decide +kernel) (by decide +kernel), rt_at 44 (by decide +kernel) (by decide +kernel), _, rfl, rfl⟩⟩
theorem okX12_endOf : rt_okK kX12_endOf 3 none := ⟨rt_at 1559 (by decide +kernel) (by decide +kernel), rt_at 92 (by decide +kernel) (by decide +kernel), ⟨by decide +kernel, by decide +kernel, by decide +kernel⟩, Nat.le_of_ble_eq_true rfl, rt_at 1558 (by decide +kernel) (by decide +kernel)⟩
theorem okX12_beyond : rt_okK kX12_beyond 3 none := ⟨rt_at 1556 (by decide +kernel) (by decide +kernel), rt_at 92 (by decide +kernel) (by decide +kernel), ⟨by decide +kernel, by decide +kernel, by decide +kernel⟩, Nat.le_of_ble_eq_true rfl, rt_at 1555 (by decide +kernel) (by decide +kernel)⟩
theorem okX12_cartsAt : rt_okK kX12_cartsAt 2 (some 12) := ⟨rt_at 1553 (by decide +kernel) (by decide +kernel), rt_at 92 (by decide +kernel) (by decide +kernel), ⟨by decide +kernel, by decide +kernel, by decide +kernel⟩, Nat.le_of_ble_eq_true rfl, ⟨rt_at 1552 (by decide +kernel) (by decide +kernel), rt_at 43 (by decide +kernel) (by decide +kernel), _, rfl, rfl⟩⟩
theorem okX12_place : rt_okK kX12_place 2 (some 12) := ⟨rt_at 1541 (by decide +kernel) (by decide +kernel), rt_at 92 (by decide +kernel) (by decide +kernel), ⟨by decide +kernel, by decide +kernel, by decide +kernel⟩, Nat.le_of_ble_eq_true rfl, ⟨rt_at 1539 (by decide +kernel) (by decide +kernel), rt_at 1540 (by decide +kernel) (by decide +kernel), _, rfl, rfl⟩⟩
theorem okX12_road : rt_okK kX12_road 2 (some 12) := ⟨rt_at 1574 (by decide +kernel) (by decide +kernel), rt_at 92 (by decide +kernel) (by decide +kernel), ⟨by decide +kernel, by decide +kernel, by decide +kernel⟩, Nat.le_of_ble_eq_true rfl, ⟨rt_at 1572 (by decide +kernel) (by decide +kernel), rt_at 1573 (by decide +kernel) (by decide +kernel), _, rfl, rfl⟩⟩
theorem okX12_cart : rt_okK kX12_cart 2 (some 12) := ⟨rt_at 1588 (by decide +kernel) (by decide +kernel), rt_at 92 (by decide +kernel) (by decide +kernel), ⟨by decide +kernel, by decide +kernel, by decide +kernel⟩, Nat.le_of_ble_eq_true rfl, ⟨rt_at 1586 (by decide +kernel) (by decide +kernel), rt_at 1587 (by decide +kernel) (by decide +kernel), _, rfl, rfl⟩⟩
theorem okX12_patience : rt_okK kX12_patience 1 (some 12) := ⟨rt_at 1596 (by decide +kernel) (by decide +kernel), rt_at 92 (by decide +kernel) (by decide +kernel), ⟨by decide +kernel, by decide +kernel, by decide +kernel⟩, Nat.le_of_ble_eq_true rfl, ⟨rt_at 1594 (by decide +kernel) (by decide +kernel), rt_at 1595 (by decide +kernel) (by decide +kernel), _, rfl, rfl⟩⟩
theorem okX12_sheet : rt_okK kX12_sheet 4 (some 12) := ⟨rt_at 1600 (by decide +kernel) (by decide +kernel), rt_at 92 (by decide +kernel) (by decide +kernel), ⟨by decide +kernel, by decide +kernel, by decide +kernel⟩, Nat.le_of_ble_eq_true rfl, ⟨rt_at 1598 (by decide +kernel) (by decide +kernel), rt_at 1599 (by decide +kernel) (by decide +kernel), _, rfl, rfl⟩⟩
theorem okX12_lay : rt_okK kX12_lay 3 none := ⟨rt_at 1615 (by decide +kernel) (by decide +kernel), rt_at 92 (by decide +kernel) (by decide +kernel), ⟨by decide +kernel, by decide +kernel, by decide +kernel⟩, Nat.le_of_ble_eq_true rfl, rt_at 1614 (by decide +kernel) (by decide +kernel)⟩
theorem okX12_remember : rt_okK kX12_remember 1 (some 12) := ⟨rt_at 1612 (by decide +kernel) (by decide +kernel), rt_at 92 (by decide +kernel) (by decide +kernel), ⟨by decide +kernel, by decide +kernel, by decide +kernel⟩, Nat.le_of_ble_eq_true rfl, ⟨rt_at 1611 (by decide +kernel) (by decide +kernel), rt_at 50 (by decide +kernel) (by decide +kernel), _, rfl, rfl⟩⟩
theorem okX12_refusesOut : rt_okK kX12_refusesOut 2 (some 12) := ⟨rt_at 1608 (by decide +kernel) (by decide +kernel), rt_at 92 (by decide +kernel) (by decide +kernel), ⟨by decide +kernel, by decide +kernel, by decide +kernel⟩, Nat.le_of_ble_eq_true rfl, ⟨rt_at 1607 (by decide +kernel) (by decide +kernel), rt_at 49 (by decide +kernel) (by decide +kernel), _, rfl, rfl⟩⟩
theorem okX12_goOut : rt_okK kX12_goOut 2 (some 12) := ⟨rt_at 1619 (by decide +kernel) (by decide +kernel), rt_at 92 (by decide +kernel) (by decide +kernel), ⟨by decide +kernel, by decide +kernel, by decide +kernel⟩, Nat.le_of_ble_eq_true rfl, ⟨rt_at 1618 (by decide +kernel) (by decide +kernel), rt_at 51 (by decide +kernel) (by decide +kernel), _, rfl, rfl⟩⟩
theorem okX12_out : rt_okK kX12_out 2 (some 12) := ⟨rt_at 1604 (by decide +kernel) (by decide +kernel), rt_at 92 (by decide +kernel) (by decide +kernel), ⟨by decide +kernel, by decide +kernel, by decide +kernel⟩, Nat.le_of_ble_eq_true rfl, ⟨rt_at 1602 (by decide +kernel) (by decide +kernel), rt_at 1603 (by decide +kernel) (by decide +kernel), _, rfl, rfl⟩⟩
theorem okX12_canRound : rt_okK kX12_canRound 1 (some 12) := ⟨rt_at 1627 (by decide +kernel) (by decide +kernel), rt_at 92 (by decide +kernel) (by decide +kernel), ⟨by decide +kernel, by decide +kernel, by decide +kernel⟩, Nat.le_of_ble_eq_true rfl, ⟨rt_at 1626 (by decide +kernel) (by decide +kernel), rt_at 52 (by decide +kernel) (by decide +kernel), _, rfl, rfl⟩⟩
theorem okX12_goRound : rt_okK kX12_goRound 1 (some 12) := ⟨rt_at 1631 (by decide +kernel) (by decide +kernel), rt_at 92 (by decide +kernel) (by decide +kernel), ⟨by decide +kernel, by decide +kernel, by decide +kernel⟩, Nat.le_of_ble_eq_true rfl, ⟨rt_at 1630 (by decide +kernel) (by decide +kernel), rt_at 53 (by decide +kernel) (by decide +kernel), _, rfl, rfl⟩⟩
theorem okX12_round : rt_okK kX12_round 1 (some 12) := ⟨rt_at 1623 (by decide +kernel) (by decide +kernel), rt_at 92 (by decide +kernel) (by decide +kernel), ⟨by decide +kernel, by decide +kernel, by decide +kernel⟩, Nat.le_of_ble_eq_true rfl, ⟨rt_at 1621 (by decide +kernel) (by decide +kernel), rt_at 1622 (by decide +kernel) (by decide +kernel), _, rfl, rfl⟩⟩
theorem okX12_canChain : rt_okK kX12_canChain 1 (some 12) := ⟨rt_at 1639 (by decide +kernel) (by decide +kernel), rt_at 92 (by decide +kernel) (by decide +kernel), ⟨by decide +kernel, by decide +kernel, by decide +kernel⟩, Nat.le_of_ble_eq_true rfl, ⟨rt_at 1638 (by decide +kernel) (by decide +kernel), rt_at 54 (by decide +kernel) (by decide +kernel), _, rfl, rfl⟩⟩
theorem okX12_chain : rt_okK kX12_chain 2 (some 12) := ⟨rt_at 1635 (by decide +kernel) (by decide +kernel), rt_at 92 (by decide +kernel) (by decide +kernel), ⟨by decide +kernel, by decide +kernel, by decide +kernel⟩, Nat.le_of_ble_eq_true rfl, ⟨rt_at 1633 (by decide +kernel) (by decide +kernel), rt_at 1634 (by decide +kernel) (by decide +kernel), _, rfl, rfl⟩⟩
theorem okX12_canLoad : rt_okK kX12_canLoad 1 (some 12) := ⟨rt_at 1647 (by decide +kernel) (by decide +kernel), rt_at 92 (by decide +kernel) (by decide +kernel), ⟨by decide +kernel, by decide +kernel, by decide +kernel⟩, Nat.le_of_ble_eq_true rfl, ⟨rt_at 1646 (by decide +kernel) (by decide +kernel), rt_at 55 (by decide +kernel) (by decide +kernel), _, rfl, rfl⟩⟩
theorem okX12_load : rt_okK kX12_load 2 (some 12) := ⟨rt_at 1643 (by decide +kernel) (by decide +kernel), rt_at 92 (by decide +kernel) (by decide +kernel), ⟨by decide +kernel, by decide +kernel, by decide +kernel⟩, Nat.le_of_ble_eq_true rfl, ⟨rt_at 1641 (by decide +kernel) (by decide +kernel), rt_at 1642 (by decide +kernel) (by decide +kernel), _, rfl, rfl⟩⟩
theorem okX12_isUsed : rt_okK kX12_isUsed 2 (some 12) := ⟨rt_at 1655 (by decide +kernel) (by decide +kernel), rt_at 92 (by decide +kernel) (by decide +kernel), ⟨by decide +kernel, by decide +kernel, by decide +kernel⟩, Nat.le_of_ble_eq_true rfl, ⟨rt_at 1654 (by decide +kernel) (by decide +kernel), rt_at 56 (by decide +kernel) (by decide +kernel), _, rfl, rfl⟩⟩
theorem okX12_storm : rt_okK kX12_storm 3 (some 12) := ⟨rt_at 1651 (by decide +kernel) (by decide +kernel), rt_at 92 (by decide +kernel) (by decide +kernel), ⟨by decide +kernel, by decide +kernel, by decide +kernel⟩, Nat.le_of_ble_eq_true rfl, ⟨rt_at 1649 (by decide +kernel) (by decide +kernel), rt_at 1650 (by decide +kernel) (by decide +kernel), _, rfl, rfl⟩⟩
theorem okX12_goTurn : rt_okK kX12_goTurn 1 (some 12) := ⟨rt_at 1671 (by decide +kernel) (by decide +kernel), rt_at 92 (by decide +kernel) (by decide +kernel), ⟨by decide +kernel, by decide +kernel, by decide +kernel⟩, Nat.le_of_ble_eq_true rfl, ⟨rt_at 1670 (by decide +kernel) (by decide +kernel), rt_at 59 (by decide +kernel) (by decide +kernel), _, rfl, rfl⟩⟩
theorem okX12_beginTurns : rt_okK kX12_beginTurns 0 (some 12) := ⟨rt_at 1663 (by decide +kernel) (by decide +kernel), rt_at 92 (by decide +kernel) (by decide +kernel), ⟨by decide +kernel, by decide +kernel, by decide +kernel⟩, Nat.le_of_ble_eq_true rfl, ⟨rt_at 1662 (by decide +kernel) (by decide +kernel), rt_at 57 (by decide +kernel) (by decide +kernel), _, rfl, rfl⟩⟩
theorem okX12_goTurns : rt_okK kX12_goTurns 2 (some 12) := ⟨rt_at 1667 (by decide +kernel) (by decide +kernel), rt_at 92 (by decide +kernel) (by decide +kernel), ⟨by decide +kernel, by decide +kernel, by decide +kernel⟩, Nat.le_of_ble_eq_true rfl, ⟨rt_at 1666 (by decide +kernel) (by decide +kernel), rt_at 58 (by decide +kernel) (by decide +kernel), _, rfl, rfl⟩⟩
theorem okX12_pass : rt_okK kX12_pass 1 (some 12) := ⟨rt_at 1659 (by decide +kernel) (by decide +kernel), rt_at 92 (by decide +kernel) (by decide +kernel), ⟨by decide +kernel, by decide +kernel, by decide +kernel⟩, Nat.le_of_ble_eq_true rfl, ⟨rt_at 1657 (by decide +kernel) (by decide +kernel), rt_at 1658 (by decide +kernel) (by decide +kernel), _, rfl, rfl⟩⟩
theorem okX12_day : rt_okK kX12_day 0 (some 12) := ⟨rt_at 1680 (by decide +kernel) (by decide +kernel), rt_at 92 (by decide +kernel) (by decide +kernel), ⟨by decide +kernel, by decide +kernel, by decide +kernel⟩, Nat.le_of_ble_eq_true rfl, ⟨rt_at 1678 (by decide +kernel) (by decide +kernel), rt_at 1679 (by decide +kernel) (by decide +kernel), _, rfl, rfl⟩⟩
theorem okX12_readAct : rt_okK kX12_readAct 1 (some 12) := ⟨rt_at 1684 (by decide +kernel) (by decide +kernel), rt_at 92 (by decide +kernel) (by decide +kernel), ⟨by decide +kernel, by decide +kernel, by decide +kernel⟩, Nat.le_of_ble_eq_true rfl, ⟨rt_at 1683 (by decide +kernel) (by decide +kernel), rt_at 61 (by decide +kernel) (by decide +kernel), _, rfl, rfl⟩⟩
theorem okX12_act : rt_okK kX12_act 3 (some 12) := ⟨rt_at 1688 (by decide +kernel) (by decide +kernel), rt_at 92 (by decide +kernel) (by decide +kernel), ⟨by decide +kernel, by decide +kernel, by decide +kernel⟩, Nat.le_of_ble_eq_true rfl, ⟨rt_at 1687 (by decide +kernel) (by decide +kernel), rt_at 62 (by decide +kernel) (by decide +kernel), _, rfl, rfl⟩⟩
theorem okX12_undo : rt_okK kX12_undo 0 (some 12) := ⟨rt_at 1692 (by decide +kernel) (by decide +kernel), rt_at 92 (by decide +kernel) (by decide +kernel), ⟨by decide +kernel, by decide +kernel, by decide +kernel⟩, Nat.le_of_ble_eq_true rfl, ⟨rt_at 1690 (by decide +kernel) (by decide +kernel), rt_at 1691 (by decide +kernel) (by decide +kernel), _, rfl, rfl⟩⟩
theorem okX12_isLook : rt_okK kX12_isLook 1 none := ⟨rt_at 1699 (by decide +kernel) (by decide +kernel), rt_at 92 (by decide +kernel) (by decide +kernel), ⟨by decide +kernel, by decide +kernel, by decide +kernel⟩, Nat.le_of_ble_eq_true rfl, rt_at 1698 (by decide +kernel) (by decide +kernel)⟩
theorem okX12_levelIn : rt_okK kX12_levelIn 1 (some 12) := ⟨rt_at 1703 (by decide +kernel) (by decide +kernel), rt_at 92 (by decide +kernel) (by decide +kernel), ⟨by decide +kernel, by decide +kernel, by decide +kernel⟩, Nat.le_of_ble_eq_true rfl, ⟨rt_at 1702 (by decide +kernel) (by decide +kernel), rt_at 63 (by decide +kernel) (by decide +kernel), _, rfl, rfl⟩⟩
theorem okX12_comesIn : rt_okK kX12_comesIn 2 (some 12) := ⟨rt_at 1712 (by decide +kernel) (by decide +kernel), rt_at 92 (by decide +kernel) (by decide +kernel), ⟨by decide +kernel, by decide +kernel, by decide +kernel⟩, Nat.le_of_ble_eq_true rfl, ⟨rt_at 1711 (by decide +kernel) (by decide +kernel), rt_at 64 (by decide +kernel) (by decide +kernel), _, rfl, rfl⟩⟩
theorem okX12_level : rt_okK kX12_level 1 (some 12) := ⟨rt_at 1696 (by decide +kernel) (by decide +kernel), rt_at 92 (by decide +kernel) (by decide +kernel), ⟨by decide +kernel, by decide +kernel, by decide +kernel⟩, Nat.le_of_ble_eq_true rfl, ⟨rt_at 1694 (by decide +kernel) (by decide +kernel), rt_at 1695 (by decide +kernel) (by decide +kernel), _, rfl, rfl⟩⟩
theorem okX12_table : rt_okK kX12_table 2 (some 12) := ⟨rt_at 1708 (by decide +kernel) (by decide +kernel), rt_at 92 (by decide +kernel) (by decide +kernel), ⟨by decide +kernel, by decide +kernel, by decide +kernel⟩, Nat.le_of_ble_eq_true rfl, ⟨rt_at 1706 (by decide +kernel) (by decide +kernel), rt_at 1707 (by decide +kernel) (by decide +kernel), _, rfl, rfl⟩⟩
theorem okX12_comes : rt_okK kX12_comes 1 (some 12) := ⟨rt_at 1716 (by decide +kernel) (by decide +kernel), rt_at 92 (by decide +kernel) (by decide +kernel), ⟨by decide +kernel, by decide +kernel, by decide +kernel⟩, Nat.le_of_ble_eq_true rfl, ⟨rt_at 1714 (by decide +kernel) (by decide +kernel), rt_at 1715 (by decide +kernel) (by decide +kernel), _, rfl, rfl⟩⟩
theorem okX12_ebb : rt_okK kX12_ebb 0 (some 12) := ⟨rt_at 1720 (by decide +kernel) (by decide +kernel), rt_at 92 (by decide +kernel) (by decide +kernel), ⟨by decide +kernel, by decide +kernel, by decide +kernel⟩, Nat.le_of_ble_eq_true rfl, ⟨rt_at 1718 (by decide +kernel) (by decide +kernel), rt_at 1719 (by decide +kernel) (by decide +kernel), _, rfl, rfl⟩⟩
theorem okX12_slack : rt_okK kX12_slack 0 (some 12) := ⟨rt_at 1724 (by decide +kernel) (by decide +kernel), rt_at 92 (by decide +kernel) (by decide +kernel), ⟨by decide +kernel, by decide +kernel, by decide +kernel⟩, Nat.le_of_ble_eq_true rfl, ⟨rt_at 1722 (by decide +kernel) (by decide +kernel), rt_at 1723 (by decide +kernel) (by decide +kernel), _, rfl, rfl⟩⟩
theorem okX12_common : rt_okK kX12_common 2 none := ⟨rt_at 1731 (by decide +kernel) (by decide +kernel), rt_at 92 (by decide +kernel) (by decide +kernel), ⟨by decide +kernel, by decide +kernel, by decide +kernel⟩, Nat.le_of_ble_eq_true rfl, rt_at 1730 (by decide +kernel) (by decide +kernel)⟩
theorem okX12_period : rt_okK kX12_period 0 (some 12) := ⟨rt_at 1728 (by decide +kernel) (by decide +kernel), rt_at 92 (by decide +kernel) (by decide +kernel), ⟨by decide +kernel, by decide +kernel, by decide +kernel⟩, Nat.le_of_ble_eq_true rfl, ⟨rt_at 1726 (by decide +kernel) (by decide +kernel), rt_at 1727 (by decide +kernel) (by decide +kernel), _, rfl, rfl⟩⟩
theorem okX12_canGo : rt_okK kX12_canGo 4 (some 12) := ⟨rt_at 1755 (by decide +kernel) (by decide +kernel), rt_at 92 (by decide +kernel) (by decide +kernel), ⟨by decide +kernel, by decide +kernel, by decide +kernel⟩, Nat.le_of_ble_eq_true rfl, ⟨rt_at 1754 (by decide +kernel) (by decide +kernel), rt_at 68 (by decide +kernel) (by decide +kernel), _, rfl, rfl⟩⟩
theorem okX12_soonestBy : rt_okK kX12_soonestBy 5 (some 12) := ⟨rt_at 1751 (by decide +kernel) (by decide +kernel), rt_at 92 (by decide +kernel) (by decide +kernel), ⟨by decide +kernel, by decide +kernel, by decide +kernel⟩, Nat.le_of_ble_eq_true rfl, ⟨rt_at 1750 (by decide +kernel) (by decide +kernel), rt_at 67 (by decide +kernel) (by decide +kernel), _, rfl, rfl⟩⟩
theorem okX12_findSoon : rt_okK kX12_findSoon 3 (some 12) := ⟨rt_at 1743 (by decide +kernel) (by decide +kernel), rt_at 92 (by decide +kernel) (by decide +kernel), ⟨by decide +kernel, by decide +kernel, by decide +kernel⟩, Nat.le_of_ble_eq_true rfl, ⟨rt_at 1742 (by decide +kernel) (by decide +kernel), rt_at 66 (by decide +kernel) (by decide +kernel), _, rfl, rfl⟩⟩
theorem okX12_canCome : rt_okK kX12_canCome 6 (some 12) := ⟨rt_at 1763 (by decide +kernel) (by decide +kernel), rt_at 92 (by decide +kernel) (by decide +kernel), ⟨by decide +kernel, by decide +kernel, by decide +kernel⟩, Nat.le_of_ble_eq_true rfl, ⟨rt_at 1762 (by decide +kernel) (by decide +kernel), rt_at 70 (by decide +kernel) (by decide +kernel), _, rfl, rfl⟩⟩
theorem okX12_soonest : rt_okK kX12_soonest 2 (some 12) := ⟨rt_at 1735 (by decide +kernel) (by decide +kernel), rt_at 92 (by decide +kernel) (by decide +kernel), ⟨by decide +kernel, by decide +kernel, by decide +kernel⟩, Nat.le_of_ble_eq_true rfl, ⟨rt_at 1733 (by decide +kernel) (by decide +kernel), rt_at 1734 (by decide +kernel) (by decide +kernel), _, rfl, rfl⟩⟩
theorem okX12_wayOf : rt_okK kX12_wayOf 3 (some 12) := ⟨rt_at 1739 (by decide +kernel) (by decide +kernel), rt_at 92 (by decide +kernel) (by decide +kernel), ⟨by decide +kernel, by decide +kernel, by decide +kernel⟩, Nat.le_of_ble_eq_true rfl, ⟨rt_at 1738 (by decide +kernel) (by decide +kernel), rt_at 65 (by decide +kernel) (by decide +kernel), _, rfl, rfl⟩⟩
theorem okX12_nextRoad : rt_okK kX12_nextRoad 6 (some 12) := ⟨rt_at 1759 (by decide +kernel) (by decide +kernel), rt_at 92 (by decide +kernel) (by decide +kernel), ⟨by decide +kernel, by decide +kernel, by decide +kernel⟩, Nat.le_of_ble_eq_true rfl, ⟨rt_at 1758 (by decide +kernel) (by decide +kernel), rt_at 69 (by decide +kernel) (by decide +kernel), _, rfl, rfl⟩⟩
theorem okX12_latest : rt_okK kX12_latest 3 (some 12) := ⟨rt_at 1767 (by decide +kernel) (by decide +kernel), rt_at 92 (by decide +kernel) (by decide +kernel), ⟨by decide +kernel, by decide +kernel, by decide +kernel⟩, Nat.le_of_ble_eq_true rfl, ⟨rt_at 1765 (by decide +kernel) (by decide +kernel), rt_at 1766 (by decide +kernel) (by decide +kernel), _, rfl, rfl⟩⟩
theorem okX12_safe : rt_okK kX12_safe 3 (some 12) := ⟨rt_at 1771 (by decide +kernel) (by decide +kernel), rt_at 92 (by decide +kernel) (by decide +kernel), ⟨by decide +kernel, by decide +kernel, by decide +kernel⟩, Nat.le_of_ble_eq_true rfl, ⟨rt_at 1769 (by decide +kernel) (by decide +kernel), rt_at 1770 (by decide +kernel) (by decide +kernel), _, rfl, rfl⟩⟩
theorem okX12_within : rt_okK kX12_within 2 (some 12) := ⟨rt_at 1775 (by decide +kernel) (by decide +kernel), rt_at 92 (by decide +kernel) (by decide +kernel), ⟨by decide +kernel, by decide +kernel, by decide +kernel⟩, Nat.le_of_ble_eq_true rfl, ⟨rt_at 1773 (by decide +kernel) (by decide +kernel), rt_at 1774 (by decide +kernel) (by decide +kernel), _, rfl, rfl⟩⟩
theorem okX12_cutoff : rt_okK kX12_cutoff 1 (some 12) := ⟨rt_at 1779 (by decide +kernel) (by decide +kernel), rt_at 92 (by decide +kernel) (by decide +kernel), ⟨by decide +kernel, by decide +kernel, by decide +kernel⟩, Nat.le_of_ble_eq_true rfl, ⟨rt_at 1777 (by decide +kernel) (by decide +kernel), rt_at 1778 (by decide +kernel) (by decide +kernel), _, rfl, rfl⟩⟩
theorem okX12_soonFrom : rt_okK kX12_soonFrom 3 (some 12) := ⟨rt_at 1791 (by decide +kernel) (by decide +kernel), rt_at 92 (by decide +kernel) (by decide +kernel), ⟨by decide +kernel, by decide +kernel, by decide +kernel⟩, Nat.le_of_ble_eq_true rfl, ⟨rt_at 1790 (by decide +kernel) (by decide +kernel), rt_at 72 (by decide +kernel) (by decide +kernel), _, rfl, rfl⟩⟩
theorem okX12_goCarrier : rt_okK kX12_goCarrier 5 (some 12) := ⟨rt_at 1787 (by decide +kernel) (by decide +kernel), rt_at 92 (by decide +kernel) (by decide +kernel), ⟨by decide +kernel, by decide +kernel, by decide +kernel⟩, Nat.le_of_ble_eq_true rfl, ⟨rt_at 1786 (by decide +kernel) (by decide +kernel), rt_at 71 (by decide +kernel) (by decide +kernel), _, rfl, rfl⟩⟩
theorem okX12_carrier : rt_okK kX12_carrier 2 (some 12) := ⟨rt_at 1783 (by decide +kernel) (by decide +kernel), rt_at 92 (by decide +kernel) (by decide +kernel), ⟨by decide +kernel, by decide +kernel, by decide +kernel⟩, Nat.le_of_ble_eq_true rfl, ⟨rt_at 1781 (by decide +kernel) (by decide +kernel), rt_at 1782 (by decide +kernel) (by decide +kernel), _, rfl, rfl⟩⟩
theorem okX12_inns : rt_okK kX12_inns 1 (some 12) := ⟨rt_at 1795 (by decide +kernel) (by decide +kernel), rt_at 92 (by decide +kernel) (by decide +kernel), ⟨by decide +kernel, by decide +kernel, by decide +kernel⟩, Nat.le_of_ble_eq_true rfl, ⟨rt_at 1793 (by decide +kernel) (by decide +kernel), rt_at 1794 (by decide +kernel) (by decide +kernel), _, rfl, rfl⟩⟩
theorem okX12_rides : rt_okK kX12_rides 5 (some 12) := ⟨rt_at 1807 (by decide +kernel) (by decide +kernel), rt_at 92 (by decide +kernel) (by decide +kernel), ⟨by decide +kernel, by decide +kernel, by decide +kernel⟩, Nat.le_of_ble_eq_true rfl, ⟨rt_at 1806 (by decide +kernel) (by decide +kernel), rt_at 74 (by decide +kernel) (by decide +kernel), _, rfl, rfl⟩⟩
theorem okX12_ridesOn : rt_okK kX12_ridesOn 1 (some 12) := ⟨rt_at 1803 (by decide +kernel) (by decide +kernel), rt_at 92 (by decide +kernel) (by decide +kernel), ⟨by decide +kernel, by decide +kernel, by decide +kernel⟩, Nat.le_of_ble_eq_true rfl, ⟨rt_at 1802 (by decide +kernel) (by decide +kernel), rt_at 73 (by decide +kernel) (by decide +kernel), _, rfl, rfl⟩⟩
theorem okX12_arrives : rt_okK kX12_arrives 1 (some 12) := ⟨rt_at 1799 (by decide +kernel) (by decide +kernel), rt_at 92 (by decide +kernel) (by decide +kernel), ⟨by decide +kernel, by decide +kernel, by decide +kernel⟩, Nat.le_of_ble_eq_true rfl, ⟨rt_at 1797 (by decide +kernel) (by decide +kernel), rt_at 1798 (by decide +kernel) (by decide +kernel), _, rfl, rfl⟩⟩
theorem okX12_best : rt_okK kX12_best 2 (some 12) := ⟨rt_at 1811 (by decide +kernel) (by decide +kernel), rt_at 92 (by decide +kernel) (by decide +kernel), ⟨by decide +kernel, by decide +kernel, by decide +kernel⟩, Nat.le_of_ble_eq_true rfl, ⟨rt_at 1809 (by decide +kernel) (by decide +kernel), rt_at 1810 (by decide +kernel) (by decide +kernel), _, rfl, rfl⟩⟩
theorem okX12_could : rt_okK kX12_could 2 (some 12) := ⟨rt_at 1815 (by decide +kernel) (by decide +kernel), rt_at 92 (by decide +kernel) (by decide +kernel), ⟨by decide +kernel, by decide +kernel, by decide +kernel⟩, Nat.le_of_ble_eq_true rfl, ⟨rt_at 1813 (by decide +kernel) (by decide +kernel), rt_at 1814 (by decide +kernel) (by decide +kernel), _, rfl, rfl⟩⟩
theorem okX12_mark : rt_okK kX12_mark 2 (some 12) := ⟨rt_at 1819 (by decide +kernel) (by decide +kernel), rt_at 92 (by decide +kernel) (by decide +kernel), ⟨by decide +kernel, by decide +kernel, by decide +kernel⟩, Nat.le_of_ble_eq_true rfl, ⟨rt_at 1817 (by decide +kernel) (by decide +kernel), rt_at 1818 (by decide +kernel) (by decide +kernel), _, rfl, rfl⟩⟩
theorem okX12_wash : rt_okK kX12_wash 0 (some 12) := ⟨rt_at 1823 (by decide +kernel) (by decide +kernel), rt_at 92 (by decide +kernel) (by decide +kernel), ⟨by decide +kernel, by decide +kernel, by decide +kernel⟩, Nat.le_of_ble_eq_true rfl, ⟨rt_at 1821 (by decide +kernel) (by decide +kernel), rt_at 1822 (by decide +kernel) (by decide +kernel), _, rfl, rfl⟩⟩
theorem okX12_fitsBy : rt_okK kX12_fitsBy 4 (some 12) := ⟨rt_at 1831 (by decide +kernel) (by decide +kernel), rt_at 92 (by decide +kernel) (by decide +kernel), ⟨by decide +kernel, by decide +kernel, by decide +kernel⟩, Nat.le_of_ble_eq_true rfl, ⟨rt_at 1830 (by decide +kernel) (by decide +kernel), rt_at 75 (by decide +kernel) (by decide +kernel), _, rfl, rfl⟩⟩
theorem okX12_fits : rt_okK kX12_fits 1 (some 12) := ⟨rt_at 1827 (by decide +kernel) (by decide +kernel), rt_at 92 (by decide +kernel) (by decide +kernel), ⟨by decide +kernel, by decide +kernel, by decide +kernel⟩, Nat.le_of_ble_eq_true rfl, ⟨rt_at 1825 (by decide +kernel) (by decide +kernel), rt_at 1826 (by decide +kernel) (by decide +kernel), _, rfl, rfl⟩⟩
theorem okX12_findTold : rt_okK kX12_findTold 3 (some 12) := ⟨rt_at 1840 (by decide +kernel) (by decide +kernel), rt_at 92 (by decide +kernel) (by decide +kernel), ⟨by decide +kernel, by decide +kernel, by decide +kernel⟩, Nat.le_of_ble_eq_true rfl, ⟨rt_at 1839 (by decide +kernel) (by decide +kernel), rt_at 76 (by decide +kernel) (by decide +kernel), _, rfl, rfl⟩⟩
theorem okX12_toldAt : rt_okK kX12_toldAt 1 (some 12) := ⟨rt_at 1844 (by decide +kernel) (by decide +kernel), rt_at 92 (by decide +kernel) (by decide +kernel), ⟨by decide +kernel, by decide +kernel, by decide +kernel⟩, Nat.le_of_ble_eq_true rfl, ⟨rt_at 1843 (by decide +kernel) (by decide +kernel), rt_at 77 (by decide +kernel) (by decide +kernel), _, rfl, rfl⟩⟩
theorem okX12_read : rt_okK kX12_read 2 (some 12) := ⟨rt_at 1836 (by decide +kernel) (by decide +kernel), rt_at 92 (by decide +kernel) (by decide +kernel), ⟨by decide +kernel, by decide +kernel, by decide +kernel⟩, Nat.le_of_ble_eq_true rfl, ⟨rt_at 1834 (by decide +kernel) (by decide +kernel), rt_at 1835 (by decide +kernel) (by decide +kernel), _, rfl, rfl⟩⟩
theorem okX12_lookat : rt_okK kX12_lookat 1 (some 12) := ⟨rt_at 1848 (by decide +kernel) (by decide +kernel), rt_at 92 (by decide +kernel) (by decide +kernel), ⟨by decide +kernel, by decide +kernel, by decide +kernel⟩, Nat.le_of_ble_eq_true rfl, ⟨rt_at 1846 (by decide +kernel) (by decide +kernel), rt_at 1847 (by decide +kernel) (by decide +kernel), _, rfl, rfl⟩⟩
theorem okX12_draw : rt_okK kX12_draw 1 (some 12) := ⟨rt_at 1856 (by decide +kernel) (by decide +kernel), rt_at 92 (by decide +kernel) (by decide +kernel), ⟨by decide +kernel, by decide +kernel, by decide +kernel⟩, Nat.le_of_ble_eq_true rfl, ⟨rt_at 1855 (by decide +kernel) (by decide +kernel), rt_at 78 (by decide +kernel) (by decide +kernel), _, rfl, rfl⟩⟩
theorem okX12_years : rt_okK kX12_years 2 (some 12) := ⟨rt_at 1852 (by decide +kernel) (by decide +kernel), rt_at 92 (by decide +kernel) (by decide +kernel), ⟨by decide +kernel, by decide +kernel, by decide +kernel⟩, Nat.le_of_ble_eq_true rfl, ⟨rt_at 1850 (by decide +kernel) (by decide +kernel), rt_at 1851 (by decide +kernel) (by decide +kernel), _, rfl, rfl⟩⟩
theorem okX12_keep : rt_okK kX12_keep 1 (some 12) := ⟨rt_at 1861 (by decide +kernel) (by decide +kernel), rt_at 92 (by decide +kernel) (by decide +kernel), ⟨by decide +kernel, by decide +kernel, by decide +kernel⟩, Nat.le_of_ble_eq_true rfl, ⟨rt_at 1859 (by decide +kernel) (by decide +kernel), rt_at 1860 (by decide +kernel) (by decide +kernel), _, rfl, rfl⟩⟩
theorem okX12_again : rt_okK kX12_again 1 (some 12) := ⟨rt_at 1865 (by decide +kernel) (by decide +kernel), rt_at 92 (by decide +kernel) (by decide +kernel), ⟨by decide +kernel, by decide +kernel, by decide +kernel⟩, Nat.le_of_ble_eq_true rfl, ⟨rt_at 1863 (by decide +kernel) (by decide +kernel), rt_at 1864 (by decide +kernel) (by decide +kernel), _, rfl, rfl⟩⟩
theorem okX12_count : rt_okK kX12_count 1 (some 12) := ⟨rt_at 1869 (by decide +kernel) (by decide +kernel), rt_at 92 (by decide +kernel) (by decide +kernel), ⟨by decide +kernel, by decide +kernel, by decide +kernel⟩, Nat.le_of_ble_eq_true rfl, ⟨rt_at 1867 (by decide +kernel) (by decide +kernel), rt_at 1868 (by decide +kernel) (by decide +kernel), _, rfl, rfl⟩⟩
theorem okX12_row : rt_okK kX12_row 1 (some 12) := ⟨rt_at 1873 (by decide +kernel) (by decide +kernel), rt_at 92 (by decide +kernel) (by decide +kernel), ⟨by decide +kernel, by decide +kernel, by decide +kernel⟩, Nat.le_of_ble_eq_true rfl, ⟨rt_at 1871 (by decide +kernel) (by decide +kernel), rt_at 1872 (by decide +kernel) (by decide +kernel), _, rfl, rfl⟩⟩
theorem okJ6_compare_7cf53 : rt_okK kJ6_compare_7cf53 2 none := ⟨rt_at 904 (by decide +kernel) (by decide +kernel), rt_at 100 (by decide +kernel) (by decide +kernel), ⟨by decide +kernel, by decide +kernel, by decide +kernel⟩, Nat.le_of_ble_eq_true rfl, rt_at 903 (by decide +kernel) (by decide +kernel)⟩
theorem okJ6_numberOfLeadingZeros_0f7a4 : rt_okK kJ6_numberOfLeadingZeros_0f7a4 1 none := ⟨rt_at 1121 (by decide +kernel) (by decide +kernel), rt_at 100 (by decide +kernel) (by decide +kernel), ⟨by decide +kernel, by decide +kernel, by decide +kernel⟩, Nat.le_of_ble_eq_true rfl, rt_at 1120 (by decide +kernel) (by decide +kernel)⟩
theorem okJ6_numberOfTrailingZeros_0f7a4 : rt_okK kJ6_numberOfTrailingZeros_0f7a4 1 none := ⟨rt_at 1114 (by decide +kernel) (by decide +kernel), rt_at 100 (by decide +kernel) (by decide +kernel), ⟨by decide +kernel, by decide +kernel, by decide +kernel⟩, Nat.le_of_ble_eq_true rfl, rt_at 1113 (by decide +kernel) (by decide +kernel)⟩
theorem okJ6_bitCount_0f7a4 : rt_okK kJ6_bitCount_0f7a4 1 none := ⟨rt_at 933 (by decide +kernel) (by decide +kernel), rt_at 100 (by decide +kernel) (by decide +kernel), ⟨by decide +kernel, by decide +kernel, by decide +kernel⟩, Nat.le_of_ble_eq_true rfl, rt_at 932 (by decide +kernel) (by decide +kernel)⟩
theorem okJ13_numberOfLeadingZeros_95d88 : rt_okK kJ13_numberOfLeadingZeros_95d88 1 none := ⟨rt_at 1118 (by decide +kernel) (by decide +kernel), rt_at 102 (by decide +kernel) (by decide +kernel), ⟨by decide +kernel, by decide +kernel, by decide +kernel⟩, Nat.le_of_ble_eq_true rfl, rt_at 1117 (by decide +kernel) (by decide +kernel)⟩
theorem okJ13_numberOfTrailingZeros_95d88 : rt_okK kJ13_numberOfTrailingZeros_95d88 1 none := ⟨rt_at 1111 (by decide +kernel) (by decide +kernel), rt_at 102 (by decide +kernel) (by decide +kernel), ⟨by decide +kernel, by decide +kernel, by decide +kernel⟩, Nat.le_of_ble_eq_true rfl, rt_at 1110 (by decide +kernel) (by decide +kernel)⟩
theorem okJ13_bitCount_95d88 : rt_okK kJ13_bitCount_95d88 1 none := ⟨rt_at 1124 (by decide +kernel) (by decide +kernel), rt_at 102 (by decide +kernel) (by decide +kernel), ⟨by decide +kernel, by decide +kernel, by decide +kernel⟩, Nat.le_of_ble_eq_true rfl, rt_at 1123 (by decide +kernel) (by decide +kernel)⟩
theorem okJ9_abs_0f7a4 : rt_okK kJ9_abs_0f7a4 1 none := ⟨rt_at 1103 (by decide +kernel) (by decide +kernel), rt_at 93 (by decide +kernel) (by decide +kernel), ⟨by decide +kernel, by decide +kernel, by decide +kernel⟩, Nat.le_of_ble_eq_true rfl, rt_at 1102 (by decide +kernel) (by decide +kernel)⟩
theorem okJ9_max_7cf53 : rt_okK kJ9_max_7cf53 2 none := ⟨rt_at 666 (by decide +kernel) (by decide +kernel), rt_at 93 (by decide +kernel) (by decide +kernel), ⟨by decide +kernel, by decide +kernel, by decide +kernel⟩, Nat.le_of_ble_eq_true rfl, rt_at 665 (by decide +kernel) (by decide +kernel)⟩
theorem okJ9_min_7cf53 : rt_okK kJ9_min_7cf53 2 none := ⟨rt_at 542 (by decide +kernel) (by decide +kernel), rt_at 93 (by decide +kernel) (by decide +kernel), ⟨by decide +kernel, by decide +kernel, by decide +kernel⟩, Nat.le_of_ble_eq_true rfl, rt_at 541 (by decide +kernel) (by decide +kernel)⟩
theorem okJ7_fill_d0a16 : rt_okK kJ7_fill_d0a16 2 none := ⟨rt_at 1095 (by decide +kernel) (by decide +kernel), rt_at 101 (by decide +kernel) (by decide +kernel), ⟨by decide +kernel, by decide +kernel, by decide +kernel⟩, Nat.le_of_ble_eq_true rfl, rt_at 1094 (by decide +kernel) (by decide +kernel)⟩
theorem okJ7_fill_53178 : rt_okK kJ7_fill_53178 2 none := ⟨rt_at 961 (by decide +kernel) (by decide +kernel), rt_at 101 (by decide +kernel) (by decide +kernel), ⟨by decide +kernel, by decide +kernel, by decide +kernel⟩, Nat.le_of_ble_eq_true rfl, rt_at 960 (by decide +kernel) (by decide +kernel)⟩
def rt_NC : Nat := 136
def rt_layL : List (Nat × Nat) := [(16, 10), (12, 4), (0, 80), (13, 4), (0, 9), (0, 9), (11, 10), (0, 40), (0, 40), (0, 40), (0, 40), (0, 6), (7, 9), (0, 8), (0, 12), (0, 12), (9, 5), (0, 40), (0, 12), (0, 12), (14, 12), (6, 6), (4, 13), (4, 2), (2, 2), (5, 5), (0, 60), (0, 60), (0, 60), (15, 12), (0, 24), (0, 2928), (0, 12), (0, 8), (0, 8), (0, 6), (0, 6), (0, 56), (8, 7), (0, 10), (0, 10), (3, 24), (10, 2), (0, 16), (9, 5), (0, 40), (0, 12), (0, 12), (9, 5), (0, 40), (0, 12), (0, 12), (9, 5), (0, 40), (0, 12), (0, 12), (9, 5), (0, 40), (0, 12), (0, 12), (9, 5), (0, 40), (0, 12), (0, 12), (9, 5), (0, 40), (0, 12), (0, 12), (9, 5), (0, 40), (0, 12), (0, 12), (9, 5), (0, 40), (0, 12), (0, 12), (9, 5), (0, 40), (0, 12), (0, 12), (9, 5), (0, 40), (0, 12), (0, 12), (9, 5), (0, 40), (0, 12), (0, 12), (9, 5), (0, 40), (0, 12), (0, 12), (9, 5), (0, 40), (0, 12), (0, 12), (9, 5), (0, 40), (0, 12), (0, 12), (9, 5), (0, 40), (0, 12), (0, 12), (9, 5), (0, 40), (0, 12), (0, 12), (17, 56), (0, 65), (0, 8), (0, 12), (0, 12), (0, 9), (1, 80), (0, 40), (0, 8), (0, 48), (0, 9), (0, 15), (1, 40), (0, 6), (0, 780), (0, 65), (0, 240), (0, 8), (0, 8), (0, 8), (0, 8), (0, 20), (2, 984), (0, 65), (0, 130), (2, 2), (0, 2), (3, 1)]
def rt_lay (c : Nat) : Nat × Nat := rt_layL.getD c (0, 0)
def rt_ptL : List (List (Option Nat)) := [[some 1, some 3, some 6, some 12, some 20, some 21, some 25, some 29, some 38, some 42], [some 2], [], [some 4, some 5], [], [], [some 7, none, some 8, none, some 9, none, some 10, some 11], [], [], [], [], [], [some 16, none, none, some 13, some 14, some 15], [], [], [], [none, none, some 17, some 18, some 19], [], [], [], [some 12, some 16, some 3, some 6], [some 22, some 23, some 24, some 104], [some 44, some 48, some 52, some 56, some 60, some 64, some 68, some 72, some 76, some 80, some 84, some 88, some 92], [some 96, some 100], [], [some 26, some 27, some 28], [], [], [], [some 20, some 12, some 30, some 31, some 32, some 33, some 34, some 35, some 36, some 37], [], [], [], [], [], [], [], [], [some 39, some 40, none, some 41], [], [], [], [some 43], [], [none, none, some 45, some 46, some 47], [], [], [], [none, none, some 49, some 50, some 51], [], [], [], [none, none, some 53, some 54, some 55], [], [], [], [none, none, some 57, some 58, some 59], [], [], [], [none, none, some 61, some 62, some 63], [], [], [], [none, none, some 65, some 66, some 67], [], [], [], [none, none, some 69, some 70, some 71], [], [], [], [none, none, some 73, some 74, some 75], [], [], [], [none, none, some 77, some 78, some 79], [], [], [], [none, none, some 81, some 82, some 83], [], [], [], [none, none, some 85, some 86, some 87], [], [], [], [none, none, some 89, some 90, some 91], [], [], [], [none, none, some 93, some 94, some 95], [], [], [], [none, none, some 97, some 98, some 99], [], [], [], [none, none, some 101, some 102, some 103], [], [], [], [none, none, some 105, some 106, some 107], [], [], [], [some 109, none, some 110, none, some 111, some 112, none, none, some 113, none, some 114, none, some 115, none, none, none, none, none, none, none, some 116, some 117, none, none, some 118, some 119, some 120, none, none, some 121, some 122, none, some 123, none, none, none, none, none, some 124, some 125, some 126, some 127, none, some 128, none, none, none, some 129, none, some 130, none, some 131, none, some 132, some 133, some 134], [], [], [], [], [], [], [], [], [], [], [], [], [], [], [], [], [], [], [], [], [], [], [], [], [], [], []]
/-- what a reference field, or a place of an array of references, holds; r: what the model's field read holds -/
def rt_pt (r c j : Nat) : Option Nat := if c = 108 ∧ j = 15 then some r else (rt_ptL.getD c []).getD j none
def rt_refL : List (List Nat) := [[0, 1, 2], [0, 1, 2, 3], [0, 3, 4, 5], [0, 1, 3], [2, 3, 4], [0], [0, 2, 4, 6, 7], [0], [0, 1], [0, 1, 2, 3], [0, 1, 2, 3, 4, 5, 6, 7, 8, 9], [0, 1, 2, 3, 4, 5, 6, 7, 8, 9], [0, 2, 4, 5, 8, 10, 12, 15, 20, 21, 24, 25, 26, 29, 30, 32, 38, 39, 40, 41, 43, 47, 49, 51, 53, 54, 55]]
def rt_isR (ci j : Nat) : Bool := (rt_refL.getD ci []).contains j
abbrev rt_Z : Type := List (Nat × Nat × Nat × Nat) × List (Nat × rt_K × Nat × Option Nat) × List (Nat × Int32) × List (Nat × Int64) × List (Nat × Nat)
def rt_okf (own : String) (idx ci j t : Nat) : Prop := ∃ q : vw_C, vwCl[ci]? = some q ∧ j < q.2.2 ∧ Cond.fieldLink own idx (q.2.1 j).1 (q.2.1 j).2.1 (q.2.1 j).2.2.1 ∈ rt_tbl ∧ (t = 0 → parseFieldDescriptor (q.2.1 j).2.2.1 = some .int ∧ (q.2.1 j).2.2.2 = false ∧ rt_isR ci j = false) ∧ (t = 1 → parseFieldDescriptor (q.2.1 j).2.2.1 = some .boolean ∧ (q.2.1 j).2.2.2 = false ∧ rt_isR ci j = false) ∧ (t = 3 → parseFieldDescriptor (q.2.1 j).2.2.1 = some (.array .byte) ∧ (q.2.1 j).2.2.2 = false ∧ ci = 12 ∧ j = 15)
def rt_nat (k : Nat) : MethodName := match k with
  | 0 => arraycopyName
  | 1 => Lib.Math.max.name
  | 2 => Lib.Math.min.name
  | _ => Lib.Math.abs.name
def rt_okZ (own : String) (z : rt_Z) : Prop := (∀ e ∈ z.1, rt_okf own e.1 e.2.1 e.2.2.1 e.2.2.2) ∧ (∀ e ∈ z.2.1, Cond.methodLink own e.1 e.2.1.1 ∈ rt_tbl ∧ rt_okK e.2.1 e.2.2.1 e.2.2.2) ∧ (∀ e ∈ z.2.2.1, Cond.constant own e.1 e.2 ∈ rt_tbl) ∧ (∀ e ∈ z.2.2.2.1, Cond.constantLong own e.1 e.2 ∈ rt_tbl) ∧ (∀ e ∈ z.2.2.2.2, Cond.methodLink own e.1 (rt_nat e.2) ∈ rt_tbl)
theorem rt_mth : Cond.initialized "java/lang/Math" ∈ rt_tbl ∧ (Cond.static Lib.Math.max.name ∈ rt_tbl ∧ Cond.code Lib.Math.max.name Lib.Math.max.code 2 (some .int) ∈ rt_tbl) ∧ (Cond.static Lib.Math.min.name ∈ rt_tbl ∧ Cond.code Lib.Math.min.name Lib.Math.min.code 2 (some .int) ∈ rt_tbl) ∧ (Cond.static Lib.Math.abs.name ∈ rt_tbl ∧ Cond.code Lib.Math.abs.name Lib.Math.abs.code 1 (some .int) ∈ rt_tbl) := ⟨rt_at 93 (by decide +kernel) (by decide +kernel), ⟨rt_at 665 (by decide +kernel) (by decide +kernel), rt_at 666 (by decide +kernel) (by decide +kernel)⟩, ⟨rt_at 541 (by decide +kernel) (by decide +kernel), rt_at 542 (by decide +kernel) (by decide +kernel)⟩, ⟨rt_at 1102 (by decide +kernel) (by decide +kernel), rt_at 1103 (by decide +kernel) (by decide +kernel)⟩⟩
theorem rt_acs : Cond.native arraycopyName ∈ rt_tbl ∧ Cond.static arraycopyName ∈ rt_tbl ∧ Cond.initialized "java/lang/System" ∈ rt_tbl := ⟨rt_at 622 (by decide +kernel) (by decide +kernel), rt_at 621 (by decide +kernel) (by decide +kernel), rt_at 94 (by decide +kernel) (by decide +kernel)⟩
def zX0 : rt_Z := ([(28, 7, 1, 0), (44, 7, 2, 0), (67, 9, 0, 2), (77, 9, 1, 2), (11, 0, 0, 2), (15, 0, 1, 2), (18, 0, 2, 2), (21, 0, 3, 0), (25, 0, 4, 0)], [(33, kX0_readAct, 1, (some 0)), (41, kX7_peek, 0, (some 7)), (47, kX7_takeNumber, 1, (some 7)), (37, kX7_behindLine, 0, (some 7)), (51, kX0_runAct, 4, (some 0)), (55, kX9_setOut, 2, (some 9)), (61, kX9_goBy, 1, (some 9)), (64, kX9_turnRound, 1, (some 9)), (71, kX2_hasCart, 1, (some 2)), (83, kX4_of, 2, (some 4)), (86, kX9_putChain, 2, (some 9)), (89, kX9_putLoad, 2, (some 9))], [], [], [])
theorem zX0_f : ∀ e ∈ zX0.1, rt_okf RX0 e.1 e.2.1 e.2.2.1 e.2.2.2 := List.forall_mem_cons.mpr ⟨⟨_, rfl, Nat.le_of_ble_eq_true rfl, rt_at 119 (by decide +kernel) (by decide +kernel), fun _ => ⟨by decide +kernel, rfl, by decide +kernel⟩, fun h => absurd h (by decide), fun h => absurd h (by decide)⟩, List.forall_mem_cons.mpr ⟨⟨_, rfl, Nat.le_of_ble_eq_true rfl, rt_at 124 (by decide +kernel) (by decide +kernel), fun _ => ⟨by decide +kernel, rfl, by decide +kernel⟩, fun h => absurd h (by decide), fun h => absurd h (by decide)⟩, List.forall_mem_cons.mpr ⟨⟨_, rfl, Nat.le_of_ble_eq_true rfl, rt_at 290 (by decide +kernel) (by decide +kernel), fun h => absurd h (by decide), fun h => absurd h (by decide), fun h => absurd h (by decide)⟩, List.forall_mem_cons.mpr ⟨⟨_, rfl, Nat.le_of_ble_eq_true rfl, rt_at 292 (by decide +kernel) (by decide +kernel), fun h => absurd h (by decide), fun h => absurd h (by decide), fun h => absurd h (by decide)⟩, List.forall_mem_cons.mpr ⟨⟨_, rfl, Nat.le_of_ble_eq_true rfl, rt_at 373 (by decide +kernel) (by decide +kernel), fun h => absurd h (by decide), fun h => absurd h (by decide), fun h => absurd h (by decide)⟩, List.forall_mem_cons.mpr ⟨⟨_, rfl, Nat.le_of_ble_eq_true rfl, rt_at 374 (by decide +kernel) (by decide +kernel), fun h => absurd h (by decide), fun h => absurd h (by decide), fun h => absurd h (by decide)⟩, List.forall_mem_cons.mpr ⟨⟨_, rfl, Nat.le_of_ble_eq_true rfl, rt_at 375 (by decide +kernel) (by decide +kernel), fun h => absurd h (by decide), fun h => absurd h (by decide), fun h => absurd h (by decide)⟩, List.forall_mem_cons.mpr ⟨⟨_, rfl, Nat.le_of_ble_eq_true rfl, rt_at 376 (by decide +kernel) (by decide +kernel), fun _ => ⟨by decide +kernel, rfl, by decide +kernel⟩, fun h => absurd h (by decide), fun h => absurd h (by decide)⟩, List.forall_mem_cons.mpr ⟨⟨_, rfl, Nat.le_of_ble_eq_true rfl, rt_at 377 (by decide +kernel) (by decide +kernel), fun _ => ⟨by decide +kernel, rfl, by decide +kernel⟩, fun h => absurd h (by decide), fun h => absurd h (by decide)⟩, fun _ h => absurd h List.not_mem_nil⟩⟩⟩⟩⟩⟩⟩⟩⟩
theorem zX0_m : ∀ e ∈ zX0.2.1, Cond.methodLink RX0 e.1 e.2.1.1 ∈ rt_tbl ∧ rt_okK e.2.1 e.2.2.1 e.2.2.2 := List.forall_mem_cons.mpr ⟨⟨rt_at 867 (by decide +kernel) (by decide +kernel), okX0_readAct⟩, List.forall_mem_cons.mpr ⟨⟨rt_at 871 (by decide +kernel) (by decide +kernel), okX7_peek⟩, List.forall_mem_cons.mpr ⟨⟨rt_at 872 (by decide +kernel) (by decide +kernel), okX7_takeNumber⟩, List.forall_mem_cons.mpr ⟨⟨rt_at 873 (by decide +kernel) (by decide +kernel), okX7_behindLine⟩, List.forall_mem_cons.mpr ⟨⟨rt_at 878 (by decide +kernel) (by decide +kernel), okX0_runAct⟩, List.forall_mem_cons.mpr ⟨⟨rt_at 882 (by decide +kernel) (by decide +kernel), okX9_setOut⟩, List.forall_mem_cons.mpr ⟨⟨rt_at 883 (by decide +kernel) (by decide +kernel), okX9_goBy⟩, List.forall_mem_cons.mpr ⟨⟨rt_at 884 (by decide +kernel) (by decide +kernel), okX9_turnRound⟩, List.forall_mem_cons.mpr ⟨⟨rt_at 885 (by decide +kernel) (by decide +kernel), okX2_hasCart⟩, List.forall_mem_cons.mpr ⟨⟨rt_at 886 (by decide +kernel) (by decide +kernel), okX4_of⟩, List.forall_mem_cons.mpr ⟨⟨rt_at 887 (by decide +kernel) (by decide +kernel), okX9_putChain⟩, List.forall_mem_cons.mpr ⟨⟨rt_at 888 (by decide +kernel) (by decide +kernel), okX9_putLoad⟩, fun _ h => absurd h List.not_mem_nil⟩⟩⟩⟩⟩⟩⟩⟩⟩⟩⟩⟩
theorem zX0_c : ∀ e ∈ zX0.2.2.1, Cond.constant RX0 e.1 e.2 ∈ rt_tbl := fun _ h => absurd h List.not_mem_nil
theorem zX0_l : ∀ e ∈ zX0.2.2.2.1, Cond.constantLong RX0 e.1 e.2 ∈ rt_tbl := fun _ h => absurd h List.not_mem_nil
theorem zX0_a : ∀ e ∈ zX0.2.2.2.2, Cond.methodLink RX0 e.1 (rt_nat e.2) ∈ rt_tbl := fun _ h => absurd h List.not_mem_nil
theorem zX0_ok : rt_okZ RX0 zX0 := ⟨zX0_f, zX0_m, zX0_c, zX0_l, zX0_a⟩
def zX1 : rt_Z := ([(11, 1, 0, 2), (15, 1, 1, 2), (18, 1, 2, 2), (23, 1, 3, 2), (27, 1, 4, 0), (31, 1, 5, 0)], [(34, kX4_copyFrom, 1, (some 4))], [], [], [(38, 2)])
theorem zX1_f : ∀ e ∈ zX1.1, rt_okf RX1 e.1 e.2.1 e.2.2.1 e.2.2.2 := List.forall_mem_cons.mpr ⟨⟨_, rfl, Nat.le_of_ble_eq_true rfl, rt_at 345 (by decide +kernel) (by decide +kernel), fun h => absurd h (by decide), fun h => absurd h (by decide), fun h => absurd h (by decide)⟩, List.forall_mem_cons.mpr ⟨⟨_, rfl, Nat.le_of_ble_eq_true rfl, rt_at 346 (by decide +kernel) (by decide +kernel), fun h => absurd h (by decide), fun h => absurd h (by decide), fun h => absurd h (by decide)⟩, List.forall_mem_cons.mpr ⟨⟨_, rfl, Nat.le_of_ble_eq_true rfl, rt_at 347 (by decide +kernel) (by decide +kernel), fun h => absurd h (by decide), fun h => absurd h (by decide), fun h => absurd h (by decide)⟩, List.forall_mem_cons.mpr ⟨⟨_, rfl, Nat.le_of_ble_eq_true rfl, rt_at 348 (by decide +kernel) (by decide +kernel), fun h => absurd h (by decide), fun h => absurd h (by decide), fun h => absurd h (by decide)⟩, List.forall_mem_cons.mpr ⟨⟨_, rfl, Nat.le_of_ble_eq_true rfl, rt_at 350 (by decide +kernel) (by decide +kernel), fun _ => ⟨by decide +kernel, rfl, by decide +kernel⟩, fun h => absurd h (by decide), fun h => absurd h (by decide)⟩, List.forall_mem_cons.mpr ⟨⟨_, rfl, Nat.le_of_ble_eq_true rfl, rt_at 351 (by decide +kernel) (by decide +kernel), fun _ => ⟨by decide +kernel, rfl, by decide +kernel⟩, fun h => absurd h (by decide), fun h => absurd h (by decide)⟩, fun _ h => absurd h List.not_mem_nil⟩⟩⟩⟩⟩⟩
theorem zX1_m : ∀ e ∈ zX1.2.1, Cond.methodLink RX1 e.1 e.2.1.1 ∈ rt_tbl ∧ rt_okK e.2.1 e.2.2.1 e.2.2.2 := List.forall_mem_cons.mpr ⟨⟨rt_at 726 (by decide +kernel) (by decide +kernel), okX4_copyFrom⟩, fun _ h => absurd h List.not_mem_nil⟩
theorem zX1_c : ∀ e ∈ zX1.2.2.1, Cond.constant RX1 e.1 e.2 ∈ rt_tbl := fun _ h => absurd h List.not_mem_nil
theorem zX1_l : ∀ e ∈ zX1.2.2.2.1, Cond.constantLong RX1 e.1 e.2 ∈ rt_tbl := fun _ h => absurd h List.not_mem_nil
theorem zX1_a : ∀ e ∈ zX1.2.2.2.2, Cond.methodLink RX1 e.1 (rt_nat e.2) ∈ rt_tbl := List.forall_mem_cons.mpr ⟨rt_at 790 (by decide +kernel) (by decide +kernel), fun _ h => absurd h List.not_mem_nil⟩
theorem zX1_ok : rt_okZ RX1 zX1 := ⟨zX1_f, zX1_m, zX1_c, zX1_l, zX1_a⟩
def zX2 : rt_Z := ([(51, 7, 1, 0), (44, 4, 1, 0), (81, 4, 3, 2), (84, 4, 4, 2), (12, 2, 0, 2), (18, 2, 1, 0), (22, 2, 2, 0), (25, 2, 3, 2), (29, 2, 4, 2), (32, 2, 5, 2), (35, 2, 6, 0), (38, 2, 7, 0), (41, 2, 8, 0)], [(56, kX7_peek, 0, (some 7)), (60, kX2_readPlace, 1, (some 2)), (70, kX7_take, 1, (some 7)), (74, kX7_takeNumber, 1, (some 7)), (64, kX2_readRoad, 1, (some 2)), (78, kX7_takeLetter, 1, (some 7)), (67, kX7_behindLine, 0, (some 7)), (87, kX2_readCart, 1, (some 2)), (90, kX4_putAtPlace, 2, (some 4)), (94, kX4_put, 3, (some 4)), (98, kX2_entryOf, 2, none), (47, kX4_farEnd, 2, (some 4))], [], [], [(101, 2), (106, 1)])
theorem zX2_f : ∀ e ∈ zX2.1, rt_okf RX2 e.1 e.2.1 e.2.2.1 e.2.2.2 := List.forall_mem_cons.mpr ⟨⟨_, rfl, Nat.le_of_ble_eq_true rfl, rt_at 122 (by decide +kernel) (by decide +kernel), fun _ => ⟨by decide +kernel, rfl, by decide +kernel⟩, fun h => absurd h (by decide), fun h => absurd h (by decide)⟩, List.forall_mem_cons.mpr ⟨⟨_, rfl, Nat.le_of_ble_eq_true rfl, rt_at 213 (by decide +kernel) (by decide +kernel), fun _ => ⟨by decide +kernel, rfl, by decide +kernel⟩, fun h => absurd h (by decide), fun h => absurd h (by decide)⟩, List.forall_mem_cons.mpr ⟨⟨_, rfl, Nat.le_of_ble_eq_true rfl, rt_at 220 (by decide +kernel) (by decide +kernel), fun h => absurd h (by decide), fun h => absurd h (by decide), fun h => absurd h (by decide)⟩, List.forall_mem_cons.mpr ⟨⟨_, rfl, Nat.le_of_ble_eq_true rfl, rt_at 225 (by decide +kernel) (by decide +kernel), fun h => absurd h (by decide), fun h => absurd h (by decide), fun h => absurd h (by decide)⟩, List.forall_mem_cons.mpr ⟨⟨_, rfl, Nat.le_of_ble_eq_true rfl, rt_at 238 (by decide +kernel) (by decide +kernel), fun h => absurd h (by decide), fun h => absurd h (by decide), fun h => absurd h (by decide)⟩, List.forall_mem_cons.mpr ⟨⟨_, rfl, Nat.le_of_ble_eq_true rfl, rt_at 242 (by decide +kernel) (by decide +kernel), fun _ => ⟨by decide +kernel, rfl, by decide +kernel⟩, fun h => absurd h (by decide), fun h => absurd h (by decide)⟩, List.forall_mem_cons.mpr ⟨⟨_, rfl, Nat.le_of_ble_eq_true rfl, rt_at 246 (by decide +kernel) (by decide +kernel), fun _ => ⟨by decide +kernel, rfl, by decide +kernel⟩, fun h => absurd h (by decide), fun h => absurd h (by decide)⟩, List.forall_mem_cons.mpr ⟨⟨_, rfl, Nat.le_of_ble_eq_true rfl, rt_at 250 (by decide +kernel) (by decide +kernel), fun h => absurd h (by decide), fun h => absurd h (by decide), fun h => absurd h (by decide)⟩, List.forall_mem_cons.mpr ⟨⟨_, rfl, Nat.le_of_ble_eq_true rfl, rt_at 253 (by decide +kernel) (by decide +kernel), fun h => absurd h (by decide), fun h => absurd h (by decide), fun h => absurd h (by decide)⟩, List.forall_mem_cons.mpr ⟨⟨_, rfl, Nat.le_of_ble_eq_true rfl, rt_at 256 (by decide +kernel) (by decide +kernel), fun h => absurd h (by decide), fun h => absurd h (by decide), fun h => absurd h (by decide)⟩, List.forall_mem_cons.mpr ⟨⟨_, rfl, Nat.le_of_ble_eq_true rfl, rt_at 260 (by decide +kernel) (by decide +kernel), fun _ => ⟨by decide +kernel, rfl, by decide +kernel⟩, fun h => absurd h (by decide), fun h => absurd h (by decide)⟩, List.forall_mem_cons.mpr ⟨⟨_, rfl, Nat.le_of_ble_eq_true rfl, rt_at 261 (by decide +kernel) (by decide +kernel), fun _ => ⟨by decide +kernel, rfl, by decide +kernel⟩, fun h => absurd h (by decide), fun h => absurd h (by decide)⟩, List.forall_mem_cons.mpr ⟨⟨_, rfl, Nat.le_of_ble_eq_true rfl, rt_at 262 (by decide +kernel) (by decide +kernel), fun _ => ⟨by decide +kernel, rfl, by decide +kernel⟩, fun h => absurd h (by decide), fun h => absurd h (by decide)⟩, fun _ h => absurd h List.not_mem_nil⟩⟩⟩⟩⟩⟩⟩⟩⟩⟩⟩⟩⟩
theorem zX2_m : ∀ e ∈ zX2.2.1, Cond.methodLink RX2 e.1 e.2.1.1 ∈ rt_tbl ∧ rt_okK e.2.1 e.2.2.1 e.2.2.2 := List.forall_mem_cons.mpr ⟨⟨rt_at 547 (by decide +kernel) (by decide +kernel), okX7_peek⟩, List.forall_mem_cons.mpr ⟨⟨rt_at 551 (by decide +kernel) (by decide +kernel), okX2_readPlace⟩, List.forall_mem_cons.mpr ⟨⟨rt_at 555 (by decide +kernel) (by decide +kernel), okX7_take⟩, List.forall_mem_cons.mpr ⟨⟨rt_at 560 (by decide +kernel) (by decide +kernel), okX7_takeNumber⟩, List.forall_mem_cons.mpr ⟨⟨rt_at 568 (by decide +kernel) (by decide +kernel), okX2_readRoad⟩, List.forall_mem_cons.mpr ⟨⟨rt_at 572 (by decide +kernel) (by decide +kernel), okX7_takeLetter⟩, List.forall_mem_cons.mpr ⟨⟨rt_at 576 (by decide +kernel) (by decide +kernel), okX7_behindLine⟩, List.forall_mem_cons.mpr ⟨⟨rt_at 631 (by decide +kernel) (by decide +kernel), okX2_readCart⟩, List.forall_mem_cons.mpr ⟨⟨rt_at 635 (by decide +kernel) (by decide +kernel), okX4_putAtPlace⟩, List.forall_mem_cons.mpr ⟨⟨rt_at 643 (by decide +kernel) (by decide +kernel), okX4_put⟩, List.forall_mem_cons.mpr ⟨⟨rt_at 713 (by decide +kernel) (by decide +kernel), okX2_entryOf⟩, List.forall_mem_cons.mpr ⟨⟨rt_at 1243 (by decide +kernel) (by decide +kernel), okX4_farEnd⟩, fun _ h => absurd h List.not_mem_nil⟩⟩⟩⟩⟩⟩⟩⟩⟩⟩⟩⟩
theorem zX2_c : ∀ e ∈ zX2.2.2.1, Cond.constant RX2 e.1 e.2 ∈ rt_tbl := fun _ h => absurd h List.not_mem_nil
theorem zX2_l : ∀ e ∈ zX2.2.2.2.1, Cond.constantLong RX2 e.1 e.2 ∈ rt_tbl := fun _ h => absurd h List.not_mem_nil
theorem zX2_a : ∀ e ∈ zX2.2.2.2.2, Cond.methodLink RX2 e.1 (rt_nat e.2) ∈ rt_tbl := List.forall_mem_cons.mpr ⟨rt_at 716 (by decide +kernel) (by decide +kernel), List.forall_mem_cons.mpr ⟨rt_at 717 (by decide +kernel) (by decide +kernel), fun _ h => absurd h List.not_mem_nil⟩⟩
theorem zX2_ok : rt_okZ RX2 zX2 := ⟨zX2_f, zX2_m, zX2_c, zX2_l, zX2_a⟩
def zX3 : rt_Z := ([(9, 3, 0, 2), (13, 3, 1, 2), (16, 3, 2, 0), (20, 3, 3, 2), (24, 3, 4, 0), (27, 3, 5, 0), (30, 3, 6, 0)], [(33, kX3_isTime, 1, none), (37, kJ7_fill_d0a16, 2, none), (43, kX3_suits, 4, (some 3)), (47, kX8_ofRound, 4, none)], [], [], [(53, 3)])
theorem zX3_f : ∀ e ∈ zX3.1, rt_okf RX3 e.1 e.2.1 e.2.2.1 e.2.2.2 := List.forall_mem_cons.mpr ⟨⟨_, rfl, Nat.le_of_ble_eq_true rfl, rt_at 442 (by decide +kernel) (by decide +kernel), fun h => absurd h (by decide), fun h => absurd h (by decide), fun h => absurd h (by decide)⟩, List.forall_mem_cons.mpr ⟨⟨_, rfl, Nat.le_of_ble_eq_true rfl, rt_at 443 (by decide +kernel) (by decide +kernel), fun h => absurd h (by decide), fun h => absurd h (by decide), fun h => absurd h (by decide)⟩, List.forall_mem_cons.mpr ⟨⟨_, rfl, Nat.le_of_ble_eq_true rfl, rt_at 444 (by decide +kernel) (by decide +kernel), fun _ => ⟨by decide +kernel, rfl, by decide +kernel⟩, fun h => absurd h (by decide), fun h => absurd h (by decide)⟩, List.forall_mem_cons.mpr ⟨⟨_, rfl, Nat.le_of_ble_eq_true rfl, rt_at 446 (by decide +kernel) (by decide +kernel), fun h => absurd h (by decide), fun h => absurd h (by decide), fun h => absurd h (by decide)⟩, List.forall_mem_cons.mpr ⟨⟨_, rfl, Nat.le_of_ble_eq_true rfl, rt_at 448 (by decide +kernel) (by decide +kernel), fun _ => ⟨by decide +kernel, rfl, by decide +kernel⟩, fun h => absurd h (by decide), fun h => absurd h (by decide)⟩, List.forall_mem_cons.mpr ⟨⟨_, rfl, Nat.le_of_ble_eq_true rfl, rt_at 450 (by decide +kernel) (by decide +kernel), fun _ => ⟨by decide +kernel, rfl, by decide +kernel⟩, fun h => absurd h (by decide), fun h => absurd h (by decide)⟩, List.forall_mem_cons.mpr ⟨⟨_, rfl, Nat.le_of_ble_eq_true rfl, rt_at 452 (by decide +kernel) (by decide +kernel), fun _ => ⟨by decide +kernel, rfl, by decide +kernel⟩, fun h => absurd h (by decide), fun h => absurd h (by decide)⟩, fun _ h => absurd h List.not_mem_nil⟩⟩⟩⟩⟩⟩⟩
theorem zX3_m : ∀ e ∈ zX3.2.1, Cond.methodLink RX3 e.1 e.2.1.1 ∈ rt_tbl ∧ rt_okK e.2.1 e.2.2.1 e.2.2.2 := List.forall_mem_cons.mpr ⟨⟨rt_at 1075 (by decide +kernel) (by decide +kernel), okX3_isTime⟩, List.forall_mem_cons.mpr ⟨⟨rt_at 1093 (by decide +kernel) (by decide +kernel), okJ7_fill_d0a16⟩, List.forall_mem_cons.mpr ⟨⟨rt_at 1096 (by decide +kernel) (by decide +kernel), okX3_suits⟩, List.forall_mem_cons.mpr ⟨⟨rt_at 1100 (by decide +kernel) (by decide +kernel), okX8_ofRound⟩, fun _ h => absurd h List.not_mem_nil⟩⟩⟩⟩
theorem zX3_c : ∀ e ∈ zX3.2.2.1, Cond.constant RX3 e.1 e.2 ∈ rt_tbl := fun _ h => absurd h List.not_mem_nil
theorem zX3_l : ∀ e ∈ zX3.2.2.2.1, Cond.constantLong RX3 e.1 e.2 ∈ rt_tbl := fun _ h => absurd h List.not_mem_nil
theorem zX3_a : ∀ e ∈ zX3.2.2.2.2, Cond.methodLink RX3 e.1 (rt_nat e.2) ∈ rt_tbl := List.forall_mem_cons.mpr ⟨rt_at 1101 (by decide +kernel) (by decide +kernel), fun _ h => absurd h List.not_mem_nil⟩
theorem zX3_ok : rt_okZ RX3 zX3 := ⟨zX3_f, zX3_m, zX3_c, zX3_l, zX3_a⟩
def zX4 : rt_Z := ([(9, 4, 0, 0), (15, 4, 1, 0), (18, 4, 2, 2), (22, 4, 3, 2), (25, 4, 4, 2)], [(34, kX4_put, 3, (some 4)), (38, kX4_of, 2, (some 4))], [], [], [(28, 0)])
theorem zX4_f : ∀ e ∈ zX4.1, rt_okf RX4 e.1 e.2.1 e.2.2.1 e.2.2.2 := List.forall_mem_cons.mpr ⟨⟨_, rfl, Nat.le_of_ble_eq_true rfl, rt_at 208 (by decide +kernel) (by decide +kernel), fun _ => ⟨by decide +kernel, rfl, by decide +kernel⟩, fun h => absurd h (by decide), fun h => absurd h (by decide)⟩, List.forall_mem_cons.mpr ⟨⟨_, rfl, Nat.le_of_ble_eq_true rfl, rt_at 212 (by decide +kernel) (by decide +kernel), fun _ => ⟨by decide +kernel, rfl, by decide +kernel⟩, fun h => absurd h (by decide), fun h => absurd h (by decide)⟩, List.forall_mem_cons.mpr ⟨⟨_, rfl, Nat.le_of_ble_eq_true rfl, rt_at 216 (by decide +kernel) (by decide +kernel), fun h => absurd h (by decide), fun h => absurd h (by decide), fun h => absurd h (by decide)⟩, List.forall_mem_cons.mpr ⟨⟨_, rfl, Nat.le_of_ble_eq_true rfl, rt_at 217 (by decide +kernel) (by decide +kernel), fun h => absurd h (by decide), fun h => absurd h (by decide), fun h => absurd h (by decide)⟩, List.forall_mem_cons.mpr ⟨⟨_, rfl, Nat.le_of_ble_eq_true rfl, rt_at 222 (by decide +kernel) (by decide +kernel), fun h => absurd h (by decide), fun h => absurd h (by decide), fun h => absurd h (by decide)⟩, fun _ h => absurd h List.not_mem_nil⟩⟩⟩⟩⟩
theorem zX4_m : ∀ e ∈ zX4.2.1, Cond.methodLink RX4 e.1 e.2.1.1 ∈ rt_tbl ∧ rt_okK e.2.1 e.2.2.1 e.2.2.2 := List.forall_mem_cons.mpr ⟨⟨rt_at 639 (by decide +kernel) (by decide +kernel), okX4_put⟩, List.forall_mem_cons.mpr ⟨⟨rt_at 833 (by decide +kernel) (by decide +kernel), okX4_of⟩, fun _ h => absurd h List.not_mem_nil⟩⟩
theorem zX4_c : ∀ e ∈ zX4.2.2.1, Cond.constant RX4 e.1 e.2 ∈ rt_tbl := fun _ h => absurd h List.not_mem_nil
theorem zX4_l : ∀ e ∈ zX4.2.2.2.1, Cond.constantLong RX4 e.1 e.2 ∈ rt_tbl := fun _ h => absurd h List.not_mem_nil
theorem zX4_a : ∀ e ∈ zX4.2.2.2.2, Cond.methodLink RX4 e.1 (rt_nat e.2) ∈ rt_tbl := List.forall_mem_cons.mpr ⟨rt_at 730 (by decide +kernel) (by decide +kernel), fun _ h => absurd h List.not_mem_nil⟩
theorem zX4_ok : rt_okZ RX4 zX4 := ⟨zX4_f, zX4_m, zX4_c, zX4_l, zX4_a⟩
def zX5 : rt_Z := ([(7, 5, 0, 2), (13, 5, 1, 0)], [], [], [], [])
theorem zX5_f : ∀ e ∈ zX5.1, rt_okf RX5 e.1 e.2.1 e.2.2.1 e.2.2.2 := List.forall_mem_cons.mpr ⟨⟨_, rfl, Nat.le_of_ble_eq_true rfl, rt_at 476 (by decide +kernel) (by decide +kernel), fun h => absurd h (by decide), fun h => absurd h (by decide), fun h => absurd h (by decide)⟩, List.forall_mem_cons.mpr ⟨⟨_, rfl, Nat.le_of_ble_eq_true rfl, rt_at 478 (by decide +kernel) (by decide +kernel), fun _ => ⟨by decide +kernel, rfl, by decide +kernel⟩, fun h => absurd h (by decide), fun h => absurd h (by decide)⟩, fun _ h => absurd h List.not_mem_nil⟩⟩
theorem zX5_m : ∀ e ∈ zX5.2.1, Cond.methodLink RX5 e.1 e.2.1.1 ∈ rt_tbl ∧ rt_okK e.2.1 e.2.2.1 e.2.2.2 := fun _ h => absurd h List.not_mem_nil
theorem zX5_c : ∀ e ∈ zX5.2.2.1, Cond.constant RX5 e.1 e.2 ∈ rt_tbl := fun _ h => absurd h List.not_mem_nil
theorem zX5_l : ∀ e ∈ zX5.2.2.2.1, Cond.constantLong RX5 e.1 e.2 ∈ rt_tbl := fun _ h => absurd h List.not_mem_nil
theorem zX5_a : ∀ e ∈ zX5.2.2.2.2, Cond.methodLink RX5 e.1 (rt_nat e.2) ∈ rt_tbl := fun _ h => absurd h List.not_mem_nil
theorem zX5_ok : rt_okZ RX5 zX5 := ⟨zX5_f, zX5_m, zX5_c, zX5_l, zX5_a⟩
def zX6 : rt_Z := ([(43, 7, 1, 0), (86, 7, 2, 0), (11, 6, 0, 2), (15, 6, 1, 0), (19, 6, 2, 2), (22, 6, 3, 0), (25, 6, 4, 2), (28, 6, 5, 0), (31, 6, 6, 2), (34, 6, 7, 2), (37, 6, 8, 0), (40, 6, 9, 0)], [(48, kX7_peek, 0, (some 7)), (52, kX6_popTo, 1, (some 6)), (89, kX6_rankOf, 1, none), (80, kX6_put, 1, (some 6)), (56, kX6_readAhead, 1, (some 6)), (69, kX7_take, 1, (some 7)), (73, kX6_push, 1, (some 6)), (60, kX6_readThing, 1, (some 6)), (76, kX7_takeNumber, 1, (some 7)), (83, kX6_letterOf, 1, none), (63, kX6_readClose, 1, (some 6)), (66, kX6_readOperator, 1, (some 6)), (104, kX6_reckon, 0, (some 6)), (110, kX6_valueOf, 1, (some 6)), (113, kX6_join, 3, none)], [], [], [(92, 1), (98, 0), (107, 2)])
theorem zX6_f : ∀ e ∈ zX6.1, rt_okf RX6 e.1 e.2.1 e.2.2.1 e.2.2.2 := List.forall_mem_cons.mpr ⟨⟨_, rfl, Nat.le_of_ble_eq_true rfl, rt_at 121 (by decide +kernel) (by decide +kernel), fun _ => ⟨by decide +kernel, rfl, by decide +kernel⟩, fun h => absurd h (by decide), fun h => absurd h (by decide)⟩, List.forall_mem_cons.mpr ⟨⟨_, rfl, Nat.le_of_ble_eq_true rfl, rt_at 125 (by decide +kernel) (by decide +kernel), fun _ => ⟨by decide +kernel, rfl, by decide +kernel⟩, fun h => absurd h (by decide), fun h => absurd h (by decide)⟩, List.forall_mem_cons.mpr ⟨⟨_, rfl, Nat.le_of_ble_eq_true rfl, rt_at 165 (by decide +kernel) (by decide +kernel), fun h => absurd h (by decide), fun h => absurd h (by decide), fun h => absurd h (by decide)⟩, List.forall_mem_cons.mpr ⟨⟨_, rfl, Nat.le_of_ble_eq_true rfl, rt_at 166 (by decide +kernel) (by decide +kernel), fun _ => ⟨by decide +kernel, rfl, by decide +kernel⟩, fun h => absurd h (by decide), fun h => absurd h (by decide)⟩, List.forall_mem_cons.mpr ⟨⟨_, rfl, Nat.le_of_ble_eq_true rfl, rt_at 167 (by decide +kernel) (by decide +kernel), fun h => absurd h (by decide), fun h => absurd h (by decide), fun h => absurd h (by decide)⟩, List.forall_mem_cons.mpr ⟨⟨_, rfl, Nat.le_of_ble_eq_true rfl, rt_at 168 (by decide +kernel) (by decide +kernel), fun _ => ⟨by decide +kernel, rfl, by decide +kernel⟩, fun h => absurd h (by decide), fun h => absurd h (by decide)⟩, List.forall_mem_cons.mpr ⟨⟨_, rfl, Nat.le_of_ble_eq_true rfl, rt_at 169 (by decide +kernel) (by decide +kernel), fun h => absurd h (by decide), fun h => absurd h (by decide), fun h => absurd h (by decide)⟩, List.forall_mem_cons.mpr ⟨⟨_, rfl, Nat.le_of_ble_eq_true rfl, rt_at 170 (by decide +kernel) (by decide +kernel), fun _ => ⟨by decide +kernel, rfl, by decide +kernel⟩, fun h => absurd h (by decide), fun h => absurd h (by decide)⟩, List.forall_mem_cons.mpr ⟨⟨_, rfl, Nat.le_of_ble_eq_true rfl, rt_at 171 (by decide +kernel) (by decide +kernel), fun h => absurd h (by decide), fun h => absurd h (by decide), fun h => absurd h (by decide)⟩, List.forall_mem_cons.mpr ⟨⟨_, rfl, Nat.le_of_ble_eq_true rfl, rt_at 172 (by decide +kernel) (by decide +kernel), fun h => absurd h (by decide), fun h => absurd h (by decide), fun h => absurd h (by decide)⟩, List.forall_mem_cons.mpr ⟨⟨_, rfl, Nat.le_of_ble_eq_true rfl, rt_at 173 (by decide +kernel) (by decide +kernel), fun _ => ⟨by decide +kernel, rfl, by decide +kernel⟩, fun h => absurd h (by decide), fun h => absurd h (by decide)⟩, List.forall_mem_cons.mpr ⟨⟨_, rfl, Nat.le_of_ble_eq_true rfl, rt_at 174 (by decide +kernel) (by decide +kernel), fun _ => ⟨by decide +kernel, rfl, by decide +kernel⟩, fun h => absurd h (by decide), fun h => absurd h (by decide)⟩, fun _ h => absurd h List.not_mem_nil⟩⟩⟩⟩⟩⟩⟩⟩⟩⟩⟩⟩
theorem zX6_m : ∀ e ∈ zX6.2.1, Cond.methodLink RX6 e.1 e.2.1.1 ∈ rt_tbl ∧ rt_okK e.2.1 e.2.2.1 e.2.2.2 := List.forall_mem_cons.mpr ⟨⟨rt_at 656 (by decide +kernel) (by decide +kernel), okX7_peek⟩, List.forall_mem_cons.mpr ⟨⟨rt_at 657 (by decide +kernel) (by decide +kernel), okX6_popTo⟩, List.forall_mem_cons.mpr ⟨⟨rt_at 661 (by decide +kernel) (by decide +kernel), okX6_rankOf⟩, List.forall_mem_cons.mpr ⟨⟨rt_at 667 (by decide +kernel) (by decide +kernel), okX6_put⟩, List.forall_mem_cons.mpr ⟨⟨rt_at 671 (by decide +kernel) (by decide +kernel), okX6_readAhead⟩, List.forall_mem_cons.mpr ⟨⟨rt_at 675 (by decide +kernel) (by decide +kernel), okX7_take⟩, List.forall_mem_cons.mpr ⟨⟨rt_at 676 (by decide +kernel) (by decide +kernel), okX6_push⟩, List.forall_mem_cons.mpr ⟨⟨rt_at 680 (by decide +kernel) (by decide +kernel), okX6_readThing⟩, List.forall_mem_cons.mpr ⟨⟨rt_at 684 (by decide +kernel) (by decide +kernel), okX7_takeNumber⟩, List.forall_mem_cons.mpr ⟨⟨rt_at 685 (by decide +kernel) (by decide +kernel), okX6_letterOf⟩, List.forall_mem_cons.mpr ⟨⟨rt_at 688 (by decide +kernel) (by decide +kernel), okX6_readClose⟩, List.forall_mem_cons.mpr ⟨⟨rt_at 692 (by decide +kernel) (by decide +kernel), okX6_readOperator⟩, List.forall_mem_cons.mpr ⟨⟨rt_at 770 (by decide +kernel) (by decide +kernel), okX6_reckon⟩, List.forall_mem_cons.mpr ⟨⟨rt_at 774 (by decide +kernel) (by decide +kernel), okX6_valueOf⟩, List.forall_mem_cons.mpr ⟨⟨rt_at 778 (by decide +kernel) (by decide +kernel), okX6_join⟩, fun _ h => absurd h List.not_mem_nil⟩⟩⟩⟩⟩⟩⟩⟩⟩⟩⟩⟩⟩⟩⟩
theorem zX6_c : ∀ e ∈ zX6.2.2.1, Cond.constant RX6 e.1 e.2 ∈ rt_tbl := fun _ h => absurd h List.not_mem_nil
theorem zX6_l : ∀ e ∈ zX6.2.2.2.1, Cond.constantLong RX6 e.1 e.2 ∈ rt_tbl := fun _ h => absurd h List.not_mem_nil
theorem zX6_a : ∀ e ∈ zX6.2.2.2.2, Cond.methodLink RX6 e.1 (rt_nat e.2) ∈ rt_tbl := List.forall_mem_cons.mpr ⟨rt_at 664 (by decide +kernel) (by decide +kernel), List.forall_mem_cons.mpr ⟨rt_at 700 (by decide +kernel) (by decide +kernel), List.forall_mem_cons.mpr ⟨rt_at 781 (by decide +kernel) (by decide +kernel), fun _ h => absurd h List.not_mem_nil⟩⟩⟩
theorem zX6_ok : rt_okZ RX6 zX6 := ⟨zX6_f, zX6_m, zX6_c, zX6_l, zX6_a⟩
def zX7 : rt_Z := ([(11, 7, 0, 2), (15, 7, 1, 0), (19, 7, 2, 0), (22, 7, 3, 0)], [(31, kX7_peek, 0, (some 7)), (35, kX7_isDigit, 0, (some 7)), (39, kX7_take, 1, (some 7))], [], [], [(25, 2)])
theorem zX7_f : ∀ e ∈ zX7.1, rt_okf RX7 e.1 e.2.1 e.2.2.1 e.2.2.2 := List.forall_mem_cons.mpr ⟨⟨_, rfl, Nat.le_of_ble_eq_true rfl, rt_at 117 (by decide +kernel) (by decide +kernel), fun h => absurd h (by decide), fun h => absurd h (by decide), fun h => absurd h (by decide)⟩, List.forall_mem_cons.mpr ⟨⟨_, rfl, Nat.le_of_ble_eq_true rfl, rt_at 118 (by decide +kernel) (by decide +kernel), fun _ => ⟨by decide +kernel, rfl, by decide +kernel⟩, fun h => absurd h (by decide), fun h => absurd h (by decide)⟩, List.forall_mem_cons.mpr ⟨⟨_, rfl, Nat.le_of_ble_eq_true rfl, rt_at 123 (by decide +kernel) (by decide +kernel), fun _ => ⟨by decide +kernel, rfl, by decide +kernel⟩, fun h => absurd h (by decide), fun h => absurd h (by decide)⟩, List.forall_mem_cons.mpr ⟨⟨_, rfl, Nat.le_of_ble_eq_true rfl, rt_at 128 (by decide +kernel) (by decide +kernel), fun _ => ⟨by decide +kernel, rfl, by decide +kernel⟩, fun h => absurd h (by decide), fun h => absurd h (by decide)⟩, fun _ h => absurd h List.not_mem_nil⟩⟩⟩⟩
theorem zX7_m : ∀ e ∈ zX7.2.1, Cond.methodLink RX7 e.1 e.2.1.1 ∈ rt_tbl ∧ rt_okK e.2.1 e.2.2.1 e.2.2.2 := List.forall_mem_cons.mpr ⟨⟨rt_at 559 (by decide +kernel) (by decide +kernel), okX7_peek⟩, List.forall_mem_cons.mpr ⟨⟨rt_at 564 (by decide +kernel) (by decide +kernel), okX7_isDigit⟩, List.forall_mem_cons.mpr ⟨⟨rt_at 580 (by decide +kernel) (by decide +kernel), okX7_take⟩, fun _ h => absurd h List.not_mem_nil⟩⟩⟩
theorem zX7_c : ∀ e ∈ zX7.2.2.1, Cond.constant RX7 e.1 e.2 ∈ rt_tbl := fun _ h => absurd h List.not_mem_nil
theorem zX7_l : ∀ e ∈ zX7.2.2.2.1, Cond.constantLong RX7 e.1 e.2 ∈ rt_tbl := fun _ h => absurd h List.not_mem_nil
theorem zX7_a : ∀ e ∈ zX7.2.2.2.2, Cond.methodLink RX7 e.1 (rt_nat e.2) ∈ rt_tbl := List.forall_mem_cons.mpr ⟨rt_at 540 (by decide +kernel) (by decide +kernel), fun _ h => absurd h List.not_mem_nil⟩
theorem zX7_ok : rt_okZ RX7 zX7 := ⟨zX7_f, zX7_m, zX7_c, zX7_l, zX7_a⟩
def zX8 : rt_Z := ([(51, 7, 2, 0), (11, 8, 0, 2), (15, 8, 1, 2), (18, 8, 2, 0), (22, 8, 3, 0)], [(29, kX8_readRound, 2, (some 8)), (43, kX8_readPart, 4, (some 8)), (47, kX7_takeNumber, 1, (some 7)), (39, kX7_take, 1, (some 7)), (33, kX7_peek, 0, (some 7)), (25, kX8_ofRound, 4, none)], [], [], [(54, 0)])
theorem zX8_f : ∀ e ∈ zX8.1, rt_okf RX8 e.1 e.2.1 e.2.2.1 e.2.2.2 := List.forall_mem_cons.mpr ⟨⟨_, rfl, Nat.le_of_ble_eq_true rfl, rt_at 127 (by decide +kernel) (by decide +kernel), fun _ => ⟨by decide +kernel, rfl, by decide +kernel⟩, fun h => absurd h (by decide), fun h => absurd h (by decide)⟩, List.forall_mem_cons.mpr ⟨⟨_, rfl, Nat.le_of_ble_eq_true rfl, rt_at 145 (by decide +kernel) (by decide +kernel), fun h => absurd h (by decide), fun h => absurd h (by decide), fun h => absurd h (by decide)⟩, List.forall_mem_cons.mpr ⟨⟨_, rfl, Nat.le_of_ble_eq_true rfl, rt_at 146 (by decide +kernel) (by decide +kernel), fun h => absurd h (by decide), fun h => absurd h (by decide), fun h => absurd h (by decide)⟩, List.forall_mem_cons.mpr ⟨⟨_, rfl, Nat.le_of_ble_eq_true rfl, rt_at 147 (by decide +kernel) (by decide +kernel), fun _ => ⟨by decide +kernel, rfl, by decide +kernel⟩, fun h => absurd h (by decide), fun h => absurd h (by decide)⟩, List.forall_mem_cons.mpr ⟨⟨_, rfl, Nat.le_of_ble_eq_true rfl, rt_at 149 (by decide +kernel) (by decide +kernel), fun _ => ⟨by decide +kernel, rfl, by decide +kernel⟩, fun h => absurd h (by decide), fun h => absurd h (by decide)⟩, fun _ h => absurd h List.not_mem_nil⟩⟩⟩⟩⟩
theorem zX8_m : ∀ e ∈ zX8.2.1, Cond.methodLink RX8 e.1 e.2.1.1 ∈ rt_tbl ∧ rt_okK e.2.1 e.2.2.1 e.2.2.2 := List.forall_mem_cons.mpr ⟨⟨rt_at 605 (by decide +kernel) (by decide +kernel), okX8_readRound⟩, List.forall_mem_cons.mpr ⟨⟨rt_at 609 (by decide +kernel) (by decide +kernel), okX8_readPart⟩, List.forall_mem_cons.mpr ⟨⟨rt_at 613 (by decide +kernel) (by decide +kernel), okX7_takeNumber⟩, List.forall_mem_cons.mpr ⟨⟨rt_at 614 (by decide +kernel) (by decide +kernel), okX7_take⟩, List.forall_mem_cons.mpr ⟨⟨rt_at 615 (by decide +kernel) (by decide +kernel), okX7_peek⟩, List.forall_mem_cons.mpr ⟨⟨rt_at 759 (by decide +kernel) (by decide +kernel), okX8_ofRound⟩, fun _ h => absurd h List.not_mem_nil⟩⟩⟩⟩⟩⟩
theorem zX8_c : ∀ e ∈ zX8.2.2.1, Cond.constant RX8 e.1 e.2 ∈ rt_tbl := fun _ h => absurd h List.not_mem_nil
theorem zX8_l : ∀ e ∈ zX8.2.2.2.1, Cond.constantLong RX8 e.1 e.2 ∈ rt_tbl := fun _ h => absurd h List.not_mem_nil
theorem zX8_a : ∀ e ∈ zX8.2.2.2.2, Cond.methodLink RX8 e.1 (rt_nat e.2) ∈ rt_tbl := List.forall_mem_cons.mpr ⟨rt_at 620 (by decide +kernel) (by decide +kernel), fun _ h => absurd h List.not_mem_nil⟩
theorem zX8_ok : rt_okZ RX8 zX8 := ⟨zX8_f, zX8_m, zX8_c, zX8_l, zX8_a⟩
def zX9 : rt_Z := ([(100, 4, 0, 0), (132, 4, 1, 0), (126, 4, 3, 2), (129, 4, 4, 2), (40, 2, 0, 2), (150, 2, 1, 0), (65, 2, 2, 0), (72, 2, 3, 2), (75, 2, 4, 2), (61, 2, 5, 2), (36, 9, 0, 2), (46, 9, 1, 2), (47, 9, 2, 2), (51, 9, 3, 2), (9, 9, 4, 0), (15, 9, 5, 0), (18, 9, 6, 0), (21, 9, 7, 0), (24, 9, 8, 0), (27, 9, 9, 0), (30, 9, 10, 0), (33, 9, 11, 0)], [(84, kX2_hasCart, 1, (some 2)), (88, kX2_hasRoad, 1, (some 2)), (93, kX4_of, 2, (some 4)), (97, kX4_farEnd, 2, (some 4)), (68, kX9_isThere, 2, (some 9)), (55, kX8_heightAt, 1, (some 8)), (103, kX9_turnsBy, 4, (some 9)), (78, kX6_turnsOf, 6, (some 6)), (107, kX4_putOnRoad, 4, (some 4)), (116, kX4_put, 3, (some 4)), (120, kX2_hasPlace, 1, (some 2)), (123, kX4_cartsWith, 2, (some 4)), (135, kX9_goOn, 2, (some 9)), (138, kX4_putAtPlace, 2, (some 4)), (142, kX9_travels, 5, (some 9)), (147, kX9_draw, 1, (some 9)), (153, kX9_throwRoad, 3, (some 9)), (157, kX9_goBy, 1, (some 9)), (160, kJ6_bitCount_0f7a4, 1, none)], [(146, 1103515245)], [], [(111, 1)])
theorem zX9_f : ∀ e ∈ zX9.1, rt_okf RX9 e.1 e.2.1 e.2.2.1 e.2.2.2 := List.forall_mem_cons.mpr ⟨⟨_, rfl, Nat.le_of_ble_eq_true rfl, rt_at 210 (by decide +kernel) (by decide +kernel), fun _ => ⟨by decide +kernel, rfl, by decide +kernel⟩, fun h => absurd h (by decide), fun h => absurd h (by decide)⟩, List.forall_mem_cons.mpr ⟨⟨_, rfl, Nat.le_of_ble_eq_true rfl, rt_at 214 (by decide +kernel) (by decide +kernel), fun _ => ⟨by decide +kernel, rfl, by decide +kernel⟩, fun h => absurd h (by decide), fun h => absurd h (by decide)⟩, List.forall_mem_cons.mpr ⟨⟨_, rfl, Nat.le_of_ble_eq_true rfl, rt_at 221 (by decide +kernel) (by decide +kernel), fun h => absurd h (by decide), fun h => absurd h (by decide), fun h => absurd h (by decide)⟩, List.forall_mem_cons.mpr ⟨⟨_, rfl, Nat.le_of_ble_eq_true rfl, rt_at 226 (by decide +kernel) (by decide +kernel), fun h => absurd h (by decide), fun h => absurd h (by decide), fun h => absurd h (by decide)⟩, List.forall_mem_cons.mpr ⟨⟨_, rfl, Nat.le_of_ble_eq_true rfl, rt_at 239 (by decide +kernel) (by decide +kernel), fun h => absurd h (by decide), fun h => absurd h (by decide), fun h => absurd h (by decide)⟩, List.forall_mem_cons.mpr ⟨⟨_, rfl, Nat.le_of_ble_eq_true rfl, rt_at 244 (by decide +kernel) (by decide +kernel), fun _ => ⟨by decide +kernel, rfl, by decide +kernel⟩, fun h => absurd h (by decide), fun h => absurd h (by decide)⟩, List.forall_mem_cons.mpr ⟨⟨_, rfl, Nat.le_of_ble_eq_true rfl, rt_at 248 (by decide +kernel) (by decide +kernel), fun _ => ⟨by decide +kernel, rfl, by decide +kernel⟩, fun h => absurd h (by decide), fun h => absurd h (by decide)⟩, List.forall_mem_cons.mpr ⟨⟨_, rfl, Nat.le_of_ble_eq_true rfl, rt_at 251 (by decide +kernel) (by decide +kernel), fun h => absurd h (by decide), fun h => absurd h (by decide), fun h => absurd h (by decide)⟩, List.forall_mem_cons.mpr ⟨⟨_, rfl, Nat.le_of_ble_eq_true rfl, rt_at 254 (by decide +kernel) (by decide +kernel), fun h => absurd h (by decide), fun h => absurd h (by decide), fun h => absurd h (by decide)⟩, List.forall_mem_cons.mpr ⟨⟨_, rfl, Nat.le_of_ble_eq_true rfl, rt_at 257 (by decide +kernel) (by decide +kernel), fun h => absurd h (by decide), fun h => absurd h (by decide), fun h => absurd h (by decide)⟩, List.forall_mem_cons.mpr ⟨⟨_, rfl, Nat.le_of_ble_eq_true rfl, rt_at 288 (by decide +kernel) (by decide +kernel), fun h => absurd h (by decide), fun h => absurd h (by decide), fun h => absurd h (by decide)⟩, List.forall_mem_cons.mpr ⟨⟨_, rfl, Nat.le_of_ble_eq_true rfl, rt_at 291 (by decide +kernel) (by decide +kernel), fun h => absurd h (by decide), fun h => absurd h (by decide), fun h => absurd h (by decide)⟩, List.forall_mem_cons.mpr ⟨⟨_, rfl, Nat.le_of_ble_eq_true rfl, rt_at 293 (by decide +kernel) (by decide +kernel), fun h => absurd h (by decide), fun h => absurd h (by decide), fun h => absurd h (by decide)⟩, List.forall_mem_cons.mpr ⟨⟨_, rfl, Nat.le_of_ble_eq_true rfl, rt_at 295 (by decide +kernel) (by decide +kernel), fun h => absurd h (by decide), fun h => absurd h (by decide), fun h => absurd h (by decide)⟩, List.forall_mem_cons.mpr ⟨⟨_, rfl, Nat.le_of_ble_eq_true rfl, rt_at 296 (by decide +kernel) (by decide +kernel), fun _ => ⟨by decide +kernel, rfl, by decide +kernel⟩, fun h => absurd h (by decide), fun h => absurd h (by decide)⟩, List.forall_mem_cons.mpr ⟨⟨_, rfl, Nat.le_of_ble_eq_true rfl, rt_at 298 (by decide +kernel) (by decide +kernel), fun _ => ⟨by decide +kernel, rfl, by decide +kernel⟩, fun h => absurd h (by decide), fun h => absurd h (by decide)⟩, List.forall_mem_cons.mpr ⟨⟨_, rfl, Nat.le_of_ble_eq_true rfl, rt_at 300 (by decide +kernel) (by decide +kernel), fun _ => ⟨by decide +kernel, rfl, by decide +kernel⟩, fun h => absurd h (by decide), fun h => absurd h (by decide)⟩, List.forall_mem_cons.mpr ⟨⟨_, rfl, Nat.le_of_ble_eq_true rfl, rt_at 302 (by decide +kernel) (by decide +kernel), fun _ => ⟨by decide +kernel, rfl, by decide +kernel⟩, fun h => absurd h (by decide), fun h => absurd h (by decide)⟩, List.forall_mem_cons.mpr ⟨⟨_, rfl, Nat.le_of_ble_eq_true rfl, rt_at 304 (by decide +kernel) (by decide +kernel), fun _ => ⟨by decide +kernel, rfl, by decide +kernel⟩, fun h => absurd h (by decide), fun h => absurd h (by decide)⟩, List.forall_mem_cons.mpr ⟨⟨_, rfl, Nat.le_of_ble_eq_true rfl, rt_at 306 (by decide +kernel) (by decide +kernel), fun _ => ⟨by decide +kernel, rfl, by decide +kernel⟩, fun h => absurd h (by decide), fun h => absurd h (by decide)⟩, List.forall_mem_cons.mpr ⟨⟨_, rfl, Nat.le_of_ble_eq_true rfl, rt_at 308 (by decide +kernel) (by decide +kernel), fun _ => ⟨by decide +kernel, rfl, by decide +kernel⟩, fun h => absurd h (by decide), fun h => absurd h (by decide)⟩, List.forall_mem_cons.mpr ⟨⟨_, rfl, Nat.le_of_ble_eq_true rfl, rt_at 310 (by decide +kernel) (by decide +kernel), fun _ => ⟨by decide +kernel, rfl, by decide +kernel⟩, fun h => absurd h (by decide), fun h => absurd h (by decide)⟩, fun _ h => absurd h List.not_mem_nil⟩⟩⟩⟩⟩⟩⟩⟩⟩⟩⟩⟩⟩⟩⟩⟩⟩⟩⟩⟩⟩⟩
theorem zX9_m : ∀ e ∈ zX9.2.1, Cond.methodLink RX9 e.1 e.2.1.1 ∈ rt_tbl ∧ rt_okK e.2.1 e.2.2.1 e.2.2.2 := List.forall_mem_cons.mpr ⟨⟨rt_at 735 (by decide +kernel) (by decide +kernel), okX2_hasCart⟩, List.forall_mem_cons.mpr ⟨⟨rt_at 739 (by decide +kernel) (by decide +kernel), okX2_hasRoad⟩, List.forall_mem_cons.mpr ⟨⟨rt_at 743 (by decide +kernel) (by decide +kernel), okX4_of⟩, List.forall_mem_cons.mpr ⟨⟨rt_at 747 (by decide +kernel) (by decide +kernel), okX4_farEnd⟩, List.forall_mem_cons.mpr ⟨⟨rt_at 751 (by decide +kernel) (by decide +kernel), okX9_isThere⟩, List.forall_mem_cons.mpr ⟨⟨rt_at 755 (by decide +kernel) (by decide +kernel), okX8_heightAt⟩, List.forall_mem_cons.mpr ⟨⟨rt_at 762 (by decide +kernel) (by decide +kernel), okX9_turnsBy⟩, List.forall_mem_cons.mpr ⟨⟨rt_at 766 (by decide +kernel) (by decide +kernel), okX6_turnsOf⟩, List.forall_mem_cons.mpr ⟨⟨rt_at 782 (by decide +kernel) (by decide +kernel), okX4_putOnRoad⟩, List.forall_mem_cons.mpr ⟨⟨rt_at 808 (by decide +kernel) (by decide +kernel), okX4_put⟩, List.forall_mem_cons.mpr ⟨⟨rt_at 825 (by decide +kernel) (by decide +kernel), okX2_hasPlace⟩, List.forall_mem_cons.mpr ⟨⟨rt_at 829 (by decide +kernel) (by decide +kernel), okX4_cartsWith⟩, List.forall_mem_cons.mpr ⟨⟨rt_at 842 (by decide +kernel) (by decide +kernel), okX9_goOn⟩, List.forall_mem_cons.mpr ⟨⟨rt_at 846 (by decide +kernel) (by decide +kernel), okX4_putAtPlace⟩, List.forall_mem_cons.mpr ⟨⟨rt_at 1051 (by decide +kernel) (by decide +kernel), okX9_travels⟩, List.forall_mem_cons.mpr ⟨⟨rt_at 1141 (by decide +kernel) (by decide +kernel), okX9_draw⟩, List.forall_mem_cons.mpr ⟨⟨rt_at 1146 (by decide +kernel) (by decide +kernel), okX9_throwRoad⟩, List.forall_mem_cons.mpr ⟨⟨rt_at 1147 (by decide +kernel) (by decide +kernel), okX9_goBy⟩, List.forall_mem_cons.mpr ⟨⟨rt_at 1148 (by decide +kernel) (by decide +kernel), okJ6_bitCount_0f7a4⟩, fun _ h => absurd h List.not_mem_nil⟩⟩⟩⟩⟩⟩⟩⟩⟩⟩⟩⟩⟩⟩⟩⟩⟩⟩⟩
theorem zX9_c : ∀ e ∈ zX9.2.2.1, Cond.constant RX9 e.1 e.2 ∈ rt_tbl := List.forall_mem_cons.mpr ⟨rt_at 1145 (by decide +kernel) (by decide +kernel), fun _ h => absurd h List.not_mem_nil⟩
theorem zX9_l : ∀ e ∈ zX9.2.2.2.1, Cond.constantLong RX9 e.1 e.2 ∈ rt_tbl := fun _ h => absurd h List.not_mem_nil
theorem zX9_a : ∀ e ∈ zX9.2.2.2.2, Cond.methodLink RX9 e.1 (rt_nat e.2) ∈ rt_tbl := List.forall_mem_cons.mpr ⟨rt_at 799 (by decide +kernel) (by decide +kernel), fun _ h => absurd h List.not_mem_nil⟩
theorem zX9_ok : rt_okZ RX9 zX9 := ⟨zX9_f, zX9_m, zX9_c, zX9_l, zX9_a⟩
def zX10 : rt_Z := ([(86, 4, 0, 0), (64, 4, 3, 2), (69, 4, 4, 2), (55, 2, 0, 2), (110, 2, 1, 0), (61, 2, 2, 0), (95, 2, 5, 2), (48, 9, 0, 2), (82, 9, 2, 2), (44, 10, 0, 2), (54, 10, 1, 2), (9, 10, 2, 2), (15, 10, 3, 2), (18, 10, 4, 2), (21, 10, 5, 2), (24, 10, 6, 2), (27, 10, 7, 2), (30, 10, 8, 2), (33, 10, 9, 2), (36, 10, 10, 0), (41, 10, 11, 0)], [(72, kX9_turnsBy, 4, (some 9)), (76, kJ7_fill_53178, 2, none), (89, kX8_heightAt, 1, (some 8)), (98, kX10_noteOut, 3, (some 10)), (102, kX10_goBetween, 4, (some 10)), (106, kX10_outFrom, 2, (some 10)), (113, kX10_leastWayOn, 5, (some 10)), (123, kX4_farEnd, 2, (some 4)), (126, kX10_spread, 3, (some 10)), (117, kX5_add, 1, (some 5)), (129, kX10_callOn, 5, none), (139, kX10_reachedBy, 1, (some 10)), (142, kX2_allPlaces, 0, (some 2)), (146, kJ6_bitCount_0f7a4, 1, none), (151, kX10_serveAll, 1, (some 10))], [(40, 1000000)], [], [(133, 0)])
theorem zX10_f : ∀ e ∈ zX10.1, rt_okf RX10 e.1 e.2.1 e.2.2.1 e.2.2.2 := List.forall_mem_cons.mpr ⟨⟨_, rfl, Nat.le_of_ble_eq_true rfl, rt_at 209 (by decide +kernel) (by decide +kernel), fun _ => ⟨by decide +kernel, rfl, by decide +kernel⟩, fun h => absurd h (by decide), fun h => absurd h (by decide)⟩, List.forall_mem_cons.mpr ⟨⟨_, rfl, Nat.le_of_ble_eq_true rfl, rt_at 218 (by decide +kernel) (by decide +kernel), fun h => absurd h (by decide), fun h => absurd h (by decide), fun h => absurd h (by decide)⟩, List.forall_mem_cons.mpr ⟨⟨_, rfl, Nat.le_of_ble_eq_true rfl, rt_at 223 (by decide +kernel) (by decide +kernel), fun h => absurd h (by decide), fun h => absurd h (by decide), fun h => absurd h (by decide)⟩, List.forall_mem_cons.mpr ⟨⟨_, rfl, Nat.le_of_ble_eq_true rfl, rt_at 240 (by decide +kernel) (by decide +kernel), fun h => absurd h (by decide), fun h => absurd h (by decide), fun h => absurd h (by decide)⟩, List.forall_mem_cons.mpr ⟨⟨_, rfl, Nat.le_of_ble_eq_true rfl, rt_at 243 (by decide +kernel) (by decide +kernel), fun _ => ⟨by decide +kernel, rfl, by decide +kernel⟩, fun h => absurd h (by decide), fun h => absurd h (by decide)⟩, List.forall_mem_cons.mpr ⟨⟨_, rfl, Nat.le_of_ble_eq_true rfl, rt_at 247 (by decide +kernel) (by decide +kernel), fun _ => ⟨by decide +kernel, rfl, by decide +kernel⟩, fun h => absurd h (by decide), fun h => absurd h (by decide)⟩, List.forall_mem_cons.mpr ⟨⟨_, rfl, Nat.le_of_ble_eq_true rfl, rt_at 258 (by decide +kernel) (by decide +kernel), fun h => absurd h (by decide), fun h => absurd h (by decide), fun h => absurd h (by decide)⟩, List.forall_mem_cons.mpr ⟨⟨_, rfl, Nat.le_of_ble_eq_true rfl, rt_at 289 (by decide +kernel) (by decide +kernel), fun h => absurd h (by decide), fun h => absurd h (by decide), fun h => absurd h (by decide)⟩, List.forall_mem_cons.mpr ⟨⟨_, rfl, Nat.le_of_ble_eq_true rfl, rt_at 294 (by decide +kernel) (by decide +kernel), fun h => absurd h (by decide), fun h => absurd h (by decide), fun h => absurd h (by decide)⟩, List.forall_mem_cons.mpr ⟨⟨_, rfl, Nat.le_of_ble_eq_true rfl, rt_at 397 (by decide +kernel) (by decide +kernel), fun h => absurd h (by decide), fun h => absurd h (by decide), fun h => absurd h (by decide)⟩, List.forall_mem_cons.mpr ⟨⟨_, rfl, Nat.le_of_ble_eq_true rfl, rt_at 398 (by decide +kernel) (by decide +kernel), fun h => absurd h (by decide), fun h => absurd h (by decide), fun h => absurd h (by decide)⟩, List.forall_mem_cons.mpr ⟨⟨_, rfl, Nat.le_of_ble_eq_true rfl, rt_at 399 (by decide +kernel) (by decide +kernel), fun h => absurd h (by decide), fun h => absurd h (by decide), fun h => absurd h (by decide)⟩, List.forall_mem_cons.mpr ⟨⟨_, rfl, Nat.le_of_ble_eq_true rfl, rt_at 400 (by decide +kernel) (by decide +kernel), fun h => absurd h (by decide), fun h => absurd h (by decide), fun h => absurd h (by decide)⟩, List.forall_mem_cons.mpr ⟨⟨_, rfl, Nat.le_of_ble_eq_true rfl, rt_at 401 (by decide +kernel) (by decide +kernel), fun h => absurd h (by decide), fun h => absurd h (by decide), fun h => absurd h (by decide)⟩, List.forall_mem_cons.mpr ⟨⟨_, rfl, Nat.le_of_ble_eq_true rfl, rt_at 402 (by decide +kernel) (by decide +kernel), fun h => absurd h (by decide), fun h => absurd h (by decide), fun h => absurd h (by decide)⟩, List.forall_mem_cons.mpr ⟨⟨_, rfl, Nat.le_of_ble_eq_true rfl, rt_at 404 (by decide +kernel) (by decide +kernel), fun h => absurd h (by decide), fun h => absurd h (by decide), fun h => absurd h (by decide)⟩, List.forall_mem_cons.mpr ⟨⟨_, rfl, Nat.le_of_ble_eq_true rfl, rt_at 405 (by decide +kernel) (by decide +kernel), fun h => absurd h (by decide), fun h => absurd h (by decide), fun h => absurd h (by decide)⟩, List.forall_mem_cons.mpr ⟨⟨_, rfl, Nat.le_of_ble_eq_true rfl, rt_at 407 (by decide +kernel) (by decide +kernel), fun h => absurd h (by decide), fun h => absurd h (by decide), fun h => absurd h (by decide)⟩, List.forall_mem_cons.mpr ⟨⟨_, rfl, Nat.le_of_ble_eq_true rfl, rt_at 408 (by decide +kernel) (by decide +kernel), fun h => absurd h (by decide), fun h => absurd h (by decide), fun h => absurd h (by decide)⟩, List.forall_mem_cons.mpr ⟨⟨_, rfl, Nat.le_of_ble_eq_true rfl, rt_at 409 (by decide +kernel) (by decide +kernel), fun _ => ⟨by decide +kernel, rfl, by decide +kernel⟩, fun h => absurd h (by decide), fun h => absurd h (by decide)⟩, List.forall_mem_cons.mpr ⟨⟨_, rfl, Nat.le_of_ble_eq_true rfl, rt_at 410 (by decide +kernel) (by decide +kernel), fun _ => ⟨by decide +kernel, rfl, by decide +kernel⟩, fun h => absurd h (by decide), fun h => absurd h (by decide)⟩, fun _ h => absurd h List.not_mem_nil⟩⟩⟩⟩⟩⟩⟩⟩⟩⟩⟩⟩⟩⟩⟩⟩⟩⟩⟩⟩⟩
theorem zX10_m : ∀ e ∈ zX10.2.1, Cond.methodLink RX10 e.1 e.2.1.1 ∈ rt_tbl ∧ rt_okK e.2.1 e.2.2.1 e.2.2.2 := List.forall_mem_cons.mpr ⟨⟨rt_at 958 (by decide +kernel) (by decide +kernel), okX9_turnsBy⟩, List.forall_mem_cons.mpr ⟨⟨rt_at 959 (by decide +kernel) (by decide +kernel), okJ7_fill_53178⟩, List.forall_mem_cons.mpr ⟨⟨rt_at 962 (by decide +kernel) (by decide +kernel), okX8_heightAt⟩, List.forall_mem_cons.mpr ⟨⟨rt_at 963 (by decide +kernel) (by decide +kernel), okX10_noteOut⟩, List.forall_mem_cons.mpr ⟨⟨rt_at 971 (by decide +kernel) (by decide +kernel), okX10_goBetween⟩, List.forall_mem_cons.mpr ⟨⟨rt_at 975 (by decide +kernel) (by decide +kernel), okX10_outFrom⟩, List.forall_mem_cons.mpr ⟨⟨rt_at 983 (by decide +kernel) (by decide +kernel), okX10_leastWayOn⟩, List.forall_mem_cons.mpr ⟨⟨rt_at 987 (by decide +kernel) (by decide +kernel), okX4_farEnd⟩, List.forall_mem_cons.mpr ⟨⟨rt_at 988 (by decide +kernel) (by decide +kernel), okX10_spread⟩, List.forall_mem_cons.mpr ⟨⟨rt_at 989 (by decide +kernel) (by decide +kernel), okX5_add⟩, List.forall_mem_cons.mpr ⟨⟨rt_at 1022 (by decide +kernel) (by decide +kernel), okX10_callOn⟩, List.forall_mem_cons.mpr ⟨⟨rt_at 1034 (by decide +kernel) (by decide +kernel), okX10_reachedBy⟩, List.forall_mem_cons.mpr ⟨⟨rt_at 1035 (by decide +kernel) (by decide +kernel), okX2_allPlaces⟩, List.forall_mem_cons.mpr ⟨⟨rt_at 1036 (by decide +kernel) (by decide +kernel), okJ6_bitCount_0f7a4⟩, List.forall_mem_cons.mpr ⟨⟨rt_at 1037 (by decide +kernel) (by decide +kernel), okX10_serveAll⟩, fun _ h => absurd h List.not_mem_nil⟩⟩⟩⟩⟩⟩⟩⟩⟩⟩⟩⟩⟩⟩⟩
theorem zX10_c : ∀ e ∈ zX10.2.2.1, Cond.constant RX10 e.1 e.2 ∈ rt_tbl := List.forall_mem_cons.mpr ⟨rt_at 396 (by decide +kernel) (by decide +kernel), fun _ h => absurd h List.not_mem_nil⟩
theorem zX10_l : ∀ e ∈ zX10.2.2.2.1, Cond.constantLong RX10 e.1 e.2 ∈ rt_tbl := fun _ h => absurd h List.not_mem_nil
theorem zX10_a : ∀ e ∈ zX10.2.2.2.2, Cond.methodLink RX10 e.1 (rt_nat e.2) ∈ rt_tbl := List.forall_mem_cons.mpr ⟨rt_at 1025 (by decide +kernel) (by decide +kernel), fun _ h => absurd h List.not_mem_nil⟩
theorem zX10_ok : rt_okZ RX10 zX10 := ⟨zX10_f, zX10_m, zX10_c, zX10_l, zX10_a⟩
def zX11 : rt_Z := ([(87, 7, 1, 0), (106, 7, 2, 0), (125, 8, 2, 0), (156, 4, 0, 0), (325, 4, 1, 0), (171, 4, 3, 2), (174, 4, 4, 2), (152, 2, 0, 2), (290, 2, 1, 0), (367, 2, 2, 0), (144, 2, 3, 2), (177, 2, 4, 2), (180, 2, 5, 2), (197, 9, 4, 0), (230, 9, 5, 0), (240, 9, 6, 0), (311, 9, 7, 0), (314, 9, 8, 0), (379, 9, 9, 0), (382, 9, 10, 0), (370, 1, 3, 2), (257, 1, 5, 0), (250, 0, 4, 0), (287, 10, 5, 2), (302, 10, 7, 2), (331, 3, 2, 0), (352, 3, 3, 2), (340, 3, 4, 0), (343, 3, 5, 0), (346, 3, 6, 0), (393, 5, 0, 2), (392, 5, 1, 0), (10, 11, 0, 2), (19, 11, 1, 2), (26, 11, 2, 2), (33, 11, 3, 2), (42, 11, 4, 2), (49, 11, 5, 2), (56, 11, 6, 2), (65, 11, 7, 2), (72, 11, 8, 2), (79, 11, 9, 2)], [(83, kX7_addFour, 1, (some 7)), (91, kX7_cutTo, 1, (some 7)), (94, kX7_open, 1, (some 7)), (98, kX2_readFlats, 1, (some 2)), (102, kX7_isAllRead, 0, (some 7)), (109, kX7_clear, 0, (some 7)), (112, kX2_acceptFlats, 0, (some 2)), (115, kX1_forgetAll, 0, (some 1)), (118, kX8_readRounds, 1, (some 8)), (122, kX8_accept, 0, (some 8)), (128, kX2_readCarts, 1, (some 2)), (131, kX2_acceptCarts, 0, (some 2)), (134, kX6_readRule, 1, (some 6)), (137, kX6_accept, 0, (some 6)), (200, kX2_tellHeights, 4, (some 2)), (203, kX1_prepare, 1, (some 1)), (207, kX9_setOut, 2, (some 9)), (210, kX1_keepIfDone, 1, (some 1)), (213, kX9_turnRound, 1, (some 9)), (216, kX9_putChain, 2, (some 9)), (219, kX9_putLoad, 2, (some 9)), (222, kX9_throwRoad, 3, (some 9)), (226, kX9_goBy, 1, (some 9)), (229, kX5_clear, 0, (some 5)), (233, kX5_add, 1, (some 5)), (236, kX4_cartsCut, 0, (some 4)), (243, kX0_readActs, 1, (some 0)), (246, kX0_runOn, 1, (some 0)), (253, kX1_stepBack, 1, (some 1)), (260, kX8_heightAt, 1, (some 8)), (263, kJ6_compare_7cf53, 2, none), (168, kX2_hasRoad, 1, (some 2)), (183, kX9_isThere, 2, (some 9)), (268, kX9_stays, 3, (some 9)), (161, kX9_roadsThereAt, 1, (some 9)), (271, kJ6_bitCount_0f7a4, 1, none), (274, kX8_allGoInto, 1, (some 8)), (277, kX11_soonestWay, 3, (some 11)), (138, kX2_hasPlace, 1, (some 2)), (280, kX10_lookOn, 1, (some 10)), (283, kX10_spread, 3, (some 10)), (396, kX10_tellLeastWay, 4, (some 10)), (293, kX10_reachedBy, 1, (some 10)), (296, kX2_allPlaces, 0, (some 2)), (299, kX10_goRound, 2, (some 10)), (305, kX10_fewestInns, 1, (some 10)), (191, kX2_hasCart, 1, (some 2)), (194, kX4_of, 2, (some 4)), (308, kX9_foresee, 1, (some 9)), (317, kX4_farEnd, 2, (some 4)), (187, kX9_turnsBy, 4, (some 9)), (321, kX9_travels, 5, (some 9)), (328, kX3_put, 2, (some 3)), (334, kX3_isError, 1, none), (337, kX3_search, 3, (some 3)), (349, kX3_isTime, 1, none), (356, kJ13_numberOfTrailingZeros_95d88, 1, none), (362, kJ13_numberOfLeadingZeros_95d88, 1, none), (365, kJ13_bitCount_95d88, 1, none), (373, kX4_copyFrom, 1, (some 4)), (376, kX9_stormYears, 2, (some 9)), (385, kX1_store, 2, (some 1)), (389, kX1_restore, 2, (some 1)), (164, kX4_cartsWith, 2, (some 4)), (148, kX2_roadsAt, 1, (some 2))], [(320, 1000000)], [], [])
theorem zX11_f : ∀ e ∈ zX11.1, rt_okf RX11 e.1 e.2.1 e.2.2.1 e.2.2.2 := List.forall_mem_cons.mpr ⟨⟨_, rfl, Nat.le_of_ble_eq_true rfl, rt_at 120 (by decide +kernel) (by decide +kernel), fun _ => ⟨by decide +kernel, rfl, by decide +kernel⟩, fun h => absurd h (by decide), fun h => absurd h (by decide)⟩, List.forall_mem_cons.mpr ⟨⟨_, rfl, Nat.le_of_ble_eq_true rfl, rt_at 126 (by decide +kernel) (by decide +kernel), fun _ => ⟨by decide +kernel, rfl, by decide +kernel⟩, fun h => absurd h (by decide), fun h => absurd h (by decide)⟩, List.forall_mem_cons.mpr ⟨⟨_, rfl, Nat.le_of_ble_eq_true rfl, rt_at 148 (by decide +kernel) (by decide +kernel), fun _ => ⟨by decide +kernel, rfl, by decide +kernel⟩, fun h => absurd h (by decide), fun h => absurd h (by decide)⟩, List.forall_mem_cons.mpr ⟨⟨_, rfl, Nat.le_of_ble_eq_true rfl, rt_at 211 (by decide +kernel) (by decide +kernel), fun _ => ⟨by decide +kernel, rfl, by decide +kernel⟩, fun h => absurd h (by decide), fun h => absurd h (by decide)⟩, List.forall_mem_cons.mpr ⟨⟨_, rfl, Nat.le_of_ble_eq_true rfl, rt_at 215 (by decide +kernel) (by decide +kernel), fun _ => ⟨by decide +kernel, rfl, by decide +kernel⟩, fun h => absurd h (by decide), fun h => absurd h (by decide)⟩, List.forall_mem_cons.mpr ⟨⟨_, rfl, Nat.le_of_ble_eq_true rfl, rt_at 219 (by decide +kernel) (by decide +kernel), fun h => absurd h (by decide), fun h => absurd h (by decide), fun h => absurd h (by decide)⟩, List.forall_mem_cons.mpr ⟨⟨_, rfl, Nat.le_of_ble_eq_true rfl, rt_at 224 (by decide +kernel) (by decide +kernel), fun h => absurd h (by decide), fun h => absurd h (by decide), fun h => absurd h (by decide)⟩, List.forall_mem_cons.mpr ⟨⟨_, rfl, Nat.le_of_ble_eq_true rfl, rt_at 241 (by decide +kernel) (by decide +kernel), fun h => absurd h (by decide), fun h => absurd h (by decide), fun h => absurd h (by decide)⟩, List.forall_mem_cons.mpr ⟨⟨_, rfl, Nat.le_of_ble_eq_true rfl, rt_at 245 (by decide +kernel) (by decide +kernel), fun _ => ⟨by decide +kernel, rfl, by decide +kernel⟩, fun h => absurd h (by decide), fun h => absurd h (by decide)⟩, List.forall_mem_cons.mpr ⟨⟨_, rfl, Nat.le_of_ble_eq_true rfl, rt_at 249 (by decide +kernel) (by decide +kernel), fun _ => ⟨by decide +kernel, rfl, by decide +kernel⟩, fun h => absurd h (by decide), fun h => absurd h (by decide)⟩, List.forall_mem_cons.mpr ⟨⟨_, rfl, Nat.le_of_ble_eq_true rfl, rt_at 252 (by decide +kernel) (by decide +kernel), fun h => absurd h (by decide), fun h => absurd h (by decide), fun h => absurd h (by decide)⟩, List.forall_mem_cons.mpr ⟨⟨_, rfl, Nat.le_of_ble_eq_true rfl, rt_at 255 (by decide +kernel) (by decide +kernel), fun h => absurd h (by decide), fun h => absurd h (by decide), fun h => absurd h (by decide)⟩, List.forall_mem_cons.mpr ⟨⟨_, rfl, Nat.le_of_ble_eq_true rfl, rt_at 259 (by decide +kernel) (by decide +kernel), fun h => absurd h (by decide), fun h => absurd h (by decide), fun h => absurd h (by decide)⟩, List.forall_mem_cons.mpr ⟨⟨_, rfl, Nat.le_of_ble_eq_true rfl, rt_at 297 (by decide +kernel) (by decide +kernel), fun _ => ⟨by decide +kernel, rfl, by decide +kernel⟩, fun h => absurd h (by decide), fun h => absurd h (by decide)⟩, List.forall_mem_cons.mpr ⟨⟨_, rfl, Nat.le_of_ble_eq_true rfl, rt_at 299 (by decide +kernel) (by decide +kernel), fun _ => ⟨by decide +kernel, rfl, by decide +kernel⟩, fun h => absurd h (by decide), fun h => absurd h (by decide)⟩, List.forall_mem_cons.mpr ⟨⟨_, rfl, Nat.le_of_ble_eq_true rfl, rt_at 301 (by decide +kernel) (by decide +kernel), fun _ => ⟨by decide +kernel, rfl, by decide +kernel⟩, fun h => absurd h (by decide), fun h => absurd h (by decide)⟩, List.forall_mem_cons.mpr ⟨⟨_, rfl, Nat.le_of_ble_eq_true rfl, rt_at 303 (by decide +kernel) (by decide +kernel), fun _ => ⟨by decide +kernel, rfl, by decide +kernel⟩, fun h => absurd h (by decide), fun h => absurd h (by decide)⟩, List.forall_mem_cons.mpr ⟨⟨_, rfl, Nat.le_of_ble_eq_true rfl, rt_at 305 (by decide +kernel) (by decide +kernel), fun _ => ⟨by decide +kernel, rfl, by decide +kernel⟩, fun h => absurd h (by decide), fun h => absurd h (by decide)⟩, List.forall_mem_cons.mpr ⟨⟨_, rfl, Nat.le_of_ble_eq_true rfl, rt_at 307 (by decide +kernel) (by decide +kernel), fun _ => ⟨by decide +kernel, rfl, by decide +kernel⟩, fun h => absurd h (by decide), fun h => absurd h (by decide)⟩, List.forall_mem_cons.mpr ⟨⟨_, rfl, Nat.le_of_ble_eq_true rfl, rt_at 309 (by decide +kernel) (by decide +kernel), fun _ => ⟨by decide +kernel, rfl, by decide +kernel⟩, fun h => absurd h (by decide), fun h => absurd h (by decide)⟩, List.forall_mem_cons.mpr ⟨⟨_, rfl, Nat.le_of_ble_eq_true rfl, rt_at 349 (by decide +kernel) (by decide +kernel), fun h => absurd h (by decide), fun h => absurd h (by decide), fun h => absurd h (by decide)⟩, List.forall_mem_cons.mpr ⟨⟨_, rfl, Nat.le_of_ble_eq_true rfl, rt_at 352 (by decide +kernel) (by decide +kernel), fun _ => ⟨by decide +kernel, rfl, by decide +kernel⟩, fun h => absurd h (by decide), fun h => absurd h (by decide)⟩, List.forall_mem_cons.mpr ⟨⟨_, rfl, Nat.le_of_ble_eq_true rfl, rt_at 378 (by decide +kernel) (by decide +kernel), fun _ => ⟨by decide +kernel, rfl, by decide +kernel⟩, fun h => absurd h (by decide), fun h => absurd h (by decide)⟩, List.forall_mem_cons.mpr ⟨⟨_, rfl, Nat.le_of_ble_eq_true rfl, rt_at 403 (by decide +kernel) (by decide +kernel), fun h => absurd h (by decide), fun h => absurd h (by decide), fun h => absurd h (by decide)⟩, List.forall_mem_cons.mpr ⟨⟨_, rfl, Nat.le_of_ble_eq_true rfl, rt_at 406 (by decide +kernel) (by decide +kernel), fun h => absurd h (by decide), fun h => absurd h (by decide), fun h => absurd h (by decide)⟩, List.forall_mem_cons.mpr ⟨⟨_, rfl, Nat.le_of_ble_eq_true rfl, rt_at 445 (by decide +kernel) (by decide +kernel), fun _ => ⟨by decide +kernel, rfl, by decide +kernel⟩, fun h => absurd h (by decide), fun h => absurd h (by decide)⟩, List.forall_mem_cons.mpr ⟨⟨_, rfl, Nat.le_of_ble_eq_true rfl, rt_at 447 (by decide +kernel) (by decide +kernel), fun h => absurd h (by decide), fun h => absurd h (by decide), fun h => absurd h (by decide)⟩, List.forall_mem_cons.mpr ⟨⟨_, rfl, Nat.le_of_ble_eq_true rfl, rt_at 449 (by decide +kernel) (by decide +kernel), fun _ => ⟨by decide +kernel, rfl, by decide +kernel⟩, fun h => absurd h (by decide), fun h => absurd h (by decide)⟩, List.forall_mem_cons.mpr ⟨⟨_, rfl, Nat.le_of_ble_eq_true rfl, rt_at 451 (by decide +kernel) (by decide +kernel), fun _ => ⟨by decide +kernel, rfl, by decide +kernel⟩, fun h => absurd h (by decide), fun h => absurd h (by decide)⟩, List.forall_mem_cons.mpr ⟨⟨_, rfl, Nat.le_of_ble_eq_true rfl, rt_at 453 (by decide +kernel) (by decide +kernel), fun _ => ⟨by decide +kernel, rfl, by decide +kernel⟩, fun h => absurd h (by decide), fun h => absurd h (by decide)⟩, List.forall_mem_cons.mpr ⟨⟨_, rfl, Nat.le_of_ble_eq_true rfl, rt_at 477 (by decide +kernel) (by decide +kernel), fun h => absurd h (by decide), fun h => absurd h (by decide), fun h => absurd h (by decide)⟩, List.forall_mem_cons.mpr ⟨⟨_, rfl, Nat.le_of_ble_eq_true rfl, rt_at 479 (by decide +kernel) (by decide +kernel), fun _ => ⟨by decide +kernel, rfl, by decide +kernel⟩, fun h => absurd h (by decide), fun h => absurd h (by decide)⟩, List.forall_mem_cons.mpr ⟨⟨_, rfl, Nat.le_of_ble_eq_true rfl, rt_at 485 (by decide +kernel) (by decide +kernel), fun h => absurd h (by decide), fun h => absurd h (by decide), fun h => absurd h (by decide)⟩, List.forall_mem_cons.mpr ⟨⟨_, rfl, Nat.le_of_ble_eq_true rfl, rt_at 486 (by decide +kernel) (by decide +kernel), fun h => absurd h (by decide), fun h => absurd h (by decide), fun h => absurd h (by decide)⟩, List.forall_mem_cons.mpr ⟨⟨_, rfl, Nat.le_of_ble_eq_true rfl, rt_at 487 (by decide +kernel) (by decide +kernel), fun h => absurd h (by decide), fun h => absurd h (by decide), fun h => absurd h (by decide)⟩, List.forall_mem_cons.mpr ⟨⟨_, rfl, Nat.le_of_ble_eq_true rfl, rt_at 488 (by decide +kernel) (by decide +kernel), fun h => absurd h (by decide), fun h => absurd h (by decide), fun h => absurd h (by decide)⟩, List.forall_mem_cons.mpr ⟨⟨_, rfl, Nat.le_of_ble_eq_true rfl, rt_at 489 (by decide +kernel) (by decide +kernel), fun h => absurd h (by decide), fun h => absurd h (by decide), fun h => absurd h (by decide)⟩, List.forall_mem_cons.mpr ⟨⟨_, rfl, Nat.le_of_ble_eq_true rfl, rt_at 490 (by decide +kernel) (by decide +kernel), fun h => absurd h (by decide), fun h => absurd h (by decide), fun h => absurd h (by decide)⟩, List.forall_mem_cons.mpr ⟨⟨_, rfl, Nat.le_of_ble_eq_true rfl, rt_at 491 (by decide +kernel) (by decide +kernel), fun h => absurd h (by decide), fun h => absurd h (by decide), fun h => absurd h (by decide)⟩, List.forall_mem_cons.mpr ⟨⟨_, rfl, Nat.le_of_ble_eq_true rfl, rt_at 492 (by decide +kernel) (by decide +kernel), fun h => absurd h (by decide), fun h => absurd h (by decide), fun h => absurd h (by decide)⟩, List.forall_mem_cons.mpr ⟨⟨_, rfl, Nat.le_of_ble_eq_true rfl, rt_at 493 (by decide +kernel) (by decide +kernel), fun h => absurd h (by decide), fun h => absurd h (by decide), fun h => absurd h (by decide)⟩, List.forall_mem_cons.mpr ⟨⟨_, rfl, Nat.le_of_ble_eq_true rfl, rt_at 494 (by decide +kernel) (by decide +kernel), fun h => absurd h (by decide), fun h => absurd h (by decide), fun h => absurd h (by decide)⟩, fun _ h => absurd h List.not_mem_nil⟩⟩⟩⟩⟩⟩⟩⟩⟩⟩⟩⟩⟩⟩⟩⟩⟩⟩⟩⟩⟩⟩⟩⟩⟩⟩⟩⟩⟩⟩⟩⟩⟩⟩⟩⟩⟩⟩⟩⟩⟩⟩
theorem zX11_m : ∀ e ∈ zX11.2.1, Cond.methodLink RX11 e.1 e.2.1.1 ∈ rt_tbl ∧ rt_okK e.2.1 e.2.2.1 e.2.2.2 := List.forall_mem_cons.mpr ⟨⟨rt_at 520 (by decide +kernel) (by decide +kernel), okX7_addFour⟩, List.forall_mem_cons.mpr ⟨⟨rt_at 528 (by decide +kernel) (by decide +kernel), okX7_cutTo⟩, List.forall_mem_cons.mpr ⟨⟨rt_at 536 (by decide +kernel) (by decide +kernel), okX7_open⟩, List.forall_mem_cons.mpr ⟨⟨rt_at 543 (by decide +kernel) (by decide +kernel), okX2_readFlats⟩, List.forall_mem_cons.mpr ⟨⟨rt_at 581 (by decide +kernel) (by decide +kernel), okX7_isAllRead⟩, List.forall_mem_cons.mpr ⟨⟨rt_at 585 (by decide +kernel) (by decide +kernel), okX7_clear⟩, List.forall_mem_cons.mpr ⟨⟨rt_at 589 (by decide +kernel) (by decide +kernel), okX2_acceptFlats⟩, List.forall_mem_cons.mpr ⟨⟨rt_at 593 (by decide +kernel) (by decide +kernel), okX1_forgetAll⟩, List.forall_mem_cons.mpr ⟨⟨rt_at 601 (by decide +kernel) (by decide +kernel), okX8_readRounds⟩, List.forall_mem_cons.mpr ⟨⟨rt_at 616 (by decide +kernel) (by decide +kernel), okX8_accept⟩, List.forall_mem_cons.mpr ⟨⟨rt_at 627 (by decide +kernel) (by decide +kernel), okX2_readCarts⟩, List.forall_mem_cons.mpr ⟨⟨rt_at 644 (by decide +kernel) (by decide +kernel), okX2_acceptCarts⟩, List.forall_mem_cons.mpr ⟨⟨rt_at 652 (by decide +kernel) (by decide +kernel), okX6_readRule⟩, List.forall_mem_cons.mpr ⟨⟨rt_at 696 (by decide +kernel) (by decide +kernel), okX6_accept⟩, List.forall_mem_cons.mpr ⟨⟨rt_at 709 (by decide +kernel) (by decide +kernel), okX2_tellHeights⟩, List.forall_mem_cons.mpr ⟨⟨rt_at 722 (by decide +kernel) (by decide +kernel), okX1_prepare⟩, List.forall_mem_cons.mpr ⟨⟨rt_at 731 (by decide +kernel) (by decide +kernel), okX9_setOut⟩, List.forall_mem_cons.mpr ⟨⟨rt_at 786 (by decide +kernel) (by decide +kernel), okX1_keepIfDone⟩, List.forall_mem_cons.mpr ⟨⟨rt_at 795 (by decide +kernel) (by decide +kernel), okX9_turnRound⟩, List.forall_mem_cons.mpr ⟨⟨rt_at 804 (by decide +kernel) (by decide +kernel), okX9_putChain⟩, List.forall_mem_cons.mpr ⟨⟨rt_at 813 (by decide +kernel) (by decide +kernel), okX9_putLoad⟩, List.forall_mem_cons.mpr ⟨⟨rt_at 821 (by decide +kernel) (by decide +kernel), okX9_throwRoad⟩, List.forall_mem_cons.mpr ⟨⟨rt_at 838 (by decide +kernel) (by decide +kernel), okX9_goBy⟩, List.forall_mem_cons.mpr ⟨⟨rt_at 847 (by decide +kernel) (by decide +kernel), okX5_clear⟩, List.forall_mem_cons.mpr ⟨⟨rt_at 851 (by decide +kernel) (by decide +kernel), okX5_add⟩, List.forall_mem_cons.mpr ⟨⟨rt_at 855 (by decide +kernel) (by decide +kernel), okX4_cartsCut⟩, List.forall_mem_cons.mpr ⟨⟨rt_at 863 (by decide +kernel) (by decide +kernel), okX0_readActs⟩, List.forall_mem_cons.mpr ⟨⟨rt_at 874 (by decide +kernel) (by decide +kernel), okX0_runOn⟩, List.forall_mem_cons.mpr ⟨⟨rt_at 893 (by decide +kernel) (by decide +kernel), okX1_stepBack⟩, List.forall_mem_cons.mpr ⟨⟨rt_at 901 (by decide +kernel) (by decide +kernel), okX8_heightAt⟩, List.forall_mem_cons.mpr ⟨⟨rt_at 902 (by decide +kernel) (by decide +kernel), okJ6_compare_7cf53⟩, List.forall_mem_cons.mpr ⟨⟨rt_at 909 (by decide +kernel) (by decide +kernel), okX2_hasRoad⟩, List.forall_mem_cons.mpr ⟨⟨rt_at 910 (by decide +kernel) (by decide +kernel), okX9_isThere⟩, List.forall_mem_cons.mpr ⟨⟨rt_at 915 (by decide +kernel) (by decide +kernel), okX9_stays⟩, List.forall_mem_cons.mpr ⟨⟨rt_at 927 (by decide +kernel) (by decide +kernel), okX9_roadsThereAt⟩, List.forall_mem_cons.mpr ⟨⟨rt_at 931 (by decide +kernel) (by decide +kernel), okJ6_bitCount_0f7a4⟩, List.forall_mem_cons.mpr ⟨⟨rt_at 941 (by decide +kernel) (by decide +kernel), okX8_allGoInto⟩, List.forall_mem_cons.mpr ⟨⟨rt_at 949 (by decide +kernel) (by decide +kernel), okX11_soonestWay⟩, List.forall_mem_cons.mpr ⟨⟨rt_at 953 (by decide +kernel) (by decide +kernel), okX2_hasPlace⟩, List.forall_mem_cons.mpr ⟨⟨rt_at 954 (by decide +kernel) (by decide +kernel), okX10_lookOn⟩, List.forall_mem_cons.mpr ⟨⟨rt_at 967 (by decide +kernel) (by decide +kernel), okX10_spread⟩, List.forall_mem_cons.mpr ⟨⟨rt_at 979 (by decide +kernel) (by decide +kernel), okX10_tellLeastWay⟩, List.forall_mem_cons.mpr ⟨⟨rt_at 1002 (by decide +kernel) (by decide +kernel), okX10_reachedBy⟩, List.forall_mem_cons.mpr ⟨⟨rt_at 1010 (by decide +kernel) (by decide +kernel), okX2_allPlaces⟩, List.forall_mem_cons.mpr ⟨⟨rt_at 1018 (by decide +kernel) (by decide +kernel), okX10_goRound⟩, List.forall_mem_cons.mpr ⟨⟨rt_at 1030 (by decide +kernel) (by decide +kernel), okX10_fewestInns⟩, List.forall_mem_cons.mpr ⟨⟨rt_at 1045 (by decide +kernel) (by decide +kernel), okX2_hasCart⟩, List.forall_mem_cons.mpr ⟨⟨rt_at 1046 (by decide +kernel) (by decide +kernel), okX4_of⟩, List.forall_mem_cons.mpr ⟨⟨rt_at 1047 (by decide +kernel) (by decide +kernel), okX9_foresee⟩, List.forall_mem_cons.mpr ⟨⟨rt_at 1059 (by decide +kernel) (by decide +kernel), okX4_farEnd⟩, List.forall_mem_cons.mpr ⟨⟨rt_at 1060 (by decide +kernel) (by decide +kernel), okX9_turnsBy⟩, List.forall_mem_cons.mpr ⟨⟨rt_at 1062 (by decide +kernel) (by decide +kernel), okX9_travels⟩, List.forall_mem_cons.mpr ⟨⟨rt_at 1071 (by decide +kernel) (by decide +kernel), okX3_put⟩, List.forall_mem_cons.mpr ⟨⟨rt_at 1086 (by decide +kernel) (by decide +kernel), okX3_isError⟩, List.forall_mem_cons.mpr ⟨⟨rt_at 1089 (by decide +kernel) (by decide +kernel), okX3_search⟩, List.forall_mem_cons.mpr ⟨⟨rt_at 1108 (by decide +kernel) (by decide +kernel), okX3_isTime⟩, List.forall_mem_cons.mpr ⟨⟨rt_at 1109 (by decide +kernel) (by decide +kernel), okJ13_numberOfTrailingZeros_95d88⟩, List.forall_mem_cons.mpr ⟨⟨rt_at 1116 (by decide +kernel) (by decide +kernel), okJ13_numberOfLeadingZeros_95d88⟩, List.forall_mem_cons.mpr ⟨⟨rt_at 1122 (by decide +kernel) (by decide +kernel), okJ13_bitCount_95d88⟩, List.forall_mem_cons.mpr ⟨⟨rt_at 1136 (by decide +kernel) (by decide +kernel), okX4_copyFrom⟩, List.forall_mem_cons.mpr ⟨⟨rt_at 1137 (by decide +kernel) (by decide +kernel), okX9_stormYears⟩, List.forall_mem_cons.mpr ⟨⟨rt_at 1153 (by decide +kernel) (by decide +kernel), okX1_store⟩, List.forall_mem_cons.mpr ⟨⟨rt_at 1161 (by decide +kernel) (by decide +kernel), okX1_restore⟩, List.forall_mem_cons.mpr ⟨⟨rt_at 1169 (by decide +kernel) (by decide +kernel), okX4_cartsWith⟩, List.forall_mem_cons.mpr ⟨⟨rt_at 1239 (by decide +kernel) (by decide +kernel), okX2_roadsAt⟩, fun _ h => absurd h List.not_mem_nil⟩⟩⟩⟩⟩⟩⟩⟩⟩⟩⟩⟩⟩⟩⟩⟩⟩⟩⟩⟩⟩⟩⟩⟩⟩⟩⟩⟩⟩⟩⟩⟩⟩⟩⟩⟩⟩⟩⟩⟩⟩⟩⟩⟩⟩⟩⟩⟩⟩⟩⟩⟩⟩⟩⟩⟩⟩⟩⟩⟩⟩⟩⟩⟩⟩
theorem zX11_c : ∀ e ∈ zX11.2.2.1, Cond.constant RX11 e.1 e.2 ∈ rt_tbl := List.forall_mem_cons.mpr ⟨rt_at 1061 (by decide +kernel) (by decide +kernel), fun _ h => absurd h List.not_mem_nil⟩
theorem zX11_l : ∀ e ∈ zX11.2.2.2.1, Cond.constantLong RX11 e.1 e.2 ∈ rt_tbl := fun _ h => absurd h List.not_mem_nil
theorem zX11_a : ∀ e ∈ zX11.2.2.2.2, Cond.methodLink RX11 e.1 (rt_nat e.2) ∈ rt_tbl := fun _ h => absurd h List.not_mem_nil
theorem zX11_ok : rt_okZ RX11 zX11 := ⟨zX11_f, zX11_m, zX11_c, zX11_l, zX11_a⟩
def zX12 : rt_Z := ([(9, 12, 0, 2), (103, 12, 1, 0), (13, 12, 2, 2), (110, 12, 3, 0), (16, 12, 4, 2), (19, 12, 5, 2), (113, 12, 6, 0), (22, 12, 7, 0), (26, 12, 8, 2), (29, 12, 9, 0), (32, 12, 10, 2), (116, 12, 11, 0), (36, 12, 12, 2), (100, 12, 13, 0), (97, 12, 14, 0), (119, 12, 15, 3), (122, 12, 16, 0), (125, 12, 17, 0), (128, 12, 18, 0), (131, 12, 19, 0), (39, 12, 20, 2), (42, 12, 21, 2), (161, 12, 22, 0), (164, 12, 23, 0), (45, 12, 24, 2), (48, 12, 25, 2), (51, 12, 26, 2), (210, 12, 27, 0), (206, 12, 28, 1), (54, 12, 29, 2), (57, 12, 30, 2), (178, 12, 31, 0), (60, 12, 32, 2), (288, 12, 33, 0), (291, 12, 34, 0), (294, 12, 35, 0), (297, 12, 36, 0), (300, 12, 37, 0), (63, 12, 38, 2), (66, 12, 39, 2), (69, 12, 40, 2), (72, 12, 41, 2), (373, 12, 42, 0), (75, 12, 43, 2), (386, 12, 44, 0), (380, 12, 45, 0), (383, 12, 46, 0), (78, 12, 47, 2), (396, 12, 48, 0), (81, 12, 49, 2), (411, 12, 50, 0), (85, 12, 51, 2), (181, 12, 52, 0), (88, 12, 53, 2), (91, 12, 54, 2), (94, 12, 55, 2)], [(106, kX12_in, 3, none), (171, kX12_begin, 3, (some 12)), (134, kX12_fine, 0, (some 12)), (175, kX12_readLine, 0, (some 12)), (138, kX12_here, 0, (some 12)), (158, kX12_number, 1, (some 12)), (154, kX12_digit, 1, (some 12)), (150, kX12_oneOf, 3, (some 12)), (146, kX12_fault, 1, (some 12)), (167, kX12_need, 1, (some 12)), (142, kX12_passes, 1, (some 12)), (184, kX12_number_, 2, (some 12)), (187, kX12_stand, 3, none), (200, kX12_held, 1, (some 12)), (191, kX12_sum, 1, (some 12)), (194, kX12_product, 1, (some 12)), (197, kX12_thing, 1, (some 12)), (203, kX12_letterOf, 1, none), (232, kX12_isPlace, 1, (some 12)), (236, kX12_lost, 0, (some 12)), (239, kX12_cartsAt, 2, (some 12)), (242, kX12_beyond, 3, none), (228, kX12_endOf, 3, none), (245, kX12_isThere, 2, (some 12)), (225, kX12_levelAt, 1, (some 12)), (221, kX12_heightOf, 4, none), (249, kX12_isRoad, 1, (some 12)), (252, kX12_turnsOf, 4, (some 12)), (255, kX12_isCart, 1, (some 12)), (262, kX12_refusesOut, 2, (some 12)), (265, kX12_remember, 1, (some 12)), (258, kX12_lay, 3, none), (269, kX12_goOut, 2, (some 12)), (272, kX12_canRound, 1, (some 12)), (275, kX12_goRound, 1, (some 12)), (278, kX12_canChain, 1, (some 12)), (281, kX12_canLoad, 1, (some 12)), (284, kX12_isUsed, 2, (some 12)), (311, kX12_beginTurns, 0, (some 12)), (314, kX12_goTurns, 2, (some 12)), (303, kX12_goTurn, 1, (some 12)), (306, kJ6_bitCount_0f7a4, 1, none), (318, kX12_tell, 1, (some 12)), (321, kX12_readAct, 1, (some 12)), (324, kX12_act, 3, (some 12)), (327, kX12_isLook, 1, none), (330, kX12_levelIn, 1, (some 12)), (333, kJ6_compare_7cf53, 2, none), (336, kX12_comesIn, 2, (some 12)), (339, kX12_common, 2, none), (358, kX12_wayOf, 3, (some 12)), (362, kX12_findSoon, 3, (some 12)), (347, kX12_has, 2, none), (350, kX12_soonestBy, 5, (some 12)), (342, kX12_canGo, 4, (some 12)), (366, kX12_nextRoad, 6, (some 12)), (354, kX12_canCome, 6, (some 12)), (376, kX12_goCarrier, 5, (some 12)), (370, kX12_soonFrom, 3, (some 12)), (393, kX12_ridesOn, 1, (some 12)), (389, kX12_rides, 5, (some 12)), (402, kX12_fitsBy, 4, (some 12)), (405, kX12_findTold, 3, (some 12)), (408, kX12_toldAt, 1, (some 12)), (415, kX12_draw, 1, (some 12))], [(346, 1000000), (414, 1103515245)], [], [(213, 2), (218, 1), (399, 3)])
theorem zX12_f : ∀ e ∈ zX12.1, rt_okf RX12 e.1 e.2.1 e.2.2.1 e.2.2.2 := List.forall_mem_cons.mpr ⟨⟨_, rfl, Nat.le_of_ble_eq_true rfl, rt_at 1271 (by decide +kernel) (by decide +kernel), fun h => absurd h (by decide), fun h => absurd h (by decide), fun h => absurd h (by decide)⟩, List.forall_mem_cons.mpr ⟨⟨_, rfl, Nat.le_of_ble_eq_true rfl, rt_at 1272 (by decide +kernel) (by decide +kernel), fun _ => ⟨by decide +kernel, rfl, by decide +kernel⟩, fun h => absurd h (by decide), fun h => absurd h (by decide)⟩, List.forall_mem_cons.mpr ⟨⟨_, rfl, Nat.le_of_ble_eq_true rfl, rt_at 1273 (by decide +kernel) (by decide +kernel), fun h => absurd h (by decide), fun h => absurd h (by decide), fun h => absurd h (by decide)⟩, List.forall_mem_cons.mpr ⟨⟨_, rfl, Nat.le_of_ble_eq_true rfl, rt_at 1274 (by decide +kernel) (by decide +kernel), fun _ => ⟨by decide +kernel, rfl, by decide +kernel⟩, fun h => absurd h (by decide), fun h => absurd h (by decide)⟩, List.forall_mem_cons.mpr ⟨⟨_, rfl, Nat.le_of_ble_eq_true rfl, rt_at 1275 (by decide +kernel) (by decide +kernel), fun h => absurd h (by decide), fun h => absurd h (by decide), fun h => absurd h (by decide)⟩, List.forall_mem_cons.mpr ⟨⟨_, rfl, Nat.le_of_ble_eq_true rfl, rt_at 1276 (by decide +kernel) (by decide +kernel), fun h => absurd h (by decide), fun h => absurd h (by decide), fun h => absurd h (by decide)⟩, List.forall_mem_cons.mpr ⟨⟨_, rfl, Nat.le_of_ble_eq_true rfl, rt_at 1277 (by decide +kernel) (by decide +kernel), fun _ => ⟨by decide +kernel, rfl, by decide +kernel⟩, fun h => absurd h (by decide), fun h => absurd h (by decide)⟩, List.forall_mem_cons.mpr ⟨⟨_, rfl, Nat.le_of_ble_eq_true rfl, rt_at 1278 (by decide +kernel) (by decide +kernel), fun _ => ⟨by decide +kernel, rfl, by decide +kernel⟩, fun h => absurd h (by decide), fun h => absurd h (by decide)⟩, List.forall_mem_cons.mpr ⟨⟨_, rfl, Nat.le_of_ble_eq_true rfl, rt_at 1279 (by decide +kernel) (by decide +kernel), fun h => absurd h (by decide), fun h => absurd h (by decide), fun h => absurd h (by decide)⟩, List.forall_mem_cons.mpr ⟨⟨_, rfl, Nat.le_of_ble_eq_true rfl, rt_at 1280 (by decide +kernel) (by decide +kernel), fun _ => ⟨by decide +kernel, rfl, by decide +kernel⟩, fun h => absurd h (by decide), fun h => absurd h (by decide)⟩, List.forall_mem_cons.mpr ⟨⟨_, rfl, Nat.le_of_ble_eq_true rfl, rt_at 1281 (by decide +kernel) (by decide +kernel), fun h => absurd h (by decide), fun h => absurd h (by decide), fun h => absurd h (by decide)⟩, List.forall_mem_cons.mpr ⟨⟨_, rfl, Nat.le_of_ble_eq_true rfl, rt_at 1282 (by decide +kernel) (by decide +kernel), fun _ => ⟨by decide +kernel, rfl, by decide +kernel⟩, fun h => absurd h (by decide), fun h => absurd h (by decide)⟩, List.forall_mem_cons.mpr ⟨⟨_, rfl, Nat.le_of_ble_eq_true rfl, rt_at 1283 (by decide +kernel) (by decide +kernel), fun h => absurd h (by decide), fun h => absurd h (by decide), fun h => absurd h (by decide)⟩, List.forall_mem_cons.mpr ⟨⟨_, rfl, Nat.le_of_ble_eq_true rfl, rt_at 1284 (by decide +kernel) (by decide +kernel), fun _ => ⟨by decide +kernel, rfl, by decide +kernel⟩, fun h => absurd h (by decide), fun h => absurd h (by decide)⟩, List.forall_mem_cons.mpr ⟨⟨_, rfl, Nat.le_of_ble_eq_true rfl, rt_at 1285 (by decide +kernel) (by decide +kernel), fun _ => ⟨by decide +kernel, rfl, by decide +kernel⟩, fun h => absurd h (by decide), fun h => absurd h (by decide)⟩, List.forall_mem_cons.mpr ⟨⟨_, rfl, Nat.le_of_ble_eq_true rfl, rt_at 1286 (by decide +kernel) (by decide +kernel), fun h => absurd h (by decide), fun h => absurd h (by decide), fun _ => ⟨by decide +kernel, rfl, rfl, rfl⟩⟩, List.forall_mem_cons.mpr ⟨⟨_, rfl, Nat.le_of_ble_eq_true rfl, rt_at 1287 (by decide +kernel) (by decide +kernel), fun _ => ⟨by decide +kernel, rfl, by decide +kernel⟩, fun h => absurd h (by decide), fun h => absurd h (by decide)⟩, List.forall_mem_cons.mpr ⟨⟨_, rfl, Nat.le_of_ble_eq_true rfl, rt_at 1288 (by decide +kernel) (by decide +kernel), fun _ => ⟨by decide +kernel, rfl, by decide +kernel⟩, fun h => absurd h (by decide), fun h => absurd h (by decide)⟩, List.forall_mem_cons.mpr ⟨⟨_, rfl, Nat.le_of_ble_eq_true rfl, rt_at 1289 (by decide +kernel) (by decide +kernel), fun _ => ⟨by decide +kernel, rfl, by decide +kernel⟩, fun h => absurd h (by decide), fun h => absurd h (by decide)⟩, List.forall_mem_cons.mpr ⟨⟨_, rfl, Nat.le_of_ble_eq_true rfl, rt_at 1290 (by decide +kernel) (by decide +kernel), fun _ => ⟨by decide +kernel, rfl, by decide +kernel⟩, fun h => absurd h (by decide), fun h => absurd h (by decide)⟩, List.forall_mem_cons.mpr ⟨⟨_, rfl, Nat.le_of_ble_eq_true rfl, rt_at 1291 (by decide +kernel) (by decide +kernel), fun h => absurd h (by decide), fun h => absurd h (by decide), fun h => absurd h (by decide)⟩, List.forall_mem_cons.mpr ⟨⟨_, rfl, Nat.le_of_ble_eq_true rfl, rt_at 1292 (by decide +kernel) (by decide +kernel), fun h => absurd h (by decide), fun h => absurd h (by decide), fun h => absurd h (by decide)⟩, List.forall_mem_cons.mpr ⟨⟨_, rfl, Nat.le_of_ble_eq_true rfl, rt_at 1293 (by decide +kernel) (by decide +kernel), fun _ => ⟨by decide +kernel, rfl, by decide +kernel⟩, fun h => absurd h (by decide), fun h => absurd h (by decide)⟩, List.forall_mem_cons.mpr ⟨⟨_, rfl, Nat.le_of_ble_eq_true rfl, rt_at 1294 (by decide +kernel) (by decide +kernel), fun _ => ⟨by decide +kernel, rfl, by decide +kernel⟩, fun h => absurd h (by decide), fun h => absurd h (by decide)⟩, List.forall_mem_cons.mpr ⟨⟨_, rfl, Nat.le_of_ble_eq_true rfl, rt_at 1295 (by decide +kernel) (by decide +kernel), fun h => absurd h (by decide), fun h => absurd h (by decide), fun h => absurd h (by decide)⟩, List.forall_mem_cons.mpr ⟨⟨_, rfl, Nat.le_of_ble_eq_true rfl, rt_at 1296 (by decide +kernel) (by decide +kernel), fun h => absurd h (by decide), fun h => absurd h (by decide), fun h => absurd h (by decide)⟩, List.forall_mem_cons.mpr ⟨⟨_, rfl, Nat.le_of_ble_eq_true rfl, rt_at 1297 (by decide +kernel) (by decide +kernel), fun h => absurd h (by decide), fun h => absurd h (by decide), fun h => absurd h (by decide)⟩, List.forall_mem_cons.mpr ⟨⟨_, rfl, Nat.le_of_ble_eq_true rfl, rt_at 1298 (by decide +kernel) (by decide +kernel), fun _ => ⟨by decide +kernel, rfl, by decide +kernel⟩, fun h => absurd h (by decide), fun h => absurd h (by decide)⟩, List.forall_mem_cons.mpr ⟨⟨_, rfl, Nat.le_of_ble_eq_true rfl, rt_at 1299 (by decide +kernel) (by decide +kernel), fun h => absurd h (by decide), fun _ => ⟨by decide +kernel, rfl, by decide +kernel⟩, fun h => absurd h (by decide)⟩, List.forall_mem_cons.mpr ⟨⟨_, rfl, Nat.le_of_ble_eq_true rfl, rt_at 1300 (by decide +kernel) (by decide +kernel), fun h => absurd h (by decide), fun h => absurd h (by decide), fun h => absurd h (by decide)⟩, List.forall_mem_cons.mpr ⟨⟨_, rfl, Nat.le_of_ble_eq_true rfl, rt_at 1301 (by decide +kernel) (by decide +kernel), fun h => absurd h (by decide), fun h => absurd h (by decide), fun h => absurd h (by decide)⟩, List.forall_mem_cons.mpr ⟨⟨_, rfl, Nat.le_of_ble_eq_true rfl, rt_at 1302 (by decide +kernel) (by decide +kernel), fun _ => ⟨by decide +kernel, rfl, by decide +kernel⟩, fun h => absurd h (by decide), fun h => absurd h (by decide)⟩, List.forall_mem_cons.mpr ⟨⟨_, rfl, Nat.le_of_ble_eq_true rfl, rt_at 1303 (by decide +kernel) (by decide +kernel), fun h => absurd h (by decide), fun h => absurd h (by decide), fun h => absurd h (by decide)⟩, List.forall_mem_cons.mpr ⟨⟨_, rfl, Nat.le_of_ble_eq_true rfl, rt_at 1304 (by decide +kernel) (by decide +kernel), fun _ => ⟨by decide +kernel, rfl, by decide +kernel⟩, fun h => absurd h (by decide), fun h => absurd h (by decide)⟩, List.forall_mem_cons.mpr ⟨⟨_, rfl, Nat.le_of_ble_eq_true rfl, rt_at 1305 (by decide +kernel) (by decide +kernel), fun _ => ⟨by decide +kernel, rfl, by decide +kernel⟩, fun h => absurd h (by decide), fun h => absurd h (by decide)⟩, List.forall_mem_cons.mpr ⟨⟨_, rfl, Nat.le_of_ble_eq_true rfl, rt_at 1306 (by decide +kernel) (by decide +kernel), fun _ => ⟨by decide +kernel, rfl, by decide +kernel⟩, fun h => absurd h (by decide), fun h => absurd h (by decide)⟩, List.forall_mem_cons.mpr ⟨⟨_, rfl, Nat.le_of_ble_eq_true rfl, rt_at 1307 (by decide +kernel) (by decide +kernel), fun _ => ⟨by decide +kernel, rfl, by decide +kernel⟩, fun h => absurd h (by decide), fun h => absurd h (by decide)⟩, List.forall_mem_cons.mpr ⟨⟨_, rfl, Nat.le_of_ble_eq_true rfl, rt_at 1308 (by decide +kernel) (by decide +kernel), fun _ => ⟨by decide +kernel, rfl, by decide +kernel⟩, fun h => absurd h (by decide), fun h => absurd h (by decide)⟩, List.forall_mem_cons.mpr ⟨⟨_, rfl, Nat.le_of_ble_eq_true rfl, rt_at 1309 (by decide +kernel) (by decide +kernel), fun h => absurd h (by decide), fun h => absurd h (by decide), fun h => absurd h (by decide)⟩, List.forall_mem_cons.mpr ⟨⟨_, rfl, Nat.le_of_ble_eq_true rfl, rt_at 1310 (by decide +kernel) (by decide +kernel), fun h => absurd h (by decide), fun h => absurd h (by decide), fun h => absurd h (by decide)⟩, List.forall_mem_cons.mpr ⟨⟨_, rfl, Nat.le_of_ble_eq_true rfl, rt_at 1311 (by decide +kernel) (by decide +kernel), fun h => absurd h (by decide), fun h => absurd h (by decide), fun h => absurd h (by decide)⟩, List.forall_mem_cons.mpr ⟨⟨_, rfl, Nat.le_of_ble_eq_true rfl, rt_at 1312 (by decide +kernel) (by decide +kernel), fun h => absurd h (by decide), fun h => absurd h (by decide), fun h => absurd h (by decide)⟩, List.forall_mem_cons.mpr ⟨⟨_, rfl, Nat.le_of_ble_eq_true rfl, rt_at 1313 (by decide +kernel) (by decide +kernel), fun _ => ⟨by decide +kernel, rfl, by decide +kernel⟩, fun h => absurd h (by decide), fun h => absurd h (by decide)⟩, List.forall_mem_cons.mpr ⟨⟨_, rfl, Nat.le_of_ble_eq_true rfl, rt_at 1314 (by decide +kernel) (by decide +kernel), fun h => absurd h (by decide), fun h => absurd h (by decide), fun h => absurd h (by decide)⟩, List.forall_mem_cons.mpr ⟨⟨_, rfl, Nat.le_of_ble_eq_true rfl, rt_at 1315 (by decide +kernel) (by decide +kernel), fun _ => ⟨by decide +kernel, rfl, by decide +kernel⟩, fun h => absurd h (by decide), fun h => absurd h (by decide)⟩, List.forall_mem_cons.mpr ⟨⟨_, rfl, Nat.le_of_ble_eq_true rfl, rt_at 1316 (by decide +kernel) (by decide +kernel), fun _ => ⟨by decide +kernel, rfl, by decide +kernel⟩, fun h => absurd h (by decide), fun h => absurd h (by decide)⟩, List.forall_mem_cons.mpr ⟨⟨_, rfl, Nat.le_of_ble_eq_true rfl, rt_at 1317 (by decide +kernel) (by decide +kernel), fun _ => ⟨by decide +kernel, rfl, by decide +kernel⟩, fun h => absurd h (by decide), fun h => absurd h (by decide)⟩, List.forall_mem_cons.mpr ⟨⟨_, rfl, Nat.le_of_ble_eq_true rfl, rt_at 1318 (by decide +kernel) (by decide +kernel), fun h => absurd h (by decide), fun h => absurd h (by decide), fun h => absurd h (by decide)⟩, List.forall_mem_cons.mpr ⟨⟨_, rfl, Nat.le_of_ble_eq_true rfl, rt_at 1319 (by decide +kernel) (by decide +kernel), fun _ => ⟨by decide +kernel, rfl, by decide +kernel⟩, fun h => absurd h (by decide), fun h => absurd h (by decide)⟩, List.forall_mem_cons.mpr ⟨⟨_, rfl, Nat.le_of_ble_eq_true rfl, rt_at 1320 (by decide +kernel) (by decide +kernel), fun h => absurd h (by decide), fun h => absurd h (by decide), fun h => absurd h (by decide)⟩, List.forall_mem_cons.mpr ⟨⟨_, rfl, Nat.le_of_ble_eq_true rfl, rt_at 1321 (by decide +kernel) (by decide +kernel), fun _ => ⟨by decide +kernel, rfl, by decide +kernel⟩, fun h => absurd h (by decide), fun h => absurd h (by decide)⟩, List.forall_mem_cons.mpr ⟨⟨_, rfl, Nat.le_of_ble_eq_true rfl, rt_at 1322 (by decide +kernel) (by decide +kernel), fun h => absurd h (by decide), fun h => absurd h (by decide), fun h => absurd h (by decide)⟩, List.forall_mem_cons.mpr ⟨⟨_, rfl, Nat.le_of_ble_eq_true rfl, rt_at 1323 (by decide +kernel) (by decide +kernel), fun _ => ⟨by decide +kernel, rfl, by decide +kernel⟩, fun h => absurd h (by decide), fun h => absurd h (by decide)⟩, List.forall_mem_cons.mpr ⟨⟨_, rfl, Nat.le_of_ble_eq_true rfl, rt_at 1324 (by decide +kernel) (by decide +kernel), fun h => absurd h (by decide), fun h => absurd h (by decide), fun h => absurd h (by decide)⟩, List.forall_mem_cons.mpr ⟨⟨_, rfl, Nat.le_of_ble_eq_true rfl, rt_at 1325 (by decide +kernel) (by decide +kernel), fun h => absurd h (by decide), fun h => absurd h (by decide), fun h => absurd h (by decide)⟩, List.forall_mem_cons.mpr ⟨⟨_, rfl, Nat.le_of_ble_eq_true rfl, rt_at 1326 (by decide +kernel) (by decide +kernel), fun h => absurd h (by decide), fun h => absurd h (by decide), fun h => absurd h (by decide)⟩, fun _ h => absurd h List.not_mem_nil⟩⟩⟩⟩⟩⟩⟩⟩⟩⟩⟩⟩⟩⟩⟩⟩⟩⟩⟩⟩⟩⟩⟩⟩⟩⟩⟩⟩⟩⟩⟩⟩⟩⟩⟩⟩⟩⟩⟩⟩⟩⟩⟩⟩⟩⟩⟩⟩⟩⟩⟩⟩⟩⟩⟩⟩
theorem zX12_m : ∀ e ∈ zX12.2.1, Cond.methodLink RX12 e.1 e.2.1.1 ∈ rt_tbl ∧ rt_okK e.2.1 e.2.2.1 e.2.2.2 := List.forall_mem_cons.mpr ⟨⟨rt_at 1453 (by decide +kernel) (by decide +kernel), okX12_in⟩, List.forall_mem_cons.mpr ⟨⟨rt_at 1460 (by decide +kernel) (by decide +kernel), okX12_begin⟩, List.forall_mem_cons.mpr ⟨⟨rt_at 1464 (by decide +kernel) (by decide +kernel), okX12_fine⟩, List.forall_mem_cons.mpr ⟨⟨rt_at 1468 (by decide +kernel) (by decide +kernel), okX12_readLine⟩, List.forall_mem_cons.mpr ⟨⟨rt_at 1472 (by decide +kernel) (by decide +kernel), okX12_here⟩, List.forall_mem_cons.mpr ⟨⟨rt_at 1476 (by decide +kernel) (by decide +kernel), okX12_number⟩, List.forall_mem_cons.mpr ⟨⟨rt_at 1480 (by decide +kernel) (by decide +kernel), okX12_digit⟩, List.forall_mem_cons.mpr ⟨⟨rt_at 1484 (by decide +kernel) (by decide +kernel), okX12_oneOf⟩, List.forall_mem_cons.mpr ⟨⟨rt_at 1488 (by decide +kernel) (by decide +kernel), okX12_fault⟩, List.forall_mem_cons.mpr ⟨⟨rt_at 1492 (by decide +kernel) (by decide +kernel), okX12_need⟩, List.forall_mem_cons.mpr ⟨⟨rt_at 1496 (by decide +kernel) (by decide +kernel), okX12_passes⟩, List.forall_mem_cons.mpr ⟨⟨rt_at 1504 (by decide +kernel) (by decide +kernel), okX12_number_⟩, List.forall_mem_cons.mpr ⟨⟨rt_at 1512 (by decide +kernel) (by decide +kernel), okX12_stand⟩, List.forall_mem_cons.mpr ⟨⟨rt_at 1519 (by decide +kernel) (by decide +kernel), okX12_held⟩, List.forall_mem_cons.mpr ⟨⟨rt_at 1523 (by decide +kernel) (by decide +kernel), okX12_sum⟩, List.forall_mem_cons.mpr ⟨⟨rt_at 1527 (by decide +kernel) (by decide +kernel), okX12_product⟩, List.forall_mem_cons.mpr ⟨⟨rt_at 1531 (by decide +kernel) (by decide +kernel), okX12_thing⟩, List.forall_mem_cons.mpr ⟨⟨rt_at 1535 (by decide +kernel) (by decide +kernel), okX12_letterOf⟩, List.forall_mem_cons.mpr ⟨⟨rt_at 1542 (by decide +kernel) (by decide +kernel), okX12_isPlace⟩, List.forall_mem_cons.mpr ⟨⟨rt_at 1546 (by decide +kernel) (by decide +kernel), okX12_lost⟩, List.forall_mem_cons.mpr ⟨⟨rt_at 1550 (by decide +kernel) (by decide +kernel), okX12_cartsAt⟩, List.forall_mem_cons.mpr ⟨⟨rt_at 1554 (by decide +kernel) (by decide +kernel), okX12_beyond⟩, List.forall_mem_cons.mpr ⟨⟨rt_at 1557 (by decide +kernel) (by decide +kernel), okX12_endOf⟩, List.forall_mem_cons.mpr ⟨⟨rt_at 1560 (by decide +kernel) (by decide +kernel), okX12_isThere⟩, List.forall_mem_cons.mpr ⟨⟨rt_at 1564 (by decide +kernel) (by decide +kernel), okX12_levelAt⟩, List.forall_mem_cons.mpr ⟨⟨rt_at 1568 (by decide +kernel) (by decide +kernel), okX12_heightOf⟩, List.forall_mem_cons.mpr ⟨⟨rt_at 1575 (by decide +kernel) (by decide +kernel), okX12_isRoad⟩, List.forall_mem_cons.mpr ⟨⟨rt_at 1579 (by decide +kernel) (by decide +kernel), okX12_turnsOf⟩, List.forall_mem_cons.mpr ⟨⟨rt_at 1589 (by decide +kernel) (by decide +kernel), okX12_isCart⟩, List.forall_mem_cons.mpr ⟨⟨rt_at 1605 (by decide +kernel) (by decide +kernel), okX12_refusesOut⟩, List.forall_mem_cons.mpr ⟨⟨rt_at 1609 (by decide +kernel) (by decide +kernel), okX12_remember⟩, List.forall_mem_cons.mpr ⟨⟨rt_at 1613 (by decide +kernel) (by decide +kernel), okX12_lay⟩, List.forall_mem_cons.mpr ⟨⟨rt_at 1616 (by decide +kernel) (by decide +kernel), okX12_goOut⟩, List.forall_mem_cons.mpr ⟨⟨rt_at 1624 (by decide +kernel) (by decide +kernel), okX12_canRound⟩, List.forall_mem_cons.mpr ⟨⟨rt_at 1628 (by decide +kernel) (by decide +kernel), okX12_goRound⟩, List.forall_mem_cons.mpr ⟨⟨rt_at 1636 (by decide +kernel) (by decide +kernel), okX12_canChain⟩, List.forall_mem_cons.mpr ⟨⟨rt_at 1644 (by decide +kernel) (by decide +kernel), okX12_canLoad⟩, List.forall_mem_cons.mpr ⟨⟨rt_at 1652 (by decide +kernel) (by decide +kernel), okX12_isUsed⟩, List.forall_mem_cons.mpr ⟨⟨rt_at 1660 (by decide +kernel) (by decide +kernel), okX12_beginTurns⟩, List.forall_mem_cons.mpr ⟨⟨rt_at 1664 (by decide +kernel) (by decide +kernel), okX12_goTurns⟩, List.forall_mem_cons.mpr ⟨⟨rt_at 1668 (by decide +kernel) (by decide +kernel), okX12_goTurn⟩, List.forall_mem_cons.mpr ⟨⟨rt_at 1672 (by decide +kernel) (by decide +kernel), okJ6_bitCount_0f7a4⟩, List.forall_mem_cons.mpr ⟨⟨rt_at 1673 (by decide +kernel) (by decide +kernel), okX12_tell⟩, List.forall_mem_cons.mpr ⟨⟨rt_at 1681 (by decide +kernel) (by decide +kernel), okX12_readAct⟩, List.forall_mem_cons.mpr ⟨⟨rt_at 1685 (by decide +kernel) (by decide +kernel), okX12_act⟩, List.forall_mem_cons.mpr ⟨⟨rt_at 1697 (by decide +kernel) (by decide +kernel), okX12_isLook⟩, List.forall_mem_cons.mpr ⟨⟨rt_at 1700 (by decide +kernel) (by decide +kernel), okX12_levelIn⟩, List.forall_mem_cons.mpr ⟨⟨rt_at 1704 (by decide +kernel) (by decide +kernel), okJ6_compare_7cf53⟩, List.forall_mem_cons.mpr ⟨⟨rt_at 1709 (by decide +kernel) (by decide +kernel), okX12_comesIn⟩, List.forall_mem_cons.mpr ⟨⟨rt_at 1729 (by decide +kernel) (by decide +kernel), okX12_common⟩, List.forall_mem_cons.mpr ⟨⟨rt_at 1736 (by decide +kernel) (by decide +kernel), okX12_wayOf⟩, List.forall_mem_cons.mpr ⟨⟨rt_at 1740 (by decide +kernel) (by decide +kernel), okX12_findSoon⟩, List.forall_mem_cons.mpr ⟨⟨rt_at 1745 (by decide +kernel) (by decide +kernel), okX12_has⟩, List.forall_mem_cons.mpr ⟨⟨rt_at 1748 (by decide +kernel) (by decide +kernel), okX12_soonestBy⟩, List.forall_mem_cons.mpr ⟨⟨rt_at 1752 (by decide +kernel) (by decide +kernel), okX12_canGo⟩, List.forall_mem_cons.mpr ⟨⟨rt_at 1756 (by decide +kernel) (by decide +kernel), okX12_nextRoad⟩, List.forall_mem_cons.mpr ⟨⟨rt_at 1760 (by decide +kernel) (by decide +kernel), okX12_canCome⟩, List.forall_mem_cons.mpr ⟨⟨rt_at 1784 (by decide +kernel) (by decide +kernel), okX12_goCarrier⟩, List.forall_mem_cons.mpr ⟨⟨rt_at 1788 (by decide +kernel) (by decide +kernel), okX12_soonFrom⟩, List.forall_mem_cons.mpr ⟨⟨rt_at 1800 (by decide +kernel) (by decide +kernel), okX12_ridesOn⟩, List.forall_mem_cons.mpr ⟨⟨rt_at 1804 (by decide +kernel) (by decide +kernel), okX12_rides⟩, List.forall_mem_cons.mpr ⟨⟨rt_at 1828 (by decide +kernel) (by decide +kernel), okX12_fitsBy⟩, List.forall_mem_cons.mpr ⟨⟨rt_at 1837 (by decide +kernel) (by decide +kernel), okX12_findTold⟩, List.forall_mem_cons.mpr ⟨⟨rt_at 1841 (by decide +kernel) (by decide +kernel), okX12_toldAt⟩, List.forall_mem_cons.mpr ⟨⟨rt_at 1853 (by decide +kernel) (by decide +kernel), okX12_draw⟩, fun _ h => absurd h List.not_mem_nil⟩⟩⟩⟩⟩⟩⟩⟩⟩⟩⟩⟩⟩⟩⟩⟩⟩⟩⟩⟩⟩⟩⟩⟩⟩⟩⟩⟩⟩⟩⟩⟩⟩⟩⟩⟩⟩⟩⟩⟩⟩⟩⟩⟩⟩⟩⟩⟩⟩⟩⟩⟩⟩⟩⟩⟩⟩⟩⟩⟩⟩⟩⟩⟩⟩
theorem zX12_c : ∀ e ∈ zX12.2.2.1, Cond.constant RX12 e.1 e.2 ∈ rt_tbl := List.forall_mem_cons.mpr ⟨rt_at 1744 (by decide +kernel) (by decide +kernel), List.forall_mem_cons.mpr ⟨rt_at 1857 (by decide +kernel) (by decide +kernel), fun _ h => absurd h List.not_mem_nil⟩⟩
theorem zX12_l : ∀ e ∈ zX12.2.2.2.1, Cond.constantLong RX12 e.1 e.2 ∈ rt_tbl := fun _ h => absurd h List.not_mem_nil
theorem zX12_a : ∀ e ∈ zX12.2.2.2.2, Cond.methodLink RX12 e.1 (rt_nat e.2) ∈ rt_tbl := List.forall_mem_cons.mpr ⟨rt_at 1583 (by decide +kernel) (by decide +kernel), List.forall_mem_cons.mpr ⟨rt_at 1584 (by decide +kernel) (by decide +kernel), List.forall_mem_cons.mpr ⟨rt_at 1832 (by decide +kernel) (by decide +kernel), fun _ h => absurd h List.not_mem_nil⟩⟩⟩
theorem zX12_ok : rt_okZ RX12 zX12 := ⟨zX12_f, zX12_m, zX12_c, zX12_l, zX12_a⟩
def zJ6 : rt_Z := ([], [], [(265, 1431655765), (266, 858993459), (267, 252645135), (264, 65536)], [], [])
theorem zJ6_f : ∀ e ∈ zJ6.1, rt_okf RJ6 e.1 e.2.1 e.2.2.1 e.2.2.2 := fun _ h => absurd h List.not_mem_nil
theorem zJ6_m : ∀ e ∈ zJ6.2.1, Cond.methodLink RJ6 e.1 e.2.1.1 ∈ rt_tbl ∧ rt_okK e.2.1 e.2.2.1 e.2.2.2 := fun _ h => absurd h List.not_mem_nil
theorem zJ6_c : ∀ e ∈ zJ6.2.2.1, Cond.constant RJ6 e.1 e.2 ∈ rt_tbl := List.forall_mem_cons.mpr ⟨rt_at 934 (by decide +kernel) (by decide +kernel), List.forall_mem_cons.mpr ⟨rt_at 935 (by decide +kernel) (by decide +kernel), List.forall_mem_cons.mpr ⟨rt_at 936 (by decide +kernel) (by decide +kernel), List.forall_mem_cons.mpr ⟨rt_at 1115 (by decide +kernel) (by decide +kernel), fun _ h => absurd h List.not_mem_nil⟩⟩⟩⟩
theorem zJ6_l : ∀ e ∈ zJ6.2.2.2.1, Cond.constantLong RJ6 e.1 e.2 ∈ rt_tbl := fun _ h => absurd h List.not_mem_nil
theorem zJ6_a : ∀ e ∈ zJ6.2.2.2.2, Cond.methodLink RJ6 e.1 (rt_nat e.2) ∈ rt_tbl := fun _ h => absurd h List.not_mem_nil
theorem zJ6_ok : rt_okZ RJ6 zJ6 := ⟨zJ6_f, zJ6_m, zJ6_c, zJ6_l, zJ6_a⟩
def zJ13 : rt_Z := ([], [(311, kJ6_numberOfTrailingZeros_0f7a4, 1, none), (308, kJ6_numberOfLeadingZeros_0f7a4, 1, none)], [], [(314, 6148914691236517205), (316, 3689348814741910323), (318, 1085102592571150095)], [])
theorem zJ13_f : ∀ e ∈ zJ13.1, rt_okf RJ13 e.1 e.2.1 e.2.2.1 e.2.2.2 := fun _ h => absurd h List.not_mem_nil
theorem zJ13_m : ∀ e ∈ zJ13.2.1, Cond.methodLink RJ13 e.1 e.2.1.1 ∈ rt_tbl ∧ rt_okK e.2.1 e.2.2.1 e.2.2.2 := List.forall_mem_cons.mpr ⟨⟨rt_at 1112 (by decide +kernel) (by decide +kernel), okJ6_numberOfTrailingZeros_0f7a4⟩, List.forall_mem_cons.mpr ⟨⟨rt_at 1119 (by decide +kernel) (by decide +kernel), okJ6_numberOfLeadingZeros_0f7a4⟩, fun _ h => absurd h List.not_mem_nil⟩⟩
theorem zJ13_c : ∀ e ∈ zJ13.2.2.1, Cond.constant RJ13 e.1 e.2 ∈ rt_tbl := fun _ h => absurd h List.not_mem_nil
theorem zJ13_l : ∀ e ∈ zJ13.2.2.2.1, Cond.constantLong RJ13 e.1 e.2 ∈ rt_tbl := List.forall_mem_cons.mpr ⟨rt_at 1125 (by decide +kernel) (by decide +kernel), List.forall_mem_cons.mpr ⟨rt_at 1126 (by decide +kernel) (by decide +kernel), List.forall_mem_cons.mpr ⟨rt_at 1127 (by decide +kernel) (by decide +kernel), fun _ h => absurd h List.not_mem_nil⟩⟩⟩
theorem zJ13_a : ∀ e ∈ zJ13.2.2.2.2, Cond.methodLink RJ13 e.1 (rt_nat e.2) ∈ rt_tbl := fun _ h => absurd h List.not_mem_nil
theorem zJ13_ok : rt_okZ RJ13 zJ13 := ⟨zJ13_f, zJ13_m, zJ13_c, zJ13_l, zJ13_a⟩
def zJ9 : rt_Z := ([], [], [], [], [])
theorem zJ9_f : ∀ e ∈ zJ9.1, rt_okf RJ9 e.1 e.2.1 e.2.2.1 e.2.2.2 := fun _ h => absurd h List.not_mem_nil
theorem zJ9_m : ∀ e ∈ zJ9.2.1, Cond.methodLink RJ9 e.1 e.2.1.1 ∈ rt_tbl ∧ rt_okK e.2.1 e.2.2.1 e.2.2.2 := fun _ h => absurd h List.not_mem_nil
theorem zJ9_c : ∀ e ∈ zJ9.2.2.1, Cond.constant RJ9 e.1 e.2 ∈ rt_tbl := fun _ h => absurd h List.not_mem_nil
theorem zJ9_l : ∀ e ∈ zJ9.2.2.2.1, Cond.constantLong RJ9 e.1 e.2 ∈ rt_tbl := fun _ h => absurd h List.not_mem_nil
theorem zJ9_a : ∀ e ∈ zJ9.2.2.2.2, Cond.methodLink RJ9 e.1 (rt_nat e.2) ∈ rt_tbl := fun _ h => absurd h List.not_mem_nil
theorem zJ9_ok : rt_okZ RJ9 zJ9 := ⟨zJ9_f, zJ9_m, zJ9_c, zJ9_l, zJ9_a⟩
def zJ7 : rt_Z := ([], [], [], [], [])
theorem zJ7_f : ∀ e ∈ zJ7.1, rt_okf RJ7 e.1 e.2.1 e.2.2.1 e.2.2.2 := fun _ h => absurd h List.not_mem_nil
theorem zJ7_m : ∀ e ∈ zJ7.2.1, Cond.methodLink RJ7 e.1 e.2.1.1 ∈ rt_tbl ∧ rt_okK e.2.1 e.2.2.1 e.2.2.2 := fun _ h => absurd h List.not_mem_nil
theorem zJ7_c : ∀ e ∈ zJ7.2.2.1, Cond.constant RJ7 e.1 e.2 ∈ rt_tbl := fun _ h => absurd h List.not_mem_nil
theorem zJ7_l : ∀ e ∈ zJ7.2.2.2.1, Cond.constantLong RJ7 e.1 e.2 ∈ rt_tbl := fun _ h => absurd h List.not_mem_nil
theorem zJ7_a : ∀ e ∈ zJ7.2.2.2.2, Cond.methodLink RJ7 e.1 (rt_nat e.2) ∈ rt_tbl := fun _ h => absurd h List.not_mem_nil
theorem zJ7_ok : rt_okZ RJ7 zJ7 := ⟨zJ7_f, zJ7_m, zJ7_c, zJ7_l, zJ7_a⟩
end
section
/-! THE PICTURE: cells by numbers; ints, longs; references are static but for the model's field read -/
abbrev rt_I : Type := Nat → Nat → Int32
abbrev rt_L : Type := Nat → Nat → Int64
abbrev rt_Q : Type := Int32 → rt_I → rt_L → Nat → Prop
abbrev rt_V : Type := List (Option Value)
/-- class numbers, slots, array classes, addresses -/
abbrev rt_G : Type := (Nat → ClassId) × (Nat → Nat → Nat) × (Nat → ClassId) × (Nat → Nat)
def rt_u (I : rt_I) (c j : Nat) (v : Int32) : rt_I := fun c' => if c' = c then upd (I c) j v else I c'
def rt_uL (L : rt_L) (c j : Nat) (v : Int64) : rt_L := fun c' => if c' = c then vp_updL (L c) j v else L c'
def rt_uA (I : rt_I) (c : Nat) (f : Nat → Int32) : rt_I := fun c' => if c' = c then f else I c'
def rt_v (ad : Nat → Nat) : Value → Value
  | .ref a => .ref (ad a)
  | v => v
def rt_fv (ad : Nat → Nat) (I : rt_I) (r ci c j : Nat) : Value := if rt_isR ci j = true then va_rf ((rt_pt r c j).map ad) else .int (I c j)
def rt_gv (I : rt_I) (r ci c j : Nat) : Value := match rt_isR ci j with
  | true => va_rf (rt_pt r c j)
  | false => .int (I c j)
def rt_en (ad : Nat → Nat) (cA : Nat → ClassId) (I : rt_I) (L : rt_L) (r c : Nat) : va_E := match rt_lay c with
  | (0, n) => .inl (cA 0, n, .inl (I c))
  | (1, n) => .inl (cA 1, n, .inl (I c))
  | (2, n) => .inl (cA 2, n, .inl (I c))
  | (3, n) => .inl (cA 3, n, .inr (.inl (L c)))
  | (4, n) => .inl (cA 4, n, .inr (.inr (.inr (.inr (fun j => (rt_pt r c j).map ad)))))
  | (k + 5, n) => .inr (k, (List.range n).map (rt_fv ad I r k c))
def rt_W (G : rt_G) (I : rt_I) (L : rt_L) (r : Nat) : va_W := (List.range rt_NC).map (fun c => (G.2.2.2 c, rt_en G.2.2.2 G.2.2.1 I L r c))
def rt_ty (G : rt_G) : List (ClassId × FieldType) := [(G.2.2.1 0, .int), (G.2.2.1 1, .byte), (G.2.2.1 2, .boolean), (G.2.2.1 3, .long), (G.2.2.1 4, .object RX4)]
def rt_A (G : rt_G) : Nat → Prop := fun q => ∃ c, c < rt_NC ∧ G.2.2.2 c = q
def rt_J (G : rt_G) : Prop := ∀ i j, i < rt_NC → j < rt_NC → G.2.2.2 i = G.2.2.2 j → i = j
def rt_P (G : rt_G) (I : rt_I) (L : rt_L) (r : Nat) (H : Heap) : Prop := va_P (G.1, G.2.1) vwCl (rt_W G I L r) H
def rt_KK (G : rt_G) (U : State) : Prop := va_K (G.1, G.2.1) vwCl (rt_ty G) U
def rt_rm (d : Nat) : Room := { frames := d, cells := 0, slots := 0, locals := 80 * d }
def rt_rv (K : rt_K) (v : Int32) : Option Value := match K.2.2.2 with
  | none => none
  | some _ => some (.int v)
def rt_Qc (G : rt_G) (K : rt_K) (Q : rt_Q) : Array Value → State → Outcome → State → Prop := fun _ st o t =>
  (∃ (v : Int32) (I : rt_I) (L : rt_L) (r : Nat), o = .returned (rt_rv K v) ∧ Q v I L r ∧ rt_P G I L r t.heap) ∧ va_F (rt_A G) st t
def rt_Pc (G : rt_G) (av : List Value) (I : rt_I) (L : rt_L) (r : Nat) : Array Value → State → Prop := va_Pc (av.map (rt_v G.2.2.2)) (fun U => rt_P G I L r U.heap ∧ rt_KK G U ∧ rt_J G)
def rt_ws (K : rt_K) : List Cond := Cond.code K.1 K.2.1 K.2.2.1 K.2.2.2 :: rt_tbl
/-- a method's contract, as a weakest precondition: from the picture I L r with the arguments av it returns, with Q -/
def rt_Call (G : rt_G) (d : Nat) (K : rt_K) (av : List Value) (I : rt_I) (L : rt_L) (r : Nat) (Q : rt_Q) : Prop :=
  ∀ l : Launch, Met l K.1 (rt_ws K) (rt_rm d) (rt_Pc G av I L r) (rt_Qc G K Q) 0 0 (rt_A G)
/-- the locals -/
def rt_lvl (ad : Nat → Nat) (lv : rt_V) : List (Nat × Value) := (List.range lv.length).filterMap (fun i => match lv[i]? with
  | some (some v) => some (i, rt_v ad v)
  | _ => none)
def rt_lv (ad : Nat → Nat) (nL : Nat) (ls : Array Slot) (lv : rt_V) : Prop := lv.length = nL ∧ lv_has ls nL (rt_lvl ad lv)
def rt_C (G : rt_G) (K : rt_K) (p : Program) (s : State) (m : MethodId) (args : Array Value) (meth : Method) (c : Code) : Prop :=
  p.tables.exec = Jvm.exec ∧ c.code = K.2.1 ∧ meth.sig.returnType = K.2.2.2 ∧ c.maxLocals = K.2.2.1 ∧ s.vm.findClass K.1.cls = some m.cls ∧ (∀ w ∈ rt_tbl, w.before args s = true) ∧ meth.locks = false ∧ rt_KK G s ∧ rt_J G
/-- the machine at pc of the method K, with locals lv and operands st, in the picture I L r, comes to a return with Q -/
def rt_AW (G : rt_G) (d : Nat) (K : rt_K) (Q : rt_Q) (pc : Nat) (lv : rt_V) (st : List Value) (I : rt_I) (L : rt_L) (r : Nat) : Prop :=
  ∀ (l : Launch) (p : Program) (e : Env) (s : State) (m : MethodId) (args : Array Value) (below : List Frame) (meth : Method) (c : Code) (H : Heap) (locs : List Loc) (ls : Array Slot),
    rt_C G K p s m args meth c → rt_P G I L r H → va_S (rt_A G) s.heap H locs → rt_lv G.2.2.2 K.2.2.1 ls lv →
    W p l e (rt_rm d) s m args below meth c H locs 0 0 (MQ below (rt_Qc G K Q) args s 0 0 (rt_A G)) (F0 m pc ls (st.map (rt_v G.2.2.2)))
/-! small words of the weakest precondition, each with its inversion -/
def rt_ck (b : Bool) (P : Prop) : Prop := match b with
  | true => P
  | false => False
theorem rt_ck_inv {b : Bool} {P : Prop} (h : rt_ck b P) : b = true ∧ P := by
  cases b with
  | true => exact ⟨rfl, h⟩
  | false => exact h.elim
def rt_i1 (st : List Value) (P : Int32 → List Value → Prop) : Prop := match st with
  | .int x :: t => P x t
  | _ => False
theorem rt_i1_inv {st : List Value} {P : Int32 → List Value → Prop} (h : rt_i1 st P) : ∃ x t, st = .int x :: t ∧ P x t := by
  unfold rt_i1 at h
  split at h
  · exact ⟨_, _, rfl, h⟩
  · exact h.elim
def rt_l1 (st : List Value) (P : Int64 → List Value → Prop) : Prop := match st with
  | .long x :: t => P x t
  | _ => False
theorem rt_l1_inv {st : List Value} {P : Int64 → List Value → Prop} (h : rt_l1 st P) : ∃ x t, st = .long x :: t ∧ P x t := by
  unfold rt_l1 at h
  split at h
  · exact ⟨_, _, rfl, h⟩
  · exact h.elim
def rt_r1 (st : List Value) (P : Nat → List Value → Prop) : Prop := match st with
  | .ref a :: t => P a t
  | _ => False
theorem rt_r1_inv {st : List Value} {P : Nat → List Value → Prop} (h : rt_r1 st P) : ∃ x t, st = .ref x :: t ∧ P x t := by
  unfold rt_r1 at h
  split at h
  · exact ⟨_, _, rfl, h⟩
  · exact h.elim
def rt_v1 (st : List Value) (P : Value → List Value → Prop) : Prop := match st with
  | v :: t => rt_ck (v.category == 1) (P v t)
  | _ => False
theorem rt_v1_inv {st : List Value} {P : Value → List Value → Prop} (h : rt_v1 st P) : ∃ x t, st = x :: t ∧ x.category = 1 ∧ P x t := by
  unfold rt_v1 at h
  split at h
  · have := rt_ck_inv h
    exact ⟨_, _, rfl, by simpa using this.1, this.2⟩
  · exact h.elim
def rt_fnd {α : Type} (l : List (Nat × α)) (x : Nat) (P : α → Prop) : Prop := match l with
  | [] => False
  | e :: t => match Nat.beq e.1 x with
    | true => P e.2
    | false => rt_fnd t x P
theorem rt_fnd_inv {α : Type} {l : List (Nat × α)} {x : Nat} {P : α → Prop} (h : rt_fnd l x P) : ∃ a, (x, a) ∈ l ∧ P a := by
  induction l with
  | nil => exact h.elim
  | cons e t ih =>
    unfold rt_fnd at h
    split at h
    · rename_i hb
      have : e.1 = x := Nat.eq_of_beq_eq_true hb
      exact ⟨e.2, by rw [← this]; exact List.mem_cons_self, h⟩
    · obtain ⟨a, h1, h2⟩ := ih h
      exact ⟨a, List.mem_cons_of_mem _ h1, h2⟩
def rt_li (lv : rt_V) (i : Nat) (P : Int32 → Prop) : Prop := match lv[i]? with
  | some (some (.int x)) => P x
  | _ => False
theorem rt_li_inv {lv : rt_V} {i : Nat} {P : Int32 → Prop} (h : rt_li lv i P) : ∃ x, lv[i]? = some (some (.int x)) ∧ P x := by
  unfold rt_li at h
  split at h
  · exact ⟨_, by assumption, h⟩
  · exact h.elim
def rt_ll (lv : rt_V) (i : Nat) (P : Int64 → Prop) : Prop := match lv[i]? with
  | some (some (.long x)) => P x
  | _ => False
theorem rt_ll_inv {lv : rt_V} {i : Nat} {P : Int64 → Prop} (h : rt_ll lv i P) : ∃ x, lv[i]? = some (some (.long x)) ∧ P x := by
  unfold rt_ll at h
  split at h
  · exact ⟨_, by assumption, h⟩
  · exact h.elim
def rt_lr (lv : rt_V) (i : Nat) (P : Nat → Prop) : Prop := match lv[i]? with
  | some (some (.ref x)) => P x
  | _ => False
theorem rt_lr_inv {lv : rt_V} {i : Nat} {P : Nat → Prop} (h : rt_lr lv i P) : ∃ x, lv[i]? = some (some (.ref x)) ∧ P x := by
  unfold rt_lr at h
  split at h
  · exact ⟨_, by assumption, h⟩
  · exact h.elim
/-- a place of the locals that may be written: the one ahead of it holds no long -/
def rt_okS (lv : rt_V) (i : Nat) : Bool := Nat.blt i lv.length && match i with
  | 0 => true
  | j + 1 => match lv[j]? with
    | some (some v) => v.category == 1
    | _ => true
def rt_isO (c ci j : Nat) : Bool := Nat.blt c rt_NC && (Nat.beq (rt_lay c).1 (ci + 5) && Nat.blt j (rt_lay c).2)
def rt_isA (c k : Nat) : Bool := Nat.blt c rt_NC && Nat.beq (rt_lay c).1 k
def rt_popn (n : Nat) (st acc : List Value) (P : List Value → List Value → Prop) : Prop := match n with
  | 0 => P acc st
  | n + 1 => match st with
    | [] => False
    | v :: t => rt_popn n t (v :: acc) P
theorem rt_popn_inv {n : Nat} : ∀ {st acc : List Value} {P : List Value → List Value → Prop}, rt_popn n st acc P → ∃ as t, st = as.reverse ++ t ∧ as.length = n ∧ P (as ++ acc) t := by
  induction n with
  | zero => intro st acc P h; exact ⟨[], st, rfl, rfl, h⟩
  | succ n ih =>
    intro st acc P h
    cases st with
    | nil => exact h.elim
    | cons v t =>
      obtain ⟨as, u, h1, h2, h3⟩ := ih (show rt_popn n t (v :: acc) P from h)
      exact ⟨as ++ [v], u, by simp [h1], by simp [h2], by simpa using h3⟩
def rt_sm (st : List Value) : Nat := (st.map fun v => v.category).sum
theorem rt_sm_map (ad : Nat → Nat) (st : List Value) : ((st.map (rt_v ad)).map fun v => v.category).sum = rt_sm st := by
  unfold rt_sm
  rw [List.map_map]
  congr 2
  funext v
  cases v <;> rfl
def rt_pu (K : rt_K) (v : Int32) (t : List Value) : List Value := match K.2.2.2 with
  | none => t
  | some _ => .int v :: t
def rt_fo (l : List (Nat × Nat)) (x : Nat) : Option Nat := match l with
  | [] => none
  | e :: t => match Nat.beq e.1 x with
    | true => some e.2
    | false => rt_fo t x
theorem rt_fo_inv {l : List (Nat × Nat)} {x k : Nat} (h : rt_fo l x = some k) : (x, k) ∈ l := by
  induction l with
  | nil => cases h
  | cons e t ih =>
    unfold rt_fo at h
    split at h
    · rename_i hb
      have h1 : e.1 = x := Nat.eq_of_beq_eq_true hb
      have h2 : e.2 = k := Option.some.inj h
      rw [← h1, ← h2]
      exact List.mem_cons_self
    · exact List.mem_cons_of_mem _ (ih h)
def rt_max (x y : Int32) : Int32 := if x < y then y else x
def rt_min (x y : Int32) : Int32 := if y < x then y else x
def rt_abs (x : Int32) : Int32 := if 0 ≤ x then x else 0 - x
def rt_rem (x y : Int32) : Int32 := x - x / y * y
def rt_ushr (x y : Int32) : Int32 := (x.toUInt32 >>> (y.toUInt32 &&& Int32.toUInt32 31)).toInt32
def rt_lushr (x : Int64) (y : Int32) : Int64 := (x.toUInt64 >>> (y.toInt64.toUInt64 &&& Int64.toUInt64 63)).toInt64
def rt_br (c : Jvm.ClassFile.Cond) (x y : Int32) (A B : Prop) : Prop := match c with
  | .eq => (x = y → A) ∧ (¬ x = y → B)
  | .ne => (¬ x = y → A) ∧ (x = y → B)
  | .lt => (x < y → A) ∧ (¬ x < y → B)
  | .ge => (y ≤ x → A) ∧ (¬ y ≤ x → B)
  | .gt => (y < x → A) ∧ (¬ y < x → B)
  | .le => (x ≤ y → A) ∧ (¬ x ≤ y → B)
def rt_tg (pc : Nat) (off : Int) : Nat := ((pc : Int) + off).toNat
def rt_tk (pc : Nat) (off : Int) : Bool := decide (0 ≤ (pc : Int) + off)
theorem rt_tg_eq {pc : Nat} {off : Int} (h : rt_tk pc off = true) : (pc : Int) + off = (rt_tg pc off : Int) := by
  have h1 : 0 ≤ (pc : Int) + off := of_decide_eq_true h
  unfold rt_tg
  omega
def rt_sw (pc : Nat) (lo : Int) (offs : List Int) (x : Int32) (K : Nat → Prop) : Prop := match offs with
  | [] => True
  | o :: t => (x = Int32.ofInt lo → rt_ck (rt_tk pc o) (K (rt_tg pc o))) ∧ rt_sw pc (lo + 1) t x K
def rt_lsw (pc : Nat) (ps : List (Int × Int)) (dflt : Int) (x : Int32) (K : Nat → Prop) : Prop := match ps with
  | [] => rt_ck (rt_tk pc dflt) (K (rt_tg pc dflt))
  | q :: t => (x = Int32.ofInt q.1 → rt_ck (rt_tk pc q.2) (K (rt_tg pc q.2))) ∧ (¬ x = Int32.ofInt q.1 → rt_lsw pc t dflt x K)
def rt_ic (v : Int) : Int32 := match v with
  | .ofNat n => Int32.ofNat n
  | .negSucc n => -(Int32.ofNat (n + 1))
theorem rt_ic_eq (v : Int) : rt_ic v = Int32.ofInt v := by
  cases v with
  | ofNat n => exact Int32.ofInt_eq_ofNat.symm
  | negSucc n => exact Int32.neg_ofNat (n := n + 1)
def rt_in8 (v : Int) : Bool := decide (-128 ≤ v) && decide (v ≤ 127)
def rt_in16 (v : Int) : Bool := decide (-32768 ≤ v) && decide (v ≤ 32767)
theorem rt_ic8 {v : Int} (h : rt_in8 v = true) : (Int8.ofInt v).toInt32 = rt_ic v := by
  unfold rt_in8 at h
  simp only [Bool.and_eq_true, decide_eq_true_eq] at h
  rw [rt_ic_eq]
  exact Int8.toInt32_ofInt (show (-128 : Int) ≤ v from h.1) (show v ≤ (127 : Int) from h.2)
theorem rt_ic16 {v : Int} (h : rt_in16 v = true) : (Int16.ofInt v).toInt32 = rt_ic v := by
  unfold rt_in16 at h
  simp only [Bool.and_eq_true, decide_eq_true_eq] at h
  rw [rt_ic_eq]
  exact Int16.toInt32_ofInt (show (-32768 : Int) ≤ v from h.1) (show v ≤ (32767 : Int) from h.2)
/-- the weakest precondition of one instruction -/
def rt_wp1 (G : rt_G) (d : Nat) (z : rt_Z) (ret : Option FieldType) (Q : rt_Q) (i : Instr) (n pc : Nat) (lv : rt_V) (st : List Value) (I : rt_I) (L : rt_L) (r : Nat)
    (k : Nat → rt_V → List Value → rt_I → rt_L → Nat → Prop) : Prop := match i with
  | .iconst v => rt_ck (Nat.beq n 1) (k (pc + 1) lv (.int (rt_ic v) :: st) I L r)
  | .bipush v => rt_ck (Nat.beq n 2 && rt_in8 v) (k (pc + 2) lv (.int (rt_ic v) :: st) I L r)
  | .sipush v => rt_ck (Nat.beq n 3 && rt_in16 v) (k (pc + 3) lv (.int (rt_ic v) :: st) I L r)
  | .lconst v => rt_ck (Nat.beq n 1) (k (pc + 1) lv (.long (Int64.ofNat (v : Nat)) :: st) I L r)
  | .ldc x => rt_ck (Nat.beq n 2) (rt_fnd z.2.2.1 x (fun v => k (pc + 2) lv (.int v :: st) I L r))
  | .ldc_w x => rt_ck (Nat.beq n 3) (rt_fnd z.2.2.1 x (fun v => k (pc + 3) lv (.int v :: st) I L r))
  | .ldc2_w x => rt_ck (Nat.beq n 3) (rt_fnd z.2.2.2.1 x (fun v => k (pc + 3) lv (.long v :: st) I L r))
  | .iload i => rt_ck (Nat.beq n 2) (rt_li lv i (fun x => k (pc + 2) lv (.int x :: st) I L r))
  | .iload_n i => rt_ck (Nat.beq n 1) (rt_li lv i.val (fun x => k (pc + 1) lv (.int x :: st) I L r))
  | .lload i => rt_ck (Nat.beq n 2) (rt_ll lv i (fun x => k (pc + 2) lv (.long x :: st) I L r))
  | .lload_n i => rt_ck (Nat.beq n 1) (rt_ll lv i.val (fun x => k (pc + 1) lv (.long x :: st) I L r))
  | .aload i => rt_ck (Nat.beq n 2) (rt_lr lv i (fun x => k (pc + 2) lv (.ref x :: st) I L r))
  | .aload_n i => rt_ck (Nat.beq n 1) (rt_lr lv i.val (fun x => k (pc + 1) lv (.ref x :: st) I L r))
  | .istore i => rt_ck (Nat.beq n 2 && rt_okS lv i) (rt_i1 st (fun x t => k (pc + 2) (lv.set i (some (.int x))) t I L r))
  | .istore_n i => rt_ck (Nat.beq n 1 && rt_okS lv i.val) (rt_i1 st (fun x t => k (pc + 1) (lv.set i.val (some (.int x))) t I L r))
  | .astore i => rt_ck (Nat.beq n 2 && rt_okS lv i) (rt_r1 st (fun x t => k (pc + 2) (lv.set i (some (.ref x))) t I L r))
  | .astore_n i => rt_ck (Nat.beq n 1 && rt_okS lv i.val) (rt_r1 st (fun x t => k (pc + 1) (lv.set i.val (some (.ref x))) t I L r))
  | .lstore i => rt_ck (Nat.beq n 2 && (rt_okS lv i && Nat.blt (i + 1) lv.length)) (rt_l1 st (fun x t => k (pc + 2) ((lv.set i (some (.long x))).set (i + 1) none) t I L r))
  | .lstore_n i => rt_ck (Nat.beq n 1 && (rt_okS lv i.val && Nat.blt (i.val + 1) lv.length)) (rt_l1 st (fun x t => k (pc + 1) ((lv.set i.val (some (.long x))).set (i.val + 1) none) t I L r))
  | .iinc i v => rt_ck (Nat.beq n 3 && rt_okS lv i) (rt_li lv i (fun x => k (pc + 3) (lv.set i (some (.int (x + rt_ic v)))) st I L r))
  | .iadd => rt_ck (Nat.beq n 1) (rt_i1 st (fun y t => rt_i1 t (fun x t => k (pc + 1) lv (.int (x + y) :: t) I L r)))
  | .isub => rt_ck (Nat.beq n 1) (rt_i1 st (fun y t => rt_i1 t (fun x t => k (pc + 1) lv (.int (x - y) :: t) I L r)))
  | .imul => rt_ck (Nat.beq n 1) (rt_i1 st (fun y t => rt_i1 t (fun x t => k (pc + 1) lv (.int (x * y) :: t) I L r)))
  | .idiv => rt_ck (Nat.beq n 1) (rt_i1 st (fun y t => rt_i1 t (fun x t => (¬ y = 0) ∧ k (pc + 1) lv (.int (x / y) :: t) I L r)))
  | .irem => rt_ck (Nat.beq n 1) (rt_i1 st (fun y t => rt_i1 t (fun x t => (¬ y = 0) ∧ k (pc + 1) lv (.int (rt_rem x y) :: t) I L r)))
  | .iand => rt_ck (Nat.beq n 1) (rt_i1 st (fun y t => rt_i1 t (fun x t => k (pc + 1) lv (.int (x &&& y) :: t) I L r)))
  | .ior => rt_ck (Nat.beq n 1) (rt_i1 st (fun y t => rt_i1 t (fun x t => k (pc + 1) lv (.int (x ||| y) :: t) I L r)))
  | .ixor => rt_ck (Nat.beq n 1) (rt_i1 st (fun y t => rt_i1 t (fun x t => k (pc + 1) lv (.int (x ^^^ y) :: t) I L r)))
  | .ishl => rt_ck (Nat.beq n 1) (rt_i1 st (fun y t => rt_i1 t (fun x t => k (pc + 1) lv (.int (x <<< (y &&& 31)) :: t) I L r)))
  | .ishr => rt_ck (Nat.beq n 1) (rt_i1 st (fun y t => rt_i1 t (fun x t => k (pc + 1) lv (.int (x >>> (y &&& 31)) :: t) I L r)))
  | .iushr => rt_ck (Nat.beq n 1) (rt_i1 st (fun y t => rt_i1 t (fun x t => k (pc + 1) lv (.int (rt_ushr x y) :: t) I L r)))
  | .ineg => rt_ck (Nat.beq n 1) (rt_i1 st (fun x t => k (pc + 1) lv (.int (-x) :: t) I L r))
  | .ladd => rt_ck (Nat.beq n 1) (rt_l1 st (fun y t => rt_l1 t (fun x t => k (pc + 1) lv (.long (x + y) :: t) I L r)))
  | .lsub => rt_ck (Nat.beq n 1) (rt_l1 st (fun y t => rt_l1 t (fun x t => k (pc + 1) lv (.long (x - y) :: t) I L r)))
  | .lmul => rt_ck (Nat.beq n 1) (rt_l1 st (fun y t => rt_l1 t (fun x t => k (pc + 1) lv (.long (x * y) :: t) I L r)))
  | .land => rt_ck (Nat.beq n 1) (rt_l1 st (fun y t => rt_l1 t (fun x t => k (pc + 1) lv (.long (x &&& y) :: t) I L r)))
  | .lor => rt_ck (Nat.beq n 1) (rt_l1 st (fun y t => rt_l1 t (fun x t => k (pc + 1) lv (.long (x ||| y) :: t) I L r)))
  | .lcmp => rt_ck (Nat.beq n 1) (rt_l1 st (fun y t => rt_l1 t (fun x t => k (pc + 1) lv (.int (lg_cmp x y) :: t) I L r)))
  | .lshl => rt_ck (Nat.beq n 1) (rt_i1 st (fun y t => rt_l1 t (fun x t => k (pc + 1) lv (.long (x <<< (y.toInt64 &&& 63)) :: t) I L r)))
  | .lushr => rt_ck (Nat.beq n 1) (rt_i1 st (fun y t => rt_l1 t (fun x t => k (pc + 1) lv (.long (rt_lushr x y) :: t) I L r)))
  | .i2l => rt_ck (Nat.beq n 1) (rt_i1 st (fun x t => k (pc + 1) lv (.long x.toInt64 :: t) I L r))
  | .l2i => rt_ck (Nat.beq n 1) (rt_l1 st (fun x t => k (pc + 1) lv (.int x.toInt32 :: t) I L r))
  | .i2b => rt_ck (Nat.beq n 1) (rt_i1 st (fun x t => k (pc + 1) lv (.int x.toInt8.toInt32 :: t) I L r))
  | .i2s => rt_ck (Nat.beq n 1) (rt_i1 st (fun x t => k (pc + 1) lv (.int x.toInt16.toInt32 :: t) I L r))
  | .i2c => rt_ck (Nat.beq n 1) (rt_i1 st (fun x t => k (pc + 1) lv (.int (x.toUInt32 % 65536).toInt32 :: t) I L r))
  | .dup => rt_ck (Nat.beq n 1) (rt_v1 st (fun v t => k (pc + 1) lv (v :: v :: t) I L r))
  | .pop => rt_ck (Nat.beq n 1) (rt_v1 st (fun _ t => k (pc + 1) lv t I L r))
  | .dup_x1 => rt_ck (Nat.beq n 1) (rt_v1 st (fun v t => rt_v1 t (fun w t => k (pc + 1) lv (v :: w :: v :: t) I L r)))
  | .dup2 => rt_ck (Nat.beq n 1) (rt_v1 st (fun v t => rt_v1 t (fun w t => k (pc + 1) lv (v :: w :: v :: w :: t) I L r)))
  | .getfield x => rt_ck (Nat.beq n 3) (rt_fnd z.1 x (fun e => rt_r1 st (fun c t => rt_ck (rt_isO c e.1 e.2.1) (k (pc + 3) lv (rt_gv I r e.1 c e.2.1 :: t) I L r))))
  | .putfield x => rt_ck (Nat.beq n 3) (rt_fnd z.1 x (fun e => match e.2.2 with
    | 0 => rt_i1 st (fun v t => rt_r1 t (fun c t => rt_ck (rt_isO c e.1 e.2.1) (k (pc + 3) lv t (rt_u I c e.2.1 v) L r)))
    | 1 => rt_i1 st (fun v t => rt_r1 t (fun c t => rt_ck (rt_isO c e.1 e.2.1) ((v = 0 ∨ v = 1) ∧ k (pc + 3) lv t (rt_u I c e.2.1 v) L r)))
    | 3 => rt_r1 st (fun b t => rt_r1 t (fun c t => rt_ck (Nat.beq c 108) (k (pc + 3) lv t I L b)))
    | _ => False))
  | .iaload => rt_ck (Nat.beq n 1) (rt_i1 st (fun j t => rt_r1 t (fun c t => rt_ck (rt_isA c 0) (vp_in j (rt_lay c).2 ∧ k (pc + 1) lv (.int (I c j.toNatClampNeg) :: t) I L r))))
  | .baload => rt_ck (Nat.beq n 1) (rt_i1 st (fun j t => rt_r1 t (fun c t => rt_ck (rt_isA c 1 || rt_isA c 2) (vp_in j (rt_lay c).2 ∧ k (pc + 1) lv (.int (I c j.toNatClampNeg) :: t) I L r))))
  | .laload => rt_ck (Nat.beq n 1) (rt_i1 st (fun j t => rt_r1 t (fun c t => rt_ck (rt_isA c 3) (vp_in j (rt_lay c).2 ∧ k (pc + 1) lv (.long (L c j.toNatClampNeg) :: t) I L r))))
  | .aaload => rt_ck (Nat.beq n 1) (rt_i1 st (fun j t => rt_r1 t (fun c t => rt_ck (rt_isA c 4) (vp_in j (rt_lay c).2 ∧ ∃ b, rt_pt r c j.toNatClampNeg = some b ∧ k (pc + 1) lv (.ref b :: t) I L r))))
  | .iastore => rt_ck (Nat.beq n 1) (rt_i1 st (fun v t => rt_i1 t (fun j t => rt_r1 t (fun c t => rt_ck (rt_isA c 0) (vp_in j (rt_lay c).2 ∧ k (pc + 1) lv t (rt_u I c j.toNatClampNeg v) L r)))))
  | .bastore => rt_ck (Nat.beq n 1) (rt_i1 st (fun v t => rt_i1 t (fun j t => rt_r1 t (fun c t => rt_ck (rt_isA c 1 || rt_isA c 2) (vp_in j (rt_lay c).2 ∧ k (pc + 1) lv t (rt_u I c j.toNatClampNeg (match rt_isA c 1 with | true => vp_nar .byte v | false => vp_nar .boolean v)) L r)))))
  | .lastore => rt_ck (Nat.beq n 1) (rt_l1 st (fun v t => rt_i1 t (fun j t => rt_r1 t (fun c t => rt_ck (rt_isA c 3) (vp_in j (rt_lay c).2 ∧ k (pc + 1) lv t I (rt_uL L c j.toNatClampNeg v) r)))))
  | .arraylength => rt_ck (Nat.beq n 1) (rt_r1 st (fun c t => rt_ck (Nat.blt c rt_NC && Nat.blt (rt_lay c).1 5) (k (pc + 1) lv (.int (Int32.ofNat (rt_lay c).2) :: t) I L r)))
  | .goto off => rt_ck (Nat.beq n 3 && rt_tk pc off) (k (rt_tg pc off) lv st I L r)
  | .ifCond c off => rt_ck (Nat.beq n 3 && rt_tk pc off) (rt_i1 st (fun x t => rt_br c x 0 (k (rt_tg pc off) lv t I L r) (k (pc + 3) lv t I L r)))
  | .if_icmp c off => rt_ck (Nat.beq n 3 && rt_tk pc off) (rt_i1 st (fun y t => rt_i1 t (fun x t => rt_br c x y (k (rt_tg pc off) lv t I L r) (k (pc + 3) lv t I L r))))
  | .tableswitch dflt lo hi offs => rt_ck (rt_tk pc dflt && decide (lo + (offs.toList.length : Int) = hi + 1)) (rt_i1 st (fun x t => (x.toInt < lo ∨ hi < x.toInt → k (rt_tg pc dflt) lv t I L r) ∧ rt_sw pc lo offs.toList x (fun tg => k tg lv t I L r)))
  | .lookupswitch dflt ps => rt_ck (((ps.toList.zip (ps.toList.drop 1)).all (fun (a, next) => a.1 < next.1)) && ps.toList.all (fun q => decide ((Int32.ofInt q.1).toInt = q.1))) (rt_i1 st (fun x t => rt_lsw pc ps.toList dflt x (fun tg => k tg lv t I L r)))
  | .invokevirtual x => rt_ck (Nat.beq n 3) (match d with
    | 0 => False
    | d + 1 => rt_fnd z.2.1 x (fun e => rt_popn e.2.1 st [] (fun as t => rt_r1 t (fun b t => match e.2.2 with
      | none => False
      | some ci => rt_isO b ci 0 = true ∧ rt_ck (Nat.ble (rt_sm t) 8) (rt_Call G d e.1 (.ref b :: as) I L r (fun v I L r => k (pc + 3) lv (rt_pu e.1 v t) I L r))))))
  | .invokestatic x => rt_ck (Nat.beq n 3) (match d with
    | 0 => False
    | d + 1 => match rt_fo z.2.2.2.2 x with
      | some 0 => rt_i1 st (fun cn t => rt_i1 t (fun dp t => rt_r1 t (fun b t => rt_i1 t (fun sp t => rt_r1 t (fun a t => rt_ck (rt_isA a 0 && (rt_isA b 0 && Nat.ble (rt_sm t) 8))
          ((¬ sp < 0 ∧ ¬ dp < 0 ∧ ¬ cn < 0 ∧ sp.toNatClampNeg + cn.toNatClampNeg ≤ (rt_lay a).2 ∧ dp.toNatClampNeg + cn.toNatClampNeg ≤ (rt_lay b).2) ∧ k (pc + 3) lv t (rt_uA I b (va_cpy (I a) (I b) sp.toNatClampNeg dp.toNatClampNeg cn.toNatClampNeg)) L r))))))
      | some 1 => rt_i1 st (fun y t => rt_i1 t (fun x t => rt_ck (Nat.ble (rt_sm t) 8) (k (pc + 3) lv (.int (rt_max x y) :: t) I L r)))
      | some 2 => rt_i1 st (fun y t => rt_i1 t (fun x t => rt_ck (Nat.ble (rt_sm t) 8) (k (pc + 3) lv (.int (rt_min x y) :: t) I L r)))
      | some 3 => rt_i1 st (fun x t => rt_ck (Nat.ble (rt_sm t) 8) (k (pc + 3) lv (.int (rt_abs x) :: t) I L r))
      | some _ => False
      | none => rt_fnd z.2.1 x (fun e => rt_popn e.2.1 st [] (fun as t => match e.2.2 with
        | some _ => False
        | none => rt_ck (Nat.ble (rt_sm t) 8) (rt_Call G d e.1 as I L r (fun v I L r => k (pc + 3) lv (rt_pu e.1 v t) I L r)))))
  | .ireturn => rt_ck (Nat.beq n 1) (match st with
    | [.int v] => match ret with
      | some .int => Q v I L r
      | some .boolean => (v = 0 ∨ v = 1) ∧ Q v I L r
      | _ => False
    | _ => False)
  | .return_ => rt_ck (Nat.beq n 1) (match st with
    | [] => match ret with
      | none => Q 0 I L r
      | _ => False
    | _ => False)
  | _ => False
def rt_wp (G : rt_G) (d : Nat) (z : rt_Z) (ret : Option FieldType) (Q : rt_Q) (k : Nat → rt_V → List Value → rt_I → rt_L → Nat → Prop) (is : List (Instr × Nat)) (pc : Nat) (lv : rt_V) (st : List Value) (I : rt_I) (L : rt_L) (r : Nat) : Prop := match is with
  | [] => k pc lv st I L r
  | q :: t => rt_wp1 G d z ret Q q.1 q.2 pc lv st I L r (fun pc' lv' st' I' L' r' => match Nat.beq pc' (pc + q.2) with
    | true => rt_wp G d z ret Q k t pc' lv' st' I' L' r'
    | false => k pc' lv' st' I' L' r')
def rt_dec (cc : ByteArray) (pc : Nat) (is : List (Instr × Nat)) : Prop := match is with
  | [] => True
  | q :: t => decode cc pc = .ok (q.1, q.2) ∧ rt_dec cc (pc + q.2) t
def rt_decB (cc : ByteArray) (pc : Nat) (is : List (Instr × Nat)) : Bool := match is with
  | [] => true
  | q :: t => decide (decode cc pc = .ok (q.1, q.2)) && rt_decB cc (pc + q.2) t
theorem rt_dec_of {cc : ByteArray} : ∀ {is : List (Instr × Nat)} {pc : Nat}, rt_decB cc pc is = true → rt_dec cc pc is
  | [], _, _ => trivial
  | q :: t, pc, h => by
    have h1 := Bool.and_eq_true_iff.mp (show (decide (decode cc pc = .ok (q.1, q.2)) && rt_decB cc (pc + q.2) t) = true from h)
    exact ⟨of_decide_eq_true h1.1, rt_dec_of h1.2⟩
end
section
/-! the picture's lists -/
theorem rt_W_at {G : rt_G} {I : rt_I} {L : rt_L} {r c : Nat} (h : c < rt_NC) : (rt_W G I L r)[c]? = some (G.2.2.2 c, rt_en G.2.2.2 G.2.2.1 I L r c) := by
  unfold rt_W
  rw [List.getElem?_map, List.getElem?_range h]
  rfl
theorem rt_W_set {G : rt_G} {I I' : rt_I} {L L' : rt_L} {r r' c : Nat} {e : va_E} (h : c < rt_NC) (he : rt_en G.2.2.2 G.2.2.1 I' L' r' c = e) (ho : ∀ x, x < rt_NC → x ≠ c → rt_en G.2.2.2 G.2.2.1 I' L' r' x = rt_en G.2.2.2 G.2.2.1 I L r x) :
    (rt_W G I L r).set c (G.2.2.2 c, e) = rt_W G I' L' r' := by
  apply List.ext_getElem?
  intro k
  have hl : (rt_W G I L r).length = rt_NC := by simp [rt_W]
  by_cases hk : k < rt_NC
  · by_cases hc : k = c
    · subst hc
      rw [List.getElem?_set_self (by rw [hl]; exact h), rt_W_at h, he]
    · rw [List.getElem?_set_ne (Ne.symm hc), rt_W_at hk, rt_W_at hk, ho k hk hc]
  · rw [List.getElem?_eq_none (by rw [List.length_set, hl]; omega), List.getElem?_eq_none (by simp [rt_W]; omega)]
theorem rt_D {G : rt_G} {I : rt_I} {L : rt_L} {r : Nat} (h : rt_J G) : va_D (rt_A G) (rt_W G I L r) := by
  have key : ∀ (k : Nat) (q : Nat × va_E), (rt_W G I L r)[k]? = some q → k < rt_NC ∧ G.2.2.2 k = q.1 := by
    intro k q hq
    have hk : k < rt_NC := by
      have := (List.getElem?_eq_some_iff.mp hq).1
      simpa [rt_W] using this
    rw [rt_W_at hk] at hq
    cases hq
    exact ⟨hk, rfl⟩
  refine ⟨fun i j p q hi hj hpq => ?_, fun k q hq => ?_⟩
  · obtain ⟨a1, a2⟩ := key i p hi
    obtain ⟨b1, b2⟩ := key j q hj
    exact h i j a1 b1 (by rw [a2, b2, hpq])
  · obtain ⟨a1, a2⟩ := key k q hq
    exact ⟨k, a1, a2⟩
theorem rt_isO_inv {c ci j : Nat} (h : rt_isO c ci j = true) : c < rt_NC ∧ (rt_lay c).1 = ci + 5 ∧ j < (rt_lay c).2 := by
  unfold rt_isO at h
  rw [Bool.and_eq_true, Bool.and_eq_true] at h
  exact ⟨Nat.le_of_ble_eq_true h.1, Nat.eq_of_beq_eq_true h.2.1, Nat.le_of_ble_eq_true h.2.2⟩
theorem rt_isA_inv {c k : Nat} (h : rt_isA c k = true) : c < rt_NC ∧ (rt_lay c).1 = k := by
  unfold rt_isA at h
  rw [Bool.and_eq_true] at h
  exact ⟨Nat.le_of_ble_eq_true h.1, Nat.eq_of_beq_eq_true h.2⟩
theorem rt_en_o {ad : Nat → Nat} {cA : Nat → ClassId} {I : rt_I} {L : rt_L} {r c ci : Nat} (h : (rt_lay c).1 = ci + 5) : rt_en ad cA I L r c = .inr (ci, (List.range (rt_lay c).2).map (rt_fv ad I r ci c)) := by
  unfold rt_en
  generalize hq : rt_lay c = q at h
  obtain ⟨a, n⟩ := q
  dsimp only at h
  subst h
  rfl
theorem rt_en_i {ad : Nat → Nat} {cA : Nat → ClassId} {I : rt_I} {L : rt_L} {r c : Nat} (h : (rt_lay c).1 = 0) : rt_en ad cA I L r c = .inl (cA 0, (rt_lay c).2, .inl (I c)) := by
  unfold rt_en
  generalize hq : rt_lay c = q at h
  obtain ⟨a, n⟩ := q
  dsimp only at h
  subst h
  rfl
theorem rt_en_b {ad : Nat → Nat} {cA : Nat → ClassId} {I : rt_I} {L : rt_L} {r c : Nat} (h : (rt_lay c).1 = 1) : rt_en ad cA I L r c = .inl (cA 1, (rt_lay c).2, .inl (I c)) := by
  unfold rt_en
  generalize hq : rt_lay c = q at h
  obtain ⟨a, n⟩ := q
  dsimp only at h
  subst h
  rfl
theorem rt_en_z {ad : Nat → Nat} {cA : Nat → ClassId} {I : rt_I} {L : rt_L} {r c : Nat} (h : (rt_lay c).1 = 2) : rt_en ad cA I L r c = .inl (cA 2, (rt_lay c).2, .inl (I c)) := by
  unfold rt_en
  generalize hq : rt_lay c = q at h
  obtain ⟨a, n⟩ := q
  dsimp only at h
  subst h
  rfl
theorem rt_en_l {ad : Nat → Nat} {cA : Nat → ClassId} {I : rt_I} {L : rt_L} {r c : Nat} (h : (rt_lay c).1 = 3) : rt_en ad cA I L r c = .inl (cA 3, (rt_lay c).2, .inr (.inl (L c))) := by
  unfold rt_en
  generalize hq : rt_lay c = q at h
  obtain ⟨a, n⟩ := q
  dsimp only at h
  subst h
  rfl
theorem rt_en_q {ad : Nat → Nat} {cA : Nat → ClassId} {I : rt_I} {L : rt_L} {r c : Nat} (h : (rt_lay c).1 = 4) : rt_en ad cA I L r c = .inl (cA 4, (rt_lay c).2, .inr (.inr (.inr (.inr (fun j => (rt_pt r c j).map ad))))) := by
  unfold rt_en
  generalize hq : rt_lay c = q at h
  obtain ⟨a, n⟩ := q
  dsimp only at h
  subst h
  rfl
theorem rt_en_ne {ad : Nat → Nat} {cA : Nat → ClassId} {I I' : rt_I} {L : rt_L} {r c : Nat} (h : I' c = I c) : rt_en ad cA I' L r c = rt_en ad cA I L r c := by
  unfold rt_en
  simp only [h]
  have : rt_fv ad I' r = fun ci c' j => rt_fv ad I' r ci c' j := rfl
  split <;> try rfl
  congr 2
  apply List.map_congr_left
  intro j _
  simp [rt_fv, h]
theorem rt_en_neL {ad : Nat → Nat} {cA : Nat → ClassId} {I : rt_I} {L L' : rt_L} {r c : Nat} (h : L' c = L c) : rt_en ad cA I L' r c = rt_en ad cA I L r c := by
  unfold rt_en
  simp only [h]
theorem rt_u_ne {I : rt_I} {c j x : Nat} {v : Int32} (h : x ≠ c) : rt_u I c j v x = I x := by simp [rt_u, h]
theorem rt_u_eq {I : rt_I} {c j : Nat} {v : Int32} : rt_u I c j v c = upd (I c) j v := by simp [rt_u]
theorem rt_uL_ne {I : rt_L} {c j x : Nat} {v : Int64} (h : x ≠ c) : rt_uL I c j v x = I x := by simp [rt_uL, h]
theorem rt_uL_eq {I : rt_L} {c j : Nat} {v : Int64} : rt_uL I c j v c = vp_updL (I c) j v := by simp [rt_uL]
theorem rt_uA_ne {I : rt_I} {c x : Nat} {f : Nat → Int32} (h : x ≠ c) : rt_uA I c f x = I x := by simp [rt_uA, h]
theorem rt_uA_eq {I : rt_I} {c : Nat} {f : Nat → Int32} : rt_uA I c f c = f := by simp [rt_uA]
theorem rt_gv_v {ad : Nat → Nat} {I : rt_I} {r ci c j : Nat} : rt_v ad (rt_gv I r ci c j) = rt_fv ad I r ci c j := by
  unfold rt_gv rt_fv
  cases rt_isR ci j with
  | false => rfl
  | true =>
    cases rt_pt r c j with
    | none => rfl
    | some b => rfl
/-! the locals -/
theorem rt_lvl_mem {ad : Nat → Nat} {lv : rt_V} {i : Nat} {w : Value} : (i, w) ∈ rt_lvl ad lv ↔ ∃ v, lv[i]? = some (some v) ∧ w = rt_v ad v := by
  unfold rt_lvl
  rw [List.mem_filterMap]
  constructor
  · rintro ⟨k, hk, h⟩
    split at h
    · rename_i v hv
      cases h
      exact ⟨v, hv, rfl⟩
    · cases h
  · rintro ⟨v, hv, rfl⟩
    refine ⟨i, List.mem_range.mpr (List.getElem?_eq_some_iff.mp hv).1, ?_⟩
    rw [hv]
theorem rt_lv_at {ad : Nat → Nat} {nL : Nat} {ls : Array Slot} {lv : rt_V} {i : Nat} {v : Value} (h : rt_lv ad nL ls lv) (hv : lv[i]? = some (some v)) : ls[i]? = some (.val (rt_v ad v)) :=
  h.2.2.2 (i, rt_v ad v) (rt_lvl_mem.mpr ⟨v, hv, rfl⟩)
theorem rt_v_cat (ad : Nat → Nat) (v : Value) : (rt_v ad v).category = v.category := by cases v <;> rfl
theorem rt_okS_inv {lv : rt_V} {i : Nat} (h : rt_okS lv i = true) : i < lv.length ∧ ∀ j v, j + 1 = i → lv[j]? = some (some v) → v.category = 1 := by
  unfold rt_okS at h
  rw [Bool.and_eq_true] at h
  refine ⟨Nat.le_of_ble_eq_true h.1, fun j v hj hv => ?_⟩
  subst hj
  have h2 := h.2
  simp only [hv] at h2
  simpa using h2
theorem rt_lv_set {ad : Nat → Nat} {nL : Nat} {ls' : Array Slot} {lv : rt_V} {i : Nat} {v : Value} (hlen : lv.length = nL) (ho : rt_okS lv i = true) (h : lv_has ls' nL ((i, rt_v ad v) :: (rt_lvl ad lv).filter (fun q => !(q.1 == i) && !(q.1 + 1 == i && q.2.category == 2)))) : rt_lv ad nL ls' (lv.set i (some v)) := by
  obtain ⟨hi, hb⟩ := rt_okS_inv ho
  refine ⟨by rw [List.length_set]; exact hlen, h.1, h.2.1, fun q hq => h.2.2 q ?_⟩
  obtain ⟨j, w⟩ := q
  obtain ⟨u, hu, rfl⟩ := rt_lvl_mem.mp hq
  by_cases hj : j = i
  · subst hj
    rw [List.getElem?_set_self hi] at hu
    cases hu
    exact List.mem_cons_self
  · rw [List.getElem?_set_ne (Ne.symm hj)] at hu
    refine List.mem_cons_of_mem _ (List.mem_filter.mpr ⟨rt_lvl_mem.mpr ⟨u, hu, rfl⟩, ?_⟩)
    by_cases hj1 : j + 1 = i
    · have := hb j u hj1 hu
      simp [hj, rt_v_cat, this]
    · simp [hj, hj1]
theorem rt_lv_set2 {ad : Nat → Nat} {nL : Nat} {ls' : Array Slot} {lv : rt_V} {i : Nat} {v : Value} (hlen : lv.length = nL) (ho : rt_okS lv i = true) (h : lv_has ls' nL ((i, rt_v ad v) :: (rt_lvl ad lv).filter (fun q => !(q.1 == i) && (!(q.1 == i + 1) && !(q.1 + 1 == i && q.2.category == 2))))) : rt_lv ad nL ls' ((lv.set i (some v)).set (i + 1) none) := by
  obtain ⟨hi, hb⟩ := rt_okS_inv ho
  refine ⟨by rw [List.length_set, List.length_set]; exact hlen, h.1, h.2.1, fun q hq => h.2.2 q ?_⟩
  obtain ⟨j, w⟩ := q
  obtain ⟨u, hu, rfl⟩ := rt_lvl_mem.mp hq
  by_cases hj2 : j = i + 1
  · subst hj2
    rw [List.getElem?_set] at hu
    simp at hu
  · rw [List.getElem?_set_ne (Ne.symm hj2)] at hu
    by_cases hj : j = i
    · subst hj
      rw [List.getElem?_set_self hi] at hu
      cases hu
      exact List.mem_cons_self
    · rw [List.getElem?_set_ne (Ne.symm hj)] at hu
      refine List.mem_cons_of_mem _ (List.mem_filter.mpr ⟨rt_lvl_mem.mpr ⟨u, hu, rfl⟩, ?_⟩)
      by_cases hj1 : j + 1 = i
      · have := hb j u hj1 hu
        simp [hj, hj2, rt_v_cat, this]
      · simp [hj, hj2, hj1]
/-! words -/
theorem rt_goodIn {K : rt_K} (h : Cond.code K.1 K.2.1 K.2.2.1 K.2.2.2 ∈ rt_tbl) : GoodIn rt_tbl (rt_ws K) := by
  intro w hw
  rcases List.mem_cons.mp hw with rfl | hw
  · exact ⟨h, good_of_word (rt_good _ h)⟩
  · exact ⟨hw, good_of_word (rt_good _ hw)⟩
theorem rt_K_moved {G : rt_G} {u U : State} (hvm : u.vm.Alike U.vm) (h : rt_KK G u) : rt_KK G U := va_K.moved hvm h
theorem rt_cls (ci : Nat) (q : vw_C) (h : vwCl[ci]? = some q) : (∀ w ∈ u_ws q.1 q.2.1 q.2.2, w ∈ rt_tbl) ∧ ∃ ty : Nat → FieldType, (∀ k, k < q.2.2 → parseFieldDescriptor (q.2.1 k).2.2.1 = some (ty k)) ∧ ∀ a, a < q.2.2 → ∀ b, b < q.2.2 → a ≠ b → (q.2.1 a).2.1 ≠ (q.2.1 b).2.1 := by
  match ci, h with
  | 0, h => cases h; exact ⟨rt_uX0, tyX0, tyX0_ok, nmX0⟩
  | 1, h => cases h; exact ⟨rt_uX1, tyX1, tyX1_ok, nmX1⟩
  | 2, h => cases h; exact ⟨rt_uX2, tyX2, tyX2_ok, nmX2⟩
  | 3, h => cases h; exact ⟨rt_uX3, tyX3, tyX3_ok, nmX3⟩
  | 4, h => cases h; exact ⟨rt_uX4, tyX4, tyX4_ok, nmX4⟩
  | 5, h => cases h; exact ⟨rt_uX5, tyX5, tyX5_ok, nmX5⟩
  | 6, h => cases h; exact ⟨rt_uX6, tyX6, tyX6_ok, nmX6⟩
  | 7, h => cases h; exact ⟨rt_uX7, tyX7, tyX7_ok, nmX7⟩
  | 8, h => cases h; exact ⟨rt_uX8, tyX8, tyX8_ok, nmX8⟩
  | 9, h => cases h; exact ⟨rt_uX9, tyX9, tyX9_ok, nmX9⟩
  | 10, h => cases h; exact ⟨rt_uX10, tyX10, tyX10_ok, nmX10⟩
  | 11, h => cases h; exact ⟨rt_uX11, tyX11, tyX11_ok, nmX11⟩
  | 12, h => cases h; exact ⟨rt_uX12, tyX12, tyX12_ok, nmX12⟩
  | k + 13, h => simp at h
/-- a method is entered -/
def rt_en0 (av : List Value) : rt_V := av.flatMap fun v => if v.category = 2 then [some v, none] else [some v]
def rt_ent (av : List Value) (nL : Nat) : rt_V := rt_en0 av ++ List.replicate (nL - (rt_en0 av).length) none
theorem rt_ent_len (ad : Nat → Nat) (av : List Value) : (lg_sl (av.map (rt_v ad))).length = (rt_en0 av).length := by
  induction av with
  | nil => rfl
  | cons v t ih =>
    simp only [List.map_cons, lg_sl, rt_en0, List.flatMap_cons, List.length_append, rt_v_cat] at ih ⊢
    rw [ih]
    by_cases h : v.category = 2 <;> simp [h]
theorem rt_ent_at (ad : Nat → Nat) (av : List Value) : ∀ (j : Nat) (v : Value), (rt_en0 av)[j]? = some (some v) → (lg_sl (av.map (rt_v ad)))[j]? = some (.val (rt_v ad v)) := by
  induction av with
  | nil => intro j v h; simp [rt_en0] at h
  | cons u t ih =>
    intro j v h
    simp only [List.map_cons, lg_sl, rt_en0, List.flatMap_cons, rt_v_cat] at ih h ⊢
    by_cases hu : u.category = 2
    · simp only [hu, if_true] at h ⊢
      match j with
      | 0 => simp at h; simp [h]
      | 1 => simp at h
      | j + 2 => simpa using ih j v (by simpa using h)
    · simp only [hu, if_false] at h ⊢
      match j with
      | 0 => simp at h; simp [h]
      | j + 1 => simpa using ih j v (by simpa using h)
theorem rt_enter {G : rt_G} {d : Nat} {K : rt_K} {Q : rt_Q} {av : List Value} {I : rt_I} {L : rt_L} {r : Nat} (hy : plainName K.1.cls = true) (hn : Nat.ble (rt_en0 av).length K.2.2.1 = true)
    (h : rt_AW G d K Q 0 (rt_ent av K.2.2.1) [] I L r) : rt_Call G d K av I L r Q := by
  intro l
  refine Met.ofW (cc := K.2.1) (maxL := K.2.2.1) (ret := K.2.2.2) (ws' := rt_tbl) hy rfl ?_
  intro p e s m args below meth c s₁ B hml hv
  obtain ⟨rfl, hP, hK, hJ⟩ := hv
  have hts := atoms_spec (ws := rt_ws K) B.pre
  have hown : s.vm.findClass K.1.cls = some m.cls := findClass_of_methodNamed B.named
  have hlen : (lg_sl (av.map (rt_v G.2.2.2))).length ≤ K.2.2.1 := by rw [rt_ent_len]; exact Nat.le_of_ble_eq_true hn
  have hl := lv_entry (av.map (rt_v G.2.2.2)) (n := K.2.2.1) hlen
  rw [lg_entry_eq]
  refine h l p e s m _ below meth c s.heap [] _ ⟨B.exec, B.bytes, B.returns, hml, hown, fun w hw => hts w (List.mem_cons_of_mem _ hw), B.notSynchronized, hK, hJ⟩ hP va_S.rf ⟨?_, hl.1, hl.2.1, ?_⟩
  · have h1 := Nat.le_of_ble_eq_true hn
    simp only [rt_ent, List.length_append, List.length_replicate]
    omega
  · rintro ⟨j, w⟩ hq
    obtain ⟨v, hv, rfl⟩ := rt_lvl_mem.mp hq
    unfold rt_ent at hv
    have hj : j < (rt_en0 av).length := by
      rcases Nat.lt_or_ge j (rt_en0 av).length with h2 | h2
      · exact h2
      · rw [List.getElem?_append_right h2, List.getElem?_replicate] at hv
        split at hv <;> simp at hv
    rw [List.getElem?_append_left hj] at hv
    have h3 := rt_ent_at G.2.2.2 av j v hv
    show (lg_sl _ ++ _).toArray[j]? = _
    rw [List.getElem?_toArray, List.getElem?_append_left (by rw [rt_ent_len]; exact hj)]
    exact h3
theorem rt_Call_mono {G : rt_G} {d : Nat} {K : rt_K} {Q Q' : rt_Q} {av : List Value} {I : rt_I} {L : rt_L} {r : Nat} (h : rt_Call G d K av I L r Q) (hQ : ∀ v I L r, Q v I L r → Q' v I L r) : rt_Call G d K av I L r Q' := by
  intro l p e ha hc hk s m args below hf happ hP hT
  obtain ⟨k, o, h1, h2, h3, ⟨⟨⟨v, I', L', r', e1, e2, e3⟩, hF⟩, h5⟩⟩ := h l p e ha hc hk s m args below hf happ hP hT
  exact ⟨k, o, h1, h2, h3, ⟨⟨⟨v, I', L', r', e1, hQ _ _ _ _ e2, e3⟩, hF⟩, h5⟩⟩
end
section
theorem rt_br_imp {cd : Jvm.ClassFile.Cond} {x y : Int32} {A A' B B' : Prop} (ha : A → A') (hb : B → B') (h : rt_br cd x y A B) : rt_br cd x y A' B' := by
  cases cd <;> exact ⟨fun q => ha (h.1 q), fun q => hb (h.2 q)⟩
theorem rt_o_iadd {G : rt_G} {d : Nat} {K : rt_K} {Q : rt_Q} {pc : Nat} {lv : rt_V} {I : rt_I} {L : rt_L} {r : Nat} {t : List Value} {y : Int32} {x : Int32} (hd : decode K.2.1 pc = .ok (.iadd, 1))  (h : rt_AW G d K Q (pc + 1) lv (.int (x + y) :: t) I L r) : rt_AW G d K Q pc lv (.int y :: .int x :: t) I L r :=
  fun l p e s m args below meth c H locs ls C hP hS hl => lv_iadd C.1 C.2.1 hd  (h l p e s m args below meth c H locs ls C hP hS hl)
theorem rt_o_isub {G : rt_G} {d : Nat} {K : rt_K} {Q : rt_Q} {pc : Nat} {lv : rt_V} {I : rt_I} {L : rt_L} {r : Nat} {t : List Value} {y : Int32} {x : Int32} (hd : decode K.2.1 pc = .ok (.isub, 1))  (h : rt_AW G d K Q (pc + 1) lv (.int (x - y) :: t) I L r) : rt_AW G d K Q pc lv (.int y :: .int x :: t) I L r :=
  fun l p e s m args below meth c H locs ls C hP hS hl => lv_isub C.1 C.2.1 hd  (h l p e s m args below meth c H locs ls C hP hS hl)
theorem rt_o_imul {G : rt_G} {d : Nat} {K : rt_K} {Q : rt_Q} {pc : Nat} {lv : rt_V} {I : rt_I} {L : rt_L} {r : Nat} {t : List Value} {y : Int32} {x : Int32} (hd : decode K.2.1 pc = .ok (.imul, 1))  (h : rt_AW G d K Q (pc + 1) lv (.int (x * y) :: t) I L r) : rt_AW G d K Q pc lv (.int y :: .int x :: t) I L r :=
  fun l p e s m args below meth c H locs ls C hP hS hl => lv_imul C.1 C.2.1 hd  (h l p e s m args below meth c H locs ls C hP hS hl)
theorem rt_o_iand {G : rt_G} {d : Nat} {K : rt_K} {Q : rt_Q} {pc : Nat} {lv : rt_V} {I : rt_I} {L : rt_L} {r : Nat} {t : List Value} {y : Int32} {x : Int32} (hd : decode K.2.1 pc = .ok (.iand, 1))  (h : rt_AW G d K Q (pc + 1) lv (.int (x &&& y) :: t) I L r) : rt_AW G d K Q pc lv (.int y :: .int x :: t) I L r :=
  fun l p e s m args below meth c H locs ls C hP hS hl => lv_iand C.1 C.2.1 hd  (h l p e s m args below meth c H locs ls C hP hS hl)
theorem rt_o_ior {G : rt_G} {d : Nat} {K : rt_K} {Q : rt_Q} {pc : Nat} {lv : rt_V} {I : rt_I} {L : rt_L} {r : Nat} {t : List Value} {y : Int32} {x : Int32} (hd : decode K.2.1 pc = .ok (.ior, 1))  (h : rt_AW G d K Q (pc + 1) lv (.int (x ||| y) :: t) I L r) : rt_AW G d K Q pc lv (.int y :: .int x :: t) I L r :=
  fun l p e s m args below meth c H locs ls C hP hS hl => lv_ior C.1 C.2.1 hd  (h l p e s m args below meth c H locs ls C hP hS hl)
theorem rt_o_ixor {G : rt_G} {d : Nat} {K : rt_K} {Q : rt_Q} {pc : Nat} {lv : rt_V} {I : rt_I} {L : rt_L} {r : Nat} {t : List Value} {y : Int32} {x : Int32} (hd : decode K.2.1 pc = .ok (.ixor, 1))  (h : rt_AW G d K Q (pc + 1) lv (.int (x ^^^ y) :: t) I L r) : rt_AW G d K Q pc lv (.int y :: .int x :: t) I L r :=
  fun l p e s m args below meth c H locs ls C hP hS hl => lv_ixor C.1 C.2.1 hd  (h l p e s m args below meth c H locs ls C hP hS hl)
theorem rt_o_ishl {G : rt_G} {d : Nat} {K : rt_K} {Q : rt_Q} {pc : Nat} {lv : rt_V} {I : rt_I} {L : rt_L} {r : Nat} {t : List Value} {y : Int32} {x : Int32} (hd : decode K.2.1 pc = .ok (.ishl, 1))  (h : rt_AW G d K Q (pc + 1) lv (.int (x <<< (y &&& 31)) :: t) I L r) : rt_AW G d K Q pc lv (.int y :: .int x :: t) I L r :=
  fun l p e s m args below meth c H locs ls C hP hS hl => lv_ishl C.1 C.2.1 hd  (h l p e s m args below meth c H locs ls C hP hS hl)
theorem rt_o_ishr {G : rt_G} {d : Nat} {K : rt_K} {Q : rt_Q} {pc : Nat} {lv : rt_V} {I : rt_I} {L : rt_L} {r : Nat} {t : List Value} {y : Int32} {x : Int32} (hd : decode K.2.1 pc = .ok (.ishr, 1))  (h : rt_AW G d K Q (pc + 1) lv (.int (x >>> (y &&& 31)) :: t) I L r) : rt_AW G d K Q pc lv (.int y :: .int x :: t) I L r :=
  fun l p e s m args below meth c H locs ls C hP hS hl => lv_ishr C.1 C.2.1 hd  (h l p e s m args below meth c H locs ls C hP hS hl)
theorem rt_o_idiv {G : rt_G} {d : Nat} {K : rt_K} {Q : rt_Q} {pc : Nat} {lv : rt_V} {I : rt_I} {L : rt_L} {r : Nat} {t : List Value} {y : Int32} {x : Int32} (hd : decode K.2.1 pc = .ok (.idiv, 1))  (hs : ¬ y = 0) (h : rt_AW G d K Q (pc + 1) lv (.int (x / y) :: t) I L r) : rt_AW G d K Q pc lv (.int y :: .int x :: t) I L r :=
  fun l p e s m args below meth c H locs ls C hP hS hl => lv_idiv C.1 C.2.1 hd hs (h l p e s m args below meth c H locs ls C hP hS hl)
theorem rt_o_irem {G : rt_G} {d : Nat} {K : rt_K} {Q : rt_Q} {pc : Nat} {lv : rt_V} {I : rt_I} {L : rt_L} {r : Nat} {t : List Value} {y : Int32} {x : Int32} (hd : decode K.2.1 pc = .ok (.irem, 1))  (hs : ¬ y = 0) (h : rt_AW G d K Q (pc + 1) lv (.int (rt_rem x y) :: t) I L r) : rt_AW G d K Q pc lv (.int y :: .int x :: t) I L r :=
  fun l p e s m args below meth c H locs ls C hP hS hl => lv_irem C.1 C.2.1 hd hs (h l p e s m args below meth c H locs ls C hP hS hl)
theorem rt_o_iushr {G : rt_G} {d : Nat} {K : rt_K} {Q : rt_Q} {pc : Nat} {lv : rt_V} {I : rt_I} {L : rt_L} {r : Nat} {t : List Value} {y : Int32} {x : Int32} (hd : decode K.2.1 pc = .ok (.iushr, 1))  (h : rt_AW G d K Q (pc + 1) lv (.int (rt_ushr x y) :: t) I L r) : rt_AW G d K Q pc lv (.int y :: .int x :: t) I L r :=
  fun l p e s m args below meth c H locs ls C hP hS hl => lv_iushr C.1 C.2.1 hd rfl (h l p e s m args below meth c H locs ls C hP hS hl)
theorem rt_o_ineg {G : rt_G} {d : Nat} {K : rt_K} {Q : rt_Q} {pc : Nat} {lv : rt_V} {I : rt_I} {L : rt_L} {r : Nat} {t : List Value} {x : Int32} (hd : decode K.2.1 pc = .ok (.ineg, 1))  (h : rt_AW G d K Q (pc + 1) lv (.int (-x) :: t) I L r) : rt_AW G d K Q pc lv (.int x :: t) I L r :=
  fun l p e s m args below meth c H locs ls C hP hS hl => lv_ineg C.1 C.2.1 hd  (h l p e s m args below meth c H locs ls C hP hS hl)
theorem rt_o_ladd {G : rt_G} {d : Nat} {K : rt_K} {Q : rt_Q} {pc : Nat} {lv : rt_V} {I : rt_I} {L : rt_L} {r : Nat} {t : List Value} {y : Int64} {x : Int64} (hd : decode K.2.1 pc = .ok (.ladd, 1))  (h : rt_AW G d K Q (pc + 1) lv (.long (x + y) :: t) I L r) : rt_AW G d K Q pc lv (.long y :: .long x :: t) I L r :=
  fun l p e s m args below meth c H locs ls C hP hS hl => lv_ladd C.1 C.2.1 hd  (h l p e s m args below meth c H locs ls C hP hS hl)
theorem rt_o_lsub {G : rt_G} {d : Nat} {K : rt_K} {Q : rt_Q} {pc : Nat} {lv : rt_V} {I : rt_I} {L : rt_L} {r : Nat} {t : List Value} {y : Int64} {x : Int64} (hd : decode K.2.1 pc = .ok (.lsub, 1))  (h : rt_AW G d K Q (pc + 1) lv (.long (x - y) :: t) I L r) : rt_AW G d K Q pc lv (.long y :: .long x :: t) I L r :=
  fun l p e s m args below meth c H locs ls C hP hS hl => lv_lsub C.1 C.2.1 hd  (h l p e s m args below meth c H locs ls C hP hS hl)
theorem rt_o_lmul {G : rt_G} {d : Nat} {K : rt_K} {Q : rt_Q} {pc : Nat} {lv : rt_V} {I : rt_I} {L : rt_L} {r : Nat} {t : List Value} {y : Int64} {x : Int64} (hd : decode K.2.1 pc = .ok (.lmul, 1))  (h : rt_AW G d K Q (pc + 1) lv (.long (x * y) :: t) I L r) : rt_AW G d K Q pc lv (.long y :: .long x :: t) I L r :=
  fun l p e s m args below meth c H locs ls C hP hS hl => lv_lmul C.1 C.2.1 hd  (h l p e s m args below meth c H locs ls C hP hS hl)
theorem rt_o_land {G : rt_G} {d : Nat} {K : rt_K} {Q : rt_Q} {pc : Nat} {lv : rt_V} {I : rt_I} {L : rt_L} {r : Nat} {t : List Value} {y : Int64} {x : Int64} (hd : decode K.2.1 pc = .ok (.land, 1))  (h : rt_AW G d K Q (pc + 1) lv (.long (x &&& y) :: t) I L r) : rt_AW G d K Q pc lv (.long y :: .long x :: t) I L r :=
  fun l p e s m args below meth c H locs ls C hP hS hl => lv_land C.1 C.2.1 hd  (h l p e s m args below meth c H locs ls C hP hS hl)
theorem rt_o_lor {G : rt_G} {d : Nat} {K : rt_K} {Q : rt_Q} {pc : Nat} {lv : rt_V} {I : rt_I} {L : rt_L} {r : Nat} {t : List Value} {y : Int64} {x : Int64} (hd : decode K.2.1 pc = .ok (.lor, 1))  (h : rt_AW G d K Q (pc + 1) lv (.long (x ||| y) :: t) I L r) : rt_AW G d K Q pc lv (.long y :: .long x :: t) I L r :=
  fun l p e s m args below meth c H locs ls C hP hS hl => lv_lor C.1 C.2.1 hd  (h l p e s m args below meth c H locs ls C hP hS hl)
theorem rt_o_lcmp {G : rt_G} {d : Nat} {K : rt_K} {Q : rt_Q} {pc : Nat} {lv : rt_V} {I : rt_I} {L : rt_L} {r : Nat} {t : List Value} {y : Int64} {x : Int64} (hd : decode K.2.1 pc = .ok (.lcmp, 1))  (h : rt_AW G d K Q (pc + 1) lv (.int (lg_cmp x y) :: t) I L r) : rt_AW G d K Q pc lv (.long y :: .long x :: t) I L r :=
  fun l p e s m args below meth c H locs ls C hP hS hl => W.lcmp C.1 C.2.1 hd  (h l p e s m args below meth c H locs ls C hP hS hl)
theorem rt_o_lshl {G : rt_G} {d : Nat} {K : rt_K} {Q : rt_Q} {pc : Nat} {lv : rt_V} {I : rt_I} {L : rt_L} {r : Nat} {t : List Value} {y : Int32} {x : Int64} (hd : decode K.2.1 pc = .ok (.lshl, 1))  (h : rt_AW G d K Q (pc + 1) lv (.long (x <<< (y.toInt64 &&& 63)) :: t) I L r) : rt_AW G d K Q pc lv (.int y :: .long x :: t) I L r :=
  fun l p e s m args below meth c H locs ls C hP hS hl => lv_lshl C.1 C.2.1 hd rfl (h l p e s m args below meth c H locs ls C hP hS hl)
theorem rt_o_lushr {G : rt_G} {d : Nat} {K : rt_K} {Q : rt_Q} {pc : Nat} {lv : rt_V} {I : rt_I} {L : rt_L} {r : Nat} {t : List Value} {y : Int32} {x : Int64} (hd : decode K.2.1 pc = .ok (.lushr, 1))  (h : rt_AW G d K Q (pc + 1) lv (.long (rt_lushr x y) :: t) I L r) : rt_AW G d K Q pc lv (.int y :: .long x :: t) I L r :=
  fun l p e s m args below meth c H locs ls C hP hS hl => lv_lushr C.1 C.2.1 hd rfl (h l p e s m args below meth c H locs ls C hP hS hl)
theorem rt_o_i2l {G : rt_G} {d : Nat} {K : rt_K} {Q : rt_Q} {pc : Nat} {lv : rt_V} {I : rt_I} {L : rt_L} {r : Nat} {t : List Value} {x : Int32} (hd : decode K.2.1 pc = .ok (.i2l, 1))  (h : rt_AW G d K Q (pc + 1) lv (.long x.toInt64 :: t) I L r) : rt_AW G d K Q pc lv (.int x :: t) I L r :=
  fun l p e s m args below meth c H locs ls C hP hS hl => lv_i2l C.1 C.2.1 hd rfl (h l p e s m args below meth c H locs ls C hP hS hl)
theorem rt_o_l2i {G : rt_G} {d : Nat} {K : rt_K} {Q : rt_Q} {pc : Nat} {lv : rt_V} {I : rt_I} {L : rt_L} {r : Nat} {t : List Value} {x : Int64} (hd : decode K.2.1 pc = .ok (.l2i, 1))  (h : rt_AW G d K Q (pc + 1) lv (.int x.toInt32 :: t) I L r) : rt_AW G d K Q pc lv (.long x :: t) I L r :=
  fun l p e s m args below meth c H locs ls C hP hS hl => lv_l2i C.1 C.2.1 hd rfl (h l p e s m args below meth c H locs ls C hP hS hl)
theorem rt_o_i2b {G : rt_G} {d : Nat} {K : rt_K} {Q : rt_Q} {pc : Nat} {lv : rt_V} {I : rt_I} {L : rt_L} {r : Nat} {t : List Value} {x : Int32} (hd : decode K.2.1 pc = .ok (.i2b, 1))  (h : rt_AW G d K Q (pc + 1) lv (.int x.toInt8.toInt32 :: t) I L r) : rt_AW G d K Q pc lv (.int x :: t) I L r :=
  fun l p e s m args below meth c H locs ls C hP hS hl => lv_i2b C.1 C.2.1 hd rfl (h l p e s m args below meth c H locs ls C hP hS hl)
theorem rt_o_i2s {G : rt_G} {d : Nat} {K : rt_K} {Q : rt_Q} {pc : Nat} {lv : rt_V} {I : rt_I} {L : rt_L} {r : Nat} {t : List Value} {x : Int32} (hd : decode K.2.1 pc = .ok (.i2s, 1))  (h : rt_AW G d K Q (pc + 1) lv (.int x.toInt16.toInt32 :: t) I L r) : rt_AW G d K Q pc lv (.int x :: t) I L r :=
  fun l p e s m args below meth c H locs ls C hP hS hl => lv_i2s C.1 C.2.1 hd rfl (h l p e s m args below meth c H locs ls C hP hS hl)
theorem rt_o_i2c {G : rt_G} {d : Nat} {K : rt_K} {Q : rt_Q} {pc : Nat} {lv : rt_V} {I : rt_I} {L : rt_L} {r : Nat} {t : List Value} {x : Int32} (hd : decode K.2.1 pc = .ok (.i2c, 1))  (h : rt_AW G d K Q (pc + 1) lv (.int (x.toUInt32 % 65536).toInt32 :: t) I L r) : rt_AW G d K Q pc lv (.int x :: t) I L r :=
  fun l p e s m args below meth c H locs ls C hP hS hl => lv_i2c C.1 C.2.1 hd rfl (h l p e s m args below meth c H locs ls C hP hS hl)
theorem rt_o_dup {G : rt_G} {d : Nat} {K : rt_K} {Q : rt_Q} {pc : Nat} {lv : rt_V} {I : rt_I} {L : rt_L} {r : Nat} {t : List Value} {v : Value} (hd : decode K.2.1 pc = .ok (.dup, 1)) (cv : v.category = 1) (h : rt_AW G d K Q (pc + 1) lv (v :: v :: t) I L r) : rt_AW G d K Q pc lv (v :: t) I L r :=
  fun l p e s m args below meth c H locs ls C hP hS hl => lv_dup C.1 C.2.1 hd (by rw [rt_v_cat]; exact cv) (h l p e s m args below meth c H locs ls C hP hS hl)
theorem rt_o_pop {G : rt_G} {d : Nat} {K : rt_K} {Q : rt_Q} {pc : Nat} {lv : rt_V} {I : rt_I} {L : rt_L} {r : Nat} {t : List Value} {v : Value} (hd : decode K.2.1 pc = .ok (.pop, 1)) (cv : v.category = 1) (h : rt_AW G d K Q (pc + 1) lv (t) I L r) : rt_AW G d K Q pc lv (v :: t) I L r :=
  fun l p e s m args below meth c H locs ls C hP hS hl => lv_pop C.1 C.2.1 hd (by rw [rt_v_cat]; exact cv) (h l p e s m args below meth c H locs ls C hP hS hl)
theorem rt_o_dup_x1 {G : rt_G} {d : Nat} {K : rt_K} {Q : rt_Q} {pc : Nat} {lv : rt_V} {I : rt_I} {L : rt_L} {r : Nat} {t : List Value} {v : Value} {w : Value} (hd : decode K.2.1 pc = .ok (.dup_x1, 1)) (cv : v.category = 1) (cw : w.category = 1) (h : rt_AW G d K Q (pc + 1) lv (v :: w :: v :: t) I L r) : rt_AW G d K Q pc lv (v :: w :: t) I L r :=
  fun l p e s m args below meth c H locs ls C hP hS hl => lv_dup_x1 C.1 C.2.1 hd (by rw [rt_v_cat]; exact cv) (by rw [rt_v_cat]; exact cw) (h l p e s m args below meth c H locs ls C hP hS hl)
theorem rt_o_dup2 {G : rt_G} {d : Nat} {K : rt_K} {Q : rt_Q} {pc : Nat} {lv : rt_V} {I : rt_I} {L : rt_L} {r : Nat} {t : List Value} {v : Value} {w : Value} (hd : decode K.2.1 pc = .ok (.dup2, 1)) (cv : v.category = 1) (cw : w.category = 1) (h : rt_AW G d K Q (pc + 1) lv (v :: w :: v :: w :: t) I L r) : rt_AW G d K Q pc lv (v :: w :: t) I L r :=
  fun l p e s m args below meth c H locs ls C hP hS hl => lv_dup2_11 C.1 C.2.1 hd (by rw [rt_v_cat]; exact cv) (by rw [rt_v_cat]; exact cw) (h l p e s m args below meth c H locs ls C hP hS hl)
theorem rt_o_iconst {G : rt_G} {d : Nat} {K : rt_K} {Q : rt_Q} {pc : Nat} {lv : rt_V} {st : List Value} {I : rt_I} {L : rt_L} {r : Nat} {x : Int} (hd : decode K.2.1 pc = .ok (.iconst x, 1)) (h : rt_AW G d K Q (pc + 1) lv (.int (rt_ic x) :: st) I L r) : rt_AW G d K Q pc lv st I L r :=
  fun l p e s m args below meth c H locs ls C hP hS hl => lv_iconst C.1 C.2.1 hd (rt_ic_eq x).symm (h l p e s m args below meth c H locs ls C hP hS hl)
theorem rt_o_bipush {G : rt_G} {d : Nat} {K : rt_K} {Q : rt_Q} {pc : Nat} {lv : rt_V} {st : List Value} {I : rt_I} {L : rt_L} {r : Nat} {x : Int} (hx : rt_in8 x = true) (hd : decode K.2.1 pc = .ok (.bipush x, 2)) (h : rt_AW G d K Q (pc + 2) lv (.int (rt_ic x) :: st) I L r) : rt_AW G d K Q pc lv st I L r :=
  fun l p e s m args below meth c H locs ls C hP hS hl => lv_bipush C.1 C.2.1 hd (rt_ic8 hx) (h l p e s m args below meth c H locs ls C hP hS hl)
theorem rt_o_sipush {G : rt_G} {d : Nat} {K : rt_K} {Q : rt_Q} {pc : Nat} {lv : rt_V} {st : List Value} {I : rt_I} {L : rt_L} {r : Nat} {x : Int} (hx : rt_in16 x = true) (hd : decode K.2.1 pc = .ok (.sipush x, 3)) (h : rt_AW G d K Q (pc + 3) lv (.int (rt_ic x) :: st) I L r) : rt_AW G d K Q pc lv st I L r :=
  fun l p e s m args below meth c H locs ls C hP hS hl => lv_sipush C.1 C.2.1 hd (rt_ic16 hx) (h l p e s m args below meth c H locs ls C hP hS hl)
theorem rt_o_lconst {G : rt_G} {d : Nat} {K : rt_K} {Q : rt_Q} {pc : Nat} {lv : rt_V} {st : List Value} {I : rt_I} {L : rt_L} {r : Nat} {x : Fin 2} (hd : decode K.2.1 pc = .ok (.lconst x, 1)) (h : rt_AW G d K Q (pc + 1) lv (.long (Int64.ofNat (x : Nat)) :: st) I L r) : rt_AW G d K Q pc lv st I L r :=
  fun l p e s m args below meth c H locs ls C hP hS hl => lv_lconst C.1 C.2.1 hd rfl (h l p e s m args below meth c H locs ls C hP hS hl)
theorem rt_o_ldc {G : rt_G} {d : Nat} {K : rt_K} {Q : rt_Q} {pc : Nat} {lv : rt_V} {st : List Value} {I : rt_I} {L : rt_L} {r : Nat} {x : Nat} {v : Int32} (hw : Cond.constant K.1.cls x v ∈ rt_tbl) (hd : decode K.2.1 pc = .ok (.ldc x, 2)) (h : rt_AW G d K Q (pc + 2) lv (.int v :: st) I L r) : rt_AW G d K Q pc lv st I L r :=
  fun l p e s m args below meth c H locs ls C hP hS hl => lv_ldc C.1 C.2.1 C.2.2.2.2.1 (C.2.2.2.2.2.1 _ hw) hd (h l p e s m args below meth c H locs ls C hP hS hl)
theorem rt_o_ldc_w {G : rt_G} {d : Nat} {K : rt_K} {Q : rt_Q} {pc : Nat} {lv : rt_V} {st : List Value} {I : rt_I} {L : rt_L} {r : Nat} {x : Nat} {v : Int32} (hw : Cond.constant K.1.cls x v ∈ rt_tbl) (hd : decode K.2.1 pc = .ok (.ldc_w x, 3)) (h : rt_AW G d K Q (pc + 3) lv (.int v :: st) I L r) : rt_AW G d K Q pc lv st I L r :=
  fun l p e s m args below meth c H locs ls C hP hS hl => lv_ldcw C.1 C.2.1 C.2.2.2.2.1 (C.2.2.2.2.2.1 _ hw) hd (h l p e s m args below meth c H locs ls C hP hS hl)
theorem rt_o_ldc2_w {G : rt_G} {d : Nat} {K : rt_K} {Q : rt_Q} {pc : Nat} {lv : rt_V} {st : List Value} {I : rt_I} {L : rt_L} {r : Nat} {x : Nat} {v : Int64} (hw : Cond.constantLong K.1.cls x v ∈ rt_tbl) (hd : decode K.2.1 pc = .ok (.ldc2_w x, 3)) (h : rt_AW G d K Q (pc + 3) lv (.long v :: st) I L r) : rt_AW G d K Q pc lv st I L r :=
  fun l p e s m args below meth c H locs ls C hP hS hl => lv_ldc2 C.1 C.2.1 C.2.2.2.2.1 (C.2.2.2.2.2.1 _ hw) hd (h l p e s m args below meth c H locs ls C hP hS hl)
theorem rt_o_iload {G : rt_G} {d : Nat} {K : rt_K} {Q : rt_Q} {pc : Nat} {lv : rt_V} {st : List Value} {I : rt_I} {L : rt_L} {r : Nat} {i : Nat} {x : Int32} (hv : lv[i]? = some (some (.int x))) (hd : decode K.2.1 pc = .ok (.iload i, 2)) (h : rt_AW G d K Q (pc + 2) lv (.int x :: st) I L r) : rt_AW G d K Q pc lv st I L r :=
  fun l p e s m args below meth c H locs ls C hP hS hl => lv_iload C.1 C.2.1 hd  (rt_lv_at hl hv) (h l p e s m args below meth c H locs ls C hP hS hl)
theorem rt_o_iload_n {G : rt_G} {d : Nat} {K : rt_K} {Q : rt_Q} {pc : Nat} {lv : rt_V} {st : List Value} {I : rt_I} {L : rt_L} {r : Nat} {i : Fin 4} {x : Int32} (hv : lv[(i : Nat)]? = some (some (.int x))) (hd : decode K.2.1 pc = .ok (.iload_n i, 1)) (h : rt_AW G d K Q (pc + 1) lv (.int x :: st) I L r) : rt_AW G d K Q pc lv st I L r :=
  fun l p e s m args below meth c H locs ls C hP hS hl => lv_iload_n C.1 C.2.1 hd rfl (rt_lv_at hl hv) (h l p e s m args below meth c H locs ls C hP hS hl)
theorem rt_o_lload {G : rt_G} {d : Nat} {K : rt_K} {Q : rt_Q} {pc : Nat} {lv : rt_V} {st : List Value} {I : rt_I} {L : rt_L} {r : Nat} {i : Nat} {x : Int64} (hv : lv[i]? = some (some (.long x))) (hd : decode K.2.1 pc = .ok (.lload i, 2)) (h : rt_AW G d K Q (pc + 2) lv (.long x :: st) I L r) : rt_AW G d K Q pc lv st I L r :=
  fun l p e s m args below meth c H locs ls C hP hS hl => lv_lload C.1 C.2.1 hd  (rt_lv_at hl hv) (h l p e s m args below meth c H locs ls C hP hS hl)
theorem rt_o_lload_n {G : rt_G} {d : Nat} {K : rt_K} {Q : rt_Q} {pc : Nat} {lv : rt_V} {st : List Value} {I : rt_I} {L : rt_L} {r : Nat} {i : Fin 4} {x : Int64} (hv : lv[(i : Nat)]? = some (some (.long x))) (hd : decode K.2.1 pc = .ok (.lload_n i, 1)) (h : rt_AW G d K Q (pc + 1) lv (.long x :: st) I L r) : rt_AW G d K Q pc lv st I L r :=
  fun l p e s m args below meth c H locs ls C hP hS hl => lv_lload_n C.1 C.2.1 hd rfl (rt_lv_at hl hv) (h l p e s m args below meth c H locs ls C hP hS hl)
theorem rt_o_aload {G : rt_G} {d : Nat} {K : rt_K} {Q : rt_Q} {pc : Nat} {lv : rt_V} {st : List Value} {I : rt_I} {L : rt_L} {r : Nat} {i : Nat} {x : Nat} (hv : lv[i]? = some (some (.ref x))) (hd : decode K.2.1 pc = .ok (.aload i, 2)) (h : rt_AW G d K Q (pc + 2) lv (.ref x :: st) I L r) : rt_AW G d K Q pc lv st I L r :=
  fun l p e s m args below meth c H locs ls C hP hS hl => lv_aload C.1 C.2.1 hd  (rt_lv_at hl hv) (h l p e s m args below meth c H locs ls C hP hS hl)
theorem rt_o_aload_n {G : rt_G} {d : Nat} {K : rt_K} {Q : rt_Q} {pc : Nat} {lv : rt_V} {st : List Value} {I : rt_I} {L : rt_L} {r : Nat} {i : Fin 4} {x : Nat} (hv : lv[(i : Nat)]? = some (some (.ref x))) (hd : decode K.2.1 pc = .ok (.aload_n i, 1)) (h : rt_AW G d K Q (pc + 1) lv (.ref x :: st) I L r) : rt_AW G d K Q pc lv st I L r :=
  fun l p e s m args below meth c H locs ls C hP hS hl => lv_aload_n C.1 C.2.1 hd rfl (rt_lv_at hl hv) (h l p e s m args below meth c H locs ls C hP hS hl)
theorem rt_o_istore {G : rt_G} {d : Nat} {K : rt_K} {Q : rt_Q} {pc : Nat} {lv : rt_V} {I : rt_I} {L : rt_L} {r : Nat} {t : List Value} {i : Nat} {x : Int32} (ho : rt_okS lv i = true) (hd : decode K.2.1 pc = .ok (.istore i, 2)) (h : rt_AW G d K Q (pc + 2) (lv.set i (some (.int x))) t I L r) : rt_AW G d K Q pc lv (.int x :: t) I L r :=
  fun l p e s m args below meth c H locs ls C hP hS hl => lv_istore C.1 C.2.1 hd  hl.2 (by rw [← hl.1]; exact (rt_okS_inv ho).1) rfl (fun ls' hl' => h l p e s m args below meth c H locs ls' C hP hS (rt_lv_set (v := .int x) hl.1 ho hl'))
theorem rt_o_istore_n {G : rt_G} {d : Nat} {K : rt_K} {Q : rt_Q} {pc : Nat} {lv : rt_V} {I : rt_I} {L : rt_L} {r : Nat} {t : List Value} {i : Fin 4} {x : Int32} (ho : rt_okS lv (i : Nat) = true) (hd : decode K.2.1 pc = .ok (.istore_n i, 1)) (h : rt_AW G d K Q (pc + 1) (lv.set (i : Nat) (some (.int x))) t I L r) : rt_AW G d K Q pc lv (.int x :: t) I L r :=
  fun l p e s m args below meth c H locs ls C hP hS hl => lv_istore_n C.1 C.2.1 hd rfl hl.2 (by rw [← hl.1]; exact (rt_okS_inv ho).1) rfl (fun ls' hl' => h l p e s m args below meth c H locs ls' C hP hS (rt_lv_set (v := .int x) hl.1 ho hl'))
theorem rt_o_astore {G : rt_G} {d : Nat} {K : rt_K} {Q : rt_Q} {pc : Nat} {lv : rt_V} {I : rt_I} {L : rt_L} {r : Nat} {t : List Value} {i : Nat} {x : Nat} (ho : rt_okS lv i = true) (hd : decode K.2.1 pc = .ok (.astore i, 2)) (h : rt_AW G d K Q (pc + 2) (lv.set i (some (.ref x))) t I L r) : rt_AW G d K Q pc lv (.ref x :: t) I L r :=
  fun l p e s m args below meth c H locs ls C hP hS hl => lv_astore C.1 C.2.1 hd  hl.2 (by rw [← hl.1]; exact (rt_okS_inv ho).1) rfl (fun ls' hl' => h l p e s m args below meth c H locs ls' C hP hS (rt_lv_set (v := .ref x) hl.1 ho hl'))
theorem rt_o_astore_n {G : rt_G} {d : Nat} {K : rt_K} {Q : rt_Q} {pc : Nat} {lv : rt_V} {I : rt_I} {L : rt_L} {r : Nat} {t : List Value} {i : Fin 4} {x : Nat} (ho : rt_okS lv (i : Nat) = true) (hd : decode K.2.1 pc = .ok (.astore_n i, 1)) (h : rt_AW G d K Q (pc + 1) (lv.set (i : Nat) (some (.ref x))) t I L r) : rt_AW G d K Q pc lv (.ref x :: t) I L r :=
  fun l p e s m args below meth c H locs ls C hP hS hl => lv_astore_n C.1 C.2.1 hd rfl hl.2 (by rw [← hl.1]; exact (rt_okS_inv ho).1) rfl (fun ls' hl' => h l p e s m args below meth c H locs ls' C hP hS (rt_lv_set (v := .ref x) hl.1 ho hl'))
theorem rt_o_lstore {G : rt_G} {d : Nat} {K : rt_K} {Q : rt_Q} {pc : Nat} {lv : rt_V} {I : rt_I} {L : rt_L} {r : Nat} {t : List Value} {i : Nat} {x : Int64} (ho : rt_okS lv i = true) (hb : i + 1 < lv.length) (hd : decode K.2.1 pc = .ok (.lstore i, 2)) (h : rt_AW G d K Q (pc + 2) ((lv.set i (some (.long x))).set (i + 1) none) t I L r) : rt_AW G d K Q pc lv (.long x :: t) I L r :=
  fun l p e s m args below meth c H locs ls C hP hS hl => lv_lstore C.1 C.2.1 hd  hl.2 (by rw [← hl.1]; exact hb) rfl (fun ls' hl' => h l p e s m args below meth c H locs ls' C hP hS (rt_lv_set2 (v := .long x) hl.1 ho hl'))
theorem rt_o_lstore_n {G : rt_G} {d : Nat} {K : rt_K} {Q : rt_Q} {pc : Nat} {lv : rt_V} {I : rt_I} {L : rt_L} {r : Nat} {t : List Value} {i : Fin 4} {x : Int64} (ho : rt_okS lv (i : Nat) = true) (hb : (i : Nat) + 1 < lv.length) (hd : decode K.2.1 pc = .ok (.lstore_n i, 1)) (h : rt_AW G d K Q (pc + 1) ((lv.set (i : Nat) (some (.long x))).set ((i : Nat) + 1) none) t I L r) : rt_AW G d K Q pc lv (.long x :: t) I L r :=
  fun l p e s m args below meth c H locs ls C hP hS hl => lv_lstore_n C.1 C.2.1 hd rfl hl.2 (by rw [← hl.1]; exact hb) rfl (fun ls' hl' => h l p e s m args below meth c H locs ls' C hP hS (rt_lv_set2 (v := .long x) hl.1 ho hl'))
theorem rt_o_iinc {G : rt_G} {d : Nat} {K : rt_K} {Q : rt_Q} {pc : Nat} {lv : rt_V} {st : List Value} {I : rt_I} {L : rt_L} {r : Nat} {i : Nat} {v : Int} {x : Int32} (ho : rt_okS lv i = true) (hv : lv[i]? = some (some (.int x))) (hd : decode K.2.1 pc = .ok (.iinc i v, 3)) (h : rt_AW G d K Q (pc + 3) (lv.set i (some (.int (x + rt_ic v)))) st I L r) : rt_AW G d K Q pc lv st I L r := by
  intro l p e s m args below meth c H locs ls C hP hS hl
  obtain ⟨k, hk⟩ := List.getElem?_of_mem (rt_lvl_mem.mpr ⟨.int x, hv, rfl⟩ : (i, rt_v G.2.2.2 (.int x)) ∈ rt_lvl G.2.2.2 lv)
  exact lv_iinc C.1 C.2.1 hd hl.2 hk (by rw [rt_ic_eq]) (by rw [← hl.1]; exact (rt_okS_inv ho).1) rfl (fun ls' hl' => h l p e s m args below meth c H locs ls' C hP hS (rt_lv_set (v := .int (x + rt_ic v)) hl.1 ho hl'))
theorem rt_o_goto {G : rt_G} {d : Nat} {K : rt_K} {Q : rt_Q} {pc : Nat} {lv : rt_V} {st : List Value} {I : rt_I} {L : rt_L} {r : Nat} {off : Int} (ht : rt_tk pc off = true) (hd : decode K.2.1 pc = .ok (.goto off, 3)) (h : rt_AW G d K Q (rt_tg pc off) lv st I L r) : rt_AW G d K Q pc lv st I L r :=
  fun l p e s m args below meth c H locs ls C hP hS hl => lv_goto C.1 C.2.1 hd (rt_tg_eq ht) (h l p e s m args below meth c H locs ls C hP hS hl)
theorem rt_o_ifCond {G : rt_G} {d : Nat} {K : rt_K} {Q : rt_Q} {pc : Nat} {lv : rt_V} {I : rt_I} {L : rt_L} {r : Nat} {t : List Value} {x : Int32} {cd : Jvm.ClassFile.Cond} {off : Int} (ht : rt_tk pc off = true) (hd : decode K.2.1 pc = .ok (.ifCond cd off, 3)) (h : rt_br cd x 0 (rt_AW G d K Q (rt_tg pc off) lv t I L r) (rt_AW G d K Q (pc + 3) lv t I L r)) : rt_AW G d K Q pc lv (.int x :: t) I L r := by
  intro l p e s m args below meth c H locs ls C hP hS hl
  cases cd
  case eq => exact lv_if_eq C.1 C.2.1 hd (rt_tg_eq ht) (fun q => h.1 q l p e s m args below meth c H locs ls C hP hS hl) (fun q => h.2 q l p e s m args below meth c H locs ls C hP hS hl)
  case ne => exact lv_if_ne C.1 C.2.1 hd (rt_tg_eq ht) (fun q => h.1 q l p e s m args below meth c H locs ls C hP hS hl) (fun q => h.2 q l p e s m args below meth c H locs ls C hP hS hl)
  case lt => exact lv_if_lt C.1 C.2.1 hd (rt_tg_eq ht) (fun q => h.1 q l p e s m args below meth c H locs ls C hP hS hl) (fun q => h.2 q l p e s m args below meth c H locs ls C hP hS hl)
  case ge => exact lv_if_ge C.1 C.2.1 hd (rt_tg_eq ht) (fun q => h.1 q l p e s m args below meth c H locs ls C hP hS hl) (fun q => h.2 q l p e s m args below meth c H locs ls C hP hS hl)
  case gt => exact lv_if_gt C.1 C.2.1 hd (rt_tg_eq ht) (fun q => h.1 q l p e s m args below meth c H locs ls C hP hS hl) (fun q => h.2 q l p e s m args below meth c H locs ls C hP hS hl)
  case le => exact lv_if_le C.1 C.2.1 hd (rt_tg_eq ht) (fun q => h.1 q l p e s m args below meth c H locs ls C hP hS hl) (fun q => h.2 q l p e s m args below meth c H locs ls C hP hS hl)
theorem rt_o_icmp {G : rt_G} {d : Nat} {K : rt_K} {Q : rt_Q} {pc : Nat} {lv : rt_V} {I : rt_I} {L : rt_L} {r : Nat} {t : List Value} {x y : Int32} {cd : Jvm.ClassFile.Cond} {off : Int} (ht : rt_tk pc off = true) (hd : decode K.2.1 pc = .ok (.if_icmp cd off, 3)) (h : rt_br cd x y (rt_AW G d K Q (rt_tg pc off) lv t I L r) (rt_AW G d K Q (pc + 3) lv t I L r)) : rt_AW G d K Q pc lv (.int y :: .int x :: t) I L r := by
  intro l p e s m args below meth c H locs ls C hP hS hl
  cases cd
  case eq => exact lv_icmp_eq C.1 C.2.1 hd (rt_tg_eq ht) (fun q => h.1 q l p e s m args below meth c H locs ls C hP hS hl) (fun q => h.2 q l p e s m args below meth c H locs ls C hP hS hl)
  case ne => exact lv_icmp_ne C.1 C.2.1 hd (rt_tg_eq ht) (fun q => h.1 q l p e s m args below meth c H locs ls C hP hS hl) (fun q => h.2 q l p e s m args below meth c H locs ls C hP hS hl)
  case lt => exact lv_icmp_lt C.1 C.2.1 hd (rt_tg_eq ht) (fun q => h.1 q l p e s m args below meth c H locs ls C hP hS hl) (fun q => h.2 q l p e s m args below meth c H locs ls C hP hS hl)
  case ge => exact lv_icmp_ge C.1 C.2.1 hd (rt_tg_eq ht) (fun q => h.1 q l p e s m args below meth c H locs ls C hP hS hl) (fun q => h.2 q l p e s m args below meth c H locs ls C hP hS hl)
  case gt => exact lv_icmp_gt C.1 C.2.1 hd (rt_tg_eq ht) (fun q => h.1 q l p e s m args below meth c H locs ls C hP hS hl) (fun q => h.2 q l p e s m args below meth c H locs ls C hP hS hl)
  case le => exact lv_icmp_le C.1 C.2.1 hd (rt_tg_eq ht) (fun q => h.1 q l p e s m args below meth c H locs ls C hP hS hl) (fun q => h.2 q l p e s m args below meth c H locs ls C hP hS hl)
theorem rt_sw_at {pc : Nat} {x : Int32} {K : Nat → Prop} : ∀ {offs : List Int} {lo : Int} (j : Nat) {o : Int}, rt_sw pc lo offs x K → offs[j]? = some o → x.toInt = lo + (j : Int) → rt_tk pc o = true ∧ K (rt_tg pc o)
  | [], lo, j, o, _, h, _ => by simp at h
  | a :: t, lo, 0, o, h, ho, hx => by
    simp at ho
    subst ho
    have e : x = Int32.ofInt lo := by
      rw [show lo = x.toInt by omega, Int32.ofInt_toInt]
    exact rt_ck_inv (h.1 e)
  | a :: t, lo, j + 1, o, h, ho, hx => rt_sw_at j h.2 (by simpa using ho) (by omega)
theorem rt_o_tsw {G : rt_G} {d : Nat} {K : rt_K} {Q : rt_Q} {pc : Nat} {lv : rt_V} {I : rt_I} {L : rt_L} {r : Nat} {t : List Value} {x : Int32} {dflt lo hi : Int} {offs : Array Int} {n : Nat} (ht : rt_tk pc dflt = true) (hn : lo + (offs.toList.length : Int) = hi + 1) (hd : decode K.2.1 pc = .ok (.tableswitch dflt lo hi offs, n)) (h1 : x.toInt < lo ∨ hi < x.toInt → rt_AW G d K Q (rt_tg pc dflt) lv t I L r) (h2 : rt_sw pc lo offs.toList x (fun tg => rt_AW G d K Q tg lv t I L r)) : rt_AW G d K Q pc lv (.int x :: t) I L r := by
  intro l p e s m args below meth c H locs ls C hP hS hl
  by_cases hx : x.toInt < lo ∨ hi < x.toInt
  · exact lv_tableOut C.1 C.2.1 hd hx (rt_tg_eq ht) (h1 hx l p e s m args below meth c H locs ls C hP hS hl)
  · have a1 : ¬ x.toInt < lo := fun q => hx (Or.inl q)
    have a2 : ¬ hi < x.toInt := fun q => hx (Or.inr q)
    have hj : (x.toInt - lo).toNat < offs.toList.length := by omega
    have ho : offs.toList[(x.toInt - lo).toNat]? = some offs.toList[(x.toInt - lo).toNat] := List.getElem?_eq_getElem hj
    obtain ⟨b1, b2⟩ := rt_sw_at _ h2 ho (by omega)
    exact lv_tableIn C.1 C.2.1 hd a1 a2 (by rw [← Array.getElem?_toList]; exact ho) (rt_tg_eq b1) (b2 l p e s m args below meth c H locs ls C hP hS hl)
theorem rt_sw_imp {pc : Nat} {x : Int32} {K K' : Nat → Prop} (hk : ∀ t, K t → K' t) : ∀ {offs : List Int} {lo : Int}, rt_sw pc lo offs x K → rt_sw pc lo offs x K'
  | [], _, _ => trivial
  | a :: t, lo, h => ⟨fun q => by
      obtain ⟨b1, b2⟩ := rt_ck_inv (h.1 q)
      rw [b1]
      exact hk _ b2, rt_sw_imp hk h.2⟩
theorem rt_lsw_at {pc : Nat} {x : Int32} {dflt : Int} {K : Nat → Prop} : ∀ {ps : List (Int × Int)}, ps.all (fun q => decide ((Int32.ofInt q.1).toInt = q.1)) = true → rt_lsw pc ps dflt x K → rt_tk pc (Op.lookupswitch.offset ps dflt x.toInt) = true ∧ K (rt_tg pc (Op.lookupswitch.offset ps dflt x.toInt))
  | [], _, h => rt_ck_inv h
  | (a, b) :: t, ha, h => by
    simp only [List.all_cons, Bool.and_eq_true, decide_eq_true_eq] at ha
    rw [Op.lookupswitch.offset_cons]
    by_cases hx : x = Int32.ofInt a
    · rw [if_pos (by rw [hx]; first | exact ha.1 | exact ha.1.symm)]
      exact rt_ck_inv (h.1 hx)
    · rw [if_neg (fun q => hx (by first | (rw [q, Int32.ofInt_toInt]) | (rw [← q, Int32.ofInt_toInt])))]
      exact rt_lsw_at ha.2 (h.2 hx)
theorem rt_o_lsw {G : rt_G} {d : Nat} {K : rt_K} {Q : rt_Q} {pc : Nat} {lv : rt_V} {I : rt_I} {L : rt_L} {r : Nat} {t : List Value} {x : Int32} {dflt : Int} {ps : Array (Int × Int)} {n : Nat} (hp : (ps.toList.zip (ps.toList.drop 1)).all (fun (a, next) => a.1 < next.1) = true) (ha : ps.toList.all (fun q => decide ((Int32.ofInt q.1).toInt = q.1)) = true) (hd : decode K.2.1 pc = .ok (.lookupswitch dflt ps, n)) (h : rt_lsw pc ps.toList dflt x (fun tg => rt_AW G d K Q tg lv t I L r)) : rt_AW G d K Q pc lv (.int x :: t) I L r := by
  intro l p e s m args below meth c H locs ls C hP hS hl
  obtain ⟨b1, b2⟩ := rt_lsw_at ha h
  exact lv_lookup C.1 C.2.1 hd hp rfl (rt_tg_eq b1) (b2 l p e s m args below meth c H locs ls C hP hS hl)
theorem rt_lsw_imp {pc : Nat} {x : Int32} {dflt : Int} {K K' : Nat → Prop} (hk : ∀ t, K t → K' t) : ∀ {ps : List (Int × Int)}, rt_lsw pc ps dflt x K → rt_lsw pc ps dflt x K'
  | [], h => by
    obtain ⟨b1, b2⟩ := rt_ck_inv (b := rt_tk pc dflt) h
    show rt_ck (rt_tk pc dflt) _
    rw [b1]
    exact hk _ b2
  | a :: t, h => ⟨fun q => by
      obtain ⟨b1, b2⟩ := rt_ck_inv (h.1 q)
      rw [b1]
      exact hk _ b2, fun q => rt_lsw_imp hk (h.2 q)⟩
theorem rt_o_getfield {G : rt_G} {d : Nat} {K : rt_K} {Q : rt_Q} {pc : Nat} {lv : rt_V} {I : rt_I} {L : rt_L} {r : Nat} {t : List Value} {x ci j tt q : Nat} (hf : rt_okf K.1.cls x ci j tt) (ho : rt_isO q ci j = true) (hd : decode K.2.1 pc = .ok (.getfield x, 3)) (h : rt_AW G d K Q (pc + 3) lv (rt_gv I r ci q j :: t) I L r) : rt_AW G d K Q pc lv (.ref q :: t) I L r := by
  intro l p e s m args below meth c H locs ls C hP hS hl
  obtain ⟨⟨C0, T0, N0⟩, h1, h2, h3, -⟩ := hf
  obtain ⟨a1, a2, a3⟩ := rt_isO_inv ho
  have he := rt_W_at (G := G) (I := I) (L := L) (r := r) a1
  rw [rt_en_o a2] at he
  refine va_get (v := rt_fv G.2.2.2 I r ci q j) (ref := (T0 j).1) C.1 C.2.1 C.2.2.2.2.2.1 (rt_cls ci _ h1).1 C.2.2.2.2.1 C.2.2.2.2.2.2.2.1 hP q he h1 j h2 (C.2.2.2.2.2.1 _ h3) (fun _ z => z) ?_ hd ?_
  · rw [List.getElem?_map, List.getElem?_range a3]
    rfl
  · rw [← rt_gv_v]
    exact h l p e s m args below meth c H locs ls C hP hS hl
theorem rt_range_set {n j : Nat} {f g : Nat → Value} {v : Value} (hj : j < n) (h1 : g j = v) (h2 : ∀ i, i < n → i ≠ j → g i = f i) : ((List.range n).map f).set j v = (List.range n).map g := by
  apply List.ext_getElem?
  intro k
  by_cases hk : k < n
  · by_cases hkj : k = j
    · subst hkj
      rw [List.getElem?_set_self (by simpa using hk), List.getElem?_map, List.getElem?_range hk]
      simp [h1]
    · rw [List.getElem?_set_ne (Ne.symm hkj), List.getElem?_map, List.getElem?_map, List.getElem?_range hk]
      simp [h2 k hk hkj]
  · rw [List.getElem?_eq_none (by simp; omega), List.getElem?_eq_none (by simp; omega)]
theorem rt_o_put {G : rt_G} {d : Nat} {K : rt_K} {Q : rt_Q} {pc : Nat} {lv : rt_V} {I : rt_I} {L : rt_L} {r : Nat} {t : List Value} {x ci j tt q : Nat} {v : Int32} {ty : FieldType} (hf : rt_okf K.1.cls x ci j tt) (hty : ∀ q9 : vw_C, vwCl[ci]? = some q9 → parseFieldDescriptor (q9.2.1 j).2.2.1 = some ty ∧ (q9.2.1 j).2.2.2 = false) (hR : rt_isR ci j = false) (hn : narrow ty (.int v) = .int v) (hft : fits ty (.int v) = true) (ho : rt_isO q ci j = true) (hd : decode K.2.1 pc = .ok (.putfield x, 3)) (h : rt_AW G d K Q (pc + 3) lv t (rt_u I q j v) L r) : rt_AW G d K Q pc lv (.int v :: .ref q :: t) I L r := by
  intro l p e s m args below meth c H locs ls C hP hS hl
  obtain ⟨⟨C0, T0, N0⟩, h1, h2, h3, -⟩ := hf
  obtain ⟨y1, y2⟩ := hty _ h1
  obtain ⟨a1, a2, a3⟩ := rt_isO_inv ho
  have he := rt_W_at (G := G) (I := I) (L := L) (r := r) a1
  rw [rt_en_o a2] at he
  obtain ⟨u1, ty0, u2, u3⟩ := rt_cls ci _ h1
  refine va_put (v := .int v) (ref := (T0 j).1) C.1 C.2.1 C.2.2.2.2.2.1 u1 ty0 u2 u3 C.2.2.2.2.1 C.2.2.2.2.2.2.2.1 hP (rt_D C.2.2.2.2.2.2.2.2) hS q he h1 j h2 (C.2.2.2.2.2.1 _ h3) (fun _ z => z) y2 y1 hn hft (by simpa using a3) hd (fun H1 locs1 hP1 _ hS1 => ?_)
  rw [rt_W_set (I' := rt_u I q j v) (L' := L) (r' := r) a1] at hP1
  · exact h l p e s m args below meth c H1 locs1 ls C hP1 hS1 hl
  · rw [rt_en_o a2]
    congr 2
    symm
    refine rt_range_set a3 ?_ (fun i hi hne => ?_)
    · simp [rt_fv, hR, rt_u_eq, upd]
    · simp [rt_fv, rt_u_eq, upd, hne]
  · intro y hy hne
    exact rt_en_ne (rt_u_ne hne)
theorem rt_o_putr {G : rt_G} {d : Nat} {K : rt_K} {Q : rt_Q} {pc : Nat} {lv : rt_V} {I : rt_I} {L : rt_L} {r : Nat} {t : List Value} {x b : Nat} (hf : rt_okf K.1.cls x 12 15 3) (hd : decode K.2.1 pc = .ok (.putfield x, 3)) (h : rt_AW G d K Q (pc + 3) lv t I L b) : rt_AW G d K Q pc lv (.ref b :: .ref 108 :: t) I L r := by
  intro l p e s m args below meth c H locs ls C hP hS hl
  obtain ⟨⟨C0, T0, N0⟩, h1, h2, h3, -, -, h4⟩ := hf
  obtain ⟨y1, y2, -, -⟩ := h4 rfl
  have a1 : 108 < rt_NC := Nat.le_of_ble_eq_true rfl
  have a2 : (rt_lay 108).1 = 12 + 5 := rfl
  have a3 : 15 < (rt_lay 108).2 := Nat.le_of_ble_eq_true rfl
  have he := rt_W_at (G := G) (I := I) (L := L) (r := r) a1
  rw [rt_en_o a2] at he
  obtain ⟨u1, ty0, u2, u3⟩ := rt_cls 12 _ h1
  refine va_put (v := .ref (G.2.2.2 b)) (ref := (T0 15).1) C.1 C.2.1 C.2.2.2.2.2.1 u1 ty0 u2 u3 C.2.2.2.2.1 C.2.2.2.2.2.2.2.1 hP (rt_D C.2.2.2.2.2.2.2.2) hS 108 he h1 15 h2 (C.2.2.2.2.2.1 _ h3) (fun _ z => z) y2 y1 rfl rfl (by simpa using a3) hd (fun H1 locs1 hP1 _ hS1 => ?_)
  rw [rt_W_set (I' := I) (L' := L) (r' := b) a1] at hP1
  · exact h l p e s m args below meth c H1 locs1 ls C hP1 hS1 hl
  · rw [rt_en_o a2]
    refine congrArg (fun z => (Sum.inr (12, z) : va_E)) (rt_range_set a3 ?_ (fun i hi hne => ?_)).symm
    · have : rt_isR 12 15 = true := rfl
      simp [rt_fv, this, rt_pt, va_rf]
    · simp [rt_fv, rt_pt, hne]
  · intro y hy hne
    have hp : ∀ j, rt_pt b y j = rt_pt r y j := fun j => by simp [rt_pt, hne]
    unfold rt_en rt_fv
    simp only [hp]
end
section
theorem rt_o_iaload {G : rt_G} {d : Nat} {K : rt_K} {Q : rt_Q} {pc : Nat} {lv : rt_V} {I : rt_I} {L : rt_L} {r : Nat} {t : List Value} {q : Nat} {j : Int32} (ho : rt_isA q 0 = true) (hj : vp_in j (rt_lay q).2) (hd : decode K.2.1 pc = .ok (.iaload, 1)) (h : rt_AW G d K Q (pc + 1) lv (.int (I q j.toNatClampNeg) :: t) I L r) : rt_AW G d K Q pc lv (.int j :: .ref q :: t) I L r := by
  intro l p e s m args below meth c H locs ls C hP hS hl
  obtain ⟨a1, a2⟩ := rt_isA_inv ho
  have he := rt_W_at (G := G) (I := I) (L := L) (r := r) a1
  rw [rt_en_i a2] at he
  exact va_iald C.1 C.2.1 C.2.2.2.2.2.2.2.1 hP q 0 he rfl hj hd (h l p e s m args below meth c H locs ls C hP hS hl)
theorem rt_o_baload1 {G : rt_G} {d : Nat} {K : rt_K} {Q : rt_Q} {pc : Nat} {lv : rt_V} {I : rt_I} {L : rt_L} {r : Nat} {t : List Value} {q : Nat} {j : Int32} (ho : rt_isA q 1 = true) (hj : vp_in j (rt_lay q).2) (hd : decode K.2.1 pc = .ok (.baload, 1)) (h : rt_AW G d K Q (pc + 1) lv (.int (I q j.toNatClampNeg) :: t) I L r) : rt_AW G d K Q pc lv (.int j :: .ref q :: t) I L r := by
  intro l p e s m args below meth c H locs ls C hP hS hl
  obtain ⟨a1, a2⟩ := rt_isA_inv ho
  have he := rt_W_at (G := G) (I := I) (L := L) (r := r) a1
  rw [rt_en_b a2] at he
  exact va_bald C.1 C.2.1 C.2.2.2.2.2.2.2.1 hP q 1 he rfl hj hd (h l p e s m args below meth c H locs ls C hP hS hl)
theorem rt_o_baload2 {G : rt_G} {d : Nat} {K : rt_K} {Q : rt_Q} {pc : Nat} {lv : rt_V} {I : rt_I} {L : rt_L} {r : Nat} {t : List Value} {q : Nat} {j : Int32} (ho : rt_isA q 2 = true) (hj : vp_in j (rt_lay q).2) (hd : decode K.2.1 pc = .ok (.baload, 1)) (h : rt_AW G d K Q (pc + 1) lv (.int (I q j.toNatClampNeg) :: t) I L r) : rt_AW G d K Q pc lv (.int j :: .ref q :: t) I L r := by
  intro l p e s m args below meth c H locs ls C hP hS hl
  obtain ⟨a1, a2⟩ := rt_isA_inv ho
  have he := rt_W_at (G := G) (I := I) (L := L) (r := r) a1
  rw [rt_en_z a2] at he
  exact va_zald C.1 C.2.1 C.2.2.2.2.2.2.2.1 hP q 2 he rfl hj hd (h l p e s m args below meth c H locs ls C hP hS hl)
theorem rt_o_laload {G : rt_G} {d : Nat} {K : rt_K} {Q : rt_Q} {pc : Nat} {lv : rt_V} {I : rt_I} {L : rt_L} {r : Nat} {t : List Value} {q : Nat} {j : Int32} (ho : rt_isA q 3 = true) (hj : vp_in j (rt_lay q).2) (hd : decode K.2.1 pc = .ok (.laload, 1)) (h : rt_AW G d K Q (pc + 1) lv (.long (L q j.toNatClampNeg) :: t) I L r) : rt_AW G d K Q pc lv (.int j :: .ref q :: t) I L r := by
  intro l p e s m args below meth c H locs ls C hP hS hl
  obtain ⟨a1, a2⟩ := rt_isA_inv ho
  have he := rt_W_at (G := G) (I := I) (L := L) (r := r) a1
  rw [rt_en_l a2] at he
  exact va_lald C.1 C.2.1 C.2.2.2.2.2.2.2.1 hP q 3 he rfl hj hd (h l p e s m args below meth c H locs ls C hP hS hl)
theorem rt_o_aaload {G : rt_G} {d : Nat} {K : rt_K} {Q : rt_Q} {pc : Nat} {lv : rt_V} {I : rt_I} {L : rt_L} {r : Nat} {t : List Value} {q b : Nat} {j : Int32} (ho : rt_isA q 4 = true) (hj : vp_in j (rt_lay q).2) (hb : rt_pt r q j.toNatClampNeg = some b) (hd : decode K.2.1 pc = .ok (.aaload, 1)) (h : rt_AW G d K Q (pc + 1) lv (.ref b :: t) I L r) : rt_AW G d K Q pc lv (.int j :: .ref q :: t) I L r := by
  intro l p e s m args below meth c H locs ls C hP hS hl
  obtain ⟨a1, a2⟩ := rt_isA_inv ho
  have he := rt_W_at (G := G) (I := I) (L := L) (r := r) a1
  rw [rt_en_q a2] at he
  refine va_aldq C.1 C.2.1 C.2.2.2.2.2.2.2.1 hP q 4 he rfl hj hd ?_
  show W _ _ _ _ _ _ _ _ _ _ _ _ _ _ _ (F0 m (pc + 1) ls (va_rf ((rt_pt r q j.toNatClampNeg).map G.2.2.2) :: _))
  rw [hb]
  exact h l p e s m args below meth c H locs ls C hP hS hl
theorem rt_o_iastore {G : rt_G} {d : Nat} {K : rt_K} {Q : rt_Q} {pc : Nat} {lv : rt_V} {I : rt_I} {L : rt_L} {r : Nat} {t : List Value} {q : Nat} {j : Int32} {v : Int32} (ho : rt_isA q 0 = true) (hj : vp_in j (rt_lay q).2) (hd : decode K.2.1 pc = .ok (.iastore, 1)) (h : rt_AW G d K Q (pc + 1) lv t (rt_u I q j.toNatClampNeg v) L r) : rt_AW G d K Q pc lv (.int v :: .int j :: .ref q :: t) I L r := by
  intro l p e s m args below meth c H locs ls C hP hS hl
  obtain ⟨a1, a2⟩ := rt_isA_inv ho
  have he := rt_W_at (G := G) (I := I) (L := L) (r := r) a1
  rw [rt_en_i a2] at he
  refine va_iast C.1 C.2.1 C.2.2.2.2.2.2.2.1 hP (rt_D C.2.2.2.2.2.2.2.2) hS q 0 he rfl hj hd (fun H1 locs1 hP1 _ hS1 => ?_)
  rw [rt_W_set (I' := (rt_u I q j.toNatClampNeg v)) (L' := L) (r' := r) a1] at hP1
  · exact h l p e s m args below meth c H1 locs1 ls C hP1 hS1 hl
  · rw [rt_en_i a2, rt_u_eq]
  · intro y hy hne
    exact rt_en_ne (rt_u_ne hne)
theorem rt_o_bastore1 {G : rt_G} {d : Nat} {K : rt_K} {Q : rt_Q} {pc : Nat} {lv : rt_V} {I : rt_I} {L : rt_L} {r : Nat} {t : List Value} {q : Nat} {j : Int32} {v : Int32} (ho : rt_isA q 1 = true) (hj : vp_in j (rt_lay q).2) (hd : decode K.2.1 pc = .ok (.bastore, 1)) (h : rt_AW G d K Q (pc + 1) lv t (rt_u I q j.toNatClampNeg (vp_nar .byte v)) L r) : rt_AW G d K Q pc lv (.int v :: .int j :: .ref q :: t) I L r := by
  intro l p e s m args below meth c H locs ls C hP hS hl
  obtain ⟨a1, a2⟩ := rt_isA_inv ho
  have he := rt_W_at (G := G) (I := I) (L := L) (r := r) a1
  rw [rt_en_b a2] at he
  refine va_bast C.1 C.2.1 C.2.2.2.2.2.2.2.1 hP (rt_D C.2.2.2.2.2.2.2.2) hS q 1 he rfl hj hd (fun H1 locs1 hP1 _ hS1 => ?_)
  rw [rt_W_set (I' := (rt_u I q j.toNatClampNeg (vp_nar .byte v))) (L' := L) (r' := r) a1] at hP1
  · exact h l p e s m args below meth c H1 locs1 ls C hP1 hS1 hl
  · rw [rt_en_b a2, rt_u_eq]
  · intro y hy hne
    exact rt_en_ne (rt_u_ne hne)
theorem rt_o_bastore2 {G : rt_G} {d : Nat} {K : rt_K} {Q : rt_Q} {pc : Nat} {lv : rt_V} {I : rt_I} {L : rt_L} {r : Nat} {t : List Value} {q : Nat} {j : Int32} {v : Int32} (ho : rt_isA q 2 = true) (hj : vp_in j (rt_lay q).2) (hd : decode K.2.1 pc = .ok (.bastore, 1)) (h : rt_AW G d K Q (pc + 1) lv t (rt_u I q j.toNatClampNeg (vp_nar .boolean v)) L r) : rt_AW G d K Q pc lv (.int v :: .int j :: .ref q :: t) I L r := by
  intro l p e s m args below meth c H locs ls C hP hS hl
  obtain ⟨a1, a2⟩ := rt_isA_inv ho
  have he := rt_W_at (G := G) (I := I) (L := L) (r := r) a1
  rw [rt_en_z a2] at he
  refine va_zast C.1 C.2.1 C.2.2.2.2.2.2.2.1 hP (rt_D C.2.2.2.2.2.2.2.2) hS q 2 he rfl hj hd (fun H1 locs1 hP1 _ hS1 => ?_)
  rw [rt_W_set (I' := (rt_u I q j.toNatClampNeg (vp_nar .boolean v))) (L' := L) (r' := r) a1] at hP1
  · exact h l p e s m args below meth c H1 locs1 ls C hP1 hS1 hl
  · rw [rt_en_z a2, rt_u_eq]
  · intro y hy hne
    exact rt_en_ne (rt_u_ne hne)
theorem rt_o_lastore {G : rt_G} {d : Nat} {K : rt_K} {Q : rt_Q} {pc : Nat} {lv : rt_V} {I : rt_I} {L : rt_L} {r : Nat} {t : List Value} {q : Nat} {j : Int32} {v : Int64} (ho : rt_isA q 3 = true) (hj : vp_in j (rt_lay q).2) (hd : decode K.2.1 pc = .ok (.lastore, 1)) (h : rt_AW G d K Q (pc + 1) lv t I (rt_uL L q j.toNatClampNeg v) r) : rt_AW G d K Q pc lv (.long v :: .int j :: .ref q :: t) I L r := by
  intro l p e s m args below meth c H locs ls C hP hS hl
  obtain ⟨a1, a2⟩ := rt_isA_inv ho
  have he := rt_W_at (G := G) (I := I) (L := L) (r := r) a1
  rw [rt_en_l a2] at he
  refine va_last C.1 C.2.1 C.2.2.2.2.2.2.2.1 hP (rt_D C.2.2.2.2.2.2.2.2) hS q 3 he rfl hj hd (fun H1 locs1 hP1 _ hS1 => ?_)
  rw [rt_W_set (I' := I) (L' := (rt_uL L q j.toNatClampNeg v)) (r' := r) a1] at hP1
  · exact h l p e s m args below meth c H1 locs1 ls C hP1 hS1 hl
  · rw [rt_en_l a2, rt_uL_eq]
  · intro y hy hne
    exact rt_en_neL (rt_uL_ne hne)
theorem rt_o_alen {G : rt_G} {d : Nat} {K : rt_K} {Q : rt_Q} {pc : Nat} {lv : rt_V} {I : rt_I} {L : rt_L} {r : Nat} {t : List Value} {q : Nat} (h1 : q < rt_NC) (h2 : (rt_lay q).1 < 5) (hd : decode K.2.1 pc = .ok (.arraylength, 1)) (h : rt_AW G d K Q (pc + 1) lv (.int (Int32.ofNat (rt_lay q).2) :: t) I L r) : rt_AW G d K Q pc lv (.ref q :: t) I L r := by
  intro l p e s m args below meth c H locs ls C hP hS hl
  have he := rt_W_at (G := G) (I := I) (L := L) (r := r) h1
  have hk : (rt_lay q).1 = 0 ∨ (rt_lay q).1 = 1 ∨ (rt_lay q).1 = 2 ∨ (rt_lay q).1 = 3 ∨ (rt_lay q).1 = 4 := by omega
  rcases hk with a2 | a2 | a2 | a2 | a2
  · rw [rt_en_i a2] at he
    exact va_alen C.1 C.2.1 C.2.2.2.2.2.2.2.1 hP q 0 he (show (rt_ty G)[0]? = some (G.2.2.1 0, .int) from rfl) rfl hd (h l p e s m args below meth c H locs ls C hP hS hl)
  · rw [rt_en_b a2] at he
    exact va_alen C.1 C.2.1 C.2.2.2.2.2.2.2.1 hP q 1 he (show (rt_ty G)[1]? = some (G.2.2.1 1, .byte) from rfl) rfl hd (h l p e s m args below meth c H locs ls C hP hS hl)
  · rw [rt_en_z a2] at he
    exact va_alen C.1 C.2.1 C.2.2.2.2.2.2.2.1 hP q 2 he (show (rt_ty G)[2]? = some (G.2.2.1 2, .boolean) from rfl) rfl hd (h l p e s m args below meth c H locs ls C hP hS hl)
  · rw [rt_en_l a2] at he
    exact va_alen C.1 C.2.1 C.2.2.2.2.2.2.2.1 hP q 3 he (show (rt_ty G)[3]? = some (G.2.2.1 3, .long) from rfl) rfl hd (h l p e s m args below meth c H locs ls C hP hS hl)
  · rw [rt_en_q a2] at he
    exact va_alen C.1 C.2.1 C.2.2.2.2.2.2.2.1 hP q 4 he (show (rt_ty G)[4]? = some (G.2.2.1 4, .object RX4) from rfl) rfl hd (h l p e s m args below meth c H locs ls C hP hS hl)
theorem rt_o_copy {G : rt_G} {d : Nat} {K : rt_K} {Q : rt_Q} {pc : Nat} {lv : rt_V} {I : rt_I} {L : rt_L} {r : Nat} {t : List Value} {a b x : Nat} {sp dp cn : Int32} (hw : Cond.methodLink K.1.cls x arraycopyName ∈ rt_tbl) (hoa : rt_isA a 0 = true) (hob : rt_isA b 0 = true) (hsm : rt_sm t ≤ 8) (hc : ¬ sp < 0 ∧ ¬ dp < 0 ∧ ¬ cn < 0 ∧ sp.toNatClampNeg + cn.toNatClampNeg ≤ (rt_lay a).2 ∧ dp.toNatClampNeg + cn.toNatClampNeg ≤ (rt_lay b).2) (hd : decode K.2.1 pc = .ok (.invokestatic x, 3))
    (h : rt_AW G (d + 1) K Q (pc + 3) lv t (rt_uA I b (va_cpy (I a) (I b) sp.toNatClampNeg dp.toNatClampNeg cn.toNatClampNeg)) L r) : rt_AW G (d + 1) K Q pc lv (.int cn :: .int dp :: .ref b :: .int sp :: .ref a :: t) I L r := by
  intro l p e s m args below meth c H locs ls C hP hS hl
  obtain ⟨a1, a2⟩ := rt_isA_inv hoa
  obtain ⟨b1, b2⟩ := rt_isA_inv hob
  have hea := rt_W_at (G := G) (I := I) (L := L) (r := r) a1
  have heb := rt_W_at (G := G) (I := I) (L := L) (r := r) b1
  rw [rt_en_i a2] at hea
  rw [rt_en_i b2] at heb
  obtain ⟨w1, w2, w3⟩ := rt_acs
  have ht := C.2.2.2.2.2.1
  refine va_copyi (ty := .int) C.1 C.2.1 (C.2.2.2.1.trans hl.2.1.symm) C.2.2.2.2.1 (ht _ hw) (ht _ w1) (ht _ w2) (ht _ w3) C.2.2.2.2.2.2.2.1 hP (rt_D C.2.2.2.2.2.2.2.2) hS a b 0 0 hea heb rfl rfl rfl hc.1 hc.2.1 hc.2.2.1 hc.2.2.2.1 hc.2.2.2.2 (fun _ _ => rfl) (by show 1 ≤ d + 1; omega) ?_ hd (fun H1 locs1 hP1 _ hS1 => ?_)
  · rw [rt_sm_map]
    show rt_sm t + (nativeFrameWords "java/lang/System" "arraycopy" 5 + 11) ≤ 80 * (d + 1)
    have : nativeFrameWords "java/lang/System" "arraycopy" 5 = 7 := by decide
    omega
  · rw [rt_W_set (I' := rt_uA I b (va_cpy (I a) (I b) sp.toNatClampNeg dp.toNatClampNeg cn.toNatClampNeg)) (L' := L) (r' := r) b1] at hP1
    · exact h l p e s m args below meth c H1 locs1 ls C hP1 hS1 hl
    · rw [rt_en_i b2, rt_uA_eq]
    · intro y hy hne
      exact rt_en_ne (rt_uA_ne hne)
/-- behind a call -/
theorem rt_after {G : rt_G} {pc : Nat} {t : List Value} {K' : rt_K} {Q' : rt_Q} {l : Launch} {p : Program} {e : Env} {s : State} {m : MethodId} {args a' : Array Value} {below : List Frame} {meth : Method} {c : Code} {H : Heap} {locs : List Loc} {ls : Array Slot} {R : Room} {QQ : State → Prop} {st0 : List Value}
    (hr : va_Run p l e R s m args below meth c H locs 0 0 0 0 (F0 m pc ls st0) (t.map (rt_v G.2.2.2)) (rt_Qc G K' Q' a') (rt_A G)) (hS : va_S (rt_A G) s.heap H locs)
    (hk : ∀ v I' L' r' H1 locs1, Q' v I' L' r' → rt_P G I' L' r' H1 → va_S (rt_A G) s.heap H1 locs1 → W p l e R s m args below meth c H1 locs1 0 0 QQ (F0 m (pc + 3) ls ((rt_pu K' v t).map (rt_v G.2.2.2)))) : W p l e R s m args below meth c H locs 0 0 QQ (F0 m pc ls st0) := by
  intro T hT X
  obtain ⟨v, st₀, t1, T', L9, h0, X', hL, e1, e2, ⟨⟨v1, I', L', r', hv, hq, hP'⟩, hz, hkp⟩, st⟩ := hr T hT X
  rw [h0] at hz hkp
  have hv1 : v = rt_rv K' v1 := by cases hv; rfl
  have hw : v.toList ++ t.map (rt_v G.2.2.2) = (rt_pu K' v1 t).map (rt_v G.2.2.2) := by
    rw [hv1]
    unfold rt_rv rt_pu
    cases K'.2.2.2 <;> rfl
  obtain ⟨t2, a1, b1⟩ := hk v1 I' L' r' T'.heap (locs ++ L9) hq (by rw [e1]; exact hP') ⟨Nat.le_trans hS.1 (by rw [e1]; exact hz), fun q h1 h2 => by rw [e1, hkp q (Nat.lt_of_lt_of_le h1 hS.1) h2]; exact hS.2.1 q h1 h2, fun q hq => by
      rcases List.mem_append.mp hq with h | h
      · exact hS.2.2 q h
      · exact hL q h⟩ T' rfl X'
  refine ⟨t2, st t2 ?_, b1⟩
  rw [hw]
  exact a1
theorem rt_blind {G : rt_G} {av : List Value} {I : rt_I} {L : rt_L} {r : Nat} : FrameBlind (rt_Pc G av I L r) := by
  intro a U g mk q
  obtain ⟨q0, q1, q2, q3⟩ := q
  exact ⟨q0, q1, rt_K_moved (u := U) (U := U.calling g mk a) (Vm.Alike.refl U.vm) q2, q3⟩
theorem rt_cb {K K' : rt_K} {G : rt_G} {n x d : Nat} {ci : Option Nat} {p : Program} {s : State} {m : MethodId} {args : Array Value} {meth : Method} {c : Code} (C : rt_C G K p s m args meth c) (hw : Cond.methodLink K.1.cls x K'.1 ∈ rt_tbl) (hok : rt_okK K' n ci) :
    CallB (rt_rm (d + 1)) s args K.1.cls x K'.1 K'.2.1 K'.2.2.1 K'.2.2.2 (rt_ws K') (rt_rm d) 0 0 n := by
  obtain ⟨h1, h2, h3, h4, -⟩ := hok
  exact callB_of n C.2.2.2.2.2.1 (rt_goodIn h1) rfl rfl rfl (C.2.2.2.2.2.1 _ h2) (C.2.2.2.2.2.1 _ hw) h3 ⟨Nat.le_refl _, by show 8 + (K'.2.2.1 + 11) + 80 * d ≤ 80 * (d + 1); omega⟩
theorem rt_o_invv {G : rt_G} {d : Nat} {K : rt_K} {Q : rt_Q} {pc : Nat} {lv : rt_V} {I : rt_I} {L : rt_L} {r : Nat} {t : List Value} {K' : rt_K} {n x b ci : Nat} {as : List Value} {Q' : rt_Q} (hw : Cond.methodLink K.1.cls x K'.1 ∈ rt_tbl) (hok : rt_okK K' n (some ci)) (hn : as.length = n) (ho : rt_isO b ci 0 = true) (hsm : rt_sm t ≤ 8) (hd : decode K.2.1 pc = .ok (.invokevirtual x, 3))
    (hc : rt_Call G d K' (.ref b :: as) I L r Q') (h : ∀ v I' L' r', Q' v I' L' r' → rt_AW G (d + 1) K Q (pc + 3) lv (rt_pu K' v t) I' L' r') : rt_AW G (d + 1) K Q pc lv (as.reverse ++ .ref b :: t) I L r := by
  intro l p e s m args below meth c H locs ls C hP hS hl
  obtain ⟨a1, a2, a3⟩ := rt_isO_inv ho
  have he := rt_W_at (G := G) (I := I) (L := L) (r := r) a1
  rw [rt_en_o a2] at he
  obtain ⟨h1, h2, h3, h4, h5, h6, q, h7, h8⟩ := id hok
  have hK := C.2.2.2.2.2.2.2.1
  have hrun := va_runV (R := rt_rm (d + 1)) (below := below) (meth := meth) (H := H) (locs := locs) (cells := 0) (slots := 0) (e := e) (C := K'.1.cls) (b := G.2.2.2 b) (As := as.map (rt_v G.2.2.2)) (rest := t.map (rt_v G.2.2.2)) (g := F0 m pc ls ((as.reverse ++ .ref b :: t).map (rt_v G.2.2.2))) ⟨C.1, C.2.1, C.2.2.2.1, C.2.2.2.2.1, C.2.2.2.2.2.1⟩ (hc l) ⟨rt_cb C hw hok, C.2.2.2.2.2.1 _ h5, C.2.2.2.2.2.1 _ h6⟩
    ⟨rt_blind, by rw [← h8]; exact va_recv hK hP h7 he, fun U hU hW => ⟨rfl, by rw [hU]; exact hP, rt_K_moved hW.alike hK, C.2.2.2.2.2.2.2.2⟩⟩ rfl (by rw [List.length_map]; exact hn) hl.2.1 (by simp [rt_v]) (lv_room (by rw [rt_sm_map]; exact hsm)) hd ⟨Nat.le_refl _, Nat.le_refl _⟩
  exact rt_after hrun hS (fun v I' L' r' H1 locs1 hq hP1 hS1 => h v I' L' r' hq l p e s m args below meth c H1 locs1 ls C hP1 hS1 hl)
theorem rt_o_invs {G : rt_G} {d : Nat} {K : rt_K} {Q : rt_Q} {pc : Nat} {lv : rt_V} {I : rt_I} {L : rt_L} {r : Nat} {t : List Value} {K' : rt_K} {n x : Nat} {as : List Value} {Q' : rt_Q} (hw : Cond.methodLink K.1.cls x K'.1 ∈ rt_tbl) (hok : rt_okK K' n none) (hn : as.length = n) (hsm : rt_sm t ≤ 8) (hd : decode K.2.1 pc = .ok (.invokestatic x, 3))
    (hc : rt_Call G d K' as I L r Q') (h : ∀ v I' L' r', Q' v I' L' r' → rt_AW G (d + 1) K Q (pc + 3) lv (rt_pu K' v t) I' L' r') : rt_AW G (d + 1) K Q pc lv (as.reverse ++ t) I L r := by
  intro l p e s m args below meth c H locs ls C hP hS hl
  obtain ⟨h1, h2, h3, h4, h5⟩ := id hok
  have hK := C.2.2.2.2.2.2.2.1
  have hrun := va_runS (R := rt_rm (d + 1)) (below := below) (meth := meth) (H := H) (locs := locs) (cells := 0) (slots := 0) (e := e) (As := as.map (rt_v G.2.2.2)) (rest := t.map (rt_v G.2.2.2)) (g := F0 m pc ls ((as.reverse ++ t).map (rt_v G.2.2.2))) ⟨C.1, C.2.1, C.2.2.2.1, C.2.2.2.2.1, C.2.2.2.2.2.1⟩ (hc l) ⟨rt_cb C hw hok, C.2.2.2.2.2.1 _ h5⟩
    ⟨rt_blind, fun U hU hW => ⟨rfl, by rw [hU]; exact hP, rt_K_moved hW.alike hK, C.2.2.2.2.2.2.2.2⟩⟩ rfl (by rw [List.length_map]; exact hn) hl.2.1 (by simp) (lv_room (by rw [rt_sm_map]; exact hsm)) hd ⟨Nat.le_refl _, Nat.le_refl _⟩
  exact rt_after hrun hS (fun v I' L' r' H1 locs1 hq hP1 hS1 => h v I' L' r' hq l p e s m args below meth c H1 locs1 ls C hP1 hS1 hl)
theorem rt_o_iret {G : rt_G} {d : Nat} {K : rt_K} {Q : rt_Q} {pc : Nat} {lv : rt_V} {I : rt_I} {L : rt_L} {r : Nat} {v : Int32} {ty : FieldType} (hr : K.2.2.2 = some ty) (hn : narrow ty (.int v) = .int v) (hd : decode K.2.1 pc = .ok (.ireturn, 1)) (h : Q v I L r) : rt_AW G d K Q pc lv [.int v] I L r := by
  intro l p e s m args below meth c H locs ls C hP hS hl
  have hlk : meth.locks = false := C.2.2.2.2.2.2.1
  exact W.zret (v := v) C.1 C.2.1 (C.2.2.1.trans hr) hn (fun t ht hW => ⟨⟨v, I, L, r, by unfold rt_rv; rw [hr], h, by rw [ht]; exact hP⟩, hS.F ht⟩) hS.2.2 hd
theorem rt_o_vret {G : rt_G} {d : Nat} {K : rt_K} {Q : rt_Q} {pc : Nat} {lv : rt_V} {I : rt_I} {L : rt_L} {r : Nat} (hr : K.2.2.2 = none) (hd : decode K.2.1 pc = .ok (.return_, 1)) (h : Q 0 I L r) : rt_AW G d K Q pc lv [] I L r := by
  intro l p e s m args below meth c H locs ls C hP hS hl
  have hlk : meth.locks = false := C.2.2.2.2.2.2.1
  exact W.vret C.1 C.2.1 (C.2.2.1.trans hr) (fun t ht hW => ⟨⟨0, I, L, r, by unfold rt_rv; rw [hr], h, by rw [ht]; exact hP⟩, hS.F ht⟩) hS.2.2 hd
theorem rt_o_max {G : rt_G} {d : Nat} {K : rt_K} {Q : rt_Q} {pc : Nat} {lv : rt_V} {I : rt_I} {L : rt_L} {r : Nat} {t : List Value} {q : Nat} {x y : Int32} (hw : Cond.methodLink K.1.cls q Lib.Math.max.name ∈ rt_tbl) (hsm : rt_sm t ≤ 8) (hd : decode K.2.1 pc = .ok (.invokestatic q, 3)) (h : rt_AW G (d + 1) K Q (pc + 3) lv (.int (rt_max x y) :: t) I L r) : rt_AW G (d + 1) K Q pc lv (.int y :: .int x :: t) I L r := by
  intro l p e s m args below meth c H locs ls C hP hS hl
  have ht := C.2.2.2.2.2.1
  obtain ⟨w1, w2⟩ := rt_mth
  refine va_mmax C.1 C.2.1 (C.2.2.2.1.trans hl.2.1.symm) C.2.2.2.2.1 (ht _ hw) (ht _ w2.1.1) (ht _ w1) (ht _ w2.1.2) (by show 1 ≤ d + 1; omega) ?_ (Nat.le_refl _) (Nat.le_refl _) hd (h l p e s m args below meth c H locs ls C hP hS hl)
  rw [rt_sm_map]
  show rt_sm t + 13 ≤ 80 * (d + 1)
  omega
theorem rt_o_min {G : rt_G} {d : Nat} {K : rt_K} {Q : rt_Q} {pc : Nat} {lv : rt_V} {I : rt_I} {L : rt_L} {r : Nat} {t : List Value} {q : Nat} {x y : Int32} (hw : Cond.methodLink K.1.cls q Lib.Math.min.name ∈ rt_tbl) (hsm : rt_sm t ≤ 8) (hd : decode K.2.1 pc = .ok (.invokestatic q, 3)) (h : rt_AW G (d + 1) K Q (pc + 3) lv (.int (rt_min x y) :: t) I L r) : rt_AW G (d + 1) K Q pc lv (.int y :: .int x :: t) I L r := by
  intro l p e s m args below meth c H locs ls C hP hS hl
  have ht := C.2.2.2.2.2.1
  obtain ⟨w1, w2⟩ := rt_mth
  refine va_mmin C.1 C.2.1 (C.2.2.2.1.trans hl.2.1.symm) C.2.2.2.2.1 (ht _ hw) (ht _ w2.2.1.1) (ht _ w1) (ht _ w2.2.1.2) (by show 1 ≤ d + 1; omega) ?_ (Nat.le_refl _) (Nat.le_refl _) hd (h l p e s m args below meth c H locs ls C hP hS hl)
  rw [rt_sm_map]
  show rt_sm t + 13 ≤ 80 * (d + 1)
  omega
theorem rt_o_abs {G : rt_G} {d : Nat} {K : rt_K} {Q : rt_Q} {pc : Nat} {lv : rt_V} {I : rt_I} {L : rt_L} {r : Nat} {t : List Value} {q : Nat} {x : Int32} (hw : Cond.methodLink K.1.cls q Lib.Math.abs.name ∈ rt_tbl) (hsm : rt_sm t ≤ 8) (hd : decode K.2.1 pc = .ok (.invokestatic q, 3)) (h : rt_AW G (d + 1) K Q (pc + 3) lv (.int (rt_abs x) :: t) I L r) : rt_AW G (d + 1) K Q pc lv (.int x :: t) I L r := by
  intro l p e s m args below meth c H locs ls C hP hS hl
  have ht := C.2.2.2.2.2.1
  obtain ⟨w1, w2⟩ := rt_mth
  refine va_mabs C.1 C.2.1 (C.2.2.2.1.trans hl.2.1.symm) C.2.2.2.2.1 (ht _ hw) (ht _ w2.2.2.1) (ht _ w1) (ht _ w2.2.2.2) (by show 1 ≤ d + 1; omega) ?_ (Nat.le_refl _) (Nat.le_refl _) hd (h l p e s m args below meth c H locs ls C hP hS hl)
  rw [rt_sm_map]
  show rt_sm t + 13 ≤ 80 * (d + 1)
  omega
end
section
set_option maxHeartbeats 4000000 in
set_option maxRecDepth 20000 in
theorem rt_sound1 {G : rt_G} {d : Nat} {K : rt_K} {Q : rt_Q} {pc : Nat} {lv : rt_V} {st : List Value} {I : rt_I} {L : rt_L} {r : Nat} {z : rt_Z} {i : Instr} {n : Nat} {k : Nat → rt_V → List Value → rt_I → rt_L → Nat → Prop} (hz : rt_okZ K.1.cls z) (hd : decode K.2.1 pc = .ok (i, n)) (hk : ∀ pc' lv' st' I' L' r', k pc' lv' st' I' L' r' → rt_AW G d K Q pc' lv' st' I' L' r')
    (h : rt_wp1 G d z K.2.2.2 Q i n pc lv st I L r k) : rt_AW G d K Q pc lv st I L r := by
  cases i
  case iadd =>
    replace h := rt_ck_inv (b := Nat.beq n 1) h; obtain ⟨hn, h⟩ := h
    obtain rfl := Nat.eq_of_beq_eq_true hn
    replace h := rt_i1_inv h; obtain ⟨y, t, rfl, h⟩ := h
    replace h := rt_i1_inv h; obtain ⟨x, t, rfl, h⟩ := h
    exact rt_o_iadd hd   (hk _ _ _ _ _ _ h)
  case isub =>
    replace h := rt_ck_inv (b := Nat.beq n 1) h; obtain ⟨hn, h⟩ := h
    obtain rfl := Nat.eq_of_beq_eq_true hn
    replace h := rt_i1_inv h; obtain ⟨y, t, rfl, h⟩ := h
    replace h := rt_i1_inv h; obtain ⟨x, t, rfl, h⟩ := h
    exact rt_o_isub hd   (hk _ _ _ _ _ _ h)
  case imul =>
    replace h := rt_ck_inv (b := Nat.beq n 1) h; obtain ⟨hn, h⟩ := h
    obtain rfl := Nat.eq_of_beq_eq_true hn
    replace h := rt_i1_inv h; obtain ⟨y, t, rfl, h⟩ := h
    replace h := rt_i1_inv h; obtain ⟨x, t, rfl, h⟩ := h
    exact rt_o_imul hd   (hk _ _ _ _ _ _ h)
  case iand =>
    replace h := rt_ck_inv (b := Nat.beq n 1) h; obtain ⟨hn, h⟩ := h
    obtain rfl := Nat.eq_of_beq_eq_true hn
    replace h := rt_i1_inv h; obtain ⟨y, t, rfl, h⟩ := h
    replace h := rt_i1_inv h; obtain ⟨x, t, rfl, h⟩ := h
    exact rt_o_iand hd   (hk _ _ _ _ _ _ h)
  case ior =>
    replace h := rt_ck_inv (b := Nat.beq n 1) h; obtain ⟨hn, h⟩ := h
    obtain rfl := Nat.eq_of_beq_eq_true hn
    replace h := rt_i1_inv h; obtain ⟨y, t, rfl, h⟩ := h
    replace h := rt_i1_inv h; obtain ⟨x, t, rfl, h⟩ := h
    exact rt_o_ior hd   (hk _ _ _ _ _ _ h)
  case ixor =>
    replace h := rt_ck_inv (b := Nat.beq n 1) h; obtain ⟨hn, h⟩ := h
    obtain rfl := Nat.eq_of_beq_eq_true hn
    replace h := rt_i1_inv h; obtain ⟨y, t, rfl, h⟩ := h
    replace h := rt_i1_inv h; obtain ⟨x, t, rfl, h⟩ := h
    exact rt_o_ixor hd   (hk _ _ _ _ _ _ h)
  case ishl =>
    replace h := rt_ck_inv (b := Nat.beq n 1) h; obtain ⟨hn, h⟩ := h
    obtain rfl := Nat.eq_of_beq_eq_true hn
    replace h := rt_i1_inv h; obtain ⟨y, t, rfl, h⟩ := h
    replace h := rt_i1_inv h; obtain ⟨x, t, rfl, h⟩ := h
    exact rt_o_ishl hd   (hk _ _ _ _ _ _ h)
  case ishr =>
    replace h := rt_ck_inv (b := Nat.beq n 1) h; obtain ⟨hn, h⟩ := h
    obtain rfl := Nat.eq_of_beq_eq_true hn
    replace h := rt_i1_inv h; obtain ⟨y, t, rfl, h⟩ := h
    replace h := rt_i1_inv h; obtain ⟨x, t, rfl, h⟩ := h
    exact rt_o_ishr hd   (hk _ _ _ _ _ _ h)
  case idiv =>
    replace h := rt_ck_inv (b := Nat.beq n 1) h; obtain ⟨hn, h⟩ := h
    obtain rfl := Nat.eq_of_beq_eq_true hn
    replace h := rt_i1_inv h; obtain ⟨y, t, rfl, h⟩ := h
    replace h := rt_i1_inv h; obtain ⟨x, t, rfl, h⟩ := h
    obtain ⟨hs, h⟩ := h
    exact rt_o_idiv hd  hs (hk _ _ _ _ _ _ h)
  case irem =>
    replace h := rt_ck_inv (b := Nat.beq n 1) h; obtain ⟨hn, h⟩ := h
    obtain rfl := Nat.eq_of_beq_eq_true hn
    replace h := rt_i1_inv h; obtain ⟨y, t, rfl, h⟩ := h
    replace h := rt_i1_inv h; obtain ⟨x, t, rfl, h⟩ := h
    obtain ⟨hs, h⟩ := h
    exact rt_o_irem hd  hs (hk _ _ _ _ _ _ h)
  case iushr =>
    replace h := rt_ck_inv (b := Nat.beq n 1) h; obtain ⟨hn, h⟩ := h
    obtain rfl := Nat.eq_of_beq_eq_true hn
    replace h := rt_i1_inv h; obtain ⟨y, t, rfl, h⟩ := h
    replace h := rt_i1_inv h; obtain ⟨x, t, rfl, h⟩ := h
    exact rt_o_iushr hd   (hk _ _ _ _ _ _ h)
  case ineg =>
    replace h := rt_ck_inv (b := Nat.beq n 1) h; obtain ⟨hn, h⟩ := h
    obtain rfl := Nat.eq_of_beq_eq_true hn
    replace h := rt_i1_inv h; obtain ⟨x, t, rfl, h⟩ := h
    exact rt_o_ineg hd   (hk _ _ _ _ _ _ h)
  case ladd =>
    replace h := rt_ck_inv (b := Nat.beq n 1) h; obtain ⟨hn, h⟩ := h
    obtain rfl := Nat.eq_of_beq_eq_true hn
    replace h := rt_l1_inv h; obtain ⟨y, t, rfl, h⟩ := h
    replace h := rt_l1_inv h; obtain ⟨x, t, rfl, h⟩ := h
    exact rt_o_ladd hd   (hk _ _ _ _ _ _ h)
  case lsub =>
    replace h := rt_ck_inv (b := Nat.beq n 1) h; obtain ⟨hn, h⟩ := h
    obtain rfl := Nat.eq_of_beq_eq_true hn
    replace h := rt_l1_inv h; obtain ⟨y, t, rfl, h⟩ := h
    replace h := rt_l1_inv h; obtain ⟨x, t, rfl, h⟩ := h
    exact rt_o_lsub hd   (hk _ _ _ _ _ _ h)
  case lmul =>
    replace h := rt_ck_inv (b := Nat.beq n 1) h; obtain ⟨hn, h⟩ := h
    obtain rfl := Nat.eq_of_beq_eq_true hn
    replace h := rt_l1_inv h; obtain ⟨y, t, rfl, h⟩ := h
    replace h := rt_l1_inv h; obtain ⟨x, t, rfl, h⟩ := h
    exact rt_o_lmul hd   (hk _ _ _ _ _ _ h)
  case land =>
    replace h := rt_ck_inv (b := Nat.beq n 1) h; obtain ⟨hn, h⟩ := h
    obtain rfl := Nat.eq_of_beq_eq_true hn
    replace h := rt_l1_inv h; obtain ⟨y, t, rfl, h⟩ := h
    replace h := rt_l1_inv h; obtain ⟨x, t, rfl, h⟩ := h
    exact rt_o_land hd   (hk _ _ _ _ _ _ h)
  case lor =>
    replace h := rt_ck_inv (b := Nat.beq n 1) h; obtain ⟨hn, h⟩ := h
    obtain rfl := Nat.eq_of_beq_eq_true hn
    replace h := rt_l1_inv h; obtain ⟨y, t, rfl, h⟩ := h
    replace h := rt_l1_inv h; obtain ⟨x, t, rfl, h⟩ := h
    exact rt_o_lor hd   (hk _ _ _ _ _ _ h)
  case lcmp =>
    replace h := rt_ck_inv (b := Nat.beq n 1) h; obtain ⟨hn, h⟩ := h
    obtain rfl := Nat.eq_of_beq_eq_true hn
    replace h := rt_l1_inv h; obtain ⟨y, t, rfl, h⟩ := h
    replace h := rt_l1_inv h; obtain ⟨x, t, rfl, h⟩ := h
    exact rt_o_lcmp hd   (hk _ _ _ _ _ _ h)
  case lshl =>
    replace h := rt_ck_inv (b := Nat.beq n 1) h; obtain ⟨hn, h⟩ := h
    obtain rfl := Nat.eq_of_beq_eq_true hn
    replace h := rt_i1_inv h; obtain ⟨y, t, rfl, h⟩ := h
    replace h := rt_l1_inv h; obtain ⟨x, t, rfl, h⟩ := h
    exact rt_o_lshl hd   (hk _ _ _ _ _ _ h)
  case lushr =>
    replace h := rt_ck_inv (b := Nat.beq n 1) h; obtain ⟨hn, h⟩ := h
    obtain rfl := Nat.eq_of_beq_eq_true hn
    replace h := rt_i1_inv h; obtain ⟨y, t, rfl, h⟩ := h
    replace h := rt_l1_inv h; obtain ⟨x, t, rfl, h⟩ := h
    exact rt_o_lushr hd   (hk _ _ _ _ _ _ h)
  case i2l =>
    replace h := rt_ck_inv (b := Nat.beq n 1) h; obtain ⟨hn, h⟩ := h
    obtain rfl := Nat.eq_of_beq_eq_true hn
    replace h := rt_i1_inv h; obtain ⟨x, t, rfl, h⟩ := h
    exact rt_o_i2l hd   (hk _ _ _ _ _ _ h)
  case l2i =>
    replace h := rt_ck_inv (b := Nat.beq n 1) h; obtain ⟨hn, h⟩ := h
    obtain rfl := Nat.eq_of_beq_eq_true hn
    replace h := rt_l1_inv h; obtain ⟨x, t, rfl, h⟩ := h
    exact rt_o_l2i hd   (hk _ _ _ _ _ _ h)
  case i2b =>
    replace h := rt_ck_inv (b := Nat.beq n 1) h; obtain ⟨hn, h⟩ := h
    obtain rfl := Nat.eq_of_beq_eq_true hn
    replace h := rt_i1_inv h; obtain ⟨x, t, rfl, h⟩ := h
    exact rt_o_i2b hd   (hk _ _ _ _ _ _ h)
  case i2s =>
    replace h := rt_ck_inv (b := Nat.beq n 1) h; obtain ⟨hn, h⟩ := h
    obtain rfl := Nat.eq_of_beq_eq_true hn
    replace h := rt_i1_inv h; obtain ⟨x, t, rfl, h⟩ := h
    exact rt_o_i2s hd   (hk _ _ _ _ _ _ h)
  case i2c =>
    replace h := rt_ck_inv (b := Nat.beq n 1) h; obtain ⟨hn, h⟩ := h
    obtain rfl := Nat.eq_of_beq_eq_true hn
    replace h := rt_i1_inv h; obtain ⟨x, t, rfl, h⟩ := h
    exact rt_o_i2c hd   (hk _ _ _ _ _ _ h)
  case dup =>
    replace h := rt_ck_inv (b := Nat.beq n 1) h; obtain ⟨hn, h⟩ := h
    obtain rfl := Nat.eq_of_beq_eq_true hn
    replace h := rt_v1_inv h; obtain ⟨v, t, rfl, cv, h⟩ := h
    exact rt_o_dup hd cv  (hk _ _ _ _ _ _ h)
  case pop =>
    replace h := rt_ck_inv (b := Nat.beq n 1) h; obtain ⟨hn, h⟩ := h
    obtain rfl := Nat.eq_of_beq_eq_true hn
    replace h := rt_v1_inv h; obtain ⟨v, t, rfl, cv, h⟩ := h
    exact rt_o_pop hd cv  (hk _ _ _ _ _ _ h)
  case dup_x1 =>
    replace h := rt_ck_inv (b := Nat.beq n 1) h; obtain ⟨hn, h⟩ := h
    obtain rfl := Nat.eq_of_beq_eq_true hn
    replace h := rt_v1_inv h; obtain ⟨v, t, rfl, cv, h⟩ := h
    replace h := rt_v1_inv h; obtain ⟨w, t, rfl, cw, h⟩ := h
    exact rt_o_dup_x1 hd cv cw  (hk _ _ _ _ _ _ h)
  case dup2 =>
    replace h := rt_ck_inv (b := Nat.beq n 1) h; obtain ⟨hn, h⟩ := h
    obtain rfl := Nat.eq_of_beq_eq_true hn
    replace h := rt_v1_inv h; obtain ⟨v, t, rfl, cv, h⟩ := h
    replace h := rt_v1_inv h; obtain ⟨w, t, rfl, cw, h⟩ := h
    exact rt_o_dup2 hd cv cw  (hk _ _ _ _ _ _ h)
  case iconst x =>
    replace h := rt_ck_inv (b := Nat.beq n 1) h; obtain ⟨hn, h⟩ := h
    obtain rfl := Nat.eq_of_beq_eq_true hn
    exact rt_o_iconst hd (hk _ _ _ _ _ _ h)
  case bipush x =>
    replace h := rt_ck_inv (b := Nat.beq n 2 && rt_in8 x) h; obtain ⟨hn, h⟩ := h
    rw [Bool.and_eq_true] at hn
    obtain rfl := Nat.eq_of_beq_eq_true hn.1
    exact rt_o_bipush hn.2 hd (hk _ _ _ _ _ _ h)
  case sipush x =>
    replace h := rt_ck_inv (b := Nat.beq n 3 && rt_in16 x) h; obtain ⟨hn, h⟩ := h
    rw [Bool.and_eq_true] at hn
    obtain rfl := Nat.eq_of_beq_eq_true hn.1
    exact rt_o_sipush hn.2 hd (hk _ _ _ _ _ _ h)
  case lconst x =>
    replace h := rt_ck_inv (b := Nat.beq n 1) h; obtain ⟨hn, h⟩ := h
    obtain rfl := Nat.eq_of_beq_eq_true hn
    exact rt_o_lconst hd (hk _ _ _ _ _ _ h)
  case ldc x =>
    replace h := rt_ck_inv (b := Nat.beq n 2) h; obtain ⟨hn, h⟩ := h
    obtain rfl := Nat.eq_of_beq_eq_true hn
    replace h := rt_fnd_inv h; obtain ⟨v, hv, h⟩ := h
    exact rt_o_ldc (hz.2.2.1 _ hv) hd (hk _ _ _ _ _ _ h)
  case ldc_w x =>
    replace h := rt_ck_inv (b := Nat.beq n 3) h; obtain ⟨hn, h⟩ := h
    obtain rfl := Nat.eq_of_beq_eq_true hn
    replace h := rt_fnd_inv h; obtain ⟨v, hv, h⟩ := h
    exact rt_o_ldc_w (hz.2.2.1 _ hv) hd (hk _ _ _ _ _ _ h)
  case ldc2_w x =>
    replace h := rt_ck_inv (b := Nat.beq n 3) h; obtain ⟨hn, h⟩ := h
    obtain rfl := Nat.eq_of_beq_eq_true hn
    replace h := rt_fnd_inv h; obtain ⟨v, hv, h⟩ := h
    exact rt_o_ldc2_w (hz.2.2.2.1 _ hv) hd (hk _ _ _ _ _ _ h)
  case iload i =>
    replace h := rt_ck_inv (b := Nat.beq n 2) h; obtain ⟨hn, h⟩ := h
    obtain rfl := Nat.eq_of_beq_eq_true hn
    replace h := rt_li_inv h; obtain ⟨x, hv, h⟩ := h
    exact rt_o_iload hv hd (hk _ _ _ _ _ _ h)
  case iload_n i =>
    replace h := rt_ck_inv (b := Nat.beq n 1) h; obtain ⟨hn, h⟩ := h
    obtain rfl := Nat.eq_of_beq_eq_true hn
    replace h := rt_li_inv h; obtain ⟨x, hv, h⟩ := h
    exact rt_o_iload_n hv hd (hk _ _ _ _ _ _ h)
  case lload i =>
    replace h := rt_ck_inv (b := Nat.beq n 2) h; obtain ⟨hn, h⟩ := h
    obtain rfl := Nat.eq_of_beq_eq_true hn
    replace h := rt_ll_inv h; obtain ⟨x, hv, h⟩ := h
    exact rt_o_lload hv hd (hk _ _ _ _ _ _ h)
  case lload_n i =>
    replace h := rt_ck_inv (b := Nat.beq n 1) h; obtain ⟨hn, h⟩ := h
    obtain rfl := Nat.eq_of_beq_eq_true hn
    replace h := rt_ll_inv h; obtain ⟨x, hv, h⟩ := h
    exact rt_o_lload_n hv hd (hk _ _ _ _ _ _ h)
  case aload i =>
    replace h := rt_ck_inv (b := Nat.beq n 2) h; obtain ⟨hn, h⟩ := h
    obtain rfl := Nat.eq_of_beq_eq_true hn
    replace h := rt_lr_inv h; obtain ⟨x, hv, h⟩ := h
    exact rt_o_aload hv hd (hk _ _ _ _ _ _ h)
  case aload_n i =>
    replace h := rt_ck_inv (b := Nat.beq n 1) h; obtain ⟨hn, h⟩ := h
    obtain rfl := Nat.eq_of_beq_eq_true hn
    replace h := rt_lr_inv h; obtain ⟨x, hv, h⟩ := h
    exact rt_o_aload_n hv hd (hk _ _ _ _ _ _ h)
  case istore i =>
    replace h := rt_ck_inv (b := Nat.beq n 2 && rt_okS lv i) h; obtain ⟨hn, h⟩ := h
    rw [Bool.and_eq_true] at hn
    obtain rfl := Nat.eq_of_beq_eq_true hn.1
    replace h := rt_i1_inv h; obtain ⟨x, t, rfl, h⟩ := h
    exact rt_o_istore hn.2 hd (hk _ _ _ _ _ _ h)
  case istore_n i =>
    replace h := rt_ck_inv (b := Nat.beq n 1 && rt_okS lv i.val) h; obtain ⟨hn, h⟩ := h
    rw [Bool.and_eq_true] at hn
    obtain rfl := Nat.eq_of_beq_eq_true hn.1
    replace h := rt_i1_inv h; obtain ⟨x, t, rfl, h⟩ := h
    exact rt_o_istore_n hn.2 hd (hk _ _ _ _ _ _ h)
  case astore i =>
    replace h := rt_ck_inv (b := Nat.beq n 2 && rt_okS lv i) h; obtain ⟨hn, h⟩ := h
    rw [Bool.and_eq_true] at hn
    obtain rfl := Nat.eq_of_beq_eq_true hn.1
    replace h := rt_r1_inv h; obtain ⟨x, t, rfl, h⟩ := h
    exact rt_o_astore hn.2 hd (hk _ _ _ _ _ _ h)
  case astore_n i =>
    replace h := rt_ck_inv (b := Nat.beq n 1 && rt_okS lv i.val) h; obtain ⟨hn, h⟩ := h
    rw [Bool.and_eq_true] at hn
    obtain rfl := Nat.eq_of_beq_eq_true hn.1
    replace h := rt_r1_inv h; obtain ⟨x, t, rfl, h⟩ := h
    exact rt_o_astore_n hn.2 hd (hk _ _ _ _ _ _ h)
  case lstore i =>
    replace h := rt_ck_inv (b := Nat.beq n 2 && (rt_okS lv i && Nat.blt (i + 1) lv.length)) h; obtain ⟨hn, h⟩ := h
    rw [Bool.and_eq_true, Bool.and_eq_true] at hn
    obtain rfl := Nat.eq_of_beq_eq_true hn.1
    replace h := rt_l1_inv h; obtain ⟨x, t, rfl, h⟩ := h
    exact rt_o_lstore hn.2.1 (Nat.le_of_ble_eq_true hn.2.2) hd (hk _ _ _ _ _ _ h)
  case lstore_n i =>
    replace h := rt_ck_inv (b := Nat.beq n 1 && (rt_okS lv i.val && Nat.blt (i.val + 1) lv.length)) h; obtain ⟨hn, h⟩ := h
    rw [Bool.and_eq_true, Bool.and_eq_true] at hn
    obtain rfl := Nat.eq_of_beq_eq_true hn.1
    replace h := rt_l1_inv h; obtain ⟨x, t, rfl, h⟩ := h
    exact rt_o_lstore_n hn.2.1 (Nat.le_of_ble_eq_true hn.2.2) hd (hk _ _ _ _ _ _ h)
  case iinc i v =>
    replace h := rt_ck_inv (b := Nat.beq n 3 && rt_okS lv i) h; obtain ⟨hn, h⟩ := h
    rw [Bool.and_eq_true] at hn
    obtain rfl := Nat.eq_of_beq_eq_true hn.1
    replace h := rt_li_inv h; obtain ⟨x, hv, h⟩ := h
    exact rt_o_iinc hn.2 hv hd (hk _ _ _ _ _ _ h)
  case goto off =>
    replace h := rt_ck_inv (b := Nat.beq n 3 && rt_tk pc off) h; obtain ⟨hn, h⟩ := h
    rw [Bool.and_eq_true] at hn
    obtain rfl := Nat.eq_of_beq_eq_true hn.1
    exact rt_o_goto hn.2 hd (hk _ _ _ _ _ _ h)
  case ifCond cd off =>
    replace h := rt_ck_inv (b := Nat.beq n 3 && rt_tk pc off) h; obtain ⟨hn, h⟩ := h
    rw [Bool.and_eq_true] at hn
    obtain rfl := Nat.eq_of_beq_eq_true hn.1
    replace h := rt_i1_inv h; obtain ⟨x, t, rfl, h⟩ := h
    exact rt_o_ifCond hn.2 hd (rt_br_imp (hk _ _ _ _ _ _) (hk _ _ _ _ _ _) h)
  case if_icmp cd off =>
    replace h := rt_ck_inv (b := Nat.beq n 3 && rt_tk pc off) h; obtain ⟨hn, h⟩ := h
    rw [Bool.and_eq_true] at hn
    obtain rfl := Nat.eq_of_beq_eq_true hn.1
    replace h := rt_i1_inv h; obtain ⟨y, t, rfl, h⟩ := h
    replace h := rt_i1_inv h; obtain ⟨x, t, rfl, h⟩ := h
    exact rt_o_icmp hn.2 hd (rt_br_imp (hk _ _ _ _ _ _) (hk _ _ _ _ _ _) h)
  case tableswitch dflt lo hi offs =>
    replace h := rt_ck_inv (b := rt_tk pc dflt && decide (lo + (offs.toList.length : Int) = hi + 1)) h; obtain ⟨hn, h⟩ := h
    rw [Bool.and_eq_true] at hn
    replace h := rt_i1_inv h; obtain ⟨x, t, rfl, h⟩ := h
    exact rt_o_tsw hn.1 (of_decide_eq_true hn.2) hd (fun q => hk _ _ _ _ _ _ (h.1 q)) (rt_sw_imp (fun _ q => hk _ _ _ _ _ _ q) h.2)
  case lookupswitch dflt ps =>
    replace h := rt_ck_inv (b := ((ps.toList.zip (ps.toList.drop 1)).all (fun (a, next) => a.1 < next.1)) && ps.toList.all (fun q => decide ((Int32.ofInt q.1).toInt = q.1))) h; obtain ⟨hn, h⟩ := h
    rw [Bool.and_eq_true] at hn
    replace h := rt_i1_inv h; obtain ⟨x, t, rfl, h⟩ := h
    exact rt_o_lsw hn.1 hn.2 hd (rt_lsw_imp (fun _ q => hk _ _ _ _ _ _ q) h)
  case getfield x =>
    replace h := rt_ck_inv (b := Nat.beq n 3) h; obtain ⟨hn, h⟩ := h
    obtain rfl := Nat.eq_of_beq_eq_true hn
    replace h := rt_fnd_inv h; obtain ⟨⟨ci, j, tt⟩, hv, h⟩ := h
    replace h := rt_r1_inv h; obtain ⟨q, t, rfl, h⟩ := h
    replace h := rt_ck_inv h; obtain ⟨ho, h⟩ := h
    exact rt_o_getfield (hz.1 _ hv) ho hd (hk _ _ _ _ _ _ h)
  case putfield x =>
    replace h := rt_ck_inv (b := Nat.beq n 3) h; obtain ⟨hn, h⟩ := h
    obtain rfl := Nat.eq_of_beq_eq_true hn
    replace h := rt_fnd_inv h; obtain ⟨⟨ci, j, tt⟩, hv, h⟩ := h
    have hf := hz.1 _ hv
    revert h
    match tt, hf with
    | 0, hf =>
      intro h
      replace h := rt_i1_inv h; obtain ⟨v, t, rfl, h⟩ := h
      replace h := rt_r1_inv h; obtain ⟨q, t, rfl, h⟩ := h
      replace h := rt_ck_inv h; obtain ⟨ho, h⟩ := h
      obtain ⟨q9, g1, g2, g3, g4, -, -⟩ := id hf
      exact rt_o_put (ty := .int) hf (fun q8 h8 => by cases h8.symm.trans g1; exact ⟨(g4 rfl).1, (g4 rfl).2.1⟩) (g4 rfl).2.2 rfl rfl ho hd (hk _ _ _ _ _ _ h)
    | 1, hf =>
      intro h
      replace h := rt_i1_inv h; obtain ⟨v, t, rfl, h⟩ := h
      replace h := rt_r1_inv h; obtain ⟨q, t, rfl, h⟩ := h
      replace h := rt_ck_inv h; obtain ⟨ho, h0, h⟩ := h
      obtain ⟨q9, g1, g2, g3, -, g4, -⟩ := id hf
      exact rt_o_put (ty := .boolean) hf (fun q8 h8 => by cases h8.symm.trans g1; exact ⟨(g4 rfl).1, (g4 rfl).2.1⟩) (g4 rfl).2.2 (by rcases h0 with rfl | rfl <;> rfl) (by rcases h0 with rfl | rfl <;> rfl) ho hd (hk _ _ _ _ _ _ h)
    | 2, hf => exact fun h => False.elim h
    | 3, hf =>
      intro h
      replace h := rt_r1_inv h; obtain ⟨b, t, rfl, h⟩ := h
      replace h := rt_r1_inv h; obtain ⟨q, t, rfl, h⟩ := h
      replace h := rt_ck_inv h; obtain ⟨ho, h⟩ := h
      obtain rfl := Nat.eq_of_beq_eq_true ho
      obtain ⟨q9, g1, g2, g3, -, -, g4⟩ := id hf
      obtain ⟨-, -, rfl, rfl⟩ := g4 rfl
      exact rt_o_putr hf hd (hk _ _ _ _ _ _ h)
    | tt + 4, hf => exact fun h => False.elim h
  case iaload =>
    replace h := rt_ck_inv (b := Nat.beq n 1) h; obtain ⟨hn, h⟩ := h
    obtain rfl := Nat.eq_of_beq_eq_true hn
    replace h := rt_i1_inv h; obtain ⟨j, t, rfl, h⟩ := h
    replace h := rt_r1_inv h; obtain ⟨q, t, rfl, h⟩ := h
    replace h := rt_ck_inv h; obtain ⟨ho, hj, h⟩ := h
    exact rt_o_iaload ho hj hd (hk _ _ _ _ _ _ h)
  case laload =>
    replace h := rt_ck_inv (b := Nat.beq n 1) h; obtain ⟨hn, h⟩ := h
    obtain rfl := Nat.eq_of_beq_eq_true hn
    replace h := rt_i1_inv h; obtain ⟨j, t, rfl, h⟩ := h
    replace h := rt_r1_inv h; obtain ⟨q, t, rfl, h⟩ := h
    replace h := rt_ck_inv h; obtain ⟨ho, hj, h⟩ := h
    exact rt_o_laload ho hj hd (hk _ _ _ _ _ _ h)
  case baload =>
    replace h := rt_ck_inv (b := Nat.beq n 1) h; obtain ⟨hn, h⟩ := h
    obtain rfl := Nat.eq_of_beq_eq_true hn
    replace h := rt_i1_inv h; obtain ⟨j, t, rfl, h⟩ := h
    replace h := rt_r1_inv h; obtain ⟨q, t, rfl, h⟩ := h
    replace h := rt_ck_inv h; obtain ⟨ho, hj, h⟩ := h
    rcases Bool.or_eq_true_iff.mp ho with ho | ho
    · exact rt_o_baload1 ho hj hd (hk _ _ _ _ _ _ h)
    · exact rt_o_baload2 ho hj hd (hk _ _ _ _ _ _ h)
  case aaload =>
    replace h := rt_ck_inv (b := Nat.beq n 1) h; obtain ⟨hn, h⟩ := h
    obtain rfl := Nat.eq_of_beq_eq_true hn
    replace h := rt_i1_inv h; obtain ⟨j, t, rfl, h⟩ := h
    replace h := rt_r1_inv h; obtain ⟨q, t, rfl, h⟩ := h
    replace h := rt_ck_inv h; obtain ⟨ho, hj, b, hb, h⟩ := h
    exact rt_o_aaload ho hj hb hd (hk _ _ _ _ _ _ h)
  case iastore =>
    replace h := rt_ck_inv (b := Nat.beq n 1) h; obtain ⟨hn, h⟩ := h
    obtain rfl := Nat.eq_of_beq_eq_true hn
    replace h := rt_i1_inv h; obtain ⟨v, t, rfl, h⟩ := h
    replace h := rt_i1_inv h; obtain ⟨j, t, rfl, h⟩ := h
    replace h := rt_r1_inv h; obtain ⟨q, t, rfl, h⟩ := h
    replace h := rt_ck_inv h; obtain ⟨ho, hj, h⟩ := h
    exact rt_o_iastore ho hj hd (hk _ _ _ _ _ _ h)
  case lastore =>
    replace h := rt_ck_inv (b := Nat.beq n 1) h; obtain ⟨hn, h⟩ := h
    obtain rfl := Nat.eq_of_beq_eq_true hn
    replace h := rt_l1_inv h; obtain ⟨v, t, rfl, h⟩ := h
    replace h := rt_i1_inv h; obtain ⟨j, t, rfl, h⟩ := h
    replace h := rt_r1_inv h; obtain ⟨q, t, rfl, h⟩ := h
    replace h := rt_ck_inv h; obtain ⟨ho, hj, h⟩ := h
    exact rt_o_lastore ho hj hd (hk _ _ _ _ _ _ h)
  case bastore =>
    replace h := rt_ck_inv (b := Nat.beq n 1) h; obtain ⟨hn, h⟩ := h
    obtain rfl := Nat.eq_of_beq_eq_true hn
    replace h := rt_i1_inv h; obtain ⟨v, t, rfl, h⟩ := h
    replace h := rt_i1_inv h; obtain ⟨j, t, rfl, h⟩ := h
    replace h := rt_r1_inv h; obtain ⟨q, t, rfl, h⟩ := h
    replace h := rt_ck_inv h; obtain ⟨ho, hj, h⟩ := h
    cases ha : rt_isA q 1 with
    | true =>
      rw [ha] at h
      exact rt_o_bastore1 ha hj hd (hk _ _ _ _ _ _ h)
    | false =>
      rw [ha] at h ho
      exact rt_o_bastore2 (by simpa using ho) hj hd (hk _ _ _ _ _ _ h)
  case arraylength =>
    replace h := rt_ck_inv (b := Nat.beq n 1) h; obtain ⟨hn, h⟩ := h
    obtain rfl := Nat.eq_of_beq_eq_true hn
    replace h := rt_r1_inv h; obtain ⟨q, t, rfl, h⟩ := h
    replace h := rt_ck_inv h; obtain ⟨ho, h⟩ := h
    rw [Bool.and_eq_true] at ho
    exact rt_o_alen (Nat.le_of_ble_eq_true ho.1) (Nat.le_of_ble_eq_true ho.2) hd (hk _ _ _ _ _ _ h)
  case invokevirtual x =>
    replace h := rt_ck_inv (b := Nat.beq n 3) h; obtain ⟨hn, h⟩ := h
    obtain rfl := Nat.eq_of_beq_eq_true hn
    revert h hk
    cases d with
    | zero => exact fun _ h => False.elim h
    | succ d =>
      intro hk h
      replace h := rt_fnd_inv h; obtain ⟨⟨K', n9, ci⟩, hv, h⟩ := h
      replace h := rt_popn_inv h; obtain ⟨as, t, rfl, hn, h⟩ := h
      replace h := rt_r1_inv h; obtain ⟨b, t, rfl, h⟩ := h
      rw [List.append_nil] at h
      obtain ⟨hw, hok⟩ := hz.2.1 _ hv
      revert h
      match ci, hok with
      | none, hok => exact fun h => False.elim h
      | some ci, hok =>
        intro h
        obtain ⟨ho, h⟩ := h
        replace h := rt_ck_inv h; obtain ⟨hsm, h⟩ := h
        exact rt_o_invv hw hok hn ho (Nat.le_of_ble_eq_true hsm) hd h (fun v I' L' r' q => hk _ _ _ _ _ _ q)
  case invokestatic x =>
    replace h := rt_ck_inv (b := Nat.beq n 3) h; obtain ⟨hn, h⟩ := h
    obtain rfl := Nat.eq_of_beq_eq_true hn
    revert h hk
    cases d with
    | zero => exact fun _ h => False.elim h
    | succ d =>
      intro hk h
      cases hac : rt_fo z.2.2.2.2 x with
      | some kk =>
        simp only [rt_wp1, hac] at h
        have hm := hz.2.2.2.2 _ (rt_fo_inv hac)
        revert h
        match kk, hm with
        | 0, hm =>
          intro h
          replace h := rt_i1_inv h; obtain ⟨cn, t, rfl, h⟩ := h
          replace h := rt_i1_inv h; obtain ⟨dp, t, rfl, h⟩ := h
          replace h := rt_r1_inv h; obtain ⟨b, t, rfl, h⟩ := h
          replace h := rt_i1_inv h; obtain ⟨sp, t, rfl, h⟩ := h
          replace h := rt_r1_inv h; obtain ⟨a, t, rfl, h⟩ := h
          replace h := rt_ck_inv h; obtain ⟨ho, hc, h⟩ := h
          rw [Bool.and_eq_true, Bool.and_eq_true] at ho
          exact rt_o_copy hm ho.1 ho.2.1 (Nat.le_of_ble_eq_true ho.2.2) hc hd (hk _ _ _ _ _ _ h)
        | 1, hm =>
          intro h
          replace h := rt_i1_inv h; obtain ⟨y, t, rfl, h⟩ := h
          replace h := rt_i1_inv h; obtain ⟨x, t, rfl, h⟩ := h
          replace h := rt_ck_inv h; obtain ⟨hsm, h⟩ := h
          exact rt_o_max hm (Nat.le_of_ble_eq_true hsm) hd (hk _ _ _ _ _ _ h)
        | 2, hm =>
          intro h
          replace h := rt_i1_inv h; obtain ⟨y, t, rfl, h⟩ := h
          replace h := rt_i1_inv h; obtain ⟨x, t, rfl, h⟩ := h
          replace h := rt_ck_inv h; obtain ⟨hsm, h⟩ := h
          exact rt_o_min hm (Nat.le_of_ble_eq_true hsm) hd (hk _ _ _ _ _ _ h)
        | 3, hm =>
          intro h
          replace h := rt_i1_inv h; obtain ⟨x, t, rfl, h⟩ := h
          replace h := rt_ck_inv h; obtain ⟨hsm, h⟩ := h
          exact rt_o_abs hm (Nat.le_of_ble_eq_true hsm) hd (hk _ _ _ _ _ _ h)
        | kk + 4, hm => exact fun h => False.elim h
      | none =>
        simp only [rt_wp1, hac] at h
        replace h := rt_fnd_inv h; obtain ⟨⟨K', n9, ci⟩, hv, h⟩ := h
        replace h := rt_popn_inv h; obtain ⟨as, t, rfl, hn, h⟩ := h
        rw [List.append_nil] at h
        obtain ⟨hw, hok⟩ := hz.2.1 _ hv
        revert h
        match ci, hok with
        | some ci, hok => exact fun h => False.elim h
        | none, hok =>
          intro h
          replace h := rt_ck_inv h; obtain ⟨hsm, h⟩ := h
          exact rt_o_invs hw hok hn (Nat.le_of_ble_eq_true hsm) hd h (fun v I' L' r' q => hk _ _ _ _ _ _ q)
  case ireturn =>
    replace h := rt_ck_inv (b := Nat.beq n 1) h; obtain ⟨hn, h⟩ := h
    obtain rfl := Nat.eq_of_beq_eq_true hn
    match st, h with
    | [.int v], h =>
      cases hr : K.2.2.2 with
      | none => rw [hr] at h; exact False.elim h
      | some ty =>
        rw [hr] at h
        cases ty <;> first | exact False.elim h | exact rt_o_iret hr rfl hd h | (obtain ⟨h0, h⟩ := h; exact rt_o_iret hr (by rcases h0 with rfl | rfl <;> rfl) hd h)
  case return_ =>
    replace h := rt_ck_inv (b := Nat.beq n 1) h; obtain ⟨hn, h⟩ := h
    obtain rfl := Nat.eq_of_beq_eq_true hn
    match st, h with
    | [], h =>
      cases hr : K.2.2.2 with
      | none => rw [hr] at h; exact rt_o_vret hr hd h
      | some ty => rw [hr] at h; exact False.elim h
  all_goals exact False.elim h
theorem rt_sound {G : rt_G} {d : Nat} {K : rt_K} {Q : rt_Q} {z : rt_Z} (hz : rt_okZ K.1.cls z) : ∀ {is : List (Instr × Nat)} {pc : Nat} {lv : rt_V} {st : List Value} {I : rt_I} {L : rt_L} {r : Nat}, rt_dec K.2.1 pc is → rt_wp G d z K.2.2.2 Q (rt_AW G d K Q) is pc lv st I L r → rt_AW G d K Q pc lv st I L r
  | [], _, _, _, _, _, _, _, h => h
  | q :: t, pc, lv, st, I, L, r, hd, h => by
    refine rt_sound1 hz hd.1 (fun pc' lv' st' I' L' r' hq => ?_) h
    cases hb : Nat.beq pc' (pc + q.2) with
    | false => simp only [hb] at hq; exact hq
    | true =>
      simp only [hb] at hq
      obtain rfl := Nat.eq_of_beq_eq_true hb
      exact rt_sound hz hd.2 hq
/-- a block: its bytes by the kernel, the rest by computation -/
theorem rt_blk {G : rt_G} {d : Nat} {K : rt_K} {Q : rt_Q} {z : rt_Z} (hz : rt_okZ K.1.cls z) {is : List (Instr × Nat)} {pc : Nat} {lv : rt_V} {st : List Value} {I : rt_I} {L : rt_L} {r : Nat} (hd : rt_decB K.2.1 pc is = true) (h : rt_wp G d z K.2.2.2 Q (rt_AW G d K Q) is pc lv st I L r) : rt_AW G d K Q pc lv st I L r := rt_sound hz (rt_dec_of hd) h
/-- a local that is no more wanted -/
theorem rt_drop {G : rt_G} {d : Nat} {K : rt_K} {Q : rt_Q} {pc : Nat} {lv : rt_V} {st : List Value} {I : rt_I} {L : rt_L} {r : Nat} (i : Nat) (h : rt_AW G d K Q pc (lv.set i none) st I L r) : rt_AW G d K Q pc lv st I L r := by
  intro l p e s m args below meth c H locs ls C hP hS hl
  refine h l p e s m args below meth c H locs ls C hP hS ⟨by rw [List.length_set]; exact hl.1, hl.2.1, hl.2.2.1, fun q hq => ?_⟩
  obtain ⟨j, w⟩ := q
  obtain ⟨v, hv, rfl⟩ := rt_lvl_mem.mp hq
  by_cases hj : j = i
  · subst hj
    rw [List.getElem?_set] at hv
    simp at hv
  · rw [List.getElem?_set_ne (Ne.symm hj)] at hv
    exact rt_lv_at hl hv
/-- more depth does no harm -/
theorem rt_Call_deep {G : rt_G} {d d' : Nat} {K : rt_K} {Q : rt_Q} {av : List Value} {I : rt_I} {L : rt_L} {r : Nat} (hd : d ≤ d') (h : rt_Call G d K av I L r Q) : rt_Call G d' K av I L r Q := by
  intro l p e ha hc hk s m args below hf happ hP hT
  refine h l p e ha hc hk s m args below hf ?_ hP hT
  unfold Spec.appliesLoose at happ ⊢
  rw [hf] at happ ⊢
  simp only [Bool.and_eq_true, decide_eq_true_eq, State.hasRoom] at happ ⊢
  obtain ⟨⟨h1, h2⟩, h3⟩ := happ
  refine ⟨⟨h1, ?_⟩, h3⟩
  have e1 : (headSpec (rt_ws K) (rt_rm d)).room = rt_rm d := rfl
  have e2 : (headSpec (rt_ws K) (rt_rm d')).room = rt_rm d' := rfl
  rw [e2] at h2
  rw [e1]
  simp only [rt_rm] at h2 ⊢
  obtain ⟨⟨⟨⟨a1, b1, b2, b3, b4, b5⟩, a3⟩, a4⟩, a5⟩ := h2
  exact ⟨⟨⟨⟨by omega, by omega, by omega, by omega, by omega, b5⟩, a3⟩, a4⟩, a5⟩
end
