-- ===== PART A: goes FIRST, ahead of the names: the tables' words, and 'selects' of the private methods out of them =====
/-- a private method of a class that the tables say can be made, by its rows of tables_1 -/
def lw_okq (q : MethodName × Nat) : Prop := (q.1.cls ≠ "java/lang/invoke/MethodHandle" ∧ q.1.cls ≠ "java/lang/invoke/VarHandle") ∧ Cond.instantiable q.1.cls q.2 ∈ tables_1 ∧ Cond.privateMethod q.1 ∈ tables_1 ∧ Cond.instanceMethod q.1 ∈ tables_1
theorem lw_p0 : lw_okq (⟨"RoadsWithTides$Land", "readPlace", "(LRoadsWithTides$Text;)Z"⟩, 9) := ⟨⟨by decide +kernel, by decide +kernel⟩, List.mem_of_getElem? (i := 118) (by decide +kernel), List.mem_of_getElem? (i := 473) (by decide +kernel), List.mem_of_getElem? (i := 474) (by decide +kernel)⟩
theorem lw_p1 : lw_okq (⟨"RoadsWithTides$Land", "readRoad", "(LRoadsWithTides$Text;)Z"⟩, 9) := ⟨⟨by decide +kernel, by decide +kernel⟩, List.mem_of_getElem? (i := 118) (by decide +kernel), List.mem_of_getElem? (i := 490) (by decide +kernel), List.mem_of_getElem? (i := 491) (by decide +kernel)⟩
theorem lw_p2 : lw_okq (⟨"RoadsWithTides$Tide", "readRound", "(LRoadsWithTides$Text;I)Z"⟩, 4) := ⟨⟨by decide +kernel, by decide +kernel⟩, List.mem_of_getElem? (i := 61) (by decide +kernel), List.mem_of_getElem? (i := 527) (by decide +kernel), List.mem_of_getElem? (i := 528) (by decide +kernel)⟩
theorem lw_p3 : lw_okq (⟨"RoadsWithTides$Tide", "readPart", "(LRoadsWithTides$Text;III)Z"⟩, 4) := ⟨⟨by decide +kernel, by decide +kernel⟩, List.mem_of_getElem? (i := 61) (by decide +kernel), List.mem_of_getElem? (i := 531) (by decide +kernel), List.mem_of_getElem? (i := 532) (by decide +kernel)⟩
theorem lw_p4 : lw_okq (⟨"RoadsWithTides$Land", "readCart", "(LRoadsWithTides$Text;)Z"⟩, 9) := ⟨⟨by decide +kernel, by decide +kernel⟩, List.mem_of_getElem? (i := 118) (by decide +kernel), List.mem_of_getElem? (i := 553) (by decide +kernel), List.mem_of_getElem? (i := 554) (by decide +kernel)⟩
theorem lw_p5 : lw_okq (⟨"RoadsWithTides$Rule", "popTo", "(I)V"⟩, 10) := ⟨⟨by decide +kernel, by decide +kernel⟩, List.mem_of_getElem? (i := 81) (by decide +kernel), List.mem_of_getElem? (i := 579) (by decide +kernel), List.mem_of_getElem? (i := 580) (by decide +kernel)⟩
theorem lw_p6 : lw_okq (⟨"RoadsWithTides$Rule", "put", "(I)V"⟩, 10) := ⟨⟨by decide +kernel, by decide +kernel⟩, List.mem_of_getElem? (i := 81) (by decide +kernel), List.mem_of_getElem? (i := 589) (by decide +kernel), List.mem_of_getElem? (i := 590) (by decide +kernel)⟩
theorem lw_p7 : lw_okq (⟨"RoadsWithTides$Rule", "readAhead", "(LRoadsWithTides$Text;)Z"⟩, 10) := ⟨⟨by decide +kernel, by decide +kernel⟩, List.mem_of_getElem? (i := 81) (by decide +kernel), List.mem_of_getElem? (i := 593) (by decide +kernel), List.mem_of_getElem? (i := 594) (by decide +kernel)⟩
theorem lw_p8 : lw_okq (⟨"RoadsWithTides$Rule", "push", "(I)V"⟩, 10) := ⟨⟨by decide +kernel, by decide +kernel⟩, List.mem_of_getElem? (i := 81) (by decide +kernel), List.mem_of_getElem? (i := 598) (by decide +kernel), List.mem_of_getElem? (i := 599) (by decide +kernel)⟩
theorem lw_p9 : lw_okq (⟨"RoadsWithTides$Rule", "readThing", "(LRoadsWithTides$Text;)Z"⟩, 10) := ⟨⟨by decide +kernel, by decide +kernel⟩, List.mem_of_getElem? (i := 81) (by decide +kernel), List.mem_of_getElem? (i := 602) (by decide +kernel), List.mem_of_getElem? (i := 603) (by decide +kernel)⟩
theorem lw_p10 : lw_okq (⟨"RoadsWithTides$Rule", "readClose", "(LRoadsWithTides$Text;)Z"⟩, 10) := ⟨⟨by decide +kernel, by decide +kernel⟩, List.mem_of_getElem? (i := 81) (by decide +kernel), List.mem_of_getElem? (i := 610) (by decide +kernel), List.mem_of_getElem? (i := 611) (by decide +kernel)⟩
theorem lw_p11 : lw_okq (⟨"RoadsWithTides$Rule", "readOperator", "(LRoadsWithTides$Text;)Z"⟩, 10) := ⟨⟨by decide +kernel, by decide +kernel⟩, List.mem_of_getElem? (i := 81) (by decide +kernel), List.mem_of_getElem? (i := 614) (by decide +kernel), List.mem_of_getElem? (i := 615) (by decide +kernel)⟩
theorem lw_p12 : lw_okq (⟨"RoadsWithTides$Rule", "reckon", "()I"⟩, 10) := ⟨⟨by decide +kernel, by decide +kernel⟩, List.mem_of_getElem? (i := 81) (by decide +kernel), List.mem_of_getElem? (i := 692) (by decide +kernel), List.mem_of_getElem? (i := 693) (by decide +kernel)⟩
theorem lw_p13 : lw_okq (⟨"RoadsWithTides$Rule", "valueOf", "(I)I"⟩, 10) := ⟨⟨by decide +kernel, by decide +kernel⟩, List.mem_of_getElem? (i := 81) (by decide +kernel), List.mem_of_getElem? (i := 696) (by decide +kernel), List.mem_of_getElem? (i := 697) (by decide +kernel)⟩
theorem lw_p14 : lw_okq (⟨"RoadsWithTides$Turns", "goOn", "(II)Z"⟩, 12) := ⟨⟨by decide +kernel, by decide +kernel⟩, List.mem_of_getElem? (i := 204) (by decide +kernel), List.mem_of_getElem? (i := 764) (by decide +kernel), List.mem_of_getElem? (i := 765) (by decide +kernel)⟩
theorem lw_p15 : lw_okq (⟨"RoadsWithTides$Day", "readAct", "(LRoadsWithTides$Text;)Z"⟩, 5) := ⟨⟨by decide +kernel, by decide +kernel⟩, List.mem_of_getElem? (i := 289) (by decide +kernel), List.mem_of_getElem? (i := 789) (by decide +kernel), List.mem_of_getElem? (i := 790) (by decide +kernel)⟩
def lw_privs_1 : List (MethodName × Nat) := [(⟨"RoadsWithTides$Land", "readPlace", "(LRoadsWithTides$Text;)Z"⟩, 9), (⟨"RoadsWithTides$Land", "readRoad", "(LRoadsWithTides$Text;)Z"⟩, 9), (⟨"RoadsWithTides$Tide", "readRound", "(LRoadsWithTides$Text;I)Z"⟩, 4), (⟨"RoadsWithTides$Tide", "readPart", "(LRoadsWithTides$Text;III)Z"⟩, 4), (⟨"RoadsWithTides$Land", "readCart", "(LRoadsWithTides$Text;)Z"⟩, 9), (⟨"RoadsWithTides$Rule", "popTo", "(I)V"⟩, 10), (⟨"RoadsWithTides$Rule", "put", "(I)V"⟩, 10), (⟨"RoadsWithTides$Rule", "readAhead", "(LRoadsWithTides$Text;)Z"⟩, 10), (⟨"RoadsWithTides$Rule", "push", "(I)V"⟩, 10), (⟨"RoadsWithTides$Rule", "readThing", "(LRoadsWithTides$Text;)Z"⟩, 10), (⟨"RoadsWithTides$Rule", "readClose", "(LRoadsWithTides$Text;)Z"⟩, 10), (⟨"RoadsWithTides$Rule", "readOperator", "(LRoadsWithTides$Text;)Z"⟩, 10), (⟨"RoadsWithTides$Rule", "reckon", "()I"⟩, 10), (⟨"RoadsWithTides$Rule", "valueOf", "(I)I"⟩, 10), (⟨"RoadsWithTides$Turns", "goOn", "(II)Z"⟩, 12), (⟨"RoadsWithTides$Day", "readAct", "(LRoadsWithTides$Text;)Z"⟩, 5)]
theorem lw_r1 : ∀ q ∈ lw_privs_1, lw_okq q := List.forall_mem_cons.mpr ⟨lw_p0, List.forall_mem_cons.mpr ⟨lw_p1, List.forall_mem_cons.mpr ⟨lw_p2, List.forall_mem_cons.mpr ⟨lw_p3, List.forall_mem_cons.mpr ⟨lw_p4, List.forall_mem_cons.mpr ⟨lw_p5, List.forall_mem_cons.mpr ⟨lw_p6, List.forall_mem_cons.mpr ⟨lw_p7, List.forall_mem_cons.mpr ⟨lw_p8, List.forall_mem_cons.mpr ⟨lw_p9, List.forall_mem_cons.mpr ⟨lw_p10, List.forall_mem_cons.mpr ⟨lw_p11, List.forall_mem_cons.mpr ⟨lw_p12, List.forall_mem_cons.mpr ⟨lw_p13, List.forall_mem_cons.mpr ⟨lw_p14, List.forall_mem_cons.mpr ⟨lw_p15, fun _ h => absurd h List.not_mem_nil⟩⟩⟩⟩⟩⟩⟩⟩⟩⟩⟩⟩⟩⟩⟩⟩
theorem lw_p16 : lw_okq (⟨"RoadsWithTides$Day", "runAct", "(LRoadsWithTides$Turns;III)I"⟩, 5) := ⟨⟨by decide +kernel, by decide +kernel⟩, List.mem_of_getElem? (i := 289) (by decide +kernel), List.mem_of_getElem? (i := 800) (by decide +kernel), List.mem_of_getElem? (i := 801) (by decide +kernel)⟩
theorem lw_p17 : lw_okq (⟨"RoadsWithTides", "soonestWay", "(III)I"⟩, 10) := ⟨⟨by decide +kernel, by decide +kernel⟩, List.mem_of_getElem? (i := 25) (by decide +kernel), List.mem_of_getElem? (i := 871) (by decide +kernel), List.mem_of_getElem? (i := 872) (by decide +kernel)⟩
theorem lw_p18 : lw_okq (⟨"RoadsWithTides$Ways", "noteOut", "(III)V"⟩, 12) := ⟨⟨by decide +kernel, by decide +kernel⟩, List.mem_of_getElem? (i := 312) (by decide +kernel), List.mem_of_getElem? (i := 885) (by decide +kernel), List.mem_of_getElem? (i := 886) (by decide +kernel)⟩
theorem lw_p19 : lw_okq (⟨"RoadsWithTides$Ways", "goBetween", "(IIII)Z"⟩, 12) := ⟨⟨by decide +kernel, by decide +kernel⟩, List.mem_of_getElem? (i := 312) (by decide +kernel), List.mem_of_getElem? (i := 893) (by decide +kernel), List.mem_of_getElem? (i := 894) (by decide +kernel)⟩
theorem lw_p20 : lw_okq (⟨"RoadsWithTides$Ways", "outFrom", "(II)I"⟩, 12) := ⟨⟨by decide +kernel, by decide +kernel⟩, List.mem_of_getElem? (i := 312) (by decide +kernel), List.mem_of_getElem? (i := 897) (by decide +kernel), List.mem_of_getElem? (i := 898) (by decide +kernel)⟩
theorem lw_p21 : lw_okq (⟨"RoadsWithTides$Ways", "leastWayOn", "(IIIII)I"⟩, 12) := ⟨⟨by decide +kernel, by decide +kernel⟩, List.mem_of_getElem? (i := 312) (by decide +kernel), List.mem_of_getElem? (i := 905) (by decide +kernel), List.mem_of_getElem? (i := 906) (by decide +kernel)⟩
theorem lw_p22 : lw_okq (⟨"RoadsWithTides$Ways", "serveAll", "(I)Z"⟩, 12) := ⟨⟨by decide +kernel, by decide +kernel⟩, List.mem_of_getElem? (i := 312) (by decide +kernel), List.mem_of_getElem? (i := 959) (by decide +kernel), List.mem_of_getElem? (i := 960) (by decide +kernel)⟩
theorem lw_p23 : lw_okq (⟨"RoadsWithTides$Marks", "suits", "(IIII)Z"⟩, 7) := ⟨⟨by decide +kernel, by decide +kernel⟩, List.mem_of_getElem? (i := 358) (by decide +kernel), List.mem_of_getElem? (i := 1018) (by decide +kernel), List.mem_of_getElem? (i := 1019) (by decide +kernel)⟩
theorem lw_p24 : lw_okq (⟨"RoadsWithTides$Turns", "draw", "(I)I"⟩, 12) := ⟨⟨by decide +kernel, by decide +kernel⟩, List.mem_of_getElem? (i := 204) (by decide +kernel), List.mem_of_getElem? (i := 1063) (by decide +kernel), List.mem_of_getElem? (i := 1064) (by decide +kernel)⟩
theorem lw_p25 : lw_okq (⟨"java/lang/Throwable", "fillInStackTrace", "(I)Ljava/lang/Throwable;"⟩, 6) := ⟨⟨by decide +kernel, by decide +kernel⟩, List.mem_of_getElem? (i := 1136) (by decide +kernel), List.mem_of_getElem? (i := 1134) (by decide +kernel), List.mem_of_getElem? (i := 1135) (by decide +kernel)⟩
theorem lw_p26 : lw_okq (⟨"RoadsWithTidesModel", "begin", "([BII)V"⟩, 56) := ⟨⟨by decide +kernel, by decide +kernel⟩, List.mem_of_getElem? (i := 1187) (by decide +kernel), List.mem_of_getElem? (i := 1382) (by decide +kernel), List.mem_of_getElem? (i := 1383) (by decide +kernel)⟩
theorem lw_p27 : lw_okq (⟨"RoadsWithTidesModel", "fine", "()Z"⟩, 56) := ⟨⟨by decide +kernel, by decide +kernel⟩, List.mem_of_getElem? (i := 1187) (by decide +kernel), List.mem_of_getElem? (i := 1386) (by decide +kernel), List.mem_of_getElem? (i := 1387) (by decide +kernel)⟩
theorem lw_p28 : lw_okq (⟨"RoadsWithTidesModel", "readLine", "()V"⟩, 56) := ⟨⟨by decide +kernel, by decide +kernel⟩, List.mem_of_getElem? (i := 1187) (by decide +kernel), List.mem_of_getElem? (i := 1390) (by decide +kernel), List.mem_of_getElem? (i := 1391) (by decide +kernel)⟩
theorem lw_p29 : lw_okq (⟨"RoadsWithTidesModel", "here", "()I"⟩, 56) := ⟨⟨by decide +kernel, by decide +kernel⟩, List.mem_of_getElem? (i := 1187) (by decide +kernel), List.mem_of_getElem? (i := 1394) (by decide +kernel), List.mem_of_getElem? (i := 1395) (by decide +kernel)⟩
theorem lw_p30 : lw_okq (⟨"RoadsWithTidesModel", "number", "(I)I"⟩, 56) := ⟨⟨by decide +kernel, by decide +kernel⟩, List.mem_of_getElem? (i := 1187) (by decide +kernel), List.mem_of_getElem? (i := 1398) (by decide +kernel), List.mem_of_getElem? (i := 1399) (by decide +kernel)⟩
theorem lw_p31 : lw_okq (⟨"RoadsWithTidesModel", "digit", "(I)I"⟩, 56) := ⟨⟨by decide +kernel, by decide +kernel⟩, List.mem_of_getElem? (i := 1187) (by decide +kernel), List.mem_of_getElem? (i := 1402) (by decide +kernel), List.mem_of_getElem? (i := 1403) (by decide +kernel)⟩
def lw_privs_2 : List (MethodName × Nat) := [(⟨"RoadsWithTides$Day", "runAct", "(LRoadsWithTides$Turns;III)I"⟩, 5), (⟨"RoadsWithTides", "soonestWay", "(III)I"⟩, 10), (⟨"RoadsWithTides$Ways", "noteOut", "(III)V"⟩, 12), (⟨"RoadsWithTides$Ways", "goBetween", "(IIII)Z"⟩, 12), (⟨"RoadsWithTides$Ways", "outFrom", "(II)I"⟩, 12), (⟨"RoadsWithTides$Ways", "leastWayOn", "(IIIII)I"⟩, 12), (⟨"RoadsWithTides$Ways", "serveAll", "(I)Z"⟩, 12), (⟨"RoadsWithTides$Marks", "suits", "(IIII)Z"⟩, 7), (⟨"RoadsWithTides$Turns", "draw", "(I)I"⟩, 12), (⟨"java/lang/Throwable", "fillInStackTrace", "(I)Ljava/lang/Throwable;"⟩, 6), (⟨"RoadsWithTidesModel", "begin", "([BII)V"⟩, 56), (⟨"RoadsWithTidesModel", "fine", "()Z"⟩, 56), (⟨"RoadsWithTidesModel", "readLine", "()V"⟩, 56), (⟨"RoadsWithTidesModel", "here", "()I"⟩, 56), (⟨"RoadsWithTidesModel", "number", "(I)I"⟩, 56), (⟨"RoadsWithTidesModel", "digit", "(I)I"⟩, 56)]
theorem lw_r2 : ∀ q ∈ lw_privs_2, lw_okq q := List.forall_mem_cons.mpr ⟨lw_p16, List.forall_mem_cons.mpr ⟨lw_p17, List.forall_mem_cons.mpr ⟨lw_p18, List.forall_mem_cons.mpr ⟨lw_p19, List.forall_mem_cons.mpr ⟨lw_p20, List.forall_mem_cons.mpr ⟨lw_p21, List.forall_mem_cons.mpr ⟨lw_p22, List.forall_mem_cons.mpr ⟨lw_p23, List.forall_mem_cons.mpr ⟨lw_p24, List.forall_mem_cons.mpr ⟨lw_p25, List.forall_mem_cons.mpr ⟨lw_p26, List.forall_mem_cons.mpr ⟨lw_p27, List.forall_mem_cons.mpr ⟨lw_p28, List.forall_mem_cons.mpr ⟨lw_p29, List.forall_mem_cons.mpr ⟨lw_p30, List.forall_mem_cons.mpr ⟨lw_p31, fun _ h => absurd h List.not_mem_nil⟩⟩⟩⟩⟩⟩⟩⟩⟩⟩⟩⟩⟩⟩⟩⟩
theorem lw_p32 : lw_okq (⟨"RoadsWithTidesModel", "oneOf", "(CII)I"⟩, 56) := ⟨⟨by decide +kernel, by decide +kernel⟩, List.mem_of_getElem? (i := 1187) (by decide +kernel), List.mem_of_getElem? (i := 1406) (by decide +kernel), List.mem_of_getElem? (i := 1407) (by decide +kernel)⟩
theorem lw_p33 : lw_okq (⟨"RoadsWithTidesModel", "fault", "(I)V"⟩, 56) := ⟨⟨by decide +kernel, by decide +kernel⟩, List.mem_of_getElem? (i := 1187) (by decide +kernel), List.mem_of_getElem? (i := 1410) (by decide +kernel), List.mem_of_getElem? (i := 1411) (by decide +kernel)⟩
theorem lw_p34 : lw_okq (⟨"RoadsWithTidesModel", "need", "(C)V"⟩, 56) := ⟨⟨by decide +kernel, by decide +kernel⟩, List.mem_of_getElem? (i := 1187) (by decide +kernel), List.mem_of_getElem? (i := 1414) (by decide +kernel), List.mem_of_getElem? (i := 1415) (by decide +kernel)⟩
theorem lw_p35 : lw_okq (⟨"RoadsWithTidesModel", "passes", "(C)Z"⟩, 56) := ⟨⟨by decide +kernel, by decide +kernel⟩, List.mem_of_getElem? (i := 1187) (by decide +kernel), List.mem_of_getElem? (i := 1418) (by decide +kernel), List.mem_of_getElem? (i := 1419) (by decide +kernel)⟩
theorem lw_p36 : lw_okq (⟨"RoadsWithTidesModel", "number", "(II)I"⟩, 56) := ⟨⟨by decide +kernel, by decide +kernel⟩, List.mem_of_getElem? (i := 1187) (by decide +kernel), List.mem_of_getElem? (i := 1426) (by decide +kernel), List.mem_of_getElem? (i := 1427) (by decide +kernel)⟩
theorem lw_p37 : lw_okq (⟨"RoadsWithTidesModel", "held", "(I)I"⟩, 56) := ⟨⟨by decide +kernel, by decide +kernel⟩, List.mem_of_getElem? (i := 1187) (by decide +kernel), List.mem_of_getElem? (i := 1441) (by decide +kernel), List.mem_of_getElem? (i := 1442) (by decide +kernel)⟩
theorem lw_p38 : lw_okq (⟨"RoadsWithTidesModel", "sum", "(I)I"⟩, 56) := ⟨⟨by decide +kernel, by decide +kernel⟩, List.mem_of_getElem? (i := 1187) (by decide +kernel), List.mem_of_getElem? (i := 1445) (by decide +kernel), List.mem_of_getElem? (i := 1446) (by decide +kernel)⟩
theorem lw_p39 : lw_okq (⟨"RoadsWithTidesModel", "product", "(I)I"⟩, 56) := ⟨⟨by decide +kernel, by decide +kernel⟩, List.mem_of_getElem? (i := 1187) (by decide +kernel), List.mem_of_getElem? (i := 1449) (by decide +kernel), List.mem_of_getElem? (i := 1450) (by decide +kernel)⟩
theorem lw_p40 : lw_okq (⟨"RoadsWithTidesModel", "thing", "(I)I"⟩, 56) := ⟨⟨by decide +kernel, by decide +kernel⟩, List.mem_of_getElem? (i := 1187) (by decide +kernel), List.mem_of_getElem? (i := 1453) (by decide +kernel), List.mem_of_getElem? (i := 1454) (by decide +kernel)⟩
theorem lw_p41 : lw_okq (⟨"RoadsWithTidesModel", "isPlace", "(I)Z"⟩, 56) := ⟨⟨by decide +kernel, by decide +kernel⟩, List.mem_of_getElem? (i := 1187) (by decide +kernel), List.mem_of_getElem? (i := 1464) (by decide +kernel), List.mem_of_getElem? (i := 1465) (by decide +kernel)⟩
theorem lw_p42 : lw_okq (⟨"RoadsWithTidesModel", "lost", "()I"⟩, 56) := ⟨⟨by decide +kernel, by decide +kernel⟩, List.mem_of_getElem? (i := 1187) (by decide +kernel), List.mem_of_getElem? (i := 1468) (by decide +kernel), List.mem_of_getElem? (i := 1469) (by decide +kernel)⟩
theorem lw_p43 : lw_okq (⟨"RoadsWithTidesModel", "cartsAt", "(II)I"⟩, 56) := ⟨⟨by decide +kernel, by decide +kernel⟩, List.mem_of_getElem? (i := 1187) (by decide +kernel), List.mem_of_getElem? (i := 1472) (by decide +kernel), List.mem_of_getElem? (i := 1473) (by decide +kernel)⟩
theorem lw_p44 : lw_okq (⟨"RoadsWithTidesModel", "isThere", "(II)Z"⟩, 56) := ⟨⟨by decide +kernel, by decide +kernel⟩, List.mem_of_getElem? (i := 1187) (by decide +kernel), List.mem_of_getElem? (i := 1482) (by decide +kernel), List.mem_of_getElem? (i := 1483) (by decide +kernel)⟩
theorem lw_p45 : lw_okq (⟨"RoadsWithTidesModel", "levelAt", "(I)I"⟩, 56) := ⟨⟨by decide +kernel, by decide +kernel⟩, List.mem_of_getElem? (i := 1187) (by decide +kernel), List.mem_of_getElem? (i := 1486) (by decide +kernel), List.mem_of_getElem? (i := 1487) (by decide +kernel)⟩
theorem lw_p46 : lw_okq (⟨"RoadsWithTidesModel", "isRoad", "(I)Z"⟩, 56) := ⟨⟨by decide +kernel, by decide +kernel⟩, List.mem_of_getElem? (i := 1187) (by decide +kernel), List.mem_of_getElem? (i := 1497) (by decide +kernel), List.mem_of_getElem? (i := 1498) (by decide +kernel)⟩
theorem lw_p47 : lw_okq (⟨"RoadsWithTidesModel", "turnsOf", "(IIII)I"⟩, 56) := ⟨⟨by decide +kernel, by decide +kernel⟩, List.mem_of_getElem? (i := 1187) (by decide +kernel), List.mem_of_getElem? (i := 1501) (by decide +kernel), List.mem_of_getElem? (i := 1502) (by decide +kernel)⟩
def lw_privs_3 : List (MethodName × Nat) := [(⟨"RoadsWithTidesModel", "oneOf", "(CII)I"⟩, 56), (⟨"RoadsWithTidesModel", "fault", "(I)V"⟩, 56), (⟨"RoadsWithTidesModel", "need", "(C)V"⟩, 56), (⟨"RoadsWithTidesModel", "passes", "(C)Z"⟩, 56), (⟨"RoadsWithTidesModel", "number", "(II)I"⟩, 56), (⟨"RoadsWithTidesModel", "held", "(I)I"⟩, 56), (⟨"RoadsWithTidesModel", "sum", "(I)I"⟩, 56), (⟨"RoadsWithTidesModel", "product", "(I)I"⟩, 56), (⟨"RoadsWithTidesModel", "thing", "(I)I"⟩, 56), (⟨"RoadsWithTidesModel", "isPlace", "(I)Z"⟩, 56), (⟨"RoadsWithTidesModel", "lost", "()I"⟩, 56), (⟨"RoadsWithTidesModel", "cartsAt", "(II)I"⟩, 56), (⟨"RoadsWithTidesModel", "isThere", "(II)Z"⟩, 56), (⟨"RoadsWithTidesModel", "levelAt", "(I)I"⟩, 56), (⟨"RoadsWithTidesModel", "isRoad", "(I)Z"⟩, 56), (⟨"RoadsWithTidesModel", "turnsOf", "(IIII)I"⟩, 56)]
theorem lw_r3 : ∀ q ∈ lw_privs_3, lw_okq q := List.forall_mem_cons.mpr ⟨lw_p32, List.forall_mem_cons.mpr ⟨lw_p33, List.forall_mem_cons.mpr ⟨lw_p34, List.forall_mem_cons.mpr ⟨lw_p35, List.forall_mem_cons.mpr ⟨lw_p36, List.forall_mem_cons.mpr ⟨lw_p37, List.forall_mem_cons.mpr ⟨lw_p38, List.forall_mem_cons.mpr ⟨lw_p39, List.forall_mem_cons.mpr ⟨lw_p40, List.forall_mem_cons.mpr ⟨lw_p41, List.forall_mem_cons.mpr ⟨lw_p42, List.forall_mem_cons.mpr ⟨lw_p43, List.forall_mem_cons.mpr ⟨lw_p44, List.forall_mem_cons.mpr ⟨lw_p45, List.forall_mem_cons.mpr ⟨lw_p46, List.forall_mem_cons.mpr ⟨lw_p47, fun _ h => absurd h List.not_mem_nil⟩⟩⟩⟩⟩⟩⟩⟩⟩⟩⟩⟩⟩⟩⟩⟩
theorem lw_p48 : lw_okq (⟨"RoadsWithTidesModel", "isCart", "(I)Z"⟩, 56) := ⟨⟨by decide +kernel, by decide +kernel⟩, List.mem_of_getElem? (i := 1187) (by decide +kernel), List.mem_of_getElem? (i := 1511) (by decide +kernel), List.mem_of_getElem? (i := 1512) (by decide +kernel)⟩
theorem lw_p49 : lw_okq (⟨"RoadsWithTidesModel", "refusesOut", "(II)I"⟩, 56) := ⟨⟨by decide +kernel, by decide +kernel⟩, List.mem_of_getElem? (i := 1187) (by decide +kernel), List.mem_of_getElem? (i := 1527) (by decide +kernel), List.mem_of_getElem? (i := 1528) (by decide +kernel)⟩
theorem lw_p50 : lw_okq (⟨"RoadsWithTidesModel", "remember", "([I)V"⟩, 56) := ⟨⟨by decide +kernel, by decide +kernel⟩, List.mem_of_getElem? (i := 1187) (by decide +kernel), List.mem_of_getElem? (i := 1531) (by decide +kernel), List.mem_of_getElem? (i := 1532) (by decide +kernel)⟩
theorem lw_p51 : lw_okq (⟨"RoadsWithTidesModel", "goOut", "(II)I"⟩, 56) := ⟨⟨by decide +kernel, by decide +kernel⟩, List.mem_of_getElem? (i := 1187) (by decide +kernel), List.mem_of_getElem? (i := 1538) (by decide +kernel), List.mem_of_getElem? (i := 1539) (by decide +kernel)⟩
theorem lw_p52 : lw_okq (⟨"RoadsWithTidesModel", "canRound", "(I)Z"⟩, 56) := ⟨⟨by decide +kernel, by decide +kernel⟩, List.mem_of_getElem? (i := 1187) (by decide +kernel), List.mem_of_getElem? (i := 1546) (by decide +kernel), List.mem_of_getElem? (i := 1547) (by decide +kernel)⟩
theorem lw_p53 : lw_okq (⟨"RoadsWithTidesModel", "goRound", "(I)I"⟩, 56) := ⟨⟨by decide +kernel, by decide +kernel⟩, List.mem_of_getElem? (i := 1187) (by decide +kernel), List.mem_of_getElem? (i := 1550) (by decide +kernel), List.mem_of_getElem? (i := 1551) (by decide +kernel)⟩
theorem lw_p54 : lw_okq (⟨"RoadsWithTidesModel", "canChain", "(I)Z"⟩, 56) := ⟨⟨by decide +kernel, by decide +kernel⟩, List.mem_of_getElem? (i := 1187) (by decide +kernel), List.mem_of_getElem? (i := 1558) (by decide +kernel), List.mem_of_getElem? (i := 1559) (by decide +kernel)⟩
theorem lw_p55 : lw_okq (⟨"RoadsWithTidesModel", "canLoad", "(I)Z"⟩, 56) := ⟨⟨by decide +kernel, by decide +kernel⟩, List.mem_of_getElem? (i := 1187) (by decide +kernel), List.mem_of_getElem? (i := 1566) (by decide +kernel), List.mem_of_getElem? (i := 1567) (by decide +kernel)⟩
theorem lw_p56 : lw_okq (⟨"RoadsWithTidesModel", "isUsed", "([II)Z"⟩, 56) := ⟨⟨by decide +kernel, by decide +kernel⟩, List.mem_of_getElem? (i := 1187) (by decide +kernel), List.mem_of_getElem? (i := 1574) (by decide +kernel), List.mem_of_getElem? (i := 1575) (by decide +kernel)⟩
theorem lw_p57 : lw_okq (⟨"RoadsWithTidesModel", "beginTurns", "()V"⟩, 56) := ⟨⟨by decide +kernel, by decide +kernel⟩, List.mem_of_getElem? (i := 1187) (by decide +kernel), List.mem_of_getElem? (i := 1582) (by decide +kernel), List.mem_of_getElem? (i := 1583) (by decide +kernel)⟩
theorem lw_p58 : lw_okq (⟨"RoadsWithTidesModel", "goTurns", "([II)V"⟩, 56) := ⟨⟨by decide +kernel, by decide +kernel⟩, List.mem_of_getElem? (i := 1187) (by decide +kernel), List.mem_of_getElem? (i := 1586) (by decide +kernel), List.mem_of_getElem? (i := 1587) (by decide +kernel)⟩
theorem lw_p59 : lw_okq (⟨"RoadsWithTidesModel", "goTurn", "([I)V"⟩, 56) := ⟨⟨by decide +kernel, by decide +kernel⟩, List.mem_of_getElem? (i := 1187) (by decide +kernel), List.mem_of_getElem? (i := 1590) (by decide +kernel), List.mem_of_getElem? (i := 1591) (by decide +kernel)⟩
theorem lw_p60 : lw_okq (⟨"RoadsWithTidesModel", "tell", "(I)V"⟩, 56) := ⟨⟨by decide +kernel, by decide +kernel⟩, List.mem_of_getElem? (i := 1187) (by decide +kernel), List.mem_of_getElem? (i := 1595) (by decide +kernel), List.mem_of_getElem? (i := 1596) (by decide +kernel)⟩
theorem lw_p61 : lw_okq (⟨"RoadsWithTidesModel", "readAct", "(I)V"⟩, 56) := ⟨⟨by decide +kernel, by decide +kernel⟩, List.mem_of_getElem? (i := 1187) (by decide +kernel), List.mem_of_getElem? (i := 1603) (by decide +kernel), List.mem_of_getElem? (i := 1604) (by decide +kernel)⟩
theorem lw_p62 : lw_okq (⟨"RoadsWithTidesModel", "act", "(III)Z"⟩, 56) := ⟨⟨by decide +kernel, by decide +kernel⟩, List.mem_of_getElem? (i := 1187) (by decide +kernel), List.mem_of_getElem? (i := 1607) (by decide +kernel), List.mem_of_getElem? (i := 1608) (by decide +kernel)⟩
theorem lw_p63 : lw_okq (⟨"RoadsWithTidesModel", "levelIn", "(I)I"⟩, 56) := ⟨⟨by decide +kernel, by decide +kernel⟩, List.mem_of_getElem? (i := 1187) (by decide +kernel), List.mem_of_getElem? (i := 1622) (by decide +kernel), List.mem_of_getElem? (i := 1623) (by decide +kernel)⟩
def lw_privs_4 : List (MethodName × Nat) := [(⟨"RoadsWithTidesModel", "isCart", "(I)Z"⟩, 56), (⟨"RoadsWithTidesModel", "refusesOut", "(II)I"⟩, 56), (⟨"RoadsWithTidesModel", "remember", "([I)V"⟩, 56), (⟨"RoadsWithTidesModel", "goOut", "(II)I"⟩, 56), (⟨"RoadsWithTidesModel", "canRound", "(I)Z"⟩, 56), (⟨"RoadsWithTidesModel", "goRound", "(I)I"⟩, 56), (⟨"RoadsWithTidesModel", "canChain", "(I)Z"⟩, 56), (⟨"RoadsWithTidesModel", "canLoad", "(I)Z"⟩, 56), (⟨"RoadsWithTidesModel", "isUsed", "([II)Z"⟩, 56), (⟨"RoadsWithTidesModel", "beginTurns", "()V"⟩, 56), (⟨"RoadsWithTidesModel", "goTurns", "([II)V"⟩, 56), (⟨"RoadsWithTidesModel", "goTurn", "([I)V"⟩, 56), (⟨"RoadsWithTidesModel", "tell", "(I)V"⟩, 56), (⟨"RoadsWithTidesModel", "readAct", "(I)V"⟩, 56), (⟨"RoadsWithTidesModel", "act", "(III)Z"⟩, 56), (⟨"RoadsWithTidesModel", "levelIn", "(I)I"⟩, 56)]
theorem lw_r4 : ∀ q ∈ lw_privs_4, lw_okq q := List.forall_mem_cons.mpr ⟨lw_p48, List.forall_mem_cons.mpr ⟨lw_p49, List.forall_mem_cons.mpr ⟨lw_p50, List.forall_mem_cons.mpr ⟨lw_p51, List.forall_mem_cons.mpr ⟨lw_p52, List.forall_mem_cons.mpr ⟨lw_p53, List.forall_mem_cons.mpr ⟨lw_p54, List.forall_mem_cons.mpr ⟨lw_p55, List.forall_mem_cons.mpr ⟨lw_p56, List.forall_mem_cons.mpr ⟨lw_p57, List.forall_mem_cons.mpr ⟨lw_p58, List.forall_mem_cons.mpr ⟨lw_p59, List.forall_mem_cons.mpr ⟨lw_p60, List.forall_mem_cons.mpr ⟨lw_p61, List.forall_mem_cons.mpr ⟨lw_p62, List.forall_mem_cons.mpr ⟨lw_p63, fun _ h => absurd h List.not_mem_nil⟩⟩⟩⟩⟩⟩⟩⟩⟩⟩⟩⟩⟩⟩⟩⟩
theorem lw_p64 : lw_okq (⟨"RoadsWithTidesModel", "comesIn", "(II)Z"⟩, 56) := ⟨⟨by decide +kernel, by decide +kernel⟩, List.mem_of_getElem? (i := 1187) (by decide +kernel), List.mem_of_getElem? (i := 1631) (by decide +kernel), List.mem_of_getElem? (i := 1632) (by decide +kernel)⟩
theorem lw_p65 : lw_okq (⟨"RoadsWithTidesModel", "wayOf", "(III)I"⟩, 56) := ⟨⟨by decide +kernel, by decide +kernel⟩, List.mem_of_getElem? (i := 1187) (by decide +kernel), List.mem_of_getElem? (i := 1658) (by decide +kernel), List.mem_of_getElem? (i := 1659) (by decide +kernel)⟩
theorem lw_p66 : lw_okq (⟨"RoadsWithTidesModel", "findSoon", "(III)V"⟩, 56) := ⟨⟨by decide +kernel, by decide +kernel⟩, List.mem_of_getElem? (i := 1187) (by decide +kernel), List.mem_of_getElem? (i := 1662) (by decide +kernel), List.mem_of_getElem? (i := 1663) (by decide +kernel)⟩
theorem lw_p67 : lw_okq (⟨"RoadsWithTidesModel", "soonestBy", "(IIIII)I"⟩, 56) := ⟨⟨by decide +kernel, by decide +kernel⟩, List.mem_of_getElem? (i := 1187) (by decide +kernel), List.mem_of_getElem? (i := 1670) (by decide +kernel), List.mem_of_getElem? (i := 1671) (by decide +kernel)⟩
theorem lw_p68 : lw_okq (⟨"RoadsWithTidesModel", "canGo", "(IIII)Z"⟩, 56) := ⟨⟨by decide +kernel, by decide +kernel⟩, List.mem_of_getElem? (i := 1187) (by decide +kernel), List.mem_of_getElem? (i := 1674) (by decide +kernel), List.mem_of_getElem? (i := 1675) (by decide +kernel)⟩
theorem lw_p69 : lw_okq (⟨"RoadsWithTidesModel", "nextRoad", "(IIIIII)I"⟩, 56) := ⟨⟨by decide +kernel, by decide +kernel⟩, List.mem_of_getElem? (i := 1187) (by decide +kernel), List.mem_of_getElem? (i := 1678) (by decide +kernel), List.mem_of_getElem? (i := 1679) (by decide +kernel)⟩
theorem lw_p70 : lw_okq (⟨"RoadsWithTidesModel", "canCome", "(IIIIII)Z"⟩, 56) := ⟨⟨by decide +kernel, by decide +kernel⟩, List.mem_of_getElem? (i := 1187) (by decide +kernel), List.mem_of_getElem? (i := 1682) (by decide +kernel), List.mem_of_getElem? (i := 1683) (by decide +kernel)⟩
theorem lw_p71 : lw_okq (⟨"RoadsWithTidesModel", "goCarrier", "(IIIII)V"⟩, 56) := ⟨⟨by decide +kernel, by decide +kernel⟩, List.mem_of_getElem? (i := 1187) (by decide +kernel), List.mem_of_getElem? (i := 1706) (by decide +kernel), List.mem_of_getElem? (i := 1707) (by decide +kernel)⟩
theorem lw_p72 : lw_okq (⟨"RoadsWithTidesModel", "soonFrom", "(III)I"⟩, 56) := ⟨⟨by decide +kernel, by decide +kernel⟩, List.mem_of_getElem? (i := 1187) (by decide +kernel), List.mem_of_getElem? (i := 1710) (by decide +kernel), List.mem_of_getElem? (i := 1711) (by decide +kernel)⟩
theorem lw_p73 : lw_okq (⟨"RoadsWithTidesModel", "ridesOn", "(I)Z"⟩, 56) := ⟨⟨by decide +kernel, by decide +kernel⟩, List.mem_of_getElem? (i := 1187) (by decide +kernel), List.mem_of_getElem? (i := 1722) (by decide +kernel), List.mem_of_getElem? (i := 1723) (by decide +kernel)⟩
theorem lw_p74 : lw_okq (⟨"RoadsWithTidesModel", "rides", "(IIIIZ)Z"⟩, 56) := ⟨⟨by decide +kernel, by decide +kernel⟩, List.mem_of_getElem? (i := 1187) (by decide +kernel), List.mem_of_getElem? (i := 1726) (by decide +kernel), List.mem_of_getElem? (i := 1727) (by decide +kernel)⟩
theorem lw_p75 : lw_okq (⟨"RoadsWithTidesModel", "fitsBy", "(IIII)Z"⟩, 56) := ⟨⟨by decide +kernel, by decide +kernel⟩, List.mem_of_getElem? (i := 1187) (by decide +kernel), List.mem_of_getElem? (i := 1750) (by decide +kernel), List.mem_of_getElem? (i := 1751) (by decide +kernel)⟩
theorem lw_p76 : lw_okq (⟨"RoadsWithTidesModel", "findTold", "(III)V"⟩, 56) := ⟨⟨by decide +kernel, by decide +kernel⟩, List.mem_of_getElem? (i := 1187) (by decide +kernel), List.mem_of_getElem? (i := 1759) (by decide +kernel), List.mem_of_getElem? (i := 1760) (by decide +kernel)⟩
theorem lw_p77 : lw_okq (⟨"RoadsWithTidesModel", "toldAt", "(I)I"⟩, 56) := ⟨⟨by decide +kernel, by decide +kernel⟩, List.mem_of_getElem? (i := 1187) (by decide +kernel), List.mem_of_getElem? (i := 1763) (by decide +kernel), List.mem_of_getElem? (i := 1764) (by decide +kernel)⟩
theorem lw_p78 : lw_okq (⟨"RoadsWithTidesModel", "draw", "(I)I"⟩, 56) := ⟨⟨by decide +kernel, by decide +kernel⟩, List.mem_of_getElem? (i := 1187) (by decide +kernel), List.mem_of_getElem? (i := 1775) (by decide +kernel), List.mem_of_getElem? (i := 1776) (by decide +kernel)⟩
def lw_privs_5 : List (MethodName × Nat) := [(⟨"RoadsWithTidesModel", "comesIn", "(II)Z"⟩, 56), (⟨"RoadsWithTidesModel", "wayOf", "(III)I"⟩, 56), (⟨"RoadsWithTidesModel", "findSoon", "(III)V"⟩, 56), (⟨"RoadsWithTidesModel", "soonestBy", "(IIIII)I"⟩, 56), (⟨"RoadsWithTidesModel", "canGo", "(IIII)Z"⟩, 56), (⟨"RoadsWithTidesModel", "nextRoad", "(IIIIII)I"⟩, 56), (⟨"RoadsWithTidesModel", "canCome", "(IIIIII)Z"⟩, 56), (⟨"RoadsWithTidesModel", "goCarrier", "(IIIII)V"⟩, 56), (⟨"RoadsWithTidesModel", "soonFrom", "(III)I"⟩, 56), (⟨"RoadsWithTidesModel", "ridesOn", "(I)Z"⟩, 56), (⟨"RoadsWithTidesModel", "rides", "(IIIIZ)Z"⟩, 56), (⟨"RoadsWithTidesModel", "fitsBy", "(IIII)Z"⟩, 56), (⟨"RoadsWithTidesModel", "findTold", "(III)V"⟩, 56), (⟨"RoadsWithTidesModel", "toldAt", "(I)I"⟩, 56), (⟨"RoadsWithTidesModel", "draw", "(I)I"⟩, 56)]
theorem lw_r5 : ∀ q ∈ lw_privs_5, lw_okq q := List.forall_mem_cons.mpr ⟨lw_p64, List.forall_mem_cons.mpr ⟨lw_p65, List.forall_mem_cons.mpr ⟨lw_p66, List.forall_mem_cons.mpr ⟨lw_p67, List.forall_mem_cons.mpr ⟨lw_p68, List.forall_mem_cons.mpr ⟨lw_p69, List.forall_mem_cons.mpr ⟨lw_p70, List.forall_mem_cons.mpr ⟨lw_p71, List.forall_mem_cons.mpr ⟨lw_p72, List.forall_mem_cons.mpr ⟨lw_p73, List.forall_mem_cons.mpr ⟨lw_p74, List.forall_mem_cons.mpr ⟨lw_p75, List.forall_mem_cons.mpr ⟨lw_p76, List.forall_mem_cons.mpr ⟨lw_p77, List.forall_mem_cons.mpr ⟨lw_p78, fun _ h => absurd h List.not_mem_nil⟩⟩⟩⟩⟩⟩⟩⟩⟩⟩⟩⟩⟩⟩⟩
def lw_privs : List (MethodName × Nat) := lw_privs_1 ++ (lw_privs_2 ++ (lw_privs_3 ++ (lw_privs_4 ++ (lw_privs_5))))
def lw_tbl : List Cond := k2_sels lw_privs ++ tables_1
theorem lw_privs_ok : ∀ q ∈ lw_privs, lw_okq q := by
  show ∀ q ∈ lw_privs_1 ++ (lw_privs_2 ++ (lw_privs_3 ++ (lw_privs_4 ++ (lw_privs_5)))), lw_okq q
  exact List.forall_mem_append.mpr ⟨lw_r1, List.forall_mem_append.mpr ⟨lw_r2, List.forall_mem_append.mpr ⟨lw_r3, List.forall_mem_append.mpr ⟨lw_r4, lw_r5⟩⟩⟩⟩
def RX0 : String := "RoadsWithTides$Day"
def TX0 : u_T := fun k => match k with
  | 0 => ("RoadsWithTides$Day", "kinds", "[I", true)
  | 1 => ("RoadsWithTides$Day", "ones", "[I", true)
  | 2 => ("RoadsWithTides$Day", "others", "[I", true)
  | 3 => ("RoadsWithTides$Day", "many", "I", false)
  | _ => ("RoadsWithTides$Day", "came", "I", false)
def tyX0 : Nat → FieldType := fun k => match k with
  | 0 => .array .int
  | 1 => .array .int
  | 2 => .array .int
  | 3 => .int
  | _ => .int
abbrev wsX00 : List Cond := u_ws RX0 TX0 5
theorem nmX0 : ∀ a, a < 5 → ∀ b, b < 5 → a ≠ b → (TX0 a).2.1 ≠ (TX0 b).2.1 := by decide +kernel
theorem tyX0_ok : ∀ k, k < 5 → parseFieldDescriptor (TX0 k).2.2.1 = some (tyX0 k) := by decide +kernel
abbrev cX0_init : ByteArray := prog_2_method_1_code
def yX0_init : MethodName := ⟨RX0, "<init>", "()V"⟩
abbrev cX0_readActs : ByteArray := prog_2_method_2_code
def yX0_readActs : MethodName := ⟨RX0, "readActs", "(LRoadsWithTides$Text;)I"⟩
abbrev cX0_readAct : ByteArray := prog_2_method_3_code
def yX0_readAct : MethodName := ⟨RX0, "readAct", "(LRoadsWithTides$Text;)Z"⟩
abbrev cX0_runOn : ByteArray := prog_2_method_4_code
def yX0_runOn : MethodName := ⟨RX0, "runOn", "(LRoadsWithTides$Turns;)I"⟩
abbrev cX0_runAct : ByteArray := prog_2_method_5_code
def yX0_runAct : MethodName := ⟨RX0, "runAct", "(LRoadsWithTides$Turns;III)I"⟩
def RX1 : String := "RoadsWithTides$History"
def TX1 : u_T := fun k => match k with
  | 0 => ("RoadsWithTides$History", "ring", "[LRoadsWithTides$Moment;", true)
  | 1 => ("RoadsWithTides$History", "kept", "[LRoadsWithTides$Moment;", true)
  | 2 => ("RoadsWithTides$History", "isKept", "[Z", true)
  | 3 => ("RoadsWithTides$History", "aside", "LRoadsWithTides$Moment;", true)
  | 4 => ("RoadsWithTides$History", "free", "I", false)
  | _ => ("RoadsWithTides$History", "size", "I", false)
def tyX1 : Nat → FieldType := fun k => match k with
  | 0 => .array (.object "RoadsWithTides$Moment")
  | 1 => .array (.object "RoadsWithTides$Moment")
  | 2 => .array .boolean
  | 3 => .object "RoadsWithTides$Moment"
  | 4 => .int
  | _ => .int
abbrev wsX10 : List Cond := u_ws RX1 TX1 6
theorem nmX1 : ∀ a, a < 6 → ∀ b, b < 6 → a ≠ b → (TX1 a).2.1 ≠ (TX1 b).2.1 := by decide +kernel
theorem tyX1_ok : ∀ k, k < 6 → parseFieldDescriptor (TX1 k).2.2.1 = some (tyX1 k) := by decide +kernel
abbrev cX1_init : ByteArray := prog_3_method_1_code
def yX1_init : MethodName := ⟨RX1, "<init>", "()V"⟩
abbrev cX1_prepare : ByteArray := prog_3_method_2_code
def yX1_prepare : MethodName := ⟨RX1, "prepare", "(LRoadsWithTides$Moment;)V"⟩
abbrev cX1_keepIfDone : ByteArray := prog_3_method_3_code
def yX1_keepIfDone : MethodName := ⟨RX1, "keepIfDone", "(I)I"⟩
abbrev cX1_stepBack : ByteArray := prog_3_method_4_code
def yX1_stepBack : MethodName := ⟨RX1, "stepBack", "(LRoadsWithTides$Moment;)Z"⟩
abbrev cX1_store : ByteArray := prog_3_method_5_code
def yX1_store : MethodName := ⟨RX1, "store", "(ILRoadsWithTides$Moment;)Z"⟩
abbrev cX1_restore : ByteArray := prog_3_method_6_code
def yX1_restore : MethodName := ⟨RX1, "restore", "(ILRoadsWithTides$Moment;)Z"⟩
abbrev cX1_forgetAll : ByteArray := prog_3_method_7_code
def yX1_forgetAll : MethodName := ⟨RX1, "forgetAll", "()V"⟩
def RX2 : String := "RoadsWithTides$Land"
def TX2 : u_T := fun k => match k with
  | 0 => ("RoadsWithTides$Land", "present", "LRoadsWithTides$Moment;", true)
  | 1 => ("RoadsWithTides$Land", "places", "I", false)
  | 2 => ("RoadsWithTides$Land", "roads", "I", false)
  | 3 => ("RoadsWithTides$Land", "placeHeight", "[I", true)
  | 4 => ("RoadsWithTides$Land", "steps", "[I", true)
  | 5 => ("RoadsWithTides$Land", "roadHeight", "[I", true)
  | 6 => ("RoadsWithTides$Land", "newPlaces", "I", false)
  | 7 => ("RoadsWithTides$Land", "newRoads", "I", false)
  | _ => ("RoadsWithTides$Land", "newCarts", "I", false)
def tyX2 : Nat → FieldType := fun k => match k with
  | 0 => .object "RoadsWithTides$Moment"
  | 1 => .int
  | 2 => .int
  | 3 => .array .int
  | 4 => .array .int
  | 5 => .array .int
  | 6 => .int
  | 7 => .int
  | _ => .int
abbrev wsX20 : List Cond := u_ws RX2 TX2 9
theorem nmX2 : ∀ a, a < 9 → ∀ b, b < 9 → a ≠ b → (TX2 a).2.1 ≠ (TX2 b).2.1 := by decide +kernel
theorem tyX2_ok : ∀ k, k < 9 → parseFieldDescriptor (TX2 k).2.2.1 = some (tyX2 k) := by decide +kernel
abbrev cX2_init : ByteArray := prog_4_method_1_code
def yX2_init : MethodName := ⟨RX2, "<init>", "()V"⟩
abbrev cX2_hasPlace : ByteArray := prog_4_method_2_code
def yX2_hasPlace : MethodName := ⟨RX2, "hasPlace", "(I)Z"⟩
abbrev cX2_hasRoad : ByteArray := prog_4_method_3_code
def yX2_hasRoad : MethodName := ⟨RX2, "hasRoad", "(I)Z"⟩
abbrev cX2_hasCart : ByteArray := prog_4_method_4_code
def yX2_hasCart : MethodName := ⟨RX2, "hasCart", "(I)Z"⟩
abbrev cX2_allPlaces : ByteArray := prog_4_method_5_code
def yX2_allPlaces : MethodName := ⟨RX2, "allPlaces", "()I"⟩
abbrev cX2_roadsAt : ByteArray := prog_4_method_6_code
def yX2_roadsAt : MethodName := ⟨RX2, "roadsAt", "(I)I"⟩
abbrev cX2_readFlats : ByteArray := prog_4_method_7_code
def yX2_readFlats : MethodName := ⟨RX2, "readFlats", "(LRoadsWithTides$Text;)I"⟩
abbrev cX2_readPlace : ByteArray := prog_4_method_8_code
def yX2_readPlace : MethodName := ⟨RX2, "readPlace", "(LRoadsWithTides$Text;)Z"⟩
abbrev cX2_readRoad : ByteArray := prog_4_method_9_code
def yX2_readRoad : MethodName := ⟨RX2, "readRoad", "(LRoadsWithTides$Text;)Z"⟩
abbrev cX2_acceptFlats : ByteArray := prog_4_method_10_code
def yX2_acceptFlats : MethodName := ⟨RX2, "acceptFlats", "()V"⟩
abbrev cX2_readCarts : ByteArray := prog_4_method_11_code
def yX2_readCarts : MethodName := ⟨RX2, "readCarts", "(LRoadsWithTides$Text;)I"⟩
abbrev cX2_readCart : ByteArray := prog_4_method_12_code
def yX2_readCart : MethodName := ⟨RX2, "readCart", "(LRoadsWithTides$Text;)Z"⟩
abbrev cX2_acceptCarts : ByteArray := prog_4_method_13_code
def yX2_acceptCarts : MethodName := ⟨RX2, "acceptCarts", "()V"⟩
abbrev cX2_tellHeights : ByteArray := prog_4_method_14_code
def yX2_tellHeights : MethodName := ⟨RX2, "tellHeights", "(IIII)I"⟩
abbrev cX2_entryOf : ByteArray := prog_4_method_15_code
def yX2_entryOf : MethodName := ⟨RX2, "entryOf", "(II)I"⟩
def RX3 : String := "RoadsWithTides$Marks"
def TX3 : u_T := fun k => match k with
  | 0 => ("RoadsWithTides$Marks", "times", "[I", true)
  | 1 => ("RoadsWithTides$Marks", "levels", "[I", true)
  | 2 => ("RoadsWithTides$Marks", "many", "I", false)
  | 3 => ("RoadsWithTides$Marks", "seen", "[J", true)
  | 4 => ("RoadsWithTides$Marks", "leastLong", "I", false)
  | 5 => ("RoadsWithTides$Marks", "leastHigh", "I", false)
  | _ => ("RoadsWithTides$Marks", "leastOn", "I", false)
def tyX3 : Nat → FieldType := fun k => match k with
  | 0 => .array .int
  | 1 => .array .int
  | 2 => .int
  | 3 => .array .long
  | 4 => .int
  | 5 => .int
  | _ => .int
abbrev wsX30 : List Cond := u_ws RX3 TX3 7
theorem nmX3 : ∀ a, a < 7 → ∀ b, b < 7 → a ≠ b → (TX3 a).2.1 ≠ (TX3 b).2.1 := by decide +kernel
theorem tyX3_ok : ∀ k, k < 7 → parseFieldDescriptor (TX3 k).2.2.1 = some (tyX3 k) := by decide +kernel
abbrev cX3_init : ByteArray := prog_5_method_1_code
def yX3_init : MethodName := ⟨RX3, "<init>", "()V"⟩
abbrev cX3_isError : ByteArray := prog_5_method_2_code
def yX3_isError : MethodName := ⟨RX3, "isError", "(I)Z"⟩
abbrev cX3_isTime : ByteArray := prog_5_method_3_code
def yX3_isTime : MethodName := ⟨RX3, "isTime", "(I)Z"⟩
abbrev cX3_put : ByteArray := prog_5_method_4_code
def yX3_put : MethodName := ⟨RX3, "put", "(II)Z"⟩
abbrev cX3_search : ByteArray := prog_5_method_5_code
def yX3_search : MethodName := ⟨RX3, "search", "(III)I"⟩
abbrev cX3_suits : ByteArray := prog_5_method_6_code
def yX3_suits : MethodName := ⟨RX3, "suits", "(IIII)Z"⟩
def RX4 : String := "RoadsWithTides$Moment"
def TX4 : u_T := fun k => match k with
  | 0 => ("RoadsWithTides$Moment", "now", "I", false)
  | 1 => ("RoadsWithTides$Moment", "cartCount", "I", false)
  | 2 => ("RoadsWithTides$Moment", "cartParts", "[I", true)
  | 3 => ("RoadsWithTides$Moment", "first", "[I", true)
  | _ => ("RoadsWithTides$Moment", "other", "[I", true)
def tyX4 : Nat → FieldType := fun k => match k with
  | 0 => .int
  | 1 => .int
  | 2 => .array .int
  | 3 => .array .int
  | _ => .array .int
abbrev wsX40 : List Cond := u_ws RX4 TX4 5
theorem nmX4 : ∀ a, a < 5 → ∀ b, b < 5 → a ≠ b → (TX4 a).2.1 ≠ (TX4 b).2.1 := by decide +kernel
theorem tyX4_ok : ∀ k, k < 5 → parseFieldDescriptor (TX4 k).2.2.1 = some (tyX4 k) := by decide +kernel
abbrev cX4_init : ByteArray := prog_6_method_1_code
def yX4_init : MethodName := ⟨RX4, "<init>", "()V"⟩
abbrev cX4_copyFrom : ByteArray := prog_6_method_2_code
def yX4_copyFrom : MethodName := ⟨RX4, "copyFrom", "(LRoadsWithTides$Moment;)V"⟩
abbrev cX4_of : ByteArray := prog_6_method_3_code
def yX4_of : MethodName := ⟨RX4, "of", "(II)I"⟩
abbrev cX4_put : ByteArray := prog_6_method_4_code
def yX4_put : MethodName := ⟨RX4, "put", "(III)V"⟩
abbrev cX4_putAtPlace : ByteArray := prog_6_method_5_code
def yX4_putAtPlace : MethodName := ⟨RX4, "putAtPlace", "(II)V"⟩
abbrev cX4_putOnRoad : ByteArray := prog_6_method_6_code
def yX4_putOnRoad : MethodName := ⟨RX4, "putOnRoad", "(IIII)V"⟩
abbrev cX4_cartsWith : ByteArray := prog_6_method_7_code
def yX4_cartsWith : MethodName := ⟨RX4, "cartsWith", "(II)I"⟩
abbrev cX4_cartsCut : ByteArray := prog_6_method_8_code
def yX4_cartsCut : MethodName := ⟨RX4, "cartsCut", "()I"⟩
abbrev cX4_farEnd : ByteArray := prog_6_method_9_code
def yX4_farEnd : MethodName := ⟨RX4, "farEnd", "(II)I"⟩
def RX5 : String := "RoadsWithTides$Row"
def TX5 : u_T := fun k => match k with
  | 0 => ("RoadsWithTides$Row", "numbers", "[I", true)
  | _ => ("RoadsWithTides$Row", "size", "I", false)
def tyX5 : Nat → FieldType := fun k => match k with
  | 0 => .array .int
  | _ => .int
abbrev wsX50 : List Cond := u_ws RX5 TX5 2
theorem nmX5 : ∀ a, a < 2 → ∀ b, b < 2 → a ≠ b → (TX5 a).2.1 ≠ (TX5 b).2.1 := by decide +kernel
theorem tyX5_ok : ∀ k, k < 2 → parseFieldDescriptor (TX5 k).2.2.1 = some (tyX5 k) := by decide +kernel
abbrev cX5_init : ByteArray := prog_7_method_1_code
def yX5_init : MethodName := ⟨RX5, "<init>", "()V"⟩
abbrev cX5_clear : ByteArray := prog_7_method_2_code
def yX5_clear : MethodName := ⟨RX5, "clear", "()V"⟩
abbrev cX5_add : ByteArray := prog_7_method_3_code
def yX5_add : MethodName := ⟨RX5, "add", "(I)V"⟩
def RX6 : String := "RoadsWithTides$Rule"
def TX6 : u_T := fun k => match k with
  | 0 => ("RoadsWithTides$Rule", "code", "[I", true)
  | 1 => ("RoadsWithTides$Rule", "size", "I", false)
  | 2 => ("RoadsWithTides$Rule", "draft", "[I", true)
  | 3 => ("RoadsWithTides$Rule", "draftSize", "I", false)
  | 4 => ("RoadsWithTides$Rule", "waiting", "[I", true)
  | 5 => ("RoadsWithTides$Rule", "waitingSize", "I", false)
  | 6 => ("RoadsWithTides$Rule", "stack", "[I", true)
  | 7 => ("RoadsWithTides$Rule", "values", "[I", true)
  | 8 => ("RoadsWithTides$Rule", "depth", "I", false)
  | _ => ("RoadsWithTides$Rule", "compared", "I", false)
def tyX6 : Nat → FieldType := fun k => match k with
  | 0 => .array .int
  | 1 => .int
  | 2 => .array .int
  | 3 => .int
  | 4 => .array .int
  | 5 => .int
  | 6 => .array .int
  | 7 => .array .int
  | 8 => .int
  | _ => .int
abbrev wsX60 : List Cond := u_ws RX6 TX6 10
theorem nmX6 : ∀ a, a < 10 → ∀ b, b < 10 → a ≠ b → (TX6 a).2.1 ≠ (TX6 b).2.1 := by decide +kernel
theorem tyX6_ok : ∀ k, k < 10 → parseFieldDescriptor (TX6 k).2.2.1 = some (tyX6 k) := by decide +kernel
abbrev cX6_init : ByteArray := prog_8_method_1_code
def yX6_init : MethodName := ⟨RX6, "<init>", "()V"⟩
abbrev cX6_readRule : ByteArray := prog_8_method_2_code
def yX6_readRule : MethodName := ⟨RX6, "readRule", "(LRoadsWithTides$Text;)Z"⟩
abbrev cX6_readAhead : ByteArray := prog_8_method_3_code
def yX6_readAhead : MethodName := ⟨RX6, "readAhead", "(LRoadsWithTides$Text;)Z"⟩
abbrev cX6_readThing : ByteArray := prog_8_method_4_code
def yX6_readThing : MethodName := ⟨RX6, "readThing", "(LRoadsWithTides$Text;)Z"⟩
abbrev cX6_readClose : ByteArray := prog_8_method_5_code
def yX6_readClose : MethodName := ⟨RX6, "readClose", "(LRoadsWithTides$Text;)Z"⟩
abbrev cX6_readOperator : ByteArray := prog_8_method_6_code
def yX6_readOperator : MethodName := ⟨RX6, "readOperator", "(LRoadsWithTides$Text;)Z"⟩
abbrev cX6_popTo : ByteArray := prog_8_method_7_code
def yX6_popTo : MethodName := ⟨RX6, "popTo", "(I)V"⟩
abbrev cX6_push : ByteArray := prog_8_method_8_code
def yX6_push : MethodName := ⟨RX6, "push", "(I)V"⟩
abbrev cX6_put : ByteArray := prog_8_method_9_code
def yX6_put : MethodName := ⟨RX6, "put", "(I)V"⟩
abbrev cX6_letterOf : ByteArray := prog_8_method_10_code
def yX6_letterOf : MethodName := ⟨RX6, "letterOf", "(I)I"⟩
abbrev cX6_rankOf : ByteArray := prog_8_method_11_code
def yX6_rankOf : MethodName := ⟨RX6, "rankOf", "(I)I"⟩
abbrev cX6_accept : ByteArray := prog_8_method_12_code
def yX6_accept : MethodName := ⟨RX6, "accept", "()V"⟩
abbrev cX6_turnsOf : ByteArray := prog_8_method_13_code
def yX6_turnsOf : MethodName := ⟨RX6, "turnsOf", "(IIIIII)I"⟩
abbrev cX6_reckon : ByteArray := prog_8_method_14_code
def yX6_reckon : MethodName := ⟨RX6, "reckon", "()I"⟩
abbrev cX6_valueOf : ByteArray := prog_8_method_15_code
def yX6_valueOf : MethodName := ⟨RX6, "valueOf", "(I)I"⟩
abbrev cX6_join : ByteArray := prog_8_method_16_code
def yX6_join : MethodName := ⟨RX6, "join", "(III)I"⟩
def RX7 : String := "RoadsWithTides$Text"
def TX7 : u_T := fun k => match k with
  | 0 => ("RoadsWithTides$Text", "signs", "[I", true)
  | 1 => ("RoadsWithTides$Text", "length", "I", false)
  | 2 => ("RoadsWithTides$Text", "at", "I", false)
  | _ => ("RoadsWithTides$Text", "limit", "I", false)
def tyX7 : Nat → FieldType := fun k => match k with
  | 0 => .array .int
  | 1 => .int
  | 2 => .int
  | _ => .int
abbrev wsX70 : List Cond := u_ws RX7 TX7 4
theorem nmX7 : ∀ a, a < 4 → ∀ b, b < 4 → a ≠ b → (TX7 a).2.1 ≠ (TX7 b).2.1 := by decide +kernel
theorem tyX7_ok : ∀ k, k < 4 → parseFieldDescriptor (TX7 k).2.2.1 = some (tyX7 k) := by decide +kernel
abbrev cX7_init : ByteArray := prog_9_method_1_code
def yX7_init : MethodName := ⟨RX7, "<init>", "()V"⟩
abbrev cX7_addFour : ByteArray := prog_9_method_2_code
def yX7_addFour : MethodName := ⟨RX7, "addFour", "(I)Z"⟩
abbrev cX7_cutTo : ByteArray := prog_9_method_3_code
def yX7_cutTo : MethodName := ⟨RX7, "cutTo", "(I)Z"⟩
abbrev cX7_clear : ByteArray := prog_9_method_4_code
def yX7_clear : MethodName := ⟨RX7, "clear", "()V"⟩
abbrev cX7_open : ByteArray := prog_9_method_5_code
def yX7_open : MethodName := ⟨RX7, "open", "(I)V"⟩
abbrev cX7_isAllRead : ByteArray := prog_9_method_6_code
def yX7_isAllRead : MethodName := ⟨RX7, "isAllRead", "()Z"⟩
abbrev cX7_peek : ByteArray := prog_9_method_7_code
def yX7_peek : MethodName := ⟨RX7, "peek", "()I"⟩
abbrev cX7_take : ByteArray := prog_9_method_8_code
def yX7_take : MethodName := ⟨RX7, "take", "(I)Z"⟩
abbrev cX7_isDigit : ByteArray := prog_9_method_9_code
def yX7_isDigit : MethodName := ⟨RX7, "isDigit", "()Z"⟩
abbrev cX7_takeNumber : ByteArray := prog_9_method_10_code
def yX7_takeNumber : MethodName := ⟨RX7, "takeNumber", "(I)I"⟩
abbrev cX7_takeLetter : ByteArray := prog_9_method_11_code
def yX7_takeLetter : MethodName := ⟨RX7, "takeLetter", "(I)I"⟩
abbrev cX7_behindLine : ByteArray := prog_9_method_12_code
def yX7_behindLine : MethodName := ⟨RX7, "behindLine", "()I"⟩
def RX8 : String := "RoadsWithTides$Tide"
def TX8 : u_T := fun k => match k with
  | 0 => ("RoadsWithTides$Tide", "parts", "[I", true)
  | 1 => ("RoadsWithTides$Tide", "draft", "[I", true)
  | 2 => ("RoadsWithTides$Tide", "rounds", "I", false)
  | _ => ("RoadsWithTides$Tide", "draftRounds", "I", false)
def tyX8 : Nat → FieldType := fun k => match k with
  | 0 => .array .int
  | 1 => .array .int
  | 2 => .int
  | _ => .int
abbrev wsX80 : List Cond := u_ws RX8 TX8 4
theorem nmX8 : ∀ a, a < 4 → ∀ b, b < 4 → a ≠ b → (TX8 a).2.1 ≠ (TX8 b).2.1 := by decide +kernel
theorem tyX8_ok : ∀ k, k < 4 → parseFieldDescriptor (TX8 k).2.2.1 = some (tyX8 k) := by decide +kernel
abbrev cX8_init : ByteArray := prog_10_method_1_code
def yX8_init : MethodName := ⟨RX8, "<init>", "()V"⟩
abbrev cX8_ofRound : ByteArray := prog_10_method_2_code
def yX8_ofRound : MethodName := ⟨RX8, "ofRound", "(IIII)I"⟩
abbrev cX8_heightAt : ByteArray := prog_10_method_3_code
def yX8_heightAt : MethodName := ⟨RX8, "heightAt", "(I)I"⟩
abbrev cX8_allGoInto : ByteArray := prog_10_method_4_code
def yX8_allGoInto : MethodName := ⟨RX8, "allGoInto", "(I)Z"⟩
abbrev cX8_readRounds : ByteArray := prog_10_method_5_code
def yX8_readRounds : MethodName := ⟨RX8, "readRounds", "(LRoadsWithTides$Text;)Z"⟩
abbrev cX8_readRound : ByteArray := prog_10_method_6_code
def yX8_readRound : MethodName := ⟨RX8, "readRound", "(LRoadsWithTides$Text;I)Z"⟩
abbrev cX8_readPart : ByteArray := prog_10_method_7_code
def yX8_readPart : MethodName := ⟨RX8, "readPart", "(LRoadsWithTides$Text;III)Z"⟩
abbrev cX8_accept : ByteArray := prog_10_method_8_code
def yX8_accept : MethodName := ⟨RX8, "accept", "()V"⟩
def RX9 : String := "RoadsWithTides$Turns"
def TX9 : u_T := fun k => match k with
  | 0 => ("RoadsWithTides$Turns", "land", "LRoadsWithTides$Land;", true)
  | 1 => ("RoadsWithTides$Turns", "present", "LRoadsWithTides$Moment;", true)
  | 2 => ("RoadsWithTides$Turns", "sea", "LRoadsWithTides$Tide;", true)
  | 3 => ("RoadsWithTides$Turns", "byRule", "LRoadsWithTides$Rule;", true)
  | 4 => ("RoadsWithTides$Turns", "patienceNow", "I", false)
  | 5 => ("RoadsWithTides$Turns", "cameBits", "I", false)
  | 6 => ("RoadsWithTides$Turns", "wreckedBits", "I", false)
  | 7 => ("RoadsWithTides$Turns", "tripTurns", "I", false)
  | 8 => ("RoadsWithTides$Turns", "tripMissed", "I", false)
  | 9 => ("RoadsWithTides$Turns", "yearsWrecked", "I", false)
  | 10 => ("RoadsWithTides$Turns", "yearsStill", "I", false)
  | _ => ("RoadsWithTides$Turns", "drawn", "I", false)
def tyX9 : Nat → FieldType := fun k => match k with
  | 0 => .object "RoadsWithTides$Land"
  | 1 => .object "RoadsWithTides$Moment"
  | 2 => .object "RoadsWithTides$Tide"
  | 3 => .object "RoadsWithTides$Rule"
  | 4 => .int
  | 5 => .int
  | 6 => .int
  | 7 => .int
  | 8 => .int
  | 9 => .int
  | 10 => .int
  | _ => .int
abbrev wsX90 : List Cond := u_ws RX9 TX9 12
theorem nmX9 : ∀ a, a < 12 → ∀ b, b < 12 → a ≠ b → (TX9 a).2.1 ≠ (TX9 b).2.1 := by decide +kernel
theorem tyX9_ok : ∀ k, k < 12 → parseFieldDescriptor (TX9 k).2.2.1 = some (tyX9 k) := by decide +kernel
abbrev cX9_init : ByteArray := prog_11_method_1_code
def yX9_init : MethodName := ⟨RX9, "<init>", "(LRoadsWithTides$Land;LRoadsWithTides$Tide;LRoadsWithTides$Rule;)V"⟩
abbrev cX9_isThere : ByteArray := prog_11_method_2_code
def yX9_isThere : MethodName := ⟨RX9, "isThere", "(II)Z"⟩
abbrev cX9_roadsThereAt : ByteArray := prog_11_method_3_code
def yX9_roadsThereAt : MethodName := ⟨RX9, "roadsThereAt", "(I)I"⟩
abbrev cX9_stays : ByteArray := prog_11_method_4_code
def yX9_stays : MethodName := ⟨RX9, "stays", "(III)I"⟩
abbrev cX9_turnsBy : ByteArray := prog_11_method_5_code
def yX9_turnsBy : MethodName := ⟨RX9, "turnsBy", "(IIII)I"⟩
abbrev cX9_setOut : ByteArray := prog_11_method_6_code
def yX9_setOut : MethodName := ⟨RX9, "setOut", "(II)I"⟩
abbrev cX9_turnRound : ByteArray := prog_11_method_7_code
def yX9_turnRound : MethodName := ⟨RX9, "turnRound", "(I)I"⟩
abbrev cX9_putChain : ByteArray := prog_11_method_8_code
def yX9_putChain : MethodName := ⟨RX9, "putChain", "(II)I"⟩
abbrev cX9_putLoad : ByteArray := prog_11_method_9_code
def yX9_putLoad : MethodName := ⟨RX9, "putLoad", "(II)I"⟩
abbrev cX9_throwRoad : ByteArray := prog_11_method_10_code
def yX9_throwRoad : MethodName := ⟨RX9, "throwRoad", "(III)I"⟩
abbrev cX9_goBy : ByteArray := prog_11_method_11_code
def yX9_goBy : MethodName := ⟨RX9, "goBy", "(I)I"⟩
abbrev cX9_goOn : ByteArray := prog_11_method_12_code
def yX9_goOn : MethodName := ⟨RX9, "goOn", "(II)Z"⟩
abbrev cX9_travels : ByteArray := prog_11_method_13_code
def yX9_travels : MethodName := ⟨RX9, "travels", "(IIIII)Z"⟩
abbrev cX9_foresee : ByteArray := prog_11_method_14_code
def yX9_foresee : MethodName := ⟨RX9, "foresee", "(I)Z"⟩
abbrev cX9_draw : ByteArray := prog_11_method_15_code
def yX9_draw : MethodName := ⟨RX9, "draw", "(I)I"⟩
abbrev cX9_stormYears : ByteArray := prog_11_method_16_code
def yX9_stormYears : MethodName := ⟨RX9, "stormYears", "(II)I"⟩
def RX10 : String := "RoadsWithTides$Ways"
def TX10 : u_T := fun k => match k with
  | 0 => ("RoadsWithTides$Ways", "turns", "LRoadsWithTides$Turns;", true)
  | 1 => ("RoadsWithTides$Ways", "land", "LRoadsWithTides$Land;", true)
  | 2 => ("RoadsWithTides$Ways", "takes", "[I", true)
  | 3 => ("RoadsWithTides$Ways", "outs", "[I", true)
  | 4 => ("RoadsWithTides$Ways", "runs", "[I", true)
  | 5 => ("RoadsWithTides$Ways", "soon", "[I", true)
  | 6 => ("RoadsWithTides$Ways", "reach", "[I", true)
  | 7 => ("RoadsWithTides$Ways", "bestOrder", "[I", true)
  | 8 => ("RoadsWithTides$Ways", "order", "[I", true)
  | 9 => ("RoadsWithTides$Ways", "soonByDepth", "[I", true)
  | 10 => ("RoadsWithTides$Ways", "home", "I", false)
  | _ => ("RoadsWithTides$Ways", "bestBack", "I", false)
def tyX10 : Nat → FieldType := fun k => match k with
  | 0 => .object "RoadsWithTides$Turns"
  | 1 => .object "RoadsWithTides$Land"
  | 2 => .array .int
  | 3 => .array .int
  | 4 => .array .int
  | 5 => .array .int
  | 6 => .array .int
  | 7 => .array .int
  | 8 => .array .int
  | 9 => .array .int
  | 10 => .int
  | _ => .int
abbrev wsX100 : List Cond := u_ws RX10 TX10 12
theorem nmX10 : ∀ a, a < 12 → ∀ b, b < 12 → a ≠ b → (TX10 a).2.1 ≠ (TX10 b).2.1 := by decide +kernel
theorem tyX10_ok : ∀ k, k < 12 → parseFieldDescriptor (TX10 k).2.2.1 = some (tyX10 k) := by decide +kernel
abbrev cX10_init : ByteArray := prog_12_method_1_code
def yX10_init : MethodName := ⟨RX10, "<init>", "(LRoadsWithTides$Turns;)V"⟩
abbrev cX10_lookOn : ByteArray := prog_12_method_2_code
def yX10_lookOn : MethodName := ⟨RX10, "lookOn", "(I)V"⟩
abbrev cX10_noteOut : ByteArray := prog_12_method_3_code
def yX10_noteOut : MethodName := ⟨RX10, "noteOut", "(III)V"⟩
abbrev cX10_outFrom : ByteArray := prog_12_method_4_code
def yX10_outFrom : MethodName := ⟨RX10, "outFrom", "(II)I"⟩
abbrev cX10_spread : ByteArray := prog_12_method_5_code
def yX10_spread : MethodName := ⟨RX10, "spread", "(III)V"⟩
abbrev cX10_goBetween : ByteArray := prog_12_method_6_code
def yX10_goBetween : MethodName := ⟨RX10, "goBetween", "(IIII)Z"⟩
abbrev cX10_reachedBy : ByteArray := prog_12_method_7_code
def yX10_reachedBy : MethodName := ⟨RX10, "reachedBy", "(I)I"⟩
abbrev cX10_tellLeastWay : ByteArray := prog_12_method_8_code
def yX10_tellLeastWay : MethodName := ⟨RX10, "tellLeastWay", "(IIILRoadsWithTides$Row;)V"⟩
abbrev cX10_leastWayOn : ByteArray := prog_12_method_9_code
def yX10_leastWayOn : MethodName := ⟨RX10, "leastWayOn", "(IIIII)I"⟩
abbrev cX10_goRound : ByteArray := prog_12_method_10_code
def yX10_goRound : MethodName := ⟨RX10, "goRound", "(II)I"⟩
abbrev cX10_callOn : ByteArray := prog_12_method_11_code
def yX10_callOn : MethodName := ⟨RX10, "callOn", "(LRoadsWithTides$Ways;IIII)V"⟩
abbrev cX10_fewestInns : ByteArray := prog_12_method_12_code
def yX10_fewestInns : MethodName := ⟨RX10, "fewestInns", "(I)I"⟩
abbrev cX10_serveAll : ByteArray := prog_12_method_13_code
def yX10_serveAll : MethodName := ⟨RX10, "serveAll", "(I)Z"⟩
def RX11 : String := "RoadsWithTides"
def TX11 : u_T := fun k => match k with
  | 0 => ("RoadsWithTides", "text", "LRoadsWithTides$Text;", true)
  | 1 => ("RoadsWithTides", "sea", "LRoadsWithTides$Tide;", true)
  | 2 => ("RoadsWithTides", "byRule", "LRoadsWithTides$Rule;", true)
  | 3 => ("RoadsWithTides", "land", "LRoadsWithTides$Land;", true)
  | 4 => ("RoadsWithTides", "turns", "LRoadsWithTides$Turns;", true)
  | 5 => ("RoadsWithTides", "history", "LRoadsWithTides$History;", true)
  | 6 => ("RoadsWithTides", "acts", "LRoadsWithTides$Day;", true)
  | 7 => ("RoadsWithTides", "ways", "LRoadsWithTides$Ways;", true)
  | 8 => ("RoadsWithTides", "marks", "LRoadsWithTides$Marks;", true)
  | _ => ("RoadsWithTides", "told", "LRoadsWithTides$Row;", true)
def tyX11 : Nat → FieldType := fun k => match k with
  | 0 => .object "RoadsWithTides$Text"
  | 1 => .object "RoadsWithTides$Tide"
  | 2 => .object "RoadsWithTides$Rule"
  | 3 => .object "RoadsWithTides$Land"
  | 4 => .object "RoadsWithTides$Turns"
  | 5 => .object "RoadsWithTides$History"
  | 6 => .object "RoadsWithTides$Day"
  | 7 => .object "RoadsWithTides$Ways"
  | 8 => .object "RoadsWithTides$Marks"
  | _ => .object "RoadsWithTides$Row"
abbrev wsX110 : List Cond := u_ws RX11 TX11 10
theorem nmX11 : ∀ a, a < 10 → ∀ b, b < 10 → a ≠ b → (TX11 a).2.1 ≠ (TX11 b).2.1 := by decide +kernel
theorem tyX11_ok : ∀ k, k < 10 → parseFieldDescriptor (TX11 k).2.2.1 = some (tyX11 k) := by decide +kernel
abbrev cX11_init : ByteArray := prog_1_method_1_code
def yX11_init : MethodName := ⟨RX11, "<init>", "()V"⟩
abbrev cX11_sign : ByteArray := prog_1_method_2_code
def yX11_sign : MethodName := ⟨RX11, "sign", "(I)I"⟩
abbrev cX11_end : ByteArray := prog_1_method_3_code
def yX11_end : MethodName := ⟨RX11, "end", "(I)Z"⟩
abbrev cX11_flats : ByteArray := prog_1_method_4_code
def yX11_flats : MethodName := ⟨RX11, "flats", "()I"⟩
abbrev cX11_tide : ByteArray := prog_1_method_5_code
def yX11_tide : MethodName := ⟨RX11, "tide", "()I"⟩
abbrev cX11_carts : ByteArray := prog_1_method_6_code
def yX11_carts : MethodName := ⟨RX11, "carts", "()I"⟩
abbrev cX11_rule : ByteArray := prog_1_method_7_code
def yX11_rule : MethodName := ⟨RX11, "rule", "()I"⟩
abbrev cX11_place : ByteArray := prog_1_method_8_code
def yX11_place : MethodName := ⟨RX11, "place", "(II)I"⟩
abbrev cX11_road : ByteArray := prog_1_method_9_code
def yX11_road : MethodName := ⟨RX11, "road", "(II)I"⟩
abbrev cX11_cart : ByteArray := prog_1_method_10_code
def yX11_cart : MethodName := ⟨RX11, "cart", "(II)I"⟩
abbrev cX11_patience : ByteArray := prog_1_method_11_code
def yX11_patience : MethodName := ⟨RX11, "patience", "(I)I"⟩
abbrev cX11_sheet : ByteArray := prog_1_method_12_code
def yX11_sheet : MethodName := ⟨RX11, "sheet", "(IIII)I"⟩
abbrev cX11_out : ByteArray := prog_1_method_13_code
def yX11_out : MethodName := ⟨RX11, "out", "(II)I"⟩
abbrev cX11_round : ByteArray := prog_1_method_14_code
def yX11_round : MethodName := ⟨RX11, "round", "(I)I"⟩
abbrev cX11_chain : ByteArray := prog_1_method_15_code
def yX11_chain : MethodName := ⟨RX11, "chain", "(II)I"⟩
abbrev cX11_load : ByteArray := prog_1_method_16_code
def yX11_load : MethodName := ⟨RX11, "load", "(II)I"⟩
abbrev cX11_storm : ByteArray := prog_1_method_17_code
def yX11_storm : MethodName := ⟨RX11, "storm", "(III)I"⟩
abbrev cX11_pass : ByteArray := prog_1_method_18_code
def yX11_pass : MethodName := ⟨RX11, "pass", "(I)I"⟩
abbrev cX11_day : ByteArray := prog_1_method_19_code
def yX11_day : MethodName := ⟨RX11, "day", "()I"⟩
abbrev cX11_undo : ByteArray := prog_1_method_20_code
def yX11_undo : MethodName := ⟨RX11, "undo", "()I"⟩
abbrev cX11_level : ByteArray := prog_1_method_21_code
def yX11_level : MethodName := ⟨RX11, "level", "(I)I"⟩
abbrev cX11_table : ByteArray := prog_1_method_22_code
def yX11_table : MethodName := ⟨RX11, "table", "(II)I"⟩
abbrev cX11_comes : ByteArray := prog_1_method_23_code
def yX11_comes : MethodName := ⟨RX11, "comes", "(I)I"⟩
abbrev cX11_ebb : ByteArray := prog_1_method_24_code
def yX11_ebb : MethodName := ⟨RX11, "ebb", "()I"⟩
abbrev cX11_slack : ByteArray := prog_1_method_25_code
def yX11_slack : MethodName := ⟨RX11, "slack", "()I"⟩
abbrev cX11_period : ByteArray := prog_1_method_26_code
def yX11_period : MethodName := ⟨RX11, "period", "()I"⟩
abbrev cX11_soonest : ByteArray := prog_1_method_27_code
def yX11_soonest : MethodName := ⟨RX11, "soonest", "(II)I"⟩
abbrev cX11_latest : ByteArray := prog_1_method_28_code
def yX11_latest : MethodName := ⟨RX11, "latest", "(III)I"⟩
abbrev cX11_safe : ByteArray := prog_1_method_29_code
def yX11_safe : MethodName := ⟨RX11, "safe", "(III)I"⟩
abbrev cX11_within : ByteArray := prog_1_method_30_code
def yX11_within : MethodName := ⟨RX11, "within", "(II)I"⟩
abbrev cX11_cutoff : ByteArray := prog_1_method_31_code
def yX11_cutoff : MethodName := ⟨RX11, "cutoff", "(I)I"⟩
abbrev cX11_carrier : ByteArray := prog_1_method_32_code
def yX11_carrier : MethodName := ⟨RX11, "carrier", "(II)I"⟩
abbrev cX11_inns : ByteArray := prog_1_method_33_code
def yX11_inns : MethodName := ⟨RX11, "inns", "(I)I"⟩
abbrev cX11_arrives : ByteArray := prog_1_method_34_code
def yX11_arrives : MethodName := ⟨RX11, "arrives", "(I)I"⟩
abbrev cX11_best : ByteArray := prog_1_method_35_code
def yX11_best : MethodName := ⟨RX11, "best", "(II)I"⟩
abbrev cX11_could : ByteArray := prog_1_method_36_code
def yX11_could : MethodName := ⟨RX11, "could", "(II)I"⟩
abbrev cX11_mark : ByteArray := prog_1_method_37_code
def yX11_mark : MethodName := ⟨RX11, "mark", "(II)I"⟩
abbrev cX11_wash : ByteArray := prog_1_method_38_code
def yX11_wash : MethodName := ⟨RX11, "wash", "()I"⟩
abbrev cX11_fits : ByteArray := prog_1_method_39_code
def yX11_fits : MethodName := ⟨RX11, "fits", "(I)I"⟩
abbrev cX11_read : ByteArray := prog_1_method_40_code
def yX11_read : MethodName := ⟨RX11, "read", "(II)I"⟩
abbrev cX11_lookat : ByteArray := prog_1_method_41_code
def yX11_lookat : MethodName := ⟨RX11, "lookat", "(I)I"⟩
abbrev cX11_years : ByteArray := prog_1_method_42_code
def yX11_years : MethodName := ⟨RX11, "years", "(II)I"⟩
abbrev cX11_keep : ByteArray := prog_1_method_43_code
def yX11_keep : MethodName := ⟨RX11, "keep", "(I)Z"⟩
abbrev cX11_again : ByteArray := prog_1_method_44_code
def yX11_again : MethodName := ⟨RX11, "again", "(I)Z"⟩
abbrev cX11_count : ByteArray := prog_1_method_45_code
def yX11_count : MethodName := ⟨RX11, "count", "(I)I"⟩
abbrev cX11_row : ByteArray := prog_1_method_46_code
def yX11_row : MethodName := ⟨RX11, "row", "(I)I"⟩
abbrev cX11_soonestWay : ByteArray := prog_1_method_47_code
def yX11_soonestWay : MethodName := ⟨RX11, "soonestWay", "(III)I"⟩
def RX12 : String := "RoadsWithTidesModel"
def TX12 : u_T := fun k => match k with
  | 0 => ("RoadsWithTidesModel", "now", "[I", true)
  | 1 => ("RoadsWithTidesModel", "places", "I", false)
  | 2 => ("RoadsWithTidesModel", "height", "[I", true)
  | 3 => ("RoadsWithTidesModel", "roads", "I", false)
  | 4 => ("RoadsWithTidesModel", "steps", "[I", true)
  | 5 => ("RoadsWithTidesModel", "roadHeight", "[I", true)
  | 6 => ("RoadsWithTidesModel", "carts", "I", false)
  | 7 => ("RoadsWithTidesModel", "rounds", "I", false)
  | 8 => ("RoadsWithTidesModel", "tides", "[I", true)
  | 9 => ("RoadsWithTidesModel", "patience", "I", false)
  | 10 => ("RoadsWithTidesModel", "text", "[B", true)
  | 11 => ("RoadsWithTidesModel", "typed", "I", false)
  | 12 => ("RoadsWithTidesModel", "row", "[I", true)
  | 13 => ("RoadsWithTidesModel", "rowMany", "I", false)
  | 14 => ("RoadsWithTidesModel", "thrown", "I", false)
  | 15 => ("RoadsWithTidesModel", "read", "[B", false)
  | 16 => ("RoadsWithTidesModel", "length", "I", false)
  | 17 => ("RoadsWithTidesModel", "top", "I", false)
  | 18 => ("RoadsWithTidesModel", "at", "I", false)
  | 19 => ("RoadsWithTidesModel", "wrong", "I", false)
  | 20 => ("RoadsWithTidesModel", "newPlaces", "[I", true)
  | 21 => ("RoadsWithTidesModel", "newRoads", "[I", true)
  | 22 => ("RoadsWithTidesModel", "newPlaceMany", "I", false)
  | 23 => ("RoadsWithTidesModel", "newRoadMany", "I", false)
  | 24 => ("RoadsWithTidesModel", "newTides", "[I", true)
  | 25 => ("RoadsWithTidesModel", "comes", "[I", true)
  | 26 => ("RoadsWithTidesModel", "rule", "[B", true)
  | 27 => ("RoadsWithTidesModel", "ruleSize", "I", false)
  | 28 => ("RoadsWithTidesModel", "isAsked", "Z", false)
  | 29 => ("RoadsWithTidesModel", "asked", "[I", true)
  | 30 => ("RoadsWithTidesModel", "undos", "[I", true)
  | 31 => ("RoadsWithTidesModel", "undoMany", "I", false)
  | 32 => ("RoadsWithTidesModel", "aside", "[I", true)
  | 33 => ("RoadsWithTidesModel", "arrived", "I", false)
  | 34 => ("RoadsWithTidesModel", "broken", "I", false)
  | 35 => ("RoadsWithTidesModel", "allCame", "I", false)
  | 36 => ("RoadsWithTidesModel", "allArrived", "I", false)
  | 37 => ("RoadsWithTidesModel", "allBroken", "I", false)
  | 38 => ("RoadsWithTidesModel", "acts", "[I", true)
  | 39 => ("RoadsWithTidesModel", "soon", "[I", true)
  | 40 => ("RoadsWithTidesModel", "order", "[I", true)
  | 41 => ("RoadsWithTidesModel", "bestOrder", "[I", true)
  | 42 => ("RoadsWithTidesModel", "bestBack", "I", false)
  | 43 => ("RoadsWithTidesModel", "near", "[I", true)
  | 44 => ("RoadsWithTidesModel", "rideTurns", "I", false)
  | 45 => ("RoadsWithTidesModel", "rideGone", "I", false)
  | 46 => ("RoadsWithTidesModel", "rideWreck", "I", false)
  | 47 => ("RoadsWithTidesModel", "marks", "[I", true)
  | 48 => ("RoadsWithTidesModel", "markMany", "I", false)
  | 49 => ("RoadsWithTidesModel", "isTold", "[Z", true)
  | 50 => ("RoadsWithTidesModel", "drawn", "I", false)
  | 51 => ("RoadsWithTidesModel", "then", "[I", true)
  | 52 => ("RoadsWithTidesModel", "came", "I", false)
  | 53 => ("RoadsWithTidesModel", "kept", "[I", true)
  | 54 => ("RoadsWithTidesModel", "isKept", "[Z", true)
  | _ => ("RoadsWithTidesModel", "keptCame", "[I", true)
def tyX12 : Nat → FieldType := fun k => match k with
  | 0 => .array .int
  | 1 => .int
  | 2 => .array .int
  | 3 => .int
  | 4 => .array .int
  | 5 => .array .int
  | 6 => .int
  | 7 => .int
  | 8 => .array .int
  | 9 => .int
  | 10 => .array .byte
  | 11 => .int
  | 12 => .array .int
  | 13 => .int
  | 14 => .int
  | 15 => .array .byte
  | 16 => .int
  | 17 => .int
  | 18 => .int
  | 19 => .int
  | 20 => .array .int
  | 21 => .array .int
  | 22 => .int
  | 23 => .int
  | 24 => .array .int
  | 25 => .array .int
  | 26 => .array .byte
  | 27 => .int
  | 28 => .boolean
  | 29 => .array .int
  | 30 => .array .int
  | 31 => .int
  | 32 => .array .int
  | 33 => .int
  | 34 => .int
  | 35 => .int
  | 36 => .int
  | 37 => .int
  | 38 => .array .int
  | 39 => .array .int
  | 40 => .array .int
  | 41 => .array .int
  | 42 => .int
  | 43 => .array .int
  | 44 => .int
  | 45 => .int
  | 46 => .int
  | 47 => .array .int
  | 48 => .int
  | 49 => .array .boolean
  | 50 => .int
  | 51 => .array .int
  | 52 => .int
  | 53 => .array .int
  | 54 => .array .boolean
  | _ => .array .int
abbrev wsX120 : List Cond := u_ws RX12 TX12 56
theorem nmX12 : ∀ a, a < 56 → ∀ b, b < 56 → a ≠ b → (TX12 a).2.1 ≠ (TX12 b).2.1 := by decide +kernel
theorem tyX12_ok : ∀ k, k < 56 → parseFieldDescriptor (TX12 k).2.2.1 = some (tyX12 k) := by decide +kernel
abbrev cX12_init : ByteArray := prog_14_method_1_code
def yX12_init : MethodName := ⟨RX12, "<init>", "()V"⟩
abbrev cX12_thrown : ByteArray := prog_14_method_2_code
def yX12_thrown : MethodName := ⟨RX12, "thrown", "()I"⟩
abbrev cX12_in : ByteArray := prog_14_method_3_code
def yX12_in : MethodName := ⟨RX12, "in", "(III)Z"⟩
abbrev cX12_has : ByteArray := prog_14_method_4_code
def yX12_has : MethodName := ⟨RX12, "has", "(II)Z"⟩
abbrev cX12_lost : ByteArray := prog_14_method_5_code
def yX12_lost : MethodName := ⟨RX12, "lost", "()I"⟩
abbrev cX12_tell : ByteArray := prog_14_method_6_code
def yX12_tell : MethodName := ⟨RX12, "tell", "(I)V"⟩
abbrev cX12_isPlace : ByteArray := prog_14_method_7_code
def yX12_isPlace : MethodName := ⟨RX12, "isPlace", "(I)Z"⟩
abbrev cX12_isRoad : ByteArray := prog_14_method_8_code
def yX12_isRoad : MethodName := ⟨RX12, "isRoad", "(I)Z"⟩
abbrev cX12_isCart : ByteArray := prog_14_method_9_code
def yX12_isCart : MethodName := ⟨RX12, "isCart", "(I)Z"⟩
abbrev cX12_sign : ByteArray := prog_14_method_10_code
def yX12_sign : MethodName := ⟨RX12, "sign", "(I)I"⟩
abbrev cX12_end : ByteArray := prog_14_method_11_code
def yX12_end : MethodName := ⟨RX12, "end", "(I)Z"⟩
abbrev cX12_begin : ByteArray := prog_14_method_12_code
def yX12_begin : MethodName := ⟨RX12, "begin", "([BII)V"⟩
abbrev cX12_here : ByteArray := prog_14_method_13_code
def yX12_here : MethodName := ⟨RX12, "here", "()I"⟩
abbrev cX12_fine : ByteArray := prog_14_method_14_code
def yX12_fine : MethodName := ⟨RX12, "fine", "()Z"⟩
abbrev cX12_fault : ByteArray := prog_14_method_15_code
def yX12_fault : MethodName := ⟨RX12, "fault", "(I)V"⟩
abbrev cX12_passes : ByteArray := prog_14_method_16_code
def yX12_passes : MethodName := ⟨RX12, "passes", "(C)Z"⟩
abbrev cX12_need : ByteArray := prog_14_method_17_code
def yX12_need : MethodName := ⟨RX12, "need", "(C)V"⟩
abbrev cX12_oneOf : ByteArray := prog_14_method_18_code
def yX12_oneOf : MethodName := ⟨RX12, "oneOf", "(CII)I"⟩
abbrev cX12_digit : ByteArray := prog_14_method_19_code
def yX12_digit : MethodName := ⟨RX12, "digit", "(I)I"⟩
abbrev cX12_number : ByteArray := prog_14_method_20_code
def yX12_number : MethodName := ⟨RX12, "number", "(I)I"⟩
abbrev cX12_number_ : ByteArray := prog_14_method_21_code
def yX12_number_ : MethodName := ⟨RX12, "number", "(II)I"⟩
abbrev cX12_readLine : ByteArray := prog_14_method_22_code
def yX12_readLine : MethodName := ⟨RX12, "readLine", "()V"⟩
abbrev cX12_flats : ByteArray := prog_14_method_23_code
def yX12_flats : MethodName := ⟨RX12, "flats", "()I"⟩
abbrev cX12_tide : ByteArray := prog_14_method_24_code
def yX12_tide : MethodName := ⟨RX12, "tide", "()I"⟩
abbrev cX12_carts : ByteArray := prog_14_method_25_code
def yX12_carts : MethodName := ⟨RX12, "carts", "()I"⟩
abbrev cX12_stand : ByteArray := prog_14_method_26_code
def yX12_stand : MethodName := ⟨RX12, "stand", "([III)V"⟩
abbrev cX12_held : ByteArray := prog_14_method_27_code
def yX12_held : MethodName := ⟨RX12, "held", "(I)I"⟩
abbrev cX12_sum : ByteArray := prog_14_method_28_code
def yX12_sum : MethodName := ⟨RX12, "sum", "(I)I"⟩
abbrev cX12_product : ByteArray := prog_14_method_29_code
def yX12_product : MethodName := ⟨RX12, "product", "(I)I"⟩
abbrev cX12_letterOf : ByteArray := prog_14_method_30_code
def yX12_letterOf : MethodName := ⟨RX12, "letterOf", "(I)I"⟩
abbrev cX12_thing : ByteArray := prog_14_method_31_code
def yX12_thing : MethodName := ⟨RX12, "thing", "(I)I"⟩
abbrev cX12_rule : ByteArray := prog_14_method_32_code
def yX12_rule : MethodName := ⟨RX12, "rule", "()I"⟩
abbrev cX12_turnsOf : ByteArray := prog_14_method_33_code
def yX12_turnsOf : MethodName := ⟨RX12, "turnsOf", "(IIII)I"⟩
abbrev cX12_heightOf : ByteArray := prog_14_method_34_code
def yX12_heightOf : MethodName := ⟨RX12, "heightOf", "(IIII)I"⟩
abbrev cX12_levelAt : ByteArray := prog_14_method_35_code
def yX12_levelAt : MethodName := ⟨RX12, "levelAt", "(I)I"⟩
abbrev cX12_isThere : ByteArray := prog_14_method_36_code
def yX12_isThere : MethodName := ⟨RX12, "isThere", "(II)Z"⟩
abbrev cX12_endOf : ByteArray := prog_14_method_37_code
def yX12_endOf : MethodName := ⟨RX12, "endOf", "([III)I"⟩
abbrev cX12_beyond : ByteArray := prog_14_method_38_code
def yX12_beyond : MethodName := ⟨RX12, "beyond", "([III)I"⟩
abbrev cX12_cartsAt : ByteArray := prog_14_method_39_code
def yX12_cartsAt : MethodName := ⟨RX12, "cartsAt", "(II)I"⟩
abbrev cX12_place : ByteArray := prog_14_method_40_code
def yX12_place : MethodName := ⟨RX12, "place", "(II)I"⟩
abbrev cX12_road : ByteArray := prog_14_method_41_code
def yX12_road : MethodName := ⟨RX12, "road", "(II)I"⟩
abbrev cX12_cart : ByteArray := prog_14_method_42_code
def yX12_cart : MethodName := ⟨RX12, "cart", "(II)I"⟩
abbrev cX12_patience : ByteArray := prog_14_method_43_code
def yX12_patience : MethodName := ⟨RX12, "patience", "(I)I"⟩
abbrev cX12_sheet : ByteArray := prog_14_method_44_code
def yX12_sheet : MethodName := ⟨RX12, "sheet", "(IIII)I"⟩
abbrev cX12_lay : ByteArray := prog_14_method_45_code
def yX12_lay : MethodName := ⟨RX12, "lay", "([I[II)V"⟩
abbrev cX12_remember : ByteArray := prog_14_method_46_code
def yX12_remember : MethodName := ⟨RX12, "remember", "([I)V"⟩
abbrev cX12_refusesOut : ByteArray := prog_14_method_47_code
def yX12_refusesOut : MethodName := ⟨RX12, "refusesOut", "(II)I"⟩
abbrev cX12_goOut : ByteArray := prog_14_method_48_code
def yX12_goOut : MethodName := ⟨RX12, "goOut", "(II)I"⟩
abbrev cX12_out : ByteArray := prog_14_method_49_code
def yX12_out : MethodName := ⟨RX12, "out", "(II)I"⟩
abbrev cX12_canRound : ByteArray := prog_14_method_50_code
def yX12_canRound : MethodName := ⟨RX12, "canRound", "(I)Z"⟩
abbrev cX12_goRound : ByteArray := prog_14_method_51_code
def yX12_goRound : MethodName := ⟨RX12, "goRound", "(I)I"⟩
abbrev cX12_round : ByteArray := prog_14_method_52_code
def yX12_round : MethodName := ⟨RX12, "round", "(I)I"⟩
abbrev cX12_canChain : ByteArray := prog_14_method_53_code
def yX12_canChain : MethodName := ⟨RX12, "canChain", "(I)Z"⟩
abbrev cX12_chain : ByteArray := prog_14_method_54_code
def yX12_chain : MethodName := ⟨RX12, "chain", "(II)I"⟩
abbrev cX12_canLoad : ByteArray := prog_14_method_55_code
def yX12_canLoad : MethodName := ⟨RX12, "canLoad", "(I)Z"⟩
abbrev cX12_load : ByteArray := prog_14_method_56_code
def yX12_load : MethodName := ⟨RX12, "load", "(II)I"⟩
abbrev cX12_isUsed : ByteArray := prog_14_method_57_code
def yX12_isUsed : MethodName := ⟨RX12, "isUsed", "([II)Z"⟩
abbrev cX12_storm : ByteArray := prog_14_method_58_code
def yX12_storm : MethodName := ⟨RX12, "storm", "(III)I"⟩
abbrev cX12_goTurn : ByteArray := prog_14_method_59_code
def yX12_goTurn : MethodName := ⟨RX12, "goTurn", "([I)V"⟩
abbrev cX12_beginTurns : ByteArray := prog_14_method_60_code
def yX12_beginTurns : MethodName := ⟨RX12, "beginTurns", "()V"⟩
abbrev cX12_goTurns : ByteArray := prog_14_method_61_code
def yX12_goTurns : MethodName := ⟨RX12, "goTurns", "([II)V"⟩
abbrev cX12_pass : ByteArray := prog_14_method_62_code
def yX12_pass : MethodName := ⟨RX12, "pass", "(I)I"⟩
abbrev cX12_day : ByteArray := prog_14_method_63_code
def yX12_day : MethodName := ⟨RX12, "day", "()I"⟩
abbrev cX12_readAct : ByteArray := prog_14_method_64_code
def yX12_readAct : MethodName := ⟨RX12, "readAct", "(I)V"⟩
abbrev cX12_act : ByteArray := prog_14_method_65_code
def yX12_act : MethodName := ⟨RX12, "act", "(III)Z"⟩
abbrev cX12_undo : ByteArray := prog_14_method_66_code
def yX12_undo : MethodName := ⟨RX12, "undo", "()I"⟩
abbrev cX12_isLook : ByteArray := prog_14_method_67_code
def yX12_isLook : MethodName := ⟨RX12, "isLook", "(I)Z"⟩
abbrev cX12_levelIn : ByteArray := prog_14_method_68_code
def yX12_levelIn : MethodName := ⟨RX12, "levelIn", "(I)I"⟩
abbrev cX12_comesIn : ByteArray := prog_14_method_69_code
def yX12_comesIn : MethodName := ⟨RX12, "comesIn", "(II)Z"⟩
abbrev cX12_level : ByteArray := prog_14_method_70_code
def yX12_level : MethodName := ⟨RX12, "level", "(I)I"⟩
abbrev cX12_table : ByteArray := prog_14_method_71_code
def yX12_table : MethodName := ⟨RX12, "table", "(II)I"⟩
abbrev cX12_comes : ByteArray := prog_14_method_72_code
def yX12_comes : MethodName := ⟨RX12, "comes", "(I)I"⟩
abbrev cX12_ebb : ByteArray := prog_14_method_73_code
def yX12_ebb : MethodName := ⟨RX12, "ebb", "()I"⟩
abbrev cX12_slack : ByteArray := prog_14_method_74_code
def yX12_slack : MethodName := ⟨RX12, "slack", "()I"⟩
abbrev cX12_common : ByteArray := prog_14_method_75_code
def yX12_common : MethodName := ⟨RX12, "common", "(II)I"⟩
abbrev cX12_period : ByteArray := prog_14_method_76_code
def yX12_period : MethodName := ⟨RX12, "period", "()I"⟩
abbrev cX12_canGo : ByteArray := prog_14_method_77_code
def yX12_canGo : MethodName := ⟨RX12, "canGo", "(IIII)Z"⟩
abbrev cX12_soonestBy : ByteArray := prog_14_method_78_code
def yX12_soonestBy : MethodName := ⟨RX12, "soonestBy", "(IIIII)I"⟩
abbrev cX12_findSoon : ByteArray := prog_14_method_79_code
def yX12_findSoon : MethodName := ⟨RX12, "findSoon", "(III)V"⟩
abbrev cX12_canCome : ByteArray := prog_14_method_80_code
def yX12_canCome : MethodName := ⟨RX12, "canCome", "(IIIIII)Z"⟩
abbrev cX12_soonest : ByteArray := prog_14_method_81_code
def yX12_soonest : MethodName := ⟨RX12, "soonest", "(II)I"⟩
abbrev cX12_wayOf : ByteArray := prog_14_method_82_code
def yX12_wayOf : MethodName := ⟨RX12, "wayOf", "(III)I"⟩
abbrev cX12_nextRoad : ByteArray := prog_14_method_83_code
def yX12_nextRoad : MethodName := ⟨RX12, "nextRoad", "(IIIIII)I"⟩
abbrev cX12_latest : ByteArray := prog_14_method_84_code
def yX12_latest : MethodName := ⟨RX12, "latest", "(III)I"⟩
abbrev cX12_safe : ByteArray := prog_14_method_85_code
def yX12_safe : MethodName := ⟨RX12, "safe", "(III)I"⟩
abbrev cX12_within : ByteArray := prog_14_method_86_code
def yX12_within : MethodName := ⟨RX12, "within", "(II)I"⟩
abbrev cX12_cutoff : ByteArray := prog_14_method_87_code
def yX12_cutoff : MethodName := ⟨RX12, "cutoff", "(I)I"⟩
abbrev cX12_soonFrom : ByteArray := prog_14_method_88_code
def yX12_soonFrom : MethodName := ⟨RX12, "soonFrom", "(III)I"⟩
abbrev cX12_goCarrier : ByteArray := prog_14_method_89_code
def yX12_goCarrier : MethodName := ⟨RX12, "goCarrier", "(IIIII)V"⟩
abbrev cX12_carrier : ByteArray := prog_14_method_90_code
def yX12_carrier : MethodName := ⟨RX12, "carrier", "(II)I"⟩
abbrev cX12_inns : ByteArray := prog_14_method_91_code
def yX12_inns : MethodName := ⟨RX12, "inns", "(I)I"⟩
abbrev cX12_rides : ByteArray := prog_14_method_92_code
def yX12_rides : MethodName := ⟨RX12, "rides", "(IIIIZ)Z"⟩
abbrev cX12_ridesOn : ByteArray := prog_14_method_93_code
def yX12_ridesOn : MethodName := ⟨RX12, "ridesOn", "(I)Z"⟩
abbrev cX12_arrives : ByteArray := prog_14_method_94_code
def yX12_arrives : MethodName := ⟨RX12, "arrives", "(I)I"⟩
abbrev cX12_best : ByteArray := prog_14_method_95_code
def yX12_best : MethodName := ⟨RX12, "best", "(II)I"⟩
abbrev cX12_could : ByteArray := prog_14_method_96_code
def yX12_could : MethodName := ⟨RX12, "could", "(II)I"⟩
abbrev cX12_mark : ByteArray := prog_14_method_97_code
def yX12_mark : MethodName := ⟨RX12, "mark", "(II)I"⟩
abbrev cX12_wash : ByteArray := prog_14_method_98_code
def yX12_wash : MethodName := ⟨RX12, "wash", "()I"⟩
abbrev cX12_fitsBy : ByteArray := prog_14_method_99_code
def yX12_fitsBy : MethodName := ⟨RX12, "fitsBy", "(IIII)Z"⟩
abbrev cX12_fits : ByteArray := prog_14_method_100_code
def yX12_fits : MethodName := ⟨RX12, "fits", "(I)I"⟩
abbrev cX12_findTold : ByteArray := prog_14_method_101_code
def yX12_findTold : MethodName := ⟨RX12, "findTold", "(III)V"⟩
abbrev cX12_toldAt : ByteArray := prog_14_method_102_code
def yX12_toldAt : MethodName := ⟨RX12, "toldAt", "(I)I"⟩
abbrev cX12_read : ByteArray := prog_14_method_103_code
def yX12_read : MethodName := ⟨RX12, "read", "(II)I"⟩
abbrev cX12_lookat : ByteArray := prog_14_method_104_code
def yX12_lookat : MethodName := ⟨RX12, "lookat", "(I)I"⟩
abbrev cX12_draw : ByteArray := prog_14_method_105_code
def yX12_draw : MethodName := ⟨RX12, "draw", "(I)I"⟩
abbrev cX12_years : ByteArray := prog_14_method_106_code
def yX12_years : MethodName := ⟨RX12, "years", "(II)I"⟩
abbrev cX12_keep : ByteArray := prog_14_method_107_code
def yX12_keep : MethodName := ⟨RX12, "keep", "(I)Z"⟩
abbrev cX12_again : ByteArray := prog_14_method_108_code
def yX12_again : MethodName := ⟨RX12, "again", "(I)Z"⟩
abbrev cX12_count : ByteArray := prog_14_method_109_code
def yX12_count : MethodName := ⟨RX12, "count", "(I)I"⟩
abbrev cX12_row : ByteArray := prog_14_method_110_code
def yX12_row : MethodName := ⟨RX12, "row", "(I)I"⟩
def RJx145de : String := "java/io/Serializable"
def TJx145de : u_T := fun k => match k with
  | _ => ("", "", "", false)
def tyJx145de : Nat → FieldType := fun k => match k with
  | _ => .int
abbrev wsJx145de0 : List Cond := u_ws RJx145de TJx145de 0
theorem nmJx145de : ∀ a, a < 0 → ∀ b, b < 0 → a ≠ b → (TJx145de a).2.1 ≠ (TJx145de b).2.1 := by decide +kernel
theorem tyJx145de_ok : ∀ k, k < 0 → parseFieldDescriptor (TJx145de k).2.2.1 = some (tyJx145de k) := by decide +kernel
def RJxb160c : String := "java/lang/Comparable"
def TJxb160c : u_T := fun k => match k with
  | _ => ("", "", "", false)
def tyJxb160c : Nat → FieldType := fun k => match k with
  | _ => .int
abbrev wsJxb160c0 : List Cond := u_ws RJxb160c TJxb160c 0
theorem nmJxb160c : ∀ a, a < 0 → ∀ b, b < 0 → a ≠ b → (TJxb160c a).2.1 ≠ (TJxb160c b).2.1 := by decide +kernel
theorem tyJxb160c_ok : ∀ k, k < 0 → parseFieldDescriptor (TJxb160c k).2.2.1 = some (tyJxb160c k) := by decide +kernel
def RJ6 : String := "java/lang/Integer"
def TJ6 : u_T := fun k => match k with
  | _ => ("", "", "", false)
def tyJ6 : Nat → FieldType := fun k => match k with
  | _ => .int
abbrev wsJ60 : List Cond := u_ws RJ6 TJ6 0
theorem nmJ6 : ∀ a, a < 0 → ∀ b, b < 0 → a ≠ b → (TJ6 a).2.1 ≠ (TJ6 b).2.1 := by decide +kernel
theorem tyJ6_ok : ∀ k, k < 0 → parseFieldDescriptor (TJ6 k).2.2.1 = some (tyJ6 k) := by decide +kernel
abbrev cJ6_compare_7cf53 : ByteArray := prog_17_method_40_code
def yJ6_compare_7cf53 : MethodName := ⟨RJ6, "compare", "(II)I"⟩
abbrev cJ6_numberOfLeadingZeros_0f7a4 : ByteArray := prog_17_method_47_code
def yJ6_numberOfLeadingZeros_0f7a4 : MethodName := ⟨RJ6, "numberOfLeadingZeros", "(I)I"⟩
abbrev cJ6_numberOfTrailingZeros_0f7a4 : ByteArray := prog_17_method_48_code
def yJ6_numberOfTrailingZeros_0f7a4 : MethodName := ⟨RJ6, "numberOfTrailingZeros", "(I)I"⟩
abbrev cJ6_bitCount_0f7a4 : ByteArray := prog_17_method_49_code
def yJ6_bitCount_0f7a4 : MethodName := ⟨RJ6, "bitCount", "(I)I"⟩
def RJ13 : String := "java/lang/Long"
def TJ13 : u_T := fun k => match k with
  | _ => ("", "", "", false)
def tyJ13 : Nat → FieldType := fun k => match k with
  | _ => .int
abbrev wsJ130 : List Cond := u_ws RJ13 TJ13 0
theorem nmJ13 : ∀ a, a < 0 → ∀ b, b < 0 → a ≠ b → (TJ13 a).2.1 ≠ (TJ13 b).2.1 := by decide +kernel
theorem tyJ13_ok : ∀ k, k < 0 → parseFieldDescriptor (TJ13 k).2.2.1 = some (tyJ13 k) := by decide +kernel
abbrev cJ13_numberOfLeadingZeros_95d88 : ByteArray := prog_18_method_48_code
def yJ13_numberOfLeadingZeros_95d88 : MethodName := ⟨RJ13, "numberOfLeadingZeros", "(J)I"⟩
abbrev cJ13_numberOfTrailingZeros_95d88 : ByteArray := prog_18_method_49_code
def yJ13_numberOfTrailingZeros_95d88 : MethodName := ⟨RJ13, "numberOfTrailingZeros", "(J)I"⟩
abbrev cJ13_bitCount_95d88 : ByteArray := prog_18_method_50_code
def yJ13_bitCount_95d88 : MethodName := ⟨RJ13, "bitCount", "(J)I"⟩
def RJ9 : String := "java/lang/Math"
def TJ9 : u_T := fun k => match k with
  | _ => ("", "", "", false)
def tyJ9 : Nat → FieldType := fun k => match k with
  | _ => .int
abbrev wsJ90 : List Cond := u_ws RJ9 TJ9 0
theorem nmJ9 : ∀ a, a < 0 → ∀ b, b < 0 → a ≠ b → (TJ9 a).2.1 ≠ (TJ9 b).2.1 := by decide +kernel
theorem tyJ9_ok : ∀ k, k < 0 → parseFieldDescriptor (TJ9 k).2.2.1 = some (tyJ9 k) := by decide +kernel
abbrev cJ9_abs_0f7a4 : ByteArray := prog_19_method_59_code
def yJ9_abs_0f7a4 : MethodName := ⟨RJ9, "abs", "(I)I"⟩
abbrev cJ9_max_7cf53 : ByteArray := prog_19_method_65_code
def yJ9_max_7cf53 : MethodName := ⟨RJ9, "max", "(II)I"⟩
abbrev cJ9_min_7cf53 : ByteArray := prog_19_method_69_code
def yJ9_min_7cf53 : MethodName := ⟨RJ9, "min", "(II)I"⟩
def RJxd2413 : String := "java/lang/Number"
def TJxd2413 : u_T := fun k => match k with
  | _ => ("", "", "", false)
def tyJxd2413 : Nat → FieldType := fun k => match k with
  | _ => .int
abbrev wsJxd24130 : List Cond := u_ws RJxd2413 TJxd2413 0
theorem nmJxd2413 : ∀ a, a < 0 → ∀ b, b < 0 → a ≠ b → (TJxd2413 a).2.1 ≠ (TJxd2413 b).2.1 := by decide +kernel
theorem tyJxd2413_ok : ∀ k, k < 0 → parseFieldDescriptor (TJxd2413 k).2.2.1 = some (tyJxd2413 k) := by decide +kernel
def RJ10 : String := "java/lang/System"
def TJ10 : u_T := fun k => match k with
  | _ => ("", "", "", false)
def tyJ10 : Nat → FieldType := fun k => match k with
  | _ => .int
abbrev wsJ100 : List Cond := u_ws RJ10 TJ10 0
theorem nmJ10 : ∀ a, a < 0 → ∀ b, b < 0 → a ≠ b → (TJ10 a).2.1 ≠ (TJ10 b).2.1 := by decide +kernel
theorem tyJ10_ok : ∀ k, k < 0 → parseFieldDescriptor (TJ10 k).2.2.1 = some (tyJ10 k) := by decide +kernel
def RJxfd54e : String := "java/lang/constant/Constable"
def TJxfd54e : u_T := fun k => match k with
  | _ => ("", "", "", false)
def tyJxfd54e : Nat → FieldType := fun k => match k with
  | _ => .int
abbrev wsJxfd54e0 : List Cond := u_ws RJxfd54e TJxfd54e 0
theorem nmJxfd54e : ∀ a, a < 0 → ∀ b, b < 0 → a ≠ b → (TJxfd54e a).2.1 ≠ (TJxfd54e b).2.1 := by decide +kernel
theorem tyJxfd54e_ok : ∀ k, k < 0 → parseFieldDescriptor (TJxfd54e k).2.2.1 = some (tyJxfd54e k) := by decide +kernel
def RJx3cf43 : String := "java/lang/constant/ConstantDesc"
def TJx3cf43 : u_T := fun k => match k with
  | _ => ("", "", "", false)
def tyJx3cf43 : Nat → FieldType := fun k => match k with
  | _ => .int
abbrev wsJx3cf430 : List Cond := u_ws RJx3cf43 TJx3cf43 0
theorem nmJx3cf43 : ∀ a, a < 0 → ∀ b, b < 0 → a ≠ b → (TJx3cf43 a).2.1 ≠ (TJx3cf43 b).2.1 := by decide +kernel
theorem tyJx3cf43_ok : ∀ k, k < 0 → parseFieldDescriptor (TJx3cf43 k).2.2.1 = some (tyJx3cf43 k) := by decide +kernel
def RJ7 : String := "java/util/Arrays"
def TJ7 : u_T := fun k => match k with
  | _ => ("", "", "", false)
def tyJ7 : Nat → FieldType := fun k => match k with
  | _ => .int
abbrev wsJ70 : List Cond := u_ws RJ7 TJ7 0
theorem nmJ7 : ∀ a, a < 0 → ∀ b, b < 0 → a ≠ b → (TJ7 a).2.1 ≠ (TJ7 b).2.1 := by decide +kernel
theorem tyJ7_ok : ∀ k, k < 0 → parseFieldDescriptor (TJ7 k).2.2.1 = some (tyJ7 k) := by decide +kernel
abbrev cJ7_fill_d0a16 : ByteArray := prog_24_method_101_code
def yJ7_fill_d0a16 : MethodName := ⟨RJ7, "fill", "([JJ)V"⟩
abbrev cJ7_fill_53178 : ByteArray := prog_24_method_103_code
def yJ7_fill_53178 : MethodName := ⟨RJ7, "fill", "([II)V"⟩
def RL : String := "RoadsWithTidesLaw"
abbrev cL_place : ByteArray := method_3_code
def yL_place : MethodName := ⟨RL, "place", "(LRoadsWithTides;II[J)I"⟩
abbrev cL_road : ByteArray := method_4_code
def yL_road : MethodName := ⟨RL, "road", "(LRoadsWithTides;II[J)I"⟩
abbrev cL_cart : ByteArray := method_5_code
def yL_cart : MethodName := ⟨RL, "cart", "(LRoadsWithTides;II[J)I"⟩
abbrev cL_row : ByteArray := method_6_code
def yL_row : MethodName := ⟨RL, "row", "(LRoadsWithTides;I[J)I"⟩
abbrev cL_law : ByteArray := code
def yL_law : MethodName := ⟨RL, "law", "([I)Z"⟩
abbrev vwCl : List vw_C := [(RX0, TX0, 5), (RX1, TX1, 6), (RX2, TX2, 9), (RX3, TX3, 7), (RX4, TX4, 5), (RX5, TX5, 2), (RX6, TX6, 10), (RX7, TX7, 4), (RX8, TX8, 4), (RX9, TX9, 12), (RX10, TX10, 12), (RX11, TX11, 10), (RX12, TX12, 56)]
def rt_tbl : List Cond := lw_tbl.filter goodWord
theorem rt_at {w : Cond} (i : Nat) (h : lw_tbl[i]? = some w) (g : goodWord w = true) : w ∈ rt_tbl := List.mem_filter.mpr ⟨List.mem_of_getElem? h, g⟩
theorem rt_atL (ws : List Cond) (ps : List Nat) (hp : ws = ps.filterMap (fun i => lw_tbl[i]?)) (h : ws.all goodWord = true) : ∀ w ∈ ws, w ∈ rt_tbl := by
  intro w hw
  have h1 := List.all_eq_true.mp h w hw
  rw [hp] at hw
  obtain ⟨i, -, hi⟩ := List.mem_filterMap.mp hw
  exact rt_at i hi h1
theorem rt_sub : ∀ w ∈ rt_tbl, w ∈ lw_tbl := fun _ h => (List.mem_filter.mp h).1
theorem rt_good : ∀ w ∈ rt_tbl, goodWord w = true := fun _ h => (List.mem_filter.mp h).2
theorem rt_uX0 : ∀ w ∈ u_ws RX0 TX0 5, w ∈ rt_tbl := rt_atL _ [379, 381, 383, 385, 387] (by decide +kernel) (by decide +kernel)
theorem rt_uX1 : ∀ w ∈ u_ws RX1 TX1 6, w ∈ rt_tbl := rt_atL _ [353, 355, 357, 359, 361, 363] (by decide +kernel) (by decide +kernel)
theorem rt_uX2 : ∀ w ∈ u_ws RX2 TX2 9, w ∈ rt_tbl := rt_atL _ [263, 265, 267, 269, 271, 273, 275, 277, 279] (by decide +kernel) (by decide +kernel)
theorem rt_uX3 : ∀ w ∈ u_ws RX3 TX3 7, w ∈ rt_tbl := rt_atL _ [454, 456, 458, 460, 462, 464, 466] (by decide +kernel) (by decide +kernel)
theorem rt_uX4 : ∀ w ∈ u_ws RX4 TX4 5, w ∈ rt_tbl := rt_atL _ [227, 229, 231, 233, 235] (by decide +kernel) (by decide +kernel)
theorem rt_uX5 : ∀ w ∈ u_ws RX5 TX5 2, w ∈ rt_tbl := rt_atL _ [480, 482] (by decide +kernel) (by decide +kernel)
theorem rt_uX6 : ∀ w ∈ u_ws RX6 TX6 10, w ∈ rt_tbl := rt_atL _ [175, 177, 179, 181, 183, 185, 187, 189, 191, 193] (by decide +kernel) (by decide +kernel)
theorem rt_uX7 : ∀ w ∈ u_ws RX7 TX7 4, w ∈ rt_tbl := rt_atL _ [129, 131, 133, 135] (by decide +kernel) (by decide +kernel)
theorem rt_uX8 : ∀ w ∈ u_ws RX8 TX8 4, w ∈ rt_tbl := rt_atL _ [150, 152, 154, 156] (by decide +kernel) (by decide +kernel)
theorem rt_uX9 : ∀ w ∈ u_ws RX9 TX9 12, w ∈ rt_tbl := rt_atL _ [311, 313, 315, 317, 319, 321, 323, 325, 327, 329, 331, 333] (by decide +kernel) (by decide +kernel)
theorem rt_uX10 : ∀ w ∈ u_ws RX10 TX10 12, w ∈ rt_tbl := rt_atL _ [411, 413, 415, 417, 419, 421, 423, 425, 427, 429, 431, 433] (by decide +kernel) (by decide +kernel)
theorem rt_uX11 : ∀ w ∈ u_ws RX11 TX11 10, w ∈ rt_tbl := rt_atL _ [495, 497, 499, 501, 503, 505, 507, 509, 511, 513] (by decide +kernel) (by decide +kernel)
theorem rt_uX12 : ∀ w ∈ u_ws RX12 TX12 56, w ∈ rt_tbl := rt_atL _ [1327, 1329, 1331, 1333, 1335, 1337, 1339, 1341, 1343, 1345, 1347, 1349, 1351, 1353, 1355, 1357, 1359, 1361, 1363, 1365, 1367, 1369, 1371, 1373, 1375, 1377, 1379, 1381, 1383, 1385, 1387, 1389, 1391, 1393, 1395, 1397, 1399, 1401, 1403, 1405, 1407, 1409, 1411, 1413, 1415, 1417, 1419, 1421, 1423, 1425, 1427, 1429, 1431, 1433, 1435, 1437] (by decide +kernel) (by decide +kernel)
abbrev rt_K : Type := MethodName × ByteArray × Nat × Option FieldType
def kX0_readActs : rt_K := (yX0_readActs, cX0_readActs, 3, (some FieldType.int))
def kX0_readAct : rt_K := (yX0_readAct, cX0_readAct, 3, (some FieldType.boolean))
def kX0_runOn : rt_K := (yX0_runOn, cX0_runOn, 3, (some FieldType.int))
def kX0_runAct : rt_K := (yX0_runAct, cX0_runAct, 5, (some FieldType.int))
def kX1_prepare : rt_K := (yX1_prepare, cX1_prepare, 2, none)
def kX1_keepIfDone : rt_K := (yX1_keepIfDone, cX1_keepIfDone, 2, (some FieldType.int))
def kX1_stepBack : rt_K := (yX1_stepBack, cX1_stepBack, 2, (some FieldType.boolean))
def kX1_store : rt_K := (yX1_store, cX1_store, 3, (some FieldType.boolean))
def kX1_restore : rt_K := (yX1_restore, cX1_restore, 3, (some FieldType.boolean))
def kX1_forgetAll : rt_K := (yX1_forgetAll, cX1_forgetAll, 2, none)
def kX2_hasPlace : rt_K := (yX2_hasPlace, cX2_hasPlace, 2, (some FieldType.boolean))
def kX2_hasRoad : rt_K := (yX2_hasRoad, cX2_hasRoad, 2, (some FieldType.boolean))
def kX2_hasCart : rt_K := (yX2_hasCart, cX2_hasCart, 2, (some FieldType.boolean))
def kX2_allPlaces : rt_K := (yX2_allPlaces, cX2_allPlaces, 1, (some FieldType.int))
def kX2_roadsAt : rt_K := (yX2_roadsAt, cX2_roadsAt, 4, (some FieldType.int))
def kX2_readFlats : rt_K := (yX2_readFlats, cX2_readFlats, 5, (some FieldType.int))
def kX2_readPlace : rt_K := (yX2_readPlace, cX2_readPlace, 3, (some FieldType.boolean))
def kX2_readRoad : rt_K := (yX2_readRoad, cX2_readRoad, 6, (some FieldType.boolean))
def kX2_acceptFlats : rt_K := (yX2_acceptFlats, cX2_acceptFlats, 1, none)
def kX2_readCarts : rt_K := (yX2_readCarts, cX2_readCarts, 4, (some FieldType.int))
def kX2_readCart : rt_K := (yX2_readCart, cX2_readCart, 4, (some FieldType.boolean))
def kX2_acceptCarts : rt_K := (yX2_acceptCarts, cX2_acceptCarts, 1, none)
def kX2_tellHeights : rt_K := (yX2_tellHeights, cX2_tellHeights, 8, (some FieldType.int))
def kX2_entryOf : rt_K := (yX2_entryOf, cX2_entryOf, 2, (some FieldType.int))
def kX3_isError : rt_K := (yX3_isError, cX3_isError, 1, (some FieldType.boolean))
def kX3_isTime : rt_K := (yX3_isTime, cX3_isTime, 1, (some FieldType.boolean))
def kX3_put : rt_K := (yX3_put, cX3_put, 3, (some FieldType.boolean))
def kX3_search : rt_K := (yX3_search, cX3_search, 9, (some FieldType.int))
def kX3_suits : rt_K := (yX3_suits, cX3_suits, 6, (some FieldType.boolean))
def kX4_copyFrom : rt_K := (yX4_copyFrom, cX4_copyFrom, 2, none)
def kX4_of : rt_K := (yX4_of, cX4_of, 3, (some FieldType.int))
def kX4_put : rt_K := (yX4_put, cX4_put, 4, none)
def kX4_putAtPlace : rt_K := (yX4_putAtPlace, cX4_putAtPlace, 3, none)
def kX4_putOnRoad : rt_K := (yX4_putOnRoad, cX4_putOnRoad, 5, none)
def kX4_cartsWith : rt_K := (yX4_cartsWith, cX4_cartsWith, 5, (some FieldType.int))
def kX4_cartsCut : rt_K := (yX4_cartsCut, cX4_cartsCut, 3, (some FieldType.int))
def kX4_farEnd : rt_K := (yX4_farEnd, cX4_farEnd, 3, (some FieldType.int))
def kX5_clear : rt_K := (yX5_clear, cX5_clear, 1, none)
def kX5_add : rt_K := (yX5_add, cX5_add, 2, none)
def kX6_readRule : rt_K := (yX6_readRule, cX6_readRule, 4, (some FieldType.boolean))
def kX6_readAhead : rt_K := (yX6_readAhead, cX6_readAhead, 2, (some FieldType.boolean))
def kX6_readThing : rt_K := (yX6_readThing, cX6_readThing, 4, (some FieldType.boolean))
def kX6_readClose : rt_K := (yX6_readClose, cX6_readClose, 2, (some FieldType.boolean))
def kX6_readOperator : rt_K := (yX6_readOperator, cX6_readOperator, 4, (some FieldType.boolean))
def kX6_popTo : rt_K := (yX6_popTo, cX6_popTo, 4, none)
def kX6_push : rt_K := (yX6_push, cX6_push, 2, none)
def kX6_put : rt_K := (yX6_put, cX6_put, 2, none)
def kX6_letterOf : rt_K := (yX6_letterOf, cX6_letterOf, 1, (some FieldType.int))
def kX6_rankOf : rt_K := (yX6_rankOf, cX6_rankOf, 1, (some FieldType.int))
def kX6_accept : rt_K := (yX6_accept, cX6_accept, 1, none)
def kX6_turnsOf : rt_K := (yX6_turnsOf, cX6_turnsOf, 8, (some FieldType.int))
def kX6_reckon : rt_K := (yX6_reckon, cX6_reckon, 4, (some FieldType.int))
def kX6_valueOf : rt_K := (yX6_valueOf, cX6_valueOf, 2, (some FieldType.int))
def kX6_join : rt_K := (yX6_join, cX6_join, 3, (some FieldType.int))
def kX7_addFour : rt_K := (yX7_addFour, cX7_addFour, 3, (some FieldType.boolean))
def kX7_cutTo : rt_K := (yX7_cutTo, cX7_cutTo, 2, (some FieldType.boolean))
def kX7_clear : rt_K := (yX7_clear, cX7_clear, 1, none)
def kX7_open : rt_K := (yX7_open, cX7_open, 2, none)
def kX7_isAllRead : rt_K := (yX7_isAllRead, cX7_isAllRead, 1, (some FieldType.boolean))
def kX7_peek : rt_K := (yX7_peek, cX7_peek, 1, (some FieldType.int))
def kX7_take : rt_K := (yX7_take, cX7_take, 2, (some FieldType.boolean))
def kX7_isDigit : rt_K := (yX7_isDigit, cX7_isDigit, 1, (some FieldType.boolean))
def kX7_takeNumber : rt_K := (yX7_takeNumber, cX7_takeNumber, 4, (some FieldType.int))
def kX7_takeLetter : rt_K := (yX7_takeLetter, cX7_takeLetter, 3, (some FieldType.int))
def kX7_behindLine : rt_K := (yX7_behindLine, cX7_behindLine, 1, (some FieldType.int))
def kX8_ofRound : rt_K := (yX8_ofRound, cX8_ofRound, 6, (some FieldType.int))
def kX8_heightAt : rt_K := (yX8_heightAt, cX8_heightAt, 4, (some FieldType.int))
def kX8_allGoInto : rt_K := (yX8_allGoInto, cX8_allGoInto, 4, (some FieldType.boolean))
def kX8_readRounds : rt_K := (yX8_readRounds, cX8_readRounds, 3, (some FieldType.boolean))
def kX8_readRound : rt_K := (yX8_readRound, cX8_readRound, 3, (some FieldType.boolean))
def kX8_readPart : rt_K := (yX8_readPart, cX8_readPart, 6, (some FieldType.boolean))
def kX8_accept : rt_K := (yX8_accept, cX8_accept, 1, none)
def kX9_isThere : rt_K := (yX9_isThere, cX9_isThere, 3, (some FieldType.boolean))
def kX9_roadsThereAt : rt_K := (yX9_roadsThereAt, cX9_roadsThereAt, 5, (some FieldType.int))
def kX9_stays : rt_K := (yX9_stays, cX9_stays, 5, (some FieldType.int))
def kX9_turnsBy : rt_K := (yX9_turnsBy, cX9_turnsBy, 7, (some FieldType.int))
def kX9_setOut : rt_K := (yX9_setOut, cX9_setOut, 6, (some FieldType.int))
def kX9_turnRound : rt_K := (yX9_turnRound, cX9_turnRound, 7, (some FieldType.int))
def kX9_putChain : rt_K := (yX9_putChain, cX9_putChain, 4, (some FieldType.int))
def kX9_putLoad : rt_K := (yX9_putLoad, cX9_putLoad, 4, (some FieldType.int))
def kX9_throwRoad : rt_K := (yX9_throwRoad, cX9_throwRoad, 5, (some FieldType.int))
def kX9_goBy : rt_K := (yX9_goBy, cX9_goBy, 6, (some FieldType.int))
def kX9_goOn : rt_K := (yX9_goOn, cX9_goOn, 5, (some FieldType.boolean))
def kX9_travels : rt_K := (yX9_travels, cX9_travels, 9, (some FieldType.boolean))
def kX9_foresee : rt_K := (yX9_foresee, cX9_foresee, 3, (some FieldType.boolean))
def kX9_draw : rt_K := (yX9_draw, cX9_draw, 2, (some FieldType.int))
def kX9_stormYears : rt_K := (yX9_stormYears, cX9_stormYears, 8, (some FieldType.int))
def kX10_lookOn : rt_K := (yX10_lookOn, cX10_lookOn, 6, none)
def kX10_noteOut : rt_K := (yX10_noteOut, cX10_noteOut, 5, none)
def kX10_outFrom : rt_K := (yX10_outFrom, cX10_outFrom, 3, (some FieldType.int))
def kX10_spread : rt_K := (yX10_spread, cX10_spread, 11, none)
def kX10_goBetween : rt_K := (yX10_goBetween, cX10_goBetween, 6, (some FieldType.boolean))
def kX10_reachedBy : rt_K := (yX10_reachedBy, cX10_reachedBy, 4, (some FieldType.int))
def kX10_tellLeastWay : rt_K := (yX10_tellLeastWay, cX10_tellLeastWay, 11, none)
def kX10_leastWayOn : rt_K := (yX10_leastWayOn, cX10_leastWayOn, 12, (some FieldType.int))
def kX10_goRound : rt_K := (yX10_goRound, cX10_goRound, 3, (some FieldType.int))
def kX10_callOn : rt_K := (yX10_callOn, cX10_callOn, 8, none)
def kX10_fewestInns : rt_K := (yX10_fewestInns, cX10_fewestInns, 4, (some FieldType.int))
def kX10_serveAll : rt_K := (yX10_serveAll, cX10_serveAll, 3, (some FieldType.boolean))
def kX11_sign : rt_K := (yX11_sign, cX11_sign, 2, (some FieldType.int))
def kX11_end : rt_K := (yX11_end, cX11_end, 2, (some FieldType.boolean))
def kX11_flats : rt_K := (yX11_flats, cX11_flats, 4, (some FieldType.int))
def kX11_tide : rt_K := (yX11_tide, cX11_tide, 3, (some FieldType.int))
def kX11_carts : rt_K := (yX11_carts, cX11_carts, 4, (some FieldType.int))
def kX11_rule : rt_K := (yX11_rule, cX11_rule, 3, (some FieldType.int))
def kX11_place : rt_K := (yX11_place, cX11_place, 3, (some FieldType.int))
def kX11_road : rt_K := (yX11_road, cX11_road, 5, (some FieldType.int))
def kX11_cart : rt_K := (yX11_cart, cX11_cart, 3, (some FieldType.int))
def kX11_patience : rt_K := (yX11_patience, cX11_patience, 3, (some FieldType.int))
def kX11_sheet : rt_K := (yX11_sheet, cX11_sheet, 5, (some FieldType.int))
def kX11_out : rt_K := (yX11_out, cX11_out, 3, (some FieldType.int))
def kX11_round : rt_K := (yX11_round, cX11_round, 2, (some FieldType.int))
def kX11_chain : rt_K := (yX11_chain, cX11_chain, 3, (some FieldType.int))
def kX11_load : rt_K := (yX11_load, cX11_load, 3, (some FieldType.int))
def kX11_storm : rt_K := (yX11_storm, cX11_storm, 4, (some FieldType.int))
def kX11_pass : rt_K := (yX11_pass, cX11_pass, 3, (some FieldType.int))
def kX11_day : rt_K := (yX11_day, cX11_day, 5, (some FieldType.int))
def kX11_undo : rt_K := (yX11_undo, cX11_undo, 1, (some FieldType.int))
def kX11_level : rt_K := (yX11_level, cX11_level, 3, (some FieldType.int))
def kX11_table : rt_K := (yX11_table, cX11_table, 10, (some FieldType.int))
def kX11_comes : rt_K := (yX11_comes, cX11_comes, 3, (some FieldType.int))
def kX11_ebb : rt_K := (yX11_ebb, cX11_ebb, 7, (some FieldType.int))
def kX11_slack : rt_K := (yX11_slack, cX11_slack, 6, (some FieldType.int))
def kX11_period : rt_K := (yX11_period, cX11_period, 2, (some FieldType.int))
def kX11_soonest : rt_K := (yX11_soonest, cX11_soonest, 3, (some FieldType.int))
def kX11_latest : rt_K := (yX11_latest, cX11_latest, 5, (some FieldType.int))
def kX11_safe : rt_K := (yX11_safe, cX11_safe, 4, (some FieldType.int))
def kX11_within : rt_K := (yX11_within, cX11_within, 5, (some FieldType.int))
def kX11_cutoff : rt_K := (yX11_cutoff, cX11_cutoff, 2, (some FieldType.int))
def kX11_carrier : rt_K := (yX11_carrier, cX11_carrier, 7, (some FieldType.int))
def kX11_inns : rt_K := (yX11_inns, cX11_inns, 3, (some FieldType.int))
def kX11_arrives : rt_K := (yX11_arrives, cX11_arrives, 3, (some FieldType.int))
def kX11_best : rt_K := (yX11_best, cX11_best, 14, (some FieldType.int))
def kX11_could : rt_K := (yX11_could, cX11_could, 7, (some FieldType.int))
def kX11_mark : rt_K := (yX11_mark, cX11_mark, 3, (some FieldType.int))
def kX11_wash : rt_K := (yX11_wash, cX11_wash, 2, (some FieldType.int))
def kX11_fits : rt_K := (yX11_fits, cX11_fits, 3, (some FieldType.int))
def kX11_read : rt_K := (yX11_read, cX11_read, 5, (some FieldType.int))
def kX11_lookat : rt_K := (yX11_lookat, cX11_lookat, 4, (some FieldType.int))
def kX11_years : rt_K := (yX11_years, cX11_years, 4, (some FieldType.int))
def kX11_keep : rt_K := (yX11_keep, cX11_keep, 2, (some FieldType.boolean))
def kX11_again : rt_K := (yX11_again, cX11_again, 2, (some FieldType.boolean))
def kX11_count : rt_K := (yX11_count, cX11_count, 2, (some FieldType.int))
def kX11_row : rt_K := (yX11_row, cX11_row, 2, (some FieldType.int))
def kX11_soonestWay : rt_K := (yX11_soonestWay, cX11_soonestWay, 5, (some FieldType.int))
def kX12_thrown : rt_K := (yX12_thrown, cX12_thrown, 1, (some FieldType.int))
def kX12_in : rt_K := (yX12_in, cX12_in, 3, (some FieldType.boolean))
def kX12_has : rt_K := (yX12_has, cX12_has, 2, (some FieldType.boolean))
def kX12_lost : rt_K := (yX12_lost, cX12_lost, 1, (some FieldType.int))
def kX12_tell : rt_K := (yX12_tell, cX12_tell, 2, none)
def kX12_isPlace : rt_K := (yX12_isPlace, cX12_isPlace, 2, (some FieldType.boolean))
def kX12_isRoad : rt_K := (yX12_isRoad, cX12_isRoad, 2, (some FieldType.boolean))
def kX12_isCart : rt_K := (yX12_isCart, cX12_isCart, 2, (some FieldType.boolean))
def kX12_sign : rt_K := (yX12_sign, cX12_sign, 3, (some FieldType.int))
def kX12_end : rt_K := (yX12_end, cX12_end, 2, (some FieldType.boolean))
def kX12_begin : rt_K := (yX12_begin, cX12_begin, 4, none)
def kX12_here : rt_K := (yX12_here, cX12_here, 1, (some FieldType.int))
def kX12_fine : rt_K := (yX12_fine, cX12_fine, 1, (some FieldType.boolean))
def kX12_fault : rt_K := (yX12_fault, cX12_fault, 2, none)
def kX12_passes : rt_K := (yX12_passes, cX12_passes, 2, (some FieldType.boolean))
def kX12_need : rt_K := (yX12_need, cX12_need, 2, none)
def kX12_oneOf : rt_K := (yX12_oneOf, cX12_oneOf, 4, (some FieldType.int))
def kX12_digit : rt_K := (yX12_digit, cX12_digit, 2, (some FieldType.int))
def kX12_number : rt_K := (yX12_number, cX12_number, 4, (some FieldType.int))
def kX12_number_ : rt_K := (yX12_number_, cX12_number_, 4, (some FieldType.int))
def kX12_readLine : rt_K := (yX12_readLine, cX12_readLine, 3, none)
def kX12_flats : rt_K := (yX12_flats, cX12_flats, 3, (some FieldType.int))
def kX12_tide : rt_K := (yX12_tide, cX12_tide, 4, (some FieldType.int))
def kX12_carts : rt_K := (yX12_carts, cX12_carts, 5, (some FieldType.int))
def kX12_stand : rt_K := (yX12_stand, cX12_stand, 3, none)
def kX12_held : rt_K := (yX12_held, cX12_held, 3, (some FieldType.int))
def kX12_sum : rt_K := (yX12_sum, cX12_sum, 5, (some FieldType.int))
def kX12_product : rt_K := (yX12_product, cX12_product, 5, (some FieldType.int))
def kX12_letterOf : rt_K := (yX12_letterOf, cX12_letterOf, 1, (some FieldType.int))
def kX12_thing : rt_K := (yX12_thing, cX12_thing, 4, (some FieldType.int))
def kX12_rule : rt_K := (yX12_rule, cX12_rule, 3, (some FieldType.int))
def kX12_turnsOf : rt_K := (yX12_turnsOf, cX12_turnsOf, 7, (some FieldType.int))
def kX12_heightOf : rt_K := (yX12_heightOf, cX12_heightOf, 5, (some FieldType.int))
def kX12_levelAt : rt_K := (yX12_levelAt, cX12_levelAt, 4, (some FieldType.int))
def kX12_isThere : rt_K := (yX12_isThere, cX12_isThere, 3, (some FieldType.boolean))
def kX12_endOf : rt_K := (yX12_endOf, cX12_endOf, 3, (some FieldType.int))
def kX12_beyond : rt_K := (yX12_beyond, cX12_beyond, 3, (some FieldType.int))
def kX12_cartsAt : rt_K := (yX12_cartsAt, cX12_cartsAt, 5, (some FieldType.int))
def kX12_place : rt_K := (yX12_place, cX12_place, 5, (some FieldType.int))
def kX12_road : rt_K := (yX12_road, cX12_road, 5, (some FieldType.int))
def kX12_cart : rt_K := (yX12_cart, cX12_cart, 3, (some FieldType.int))
def kX12_patience : rt_K := (yX12_patience, cX12_patience, 3, (some FieldType.int))
def kX12_sheet : rt_K := (yX12_sheet, cX12_sheet, 9, (some FieldType.int))
def kX12_lay : rt_K := (yX12_lay, cX12_lay, 4, none)
def kX12_remember : rt_K := (yX12_remember, cX12_remember, 3, none)
def kX12_refusesOut : rt_K := (yX12_refusesOut, cX12_refusesOut, 4, (some FieldType.int))
def kX12_goOut : rt_K := (yX12_goOut, cX12_goOut, 6, (some FieldType.int))
def kX12_out : rt_K := (yX12_out, cX12_out, 4, (some FieldType.int))
def kX12_canRound : rt_K := (yX12_canRound, cX12_canRound, 2, (some FieldType.boolean))
def kX12_goRound : rt_K := (yX12_goRound, cX12_goRound, 6, (some FieldType.int))
def kX12_round : rt_K := (yX12_round, cX12_round, 2, (some FieldType.int))
def kX12_canChain : rt_K := (yX12_canChain, cX12_canChain, 2, (some FieldType.boolean))
def kX12_chain : rt_K := (yX12_chain, cX12_chain, 4, (some FieldType.int))
def kX12_canLoad : rt_K := (yX12_canLoad, cX12_canLoad, 2, (some FieldType.boolean))
def kX12_load : rt_K := (yX12_load, cX12_load, 4, (some FieldType.int))
def kX12_isUsed : rt_K := (yX12_isUsed, cX12_isUsed, 4, (some FieldType.boolean))
def kX12_storm : rt_K := (yX12_storm, cX12_storm, 5, (some FieldType.int))
def kX12_goTurn : rt_K := (yX12_goTurn, cX12_goTurn, 4, none)
def kX12_beginTurns : rt_K := (yX12_beginTurns, cX12_beginTurns, 1, none)
def kX12_goTurns : rt_K := (yX12_goTurns, cX12_goTurns, 4, none)
def kX12_pass : rt_K := (yX12_pass, cX12_pass, 2, (some FieldType.int))
def kX12_day : rt_K := (yX12_day, cX12_day, 4, (some FieldType.int))
def kX12_readAct : rt_K := (yX12_readAct, cX12_readAct, 3, none)
def kX12_act : rt_K := (yX12_act, cX12_act, 4, (some FieldType.boolean))
def kX12_undo : rt_K := (yX12_undo, cX12_undo, 2, (some FieldType.int))
def kX12_isLook : rt_K := (yX12_isLook, cX12_isLook, 1, (some FieldType.boolean))
def kX12_levelIn : rt_K := (yX12_levelIn, cX12_levelIn, 2, (some FieldType.int))
def kX12_comesIn : rt_K := (yX12_comesIn, cX12_comesIn, 3, (some FieldType.boolean))
def kX12_level : rt_K := (yX12_level, cX12_level, 2, (some FieldType.int))
def kX12_table : rt_K := (yX12_table, cX12_table, 10, (some FieldType.int))
def kX12_comes : rt_K := (yX12_comes, cX12_comes, 4, (some FieldType.int))
def kX12_ebb : rt_K := (yX12_ebb, cX12_ebb, 4, (some FieldType.int))
def kX12_slack : rt_K := (yX12_slack, cX12_slack, 5, (some FieldType.int))
def kX12_common : rt_K := (yX12_common, cX12_common, 2, (some FieldType.int))
def kX12_period : rt_K := (yX12_period, cX12_period, 3, (some FieldType.int))
def kX12_canGo : rt_K := (yX12_canGo, cX12_canGo, 6, (some FieldType.boolean))
def kX12_soonestBy : rt_K := (yX12_soonestBy, cX12_soonestBy, 8, (some FieldType.int))
def kX12_findSoon : rt_K := (yX12_findSoon, cX12_findSoon, 9, none)
def kX12_canCome : rt_K := (yX12_canCome, cX12_canCome, 10, (some FieldType.boolean))
def kX12_soonest : rt_K := (yX12_soonest, cX12_soonest, 3, (some FieldType.int))
def kX12_wayOf : rt_K := (yX12_wayOf, cX12_wayOf, 10, (some FieldType.int))
def kX12_nextRoad : rt_K := (yX12_nextRoad, cX12_nextRoad, 10, (some FieldType.int))
def kX12_latest : rt_K := (yX12_latest, cX12_latest, 5, (some FieldType.int))
def kX12_safe : rt_K := (yX12_safe, cX12_safe, 4, (some FieldType.int))
def kX12_within : rt_K := (yX12_within, cX12_within, 6, (some FieldType.int))
def kX12_cutoff : rt_K := (yX12_cutoff, cX12_cutoff, 4, (some FieldType.int))
def kX12_soonFrom : rt_K := (yX12_soonFrom, cX12_soonFrom, 4, (some FieldType.int))
def kX12_goCarrier : rt_K := (yX12_goCarrier, cX12_goCarrier, 8, none)
def kX12_carrier : rt_K := (yX12_carrier, cX12_carrier, 5, (some FieldType.int))
def kX12_inns : rt_K := (yX12_inns, cX12_inns, 6, (some FieldType.int))
def kX12_rides : rt_K := (yX12_rides, cX12_rides, 8, (some FieldType.boolean))
def kX12_ridesOn : rt_K := (yX12_ridesOn, cX12_ridesOn, 3, (some FieldType.boolean))
def kX12_arrives : rt_K := (yX12_arrives, cX12_arrives, 4, (some FieldType.int))
def kX12_best : rt_K := (yX12_best, cX12_best, 10, (some FieldType.int))
def kX12_could : rt_K := (yX12_could, cX12_could, 8, (some FieldType.int))
def kX12_mark : rt_K := (yX12_mark, cX12_mark, 3, (some FieldType.int))
def kX12_wash : rt_K := (yX12_wash, cX12_wash, 2, (some FieldType.int))
def kX12_fitsBy : rt_K := (yX12_fitsBy, cX12_fitsBy, 6, (some FieldType.boolean))
def kX12_fits : rt_K := (yX12_fits, cX12_fits, 6, (some FieldType.int))
def kX12_findTold : rt_K := (yX12_findTold, cX12_findTold, 8, none)
def kX12_toldAt : rt_K := (yX12_toldAt, cX12_toldAt, 4, (some FieldType.int))
def kX12_read : rt_K := (yX12_read, cX12_read, 6, (some FieldType.int))
def kX12_lookat : rt_K := (yX12_lookat, cX12_lookat, 4, (some FieldType.int))
def kX12_draw : rt_K := (yX12_draw, cX12_draw, 2, (some FieldType.int))
def kX12_years : rt_K := (yX12_years, cX12_years, 8, (some FieldType.int))
def kX12_keep : rt_K := (yX12_keep, cX12_keep, 2, (some FieldType.boolean))
def kX12_again : rt_K := (yX12_again, cX12_again, 3, (some FieldType.boolean))
def kX12_count : rt_K := (yX12_count, cX12_count, 4, (some FieldType.int))
def kX12_row : rt_K := (yX12_row, cX12_row, 2, (some FieldType.int))
def kJ6_compare_7cf53 : rt_K := (yJ6_compare_7cf53, cJ6_compare_7cf53, 2, (some FieldType.int))
def kJ6_numberOfLeadingZeros_0f7a4 : rt_K := (yJ6_numberOfLeadingZeros_0f7a4, cJ6_numberOfLeadingZeros_0f7a4, 2, (some FieldType.int))
def kJ6_numberOfTrailingZeros_0f7a4 : rt_K := (yJ6_numberOfTrailingZeros_0f7a4, cJ6_numberOfTrailingZeros_0f7a4, 2, (some FieldType.int))
def kJ6_bitCount_0f7a4 : rt_K := (yJ6_bitCount_0f7a4, cJ6_bitCount_0f7a4, 1, (some FieldType.int))
def kJ13_numberOfLeadingZeros_95d88 : rt_K := (yJ13_numberOfLeadingZeros_95d88, cJ13_numberOfLeadingZeros_95d88, 3, (some FieldType.int))
def kJ13_numberOfTrailingZeros_95d88 : rt_K := (yJ13_numberOfTrailingZeros_95d88, cJ13_numberOfTrailingZeros_95d88, 3, (some FieldType.int))
def kJ13_bitCount_95d88 : rt_K := (yJ13_bitCount_95d88, cJ13_bitCount_95d88, 2, (some FieldType.int))
def kJ9_abs_0f7a4 : rt_K := (yJ9_abs_0f7a4, cJ9_abs_0f7a4, 1, (some FieldType.int))
def kJ9_max_7cf53 : rt_K := (yJ9_max_7cf53, cJ9_max_7cf53, 2, (some FieldType.int))
def kJ9_min_7cf53 : rt_K := (yJ9_min_7cf53, cJ9_min_7cf53, 2, (some FieldType.int))
def kJ7_fill_d0a16 : rt_K := (yJ7_fill_d0a16, cJ7_fill_d0a16, 5, none)
def kJ7_fill_53178 : rt_K := (yJ7_fill_53178, cJ7_fill_53178, 4, none)
def rt_okK (K : rt_K) (n : Nat) (ci : Option Nat) : Prop := Cond.code K.1 K.2.1 K.2.2.1 K.2.2.2 ∈ rt_tbl ∧ Cond.initialized K.1.cls ∈ rt_tbl ∧ (K.1.cls ≠ "java/lang/invoke/MethodHandle" ∧ K.1.cls ≠ "java/lang/invoke/VarHandle" ∧ (parseMethodDescriptor K.1.desc).map (fun d => d.parameters.length) = some n) ∧ K.2.2.1 ≤ 41 ∧ match ci with
  | none => Cond.static K.1 ∈ rt_tbl
  | some c => Cond.instanceMethod K.1 ∈ rt_tbl ∧ Cond.selects K.1.cls K.1 K.1 ∈ rt_tbl ∧ ∃ q : vw_C, vwCl[c]? = some q ∧ q.1 = K.1.cls
theorem okX0_readActs : rt_okK kX0_readActs 1 (some 0) := ⟨rt_at 866 (by decide +kernel) (by decide +kernel), rt_at 88 (by decide +kernel) (by decide +kernel), ⟨by decide +kernel, by decide +kernel, by decide +kernel⟩, Nat.le_of_ble_eq_true rfl, ⟨rt_at 864 (by decide +kernel) (by decide +kernel), rt_at 865 (by decide +kernel) (by decide +kernel), _, rfl, rfl⟩⟩
theorem okX0_readAct : rt_okK kX0_readAct 1 (some 0) := ⟨rt_at 870 (by decide +kernel) (by decide +kernel), rt_at 88 (by decide +kernel) (by decide +kernel), ⟨by decide +kernel, by decide +kernel, by decide +kernel⟩, Nat.le_of_ble_eq_true rfl, ⟨rt_at 869 (by decide +kernel) (by decide +kernel), rt_at 15 (by decide +kernel) (by decide +kernel), _, rfl, rfl⟩⟩
theorem okX0_runOn : rt_okK kX0_runOn 1 (some 0) := ⟨rt_at 877 (by decide +kernel) (by decide +kernel), rt_at 88 (by decide +kernel) (by decide +kernel), ⟨by decide +kernel, by decide +kernel, by decide +kernel⟩, Nat.le_of_ble_eq_true rfl, ⟨rt_at 875 (by decide +kernel) (by decide +kernel), rt_at 876 (by decide +kernel) (by decide +kernel), _, rfl, rfl⟩⟩
theorem okX0_runAct : rt_okK kX0_runAct 4 (some 0) := ⟨rt_at 881 (by decide +kernel) (by decide +kernel), rt_at 88 (by decide +kernel) (by decide +kernel), ⟨by decide +kernel, by decide +kernel, by decide +kernel⟩, Nat.le_of_ble_eq_true rfl, ⟨rt_at 880 (by decide +kernel) (by decide +kernel), rt_at 16 (by decide +kernel) (by decide +kernel), _, rfl, rfl⟩⟩
theorem okX1_prepare : rt_okK kX1_prepare 1 (some 1) := ⟨rt_at 725 (by decide +kernel) (by decide +kernel), rt_at 87 (by decide +kernel) (by decide +kernel), ⟨by decide +kernel, by decide +kernel, by decide +kernel⟩, Nat.le_of_ble_eq_true rfl, ⟨rt_at 723 (by decide +kernel) (by decide +kernel), rt_at 724 (by decide +kernel) (by decide +kernel), _, rfl, rfl⟩⟩
theorem okX1_keepIfDone : rt_okK kX1_keepIfDone 1 (some 1) := ⟨rt_at 789 (by decide +kernel) (by decide +kernel), rt_at 87 (by decide +kernel) (by decide +kernel), ⟨by decide +kernel, by decide +kernel, by decide +kernel⟩, Nat.le_of_ble_eq_true rfl, ⟨rt_at 787 (by decide +kernel) (by decide +kernel), rt_at 788 (by decide +kernel) (by decide +kernel), _, rfl, rfl⟩⟩
theorem okX1_stepBack : rt_okK kX1_stepBack 1 (some 1) := ⟨rt_at 896 (by decide +kernel) (by decide +kernel), rt_at 87 (by decide +kernel) (by decide +kernel), ⟨by decide +kernel, by decide +kernel, by decide +kernel⟩, Nat.le_of_ble_eq_true rfl, ⟨rt_at 894 (by decide +kernel) (by decide +kernel), rt_at 895 (by decide +kernel) (by decide +kernel), _, rfl, rfl⟩⟩
theorem okX1_store : rt_okK kX1_store 2 (some 1) := ⟨rt_at 1156 (by decide +kernel) (by decide +kernel), rt_at 87 (by decide +kernel) (by decide +kernel), ⟨by decide +kernel, by decide +kernel, by decide +kernel⟩, Nat.le_of_ble_eq_true rfl, ⟨rt_at 1154 (by decide +kernel) (by decide +kernel), rt_at 1155 (by decide +kernel) (by decide +kernel), _, rfl, rfl⟩⟩
theorem okX1_restore : rt_okK kX1_restore 2 (some 1) := ⟨rt_at 1164 (by decide +kernel) (by decide +kernel), rt_at 87 (by decide +kernel) (by decide +kernel), ⟨by decide +kernel, by decide +kernel, by decide +kernel⟩, Nat.le_of_ble_eq_true rfl, ⟨rt_at 1162 (by decide +kernel) (by decide +kernel), rt_at 1163 (by decide +kernel) (by decide +kernel), _, rfl, rfl⟩⟩
theorem okX1_forgetAll : rt_okK kX1_forgetAll 0 (some 1) := ⟨rt_at 596 (by decide +kernel) (by decide +kernel), rt_at 87 (by decide +kernel) (by decide +kernel), ⟨by decide +kernel, by decide +kernel, by decide +kernel⟩, Nat.le_of_ble_eq_true rfl, ⟨rt_at 594 (by decide +kernel) (by decide +kernel), rt_at 595 (by decide +kernel) (by decide +kernel), _, rfl, rfl⟩⟩
theorem okX2_hasPlace : rt_okK kX2_hasPlace 1 (some 2) := ⟨rt_at 828 (by decide +kernel) (by decide +kernel), rt_at 84 (by decide +kernel) (by decide +kernel), ⟨by decide +kernel, by decide +kernel, by decide +kernel⟩, Nat.le_of_ble_eq_true rfl, ⟨rt_at 826 (by decide +kernel) (by decide +kernel), rt_at 827 (by decide +kernel) (by decide +kernel), _, rfl, rfl⟩⟩
theorem okX2_hasRoad : rt_okK kX2_hasRoad 1 (some 2) := ⟨rt_at 742 (by decide +kernel) (by decide +kernel), rt_at 84 (by decide +kernel) (by decide +kernel), ⟨by decide +kernel, by decide +kernel, by decide +kernel⟩, Nat.le_of_ble_eq_true rfl, ⟨rt_at 740 (by decide +kernel) (by decide +kernel), rt_at 741 (by decide +kernel) (by decide +kernel), _, rfl, rfl⟩⟩
theorem okX2_hasCart : rt_okK kX2_hasCart 1 (some 2) := ⟨rt_at 738 (by decide +kernel) (by decide +kernel), rt_at 84 (by decide +kernel) (by decide +kernel), ⟨by decide +kernel, by decide +kernel, by decide +kernel⟩, Nat.le_of_ble_eq_true rfl, ⟨rt_at 736 (by decide +kernel) (by decide +kernel), rt_at 737 (by decide +kernel) (by decide +kernel), _, rfl, rfl⟩⟩
theorem okX2_allPlaces : rt_okK kX2_allPlaces 0 (some 2) := ⟨rt_at 1013 (by decide +kernel) (by decide +kernel), rt_at 84 (by decide +kernel) (by decide +kernel), ⟨by decide +kernel, by decide +kernel, by decide +kernel⟩, Nat.le_of_ble_eq_true rfl, ⟨rt_at 1011 (by decide +kernel) (by decide +kernel), rt_at 1012 (by decide +kernel) (by decide +kernel), _, rfl, rfl⟩⟩
theorem okX2_roadsAt : rt_okK kX2_roadsAt 1 (some 2) := ⟨rt_at 1242 (by decide +kernel) (by decide +kernel), rt_at 84 (by decide +kernel) (by decide +kernel), ⟨by decide +kernel, by decide +kernel, by decide +kernel⟩, Nat.le_of_ble_eq_true rfl, ⟨rt_at 1240 (by decide +kernel) (by decide +kernel), rt_at 1241 (by decide +kernel) (by decide +kernel), _, rfl, rfl⟩⟩
theorem okX2_readFlats : rt_okK kX2_readFlats 1 (some 2) := ⟨rt_at 546 (by decide +kernel) (by decide +kernel), rt_at 84 (by decide +kernel) (by decide +kernel), ⟨by decide +kernel, by decide +kernel, by decide +kernel⟩, Nat.le_of_ble_eq_true rfl, ⟨rt_at 544 (by decide +kernel) (by decide +kernel), rt_at 545 (by decide +kernel) (by decide +kernel), _, rfl, rfl⟩⟩
theorem okX2_readPlace : rt_okK kX2_readPlace 1 (some 2) := ⟨rt_at 554 (by decide +kernel) (by decide +kernel), rt_at 84 (by decide +kernel) (by decide +kernel), ⟨by decide +kernel, by decide +kernel, by decide +kernel⟩, Nat.le_of_ble_eq_true rfl, ⟨rt_at 553 (by decide +kernel) (by decide +kernel), rt_at 0 (by decide +kernel) (by decide +kernel), _, rfl, rfl⟩⟩
theorem okX2_readRoad : rt_okK kX2_readRoad 1 (some 2) := ⟨rt_at 571 (by decide +kernel) (by decide +kernel), rt_at 84 (by decide +kernel) (by decide +kernel), ⟨by decide +kernel, by decide +kernel, by decide +kernel⟩, Nat.le_of_ble_eq_true rfl, ⟨rt_at 570 (by decide +kernel) (by decide +kernel), rt_at 1 (by decide +kernel) (by decide +kernel), _, rfl, rfl⟩⟩
theorem okX2_acceptFlats : rt_okK kX2_acceptFlats 0 (some 2) := ⟨rt_at 592 (by decide +kernel) (by decide +kernel), rt_at 84 (by decide +kernel) (by decide +kernel), ⟨by decide +kernel, by decide +kernel, by decide +kernel⟩, Nat.le_of_ble_eq_true rfl, ⟨rt_at 590 (by decide +kernel) (by decide +kernel), rt_at 591 (by decide +kernel) (by decide +kernel), _, rfl, rfl⟩⟩
theorem okX2_readCarts : rt_okK kX2_readCarts 1 (some 2) := ⟨rt_at 630 (by decide +kernel) (by decide +kernel), rt_at 84 (by decide +kernel) (by decide +kernel), ⟨by decide +kernel, by decide +kernel, by decide +kernel⟩, Nat.le_of_ble_eq_true rfl, ⟨rt_at 628 (by decide +kernel) (by decide +kernel), rt_at 629 (by decide +kernel) (by decide +kernel), _, rfl, rfl⟩⟩
theorem okX2_readCart : rt_okK kX2_readCart 1 (some 2) := ⟨rt_at 634 (by decide +kernel) (by decide +kernel), rt_at 84 (by decide +kernel) (by decide +kernel), ⟨by decide +kernel, by decide +kernel, by decide +kernel⟩, Nat.le_of_ble_eq_true rfl, ⟨rt_at 633 (by decide +kernel) (by decide +kernel), rt_at 4 (by decide +kernel) (by decide +kernel), _, rfl, rfl⟩⟩
theorem okX2_acceptCarts : rt_okK kX2_acceptCarts 0 (some 2) := ⟨rt_at 647 (by decide +kernel) (by decide +kernel), rt_at 84 (by decide +kernel) (by decide +kernel), ⟨by decide +kernel, by decide +kernel, by decide +kernel⟩, Nat.le_of_ble_eq_true rfl, ⟨rt_at 645 (by decide +kernel) (by decide +kernel), rt_at 646 (by decide +kernel) (by decide +kernel), _, rfl, rfl⟩⟩
theorem okX2_tellHeights : rt_okK kX2_tellHeights 4 (some 2) := ⟨rt_at 712 (by decide +kernel) (by decide +kernel), rt_at 84 (by decide +kernel) (by decide +kernel), ⟨by decide +kernel, by decide +kernel, by decide +kernel⟩, Nat.le_of_ble_eq_true rfl, ⟨rt_at 710 (by decide +kernel) (by decide +kernel), rt_at 711 (by decide +kernel) (by decide +kernel), _, rfl, rfl⟩⟩
theorem okX2_entryOf : rt_okK kX2_entryOf 2 none := ⟨rt_at 715 (by decide +kernel) (by decide +kernel), rt_at 84 (by decide +kernel) (by decide +kernel), ⟨by decide +kernel, by decide +kernel, by decide +kernel⟩, Nat.le_of_ble_eq_true rfl, rt_at 714 (by decide +kernel) (by decide +kernel)⟩
theorem okX3_isError : rt_okK kX3_isError 1 none := ⟨rt_at 1088 (by decide +kernel) (by decide +kernel), rt_at 90 (by decide +kernel) (by decide +kernel), ⟨by decide +kernel, by decide +kernel, by decide +kernel⟩, Nat.le_of_ble_eq_true rfl, rt_at 1087 (by decide +kernel) (by decide +kernel)⟩
theorem okX3_isTime : rt_okK kX3_isTime 1 none := ⟨rt_at 1077 (by decide +kernel) (by decide +kernel), rt_at 90 (by decide +kernel) (by decide +kernel), ⟨by decide +kernel, by decide +kernel, by decide +kernel⟩, Nat.le_of_ble_eq_true rfl, rt_at 1076 (by decide +kernel) (by decide +kernel)⟩
theorem okX3_put : rt_okK kX3_put 2 (some 3) := ⟨rt_at 1074 (by decide +kernel) (by decide +kernel), rt_at 90 (by decide +kernel) (by decide +kernel), ⟨by decide +kernel, by decide +kernel, by decide +kernel⟩, Nat.le_of_ble_eq_true rfl, ⟨rt_at 1072 (by decide +kernel) (by decide +kernel), rt_at 1073 (by decide +kernel) (by decide +kernel), _, rfl, rfl⟩⟩
theorem okX3_search : rt_okK kX3_search 3 (some 3) := ⟨rt_at 1092 (by decide +kernel) (by decide +kernel), rt_at 90 (by decide +kernel) (by decide +kernel), ⟨by decide +kernel, by decide +kernel, by decide +kernel⟩, Nat.le_of_ble_eq_true rfl, ⟨rt_at 1090 (by decide +kernel) (by decide +kernel), rt_at 1091 (by decide +kernel) (by decide +kernel), _, rfl, rfl⟩⟩
theorem okX3_suits : rt_okK kX3_suits 4 (some 3) := ⟨rt_at 1099 (by decide +kernel) (by decide +kernel), rt_at 90 (by decide +kernel) (by decide +kernel), ⟨by decide +kernel, by decide +kernel, by decide +kernel⟩, Nat.le_of_ble_eq_true rfl, ⟨rt_at 1098 (by decide +kernel) (by decide +kernel), rt_at 23 (by decide +kernel) (by decide +kernel), _, rfl, rfl⟩⟩
theorem okX4_copyFrom : rt_okK kX4_copyFrom 1 (some 4) := ⟨rt_at 729 (by decide +kernel) (by decide +kernel), rt_at 85 (by decide +kernel) (by decide +kernel), ⟨by decide +kernel, by decide +kernel, by decide +kernel⟩, Nat.le_of_ble_eq_true rfl, ⟨rt_at 727 (by decide +kernel) (by decide +kernel), rt_at 728 (by decide +kernel) (by decide +kernel), _, rfl, rfl⟩⟩
theorem okX4_of : rt_okK kX4_of 2 (some 4) := ⟨rt_at 746 (by decide +kernel) (by decide +kernel), rt_at 85 (by decide +kernel) (by decide +kernel), ⟨by decide +kernel, by decide +kernel, by decide +kernel⟩, Nat.le_of_ble_eq_true rfl, ⟨rt_at 744 (by decide +kernel) (by decide +kernel), rt_at 745 (by decide +kernel) (by decide +kernel), _, rfl, rfl⟩⟩
theorem okX4_put : rt_okK kX4_put 3 (some 4) := ⟨rt_at 642 (by decide +kernel) (by decide +kernel), rt_at 85 (by decide +kernel) (by decide +kernel), ⟨by decide +kernel, by decide +kernel, by decide +kernel⟩, Nat.le_of_ble_eq_true rfl, ⟨rt_at 640 (by decide +kernel) (by decide +kernel), rt_at 641 (by decide +kernel) (by decide +kernel), _, rfl, rfl⟩⟩
theorem okX4_putAtPlace : rt_okK kX4_putAtPlace 2 (some 4) := ⟨rt_at 638 (by decide +kernel) (by decide +kernel), rt_at 85 (by decide +kernel) (by decide +kernel), ⟨by decide +kernel, by decide +kernel, by decide +kernel⟩, Nat.le_of_ble_eq_true rfl, ⟨rt_at 636 (by decide +kernel) (by decide +kernel), rt_at 637 (by decide +kernel) (by decide +kernel), _, rfl, rfl⟩⟩
theorem okX4_putOnRoad : rt_okK kX4_putOnRoad 4 (some 4) := ⟨rt_at 785 (by decide +kernel) (by decide +kernel), rt_at 85 (by decide +kernel) (by decide +kernel), ⟨by decide +kernel, by decide +kernel, by decide +kernel⟩, Nat.le_of_ble_eq_true rfl, ⟨rt_at 783 (by decide +kernel) (by decide +kernel), rt_at 784 (by decide +kernel) (by decide +kernel), _, rfl, rfl⟩⟩
theorem okX4_cartsWith : rt_okK kX4_cartsWith 2 (some 4) := ⟨rt_at 832 (by decide +kernel) (by decide +kernel), rt_at 85 (by decide +kernel) (by decide +kernel), ⟨by decide +kernel, by decide +kernel, by decide +kernel⟩, Nat.le_of_ble_eq_true rfl, ⟨rt_at 830 (by decide +kernel) (by decide +kernel), rt_at 831 (by decide +kernel) (by decide +kernel), _, rfl, rfl⟩⟩
theorem okX4_cartsCut : rt_okK kX4_cartsCut 0 (some 4) := ⟨rt_at 858 (by decide +kernel) (by decide +kernel), rt_at 85 (by decide +kernel) (by decide +kernel), ⟨by decide +kernel, by decide +kernel, by decide +kernel⟩, Nat.le_of_ble_eq_true rfl, ⟨rt_at 856 (by decide +kernel) (by decide +kernel), rt_at 857 (by decide +kernel) (by decide +kernel), _, rfl, rfl⟩⟩
theorem okX4_farEnd : rt_okK kX4_farEnd 2 (some 4) := ⟨rt_at 750 (by decide +kernel) (by decide +kernel), rt_at 85 (by decide +kernel) (by decide +kernel), ⟨by decide +kernel, by decide +kernel, by decide +kernel⟩, Nat.le_of_ble_eq_true rfl, ⟨rt_at 748 (by decide +kernel) (by decide +kernel), rt_at 749 (by decide +kernel) (by decide +kernel), _, rfl, rfl⟩⟩
theorem okX5_clear : rt_okK kX5_clear 0 (some 5) := ⟨rt_at 850 (by decide +kernel) (by decide +kernel), rt_at 91 (by decide +kernel) (by decide +kernel), ⟨by decide +kernel, by decide +kernel, by decide +kernel⟩, Nat.le_of_ble_eq_true rfl, ⟨rt_at 848 (by decide +kernel) (by decide +kernel), rt_at 849 (by decide +kernel) (by decide +kernel), _, rfl, rfl⟩⟩
theorem okX5_add : rt_okK kX5_add 1 (some 5) := ⟨rt_at 854 (by decide +kernel) (by decide +kernel), rt_at 91 (by decide +kernel) (by decide +kernel), ⟨by decide +kernel, by decide +kernel, by decide +kernel⟩, Nat.le_of_ble_eq_true rfl, ⟨rt_at 852 (by decide +kernel) (by decide +kernel), rt_at 853 (by decide +kernel) (by decide +kernel), _, rfl, rfl⟩⟩
theorem okX6_readRule : rt_okK kX6_readRule 1 (some 6) := ⟨rt_at 655 (by decide +kernel) (by decide +kernel), rt_at 83 (by decide +kernel) (by decide +kernel), ⟨by decide +kernel, by decide +kernel, by decide +kernel⟩, Nat.le_of_ble_eq_true rfl, ⟨rt_at 653 (by decide +kernel) (by decide +kernel), rt_at 654 (by decide +kernel) (by decide +kernel), _, rfl, rfl⟩⟩
theorem okX6_readAhead : rt_okK kX6_readAhead 1 (some 6) := ⟨rt_at 674 (by decide +kernel) (by decide +kernel), rt_at 83 (by decide +kernel) (by decide +kernel), ⟨by decide +kernel, by decide +kernel, by decide +kernel⟩, Nat.le_of_ble_eq_true rfl, ⟨rt_at 673 (by decide +kernel) (by decide +kernel), rt_at 7 (by decide +kernel) (by decide +kernel), _, rfl, rfl⟩⟩
theorem okX6_readThing : rt_okK kX6_readThing 1 (some 6) := ⟨rt_at 683 (by decide +kernel) (by decide +kernel), rt_at 83 (by decide +kernel) (by decide +kernel), ⟨by decide +kernel, by decide +kernel, by decide +kernel⟩, Nat.le_of_ble_eq_true rfl, ⟨rt_at 682 (by decide +kernel) (by decide +kernel), rt_at 9 (by decide +kernel) (by decide +kernel), _, rfl, rfl⟩⟩
theorem okX6_readClose : rt_okK kX6_readClose 1 (some 6) := ⟨rt_at 691 (by decide +kernel) (by decide +kernel), rt_at 83 (by decide +kernel) (by decide +kernel), ⟨by decide +kernel, by decide +kernel, by decide +kernel⟩, Nat.le_of_ble_eq_true rfl, ⟨rt_at 690 (by decide +kernel) (by decide +kernel), rt_at 10 (by decide +kernel) (by decide +kernel), _, rfl, rfl⟩⟩
theorem okX6_readOperator : rt_okK kX6_readOperator 1 (some 6) := ⟨rt_at 695 (by decide +kernel) (by decide +kernel), rt_at 83 (by decide +kernel) (by decide +kernel), ⟨by decide +kernel, by decide +kernel, by decide +kernel⟩, Nat.le_of_ble_eq_true rfl, ⟨rt_at 694 (by decide +kernel) (by decide +kernel), rt_at 11 (by decide +kernel) (by decide +kernel), _, rfl, rfl⟩⟩
theorem okX6_popTo : rt_okK kX6_popTo 1 (some 6) := ⟨rt_at 660 (by decide +kernel) (by decide +kernel), rt_at 83 (by decide +kernel) (by decide +kernel), ⟨by decide +kernel, by decide +kernel, by decide +kernel⟩, Nat.le_of_ble_eq_true rfl, ⟨rt_at 659 (by decide +kernel) (by decide +kernel), rt_at 5 (by decide +kernel) (by decide +kernel), _, rfl, rfl⟩⟩
theorem okX6_push : rt_okK kX6_push 1 (some 6) := ⟨rt_at 679 (by decide +kernel) (by decide +kernel), rt_at 83 (by decide +kernel) (by decide +kernel), ⟨by decide +kernel, by decide +kernel, by decide +kernel⟩, Nat.le_of_ble_eq_true rfl, ⟨rt_at 678 (by decide +kernel) (by decide +kernel), rt_at 8 (by decide +kernel) (by decide +kernel), _, rfl, rfl⟩⟩
theorem okX6_put : rt_okK kX6_put 1 (some 6) := ⟨rt_at 670 (by decide +kernel) (by decide +kernel), rt_at 83 (by decide +kernel) (by decide +kernel), ⟨by decide +kernel, by decide +kernel, by decide +kernel⟩, Nat.le_of_ble_eq_true rfl, ⟨rt_at 669 (by decide +kernel) (by decide +kernel), rt_at 6 (by decide +kernel) (by decide +kernel), _, rfl, rfl⟩⟩
theorem okX6_letterOf : rt_okK kX6_letterOf 1 none := ⟨rt_at 687 (by decide +kernel) (by decide +kernel), rt_at 83 (by decide +kernel) (by decide +kernel), ⟨by decide +kernel, by decide +kernel, by decide +kernel⟩, Nat.le_of_ble_eq_true rfl, rt_at 686 (by decide +kernel) (by decide +kernel)⟩
theorem okX6_rankOf : rt_okK kX6_rankOf 1 none := ⟨rt_at 663 (by decide +kernel) (by decide +kernel), rt_at 83 (by decide +kernel) (by decide +kernel), ⟨by decide +kernel, by decide +kernel, by decide +kernel⟩, Nat.le_of_ble_eq_true rfl, rt_at 662 (by decide +kernel) (by decide +kernel)⟩
theorem okX6_accept : rt_okK kX6_accept 0 (some 6) := ⟨rt_at 699 (by decide +kernel) (by decide +kernel), rt_at 83 (by decide +kernel) (by decide +kernel), ⟨by decide +kernel, by decide +kernel, by decide +kernel⟩, Nat.le_of_ble_eq_true rfl, ⟨rt_at 697 (by decide +kernel) (by decide +kernel), rt_at 698 (by decide +kernel) (by decide +kernel), _, rfl, rfl⟩⟩
theorem okX6_turnsOf : rt_okK kX6_turnsOf 6 (some 6) := ⟨rt_at 769 (by decide +kernel) (by decide +kernel), rt_at 83 (by decide +kernel) (by decide +kernel), ⟨by decide +kernel, by decide +kernel, by decide +kernel⟩, Nat.le_of_ble_eq_true rfl, ⟨rt_at 767 (by decide +kernel) (by decide +kernel), rt_at 768 (by decide +kernel) (by decide +kernel), _, rfl, rfl⟩⟩
theorem okX6_reckon : rt_okK kX6_reckon 0 (some 6) := ⟨rt_at 773 (by decide +kernel) (by decide +kernel), rt_at 83 (by decide +kernel) (by decide +kernel), ⟨by decide +kernel, by decide +kernel, by decide +kernel⟩, Nat.le_of_ble_eq_true rfl, ⟨rt_at 772 (by decide +kernel) (by decide +kernel), rt_at 12 (by decide +kernel) (by decide +kernel), _, rfl, rfl⟩⟩
theorem okX6_valueOf : rt_okK kX6_valueOf 1 (some 6) := ⟨rt_at 777 (by decide +kernel) (by decide +kernel), rt_at 83 (by decide +kernel) (by decide +kernel), ⟨by decide +kernel, by decide +kernel, by decide +kernel⟩, Nat.le_of_ble_eq_true rfl, ⟨rt_at 776 (by decide +kernel) (by decide +kernel), rt_at 13 (by decide +kernel) (by decide +kernel), _, rfl, rfl⟩⟩
theorem okX6_join : rt_okK kX6_join 3 none := ⟨rt_at 780 (by decide +kernel) (by decide +kernel), rt_at 83 (by decide +kernel) (by decide +kernel), ⟨by decide +kernel, by decide +kernel, by decide +kernel⟩, Nat.le_of_ble_eq_true rfl, rt_at 779 (by decide +kernel) (by decide +kernel)⟩
theorem okX7_addFour : rt_okK kX7_addFour 1 (some 7) := ⟨rt_at 523 (by decide +kernel) (by decide +kernel), rt_at 81 (by decide +kernel) (by decide +kernel), ⟨by decide +kernel, by decide +kernel, by decide +kernel⟩, Nat.le_of_ble_eq_true rfl, ⟨rt_at 521 (by decide +kernel) (by decide +kernel), rt_at 522 (by decide +kernel) (by decide +kernel), _, rfl, rfl⟩⟩
theorem okX7_cutTo : rt_okK kX7_cutTo 1 (some 7) := ⟨rt_at 531 (by decide +kernel) (by decide +kernel), rt_at 81 (by decide +kernel) (by decide +kernel), ⟨by decide +kernel, by decide +kernel, by decide +kernel⟩, Nat.le_of_ble_eq_true rfl, ⟨rt_at 529 (by decide +kernel) (by decide +kernel), rt_at 530 (by decide +kernel) (by decide +kernel), _, rfl, rfl⟩⟩
theorem okX7_clear : rt_okK kX7_clear 0 (some 7) := ⟨rt_at 588 (by decide +kernel) (by decide +kernel), rt_at 81 (by decide +kernel) (by decide +kernel), ⟨by decide +kernel, by decide +kernel, by decide +kernel⟩, Nat.le_of_ble_eq_true rfl, ⟨rt_at 586 (by decide +kernel) (by decide +kernel), rt_at 587 (by decide +kernel) (by decide +kernel), _, rfl, rfl⟩⟩
theorem okX7_open : rt_okK kX7_open 1 (some 7) := ⟨rt_at 539 (by decide +kernel) (by decide +kernel), rt_at 81 (by decide +kernel) (by decide +kernel), ⟨by decide +kernel, by decide +kernel, by decide +kernel⟩, Nat.le_of_ble_eq_true rfl, ⟨rt_at 537 (by decide +kernel) (by decide +kernel), rt_at 538 (by decide +kernel) (by decide +kernel), _, rfl, rfl⟩⟩
theorem okX7_isAllRead : rt_okK kX7_isAllRead 0 (some 7) := ⟨rt_at 584 (by decide +kernel) (by decide +kernel), rt_at 81 (by decide +kernel) (by decide +kernel), ⟨by decide +kernel, by decide +kernel, by decide +kernel⟩, Nat.le_of_ble_eq_true rfl, ⟨rt_at 582 (by decide +kernel) (by decide +kernel), rt_at 583 (by decide +kernel) (by decide +kernel), _, rfl, rfl⟩⟩
theorem okX7_peek : rt_okK kX7_peek 0 (some 7) := ⟨rt_at 550 (by decide +kernel) (by decide +kernel), rt_at 81 (by decide +kernel) (by decide +kernel), ⟨by decide +kernel, by decide +kernel, by decide +kernel⟩, Nat.le_of_ble_eq_true rfl, ⟨rt_at 548 (by decide +kernel) (by decide +kernel), rt_at 549 (by decide +kernel) (by decide +kernel), _, rfl, rfl⟩⟩
theorem okX7_take : rt_okK kX7_take 1 (some 7) := ⟨rt_at 558 (by decide +kernel) (by decide +kernel), rt_at 81 (by decide +kernel) (by decide +kernel), ⟨by decide +kernel, by decide +kernel, by decide +kernel⟩, Nat.le_of_ble_eq_true rfl, ⟨rt_at 556 (by decide +kernel) (by decide +kernel), rt_at 557 (by decide +kernel) (by decide +kernel), _, rfl, rfl⟩⟩
theorem okX7_isDigit : rt_okK kX7_isDigit 0 (some 7) := ⟨rt_at 567 (by decide +kernel) (by decide +kernel), rt_at 81 (by decide +kernel) (by decide +kernel), ⟨by decide +kernel, by decide +kernel, by decide +kernel⟩, Nat.le_of_ble_eq_true rfl, ⟨rt_at 565 (by decide +kernel) (by decide +kernel), rt_at 566 (by decide +kernel) (by decide +kernel), _, rfl, rfl⟩⟩
theorem okX7_takeNumber : rt_okK kX7_takeNumber 1 (some 7) := ⟨rt_at 563 (by decide +kernel) (by decide +kernel), rt_at 81 (by decide +kernel) (by decide +kernel), ⟨by decide +kernel, by decide +kernel, by decide +kernel⟩, Nat.le_of_ble_eq_true rfl, ⟨rt_at 561 (by decide +kernel) (by decide +kernel), rt_at 562 (by decide +kernel) (by decide +kernel), _, rfl, rfl⟩⟩
theorem okX7_takeLetter : rt_okK kX7_takeLetter 1 (some 7) := ⟨rt_at 575 (by decide +kernel) (by decide +kernel), rt_at 81 (by decide +kernel) (by decide +kernel), ⟨by decide +kernel, by decide +kernel, by decide +kernel⟩, Nat.le_of_ble_eq_true rfl, ⟨rt_at 573 (by decide +kernel) (by decide +kernel), rt_at 574 (by decide +kernel) (by decide +kernel), _, rfl, rfl⟩⟩
theorem okX7_behindLine : rt_okK kX7_behindLine 0 (some 7) := ⟨rt_at 579 (by decide +kernel) (by decide +kernel), rt_at 81 (by decide +kernel) (by decide +kernel), ⟨by decide +kernel, by decide +kernel, by decide +kernel⟩, Nat.le_of_ble_eq_true rfl, ⟨rt_at 577 (by decide +kernel) (by decide +kernel), rt_at 578 (by decide +kernel) (by decide +kernel), _, rfl, rfl⟩⟩
theorem okX8_ofRound : rt_okK kX8_ofRound 4 none := ⟨rt_at 761 (by decide +kernel) (by decide +kernel), rt_at 82 (by decide +kernel) (by decide +kernel), ⟨by decide +kernel, by decide +kernel, by decide +kernel⟩, Nat.le_of_ble_eq_true rfl, rt_at 760 (by decide +kernel) (by decide +kernel)⟩
theorem okX8_heightAt : rt_okK kX8_heightAt 1 (some 8) := ⟨rt_at 758 (by decide +kernel) (by decide +kernel), rt_at 82 (by decide +kernel) (by decide +kernel), ⟨by decide +kernel, by decide +kernel, by decide +kernel⟩, Nat.le_of_ble_eq_true rfl, ⟨rt_at 756 (by decide +kernel) (by decide +kernel), rt_at 757 (by decide +kernel) (by decide +kernel), _, rfl, rfl⟩⟩
theorem okX8_allGoInto : rt_okK kX8_allGoInto 1 (some 8) := ⟨rt_at 944 (by decide +kernel) (by decide +kernel), rt_at 82 (by decide +kernel) (by decide +kernel), ⟨by decide +kernel, by decide +kernel, by decide +kernel⟩, Nat.le_of_ble_eq_true rfl, ⟨rt_at 942 (by decide +kernel) (by decide +kernel), rt_at 943 (by decide +kernel) (by decide +kernel), _, rfl, rfl⟩⟩
theorem okX8_readRounds : rt_okK kX8_readRounds 1 (some 8) := ⟨rt_at 604 (by decide +kernel) (by decide +kernel), rt_at 82 (by decide +kernel) (by decide +kernel), ⟨by decide +kernel, by decide +kernel, by decide +kernel⟩, Nat.le_of_ble_eq_true rfl, ⟨rt_at 602 (by decide +kernel) (by decide +kernel), rt_at 603 (by decide +kernel) (by decide +kernel), _, rfl, rfl⟩⟩
theorem okX8_readRound : rt_okK kX8_readRound 2 (some 8) := ⟨rt_at 608 (by decide +kernel) (by decide +kernel), rt_at 82 (by decide +kernel) (by decide +kernel), ⟨by decide +kernel, by decide +kernel, by decide +kernel⟩, Nat.le_of_ble_eq_true rfl, ⟨rt_at 607 (by decide +kernel) (by decide +kernel), rt_at 2 (by decide +kernel) (by decide +kernel), _, rfl, rfl⟩⟩
theorem okX8_readPart : rt_okK kX8_readPart 4 (some 8) := ⟨rt_at 612 (by decide +kernel) (by decide +kernel), rt_at 82 (by decide +kernel) (by decide +kernel), ⟨by decide +kernel, by decide +kernel, by decide +kernel⟩, Nat.le_of_ble_eq_true rfl, ⟨rt_at 611 (by decide +kernel) (by decide +kernel), rt_at 3 (by decide +kernel) (by decide +kernel), _, rfl, rfl⟩⟩
theorem okX8_accept : rt_okK kX8_accept 0 (some 8) := ⟨rt_at 619 (by decide +kernel) (by decide +kernel), rt_at 82 (by decide +kernel) (by decide +kernel), ⟨by decide +kernel, by decide +kernel, by decide +kernel⟩, Nat.le_of_ble_eq_true rfl, ⟨rt_at 617 (by decide +kernel) (by decide +kernel), rt_at 618 (by decide +kernel) (by decide +kernel), _, rfl, rfl⟩⟩
theorem okX9_isThere : rt_okK kX9_isThere 2 (some 9) := ⟨rt_at 754 (by decide +kernel) (by decide +kernel), rt_at 86 (by decide +kernel) (by decide +kernel), ⟨by decide +kernel, by decide +kernel, by decide +kernel⟩, Nat.le_of_ble_eq_true rfl, ⟨rt_at 752 (by decide +kernel) (by decide +kernel), rt_at 753 (by decide +kernel) (by decide +kernel), _, rfl, rfl⟩⟩
theorem okX9_roadsThereAt : rt_okK kX9_roadsThereAt 1 (some 9) := ⟨rt_at 930 (by decide +kernel) (by decide +kernel), rt_at 86 (by decide +kernel) (by decide +kernel), ⟨by decide +kernel, by decide +kernel, by decide +kernel⟩, Nat.le_of_ble_eq_true rfl, ⟨rt_at 928 (by decide +kernel) (by decide +kernel), rt_at 929 (by decide +kernel) (by decide +kernel), _, rfl, rfl⟩⟩
theorem okX9_stays : rt_okK kX9_stays 3 (some 9) := ⟨rt_at 918 (by decide +kernel) (by decide +kernel), rt_at 86 (by decide +kernel) (by decide +kernel), ⟨by decide +kernel, by decide +kernel, by decide +kernel⟩, Nat.le_of_ble_eq_true rfl, ⟨rt_at 916 (by decide +kernel) (by decide +kernel), rt_at 917 (by decide +kernel) (by decide +kernel), _, rfl, rfl⟩⟩
theorem okX9_turnsBy : rt_okK kX9_turnsBy 4 (some 9) := ⟨rt_at 765 (by decide +kernel) (by decide +kernel), rt_at 86 (by decide +kernel) (by decide +kernel), ⟨by decide +kernel, by decide +kernel, by decide +kernel⟩, Nat.le_of_ble_eq_true rfl, ⟨rt_at 763 (by decide +kernel) (by decide +kernel), rt_at 764 (by decide +kernel) (by decide +kernel), _, rfl, rfl⟩⟩
theorem okX9_setOut : rt_okK kX9_setOut 2 (some 9) := ⟨rt_at 734 (by decide +kernel) (by decide +kernel), rt_at 86 (by decide +kernel) (by decide +kernel), ⟨by decide +kernel, by decide +kernel, by decide +kernel⟩, Nat.le_of_ble_eq_true rfl, ⟨rt_at 732 (by decide +kernel) (by decide +kernel), rt_at 733 (by decide +kernel) (by decide +kernel), _, rfl, rfl⟩⟩
theorem okX9_turnRound : rt_okK kX9_turnRound 1 (some 9) := ⟨rt_at 798 (by decide +kernel) (by decide +kernel), rt_at 86 (by decide +kernel) (by decide +kernel), ⟨by decide +kernel, by decide +kernel, by decide +kernel⟩, Nat.le_of_ble_eq_true rfl, ⟨rt_at 796 (by decide +kernel) (by decide +kernel), rt_at 797 (by decide +kernel) (by decide +kernel), _, rfl, rfl⟩⟩
theorem okX9_putChain : rt_okK kX9_putChain 2 (some 9) := ⟨rt_at 807 (by decide +kernel) (by decide +kernel), rt_at 86 (by decide +kernel) (by decide +kernel), ⟨by decide +kernel, by decide +kernel, by decide +kernel⟩, Nat.le_of_ble_eq_true rfl, ⟨rt_at 805 (by decide +kernel) (by decide +kernel), rt_at 806 (by decide +kernel) (by decide +kernel), _, rfl, rfl⟩⟩
theorem okX9_putLoad : rt_okK kX9_putLoad 2 (some 9) := ⟨rt_at 816 (by decide +kernel) (by decide +kernel), rt_at 86 (by decide +kernel) (by decide +kernel), ⟨by decide +kernel, by decide +kernel, by decide +kernel⟩, Nat.le_of_ble_eq_true rfl, ⟨rt_at 814 (by decide +kernel) (by decide +kernel), rt_at 815 (by decide +kernel) (by decide +kernel), _, rfl, rfl⟩⟩
theorem okX9_throwRoad : rt_okK kX9_throwRoad 3 (some 9) := ⟨rt_at 824 (by decide +kernel) (by decide +kernel), rt_at 86 (by decide +kernel) (by decide +kernel), ⟨by decide +kernel, by decide +kernel, by decide +kernel⟩, Nat.le_of_ble_eq_true rfl, ⟨rt_at 822 (by decide +kernel) (by decide +kernel), rt_at 823 (by decide +kernel) (by decide +kernel), _, rfl, rfl⟩⟩
theorem okX9_goBy : rt_okK kX9_goBy 1 (some 9) := ⟨rt_at 841 (by decide +kernel) (by decide +kernel), rt_at 86 (by decide +kernel) (by decide +kernel), ⟨by decide +kernel, by decide +kernel, by decide +kernel⟩, Nat.le_of_ble_eq_true rfl, ⟨rt_at 839 (by decide +kernel) (by decide +kernel), rt_at 840 (by decide +kernel) (by decide +kernel), _, rfl, rfl⟩⟩
theorem okX9_goOn : rt_okK kX9_goOn 2 (some 9) := ⟨rt_at 845 (by decide +kernel) (by decide +kernel), rt_at 86 (by decide +kernel) (by decide +kernel), ⟨by decide +kernel, by decide +kernel, by decide +kernel⟩, Nat.le_of_ble_eq_true rfl, ⟨rt_at 844 (by decide +kernel) (by decide +kernel), rt_at 14 (by decide +kernel) (by decide +kernel), _, rfl, rfl⟩⟩
theorem okX9_travels : rt_okK kX9_travels 5 (some 9) := ⟨rt_at 1054 (by decide +kernel) (by decide +kernel), rt_at 86 (by decide +kernel) (by decide +kernel), ⟨by decide +kernel, by decide +kernel, by decide +kernel⟩, Nat.le_of_ble_eq_true rfl, ⟨rt_at 1052 (by decide +kernel) (by decide +kernel), rt_at 1053 (by decide +kernel) (by decide +kernel), _, rfl, rfl⟩⟩
theorem okX9_foresee : rt_okK kX9_foresee 1 (some 9) := ⟨rt_at 1050 (by decide +kernel) (by decide +kernel), rt_at 86 (by decide +kernel) (by decide +kernel), ⟨by decide +kernel, by decide +kernel, by decide +kernel⟩, Nat.le_of_ble_eq_true rfl, ⟨rt_at 1048 (by decide +kernel) (by decide +kernel), rt_at 1049 (by decide +kernel) (by decide +kernel), _, rfl, rfl⟩⟩
theorem okX9_draw : rt_okK kX9_draw 1 (some 9) := ⟨rt_at 1144 (by decide +kernel) (by decide +kernel), rt_at 86 (by decide +kernel) (by decide +kernel), ⟨by decide +kernel, by decide +kernel, by decide +kernel⟩, Nat.le_of_ble_eq_true rfl, ⟨rt_at 1143 (by decide +kernel) (by decide +kernel), rt_at 24 (by decide +kernel) (by decide +kernel), _, rfl, rfl⟩⟩
theorem okX9_stormYears : rt_okK kX9_stormYears 2 (some 9) := ⟨rt_at 1140 (by decide +kernel) (by decide +kernel), rt_at 86 (by decide +kernel) (by decide +kernel), ⟨by decide +kernel, by decide +kernel, by decide +kernel⟩, Nat.le_of_ble_eq_true rfl, ⟨rt_at 1138 (by decide +kernel) (by decide +kernel), rt_at 1139 (by decide +kernel) (by decide +kernel), _, rfl, rfl⟩⟩
theorem okX10_lookOn : rt_okK kX10_lookOn 1 (some 10) := ⟨rt_at 957 (by decide +kernel) (by decide +kernel), rt_at 89 (by decide +kernel) (by decide +kernel), ⟨by decide +kernel, by decide +kernel, by decide +kernel⟩, Nat.le_of_ble_eq_true rfl, ⟨rt_at 955 (by decide +kernel) (by decide +kernel), rt_at 956 (by decide +kernel) (by decide +kernel), _, rfl, rfl⟩⟩
theorem okX10_noteOut : rt_okK kX10_noteOut 3 (some 10) := ⟨rt_at 966 (by decide +kernel) (by decide +kernel), rt_at 89 (by decide +kernel) (by decide +kernel), ⟨by decide +kernel, by decide +kernel, by decide +kernel⟩, Nat.le_of_ble_eq_true rfl, ⟨rt_at 965 (by decide +kernel) (by decide +kernel), rt_at 18 (by decide +kernel) (by decide +kernel), _, rfl, rfl⟩⟩
theorem okX10_outFrom : rt_okK kX10_outFrom 2 (some 10) := ⟨rt_at 978 (by decide +kernel) (by decide +kernel), rt_at 89 (by decide +kernel) (by decide +kernel), ⟨by decide +kernel, by decide +kernel, by decide +kernel⟩, Nat.le_of_ble_eq_true rfl, ⟨rt_at 977 (by decide +kernel) (by decide +kernel), rt_at 20 (by decide +kernel) (by decide +kernel), _, rfl, rfl⟩⟩
theorem okX10_spread : rt_okK kX10_spread 3 (some 10) := ⟨rt_at 970 (by decide +kernel) (by decide +kernel), rt_at 89 (by decide +kernel) (by decide +kernel), ⟨by decide +kernel, by decide +kernel, by decide +kernel⟩, Nat.le_of_ble_eq_true rfl, ⟨rt_at 968 (by decide +kernel) (by decide +kernel), rt_at 969 (by decide +kernel) (by decide +kernel), _, rfl, rfl⟩⟩
theorem okX10_goBetween : rt_okK kX10_goBetween 4 (some 10) := ⟨rt_at 974 (by decide +kernel) (by decide +kernel), rt_at 89 (by decide +kernel) (by decide +kernel), ⟨by decide +kernel, by decide +kernel, by decide +kernel⟩, Nat.le_of_ble_eq_true rfl, ⟨rt_at 973 (by decide +kernel) (by decide +kernel), rt_at 19 (by decide +kernel) (by decide +kernel), _, rfl, rfl⟩⟩
theorem okX10_reachedBy : rt_okK kX10_reachedBy 1 (some 10) := ⟨rt_at 1005 (by decide +kernel) (by decide +kernel), rt_at 89 (by decide +kernel) (by decide +kernel), ⟨by decide +kernel, by decide +kernel, by decide +kernel⟩, Nat.le_of_ble_eq_true rfl, ⟨rt_at 1003 (by decide +kernel) (by decide +kernel), rt_at 1004 (by decide +kernel) (by decide +kernel), _, rfl, rfl⟩⟩
theorem okX10_tellLeastWay : rt_okK kX10_tellLeastWay 4 (some 10) := ⟨rt_at 982 (by decide +kernel) (by decide +kernel), rt_at 89 (by decide +kernel) (by decide +kernel), ⟨by decide +kernel, by decide +kernel, by decide +kernel⟩, Nat.le_of_ble_eq_true rfl, ⟨rt_at 980 (by decide +kernel) (by decide +kernel), rt_at 981 (by decide +kernel) (by decide +kernel), _, rfl, rfl⟩⟩
theorem okX10_leastWayOn : rt_okK kX10_leastWayOn 5 (some 10) := ⟨rt_at 986 (by decide +kernel) (by decide +kernel), rt_at 89 (by decide +kernel) (by decide +kernel), ⟨by decide +kernel, by decide +kernel, by decide +kernel⟩, Nat.le_of_ble_eq_true rfl, ⟨rt_at 985 (by decide +kernel) (by decide +kernel), rt_at 21 (by decide +kernel) (by decide +kernel), _, rfl, rfl⟩⟩
theorem okX10_goRound : rt_okK kX10_goRound 2 (some 10) := ⟨rt_at 1021 (by decide +kernel) (by decide +kernel), rt_at 89 (by decide +kernel) (by decide +kernel), ⟨by decide +kernel, by decide +kernel, by decide +kernel⟩, Nat.le_of_ble_eq_true rfl, ⟨rt_at 1019 (by decide +kernel) (by decide +kernel), rt_at 1020 (by decide +kernel) (by decide +kernel), _, rfl, rfl⟩⟩
theorem okX10_callOn : rt_okK kX10_callOn 5 none := ⟨rt_at 1024 (by decide +kernel) (by decide +kernel), rt_at 89 (by decide +kernel) (by decide +kernel), ⟨by decide +kernel, by decide +kernel, by decide +kernel⟩, Nat.le_of_ble_eq_true rfl, rt_at 1023 (by decide +kernel) (by decide +kernel)⟩
theorem okX10_fewestInns : rt_okK kX10_fewestInns 1 (some 10) := ⟨rt_at 1033 (by decide +kernel) (by decide +kernel), rt_at 89 (by decide +kernel) (by decide +kernel), ⟨by decide +kernel, by decide +kernel, by decide +kernel⟩, Nat.le_of_ble_eq_true rfl, ⟨rt_at 1031 (by decide +kernel) (by decide +kernel), rt_at 1032 (by decide +kernel) (by decide +kernel), _, rfl, rfl⟩⟩
theorem okX10_serveAll : rt_okK kX10_serveAll 1 (some 10) := ⟨rt_at 1040 (by decide +kernel) (by decide +kernel), rt_at 89 (by decide +kernel) (by decide +kernel), ⟨by decide +kernel, by decide +kernel, by decide +kernel⟩, Nat.le_of_ble_eq_true rfl, ⟨rt_at 1039 (by decide +kernel) (by decide +kernel), rt_at 22 (by decide +kernel) (by decide +kernel), _, rfl, rfl⟩⟩
theorem okX11_sign : rt_okK kX11_sign 1 (some 11) := ⟨rt_at 519 (by decide +kernel) (by decide +kernel), rt_at 80 (by decide +kernel) (by decide +kernel), ⟨by decide +kernel, by decide +kernel, by decide +kernel⟩, Nat.le_of_ble_eq_true rfl, ⟨rt_at 517 (by decide +kernel) (by decide +kernel), rt_at 518 (by decide +kernel) (by decide +kernel), _, rfl, rfl⟩⟩
theorem okX11_end : rt_okK kX11_end 1 (some 11) := ⟨rt_at 527 (by decide +kernel) (by decide +kernel), rt_at 80 (by decide +kernel) (by decide +kernel), ⟨by decide +kernel, by decide +kernel, by decide +kernel⟩, Nat.le_of_ble_eq_true rfl, ⟨rt_at 525 (by decide +kernel) (by decide +kernel), rt_at 526 (by decide +kernel) (by decide +kernel), _, rfl, rfl⟩⟩
theorem okX11_flats : rt_okK kX11_flats 0 (some 11) := ⟨rt_at 535 (by decide +kernel) (by decide +kernel), rt_at 80 (by decide +kernel) (by decide +kernel), ⟨by decide +kernel, by decide +kernel, by decide +kernel⟩, Nat.le_of_ble_eq_true rfl, ⟨rt_at 533 (by decide +kernel) (by decide +kernel), rt_at 534 (by decide +kernel) (by decide +kernel), _, rfl, rfl⟩⟩
theorem okX11_tide : rt_okK kX11_tide 0 (some 11) := ⟨rt_at 600 (by decide +kernel) (by decide +kernel), rt_at 80 (by decide +kernel) (by decide +kernel), ⟨by decide +kernel, by decide +kernel, by decide +kernel⟩, Nat.le_of_ble_eq_true rfl, ⟨rt_at 598 (by decide +kernel) (by decide +kernel), rt_at 599 (by decide +kernel) (by decide +kernel), _, rfl, rfl⟩⟩
theorem okX11_carts : rt_okK kX11_carts 0 (some 11) := ⟨rt_at 626 (by decide +kernel) (by decide +kernel), rt_at 80 (by decide +kernel) (by decide +kernel), ⟨by decide +kernel, by decide +kernel, by decide +kernel⟩, Nat.le_of_ble_eq_true rfl, ⟨rt_at 624 (by decide +kernel) (by decide +kernel), rt_at 625 (by decide +kernel) (by decide +kernel), _, rfl, rfl⟩⟩
theorem okX11_rule : rt_okK kX11_rule 0 (some 11) := ⟨rt_at 651 (by decide +kernel) (by decide +kernel), rt_at 80 (by decide +kernel) (by decide +kernel), ⟨by decide +kernel, by decide +kernel, by decide +kernel⟩, Nat.le_of_ble_eq_true rfl, ⟨rt_at 649 (by decide +kernel) (by decide +kernel), rt_at 650 (by decide +kernel) (by decide +kernel), _, rfl, rfl⟩⟩
theorem okX11_place : rt_okK kX11_place 2 (some 11) := ⟨rt_at 1177 (by decide +kernel) (by decide +kernel), rt_at 80 (by decide +kernel) (by decide +kernel), ⟨by decide +kernel, by decide +kernel, by decide +kernel⟩, Nat.le_of_ble_eq_true rfl, ⟨rt_at 1175 (by decide +kernel) (by decide +kernel), rt_at 1176 (by decide +kernel) (by decide +kernel), _, rfl, rfl⟩⟩
theorem okX11_road : rt_okK kX11_road 2 (some 11) := ⟨rt_at 1250 (by decide +kernel) (by decide +kernel), rt_at 80 (by decide +kernel) (by decide +kernel), ⟨by decide +kernel, by decide +kernel, by decide +kernel⟩, Nat.le_of_ble_eq_true rfl, ⟨rt_at 1248 (by decide +kernel) (by decide +kernel), rt_at 1249 (by decide +kernel) (by decide +kernel), _, rfl, rfl⟩⟩
theorem okX11_cart : rt_okK kX11_cart 2 (some 11) := ⟨rt_at 1257 (by decide +kernel) (by decide +kernel), rt_at 80 (by decide +kernel) (by decide +kernel), ⟨by decide +kernel, by decide +kernel, by decide +kernel⟩, Nat.le_of_ble_eq_true rfl, ⟨rt_at 1255 (by decide +kernel) (by decide +kernel), rt_at 1256 (by decide +kernel) (by decide +kernel), _, rfl, rfl⟩⟩
theorem okX11_patience : rt_okK kX11_patience 1 (some 11) := ⟨rt_at 704 (by decide +kernel) (by decide +kernel), rt_at 80 (by decide +kernel) (by decide +kernel), ⟨by decide +kernel, by decide +kernel, by decide +kernel⟩, Nat.le_of_ble_eq_true rfl, ⟨rt_at 702 (by decide +kernel) (by decide +kernel), rt_at 703 (by decide +kernel) (by decide +kernel), _, rfl, rfl⟩⟩
theorem okX11_sheet : rt_okK kX11_sheet 4 (some 11) := ⟨rt_at 708 (by decide +kernel) (by decide +kernel), rt_at 80 (by decide +kernel) (by decide +kernel), ⟨by decide +kernel, by decide +kernel, by decide +kernel⟩, Nat.le_of_ble_eq_true rfl, ⟨rt_at 706 (by decide +kernel) (by decide +kernel), rt_at 707 (by decide +kernel) (by decide +kernel), _, rfl, rfl⟩⟩
theorem okX11_out : rt_okK kX11_out 2 (some 11) := ⟨rt_at 721 (by decide +kernel) (by decide +kernel), rt_at 80 (by decide +kernel) (by decide +kernel), ⟨by decide +kernel, by decide +kernel, by decide +kernel⟩, Nat.le_of_ble_eq_true rfl, ⟨rt_at 719 (by decide +kernel) (by decide +kernel), rt_at 720 (by decide +kernel) (by decide +kernel), _, rfl, rfl⟩⟩
theorem okX11_round : rt_okK kX11_round 1 (some 11) := ⟨rt_at 794 (by decide +kernel) (by decide +kernel), rt_at 80 (by decide +kernel) (by decide +kernel), ⟨by decide +kernel, by decide +kernel, by decide +kernel⟩, Nat.le_of_ble_eq_true rfl, ⟨rt_at 792 (by decide +kernel) (by decide +kernel), rt_at 793 (by decide +kernel) (by decide +kernel), _, rfl, rfl⟩⟩
theorem okX11_chain : rt_okK kX11_chain 2 (some 11) := ⟨rt_at 803 (by decide +kernel) (by decide +kernel), rt_at 80 (by decide +kernel) (by decide +kernel), ⟨by decide +kernel, by decide +kernel, by decide +kernel⟩, Nat.le_of_ble_eq_true rfl, ⟨rt_at 801 (by decide +kernel) (by decide +kernel), rt_at 802 (by decide +kernel) (by decide +kernel), _, rfl, rfl⟩⟩
theorem okX11_load : rt_okK kX11_load 2 (some 11) := ⟨rt_at 812 (by decide +kernel) (by decide +kernel), rt_at 80 (by decide +kernel) (by decide +kernel), ⟨by decide +kernel, by decide +kernel, by decide +kernel⟩, Nat.le_of_ble_eq_true rfl, ⟨rt_at 810 (by decide +kernel) (by decide +kernel), rt_at 811 (by decide +kernel) (by decide +kernel), _, rfl, rfl⟩⟩
theorem okX11_storm : rt_okK kX11_storm 3 (some 11) := ⟨rt_at 820 (by decide +kernel) (by decide +kernel), rt_at 80 (by decide +kernel) (by decide +kernel), ⟨by decide +kernel, by decide +kernel, by decide +kernel⟩, Nat.le_of_ble_eq_true rfl, ⟨rt_at 818 (by decide +kernel) (by decide +kernel), rt_at 819 (by decide +kernel) (by decide +kernel), _, rfl, rfl⟩⟩
theorem okX11_pass : rt_okK kX11_pass 1 (some 11) := ⟨rt_at 837 (by decide +kernel) (by decide +kernel), rt_at 80 (by decide +kernel) (by decide +kernel), ⟨by decide +kernel, by decide +kernel, by decide +kernel⟩, Nat.le_of_ble_eq_true rfl, ⟨rt_at 835 (by decide +kernel) (by decide +kernel), rt_at 836 (by decide +kernel) (by decide +kernel), _, rfl, rfl⟩⟩
theorem okX11_day : rt_okK kX11_day 0 (some 11) := ⟨rt_at 862 (by decide +kernel) (by decide +kernel), rt_at 80 (by decide +kernel) (by decide +kernel), ⟨by decide +kernel, by decide +kernel, by decide +kernel⟩, Nat.le_of_ble_eq_true rfl, ⟨rt_at 860 (by decide +kernel) (by decide +kernel), rt_at 861 (by decide +kernel) (by decide +kernel), _, rfl, rfl⟩⟩
theorem okX11_undo : rt_okK kX11_undo 0 (some 11) := ⟨rt_at 892 (by decide +kernel) (by decide +kernel), rt_at 80 (by decide +kernel) (by decide +kernel), ⟨by decide +kernel, by decide +kernel, by decide +kernel⟩, Nat.le_of_ble_eq_true rfl, ⟨rt_at 890 (by decide +kernel) (by decide +kernel), rt_at 891 (by decide +kernel) (by decide +kernel), _, rfl, rfl⟩⟩
theorem okX11_level : rt_okK kX11_level 1 (some 11) := ⟨rt_at 900 (by decide +kernel) (by decide +kernel), rt_at 80 (by decide +kernel) (by decide +kernel), ⟨by decide +kernel, by decide +kernel, by decide +kernel⟩, Nat.le_of_ble_eq_true rfl, ⟨rt_at 898 (by decide +kernel) (by decide +kernel), rt_at 899 (by decide +kernel) (by decide +kernel), _, rfl, rfl⟩⟩
theorem okX11_table : rt_okK kX11_table 2 (some 11) := ⟨rt_at 908 (by decide +kernel) (by decide +kernel), rt_at 80 (by decide +kernel) (by decide +kernel), ⟨by decide +kernel, by decide +kernel, by decide +kernel⟩, Nat.le_of_ble_eq_true rfl, ⟨rt_at 906 (by decide +kernel) (by decide +kernel), rt_at 907 (by decide +kernel) (by decide +kernel), _, rfl, rfl⟩⟩
theorem okX11_comes : rt_okK kX11_comes 1 (some 11) := ⟨rt_at 914 (by decide +kernel) (by decide +kernel), rt_at 80 (by decide +kernel) (by decide +kernel), ⟨by decide +kernel, by decide +kernel, by decide +kernel⟩, Nat.le_of_ble_eq_true rfl, ⟨rt_at 912 (by decide +kernel) (by decide +kernel), rt_at 913 (by decide +kernel) (by decide +kernel), _, rfl, rfl⟩⟩
theorem okX11_ebb : rt_okK kX11_ebb 0 (some 11) := ⟨rt_at 922 (by decide +kernel) (by decide +kernel), rt_at 80 (by decide +kernel) (by decide +kernel), ⟨by decide +kernel, by decide +kernel, by decide +kernel⟩, Nat.le_of_ble_eq_true rfl, ⟨rt_at 920 (by decide +kernel) (by decide +kernel), rt_at 921 (by decide +kernel) (by decide +kernel), _, rfl, rfl⟩⟩
theorem okX11_slack : rt_okK kX11_slack 0 (some 11) := ⟨rt_at 926 (by decide +kernel) (by decide +kernel), rt_at 80 (by decide +kernel) (by decide +kernel), ⟨by decide +kernel, by decide +kernel, by decide +kernel⟩, Nat.le_of_ble_eq_true rfl, ⟨rt_at 924 (by decide +kernel) (by decide +kernel), rt_at 925 (by decide +kernel) (by decide +kernel), _, rfl, rfl⟩⟩
theorem okX11_period : rt_okK kX11_period 0 (some 11) := ⟨rt_at 940 (by decide +kernel) (by decide +kernel), rt_at 80 (by decide +kernel) (by decide +kernel), ⟨by decide +kernel, by decide +kernel, by decide +kernel⟩, Nat.le_of_ble_eq_true rfl, ⟨rt_at 938 (by decide +kernel) (by decide +kernel), rt_at 939 (by decide +kernel) (by decide +kernel), _, rfl, rfl⟩⟩
theorem okX11_soonest : rt_okK kX11_soonest 2 (some 11) := ⟨rt_at 948 (by decide +kernel) (by decide +kernel), rt_at 80 (by decide +kernel) (by decide +kernel), ⟨by decide +kernel, by decide +kernel, by decide +kernel⟩, Nat.le_of_ble_eq_true rfl, ⟨rt_at 946 (by decide +kernel) (by decide +kernel), rt_at 947 (by decide +kernel) (by decide +kernel), _, rfl, rfl⟩⟩
theorem okX11_latest : rt_okK kX11_latest 3 (some 11) := ⟨rt_at 993 (by decide +kernel) (by decide +kernel), rt_at 80 (by decide +kernel) (by decide +kernel), ⟨by decide +kernel, by decide +kernel, by decide +kernel⟩, Nat.le_of_ble_eq_true rfl, ⟨rt_at 991 (by decide +kernel) (by decide +kernel), rt_at 992 (by decide +kernel) (by decide +kernel), _, rfl, rfl⟩⟩
theorem okX11_safe : rt_okK kX11_safe 3 (some 11) := ⟨rt_at 997 (by decide +kernel) (by decide +kernel), rt_at 80 (by decide +kernel) (by decide +kernel), ⟨by decide +kernel, by decide +kernel, by decide +kernel⟩, Nat.le_of_ble_eq_true rfl, ⟨rt_at 995 (by decide +kernel) (by decide +kernel), rt_at 996 (by decide +kernel) (by decide +kernel), _, rfl, rfl⟩⟩
theorem okX11_within : rt_okK kX11_within 2 (some 11) := ⟨rt_at 1001 (by decide +kernel) (by decide +kernel), rt_at 80 (by decide +kernel) (by decide +kernel), ⟨by decide +kernel, by decide +kernel, by decide +kernel⟩, Nat.le_of_ble_eq_true rfl, ⟨rt_at 999 (by decide +kernel) (by decide +kernel), rt_at 1000 (by decide +kernel) (by decide +kernel), _, rfl, rfl⟩⟩
theorem okX11_cutoff : rt_okK kX11_cutoff 1 (some 11) := ⟨rt_at 1009 (by decide +kernel) (by decide +kernel), rt_at 80 (by decide +kernel) (by decide +kernel), ⟨by decide +kernel, by decide +kernel, by decide +kernel⟩, Nat.le_of_ble_eq_true rfl, ⟨rt_at 1007 (by decide +kernel) (by decide +kernel), rt_at 1008 (by decide +kernel) (by decide +kernel), _, rfl, rfl⟩⟩
theorem okX11_carrier : rt_okK kX11_carrier 2 (some 11) := ⟨rt_at 1017 (by decide +kernel) (by decide +kernel), rt_at 80 (by decide +kernel) (by decide +kernel), ⟨by decide +kernel, by decide +kernel, by decide +kernel⟩, Nat.le_of_ble_eq_true rfl, ⟨rt_at 1015 (by decide +kernel) (by decide +kernel), rt_at 1016 (by decide +kernel) (by decide +kernel), _, rfl, rfl⟩⟩
theorem okX11_inns : rt_okK kX11_inns 1 (some 11) := ⟨rt_at 1029 (by decide +kernel) (by decide +kernel), rt_at 80 (by decide +kernel) (by decide +kernel), ⟨by decide +kernel, by decide +kernel, by decide +kernel⟩, Nat.le_of_ble_eq_true rfl, ⟨rt_at 1027 (by decide +kernel) (by decide +kernel), rt_at 1028 (by decide +kernel) (by decide +kernel), _, rfl, rfl⟩⟩
theorem okX11_arrives : rt_okK kX11_arrives 1 (some 11) := ⟨rt_at 1044 (by decide +kernel) (by decide +kernel), rt_at 80 (by decide +kernel) (by decide +kernel), ⟨by decide +kernel, by decide +kernel, by decide +kernel⟩, Nat.le_of_ble_eq_true rfl, ⟨rt_at 1042 (by decide +kernel) (by decide +kernel), rt_at 1043 (by decide +kernel) (by decide +kernel), _, rfl, rfl⟩⟩
theorem okX11_best : rt_okK kX11_best 2 (some 11) := ⟨rt_at 1058 (by decide +kernel) (by decide +kernel), rt_at 80 (by decide +kernel) (by decide +kernel), ⟨by decide +kernel, by decide +kernel, by decide +kernel⟩, Nat.le_of_ble_eq_true rfl, ⟨rt_at 1056 (by decide +kernel) (by decide +kernel), rt_at 1057 (by decide +kernel) (by decide +kernel), _, rfl, rfl⟩⟩
theorem okX11_could : rt_okK kX11_could 2 (some 11) := ⟨rt_at 1066 (by decide +kernel) (by decide +kernel), rt_at 80 (by decide +kernel) (by decide +kernel), ⟨by decide +kernel, by decide +kernel, by decide +kernel⟩, Nat.le_of_ble_eq_true rfl, ⟨rt_at 1064 (by decide +kernel) (by decide +kernel), rt_at 1065 (by decide +kernel) (by decide +kernel), _, rfl, rfl⟩⟩
theorem okX11_mark : rt_okK kX11_mark 2 (some 11) := ⟨rt_at 1070 (by decide +kernel) (by decide +kernel), rt_at 80 (by decide +kernel) (by decide +kernel), ⟨by decide +kernel, by decide +kernel, by decide +kernel⟩, Nat.le_of_ble_eq_true rfl, ⟨rt_at 1068 (by decide +kernel) (by decide +kernel), rt_at 1069 (by decide +kernel) (by decide +kernel), _, rfl, rfl⟩⟩
theorem okX11_wash : rt_okK kX11_wash 0 (some 11) := ⟨rt_at 1081 (by decide +kernel) (by decide +kernel), rt_at 80 (by decide +kernel) (by decide +kernel), ⟨by decide +kernel, by decide +kernel, by decide +kernel⟩, Nat.le_of_ble_eq_true rfl, ⟨rt_at 1079 (by decide +kernel) (by decide +kernel), rt_at 1080 (by decide +kernel) (by decide +kernel), _, rfl, rfl⟩⟩
theorem okX11_fits : rt_okK kX11_fits 1 (some 11) := ⟨rt_at 1085 (by decide +kernel) (by decide +kernel), rt_at 80 (by decide +kernel) (by decide +kernel), ⟨by decide +kernel, by decide +kernel, by decide +kernel⟩, Nat.le_of_ble_eq_true rfl, ⟨rt_at 1083 (by decide +kernel) (by decide +kernel), rt_at 1084 (by decide +kernel) (by decide +kernel), _, rfl, rfl⟩⟩
theorem okX11_read : rt_okK kX11_read 2 (some 11) := ⟨rt_at 1107 (by decide +kernel) (by decide +kernel), rt_at 80 (by decide +kernel) (by decide +kernel), ⟨by decide +kernel, by decide +kernel, by decide +kernel⟩, Nat.le_of_ble_eq_true rfl, ⟨rt_at 1105 (by decide +kernel) (by decide +kernel), rt_at 1106 (by decide +kernel) (by decide +kernel), _, rfl, rfl⟩⟩
theorem okX11_lookat : rt_okK kX11_lookat 1 (some 11) := ⟨rt_at 1131 (by decide +kernel) (by decide +kernel), rt_at 80 (by decide +kernel) (by decide +kernel), ⟨by decide +kernel, by decide +kernel, by decide +kernel⟩, Nat.le_of_ble_eq_true rfl, ⟨rt_at 1129 (by decide +kernel) (by decide +kernel), rt_at 1130 (by decide +kernel) (by decide +kernel), _, rfl, rfl⟩⟩
theorem okX11_years : rt_okK kX11_years 2 (some 11) := ⟨rt_at 1135 (by decide +kernel) (by decide +kernel), rt_at 80 (by decide +kernel) (by decide +kernel), ⟨by decide +kernel, by decide +kernel, by decide +kernel⟩, Nat.le_of_ble_eq_true rfl, ⟨rt_at 1133 (by decide +kernel) (by decide +kernel), rt_at 1134 (by decide +kernel) (by decide +kernel), _, rfl, rfl⟩⟩
theorem okX11_keep : rt_okK kX11_keep 1 (some 11) := ⟨rt_at 1152 (by decide +kernel) (by decide +kernel), rt_at 80 (by decide +kernel) (by decide +kernel), ⟨by decide +kernel, by decide +kernel, by decide +kernel⟩, Nat.le_of_ble_eq_true rfl, ⟨rt_at 1150 (by decide +kernel) (by decide +kernel), rt_at 1151 (by decide +kernel) (by decide +kernel), _, rfl, rfl⟩⟩
theorem okX11_again : rt_okK kX11_again 1 (some 11) := ⟨rt_at 1160 (by decide +kernel) (by decide +kernel), rt_at 80 (by decide +kernel) (by decide +kernel), ⟨by decide +kernel, by decide +kernel, by decide +kernel⟩, Nat.le_of_ble_eq_true rfl, ⟨rt_at 1158 (by decide +kernel) (by decide +kernel), rt_at 1159 (by decide +kernel) (by decide +kernel), _, rfl, rfl⟩⟩
theorem okX11_count : rt_okK kX11_count 1 (some 11) := ⟨rt_at 1168 (by decide +kernel) (by decide +kernel), rt_at 80 (by decide +kernel) (by decide +kernel), ⟨by decide +kernel, by decide +kernel, by decide +kernel⟩, Nat.le_of_ble_eq_true rfl, ⟨rt_at 1166 (by decide +kernel) (by decide +kernel), rt_at 1167 (by decide +kernel) (by decide +kernel), _, rfl, rfl⟩⟩
theorem okX11_row : rt_okK kX11_row 1 (some 11) := ⟨rt_at 1264 (by decide +kernel) (by decide +kernel), rt_at 80 (by decide +kernel) (by decide +kernel), ⟨by decide +kernel, by decide +kernel, by decide +kernel⟩, Nat.le_of_ble_eq_true rfl, ⟨rt_at 1262 (by decide +kernel) (by decide +kernel), rt_at 1263 (by decide +kernel) (by decide +kernel), _, rfl, rfl⟩⟩
theorem okX11_soonestWay : rt_okK kX11_soonestWay 3 (some 11) := ⟨rt_at 952 (by decide +kernel) (by decide +kernel), rt_at 80 (by decide +kernel) (by decide +kernel), ⟨by decide +kernel, by decide +kernel, by decide +kernel⟩, Nat.le_of_ble_eq_true rfl, ⟨rt_at 951 (by decide +kernel) (by decide +kernel), rt_at 17 (by decide +kernel) (by decide +kernel), _, rfl, rfl⟩⟩
theorem okX12_thrown : rt_okK kX12_thrown 0 (some 12) := ⟨rt_at 1444 (by decide +kernel) (by decide +kernel), rt_at 92 (by decide +kernel) (by decide +kernel), ⟨by decide +kernel, by decide +kernel, by decide +kernel⟩, Nat.le_of_ble_eq_true rfl, ⟨rt_at 1442 (by decide +kernel) (by decide +kernel), rt_at 1443 (by decide +kernel) (by decide +kernel), _, rfl, rfl⟩⟩
theorem okX12_in : rt_okK kX12_in 3 none := ⟨rt_at 1455 (by decide +kernel) (by decide +kernel), rt_at 92 (by decide +kernel) (by decide +kernel), ⟨by decide +kernel, by decide +kernel, by decide +kernel⟩, Nat.le_of_ble_eq_true rfl, rt_at 1454 (by decide +kernel) (by decide +kernel)⟩
theorem okX12_has : rt_okK kX12_has 2 none := ⟨rt_at 1747 (by decide +kernel) (by decide +kernel), rt_at 92 (by decide +kernel) (by decide +kernel), ⟨by decide +kernel, by decide +kernel, by decide +kernel⟩, Nat.le_of_ble_eq_true rfl, rt_at 1746 (by decide +kernel) (by decide +kernel)⟩
theorem okX12_lost : rt_okK kX12_lost 0 (some 12) := ⟨rt_at 1549 (by decide +kernel) (by decide +kernel), rt_at 92 (by decide +kernel) (by decide +kernel), ⟨by decide +kernel, by decide +kernel, by decide +kernel⟩, Nat.le_of_ble_eq_true rfl, ⟨rt_at 1548 (by decide +kernel) (by decide +kernel), rt_at 42 (by decide +kernel) (by decide +kernel), _, rfl, rfl⟩⟩
theorem okX12_tell : rt_okK kX12_tell 1 (some 12) := ⟨rt_at 1676 (by decide +kernel) (by decide +kernel), rt_at 92 (by decide +kernel) (by decide +kernel), ⟨by decide +kernel, by decide +kernel, by decide +kernel⟩, Nat.le_of_ble_eq_true rfl, ⟨rt_at 1675 (by decide +kernel) (by decide +kernel), rt_at 60 (by decide +kernel) (by decide +kernel), _, rfl, rfl⟩⟩
theorem okX12_isPlace : rt_okK kX12_isPlace 1 (some 12) := ⟨rt_at 1545 (by decide +kernel) (by decide +kernel), rt_at 92 (by decide +kernel) (by decide +kernel), ⟨by decide +kernel, by decide +kernel, by decide +kernel⟩, Nat.le_of_ble_eq_true rfl, ⟨rt_at 1544 (by decide +kernel) (by decide +kernel), rt_at 41 (by decide +kernel) (by decide +kernel), _, rfl, rfl⟩⟩
theorem okX12_isRoad : rt_okK kX12_isRoad 1 (some 12) := ⟨rt_at 1578 (by decide +kernel) (by decide +kernel), rt_at 92 (by decide +kernel) (by decide +kernel), ⟨by decide +kernel, by decide +kernel, by decide +kernel⟩, Nat.le_of_ble_eq_true rfl, ⟨rt_at 1577 (by decide +kernel) (by decide +kernel), rt_at 46 (by decide +kernel) (by decide +kernel), _, rfl, rfl⟩⟩
theorem okX12_isCart : rt_okK kX12_isCart 1 (some 12) := ⟨rt_at 1592 (by decide +kernel) (by decide +kernel), rt_at 92 (by decide +kernel) (by decide +kernel), ⟨by decide +kernel, by decide +kernel, by decide +kernel⟩, Nat.le_of_ble_eq_true rfl, ⟨rt_at 1591 (by decide +kernel) (by decide +kernel), rt_at 48 (by decide +kernel) (by decide +kernel), _, rfl, rfl⟩⟩
theorem okX12_sign : rt_okK kX12_sign 1 (some 12) := ⟨rt_at 1448 (by decide +kernel) (by decide +kernel), rt_at 92 (by decide +kernel) (by decide +kernel), ⟨by decide +kernel, by decide +kernel, by decide +kernel⟩, Nat.le_of_ble_eq_true rfl, ⟨rt_at 1446 (by decide +kernel) (by decide +kernel), rt_at 1447 (by decide +kernel) (by decide +kernel), _, rfl, rfl⟩⟩
theorem okX12_end : rt_okK kX12_end 1 (some 12) := ⟨rt_at 1452 (by decide +kernel) (by decide +kernel), rt_at 92 (by decide +kernel) (by decide +kernel), ⟨by decide +kernel, by decide +kernel, by decide +kernel⟩, Nat.le_of_ble_eq_true rfl, ⟨rt_at 1450 (by decide +kernel) (by decide +kernel), rt_at 1451 (by decide +kernel) (by decide +kernel), _, rfl, rfl⟩⟩
theorem okX12_begin : rt_okK kX12_begin 3 (some 12) := ⟨rt_at 1463 (by decide +kernel) (by decide +kernel), rt_at 92 (by decide +kernel) (by decide +kernel), ⟨by decide +kernel, by decide +kernel, by decide +kernel⟩, Nat.le_of_ble_eq_true rfl, ⟨rt_at 1462 (by decide +kernel) (by decide +kernel), rt_at 26 (by decide +kernel) (by decide +kernel), _, rfl, rfl⟩⟩
theorem okX12_here : rt_okK kX12_here 0 (some 12) := ⟨rt_at 1475 (by decide +kernel) (by decide +kernel), rt_at 92 (by decide +kernel) (by decide +kernel), ⟨by decide +kernel, by decide +kernel, by decide +kernel⟩, Nat.le_of_ble_eq_true rfl, ⟨rt_at 1474 (by decide +kernel) (by decide +kernel), rt_at 29 (by decide +kernel) (by decide +kernel), _, rfl, rfl⟩⟩
theorem okX12_fine : rt_okK kX12_fine 0 (some 12) := ⟨rt_at 1467 (by decide +kernel) (by decide +kernel), rt_at 92 (by decide +kernel) (by decide +kernel), ⟨by decide +kernel, by decide +kernel, by decide +kernel⟩, Nat.le_of_ble_eq_true rfl, ⟨rt_at 1466 (by decide +kernel) (by decide +kernel), rt_at 27 (by decide +kernel) (by decide +kernel), _, rfl, rfl⟩⟩
theorem okX12_fault : rt_okK kX12_fault 1 (some 12) := ⟨rt_at 1491 (by decide +kernel) (by decide +kernel), rt_at 92 (by decide +kernel) (by decide +kernel), ⟨by decide +kernel, by decide +kernel, by decide +kernel⟩, Nat.le_of_ble_eq_true rfl, ⟨rt_at 1490 (by decide +kernel) (by decide +kernel), rt_at 33 (by decide +kernel) (by decide +kernel), _, rfl, rfl⟩⟩
theorem okX12_passes : rt_okK kX12_passes 1 (some 12) := ⟨rt_at 1499 (by decide +kernel) (by decide +kernel), rt_at 92 (by decide +kernel) (by decide +kernel), ⟨by decide +kernel, by decide +kernel, by decide +kernel⟩, Nat.le_of_ble_eq_true rfl, ⟨rt_at 1498 (by decide +kernel) (by decide +kernel), rt_at 35 (by decide +kernel) (by decide +kernel), _, rfl, rfl⟩⟩
theorem okX12_need : rt_okK kX12_need 1 (some 12) := ⟨rt_at 1495 (by decide +kernel) (by decide +kernel), rt_at 92 (by decide +kernel) (by decide +kernel), ⟨by decide +kernel, by decide +kernel, by decide +kernel⟩, Nat.le_of_ble_eq_true rfl, ⟨rt_at 1494 (by decide +kernel) (by decide +kernel), rt_at 34 (by decide +kernel) (by decide +kernel), _, rfl, rfl⟩⟩
theorem okX12_oneOf : rt_okK kX12_oneOf 3 (some 12) := ⟨rt_at 1487 (by decide +kernel) (by decide +kernel), rt_at 92 (by decide +kernel) (by decide +kernel), ⟨by decide +kernel, by decide +kernel, by decide +kernel⟩, Nat.le_of_ble_eq_true rfl, ⟨rt_at 1486 (by decide +kernel) (by decide +kernel), rt_at 32 (by decide +kernel) (by decide +kernel), _, rfl, rfl⟩⟩
theorem okX12_digit : rt_okK kX12_digit 1 (some 12) := ⟨rt_at 1483 (by decide +kernel) (by decide +kernel), rt_at 92 (by decide +kernel) (by decide +kernel), ⟨by decide +kernel, by decide +kernel, by decide +kernel⟩, Nat.le_of_ble_eq_true rfl, ⟨rt_at 1482 (by decide +kernel) (by decide +kernel), rt_at 31 (by decide +kernel) (by decide +kernel), _, rfl, rfl⟩⟩
theorem okX12_number : rt_okK kX12_number 1 (some 12) := ⟨rt_at 1479 (by decide +kernel) (by decide +kernel), rt_at 92 (by decide +kernel) (by decide +kernel), ⟨by decide +kernel, by decide +kernel, by decide +kernel⟩, Nat.le_of_ble_eq_true rfl, ⟨rt_at 1478 (by decide +kernel) (by decide +kernel), rt_at 30 (by decide +kernel) (by decide +kernel), _, rfl, rfl⟩⟩
theorem okX12_number_ : rt_okK kX12_number_ 2 (some 12) := ⟨rt_at 1507 (by decide +kernel) (by decide +kernel), rt_at 92 (by decide +kernel) (by decide +kernel), ⟨by decide +kernel, by decide +kernel, by decide +kernel⟩, Nat.le_of_ble_eq_true rfl, ⟨rt_at 1506 (by decide +kernel) (by decide +kernel), rt_at 36 (by decide +kernel) (by decide +kernel), _, rfl, rfl⟩⟩
theorem okX12_readLine : rt_okK kX12_readLine 0 (some 12) := ⟨rt_at 1471 (by decide +kernel) (by decide +kernel), rt_at 92 (by decide +kernel) (by decide +kernel), ⟨by decide +kernel, by decide +kernel, by decide +kernel⟩, Nat.le_of_ble_eq_true rfl, ⟨rt_at 1470 (by decide +kernel) (by decide +kernel), rt_at 28 (by decide +kernel) (by decide +kernel), _, rfl, rfl⟩⟩
theorem okX12_flats : rt_okK kX12_flats 0 (some 12) := ⟨rt_at 1459 (by decide +kernel) (by decide +kernel), rt_at 92 (by decide +kernel) (by decide +kernel), ⟨by decide +kernel, by decide +kernel, by decide +kernel⟩, Nat.le_of_ble_eq_true rfl, ⟨rt_at 1457 (by decide +kernel) (by decide +kernel), rt_at 1458 (by decide +kernel) (by decide +kernel), _, rfl, rfl⟩⟩
theorem okX12_tide : rt_okK kX12_tide 0 (some 12) := ⟨rt_at 1503 (by decide +kernel) (by decide +kernel), rt_at 92 (by decide +kernel) (by decide +kernel), ⟨by decide +kernel, by decide +kernel, by decide +kernel⟩, Nat.le_of_ble_eq_true rfl, ⟨rt_at 1501 (by decide +kernel) (by decide +kernel), rt_at 1502 (by decide +kernel) (by decide +kernel), _, rfl, rfl⟩⟩
theorem okX12_carts : rt_okK kX12_carts 0 (some 12) := ⟨rt_at 1511 (by decide +kernel) (by decide +kernel), rt_at 92 (by decide +kernel) (by decide +kernel), ⟨by decide +kernel, by decide +kernel, by decide +kernel⟩, Nat.le_of_ble_eq_true rfl, ⟨rt_at 1509 (by decide +kernel) (by decide +kernel), rt_at 1510 (by decide +kernel) (by decide +kernel), _, rfl, rfl⟩⟩
theorem okX12_stand : rt_okK kX12_stand 3 none := ⟨rt_at 1514 (by decide +kernel) (by decide +kernel), rt_at 92 (by decide +kernel) (by decide +kernel), ⟨by decide +kernel, by decide +kernel, by decide +kernel⟩, Nat.le_of_ble_eq_true rfl, rt_at 1513 (by decide +kernel) (by decide +kernel)⟩
theorem okX12_held : rt_okK kX12_held 1 (some 12) := ⟨rt_at 1522 (by decide +kernel) (by decide +kernel), rt_at 92 (by decide +kernel) (by decide +kernel), ⟨by decide +kernel, by decide +kernel, by decide +kernel⟩, Nat.le_of_ble_eq_true rfl, ⟨rt_at 1521 (by decide +kernel) (by decide +kernel), rt_at 37 (by decide +kernel) (by decide +kernel), _, rfl, rfl⟩⟩
theorem okX12_sum : rt_okK kX12_sum 1 (some 12) := ⟨rt_at 1526 (by decide +kernel) (by decide +kernel), rt_at 92 (by decide +kernel) (by decide +kernel), ⟨by decide +kernel, by decide +kernel, by decide +kernel⟩, Nat.le_of_ble_eq_true rfl, ⟨rt_at 1525 (by decide +kernel) (by decide +kernel), rt_at 38 (by decide +kernel) (by decide +kernel), _, rfl, rfl⟩⟩
theorem okX12_product : rt_okK kX12_product 1 (some 12) := ⟨rt_at 1530 (by decide +kernel) (by decide +kernel), rt_at 92 (by decide +kernel) (by decide +kernel), ⟨by decide +kernel, by decide +kernel, by decide +kernel⟩, Nat.le_of_ble_eq_true rfl, ⟨rt_at 1529 (by decide +kernel) (by decide +kernel), rt_at 39 (by decide +kernel) (by decide +kernel), _, rfl, rfl⟩⟩
theorem okX12_letterOf : rt_okK kX12_letterOf 1 none := ⟨rt_at 1537 (by decide +kernel) (by decide +kernel), rt_at 92 (by decide +kernel) (by decide +kernel), ⟨by decide +kernel, by decide +kernel, by decide +kernel⟩, Nat.le_of_ble_eq_true rfl, rt_at 1536 (by decide +kernel) (by decide +kernel)⟩
theorem okX12_thing : rt_okK kX12_thing 1 (some 12) := ⟨rt_at 1534 (by decide +kernel) (by decide +kernel), rt_at 92 (by decide +kernel) (by decide +kernel), ⟨by decide +kernel, by decide +kernel, by decide +kernel⟩, Nat.le_of_ble_eq_true rfl, ⟨rt_at 1533 (by decide +kernel) (by decide +kernel), rt_at 40 (by decide +kernel) (by decide +kernel), _, rfl, rfl⟩⟩
theorem okX12_rule : rt_okK kX12_rule 0 (some 12) := ⟨rt_at 1518 (by decide +kernel) (by decide +kernel), rt_at 92 (by decide +kernel) (by decide +kernel), ⟨by decide +kernel, by decide +kernel, by decide +kernel⟩, Nat.le_of_ble_eq_true rfl, ⟨rt_at 1516 (by decide +kernel) (by decide +kernel), rt_at 1517 (by decide +kernel) (by decide +kernel), _, rfl, rfl⟩⟩
theorem okX12_turnsOf : rt_okK kX12_turnsOf 4 (some 12) := ⟨rt_at 1582 (by decide +kernel) (by decide +kernel), rt_at 92 (by decide +kernel) (by decide +kernel), ⟨by decide +kernel, by decide +kernel, by decide +kernel⟩, Nat.le_of_ble_eq_true rfl, ⟨rt_at 1581 (by decide +kernel) (by decide +kernel), rt_at 47 (by decide +kernel) (by decide +kernel), _, rfl, rfl⟩⟩
theorem okX12_heightOf : rt_okK kX12_heightOf 4 none := ⟨rt_at 1570 (by decide +kernel) (by decide +kernel), rt_at 92 (by decide +kernel) (by decide +kernel), ⟨by decide +kernel, by decide +kernel, by decide +kernel⟩, Nat.le_of_ble_eq_true rfl, rt_at 1569 (by decide +kernel) (by decide +kernel)⟩
theorem okX12_levelAt : rt_okK kX12_levelAt 1 (some 12) := ⟨rt_at 1567 (by decide +kernel) (by decide +kernel), rt_at 92 (by decide +kernel) (by decide +kernel), ⟨by decide +kernel, by decide +kernel, by decide +kernel⟩, Nat.le_of_ble_eq_true rfl, ⟨rt_at 1566 (by decide +kernel) (by decide +kernel), rt_at 45 (by decide +kernel) (by decide +kernel), _, rfl, rfl⟩⟩
theorem okX12_isThere : rt_okK kX12_isThere 2 (some 12) := ⟨rt_at 1563 (by decide +kernel) (by decide +kernel), rt_at 92 (by decide +kernel) (by decide +kernel), ⟨by decide +kernel, by decide +kernel, by decide +kernel⟩, Nat.le_of_ble_eq_true rfl, ⟨rt_at 1562 (by decide +kernel) (by decide +kernel), rt_at 44 (by decide +kernel) (by decide +kernel), _, rfl, rfl⟩⟩
theorem okX12_endOf : rt_okK kX12_endOf 3 none := ⟨rt_at 1559 (by decide +kernel) (by decide +kernel), rt_at 92 (by decide +kernel) (by decide +kernel), ⟨by decide +kernel, by decide +kernel, by decide +kernel⟩, Nat.le_of_ble_eq_true rfl, rt_at 1558 (by decide +kernel) (by decide +kernel)⟩
theorem okX12_beyond : rt_okK kX12_beyond 3 none := ⟨rt_at 1556 (by decide +kernel) (by decide +kernel), rt_at 92 (by decide +kernel) (by decide +kernel), ⟨by decide +kernel, by decide +kernel, by decide +kernel⟩, Nat.le_of_ble_eq_true rfl, rt_at 1555 (by decide +kernel) (by decide +kernel)⟩
theorem okX12_cartsAt : rt_okK kX12_cartsAt 2 (some 12) := ⟨rt_at 1553 (by decide +kernel) (by decide +kernel), rt_at 92 (by decide +kernel) (by decide +kernel), ⟨by decide +kernel, by decide +kernel, by decide +kernel⟩, Nat.le_of_ble_eq_true rfl, ⟨rt_at 1552 (by decide +kernel) (by decide +kernel), rt_at 43 (by decide +kernel) (by decide +kernel), _, rfl, rfl⟩⟩
theorem okX12_place : rt_okK kX12_place 2 (some 12) := ⟨rt_at 1541 (by decide +kernel) (by decide +kernel), rt_at 92 (by decide +kernel) (by decide +kernel), ⟨by decide +kernel, by decide +kernel, by decide +kernel⟩, Nat.le_of_ble_eq_true rfl, ⟨rt_at 1539 (by decide +kernel) (by decide +kernel), rt_at 1540 (by decide +kernel) (by decide +kernel), _, rfl, rfl⟩⟩
theorem okX12_road : rt_okK kX12_road 2 (some 12) := ⟨rt_at 1574 (by decide +kernel) (by decide +kernel), rt_at 92 (by decide +kernel) (by decide +kernel), ⟨by decide +kernel, by decide +kernel, by decide +kernel⟩, Nat.le_of_ble_eq_true rfl, ⟨rt_at 1572 (by decide +kernel) (by decide +kernel), rt_at 1573 (by decide +kernel) (by decide +kernel), _, rfl, rfl⟩⟩
theorem okX12_cart : rt_okK kX12_cart 2 (some 12) := ⟨rt_at 1588 (by decide +kernel) (by decide +kernel), rt_at 92 (by decide +kernel) (by decide +kernel), ⟨by decide +kernel, by decide +kernel, by decide +kernel⟩, Nat.le_of_ble_eq_true rfl, ⟨rt_at 1586 (by decide +kernel) (by decide +kernel), rt_at 1587 (by decide +kernel) (by decide +kernel), _, rfl, rfl⟩⟩
theorem okX12_patience : rt_okK kX12_patience 1 (some 12) := ⟨rt_at 1596 (by decide +kernel) (by decide +kernel), rt_at 92 (by decide +kernel) (by decide +kernel), ⟨by decide +kernel, by decide +kernel, by decide +kernel⟩, Nat.le_of_ble_eq_true rfl, ⟨rt_at 1594 (by decide +kernel) (by decide +kernel), rt_at 1595 (by decide +kernel) (by decide +kernel), _, rfl, rfl⟩⟩
theorem okX12_sheet : rt_okK kX12_sheet 4 (some 12) := ⟨rt_at 1600 (by decide +kernel) (by decide +kernel), rt_at 92 (by decide +kernel) (by decide +kernel), ⟨by decide +kernel, by decide +kernel, by decide +kernel⟩, Nat.le_of_ble_eq_true rfl, ⟨rt_at 1598 (by decide +kernel) (by decide +kernel), rt_at 1599 (by decide +kernel) (by decide +kernel), _, rfl, rfl⟩⟩
theorem okX12_lay : rt_okK kX12_lay 3 none := ⟨rt_at 1615 (by decide +kernel) (by decide +kernel), rt_at 92 (by decide +kernel) (by decide +kernel), ⟨by decide +kernel, by decide +kernel, by decide +kernel⟩, Nat.le_of_ble_eq_true rfl, rt_at 1614 (by decide +kernel) (by decide +kernel)⟩
theorem okX12_remember : rt_okK kX12_remember 1 (some 12) := ⟨rt_at 1612 (by decide +kernel) (by decide +kernel), rt_at 92 (by decide +kernel) (by decide +kernel), ⟨by decide +kernel, by decide +kernel, by decide +kernel⟩, Nat.le_of_ble_eq_true rfl, ⟨rt_at 1611 (by decide +kernel) (by decide +kernel), rt_at 50 (by decide +kernel) (by decide +kernel), _, rfl, rfl⟩⟩
theorem okX12_refusesOut : rt_okK kX12_refusesOut 2 (some 12) := ⟨rt_at 1608 (by decide +kernel) (by decide +kernel), rt_at 92 (by decide +kernel) (by decide +kernel), ⟨by decide +kernel, by decide +kernel, by decide +kernel⟩, Nat.le_of_ble_eq_true rfl, ⟨rt_at 1607 (by decide +kernel) (by decide +kernel), rt_at 49 (by decide +kernel) (by decide +kernel), _, rfl, rfl⟩⟩
theorem okX12_goOut : rt_okK kX12_goOut 2 (some 12) := ⟨rt_at 1619 (by decide +kernel) (by decide +kernel), rt_at 92 (by decide +kernel) (by decide +kernel), ⟨by decide +kernel, by decide +kernel, by decide +kernel⟩, Nat.le_of_ble_eq_true rfl, ⟨rt_at 1618 (by decide +kernel) (by decide +kernel), rt_at 51 (by decide +kernel) (by decide +kernel), _, rfl, rfl⟩⟩
theorem okX12_out : rt_okK kX12_out 2 (some 12) := ⟨rt_at 1604 (by decide +kernel) (by decide +kernel), rt_at 92 (by decide +kernel) (by decide +kernel), ⟨by decide +kernel, by decide +kernel, by decide +kernel⟩, Nat.le_of_ble_eq_true rfl, ⟨rt_at 1602 (by decide +kernel) (by decide +kernel), rt_at 1603 (by decide +kernel) (by decide +kernel), _, rfl, rfl⟩⟩
theorem okX12_canRound : rt_okK kX12_canRound 1 (some 12) := ⟨rt_at 1627 (by decide +kernel) (by decide +kernel), rt_at 92 (by decide +kernel) (by decide +kernel), ⟨by decide +kernel, by decide +kernel, by decide +kernel⟩, Nat.le_of_ble_eq_true rfl, ⟨rt_at 1626 (by decide +kernel) (by decide +kernel), rt_at 52 (by decide +kernel) (by decide +kernel), _, rfl, rfl⟩⟩
theorem okX12_goRound : rt_okK kX12_goRound 1 (some 12) := ⟨rt_at 1631 (by decide +kernel) (by decide +kernel), rt_at 92 (by decide +kernel) (by decide +kernel), ⟨by decide +kernel, by decide +kernel, by decide +kernel⟩, Nat.le_of_ble_eq_true rfl, ⟨rt_at 1630 (by decide +kernel) (by decide +kernel), rt_at 53 (by decide +kernel) (by decide +kernel), _, rfl, rfl⟩⟩
theorem okX12_round : rt_okK kX12_round 1 (some 12) := ⟨rt_at 1623 (by decide +kernel) (by decide +kernel), rt_at 92 (by decide +kernel) (by decide +kernel), ⟨by decide +kernel, by decide +kernel, by decide +kernel⟩, Nat.le_of_ble_eq_true rfl, ⟨rt_at 1621 (by decide +kernel) (by decide +kernel), rt_at 1622 (by decide +kernel) (by decide +kernel), _, rfl, rfl⟩⟩
theorem okX12_canChain : rt_okK kX12_canChain 1 (some 12) := ⟨rt_at 1639 (by decide +kernel) (by decide +kernel), rt_at 92 (by decide +kernel) (by decide +kernel), ⟨by decide +kernel, by decide +kernel, by decide +kernel⟩, Nat.le_of_ble_eq_true rfl, ⟨rt_at 1638 (by decide +kernel) (by decide +kernel), rt_at 54 (by decide +kernel) (by decide +kernel), _, rfl, rfl⟩⟩
theorem okX12_chain : rt_okK kX12_chain 2 (some 12) := ⟨rt_at 1635 (by decide +kernel) (by decide +kernel), rt_at 92 (by decide +kernel) (by decide +kernel), ⟨by decide +kernel, by decide +kernel, by decide +kernel⟩, Nat.le_of_ble_eq_true rfl, ⟨rt_at 1633 (by decide +kernel) (by decide +kernel), rt_at 1634 (by decide +kernel) (by decide +kernel), _, rfl, rfl⟩⟩
theorem okX12_canLoad : rt_okK kX12_canLoad 1 (some 12) := ⟨rt_at 1647 (by decide +kernel) (by decide +kernel), rt_at 92 (by decide +kernel) (by decide +kernel), ⟨by decide +kernel, by decide +kernel, by decide +kernel⟩, Nat.le_of_ble_eq_true rfl, ⟨rt_at 1646 (by decide +kernel) (by decide +kernel), rt_at 55 (by decide +kernel) (by decide +kernel), _, rfl, rfl⟩⟩
theorem okX12_load : rt_okK kX12_load 2 (some 12) := ⟨rt_at 1643 (by decide +kernel) (by decide +kernel), rt_at 92 (by decide +kernel) (by decide +kernel), ⟨by decide +kernel, by decide +kernel, by decide +kernel⟩, Nat.le_of_ble_eq_true rfl, ⟨rt_at 1641 (by decide +kernel) (by decide +kernel), rt_at 1642 (by decide +kernel) (by decide +kernel), _, rfl, rfl⟩⟩
theorem okX12_isUsed : rt_okK kX12_isUsed 2 (some 12) := ⟨rt_at 1655 (by decide +kernel) (by decide +kernel), rt_at 92 (by decide +kernel) (by decide +kernel), ⟨by decide +kernel, by decide +kernel, by decide +kernel⟩, Nat.le_of_ble_eq_true rfl, ⟨rt_at 1654 (by decide +kernel) (by decide +kernel), rt_at 56 (by decide +kernel) (by decide +kernel), _, rfl, rfl⟩⟩
theorem okX12_storm : rt_okK kX12_storm 3 (some 12) := ⟨rt_at 1651 (by decide +kernel) (by decide +kernel), rt_at 92 (by decide +kernel) (by decide +kernel), ⟨by decide +kernel, by decide +kernel, by decide +kernel⟩, Nat.le_of_ble_eq_true rfl, ⟨rt_at 1649 (by decide +kernel) (by decide +kernel), rt_at 1650 (by decide +kernel) (by decide +kernel), _, rfl, rfl⟩⟩
theorem okX12_goTurn : rt_okK kX12_goTurn 1 (some 12) := ⟨rt_at 1671 (by decide +kernel) (by decide +kernel), rt_at 92 (by decide +kernel) (by decide +kernel), ⟨by decide +kernel, by decide +kernel, by decide +kernel⟩, Nat.le_of_ble_eq_true rfl, ⟨rt_at 1670 (by decide +kernel) (by decide +kernel), rt_at 59 (by decide +kernel) (by decide +kernel), _, rfl, rfl⟩⟩
theorem okX12_beginTurns : rt_okK kX12_beginTurns 0 (some 12) := ⟨rt_at 1663 (by decide +kernel) (by decide +kernel), rt_at 92 (by decide +kernel) (by decide +kernel), ⟨by decide +kernel, by decide +kernel, by decide +kernel⟩, Nat.le_of_ble_eq_true rfl, ⟨rt_at 1662 (by decide +kernel) (by decide +kernel), rt_at 57 (by decide +kernel) (by decide +kernel), _, rfl, rfl⟩⟩
theorem okX12_goTurns : rt_okK kX12_goTurns 2 (some 12) := ⟨rt_at 1667 (by decide +kernel) (by decide +kernel), rt_at 92 (by decide +kernel) (by decide +kernel), ⟨by decide +kernel, by decide +kernel, by decide +kernel⟩, Nat.le_of_ble_eq_true rfl, ⟨rt_at 1666 (by decide +kernel) (by decide +kernel), rt_at 58 (by decide +kernel) (by decide +kernel), _, rfl, rfl⟩⟩
theorem okX12_pass : rt_okK kX12_pass 1 (some 12) := ⟨rt_at 1659 (by decide +kernel) (by decide +kernel), rt_at 92 (by decide +kernel) (by decide +kernel), ⟨by decide +kernel, by decide +kernel, by decide +kernel⟩, Nat.le_of_ble_eq_true rfl, ⟨rt_at 1657 (by decide +kernel) (by decide +kernel), rt_at 1658 (by decide +kernel) (by decide +kernel), _, rfl, rfl⟩⟩
theorem okX12_day : rt_okK kX12_day 0 (some 12) := ⟨rt_at 1680 (by decide +kernel) (by decide +kernel), rt_at 92 (by decide +kernel) (by decide +kernel), ⟨by decide +kernel, by decide +kernel, by decide +kernel⟩, Nat.le_of_ble_eq_true rfl, ⟨rt_at 1678 (by decide +kernel) (by decide +kernel), rt_at 1679 (by decide +kernel) (by decide +kernel), _, rfl, rfl⟩⟩
theorem okX12_readAct : rt_okK kX12_readAct 1 (some 12) := ⟨rt_at 1684 (by decide +kernel) (by decide +kernel), rt_at 92 (by decide +kernel) (by decide +kernel), ⟨by decide +kernel, by decide +kernel, by decide +kernel⟩, Nat.le_of_ble_eq_true rfl, ⟨rt_at 1683 (by decide +kernel) (by decide +kernel), rt_at 61 (by decide +kernel) (by decide +kernel), _, rfl, rfl⟩⟩
theorem okX12_act : rt_okK kX12_act 3 (some 12) := ⟨rt_at 1688 (by decide +kernel) (by decide +kernel), rt_at 92 (by decide +kernel) (by decide +kernel), ⟨by decide +kernel, by decide +kernel, by decide +kernel⟩, Nat.le_of_ble_eq_true rfl, ⟨rt_at 1687 (by decide +kernel) (by decide +kernel), rt_at 62 (by decide +kernel) (by decide +kernel), _, rfl, rfl⟩⟩
theorem okX12_undo : rt_okK kX12_undo 0 (some 12) := ⟨rt_at 1692 (by decide +kernel) (by decide +kernel), rt_at 92 (by decide +kernel) (by decide +kernel), ⟨by decide +kernel, by decide +kernel, by decide +kernel⟩, Nat.le_of_ble_eq_true rfl, ⟨rt_at 1690 (by decide +kernel) (by decide +kernel), rt_at 1691 (by decide +kernel) (by decide +kernel), _, rfl, rfl⟩⟩
theorem okX12_isLook : rt_okK kX12_isLook 1 none := ⟨rt_at 1699 (by decide +kernel) (by decide +kernel), rt_at 92 (by decide +kernel) (by decide +kernel), ⟨by decide +kernel, by decide +kernel, by decide +kernel⟩, Nat.le_of_ble_eq_true rfl, rt_at 1698 (by decide +kernel) (by decide +kernel)⟩
theorem okX12_levelIn : rt_okK kX12_levelIn 1 (some 12) := ⟨rt_at 1703 (by decide +kernel) (by decide +kernel), rt_at 92 (by decide +kernel) (by decide +kernel), ⟨by decide +kernel, by decide +kernel, by decide +kernel⟩, Nat.le_of_ble_eq_true rfl, ⟨rt_at 1702 (by decide +kernel) (by decide +kernel), rt_at 63 (by decide +kernel) (by decide +kernel), _, rfl, rfl⟩⟩
theorem okX12_comesIn : rt_okK kX12_comesIn 2 (some 12) := ⟨rt_at 1712 (by decide +kernel) (by decide +kernel), rt_at 92 (by decide +kernel) (by decide +kernel), ⟨by decide +kernel, by decide +kernel, by decide +kernel⟩, Nat.le_of_ble_eq_true rfl, ⟨rt_at 1711 (by decide +kernel) (by decide +kernel), rt_at 64 (by decide +kernel) (by decide +kernel), _, rfl, rfl⟩⟩
theorem okX12_level : rt_okK kX12_level 1 (some 12) := ⟨rt_at 1696 (by decide +kernel) (by decide +kernel), rt_at 92 (by decide +kernel) (by decide +kernel), ⟨by decide +kernel, by decide +kernel, by decide +kernel⟩, Nat.le_of_ble_eq_true rfl, ⟨rt_at 1694 (by decide +kernel) (by decide +kernel), rt_at 1695 (by decide +kernel) (by decide +kernel), _, rfl, rfl⟩⟩
theorem okX12_table : rt_okK kX12_table 2 (some 12) := ⟨rt_at 1708 (by decide +kernel) (by decide +kernel), rt_at 92 (by decide +kernel) (by decide +kernel), ⟨by decide +kernel, by decide +kernel, by decide +kernel⟩, Nat.le_of_ble_eq_true rfl, ⟨rt_at 1706 (by decide +kernel) (by decide +kernel), rt_at 1707 (by decide +kernel) (by decide +kernel), _, rfl, rfl⟩⟩
theorem okX12_comes : rt_okK kX12_comes 1 (some 12) := ⟨rt_at 1716 (by decide +kernel) (by decide +kernel), rt_at 92 (by decide +kernel) (by decide +kernel), ⟨by decide +kernel, by decide +kernel, by decide +kernel⟩, Nat.le_of_ble_eq_true rfl, ⟨rt_at 1714 (by decide +kernel) (by decide +kernel), rt_at 1715 (by decide +kernel) (by decide +kernel), _, rfl, rfl⟩⟩
theorem okX12_ebb : rt_okK kX12_ebb 0 (some 12) := ⟨rt_at 1720 (by decide +kernel) (by decide +kernel), rt_at 92 (by decide +kernel) (by decide +kernel), ⟨by decide +kernel, by decide +kernel, by decide +kernel⟩, Nat.le_of_ble_eq_true rfl, ⟨rt_at 1718 (by decide +kernel) (by decide +kernel), rt_at 1719 (by decide +kernel) (by decide +kernel), _, rfl, rfl⟩⟩
theorem okX12_slack : rt_okK kX12_slack 0 (some 12) := ⟨rt_at 1724 (by decide +kernel) (by decide +kernel), rt_at 92 (by decide +kernel) (by decide +kernel), ⟨by decide +kernel, by decide +kernel, by decide +kernel⟩, Nat.le_of_ble_eq_true rfl, ⟨rt_at 1722 (by decide +kernel) (by decide +kernel), rt_at 1723 (by decide +kernel) (by decide +kernel), _, rfl, rfl⟩⟩
theorem okX12_common : rt_okK kX12_common 2 none := ⟨rt_at 1731 (by decide +kernel) (by decide +kernel), rt_at 92 (by decide +kernel) (by decide +kernel), ⟨by decide +kernel, by decide +kernel, by decide +kernel⟩, Nat.le_of_ble_eq_true rfl, rt_at 1730 (by decide +kernel) (by decide +kernel)⟩
theorem okX12_period : rt_okK kX12_period 0 (some 12) := ⟨rt_at 1728 (by decide +kernel) (by decide +kernel), rt_at 92 (by decide +kernel) (by decide +kernel), ⟨by decide +kernel, by decide +kernel, by decide +kernel⟩, Nat.le_of_ble_eq_true rfl, ⟨rt_at 1726 (by decide +kernel) (by decide +kernel), rt_at 1727 (by decide +kernel) (by decide +kernel), _, rfl, rfl⟩⟩
theorem okX12_canGo : rt_okK kX12_canGo 4 (some 12) := ⟨rt_at 1755 (by decide +kernel) (by decide +kernel), rt_at 92 (by decide +kernel) (by decide +kernel), ⟨by decide +kernel, by decide +kernel, by decide +kernel⟩, Nat.le_of_ble_eq_true rfl, ⟨rt_at 1754 (by decide +kernel) (by decide +kernel), rt_at 68 (by decide +kernel) (by decide +kernel), _, rfl, rfl⟩⟩
theorem okX12_soonestBy : rt_okK kX12_soonestBy 5 (some 12) := ⟨rt_at 1751 (by decide +kernel) (by decide +kernel), rt_at 92 (by decide +kernel) (by decide +kernel), ⟨by decide +kernel, by decide +kernel, by decide +kernel⟩, Nat.le_of_ble_eq_true rfl, ⟨rt_at 1750 (by decide +kernel) (by decide +kernel), rt_at 67 (by decide +kernel) (by decide +kernel), _, rfl, rfl⟩⟩
theorem okX12_findSoon : rt_okK kX12_findSoon 3 (some 12) := ⟨rt_at 1743 (by decide +kernel) (by decide +kernel), rt_at 92 (by decide +kernel) (by decide +kernel), ⟨by decide +kernel, by decide +kernel, by decide +kernel⟩, Nat.le_of_ble_eq_true rfl, ⟨rt_at 1742 (by decide +kernel) (by decide +kernel), rt_at 66 (by decide +kernel) (by decide +kernel), _, rfl, rfl⟩⟩
theorem okX12_canCome : rt_okK kX12_canCome 6 (some 12) := ⟨rt_at 1763 (by decide +kernel) (by decide +kernel), rt_at 92 (by decide +kernel) (by decide +kernel), ⟨by decide +kernel, by decide +kernel, by decide +kernel⟩, Nat.le_of_ble_eq_true rfl, ⟨rt_at 1762 (by decide +kernel) (by decide +kernel), rt_at 70 (by decide +kernel) (by decide +kernel), _, rfl, rfl⟩⟩
theorem okX12_soonest : rt_okK kX12_soonest 2 (some 12) := ⟨rt_at 1735 (by decide +kernel) (by decide +kernel), rt_at 92 (by decide +kernel) (by decide +kernel), ⟨by decide +kernel, by decide +kernel, by decide +kernel⟩, Nat.le_of_ble_eq_true rfl, ⟨rt_at 1733 (by decide +kernel) (by decide +kernel), rt_at 1734 (by decide +kernel) (by decide +kernel), _, rfl, rfl⟩⟩
theorem okX12_wayOf : rt_okK kX12_wayOf 3 (some 12) := ⟨rt_at 1739 (by decide +kernel) (by decide +kernel), rt_at 92 (by decide +kernel) (by decide +kernel), ⟨by decide +kernel, by decide +kernel, by decide +kernel⟩, Nat.le_of_ble_eq_true rfl, ⟨rt_at 1738 (by decide +kernel) (by decide +kernel), rt_at 65 (by decide +kernel) (by decide +kernel), _, rfl, rfl⟩⟩
theorem okX12_nextRoad : rt_okK kX12_nextRoad 6 (some 12) := ⟨rt_at 1759 (by decide +kernel) (by decide +kernel), rt_at 92 (by decide +kernel) (by decide +kernel), ⟨by decide +kernel, by decide +kernel, by decide +kernel⟩, Nat.le_of_ble_eq_true rfl, ⟨rt_at 1758 (by decide +kernel) (by decide +kernel), rt_at 69 (by decide +kernel) (by decide +kernel), _, rfl, rfl⟩⟩
theorem okX12_latest : rt_okK kX12_latest 3 (some 12) := ⟨rt_at 1767 (by decide +kernel) (by decide +kernel), rt_at 92 (by decide +kernel) (by decide +kernel), ⟨by decide +kernel, by decide +kernel, by decide +kernel⟩, Nat.le_of_ble_eq_true rfl, ⟨rt_at 1765 (by decide +kernel) (by decide +kernel), rt_at 1766 (by decide +kernel) (by decide +kernel), _, rfl, rfl⟩⟩
theorem okX12_safe : rt_okK kX12_safe 3 (some 12) := ⟨rt_at 1771 (by decide +kernel) (by decide +kernel), rt_at 92 (by decide +kernel) (by decide +kernel), ⟨by decide +kernel, by decide +kernel, by decide +kernel⟩, Nat.le_of_ble_eq_true rfl, ⟨rt_at 1769 (by decide +kernel) (by decide +kernel), rt_at 1770 (by decide +kernel) (by decide +kernel), _, rfl, rfl⟩⟩
theorem okX12_within : rt_okK kX12_within 2 (some 12) := ⟨rt_at 1775 (by decide +kernel) (by decide +kernel), rt_at 92 (by decide +kernel) (by decide +kernel), ⟨by decide +kernel, by decide +kernel, by decide +kernel⟩, Nat.le_of_ble_eq_true rfl, ⟨rt_at 1773 (by decide +kernel) (by decide +kernel), rt_at 1774 (by decide +kernel) (by decide +kernel), _, rfl, rfl⟩⟩
theorem okX12_cutoff : rt_okK kX12_cutoff 1 (some 12) := ⟨rt_at 1779 (by decide +kernel) (by decide +kernel), rt_at 92 (by decide +kernel) (by decide +kernel), ⟨by decide +kernel, by decide +kernel, by decide +kernel⟩, Nat.le_of_ble_eq_true rfl, ⟨rt_at 1777 (by decide +kernel) (by decide +kernel), rt_at 1778 (by decide +kernel) (by decide +kernel), _, rfl, rfl⟩⟩
theorem okX12_soonFrom : rt_okK kX12_soonFrom 3 (some 12) := ⟨rt_at 1791 (by decide +kernel) (by decide +kernel), rt_at 92 (by decide +kernel) (by decide +kernel), ⟨by decide +kernel, by decide +kernel, by decide +kernel⟩, Nat.le_of_ble_eq_true rfl, ⟨rt_at 1790 (by decide +kernel) (by decide +kernel), rt_at 72 (by decide +kernel) (by decide +kernel), _, rfl, rfl⟩⟩
theorem okX12_goCarrier : rt_okK kX12_goCarrier 5 (some 12) := ⟨rt_at 1787 (by decide +kernel) (by decide +kernel), rt_at 92 (by decide +kernel) (by decide +kernel), ⟨by decide +kernel, by decide +kernel, by decide +kernel⟩, Nat.le_of_ble_eq_true rfl, ⟨rt_at 1786 (by decide +kernel) (by decide +kernel), rt_at 71 (by decide +kernel) (by decide +kernel), _, rfl, rfl⟩⟩
theorem okX12_carrier : rt_okK kX12_carrier 2 (some 12) := ⟨rt_at 1783 (by decide +kernel) (by decide +kernel), rt_at 92 (by decide +kernel) (by decide +kernel), ⟨by decide +kernel, by decide +kernel, by decide +kernel⟩, Nat.le_of_ble_eq_true rfl, ⟨rt_at 1781 (by decide +kernel) (by decide +kernel), rt_at 1782 (by decide +kernel) (by decide +kernel), _, rfl, rfl⟩⟩
theorem okX12_inns : rt_okK kX12_inns 1 (some 12) := ⟨rt_at 1795 (by decide +kernel) (by decide +kernel), rt_at 92 (by decide +kernel) (by decide +kernel), ⟨by decide +kernel, by decide +kernel, by decide +kernel⟩, Nat.le_of_ble_eq_true rfl, ⟨rt_at 1793 (by decide +kernel) (by decide +kernel), rt_at 1794 (by decide +kernel) (by decide +kernel), _, rfl, rfl⟩⟩
theorem okX12_rides : rt_okK kX12_rides 5 (some 12) := ⟨rt_at 1807 (by decide +kernel) (by decide +kernel), rt_at 92 (by decide +kernel) (by decide +kernel), ⟨by decide +kernel, by decide +kernel, by decide +kernel⟩, Nat.le_of_ble_eq_true rfl, ⟨rt_at 1806 (by decide +kernel) (by decide +kernel), rt_at 74 (by decide +kernel) (by decide +kernel), _, rfl, rfl⟩⟩
theorem okX12_ridesOn : rt_okK kX12_ridesOn 1 (some 12) := ⟨rt_at 1803 (by decide +kernel) (by decide +kernel), rt_at 92 (by decide +kernel) (by decide +kernel), ⟨by decide +kernel, by decide +kernel, by decide +kernel⟩, Nat.le_of_ble_eq_true rfl, ⟨rt_at 1802 (by decide +kernel) (by decide +kernel), rt_at 73 (by decide +kernel) (by decide +kernel), _, rfl, rfl⟩⟩
theorem okX12_arrives : rt_okK kX12_arrives 1 (some 12) := ⟨rt_at 1799 (by decide +kernel) (by decide +kernel), rt_at 92 (by decide +kernel) (by decide +kernel), ⟨by decide +kernel, by decide +kernel, by decide +kernel⟩, Nat.le_of_ble_eq_true rfl, ⟨rt_at 1797 (by decide +kernel) (by decide +kernel), rt_at 1798 (by decide +kernel) (by decide +kernel), _, rfl, rfl⟩⟩
theorem okX12_best : rt_okK kX12_best 2 (some 12) := ⟨rt_at 1811 (by decide +kernel) (by decide +kernel), rt_at 92 (by decide +kernel) (by decide +kernel), ⟨by decide +kernel, by decide +kernel, by decide +kernel⟩, Nat.le_of_ble_eq_true rfl, ⟨rt_at 1809 (by decide +kernel) (by decide +kernel), rt_at 1810 (by decide +kernel) (by decide +kernel), _, rfl, rfl⟩⟩
theorem okX12_could : rt_okK kX12_could 2 (some 12) := ⟨rt_at 1815 (by decide +kernel) (by decide +kernel), rt_at 92 (by decide +kernel) (by decide +kernel), ⟨by decide +kernel, by decide +kernel, by decide +kernel⟩, Nat.le_of_ble_eq_true rfl, ⟨rt_at 1813 (by decide +kernel) (by decide +kernel), rt_at 1814 (by decide +kernel) (by decide +kernel), _, rfl, rfl⟩⟩
theorem okX12_mark : rt_okK kX12_mark 2 (some 12) := ⟨rt_at 1819 (by decide +kernel) (by decide +kernel), rt_at 92 (by decide +kernel) (by decide +kernel), ⟨by decide +kernel, by decide +kernel, by decide +kernel⟩, Nat.le_of_ble_eq_true rfl, ⟨rt_at 1817 (by decide +kernel) (by decide +kernel), rt_at 1818 (by decide +kernel) (by decide +kernel), _, rfl, rfl⟩⟩
theorem okX12_wash : rt_okK kX12_wash 0 (some 12) := ⟨rt_at 1823 (by decide +kernel) (by decide +kernel), rt_at 92 (by decide +kernel) (by decide +kernel), ⟨by decide +kernel, by decide +kernel, by decide +kernel⟩, Nat.le_of_ble_eq_true rfl, ⟨rt_at 1821 (by decide +kernel) (by decide +kernel), rt_at 1822 (by decide +kernel) (by decide +kernel), _, rfl, rfl⟩⟩
theorem okX12_fitsBy : rt_okK kX12_fitsBy 4 (some 12) := ⟨rt_at 1831 (by decide +kernel) (by decide +kernel), rt_at 92 (by decide +kernel) (by decide +kernel), ⟨by decide +kernel, by decide +kernel, by decide +kernel⟩, Nat.le_of_ble_eq_true rfl, ⟨rt_at 1830 (by decide +kernel) (by decide +kernel), rt_at 75 (by decide +kernel) (by decide +kernel), _, rfl, rfl⟩⟩
theorem okX12_fits : rt_okK kX12_fits 1 (some 12) := ⟨rt_at 1827 (by decide +kernel) (by decide +kernel), rt_at 92 (by decide +kernel) (by decide +kernel), ⟨by decide +kernel, by decide +kernel, by decide +kernel⟩, Nat.le_of_ble_eq_true rfl, ⟨rt_at 1825 (by decide +kernel) (by decide +kernel), rt_at 1826 (by decide +kernel) (by decide +kernel), _, rfl, rfl⟩⟩
theorem okX12_findTold : rt_okK kX12_findTold 3 (some 12) := ⟨rt_at 1840 (by decide +kernel) (by decide +kernel), rt_at 92 (by decide +kernel) (by decide +kernel), ⟨by decide +kernel, by decide +kernel, by decide +kernel⟩, Nat.le_of_ble_eq_true rfl, ⟨rt_at 1839 (by decide +kernel) (by decide +kernel), rt_at 76 (by decide +kernel) (by decide +kernel), _, rfl, rfl⟩⟩
theorem okX12_toldAt : rt_okK kX12_toldAt 1 (some 12) := ⟨rt_at 1844 (by decide +kernel) (by decide +kernel), rt_at 92 (by decide +kernel) (by decide +kernel), ⟨by decide +kernel, by decide +kernel, by decide +kernel⟩, Nat.le_of_ble_eq_true rfl, ⟨rt_at 1843 (by decide +kernel) (by decide +kernel), rt_at 77 (by decide +kernel) (by decide +kernel), _, rfl, rfl⟩⟩
theorem okX12_read : rt_okK kX12_read 2 (some 12) := ⟨rt_at 1836 (by decide +kernel) (by decide +kernel), rt_at 92 (by decide +kernel) (by decide +kernel), ⟨by decide +kernel, by decide +kernel, by decide +kernel⟩, Nat.le_of_ble_eq_true rfl, ⟨rt_at 1834 (by decide +kernel) (by decide +kernel), rt_at 1835 (by decide +kernel) (by decide +kernel), _, rfl, rfl⟩⟩
theorem okX12_lookat : rt_okK kX12_lookat 1 (some 12) := ⟨rt_at 1848 (by decide +kernel) (by decide +kernel), rt_at 92 (by decide +kernel) (by decide +kernel), ⟨by decide +kernel, by decide +kernel, by decide +kernel⟩, Nat.le_of_ble_eq_true rfl, ⟨rt_at 1846 (by decide +kernel) (by decide +kernel), rt_at 1847 (by decide +kernel) (by decide +kernel), _, rfl, rfl⟩⟩
theorem okX12_draw : rt_okK kX12_draw 1 (some 12) := ⟨rt_at 1856 (by decide +kernel) (by decide +kernel), rt_at 92 (by decide +kernel) (by decide +kernel), ⟨by decide +kernel, by decide +kernel, by decide +kernel⟩, Nat.le_of_ble_eq_true rfl, ⟨rt_at 1855 (by decide +kernel) (by decide +kernel), rt_at 78 (by decide +kernel) (by decide +kernel), _, rfl, rfl⟩⟩
theorem okX12_years : rt_okK kX12_years 2 (some 12) := ⟨rt_at 1852 (by decide +kernel) (by decide +kernel), rt_at 92 (by decide +kernel) (by decide +kernel), ⟨by decide +kernel, by decide +kernel, by decide +kernel⟩, Nat.le_of_ble_eq_true rfl, ⟨rt_at 1850 (by decide +kernel) (by decide +kernel), rt_at 1851 (by decide +kernel) (by decide +kernel), _, rfl, rfl⟩⟩
theorem okX12_keep : rt_okK kX12_keep 1 (some 12) := ⟨rt_at 1861 (by decide +kernel) (by decide +kernel), rt_at 92 (by decide +kernel) (by decide +kernel), ⟨by decide +kernel, by decide +kernel, by decide +kernel⟩, Nat.le_of_ble_eq_true rfl, ⟨rt_at 1859 (by decide +kernel) (by decide +kernel), rt_at 1860 (by decide +kernel) (by decide +kernel), _, rfl, rfl⟩⟩
theorem okX12_again : rt_okK kX12_again 1 (some 12) := ⟨rt_at 1865 (by decide +kernel) (by decide +kernel), rt_at 92 (by decide +kernel) (by decide +kernel), ⟨by decide +kernel, by decide +kernel, by decide +kernel⟩, Nat.le_of_ble_eq_true rfl, ⟨rt_at 1863 (by decide +kernel) (by decide +kernel), rt_at 1864 (by decide +kernel) (by decide +kernel), _, rfl, rfl⟩⟩
theorem okX12_count : rt_okK kX12_count 1 (some 12) := ⟨rt_at 1869 (by decide +kernel) (by decide +kernel), rt_at 92 (by decide +kernel) (by decide +kernel), ⟨by decide +kernel, by decide +kernel, by decide +kernel⟩, Nat.le_of_ble_eq_true rfl, ⟨rt_at 1867 (by decide +kernel) (by decide +kernel), rt_at 1868 (by decide +kernel) (by decide +kernel), _, rfl, rfl⟩⟩
theorem okX12_row : rt_okK kX12_row 1 (some 12) := ⟨rt_at 1873 (by decide +kernel) (by decide +kernel), rt_at 92 (by decide +kernel) (by decide +kernel), ⟨by decide +kernel, by decide +kernel, by decide +kernel⟩, Nat.le_of_ble_eq_true rfl, ⟨rt_at 1871 (by decide +kernel) (by decide +kernel), rt_at 1872 (by decide +kernel) (by decide +kernel), _, rfl, rfl⟩⟩
theorem okJ6_compare_7cf53 : rt_okK kJ6_compare_7cf53 2 none := ⟨rt_at 904 (by decide +kernel) (by decide +kernel), rt_at 100 (by decide +kernel) (by decide +kernel), ⟨by decide +kernel, by decide +kernel, by decide +kernel⟩, Nat.le_of_ble_eq_true rfl, rt_at 903 (by decide +kernel) (by decide +kernel)⟩
theorem okJ6_numberOfLeadingZeros_0f7a4 : rt_okK kJ6_numberOfLeadingZeros_0f7a4 1 none := ⟨rt_at 1121 (by decide +kernel) (by decide +kernel), rt_at 100 (by decide +kernel) (by decide +kernel), ⟨by decide +kernel, by decide +kernel, by decide +kernel⟩, Nat.le_of_ble_eq_true rfl, rt_at 1120 (by decide +kernel) (by decide +kernel)⟩
theorem okJ6_numberOfTrailingZeros_0f7a4 : rt_okK kJ6_numberOfTrailingZeros_0f7a4 1 none := ⟨rt_at 1114 (by decide +kernel) (by decide +kernel), rt_at 100 (by decide +kernel) (by decide +kernel), ⟨by decide +kernel, by decide +kernel, by decide +kernel⟩, Nat.le_of_ble_eq_true rfl, rt_at 1113 (by decide +kernel) (by decide +kernel)⟩
theorem okJ6_bitCount_0f7a4 : rt_okK kJ6_bitCount_0f7a4 1 none := ⟨rt_at 933 (by decide +kernel) (by decide +kernel), rt_at 100 (by decide +kernel) (by decide +kernel), ⟨by decide +kernel, by decide +kernel, by decide +kernel⟩, Nat.le_of_ble_eq_true rfl, rt_at 932 (by decide +kernel) (by decide +kernel)⟩
theorem okJ13_numberOfLeadingZeros_95d88 : rt_okK kJ13_numberOfLeadingZeros_95d88 1 none := ⟨rt_at 1118 (by decide +kernel) (by decide +kernel), rt_at 102 (by decide +kernel) (by decide +kernel), ⟨by decide +kernel, by decide +kernel, by decide +kernel⟩, Nat.le_of_ble_eq_true rfl, rt_at 1117 (by decide +kernel) (by decide +kernel)⟩
theorem okJ13_numberOfTrailingZeros_95d88 : rt_okK kJ13_numberOfTrailingZeros_95d88 1 none := ⟨rt_at 1111 (by decide +kernel) (by decide +kernel), rt_at 102 (by decide +kernel) (by decide +kernel), ⟨by decide +kernel, by decide +kernel, by decide +kernel⟩, Nat.le_of_ble_eq_true rfl, rt_at 1110 (by decide +kernel) (by decide +kernel)⟩
theorem okJ13_bitCount_95d88 : rt_okK kJ13_bitCount_95d88 1 none := ⟨rt_at 1124 (by decide +kernel) (by decide +kernel), rt_at 102 (by decide +kernel) (by decide +kernel), ⟨by decide +kernel, by decide +kernel, by decide +kernel⟩, Nat.le_of_ble_eq_true rfl, rt_at 1123 (by decide +kernel) (by decide +kernel)⟩
theorem okJ9_abs_0f7a4 : rt_okK kJ9_abs_0f7a4 1 none := ⟨rt_at 1103 (by decide +kernel) (by decide +kernel), rt_at 93 (by decide +kernel) (by decide +kernel), ⟨by decide +kernel, by decide +kernel, by decide +kernel⟩, Nat.le_of_ble_eq_true rfl, rt_at 1102 (by decide +kernel) (by decide +kernel)⟩
theorem okJ9_max_7cf53 : rt_okK kJ9_max_7cf53 2 none := ⟨rt_at 666 (by decide +kernel) (by decide +kernel), rt_at 93 (by decide +kernel) (by decide +kernel), ⟨by decide +kernel, by decide +kernel, by decide +kernel⟩, Nat.le_of_ble_eq_true rfl, rt_at 665 (by decide +kernel) (by decide +kernel)⟩
theorem okJ9_min_7cf53 : rt_okK kJ9_min_7cf53 2 none := ⟨rt_at 542 (by decide +kernel) (by decide +kernel), rt_at 93 (by decide +kernel) (by decide +kernel), ⟨by decide +kernel, by decide +kernel, by decide +kernel⟩, Nat.le_of_ble_eq_true rfl, rt_at 541 (by decide +kernel) (by decide +kernel)⟩
theorem okJ7_fill_d0a16 : rt_okK kJ7_fill_d0a16 2 none := ⟨rt_at 1095 (by decide +kernel) (by decide +kernel), rt_at 101 (by decide +kernel) (by decide +kernel), ⟨by decide +kernel, by decide +kernel, by decide +kernel⟩, Nat.le_of_ble_eq_true rfl, rt_at 1094 (by decide +kernel) (by decide +kernel)⟩
theorem okJ7_fill_53178 : rt_okK kJ7_fill_53178 2 none := ⟨rt_at 961 (by decide +kernel) (by decide +kernel), rt_at 101 (by decide +kernel) (by decide +kernel), ⟨by decide +kernel, by decide +kernel, by decide +kernel⟩, Nat.le_of_ble_eq_true rfl, rt_at 960 (by decide +kernel) (by decide +kernel)⟩
def rt_NC : Nat := 136
def rt_layL : List (Nat × Nat) := [(16, 10), (12, 4), (0, 80), (13, 4), (0, 9), (0, 9), (11, 10), (0, 40), (0, 40), (0, 40), (0, 40), (0, 6), (7, 9), (0, 8), (0, 12), (0, 12), (9, 5), (0, 40), (0, 12), (0, 12), (14, 12), (6, 6), (4, 13), (4, 2), (2, 2), (5, 5), (0, 60), (0, 60), (0, 60), (15, 12), (0, 24), (0, 2928), (0, 12), (0, 8), (0, 8), (0, 6), (0, 6), (0, 56), (8, 7), (0, 10), (0, 10), (3, 24), (10, 2), (0, 16), (9, 5), (0, 40), (0, 12), (0, 12), (9, 5), (0, 40), (0, 12), (0, 12), (9, 5), (0, 40), (0, 12), (0, 12), (9, 5), (0, 40), (0, 12), (0, 12), (9, 5), (0, 40), (0, 12), (0, 12), (9, 5), (0, 40), (0, 12), (0, 12), (9, 5), (0, 40), (0, 12), (0, 12), (9, 5), (0, 40), (0, 12), (0, 12), (9, 5), (0, 40), (0, 12), (0, 12), (9, 5), (0, 40), (0, 12), (0, 12), (9, 5), (0, 40), (0, 12), (0, 12), (9, 5), (0, 40), (0, 12), (0, 12), (9, 5), (0, 40), (0, 12), (0, 12), (9, 5), (0, 40), (0, 12), (0, 12), (9, 5), (0, 40), (0, 12), (0, 12), (9, 5), (0, 40), (0, 12), (0, 12), (17, 56), (0, 65), (0, 8), (0, 12), (0, 12), (0, 9), (1, 80), (0, 40), (0, 8), (0, 48), (0, 9), (0, 15), (1, 40), (0, 6), (0, 780), (0, 65), (0, 240), (0, 8), (0, 8), (0, 8), (0, 8), (0, 20), (2, 984), (0, 65), (0, 130), (2, 2), (0, 2), (3, 1)]
def rt_lay (c : Nat) : Nat × Nat := rt_layL.getD c (0, 0)
def rt_ptL : List (List (Option Nat)) := [[some 1, some 3, some 6, some 12, some 20, some 21, some 25, some 29, some 38, some 42], [some 2], [], [some 4, some 5], [], [], [some 7, none, some 8, none, some 9, none, some 10, some 11], [], [], [], [], [], [some 16, none, none, some 13, some 14, some 15], [], [], [], [none, none, some 17, some 18, some 19], [], [], [], [some 12, some 16, some 3, some 6], [some 22, some 23, some 24, some 104], [some 44, some 48, some 52, some 56, some 60, some 64, some 68, some 72, some 76, some 80, some 84, some 88, some 92], [some 96, some 100], [], [some 26, some 27, some 28], [], [], [], [some 20, some 12, some 30, some 31, some 32, some 33, some 34, some 35, some 36, some 37], [], [], [], [], [], [], [], [], [some 39, some 40, none, some 41], [], [], [], [some 43], [], [none, none, some 45, some 46, some 47], [], [], [], [none, none, some 49, some 50, some 51], [], [], [], [none, none, some 53, some 54, some 55], [], [], [], [none, none, some 57, some 58, some 59], [], [], [], [none, none, some 61, some 62, some 63], [], [], [], [none, none, some 65, some 66, some 67], [], [], [], [none, none, some 69, some 70, some 71], [], [], [], [none, none, some 73, some 74, some 75], [], [], [], [none, none, some 77, some 78, some 79], [], [], [], [none, none, some 81, some 82, some 83], [], [], [], [none, none, some 85, some 86, some 87], [], [], [], [none, none, some 89, some 90, some 91], [], [], [], [none, none, some 93, some 94, some 95], [], [], [], [none, none, some 97, some 98, some 99], [], [], [], [none, none, some 101, some 102, some 103], [], [], [], [none, none, some 105, some 106, some 107], [], [], [], [some 109, none, some 110, none, some 111, some 112, none, none, some 113, none, some 114, none, some 115, none, none, none, none, none, none, none, some 116, some 117, none, none, some 118, some 119, some 120, none, none, some 121, some 122, none, some 123, none, none, none, none, none, some 124, some 125, some 126, some 127, none, some 128, none, none, none, some 129, none, some 130, none, some 131, none, some 132, some 133, some 134], [], [], [], [], [], [], [], [], [], [], [], [], [], [], [], [], [], [], [], [], [], [], [], [], [], [], []]
/-- what a reference field, or a place of an array of references, holds; r: what the model's field read holds -/
def rt_pt (r c j : Nat) : Option Nat := if c = 108 ∧ j = 15 then some r else (rt_ptL.getD c []).getD j none
def rt_refL : List (List Nat) := [[0, 1, 2], [0, 1, 2, 3], [0, 3, 4, 5], [0, 1, 3], [2, 3, 4], [0], [0, 2, 4, 6, 7], [0], [0, 1], [0, 1, 2, 3], [0, 1, 2, 3, 4, 5, 6, 7, 8, 9], [0, 1, 2, 3, 4, 5, 6, 7, 8, 9], [0, 2, 4, 5, 8, 10, 12, 15, 20, 21, 24, 25, 26, 29, 30, 32, 38, 39, 40, 41, 43, 47, 49, 51, 53, 54, 55]]
def rt_isR (ci j : Nat) : Bool := (rt_refL.getD ci []).contains j
abbrev rt_Z : Type := List (Nat × Nat × Nat × Nat) × List (Nat × rt_K × Nat × Option Nat) × List (Nat × Int32) × List (Nat × Int64) × List (Nat × Nat)
def rt_okf (own : String) (idx ci j t : Nat) : Prop := ∃ q : vw_C, vwCl[ci]? = some q ∧ j < q.2.2 ∧ Cond.fieldLink own idx (q.2.1 j).1 (q.2.1 j).2.1 (q.2.1 j).2.2.1 ∈ rt_tbl ∧ (t = 0 → parseFieldDescriptor (q.2.1 j).2.2.1 = some .int ∧ (q.2.1 j).2.2.2 = false ∧ rt_isR ci j = false) ∧ (t = 1 → parseFieldDescriptor (q.2.1 j).2.2.1 = some .boolean ∧ (q.2.1 j).2.2.2 = false ∧ rt_isR ci j = false) ∧ (t = 3 → parseFieldDescriptor (q.2.1 j).2.2.1 = some (.array .byte) ∧ (q.2.1 j).2.2.2 = false ∧ ci = 12 ∧ j = 15)
def rt_nat (k : Nat) : MethodName := match k with
  | 0 => arraycopyName
  | 1 => Lib.Math.max.name
  | 2 => Lib.Math.min.name
  | _ => Lib.Math.abs.name
def rt_okZ (own : String) (z : rt_Z) : Prop := (∀ e ∈ z.1, rt_okf own e.1 e.2.1 e.2.2.1 e.2.2.2) ∧ (∀ e ∈ z.2.1, Cond.methodLink own e.1 e.2.1.1 ∈ rt_tbl ∧ rt_okK e.2.1 e.2.2.1 e.2.2.2) ∧ (∀ e ∈ z.2.2.1, Cond.constant own e.1 e.2 ∈ rt_tbl) ∧ (∀ e ∈ z.2.2.2.1, Cond.constantLong own e.1 e.2 ∈ rt_tbl) ∧ (∀ e ∈ z.2.2.2.2, Cond.methodLink own e.1 (rt_nat e.2) ∈ rt_tbl)
theorem rt_mth : Cond.initialized "java/lang/Math" ∈ rt_tbl ∧ (Cond.static Lib.Math.max.name ∈ rt_tbl ∧ Cond.code Lib.Math.max.name Lib.Math.max.code 2 (some .int) ∈ rt_tbl) ∧ (Cond.static Lib.Math.min.name ∈ rt_tbl ∧ Cond.code Lib.Math.min.name Lib.Math.min.code 2 (some .int) ∈ rt_tbl) ∧ (Cond.static Lib.Math.abs.name ∈ rt_tbl ∧ Cond.code Lib.Math.abs.name Lib.Math.abs.code 1 (some .int) ∈ rt_tbl) := ⟨rt_at 93 (by decide +kernel) (by decide +kernel), ⟨rt_at 665 (by decide +kernel) (by decide +kernel), rt_at 666 (by decide +kernel) (by decide +kernel)⟩, ⟨rt_at 541 (by decide +kernel) (by decide +kernel), rt_at 542 (by decide +kernel) (by decide +kernel)⟩, ⟨rt_at 1102 (by decide +kernel) (by decide +kernel), rt_at 1103 (by decide +kernel) (by decide +kernel)⟩⟩
theorem rt_acs : Cond.native arraycopyName ∈ rt_tbl ∧ Cond.static arraycopyName ∈ rt_tbl ∧ Cond.initialized "java/lang/System" ∈ rt_tbl := ⟨rt_at 622 (by decide +kernel) (by decide +kernel), rt_at 621 (by decide +kernel) (by decide +kernel), rt_at 94 (by decide +kernel) (by decide +kernel)⟩
def zX0 : rt_Z := ([(28, 7, 1, 0), (44, 7, 2, 0), (67, 9, 0, 2), (77, 9, 1, 2), (11, 0, 0, 2), (15, 0, 1, 2), (18, 0, 2, 2), (21, 0, 3, 0), (25, 0, 4, 0)], [(33, kX0_readAct, 1, (some 0)), (41, kX7_peek, 0, (some 7)), (47, kX7_takeNumber, 1, (some 7)), (37, kX7_behindLine, 0, (some 7)), (51, kX0_runAct, 4, (some 0)), (55, kX9_setOut, 2, (some 9)), (61, kX9_goBy, 1, (some 9)), (64, kX9_turnRound, 1, (some 9)), (71, kX2_hasCart, 1, (some 2)), (83, kX4_of, 2, (some 4)), (86, kX9_putChain, 2, (some 9)), (89, kX9_putLoad, 2, (some 9))], [], [], [])
theorem zX0_f : ∀ e ∈ zX0.1, rt_okf RX0 e.1 e.2.1 e.2.2.1 e.2.2.2 := List.forall_mem_cons.mpr ⟨⟨_, rfl, Nat.le_of_ble_eq_true rfl, rt_at 119 (by decide +kernel) (by decide +kernel), fun _ => ⟨by decide +kernel, rfl, by decide +kernel⟩, fun h => absurd h (by decide), fun h => absurd h (by decide)⟩, List.forall_mem_cons.mpr ⟨⟨_, rfl, Nat.le_of_ble_eq_true rfl, rt_at 124 (by decide +kernel) (by decide +kernel), fun _ => ⟨by decide +kernel, rfl, by decide +kernel⟩, fun h => absurd h (by decide), fun h => absurd h (by decide)⟩, List.forall_mem_cons.mpr ⟨⟨_, rfl, Nat.le_of_ble_eq_true rfl, rt_at 290 (by decide +kernel) (by decide +kernel), fun h => absurd h (by decide), fun h => absurd h (by decide), fun h => absurd h (by decide)⟩, List.forall_mem_cons.mpr ⟨⟨_, rfl, Nat.le_of_ble_eq_true rfl, rt_at 292 (by decide +kernel) (by decide +kernel), fun h => absurd h (by decide), fun h => absurd h (by decide), fun h => absurd h (by decide)⟩, List.forall_mem_cons.mpr ⟨⟨_, rfl, Nat.le_of_ble_eq_true rfl, rt_at 373 (by decide +kernel) (by decide +kernel), fun h => absurd h (by decide), fun h => absurd h (by decide), fun h => absurd h (by decide)⟩, List.forall_mem_cons.mpr ⟨⟨_, rfl, Nat.le_of_ble_eq_true rfl, rt_at 374 (by decide +kernel) (by decide +kernel), fun h => absurd h (by decide), fun h => absurd h (by decide), fun h => absurd h (by decide)⟩, List.forall_mem_cons.mpr ⟨⟨_, rfl, Nat.le_of_ble_eq_true rfl, rt_at 375 (by decide +kernel) (by decide +kernel), fun h => absurd h (by decide), fun h => absurd h (by decide), fun h => absurd h (by decide)⟩, List.forall_mem_cons.mpr ⟨⟨_, rfl, Nat.le_of_ble_eq_true rfl, rt_at 376 (by decide +kernel) (by decide +kernel), fun _ => ⟨by decide +kernel, rfl, by decide +kernel⟩, fun h => absurd h (by decide), fun h => absurd h (by decide)⟩, List.forall_mem_cons.mpr ⟨⟨_, rfl, Nat.le_of_ble_eq_true rfl, rt_at 377 (by decide +kernel) (by decide +kernel), fun _ => ⟨by decide +kernel, rfl, by decide +kernel⟩, fun h => absurd h (by decide), fun h => absurd h (by decide)⟩, fun _ h => absurd h List.not_mem_nil⟩⟩⟩⟩⟩⟩⟩⟩⟩
theorem zX0_m : ∀ e ∈ zX0.2.1, Cond.methodLink RX0 e.1 e.2.1.1 ∈ rt_tbl ∧ rt_okK e.2.1 e.2.2.1 e.2.2.2 := List.forall_mem_cons.mpr ⟨⟨rt_at 867 (by decide +kernel) (by decide +kernel), okX0_readAct⟩, List.forall_mem_cons.mpr ⟨⟨rt_at 871 (by decide +kernel) (by decide +kernel), okX7_peek⟩, List.forall_mem_cons.mpr ⟨⟨rt_at 872 (by decide +kernel) (by decide +kernel), okX7_takeNumber⟩, List.forall_mem_cons.mpr ⟨⟨rt_at 873 (by decide +kernel) (by decide +kernel), okX7_behindLine⟩, List.forall_mem_cons.mpr ⟨⟨rt_at 878 (by decide +kernel) (by decide +kernel), okX0_runAct⟩, List.forall_mem_cons.mpr ⟨⟨rt_at 882 (by decide +kernel) (by decide +kernel), okX9_setOut⟩, List.forall_mem_cons.mpr ⟨⟨rt_at 883 (by decide +kernel) (by decide +kernel), okX9_goBy⟩, List.forall_mem_cons.mpr ⟨⟨rt_at 884 (by decide +kernel) (by decide +kernel), okX9_turnRound⟩, List.forall_mem_cons.mpr ⟨⟨rt_at 885 (by decide +kernel) (by decide +kernel), okX2_hasCart⟩, List.forall_mem_cons.mpr ⟨⟨rt_at 886 (by decide +kernel) (by decide +kernel), okX4_of⟩, List.forall_mem_cons.mpr ⟨⟨rt_at 887 (by decide +kernel) (by decide +kernel), okX9_putChain⟩, List.forall_mem_cons.mpr ⟨⟨rt_at 888 (by decide +kernel) (by decide +kernel), okX9_putLoad⟩, fun _ h => absurd h List.not_mem_nil⟩⟩⟩⟩⟩⟩⟩⟩⟩⟩⟩⟩
theorem zX0_c : ∀ e ∈ zX0.2.2.1, Cond.constant RX0 e.1 e.2 ∈ rt_tbl := fun _ h => absurd h List.not_mem_nil
theorem zX0_l : ∀ e ∈ zX0.2.2.2.1, Cond.constantLong RX0 e.1 e.2 ∈ rt_tbl := fun _ h => absurd h List.not_mem_nil
theorem zX0_a : ∀ e ∈ zX0.2.2.2.2, Cond.methodLink RX0 e.1 (rt_nat e.2) ∈ rt_tbl := fun _ h => absurd h List.not_mem_nil
theorem zX0_ok : rt_okZ RX0 zX0 := ⟨zX0_f, zX0_m, zX0_c, zX0_l, zX0_a⟩
def zX1 : rt_Z := ([(11, 1, 0, 2), (15, 1, 1, 2), (18, 1, 2, 2), (23, 1, 3, 2), (27, 1, 4, 0), (31, 1, 5, 0)], [(34, kX4_copyFrom, 1, (some 4))], [], [], [(38, 2)])
theorem zX1_f : ∀ e ∈ zX1.1, rt_okf RX1 e.1 e.2.1 e.2.2.1 e.2.2.2 := List.forall_mem_cons.mpr ⟨⟨_, rfl, Nat.le_of_ble_eq_true rfl, rt_at 345 (by decide +kernel) (by decide +kernel), fun h => absurd h (by decide), fun h => absurd h (by decide), fun h => absurd h (by decide)⟩, List.forall_mem_cons.mpr ⟨⟨_, rfl, Nat.le_of_ble_eq_true rfl, rt_at 346 (by decide +kernel) (by decide +kernel), fun h => absurd h (by decide), fun h => absurd h (by decide), fun h => absurd h (by decide)⟩, List.forall_mem_cons.mpr ⟨⟨_, rfl, Nat.le_of_ble_eq_true rfl, rt_at 347 (by decide +kernel) (by decide +kernel), fun h => absurd h (by decide), fun h => absurd h (by decide), fun h => absurd h (by decide)⟩, List.forall_mem_cons.mpr ⟨⟨_, rfl, Nat.le_of_ble_eq_true rfl, rt_at 348 (by decide +kernel) (by decide +kernel), fun h => absurd h (by decide), fun h => absurd h (by decide), fun h => absurd h (by decide)⟩, List.forall_mem_cons.mpr ⟨⟨_, rfl, Nat.le_of_ble_eq_true rfl, rt_at 350 (by decide +kernel) (by decide +kernel), fun _ => ⟨by decide +kernel, rfl, by decide +kernel⟩, fun h => absurd h (by decide), fun h => absurd h (by decide)⟩, List.forall_mem_cons.mpr ⟨⟨_, rfl, Nat.le_of_ble_eq_true rfl, rt_at 351 (by decide +kernel) (by decide +kernel), fun _ => ⟨by decide +kernel, rfl, by decide +kernel⟩, fun h => absurd h (by decide), fun h => absurd h (by decide)⟩, fun _ h => absurd h List.not_mem_nil⟩⟩⟩⟩⟩⟩
theorem zX1_m : ∀ e ∈ zX1.2.1, Cond.methodLink RX1 e.1 e.2.1.1 ∈ rt_tbl ∧ rt_okK e.2.1 e.2.2.1 e.2.2.2 := List.forall_mem_cons.mpr ⟨⟨rt_at 726 (by decide +kernel) (by decide +kernel), okX4_copyFrom⟩, fun _ h => absurd h List.not_mem_nil⟩
theorem zX1_c : ∀ e ∈ zX1.2.2.1, Cond.constant RX1 e.1 e.2 ∈ rt_tbl := fun _ h => absurd h List.not_mem_nil
theorem zX1_l : ∀ e ∈ zX1.2.2.2.1, Cond.constantLong RX1 e.1 e.2 ∈ rt_tbl := fun _ h => absurd h List.not_mem_nil
theorem zX1_a : ∀ e ∈ zX1.2.2.2.2, Cond.methodLink RX1 e.1 (rt_nat e.2) ∈ rt_tbl := List.forall_mem_cons.mpr ⟨rt_at 790 (by decide +kernel) (by decide +kernel), fun _ h => absurd h List.not_mem_nil⟩
theorem zX1_ok : rt_okZ RX1 zX1 := ⟨zX1_f, zX1_m, zX1_c, zX1_l, zX1_a⟩
def zX2 : rt_Z := ([(51, 7, 1, 0), (44, 4, 1, 0), (81, 4, 3, 2), (84, 4, 4, 2), (12, 2, 0, 2), (18, 2, 1, 0), (22, 2, 2, 0), (25, 2, 3, 2), (29, 2, 4, 2), (32, 2, 5, 2), (35, 2, 6, 0), (38, 2, 7, 0), (41, 2, 8, 0)], [(56, kX7_peek, 0, (some 7)), (60, kX2_readPlace, 1, (some 2)), (70, kX7_take, 1, (some 7)), (74, kX7_takeNumber, 1, (some 7)), (64, kX2_readRoad, 1, (some 2)), (78, kX7_takeLetter, 1, (some 7)), (67, kX7_behindLine, 0, (some 7)), (87, kX2_readCart, 1, (some 2)), (90, kX4_putAtPlace, 2, (some 4)), (94, kX4_put, 3, (some 4)), (98, kX2_entryOf, 2, none), (47, kX4_farEnd, 2, (some 4))], [], [], [(101, 2), (106, 1)])
theorem zX2_f : ∀ e ∈ zX2.1, rt_okf RX2 e.1 e.2.1 e.2.2.1 e.2.2.2 := List.forall_mem_cons.mpr ⟨⟨_, rfl, Nat.le_of_ble_eq_true rfl, rt_at 122 (by decide +kernel) (by decide +kernel), fun _ => ⟨by decide +kernel, rfl, by decide +kernel⟩, fun h => absurd h (by decide), fun h => absurd h (by decide)⟩, List.forall_mem_cons.mpr ⟨⟨_, rfl, Nat.le_of_ble_eq_true rfl, rt_at 213 (by decide +kernel) (by decide +kernel), fun _ => ⟨by decide +kernel, rfl, by decide +kernel⟩, fun h => absurd h (by decide), fun h => absurd h (by decide)⟩, List.forall_mem_cons.mpr ⟨⟨_, rfl, Nat.le_of_ble_eq_true rfl, rt_at 220 (by decide +kernel) (by decide +kernel), fun h => absurd h (by decide), fun h => absurd h (by decide), fun h => absurd h (by decide)⟩, List.forall_mem_cons.mpr ⟨⟨_, rfl, Nat.le_of_ble_eq_true rfl, rt_at 225 (by decide +kernel) (by decide +kernel), fun h => absurd h (by decide), fun h => absurd h (by decide), fun h => absurd h (by decide)⟩, List.forall_mem_cons.mpr ⟨⟨_, rfl, Nat.le_of_ble_eq_true rfl, rt_at 238 (by decide +kernel) (by decide +kernel), fun h => absurd h (by decide), fun h => absurd h (by decide), fun h => absurd h (by decide)⟩, List.forall_mem_cons.mpr ⟨⟨_, rfl, Nat.le_of_ble_eq_true rfl, rt_at 242 (by decide +kernel) (by decide +kernel), fun _ => ⟨by decide +kernel, rfl, by decide +kernel⟩, fun h => absurd h (by decide), fun h => absurd h (by decide)⟩, List.forall_mem_cons.mpr ⟨⟨_, rfl, Nat.le_of_ble_eq_true rfl, rt_at 246 (by decide +kernel) (by decide +kernel), fun _ => ⟨by decide +kernel, rfl, by decide +kernel⟩, fun h => absurd h (by decide), fun h => absurd h (by decide)⟩, List.forall_mem_cons.mpr ⟨⟨_, rfl, Nat.le_of_ble_eq_true rfl, rt_at 250 (by decide +kernel) (by decide +kernel), fun h => absurd h (by decide), fun h => absurd h (by decide), fun h => absurd h (by decide)⟩, List.forall_mem_cons.mpr ⟨⟨_, rfl, Nat.le_of_ble_eq_true rfl, rt_at 253 (by decide +kernel) (by decide +kernel), fun h => absurd h (by decide), fun h => absurd h (by decide), fun h => absurd h (by decide)⟩, List.forall_mem_cons.mpr ⟨⟨_, rfl, Nat.le_of_ble_eq_true rfl, rt_at 256 (by decide +kernel) (by decide +kernel), fun h => absurd h (by decide), fun h => absurd h (by decide), fun h => absurd h (by decide)⟩, List.forall_mem_cons.mpr ⟨⟨_, rfl, Nat.le_of_ble_eq_true rfl, rt_at 260 (by decide +kernel) (by decide +kernel), fun _ => ⟨by decide +kernel, rfl, by decide +kernel⟩, fun h => absurd h (by decide), fun h => absurd h (by decide)⟩, List.forall_mem_cons.mpr ⟨⟨_, rfl, Nat.le_of_ble_eq_true rfl, rt_at 261 (by decide +kernel) (by decide +kernel), fun _ => ⟨by decide +kernel, rfl, by decide +kernel⟩, fun h => absurd h (by decide), fun h => absurd h (by decide)⟩, List.forall_mem_cons.mpr ⟨⟨_, rfl, Nat.le_of_ble_eq_true rfl, rt_at 262 (by decide +kernel) (by decide +kernel), fun _ => ⟨by decide +kernel, rfl, by decide +kernel⟩, fun h => absurd h (by decide), fun h => absurd h (by decide)⟩, fun _ h => absurd h List.not_mem_nil⟩⟩⟩⟩⟩⟩⟩⟩⟩⟩⟩⟩⟩
theorem zX2_m : ∀ e ∈ zX2.2.1, Cond.methodLink RX2 e.1 e.2.1.1 ∈ rt_tbl ∧ rt_okK e.2.1 e.2.2.1 e.2.2.2 := List.forall_mem_cons.mpr ⟨⟨rt_at 547 (by decide +kernel) (by decide +kernel), okX7_peek⟩, List.forall_mem_cons.mpr ⟨⟨rt_at 551 (by decide +kernel) (by decide +kernel), okX2_readPlace⟩, List.forall_mem_cons.mpr ⟨⟨rt_at 555 (by decide +kernel) (by decide +kernel), okX7_take⟩, List.forall_mem_cons.mpr ⟨⟨rt_at 560 (by decide +kernel) (by decide +kernel), okX7_takeNumber⟩, List.forall_mem_cons.mpr ⟨⟨rt_at 568 (by decide +kernel) (by decide +kernel), okX2_readRoad⟩, List.forall_mem_cons.mpr ⟨⟨rt_at 572 (by decide +kernel) (by decide +kernel), okX7_takeLetter⟩, List.forall_mem_cons.mpr ⟨⟨rt_at 576 (by decide +kernel) (by decide +kernel), okX7_behindLine⟩, List.forall_mem_cons.mpr ⟨⟨rt_at 631 (by decide +kernel) (by decide +kernel), okX2_readCart⟩, List.forall_mem_cons.mpr ⟨⟨rt_at 635 (by decide +kernel) (by decide +kernel), okX4_putAtPlace⟩, List.forall_mem_cons.mpr ⟨⟨rt_at 643 (by decide +kernel) (by decide +kernel), okX4_put⟩, List.forall_mem_cons.mpr ⟨⟨rt_at 713 (by decide +kernel) (by decide +kernel), okX2_entryOf⟩, List.forall_mem_cons.mpr ⟨⟨rt_at 1243 (by decide +kernel) (by decide +kernel), okX4_farEnd⟩, fun _ h => absurd h List.not_mem_nil⟩⟩⟩⟩⟩⟩⟩⟩⟩⟩⟩⟩
theorem zX2_c : ∀ e ∈ zX2.2.2.1, Cond.constant RX2 e.1 e.2 ∈ rt_tbl := fun _ h => absurd h List.not_mem_nil
theorem zX2_l : ∀ e ∈ zX2.2.2.2.1, Cond.constantLong RX2 e.1 e.2 ∈ rt_tbl := fun _ h => absurd h List.not_mem_nil
theorem zX2_a : ∀ e ∈ zX2.2.2.2.2, Cond.methodLink RX2 e.1 (rt_nat e.2) ∈ rt_tbl := List.forall_mem_cons.mpr ⟨rt_at 716 (by decide +kernel) (by decide +kernel), List.forall_mem_cons.mpr ⟨rt_at 717 (by decide +kernel) (by decide +kernel), fun _ h => absurd h List.not_mem_nil⟩⟩
theorem zX2_ok : rt_okZ RX2 zX2 := ⟨zX2_f, zX2_m, zX2_c, zX2_l, zX2_a⟩
def zX3 : rt_Z := ([(9, 3, 0, 2), (13, 3, 1, 2), (16, 3, 2, 0), (20, 3, 3, 2), (24, 3, 4, 0), (27, 3, 5, 0), (30, 3, 6, 0)], [(33, kX3_isTime, 1, none), (37, kJ7_fill_d0a16, 2, none), (43, kX3_suits, 4, (some 3)), (47, kX8_ofRound, 4, none)], [], [], [(53, 3)])
theorem zX3_f : ∀ e ∈ zX3.1, rt_okf RX3 e.1 e.2.1 e.2.2.1 e.2.2.2 := List.forall_mem_cons.mpr ⟨⟨_, rfl, Nat.le_of_ble_eq_true rfl, rt_at 442 (by decide +kernel) (by decide +kernel), fun h => absurd h (by decide), fun h => absurd h (by decide), fun h => absurd h (by decide)⟩, List.forall_mem_cons.mpr ⟨⟨_, rfl, Nat.le_of_ble_eq_true rfl, rt_at 443 (by decide +kernel) (by decide +kernel), fun h => absurd h (by decide), fun h => absurd h (by decide), fun h => absurd h (by decide)⟩, List.forall_mem_cons.mpr ⟨⟨_, rfl, Nat.le_of_ble_eq_true rfl, rt_at 444 (by decide +kernel) (by decide +kernel), fun _ => ⟨by decide +kernel, rfl, by decide +kernel⟩, fun h => absurd h (by decide), fun h => absurd h (by decide)⟩, List.forall_mem_cons.mpr ⟨⟨_, rfl, Nat.le_of_ble_eq_true rfl, rt_at 446 (by decide +kernel) (by decide +kernel), fun h => absurd h (by decide), fun h => absurd h (by decide), fun h => absurd h (by decide)⟩, List.forall_mem_cons.mpr ⟨⟨_, rfl, Nat.le_of_ble_eq_true rfl, rt_at 448 (by decide +kernel) (by decide +kernel), fun _ => ⟨by decide +kernel, rfl, by decide +kernel⟩, fun h => absurd h (by decide), fun h => absurd h (by decide)⟩, List.forall_mem_cons.mpr ⟨⟨_, rfl, Nat.le_of_ble_eq_true rfl, rt_at 450 (by decide +kernel) (by decide +kernel), fun _ => ⟨by decide +kernel, rfl, by decide +kernel⟩, fun h => absurd h (by decide), fun h => absurd h (by decide)⟩, List.forall_mem_cons.mpr ⟨⟨_, rfl, Nat.le_of_ble_eq_true rfl, rt_at 452 (by decide +kernel) (by decide +kernel), fun _ => ⟨by decide +kernel, rfl, by decide +kernel⟩, fun h => absurd h (by decide), fun h => absurd h (by decide)⟩, fun _ h => absurd h List.not_mem_nil⟩⟩⟩⟩⟩⟩⟩
theorem zX3_m : ∀ e ∈ zX3.2.1, Cond.methodLink RX3 e.1 e.2.1.1 ∈ rt_tbl ∧ rt_okK e.2.1 e.2.2.1 e.2.2.2 := List.forall_mem_cons.mpr ⟨⟨rt_at 1075 (by decide +kernel) (by decide +kernel), okX3_isTime⟩, List.forall_mem_cons.mpr ⟨⟨rt_at 1093 (by decide +kernel) (by decide +kernel), okJ7_fill_d0a16⟩, List.forall_mem_cons.mpr ⟨⟨rt_at 1096 (by decide +kernel) (by decide +kernel), okX3_suits⟩, List.forall_mem_cons.mpr ⟨⟨rt_at 1100 (by decide +kernel) (by decide +kernel), okX8_ofRound⟩, fun _ h => absurd h List.not_mem_nil⟩⟩⟩⟩
theorem zX3_c : ∀ e ∈ zX3.2.2.1, Cond.constant RX3 e.1 e.2 ∈ rt_tbl := fun _ h => absurd h List.not_mem_nil
theorem zX3_l : ∀ e ∈ zX3.2.2.2.1, Cond.constantLong RX3 e.1 e.2 ∈ rt_tbl := fun _ h => absurd h List.not_mem_nil
theorem zX3_a : ∀ e ∈ zX3.2.2.2.2, Cond.methodLink RX3 e.1 (rt_nat e.2) ∈ rt_tbl := List.forall_mem_cons.mpr ⟨rt_at 1101 (by decide +kernel) (by decide +kernel), fun _ h => absurd h List.not_mem_nil⟩
theorem zX3_ok : rt_okZ RX3 zX3 := ⟨zX3_f, zX3_m, zX3_c, zX3_l, zX3_a⟩
def zX4 : rt_Z := ([(9, 4, 0, 0), (15, 4, 1, 0), (18, 4, 2, 2), (22, 4, 3, 2), (25, 4, 4, 2)], [(34, kX4_put, 3, (some 4)), (38, kX4_of, 2, (some 4))], [], [], [(28, 0)])
theorem zX4_f : ∀ e ∈ zX4.1, rt_okf RX4 e.1 e.2.1 e.2.2.1 e.2.2.2 := List.forall_mem_cons.mpr ⟨⟨_, rfl, Nat.le_of_ble_eq_true rfl, rt_at 208 (by decide +kernel) (by decide +kernel), fun _ => ⟨by decide +kernel, rfl, by decide +kernel⟩, fun h => absurd h (by decide), fun h => absurd h (by decide)⟩, List.forall_mem_cons.mpr ⟨⟨_, rfl, Nat.le_of_ble_eq_true rfl, rt_at 212 (by decide +kernel) (by decide +kernel), fun _ => ⟨by decide +kernel, rfl, by decide +kernel⟩, fun h => absurd h (by decide), fun h => absurd h (by decide)⟩, List.forall_mem_cons.mpr ⟨⟨_, rfl, Nat.le_of_ble_eq_true rfl, rt_at 216 (by decide +kernel) (by decide +kernel), fun h => absurd h (by decide), fun h => absurd h (by decide), fun h => absurd h (by decide)⟩, List.forall_mem_cons.mpr ⟨⟨_, rfl, Nat.le_of_ble_eq_true rfl, rt_at 217 (by decide +kernel) (by decide +kernel), fun h => absurd h (by decide), fun h => absurd h (by decide), fun h => absurd h (by decide)⟩, List.forall_mem_cons.mpr ⟨⟨_, rfl, Nat.le_of_ble_eq_true rfl, rt_at 222 (by decide +kernel) (by decide +kernel), fun h => absurd h (by decide), fun h => absurd h (by decide), fun h => absurd h (by decide)⟩, fun _ h => absurd h List.not_mem_nil⟩⟩⟩⟩⟩
theorem zX4_m : ∀ e ∈ zX4.2.1, Cond.methodLink RX4 e.1 e.2.1.1 ∈ rt_tbl ∧ rt_okK e.2.1 e.2.2.1 e.2.2.2 := List.forall_mem_cons.mpr ⟨⟨rt_at 639 (by decide +kernel) (by decide +kernel), okX4_put⟩, List.forall_mem_cons.mpr ⟨⟨rt_at 833 (by decide +kernel) (by decide +kernel), okX4_of⟩, fun _ h => absurd h List.not_mem_nil⟩⟩
theorem zX4_c : ∀ e ∈ zX4.2.2.1, Cond.constant RX4 e.1 e.2 ∈ rt_tbl := fun _ h => absurd h List.not_mem_nil
theorem zX4_l : ∀ e ∈ zX4.2.2.2.1, Cond.constantLong RX4 e.1 e.2 ∈ rt_tbl := fun _ h => absurd h List.not_mem_nil
theorem zX4_a : ∀ e ∈ zX4.2.2.2.2, Cond.methodLink RX4 e.1 (rt_nat e.2) ∈ rt_tbl := List.forall_mem_cons.mpr ⟨rt_at 730 (by decide +kernel) (by decide +kernel), fun _ h => absurd h List.not_mem_nil⟩
theorem zX4_ok : rt_okZ RX4 zX4 := ⟨zX4_f, zX4_m, zX4_c, zX4_l, zX4_a⟩
def zX5 : rt_Z := ([(7, 5, 0, 2), (13, 5, 1, 0)], [], [], [], [])
theorem zX5_f : ∀ e ∈ zX5.1, rt_okf RX5 e.1 e.2.1 e.2.2.1 e.2.2.2 := List.forall_mem_cons.mpr ⟨⟨_, rfl, Nat.le_of_ble_eq_true rfl, rt_at 476 (by decide +kernel) (by decide +kernel), fun h => absurd h (by decide), fun h => absurd h (by decide), fun h => absurd h (by decide)⟩, List.forall_mem_cons.mpr ⟨⟨_, rfl, Nat.le_of_ble_eq_true rfl, rt_at 478 (by decide +kernel) (by decide +kernel), fun _ => ⟨by decide +kernel, rfl, by decide +kernel⟩, fun h => absurd h (by decide), fun h => absurd h (by decide)⟩, fun _ h => absurd h List.not_mem_nil⟩⟩
theorem zX5_m : ∀ e ∈ zX5.2.1, Cond.methodLink RX5 e.1 e.2.1.1 ∈ rt_tbl ∧ rt_okK e.2.1 e.2.2.1 e.2.2.2 := fun _ h => absurd h List.not_mem_nil
theorem zX5_c : ∀ e ∈ zX5.2.2.1, Cond.constant RX5 e.1 e.2 ∈ rt_tbl := fun _ h => absurd h List.not_mem_nil
theorem zX5_l : ∀ e ∈ zX5.2.2.2.1, Cond.constantLong RX5 e.1 e.2 ∈ rt_tbl := fun _ h => absurd h List.not_mem_nil
theorem zX5_a : ∀ e ∈ zX5.2.2.2.2, Cond.methodLink RX5 e.1 (rt_nat e.2) ∈ rt_tbl := fun _ h => absurd h List.not_mem_nil
theorem zX5_ok : rt_okZ RX5 zX5 := ⟨zX5_f, zX5_m, zX5_c, zX5_l, zX5_a⟩
def zX6 : rt_Z := ([(43, 7, 1, 0), (86, 7, 2, 0), (11, 6, 0, 2), (15, 6, 1, 0), (19, 6, 2, 2), (22, 6, 3, 0), (25, 6, 4, 2), (28, 6, 5, 0), (31, 6, 6, 2), (34, 6, 7, 2), (37, 6, 8, 0), (40, 6, 9, 0)], [(48, kX7_peek, 0, (some 7)), (52, kX6_popTo, 1, (some 6)), (89, kX6_rankOf, 1, none), (80, kX6_put, 1, (some 6)), (56, kX6_readAhead, 1, (some 6)), (69, kX7_take, 1, (some 7)), (73, kX6_push, 1, (some 6)), (60, kX6_readThing, 1, (some 6)), (76, kX7_takeNumber, 1, (some 7)), (83, kX6_letterOf, 1, none), (63, kX6_readClose, 1, (some 6)), (66, kX6_readOperator, 1, (some 6)), (104, kX6_reckon, 0, (some 6)), (110, kX6_valueOf, 1, (some 6)), (113, kX6_join, 3, none)], [], [], [(92, 1), (98, 0), (107, 2)])
theorem zX6_f : ∀ e ∈ zX6.1, rt_okf RX6 e.1 e.2.1 e.2.2.1 e.2.2.2 := List.forall_mem_cons.mpr ⟨⟨_, rfl, Nat.le_of_ble_eq_true rfl, rt_at 121 (by decide +kernel) (by decide +kernel), fun _ => ⟨by decide +kernel, rfl, by decide +kernel⟩, fun h => absurd h (by decide), fun h => absurd h (by decide)⟩, List.forall_mem_cons.mpr ⟨⟨_, rfl, Nat.le_of_ble_eq_true rfl, rt_at 125 (by decide +kernel) (by decide +kernel), fun _ => ⟨by decide +kernel, rfl, by decide +kernel⟩, fun h => absurd h (by decide), fun h => absurd h (by decide)⟩, List.forall_mem_cons.mpr ⟨⟨_, rfl, Nat.le_of_ble_eq_true rfl, rt_at 165 (by decide +kernel) (by decide +kernel), fun h => absurd h (by decide), fun h => absurd h (by decide), fun h => absurd h (by decide)⟩, List.forall_mem_cons.mpr ⟨⟨_, rfl, Nat.le_of_ble_eq_true rfl, rt_at 166 (by decide +kernel) (by decide +kernel), fun _ => ⟨by decide +kernel, rfl, by decide +kernel⟩, fun h => absurd h (by decide), fun h => absurd h (by decide)⟩, List.forall_mem_cons.mpr ⟨⟨_, rfl, Nat.le_of_ble_eq_true rfl, rt_at 167 (by decide +kernel) (by decide +kernel), fun h => absurd h (by decide), fun h => absurd h (by decide), fun h => absurd h (by decide)⟩, List.forall_mem_cons.mpr ⟨⟨_, rfl, Nat.le_of_ble_eq_true rfl, rt_at 168 (by decide +kernel) (by decide +kernel), fun _ => ⟨by decide +kernel, rfl, by decide +kernel⟩, fun h => absurd h (by decide), fun h => absurd h (by decide)⟩, List.forall_mem_cons.mpr ⟨⟨_, rfl, Nat.le_of_ble_eq_true rfl, rt_at 169 (by decide +kernel) (by decide +kernel), fun h => absurd h (by decide), fun h => absurd h (by decide), fun h => absurd h (by decide)⟩, List.forall_mem_cons.mpr ⟨⟨_, rfl, Nat.le_of_ble_eq_true rfl, rt_at 170 (by decide +kernel) (by decide +kernel), fun _ => ⟨by decide +kernel, rfl, by decide +kernel⟩, fun h => absurd h (by decide), fun h => absurd h (by decide)⟩, List.forall_mem_cons.mpr ⟨⟨_, rfl, Nat.le_of_ble_eq_true rfl, rt_at 171 (by decide +kernel) (by decide +kernel), fun h => absurd h (by decide), fun h => absurd h (by decide), fun h => absurd h (by decide)⟩, List.forall_mem_cons.mpr ⟨⟨_, rfl, Nat.le_of_ble_eq_true rfl, rt_at 172 (by decide +kernel) (by decide +kernel), fun h => absurd h (by decide), fun h => absurd h (by decide), fun h => absurd h (by decide)⟩, List.forall_mem_cons.mpr ⟨⟨_, rfl, Nat.le_of_ble_eq_true rfl, rt_at 173 (by decide +kernel) (by decide +kernel), fun _ => ⟨by decide +kernel, rfl, by decide +kernel⟩, fun h => absurd h (by decide), fun h => absurd h (by decide)⟩, List.forall_mem_cons.mpr ⟨⟨_, rfl, Nat.le_of_ble_eq_true rfl, rt_at 174 (by decide +kernel) (by decide +kernel), fun _ => ⟨by decide +kernel, rfl, by decide +kernel⟩, fun h => absurd h (by decide), fun h => absurd h (by decide)⟩, fun _ h => absurd h List.not_mem_nil⟩⟩⟩⟩⟩⟩⟩⟩⟩⟩⟩⟩
theorem zX6_m : ∀ e ∈ zX6.2.1, Cond.methodLink RX6 e.1 e.2.1.1 ∈ rt_tbl ∧ rt_okK e.2.1 e.2.2.1 e.2.2.2 := List.forall_mem_cons.mpr ⟨⟨rt_at 656 (by decide +kernel) (by decide +kernel), okX7_peek⟩, List.forall_mem_cons.mpr ⟨⟨rt_at 657 (by decide +kernel) (by decide +kernel), okX6_popTo⟩, List.forall_mem_cons.mpr ⟨⟨rt_at 661 (by decide +kernel) (by decide +kernel), okX6_rankOf⟩, List.forall_mem_cons.mpr ⟨⟨rt_at 667 (by decide +kernel) (by decide +kernel), okX6_put⟩, List.forall_mem_cons.mpr ⟨⟨rt_at 671 (by decide +kernel) (by decide +kernel), okX6_readAhead⟩, List.forall_mem_cons.mpr ⟨⟨rt_at 675 (by decide +kernel) (by decide +kernel), okX7_take⟩, List.forall_mem_cons.mpr ⟨⟨rt_at 676 (by decide +kernel) (by decide +kernel), okX6_push⟩, List.forall_mem_cons.mpr ⟨⟨rt_at 680 (by decide +kernel) (by decide +kernel), okX6_readThing⟩, List.forall_mem_cons.mpr ⟨⟨rt_at 684 (by decide +kernel) (by decide +kernel), okX7_takeNumber⟩, List.forall_mem_cons.mpr ⟨⟨rt_at 685 (by decide +kernel) (by decide +kernel), okX6_letterOf⟩, List.forall_mem_cons.mpr ⟨⟨rt_at 688 (by decide +kernel) (by decide +kernel), okX6_readClose⟩, List.forall_mem_cons.mpr ⟨⟨rt_at 692 (by decide +kernel) (by decide +kernel), okX6_readOperator⟩, List.forall_mem_cons.mpr ⟨⟨rt_at 770 (by decide +kernel) (by decide +kernel), okX6_reckon⟩, List.forall_mem_cons.mpr ⟨⟨rt_at 774 (by decide +kernel) (by decide +kernel), okX6_valueOf⟩, List.forall_mem_cons.mpr ⟨⟨rt_at 778 (by decide +kernel) (by decide +kernel), okX6_join⟩, fun _ h => absurd h List.not_mem_nil⟩⟩⟩⟩⟩⟩⟩⟩⟩⟩⟩⟩⟩⟩⟩
theorem zX6_c : ∀ e ∈ zX6.2.2.1, Cond.constant RX6 e.1 e.2 ∈ rt_tbl := fun _ h => absurd h List.not_mem_nil
theorem zX6_l : ∀ e ∈ zX6.2.2.2.1, Cond.constantLong RX6 e.1 e.2 ∈ rt_tbl := fun _ h => absurd h List.not_mem_nil
theorem zX6_a : ∀ e ∈ zX6.2.2.2.2, Cond.methodLink RX6 e.1 (rt_nat e.2) ∈ rt_tbl := List.forall_mem_cons.mpr ⟨rt_at 664 (by decide +kernel) (by decide +kernel), List.forall_mem_cons.mpr ⟨rt_at 700 (by decide +kernel) (by decide +kernel), List.forall_mem_cons.mpr ⟨rt_at 781 (by decide +kernel) (by decide +kernel), fun _ h => absurd h List.not_mem_nil⟩⟩⟩
theorem zX6_ok : rt_okZ RX6 zX6 := ⟨zX6_f, zX6_m, zX6_c, zX6_l, zX6_a⟩
def zX7 : rt_Z := ([(11, 7, 0, 2), (15, 7, 1, 0), (19, 7, 2, 0), (22, 7, 3, 0)], [(31, kX7_peek, 0, (some 7)), (35, kX7_isDigit, 0, (some 7)), (39, kX7_take, 1, (some 7))], [], [], [(25, 2)])
theorem zX7_f : ∀ e ∈ zX7.1, rt_okf RX7 e.1 e.2.1 e.2.2.1 e.2.2.2 := List.forall_mem_cons.mpr ⟨⟨_, rfl, Nat.le_of_ble_eq_true rfl, rt_at 117 (by decide +kernel) (by decide +kernel), fun h => absurd h (by decide), fun h => absurd h (by decide), fun h => absurd h (by decide)⟩, List.forall_mem_cons.mpr ⟨⟨_, rfl, Nat.le_of_ble_eq_true rfl, rt_at 118 (by decide +kernel) (by decide +kernel), fun _ => ⟨by decide +kernel, rfl, by decide +kernel⟩, fun h => absurd h (by decide), fun h => absurd h (by decide)⟩, List.forall_mem_cons.mpr ⟨⟨_, rfl, Nat.le_of_ble_eq_true rfl, rt_at 123 (by decide +kernel) (by decide +kernel), fun _ => ⟨by decide +kernel, rfl, by decide +kernel⟩, fun h => absurd h (by decide), fun h => absurd h (by decide)⟩, List.forall_mem_cons.mpr ⟨⟨_, rfl, Nat.le_of_ble_eq_true rfl, rt_at 128 (by decide +kernel) (by decide +kernel), fun _ => ⟨by decide +kernel, rfl, by decide +kernel⟩, fun h => absurd h (by decide), fun h => absurd h (by decide)⟩, fun _ h => absurd h List.not_mem_nil⟩⟩⟩⟩
theorem zX7_m : ∀ e ∈ zX7.2.1, Cond.methodLink RX7 e.1 e.2.1.1 ∈ rt_tbl ∧ rt_okK e.2.1 e.2.2.1 e.2.2.2 := List.forall_mem_cons.mpr ⟨⟨rt_at 559 (by decide +kernel) (by decide +kernel), okX7_peek⟩, List.forall_mem_cons.mpr ⟨⟨rt_at 564 (by decide +kernel) (by decide +kernel), okX7_isDigit⟩, List.forall_mem_cons.mpr ⟨⟨rt_at 580 (by decide +kernel) (by decide +kernel), okX7_take⟩, fun _ h => absurd h List.not_mem_nil⟩⟩⟩
theorem zX7_c : ∀ e ∈ zX7.2.2.1, Cond.constant RX7 e.1 e.2 ∈ rt_tbl := fun _ h => absurd h List.not_mem_nil
theorem zX7_l : ∀ e ∈ zX7.2.2.2.1, Cond.constantLong RX7 e.1 e.2 ∈ rt_tbl := fun _ h => absurd h List.not_mem_nil
theorem zX7_a : ∀ e ∈ zX7.2.2.2.2, Cond.methodLink RX7 e.1 (rt_nat e.2) ∈ rt_tbl := List.forall_mem_cons.mpr ⟨rt_at 540 (by decide +kernel) (by decide +kernel), fun _ h => absurd h List.not_mem_nil⟩
theorem zX7_ok : rt_okZ RX7 zX7 := ⟨zX7_f, zX7_m, zX7_c, zX7_l, zX7_a⟩
def zX8 : rt_Z := ([(51, 7, 2, 0), (11, 8, 0, 2), (15, 8, 1, 2), (18, 8, 2, 0), (22, 8, 3, 0)], [(29, kX8_readRound, 2, (some 8)), (43, kX8_readPart, 4, (some 8)), (47, kX7_takeNumber, 1, (some 7)), (39, kX7_take, 1, (some 7)), (33, kX7_peek, 0, (some 7)), (25, kX8_ofRound, 4, none)], [], [], [(54, 0)])
theorem zX8_f : ∀ e ∈ zX8.1, rt_okf RX8 e.1 e.2.1 e.2.2.1 e.2.2.2 := List.forall_mem_cons.mpr ⟨⟨_, rfl, Nat.le_of_ble_eq_true rfl, rt_at 127 (by decide +kernel) (by decide +kernel), fun _ => ⟨by decide +kernel, rfl, by decide +kernel⟩, fun h => absurd h (by decide), fun h => absurd h (by decide)⟩, List.forall_mem_cons.mpr ⟨⟨_, rfl, Nat.le_of_ble_eq_true rfl, rt_at 145 (by decide +kernel) (by decide +kernel), fun h => absurd h (by decide), fun h => absurd h (by decide), fun h => absurd h (by decide)⟩, List.forall_mem_cons.mpr ⟨⟨_, rfl, Nat.le_of_ble_eq_true rfl, rt_at 146 (by decide +kernel) (by decide +kernel), fun h => absurd h (by decide), fun h => absurd h (by decide), fun h => absurd h (by decide)⟩, List.forall_mem_cons.mpr ⟨⟨_, rfl, Nat.le_of_ble_eq_true rfl, rt_at 147 (by decide +kernel) (by decide +kernel), fun _ => ⟨by decide +kernel, rfl, by decide +kernel⟩, fun h => absurd h (by decide), fun h => absurd h (by decide)⟩, List.forall_mem_cons.mpr ⟨⟨_, rfl, Nat.le_of_ble_eq_true rfl, rt_at 149 (by decide +kernel) (by decide +kernel), fun _ => ⟨by decide +kernel, rfl, by decide +kernel⟩, fun h => absurd h (by decide), fun h => absurd h (by decide)⟩, fun _ h => absurd h List.not_mem_nil⟩⟩⟩⟩⟩
theorem zX8_m : ∀ e ∈ zX8.2.1, Cond.methodLink RX8 e.1 e.2.1.1 ∈ rt_tbl ∧ rt_okK e.2.1 e.2.2.1 e.2.2.2 := List.forall_mem_cons.mpr ⟨⟨rt_at 605 (by decide +kernel) (by decide +kernel), okX8_readRound⟩, List.forall_mem_cons.mpr ⟨⟨rt_at 609 (by decide +kernel) (by decide +kernel), okX8_readPart⟩, List.forall_mem_cons.mpr ⟨⟨rt_at 613 (by decide +kernel) (by decide +kernel), okX7_takeNumber⟩, List.forall_mem_cons.mpr ⟨⟨rt_at 614 (by decide +kernel) (by decide +kernel), okX7_take⟩, List.forall_mem_cons.mpr ⟨⟨rt_at 615 (by decide +kernel) (by decide +kernel), okX7_peek⟩, List.forall_mem_cons.mpr ⟨⟨rt_at 759 (by decide +kernel) (by decide +kernel), okX8_ofRound⟩, fun _ h => absurd h List.not_mem_nil⟩⟩⟩⟩⟩⟩
theorem zX8_c : ∀ e ∈ zX8.2.2.1, Cond.constant RX8 e.1 e.2 ∈ rt_tbl := fun _ h => absurd h List.not_mem_nil
theorem zX8_l : ∀ e ∈ zX8.2.2.2.1, Cond.constantLong RX8 e.1 e.2 ∈ rt_tbl := fun _ h => absurd h List.not_mem_nil
theorem zX8_a : ∀ e ∈ zX8.2.2.2.2, Cond.methodLink RX8 e.1 (rt_nat e.2) ∈ rt_tbl := List.forall_mem_cons.mpr ⟨rt_at 620 (by decide +kernel) (by decide +kernel), fun _ h => absurd h List.not_mem_nil⟩
theorem zX8_ok : rt_okZ RX8 zX8 := ⟨zX8_f, zX8_m, zX8_c, zX8_l, zX8_a⟩
def zX9 : rt_Z := ([(100, 4, 0, 0), (132, 4, 1, 0), (126, 4, 3, 2), (129, 4, 4, 2), (40, 2, 0, 2), (150, 2, 1, 0), (65, 2, 2, 0), (72, 2, 3, 2), (75, 2, 4, 2), (61, 2, 5, 2), (36, 9, 0, 2), (46, 9, 1, 2), (47, 9, 2, 2), (51, 9, 3, 2), (9, 9, 4, 0), (15, 9, 5, 0), (18, 9, 6, 0), (21, 9, 7, 0), (24, 9, 8, 0), (27, 9, 9, 0), (30, 9, 10, 0), (33, 9, 11, 0)], [(84, kX2_hasCart, 1, (some 2)), (88, kX2_hasRoad, 1, (some 2)), (93, kX4_of, 2, (some 4)), (97, kX4_farEnd, 2, (some 4)), (68, kX9_isThere, 2, (some 9)), (55, kX8_heightAt, 1, (some 8)), (103, kX9_turnsBy, 4, (some 9)), (78, kX6_turnsOf, 6, (some 6)), (107, kX4_putOnRoad, 4, (some 4)), (116, kX4_put, 3, (some 4)), (120, kX2_hasPlace, 1, (some 2)), (123, kX4_cartsWith, 2, (some 4)), (135, kX9_goOn, 2, (some 9)), (138, kX4_putAtPlace, 2, (some 4)), (142, kX9_travels, 5, (some 9)), (147, kX9_draw, 1, (some 9)), (153, kX9_throwRoad, 3, (some 9)), (157, kX9_goBy, 1, (some 9)), (160, kJ6_bitCount_0f7a4, 1, none)], [(146, 1103515245)], [], [(111, 1)])
theorem zX9_f : ∀ e ∈ zX9.1, rt_okf RX9 e.1 e.2.1 e.2.2.1 e.2.2.2 := List.forall_mem_cons.mpr ⟨⟨_, rfl, Nat.le_of_ble_eq_true rfl, rt_at 210 (by decide +kernel) (by decide +kernel), fun _ => ⟨by decide +kernel, rfl, by decide +kernel⟩, fun h => absurd h (by decide), fun h => absurd h (by decide)⟩, List.forall_mem_cons.mpr ⟨⟨_, rfl, Nat.le_of_ble_eq_true rfl, rt_at 214 (by decide +kernel) (by decide +kernel), fun _ => ⟨by decide +kernel, rfl, by decide +kernel⟩, fun h => absurd h (by decide), fun h => absurd h (by decide)⟩, List.forall_mem_cons.mpr ⟨⟨_, rfl, Nat.le_of_ble_eq_true rfl, rt_at 221 (by decide +kernel) (by decide +kernel), fun h => absurd h (by decide), fun h => absurd h (by decide), fun h => absurd h (by decide)⟩, List.forall_mem_cons.mpr ⟨⟨_, rfl, Nat.le_of_ble_eq_true rfl, rt_at 226 (by decide +kernel) (by decide +kernel), fun h => absurd h (by decide), fun h => absurd h (by decide), fun h => absurd h (by decide)⟩, List.forall_mem_cons.mpr ⟨⟨_, rfl, Nat.le_of_ble_eq_true rfl, rt_at 239 (by decide +kernel) (by decide +kernel), fun h => absurd h (by decide), fun h => absurd h (by decide), fun h => absurd h (by decide)⟩, List.forall_mem_cons.mpr ⟨⟨_, rfl, Nat.le_of_ble_eq_true rfl, rt_at 244 (by decide +kernel) (by decide +kernel), fun _ => ⟨by decide +kernel, rfl, by decide +kernel⟩, fun h => absurd h (by decide), fun h => absurd h (by decide)⟩, List.forall_mem_cons.mpr ⟨⟨_, rfl, Nat.le_of_ble_eq_true rfl, rt_at 248 (by decide +kernel) (by decide +kernel), fun _ => ⟨by decide +kernel, rfl, by decide +kernel⟩, fun h => absurd h (by decide), fun h => absurd h (by decide)⟩, List.forall_mem_cons.mpr ⟨⟨_, rfl, Nat.le_of_ble_eq_true rfl, rt_at 251 (by decide +kernel) (by decide +kernel), fun h => absurd h (by decide), fun h => absurd h (by decide), fun h => absurd h (by decide)⟩, List.forall_mem_cons.mpr ⟨⟨_, rfl, Nat.le_of_ble_eq_true rfl, rt_at 254 (by decide +kernel) (by decide +kernel), fun h => absurd h (by decide), fun h => absurd h (by decide), fun h => absurd h (by decide)⟩, List.forall_mem_cons.mpr ⟨⟨_, rfl, Nat.le_of_ble_eq_true rfl, rt_at 257 (by decide +kernel) (by decide +kernel), fun h => absurd h (by decide), fun h => absurd h (by decide), fun h => absurd h (by decide)⟩, List.forall_mem_cons.mpr ⟨⟨_, rfl, Nat.le_of_ble_eq_true rfl, rt_at 288 (by decide +kernel) (by decide +kernel), fun h => absurd h (by decide), fun h => absurd h (by decide), fun h => absurd h (by decide)⟩, List.forall_mem_cons.mpr ⟨⟨_, rfl, Nat.le_of_ble_eq_true rfl, rt_at 291 (by decide +kernel) (by decide +kernel), fun h => absurd h (by decide), fun h => absurd h (by decide), fun h => absurd h (by decide)⟩, List.forall_mem_cons.mpr ⟨⟨_, rfl, Nat.le_of_ble_eq_true rfl, rt_at 293 (by decide +kernel) (by decide +kernel), fun h => absurd h (by decide), fun h => absurd h (by decide), fun h => absurd h (by decide)⟩, List.forall_mem_cons.mpr ⟨⟨_, rfl, Nat.le_of_ble_eq_true rfl, rt_at 295 (by decide +kernel) (by decide +kernel), fun h => absurd h (by decide), fun h => absurd h (by decide), fun h => absurd h (by decide)⟩, List.forall_mem_cons.mpr ⟨⟨_, rfl, Nat.le_of_ble_eq_true rfl, rt_at 296 (by decide +kernel) (by decide +kernel), fun _ => ⟨by decide +kernel, rfl, by decide +kernel⟩, fun h => absurd h (by decide), fun h => absurd h (by decide)⟩, List.forall_mem_cons.mpr ⟨⟨_, rfl, Nat.le_of_ble_eq_true rfl, rt_at 298 (by decide +kernel) (by decide +kernel), fun _ => ⟨by decide +kernel, rfl, by decide +kernel⟩, fun h => absurd h (by decide), fun h => absurd h (by decide)⟩, List.forall_mem_cons.mpr ⟨⟨_, rfl, Nat.le_of_ble_eq_true rfl, rt_at 300 (by decide +kernel) (by decide +kernel), fun _ => ⟨by decide +kernel, rfl, by decide +kernel⟩, fun h => absurd h (by decide), fun h => absurd h (by decide)⟩, List.forall_mem_cons.mpr ⟨⟨_, rfl, Nat.le_of_ble_eq_true rfl, rt_at 302 (by decide +kernel) (by decide +kernel), fun _ => ⟨by decide +kernel, rfl, by decide +kernel⟩, fun h => absurd h (by decide), fun h => absurd h (by decide)⟩, List.forall_mem_cons.mpr ⟨⟨_, rfl, Nat.le_of_ble_eq_true rfl, rt_at 304 (by decide +kernel) (by decide +kernel), fun _ => ⟨by decide +kernel, rfl, by decide +kernel⟩, fun h => absurd h (by decide), fun h => absurd h (by decide)⟩, List.forall_mem_cons.mpr ⟨⟨_, rfl, Nat.le_of_ble_eq_true rfl, rt_at 306 (by decide +kernel) (by decide +kernel), fun _ => ⟨by decide +kernel, rfl, by decide +kernel⟩, fun h => absurd h (by decide), fun h => absurd h (by decide)⟩, List.forall_mem_cons.mpr ⟨⟨_, rfl, Nat.le_of_ble_eq_true rfl, rt_at 308 (by decide +kernel) (by decide +kernel), fun _ => ⟨by decide +kernel, rfl, by decide +kernel⟩, fun h => absurd h (by decide), fun h => absurd h (by decide)⟩, List.forall_mem_cons.mpr ⟨⟨_, rfl, Nat.le_of_ble_eq_true rfl, rt_at 310 (by decide +kernel) (by decide +kernel), fun _ => ⟨by decide +kernel, rfl, by decide +kernel⟩, fun h => absurd h (by decide), fun h => absurd h (by decide)⟩, fun _ h => absurd h List.not_mem_nil⟩⟩⟩⟩⟩⟩⟩⟩⟩⟩⟩⟩⟩⟩⟩⟩⟩⟩⟩⟩⟩⟩
theorem zX9_m : ∀ e ∈ zX9.2.1, Cond.methodLink RX9 e.1 e.2.1.1 ∈ rt_tbl ∧ rt_okK e.2.1 e.2.2.1 e.2.2.2 := List.forall_mem_cons.mpr ⟨⟨rt_at 735 (by decide +kernel) (by decide +kernel), okX2_hasCart⟩, List.forall_mem_cons.mpr ⟨⟨rt_at 739 (by decide +kernel) (by decide +kernel), okX2_hasRoad⟩, List.forall_mem_cons.mpr ⟨⟨rt_at 743 (by decide +kernel) (by decide +kernel), okX4_of⟩, List.forall_mem_cons.mpr ⟨⟨rt_at 747 (by decide +kernel) (by decide +kernel), okX4_farEnd⟩, List.forall_mem_cons.mpr ⟨⟨rt_at 751 (by decide +kernel) (by decide +kernel), okX9_isThere⟩, List.forall_mem_cons.mpr ⟨⟨rt_at 755 (by decide +kernel) (by decide +kernel), okX8_heightAt⟩, List.forall_mem_cons.mpr ⟨⟨rt_at 762 (by decide +kernel) (by decide +kernel), okX9_turnsBy⟩, List.forall_mem_cons.mpr ⟨⟨rt_at 766 (by decide +kernel) (by decide +kernel), okX6_turnsOf⟩, List.forall_mem_cons.mpr ⟨⟨rt_at 782 (by decide +kernel) (by decide +kernel), okX4_putOnRoad⟩, List.forall_mem_cons.mpr ⟨⟨rt_at 808 (by decide +kernel) (by decide +kernel), okX4_put⟩, List.forall_mem_cons.mpr ⟨⟨rt_at 825 (by decide +kernel) (by decide +kernel), okX2_hasPlace⟩, List.forall_mem_cons.mpr ⟨⟨rt_at 829 (by decide +kernel) (by decide +kernel), okX4_cartsWith⟩, List.forall_mem_cons.mpr ⟨⟨rt_at 842 (by decide +kernel) (by decide +kernel), okX9_goOn⟩, List.forall_mem_cons.mpr ⟨⟨rt_at 846 (by decide +kernel) (by decide +kernel), okX4_putAtPlace⟩, List.forall_mem_cons.mpr ⟨⟨rt_at 1051 (by decide +kernel) (by decide +kernel), okX9_travels⟩, List.forall_mem_cons.mpr ⟨⟨rt_at 1141 (by decide +kernel) (by decide +kernel), okX9_draw⟩, List.forall_mem_cons.mpr ⟨⟨rt_at 1146 (by decide +kernel) (by decide +kernel), okX9_throwRoad⟩, List.forall_mem_cons.mpr ⟨⟨rt_at 1147 (by decide +kernel) (by decide +kernel), okX9_goBy⟩, List.forall_mem_cons.mpr ⟨⟨rt_at 1148 (by decide +kernel) (by decide +kernel), okJ6_bitCount_0f7a4⟩, fun _ h => absurd h List.not_mem_nil⟩⟩⟩⟩⟩⟩⟩⟩⟩⟩⟩⟩⟩⟩⟩⟩⟩⟩⟩
theorem zX9_c : ∀ e ∈ zX9.2.2.1, Cond.constant RX9 e.1 e.2 ∈ rt_tbl := List.forall_mem_cons.mpr ⟨rt_at 1145 (by decide +kernel) (by decide +kernel), fun _ h => absurd h List.not_mem_nil⟩
theorem zX9_l : ∀ e ∈ zX9.2.2.2.1, Cond.constantLong RX9 e.1 e.2 ∈ rt_tbl := fun _ h => absurd h List.not_mem_nil
theorem zX9_a : ∀ e ∈ zX9.2.2.2.2, Cond.methodLink RX9 e.1 (rt_nat e.2) ∈ rt_tbl := List.forall_mem_cons.mpr ⟨rt_at 799 (by decide +kernel) (by decide +kernel), fun _ h => absurd h List.not_mem_nil⟩
theorem zX9_ok : rt_okZ RX9 zX9 := ⟨zX9_f, zX9_m, zX9_c, zX9_l, zX9_a⟩
def zX10 : rt_Z := ([(86, 4, 0, 0), (64, 4, 3, 2), (69, 4, 4, 2), (55, 2, 0, 2), (110, 2, 1, 0), (61, 2, 2, 0), (95, 2, 5, 2), (48, 9, 0, 2), (82, 9, 2, 2), (44, 10, 0, 2), (54, 10, 1, 2), (9, 10, 2, 2), (15, 10, 3, 2), (18, 10, 4, 2), (21, 10, 5, 2), (24, 10, 6, 2), (27, 10, 7, 2), (30, 10, 8, 2), (33, 10, 9, 2), (36, 10, 10, 0), (41, 10, 11, 0)], [(72, kX9_turnsBy, 4, (some 9)), (76, kJ7_fill_53178, 2, none), (89, kX8_heightAt, 1, (some 8)), (98, kX10_noteOut, 3, (some 10)), (102, kX10_goBetween, 4, (some 10)), (106, kX10_outFrom, 2, (some 10)), (113, kX10_leastWayOn, 5, (some 10)), (123, kX4_farEnd, 2, (some 4)), (126, kX10_spread, 3, (some 10)), (117, kX5_add, 1, (some 5)), (129, kX10_callOn, 5, none), (139, kX10_reachedBy, 1, (some 10)), (142, kX2_allPlaces, 0, (some 2)), (146, kJ6_bitCount_0f7a4, 1, none), (151, kX10_serveAll, 1, (some 10))], [(40, 1000000)], [], [(133, 0)])
theorem zX10_f : ∀ e ∈ zX10.1, rt_okf RX10 e.1 e.2.1 e.2.2.1 e.2.2.2 := List.forall_mem_cons.mpr ⟨⟨_, rfl, Nat.le_of_ble_eq_true rfl, rt_at 209 (by decide +kernel) (by decide +kernel), fun _ => ⟨by decide +kernel, rfl, by decide +kernel⟩, fun h => absurd h (by decide), fun h => absurd h (by decide)⟩, List.forall_mem_cons.mpr ⟨⟨_, rfl, Nat.le_of_ble_eq_true rfl, rt_at 218 (by decide +kernel) (by decide +kernel), fun h => absurd h (by decide), fun h => absurd h (by decide), fun h => absurd h (by decide)⟩, List.forall_mem_cons.mpr ⟨⟨_, rfl, Nat.le_of_ble_eq_true rfl, rt_at 223 (by decide +kernel) (by decide +kernel), fun h => absurd h (by decide), fun h => absurd h (by decide), fun h => absurd h (by decide)⟩, List.forall_mem_cons.mpr ⟨⟨_, rfl, Nat.le_of_ble_eq_true rfl, rt_at 240 (by decide +kernel) (by decide +kernel), fun h => absurd h (by decide), fun h => absurd h (by decide), fun h => absurd h (by decide)⟩, List.forall_mem_cons.mpr ⟨⟨_, rfl, Nat.le_of_ble_eq_true rfl, rt_at 243 (by decide +kernel) (by decide +kernel), fun _ => ⟨by decide +kernel, rfl, by decide +kernel⟩, fun h => absurd h (by decide), fun h => absurd h (by decide)⟩, List.forall_mem_cons.mpr ⟨⟨_, rfl, Nat.le_of_ble_eq_true rfl, rt_at 247 (by decide +kernel) (by decide +kernel), fun _ => ⟨by decide +kernel, rfl, by decide +kernel⟩, fun h => absurd h (by decide), fun h => absurd h (by decide)⟩, List.forall_mem_cons.mpr ⟨⟨_, rfl, Nat.le_of_ble_eq_true rfl, rt_at 258 (by decide +kernel) (by decide +kernel), fun h => absurd h (by decide), fun h => absurd h (by decide), fun h => absurd h (by decide)⟩, List.forall_mem_cons.mpr ⟨⟨_, rfl, Nat.le_of_ble_eq_true rfl, rt_at 289 (by decide +kernel) (by decide +kernel), fun h => absurd h (by decide), fun h => absurd h (by decide), fun h => absurd h (by decide)⟩, List.forall_mem_cons.mpr ⟨⟨_, rfl, Nat.le_of_ble_eq_true rfl, rt_at 294 (by decide +kernel) (by decide +kernel), fun h => absurd h (by decide), fun h => absurd h (by decide), fun h => absurd h (by decide)⟩, List.forall_mem_cons.mpr ⟨⟨_, rfl, Nat.le_of_ble_eq_true rfl, rt_at 397 (by decide +kernel) (by decide +kernel), fun h => absurd h (by decide), fun h => absurd h (by decide), fun h => absurd h (by decide)⟩, List.forall_mem_cons.mpr ⟨⟨_, rfl, Nat.le_of_ble_eq_true rfl, rt_at 398 (by decide +kernel) (by decide +kernel), fun h => absurd h (by decide), fun h => absurd h (by decide), fun h => absurd h (by decide)⟩, List.forall_mem_cons.mpr ⟨⟨_, rfl, Nat.le_of_ble_eq_true rfl, rt_at 399 (by decide +kernel) (by decide +kernel), fun h => absurd h (by decide), fun h => absurd h (by decide), fun h => absurd h (by decide)⟩, List.forall_mem_cons.mpr ⟨⟨_, rfl, Nat.le_of_ble_eq_true rfl, rt_at 400 (by decide +kernel) (by decide +kernel), fun h => absurd h (by decide), fun h => absurd h (by decide), fun h => absurd h (by decide)⟩, List.forall_mem_cons.mpr ⟨⟨_, rfl, Nat.le_of_ble_eq_true rfl, rt_at 401 (by decide +kernel) (by decide +kernel), fun h => absurd h (by decide), fun h => absurd h (by decide), fun h => absurd h (by decide)⟩, List.forall_mem_cons.mpr ⟨⟨_, rfl, Nat.le_of_ble_eq_true rfl, rt_at 402 (by decide +kernel) (by decide +kernel), fun h => absurd h (by decide), fun h => absurd h (by decide), fun h => absurd h (by decide)⟩, List.forall_mem_cons.mpr ⟨⟨_, rfl, Nat.le_of_ble_eq_true rfl, rt_at 404 (by decide +kernel) (by decide +kernel), fun h => absurd h (by decide), fun h => absurd h (by decide), fun h => absurd h (by decide)⟩, List.forall_mem_cons.mpr ⟨⟨_, rfl, Nat.le_of_ble_eq_true rfl, rt_at 405 (by decide +kernel) (by decide +kernel), fun h => absurd h (by decide), fun h => absurd h (by decide), fun h => absurd h (by decide)⟩, List.forall_mem_cons.mpr ⟨⟨_, rfl, Nat.le_of_ble_eq_true rfl, rt_at 407 (by decide +kernel) (by decide +kernel), fun h => absurd h (by decide), fun h => absurd h (by decide), fun h => absurd h (by decide)⟩, List.forall_mem_cons.mpr ⟨⟨_, rfl, Nat.le_of_ble_eq_true rfl, rt_at 408 (by decide +kernel) (by decide +kernel), fun h => absurd h (by decide), fun h => absurd h (by decide), fun h => absurd h (by decide)⟩, List.forall_mem_cons.mpr ⟨⟨_, rfl, Nat.le_of_ble_eq_true rfl, rt_at 409 (by decide +kernel) (by decide +kernel), fun _ => ⟨by decide +kernel, rfl, by decide +kernel⟩, fun h => absurd h (by decide), fun h => absurd h (by decide)⟩, List.forall_mem_cons.mpr ⟨⟨_, rfl, Nat.le_of_ble_eq_true rfl, rt_at 410 (by decide +kernel) (by decide +kernel), fun _ => ⟨by decide +kernel, rfl, by decide +kernel⟩, fun h => absurd h (by decide), fun h => absurd h (by decide)⟩, fun _ h => absurd h List.not_mem_nil⟩⟩⟩⟩⟩⟩⟩⟩⟩⟩⟩⟩⟩⟩⟩⟩⟩⟩⟩⟩⟩
theorem zX10_m : ∀ e ∈ zX10.2.1, Cond.methodLink RX10 e.1 e.2.1.1 ∈ rt_tbl ∧ rt_okK e.2.1 e.2.2.1 e.2.2.2 := List.forall_mem_cons.mpr ⟨⟨rt_at 958 (by decide +kernel) (by decide +kernel), okX9_turnsBy⟩, List.forall_mem_cons.mpr ⟨⟨rt_at 959 (by decide +kernel) (by decide +kernel), okJ7_fill_53178⟩, List.forall_mem_cons.mpr ⟨⟨rt_at 962 (by decide +kernel) (by decide +kernel), okX8_heightAt⟩, List.forall_mem_cons.mpr ⟨⟨rt_at 963 (by decide +kernel) (by decide +kernel), okX10_noteOut⟩, List.forall_mem_cons.mpr ⟨⟨rt_at 971 (by decide +kernel) (by decide +kernel), okX10_goBetween⟩, List.forall_mem_cons.mpr ⟨⟨rt_at 975 (by decide +kernel) (by decide +kernel), okX10_outFrom⟩, List.forall_mem_cons.mpr ⟨⟨rt_at 983 (by decide +kernel) (by decide +kernel), okX10_leastWayOn⟩, List.forall_mem_cons.mpr ⟨⟨rt_at 987 (by decide +kernel) (by decide +kernel), okX4_farEnd⟩, List.forall_mem_cons.mpr ⟨⟨rt_at 988 (by decide +kernel) (by decide +kernel), okX10_spread⟩, List.forall_mem_cons.mpr ⟨⟨rt_at 989 (by decide +kernel) (by decide +kernel), okX5_add⟩, List.forall_mem_cons.mpr ⟨⟨rt_at 1022 (by decide +kernel) (by decide +kernel), okX10_callOn⟩, List.forall_mem_cons.mpr ⟨⟨rt_at 1034 (by decide +kernel) (by decide +kernel), okX10_reachedBy⟩, List.forall_mem_cons.mpr ⟨⟨rt_at 1035 (by decide +kernel) (by decide +kernel), okX2_allPlaces⟩, List.forall_mem_cons.mpr ⟨⟨rt_at 1036 (by decide +kernel) (by decide +kernel), okJ6_bitCount_0f7a4⟩, List.forall_mem_cons.mpr ⟨⟨rt_at 1037 (by decide +kernel) (by decide +kernel), okX10_serveAll⟩, fun _ h => absurd h List.not_mem_nil⟩⟩⟩⟩⟩⟩⟩⟩⟩⟩⟩⟩⟩⟩⟩
theorem zX10_c : ∀ e ∈ zX10.2.2.1, Cond.constant RX10 e.1 e.2 ∈ rt_tbl := List.forall_mem_cons.mpr ⟨rt_at 396 (by decide +kernel) (by decide +kernel), fun _ h => absurd h List.not_mem_nil⟩
theorem zX10_l : ∀ e ∈ zX10.2.2.2.1, Cond.constantLong RX10 e.1 e.2 ∈ rt_tbl := fun _ h => absurd h List.not_mem_nil
theorem zX10_a : ∀ e ∈ zX10.2.2.2.2, Cond.methodLink RX10 e.1 (rt_nat e.2) ∈ rt_tbl := List.forall_mem_cons.mpr ⟨rt_at 1025 (by decide +kernel) (by decide +kernel), fun _ h => absurd h List.not_mem_nil⟩
theorem zX10_ok : rt_okZ RX10 zX10 := ⟨zX10_f, zX10_m, zX10_c, zX10_l, zX10_a⟩
def zX11 : rt_Z := ([(87, 7, 1, 0), (106, 7, 2, 0), (125, 8, 2, 0), (156, 4, 0, 0), (325, 4, 1, 0), (171, 4, 3, 2), (174, 4, 4, 2), (152, 2, 0, 2), (290, 2, 1, 0), (367, 2, 2, 0), (144, 2, 3, 2), (177, 2, 4, 2), (180, 2, 5, 2), (197, 9, 4, 0), (230, 9, 5, 0), (240, 9, 6, 0), (311, 9, 7, 0), (314, 9, 8, 0), (379, 9, 9, 0), (382, 9, 10, 0), (370, 1, 3, 2), (257, 1, 5, 0), (250, 0, 4, 0), (287, 10, 5, 2), (302, 10, 7, 2), (331, 3, 2, 0), (352, 3, 3, 2), (340, 3, 4, 0), (343, 3, 5, 0), (346, 3, 6, 0), (393, 5, 0, 2), (392, 5, 1, 0), (10, 11, 0, 2), (19, 11, 1, 2), (26, 11, 2, 2), (33, 11, 3, 2), (42, 11, 4, 2), (49, 11, 5, 2), (56, 11, 6, 2), (65, 11, 7, 2), (72, 11, 8, 2), (79, 11, 9, 2)], [(83, kX7_addFour, 1, (some 7)), (91, kX7_cutTo, 1, (some 7)), (94, kX7_open, 1, (some 7)), (98, kX2_readFlats, 1, (some 2)), (102, kX7_isAllRead, 0, (some 7)), (109, kX7_clear, 0, (some 7)), (112, kX2_acceptFlats, 0, (some 2)), (115, kX1_forgetAll, 0, (some 1)), (118, kX8_readRounds, 1, (some 8)), (122, kX8_accept, 0, (some 8)), (128, kX2_readCarts, 1, (some 2)), (131, kX2_acceptCarts, 0, (some 2)), (134, kX6_readRule, 1, (some 6)), (137, kX6_accept, 0, (some 6)), (200, kX2_tellHeights, 4, (some 2)), (203, kX1_prepare, 1, (some 1)), (207, kX9_setOut, 2, (some 9)), (210, kX1_keepIfDone, 1, (some 1)), (213, kX9_turnRound, 1, (some 9)), (216, kX9_putChain, 2, (some 9)), (219, kX9_putLoad, 2, (some 9)), (222, kX9_throwRoad, 3, (some 9)), (226, kX9_goBy, 1, (some 9)), (229, kX5_clear, 0, (some 5)), (233, kX5_add, 1, (some 5)), (236, kX4_cartsCut, 0, (some 4)), (243, kX0_readActs, 1, (some 0)), (246, kX0_runOn, 1, (some 0)), (253, kX1_stepBack, 1, (some 1)), (260, kX8_heightAt, 1, (some 8)), (263, kJ6_compare_7cf53, 2, none), (168, kX2_hasRoad, 1, (some 2)), (183, kX9_isThere, 2, (some 9)), (268, kX9_stays, 3, (some 9)), (161, kX9_roadsThereAt, 1, (some 9)), (271, kJ6_bitCount_0f7a4, 1, none), (274, kX8_allGoInto, 1, (some 8)), (277, kX11_soonestWay, 3, (some 11)), (138, kX2_hasPlace, 1, (some 2)), (280, kX10_lookOn, 1, (some 10)), (283, kX10_spread, 3, (some 10)), (396, kX10_tellLeastWay, 4, (some 10)), (293, kX10_reachedBy, 1, (some 10)), (296, kX2_allPlaces, 0, (some 2)), (299, kX10_goRound, 2, (some 10)), (305, kX10_fewestInns, 1, (some 10)), (191, kX2_hasCart, 1, (some 2)), (194, kX4_of, 2, (some 4)), (308, kX9_foresee, 1, (some 9)), (317, kX4_farEnd, 2, (some 4)), (187, kX9_turnsBy, 4, (some 9)), (321, kX9_travels, 5, (some 9)), (328, kX3_put, 2, (some 3)), (334, kX3_isError, 1, none), (337, kX3_search, 3, (some 3)), (349, kX3_isTime, 1, none), (356, kJ13_numberOfTrailingZeros_95d88, 1, none), (362, kJ13_numberOfLeadingZeros_95d88, 1, none), (365, kJ13_bitCount_95d88, 1, none), (373, kX4_copyFrom, 1, (some 4)), (376, kX9_stormYears, 2, (some 9)), (385, kX1_store, 2, (some 1)), (389, kX1_restore, 2, (some 1)), (164, kX4_cartsWith, 2, (some 4)), (148, kX2_roadsAt, 1, (some 2))], [(320, 1000000)], [], [])
theorem zX11_f : ∀ e ∈ zX11.1, rt_okf RX11 e.1 e.2.1 e.2.2.1 e.2.2.2 := List.forall_mem_cons.mpr ⟨⟨_, rfl, Nat.le_of_ble_eq_true rfl, rt_at 120 (by decide +kernel) (by decide +kernel), fun _ => ⟨by decide +kernel, rfl, by decide +kernel⟩, fun h => absurd h (by decide), fun h => absurd h (by decide)⟩, List.forall_mem_cons.mpr ⟨⟨_, rfl, Nat.le_of_ble_eq_true rfl, rt_at 126 (by decide +kernel) (by decide +kernel), fun _ => ⟨by decide +kernel, rfl, by decide +kernel⟩, fun h => absurd h (by decide), fun h => absurd h (by decide)⟩, List.forall_mem_cons.mpr ⟨⟨_, rfl, Nat.le_of_ble_eq_true rfl, rt_at 148 (by decide +kernel) (by decide +kernel), fun _ => ⟨by decide +kernel, rfl, by decide +kernel⟩, fun h => absurd h (by decide), fun h => absurd h (by decide)⟩, List.forall_mem_cons.mpr ⟨⟨_, rfl, Nat.le_of_ble_eq_true rfl, rt_at 211 (by decide +kernel) (by decide +kernel), fun _ => ⟨by decide +kernel, rfl, by decide +kernel⟩, fun h => absurd h (by decide), fun h => absurd h (by decide)⟩, List.forall_mem_cons.mpr ⟨⟨_, rfl, Nat.le_of_ble_eq_true rfl, rt_at 215 (by decide +kernel) (by decide +kernel), fun _ => ⟨by decide +kernel, rfl, by decide +kernel⟩, fun h => absurd h (by decide), fun h => absurd h (by decide)⟩, List.forall_mem_cons.mpr ⟨⟨_, rfl, Nat.le_of_ble_eq_true rfl, rt_at 219 (by decide +kernel) (by decide +kernel), fun h => absurd h (by decide), fun h => absurd h (by decide), fun h => absurd h (by decide)⟩, List.forall_mem_cons.mpr ⟨⟨_, rfl, Nat.le_of_ble_eq_true rfl, rt_at 224 (by decide +kernel) (by decide +kernel), fun h => absurd h (by decide), fun h => absurd h (by decide), fun h => absurd h (by decide)⟩, List.forall_mem_cons.mpr ⟨⟨_, rfl, Nat.le_of_ble_eq_true rfl, rt_at 241 (by decide +kernel) (by decide +kernel), fun h => absurd h (by decide), fun h => absurd h (by decide), fun h => absurd h (by decide)⟩, List.forall_mem_cons.mpr ⟨⟨_, rfl, Nat.le_of_ble_eq_true rfl, rt_at 245 (by decide +kernel) (by decide +kernel), fun _ => ⟨by decide +kernel, rfl, by decide +kernel⟩, fun h => absurd h (by decide), fun h => absurd h (by decide)⟩, List.forall_mem_cons.mpr ⟨⟨_, rfl, Nat.le_of_ble_eq_true rfl, rt_at 249 (by decide +kernel) (by decide +kernel), fun _ => ⟨by decide +kernel, rfl, by decide +kernel⟩, fun h => absurd h (by decide), fun h => absurd h (by decide)⟩, List.forall_mem_cons.mpr ⟨⟨_, rfl, Nat.le_of_ble_eq_true rfl, rt_at 252 (by decide +kernel) (by decide +kernel), fun h => absurd h (by decide), fun h => absurd h (by decide), fun h => absurd h (by decide)⟩, List.forall_mem_cons.mpr ⟨⟨_, rfl, Nat.le_of_ble_eq_true rfl, rt_at 255 (by decide +kernel) (by decide +kernel), fun h => absurd h (by decide), fun h => absurd h (by decide), fun h => absurd h (by decide)⟩, List.forall_mem_cons.mpr ⟨⟨_, rfl, Nat.le_of_ble_eq_true rfl, rt_at 259 (by decide +kernel) (by decide +kernel), fun h => absurd h (by decide), fun h => absurd h (by decide), fun h => absurd h (by decide)⟩, List.forall_mem_cons.mpr ⟨⟨_, rfl, Nat.le_of_ble_eq_true rfl, rt_at 297 (by decide +kernel) (by decide +kernel), fun _ => ⟨by decide +kernel, rfl, by decide +kernel⟩, fun h => absurd h (by decide), fun h => absurd h (by decide)⟩, List.forall_mem_cons.mpr ⟨⟨_, rfl, Nat.le_of_ble_eq_true rfl, rt_at 299 (by decide +kernel) (by decide +kernel), fun _ => ⟨by decide +kernel, rfl, by decide +kernel⟩, fun h => absurd h (by decide), fun h => absurd h (by decide)⟩, List.forall_mem_cons.mpr ⟨⟨_, rfl, Nat.le_of_ble_eq_true rfl, rt_at 301 (by decide +kernel) (by decide +kernel), fun _ => ⟨by decide +kernel, rfl, by decide +kernel⟩, fun h => absurd h (by decide), fun h => absurd h (by decide)⟩, List.forall_mem_cons.mpr ⟨⟨_, rfl, Nat.le_of_ble_eq_true rfl, rt_at 303 (by decide +kernel) (by decide +kernel), fun _ => ⟨by decide +kernel, rfl, by decide +kernel⟩, fun h => absurd h (by decide), fun h => absurd h (by decide)⟩, List.forall_mem_cons.mpr ⟨⟨_, rfl, Nat.le_of_ble_eq_true rfl, rt_at 305 (by decide +kernel) (by decide +kernel), fun _ => ⟨by decide +kernel, rfl, by decide +kernel⟩, fun h => absurd h (by decide), fun h => absurd h (by decide)⟩, List.forall_mem_cons.mpr ⟨⟨_, rfl, Nat.le_of_ble_eq_true rfl, rt_at 307 (by decide +kernel) (by decide +kernel), fun _ => ⟨by decide +kernel, rfl, by decide +kernel⟩, fun h => absurd h (by decide), fun h => absurd h (by decide)⟩, List.forall_mem_cons.mpr ⟨⟨_, rfl, Nat.le_of_ble_eq_true rfl, rt_at 309 (by decide +kernel) (by decide +kernel), fun _ => ⟨by decide +kernel, rfl, by decide +kernel⟩, fun h => absurd h (by decide), fun h => absurd h (by decide)⟩, List.forall_mem_cons.mpr ⟨⟨_, rfl, Nat.le_of_ble_eq_true rfl, rt_at 349 (by decide +kernel) (by decide +kernel), fun h => absurd h (by decide), fun h => absurd h (by decide), fun h => absurd h (by decide)⟩, List.forall_mem_cons.mpr ⟨⟨_, rfl, Nat.le_of_ble_eq_true rfl, rt_at 352 (by decide +kernel) (by decide +kernel), fun _ => ⟨by decide +kernel, rfl, by decide +kernel⟩, fun h => absurd h (by decide), fun h => absurd h (by decide)⟩, List.forall_mem_cons.mpr ⟨⟨_, rfl, Nat.le_of_ble_eq_true rfl, rt_at 378 (by decide +kernel) (by decide +kernel), fun _ => ⟨by decide +kernel, rfl, by decide +kernel⟩, fun h => absurd h (by decide), fun h => absurd h (by decide)⟩, List.forall_mem_cons.mpr ⟨⟨_, rfl, Nat.le_of_ble_eq_true rfl, rt_at 403 (by decide +kernel) (by decide +kernel), fun h => absurd h (by decide), fun h => absurd h (by decide), fun h => absurd h (by decide)⟩, List.forall_mem_cons.mpr ⟨⟨_, rfl, Nat.le_of_ble_eq_true rfl, rt_at 406 (by decide +kernel) (by decide +kernel), fun h => absurd h (by decide), fun h => absurd h (by decide), fun h => absurd h (by decide)⟩, List.forall_mem_cons.mpr ⟨⟨_, rfl, Nat.le_of_ble_eq_true rfl, rt_at 445 (by decide +kernel) (by decide +kernel), fun _ => ⟨by decide +kernel, rfl, by decide +kernel⟩, fun h => absurd h (by decide), fun h => absurd h (by decide)⟩, List.forall_mem_cons.mpr ⟨⟨_, rfl, Nat.le_of_ble_eq_true rfl, rt_at 447 (by decide +kernel) (by decide +kernel), fun h => absurd h (by decide), fun h => absurd h (by decide), fun h => absurd h (by decide)⟩, List.forall_mem_cons.mpr ⟨⟨_, rfl, Nat.le_of_ble_eq_true rfl, rt_at 449 (by decide +kernel) (by decide +kernel), fun _ => ⟨by decide +kernel, rfl, by decide +kernel⟩, fun h => absurd h (by decide), fun h => absurd h (by decide)⟩, List.forall_mem_cons.mpr ⟨⟨_, rfl, Nat.le_of_ble_eq_true rfl, rt_at 451 (by decide +kernel) (by decide +kernel), fun _ => ⟨by decide +kernel, rfl, by decide +kernel⟩, fun h => absurd h (by decide), fun h => absurd h (by decide)⟩, List.forall_mem_cons.mpr ⟨⟨_, rfl, Nat.le_of_ble_eq_true rfl, rt_at 453 (by decide +kernel) (by decide +kernel), fun _ => ⟨by decide +kernel, rfl, by decide +kernel⟩, fun h => absurd h (by decide), fun h => absurd h (by decide)⟩, List.forall_mem_cons.mpr ⟨⟨_, rfl, Nat.le_of_ble_eq_true rfl, rt_at 477 (by decide +kernel) (by decide +kernel), fun h => absurd h (by decide), fun h => absurd h (by decide), fun h => absurd h (by decide)⟩, List.forall_mem_cons.mpr ⟨⟨_, rfl, Nat.le_of_ble_eq_true rfl, rt_at 479 (by decide +kernel) (by decide +kernel), fun _ => ⟨by decide +kernel, rfl, by decide +kernel⟩, fun h => absurd h (by decide), fun h => absurd h (by decide)⟩, List.forall_mem_cons.mpr ⟨⟨_, rfl, Nat.le_of_ble_eq_true rfl, rt_at 485 (by decide +kernel) (by decide +kernel), fun h => absurd h (by decide), fun h => absurd h (by decide), fun h => absurd h (by decide)⟩, List.forall_mem_cons.mpr ⟨⟨_, rfl, Nat.le_of_ble_eq_true rfl, rt_at 486 (by decide +kernel) (by decide +kernel), fun h => absurd h (by decide), fun h => absurd h (by decide), fun h => absurd h (by decide)⟩, List.forall_mem_cons.mpr ⟨⟨_, rfl, Nat.le_of_ble_eq_true rfl, rt_at 487 (by decide +kernel) (by decide +kernel), fun h => absurd h (by decide), fun h => absurd h (by decide), fun h => absurd h (by decide)⟩, List.forall_mem_cons.mpr ⟨⟨_, rfl, Nat.le_of_ble_eq_true rfl, rt_at 488 (by decide +kernel) (by decide +kernel), fun h => absurd h (by decide), fun h => absurd h (by decide), fun h => absurd h (by decide)⟩, List.forall_mem_cons.mpr ⟨⟨_, rfl, Nat.le_of_ble_eq_true rfl, rt_at 489 (by decide +kernel) (by decide +kernel), fun h => absurd h (by decide), fun h => absurd h (by decide), fun h => absurd h (by decide)⟩, List.forall_mem_cons.mpr ⟨⟨_, rfl, Nat.le_of_ble_eq_true rfl, rt_at 490 (by decide +kernel) (by decide +kernel), fun h => absurd h (by decide), fun h => absurd h (by decide), fun h => absurd h (by decide)⟩, List.forall_mem_cons.mpr ⟨⟨_, rfl, Nat.le_of_ble_eq_true rfl, rt_at 491 (by decide +kernel) (by decide +kernel), fun h => absurd h (by decide), fun h => absurd h (by decide), fun h => absurd h (by decide)⟩, List.forall_mem_cons.mpr ⟨⟨_, rfl, Nat.le_of_ble_eq_true rfl, rt_at 492 (by decide +kernel) (by decide +kernel), fun h => absurd h (by decide), fun h => absurd h (by decide), fun h => absurd h (by decide)⟩, List.forall_mem_cons.mpr ⟨⟨_, rfl, Nat.le_of_ble_eq_true rfl, rt_at 493 (by decide +kernel) (by decide +kernel), fun h => absurd h (by decide), fun h => absurd h (by decide), fun h => absurd h (by decide)⟩, List.forall_mem_cons.mpr ⟨⟨_, rfl, Nat.le_of_ble_eq_true rfl, rt_at 494 (by decide +kernel) (by decide +kernel), fun h => absurd h (by decide), fun h => absurd h (by decide), fun h => absurd h (by decide)⟩, fun _ h => absurd h List.not_mem_nil⟩⟩⟩⟩⟩⟩⟩⟩⟩⟩⟩⟩⟩⟩⟩⟩⟩⟩⟩⟩⟩⟩⟩⟩⟩⟩⟩⟩⟩⟩⟩⟩⟩⟩⟩⟩⟩⟩⟩⟩⟩⟩
theorem zX11_m : ∀ e ∈ zX11.2.1, Cond.methodLink RX11 e.1 e.2.1.1 ∈ rt_tbl ∧ rt_okK e.2.1 e.2.2.1 e.2.2.2 := List.forall_mem_cons.mpr ⟨⟨rt_at 520 (by decide +kernel) (by decide +kernel), okX7_addFour⟩, List.forall_mem_cons.mpr ⟨⟨rt_at 528 (by decide +kernel) (by decide +kernel), okX7_cutTo⟩, List.forall_mem_cons.mpr ⟨⟨rt_at 536 (by decide +kernel) (by decide +kernel), okX7_open⟩, List.forall_mem_cons.mpr ⟨⟨rt_at 543 (by decide +kernel) (by decide +kernel), okX2_readFlats⟩, List.forall_mem_cons.mpr ⟨⟨rt_at 581 (by decide +kernel) (by decide +kernel), okX7_isAllRead⟩, List.forall_mem_cons.mpr ⟨⟨rt_at 585 (by decide +kernel) (by decide +kernel), okX7_clear⟩, List.forall_mem_cons.mpr ⟨⟨rt_at 589 (by decide +kernel) (by decide +kernel), okX2_acceptFlats⟩, List.forall_mem_cons.mpr ⟨⟨rt_at 593 (by decide +kernel) (by decide +kernel), okX1_forgetAll⟩, List.forall_mem_cons.mpr ⟨⟨rt_at 601 (by decide +kernel) (by decide +kernel), okX8_readRounds⟩, List.forall_mem_cons.mpr ⟨⟨rt_at 616 (by decide +kernel) (by decide +kernel), okX8_accept⟩, List.forall_mem_cons.mpr ⟨⟨rt_at 627 (by decide +kernel) (by decide +kernel), okX2_readCarts⟩, List.forall_mem_cons.mpr ⟨⟨rt_at 644 (by decide +kernel) (by decide +kernel), okX2_acceptCarts⟩, List.forall_mem_cons.mpr ⟨⟨rt_at 652 (by decide +kernel) (by decide +kernel), okX6_readRule⟩, List.forall_mem_cons.mpr ⟨⟨rt_at 696 (by decide +kernel) (by decide +kernel), okX6_accept⟩, List.forall_mem_cons.mpr ⟨⟨rt_at 709 (by decide +kernel) (by decide +kernel), okX2_tellHeights⟩, List.forall_mem_cons.mpr ⟨⟨rt_at 722 (by decide +kernel) (by decide +kernel), okX1_prepare⟩, List.forall_mem_cons.mpr ⟨⟨rt_at 731 (by decide +kernel) (by decide +kernel), okX9_setOut⟩, List.forall_mem_cons.mpr ⟨⟨rt_at 786 (by decide +kernel) (by decide +kernel), okX1_keepIfDone⟩, List.forall_mem_cons.mpr ⟨⟨rt_at 795 (by decide +kernel) (by decide +kernel), okX9_turnRound⟩, List.forall_mem_cons.mpr ⟨⟨rt_at 804 (by decide +kernel) (by decide +kernel), okX9_putChain⟩, List.forall_mem_cons.mpr ⟨⟨rt_at 813 (by decide +kernel) (by decide +kernel), okX9_putLoad⟩, List.forall_mem_cons.mpr ⟨⟨rt_at 821 (by decide +kernel) (by decide +kernel), okX9_throwRoad⟩, List.forall_mem_cons.mpr ⟨⟨rt_at 838 (by decide +kernel) (by decide +kernel), okX9_goBy⟩, List.forall_mem_cons.mpr ⟨⟨rt_at 847 (by decide +kernel) (by decide +kernel), okX5_clear⟩, List.forall_mem_cons.mpr ⟨⟨rt_at 851 (by decide +kernel) (by decide +kernel), okX5_add⟩, List.forall_mem_cons.mpr ⟨⟨rt_at 855 (by decide +kernel) (by decide +kernel), okX4_cartsCut⟩, List.forall_mem_cons.mpr ⟨⟨rt_at 863 (by decide +kernel) (by decide +kernel), okX0_readActs⟩, List.forall_mem_cons.mpr ⟨⟨rt_at 874 (by decide +kernel) (by decide +kernel), okX0_runOn⟩, List.forall_mem_cons.mpr ⟨⟨rt_at 893 (by decide +kernel) (by decide +kernel), okX1_stepBack⟩, List.forall_mem_cons.mpr ⟨⟨rt_at 901 (by decide +kernel) (by decide +kernel), okX8_heightAt⟩, List.forall_mem_cons.mpr ⟨⟨rt_at 902 (by decide +kernel) (by decide +kernel), okJ6_compare_7cf53⟩, List.forall_mem_cons.mpr ⟨⟨rt_at 909 (by decide +kernel) (by decide +kernel), okX2_hasRoad⟩, List.forall_mem_cons.mpr ⟨⟨rt_at 910 (by decide +kernel) (by decide +kernel), okX9_isThere⟩, List.forall_mem_cons.mpr ⟨⟨rt_at 915 (by decide +kernel) (by decide +kernel), okX9_stays⟩, List.forall_mem_cons.mpr ⟨⟨rt_at 927 (by decide +kernel) (by decide +kernel), okX9_roadsThereAt⟩, List.forall_mem_cons.mpr ⟨⟨rt_at 931 (by decide +kernel) (by decide +kernel), okJ6_bitCount_0f7a4⟩, List.forall_mem_cons.mpr ⟨⟨rt_at 941 (by decide +kernel) (by decide +kernel), okX8_allGoInto⟩, List.forall_mem_cons.mpr ⟨⟨rt_at 949 (by decide +kernel) (by decide +kernel), okX11_soonestWay⟩, List.forall_mem_cons.mpr ⟨⟨rt_at 953 (by decide +kernel) (by decide +kernel), okX2_hasPlace⟩, List.forall_mem_cons.mpr ⟨⟨rt_at 954 (by decide +kernel) (by decide +kernel), okX10_lookOn⟩, List.forall_mem_cons.mpr ⟨⟨rt_at 967 (by decide +kernel) (by decide +kernel), okX10_spread⟩, List.forall_mem_cons.mpr ⟨⟨rt_at 979 (by decide +kernel) (by decide +kernel), okX10_tellLeastWay⟩, List.forall_mem_cons.mpr ⟨⟨rt_at 1002 (by decide +kernel) (by decide +kernel), okX10_reachedBy⟩, List.forall_mem_cons.mpr ⟨⟨rt_at 1010 (by decide +kernel) (by decide +kernel), okX2_allPlaces⟩, List.forall_mem_cons.mpr ⟨⟨rt_at 1018 (by decide +kernel) (by decide +kernel), okX10_goRound⟩, List.forall_mem_cons.mpr ⟨⟨rt_at 1030 (by decide +kernel) (by decide +kernel), okX10_fewestInns⟩, List.forall_mem_cons.mpr ⟨⟨rt_at 1045 (by decide +kernel) (by decide +kernel), okX2_hasCart⟩, List.forall_mem_cons.mpr ⟨⟨rt_at 1046 (by decide +kernel) (by decide +kernel), okX4_of⟩, List.forall_mem_cons.mpr ⟨⟨rt_at 1047 (by decide +kernel) (by decide +kernel), okX9_foresee⟩, List.forall_mem_cons.mpr ⟨⟨rt_at 1059 (by decide +kernel) (by decide +kernel), okX4_farEnd⟩, List.forall_mem_cons.mpr ⟨⟨rt_at 1060 (by decide +kernel) (by decide +kernel), okX9_turnsBy⟩, List.forall_mem_cons.mpr ⟨⟨rt_at 1062 (by decide +kernel) (by decide +kernel), okX9_travels⟩, List.forall_mem_cons.mpr ⟨⟨rt_at 1071 (by decide +kernel) (by decide +kernel), okX3_put⟩, List.forall_mem_cons.mpr ⟨⟨rt_at 1086 (by decide +kernel) (by decide +kernel), okX3_isError⟩, List.forall_mem_cons.mpr ⟨⟨rt_at 1089 (by decide +kernel) (by decide +kernel), okX3_search⟩, List.forall_mem_cons.mpr ⟨⟨rt_at 1108 (by decide +kernel) (by decide +kernel), okX3_isTime⟩, List.forall_mem_cons.mpr ⟨⟨rt_at 1109 (by decide +kernel) (by decide +kernel), okJ13_numberOfTrailingZeros_95d88⟩, List.forall_mem_cons.mpr ⟨⟨rt_at 1116 (by decide +kernel) (by decide +kernel), okJ13_numberOfLeadingZeros_95d88⟩, List.forall_mem_cons.mpr ⟨⟨rt_at 1122 (by decide +kernel) (by decide +kernel), okJ13_bitCount_95d88⟩, List.forall_mem_cons.mpr ⟨⟨rt_at 1136 (by decide +kernel) (by decide +kernel), okX4_copyFrom⟩, List.forall_mem_cons.mpr ⟨⟨rt_at 1137 (by decide +kernel) (by decide +kernel), okX9_stormYears⟩, List.forall_mem_cons.mpr ⟨⟨rt_at 1153 (by decide +kernel) (by decide +kernel), okX1_store⟩, List.forall_mem_cons.mpr ⟨⟨rt_at 1161 (by decide +kernel) (by decide +kernel), okX1_restore⟩, List.forall_mem_cons.mpr ⟨⟨rt_at 1169 (by decide +kernel) (by decide +kernel), okX4_cartsWith⟩, List.forall_mem_cons.mpr ⟨⟨rt_at 1239 (by decide +kernel) (by decide +kernel), okX2_roadsAt⟩, fun _ h => absurd h List.not_mem_nil⟩⟩⟩⟩⟩⟩⟩⟩⟩⟩⟩⟩⟩⟩⟩⟩⟩⟩⟩⟩⟩⟩⟩⟩⟩⟩⟩⟩⟩⟩⟩⟩⟩⟩⟩⟩⟩⟩⟩⟩⟩⟩⟩⟩⟩⟩⟩⟩⟩⟩⟩⟩⟩⟩⟩⟩⟩⟩⟩⟩⟩⟩⟩⟩⟩
theorem zX11_c : ∀ e ∈ zX11.2.2.1, Cond.constant RX11 e.1 e.2 ∈ rt_tbl := List.forall_mem_cons.mpr ⟨rt_at 1061 (by decide +kernel) (by decide +kernel), fun _ h => absurd h List.not_mem_nil⟩
theorem zX11_l : ∀ e ∈ zX11.2.2.2.1, Cond.constantLong RX11 e.1 e.2 ∈ rt_tbl := fun _ h => absurd h List.not_mem_nil
theorem zX11_a : ∀ e ∈ zX11.2.2.2.2, Cond.methodLink RX11 e.1 (rt_nat e.2) ∈ rt_tbl := fun _ h => absurd h List.not_mem_nil
theorem zX11_ok : rt_okZ RX11 zX11 := ⟨zX11_f, zX11_m, zX11_c, zX11_l, zX11_a⟩
def zX12 : rt_Z := ([(9, 12, 0, 2), (103, 12, 1, 0), (13, 12, 2, 2), (110, 12, 3, 0), (16, 12, 4, 2), (19, 12, 5, 2), (113, 12, 6, 0), (22, 12, 7, 0), (26, 12, 8, 2), (29, 12, 9, 0), (32, 12, 10, 2), (116, 12, 11, 0), (36, 12, 12, 2), (100, 12, 13, 0), (97, 12, 14, 0), (119, 12, 15, 3), (122, 12, 16, 0), (125, 12, 17, 0), (128, 12, 18, 0), (131, 12, 19, 0), (39, 12, 20, 2), (42, 12, 21, 2), (161, 12, 22, 0), (164, 12, 23, 0), (45, 12, 24, 2), (48, 12, 25, 2), (51, 12, 26, 2), (210, 12, 27, 0), (206, 12, 28, 1), (54, 12, 29, 2), (57, 12, 30, 2), (178, 12, 31, 0), (60, 12, 32, 2), (288, 12, 33, 0), (291, 12, 34, 0), (294, 12, 35, 0), (297, 12, 36, 0), (300, 12, 37, 0), (63, 12, 38, 2), (66, 12, 39, 2), (69, 12, 40, 2), (72, 12, 41, 2), (373, 12, 42, 0), (75, 12, 43, 2), (386, 12, 44, 0), (380, 12, 45, 0), (383, 12, 46, 0), (78, 12, 47, 2), (396, 12, 48, 0), (81, 12, 49, 2), (411, 12, 50, 0), (85, 12, 51, 2), (181, 12, 52, 0), (88, 12, 53, 2), (91, 12, 54, 2), (94, 12, 55, 2)], [(106, kX12_in, 3, none), (171, kX12_begin, 3, (some 12)), (134, kX12_fine, 0, (some 12)), (175, kX12_readLine, 0, (some 12)), (138, kX12_here, 0, (some 12)), (158, kX12_number, 1, (some 12)), (154, kX12_digit, 1, (some 12)), (150, kX12_oneOf, 3, (some 12)), (146, kX12_fault, 1, (some 12)), (167, kX12_need, 1, (some 12)), (142, kX12_passes, 1, (some 12)), (184, kX12_number_, 2, (some 12)), (187, kX12_stand, 3, none), (200, kX12_held, 1, (some 12)), (191, kX12_sum, 1, (some 12)), (194, kX12_product, 1, (some 12)), (197, kX12_thing, 1, (some 12)), (203, kX12_letterOf, 1, none), (232, kX12_isPlace, 1, (some 12)), (236, kX12_lost, 0, (some 12)), (239, kX12_cartsAt, 2, (some 12)), (242, kX12_beyond, 3, none), (228, kX12_endOf, 3, none), (245, kX12_isThere, 2, (some 12)), (225, kX12_levelAt, 1, (some 12)), (221, kX12_heightOf, 4, none), (249, kX12_isRoad, 1, (some 12)), (252, kX12_turnsOf, 4, (some 12)), (255, kX12_isCart, 1, (some 12)), (262, kX12_refusesOut, 2, (some 12)), (265, kX12_remember, 1, (some 12)), (258, kX12_lay, 3, none), (269, kX12_goOut, 2, (some 12)), (272, kX12_canRound, 1, (some 12)), (275, kX12_goRound, 1, (some 12)), (278, kX12_canChain, 1, (some 12)), (281, kX12_canLoad, 1, (some 12)), (284, kX12_isUsed, 2, (some 12)), (311, kX12_beginTurns, 0, (some 12)), (314, kX12_goTurns, 2, (some 12)), (303, kX12_goTurn, 1, (some 12)), (306, kJ6_bitCount_0f7a4, 1, none), (318, kX12_tell, 1, (some 12)), (321, kX12_readAct, 1, (some 12)), (324, kX12_act, 3, (some 12)), (327, kX12_isLook, 1, none), (330, kX12_levelIn, 1, (some 12)), (333, kJ6_compare_7cf53, 2, none), (336, kX12_comesIn, 2, (some 12)), (339, kX12_common, 2, none), (358, kX12_wayOf, 3, (some 12)), (362, kX12_findSoon, 3, (some 12)), (347, kX12_has, 2, none), (350, kX12_soonestBy, 5, (some 12)), (342, kX12_canGo, 4, (some 12)), (366, kX12_nextRoad, 6, (some 12)), (354, kX12_canCome, 6, (some 12)), (376, kX12_goCarrier, 5, (some 12)), (370, kX12_soonFrom, 3, (some 12)), (393, kX12_ridesOn, 1, (some 12)), (389, kX12_rides, 5, (some 12)), (402, kX12_fitsBy, 4, (some 12)), (405, kX12_findTold, 3, (some 12)), (408, kX12_toldAt, 1, (some 12)), (415, kX12_draw, 1, (some 12))], [(346, 1000000), (414, 1103515245)], [], [(213, 2), (218, 1), (399, 3)])
theorem zX12_f : ∀ e ∈ zX12.1, rt_okf RX12 e.1 e.2.1 e.2.2.1 e.2.2.2 := List.forall_mem_cons.mpr ⟨⟨_, rfl, Nat.le_of_ble_eq_true rfl, rt_at 1271 (by decide +kernel) (by decide +kernel), fun h => absurd h (by decide), fun h => absurd h (by decide), fun h => absurd h (by decide)⟩, List.forall_mem_cons.mpr ⟨⟨_, rfl, Nat.le_of_ble_eq_true rfl, rt_at 1272 (by decide +kernel) (by decide +kernel), fun _ => ⟨by decide +kernel, rfl, by decide +kernel⟩, fun h => absurd h (by decide), fun h => absurd h (by decide)⟩, List.forall_mem_cons.mpr ⟨⟨_, rfl, Nat.le_of_ble_eq_true rfl, rt_at 1273 (by decide +kernel) (by decide +kernel), fun h => absurd h (by decide), fun h => absurd h (by decide), fun h => absurd h (by decide)⟩, List.forall_mem_cons.mpr ⟨⟨_, rfl, Nat.le_of_ble_eq_true rfl, rt_at 1274 (by decide +kernel) (by decide +kernel), fun _ => ⟨by decide +kernel, rfl, by decide +kernel⟩, fun h => absurd h (by decide), fun h => absurd h (by decide)⟩, List.forall_mem_cons.mpr ⟨⟨_, rfl, Nat.le_of_ble_eq_true rfl, rt_at 1275 (by decide +kernel) (by decide +kernel), fun h => absurd h (by decide), fun h => absurd h (by decide), fun h => absurd h (by decide)⟩, List.forall_mem_cons.mpr ⟨⟨_, rfl, Nat.le_of_ble_eq_true rfl, rt_at 1276 (by decide +kernel) (by decide +kernel), fun h => absurd h (by decide), fun h => absurd h (by decide), fun h => absurd h (by decide)⟩, List.forall_mem_cons.mpr ⟨⟨_, rfl, Nat.le_of_ble_eq_true rfl, rt_at 1277 (by decide +kernel) (by decide +kernel), fun _ => ⟨by decide +kernel, rfl, by decide +kernel⟩, fun h => absurd h (by decide), fun h => absurd h (by decide)⟩, List.forall_mem_cons.mpr ⟨⟨_, rfl, Nat.le_of_ble_eq_true rfl, rt_at 1278 (by decide +kernel) (by decide +kernel), fun _ => ⟨by decide +kernel, rfl, by decide +kernel⟩, fun h => absurd h (by decide), fun h => absurd h (by decide)⟩, List.forall_mem_cons.mpr ⟨⟨_, rfl, Nat.le_of_ble_eq_true rfl, rt_at 1279 (by decide +kernel) (by decide +kernel), fun h => absurd h (by decide), fun h => absurd h (by decide), fun h => absurd h (by decide)⟩, List.forall_mem_cons.mpr ⟨⟨_, rfl, Nat.le_of_ble_eq_true rfl, rt_at 1280 (by decide +kernel) (by decide +kernel), fun _ => ⟨by decide +kernel, rfl, by decide +kernel⟩, fun h => absurd h (by decide), fun h => absurd h (by decide)⟩, List.forall_mem_cons.mpr ⟨⟨_, rfl, Nat.le_of_ble_eq_true rfl, rt_at 1281 (by decide +kernel) (by decide +kernel), fun h => absurd h (by decide), fun h => absurd h (by decide), fun h => absurd h (by decide)⟩, List.forall_mem_cons.mpr ⟨⟨_, rfl, Nat.le_of_ble_eq_true rfl, rt_at 1282 (by decide +kernel) (by decide +kernel), fun _ => ⟨by decide +kernel, rfl, by decide +kernel⟩, fun h => absurd h (by decide), fun h => absurd h (by decide)⟩, List.forall_mem_cons.mpr ⟨⟨_, rfl, Nat.le_of_ble_eq_true rfl, rt_at 1283 (by decide +kernel) (by decide +kernel), fun h => absurd h (by decide), fun h => absurd h (by decide), fun h => absurd h (by decide)⟩, List.forall_mem_cons.mpr ⟨⟨_, rfl, Nat.le_of_ble_eq_true rfl, rt_at 1284 (by decide +kernel) (by decide +kernel), fun _ => ⟨by decide +kernel, rfl, by decide +kernel⟩, fun h => absurd h (by decide), fun h => absurd h (by decide)⟩, List.forall_mem_cons.mpr ⟨⟨_, rfl, Nat.le_of_ble_eq_true rfl, rt_at 1285 (by decide +kernel) (by decide +kernel), fun _ => ⟨by decide +kernel, rfl, by decide +kernel⟩, fun h => absurd h (by decide), fun h => absurd h (by decide)⟩, List.forall_mem_cons.mpr ⟨⟨_, rfl, Nat.le_of_ble_eq_true rfl, rt_at 1286 (by decide +kernel) (by decide +kernel), fun h => absurd h (by decide), fun h => absurd h (by decide), fun _ => ⟨by decide +kernel, rfl, rfl, rfl⟩⟩, List.forall_mem_cons.mpr ⟨⟨_, rfl, Nat.le_of_ble_eq_true rfl, rt_at 1287 (by decide +kernel) (by decide +kernel), fun _ => ⟨by decide +kernel, rfl, by decide +kernel⟩, fun h => absurd h (by decide), fun h => absurd h (by decide)⟩, List.forall_mem_cons.mpr ⟨⟨_, rfl, Nat.le_of_ble_eq_true rfl, rt_at 1288 (by decide +kernel) (by decide +kernel), fun _ => ⟨by decide +kernel, rfl, by decide +kernel⟩, fun h => absurd h (by decide), fun h => absurd h (by decide)⟩, List.forall_mem_cons.mpr ⟨⟨_, rfl, Nat.le_of_ble_eq_true rfl, rt_at 1289 (by decide +kernel) (by decide +kernel), fun _ => ⟨by decide +kernel, rfl, by decide +kernel⟩, fun h => absurd h (by decide), fun h => absurd h (by decide)⟩, List.forall_mem_cons.mpr ⟨⟨_, rfl, Nat.le_of_ble_eq_true rfl, rt_at 1290 (by decide +kernel) (by decide +kernel), fun _ => ⟨by decide +kernel, rfl, by decide +kernel⟩, fun h => absurd h (by decide), fun h => absurd h (by decide)⟩, List.forall_mem_cons.mpr ⟨⟨_, rfl, Nat.le_of_ble_eq_true rfl, rt_at 1291 (by decide +kernel) (by decide +kernel), fun h => absurd h (by decide), fun h => absurd h (by decide), fun h => absurd h (by decide)⟩, List.forall_mem_cons.mpr ⟨⟨_, rfl, Nat.le_of_ble_eq_true rfl, rt_at 1292 (by decide +kernel) (by decide +kernel), fun h => absurd h (by decide), fun h => absurd h (by decide), fun h => absurd h (by decide)⟩, List.forall_mem_cons.mpr ⟨⟨_, rfl, Nat.le_of_ble_eq_true rfl, rt_at 1293 (by decide +kernel) (by decide +kernel), fun _ => ⟨by decide +kernel, rfl, by decide +kernel⟩, fun h => absurd h (by decide), fun h => absurd h (by decide)⟩, List.forall_mem_cons.mpr ⟨⟨_, rfl, Nat.le_of_ble_eq_true rfl, rt_at 1294 (by decide +kernel) (by decide +kernel), fun _ => ⟨by decide +kernel, rfl, by decide +kernel⟩, fun h => absurd h (by decide), fun h => absurd h (by decide)⟩, List.forall_mem_cons.mpr ⟨⟨_, rfl, Nat.le_of_ble_eq_true rfl, rt_at 1295 (by decide +kernel) (by decide +kernel), fun h => absurd h (by decide), fun h => absurd h (by decide), fun h => absurd h (by decide)⟩, List.forall_mem_cons.mpr ⟨⟨_, rfl, Nat.le_of_ble_eq_true rfl, rt_at 1296 (by decide +kernel) (by decide +kernel), fun h => absurd h (by decide), fun h => absurd h (by decide), fun h => absurd h (by decide)⟩, List.forall_mem_cons.mpr ⟨⟨_, rfl, Nat.le_of_ble_eq_true rfl, rt_at 1297 (by decide +kernel) (by decide +kernel), fun h => absurd h (by decide), fun h => absurd h (by decide), fun h => absurd h (by decide)⟩, List.forall_mem_cons.mpr ⟨⟨_, rfl, Nat.le_of_ble_eq_true rfl, rt_at 1298 (by decide +kernel) (by decide +kernel), fun _ => ⟨by decide +kernel, rfl, by decide +kernel⟩, fun h => absurd h (by decide), fun h => absurd h (by decide)⟩, List.forall_mem_cons.mpr ⟨⟨_, rfl, Nat.le_of_ble_eq_true rfl, rt_at 1299 (by decide +kernel) (by decide +kernel), fun h => absurd h (by decide), fun _ => ⟨by decide +kernel, rfl, by decide +kernel⟩, fun h => absurd h (by decide)⟩, List.forall_mem_cons.mpr ⟨⟨_, rfl, Nat.le_of_ble_eq_true rfl, rt_at 1300 (by decide +kernel) (by decide +kernel), fun h => absurd h (by decide), fun h => absurd h (by decide), fun h => absurd h (by decide)⟩, List.forall_mem_cons.mpr ⟨⟨_, rfl, Nat.le_of_ble_eq_true rfl, rt_at 1301 (by decide +kernel) (by decide +kernel), fun h => absurd h (by decide), fun h => absurd h (by decide), fun h => absurd h (by decide)⟩, List.forall_mem_cons.mpr ⟨⟨_, rfl, Nat.le_of_ble_eq_true rfl, rt_at 1302 (by decide +kernel) (by decide +kernel), fun _ => ⟨by decide +kernel, rfl, by decide +kernel⟩, fun h => absurd h (by decide), fun h => absurd h (by decide)⟩, List.forall_mem_cons.mpr ⟨⟨_, rfl, Nat.le_of_ble_eq_true rfl, rt_at 1303 (by decide +kernel) (by decide +kernel), fun h => absurd h (by decide), fun h => absurd h (by decide), fun h => absurd h (by decide)⟩, List.forall_mem_cons.mpr ⟨⟨_, rfl, Nat.le_of_ble_eq_true rfl, rt_at 1304 (by decide +kernel) (by decide +kernel), fun _ => ⟨by decide +kernel, rfl, by decide +kernel⟩, fun h => absurd h (by decide), fun h => absurd h (by decide)⟩, List.forall_mem_cons.mpr ⟨⟨_, rfl, Nat.le_of_ble_eq_true rfl, rt_at 1305 (by decide +kernel) (by decide +kernel), fun _ => ⟨by decide +kernel, rfl, by decide +kernel⟩, fun h => absurd h (by decide), fun h => absurd h (by decide)⟩, List.forall_mem_cons.mpr ⟨⟨_, rfl, Nat.le_of_ble_eq_true rfl, rt_at 1306 (by decide +kernel) (by decide +kernel), fun _ => ⟨by decide +kernel, rfl, by decide +kernel⟩, fun h => absurd h (by decide), fun h => absurd h (by decide)⟩, List.forall_mem_cons.mpr ⟨⟨_, rfl, Nat.le_of_ble_eq_true rfl, rt_at 1307 (by decide +kernel) (by decide +kernel), fun _ => ⟨by decide +kernel, rfl, by decide +kernel⟩, fun h => absurd h (by decide), fun h => absurd h (by decide)⟩, List.forall_mem_cons.mpr ⟨⟨_, rfl, Nat.le_of_ble_eq_true rfl, rt_at 1308 (by decide +kernel) (by decide +kernel), fun _ => ⟨by decide +kernel, rfl, by decide +kernel⟩, fun h => absurd h (by decide), fun h => absurd h (by decide)⟩, List.forall_mem_cons.mpr ⟨⟨_, rfl, Nat.le_of_ble_eq_true rfl, rt_at 1309 (by decide +kernel) (by decide +kernel), fun h => absurd h (by decide), fun h => absurd h (by decide), fun h => absurd h (by decide)⟩, List.forall_mem_cons.mpr ⟨⟨_, rfl, Nat.le_of_ble_eq_true rfl, rt_at 1310 (by decide +kernel) (by decide +kernel), fun h => absurd h (by decide), fun h => absurd h (by decide), fun h => absurd h (by decide)⟩, List.forall_mem_cons.mpr ⟨⟨_, rfl, Nat.le_of_ble_eq_true rfl, rt_at 1311 (by decide +kernel) (by decide +kernel), fun h => absurd h (by decide), fun h => absurd h (by decide), fun h => absurd h (by decide)⟩, List.forall_mem_cons.mpr ⟨⟨_, rfl, Nat.le_of_ble_eq_true rfl, rt_at 1312 (by decide +kernel) (by decide +kernel), fun h => absurd h (by decide), fun h => absurd h (by decide), fun h => absurd h (by decide)⟩, List.forall_mem_cons.mpr ⟨⟨_, rfl, Nat.le_of_ble_eq_true rfl, rt_at 1313 (by decide +kernel) (by decide +kernel), fun _ => ⟨by decide +kernel, rfl, by decide +kernel⟩, fun h => absurd h (by decide), fun h => absurd h (by decide)⟩, List.forall_mem_cons.mpr ⟨⟨_, rfl, Nat.le_of_ble_eq_true rfl, rt_at 1314 (by decide +kernel) (by decide +kernel), fun h => absurd h (by decide), fun h => absurd h (by decide), fun h => absurd h (by decide)⟩, List.forall_mem_cons.mpr ⟨⟨_, rfl, Nat.le_of_ble_eq_true rfl, rt_at 1315 (by decide +kernel) (by decide +kernel), fun _ => ⟨by decide +kernel, rfl, by decide +kernel⟩, fun h => absurd h (by decide), fun h => absurd h (by decide)⟩, List.forall_mem_cons.mpr ⟨⟨_, rfl, Nat.le_of_ble_eq_true rfl, rt_at 1316 (by decide +kernel) (by decide +kernel), fun _ => ⟨by decide +kernel, rfl, by decide +kernel⟩, fun h => absurd h (by decide), fun h => absurd h (by decide)⟩, List.forall_mem_cons.mpr ⟨⟨_, rfl, Nat.le_of_ble_eq_true rfl, rt_at 1317 (by decide +kernel) (by decide +kernel), fun _ => ⟨by decide +kernel, rfl, by decide +kernel⟩, fun h => absurd h (by decide), fun h => absurd h (by decide)⟩, List.forall_mem_cons.mpr ⟨⟨_, rfl, Nat.le_of_ble_eq_true rfl, rt_at 1318 (by decide +kernel) (by decide +kernel), fun h => absurd h (by decide), fun h => absurd h (by decide), fun h => absurd h (by decide)⟩, List.forall_mem_cons.mpr ⟨⟨_, rfl, Nat.le_of_ble_eq_true rfl, rt_at 1319 (by decide +kernel) (by decide +kernel), fun _ => ⟨by decide +kernel, rfl, by decide +kernel⟩, fun h => absurd h (by decide), fun h => absurd h (by decide)⟩, List.forall_mem_cons.mpr ⟨⟨_, rfl, Nat.le_of_ble_eq_true rfl, rt_at 1320 (by decide +kernel) (by decide +kernel), fun h => absurd h (by decide), fun h => absurd h (by decide), fun h => absurd h (by decide)⟩, List.forall_mem_cons.mpr ⟨⟨_, rfl, Nat.le_of_ble_eq_true rfl, rt_at 1321 (by decide +kernel) (by decide +kernel), fun _ => ⟨by decide +kernel, rfl, by decide +kernel⟩, fun h => absurd h (by decide), fun h => absurd h (by decide)⟩, List.forall_mem_cons.mpr ⟨⟨_, rfl, Nat.le_of_ble_eq_true rfl, rt_at 1322 (by decide +kernel) (by decide +kernel), fun h => absurd h (by decide), fun h => absurd h (by decide), fun h => absurd h (by decide)⟩, List.forall_mem_cons.mpr ⟨⟨_, rfl, Nat.le_of_ble_eq_true rfl, rt_at 1323 (by decide +kernel) (by decide +kernel), fun _ => ⟨by decide +kernel, rfl, by decide +kernel⟩, fun h => absurd h (by decide), fun h => absurd h (by decide)⟩, List.forall_mem_cons.mpr ⟨⟨_, rfl, Nat.le_of_ble_eq_true rfl, rt_at 1324 (by decide +kernel) (by decide +kernel), fun h => absurd h (by decide), fun h => absurd h (by decide), fun h => absurd h (by decide)⟩, List.forall_mem_cons.mpr ⟨⟨_, rfl, Nat.le_of_ble_eq_true rfl, rt_at 1325 (by decide +kernel) (by decide +kernel), fun h => absurd h (by decide), fun h => absurd h (by decide), fun h => absurd h (by decide)⟩, List.forall_mem_cons.mpr ⟨⟨_, rfl, Nat.le_of_ble_eq_true rfl, rt_at 1326 (by decide +kernel) (by decide +kernel), fun h => absurd h (by decide), fun h => absurd h (by decide), fun h => absurd h (by decide)⟩, fun _ h => absurd h List.not_mem_nil⟩⟩⟩⟩⟩⟩⟩⟩⟩⟩⟩⟩⟩⟩⟩⟩⟩⟩⟩⟩⟩⟩⟩⟩⟩⟩⟩⟩⟩⟩⟩⟩⟩⟩⟩⟩⟩⟩⟩⟩⟩⟩⟩⟩⟩⟩⟩⟩⟩⟩⟩⟩⟩⟩⟩⟩
theorem zX12_m : ∀ e ∈ zX12.2.1, Cond.methodLink RX12 e.1 e.2.1.1 ∈ rt_tbl ∧ rt_okK e.2.1 e.2.2.1 e.2.2.2 := List.forall_mem_cons.mpr ⟨⟨rt_at 1453 (by decide +kernel) (by decide +kernel), okX12_in⟩, List.forall_mem_cons.mpr ⟨⟨rt_at 1460 (by decide +kernel) (by decide +kernel), okX12_begin⟩, List.forall_mem_cons.mpr ⟨⟨rt_at 1464 (by decide +kernel) (by decide +kernel), okX12_fine⟩, List.forall_mem_cons.mpr ⟨⟨rt_at 1468 (by decide +kernel) (by decide +kernel), okX12_readLine⟩, List.forall_mem_cons.mpr ⟨⟨rt_at 1472 (by decide +kernel) (by decide +kernel), okX12_here⟩, List.forall_mem_cons.mpr ⟨⟨rt_at 1476 (by decide +kernel) (by decide +kernel), okX12_number⟩, List.forall_mem_cons.mpr ⟨⟨rt_at 1480 (by decide +kernel) (by decide +kernel), okX12_digit⟩, List.forall_mem_cons.mpr ⟨⟨rt_at 1484 (by decide +kernel) (by decide +kernel), okX12_oneOf⟩, List.forall_mem_cons.mpr ⟨⟨rt_at 1488 (by decide +kernel) (by decide +kernel), okX12_fault⟩, List.forall_mem_cons.mpr ⟨⟨rt_at 1492 (by decide +kernel) (by decide +kernel), okX12_need⟩, List.forall_mem_cons.mpr ⟨⟨rt_at 1496 (by decide +kernel) (by decide +kernel), okX12_passes⟩, List.forall_mem_cons.mpr ⟨⟨rt_at 1504 (by decide +kernel) (by decide +kernel), okX12_number_⟩, List.forall_mem_cons.mpr ⟨⟨rt_at 1512 (by decide +kernel) (by decide +kernel), okX12_stand⟩, List.forall_mem_cons.mpr ⟨⟨rt_at 1519 (by decide +kernel) (by decide +kernel), okX12_held⟩, List.forall_mem_cons.mpr ⟨⟨rt_at 1523 (by decide +kernel) (by decide +kernel), okX12_sum⟩, List.forall_mem_cons.mpr ⟨⟨rt_at 1527 (by decide +kernel) (by decide +kernel), okX12_product⟩, List.forall_mem_cons.mpr ⟨⟨rt_at 1531 (by decide +kernel) (by decide +kernel), okX12_thing⟩, List.forall_mem_cons.mpr ⟨⟨rt_at 1535 (by decide +kernel) (by decide +kernel), okX12_letterOf⟩, List.forall_mem_cons.mpr ⟨⟨rt_at 1542 (by decide +kernel) (by decide +kernel), okX12_isPlace⟩, List.forall_mem_cons.mpr ⟨⟨rt_at 1546 (by decide +kernel) (by decide +kernel), okX12_lost⟩, List.forall_mem_cons.mpr ⟨⟨rt_at 1550 (by decide +kernel) (by decide +kernel), okX12_cartsAt⟩, List.forall_mem_cons.mpr ⟨⟨rt_at 1554 (by decide +kernel) (by decide +kernel), okX12_beyond⟩, List.forall_mem_cons.mpr ⟨⟨rt_at 1557 (by decide +kernel) (by decide +kernel), okX12_endOf⟩, List.forall_mem_cons.mpr ⟨⟨rt_at 1560 (by decide +kernel) (by decide +kernel), okX12_isThere⟩, List.forall_mem_cons.mpr ⟨⟨rt_at 1564 (by decide +kernel) (by decide +kernel), okX12_levelAt⟩, List.forall_mem_cons.mpr ⟨⟨rt_at 1568 (by decide +kernel) (by decide +kernel), okX12_heightOf⟩, List.forall_mem_cons.mpr ⟨⟨rt_at 1575 (by decide +kernel) (by decide +kernel), okX12_isRoad⟩, List.forall_mem_cons.mpr ⟨⟨rt_at 1579 (by decide +kernel) (by decide +kernel), okX12_turnsOf⟩, List.forall_mem_cons.mpr ⟨⟨rt_at 1589 (by decide +kernel) (by decide +kernel), okX12_isCart⟩, List.forall_mem_cons.mpr ⟨⟨rt_at 1605 (by decide +kernel) (by decide +kernel), okX12_refusesOut⟩, List.forall_mem_cons.mpr ⟨⟨rt_at 1609 (by decide +kernel) (by decide +kernel), okX12_remember⟩, List.forall_mem_cons.mpr ⟨⟨rt_at 1613 (by decide +kernel) (by decide +kernel), okX12_lay⟩, List.forall_mem_cons.mpr ⟨⟨rt_at 1616 (by decide +kernel) (by decide +kernel), okX12_goOut⟩, List.forall_mem_cons.mpr ⟨⟨rt_at 1624 (by decide +kernel) (by decide +kernel), okX12_canRound⟩, List.forall_mem_cons.mpr ⟨⟨rt_at 1628 (by decide +kernel) (by decide +kernel), okX12_goRound⟩, List.forall_mem_cons.mpr ⟨⟨rt_at 1636 (by decide +kernel) (by decide +kernel), okX12_canChain⟩, List.forall_mem_cons.mpr ⟨⟨rt_at 1644 (by decide +kernel) (by decide +kernel), okX12_canLoad⟩, List.forall_mem_cons.mpr ⟨⟨rt_at 1652 (by decide +kernel) (by decide +kernel), okX12_isUsed⟩, List.forall_mem_cons.mpr ⟨⟨rt_at 1660 (by decide +kernel) (by decide +kernel), okX12_beginTurns⟩, List.forall_mem_cons.mpr ⟨⟨rt_at 1664 (by decide +kernel) (by decide +kernel), okX12_goTurns⟩, List.forall_mem_cons.mpr ⟨⟨rt_at 1668 (by decide +kernel) (by decide +kernel), okX12_goTurn⟩, List.forall_mem_cons.mpr ⟨⟨rt_at 1672 (by decide +kernel) (by decide +kernel), okJ6_bitCount_0f7a4⟩, List.forall_mem_cons.mpr ⟨⟨rt_at 1673 (by decide +kernel) (by decide +kernel), okX12_tell⟩, List.forall_mem_cons.mpr ⟨⟨rt_at 1681 (by decide +kernel) (by decide +kernel), okX12_readAct⟩, List.forall_mem_cons.mpr ⟨⟨rt_at 1685 (by decide +kernel) (by decide +kernel), okX12_act⟩, List.forall_mem_cons.mpr ⟨⟨rt_at 1697 (by decide +kernel) (by decide +kernel), okX12_isLook⟩, List.forall_mem_cons.mpr ⟨⟨rt_at 1700 (by decide +kernel) (by decide +kernel), okX12_levelIn⟩, List.forall_mem_cons.mpr ⟨⟨rt_at 1704 (by decide +kernel) (by decide +kernel), okJ6_compare_7cf53⟩, List.forall_mem_cons.mpr ⟨⟨rt_at 1709 (by decide +kernel) (by decide +kernel), okX12_comesIn⟩, List.forall_mem_cons.mpr ⟨⟨rt_at 1729 (by decide +kernel) (by decide +kernel), okX12_common⟩, List.forall_mem_cons.mpr ⟨⟨rt_at 1736 (by decide +kernel) (by decide +kernel), okX12_wayOf⟩, List.forall_mem_cons.mpr ⟨⟨rt_at 1740 (by decide +kernel) (by decide +kernel), okX12_findSoon⟩, List.forall_mem_cons.mpr ⟨⟨rt_at 1745 (by decide +kernel) (by decide +kernel), okX12_has⟩, List.forall_mem_cons.mpr ⟨⟨rt_at 1748 (by decide +kernel) (by decide +kernel), okX12_soonestBy⟩, List.forall_mem_cons.mpr ⟨⟨rt_at 1752 (by decide +kernel) (by decide +kernel), okX12_canGo⟩, List.forall_mem_cons.mpr ⟨⟨rt_at 1756 (by decide +kernel) (by decide +kernel), okX12_nextRoad⟩, List.forall_mem_cons.mpr ⟨⟨rt_at 1760 (by decide +kernel) (by decide +kernel), okX12_canCome⟩, List.forall_mem_cons.mpr ⟨⟨rt_at 1784 (by decide +kernel) (by decide +kernel), okX12_goCarrier⟩, List.forall_mem_cons.mpr ⟨⟨rt_at 1788 (by decide +kernel) (by decide +kernel), okX12_soonFrom⟩, List.forall_mem_cons.mpr ⟨⟨rt_at 1800 (by decide +kernel) (by decide +kernel), okX12_ridesOn⟩, List.forall_mem_cons.mpr ⟨⟨rt_at 1804 (by decide +kernel) (by decide +kernel), okX12_rides⟩, List.forall_mem_cons.mpr ⟨⟨rt_at 1828 (by decide +kernel) (by decide +kernel), okX12_fitsBy⟩, List.forall_mem_cons.mpr ⟨⟨rt_at 1837 (by decide +kernel) (by decide +kernel), okX12_findTold⟩, List.forall_mem_cons.mpr ⟨⟨rt_at 1841 (by decide +kernel) (by decide +kernel), okX12_toldAt⟩, List.forall_mem_cons.mpr ⟨⟨rt_at 1853 (by decide +kernel) (by decide +kernel), okX12_draw⟩, fun _ h => absurd h List.not_mem_nil⟩⟩⟩⟩⟩⟩⟩⟩⟩⟩⟩⟩⟩⟩⟩⟩⟩⟩⟩⟩⟩⟩⟩⟩⟩⟩⟩⟩⟩⟩⟩⟩⟩⟩⟩⟩⟩⟩⟩⟩⟩⟩⟩⟩⟩⟩⟩⟩⟩⟩⟩⟩⟩⟩⟩⟩⟩⟩⟩⟩⟩⟩⟩⟩⟩
theorem zX12_c : ∀ e ∈ zX12.2.2.1, Cond.constant RX12 e.1 e.2 ∈ rt_tbl := List.forall_mem_cons.mpr ⟨rt_at 1744 (by decide +kernel) (by decide +kernel), List.forall_mem_cons.mpr ⟨rt_at 1857 (by decide +kernel) (by decide +kernel), fun _ h => absurd h List.not_mem_nil⟩⟩
theorem zX12_l : ∀ e ∈ zX12.2.2.2.1, Cond.constantLong RX12 e.1 e.2 ∈ rt_tbl := fun _ h => absurd h List.not_mem_nil
theorem zX12_a : ∀ e ∈ zX12.2.2.2.2, Cond.methodLink RX12 e.1 (rt_nat e.2) ∈ rt_tbl := List.forall_mem_cons.mpr ⟨rt_at 1583 (by decide +kernel) (by decide +kernel), List.forall_mem_cons.mpr ⟨rt_at 1584 (by decide +kernel) (by decide +kernel), List.forall_mem_cons.mpr ⟨rt_at 1832 (by decide +kernel) (by decide +kernel), fun _ h => absurd h List.not_mem_nil⟩⟩⟩
theorem zX12_ok : rt_okZ RX12 zX12 := ⟨zX12_f, zX12_m, zX12_c, zX12_l, zX12_a⟩
def zJ6 : rt_Z := ([], [], [(265, 1431655765), (266, 858993459), (267, 252645135), (264, 65536)], [], [])
theorem zJ6_f : ∀ e ∈ zJ6.1, rt_okf RJ6 e.1 e.2.1 e.2.2.1 e.2.2.2 := fun _ h => absurd h List.not_mem_nil
theorem zJ6_m : ∀ e ∈ zJ6.2.1, Cond.methodLink RJ6 e.1 e.2.1.1 ∈ rt_tbl ∧ rt_okK e.2.1 e.2.2.1 e.2.2.2 := fun _ h => absurd h List.not_mem_nil
theorem zJ6_c : ∀ e ∈ zJ6.2.2.1, Cond.constant RJ6 e.1 e.2 ∈ rt_tbl := List.forall_mem_cons.mpr ⟨rt_at 934 (by decide +kernel) (by decide +kernel), List.forall_mem_cons.mpr ⟨rt_at 935 (by decide +kernel) (by decide +kernel), List.forall_mem_cons.mpr ⟨rt_at 936 (by decide +kernel) (by decide +kernel), List.forall_mem_cons.mpr ⟨rt_at 1115 (by decide +kernel) (by decide +kernel), fun _ h => absurd h List.not_mem_nil⟩⟩⟩⟩
theorem zJ6_l : ∀ e ∈ zJ6.2.2.2.1, Cond.constantLong RJ6 e.1 e.2 ∈ rt_tbl := fun _ h => absurd h List.not_mem_nil
theorem zJ6_a : ∀ e ∈ zJ6.2.2.2.2, Cond.methodLink RJ6 e.1 (rt_nat e.2) ∈ rt_tbl := fun _ h => absurd h List.not_mem_nil
theorem zJ6_ok : rt_okZ RJ6 zJ6 := ⟨zJ6_f, zJ6_m, zJ6_c, zJ6_l, zJ6_a⟩
def zJ13 : rt_Z := ([], [(311, kJ6_numberOfTrailingZeros_0f7a4, 1, none), (308, kJ6_numberOfLeadingZeros_0f7a4, 1, none)], [], [(314, 6148914691236517205), (316, 3689348814741910323), (318, 1085102592571150095)], [])
theorem zJ13_f : ∀ e ∈ zJ13.1, rt_okf RJ13 e.1 e.2.1 e.2.2.1 e.2.2.2 := fun _ h => absurd h List.not_mem_nil
theorem zJ13_m : ∀ e ∈ zJ13.2.1, Cond.methodLink RJ13 e.1 e.2.1.1 ∈ rt_tbl ∧ rt_okK e.2.1 e.2.2.1 e.2.2.2 := List.forall_mem_cons.mpr ⟨⟨rt_at 1112 (by decide +kernel) (by decide +kernel), okJ6_numberOfTrailingZeros_0f7a4⟩, List.forall_mem_cons.mpr ⟨⟨rt_at 1119 (by decide +kernel) (by decide +kernel), okJ6_numberOfLeadingZeros_0f7a4⟩, fun _ h => absurd h List.not_mem_nil⟩⟩
theorem zJ13_c : ∀ e ∈ zJ13.2.2.1, Cond.constant RJ13 e.1 e.2 ∈ rt_tbl := fun _ h => absurd h List.not_mem_nil
theorem zJ13_l : ∀ e ∈ zJ13.2.2.2.1, Cond.constantLong RJ13 e.1 e.2 ∈ rt_tbl := List.forall_mem_cons.mpr ⟨rt_at 1125 (by decide +kernel) (by decide +kernel), List.forall_mem_cons.mpr ⟨rt_at 1126 (by decide +kernel) (by decide +kernel), List.forall_mem_cons.mpr ⟨rt_at 1127 (by decide +kernel) (by decide +kernel), fun _ h => absurd h List.not_mem_nil⟩⟩⟩
theorem zJ13_a : ∀ e ∈ zJ13.2.2.2.2, Cond.methodLink RJ13 e.1 (rt_nat e.2) ∈ rt_tbl := fun _ h => absurd h List.not_mem_nil
theorem zJ13_ok : rt_okZ RJ13 zJ13 := ⟨zJ13_f, zJ13_m, zJ13_c, zJ13_l, zJ13_a⟩
def zJ9 : rt_Z := ([], [], [], [], [])
theorem zJ9_f : ∀ e ∈ zJ9.1, rt_okf RJ9 e.1 e.2.1 e.2.2.1 e.2.2.2 := fun _ h => absurd h List.not_mem_nil
theorem zJ9_m : ∀ e ∈ zJ9.2.1, Cond.methodLink RJ9 e.1 e.2.1.1 ∈ rt_tbl ∧ rt_okK e.2.1 e.2.2.1 e.2.2.2 := fun _ h => absurd h List.not_mem_nil
theorem zJ9_c : ∀ e ∈ zJ9.2.2.1, Cond.constant RJ9 e.1 e.2 ∈ rt_tbl := fun _ h => absurd h List.not_mem_nil
theorem zJ9_l : ∀ e ∈ zJ9.2.2.2.1, Cond.constantLong RJ9 e.1 e.2 ∈ rt_tbl := fun _ h => absurd h List.not_mem_nil
theorem zJ9_a : ∀ e ∈ zJ9.2.2.2.2, Cond.methodLink RJ9 e.1 (rt_nat e.2) ∈ rt_tbl := fun _ h => absurd h List.not_mem_nil
theorem zJ9_ok : rt_okZ RJ9 zJ9 := ⟨zJ9_f, zJ9_m, zJ9_c, zJ9_l, zJ9_a⟩
def zJ7 : rt_Z := ([], [], [], [], [])
theorem zJ7_f : ∀ e ∈ zJ7.1, rt_okf RJ7 e.1 e.2.1 e.2.2.1 e.2.2.2 := fun _ h => absurd h List.not_mem_nil
theorem zJ7_m : ∀ e ∈ zJ7.2.1, Cond.methodLink RJ7 e.1 e.2.1.1 ∈ rt_tbl ∧ rt_okK e.2.1 e.2.2.1 e.2.2.2 := fun _ h => absurd h List.not_mem_nil
theorem zJ7_c : ∀ e ∈ zJ7.2.2.1, Cond.constant RJ7 e.1 e.2 ∈ rt_tbl := fun _ h => absurd h List.not_mem_nil
theorem zJ7_l : ∀ e ∈ zJ7.2.2.2.1, Cond.constantLong RJ7 e.1 e.2 ∈ rt_tbl := fun _ h => absurd h List.not_mem_nil
theorem zJ7_a : ∀ e ∈ zJ7.2.2.2.2, Cond.methodLink RJ7 e.1 (rt_nat e.2) ∈ rt_tbl := fun _ h => absurd h List.not_mem_nil
theorem zJ7_ok : rt_okZ RJ7 zJ7 := ⟨zJ7_f, zJ7_m, zJ7_c, zJ7_l, zJ7_a⟩
