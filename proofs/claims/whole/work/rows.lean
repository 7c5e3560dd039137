section
-- ===== PART A: goes FIRST, ahead of the names: the tables' words, and 'selects' of the private methods out of them =====
/-- a private method of a class that the tables say can be made, by its rows of tables_1 -/
def lw_okq (q : MethodName × Nat) : Prop := (q.1.cls ≠ "java/lang/invoke/MethodHandle" ∧ q.1.cls ≠ "java/lang/invoke/VarHandle") ∧ Cond.instantiable q.1.cls q.2 ∈ tables_1 ∧ Cond.privateMethod q.1 ∈ tables_1 ∧ Cond.instanceMethod q.1 ∈ tables_1
theorem lw_p0 : lw_okq (⟨"SwapTables", "become", "(I)V"⟩, 10) := ⟨⟨by decide +kernel, by decide +kernel⟩, List.mem_of_getElem? (i := 20) (by decide +kernel), List.mem_of_getElem? (i := 274) (by decide +kernel), List.mem_of_getElem? (i := 275) (by decide +kernel)⟩
theorem lw_p1 : lw_okq (⟨"SwapTables$Shape", "fillFrom", "(I)V"⟩, 9) := ⟨⟨by decide +kernel, by decide +kernel⟩, List.mem_of_getElem? (i := 28) (by decide +kernel), List.mem_of_getElem? (i := 289) (by decide +kernel), List.mem_of_getElem? (i := 290) (by decide +kernel)⟩
theorem lw_p2 : lw_okq (⟨"SwapTables$Shape", "keepFilling", "()V"⟩, 9) := ⟨⟨by decide +kernel, by decide +kernel⟩, List.mem_of_getElem? (i := 28) (by decide +kernel), List.mem_of_getElem? (i := 293) (by decide +kernel), List.mem_of_getElem? (i := 294) (by decide +kernel)⟩
theorem lw_p3 : lw_okq (⟨"SwapTables$Shape", "canTakeNext", "(I)Z"⟩, 9) := ⟨⟨by decide +kernel, by decide +kernel⟩, List.mem_of_getElem? (i := 28) (by decide +kernel), List.mem_of_getElem? (i := 300) (by decide +kernel), List.mem_of_getElem? (i := 301) (by decide +kernel)⟩
theorem lw_p4 : lw_okq (⟨"SwapTables$WholeAxes", "numberAtTabloid", "(I)I"⟩, 4) := ⟨⟨by decide +kernel, by decide +kernel⟩, List.mem_of_getElem? (i := 73) (by decide +kernel), List.mem_of_getElem? (i := 316) (by decide +kernel), List.mem_of_getElem? (i := 317) (by decide +kernel)⟩
theorem lw_p5 : lw_okq (⟨"SwapTables$Shape", "isTakenTo", "(III)Z"⟩, 9) := ⟨⟨by decide +kernel, by decide +kernel⟩, List.mem_of_getElem? (i := 28) (by decide +kernel), List.mem_of_getElem? (i := 359) (by decide +kernel), List.mem_of_getElem? (i := 360) (by decide +kernel)⟩
theorem lw_p6 : lw_okq (⟨"SwapTables", "isStandard", "(I)Z"⟩, 10) := ⟨⟨by decide +kernel, by decide +kernel⟩, List.mem_of_getElem? (i := 20) (by decide +kernel), List.mem_of_getElem? (i := 455) (by decide +kernel), List.mem_of_getElem? (i := 456) (by decide +kernel)⟩
theorem lw_p7 : lw_okq (⟨"SwapTables", "isNumber", "(I)Z"⟩, 10) := ⟨⟨by decide +kernel, by decide +kernel⟩, List.mem_of_getElem? (i := 20) (by decide +kernel), List.mem_of_getElem? (i := 459) (by decide +kernel), List.mem_of_getElem? (i := 460) (by decide +kernel)⟩
theorem lw_p8 : lw_okq (⟨"SwapTables", "refusalOf", "(II)I"⟩, 10) := ⟨⟨by decide +kernel, by decide +kernel⟩, List.mem_of_getElem? (i := 20) (by decide +kernel), List.mem_of_getElem? (i := 469) (by decide +kernel), List.mem_of_getElem? (i := 470) (by decide +kernel)⟩
theorem lw_p9 : lw_okq (⟨"SwapTables", "isSwap", "(I)Z"⟩, 10) := ⟨⟨by decide +kernel, by decide +kernel⟩, List.mem_of_getElem? (i := 20) (by decide +kernel), List.mem_of_getElem? (i := 497) (by decide +kernel), List.mem_of_getElem? (i := 498) (by decide +kernel)⟩
theorem lw_p10 : lw_okq (⟨"SwapTables", "makeOtherwise", "(II)I"⟩, 10) := ⟨⟨by decide +kernel, by decide +kernel⟩, List.mem_of_getElem? (i := 20) (by decide +kernel), List.mem_of_getElem? (i := 506) (by decide +kernel), List.mem_of_getElem? (i := 507) (by decide +kernel)⟩
theorem lw_p11 : lw_okq (⟨"SwapTables", "isPartition", "(I)Z"⟩, 10) := ⟨⟨by decide +kernel, by decide +kernel⟩, List.mem_of_getElem? (i := 20) (by decide +kernel), List.mem_of_getElem? (i := 569) (by decide +kernel), List.mem_of_getElem? (i := 570) (by decide +kernel)⟩
theorem lw_p12 : lw_okq (⟨"SwapTables$WholeAxes", "straighten", "()V"⟩, 4) := ⟨⟨by decide +kernel, by decide +kernel⟩, List.mem_of_getElem? (i := 73) (by decide +kernel), List.mem_of_getElem? (i := 584) (by decide +kernel), List.mem_of_getElem? (i := 585) (by decide +kernel)⟩
theorem lw_p13 : lw_okq (⟨"SwapTables$SeminormalAxes", "goOn", "(LSwapTables$FractionRow;ILSwapTables$FractionRow;)V"⟩, 4) := ⟨⟨by decide +kernel, by decide +kernel⟩, List.mem_of_getElem? (i := 94) (by decide +kernel), List.mem_of_getElem? (i := 609) (by decide +kernel), List.mem_of_getElem? (i := 610) (by decide +kernel)⟩
theorem lw_p14 : lw_okq (⟨"SwapTables", "isInVector", "(II)Z"⟩, 10) := ⟨⟨by decide +kernel, by decide +kernel⟩, List.mem_of_getElem? (i := 20) (by decide +kernel), List.mem_of_getElem? (i := 664) (by decide +kernel), List.mem_of_getElem? (i := 665) (by decide +kernel)⟩
theorem lw_p15 : lw_okq (⟨"SwapTables$Reader", "begin", "(I)V"⟩, 12) := ⟨⟨by decide +kernel, by decide +kernel⟩, List.mem_of_getElem? (i := 187) (by decide +kernel), List.mem_of_getElem? (i := 745) (by decide +kernel), List.mem_of_getElem? (i := 746) (by decide +kernel)⟩
def lw_privs_1 : List (MethodName × Nat) := [(⟨"SwapTables", "become", "(I)V"⟩, 10), (⟨"SwapTables$Shape", "fillFrom", "(I)V"⟩, 9), (⟨"SwapTables$Shape", "keepFilling", "()V"⟩, 9), (⟨"SwapTables$Shape", "canTakeNext", "(I)Z"⟩, 9), (⟨"SwapTables$WholeAxes", "numberAtTabloid", "(I)I"⟩, 4), (⟨"SwapTables$Shape", "isTakenTo", "(III)Z"⟩, 9), (⟨"SwapTables", "isStandard", "(I)Z"⟩, 10), (⟨"SwapTables", "isNumber", "(I)Z"⟩, 10), (⟨"SwapTables", "refusalOf", "(II)I"⟩, 10), (⟨"SwapTables", "isSwap", "(I)Z"⟩, 10), (⟨"SwapTables", "makeOtherwise", "(II)I"⟩, 10), (⟨"SwapTables", "isPartition", "(I)Z"⟩, 10), (⟨"SwapTables$WholeAxes", "straighten", "()V"⟩, 4), (⟨"SwapTables$SeminormalAxes", "goOn", "(LSwapTables$FractionRow;ILSwapTables$FractionRow;)V"⟩, 4), (⟨"SwapTables", "isInVector", "(II)Z"⟩, 10), (⟨"SwapTables$Reader", "begin", "(I)V"⟩, 12)]
theorem lw_r1 : ∀ q ∈ lw_privs_1, lw_okq q := List.forall_mem_cons.mpr ⟨lw_p0, List.forall_mem_cons.mpr ⟨lw_p1, List.forall_mem_cons.mpr ⟨lw_p2, List.forall_mem_cons.mpr ⟨lw_p3, List.forall_mem_cons.mpr ⟨lw_p4, List.forall_mem_cons.mpr ⟨lw_p5, List.forall_mem_cons.mpr ⟨lw_p6, List.forall_mem_cons.mpr ⟨lw_p7, List.forall_mem_cons.mpr ⟨lw_p8, List.forall_mem_cons.mpr ⟨lw_p9, List.forall_mem_cons.mpr ⟨lw_p10, List.forall_mem_cons.mpr ⟨lw_p11, List.forall_mem_cons.mpr ⟨lw_p12, List.forall_mem_cons.mpr ⟨lw_p13, List.forall_mem_cons.mpr ⟨lw_p14, List.forall_mem_cons.mpr ⟨lw_p15, fun _ h => absurd h List.not_mem_nil⟩⟩⟩⟩⟩⟩⟩⟩⟩⟩⟩⟩⟩⟩⟩⟩
theorem lw_p16 : lw_okq (⟨"SwapTables$Reader", "goesOnWith", "(II)Z"⟩, 12) := ⟨⟨by decide +kernel, by decide +kernel⟩, List.mem_of_getElem? (i := 187) (by decide +kernel), List.mem_of_getElem? (i := 750) (by decide +kernel), List.mem_of_getElem? (i := 751) (by decide +kernel)⟩
theorem lw_p17 : lw_okq (⟨"SwapTables$Reader", "beginsPart", "(II)Z"⟩, 12) := ⟨⟨by decide +kernel, by decide +kernel⟩, List.mem_of_getElem? (i := 187) (by decide +kernel), List.mem_of_getElem? (i := 754) (by decide +kernel), List.mem_of_getElem? (i := 755) (by decide +kernel)⟩
theorem lw_p18 : lw_okq (⟨"SwapTables$Reader", "beginCycle", "()V"⟩, 12) := ⟨⟨by decide +kernel, by decide +kernel⟩, List.mem_of_getElem? (i := 187) (by decide +kernel), List.mem_of_getElem? (i := 758) (by decide +kernel), List.mem_of_getElem? (i := 759) (by decide +kernel)⟩
theorem lw_p19 : lw_okq (⟨"SwapTables$Reader", "opensBracket", "(I)Z"⟩, 12) := ⟨⟨by decide +kernel, by decide +kernel⟩, List.mem_of_getElem? (i := 187) (by decide +kernel), List.mem_of_getElem? (i := 766) (by decide +kernel), List.mem_of_getElem? (i := 767) (by decide +kernel)⟩
theorem lw_p20 : lw_okq (⟨"SwapTables$Reader", "endPart", "(I)V"⟩, 12) := ⟨⟨by decide +kernel, by decide +kernel⟩, List.mem_of_getElem? (i := 187) (by decide +kernel), List.mem_of_getElem? (i := 770) (by decide +kernel), List.mem_of_getElem? (i := 771) (by decide +kernel)⟩
theorem lw_p21 : lw_okq (⟨"SwapTables$Reader", "endsSwap", "(II)Z"⟩, 12) := ⟨⟨by decide +kernel, by decide +kernel⟩, List.mem_of_getElem? (i := 187) (by decide +kernel), List.mem_of_getElem? (i := 776) (by decide +kernel), List.mem_of_getElem? (i := 777) (by decide +kernel)⟩
theorem lw_p22 : lw_okq (⟨"SwapTables$Reader", "noteWrong", "(I)V"⟩, 12) := ⟨⟨by decide +kernel, by decide +kernel⟩, List.mem_of_getElem? (i := 187) (by decide +kernel), List.mem_of_getElem? (i := 784) (by decide +kernel), List.mem_of_getElem? (i := 785) (by decide +kernel)⟩
theorem lw_p23 : lw_okq (⟨"SwapTables$Reader", "refuse", "(II)V"⟩, 12) := ⟨⟨by decide +kernel, by decide +kernel⟩, List.mem_of_getElem? (i := 187) (by decide +kernel), List.mem_of_getElem? (i := 788) (by decide +kernel), List.mem_of_getElem? (i := 789) (by decide +kernel)⟩
theorem lw_p24 : lw_okq (⟨"SwapTables$Reader", "goesOnInCycle", "(II)Z"⟩, 12) := ⟨⟨by decide +kernel, by decide +kernel⟩, List.mem_of_getElem? (i := 187) (by decide +kernel), List.mem_of_getElem? (i := 797) (by decide +kernel), List.mem_of_getElem? (i := 798) (by decide +kernel)⟩
theorem lw_p25 : lw_okq (⟨"SwapTables$Reader", "takeIntoCycle", "(II)V"⟩, 12) := ⟨⟨by decide +kernel, by decide +kernel⟩, List.mem_of_getElem? (i := 187) (by decide +kernel), List.mem_of_getElem? (i := 801) (by decide +kernel), List.mem_of_getElem? (i := 802) (by decide +kernel)⟩
theorem lw_p26 : lw_okq (⟨"SwapTables$Reader", "goesOnBehindPart", "(I)Z"⟩, 12) := ⟨⟨by decide +kernel, by decide +kernel⟩, List.mem_of_getElem? (i := 187) (by decide +kernel), List.mem_of_getElem? (i := 806) (by decide +kernel), List.mem_of_getElem? (i := 807) (by decide +kernel)⟩
theorem lw_p27 : lw_okq (⟨"SwapTables$Reader", "refuseFault", "(I)I"⟩, 12) := ⟨⟨by decide +kernel, by decide +kernel⟩, List.mem_of_getElem? (i := 187) (by decide +kernel), List.mem_of_getElem? (i := 810) (by decide +kernel), List.mem_of_getElem? (i := 811) (by decide +kernel)⟩
theorem lw_p28 : lw_okq (⟨"SwapTables", "shelvesInUse", "()I"⟩, 10) := ⟨⟨by decide +kernel, by decide +kernel⟩, List.mem_of_getElem? (i := 20) (by decide +kernel), List.mem_of_getElem? (i := 834) (by decide +kernel), List.mem_of_getElem? (i := 835) (by decide +kernel)⟩
theorem lw_p29 : lw_okq (⟨"SwapTables", "lengthsTogether", "()I"⟩, 10) := ⟨⟨by decide +kernel, by decide +kernel⟩, List.mem_of_getElem? (i := 20) (by decide +kernel), List.mem_of_getElem? (i := 838) (by decide +kernel), List.mem_of_getElem? (i := 839) (by decide +kernel)⟩
theorem lw_p30 : lw_okq (⟨"SwapTablesModel", "tellsShape", "()V"⟩, 59) := ⟨⟨by decide +kernel, by decide +kernel⟩, List.mem_of_getElem? (i := 842) (by decide +kernel), List.mem_of_getElem? (i := 853) (by decide +kernel), List.mem_of_getElem? (i := 854) (by decide +kernel)⟩
theorem lw_p31 : lw_okq (⟨"SwapTablesModel", "stands", "(I)V"⟩, 59) := ⟨⟨by decide +kernel, by decide +kernel⟩, List.mem_of_getElem? (i := 842) (by decide +kernel), List.mem_of_getElem? (i := 857) (by decide +kernel), List.mem_of_getElem? (i := 858) (by decide +kernel)⟩
def lw_privs_2 : List (MethodName × Nat) := [(⟨"SwapTables$Reader", "goesOnWith", "(II)Z"⟩, 12), (⟨"SwapTables$Reader", "beginsPart", "(II)Z"⟩, 12), (⟨"SwapTables$Reader", "beginCycle", "()V"⟩, 12), (⟨"SwapTables$Reader", "opensBracket", "(I)Z"⟩, 12), (⟨"SwapTables$Reader", "endPart", "(I)V"⟩, 12), (⟨"SwapTables$Reader", "endsSwap", "(II)Z"⟩, 12), (⟨"SwapTables$Reader", "noteWrong", "(I)V"⟩, 12), (⟨"SwapTables$Reader", "refuse", "(II)V"⟩, 12), (⟨"SwapTables$Reader", "goesOnInCycle", "(II)Z"⟩, 12), (⟨"SwapTables$Reader", "takeIntoCycle", "(II)V"⟩, 12), (⟨"SwapTables$Reader", "goesOnBehindPart", "(I)Z"⟩, 12), (⟨"SwapTables$Reader", "refuseFault", "(I)I"⟩, 12), (⟨"SwapTables", "shelvesInUse", "()I"⟩, 10), (⟨"SwapTables", "lengthsTogether", "()I"⟩, 10), (⟨"SwapTablesModel", "tellsShape", "()V"⟩, 59), (⟨"SwapTablesModel", "stands", "(I)V"⟩, 59)]
theorem lw_r2 : ∀ q ∈ lw_privs_2, lw_okq q := List.forall_mem_cons.mpr ⟨lw_p16, List.forall_mem_cons.mpr ⟨lw_p17, List.forall_mem_cons.mpr ⟨lw_p18, List.forall_mem_cons.mpr ⟨lw_p19, List.forall_mem_cons.mpr ⟨lw_p20, List.forall_mem_cons.mpr ⟨lw_p21, List.forall_mem_cons.mpr ⟨lw_p22, List.forall_mem_cons.mpr ⟨lw_p23, List.forall_mem_cons.mpr ⟨lw_p24, List.forall_mem_cons.mpr ⟨lw_p25, List.forall_mem_cons.mpr ⟨lw_p26, List.forall_mem_cons.mpr ⟨lw_p27, List.forall_mem_cons.mpr ⟨lw_p28, List.forall_mem_cons.mpr ⟨lw_p29, List.forall_mem_cons.mpr ⟨lw_p30, List.forall_mem_cons.mpr ⟨lw_p31, fun _ h => absurd h List.not_mem_nil⟩⟩⟩⟩⟩⟩⟩⟩⟩⟩⟩⟩⟩⟩⟩⟩
theorem lw_p32 : lw_okq (⟨"SwapTablesModel", "hookOf", "(II)I"⟩, 59) := ⟨⟨by decide +kernel, by decide +kernel⟩, List.mem_of_getElem? (i := 842) (by decide +kernel), List.mem_of_getElem? (i := 1048) (by decide +kernel), List.mem_of_getElem? (i := 1049) (by decide +kernel)⟩
theorem lw_p33 : lw_okq (⟨"SwapTablesModel", "rows", "()I"⟩, 59) := ⟨⟨by decide +kernel, by decide +kernel⟩, List.mem_of_getElem? (i := 842) (by decide +kernel), List.mem_of_getElem? (i := 1052) (by decide +kernel), List.mem_of_getElem? (i := 1053) (by decide +kernel)⟩
theorem lw_p34 : lw_okq (⟨"SwapTablesModel", "partitionOf", "([I)I"⟩, 59) := ⟨⟨by decide +kernel, by decide +kernel⟩, List.mem_of_getElem? (i := 842) (by decide +kernel), List.mem_of_getElem? (i := 1056) (by decide +kernel), List.mem_of_getElem? (i := 1057) (by decide +kernel)⟩
theorem lw_p35 : lw_okq (⟨"SwapTablesModel", "tellsPartitions", "()V"⟩, 59) := ⟨⟨by decide +kernel, by decide +kernel⟩, List.mem_of_getElem? (i := 842) (by decide +kernel), List.mem_of_getElem? (i := 1060) (by decide +kernel), List.mem_of_getElem? (i := 1061) (by decide +kernel)⟩
theorem lw_p36 : lw_okq (⟨"SwapTablesModel", "splits", "(III)V"⟩, 59) := ⟨⟨by decide +kernel, by decide +kernel⟩, List.mem_of_getElem? (i := 842) (by decide +kernel), List.mem_of_getElem? (i := 1064) (by decide +kernel), List.mem_of_getElem? (i := 1065) (by decide +kernel)⟩
theorem lw_p37 : lw_okq (⟨"SwapTablesModel", "isStandard", "(I)Z"⟩, 59) := ⟨⟨by decide +kernel, by decide +kernel⟩, List.mem_of_getElem? (i := 842) (by decide +kernel), List.mem_of_getElem? (i := 1081) (by decide +kernel), List.mem_of_getElem? (i := 1082) (by decide +kernel)⟩
theorem lw_p38 : lw_okq (⟨"SwapTablesModel", "isSwap", "(I)Z"⟩, 59) := ⟨⟨by decide +kernel, by decide +kernel⟩, List.mem_of_getElem? (i := 842) (by decide +kernel), List.mem_of_getElem? (i := 1097) (by decide +kernel), List.mem_of_getElem? (i := 1098) (by decide +kernel)⟩
theorem lw_p39 : lw_okq (⟨"SwapTablesModel", "becomes", "(I)I"⟩, 59) := ⟨⟨by decide +kernel, by decide +kernel⟩, List.mem_of_getElem? (i := 842) (by decide +kernel), List.mem_of_getElem? (i := 1104) (by decide +kernel), List.mem_of_getElem? (i := 1105) (by decide +kernel)⟩
theorem lw_p40 : lw_okq (⟨"SwapTablesModel", "lengthOf", "([I)I"⟩, 59) := ⟨⟨by decide +kernel, by decide +kernel⟩, List.mem_of_getElem? (i := 842) (by decide +kernel), List.mem_of_getElem? (i := 1108) (by decide +kernel), List.mem_of_getElem? (i := 1109) (by decide +kernel)⟩
theorem lw_p41 : lw_okq (⟨"SwapTablesModel", "takesOut", "(I)V"⟩, 59) := ⟨⟨by decide +kernel, by decide +kernel⟩, List.mem_of_getElem? (i := 842) (by decide +kernel), List.mem_of_getElem? (i := 1133) (by decide +kernel), List.mem_of_getElem? (i := 1134) (by decide +kernel)⟩
theorem lw_p42 : lw_okq (⟨"SwapTablesModel", "typeOf", "([I)I"⟩, 59) := ⟨⟨by decide +kernel, by decide +kernel⟩, List.mem_of_getElem? (i := 842) (by decide +kernel), List.mem_of_getElem? (i := 1137) (by decide +kernel), List.mem_of_getElem? (i := 1138) (by decide +kernel)⟩
theorem lw_p43 : lw_okq (⟨"SwapTablesModel", "tellsWord", "([I)V"⟩, 59) := ⟨⟨by decide +kernel, by decide +kernel⟩, List.mem_of_getElem? (i := 842) (by decide +kernel), List.mem_of_getElem? (i := 1145) (by decide +kernel), List.mem_of_getElem? (i := 1146) (by decide +kernel)⟩
theorem lw_p44 : lw_okq (⟨"SwapTablesModel", "isFilling", "(I)Z"⟩, 59) := ⟨⟨by decide +kernel, by decide +kernel⟩, List.mem_of_getElem? (i := 842) (by decide +kernel), List.mem_of_getElem? (i := 1159) (by decide +kernel), List.mem_of_getElem? (i := 1160) (by decide +kernel)⟩
theorem lw_p45 : lw_okq (⟨"SwapTablesModel", "straightens", "()V"⟩, 59) := ⟨⟨by decide +kernel, by decide +kernel⟩, List.mem_of_getElem? (i := 842) (by decide +kernel), List.mem_of_getElem? (i := 1167) (by decide +kernel), List.mem_of_getElem? (i := 1168) (by decide +kernel)⟩
theorem lw_p46 : lw_okq (⟨"SwapTablesModel", "adds", "(I)V"⟩, 59) := ⟨⟨by decide +kernel, by decide +kernel⟩, List.mem_of_getElem? (i := 842) (by decide +kernel), List.mem_of_getElem? (i := 1171) (by decide +kernel), List.mem_of_getElem? (i := 1172) (by decide +kernel)⟩
theorem lw_p47 : lw_okq (⟨"SwapTablesModel", "codeOf", "()I"⟩, 59) := ⟨⟨by decide +kernel, by decide +kernel⟩, List.mem_of_getElem? (i := 842) (by decide +kernel), List.mem_of_getElem? (i := 1175) (by decide +kernel), List.mem_of_getElem? (i := 1176) (by decide +kernel)⟩
def lw_privs_3 : List (MethodName × Nat) := [(⟨"SwapTablesModel", "hookOf", "(II)I"⟩, 59), (⟨"SwapTablesModel", "rows", "()I"⟩, 59), (⟨"SwapTablesModel", "partitionOf", "([I)I"⟩, 59), (⟨"SwapTablesModel", "tellsPartitions", "()V"⟩, 59), (⟨"SwapTablesModel", "splits", "(III)V"⟩, 59), (⟨"SwapTablesModel", "isStandard", "(I)Z"⟩, 59), (⟨"SwapTablesModel", "isSwap", "(I)Z"⟩, 59), (⟨"SwapTablesModel", "becomes", "(I)I"⟩, 59), (⟨"SwapTablesModel", "lengthOf", "([I)I"⟩, 59), (⟨"SwapTablesModel", "takesOut", "(I)V"⟩, 59), (⟨"SwapTablesModel", "typeOf", "([I)I"⟩, 59), (⟨"SwapTablesModel", "tellsWord", "([I)V"⟩, 59), (⟨"SwapTablesModel", "isFilling", "(I)Z"⟩, 59), (⟨"SwapTablesModel", "straightens", "()V"⟩, 59), (⟨"SwapTablesModel", "adds", "(I)V"⟩, 59), (⟨"SwapTablesModel", "codeOf", "()I"⟩, 59)]
theorem lw_r3 : ∀ q ∈ lw_privs_3, lw_okq q := List.forall_mem_cons.mpr ⟨lw_p32, List.forall_mem_cons.mpr ⟨lw_p33, List.forall_mem_cons.mpr ⟨lw_p34, List.forall_mem_cons.mpr ⟨lw_p35, List.forall_mem_cons.mpr ⟨lw_p36, List.forall_mem_cons.mpr ⟨lw_p37, List.forall_mem_cons.mpr ⟨lw_p38, List.forall_mem_cons.mpr ⟨lw_p39, List.forall_mem_cons.mpr ⟨lw_p40, List.forall_mem_cons.mpr ⟨lw_p41, List.forall_mem_cons.mpr ⟨lw_p42, List.forall_mem_cons.mpr ⟨lw_p43, List.forall_mem_cons.mpr ⟨lw_p44, List.forall_mem_cons.mpr ⟨lw_p45, List.forall_mem_cons.mpr ⟨lw_p46, List.forall_mem_cons.mpr ⟨lw_p47, fun _ h => absurd h List.not_mem_nil⟩⟩⟩⟩⟩⟩⟩⟩⟩⟩⟩⟩⟩⟩⟩⟩
theorem lw_p48 : lw_okq (⟨"SwapTablesModel", "isHigher", "(II)Z"⟩, 59) := ⟨⟨by decide +kernel, by decide +kernel⟩, List.mem_of_getElem? (i := 842) (by decide +kernel), List.mem_of_getElem? (i := 1179) (by decide +kernel), List.mem_of_getElem? (i := 1180) (by decide +kernel)⟩
theorem lw_p49 : lw_okq (⟨"SwapTablesModel", "standCode", "(I)I"⟩, 59) := ⟨⟨by decide +kernel, by decide +kernel⟩, List.mem_of_getElem? (i := 842) (by decide +kernel), List.mem_of_getElem? (i := 1183) (by decide +kernel), List.mem_of_getElem? (i := 1184) (by decide +kernel)⟩
theorem lw_p50 : lw_okq (⟨"SwapTablesModel", "tellsStandard", "(I)V"⟩, 59) := ⟨⟨by decide +kernel, by decide +kernel⟩, List.mem_of_getElem? (i := 842) (by decide +kernel), List.mem_of_getElem? (i := 1187) (by decide +kernel), List.mem_of_getElem? (i := 1188) (by decide +kernel)⟩
theorem lw_p51 : lw_okq (⟨"SwapTablesModel", "tellsWhole", "([II)V"⟩, 59) := ⟨⟨by decide +kernel, by decide +kernel⟩, List.mem_of_getElem? (i := 842) (by decide +kernel), List.mem_of_getElem? (i := 1195) (by decide +kernel), List.mem_of_getElem? (i := 1196) (by decide +kernel)⟩
theorem lw_p52 : lw_okq (⟨"SwapTablesModel", "trace", "([I)J"⟩, 59) := ⟨⟨by decide +kernel, by decide +kernel⟩, List.mem_of_getElem? (i := 842) (by decide +kernel), List.mem_of_getElem? (i := 1203) (by decide +kernel), List.mem_of_getElem? (i := 1204) (by decide +kernel)⟩
theorem lw_p53 : lw_okq (⟨"SwapTablesModel", "tellsFractions", "([I)V"⟩, 59) := ⟨⟨by decide +kernel, by decide +kernel⟩, List.mem_of_getElem? (i := 842) (by decide +kernel), List.mem_of_getElem? (i := 1218) (by decide +kernel), List.mem_of_getElem? (i := 1219) (by decide +kernel)⟩
theorem lw_p54 : lw_okq (⟨"SwapTablesModel", "sums", "(III)V"⟩, 59) := ⟨⟨by decide +kernel, by decide +kernel⟩, List.mem_of_getElem? (i := 842) (by decide +kernel), List.mem_of_getElem? (i := 1222) (by decide +kernel), List.mem_of_getElem? (i := 1223) (by decide +kernel)⟩
theorem lw_p55 : lw_okq (⟨"SwapTablesModel", "tellsSwap", "(III)V"⟩, 59) := ⟨⟨by decide +kernel, by decide +kernel⟩, List.mem_of_getElem? (i := 842) (by decide +kernel), List.mem_of_getElem? (i := 1226) (by decide +kernel), List.mem_of_getElem? (i := 1227) (by decide +kernel)⟩
theorem lw_p56 : lw_okq (⟨"SwapTablesModel", "contentOf", "(II)I"⟩, 59) := ⟨⟨by decide +kernel, by decide +kernel⟩, List.mem_of_getElem? (i := 842) (by decide +kernel), List.mem_of_getElem? (i := 1230) (by decide +kernel), List.mem_of_getElem? (i := 1231) (by decide +kernel)⟩
theorem lw_p57 : lw_okq (⟨"SwapTablesModel", "changed", "(II)I"⟩, 59) := ⟨⟨by decide +kernel, by decide +kernel⟩, List.mem_of_getElem? (i := 842) (by decide +kernel), List.mem_of_getElem? (i := 1234) (by decide +kernel), List.mem_of_getElem? (i := 1235) (by decide +kernel)⟩
theorem lw_p58 : lw_okq (⟨"SwapTablesModel", "lowers", "()V"⟩, 59) := ⟨⟨by decide +kernel, by decide +kernel⟩, List.mem_of_getElem? (i := 842) (by decide +kernel), List.mem_of_getElem? (i := 1238) (by decide +kernel), List.mem_of_getElem? (i := 1239) (by decide +kernel)⟩
theorem lw_p59 : lw_okq (⟨"SwapTablesModel", "addsTo", "(JJ)V"⟩, 59) := ⟨⟨by decide +kernel, by decide +kernel⟩, List.mem_of_getElem? (i := 842) (by decide +kernel), List.mem_of_getElem? (i := 1245) (by decide +kernel), List.mem_of_getElem? (i := 1246) (by decide +kernel)⟩
theorem lw_p60 : lw_okq (⟨"SwapTablesModel", "tellsNorms", "()V"⟩, 59) := ⟨⟨by decide +kernel, by decide +kernel⟩, List.mem_of_getElem? (i := 842) (by decide +kernel), List.mem_of_getElem? (i := 1253) (by decide +kernel), List.mem_of_getElem? (i := 1254) (by decide +kernel)⟩
theorem lw_p61 : lw_okq (⟨"SwapTablesModel", "canLose", "(I)Z"⟩, 59) := ⟨⟨by decide +kernel, by decide +kernel⟩, List.mem_of_getElem? (i := 842) (by decide +kernel), List.mem_of_getElem? (i := 1261) (by decide +kernel), List.mem_of_getElem? (i := 1262) (by decide +kernel)⟩
theorem lw_p62 : lw_okq (⟨"SwapTablesModel", "isNumber", "(II)Z"⟩, 59) := ⟨⟨by decide +kernel, by decide +kernel⟩, List.mem_of_getElem? (i := 842) (by decide +kernel), List.mem_of_getElem? (i := 1273) (by decide +kernel), List.mem_of_getElem? (i := 1274) (by decide +kernel)⟩
theorem lw_p63 : lw_okq (⟨"SwapTablesModel", "readsAll", "(Z)Z"⟩, 59) := ⟨⟨by decide +kernel, by decide +kernel⟩, List.mem_of_getElem? (i := 842) (by decide +kernel), List.mem_of_getElem? (i := 1325) (by decide +kernel), List.mem_of_getElem? (i := 1326) (by decide +kernel)⟩
def lw_privs_4 : List (MethodName × Nat) := [(⟨"SwapTablesModel", "isHigher", "(II)Z"⟩, 59), (⟨"SwapTablesModel", "standCode", "(I)I"⟩, 59), (⟨"SwapTablesModel", "tellsStandard", "(I)V"⟩, 59), (⟨"SwapTablesModel", "tellsWhole", "([II)V"⟩, 59), (⟨"SwapTablesModel", "trace", "([I)J"⟩, 59), (⟨"SwapTablesModel", "tellsFractions", "([I)V"⟩, 59), (⟨"SwapTablesModel", "sums", "(III)V"⟩, 59), (⟨"SwapTablesModel", "tellsSwap", "(III)V"⟩, 59), (⟨"SwapTablesModel", "contentOf", "(II)I"⟩, 59), (⟨"SwapTablesModel", "changed", "(II)I"⟩, 59), (⟨"SwapTablesModel", "lowers", "()V"⟩, 59), (⟨"SwapTablesModel", "addsTo", "(JJ)V"⟩, 59), (⟨"SwapTablesModel", "tellsNorms", "()V"⟩, 59), (⟨"SwapTablesModel", "canLose", "(I)Z"⟩, 59), (⟨"SwapTablesModel", "isNumber", "(II)Z"⟩, 59), (⟨"SwapTablesModel", "readsAll", "(Z)Z"⟩, 59)]
theorem lw_r4 : ∀ q ∈ lw_privs_4, lw_okq q := List.forall_mem_cons.mpr ⟨lw_p48, List.forall_mem_cons.mpr ⟨lw_p49, List.forall_mem_cons.mpr ⟨lw_p50, List.forall_mem_cons.mpr ⟨lw_p51, List.forall_mem_cons.mpr ⟨lw_p52, List.forall_mem_cons.mpr ⟨lw_p53, List.forall_mem_cons.mpr ⟨lw_p54, List.forall_mem_cons.mpr ⟨lw_p55, List.forall_mem_cons.mpr ⟨lw_p56, List.forall_mem_cons.mpr ⟨lw_p57, List.forall_mem_cons.mpr ⟨lw_p58, List.forall_mem_cons.mpr ⟨lw_p59, List.forall_mem_cons.mpr ⟨lw_p60, List.forall_mem_cons.mpr ⟨lw_p61, List.forall_mem_cons.mpr ⟨lw_p62, List.forall_mem_cons.mpr ⟨lw_p63, fun _ h => absurd h List.not_mem_nil⟩⟩⟩⟩⟩⟩⟩⟩⟩⟩⟩⟩⟩⟩⟩⟩
theorem lw_p64 : lw_okq (⟨"SwapTablesModel", "readsText", "(I)Z"⟩, 59) := ⟨⟨by decide +kernel, by decide +kernel⟩, List.mem_of_getElem? (i := 842) (by decide +kernel), List.mem_of_getElem? (i := 1329) (by decide +kernel), List.mem_of_getElem? (i := 1330) (by decide +kernel)⟩
theorem lw_p65 : lw_okq (⟨"SwapTablesModel", "readsPart", "(I)Z"⟩, 59) := ⟨⟨by decide +kernel, by decide +kernel⟩, List.mem_of_getElem? (i := 842) (by decide +kernel), List.mem_of_getElem? (i := 1333) (by decide +kernel), List.mem_of_getElem? (i := 1334) (by decide +kernel)⟩
theorem lw_p66 : lw_okq (⟨"SwapTablesModel", "here", "()I"⟩, 59) := ⟨⟨by decide +kernel, by decide +kernel⟩, List.mem_of_getElem? (i := 842) (by decide +kernel), List.mem_of_getElem? (i := 1337) (by decide +kernel), List.mem_of_getElem? (i := 1338) (by decide +kernel)⟩
theorem lw_p67 : lw_okq (⟨"SwapTablesModel", "isFigure", "()Z"⟩, 59) := ⟨⟨by decide +kernel, by decide +kernel⟩, List.mem_of_getElem? (i := 842) (by decide +kernel), List.mem_of_getElem? (i := 1341) (by decide +kernel), List.mem_of_getElem? (i := 1342) (by decide +kernel)⟩
theorem lw_p68 : lw_okq (⟨"SwapTablesModel", "fails", "(II)Z"⟩, 59) := ⟨⟨by decide +kernel, by decide +kernel⟩, List.mem_of_getElem? (i := 842) (by decide +kernel), List.mem_of_getElem? (i := 1347) (by decide +kernel), List.mem_of_getElem? (i := 1348) (by decide +kernel)⟩
theorem lw_p69 : lw_okq (⟨"SwapTablesModel", "opens", "(II)V"⟩, 59) := ⟨⟨by decide +kernel, by decide +kernel⟩, List.mem_of_getElem? (i := 842) (by decide +kernel), List.mem_of_getElem? (i := 1351) (by decide +kernel), List.mem_of_getElem? (i := 1352) (by decide +kernel)⟩
theorem lw_p70 : lw_okq (⟨"SwapTablesModel", "readsCycle", "()Z"⟩, 59) := ⟨⟨by decide +kernel, by decide +kernel⟩, List.mem_of_getElem? (i := 842) (by decide +kernel), List.mem_of_getElem? (i := 1355) (by decide +kernel), List.mem_of_getElem? (i := 1356) (by decide +kernel)⟩
theorem lw_p71 : lw_okq (⟨"SwapTablesModel", "turnsPart", "()V"⟩, 59) := ⟨⟨by decide +kernel, by decide +kernel⟩, List.mem_of_getElem? (i := 842) (by decide +kernel), List.mem_of_getElem? (i := 1359) (by decide +kernel), List.mem_of_getElem? (i := 1360) (by decide +kernel)⟩
theorem lw_p72 : lw_okq (⟨"SwapTablesModel", "held", "()I"⟩, 59) := ⟨⟨by decide +kernel, by decide +kernel⟩, List.mem_of_getElem? (i := 842) (by decide +kernel), List.mem_of_getElem? (i := 1382) (by decide +kernel), List.mem_of_getElem? (i := 1383) (by decide +kernel)⟩
theorem lw_p73 : lw_okq (⟨"SwapTablesModel", "lengthsAll", "()I"⟩, 59) := ⟨⟨by decide +kernel, by decide +kernel⟩, List.mem_of_getElem? (i := 842) (by decide +kernel), List.mem_of_getElem? (i := 1386) (by decide +kernel), List.mem_of_getElem? (i := 1387) (by decide +kernel)⟩
def lw_privs_5 : List (MethodName × Nat) := [(⟨"SwapTablesModel", "readsText", "(I)Z"⟩, 59), (⟨"SwapTablesModel", "readsPart", "(I)Z"⟩, 59), (⟨"SwapTablesModel", "here", "()I"⟩, 59), (⟨"SwapTablesModel", "isFigure", "()Z"⟩, 59), (⟨"SwapTablesModel", "fails", "(II)Z"⟩, 59), (⟨"SwapTablesModel", "opens", "(II)V"⟩, 59), (⟨"SwapTablesModel", "readsCycle", "()Z"⟩, 59), (⟨"SwapTablesModel", "turnsPart", "()V"⟩, 59), (⟨"SwapTablesModel", "held", "()I"⟩, 59), (⟨"SwapTablesModel", "lengthsAll", "()I"⟩, 59)]
theorem lw_r5 : ∀ q ∈ lw_privs_5, lw_okq q := List.forall_mem_cons.mpr ⟨lw_p64, List.forall_mem_cons.mpr ⟨lw_p65, List.forall_mem_cons.mpr ⟨lw_p66, List.forall_mem_cons.mpr ⟨lw_p67, List.forall_mem_cons.mpr ⟨lw_p68, List.forall_mem_cons.mpr ⟨lw_p69, List.forall_mem_cons.mpr ⟨lw_p70, List.forall_mem_cons.mpr ⟨lw_p71, List.forall_mem_cons.mpr ⟨lw_p72, List.forall_mem_cons.mpr ⟨lw_p73, fun _ h => absurd h List.not_mem_nil⟩⟩⟩⟩⟩⟩⟩⟩⟩⟩
def lw_privs : List (MethodName × Nat) := lw_privs_1 ++ (lw_privs_2 ++ (lw_privs_3 ++ (lw_privs_4 ++ (lw_privs_5))))
def lw_tbl : List Cond := k2_sels lw_privs ++ tables_1
theorem lw_privs_ok : ∀ q ∈ lw_privs, lw_okq q := by
  show ∀ q ∈ lw_privs_1 ++ (lw_privs_2 ++ (lw_privs_3 ++ (lw_privs_4 ++ (lw_privs_5)))), lw_okq q
  exact List.forall_mem_append.mpr ⟨lw_r1, List.forall_mem_append.mpr ⟨lw_r2, List.forall_mem_append.mpr ⟨lw_r3, List.forall_mem_append.mpr ⟨lw_r4, lw_r5⟩⟩⟩⟩
end
section
/-! ===== BEGIN words of one list among another's, by their places ===== -/
theorem goodIn_r {big : List Cond} (ws : List Cond) (ps : List Nat) (hp : ws = ps.filterMap (fun i => big[i]?)) (h : ws.all goodWord = true) : GoodIn big ws := by
  intro w hw
  have h1 := List.all_eq_true.mp h w hw
  rw [hp] at hw
  obtain ⟨i, -, hi⟩ := List.mem_filterMap.mp hw
  have hm : w ∈ big := by first | exact List.mem_of_getElem? hi | exact List.getElem?_mem hi
  exact ⟨hm, good_of_word h1⟩
theorem goodIn_app {big a b : List Cond} (ha : GoodIn big a) (hb : GoodIn big b) : GoodIn big (a ++ b) := fun w h => (List.mem_append.mp h).elim (ha w) (hb w)
theorem goodIn_ca {big a b : List Cond} {c : Cond} (ha : GoodIn big (c :: a)) (hb : GoodIn big b) : GoodIn big (c :: (a ++ b)) := fun w h => (List.mem_cons.mp h).elim (fun e => ha w (List.mem_cons.mpr (Or.inl e))) (fun h => (List.mem_append.mp h).elim (fun h => ha w (List.mem_cons.mpr (Or.inr h))) (hb w))
theorem goodIn_sub {big ws : List Cond} (hm : ∀ w ∈ ws, w ∈ big) (h : ws.all goodWord = true) : GoodIn big ws := fun w hw => ⟨hm w hw, good_of_word (List.all_eq_true.mp h w hw)⟩
/-! ===== END ===== -/

def va_AOA (t : FieldType) (U : State) : Prop := (Cond.arrayOver (.array t)).before #[] U = true
theorem va_AOA.of {t : FieldType} {A : Array Value} {U : State} (h : (Cond.arrayOver (.array t)).before A U = true) : va_AOA t U := h
theorem va_AOA.use {t : FieldType} {A : Array Value} {U : State} (h : va_AOA t U) : (Cond.arrayOver (.array t)).before A U = true := h
/-! ===== BEGIN new T[n][m]: the outer array a place, the inner ones among the pooled ===== -/
/-- f, but v at every address of l -/
def vr_up {α : Type} (f : Nat → α) (l : List Nat) (v : α) : Nat → α := fun a => if a ∈ l then v else f a
theorem vr_up_in {α : Type} {f : Nat → α} {l : List Nat} {v : α} {a : Nat} (h : a ∈ l) : vr_up f l v a = v := if_pos h
theorem vr_up_ne {α : Type} {f : Nat → α} {l : List Nat} {v : α} {a : Nat} (h : a ∉ l) : vr_up f l v a = f a := if_neg h
theorem vr_rows {L l : List Nat} {f : Nat → va_E} {e : va_E} (h : ∀ a, a ∈ l → a ∉ L) : va_pl L f ++ l.map (fun a => (a, e)) = va_pl (L ++ l) (vr_up f l e) := by
  unfold va_pl
  rw [List.map_append]
  congr 1
  · apply List.map_congr_left
    intro a ha
    rw [vr_up_ne (fun q => h a q ha)]
  · apply List.map_congr_left
    intro a ha
    rw [vr_up_in ha]
theorem vr_lay {X rows : va_W} {x : Nat × va_E} {pl : va_W} {D : va_G} {cl : List vw_C} {H : Heap} (hP : va_P D cl (((X ++ pl) ++ [x]) ++ rows) H) : va_P D cl ((X ++ [x]) ++ (pl ++ rows)) H := by
  rw [List.append_assoc (X ++ pl)] at hP
  have h := va_P.swap hP
  rw [← List.append_assoc X] at h
  have h2 := va_P.swap h
  rw [List.append_assoc (X ++ [x])] at h2
  exact h2
theorem vr_layD {X rows : va_W} {x : Nat × va_E} {pl : va_W} {A : Nat → Prop} (hD : va_D A (((X ++ pl) ++ [x]) ++ rows)) : va_D A ((X ++ [x]) ++ (pl ++ rows)) := by
  rw [List.append_assoc (X ++ pl)] at hD
  have h := va_D.swap hD
  rw [← List.append_assoc X] at h
  have h2 := va_D.swap h
  rw [List.append_assoc (X ++ [x])] at h2
  exact h2
theorem vr_outer (c : ClassId) (N h0 : Nat) : ∀ i : Nat, Jvm.Free.Multi.outerC c N h0 i = arrV c N (fun j => va_rf (if j < i then some (h0 + 1 + j) else none))
  | 0 => by
    show ({ cls := c, slots := Array.replicate N .null, vm := .none } : Cell) = _
    rw [arrV_new]
    refine congrArg (arrV c N) (funext fun j => ?_)
    simp [va_rf]
  | i + 1 => by
    show (Jvm.Free.Multi.outerC c N h0 i).setSlot i (.ref (h0 + 1 + i)) = _
    rw [vr_outer c N h0 i, arrV_store]
    refine congrArg (arrV c N) (funext fun j => ?_)
    by_cases e : j = i
    · subst e
      simp [updV, va_rf]
    · by_cases h : j < i
      · simp [updV, e, h, Nat.lt_succ_of_lt h]
      · simp [updV, e, h, show ¬ j < i + 1 by omega]
section VGM
variable {p : Program} {l : Launch} {e : Env} {R : Room} {s : State} {m : MethodId} {args : Array Value} {below : List Frame} {meth : Method} {c : Code} {H : Heap} {locs : List Loc} {cells slots : Nat} {Q : State → Prop}
variable {cc : ByteArray} {pc : Nat} {ls : Array Slot} {rest : List Value} {D : va_G} {cl : List vw_C} {A : Nat → Prop} {a : Nat} {tys : List (ClassId × FieldType)} {ws : va_W} {H0 : Heap}
theorem va_mna {X : va_W} {L : List Nat} {f : Nat → va_E} {cc : ByteArray} (hexec : p.tables.exec = Jvm.exec) (hb : c.code = cc) {own : String} {index : Nat} {ty : FieldType} {cy : ClassId} (hown : s.vm.findClass own = some m.cls) (hclink : (Cond.classLink own index ("[" ++ (FieldType.array ty).toString)).before args s = true) (hover : va_AOA ty s) (harr : (Cond.arrayClass ty).before args s = true) (hcy : s.vm.findClass (FieldType.array ty).toString = some cy)
    (hK : va_K D cl tys s) (hP : va_P D cl (X ++ va_pl L f) H) (hD : va_D A (X ++ va_pl L f)) (hS : va_S A H0 H locs) (hA : ∀ q, H0.size ≤ q → A q) {n k : Int32} {N' K' : Nat} {z : vp_A} (hn : ¬ n < 0) (hk : ¬ k < 0) (hN : n.toNatClampNeg = N') (hM : k.toNatClampNeg = K')
    (hb1 : N' * 4 ≤ 536870912) (hb2 : K' * componentBytes ty ≤ 536870912) (hb3 : K' ≤ 536870912) (hdf : fits ty (defaultValue ty) = true) (hdd : (defaultValue ty).isDefault = true) (hcells : cells + (1 + N') ≤ R.cells) (hslots : slots + (N' + N' * K') ≤ R.slots) (hz : ∀ c : ClassId, Jvm.Free.Multi.innerC c K' (defaultValue ty) = vp_cell c z) (hdg : decode cc pc = .ok (.multianewarray index 2, 4))
    (kk : ∀ (q : Nat) (r : Nat → Nat) (cA : ClassId) (H1 : Heap), (∀ i j : Nat, i < N' → j < N' → r i = r j → i = j) → (∀ i : Nat, i < N' → r i ∉ L) → va_K D cl (tys ++ [(cA, .array ty)]) s →
      va_P D cl ((X ++ [(q, .inl (cA, N', .inr (.inr (.inr (.inr (fun i => if i < N' then some (r i) else none))))))]) ++ va_pl (L ++ (List.range N').map r) (vr_up f ((List.range N').map r) (.inl (cy, z)))) H1 → va_D A ((X ++ [(q, .inl (cA, N', .inr (.inr (.inr (.inr (fun i => if i < N' then some (r i) else none))))))]) ++ va_pl (L ++ (List.range N').map r) (vr_up f ((List.range N').map r) (.inl (cy, z)))) → va_S A H0 H1 locs →
      W p l e R s m args below meth c H1 locs (cells + 1 + N') (slots + N' + N' * K') Q (F0 m (pc + 4) ls (.ref q :: rest))) : W p l e R s m args below meth c H locs cells slots Q (F0 m pc ls (.int k :: .int n :: rest)) := by
  subst hN
  subst hM
  intro T hT Xs
  obtain ⟨vm₁, cA, comp, -, fA, fC, hO, -, X', step⟩ := Xs.multianewarray2F hexec hown hclink (va_AOA.use hover) harr (g := F0 m pc ls (.int k :: .int n :: rest)) rfl (by rw [hb]; exact hdg) rfl hn hk hb1 hb2 hb3 hdf hdd hcells hslots
  have ec : some cy = some comp := hcy.symm.trans fC
  cases ec
  generalize hF : Jvm.Free.Multi.fill (T.setVm vm₁) cA cy n.toNatClampNeg k.toNatClampNeg (defaultValue ty) n.toNatClampNeg = F at X' step
  have hTh : (T.setVm vm₁).heap = H := hT
  obtain ⟨f1, f2, -, -⟩ := Jvm.Free.Multi.fill_facts (T.setVm vm₁) cA cy n.toNatClampNeg k.toNatClampNeg (defaultValue ty) n.toNatClampNeg
  rw [hF, hTh] at f1 f2
  have hold : ∀ x : Nat, x < H.size → F.heap[x]? = H[x]? := fun x hx => by
    have := Jvm.Free.Multi.fill_old (T.setVm vm₁) cA cy n.toNatClampNeg k.toNatClampNeg (defaultValue ty) (a := x) (by rw [hTh]; exact hx) n.toNatClampNeg
    rw [hF, hTh] at this
    exact this
  have hrow : ∀ j : Nat, j < n.toNatClampNeg → F.heap[H.size + 1 + j]? = some (vp_cell cy z) := fun j hj => by
    have := Jvm.Free.Multi.fill_inner (T.setVm vm₁) cA cy n.toNatClampNeg k.toNatClampNeg (defaultValue ty) n.toNatClampNeg j hj
    rw [hF, hTh, hz] at this
    exact this
  have hout : Jvm.Free.Multi.outerC cA n.toNatClampNeg H.size n.toNatClampNeg = vp_cell cA (n.toNatClampNeg, .inr (.inr (.inr (.inr (fun i => if i < n.toNatClampNeg then some (H.size + 1 + i) else none))))) := by
    rw [vp_cell_q]
    exact vr_outer cA n.toNatClampNeg H.size n.toNatClampNeg
  rw [hout] at f2
  have hlt : ∀ a, a ∈ L → a < H.size := fun a ha => by
    obtain ⟨k9, hk9⟩ := va_pl_get (X := X) (f := f) ha
    exact (hP k9 _ hk9).lt
  have hnl : ∀ i : Nat, i < n.toNatClampNeg → H.size + 1 + i ∉ L := fun i _ h => by
    have := hlt _ h
    omega
  have hnm : ∀ a, a ∈ (List.range n.toNatClampNeg).map (fun i => H.size + 1 + i) → a ∉ L := fun a ha h => by
    obtain ⟨i, -, rfl⟩ := List.mem_map.mp ha
    have := hlt _ h
    omega
  have hP0 : va_P D cl (X ++ va_pl L f) F.heap := hP.kept (fun k9 x hx => hold x.1 ((hP k9 x hx).lt))
  have hP1 : va_P D cl ((X ++ va_pl L f) ++ [(H.size, .inl (cA, n.toNatClampNeg, .inr (.inr (.inr (.inr (fun i => if i < n.toNatClampNeg then some (H.size + 1 + i) else none))))))]) F.heap := hP0.app (fun k9 x hx => by
    have h0 : k9 < 1 := (List.getElem?_eq_some_iff.mp hx).1
    rw [show k9 = 0 by omega] at hx
    cases hx
    exact f2)
  have hP2 : va_P D cl (((X ++ va_pl L f) ++ [(H.size, .inl (cA, n.toNatClampNeg, .inr (.inr (.inr (.inr (fun i => if i < n.toNatClampNeg then some (H.size + 1 + i) else none))))))]) ++ ((List.range n.toNatClampNeg).map (fun i => H.size + 1 + i)).map (fun a => (a, .inl (cy, z)))) F.heap := hP1.app (fun k9 x hx => by
    obtain ⟨a, ha, rfl⟩ := List.mem_map.mp (List.mem_of_getElem? hx)
    obtain ⟨i, hi, rfl⟩ := List.mem_map.mp ha
    exact hrow i (List.mem_range.mp hi))
  have hD2 : va_D A (((X ++ va_pl L f) ++ [(H.size, .inl (cA, n.toNatClampNeg, .inr (.inr (.inr (.inr (fun i => if i < n.toNatClampNeg then some (H.size + 1 + i) else none))))))]) ++ ((List.range n.toNatClampNeg).map (fun i => H.size + 1 + i)).map (fun a => (a, .inl (cy, z)))) := by
    have hD1 := hD.push (e := .inl (cA, n.toNatClampNeg, .inr (.inr (.inr (.inr (fun i => if i < n.toNatClampNeg then some (H.size + 1 + i) else none)))))) hP rfl (hA _ hS.1)
    generalize hW1 : (X ++ va_pl L f) ++ [(H.size, .inl (cA, n.toNatClampNeg, .inr (.inr (.inr (.inr (fun i => if i < n.toNatClampNeg then some (H.size + 1 + i) else none))))))] = W1 at hD1 hP1 ⊢
    have hle : ∀ (k9 : Nat) (x : Nat × va_E), W1[k9]? = some x → x.1 ≤ H.size := fun k9 x hx => by
      rw [← hW1] at hx
      by_cases hl : k9 < (X ++ va_pl L f).length
      · rw [List.getElem?_append_left hl] at hx
        exact Nat.le_of_lt ((hP k9 x hx).lt)
      · rw [List.getElem?_append_right (by omega)] at hx
        have h0 : k9 - (X ++ va_pl L f).length < 1 := (List.getElem?_eq_some_iff.mp hx).1
        rw [show k9 - (X ++ va_pl L f).length = 0 by omega] at hx
        cases hx
        exact Nat.le_refl _
    have hr : ∀ (k9 : Nat) (x : Nat × va_E), (((List.range n.toNatClampNeg).map (fun i => H.size + 1 + i)).map (fun a => ((a, .inl (cy, z)) : Nat × va_E)))[k9]? = some x → x.1 = H.size + 1 + k9 := fun k9 x hx => by
      rw [List.getElem?_map, List.getElem?_map] at hx
      by_cases h9 : k9 < n.toNatClampNeg
      · rw [List.getElem?_range h9] at hx
        cases hx
        rfl
      · have hn0 : (List.range n.toNatClampNeg)[k9]? = none := List.getElem?_eq_none (by rw [List.length_range]; omega)
        rw [hn0] at hx
        cases hx
    refine ⟨fun i j x y hi hj hxy => ?_, fun k9 x hx => ?_⟩
    · by_cases h1 : i < W1.length <;> by_cases h2 : j < W1.length
      · rw [List.getElem?_append_left h1] at hi
        rw [List.getElem?_append_left h2] at hj
        exact hD1.1 i j x y hi hj hxy
      · rw [List.getElem?_append_left h1] at hi
        rw [List.getElem?_append_right (by omega)] at hj
        have := hle _ _ hi
        have := hr _ _ hj
        omega
      · rw [List.getElem?_append_right (by omega)] at hi
        rw [List.getElem?_append_left h2] at hj
        have := hle _ _ hj
        have := hr _ _ hi
        omega
      · rw [List.getElem?_append_right (by omega)] at hi hj
        have := hr _ _ hi
        have := hr _ _ hj
        omega
    · by_cases h1 : k9 < W1.length
      · rw [List.getElem?_append_left h1] at hx
        exact hD1.2 k9 x hx
      · rw [List.getElem?_append_right (by omega)] at hx
        have := hr _ _ hx
        exact hA _ (by have := hS.1; omega)
  have hAr : ArrOfT s cA (.array ty) := fun N9 z9 => by
    obtain ⟨-, k9, hk9, cm9, hkk9⟩ := (hO 0 0 0).1
    exact ⟨(fun q hq => by cases hq), k9, hk9, cm9, hkk9⟩
  have hK2 : va_K D cl (tys ++ [(cA, .array ty)]) s := ⟨hK.1, fun k9 x hx => by
    by_cases hl : k9 < tys.length
    · rw [List.getElem?_append_left hl] at hx
      exact hK.2 k9 x hx
    · rw [List.getElem?_append_right (by omega)] at hx
      have h0 : k9 - tys.length < 1 := (List.getElem?_eq_some_iff.mp hx).1
      rw [show k9 - tys.length = 0 by omega] at hx
      cases hx
      exact ⟨hAr, fA⟩⟩
  obtain ⟨t, a1, b1⟩ := kk H.size (fun i => H.size + 1 + i) cA F.heap (fun i j _ _ h => by have h9 : H.size + 1 + i = H.size + 1 + j := h; omega) hnl hK2 (by rw [← vr_rows hnm]; exact vr_lay hP2) (by rw [← vr_rows hnm]; exact vr_layD hD2) ⟨by rw [f1]; have := hS.1; omega, fun x h1 h2 => (hold x (Nat.lt_of_lt_of_le h1 hS.1)).trans (hS.2.1 x h1 h2), hS.2.2⟩ F rfl X'
  refine ⟨t, step t ?_, b1⟩
  have e : T.heap.size = H.size := by rw [hT]
  rw [e]
  exact a1
end VGM
/-! ===== END ===== -/

def RX0 : String := "SwapTables$FractionRow"
def TX0 : u_T := fun k => match k with
  | 0 => ("SwapTables$FractionRow", "above", "[J", true)
  | _ => ("SwapTables$FractionRow", "below", "[J", true)
def tyX0 : Nat → FieldType := fun k => match k with
  | 0 => .array .long
  | _ => .array .long
abbrev wsX00 : List Cond := u_ws RX0 TX0 2
theorem nmX0 : ∀ a, a < 2 → ∀ b, b < 2 → a ≠ b → (TX0 a).2.1 ≠ (TX0 b).2.1 := by decide +kernel
theorem tyX0_ok : ∀ k, k < 2 → parseFieldDescriptor (TX0 k).2.2.1 = some (tyX0 k) := by decide +kernel
abbrev cX0_init : ByteArray := prog_2_method_1_code
def yX0_init : MethodName := ⟨RX0, "<init>", "()V"⟩
abbrev cX0_clear : ByteArray := prog_2_method_2_code
def yX0_clear : MethodName := ⟨RX0, "clear", "()V"⟩
abbrev cX0_add : ByteArray := prog_2_method_3_code
def yX0_add : MethodName := ⟨RX0, "add", "(IJJ)V"⟩
abbrev cX0_commonDivisor : ByteArray := prog_2_method_4_code
def yX0_commonDivisor : MethodName := ⟨RX0, "commonDivisor", "(JJ)J"⟩
abbrev cX0_partAt : ByteArray := prog_2_method_5_code
def yX0_partAt : MethodName := ⟨RX0, "partAt", "(II)J"⟩
def RX1 : String := "SwapTables$Image"
def TX1 : u_T := fun k => match k with
  | 0 => ("SwapTables$Image", "code", "I", false)
  | 1 => ("SwapTables$Image", "registers", "[I", true)
  | _ => ("SwapTables$Image", "shelves", "[LSwapTables$Shelf;", true)
def tyX1 : Nat → FieldType := fun k => match k with
  | 0 => .int
  | 1 => .array .int
  | _ => .array (.object "SwapTables$Shelf")
abbrev wsX10 : List Cond := u_ws RX1 TX1 3
theorem nmX1 : ∀ a, a < 3 → ∀ b, b < 3 → a ≠ b → (TX1 a).2.1 ≠ (TX1 b).2.1 := by decide +kernel
theorem tyX1_ok : ∀ k, k < 3 → parseFieldDescriptor (TX1 k).2.2.1 = some (tyX1 k) := by decide +kernel
abbrev cX1_init : ByteArray := prog_3_method_1_code
def yX1_init : MethodName := ⟨RX1, "<init>", "()V"⟩
def RX2 : String := "SwapTables$Orders"
def TX2 : u_T := fun k => match k with
  | _ => ("", "", "", false)
def tyX2 : Nat → FieldType := fun k => match k with
  | _ => .int
abbrev wsX20 : List Cond := u_ws RX2 TX2 0
theorem nmX2 : ∀ a, a < 0 → ∀ b, b < 0 → a ≠ b → (TX2 a).2.1 ≠ (TX2 b).2.1 := by decide +kernel
theorem tyX2_ok : ∀ k, k < 0 → parseFieldDescriptor (TX2 k).2.2.1 = some (tyX2 k) := by decide +kernel
abbrev cX2_target : ByteArray := prog_4_method_2_code
def yX2_target : MethodName := ⟨RX2, "target", "(II)I"⟩
abbrev cX2_withTarget : ByteArray := prog_4_method_3_code
def yX2_withTarget : MethodName := ⟨RX2, "withTarget", "(III)I"⟩
abbrev cX2_product : ByteArray := prog_4_method_4_code
def yX2_product : MethodName := ⟨RX2, "product", "(II)I"⟩
abbrev cX2_turned : ByteArray := prog_4_method_5_code
def yX2_turned : MethodName := ⟨RX2, "turned", "(I)I"⟩
abbrev cX2_neighbours : ByteArray := prog_4_method_6_code
def yX2_neighbours : MethodName := ⟨RX2, "neighbours", "(I)I"⟩
abbrev cX2_length : ByteArray := prog_4_method_7_code
def yX2_length : MethodName := ⟨RX2, "length", "(I)I"⟩
abbrev cX2_letter : ByteArray := prog_4_method_8_code
def yX2_letter : MethodName := ⟨RX2, "letter", "(II)I"⟩
abbrev cX2_firstLetter : ByteArray := prog_4_method_9_code
def yX2_firstLetter : MethodName := ⟨RX2, "firstLetter", "(I)I"⟩
abbrev cX2_typeOf : ByteArray := prog_4_method_10_code
def yX2_typeOf : MethodName := ⟨RX2, "typeOf", "(II)I"⟩
abbrev cX2_cycleSize : ByteArray := prog_4_method_11_code
def yX2_cycleSize : MethodName := ⟨RX2, "cycleSize", "(II)I"⟩
abbrev cX2_beginsCycle : ByteArray := prog_4_method_12_code
def yX2_beginsCycle : MethodName := ⟨RX2, "beginsCycle", "(II)Z"⟩
abbrev cX2_ofType : ByteArray := prog_4_method_13_code
def yX2_ofType : MethodName := ⟨RX2, "ofType", "(I)I"⟩
def RX3 : String := "SwapTables$Partitions"
def TX3 : u_T := fun k => match k with
  | _ => ("", "", "", false)
def tyX3 : Nat → FieldType := fun k => match k with
  | _ => .int
abbrev wsX30 : List Cond := u_ws RX3 TX3 0
theorem nmX3 : ∀ a, a < 0 → ∀ b, b < 0 → a ≠ b → (TX3 a).2.1 ≠ (TX3 b).2.1 := by decide +kernel
theorem tyX3_ok : ∀ k, k < 0 → parseFieldDescriptor (TX3 k).2.2.1 = some (tyX3 k) := by decide +kernel
abbrev cX3_codeOf : ByteArray := prog_5_method_2_code
def yX3_codeOf : MethodName := ⟨RX3, "codeOf", "(IIIII)I"⟩
abbrev cX3_part : ByteArray := prog_5_method_3_code
def yX3_part : MethodName := ⟨RX3, "part", "(II)I"⟩
abbrev cX3_withPart : ByteArray := prog_5_method_4_code
def yX3_withPart : MethodName := ⟨RX3, "withPart", "(III)I"⟩
abbrev cX3_size : ByteArray := prog_5_method_5_code
def yX3_size : MethodName := ⟨RX3, "size", "(I)I"⟩
abbrev cX3_amount : ByteArray := prog_5_method_6_code
def yX3_amount : MethodName := ⟨RX3, "amount", "(I)I"⟩
abbrev cX3_code : ByteArray := prog_5_method_7_code
def yX3_code : MethodName := ⟨RX3, "code", "(II)I"⟩
abbrev cX3_numberOf : ByteArray := prog_5_method_8_code
def yX3_numberOf : MethodName := ⟨RX3, "numberOf", "(II)I"⟩
def RX4 : String := "SwapTables$Reader"
def TX4 : u_T := fun k => match k with
  | 0 => ("SwapTables$Reader", "refused", "LSwapTables$Troubles;", true)
  | 1 => ("SwapTables$Reader", "open", "LSwapTables$Troubles;", true)
  | 2 => ("SwapTables$Reader", "made", "[I", true)
  | 3 => ("SwapTables$Reader", "brackets", "I", false)
  | 4 => ("SwapTables$Reader", "awaited", "I", false)
  | 5 => ("SwapTables$Reader", "n", "I", false)
  | 6 => ("SwapTables$Reader", "isWrong", "Z", false)
  | 7 => ("SwapTables$Reader", "cycle", "I", false)
  | 8 => ("SwapTables$Reader", "figures", "I", false)
  | 9 => ("SwapTables$Reader", "seen", "I", false)
  | 10 => ("SwapTables$Reader", "first", "I", false)
  | _ => ("SwapTables$Reader", "last", "I", false)
def tyX4 : Nat → FieldType := fun k => match k with
  | 0 => .object "SwapTables$Troubles"
  | 1 => .object "SwapTables$Troubles"
  | 2 => .array .int
  | 3 => .int
  | 4 => .int
  | 5 => .int
  | 6 => .boolean
  | 7 => .int
  | 8 => .int
  | 9 => .int
  | 10 => .int
  | _ => .int
abbrev wsX40 : List Cond := u_ws RX4 TX4 12
theorem nmX4 : ∀ a, a < 12 → ∀ b, b < 12 → a ≠ b → (TX4 a).2.1 ≠ (TX4 b).2.1 := by decide +kernel
theorem tyX4_ok : ∀ k, k < 12 → parseFieldDescriptor (TX4 k).2.2.1 = some (tyX4 k) := by decide +kernel
abbrev cX4_init : ByteArray := prog_6_method_1_code
def yX4_init : MethodName := ⟨RX4, "<init>", "()V"⟩
abbrev cX4_workOut : ByteArray := prog_6_method_2_code
def yX4_workOut : MethodName := ⟨RX4, "workOut", "(LSwapTables$Tape;I)I"⟩
abbrev cX4_begin : ByteArray := prog_6_method_3_code
def yX4_begin : MethodName := ⟨RX4, "begin", "(I)V"⟩
abbrev cX4_refuseFault : ByteArray := prog_6_method_4_code
def yX4_refuseFault : MethodName := ⟨RX4, "refuseFault", "(I)I"⟩
abbrev cX4_refuse : ByteArray := prog_6_method_5_code
def yX4_refuse : MethodName := ⟨RX4, "refuse", "(II)V"⟩
abbrev cX4_noteWrong : ByteArray := prog_6_method_6_code
def yX4_noteWrong : MethodName := ⟨RX4, "noteWrong", "(I)V"⟩
abbrev cX4_goesOnWith : ByteArray := prog_6_method_7_code
def yX4_goesOnWith : MethodName := ⟨RX4, "goesOnWith", "(II)Z"⟩
abbrev cX4_beginsPart : ByteArray := prog_6_method_8_code
def yX4_beginsPart : MethodName := ⟨RX4, "beginsPart", "(II)Z"⟩
abbrev cX4_opensBracket : ByteArray := prog_6_method_9_code
def yX4_opensBracket : MethodName := ⟨RX4, "opensBracket", "(I)Z"⟩
abbrev cX4_endsSwap : ByteArray := prog_6_method_10_code
def yX4_endsSwap : MethodName := ⟨RX4, "endsSwap", "(II)Z"⟩
abbrev cX4_beginCycle : ByteArray := prog_6_method_11_code
def yX4_beginCycle : MethodName := ⟨RX4, "beginCycle", "()V"⟩
abbrev cX4_goesOnInCycle : ByteArray := prog_6_method_12_code
def yX4_goesOnInCycle : MethodName := ⟨RX4, "goesOnInCycle", "(II)Z"⟩
abbrev cX4_takeIntoCycle : ByteArray := prog_6_method_13_code
def yX4_takeIntoCycle : MethodName := ⟨RX4, "takeIntoCycle", "(II)V"⟩
abbrev cX4_goesOnBehindPart : ByteArray := prog_6_method_14_code
def yX4_goesOnBehindPart : MethodName := ⟨RX4, "goesOnBehindPart", "(I)Z"⟩
abbrev cX4_endPart : ByteArray := prog_6_method_15_code
def yX4_endPart : MethodName := ⟨RX4, "endPart", "(I)V"⟩
abbrev cX4_isFigure : ByteArray := prog_6_method_16_code
def yX4_isFigure : MethodName := ⟨RX4, "isFigure", "(I)Z"⟩
def RX5 : String := "SwapTables$SeminormalAxes"
def TX5 : u_T := fun k => match k with
  | 0 => ("SwapTables$SeminormalAxes", "shape", "LSwapTables$Shape;", true)
  | 1 => ("SwapTables$SeminormalAxes", "norms", "LSwapTables$FractionRow;", true)
  | 2 => ("SwapTables$SeminormalAxes", "one", "LSwapTables$FractionRow;", true)
  | _ => ("SwapTables$SeminormalAxes", "other", "LSwapTables$FractionRow;", true)
def tyX5 : Nat → FieldType := fun k => match k with
  | 0 => .object "SwapTables$Shape"
  | 1 => .object "SwapTables$FractionRow"
  | 2 => .object "SwapTables$FractionRow"
  | _ => .object "SwapTables$FractionRow"
abbrev wsX50 : List Cond := u_ws RX5 TX5 4
theorem nmX5 : ∀ a, a < 4 → ∀ b, b < 4 → a ≠ b → (TX5 a).2.1 ≠ (TX5 b).2.1 := by decide +kernel
theorem tyX5_ok : ∀ k, k < 4 → parseFieldDescriptor (TX5 k).2.2.1 = some (tyX5 k) := by decide +kernel
abbrev cX5_init : ByteArray := prog_7_method_1_code
def yX5_init : MethodName := ⟨RX5, "<init>", "(LSwapTables$Shape;)V"⟩
abbrev cX5_build : ByteArray := prog_7_method_2_code
def yX5_build : MethodName := ⟨RX5, "build", "()V"⟩
abbrev cX5_rowOf : ByteArray := prog_7_method_3_code
def yX5_rowOf : MethodName := ⟨RX5, "rowOf", "(II)LSwapTables$FractionRow;"⟩
abbrev cX5_goOn : ByteArray := prog_7_method_4_code
def yX5_goOn : MethodName := ⟨RX5, "goOn", "(LSwapTables$FractionRow;ILSwapTables$FractionRow;)V"⟩
abbrev cX5_innerProduct : ByteArray := prog_7_method_5_code
def yX5_innerProduct : MethodName := ⟨RX5, "innerProduct", "([I[I)LSwapTables$FractionRow;"⟩
def RX6 : String := "SwapTables$Shape"
def TX6 : u_T := fun k => match k with
  | 0 => ("SwapTables$Shape", "code", "I", false)
  | 1 => ("SwapTables$Shape", "n", "I", false)
  | 2 => ("SwapTables$Shape", "d", "I", false)
  | 3 => ("SwapTables$Shape", "beginOfRow", "[I", true)
  | 4 => ("SwapTables$Shape", "rowOfCell", "[I", true)
  | 5 => ("SwapTables$Shape", "columnOfCell", "[I", true)
  | 6 => ("SwapTables$Shape", "cellOf", "[[I", true)
  | 7 => ("SwapTables$Shape", "cellNow", "[I", true)
  | _ => ("SwapTables$Shape", "filledOfRow", "[I", true)
def tyX6 : Nat → FieldType := fun k => match k with
  | 0 => .int
  | 1 => .int
  | 2 => .int
  | 3 => .array .int
  | 4 => .array .int
  | 5 => .array .int
  | 6 => .array (.array .int)
  | 7 => .array .int
  | _ => .array .int
abbrev wsX60 : List Cond := u_ws RX6 TX6 9
theorem nmX6 : ∀ a, a < 9 → ∀ b, b < 9 → a ≠ b → (TX6 a).2.1 ≠ (TX6 b).2.1 := by decide +kernel
theorem tyX6_ok : ∀ k, k < 9 → parseFieldDescriptor (TX6 k).2.2.1 = some (tyX6 k) := by decide +kernel
abbrev cX6_init : ByteArray := prog_8_method_1_code
def yX6_init : MethodName := ⟨RX6, "<init>", "()V"⟩
abbrev cX6_build : ByteArray := prog_8_method_2_code
def yX6_build : MethodName := ⟨RX6, "build", "(I)V"⟩
abbrev cX6_fillFrom : ByteArray := prog_8_method_3_code
def yX6_fillFrom : MethodName := ⟨RX6, "fillFrom", "(I)V"⟩
abbrev cX6_canTakeNext : ByteArray := prog_8_method_4_code
def yX6_canTakeNext : MethodName := ⟨RX6, "canTakeNext", "(I)Z"⟩
abbrev cX6_keepFilling : ByteArray := prog_8_method_5_code
def yX6_keepFilling : MethodName := ⟨RX6, "keepFilling", "()V"⟩
abbrev cX6_lengthOf : ByteArray := prog_8_method_6_code
def yX6_lengthOf : MethodName := ⟨RX6, "lengthOf", "(I)I"⟩
abbrev cX6_hasCell : ByteArray := prog_8_method_7_code
def yX6_hasCell : MethodName := ⟨RX6, "hasCell", "(II)Z"⟩
abbrev cX6_hook : ByteArray := prog_8_method_8_code
def yX6_hook : MethodName := ⟨RX6, "hook", "(II)I"⟩
abbrev cX6_hooksMultiplied : ByteArray := prog_8_method_9_code
def yX6_hooksMultiplied : MethodName := ⟨RX6, "hooksMultiplied", "()I"⟩
abbrev cX6_rowIn : ByteArray := prog_8_method_10_code
def yX6_rowIn : MethodName := ⟨RX6, "rowIn", "(II)I"⟩
abbrev cX6_columnIn : ByteArray := prog_8_method_11_code
def yX6_columnIn : MethodName := ⟨RX6, "columnIn", "(II)I"⟩
abbrev cX6_distance : ByteArray := prog_8_method_12_code
def yX6_distance : MethodName := ⟨RX6, "distance", "(II)I"⟩
abbrev cX6_changed : ByteArray := prog_8_method_13_code
def yX6_changed : MethodName := ⟨RX6, "changed", "(II)I"⟩
abbrev cX6_isTakenTo : ByteArray := prog_8_method_14_code
def yX6_isTakenTo : MethodName := ⟨RX6, "isTakenTo", "(III)Z"⟩
abbrev cX6_copyFilling : ByteArray := prog_8_method_15_code
def yX6_copyFilling : MethodName := ⟨RX6, "copyFilling", "(II[I)V"⟩
abbrev cX6_isFilling : ByteArray := prog_8_method_16_code
def yX6_isFilling : MethodName := ⟨RX6, "isFilling", "([I)Z"⟩
abbrev cX6_isToldBy : ByteArray := prog_8_method_17_code
def yX6_isToldBy : MethodName := ⟨RX6, "isToldBy", "(I[I)Z"⟩
abbrev cX6_canLose : ByteArray := prog_8_method_18_code
def yX6_canLose : MethodName := ⟨RX6, "canLose", "(I)Z"⟩
abbrev cX6_branches : ByteArray := prog_8_method_19_code
def yX6_branches : MethodName := ⟨RX6, "branches", "()I"⟩
abbrev cX6_standardWithLastIn : ByteArray := prog_8_method_20_code
def yX6_standardWithLastIn : MethodName := ⟨RX6, "standardWithLastIn", "(I)I"⟩
def RX7 : String := "SwapTables$Shelf"
def TX7 : u_T := fun k => match k with
  | 0 => ("SwapTables$Shelf", "sort", "I", false)
  | 1 => ("SwapTables$Shelf", "size", "I", false)
  | _ => ("SwapTables$Shelf", "numbers", "[I", true)
def tyX7 : Nat → FieldType := fun k => match k with
  | 0 => .int
  | 1 => .int
  | _ => .array .int
abbrev wsX70 : List Cond := u_ws RX7 TX7 3
theorem nmX7 : ∀ a, a < 3 → ∀ b, b < 3 → a ≠ b → (TX7 a).2.1 ≠ (TX7 b).2.1 := by decide +kernel
theorem tyX7_ok : ∀ k, k < 3 → parseFieldDescriptor (TX7 k).2.2.1 = some (tyX7 k) := by decide +kernel
abbrev cX7_init : ByteArray := prog_9_method_1_code
def yX7_init : MethodName := ⟨RX7, "<init>", "()V"⟩
abbrev cX7_emptyOnes : ByteArray := prog_9_method_2_code
def yX7_emptyOnes : MethodName := ⟨RX7, "emptyOnes", "()[LSwapTables$Shelf;"⟩
abbrev cX7_hold : ByteArray := prog_9_method_3_code
def yX7_hold : MethodName := ⟨RX7, "hold", "(II)V"⟩
abbrev cX7_hasPlace : ByteArray := prog_9_method_4_code
def yX7_hasPlace : MethodName := ⟨RX7, "hasPlace", "(I)Z"⟩
abbrev cX7_copyAll : ByteArray := prog_9_method_5_code
def yX7_copyAll : MethodName := ⟨RX7, "copyAll", "([LSwapTables$Shelf;[LSwapTables$Shelf;)V"⟩
def RX8 : String := "SwapTables$Steps"
def TX8 : u_T := fun k => match k with
  | 0 => ("SwapTables$Steps", "size", "I", false)
  | 1 => ("SwapTables$Steps", "registers", "[I", true)
  | _ => ("SwapTables$Steps", "orders", "[I", true)
def tyX8 : Nat → FieldType := fun k => match k with
  | 0 => .int
  | 1 => .array .int
  | _ => .array .int
abbrev wsX80 : List Cond := u_ws RX8 TX8 3
theorem nmX8 : ∀ a, a < 3 → ∀ b, b < 3 → a ≠ b → (TX8 a).2.1 ≠ (TX8 b).2.1 := by decide +kernel
theorem tyX8_ok : ∀ k, k < 3 → parseFieldDescriptor (TX8 k).2.2.1 = some (tyX8 k) := by decide +kernel
abbrev cX8_init : ByteArray := prog_10_method_1_code
def yX8_init : MethodName := ⟨RX8, "<init>", "()V"⟩
abbrev cX8_keep : ByteArray := prog_10_method_2_code
def yX8_keep : MethodName := ⟨RX8, "keep", "(II)V"⟩
abbrev cX8_latestRegister : ByteArray := prog_10_method_3_code
def yX8_latestRegister : MethodName := ⟨RX8, "latestRegister", "()I"⟩
abbrev cX8_latestOrder : ByteArray := prog_10_method_4_code
def yX8_latestOrder : MethodName := ⟨RX8, "latestOrder", "()I"⟩
def RX9 : String := "SwapTables$Tape"
def TX9 : u_T := fun k => match k with
  | 0 => ("SwapTables$Tape", "size", "I", false)
  | _ => ("SwapTables$Tape", "bytes", "[B", true)
def tyX9 : Nat → FieldType := fun k => match k with
  | 0 => .int
  | _ => .array .byte
abbrev wsX90 : List Cond := u_ws RX9 TX9 2
theorem nmX9 : ∀ a, a < 2 → ∀ b, b < 2 → a ≠ b → (TX9 a).2.1 ≠ (TX9 b).2.1 := by decide +kernel
theorem tyX9_ok : ∀ k, k < 2 → parseFieldDescriptor (TX9 k).2.2.1 = some (tyX9 k) := by decide +kernel
abbrev cX9_init : ByteArray := prog_11_method_1_code
def yX9_init : MethodName := ⟨RX9, "<init>", "()V"⟩
def RX10 : String := "SwapTables$Troubles"
def TX10 : u_T := fun k => match k with
  | 0 => ("SwapTables$Troubles", "size", "I", false)
  | 1 => ("SwapTables$Troubles", "sorts", "[I", true)
  | _ => ("SwapTables$Troubles", "places", "[I", true)
def tyX10 : Nat → FieldType := fun k => match k with
  | 0 => .int
  | 1 => .array .int
  | _ => .array .int
abbrev wsX100 : List Cond := u_ws RX10 TX10 3
theorem nmX10 : ∀ a, a < 3 → ∀ b, b < 3 → a ≠ b → (TX10 a).2.1 ≠ (TX10 b).2.1 := by decide +kernel
theorem tyX10_ok : ∀ k, k < 3 → parseFieldDescriptor (TX10 k).2.2.1 = some (tyX10 k) := by decide +kernel
abbrev cX10_init : ByteArray := prog_12_method_1_code
def yX10_init : MethodName := ⟨RX10, "<init>", "()V"⟩
abbrev cX10_add : ByteArray := prog_12_method_2_code
def yX10_add : MethodName := ⟨RX10, "add", "(II)V"⟩
abbrev cX10_copyOf : ByteArray := prog_12_method_3_code
def yX10_copyOf : MethodName := ⟨RX10, "copyOf", "(LSwapTables$Troubles;)V"⟩
def RX11 : String := "SwapTables$WholeAxes"
def TX11 : u_T := fun k => match k with
  | 0 => ("SwapTables$WholeAxes", "shape", "LSwapTables$Shape;", true)
  | 1 => ("SwapTables$WholeAxes", "ofStandard", "[[I", true)
  | 2 => ("SwapTables$WholeAxes", "filling", "[I", true)
  | _ => ("SwapTables$WholeAxes", "made", "[I", true)
def tyX11 : Nat → FieldType := fun k => match k with
  | 0 => .object "SwapTables$Shape"
  | 1 => .array (.array .int)
  | 2 => .array .int
  | _ => .array .int
abbrev wsX110 : List Cond := u_ws RX11 TX11 4
theorem nmX11 : ∀ a, a < 4 → ∀ b, b < 4 → a ≠ b → (TX11 a).2.1 ≠ (TX11 b).2.1 := by decide +kernel
theorem tyX11_ok : ∀ k, k < 4 → parseFieldDescriptor (TX11 k).2.2.1 = some (tyX11 k) := by decide +kernel
abbrev cX11_init : ByteArray := prog_13_method_1_code
def yX11_init : MethodName := ⟨RX11, "<init>", "(LSwapTables$Shape;)V"⟩
abbrev cX11_build : ByteArray := prog_13_method_2_code
def yX11_build : MethodName := ⟨RX11, "build", "()V"⟩
abbrev cX11_numberAtTabloid : ByteArray := prog_13_method_3_code
def yX11_numberAtTabloid : MethodName := ⟨RX11, "numberAtTabloid", "(I)I"⟩
abbrev cX11_straighten : ByteArray := prog_13_method_4_code
def yX11_straighten : MethodName := ⟨RX11, "straighten", "()V"⟩
abbrev cX11_straightenTold : ByteArray := prog_13_method_5_code
def yX11_straightenTold : MethodName := ⟨RX11, "straightenTold", "([I)V"⟩
abbrev cX11_straightenTaken : ByteArray := prog_13_method_6_code
def yX11_straightenTaken : MethodName := ⟨RX11, "straightenTaken", "(II)V"⟩
abbrev cX11_trace : ByteArray := prog_13_method_7_code
def yX11_trace : MethodName := ⟨RX11, "trace", "(I)I"⟩
abbrev cX11_act : ByteArray := prog_13_method_8_code
def yX11_act : MethodName := ⟨RX11, "act", "([II[I)V"⟩
def RX12 : String := "SwapTables"
def TX12 : u_T := fun k => match k with
  | 0 => ("SwapTables", "shape", "LSwapTables$Shape;", true)
  | 1 => ("SwapTables", "wholeAxes", "LSwapTables$WholeAxes;", true)
  | 2 => ("SwapTables", "seminormalAxes", "LSwapTables$SeminormalAxes;", true)
  | 3 => ("SwapTables", "registers", "[I", true)
  | 4 => ("SwapTables", "shelves", "[LSwapTables$Shelf;", true)
  | 5 => ("SwapTables", "steps", "LSwapTables$Steps;", true)
  | 6 => ("SwapTables", "tape", "LSwapTables$Tape;", true)
  | 7 => ("SwapTables", "reader", "LSwapTables$Reader;", true)
  | 8 => ("SwapTables", "taken", "LSwapTables$Image;", true)
  | _ => ("SwapTables", "sums", "[I", true)
def tyX12 : Nat → FieldType := fun k => match k with
  | 0 => .object "SwapTables$Shape"
  | 1 => .object "SwapTables$WholeAxes"
  | 2 => .object "SwapTables$SeminormalAxes"
  | 3 => .array .int
  | 4 => .array (.object "SwapTables$Shelf")
  | 5 => .object "SwapTables$Steps"
  | 6 => .object "SwapTables$Tape"
  | 7 => .object "SwapTables$Reader"
  | 8 => .object "SwapTables$Image"
  | _ => .array .int
abbrev wsX120 : List Cond := u_ws RX12 TX12 10
theorem nmX12 : ∀ a, a < 10 → ∀ b, b < 10 → a ≠ b → (TX12 a).2.1 ≠ (TX12 b).2.1 := by decide +kernel
theorem tyX12_ok : ∀ k, k < 10 → parseFieldDescriptor (TX12 k).2.2.1 = some (tyX12 k) := by decide +kernel
abbrev cX12_init : ByteArray := prog_1_method_1_code
def yX12_init : MethodName := ⟨RX12, "<init>", "()V"⟩
abbrev cX12_shape : ByteArray := prog_1_method_2_code
def yX12_shape : MethodName := ⟨RX12, "shape", "(IIIII)I"⟩
abbrev cX12_of : ByteArray := prog_1_method_3_code
def yX12_of : MethodName := ⟨RX12, "of", "(I)I"⟩
abbrev cX12_cell : ByteArray := prog_1_method_4_code
def yX12_cell : MethodName := ⟨RX12, "cell", "(III)J"⟩
abbrev cX12_standard : ByteArray := prog_1_method_5_code
def yX12_standard : MethodName := ⟨RX12, "standard", "(III)I"⟩
abbrev cX12_which : ByteArray := prog_1_method_6_code
def yX12_which : MethodName := ⟨RX12, "which", "(I)I"⟩
abbrev cX12_swap : ByteArray := prog_1_method_7_code
def yX12_swap : MethodName := ⟨RX12, "swap", "(II)I"⟩
abbrev cX12_times : ByteArray := prog_1_method_8_code
def yX12_times : MethodName := ⟨RX12, "times", "(III)I"⟩
abbrev cX12_turn : ByteArray := prog_1_method_9_code
def yX12_turn : MethodName := ⟨RX12, "turn", "(I)I"⟩
abbrev cX12_takes : ByteArray := prog_1_method_10_code
def yX12_takes : MethodName := ⟨RX12, "takes", "(II)I"⟩
abbrev cX12_told : ByteArray := prog_1_method_11_code
def yX12_told : MethodName := ⟨RX12, "told", "(II)J"⟩
abbrev cX12_word : ByteArray := prog_1_method_12_code
def yX12_word : MethodName := ⟨RX12, "word", "(II)I"⟩
abbrev cX12_partition : ByteArray := prog_1_method_13_code
def yX12_partition : MethodName := ⟨RX12, "partition", "(II)I"⟩
abbrev cX12_straight : ByteArray := prog_1_method_14_code
def yX12_straight : MethodName := ⟨RX12, "straight", "(II)J"⟩
abbrev cX12_whole : ByteArray := prog_1_method_15_code
def yX12_whole : MethodName := ⟨RX12, "whole", "(III)J"⟩
abbrev cX12_fraction : ByteArray := prog_1_method_16_code
def yX12_fraction : MethodName := ⟨RX12, "fraction", "(IIII)J"⟩
abbrev cX12_norm : ByteArray := prog_1_method_17_code
def yX12_norm : MethodName := ⟨RX12, "norm", "(II)J"⟩
abbrev cX12_character : ByteArray := prog_1_method_18_code
def yX12_character : MethodName := ⟨RX12, "character", "(I)J"⟩
abbrev cX12_characterOf : ByteArray := prog_1_method_19_code
def yX12_characterOf : MethodName := ⟨RX12, "characterOf", "(I)J"⟩
abbrev cX12_branch : ByteArray := prog_1_method_20_code
def yX12_branch : MethodName := ⟨RX12, "branch", "(I)I"⟩
abbrev cX12_vector : ByteArray := prog_1_method_21_code
def yX12_vector : MethodName := ⟨RX12, "vector", "(II)I"⟩
abbrev cX12_give : ByteArray := prog_1_method_22_code
def yX12_give : MethodName := ⟨RX12, "give", "(III)J"⟩
abbrev cX12_has : ByteArray := prog_1_method_23_code
def yX12_has : MethodName := ⟨RX12, "has", "(II)J"⟩
abbrev cX12_acts : ByteArray := prog_1_method_24_code
def yX12_acts : MethodName := ⟨RX12, "acts", "(II)I"⟩
abbrev cX12_inner : ByteArray := prog_1_method_25_code
def yX12_inner : MethodName := ⟨RX12, "inner", "(III)J"⟩
abbrev cX12_row : ByteArray := prog_1_method_26_code
def yX12_row : MethodName := ⟨RX12, "row", "(II)I"⟩
abbrev cX12_put : ByteArray := prog_1_method_27_code
def yX12_put : MethodName := ⟨RX12, "put", "(III)I"⟩
abbrev cX12_get : ByteArray := prog_1_method_28_code
def yX12_get : MethodName := ⟨RX12, "get", "(II)J"⟩
abbrev cX12_film : ByteArray := prog_1_method_29_code
def yX12_film : MethodName := ⟨RX12, "film", "(II)I"⟩
abbrev cX12_judge : ByteArray := prog_1_method_30_code
def yX12_judge : MethodName := ⟨RX12, "judge", "(I)I"⟩
abbrev cX12_back : ByteArray := prog_1_method_31_code
def yX12_back : MethodName := ⟨RX12, "back", "()I"⟩
abbrev cX12_feed : ByteArray := prog_1_method_32_code
def yX12_feed : MethodName := ⟨RX12, "feed", "(I)I"⟩
abbrev cX12_wipe : ByteArray := prog_1_method_33_code
def yX12_wipe : MethodName := ⟨RX12, "wipe", "()I"⟩
abbrev cX12_read : ByteArray := prog_1_method_34_code
def yX12_read : MethodName := ⟨RX12, "read", "(I)I"⟩
abbrev cX12_why : ByteArray := prog_1_method_35_code
def yX12_why : MethodName := ⟨RX12, "why", "(II)I"⟩
abbrev cX12_image : ByteArray := prog_1_method_36_code
def yX12_image : MethodName := ⟨RX12, "image", "()I"⟩
abbrev cX12_restore : ByteArray := prog_1_method_37_code
def yX12_restore : MethodName := ⟨RX12, "restore", "()I"⟩
abbrev cX12_count : ByteArray := prog_1_method_38_code
def yX12_count : MethodName := ⟨RX12, "count", "(I)I"⟩
abbrev cX12_become : ByteArray := prog_1_method_39_code
def yX12_become : MethodName := ⟨RX12, "become", "(I)V"⟩
abbrev cX12_makeOtherwise : ByteArray := prog_1_method_40_code
def yX12_makeOtherwise : MethodName := ⟨RX12, "makeOtherwise", "(II)I"⟩
abbrev cX12_shelvesInUse : ByteArray := prog_1_method_41_code
def yX12_shelvesInUse : MethodName := ⟨RX12, "shelvesInUse", "()I"⟩
abbrev cX12_lengthsTogether : ByteArray := prog_1_method_42_code
def yX12_lengthsTogether : MethodName := ⟨RX12, "lengthsTogether", "()I"⟩
abbrev cX12_refusalOf : ByteArray := prog_1_method_43_code
def yX12_refusalOf : MethodName := ⟨RX12, "refusalOf", "(II)I"⟩
abbrev cX12_isInVector : ByteArray := prog_1_method_44_code
def yX12_isInVector : MethodName := ⟨RX12, "isInVector", "(II)Z"⟩
abbrev cX12_isStandard : ByteArray := prog_1_method_45_code
def yX12_isStandard : MethodName := ⟨RX12, "isStandard", "(I)Z"⟩
abbrev cX12_isNumber : ByteArray := prog_1_method_46_code
def yX12_isNumber : MethodName := ⟨RX12, "isNumber", "(I)Z"⟩
abbrev cX12_isSwap : ByteArray := prog_1_method_47_code
def yX12_isSwap : MethodName := ⟨RX12, "isSwap", "(I)Z"⟩
abbrev cX12_isPartition : ByteArray := prog_1_method_48_code
def yX12_isPartition : MethodName := ⟨RX12, "isPartition", "(I)Z"⟩
abbrev cX12_isRegister : ByteArray := prog_1_method_49_code
def yX12_isRegister : MethodName := ⟨RX12, "isRegister", "(I)Z"⟩
abbrev cX12_isShelf : ByteArray := prog_1_method_50_code
def yX12_isShelf : MethodName := ⟨RX12, "isShelf", "(I)Z"⟩
abbrev cX12_isPart : ByteArray := prog_1_method_51_code
def yX12_isPart : MethodName := ⟨RX12, "isPart", "(I)Z"⟩
abbrev cX12_isBeyond : ByteArray := prog_1_method_52_code
def yX12_isBeyond : MethodName := ⟨RX12, "isBeyond", "(I)Z"⟩
def RX13 : String := "SwapTablesModel"
def TX13 : u_T := fun k => match k with
  | 0 => ("SwapTablesModel", "lengths", "[I", true)
  | 1 => ("SwapTablesModel", "n", "I", false)
  | 2 => ("SwapTablesModel", "cellRow", "[I", true)
  | 3 => ("SwapTablesModel", "cellColumn", "[I", true)
  | 4 => ("SwapTablesModel", "many", "I", false)
  | 5 => ("SwapTablesModel", "standRow", "[I", true)
  | 6 => ("SwapTablesModel", "standColumn", "[I", true)
  | 7 => ("SwapTablesModel", "orders", "[I", true)
  | 8 => ("SwapTablesModel", "shelfIs", "[I", true)
  | 9 => ("SwapTablesModel", "sizes", "[I", true)
  | 10 => ("SwapTablesModel", "items", "[I", true)
  | 11 => ("SwapTablesModel", "filled", "[I", true)
  | 12 => ("SwapTablesModel", "parts", "[I", true)
  | 13 => ("SwapTablesModel", "partRow", "[I", true)
  | 14 => ("SwapTablesModel", "partMany", "I", false)
  | 15 => ("SwapTablesModel", "one", "[I", true)
  | 16 => ("SwapTablesModel", "made", "[I", true)
  | 17 => ("SwapTablesModel", "steps", "I", false)
  | 18 => ("SwapTablesModel", "stepRow", "[I", true)
  | 19 => ("SwapTablesModel", "isSeen", "[Z", true)
  | 20 => ("SwapTablesModel", "sorted", "[I", true)
  | 21 => ("SwapTablesModel", "word", "[I", true)
  | 22 => ("SwapTablesModel", "wordMany", "I", false)
  | 23 => ("SwapTablesModel", "left", "[I", true)
  | 24 => ("SwapTablesModel", "numbers", "[I", true)
  | 25 => ("SwapTablesModel", "fillRow", "[I", true)
  | 26 => ("SwapTablesModel", "fillColumn", "[I", true)
  | 27 => ("SwapTablesModel", "tried", "[I", true)
  | 28 => ("SwapTablesModel", "often", "I", false)
  | 29 => ("SwapTablesModel", "straight", "[I", true)
  | 30 => ("SwapTablesModel", "isDone", "[Z", true)
  | 31 => ("SwapTablesModel", "above", "[J", true)
  | 32 => ("SwapTablesModel", "below", "[J", true)
  | 33 => ("SwapTablesModel", "nextAbove", "[J", true)
  | 34 => ("SwapTablesModel", "nextBelow", "[J", true)
  | 35 => ("SwapTablesModel", "a0", "J", false)
  | 36 => ("SwapTablesModel", "b0", "J", false)
  | 37 => ("SwapTablesModel", "normAbove", "[J", true)
  | 38 => ("SwapTablesModel", "normBelow", "[J", true)
  | 39 => ("SwapTablesModel", "sums", "[J", true)
  | 40 => ("SwapTablesModel", "tape", "[I", true)
  | 41 => ("SwapTablesModel", "taped", "I", false)
  | 42 => ("SwapTablesModel", "at", "I", false)
  | 43 => ("SwapTablesModel", "openSort", "[I", true)
  | 44 => ("SwapTablesModel", "openPlace", "[I", true)
  | 45 => ("SwapTablesModel", "openMany", "I", false)
  | 46 => ("SwapTablesModel", "brackets", "I", false)
  | 47 => ("SwapTablesModel", "whySort", "[I", true)
  | 48 => ("SwapTablesModel", "whyPlace", "[I", true)
  | 49 => ("SwapTablesModel", "whyMany", "I", false)
  | 50 => ("SwapTablesModel", "works", "Z", false)
  | 51 => ("SwapTablesModel", "waiting", "[I", true)
  | 52 => ("SwapTablesModel", "part", "[I", true)
  | 53 => ("SwapTablesModel", "hasImage", "Z", false)
  | 54 => ("SwapTablesModel", "imageLengths", "[I", true)
  | 55 => ("SwapTablesModel", "imageOrders", "[I", true)
  | 56 => ("SwapTablesModel", "imageIs", "[I", true)
  | 57 => ("SwapTablesModel", "imageSizes", "[I", true)
  | _ => ("SwapTablesModel", "imageItems", "[I", true)
def tyX13 : Nat → FieldType := fun k => match k with
  | 0 => .array .int
  | 1 => .int
  | 2 => .array .int
  | 3 => .array .int
  | 4 => .int
  | 5 => .array .int
  | 6 => .array .int
  | 7 => .array .int
  | 8 => .array .int
  | 9 => .array .int
  | 10 => .array .int
  | 11 => .array .int
  | 12 => .array .int
  | 13 => .array .int
  | 14 => .int
  | 15 => .array .int
  | 16 => .array .int
  | 17 => .int
  | 18 => .array .int
  | 19 => .array .boolean
  | 20 => .array .int
  | 21 => .array .int
  | 22 => .int
  | 23 => .array .int
  | 24 => .array .int
  | 25 => .array .int
  | 26 => .array .int
  | 27 => .array .int
  | 28 => .int
  | 29 => .array .int
  | 30 => .array .boolean
  | 31 => .array .long
  | 32 => .array .long
  | 33 => .array .long
  | 34 => .array .long
  | 35 => .long
  | 36 => .long
  | 37 => .array .long
  | 38 => .array .long
  | 39 => .array .long
  | 40 => .array .int
  | 41 => .int
  | 42 => .int
  | 43 => .array .int
  | 44 => .array .int
  | 45 => .int
  | 46 => .int
  | 47 => .array .int
  | 48 => .array .int
  | 49 => .int
  | 50 => .boolean
  | 51 => .array .int
  | 52 => .array .int
  | 53 => .boolean
  | 54 => .array .int
  | 55 => .array .int
  | 56 => .array .int
  | 57 => .array .int
  | _ => .array .int
abbrev wsX130 : List Cond := u_ws RX13 TX13 59
theorem nmX13 : ∀ a, a < 59 → ∀ b, b < 59 → a ≠ b → (TX13 a).2.1 ≠ (TX13 b).2.1 := by decide +kernel
theorem tyX13_ok : ∀ k, k < 59 → parseFieldDescriptor (TX13 k).2.2.1 = some (tyX13 k) := by decide +kernel
abbrev cX13_init : ByteArray := prog_15_method_1_code
def yX13_init : MethodName := ⟨RX13, "<init>", "()V"⟩
abbrev cX13_in : ByteArray := prog_15_method_2_code
def yX13_in : MethodName := ⟨RX13, "in", "(JJJ)Z"⟩
abbrev cX13_stands : ByteArray := prog_15_method_3_code
def yX13_stands : MethodName := ⟨RX13, "stands", "(I)V"⟩
abbrev cX13_tellsShape : ByteArray := prog_15_method_4_code
def yX13_tellsShape : MethodName := ⟨RX13, "tellsShape", "()V"⟩
abbrev cX13_begins : ByteArray := prog_15_method_5_code
def yX13_begins : MethodName := ⟨RX13, "begins", "([II)V"⟩
abbrev cX13_shape : ByteArray := prog_15_method_6_code
def yX13_shape : MethodName := ⟨RX13, "shape", "(IIIII)I"⟩
abbrev cX13_hookOf : ByteArray := prog_15_method_7_code
def yX13_hookOf : MethodName := ⟨RX13, "hookOf", "(II)I"⟩
abbrev cX13_rows : ByteArray := prog_15_method_8_code
def yX13_rows : MethodName := ⟨RX13, "rows", "()I"⟩
abbrev cX13_of : ByteArray := prog_15_method_9_code
def yX13_of : MethodName := ⟨RX13, "of", "(I)I"⟩
abbrev cX13_cell : ByteArray := prog_15_method_10_code
def yX13_cell : MethodName := ⟨RX13, "cell", "(III)J"⟩
abbrev cX13_isStandard : ByteArray := prog_15_method_11_code
def yX13_isStandard : MethodName := ⟨RX13, "isStandard", "(I)Z"⟩
abbrev cX13_standard : ByteArray := prog_15_method_12_code
def yX13_standard : MethodName := ⟨RX13, "standard", "(III)I"⟩
abbrev cX13_splits : ByteArray := prog_15_method_13_code
def yX13_splits : MethodName := ⟨RX13, "splits", "(III)V"⟩
abbrev cX13_tellsPartitions : ByteArray := prog_15_method_14_code
def yX13_tellsPartitions : MethodName := ⟨RX13, "tellsPartitions", "()V"⟩
abbrev cX13_partitionOf : ByteArray := prog_15_method_15_code
def yX13_partitionOf : MethodName := ⟨RX13, "partitionOf", "([I)I"⟩
abbrev cX13_partition : ByteArray := prog_15_method_16_code
def yX13_partition : MethodName := ⟨RX13, "partition", "(II)I"⟩
abbrev cX13_isRegister : ByteArray := prog_15_method_17_code
def yX13_isRegister : MethodName := ⟨RX13, "isRegister", "(I)Z"⟩
abbrev cX13_takesOut : ByteArray := prog_15_method_18_code
def yX13_takesOut : MethodName := ⟨RX13, "takesOut", "(I)V"⟩
abbrev cX13_lengthOf : ByteArray := prog_15_method_19_code
def yX13_lengthOf : MethodName := ⟨RX13, "lengthOf", "([I)I"⟩
abbrev cX13_isSwap : ByteArray := prog_15_method_20_code
def yX13_isSwap : MethodName := ⟨RX13, "isSwap", "(I)Z"⟩
abbrev cX13_changes : ByteArray := prog_15_method_21_code
def yX13_changes : MethodName := ⟨RX13, "changes", "([III)V"⟩
abbrev cX13_becomes : ByteArray := prog_15_method_22_code
def yX13_becomes : MethodName := ⟨RX13, "becomes", "(I)I"⟩
abbrev cX13_swap : ByteArray := prog_15_method_23_code
def yX13_swap : MethodName := ⟨RX13, "swap", "(II)I"⟩
abbrev cX13_times : ByteArray := prog_15_method_24_code
def yX13_times : MethodName := ⟨RX13, "times", "(III)I"⟩
abbrev cX13_turn : ByteArray := prog_15_method_25_code
def yX13_turn : MethodName := ⟨RX13, "turn", "(I)I"⟩
abbrev cX13_back : ByteArray := prog_15_method_26_code
def yX13_back : MethodName := ⟨RX13, "back", "()I"⟩
abbrev cX13_takes : ByteArray := prog_15_method_27_code
def yX13_takes : MethodName := ⟨RX13, "takes", "(II)I"⟩
abbrev cX13_typeOf : ByteArray := prog_15_method_28_code
def yX13_typeOf : MethodName := ⟨RX13, "typeOf", "([I)I"⟩
abbrev cX13_told : ByteArray := prog_15_method_29_code
def yX13_told : MethodName := ⟨RX13, "told", "(II)J"⟩
abbrev cX13_placeOf : ByteArray := prog_15_method_30_code
def yX13_placeOf : MethodName := ⟨RX13, "placeOf", "([II)I"⟩
abbrev cX13_tellsWord : ByteArray := prog_15_method_31_code
def yX13_tellsWord : MethodName := ⟨RX13, "tellsWord", "([I)V"⟩
abbrev cX13_word : ByteArray := prog_15_method_32_code
def yX13_word : MethodName := ⟨RX13, "word", "(II)I"⟩
abbrev cX13_codeOf : ByteArray := prog_15_method_33_code
def yX13_codeOf : MethodName := ⟨RX13, "codeOf", "()I"⟩
abbrev cX13_adds : ByteArray := prog_15_method_34_code
def yX13_adds : MethodName := ⟨RX13, "adds", "(I)V"⟩
abbrev cX13_tellsStandard : ByteArray := prog_15_method_35_code
def yX13_tellsStandard : MethodName := ⟨RX13, "tellsStandard", "(I)V"⟩
abbrev cX13_isHigher : ByteArray := prog_15_method_36_code
def yX13_isHigher : MethodName := ⟨RX13, "isHigher", "(II)Z"⟩
abbrev cX13_standCode : ByteArray := prog_15_method_37_code
def yX13_standCode : MethodName := ⟨RX13, "standCode", "(I)I"⟩
abbrev cX13_straightens : ByteArray := prog_15_method_38_code
def yX13_straightens : MethodName := ⟨RX13, "straightens", "()V"⟩
abbrev cX13_tellsWhole : ByteArray := prog_15_method_39_code
def yX13_tellsWhole : MethodName := ⟨RX13, "tellsWhole", "([II)V"⟩
abbrev cX13_isShelf : ByteArray := prog_15_method_40_code
def yX13_isShelf : MethodName := ⟨RX13, "isShelf", "(I)Z"⟩
abbrev cX13_isFilling : ByteArray := prog_15_method_41_code
def yX13_isFilling : MethodName := ⟨RX13, "isFilling", "(I)Z"⟩
abbrev cX13_which : ByteArray := prog_15_method_42_code
def yX13_which : MethodName := ⟨RX13, "which", "(I)I"⟩
abbrev cX13_straight : ByteArray := prog_15_method_43_code
def yX13_straight : MethodName := ⟨RX13, "straight", "(II)J"⟩
abbrev cX13_whole : ByteArray := prog_15_method_44_code
def yX13_whole : MethodName := ⟨RX13, "whole", "(III)J"⟩
abbrev cX13_trace : ByteArray := prog_15_method_45_code
def yX13_trace : MethodName := ⟨RX13, "trace", "([I)J"⟩
abbrev cX13_character : ByteArray := prog_15_method_46_code
def yX13_character : MethodName := ⟨RX13, "character", "(I)J"⟩
abbrev cX13_characterOf : ByteArray := prog_15_method_47_code
def yX13_characterOf : MethodName := ⟨RX13, "characterOf", "(I)J"⟩
abbrev cX13_common : ByteArray := prog_15_method_48_code
def yX13_common : MethodName := ⟨RX13, "common", "(JJ)J"⟩
abbrev cX13_lowers : ByteArray := prog_15_method_49_code
def yX13_lowers : MethodName := ⟨RX13, "lowers", "()V"⟩
abbrev cX13_addsTo : ByteArray := prog_15_method_50_code
def yX13_addsTo : MethodName := ⟨RX13, "addsTo", "(JJ)V"⟩
abbrev cX13_contentOf : ByteArray := prog_15_method_51_code
def yX13_contentOf : MethodName := ⟨RX13, "contentOf", "(II)I"⟩
abbrev cX13_changed : ByteArray := prog_15_method_52_code
def yX13_changed : MethodName := ⟨RX13, "changed", "(II)I"⟩
abbrev cX13_tellsSwap : ByteArray := prog_15_method_53_code
def yX13_tellsSwap : MethodName := ⟨RX13, "tellsSwap", "(III)V"⟩
abbrev cX13_tellsFractions : ByteArray := prog_15_method_54_code
def yX13_tellsFractions : MethodName := ⟨RX13, "tellsFractions", "([I)V"⟩
abbrev cX13_sums : ByteArray := prog_15_method_55_code
def yX13_sums : MethodName := ⟨RX13, "sums", "(III)V"⟩
abbrev cX13_isPart : ByteArray := prog_15_method_56_code
def yX13_isPart : MethodName := ⟨RX13, "isPart", "(I)Z"⟩
abbrev cX13_fraction : ByteArray := prog_15_method_57_code
def yX13_fraction : MethodName := ⟨RX13, "fraction", "(IIII)J"⟩
abbrev cX13_tellsNorms : ByteArray := prog_15_method_58_code
def yX13_tellsNorms : MethodName := ⟨RX13, "tellsNorms", "()V"⟩
abbrev cX13_norm : ByteArray := prog_15_method_59_code
def yX13_norm : MethodName := ⟨RX13, "norm", "(II)J"⟩
abbrev cX13_canLose : ByteArray := prog_15_method_60_code
def yX13_canLose : MethodName := ⟨RX13, "canLose", "(I)Z"⟩
abbrev cX13_branch : ByteArray := prog_15_method_61_code
def yX13_branch : MethodName := ⟨RX13, "branch", "(I)I"⟩
abbrev cX13_vector : ByteArray := prog_15_method_62_code
def yX13_vector : MethodName := ⟨RX13, "vector", "(II)I"⟩
abbrev cX13_isNumber : ByteArray := prog_15_method_63_code
def yX13_isNumber : MethodName := ⟨RX13, "isNumber", "(II)Z"⟩
abbrev cX13_give : ByteArray := prog_15_method_64_code
def yX13_give : MethodName := ⟨RX13, "give", "(III)J"⟩
abbrev cX13_has : ByteArray := prog_15_method_65_code
def yX13_has : MethodName := ⟨RX13, "has", "(II)J"⟩
abbrev cX13_acts : ByteArray := prog_15_method_66_code
def yX13_acts : MethodName := ⟨RX13, "acts", "(II)I"⟩
abbrev cX13_inner : ByteArray := prog_15_method_67_code
def yX13_inner : MethodName := ⟨RX13, "inner", "(III)J"⟩
abbrev cX13_row : ByteArray := prog_15_method_68_code
def yX13_row : MethodName := ⟨RX13, "row", "(II)I"⟩
abbrev cX13_put : ByteArray := prog_15_method_69_code
def yX13_put : MethodName := ⟨RX13, "put", "(III)I"⟩
abbrev cX13_get : ByteArray := prog_15_method_70_code
def yX13_get : MethodName := ⟨RX13, "get", "(II)J"⟩
abbrev cX13_film : ByteArray := prog_15_method_71_code
def yX13_film : MethodName := ⟨RX13, "film", "(II)I"⟩
abbrev cX13_judge : ByteArray := prog_15_method_72_code
def yX13_judge : MethodName := ⟨RX13, "judge", "(I)I"⟩
abbrev cX13_feed : ByteArray := prog_15_method_73_code
def yX13_feed : MethodName := ⟨RX13, "feed", "(I)I"⟩
abbrev cX13_wipe : ByteArray := prog_15_method_74_code
def yX13_wipe : MethodName := ⟨RX13, "wipe", "()I"⟩
abbrev cX13_here : ByteArray := prog_15_method_75_code
def yX13_here : MethodName := ⟨RX13, "here", "()I"⟩
abbrev cX13_opens : ByteArray := prog_15_method_76_code
def yX13_opens : MethodName := ⟨RX13, "opens", "(II)V"⟩
abbrev cX13_fails : ByteArray := prog_15_method_77_code
def yX13_fails : MethodName := ⟨RX13, "fails", "(II)Z"⟩
abbrev cX13_isFigure : ByteArray := prog_15_method_78_code
def yX13_isFigure : MethodName := ⟨RX13, "isFigure", "()Z"⟩
abbrev cX13_readsCycle : ByteArray := prog_15_method_79_code
def yX13_readsCycle : MethodName := ⟨RX13, "readsCycle", "()Z"⟩
abbrev cX13_readsPart : ByteArray := prog_15_method_80_code
def yX13_readsPart : MethodName := ⟨RX13, "readsPart", "(I)Z"⟩
abbrev cX13_turnsPart : ByteArray := prog_15_method_81_code
def yX13_turnsPart : MethodName := ⟨RX13, "turnsPart", "()V"⟩
abbrev cX13_readsText : ByteArray := prog_15_method_82_code
def yX13_readsText : MethodName := ⟨RX13, "readsText", "(I)Z"⟩
abbrev cX13_readsAll : ByteArray := prog_15_method_83_code
def yX13_readsAll : MethodName := ⟨RX13, "readsAll", "(Z)Z"⟩
abbrev cX13_read : ByteArray := prog_15_method_84_code
def yX13_read : MethodName := ⟨RX13, "read", "(I)I"⟩
abbrev cX13_why : ByteArray := prog_15_method_85_code
def yX13_why : MethodName := ⟨RX13, "why", "(II)I"⟩
abbrev cX13_lays : ByteArray := prog_15_method_86_code
def yX13_lays : MethodName := ⟨RX13, "lays", "([I[I)V"⟩
abbrev cX13_image : ByteArray := prog_15_method_87_code
def yX13_image : MethodName := ⟨RX13, "image", "()I"⟩
abbrev cX13_restore : ByteArray := prog_15_method_88_code
def yX13_restore : MethodName := ⟨RX13, "restore", "()I"⟩
abbrev cX13_held : ByteArray := prog_15_method_89_code
def yX13_held : MethodName := ⟨RX13, "held", "()I"⟩
abbrev cX13_lengthsAll : ByteArray := prog_15_method_90_code
def yX13_lengthsAll : MethodName := ⟨RX13, "lengthsAll", "()I"⟩
abbrev cX13_count : ByteArray := prog_15_method_91_code
def yX13_count : MethodName := ⟨RX13, "count", "(I)I"⟩
def RL : String := "SwapTablesLaw"
abbrev cL_law : ByteArray := code
def yL_law : MethodName := ⟨RL, "law", "([I)Z"⟩
abbrev vwCl : List vw_C := [(RX0, TX0, 2), (RX1, TX1, 3), (RX4, TX4, 12), (RX5, TX5, 4), (RX6, TX6, 9), (RX7, TX7, 3), (RX8, TX8, 3), (RX9, TX9, 2), (RX10, TX10, 3), (RX11, TX11, 4), (RX12, TX12, 10), (RX13, TX13, 59)]
end
section
/-! 03: expressions of the symbolic executor: constants, variables, operations; their meaning; folding of constants -/
abbrev sX : Type := Lean.Grind.CommRing.Expr
abbrev sE : Type := (Nat → Int32) × (Nat → Int64)
def sB (o : Nat) (a b : Int32 × Int64) : Int32 × Int64 := match o with
  | 0 => (a.1 + b.1, 0)
  | 1 => (a.1 - b.1, 0)
  | 2 => (a.1 * b.1, 0)
  | 3 => (a.1 &&& b.1, 0)
  | 4 => (a.1 ||| b.1, 0)
  | 5 => (a.1 ^^^ b.1, 0)
  | 6 => (a.1 <<< (b.1 &&& 31), 0)
  | 7 => (a.1 >>> (b.1 &&& 31), 0)
  | 8 => ((a.1.toUInt32 >>> (b.1.toUInt32 &&& Int32.toUInt32 31)).toInt32, 0)
  | 9 => (a.1 - a.1 / b.1 * b.1, 0)
  | 10 => (lg_cmp a.2 b.2, 0)
  | 20 => (0, a.2 + b.2)
  | 21 => (0, a.2 - b.2)
  | 22 => (0, a.2 * b.2)
  | 24 => (0, a.2 ||| b.2)
  | 27 => (0, a.2 >>> (b.1.toInt64 &&& 63))
  | 28 => (0, (a.2.toUInt64 >>> (b.1.toInt64.toUInt64 &&& Int64.toUInt64 63)).toInt64)
  | 29 => (0, a.2 / b.2)
  | 30 => (0, a.2 - a.2 / b.2 * b.2)
  | _ => (0, 0)
def sU (o : Nat) (a : Int32 × Int64) : Int32 × Int64 := match o with
  | 0 => (-a.1, 0)
  | 1 => (a.1.toInt8.toInt32, 0)
  | 2 => (vp_nar .byte a.1, 0)
  | 3 => (vp_nar .boolean a.1, 0)
  | 4 => (a.2.toInt32, 0)
  | 20 => (0, -a.2)
  | 21 => (0, a.1.toInt64)
  | _ => (0, 0)
def sD (r : sE) : sX → Int32 × Int64
  | .natCast k => (Int32.ofNat k, Int64.ofNat k)
  | .var i => (r.1 i, r.2 i)
  | .pow (.mul x y) o => sB o (sD r x) (sD r y)
  | .pow (.neg x) o => sU o (sD r x)
  | _ => (0, 0)
theorem sD_c (r : sE) (k : Nat) : sD r (.natCast k) = (Int32.ofNat k, Int64.ofNat k) := by rw [sD]
theorem sD_v (r : sE) (i : Nat) : sD r (.var i) = (r.1 i, r.2 i) := by rw [sD]
theorem sD_b (r : sE) (x y : sX) (o : Nat) : sD r (.pow (.mul x y) o) = sB o (sD r x) (sD r y) := by rw [sD]
theorem sD_u (r : sE) (x : sX) (o : Nat) : sD r (.pow (.neg x) o) = sU o (sD r x) := by rw [sD]
abbrev sI (r : sE) (x : sX) : Int32 := (sD r x).1
abbrev sJ (r : sE) (x : sX) : Int64 := (sD r x).2
-- folding
def fN (x : Int32) : Nat := x.toUInt32.toNat
def gN (x : Int64) : Nat := x.toUInt64.toNat
theorem fN_ok (x : Int32) : Int32.ofNat (fN x) = x := by
  unfold fN
  rw [← Int32.toBitVec_inj]
  simp
theorem gN_ok (x : Int64) : Int64.ofNat (gN x) = x := by
  unfold gN
  rw [← Int64.toBitVec_inj]
  simp
def fAdd (a b : Nat) : Nat := (a + b) % 4294967296
def fSub (a b : Nat) : Nat := (a + (4294967296 - b % 4294967296)) % 4294967296
def fMul (a b : Nat) : Nat := (a * b) % 4294967296
def fAnd (a b : Nat) : Nat := Nat.land a b
def fOr (a b : Nat) : Nat := Nat.lor a b
def fLt (a b : Nat) : Bool := Nat.blt ((a + 2147483648) % 4294967296) ((b + 2147483648) % 4294967296)
def fEq (a b : Nat) : Bool := Nat.beq (a % 4294967296) (b % 4294967296)
theorem f_mod (a : Nat) : Int32.ofNat (a % 4294967296) = Int32.ofNat a := by
  rw [← Int32.toBitVec_inj]
  simp [BitVec.toNat_inj.symm]
theorem fAdd_ok (a b : Nat) : Int32.ofNat (fAdd a b) = Int32.ofNat a + Int32.ofNat b := by
  unfold fAdd
  rw [f_mod, Int32.ofNat_add]
theorem fMul_ok (a b : Nat) : Int32.ofNat (fMul a b) = Int32.ofNat a * Int32.ofNat b := by
  unfold fMul
  rw [f_mod, Int32.ofNat_mul]
theorem fSub_ok (a b : Nat) : Int32.ofNat (fSub a b) = Int32.ofNat a - Int32.ofNat b := by
  unfold fSub
  rw [f_mod, ← Int32.toInt_inj]
  simp only [Int32.toInt_sub, Int32.toInt_ofNat']
  have h : (((a + (4294967296 - b % 4294967296) : Nat)) : Int) = (a : Int) - (b : Int) + 4294967296 * (1 + (b : Int) / 4294967296) := by omega
  rw [h]
  simp only [Int.bmod_def, show (Int32.size : Int) = 4294967296 from rfl, show ((Int32.size : Nat) : Int) = 4294967296 from rfl]
  omega
theorem fAnd_ok (a b : Nat) : Int32.ofNat (fAnd a b) = Int32.ofNat a &&& Int32.ofNat b := by
  unfold fAnd
  rw [← Int32.toBitVec_inj]
  show BitVec.ofNat 32 (a &&& b) = BitVec.ofNat 32 a &&& BitVec.ofNat 32 b
  exact BitVec.ofNat_and
theorem fOr_ok (a b : Nat) : Int32.ofNat (fOr a b) = Int32.ofNat a ||| Int32.ofNat b := by
  unfold fOr
  rw [← Int32.toBitVec_inj]
  show BitVec.ofNat 32 (a ||| b) = BitVec.ofNat 32 a ||| BitVec.ofNat 32 b
  exact BitVec.ofNat_or
theorem fLt_ok (a b : Nat) : fLt a b = true ↔ Int32.ofNat a < Int32.ofNat b := by
  unfold fLt
  rw [Int32.lt_iff_toInt_lt]
  simp only [Int32.toInt_ofNat', Nat.blt_eq, Int.bmod_def, show ((Int32.size : Nat) : Int) = 4294967296 from rfl]
  omega
theorem fEq_ok (a b : Nat) : fEq a b = true ↔ Int32.ofNat a = Int32.ofNat b := by
  unfold fEq
  rw [← Int32.toInt_inj]
  simp only [Int32.toInt_ofNat', Nat.beq_eq, Int.bmod_def, show ((Int32.size : Nat) : Int) = 4294967296 from rfl]
  omega
-- strict evaluation by continuations
def sFc (n : Nat) (k : Nat → Bool) : Bool := match n with
  | 0 => k 0
  | m + 1 => k (m + 1)
theorem sFc_eq (n : Nat) (k : Nat → Bool) : sFc n k = k n := by cases n <;> rfl
def sGet {α : Type} : List α → Nat → (α → Bool) → Bool
  | [], _, _ => false
  | a :: _, 0, k => k a
  | _ :: l, n + 1, k => sGet l n k
theorem sGet_ok {α : Type} : ∀ (l : List α) (i : Nat) (k : α → Bool), sGet l i k = true → ∃ a, l[i]? = some a ∧ k a = true
  | [], _, _, h => by simp [sGet] at h
  | a :: _, 0, k, h => ⟨a, rfl, h⟩
  | _ :: l, n + 1, k, h => by
    obtain ⟨a, h1, h2⟩ := sGet_ok l n k h
    exact ⟨a, by simpa using h1, h2⟩
def sSet {α : Type} : List α → Nat → α → (List α → Bool) → Bool
  | [], _, _, _ => false
  | _ :: l, 0, v, k => k (v :: l)
  | a :: l, n + 1, v, k => sSet l n v (fun l' => k (a :: l'))
theorem sSet_ok {α : Type} : ∀ (l : List α) (i : Nat) (v : α) (k : List α → Bool), sSet l i v k = true → i < l.length ∧ k (l.set i v) = true
  | [], _, _, _, h => by simp [sSet] at h
  | _ :: l, 0, v, k, h => ⟨by simp, h⟩
  | a :: l, n + 1, v, k, h => by
    obtain ⟨h1, h2⟩ := sSet_ok l n v _ h
    exact ⟨by simpa using h1, h2⟩
/-- an operation of two: folded where both are constants -/
def sBin (o : Nat) (f : Nat → Nat → Nat) (x y : sX) (k : sX → Bool) : Bool := match x with
  | .natCast a => match y with
    | .natCast b => sFc (f a b) (fun n => k (.natCast n))
    | _ => k (.pow (.mul x y) o)
  | _ => k (.pow (.mul x y) o)
theorem sBin_ok {o : Nat} {f : Nat → Nat → Nat} {x y : sX} {k : sX → Bool} (h : sBin o f x y k = true) : (∃ a b, x = .natCast a ∧ y = .natCast b ∧ k (.natCast (f a b)) = true) ∨ k (.pow (.mul x y) o) = true := by
  unfold sBin at h
  split at h
  · split at h
    · rw [sFc_eq] at h
      exact Or.inl ⟨_, _, rfl, rfl, h⟩
    · exact Or.inr h
  · exact Or.inr h
def sUn (o : Nat) (f : Nat → Nat) (x : sX) (k : sX → Bool) : Bool := match x with
  | .natCast a => sFc (f a) (fun n => k (.natCast n))
  | _ => k (.pow (.neg x) o)
theorem sUn_ok {o : Nat} {f : Nat → Nat} {x : sX} {k : sX → Bool} (h : sUn o f x k = true) : (∃ a, x = .natCast a ∧ k (.natCast (f a)) = true) ∨ k (.pow (.neg x) o) = true := by
  unfold sUn at h
  split at h
  · rw [sFc_eq] at h
    exact Or.inl ⟨_, rfl, h⟩
  · exact Or.inr h
def fI (f : Int32 → Int32 → Int32) (a b : Nat) : Nat := fN (f (Int32.ofNat a) (Int32.ofNat b))
def fJ (f : Int64 → Int64 → Int64) (a b : Nat) : Nat := gN (f (Int64.ofNat a) (Int64.ofNat b))
/-- of ints: the answer's meaning is the operation's -/
theorem sBin_I {r : sE} {o : Nat} {f : Nat → Nat → Nat} {g : Int32 → Int32 → Int32} (ho : ∀ a b, (sB o a b).1 = g a.1 b.1) (hf : ∀ a b, Int32.ofNat (f a b) = g (Int32.ofNat a) (Int32.ofNat b)) {x y : sX} {k : sX → Bool} (h : sBin o f x y k = true) : ∃ z, sI r z = g (sI r x) (sI r y) ∧ k z = true := by
  rcases sBin_ok h with ⟨a, b, rfl, rfl, h2⟩ | h2
  · exact ⟨.natCast (f a b), by simp only [sI, sJ, sD_c]; exact hf a b, h2⟩
  · exact ⟨.pow (.mul x y) o, by simp only [sI, sJ, sD_b]; exact ho _ _, h2⟩
theorem sBin_J {r : sE} {o : Nat} {f : Nat → Nat → Nat} {g : Int64 → Int64 → Int64} (ho : ∀ a b, (sB o a b).2 = g a.2 b.2) (hf : ∀ a b, Int64.ofNat (f a b) = g (Int64.ofNat a) (Int64.ofNat b)) {x y : sX} {k : sX → Bool} (h : sBin o f x y k = true) : ∃ z, sJ r z = g (sJ r x) (sJ r y) ∧ k z = true := by
  rcases sBin_ok h with ⟨a, b, rfl, rfl, h2⟩ | h2
  · exact ⟨.natCast (f a b), by simp only [sI, sJ, sD_c]; exact hf a b, h2⟩
  · exact ⟨.pow (.mul x y) o, by simp only [sI, sJ, sD_b]; exact ho _ _, h2⟩
theorem sUn_I {r : sE} {o : Nat} {f : Nat → Nat} {g : Int32 → Int32} (ho : ∀ a, (sU o a).1 = g a.1) (hf : ∀ a, Int32.ofNat (f a) = g (Int32.ofNat a)) {x : sX} {k : sX → Bool} (h : sUn o f x k = true) : ∃ z, sI r z = g (sI r x) ∧ k z = true := by
  rcases sUn_ok h with ⟨a, rfl, h2⟩ | h2
  · exact ⟨.natCast (f a), by simp only [sI, sD_c]; exact hf a, h2⟩
  · exact ⟨.pow (.neg x) o, by simp only [sI, sD_u]; exact ho _, h2⟩
theorem sUn_J {r : sE} {o : Nat} {f : Nat → Nat} {g : Int64 → Int64} (ho : ∀ a, (sU o a).2 = g a.2) (hf : ∀ a, Int64.ofNat (f a) = g (Int64.ofNat a)) {x : sX} {k : sX → Bool} (h : sUn o f x k = true) : ∃ z, sJ r z = g (sJ r x) ∧ k z = true := by
  rcases sUn_ok h with ⟨a, rfl, h2⟩ | h2
  · exact ⟨.natCast (f a), by simp only [sJ, sD_c]; exact hf a, h2⟩
  · exact ⟨.pow (.neg x) o, by simp only [sJ, sD_u]; exact ho _, h2⟩
end
section
/-! 04: values, cells, memory of the symbolic executor, and what they mean on the heap -/
abbrev sV : Type := sX ⊕ (sX ⊕ Option Nat)
abbrev sC : Type := Nat × Nat × List sV
abbrev sM : Type := List sC
def sVal (r : sE) (al : Nat → Nat) : sV → Value
  | .inl x => .int (sI r x)
  | .inr (.inl x) => .long (sJ r x)
  | .inr (.inr none) => .null
  | .inr (.inr (some i)) => .ref (al i)
def sInt (r : sE) : Option sV → Int32
  | some (.inl x) => sI r x
  | _ => 0
def sLng (r : sE) : Option sV → Int64
  | some (.inr (.inl x)) => sJ r x
  | _ => 0
def sRef (al : Nat → Nat) : Option sV → Option Nat
  | some (.inr (.inr (some i))) => some (al i)
  | _ => none
/-- what a cell holds: kind 0 an object, 1 int[], 2 byte[], 3 boolean[], 4 long[], 5 Shelf[], 6 int[][], else hidden -/
def sCe (r : sE) (al : Nat → Nat) (cy : Nat → ClassId) (hid : Nat → va_E) (c : sC) : va_E := match c.1 with
  | 0 => .inr (c.2.1, c.2.2.map (sVal r al))
  | 1 => .inl (cy 1, c.2.2.length, .inl (fun j => sInt r c.2.2[j]?))
  | 2 => .inl (cy 2, c.2.2.length, .inl (fun j => sInt r c.2.2[j]?))
  | 3 => .inl (cy 3, c.2.2.length, .inl (fun j => sInt r c.2.2[j]?))
  | 4 => .inl (cy 4, c.2.2.length, .inr (.inl (fun j => sLng r c.2.2[j]?)))
  | 5 => .inl (cy 5, c.2.2.length, .inr (.inr (.inr (.inr (fun j => sRef al c.2.2[j]?)))))
  | 6 => .inl (cy 6, c.2.2.length, .inr (.inr (.inr (.inr (fun j => sRef al c.2.2[j]?)))))
  | _ => hid c.2.1
def sW (r : sE) (al : Nat → Nat) (cy : Nat → ClassId) (hid : Nat → va_E) (rest : va_W) (mem : sM) : va_W := mem.mapIdx (fun i c => (al i, sCe r al cy hid c)) ++ rest
def sT (cy : Nat → ClassId) : List (ClassId × FieldType) := [(cy 1, .int), (cy 2, .byte), (cy 3, .boolean), (cy 4, .long), (cy 5, .object "SwapTables$Shelf"), (cy 6, .array .int)]
theorem sW_get {r : sE} {al : Nat → Nat} {cy : Nat → ClassId} {hid : Nat → va_E} {rest : va_W} {mem : sM} {i : Nat} {c : sC} (h : mem[i]? = some c) : (sW r al cy hid rest mem)[i]? = some (al i, sCe r al cy hid c) := by
  have hl : i < mem.length := (List.getElem?_eq_some_iff.mp h).1
  unfold sW
  rw [List.getElem?_append_left (by simpa using hl), List.getElem?_mapIdx, h]
  rfl
theorem sW_set {r : sE} {al : Nat → Nat} {cy : Nat → ClassId} {hid : Nat → va_E} {rest : va_W} {mem : sM} {i : Nat} {c : sC} (hl : i < mem.length) : (sW r al cy hid rest mem).set i (al i, sCe r al cy hid c) = sW r al cy hid rest (mem.set i c) := by
  unfold sW
  rw [List.set_append_left _ _ (by simpa using hl)]
  congr 1
  apply List.ext_getElem?
  intro j
  rw [List.getElem?_set, List.getElem?_mapIdx, List.getElem?_mapIdx, List.getElem?_set]
  by_cases hj : i = j
  · subst hj
    simp [hl]
  · simp [hj]
/-- constants of int[] statics -/
def sBegin : List Nat := [0, 0, 1, 3, 6, 11, 18]
def sCodes : List Nat := [65536, 131072, 69632, 196608, 135168, 69888, 262144, 200704, 139264, 135424, 69904, 327680, 266240, 204800, 200960, 139520, 135440, 69905]
def sFn (l : List Nat) (j : Nat) : Value := .int (Int32.ofNat (l.getD j 0))
/-- the two static arrays, at the addresses al 1000000 and al 1000001, outside A -/
def sSt (al : Nat → Nat) (A : Nat → Prop) (U : State) (H : Heap) : Prop :=
  va_Z "SwapTables$Partitions" "BEGIN" "[I" (.ref (al 1000000)) A U H ∧ va_T .int (al 1000000) 7 (sFn sBegin) A U H ∧
  va_Z "SwapTables$Partitions" "CODES" "[I" (.ref (al 1000001)) A U H ∧ va_T .int (al 1000001) 18 (sFn sCodes) A U H
theorem sSt.moved {al : Nat → Nat} {A : Nat → Prop} {u U : State} {H : Heap} (hvm : u.vm.Alike U.vm) (h : sSt al A u H) : sSt al A U H := ⟨h.1.moved hvm, h.2.1.moved hvm, h.2.2.1.moved hvm, h.2.2.2.moved hvm⟩
theorem sSt.kept {al : Nat → Nat} {A : Nat → Prop} {U : State} {H H1 : Heap} (h : sSt al A U H) (hq : ∀ a : Nat, a < H.size → ¬ A a → H1[a]? = H[a]?) : sSt al A U H1 := ⟨h.1.kept hq, h.2.1.kept hq, h.2.2.1.kept hq, h.2.2.2.kept hq⟩
theorem sSt.narrow {al : Nat → Nat} {A B : Nat → Prop} {U : State} {H : Heap} (h : sSt al A U H) (hAB : ∀ q, B q → A q) : sSt al B U H := ⟨h.1.narrow hAB, h.2.1.narrow hAB, h.2.2.1.narrow hAB, h.2.2.2.narrow hAB⟩
-- locals
abbrev sL : Type := List (Option sV)
def sLo (r : sE) (al : Nat → Nat) (ls : Array Slot) (nL : Nat) (L : sL) : Prop := ls.size = nL ∧ lv_wf ls ∧ ∀ (i : Nat) (v : sV), L[i]? = some (some v) → ls[i]? = some (.val (sVal r al v))
def sLs (r : sE) (al : Nat → Nat) (L : sL) : List (Nat × Value) := (L.mapIdx (fun i v => (i, v))).filterMap (fun q => q.2.map (fun v => (q.1, sVal r al v)))
theorem sLs_mem {r : sE} {al : Nat → Nat} {L : sL} {q : Nat × Value} : q ∈ sLs r al L ↔ ∃ v : sV, L[q.1]? = some (some v) ∧ q.2 = sVal r al v := by
  unfold sLs
  simp only [List.mem_filterMap, List.mem_mapIdx, Option.map_eq_some_iff]
  constructor
  · rintro ⟨a, ⟨i, hi, rfl⟩, v, hv, rfl⟩
    exact ⟨v, (List.getElem?_eq_getElem hi).trans (congrArg some hv), rfl⟩
  · rintro ⟨v, h1, h2⟩
    obtain ⟨hi, h3⟩ := List.getElem?_eq_some_iff.mp h1
    exact ⟨(q.1, L[q.1]), ⟨q.1, hi, rfl⟩, v, h3, by rw [← h2]⟩
theorem sLo_has {r : sE} {al : Nat → Nat} {ls : Array Slot} {nL : Nat} {L : sL} (h : sLo r al ls nL L) : lv_has ls nL (sLs r al L) :=
  ⟨h.1, h.2.1, fun q hq => by
    obtain ⟨v, h1, h2⟩ := sLs_mem.mp hq
    rw [h2]
    exact h.2.2 q.1 v h1⟩
def sLongV (v : Option sV) : Bool := match v with
  | some (.inr (.inl _)) => true
  | _ => false
/-- the local i becomes v, of one word -/
def sPut1 (L : sL) (i : Nat) (v : sV) (k : sL → Bool) : Bool := match i with
  | 0 => sSet L 0 (some v) k
  | j + 1 => sGet L j (fun w => match sLongV w with
    | true => sSet L j none (fun L => sSet L (j + 1) (some v) k)
    | false => sSet L (j + 1) (some v) k)
/-- .. of two -/
def sPut2 (L : sL) (i : Nat) (v : sV) (k : sL → Bool) : Bool := sPut1 L i v (fun L => sSet L (i + 1) none k)
theorem sLo_put1 {r : sE} {al : Nat → Nat} {ls : Array Slot} {nL : Nat} {L : sL} {i : Nat} {v : sV} {k : sL → Bool} (h : sPut1 L i v k = true) : ∃ L', k L' = true ∧ i < L.length ∧ L'.length = L.length ∧ ∀ (j : Nat) (w : sV), L'[j]? = some (some w) → (j = i ∧ w = v) ∨ (j ≠ i ∧ L[j]? = some (some w) ∧ ¬ (j + 1 = i ∧ sLongV (some w) = true)) := by
  unfold sPut1 at h
  split at h
  · obtain ⟨h1, h2⟩ := sSet_ok _ _ _ _ h
    refine ⟨_, h2, h1, by simp, fun j w hj => ?_⟩
    rw [List.getElem?_set] at hj
    by_cases e : 0 = j
    · subst e
      simp [h1] at hj
      exact Or.inl ⟨rfl, hj.symm⟩
    · rw [if_neg e] at hj
      exact Or.inr ⟨fun q => e q.symm, hj, fun q => by omega⟩
  · rename_i j0
    obtain ⟨a, ha, h⟩ := sGet_ok _ _ _ h
    split at h
    · rename_i hlong
      obtain ⟨h1, h⟩ := sSet_ok _ _ _ _ h
      obtain ⟨h2, h⟩ := sSet_ok _ _ _ _ h
      have h2' : j0 + 1 < L.length := by simpa using h2
      refine ⟨_, h, h2', by simp, fun j w hj => ?_⟩
      rw [List.getElem?_set] at hj
      by_cases e : j0 + 1 = j
      · subst e
        simp [h2'] at hj
        exact Or.inl ⟨rfl, hj.symm⟩
      · rw [if_neg e, List.getElem?_set] at hj
        by_cases e2 : j0 = j
        · subst e2
          simp [h1] at hj
        · rw [if_neg e2] at hj
          exact Or.inr ⟨fun q => e q.symm, hj, fun q => e2 (by omega)⟩
    · rename_i hlong
      obtain ⟨h2, h⟩ := sSet_ok _ _ _ _ h
      refine ⟨_, h, h2, by simp, fun j w hj => ?_⟩
      rw [List.getElem?_set] at hj
      by_cases e : j0 + 1 = j
      · subst e
        simp [h2] at hj
        exact Or.inl ⟨rfl, hj.symm⟩
      · rw [if_neg e] at hj
        refine Or.inr ⟨fun q => e q.symm, hj, fun q => ?_⟩
        have e3 : j = j0 := by omega
        subst e3
        rw [ha] at hj
        cases hj
        rw [q.2] at hlong
        cases hlong
theorem sVal_cat {r : sE} {al : Nat → Nat} {v : sV} : (sVal r al v).category = 2 ↔ sLongV (some v) = true := by
  match v with
  | .inl x => simp [sVal, sLongV, Value.category]
  | .inr (.inl x) => simp [sVal, sLongV, Value.category]
  | .inr (.inr none) => simp [sVal, sLongV, Value.category]
  | .inr (.inr (some i)) => simp [sVal, sLongV, Value.category]
end
section
/-! 05: the symbolic executor -/
/-- a condition of the path: (is it an equation, does it hold, x, y): x = y, or x < y, of ints -/
abbrev sK : Type := Bool × Bool × sX × sX
def eqX : sX → sX → Bool
  | .natCast a, .natCast b => Nat.beq a b
  | .var a, .var b => Nat.beq a b
  | .pow a o, .pow b u => Nat.beq o u && eqX a b
  | .mul a b, .mul c d => eqX a c && eqX b d
  | .neg a, .neg b => eqX a b
  | _, _ => false
theorem eqX_ok (x y : sX) (h : eqX x y = true) : x = y := by
  induction x generalizing y with
  | natCast a => cases y <;> simp_all [eqX]
  | var a => cases y <;> simp_all [eqX]
  | pow a o ih =>
    cases y <;> simp_all [eqX]
    exact ih _ h.2
  | mul a b iha ihb =>
    cases y <;> simp_all [eqX]
    exact ⟨iha _ h.1, ihb _ h.2⟩
  | neg a ih =>
    cases y <;> simp_all [eqX]
    exact ih _ h
  | num a => simp [eqX] at h
  | intCast a => simp [eqX] at h
  | add a b iha ihb => simp [eqX] at h
  | sub a b iha ihb => simp [eqX] at h
def sKd (r : sE) (q : sK) : Prop := match q with
  | (true, true, x, y) => sI r x = sI r y
  | (true, false, x, y) => ¬ sI r x = sI r y
  | (false, true, x, y) => sI r x < sI r y
  | (false, false, x, y) => ¬ sI r x < sI r y
/-- what the path says of a question -/
def sAsk (e : Bool) (x y : sX) (ky kn ku : Bool) : List sK → Bool
  | [] => ku
  | (e1, b1, x1, y1) :: l => match Bool.and (Bool.and (Bool.not (Bool.xor e e1)) (eqX x x1)) (eqX y y1) with
    | true => match b1 with
      | true => ky
      | false => kn
    | false => sAsk e x y ky kn ku l
/-- a question: folded, or as the path says, or both ways -/
def sQ (e : Bool) (x y : sX) (pa : List sK) (kt kf : List sK → Bool) : Bool := match x with
  | .natCast a => match y with
    | .natCast b => match (match e with | true => fEq a b | false => fLt a b) with
      | true => kt pa
      | false => kf pa
    | _ => sAsk e x y (kt pa) (kf pa) (Bool.and (kt ((e, true, x, y) :: pa)) (kf ((e, false, x, y) :: pa))) pa
  | _ => sAsk e x y (kt pa) (kf pa) (Bool.and (kt ((e, true, x, y) :: pa)) (kf ((e, false, x, y) :: pa))) pa
abbrev sIn : Type := Nat × Instr × Nat × Nat
abbrev sGo : Type := Nat → sL → List sV → List sK → sM → Bool
/-- a branch by a condition of two ints -/
def sBr (c : Jvm.ClassFile.Cond) (x y : sX) (pa : List sK) (kt kf : List sK → Bool) : Bool := match c with
  | .eq => sQ true x y pa kt kf
  | .ne => sQ true x y pa kf kt
  | .lt => sQ false x y pa kt kf
  | .ge => sQ false x y pa kf kt
  | .gt => sQ false y x pa kt kf
  | .le => sQ false y x pa kf kt
def sSw (x : sX) (pa : List sK) (d : Nat) (go : Nat → List sK → Bool) : List (Int × Int) → Bool
  | [] => go d pa
  | (.ofNat v, .ofNat t) :: l => sQ true x (.natCast v) pa (go t) (fun pa => sSw x pa d go l)
  | _ => false
/-- n places of src from sp on come into dst from dp on -/
def sCopy (src : List sV) (sp : Nat) : Nat → List sV → Nat → (List sV → Bool) → Bool
  | 0, dst, _, k => k dst
  | n + 1, dst, dp, k => sGet src (sp + n) (fun v => sSet dst (dp + n) v (fun dst => sCopy src sp n dst dp k))
def sCat (v : sV) : Nat := match v with
  | .inr (.inl _) => 2
  | _ => 1
def sSim (ir : Instr) (nx : Nat) (L : sL) (st : List sV) (pa : List sK) (mem : sM) (go : sGo) : Bool := match ir with
  | .ldc n => go nx L (.inl (.natCast n) :: st) pa mem
  | .ldc2_w n => go nx L (.inr (.inl (.natCast n)) :: st) pa mem
  | .iload i => sGet L i (fun v => match v with
    | some (.inl x) => go nx L (.inl x :: st) pa mem
    | _ => false)
  | .lload i => sGet L i (fun v => match v with
    | some (.inr (.inl x)) => go nx L (.inr (.inl x) :: st) pa mem
    | _ => false)
  | .aload i => sGet L i (fun v => match v with
    | some (.inr (.inr (some x))) => go nx L (.inr (.inr (some x)) :: st) pa mem
    | _ => false)
  | .istore i => match st with
    | .inl x :: st => sPut1 L i (.inl x) (fun L => go nx L st pa mem)
    | _ => false
  | .lstore i => match st with
    | .inr (.inl x) :: st => sPut2 L i (.inr (.inl x)) (fun L => go nx L st pa mem)
    | _ => false
  | .astore i => match st with
    | .inr (.inr (some x)) :: st => sPut1 L i (.inr (.inr (some x))) (fun L => go nx L st pa mem)
    | _ => false
  | .iinc i (.ofNat n) => sGet L i (fun v => match v with
    | some (.inl x) => sBin 0 fAdd x (.natCast n) (fun z => sPut1 L i (.inl z) (fun L => go nx L st pa mem))
    | _ => false)
  | .iadd => match st with
    | .inl y :: .inl x :: st => sBin 0 fAdd x y (fun z => go nx L (.inl z :: st) pa mem)
    | _ => false
  | .isub => match st with
    | .inl y :: .inl x :: st => sBin 1 fSub x y (fun z => go nx L (.inl z :: st) pa mem)
    | _ => false
  | .imul => match st with
    | .inl y :: .inl x :: st => sBin 2 fMul x y (fun z => go nx L (.inl z :: st) pa mem)
    | _ => false
  | .iand => match st with
    | .inl y :: .inl x :: st => sBin 3 fAnd x y (fun z => go nx L (.inl z :: st) pa mem)
    | _ => false
  | .ior => match st with
    | .inl y :: .inl x :: st => sBin 4 fOr x y (fun z => go nx L (.inl z :: st) pa mem)
    | _ => false
  | .ixor => match st with
    | .inl y :: .inl x :: st => sBin 5 (fI (fun a b => a ^^^ b)) x y (fun z => go nx L (.inl z :: st) pa mem)
    | _ => false
  | .ishl => match st with
    | .inl y :: .inl x :: st => sBin 6 (fI (fun a b => a <<< (b &&& 31))) x y (fun z => go nx L (.inl z :: st) pa mem)
    | _ => false
  | .ishr => match st with
    | .inl y :: .inl x :: st => sBin 7 (fI (fun a b => a >>> (b &&& 31))) x y (fun z => go nx L (.inl z :: st) pa mem)
    | _ => false
  | .iushr => match st with
    | .inl y :: .inl x :: st => sBin 8 (fI (fun a b => (a.toUInt32 >>> (b.toUInt32 &&& Int32.toUInt32 31)).toInt32)) x y (fun z => go nx L (.inl z :: st) pa mem)
    | _ => false
  | .irem => match st with
    | .inl (.natCast b) :: .inl x :: st => match fEq b 0 with
      | true => false
      | false => sBin 9 (fI (fun a b => a - a / b * b)) x (.natCast b) (fun z => go nx L (.inl z :: st) pa mem)
    | _ => false
  | .ineg => match st with
    | .inl x :: st => sUn 0 (fun a => fN (-Int32.ofNat a)) x (fun z => go nx L (.inl z :: st) pa mem)
    | _ => false
  | .i2b => match st with
    | .inl x :: st => sUn 1 (fun a => fN (Int32.ofNat a).toInt8.toInt32) x (fun z => go nx L (.inl z :: st) pa mem)
    | _ => false
  | .l2i => match st with
    | .inr (.inl x) :: st => sUn 4 (fun a => fN (Int64.ofNat a).toInt32) x (fun z => go nx L (.inl z :: st) pa mem)
    | _ => false
  | .i2l => match st with
    | .inl x :: st => sUn 21 (fun a => gN (Int32.ofNat a).toInt64) x (fun z => go nx L (.inr (.inl z) :: st) pa mem)
    | _ => false
  | .lneg => match st with
    | .inr (.inl x) :: st => sUn 20 (fun a => gN (-Int64.ofNat a)) x (fun z => go nx L (.inr (.inl z) :: st) pa mem)
    | _ => false
  | .ladd => match st with
    | .inr (.inl y) :: .inr (.inl x) :: st => sBin 20 (fJ (fun a b => a + b)) x y (fun z => go nx L (.inr (.inl z) :: st) pa mem)
    | _ => false
  | .lsub => match st with
    | .inr (.inl y) :: .inr (.inl x) :: st => sBin 21 (fJ (fun a b => a - b)) x y (fun z => go nx L (.inr (.inl z) :: st) pa mem)
    | _ => false
  | .lmul => match st with
    | .inr (.inl y) :: .inr (.inl x) :: st => sBin 22 (fJ (fun a b => a * b)) x y (fun z => go nx L (.inr (.inl z) :: st) pa mem)
    | _ => false
  | .lor => match st with
    | .inr (.inl y) :: .inr (.inl x) :: st => sBin 24 (fJ (fun a b => a ||| b)) x y (fun z => go nx L (.inr (.inl z) :: st) pa mem)
    | _ => false
  | .lshr => match st with
    | .inl y :: .inr (.inl x) :: st => sBin 27 (fun a b => gN (Int64.ofNat a >>> ((Int32.ofNat b).toInt64 &&& 63))) x y (fun z => go nx L (.inr (.inl z) :: st) pa mem)
    | _ => false
  | .lushr => match st with
    | .inl y :: .inr (.inl x) :: st => sBin 28 (fun a b => gN ((Int64.ofNat a).toUInt64 >>> ((Int32.ofNat b).toInt64.toUInt64 &&& Int64.toUInt64 63)).toInt64) x y (fun z => go nx L (.inr (.inl z) :: st) pa mem)
    | _ => false
  | .ldiv => match st with
    | .inr (.inl (.natCast b)) :: .inr (.inl x) :: st => match Nat.beq (b % 18446744073709551616) 0 with
      | true => false
      | false => sBin 29 (fJ (fun a b => a / b)) x (.natCast b) (fun z => go nx L (.inr (.inl z) :: st) pa mem)
    | _ => false
  | .lrem => match st with
    | .inr (.inl (.natCast b)) :: .inr (.inl x) :: st => match Nat.beq (b % 18446744073709551616) 0 with
      | true => false
      | false => sBin 30 (fJ (fun a b => a - a / b * b)) x (.natCast b) (fun z => go nx L (.inr (.inl z) :: st) pa mem)
    | _ => false
  | .lcmp => match st with
    | .inr (.inl y) :: .inr (.inl x) :: st => sBin 10 (fun a b => fN (lg_cmp (Int64.ofNat a) (Int64.ofNat b))) x y (fun z => go nx L (.inl z :: st) pa mem)
    | _ => false
  | .dup => match st with
    | v :: st => match sCat v with
      | 1 => go nx L (v :: v :: st) pa mem
      | _ => false
    | _ => false
  | .dup2 => match st with
    | v :: w :: st => match sCat v with
      | 1 => match sCat w with
        | 1 => go nx L (v :: w :: v :: w :: st) pa mem
        | _ => false
      | _ => false
    | _ => false
  | .goto (.ofNat t) => go t L st pa mem
  | .ifCond c (.ofNat t) => match st with
    | .inl x :: st => sBr c x (.natCast 0) pa (fun pa => go t L st pa mem) (fun pa => go nx L st pa mem)
    | _ => false
  | .if_icmp c (.ofNat t) => match st with
    | .inl y :: .inl x :: st => sBr c x y pa (fun pa => go t L st pa mem) (fun pa => go nx L st pa mem)
    | _ => false
  | .lookupswitch (.ofNat d) ps => match st with
    | .inl x :: st => sSw x pa d (fun t pa => go t L st pa mem) ps.toList
    | _ => false
  | .getfield n => match st with
    | .inr (.inr (some q)) :: st => sGet mem q (fun c => match c with
      | (0, ci, vs) => match Nat.beq ci (n / 64) with
        | true => sGet vs (n % 64) (fun v => go nx L (v :: st) pa mem)
        | false => false
      | _ => false)
    | _ => false
  | .putfield n => match st with
    | .inl v :: .inr (.inr (some q)) :: st => sGet mem q (fun c => match c with
      | (0, ci, vs) => match Nat.beq ci (n / 64) with
        | true => sSet vs (n % 64) (.inl v) (fun vs => sSet mem q (0, ci, vs) (fun mem => go nx L st pa mem))
        | false => false
      | _ => false)
    | _ => false
  | .putstatic n => match st with
    | .inl (.natCast b) :: .inr (.inr (some q)) :: st => match Nat.ble b 1 with
      | true => sGet mem q (fun c => match c with
        | (0, ci, vs) => match Nat.beq ci (n / 64) with
          | true => sSet vs (n % 64) (.inl (.natCast b)) (fun vs => sSet mem q (0, ci, vs) (fun mem => go nx L st pa mem))
          | false => false
        | _ => false)
      | false => false
    | _ => false
  | .instanceof n => match st with
    | .inr (.inl v) :: .inr (.inr (some q)) :: st => sGet mem q (fun c => match c with
      | (0, ci, vs) => match Nat.beq ci (n / 64) with
        | true => sSet vs (n % 64) (.inr (.inl v)) (fun vs => sSet mem q (0, ci, vs) (fun mem => go nx L st pa mem))
        | false => false
      | _ => false)
    | _ => false
  | .checkcast n => match st with
    | .inr (.inr (some v)) :: .inr (.inr (some q)) :: st => sGet mem q (fun c => match c with
      | (0, ci, vs) => match Nat.beq ci (n / 64) with
        | true => sSet vs (n % 64) (.inr (.inr (some v))) (fun vs => sSet mem q (0, ci, vs) (fun mem => go nx L st pa mem))
        | false => false
      | _ => false)
    | _ => false
  | .getstatic j => go nx L (.inr (.inr (some (1000000 + j))) :: st) pa mem
  | .iaload => match st with
    | .inl (.natCast i) :: .inr (.inr (some q)) :: st => match Nat.blt q 1000000 with
      | true => match Nat.blt i 2147483648 with
        | true => sGet mem q (fun c => match c with
          | (1, _, vs) => sGet vs i (fun v => match v with
            | .inl x => go nx L (.inl x :: st) pa mem
            | _ => false)
          | _ => false)
        | false => false
      | false => match Nat.beq q 1000000 with
        | true => sGet sBegin i (fun v => go nx L (.inl (.natCast v) :: st) pa mem)
        | false => match Nat.beq q 1000001 with
          | true => sGet sCodes i (fun v => go nx L (.inl (.natCast v) :: st) pa mem)
          | false => false
    | _ => false
  | .baload => match st with
    | .inl (.natCast i) :: .inr (.inr (some q)) :: st => match Nat.blt i 2147483648 with
      | true => sGet mem q (fun c => match c with
        | (2, _, vs) => sGet vs i (fun v => match v with
          | .inl x => go nx L (.inl x :: st) pa mem
          | _ => false)
        | (3, _, vs) => sGet vs i (fun v => match v with
          | .inl x => go nx L (.inl x :: st) pa mem
          | _ => false)
        | _ => false)
      | false => false
    | _ => false
  | .laload => match st with
    | .inl (.natCast i) :: .inr (.inr (some q)) :: st => match Nat.blt i 2147483648 with
      | true => sGet mem q (fun c => match c with
        | (4, _, vs) => sGet vs i (fun v => match v with
          | .inr (.inl x) => go nx L (.inr (.inl x) :: st) pa mem
          | _ => false)
        | _ => false)
      | false => false
    | _ => false
  | .aaload => match st with
    | .inl (.natCast i) :: .inr (.inr (some q)) :: st => match Nat.blt i 2147483648 with
      | true => sGet mem q (fun c => match c with
        | (5, _, vs) => sGet vs i (fun v => match v with
          | .inr (.inr (some x)) => go nx L (.inr (.inr (some x)) :: st) pa mem
          | _ => false)
        | (6, _, vs) => sGet vs i (fun v => match v with
          | .inr (.inr (some x)) => go nx L (.inr (.inr (some x)) :: st) pa mem
          | _ => false)
        | _ => false)
      | false => false
    | _ => false
  | .iastore => match st with
    | .inl x :: .inl (.natCast i) :: .inr (.inr (some q)) :: st => match Nat.blt i 2147483648 with
      | true => sGet mem q (fun c => match c with
        | (1, u, vs) => sSet vs i (.inl x) (fun vs => sSet mem q (1, u, vs) (fun mem => go nx L st pa mem))
        | _ => false)
      | false => false
    | _ => false
  | .bastore => match st with
    | .inl x :: .inl (.natCast i) :: .inr (.inr (some q)) :: st => match Nat.blt i 2147483648 with
      | true => sGet mem q (fun c => match c with
        | (2, u, vs) => sUn 2 (fun a => fN (vp_nar .byte (Int32.ofNat a))) x (fun x => sSet vs i (.inl x) (fun vs => sSet mem q (2, u, vs) (fun mem => go nx L st pa mem)))
        | (3, u, vs) => sUn 3 (fun a => fN (vp_nar .boolean (Int32.ofNat a))) x (fun x => sSet vs i (.inl x) (fun vs => sSet mem q (3, u, vs) (fun mem => go nx L st pa mem)))
        | _ => false)
      | false => false
    | _ => false
  | .lastore => match st with
    | .inr (.inl x) :: .inl (.natCast i) :: .inr (.inr (some q)) :: st => match Nat.blt i 2147483648 with
      | true => sGet mem q (fun c => match c with
        | (4, u, vs) => sSet vs i (.inr (.inl x)) (fun vs => sSet mem q (4, u, vs) (fun mem => go nx L st pa mem))
        | _ => false)
      | false => false
    | _ => false
  | _ => false
end
