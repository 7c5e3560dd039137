section
-- ===== PART A: goes FIRST, ahead of the names: the tables' words, and 'selects' of the private methods out of them =====
/-- a private method of a class that the tables say can be made, by its rows of tables_1 -/
def lw_okq (q : MethodName × Nat) : Prop := (q.1.cls ≠ "java/lang/invoke/MethodHandle" ∧ q.1.cls ≠ "java/lang/invoke/VarHandle") ∧ Cond.instantiable q.1.cls q.2 ∈ tables_1 ∧ Cond.privateMethod q.1 ∈ tables_1 ∧ Cond.instanceMethod q.1 ∈ tables_1
theorem lw_p0 : lw_okq (⟨"SwapTables", "become", "(I)V"⟩, 10) := ⟨⟨by decide +kernel, by decide +kernel⟩, List.mem_of_getElem? (i := 20) (by decide +kernel), List.mem_of_getElem? (i := 274) (by decide +kernel), List.mem_of_getElem? (i := 275) (by decide +kernel)⟩
theorem lw_p1 : lw_okq (⟨"SwapTables$Shape", "fillFrom", "(I)V"⟩, 9) := ⟨⟨by decide +kernel, by decide +kernel⟩, List.mem_of_getElem? (i := 28) (by decide +kernel), List.mem_of_getElem? (i := 289) (by decide +kernel), List.mem_of_getElem? (i := 290) (by decide +kernel)⟩
theorem lw_p2 : lw_okq (⟨"SwapTables$Shape", "keepFilling", "()V"⟩, 9) := ⟨⟨by decide +kernel, by decide +kernel⟩, List.mem_of_getElem? (i := 28) (by decide +kernel), List.mem_of_getElem? (i := 293) (by decide +kernel), List.mem_of_getElem? (i := 294) (by decide +kernel)⟩
theorem lw_p3 : lw_okq (⟨"SwapTables$Shape", "canTakeNext", "(I)Z"⟩, 9) := ⟨⟨by decide +kernel, by decide +kernel⟩, List.mem_of_getElem? (i := 28) (by decide +kernel), List.mem_of_getElem? (i := 300) (by decide +kernel), List.mem_of_getElem? (i := 301) (by decide +kernel)⟩
theorem lw_p4 : lw_okq (⟨"SwapTables$WholeAxes", "numberAtTabloid", "(I)I"⟩, 4) := ⟨⟨by decide +kernel, by decide +kernel⟩, List.mem_of_getElem? (i := 73) (by decide +kernel), List.mem_of_getElem? (i := 316) (by decide +kernel), List.mem_of_getElem? (i := 317) (by decide +kernel)⟩
theorem lw_p5 : lw_okq (⟨"SwapTables$Shape", "isTakenTo", "(III)Z"⟩, 9) := ⟨⟨by decide +kernel, by decide +kernel⟩, List.mem_of_getElem? (i := 28) (by decide +kernel), List.mem_of_getElem? (i := 359) (by decide +kernel), List.mem_of_getElem? (i := 360) (by decide +kernel)⟩
theorem lw_p6 : lw_okq (⟨"SwapTables", "isStandard", "(I)Z"⟩, 10) := ⟨⟨by decide +kernel, by decide +kernel⟩, List.mem_of_getElem? (i := 20) (by decide +kernel), List.mem_of_getElem? (i := 455) (by decide +kernel), List.mem_of_getElem? (i := 456) (by decide +kernel)⟩
theorem lw_p7 : lw_okq (⟨"SwapTables", "isNumber", "(I)Z"⟩, 10) := ⟨⟨by decide +kernel, by decide +kernel⟩, List.mem_of_getElem? (i := 20) (by decide +kernel), List.mem_of_getElem? (i := 459) (by decide +kernel), List.mem_of_getElem? (i := 460) (by decide +kernel)⟩
theorem lw_p8 : lw_okq (⟨"SwapTables", "refusalOf", "(II)I"⟩, 10) := ⟨⟨by decide +kernel, by decide +kernel⟩, List.mem_of_getElem? (i := 20) (by decide +kernel), List.mem_of_getElem? (i := 469) (by decide +kernel), List.mem_of_getElem? (i := 470) (by decide +kernel)⟩
theorem lw_p9 : lw_okq (⟨"SwapTables", "isSwap", "(I)Z"⟩, 10) := ⟨⟨by decide +kernel, by decide +kernel⟩, List.mem_of_getElem? (i := 20) (by decide +kernel), List.mem_of_getElem? (i := 497) (by decide +kernel), List.mem_of_getElem? (i := 498) (by decide +kernel)⟩
theorem lw_p10 : lw_okq (⟨"SwapTables", "makeOtherwise", "(II)I"⟩, 10) := ⟨⟨by decide +kernel, by decide +kernel⟩, List.mem_of_getElem? (i := 20) (by decide +kernel), List.mem_of_getElem? (i := 506) (by decide +kernel), List.mem_of_getElem? (i := 507) (by decide +kernel)⟩
theorem lw_p11 : lw_okq (⟨"SwapTables", "isPartition", "(I)Z"⟩, 10) := ⟨⟨by decide +kernel, by decide +kernel⟩, List.mem_of_getElem? (i := 20) (by decide +kernel), List.mem_of_getElem? (i := 569) (by decide +kernel), List.mem_of_getElem? (i := 570) (by decide +kernel)⟩
theorem lw_p12 : lw_okq (⟨"SwapTables$WholeAxes", "straighten", "()V"⟩, 4) := ⟨⟨by decide +kernel, by decide +kernel⟩, List.mem_of_getElem? (i := 73) (by decide +kernel), List.mem_of_getElem? (i := 584) (by decide +kernel), List.mem_of_getElem? (i := 585) (by decide +kernel)⟩
theorem lw_p13 : lw_okq (⟨"SwapTables$SeminormalAxes", "goOn", "(LSwapTables$FractionRow;ILSwapTables$FractionRow;)V"⟩, 4) := ⟨⟨by decide +kernel, by decide +kernel⟩, List.mem_of_getElem? (i := 94) (by decide +kernel), List.mem_of_getElem? (i := 609) (by decide +kernel), List.mem_of_getElem? (i := 610) (by decide +kernel)⟩
theorem lw_p14 : lw_okq (⟨"SwapTables", "isInVector", "(II)Z"⟩, 10) := ⟨⟨by decide +kernel, by decide +kernel⟩, List.mem_of_getElem? (i := 20) (by decide +kernel), List.mem_of_getElem? (i := 664) (by decide +kernel), List.mem_of_getElem? (i := 665) (by decide +kernel)⟩
theorem lw_p15 : lw_okq (⟨"SwapTables$Reader", "begin", "(I)V"⟩, 12) := ⟨⟨by decide +kernel, by decide +kernel⟩, List.mem_of_getElem? (i := 187) (by decide +kernel), List.mem_of_getElem? (i := 745) (by decide +kernel), List.mem_of_getElem? (i := 746) (by decide +kernel)⟩
def lw_privs_1 : List (MethodName × Nat) := [(⟨"SwapTables", "become", "(I)V"⟩, 10), (⟨"SwapTables$Shape", "fillFrom", "(I)V"⟩, 9), (⟨"SwapTables$Shape", "keepFilling", "()V"⟩, 9), (⟨"SwapTables$Shape", "canTakeNext", "(I)Z"⟩, 9), (⟨"SwapTables$WholeAxes", "numberAtTabloid", "(I)I"⟩, 4), (⟨"SwapTables$Shape", "isTakenTo", "(III)Z"⟩, 9), (⟨"SwapTables", "isStandard", "(I)Z"⟩, 10), (⟨"SwapTables", "isNumber", "(I)Z"⟩, 10), (⟨"SwapTables", "refusalOf", "(II)I"⟩, 10), (⟨"SwapTables", "isSwap", "(I)Z"⟩, 10), (⟨"SwapTables", "makeOtherwise", "(II)I"⟩, 10), (⟨"SwapTables", "isPartition", "(I)Z"⟩, 10), (⟨"SwapTables$WholeAxes", "straighten", "()V"⟩, 4), (⟨"SwapTables$SeminormalAxes", "goOn", "(LSwapTables$FractionRow;ILSwapTables$FractionRow;)V"⟩, 4), (⟨"SwapTables", "isInVector", "(II)Z"⟩, 10), (⟨"SwapTables$Reader", "begin", "(I)V"⟩, 12)]
theorem lw_r1 : ∀ q ∈ lw_privs_1, lw_okq q := List.forall_mem_cons.mpr ⟨lw_p0, List.forall_mem_cons.mpr ⟨lw_p1, List.forall_mem_cons.mpr ⟨lw_p2, List.forall_mem_cons.mpr ⟨lw_p3, List.forall_mem_cons.mpr ⟨lw_p4, List.forall_mem_cons.mpr ⟨lw_p5, List.forall_mem_cons.mpr ⟨lw_p6, List.forall_mem_cons.mpr ⟨lw_p7, List.forall_mem_cons.mpr ⟨lw_p8, List.forall_mem_cons.mpr ⟨lw_p9, List.forall_mem_cons.mpr ⟨lw_p10, List.forall_mem_cons.mpr ⟨lw_p11, List.forall_mem_cons.mpr ⟨lw_p12, List.forall_mem_cons.mpr ⟨lw_p13, List.forall_mem_cons.mpr ⟨lw_p14, List.forall_mem_cons.mpr ⟨lw_p15, fun _ h => absurd h List.not_mem_nil⟩⟩⟩⟩⟩⟩⟩⟩⟩⟩⟩⟩⟩⟩⟩⟩
theorem lw_p16 : lw_okq (⟨"SwapTables$Reader", "goesOnWith", "(II)Z"⟩, 12) := ⟨⟨by decide +kernel, by decide +kernel⟩, List.mem_of_getElem? (i := 187) (by decide +kernel), List.mem_of_getElem? (i := 750) (by decide +kernel), List.mem_of_getElem? (i := 751) (by decide +kernel)⟩
theorem lw_p17 : lw_okq (⟨"SwapTables$Reader", "beginsPart", "(II)Z"⟩, 12) := ⟨⟨by decide +kernel, by decide +kernel⟩, List.mem_of_getElem? (i := 187) (by decide +kernel), List.mem_of_getElem? (i := 754) (by decide +kernel), List.mem_of_getElem? (i := 755) (by decide +kernel)⟩
theorem lw_p18 : lw_okq (⟨"SwapTables$Reader", "beginCycle", "()V"⟩, 12) := ⟨⟨by decide +kernel, by decide +kernel⟩, List.mem_of_getElem? (i := 187) (by decide +kernel), List.mem_of_getElem? (i := 758) (by decide +kernel), List.mem_of_getElem? (i := 759) (by decide +kernel)⟩
theorem lw_p19 : lw_okq (⟨"SwapTables$Reader", "opensBracket", "(I)Z"⟩, 12) := ⟨⟨by decide +kernel, by decide +kernel⟩, List.mem_of_getElem? (i := 187) (by decide +kernel), List.mem_of_getElem? (i := 766) (by decide +kernel), List.mem_of_getElem? (i := 767) (by decide +kernel)⟩
theorem lw_p20 : lw_okq (⟨"SwapTables$Reader", "endPart", "(I)V"⟩, 12) := ⟨⟨by decide +kernel, by decide +kernel⟩, List.mem_of_getElem? (i := 187) (by decide +kernel), List.mem_of_getElem? (i := 770) (by decide +kernel), List.mem_of_getElem? (i := 771) (by decide +kernel)⟩
theorem lw_p21 : lw_okq (⟨"SwapTables$Reader", "endsSwap", "(II)Z"⟩, 12) := ⟨⟨by decide +kernel, by decide +kernel⟩, List.mem_of_getElem? (i := 187) (by decide +kernel), List.mem_of_getElem? (i := 776) (by decide +kernel), List.mem_of_getElem? (i := 777) (by decide +kernel)⟩
theorem lw_p22 : lw_okq (⟨"SwapTables$Reader", "noteWrong", "(I)V"⟩, 12) := ⟨⟨by decide +kernel, by decide +kernel⟩, List.mem_of_getElem? (i := 187) (by decide +kernel), List.mem_of_getElem? (i := 784) (by decide +kernel), List.mem_of_getElem? (i := 785) (by decide +kernel)⟩
theorem lw_p23 : lw_okq (⟨"SwapTables$Reader", "refuse", "(II)V"⟩, 12) := ⟨⟨by decide +kernel, by decide +kernel⟩, List.mem_of_getElem? (i := 187) (by decide +kernel), List.mem_of_getElem? (i := 788) (by decide +kernel), List.mem_of_getElem? (i := 789) (by decide +kernel)⟩
theorem lw_p24 : lw_okq (⟨"SwapTables$Reader", "goesOnInCycle", "(II)Z"⟩, 12) := ⟨⟨by decide +kernel, by decide +kernel⟩, List.mem_of_getElem? (i := 187) (by decide +kernel), List.mem_of_getElem? (i := 797) (by decide +kernel), List.mem_of_getElem? (i := 798) (by decide +kernel)⟩
theorem lw_p25 : lw_okq (⟨"SwapTables$Reader", "takeIntoCycle", "(II)V"⟩, 12) := ⟨⟨by decide +kernel, by decide +kernel⟩, List.mem_of_getElem? (i := 187) (by decide +kernel), List.mem_of_getElem? (i := 801) (by decide +kernel), List.mem_of_getElem? (i := 802) (by decide +kernel)⟩
theorem lw_p26 : lw_okq (⟨"SwapTables$Reader", "goesOnBehindPart", "(I)Z"⟩, 12) := ⟨⟨by decide +kernel, by decide +kernel⟩, List.mem_of_getElem? (i := 187) (by decide +kernel), List.mem_of_getElem? (i := 806) (by decide +kernel), List.mem_of_getElem? (i := 807) (by decide +kernel)⟩
theorem lw_p27 : lw_okq (⟨"SwapTables$Reader", "refuseFault", "(I)I"⟩, 12) := ⟨⟨by decide +kernel, by decide +kernel⟩, List.mem_of_getElem? (i := 187) (by decide +kernel), List.mem_of_getElem? (i := 810) (by decide +kernel), List.mem_of_getElem? (i := 811) (by decide +kernel)⟩
theorem lw_p28 : lw_okq (⟨"SwapTables", "shelvesInUse", "()I"⟩, 10) := ⟨⟨by decide +kernel, by decide +kernel⟩, List.mem_of_getElem? (i := 20) (by decide +kernel), List.mem_of_getElem? (i := 834) (by decide +kernel), List.mem_of_getElem? (i := 835) (by decide +kernel)⟩
theorem lw_p29 : lw_okq (⟨"SwapTables", "lengthsTogether", "()I"⟩, 10) := ⟨⟨by decide +kernel, by decide +kernel⟩, List.mem_of_getElem? (i := 20) (by decide +kernel), List.mem_of_getElem? (i := 838) (by decide +kernel), List.mem_of_getElem? (i := 839) (by decide +kernel)⟩
theorem lw_p30 : lw_okq (⟨"SwapTablesModel", "tellsShape", "()V"⟩, 59) := ⟨⟨by decide +kernel, by decide +kernel⟩, List.mem_of_getElem? (i := 842) (by decide +kernel), List.mem_of_getElem? (i := 853) (by decide +kernel), List.mem_of_getElem? (i := 854) (by decide +kernel)⟩
theorem lw_p31 : lw_okq (⟨"SwapTablesModel", "stands", "(I)V"⟩, 59) := ⟨⟨by decide +kernel, by decide +kernel⟩, List.mem_of_getElem? (i := 842) (by decide +kernel), List.mem_of_getElem? (i := 857) (by decide +kernel), List.mem_of_getElem? (i := 858) (by decide +kernel)⟩
def lw_privs_2 : List (MethodName × Nat) := [(⟨"SwapTables$Reader", "goesOnWith", "(II)Z"⟩, 12), (⟨"SwapTables$Reader", "beginsPart", "(II)Z"⟩, 12), (⟨"SwapTables$Reader", "beginCycle", "()V"⟩, 12), (⟨"SwapTables$Reader", "opensBracket", "(I)Z"⟩, 12), (⟨"SwapTables$Reader", "endPart", "(I)V"⟩, 12), (⟨"SwapTables$Reader", "endsSwap", "(II)Z"⟩, 12), (⟨"SwapTables$Reader", "noteWrong", "(I)V"⟩, 12), (⟨"SwapTables$Reader", "refuse", "(II)V"⟩, 12), (⟨"SwapTables$Reader", "goesOnInCycle", "(II)Z"⟩, 12), (⟨"SwapTables$Reader", "takeIntoCycle", "(II)V"⟩, 12), (⟨"SwapTables$Reader", "goesOnBehindPart", "(I)Z"⟩, 12), (⟨"SwapTables$Reader", "refuseFault", "(I)I"⟩, 12), (⟨"SwapTables", "shelvesInUse", "()I"⟩, 10), (⟨"SwapTables", "lengthsTogether", "()I"⟩, 10), (⟨"SwapTablesModel", "tellsShape", "()V"⟩, 59), (⟨"SwapTablesModel", "stands", "(I)V"⟩, 59)]
theorem lw_r2 : ∀ q ∈ lw_privs_2, lw_okq q := List.forall_mem_cons.mpr ⟨lw_p16, List.forall_mem_cons.mpr ⟨lw_p17, List.forall_mem_cons.mpr ⟨lw_p18, List.forall_mem_cons.mpr ⟨lw_p19, List.forall_mem_cons.mpr ⟨lw_p20, List.forall_mem_cons.mpr ⟨lw_p21, List.forall_mem_cons.mpr ⟨lw_p22, List.forall_mem_cons.mpr ⟨lw_p23, List.forall_mem_cons.mpr ⟨lw_p24, List.forall_mem_cons.mpr ⟨lw_p25, List.forall_mem_cons.mpr ⟨lw_p26, List.forall_mem_cons.mpr ⟨lw_p27, List.forall_mem_cons.mpr ⟨lw_p28, List.forall_mem_cons.mpr ⟨lw_p29, List.forall_mem_cons.mpr ⟨lw_p30, List.forall_mem_cons.mpr ⟨lw_p31, fun _ h => absurd h List.not_mem_nil⟩⟩⟩⟩⟩⟩⟩⟩⟩⟩⟩⟩⟩⟩⟩⟩
theorem lw_p32 : lw_okq (⟨"SwapTablesModel", "hookOf", "(II)I"⟩, 59) := ⟨⟨by decide +kernel, by decide +kernel⟩, List.mem_of_getElem? (i := 842) (by decide +kernel), List.mem_of_getElem? (i := 1048) (by decide +kernel), List.mem_of_getElem? (i := 1049) (by decide +kernel)⟩
theorem lw_p33 : lw_okq (⟨"SwapTablesModel", "rows", "()I"⟩, 59) := ⟨⟨by decide +kernel, by decide +kernel⟩, List.mem_of_getElem? (i := 842) (by decide +kernel), List.mem_of_getElem? (i := 1052) (by decide +kernel), List.mem_of_getElem? (i := 1053) (by decide +kernel)⟩
theorem lw_p34 : lw_okq (⟨"SwapTablesModel", "partitionOf", "([I)I"⟩, 59) := ⟨⟨by decide +kernel, by decide +kernel⟩, List.mem_of_getElem? (i := 842) (by decide +kernel), List.mem_of_getElem? (i := 1056) (by decide +kernel), List.mem_of_getElem? (i := 1057) (by decide +kernel)⟩
theorem lw_p35 : lw_okq (⟨"SwapTablesModel", "tellsPartitions", "()V"⟩, 59) := ⟨⟨by decide +kernel, by decide +kernel⟩, List.mem_of_getElem? (i := 842) (by decide +kernel), List.mem_of_getElem? (i := 1060) (by decide +kernel), List.mem_of_getElem? (i := 1061) (by decide +kernel)⟩
theorem lw_p36 : lw_okq (⟨"SwapTablesModel", "splits", "(III)V"⟩, 59) := ⟨⟨by decide +kernel, by decide +kernel⟩, List.mem_of_getElem? (i := 842) (by decide +kernel), List.mem_of_getElem? (i := 1064) (by decide +kernel), List.mem_of_getElem? (i := 1065) (by decide +kernel)⟩
theorem lw_p37 : lw_okq (⟨"SwapTablesModel", "isStandard", "(I)Z"⟩, 59) := ⟨⟨by decide +kernel, by decide +kernel⟩, List.mem_of_getElem? (i := 842) (by decide +kernel), List.mem_of_getElem? (i := 1081) (by decide +kernel), List.mem_of_getElem? (i := 1082) (by decide +kernel)⟩
theorem lw_p38 : lw_okq (⟨"SwapTablesModel", "isSwap", "(I)Z"⟩, 59) := ⟨⟨by decide +kernel, by decide +kernel⟩, List.mem_of_getElem? (i := 842) (by decide +kernel), List.mem_of_getElem? (i := 1097) (by decide +kernel), List.mem_of_getElem? (i := 1098) (by decide +kernel)⟩
theorem lw_p39 : lw_okq (⟨"SwapTablesModel", "becomes", "(I)I"⟩, 59) := ⟨⟨by decide +kernel, by decide +kernel⟩, List.mem_of_getElem? (i := 842) (by decide +kernel), List.mem_of_getElem? (i := 1104) (by decide +kernel), List.mem_of_getElem? (i := 1105) (by decide +kernel)⟩
theorem lw_p40 : lw_okq (⟨"SwapTablesModel", "lengthOf", "([I)I"⟩, 59) := ⟨⟨by decide +kernel, by decide +kernel⟩, List.mem_of_getElem? (i := 842) (by decide +kernel), List.mem_of_getElem? (i := 1108) (by decide +kernel), List.mem_of_getElem? (i := 1109) (by decide +kernel)⟩
theorem lw_p41 : lw_okq (⟨"SwapTablesModel", "takesOut", "(I)V"⟩, 59) := ⟨⟨by decide +kernel, by decide +kernel⟩, List.mem_of_getElem? (i := 842) (by decide +kernel), List.mem_of_getElem? (i := 1133) (by decide +kernel), List.mem_of_getElem? (i := 1134) (by decide +kernel)⟩
theorem lw_p42 : lw_okq (⟨"SwapTablesModel", "typeOf", "([I)I"⟩, 59) := ⟨⟨by decide +kernel, by decide +kernel⟩, List.mem_of_getElem? (i := 842) (by decide +kernel), List.mem_of_getElem? (i := 1137) (by decide +kernel), List.mem_of_getElem? (i := 1138) (by decide +kernel)⟩
theorem lw_p43 : lw_okq (⟨"SwapTablesModel", "tellsWord", "([I)V"⟩, 59) := ⟨⟨by decide +kernel, by decide +kernel⟩, List.mem_of_getElem? (i := 842) (by decide +kernel), List.mem_of_getElem? (i := 1145) (by decide +kernel), List.mem_of_getElem? (i := 1146) (by decide +kernel)⟩
theorem lw_p44 : lw_okq (⟨"SwapTablesModel", "isFilling", "(I)Z"⟩, 59) := ⟨⟨by decide +kernel, by decide +kernel⟩, List.mem_of_getElem? (i := 842) (by decide +kernel), List.mem_of_getElem? (i := 1159) (by decide +kernel), List.mem_of_getElem? (i := 1160) (by decide +kernel)⟩
theorem lw_p45 : lw_okq (⟨"SwapTablesModel", "straightens", "()V"⟩, 59) := ⟨⟨by decide +kernel, by decide +kernel⟩, List.mem_of_getElem? (i := 842) (by decide +kernel), List.mem_of_getElem? (i := 1167) (by decide +kernel), List.mem_of_getElem? (i := 1168) (by decide +kernel)⟩
theorem lw_p46 : lw_okq (⟨"SwapTablesModel", "adds", "(I)V"⟩, 59) := ⟨⟨by decide +kernel, by decide +kernel⟩, List.mem_of_getElem? (i := 842) (by decide +kernel), List.mem_of_getElem? (i := 1171) (by decide +kernel), List.mem_of_getElem? (i := 1172) (by decide +kernel)⟩
theorem lw_p47 : lw_okq (⟨"SwapTablesModel", "codeOf", "()I"⟩, 59) := ⟨⟨by decide +kernel, by decide +kernel⟩, List.mem_of_getElem? (i := 842) (by decide +kernel), List.mem_of_getElem? (i := 1175) (by decide +kernel), List.mem_of_getElem? (i := 1176) (by decide +kernel)⟩
def lw_privs_3 : List (MethodName × Nat) := [(⟨"SwapTablesModel", "hookOf", "(II)I"⟩, 59), (⟨"SwapTablesModel", "rows", "()I"⟩, 59), (⟨"SwapTablesModel", "partitionOf", "([I)I"⟩, 59), (⟨"SwapTablesModel", "tellsPartitions", "()V"⟩, 59), (⟨"SwapTablesModel", "splits", "(III)V"⟩, 59), (⟨"SwapTablesModel", "isStandard", "(I)Z"⟩, 59), (⟨"SwapTablesModel", "isSwap", "(I)Z"⟩, 59), (⟨"SwapTablesModel", "becomes", "(I)I"⟩, 59), (⟨"SwapTablesModel", "lengthOf", "([I)I"⟩, 59), (⟨"SwapTablesModel", "takesOut", "(I)V"⟩, 59), (⟨"SwapTablesModel", "typeOf", "([I)I"⟩, 59), (⟨"SwapTablesModel", "tellsWord", "([I)V"⟩, 59), (⟨"SwapTablesModel", "isFilling", "(I)Z"⟩, 59), (⟨"SwapTablesModel", "straightens", "()V"⟩, 59), (⟨"SwapTablesModel", "adds", "(I)V"⟩, 59), (⟨"SwapTablesModel", "codeOf", "()I"⟩, 59)]
theorem lw_r3 : ∀ q ∈ lw_privs_3, lw_okq q := List.forall_mem_cons.mpr ⟨lw_p32, List.forall_mem_cons.mpr ⟨lw_p33, List.forall_mem_cons.mpr ⟨lw_p34, List.forall_mem_cons.mpr ⟨lw_p35, List.forall_mem_cons.mpr ⟨lw_p36, List.forall_mem_cons.mpr ⟨lw_p37, List.forall_mem_cons.mpr ⟨lw_p38, List.forall_mem_cons.mpr ⟨lw_p39, List.forall_mem_cons.mpr ⟨lw_p40, List.forall_mem_cons.mpr ⟨lw_p41, List.forall_mem_cons.mpr ⟨lw_p42, List.forall_mem_cons.mpr ⟨lw_p43, List.forall_mem_cons.mpr ⟨lw_p44, List.forall_mem_cons.mpr ⟨lw_p45, List.forall_mem_cons.mpr ⟨lw_p46, List.forall_mem_cons.mpr ⟨lw_p47, fun _ h => absurd h List.not_mem_nil⟩⟩⟩⟩⟩⟩⟩⟩⟩⟩⟩⟩⟩⟩⟩⟩
theorem lw_p48 : lw_okq (⟨"SwapTablesModel", "isHigher", "(II)Z"⟩, 59) := ⟨⟨by decide +kernel, by decide +kernel⟩, List.mem_of_getElem? (i := 842) (by decide +kernel), List.mem_of_getElem? (i := 1179) (by decide +kernel), List.mem_of_getElem? (i := 1180) (by decide +kernel)⟩
theorem lw_p49 : lw_okq (⟨"SwapTablesModel", "standCode", "(I)I"⟩, 59) := ⟨⟨by decide +kernel, by decide +kernel⟩, List.mem_of_getElem? (i := 842) (by decide +kernel), List.mem_of_getElem? (i := 1183) (by decide +kernel), List.mem_of_getElem? (i := 1184) (by decide +kernel)⟩
theorem lw_p50 : lw_okq (⟨"SwapTablesModel", "tellsStandard", "(I)V"⟩, 59) := ⟨⟨by decide +kernel, by decide +kernel⟩, List.mem_of_getElem? (i := 842) (by decide +kernel), List.mem_of_getElem? (i := 1187) (by decide +kernel), List.mem_of_getElem? (i := 1188) (by decide +kernel)⟩
theorem lw_p51 : lw_okq (⟨"SwapTablesModel", "tellsWhole", "([II)V"⟩, 59) := ⟨⟨by decide +kernel, by decide +kernel⟩, List.mem_of_getElem? (i := 842) (by decide +kernel), List.mem_of_getElem? (i := 1195) (by decide +kernel), List.mem_of_getElem? (i := 1196) (by decide +kernel)⟩
theorem lw_p52 : lw_okq (⟨"SwapTablesModel", "trace", "([I)J"⟩, 59) := ⟨⟨by decide +kernel, by decide +kernel⟩, List.mem_of_getElem? (i := 842) (by decide +kernel), List.mem_of_getElem? (i := 1203) (by decide +kernel), List.mem_of_getElem? (i := 1204) (by decide +kernel)⟩
theorem lw_p53 : lw_okq (⟨"SwapTablesModel", "tellsFractions", "([I)V"⟩, 59) := ⟨⟨by decide +kernel, by decide +kernel⟩, List.mem_of_getElem? (i := 842) (by decide +kernel), List.mem_of_getElem? (i := 1218) (by decide +kernel), List.mem_of_getElem? (i := 1219) (by decide +kernel)⟩
theorem lw_p54 : lw_okq (⟨"SwapTablesModel", "sums", "(III)V"⟩, 59) := ⟨⟨by decide +kernel, by decide +kernel⟩, List.mem_of_getElem? (i := 842) (by decide +kernel), List.mem_of_getElem? (i := 1222) (by decide +kernel), List.mem_of_getElem? (i := 1223) (by decide +kernel)⟩
theorem lw_p55 : lw_okq (⟨"SwapTablesModel", "tellsSwap", "(III)V"⟩, 59) := ⟨⟨by decide +kernel, by decide +kernel⟩, List.mem_of_getElem? (i := 842) (by decide +kernel), List.mem_of_getElem? (i := 1226) (by decide +kernel), List.mem_of_getElem? (i := 1227) (by decide +kernel)⟩
theorem lw_p56 : lw_okq (⟨"SwapTablesModel", "contentOf", "(II)I"⟩, 59) := ⟨⟨by decide +kernel, by decide +kernel⟩, List.mem_of_getElem? (i := 842) (by decide +kernel), List.mem_of_getElem? (i := 1230) (by decide +kernel), List.mem_of_getElem? (i := 1231) (by decide +kernel)⟩
theorem lw_p57 : lw_okq (⟨"SwapTablesModel", "changed", "(II)I"⟩, 59) := ⟨⟨by decide +kernel, by decide +kernel⟩, List.mem_of_getElem? (i := 842) (by decide +kernel), List.mem_of_getElem? (i := 1234) (by decide +kernel), List.mem_of_getElem? (i := 1235) (by decide +kernel)⟩
theorem lw_p58 : lw_okq (⟨"SwapTablesModel", "lowers", "()V"⟩, 59) := ⟨⟨by decide +kernel, by decide +kernel⟩, List.mem_of_getElem? (i := 842) (by decide +kernel), List.mem_of_getElem? (i := 1238) (by decide +kernel), List.mem_of_getElem? (i := 1239) (by decide +kernel)⟩
theorem lw_p59 : lw_okq (⟨"SwapTablesModel", "addsTo", "(JJ)V"⟩, 59) := ⟨⟨by decide +kernel, by decide +kernel⟩, List.mem_of_getElem? (i := 842) (by decide +kernel), List.mem_of_getElem? (i := 1245) (by decide +kernel), List.mem_of_getElem? (i := 1246) (by decide +kernel)⟩
theorem lw_p60 : lw_okq (⟨"SwapTablesModel", "tellsNorms", "()V"⟩, 59) := ⟨⟨by decide +kernel, by decide +kernel⟩, List.mem_of_getElem? (i := 842) (by decide +kernel), List.mem_of_getElem? (i := 1253) (by decide +kernel), List.mem_of_getElem? (i := 1254) (by decide +kernel)⟩
theorem lw_p61 : lw_okq (⟨"SwapTablesModel", "canLose", "(I)Z"⟩, 59) := ⟨⟨by decide +kernel, by decide +kernel⟩, List.mem_of_getElem? (i := 842) (by decide +kernel), List.mem_of_getElem? (i := 1261) (by decide +kernel), List.mem_of_getElem? (i := 1262) (by decide +kernel)⟩
theorem lw_p62 : lw_okq (⟨"SwapTablesModel", "isNumber", "(II)Z"⟩, 59) := ⟨⟨by decide +kernel, by decide +kernel⟩, List.mem_of_getElem? (i := 842) (by decide +kernel), List.mem_of_getElem? (i := 1273) (by decide +kernel), List.mem_of_getElem? (i := 1274) (by decide +kernel)⟩
theorem lw_p63 : lw_okq (⟨"SwapTablesModel", "readsAll", "(Z)Z"⟩, 59) := ⟨⟨by decide +kernel, by decide +kernel⟩, List.mem_of_getElem? (i := 842) (by decide +kernel), List.mem_of_getElem? (i := 1325) (by decide +kernel), List.mem_of_getElem? (i := 1326) (by decide +kernel)⟩
def lw_privs_4 : List (MethodName × Nat) := [(⟨"SwapTablesModel", "isHigher", "(II)Z"⟩, 59), (⟨"SwapTablesModel", "standCode", "(I)I"⟩, 59), (⟨"SwapTablesModel", "tellsStandard", "(I)V"⟩, 59), (⟨"SwapTablesModel", "tellsWhole", "([II)V"⟩, 59), (⟨"SwapTablesModel", "trace", "([I)J"⟩, 59), (⟨"SwapTablesModel", "tellsFractions", "([I)V"⟩, 59), (⟨"SwapTablesModel", "sums", "(III)V"⟩, 59), (⟨"SwapTablesModel", "tellsSwap", "(III)V"⟩, 59), (⟨"SwapTablesModel", "contentOf", "(II)I"⟩, 59), (⟨"SwapTablesModel", "changed", "(II)I"⟩, 59), (⟨"SwapTablesModel", "lowers", "()V"⟩, 59), (⟨"SwapTablesModel", "addsTo", "(JJ)V"⟩, 59), (⟨"SwapTablesModel", "tellsNorms", "()V"⟩, 59), (⟨"SwapTablesModel", "canLose", "(I)Z"⟩, 59), (⟨"SwapTablesModel", "isNumber", "(II)Z"⟩, 59), (⟨"SwapTablesModel", "readsAll", "(Z)Z"⟩, 59)]
theorem lw_r4 : ∀ q ∈ lw_privs_4, lw_okq q := List.forall_mem_cons.mpr ⟨lw_p48, List.forall_mem_cons.mpr ⟨lw_p49, List.forall_mem_cons.mpr ⟨lw_p50, List.forall_mem_cons.mpr ⟨lw_p51, List.forall_mem_cons.mpr ⟨lw_p52, List.forall_mem_cons.mpr ⟨lw_p53, List.forall_mem_cons.mpr ⟨lw_p54, List.forall_mem_cons.mpr ⟨lw_p55, List.forall_mem_cons.mpr ⟨lw_p56, List.forall_mem_cons.mpr ⟨lw_p57, List.forall_mem_cons.mpr ⟨lw_p58, List.forall_mem_cons.mpr ⟨lw_p59, List.forall_mem_cons.mpr ⟨lw_p60, List.forall_mem_cons.mpr ⟨lw_p61, List.forall_mem_cons.mpr ⟨lw_p62, List.forall_mem_cons.mpr ⟨lw_p63, fun _ h => absurd h List.not_mem_nil⟩⟩⟩⟩⟩⟩⟩⟩⟩⟩⟩⟩⟩⟩⟩⟩
theorem lw_p64 : lw_okq (⟨"SwapTablesModel", "readsText", "(I)Z"⟩, 59) := ⟨⟨by decide +kernel, by decide +kernel⟩, List.mem_of_getElem? (i := 842) (by decide +kernel), List.mem_of_getElem? (i := 1329) (by decide +kernel), List.mem_of_getElem? (i := 1330) (by decide +kernel)⟩
theorem lw_p65 : lw_okq (⟨"SwapTablesModel", "readsPart", "(I)Z"⟩, 59) := ⟨⟨by decide +kernel, by decide +kernel⟩, List.mem_of_getElem? (i := 842) (by decide +kernel), List.mem_of_getElem? (i := 1333) (by decide +kernel), List.mem_of_getElem? (i := 1334) (by decide +kernel)⟩
theorem lw_p66 : lw_okq (⟨"SwapTablesModel", "here", "()I"⟩, 59) := ⟨⟨by decide +kernel, by decide +kernel⟩, List.mem_of_getElem? (i := 842) (by decide +kernel), List.mem_of_getElem? (i := 1337) (by decide +kernel), List.mem_of_getElem? (i := 1338) (by decide +kernel)⟩
theorem lw_p67 : lw_okq (⟨"SwapTablesModel", "isFigure", "()Z"⟩, 59) := ⟨⟨by decide +kernel, by decide +kernel⟩, List.mem_of_getElem? (i := 842) (by decide +kernel), List.mem_of_getElem? (i := 1341) (by decide +kernel), List.mem_of_getElem? (i := 1342) (by decide +kernel)⟩
theorem lw_p68 : lw_okq (⟨"SwapTablesModel", "fails", "(II)Z"⟩, 59) := ⟨⟨by decide +kernel, by decide +kernel⟩, List.mem_of_getElem? (i := 842) (by decide +kernel), List.mem_of_getElem? (i := 1347) (by decide +kernel), List.mem_of_getElem? (i := 1348) (by decide +kernel)⟩
theorem lw_p69 : lw_okq (⟨"SwapTablesModel", "opens", "(II)V"⟩, 59) := ⟨⟨by decide +kernel, by decide +kernel⟩, List.mem_of_getElem? (i := 842) (by decide +kernel), List.mem_of_getElem? (i := 1351) (by decide +kernel), List.mem_of_getElem? (i := 1352) (by decide +kernel)⟩
theorem lw_p70 : lw_okq (⟨"SwapTablesModel", "readsCycle", "()Z"⟩, 59) := ⟨⟨by decide +kernel, by decide +kernel⟩, List.mem_of_getElem? (i := 842) (by decide +kernel), List.mem_of_getElem? (i := 1355) (by decide +kernel), List.mem_of_getElem? (i := 1356) (by decide +kernel)⟩
theorem lw_p71 : lw_okq (⟨"SwapTablesModel", "turnsPart", "()V"⟩, 59) := ⟨⟨by decide +kernel, by decide +kernel⟩, List.mem_of_getElem? (i := 842) (by decide +kernel), List.mem_of_getElem? (i := 1359) (by decide +kernel), List.mem_of_getElem? (i := 1360) (by decide +kernel)⟩
theorem lw_p72 : lw_okq (⟨"SwapTablesModel", "held", "()I"⟩, 59) := ⟨⟨by decide +kernel, by decide +kernel⟩, List.mem_of_getElem? (i := 842) (by decide +kernel), List.mem_of_getElem? (i := 1382) (by decide +kernel), List.mem_of_getElem? (i := 1383) (by decide +kernel)⟩
theorem lw_p73 : lw_okq (⟨"SwapTablesModel", "lengthsAll", "()I"⟩, 59) := ⟨⟨by decide +kernel, by decide +kernel⟩, List.mem_of_getElem? (i := 842) (by decide +kernel), List.mem_of_getElem? (i := 1386) (by decide +kernel), List.mem_of_getElem? (i := 1387) (by decide +kernel)⟩
def lw_privs_5 : List (MethodName × Nat) := [(⟨"SwapTablesModel", "readsText", "(I)Z"⟩, 59), (⟨"SwapTablesModel", "readsPart", "(I)Z"⟩, 59), (⟨"SwapTablesModel", "here", "()I"⟩, 59), (⟨"SwapTablesModel", "isFigure", "()Z"⟩, 59), (⟨"SwapTablesModel", "fails", "(II)Z"⟩, 59), (⟨"SwapTablesModel", "opens", "(II)V"⟩, 59), (⟨"SwapTablesModel", "readsCycle", "()Z"⟩, 59), (⟨"SwapTablesModel", "turnsPart", "()V"⟩, 59), (⟨"SwapTablesModel", "held", "()I"⟩, 59), (⟨"SwapTablesModel", "lengthsAll", "()I"⟩, 59)]
theorem lw_r5 : ∀ q ∈ lw_privs_5, lw_okq q := List.forall_mem_cons.mpr ⟨lw_p64, List.forall_mem_cons.mpr ⟨lw_p65, List.forall_mem_cons.mpr ⟨lw_p66, List.forall_mem_cons.mpr ⟨lw_p67, List.forall_mem_cons.mpr ⟨lw_p68, List.forall_mem_cons.mpr ⟨lw_p69, List.forall_mem_cons.mpr ⟨lw_p70, List.forall_mem_cons.mpr ⟨lw_p71, List.forall_mem_cons.mpr ⟨lw_p72, List.forall_mem_cons.mpr ⟨lw_p73, fun _ h => absurd h List.not_mem_nil⟩⟩⟩⟩⟩⟩⟩⟩⟩⟩
def lw_privs : List (MethodName × Nat) := lw_privs_1 ++ (lw_privs_2 ++ (lw_privs_3 ++ (lw_privs_4 ++ (lw_privs_5))))
def lw_tbl : List Cond := k2_sels lw_privs ++ tables_1
theorem lw_privs_ok : ∀ q ∈ lw_privs, lw_okq q := by
  show ∀ q ∈ lw_privs_1 ++ (lw_privs_2 ++ (lw_privs_3 ++ (lw_privs_4 ++ (lw_privs_5)))), lw_okq q
  exact List.forall_mem_append.mpr ⟨lw_r1, List.forall_mem_append.mpr ⟨lw_r2, List.forall_mem_append.mpr ⟨lw_r3, List.forall_mem_append.mpr ⟨lw_r4, lw_r5⟩⟩⟩⟩
end
section
/-! ===== BEGIN words of one list among another's, by their places ===== -/
theorem goodIn_r {big : List Cond} (ws : List Cond) (ps : List Nat) (hp : ws = ps.filterMap (fun i => big[i]?)) (h : ws.all goodWord = true) : GoodIn big ws := by
  intro w hw
  have h1 := List.all_eq_true.mp h w hw
  rw [hp] at hw
  obtain ⟨i, -, hi⟩ := List.mem_filterMap.mp hw
  have hm : w ∈ big := by first | exact List.mem_of_getElem? hi | exact List.getElem?_mem hi
  exact ⟨hm, good_of_word h1⟩
theorem goodIn_app {big a b : List Cond} (ha : GoodIn big a) (hb : GoodIn big b) : GoodIn big (a ++ b) := fun w h => (List.mem_append.mp h).elim (ha w) (hb w)
theorem goodIn_ca {big a b : List Cond} {c : Cond} (ha : GoodIn big (c :: a)) (hb : GoodIn big b) : GoodIn big (c :: (a ++ b)) := fun w h => (List.mem_cons.mp h).elim (fun e => ha w (List.mem_cons.mpr (Or.inl e))) (fun h => (List.mem_append.mp h).elim (fun h => ha w (List.mem_cons.mpr (Or.inr h))) (hb w))
theorem goodIn_sub {big ws : List Cond} (hm : ∀ w ∈ ws, w ∈ big) (h : ws.all goodWord = true) : GoodIn big ws := fun w hw => ⟨hm w hw, good_of_word (List.all_eq_true.mp h w hw)⟩
/-! ===== END ===== -/

def va_AOA (t : FieldType) (U : State) : Prop := (Cond.arrayOver (.array t)).before #[] U = true
theorem va_AOA.of {t : FieldType} {A : Array Value} {U : State} (h : (Cond.arrayOver (.array t)).before A U = true) : va_AOA t U := h
theorem va_AOA.use {t : FieldType} {A : Array Value} {U : State} (h : va_AOA t U) : (Cond.arrayOver (.array t)).before A U = true := h
/-! ===== BEGIN new T[n][m]: the outer array a place, the inner ones among the pooled ===== -/
/-- f, but v at every address of l -/
def vr_up {α : Type} (f : Nat → α) (l : List Nat) (v : α) : Nat → α := fun a => if a ∈ l then v else f a
theorem vr_up_in {α : Type} {f : Nat → α} {l : List Nat} {v : α} {a : Nat} (h : a ∈ l) : vr_up f l v a = v := if_pos h
theorem vr_up_ne {α : Type} {f : Nat → α} {l : List Nat} {v : α} {a : Nat} (h : a ∉ l) : vr_up f l v a = f a := if_neg h
theorem vr_rows {L l : List Nat} {f : Nat → va_E} {e : va_E} (h : ∀ a, a ∈ l → a ∉ L) : va_pl L f ++ l.map (fun a => (a, e)) = va_pl (L ++ l) (vr_up f l e) := by
  unfold va_pl
  rw [List.map_append]
  congr 1
  · apply List.map_congr_left
    intro a ha
    rw [vr_up_ne (fun q => h a q ha)]
  · apply List.map_congr_left
    intro a ha
    rw [vr_up_in ha]
theorem vr_lay {X rows : va_W} {x : Nat × va_E} {pl : va_W} {D : va_G} {cl : List vw_C} {H : Heap} (hP : va_P D cl (((X ++ pl) ++ [x]) ++ rows) H) : va_P D cl ((X ++ [x]) ++ (pl ++ rows)) H := by
  rw [List.append_assoc (X ++ pl)] at hP
  have h := va_P.swap hP
  rw [← List.append_assoc X] at h
  have h2 := va_P.swap h
  rw [List.append_assoc (X ++ [x])] at h2
  exact h2
theorem vr_layD {X rows : va_W} {x : Nat × va_E} {pl : va_W} {A : Nat → Prop} (hD : va_D A (((X ++ pl) ++ [x]) ++ rows)) : va_D A ((X ++ [x]) ++ (pl ++ rows)) := by
  rw [List.append_assoc (X ++ pl)] at hD
  have h := va_D.swap hD
  rw [← List.append_assoc X] at h
  have h2 := va_D.swap h
  rw [List.append_assoc (X ++ [x])] at h2
  exact h2
theorem vr_outer (c : ClassId) (N h0 : Nat) : ∀ i : Nat, Jvm.Free.Multi.outerC c N h0 i = arrV c N (fun j => va_rf (if j < i then some (h0 + 1 + j) else none))
  | 0 => by
    show ({ cls := c, slots := Array.replicate N .null, vm := .none } : Cell) = _
    rw [arrV_new]
    refine congrArg (arrV c N) (funext fun j => ?_)
    simp [va_rf]
  | i + 1 => by
    show (Jvm.Free.Multi.outerC c N h0 i).setSlot i (.ref (h0 + 1 + i)) = _
    rw [vr_outer c N h0 i, arrV_store]
    refine congrArg (arrV c N) (funext fun j => ?_)
    by_cases e : j = i
    · subst e
      simp [updV, va_rf]
    · by_cases h : j < i
      · simp [updV, e, h, Nat.lt_succ_of_lt h]
      · simp [updV, e, h, show ¬ j < i + 1 by omega]
section VGM
variable {p : Program} {l : Launch} {e : Env} {R : Room} {s : State} {m : MethodId} {args : Array Value} {below : List Frame} {meth : Method} {c : Code} {H : Heap} {locs : List Loc} {cells slots : Nat} {Q : State → Prop}
variable {cc : ByteArray} {pc : Nat} {ls : Array Slot} {rest : List Value} {D : va_G} {cl : List vw_C} {A : Nat → Prop} {a : Nat} {tys : List (ClassId × FieldType)} {ws : va_W} {H0 : Heap}
theorem va_mna {X : va_W} {L : List Nat} {f : Nat → va_E} {cc : ByteArray} (hexec : p.tables.exec = Jvm.exec) (hb : c.code = cc) {own : String} {index : Nat} {ty : FieldType} {cy : ClassId} (hown : s.vm.findClass own = some m.cls) (hclink : (Cond.classLink own index ("[" ++ (FieldType.array ty).toString)).before args s = true) (hover : va_AOA ty s) (harr : (Cond.arrayClass ty).before args s = true) (hcy : s.vm.findClass (FieldType.array ty).toString = some cy)
    (hK : va_K D cl tys s) (hP : va_P D cl (X ++ va_pl L f) H) (hD : va_D A (X ++ va_pl L f)) (hS : va_S A H0 H locs) (hA : ∀ q, H0.size ≤ q → A q) {n k : Int32} {N' K' : Nat} {z : vp_A} (hn : ¬ n < 0) (hk : ¬ k < 0) (hN : n.toNatClampNeg = N') (hM : k.toNatClampNeg = K')
    (hb1 : N' * 4 ≤ 536870912) (hb2 : K' * componentBytes ty ≤ 536870912) (hb3 : K' ≤ 536870912) (hdf : fits ty (defaultValue ty) = true) (hdd : (defaultValue ty).isDefault = true) (hcells : cells + (1 + N') ≤ R.cells) (hslots : slots + (N' + N' * K') ≤ R.slots) (hz : ∀ c : ClassId, Jvm.Free.Multi.innerC c K' (defaultValue ty) = vp_cell c z) (hdg : decode cc pc = .ok (.multianewarray index 2, 4))
    (kk : ∀ (q : Nat) (r : Nat → Nat) (cA : ClassId) (H1 : Heap), (∀ i j : Nat, i < N' → j < N' → r i = r j → i = j) → (∀ i : Nat, i < N' → r i ∉ L) → va_K D cl (tys ++ [(cA, .array ty)]) s →
      va_P D cl ((X ++ [(q, .inl (cA, N', .inr (.inr (.inr (.inr (fun i => if i < N' then some (r i) else none))))))]) ++ va_pl (L ++ (List.range N').map r) (vr_up f ((List.range N').map r) (.inl (cy, z)))) H1 → va_D A ((X ++ [(q, .inl (cA, N', .inr (.inr (.inr (.inr (fun i => if i < N' then some (r i) else none))))))]) ++ va_pl (L ++ (List.range N').map r) (vr_up f ((List.range N').map r) (.inl (cy, z)))) → va_S A H0 H1 locs →
      W p l e R s m args below meth c H1 locs (cells + 1 + N') (slots + N' + N' * K') Q (F0 m (pc + 4) ls (.ref q :: rest))) : W p l e R s m args below meth c H locs cells slots Q (F0 m pc ls (.int k :: .int n :: rest)) := by
  subst hN
  subst hM
  intro T hT Xs
  obtain ⟨vm₁, cA, comp, -, fA, fC, hO, -, X', step⟩ := Xs.multianewarray2F hexec hown hclink (va_AOA.use hover) harr (g := F0 m pc ls (.int k :: .int n :: rest)) rfl (by rw [hb]; exact hdg) rfl hn hk hb1 hb2 hb3 hdf hdd hcells hslots
  have ec : some cy = some comp := hcy.symm.trans fC
  cases ec
  generalize hF : Jvm.Free.Multi.fill (T.setVm vm₁) cA cy n.toNatClampNeg k.toNatClampNeg (defaultValue ty) n.toNatClampNeg = F at X' step
  have hTh : (T.setVm vm₁).heap = H := hT
  obtain ⟨f1, f2, -, -⟩ := Jvm.Free.Multi.fill_facts (T.setVm vm₁) cA cy n.toNatClampNeg k.toNatClampNeg (defaultValue ty) n.toNatClampNeg
  rw [hF, hTh] at f1 f2
  have hold : ∀ x : Nat, x < H.size → F.heap[x]? = H[x]? := fun x hx => by
    have := Jvm.Free.Multi.fill_old (T.setVm vm₁) cA cy n.toNatClampNeg k.toNatClampNeg (defaultValue ty) (a := x) (by rw [hTh]; exact hx) n.toNatClampNeg
    rw [hF, hTh] at this
    exact this
  have hrow : ∀ j : Nat, j < n.toNatClampNeg → F.heap[H.size + 1 + j]? = some (vp_cell cy z) := fun j hj => by
    have := Jvm.Free.Multi.fill_inner (T.setVm vm₁) cA cy n.toNatClampNeg k.toNatClampNeg (defaultValue ty) n.toNatClampNeg j hj
    rw [hF, hTh, hz] at this
    exact this
  have hout : Jvm.Free.Multi.outerC cA n.toNatClampNeg H.size n.toNatClampNeg = vp_cell cA (n.toNatClampNeg, .inr (.inr (.inr (.inr (fun i => if i < n.toNatClampNeg then some (H.size + 1 + i) else none))))) := by
    rw [vp_cell_q]
    exact vr_outer cA n.toNatClampNeg H.size n.toNatClampNeg
  rw [hout] at f2
  have hlt : ∀ a, a ∈ L → a < H.size := fun a ha => by
    obtain ⟨k9, hk9⟩ := va_pl_get (X := X) (f := f) ha
    exact (hP k9 _ hk9).lt
  have hnl : ∀ i : Nat, i < n.toNatClampNeg → H.size + 1 + i ∉ L := fun i _ h => by
    have := hlt _ h
    omega
  have hnm : ∀ a, a ∈ (List.range n.toNatClampNeg).map (fun i => H.size + 1 + i) → a ∉ L := fun a ha h => by
    obtain ⟨i, -, rfl⟩ := List.mem_map.mp ha
    have := hlt _ h
    omega
  have hP0 : va_P D cl (X ++ va_pl L f) F.heap := hP.kept (fun k9 x hx => hold x.1 ((hP k9 x hx).lt))
  have hP1 : va_P D cl ((X ++ va_pl L f) ++ [(H.size, .inl (cA, n.toNatClampNeg, .inr (.inr (.inr (.inr (fun i => if i < n.toNatClampNeg then some (H.size + 1 + i) else none))))))]) F.heap := hP0.app (fun k9 x hx => by
    have h0 : k9 < 1 := (List.getElem?_eq_some_iff.mp hx).1
    rw [show k9 = 0 by omega] at hx
    cases hx
    exact f2)
  have hP2 : va_P D cl (((X ++ va_pl L f) ++ [(H.size, .inl (cA, n.toNatClampNeg, .inr (.inr (.inr (.inr (fun i => if i < n.toNatClampNeg then some (H.size + 1 + i) else none))))))]) ++ ((List.range n.toNatClampNeg).map (fun i => H.size + 1 + i)).map (fun a => (a, .inl (cy, z)))) F.heap := hP1.app (fun k9 x hx => by
    obtain ⟨a, ha, rfl⟩ := List.mem_map.mp (List.mem_of_getElem? hx)
    obtain ⟨i, hi, rfl⟩ := List.mem_map.mp ha
    exact hrow i (List.mem_range.mp hi))
  have hD2 : va_D A (((X ++ va_pl L f) ++ [(H.size, .inl (cA, n.toNatClampNeg, .inr (.inr (.inr (.inr (fun i => if i < n.toNatClampNeg then some (H.size + 1 + i) else none))))))]) ++ ((List.range n.toNatClampNeg).map (fun i => H.size + 1 + i)).map (fun a => (a, .inl (cy, z)))) := by
    have hD1 := hD.push (e := .inl (cA, n.toNatClampNeg, .inr (.inr (.inr (.inr (fun i => if i < n.toNatClampNeg then some (H.size + 1 + i) else none)))))) hP rfl (hA _ hS.1)
    generalize hW1 : (X ++ va_pl L f) ++ [(H.size, .inl (cA, n.toNatClampNeg, .inr (.inr (.inr (.inr (fun i => if i < n.toNatClampNeg then some (H.size + 1 + i) else none))))))] = W1 at hD1 hP1 ⊢
    have hle : ∀ (k9 : Nat) (x : Nat × va_E), W1[k9]? = some x → x.1 ≤ H.size := fun k9 x hx => by
      rw [← hW1] at hx
      by_cases hl : k9 < (X ++ va_pl L f).length
      · rw [List.getElem?_append_left hl] at hx
        exact Nat.le_of_lt ((hP k9 x hx).lt)
      · rw [List.getElem?_append_right (by omega)] at hx
        have h0 : k9 - (X ++ va_pl L f).length < 1 := (List.getElem?_eq_some_iff.mp hx).1
        rw [show k9 - (X ++ va_pl L f).length = 0 by omega] at hx
        cases hx
        exact Nat.le_refl _
    have hr : ∀ (k9 : Nat) (x : Nat × va_E), (((List.range n.toNatClampNeg).map (fun i => H.size + 1 + i)).map (fun a => ((a, .inl (cy, z)) : Nat × va_E)))[k9]? = some x → x.1 = H.size + 1 + k9 := fun k9 x hx => by
      rw [List.getElem?_map, List.getElem?_map] at hx
      by_cases h9 : k9 < n.toNatClampNeg
      · rw [List.getElem?_range h9] at hx
        cases hx
        rfl
      · have hn0 : (List.range n.toNatClampNeg)[k9]? = none := List.getElem?_eq_none (by rw [List.length_range]; omega)
        rw [hn0] at hx
        cases hx
    refine ⟨fun i j x y hi hj hxy => ?_, fun k9 x hx => ?_⟩
    · by_cases h1 : i < W1.length <;> by_cases h2 : j < W1.length
      · rw [List.getElem?_append_left h1] at hi
        rw [List.getElem?_append_left h2] at hj
        exact hD1.1 i j x y hi hj hxy
      · rw [List.getElem?_append_left h1] at hi
        rw [List.getElem?_append_right (by omega)] at hj
        have := hle _ _ hi
        have := hr _ _ hj
        omega
      · rw [List.getElem?_append_right (by omega)] at hi
        rw [List.getElem?_append_left h2] at hj
        have := hle _ _ hj
        have := hr _ _ hi
        omega
      · rw [List.getElem?_append_right (by omega)] at hi hj
        have := hr _ _ hi
        have := hr _ _ hj
        omega
    · by_cases h1 : k9 < W1.length
      · rw [List.getElem?_append_left h1] at hx
        exact hD1.2 k9 x hx
      · rw [List.getElem?_append_right (by omega)] at hx
        have := hr _ _ hx
        exact hA _ (by have := hS.1; omega)
  have hAr : ArrOfT s cA (.array ty) := fun N9 z9 => by
    obtain ⟨-, k9, hk9, cm9, hkk9⟩ := (hO 0 0 0).1
    exact ⟨(fun q hq => by cases hq), k9, hk9, cm9, hkk9⟩
  have hK2 : va_K D cl (tys ++ [(cA, .array ty)]) s := ⟨hK.1, fun k9 x hx => by
    by_cases hl : k9 < tys.length
    · rw [List.getElem?_append_left hl] at hx
      exact hK.2 k9 x hx
    · rw [List.getElem?_append_right (by omega)] at hx
      have h0 : k9 - tys.length < 1 := (List.getElem?_eq_some_iff.mp hx).1
      rw [show k9 - tys.length = 0 by omega] at hx
      cases hx
      exact ⟨hAr, fA⟩⟩
  obtain ⟨t, a1, b1⟩ := kk H.size (fun i => H.size + 1 + i) cA F.heap (fun i j _ _ h => by have h9 : H.size + 1 + i = H.size + 1 + j := h; omega) hnl hK2 (by rw [← vr_rows hnm]; exact vr_lay hP2) (by rw [← vr_rows hnm]; exact vr_layD hD2) ⟨by rw [f1]; have := hS.1; omega, fun x h1 h2 => (hold x (Nat.lt_of_lt_of_le h1 hS.1)).trans (hS.2.1 x h1 h2), hS.2.2⟩ F rfl X'
  refine ⟨t, step t ?_, b1⟩
  have e : T.heap.size = H.size := by rw [hT]
  rw [e]
  exact a1
end VGM
/-! ===== END ===== -/

def RX0 : String := "SwapTables$FractionRow"
def TX0 : u_T := fun k => match k with
  | 0 => ("SwapTables$FractionRow", "above", "[J", true)
  | _ => ("SwapTables$FractionRow", "below", "[J", true)
def tyX0 : Nat → FieldType := fun k => match k with
  | 0 => .array .long
  | _ => .array .long
abbrev wsX00 : List Cond := u_ws RX0 TX0 2
theorem nmX0 : ∀ a, a < 2 → ∀ b, b < 2 → a ≠ b → (TX0 a).2.1 ≠ (TX0 b).2.1 := by decide +kernel
theorem tyX0_ok : ∀ k, k < 2 → parseFieldDescriptor (TX0 k).2.2.1 = some (tyX0 k) := by decide +kernel
abbrev cX0_init : ByteArray := prog_2_method_1_code
def yX0_init : MethodName := ⟨RX0, "<init>", "()V"⟩
abbrev cX0_clear : ByteArray := prog_2_method_2_code
def yX0_clear : MethodName := ⟨RX0, "clear", "()V"⟩
abbrev cX0_add : ByteArray := prog_2_method_3_code
def yX0_add : MethodName := ⟨RX0, "add", "(IJJ)V"⟩
abbrev cX0_commonDivisor : ByteArray := prog_2_method_4_code
def yX0_commonDivisor : MethodName := ⟨RX0, "commonDivisor", "(JJ)J"⟩
abbrev cX0_partAt : ByteArray := prog_2_method_5_code
def yX0_partAt : MethodName := ⟨RX0, "partAt", "(II)J"⟩
def RX1 : String := "SwapTables$Image"
def TX1 : u_T := fun k => match k with
  | 0 => ("SwapTables$Image", "code", "I", false)
  | 1 => ("SwapTables$Image", "registers", "[I", true)
  | _ => ("SwapTables$Image", "shelves", "[LSwapTables$Shelf;", true)
def tyX1 : Nat → FieldType := fun k => match k with
  | 0 => .int
  | 1 => .array .int
  | _ => .array (.object "SwapTables$Shelf")
abbrev wsX10 : List Cond := u_ws RX1 TX1 3
theorem nmX1 : ∀ a, a < 3 → ∀ b, b < 3 → a ≠ b → (TX1 a).2.1 ≠ (TX1 b).2.1 := by decide +kernel
theorem tyX1_ok : ∀ k, k < 3 → parseFieldDescriptor (TX1 k).2.2.1 = some (tyX1 k) := by decide +kernel
abbrev cX1_init : ByteArray := prog_3_method_1_code
def yX1_init : MethodName := ⟨RX1, "<init>", "()V"⟩
def RX2 : String := "SwapTables$Orders"
def TX2 : u_T := fun k => match k with
  | _ => ("", "", "", false)
def tyX2 : Nat → FieldType := fun k => match k with
  | _ => .int
abbrev wsX20 : List Cond := u_ws RX2 TX2 0
theorem nmX2 : ∀ a, a < 0 → ∀ b, b < 0 → a ≠ b → (TX2 a).2.1 ≠ (TX2 b).2.1 := by decide +kernel
theorem tyX2_ok : ∀ k, k < 0 → parseFieldDescriptor (TX2 k).2.2.1 = some (tyX2 k) := by decide +kernel
abbrev cX2_target : ByteArray := prog_4_method_2_code
def yX2_target : MethodName := ⟨RX2, "target", "(II)I"⟩
abbrev cX2_withTarget : ByteArray := prog_4_method_3_code
def yX2_withTarget : MethodName := ⟨RX2, "withTarget", "(III)I"⟩
abbrev cX2_product : ByteArray := prog_4_method_4_code
def yX2_product : MethodName := ⟨RX2, "product", "(II)I"⟩
abbrev cX2_turned : ByteArray := prog_4_method_5_code
def yX2_turned : MethodName := ⟨RX2, "turned", "(I)I"⟩
abbrev cX2_neighbours : ByteArray := prog_4_method_6_code
def yX2_neighbours : MethodName := ⟨RX2, "neighbours", "(I)I"⟩
abbrev cX2_length : ByteArray := prog_4_method_7_code
def yX2_length : MethodName := ⟨RX2, "length", "(I)I"⟩
abbrev cX2_letter : ByteArray := prog_4_method_8_code
def yX2_letter : MethodName := ⟨RX2, "letter", "(II)I"⟩
abbrev cX2_firstLetter : ByteArray := prog_4_method_9_code
def yX2_firstLetter : MethodName := ⟨RX2, "firstLetter", "(I)I"⟩
abbrev cX2_typeOf : ByteArray := prog_4_method_10_code
def yX2_typeOf : MethodName := ⟨RX2, "typeOf", "(II)I"⟩
abbrev cX2_cycleSize : ByteArray := prog_4_method_11_code
def yX2_cycleSize : MethodName := ⟨RX2, "cycleSize", "(II)I"⟩
abbrev cX2_beginsCycle : ByteArray := prog_4_method_12_code
def yX2_beginsCycle : MethodName := ⟨RX2, "beginsCycle", "(II)Z"⟩
abbrev cX2_ofType : ByteArray := prog_4_method_13_code
def yX2_ofType : MethodName := ⟨RX2, "ofType", "(I)I"⟩
def RX3 : String := "SwapTables$Partitions"
def TX3 : u_T := fun k => match k with
  | _ => ("", "", "", false)
def tyX3 : Nat → FieldType := fun k => match k with
  | _ => .int
abbrev wsX30 : List Cond := u_ws RX3 TX3 0
theorem nmX3 : ∀ a, a < 0 → ∀ b, b < 0 → a ≠ b → (TX3 a).2.1 ≠ (TX3 b).2.1 := by decide +kernel
theorem tyX3_ok : ∀ k, k < 0 → parseFieldDescriptor (TX3 k).2.2.1 = some (tyX3 k) := by decide +kernel
abbrev cX3_codeOf : ByteArray := prog_5_method_2_code
def yX3_codeOf : MethodName := ⟨RX3, "codeOf", "(IIIII)I"⟩
abbrev cX3_part : ByteArray := prog_5_method_3_code
def yX3_part : MethodName := ⟨RX3, "part", "(II)I"⟩
abbrev cX3_withPart : ByteArray := prog_5_method_4_code
def yX3_withPart : MethodName := ⟨RX3, "withPart", "(III)I"⟩
abbrev cX3_size : ByteArray := prog_5_method_5_code
def yX3_size : MethodName := ⟨RX3, "size", "(I)I"⟩
abbrev cX3_amount : ByteArray := prog_5_method_6_code
def yX3_amount : MethodName := ⟨RX3, "amount", "(I)I"⟩
abbrev cX3_code : ByteArray := prog_5_method_7_code
def yX3_code : MethodName := ⟨RX3, "code", "(II)I"⟩
abbrev cX3_numberOf : ByteArray := prog_5_method_8_code
def yX3_numberOf : MethodName := ⟨RX3, "numberOf", "(II)I"⟩
def RX4 : String := "SwapTables$Reader"
def TX4 : u_T := fun k => match k with
  | 0 => ("SwapTables$Reader", "refused", "LSwapTables$Troubles;", true)
  | 1 => ("SwapTables$Reader", "open", "LSwapTables$Troubles;", true)
  | 2 => ("SwapTables$Reader", "made", "[I", true)
  | 3 => ("SwapTables$Reader", "brackets", "I", false)
  | 4 => ("SwapTables$Reader", "awaited", "I", false)
  | 5 => ("SwapTables$Reader", "n", "I", false)
  | 6 => ("SwapTables$Reader", "isWrong", "Z", false)
  | 7 => ("SwapTables$Reader", "cycle", "I", false)
  | 8 => ("SwapTables$Reader", "figures", "I", false)
  | 9 => ("SwapTables$Reader", "seen", "I", false)
  | 10 => ("SwapTables$Reader", "first", "I", false)
  | _ => ("SwapTables$Reader", "last", "I", false)
def tyX4 : Nat → FieldType := fun k => match k with
  | 0 => .object "SwapTables$Troubles"
  | 1 => .object "SwapTables$Troubles"
  | 2 => .array .int
  | 3 => .int
  | 4 => .int
  | 5 => .int
  | 6 => .boolean
  | 7 => .int
  | 8 => .int
  | 9 => .int
  | 10 => .int
  | _ => .int
abbrev wsX40 : List Cond := u_ws RX4 TX4 12
theorem nmX4 : ∀ a, a < 12 → ∀ b, b < 12 → a ≠ b → (TX4 a).2.1 ≠ (TX4 b).2.1 := by decide +kernel
theorem tyX4_ok : ∀ k, k < 12 → parseFieldDescriptor (TX4 k).2.2.1 = some (tyX4 k) := by decide +kernel
abbrev cX4_init : ByteArray := prog_6_method_1_code
def yX4_init : MethodName := ⟨RX4, "<init>", "()V"⟩
abbrev cX4_workOut : ByteArray := prog_6_method_2_code
def yX4_workOut : MethodName := ⟨RX4, "workOut", "(LSwapTables$Tape;I)I"⟩
abbrev cX4_begin : ByteArray := prog_6_method_3_code
def yX4_begin : MethodName := ⟨RX4, "begin", "(I)V"⟩
abbrev cX4_refuseFault : ByteArray := prog_6_method_4_code
def yX4_refuseFault : MethodName := ⟨RX4, "refuseFault", "(I)I"⟩
abbrev cX4_refuse : ByteArray := prog_6_method_5_code
def yX4_refuse : MethodName := ⟨RX4, "refuse", "(II)V"⟩
abbrev cX4_noteWrong : ByteArray := prog_6_method_6_code
def yX4_noteWrong : MethodName := ⟨RX4, "noteWrong", "(I)V"⟩
abbrev cX4_goesOnWith : ByteArray := prog_6_method_7_code
def yX4_goesOnWith : MethodName := ⟨RX4, "goesOnWith", "(II)Z"⟩
abbrev cX4_beginsPart : ByteArray := prog_6_method_8_code
def yX4_beginsPart : MethodName := ⟨RX4, "beginsPart", "(II)Z"⟩
abbrev cX4_opensBracket : ByteArray := prog_6_method_9_code
def yX4_opensBracket : MethodName := ⟨RX4, "opensBracket", "(I)Z"⟩
abbrev cX4_endsSwap : ByteArray := prog_6_method_10_code
def yX4_endsSwap : MethodName := ⟨RX4, "endsSwap", "(II)Z"⟩
abbrev cX4_beginCycle : ByteArray := prog_6_method_11_code
def yX4_beginCycle : MethodName := ⟨RX4, "beginCycle", "()V"⟩
abbrev cX4_goesOnInCycle : ByteArray := prog_6_method_12_code
def yX4_goesOnInCycle : MethodName := ⟨RX4, "goesOnInCycle", "(II)Z"⟩
abbrev cX4_takeIntoCycle : ByteArray := prog_6_method_13_code
def yX4_takeIntoCycle : MethodName := ⟨RX4, "takeIntoCycle", "(II)V"⟩
abbrev cX4_goesOnBehindPart : ByteArray := prog_6_method_14_code
def yX4_goesOnBehindPart : MethodName := ⟨RX4, "goesOnBehindPart", "(I)Z"⟩
abbrev cX4_endPart : ByteArray := prog_6_method_15_code
def yX4_endPart : MethodName := ⟨RX4, "endPart", "(I)V"⟩
abbrev cX4_isFigure : ByteArray := prog_6_method_16_code
def yX4_isFigure : MethodName := ⟨RX4, "isFigure", "(I)Z"⟩
def RX5 : String := "SwapTables$SeminormalAxes"
def TX5 : u_T := fun k => match k with
  | 0 => ("SwapTables$SeminormalAxes", "shape", "LSwapTables$Shape;", true)
  | 1 => ("SwapTables$SeminormalAxes", "norms", "LSwapTables$FractionRow;", true)
  | 2 => ("SwapTables$SeminormalAxes", "one", "LSwapTables$FractionRow;", true)
  | _ => ("SwapTables$SeminormalAxes", "other", "LSwapTables$FractionRow;", true)
def tyX5 : Nat → FieldType := fun k => match k with
  | 0 => .object "SwapTables$Shape"
  | 1 => .object "SwapTables$FractionRow"
  | 2 => .object "SwapTables$FractionRow"
  | _ => .object "SwapTables$FractionRow"
abbrev wsX50 : List Cond := u_ws RX5 TX5 4
theorem nmX5 : ∀ a, a < 4 → ∀ b, b < 4 → a ≠ b → (TX5 a).2.1 ≠ (TX5 b).2.1 := by decide +kernel
theorem tyX5_ok : ∀ k, k < 4 → parseFieldDescriptor (TX5 k).2.2.1 = some (tyX5 k) := by decide +kernel
abbrev cX5_init : ByteArray := prog_7_method_1_code
def yX5_init : MethodName := ⟨RX5, "<init>", "(LSwapTables$Shape;)V"⟩
abbrev cX5_build : ByteArray := prog_7_method_2_code
def yX5_build : MethodName := ⟨RX5, "build", "()V"⟩
abbrev cX5_rowOf : ByteArray := prog_7_method_3_code
def yX5_rowOf : MethodName := ⟨RX5, "rowOf", "(II)LSwapTables$FractionRow;"⟩
abbrev cX5_goOn : ByteArray := prog_7_method_4_code
def yX5_goOn : MethodName := ⟨RX5, "goOn", "(LSwapTables$FractionRow;ILSwapTables$FractionRow;)V"⟩
abbrev cX5_innerProduct : ByteArray := prog_7_method_5_code
def yX5_innerProduct : MethodName := ⟨RX5, "innerProduct", "([I[I)LSwapTables$FractionRow;"⟩
def RX6 : String := "SwapTables$Shape"
def TX6 : u_T := fun k => match k with
  | 0 => ("SwapTables$Shape", "code", "I", false)
  | 1 => ("SwapTables$Shape", "n", "I", false)
  | 2 => ("SwapTables$Shape", "d", "I", false)
  | 3 => ("SwapTables$Shape", "beginOfRow", "[I", true)
  | 4 => ("SwapTables$Shape", "rowOfCell", "[I", true)
  | 5 => ("SwapTables$Shape", "columnOfCell", "[I", true)
  | 6 => ("SwapTables$Shape", "cellOf", "[[I", true)
  | 7 => ("SwapTables$Shape", "cellNow", "[I", true)
  | _ => ("SwapTables$Shape", "filledOfRow", "[I", true)
def tyX6 : Nat → FieldType := fun k => match k with
  | 0 => .int
  | 1 => .int
  | 2 => .int
  | 3 => .array .int
  | 4 => .array .int
  | 5 => .array .int
  | 6 => .array (.array .int)
  | 7 => .array .int
  | _ => .array .int
abbrev wsX60 : List Cond := u_ws RX6 TX6 9
theorem nmX6 : ∀ a, a < 9 → ∀ b, b < 9 → a ≠ b → (TX6 a).2.1 ≠ (TX6 b).2.1 := by decide +kernel
theorem tyX6_ok : ∀ k, k < 9 → parseFieldDescriptor (TX6 k).2.2.1 = some (tyX6 k) := by decide +kernel
abbrev cX6_init : ByteArray := prog_8_method_1_code
def yX6_init : MethodName := ⟨RX6, "<init>", "()V"⟩
abbrev cX6_build : ByteArray := prog_8_method_2_code
def yX6_build : MethodName := ⟨RX6, "build", "(I)V"⟩
abbrev cX6_fillFrom : ByteArray := prog_8_method_3_code
def yX6_fillFrom : MethodName := ⟨RX6, "fillFrom", "(I)V"⟩
abbrev cX6_canTakeNext : ByteArray := prog_8_method_4_code
def yX6_canTakeNext : MethodName := ⟨RX6, "canTakeNext", "(I)Z"⟩
abbrev cX6_keepFilling : ByteArray := prog_8_method_5_code
def yX6_keepFilling : MethodName := ⟨RX6, "keepFilling", "()V"⟩
abbrev cX6_lengthOf : ByteArray := prog_8_method_6_code
def yX6_lengthOf : MethodName := ⟨RX6, "lengthOf", "(I)I"⟩
abbrev cX6_hasCell : ByteArray := prog_8_method_7_code
def yX6_hasCell : MethodName := ⟨RX6, "hasCell", "(II)Z"⟩
abbrev cX6_hook : ByteArray := prog_8_method_8_code
def yX6_hook : MethodName := ⟨RX6, "hook", "(II)I"⟩
abbrev cX6_hooksMultiplied : ByteArray := prog_8_method_9_code
def yX6_hooksMultiplied : MethodName := ⟨RX6, "hooksMultiplied", "()I"⟩
abbrev cX6_rowIn : ByteArray := prog_8_method_10_code
def yX6_rowIn : MethodName := ⟨RX6, "rowIn", "(II)I"⟩
abbrev cX6_columnIn : ByteArray := prog_8_method_11_code
def yX6_columnIn : MethodName := ⟨RX6, "columnIn", "(II)I"⟩
abbrev cX6_distance : ByteArray := prog_8_method_12_code
def yX6_distance : MethodName := ⟨RX6, "distance", "(II)I"⟩
abbrev cX6_changed : ByteArray := prog_8_method_13_code
def yX6_changed : MethodName := ⟨RX6, "changed", "(II)I"⟩
abbrev cX6_isTakenTo : ByteArray := prog_8_method_14_code
def yX6_isTakenTo : MethodName := ⟨RX6, "isTakenTo", "(III)Z"⟩
abbrev cX6_copyFilling : ByteArray := prog_8_method_15_code
def yX6_copyFilling : MethodName := ⟨RX6, "copyFilling", "(II[I)V"⟩
abbrev cX6_isFilling : ByteArray := prog_8_method_16_code
def yX6_isFilling : MethodName := ⟨RX6, "isFilling", "([I)Z"⟩
abbrev cX6_isToldBy : ByteArray := prog_8_method_17_code
def yX6_isToldBy : MethodName := ⟨RX6, "isToldBy", "(I[I)Z"⟩
abbrev cX6_canLose : ByteArray := prog_8_method_18_code
def yX6_canLose : MethodName := ⟨RX6, "canLose", "(I)Z"⟩
abbrev cX6_branches : ByteArray := prog_8_method_19_code
def yX6_branches : MethodName := ⟨RX6, "branches", "()I"⟩
abbrev cX6_standardWithLastIn : ByteArray := prog_8_method_20_code
def yX6_standardWithLastIn : MethodName := ⟨RX6, "standardWithLastIn", "(I)I"⟩
def RX7 : String := "SwapTables$Shelf"
def TX7 : u_T := fun k => match k with
  | 0 => ("SwapTables$Shelf", "sort", "I", false)
  | 1 => ("SwapTables$Shelf", "size", "I", false)
  | _ => ("SwapTables$Shelf", "numbers", "[I", true)
def tyX7 : Nat → FieldType := fun k => match k with
  | 0 => .int
  | 1 => .int
  | _ => .array .int
abbrev wsX70 : List Cond := u_ws RX7 TX7 3
theorem nmX7 : ∀ a, a < 3 → ∀ b, b < 3 → a ≠ b → (TX7 a).2.1 ≠ (TX7 b).2.1 := by decide +kernel
theorem tyX7_ok : ∀ k, k < 3 → parseFieldDescriptor (TX7 k).2.2.1 = some (tyX7 k) := by decide +kernel
abbrev cX7_init : ByteArray := prog_9_method_1_code
def yX7_init : MethodName := ⟨RX7, "<init>", "()V"⟩
abbrev cX7_emptyOnes : ByteArray := prog_9_method_2_code
def yX7_emptyOnes : MethodName := ⟨RX7, "emptyOnes", "()[LSwapTables$Shelf;"⟩
abbrev cX7_hold : ByteArray := prog_9_method_3_code
def yX7_hold : MethodName := ⟨RX7, "hold", "(II)V"⟩
abbrev cX7_hasPlace : ByteArray := prog_9_method_4_code
def yX7_hasPlace : MethodName := ⟨RX7, "hasPlace", "(I)Z"⟩
abbrev cX7_copyAll : ByteArray := prog_9_method_5_code
def yX7_copyAll : MethodName := ⟨RX7, "copyAll", "([LSwapTables$Shelf;[LSwapTables$Shelf;)V"⟩
def RX8 : String := "SwapTables$Steps"
def TX8 : u_T := fun k => match k with
  | 0 => ("SwapTables$Steps", "size", "I", false)
  | 1 => ("SwapTables$Steps", "registers", "[I", true)
  | _ => ("SwapTables$Steps", "orders", "[I", true)
def tyX8 : Nat → FieldType := fun k => match k with
  | 0 => .int
  | 1 => .array .int
  | _ => .array .int
abbrev wsX80 : List Cond := u_ws RX8 TX8 3
theorem nmX8 : ∀ a, a < 3 → ∀ b, b < 3 → a ≠ b → (TX8 a).2.1 ≠ (TX8 b).2.1 := by decide +kernel
theorem tyX8_ok : ∀ k, k < 3 → parseFieldDescriptor (TX8 k).2.2.1 = some (tyX8 k) := by decide +kernel
abbrev cX8_init : ByteArray := prog_10_method_1_code
def yX8_init : MethodName := ⟨RX8, "<init>", "()V"⟩
abbrev cX8_keep : ByteArray := prog_10_method_2_code
def yX8_keep : MethodName := ⟨RX8, "keep", "(II)V"⟩
abbrev cX8_latestRegister : ByteArray := prog_10_method_3_code
def yX8_latestRegister : MethodName := ⟨RX8, "latestRegister", "()I"⟩
abbrev cX8_latestOrder : ByteArray := prog_10_method_4_code
def yX8_latestOrder : MethodName := ⟨RX8, "latestOrder", "()I"⟩
def RX9 : String := "SwapTables$Tape"
def TX9 : u_T := fun k => match k with
  | 0 => ("SwapTables$Tape", "size", "I", false)
  | _ => ("SwapTables$Tape", "bytes", "[B", true)
def tyX9 : Nat → FieldType := fun k => match k with
  | 0 => .int
  | _ => .array .byte
abbrev wsX90 : List Cond := u_ws RX9 TX9 2
theorem nmX9 : ∀ a, a < 2 → ∀ b, b < 2 → a ≠ b → (TX9 a).2.1 ≠ (TX9 b).2.1 := by decide +kernel
theorem tyX9_ok : ∀ k, k < 2 → parseFieldDescriptor (TX9 k).2.2.1 = some (tyX9 k) := by decide +kernel
abbrev cX9_init : ByteArray := prog_11_method_1_code
def yX9_init : MethodName := ⟨RX9, "<init>", "()V"⟩
def RX10 : String := "SwapTables$Troubles"
def TX10 : u_T := fun k => match k with
  | 0 => ("SwapTables$Troubles", "size", "I", false)
  | 1 => ("SwapTables$Troubles", "sorts", "[I", true)
  | _ => ("SwapTables$Troubles", "places", "[I", true)
def tyX10 : Nat → FieldType := fun k => match k with
  | 0 => .int
  | 1 => .array .int
  | _ => .array .int
abbrev wsX100 : List Cond := u_ws RX10 TX10 3
theorem nmX10 : ∀ a, a < 3 → ∀ b, b < 3 → a ≠ b → (TX10 a).2.1 ≠ (TX10 b).2.1 := by decide +kernel
theorem tyX10_ok : ∀ k, k < 3 → parseFieldDescriptor (TX10 k).2.2.1 = some (tyX10 k) := by decide +kernel
abbrev cX10_init : ByteArray := prog_12_method_1_code
def yX10_init : MethodName := ⟨RX10, "<init>", "()V"⟩
abbrev cX10_add : ByteArray := prog_12_method_2_code
def yX10_add : MethodName := ⟨RX10, "add", "(II)V"⟩
abbrev cX10_copyOf : ByteArray := prog_12_method_3_code
def yX10_copyOf : MethodName := ⟨RX10, "copyOf", "(LSwapTables$Troubles;)V"⟩
def RX11 : String := "SwapTables$WholeAxes"
def TX11 : u_T := fun k => match k with
  | 0 => ("SwapTables$WholeAxes", "shape", "LSwapTables$Shape;", true)
  | 1 => ("SwapTables$WholeAxes", "ofStandard", "[[I", true)
  | 2 => ("SwapTables$WholeAxes", "filling", "[I", true)
  | _ => ("SwapTables$WholeAxes", "made", "[I", true)
def tyX11 : Nat → FieldType := fun k => match k with
  | 0 => .object "SwapTables$Shape"
  | 1 => .array (.array .int)
  | 2 => .array .int
  | _ => .array .int
abbrev wsX110 : List Cond := u_ws RX11 TX11 4
theorem nmX11 : ∀ a, a < 4 → ∀ b, b < 4 → a ≠ b → (TX11 a).2.1 ≠ (TX11 b).2.1 := by decide +kernel
theorem tyX11_ok : ∀ k, k < 4 → parseFieldDescriptor (TX11 k).2.2.1 = some (tyX11 k) := by decide +kernel
abbrev cX11_init : ByteArray := prog_13_method_1_code
def yX11_init : MethodName := ⟨RX11, "<init>", "(LSwapTables$Shape;)V"⟩
abbrev cX11_build : ByteArray := prog_13_method_2_code
def yX11_build : MethodName := ⟨RX11, "build", "()V"⟩
abbrev cX11_numberAtTabloid : ByteArray := prog_13_method_3_code
def yX11_numberAtTabloid : MethodName := ⟨RX11, "numberAtTabloid", "(I)I"⟩
abbrev cX11_straighten : ByteArray := prog_13_method_4_code
def yX11_straighten : MethodName := ⟨RX11, "straighten", "()V"⟩
abbrev cX11_straightenTold : ByteArray := prog_13_method_5_code
def yX11_straightenTold : MethodName := ⟨RX11, "straightenTold", "([I)V"⟩
abbrev cX11_straightenTaken : ByteArray := prog_13_method_6_code
def yX11_straightenTaken : MethodName := ⟨RX11, "straightenTaken", "(II)V"⟩
abbrev cX11_trace : ByteArray := prog_13_method_7_code
def yX11_trace : MethodName := ⟨RX11, "trace", "(I)I"⟩
abbrev cX11_act : ByteArray := prog_13_method_8_code
def yX11_act : MethodName := ⟨RX11, "act", "([II[I)V"⟩
def RX12 : String := "SwapTables"
def TX12 : u_T := fun k => match k with
  | 0 => ("SwapTables", "shape", "LSwapTables$Shape;", true)
  | 1 => ("SwapTables", "wholeAxes", "LSwapTables$WholeAxes;", true)
  | 2 => ("SwapTables", "seminormalAxes", "LSwapTables$SeminormalAxes;", true)
  | 3 => ("SwapTables", "registers", "[I", true)
  | 4 => ("SwapTables", "shelves", "[LSwapTables$Shelf;", true)
  | 5 => ("SwapTables", "steps", "LSwapTables$Steps;", true)
  | 6 => ("SwapTables", "tape", "LSwapTables$Tape;", true)
  | 7 => ("SwapTables", "reader", "LSwapTables$Reader;", true)
  | 8 => ("SwapTables", "taken", "LSwapTables$Image;", true)
  | _ => ("SwapTables", "sums", "[I", true)
def tyX12 : Nat → FieldType := fun k => match k with
  | 0 => .object "SwapTables$Shape"
  | 1 => .object "SwapTables$WholeAxes"
  | 2 => .object "SwapTables$SeminormalAxes"
  | 3 => .array .int
  | 4 => .array (.object "SwapTables$Shelf")
  | 5 => .object "SwapTables$Steps"
  | 6 => .object "SwapTables$Tape"
  | 7 => .object "SwapTables$Reader"
  | 8 => .object "SwapTables$Image"
  | _ => .array .int
abbrev wsX120 : List Cond := u_ws RX12 TX12 10
theorem nmX12 : ∀ a, a < 10 → ∀ b, b < 10 → a ≠ b → (TX12 a).2.1 ≠ (TX12 b).2.1 := by decide +kernel
theorem tyX12_ok : ∀ k, k < 10 → parseFieldDescriptor (TX12 k).2.2.1 = some (tyX12 k) := by decide +kernel
abbrev cX12_init : ByteArray := prog_1_method_1_code
def yX12_init : MethodName := ⟨RX12, "<init>", "()V"⟩
abbrev cX12_shape : ByteArray := prog_1_method_2_code
def yX12_shape : MethodName := ⟨RX12, "shape", "(IIIII)I"⟩
abbrev cX12_of : ByteArray := prog_1_method_3_code
def yX12_of : MethodName := ⟨RX12, "of", "(I)I"⟩
abbrev cX12_cell : ByteArray := prog_1_method_4_code
def yX12_cell : MethodName := ⟨RX12, "cell", "(III)J"⟩
abbrev cX12_standard : ByteArray := prog_1_method_5_code
def yX12_standard : MethodName := ⟨RX12, "standard", "(III)I"⟩
abbrev cX12_which : ByteArray := prog_1_method_6_code
def yX12_which : MethodName := ⟨RX12, "which", "(I)I"⟩
abbrev cX12_swap : ByteArray := prog_1_method_7_code
def yX12_swap : MethodName := ⟨RX12, "swap", "(II)I"⟩
abbrev cX12_times : ByteArray := prog_1_method_8_code
def yX12_times : MethodName := ⟨RX12, "times", "(III)I"⟩
abbrev cX12_turn : ByteArray := prog_1_method_9_code
def yX12_turn : MethodName := ⟨RX12, "turn", "(I)I"⟩
abbrev cX12_takes : ByteArray := prog_1_method_10_code
def yX12_takes : MethodName := ⟨RX12, "takes", "(II)I"⟩
abbrev cX12_told : ByteArray := prog_1_method_11_code
def yX12_told : MethodName := ⟨RX12, "told", "(II)J"⟩
abbrev cX12_word : ByteArray := prog_1_method_12_code
def yX12_word : MethodName := ⟨RX12, "word", "(II)I"⟩
abbrev cX12_partition : ByteArray := prog_1_method_13_code
def yX12_partition : MethodName := ⟨RX12, "partition", "(II)I"⟩
abbrev cX12_straight : ByteArray := prog_1_method_14_code
def yX12_straight : MethodName := ⟨RX12, "straight", "(II)J"⟩
abbrev cX12_whole : ByteArray := prog_1_method_15_code
def yX12_whole : MethodName := ⟨RX12, "whole", "(III)J"⟩
abbrev cX12_fraction : ByteArray := prog_1_method_16_code
def yX12_fraction : MethodName := ⟨RX12, "fraction", "(IIII)J"⟩
abbrev cX12_norm : ByteArray := prog_1_method_17_code
def yX12_norm : MethodName := ⟨RX12, "norm", "(II)J"⟩
abbrev cX12_character : ByteArray := prog_1_method_18_code
def yX12_character : MethodName := ⟨RX12, "character", "(I)J"⟩
abbrev cX12_characterOf : ByteArray := prog_1_method_19_code
def yX12_characterOf : MethodName := ⟨RX12, "characterOf", "(I)J"⟩
abbrev cX12_branch : ByteArray := prog_1_method_20_code
def yX12_branch : MethodName := ⟨RX12, "branch", "(I)I"⟩
abbrev cX12_vector : ByteArray := prog_1_method_21_code
def yX12_vector : MethodName := ⟨RX12, "vector", "(II)I"⟩
abbrev cX12_give : ByteArray := prog_1_method_22_code
def yX12_give : MethodName := ⟨RX12, "give", "(III)J"⟩
abbrev cX12_has : ByteArray := prog_1_method_23_code
def yX12_has : MethodName := ⟨RX12, "has", "(II)J"⟩
abbrev cX12_acts : ByteArray := prog_1_method_24_code
def yX12_acts : MethodName := ⟨RX12, "acts", "(II)I"⟩
abbrev cX12_inner : ByteArray := prog_1_method_25_code
def yX12_inner : MethodName := ⟨RX12, "inner", "(III)J"⟩
abbrev cX12_row : ByteArray := prog_1_method_26_code
def yX12_row : MethodName := ⟨RX12, "row", "(II)I"⟩
abbrev cX12_put : ByteArray := prog_1_method_27_code
def yX12_put : MethodName := ⟨RX12, "put", "(III)I"⟩
abbrev cX12_get : ByteArray := prog_1_method_28_code
def yX12_get : MethodName := ⟨RX12, "get", "(II)J"⟩
abbrev cX12_film : ByteArray := prog_1_method_29_code
def yX12_film : MethodName := ⟨RX12, "film", "(II)I"⟩
abbrev cX12_judge : ByteArray := prog_1_method_30_code
def yX12_judge : MethodName := ⟨RX12, "judge", "(I)I"⟩
abbrev cX12_back : ByteArray := prog_1_method_31_code
def yX12_back : MethodName := ⟨RX12, "back", "()I"⟩
abbrev cX12_feed : ByteArray := prog_1_method_32_code
def yX12_feed : MethodName := ⟨RX12, "feed", "(I)I"⟩
abbrev cX12_wipe : ByteArray := prog_1_method_33_code
def yX12_wipe : MethodName := ⟨RX12, "wipe", "()I"⟩
abbrev cX12_read : ByteArray := prog_1_method_34_code
def yX12_read : MethodName := ⟨RX12, "read", "(I)I"⟩
abbrev cX12_why : ByteArray := prog_1_method_35_code
def yX12_why : MethodName := ⟨RX12, "why", "(II)I"⟩
abbrev cX12_image : ByteArray := prog_1_method_36_code
def yX12_image : MethodName := ⟨RX12, "image", "()I"⟩
abbrev cX12_restore : ByteArray := prog_1_method_37_code
def yX12_restore : MethodName := ⟨RX12, "restore", "()I"⟩
abbrev cX12_count : ByteArray := prog_1_method_38_code
def yX12_count : MethodName := ⟨RX12, "count", "(I)I"⟩
abbrev cX12_become : ByteArray := prog_1_method_39_code
def yX12_become : MethodName := ⟨RX12, "become", "(I)V"⟩
abbrev cX12_makeOtherwise : ByteArray := prog_1_method_40_code
def yX12_makeOtherwise : MethodName := ⟨RX12, "makeOtherwise", "(II)I"⟩
abbrev cX12_shelvesInUse : ByteArray := prog_1_method_41_code
def yX12_shelvesInUse : MethodName := ⟨RX12, "shelvesInUse", "()I"⟩
abbrev cX12_lengthsTogether : ByteArray := prog_1_method_42_code
def yX12_lengthsTogether : MethodName := ⟨RX12, "lengthsTogether", "()I"⟩
abbrev cX12_refusalOf : ByteArray := prog_1_method_43_code
def yX12_refusalOf : MethodName := ⟨RX12, "refusalOf", "(II)I"⟩
abbrev cX12_isInVector : ByteArray := prog_1_method_44_code
def yX12_isInVector : MethodName := ⟨RX12, "isInVector", "(II)Z"⟩
abbrev cX12_isStandard : ByteArray := prog_1_method_45_code
def yX12_isStandard : MethodName := ⟨RX12, "isStandard", "(I)Z"⟩
abbrev cX12_isNumber : ByteArray := prog_1_method_46_code
def yX12_isNumber : MethodName := ⟨RX12, "isNumber", "(I)Z"⟩
abbrev cX12_isSwap : ByteArray := prog_1_method_47_code
def yX12_isSwap : MethodName := ⟨RX12, "isSwap", "(I)Z"⟩
abbrev cX12_isPartition : ByteArray := prog_1_method_48_code
def yX12_isPartition : MethodName := ⟨RX12, "isPartition", "(I)Z"⟩
abbrev cX12_isRegister : ByteArray := prog_1_method_49_code
def yX12_isRegister : MethodName := ⟨RX12, "isRegister", "(I)Z"⟩
abbrev cX12_isShelf : ByteArray := prog_1_method_50_code
def yX12_isShelf : MethodName := ⟨RX12, "isShelf", "(I)Z"⟩
abbrev cX12_isPart : ByteArray := prog_1_method_51_code
def yX12_isPart : MethodName := ⟨RX12, "isPart", "(I)Z"⟩
abbrev cX12_isBeyond : ByteArray := prog_1_method_52_code
def yX12_isBeyond : MethodName := ⟨RX12, "isBeyond", "(I)Z"⟩
def RX13 : String := "SwapTablesModel"
def TX13 : u_T := fun k => match k with
  | 0 => ("SwapTablesModel", "lengths", "[I", true)
  | 1 => ("SwapTablesModel", "n", "I", false)
  | 2 => ("SwapTablesModel", "cellRow", "[I", true)
  | 3 => ("SwapTablesModel", "cellColumn", "[I", true)
  | 4 => ("SwapTablesModel", "many", "I", false)
  | 5 => ("SwapTablesModel", "standRow", "[I", true)
  | 6 => ("SwapTablesModel", "standColumn", "[I", true)
  | 7 => ("SwapTablesModel", "orders", "[I", true)
  | 8 => ("SwapTablesModel", "shelfIs", "[I", true)
  | 9 => ("SwapTablesModel", "sizes", "[I", true)
  | 10 => ("SwapTablesModel", "items", "[I", true)
  | 11 => ("SwapTablesModel", "filled", "[I", true)
  | 12 => ("SwapTablesModel", "parts", "[I", true)
  | 13 => ("SwapTablesModel", "partRow", "[I", true)
  | 14 => ("SwapTablesModel", "partMany", "I", false)
  | 15 => ("SwapTablesModel", "one", "[I", true)
  | 16 => ("SwapTablesModel", "made", "[I", true)
  | 17 => ("SwapTablesModel", "steps", "I", false)
  | 18 => ("SwapTablesModel", "stepRow", "[I", true)
  | 19 => ("SwapTablesModel", "isSeen", "[Z", true)
  | 20 => ("SwapTablesModel", "sorted", "[I", true)
  | 21 => ("SwapTablesModel", "word", "[I", true)
  | 22 => ("SwapTablesModel", "wordMany", "I", false)
  | 23 => ("SwapTablesModel", "left", "[I", true)
  | 24 => ("SwapTablesModel", "numbers", "[I", true)
  | 25 => ("SwapTablesModel", "fillRow", "[I", true)
  | 26 => ("SwapTablesModel", "fillColumn", "[I", true)
  | 27 => ("SwapTablesModel", "tried", "[I", true)
  | 28 => ("SwapTablesModel", "often", "I", false)
  | 29 => ("SwapTablesModel", "straight", "[I", true)
  | 30 => ("SwapTablesModel", "isDone", "[Z", true)
  | 31 => ("SwapTablesModel", "above", "[J", true)
  | 32 => ("SwapTablesModel", "below", "[J", true)
  | 33 => ("SwapTablesModel", "nextAbove", "[J", true)
  | 34 => ("SwapTablesModel", "nextBelow", "[J", true)
  | 35 => ("SwapTablesModel", "a0", "J", false)
  | 36 => ("SwapTablesModel", "b0", "J", false)
  | 37 => ("SwapTablesModel", "normAbove", "[J", true)
  | 38 => ("SwapTablesModel", "normBelow", "[J", true)
  | 39 => ("SwapTablesModel", "sums", "[J", true)
  | 40 => ("SwapTablesModel", "tape", "[I", true)
  | 41 => ("SwapTablesModel", "taped", "I", false)
  | 42 => ("SwapTablesModel", "at", "I", false)
  | 43 => ("SwapTablesModel", "openSort", "[I", true)
  | 44 => ("SwapTablesModel", "openPlace", "[I", true)
  | 45 => ("SwapTablesModel", "openMany", "I", false)
  | 46 => ("SwapTablesModel", "brackets", "I", false)
  | 47 => ("SwapTablesModel", "whySort", "[I", true)
  | 48 => ("SwapTablesModel", "whyPlace", "[I", true)
  | 49 => ("SwapTablesModel", "whyMany", "I", false)
  | 50 => ("SwapTablesModel", "works", "Z", false)
  | 51 => ("SwapTablesModel", "waiting", "[I", true)
  | 52 => ("SwapTablesModel", "part", "[I", true)
  | 53 => ("SwapTablesModel", "hasImage", "Z", false)
  | 54 => ("SwapTablesModel", "imageLengths", "[I", true)
  | 55 => ("SwapTablesModel", "imageOrders", "[I", true)
  | 56 => ("SwapTablesModel", "imageIs", "[I", true)
  | 57 => ("SwapTablesModel", "imageSizes", "[I", true)
  | _ => ("SwapTablesModel", "imageItems", "[I", true)
def tyX13 : Nat → FieldType := fun k => match k with
  | 0 => .array .int
  | 1 => .int
  | 2 => .array .int
  | 3 => .array .int
  | 4 => .int
  | 5 => .array .int
  | 6 => .array .int
  | 7 => .array .int
  | 8 => .array .int
  | 9 => .array .int
  | 10 => .array .int
  | 11 => .array .int
  | 12 => .array .int
  | 13 => .array .int
  | 14 => .int
  | 15 => .array .int
  | 16 => .array .int
  | 17 => .int
  | 18 => .array .int
  | 19 => .array .boolean
  | 20 => .array .int
  | 21 => .array .int
  | 22 => .int
  | 23 => .array .int
  | 24 => .array .int
  | 25 => .array .int
  | 26 => .array .int
  | 27 => .array .int
  | 28 => .int
  | 29 => .array .int
  | 30 => .array .boolean
  | 31 => .array .long
  | 32 => .array .long
  | 33 => .array .long
  | 34 => .array .long
  | 35 => .long
  | 36 => .long
  | 37 => .array .long
  | 38 => .array .long
  | 39 => .array .long
  | 40 => .array .int
  | 41 => .int
  | 42 => .int
  | 43 => .array .int
  | 44 => .array .int
  | 45 => .int
  | 46 => .int
  | 47 => .array .int
  | 48 => .array .int
  | 49 => .int
  | 50 => .boolean
  | 51 => .array .int
  | 52 => .array .int
  | 53 => .boolean
  | 54 => .array .int
  | 55 => .array .int
  | 56 => .array .int
  | 57 => .array .int
  | _ => .array .int
abbrev wsX130 : List Cond := u_ws RX13 TX13 59
theorem nmX13 : ∀ a, a < 59 → ∀ b, b < 59 → a ≠ b → (TX13 a).2.1 ≠ (TX13 b).2.1 := by decide +kernel
theorem tyX13_ok : ∀ k, k < 59 → parseFieldDescriptor (TX13 k).2.2.1 = some (tyX13 k) := by decide +kernel
abbrev cX13_init : ByteArray := prog_15_method_1_code
def yX13_init : MethodName := ⟨RX13, "<init>", "()V"⟩
abbrev cX13_in : ByteArray := prog_15_method_2_code
def yX13_in : MethodName := ⟨RX13, "in", "(JJJ)Z"⟩
abbrev cX13_stands : ByteArray := prog_15_method_3_code
def yX13_stands : MethodName := ⟨RX13, "stands", "(I)V"⟩
abbrev cX13_tellsShape : ByteArray := prog_15_method_4_code
def yX13_tellsShape : MethodName := ⟨RX13, "tellsShape", "()V"⟩
abbrev cX13_begins : ByteArray := prog_15_method_5_code
def yX13_begins : MethodName := ⟨RX13, "begins", "([II)V"⟩
abbrev cX13_shape : ByteArray := prog_15_method_6_code
def yX13_shape : MethodName := ⟨RX13, "shape", "(IIIII)I"⟩
abbrev cX13_hookOf : ByteArray := prog_15_method_7_code
def yX13_hookOf : MethodName := ⟨RX13, "hookOf", "(II)I"⟩
abbrev cX13_rows : ByteArray := prog_15_method_8_code
def yX13_rows : MethodName := ⟨RX13, "rows", "()I"⟩
abbrev cX13_of : ByteArray := prog_15_method_9_code
def yX13_of : MethodName := ⟨RX13, "of", "(I)I"⟩
abbrev cX13_cell : ByteArray := prog_15_method_10_code
def yX13_cell : MethodName := ⟨RX13, "cell", "(III)J"⟩
abbrev cX13_isStandard : ByteArray := prog_15_method_11_code
def yX13_isStandard : MethodName := ⟨RX13, "isStandard", "(I)Z"⟩
abbrev cX13_standard : ByteArray := prog_15_method_12_code
def yX13_standard : MethodName := ⟨RX13, "standard", "(III)I"⟩
abbrev cX13_splits : ByteArray := prog_15_method_13_code
def yX13_splits : MethodName := ⟨RX13, "splits", "(III)V"⟩
abbrev cX13_tellsPartitions : ByteArray := prog_15_method_14_code
def yX13_tellsPartitions : MethodName := ⟨RX13, "tellsPartitions", "()V"⟩
abbrev cX13_partitionOf : ByteArray := prog_15_method_15_code
def yX13_partitionOf : MethodName := ⟨RX13, "partitionOf", "([I)I"⟩
abbrev cX13_partition : ByteArray := prog_15_method_16_code
def yX13_partition : MethodName := ⟨RX13, "partition", "(II)I"⟩
abbrev cX13_isRegister : ByteArray := prog_15_method_17_code
def yX13_isRegister : MethodName := ⟨RX13, "isRegister", "(I)Z"⟩
abbrev cX13_takesOut : ByteArray := prog_15_method_18_code
def yX13_takesOut : MethodName := ⟨RX13, "takesOut", "(I)V"⟩
abbrev cX13_lengthOf : ByteArray := prog_15_method_19_code
def yX13_lengthOf : MethodName := ⟨RX13, "lengthOf", "([I)I"⟩
abbrev cX13_isSwap : ByteArray := prog_15_method_20_code
def yX13_isSwap : MethodName := ⟨RX13, "isSwap", "(I)Z"⟩
abbrev cX13_changes : ByteArray := prog_15_method_21_code
def yX13_changes : MethodName := ⟨RX13, "changes", "([III)V"⟩
abbrev cX13_becomes : ByteArray := prog_15_method_22_code
def yX13_becomes : MethodName := ⟨RX13, "becomes", "(I)I"⟩
abbrev cX13_swap : ByteArray := prog_15_method_23_code
def yX13_swap : MethodName := ⟨RX13, "swap", "(II)I"⟩
abbrev cX13_times : ByteArray := prog_15_method_24_code
def yX13_times : MethodName := ⟨RX13, "times", "(III)I"⟩
abbrev cX13_turn : ByteArray := prog_15_method_25_code
def yX13_turn : MethodName := ⟨RX13, "turn", "(I)I"⟩
abbrev cX13_back : ByteArray := prog_15_method_26_code
def yX13_back : MethodName := ⟨RX13, "back", "()I"⟩
abbrev cX13_takes : ByteArray := prog_15_method_27_code
def yX13_takes : MethodName := ⟨RX13, "takes", "(II)I"⟩
abbrev cX13_typeOf : ByteArray := prog_15_method_28_code
def yX13_typeOf : MethodName := ⟨RX13, "typeOf", "([I)I"⟩
abbrev cX13_told : ByteArray := prog_15_method_29_code
def yX13_told : MethodName := ⟨RX13, "told", "(II)J"⟩
abbrev cX13_placeOf : ByteArray := prog_15_method_30_code
def yX13_placeOf : MethodName := ⟨RX13, "placeOf", "([II)I"⟩
abbrev cX13_tellsWord : ByteArray := prog_15_method_31_code
def yX13_tellsWord : MethodName := ⟨RX13, "tellsWord", "([I)V"⟩
abbrev cX13_word : ByteArray := prog_15_method_32_code
def yX13_word : MethodName := ⟨RX13, "word", "(II)I"⟩
abbrev cX13_codeOf : ByteArray := prog_15_method_33_code
def yX13_codeOf : MethodName := ⟨RX13, "codeOf", "()I"⟩
abbrev cX13_adds : ByteArray := prog_15_method_34_code
def yX13_adds : MethodName := ⟨RX13, "adds", "(I)V"⟩
abbrev cX13_tellsStandard : ByteArray := prog_15_method_35_code
def yX13_tellsStandard : MethodName := ⟨RX13, "tellsStandard", "(I)V"⟩
abbrev cX13_isHigher : ByteArray := prog_15_method_36_code
def yX13_isHigher : MethodName := ⟨RX13, "isHigher", "(II)Z"⟩
abbrev cX13_standCode : ByteArray := prog_15_method_37_code
def yX13_standCode : MethodName := ⟨RX13, "standCode", "(I)I"⟩
abbrev cX13_straightens : ByteArray := prog_15_method_38_code
def yX13_straightens : MethodName := ⟨RX13, "straightens", "()V"⟩
abbrev cX13_tellsWhole : ByteArray := prog_15_method_39_code
def yX13_tellsWhole : MethodName := ⟨RX13, "tellsWhole", "([II)V"⟩
abbrev cX13_isShelf : ByteArray := prog_15_method_40_code
def yX13_isShelf : MethodName := ⟨RX13, "isShelf", "(I)Z"⟩
abbrev cX13_isFilling : ByteArray := prog_15_method_41_code
def yX13_isFilling : MethodName := ⟨RX13, "isFilling", "(I)Z"⟩
abbrev cX13_which : ByteArray := prog_15_method_42_code
def yX13_which : MethodName := ⟨RX13, "which", "(I)I"⟩
abbrev cX13_straight : ByteArray := prog_15_method_43_code
def yX13_straight : MethodName := ⟨RX13, "straight", "(II)J"⟩
abbrev cX13_whole : ByteArray := prog_15_method_44_code
def yX13_whole : MethodName := ⟨RX13, "whole", "(III)J"⟩
abbrev cX13_trace : ByteArray := prog_15_method_45_code
def yX13_trace : MethodName := ⟨RX13, "trace", "([I)J"⟩
abbrev cX13_character : ByteArray := prog_15_method_46_code
def yX13_character : MethodName := ⟨RX13, "character", "(I)J"⟩
abbrev cX13_characterOf : ByteArray := prog_15_method_47_code
def yX13_characterOf : MethodName := ⟨RX13, "characterOf", "(I)J"⟩
abbrev cX13_common : ByteArray := prog_15_method_48_code
def yX13_common : MethodName := ⟨RX13, "common", "(JJ)J"⟩
abbrev cX13_lowers : ByteArray := prog_15_method_49_code
def yX13_lowers : MethodName := ⟨RX13, "lowers", "()V"⟩
abbrev cX13_addsTo : ByteArray := prog_15_method_50_code
def yX13_addsTo : MethodName := ⟨RX13, "addsTo", "(JJ)V"⟩
abbrev cX13_contentOf : ByteArray := prog_15_method_51_code
def yX13_contentOf : MethodName := ⟨RX13, "contentOf", "(II)I"⟩
abbrev cX13_changed : ByteArray := prog_15_method_52_code
def yX13_changed : MethodName := ⟨RX13, "changed", "(II)I"⟩
abbrev cX13_tellsSwap : ByteArray := prog_15_method_53_code
def yX13_tellsSwap : MethodName := ⟨RX13, "tellsSwap", "(III)V"⟩
abbrev cX13_tellsFractions : ByteArray := prog_15_method_54_code
def yX13_tellsFractions : MethodName := ⟨RX13, "tellsFractions", "([I)V"⟩
abbrev cX13_sums : ByteArray := prog_15_method_55_code
def yX13_sums : MethodName := ⟨RX13, "sums", "(III)V"⟩
abbrev cX13_isPart : ByteArray := prog_15_method_56_code
def yX13_isPart : MethodName := ⟨RX13, "isPart", "(I)Z"⟩
abbrev cX13_fraction : ByteArray := prog_15_method_57_code
def yX13_fraction : MethodName := ⟨RX13, "fraction", "(IIII)J"⟩
abbrev cX13_tellsNorms : ByteArray := prog_15_method_58_code
def yX13_tellsNorms : MethodName := ⟨RX13, "tellsNorms", "()V"⟩
abbrev cX13_norm : ByteArray := prog_15_method_59_code
def yX13_norm : MethodName := ⟨RX13, "norm", "(II)J"⟩
abbrev cX13_canLose : ByteArray := prog_15_method_60_code
def yX13_canLose : MethodName := ⟨RX13, "canLose", "(I)Z"⟩
abbrev cX13_branch : ByteArray := prog_15_method_61_code
def yX13_branch : MethodName := ⟨RX13, "branch", "(I)I"⟩
abbrev cX13_vector : ByteArray := prog_15_method_62_code
def yX13_vector : MethodName := ⟨RX13, "vector", "(II)I"⟩
abbrev cX13_isNumber : ByteArray := prog_15_method_63_code
def yX13_isNumber : MethodName := ⟨RX13, "isNumber", "(II)Z"⟩
abbrev cX13_give : ByteArray := prog_15_method_64_code
def yX13_give : MethodName := ⟨RX13, "give", "(III)J"⟩
abbrev cX13_has : ByteArray := prog_15_method_65_code
def yX13_has : MethodName := ⟨RX13, "has", "(II)J"⟩
abbrev cX13_acts : ByteArray := prog_15_method_66_code
def yX13_acts : MethodName := ⟨RX13, "acts", "(II)I"⟩
abbrev cX13_inner : ByteArray := prog_15_method_67_code
def yX13_inner : MethodName := ⟨RX13, "inner", "(III)J"⟩
abbrev cX13_row : ByteArray := prog_15_method_68_code
def yX13_row : MethodName := ⟨RX13, "row", "(II)I"⟩
abbrev cX13_put : ByteArray := prog_15_method_69_code
def yX13_put : MethodName := ⟨RX13, "put", "(III)I"⟩
abbrev cX13_get : ByteArray := prog_15_method_70_code
def yX13_get : MethodName := ⟨RX13, "get", "(II)J"⟩
abbrev cX13_film : ByteArray := prog_15_method_71_code
def yX13_film : MethodName := ⟨RX13, "film", "(II)I"⟩
abbrev cX13_judge : ByteArray := prog_15_method_72_code
def yX13_judge : MethodName := ⟨RX13, "judge", "(I)I"⟩
abbrev cX13_feed : ByteArray := prog_15_method_73_code
def yX13_feed : MethodName := ⟨RX13, "feed", "(I)I"⟩
abbrev cX13_wipe : ByteArray := prog_15_method_74_code
def yX13_wipe : MethodName := ⟨RX13, "wipe", "()I"⟩
abbrev cX13_here : ByteArray := prog_15_method_75_code
def yX13_here : MethodName := ⟨RX13, "here", "()I"⟩
abbrev cX13_opens : ByteArray := prog_15_method_76_code
def yX13_opens : MethodName := ⟨RX13, "opens", "(II)V"⟩
abbrev cX13_fails : ByteArray := prog_15_method_77_code
def yX13_fails : MethodName := ⟨RX13, "fails", "(II)Z"⟩
abbrev cX13_isFigure : ByteArray := prog_15_method_78_code
def yX13_isFigure : MethodName := ⟨RX13, "isFigure", "()Z"⟩
abbrev cX13_readsCycle : ByteArray := prog_15_method_79_code
def yX13_readsCycle : MethodName := ⟨RX13, "readsCycle", "()Z"⟩
abbrev cX13_readsPart : ByteArray := prog_15_method_80_code
def yX13_readsPart : MethodName := ⟨RX13, "readsPart", "(I)Z"⟩
abbrev cX13_turnsPart : ByteArray := prog_15_method_81_code
def yX13_turnsPart : MethodName := ⟨RX13, "turnsPart", "()V"⟩
abbrev cX13_readsText : ByteArray := prog_15_method_82_code
def yX13_readsText : MethodName := ⟨RX13, "readsText", "(I)Z"⟩
abbrev cX13_readsAll : ByteArray := prog_15_method_83_code
def yX13_readsAll : MethodName := ⟨RX13, "readsAll", "(Z)Z"⟩
abbrev cX13_read : ByteArray := prog_15_method_84_code
def yX13_read : MethodName := ⟨RX13, "read", "(I)I"⟩
abbrev cX13_why : ByteArray := prog_15_method_85_code
def yX13_why : MethodName := ⟨RX13, "why", "(II)I"⟩
abbrev cX13_lays : ByteArray := prog_15_method_86_code
def yX13_lays : MethodName := ⟨RX13, "lays", "([I[I)V"⟩
abbrev cX13_image : ByteArray := prog_15_method_87_code
def yX13_image : MethodName := ⟨RX13, "image", "()I"⟩
abbrev cX13_restore : ByteArray := prog_15_method_88_code
def yX13_restore : MethodName := ⟨RX13, "restore", "()I"⟩
abbrev cX13_held : ByteArray := prog_15_method_89_code
def yX13_held : MethodName := ⟨RX13, "held", "()I"⟩
abbrev cX13_lengthsAll : ByteArray := prog_15_method_90_code
def yX13_lengthsAll : MethodName := ⟨RX13, "lengthsAll", "()I"⟩
abbrev cX13_count : ByteArray := prog_15_method_91_code
def yX13_count : MethodName := ⟨RX13, "count", "(I)I"⟩
def RJ6 : String := "java/lang/Integer"
abbrev cJ6_bitCount_0f7a4 : ByteArray := prog_16_method_49_code
def yJ6_bitCount_0f7a4 : MethodName := ⟨RJ6, "bitCount", "(I)I"⟩
abbrev cJ6_signum_0f7a4 : ByteArray := prog_16_method_56_code
def yJ6_signum_0f7a4 : MethodName := ⟨RJ6, "signum", "(I)I"⟩
def RJ13 : String := "java/lang/Long"
abbrev cJ13_signum_95d88 : ByteArray := prog_17_method_57_code
def yJ13_signum_95d88 : MethodName := ⟨RJ13, "signum", "(J)I"⟩
def RJ9 : String := "java/lang/Math"
abbrev cJ9_abs_067f4 : ByteArray := prog_18_method_61_code
def yJ9_abs_067f4 : MethodName := ⟨RJ9, "abs", "(J)J"⟩
def RJ10 : String := "java/lang/System"
def RL : String := "SwapTablesLaw"
abbrev cL_law : ByteArray := code
def yL_law : MethodName := ⟨RL, "law", "([I)Z"⟩
abbrev vwCl : List vw_C := [(RX0, TX0, 2), (RX1, TX1, 3), (RX4, TX4, 12), (RX5, TX5, 4), (RX6, TX6, 9), (RX7, TX7, 3), (RX8, TX8, 3), (RX9, TX9, 2), (RX10, TX10, 3), (RX11, TX11, 4), (RX12, TX12, 10), (RX13, TX13, 59)]
end
section
/-! 03: expressions of the symbolic executor: constants, variables, operations; their meaning; folding of constants -/
abbrev sX : Type := Lean.Grind.CommRing.Expr
abbrev sE : Type := (Nat → Int32) × (Nat → Int64)
def sB (o : Nat) (a b : Int32 × Int64) : Int32 × Int64 := match o with
  | 0 => (a.1 + b.1, 0)
  | 1 => (a.1 - b.1, 0)
  | 2 => (a.1 * b.1, 0)
  | 3 => (a.1 &&& b.1, 0)
  | 4 => (a.1 ||| b.1, 0)
  | 5 => (a.1 ^^^ b.1, 0)
  | 6 => (a.1 <<< (b.1 &&& 31), 0)
  | 7 => (a.1 >>> (b.1 &&& 31), 0)
  | 8 => ((a.1.toUInt32 >>> (b.1.toUInt32 &&& Int32.toUInt32 31)).toInt32, 0)
  | 9 => (a.1 - a.1 / b.1 * b.1, 0)
  | 10 => (lg_cmp a.2 b.2, 0)
  | 20 => (0, a.2 + b.2)
  | 21 => (0, a.2 - b.2)
  | 22 => (0, a.2 * b.2)
  | 24 => (0, a.2 ||| b.2)
  | 27 => (0, a.2 >>> (b.1.toInt64 &&& 63))
  | 28 => (0, (a.2.toUInt64 >>> (b.1.toInt64.toUInt64 &&& Int64.toUInt64 63)).toInt64)
  | 29 => (0, a.2 / b.2)
  | 30 => (0, a.2 - a.2 / b.2 * b.2)
  | _ => (0, 0)
def sU (o : Nat) (a : Int32 × Int64) : Int32 × Int64 := match o with
  | 0 => (-a.1, 0)
  | 1 => (a.1.toInt8.toInt32, 0)
  | 2 => (vp_nar .byte a.1, 0)
  | 3 => (vp_nar .boolean a.1, 0)
  | 4 => (a.2.toInt32, 0)
  | 20 => (0, -a.2)
  | 21 => (0, a.1.toInt64)
  | 22 => (0, if 0 < a.2 then a.2 else -a.2)
  | _ => (0, 0)
def sD (r : sE) : sX → Int32 × Int64
  | .natCast k => (Int32.ofNat k, Int64.ofNat k)
  | .var i => (r.1 i, r.2 i)
  | .pow (.mul x y) o => sB o (sD r x) (sD r y)
  | .pow (.neg x) o => sU o (sD r x)
  | _ => (0, 0)
theorem sD_c (r : sE) (k : Nat) : sD r (.natCast k) = (Int32.ofNat k, Int64.ofNat k) := by rw [sD]
theorem sD_v (r : sE) (i : Nat) : sD r (.var i) = (r.1 i, r.2 i) := by rw [sD]
theorem sD_b (r : sE) (x y : sX) (o : Nat) : sD r (.pow (.mul x y) o) = sB o (sD r x) (sD r y) := by rw [sD]
theorem sD_u (r : sE) (x : sX) (o : Nat) : sD r (.pow (.neg x) o) = sU o (sD r x) := by rw [sD]
abbrev sI (r : sE) (x : sX) : Int32 := (sD r x).1
abbrev sJ (r : sE) (x : sX) : Int64 := (sD r x).2
-- folding
def fN (x : Int32) : Nat := x.toUInt32.toNat
def gN (x : Int64) : Nat := x.toUInt64.toNat
theorem fN_ok (x : Int32) : Int32.ofNat (fN x) = x := by
  unfold fN
  rw [← Int32.toBitVec_inj]
  simp
theorem gN_ok (x : Int64) : Int64.ofNat (gN x) = x := by
  unfold gN
  rw [← Int64.toBitVec_inj]
  simp
def fAdd (a b : Nat) : Nat := Nat.mod (Nat.add a b) (nat_lit 4294967296)
def fSub (a b : Nat) : Nat := Nat.mod (Nat.add a (Nat.sub (nat_lit 4294967296) (Nat.mod b (nat_lit 4294967296)))) (nat_lit 4294967296)
def fMul (a b : Nat) : Nat := Nat.mod (Nat.mul a b) (nat_lit 4294967296)
def fAnd (a b : Nat) : Nat := Nat.land a b
def fOr (a b : Nat) : Nat := Nat.lor a b
def fLt (a b : Nat) : Bool := Nat.ble (Nat.succ (Nat.mod (Nat.add a (nat_lit 2147483648)) (nat_lit 4294967296))) (Nat.mod (Nat.add b (nat_lit 2147483648)) (nat_lit 4294967296))
def fEq (a b : Nat) : Bool := Nat.beq (Nat.mod a (nat_lit 4294967296)) (Nat.mod b (nat_lit 4294967296))
theorem f_mod (a : Nat) : Int32.ofNat (a % 4294967296) = Int32.ofNat a := by
  rw [← Int32.toBitVec_inj]
  simp [BitVec.toNat_inj.symm]
theorem fAdd_ok (a b : Nat) : Int32.ofNat (fAdd a b) = Int32.ofNat a + Int32.ofNat b := by
  show Int32.ofNat ((a + b) % 4294967296) = _
  rw [f_mod, Int32.ofNat_add]
theorem fMul_ok (a b : Nat) : Int32.ofNat (fMul a b) = Int32.ofNat a * Int32.ofNat b := by
  show Int32.ofNat ((a * b) % 4294967296) = _
  rw [f_mod, Int32.ofNat_mul]
theorem fSub_ok (a b : Nat) : Int32.ofNat (fSub a b) = Int32.ofNat a - Int32.ofNat b := by
  show Int32.ofNat ((a + (4294967296 - b % 4294967296)) % 4294967296) = _
  rw [f_mod, ← Int32.toInt_inj]
  simp only [Int32.toInt_sub, Int32.toInt_ofNat']
  have h : (((a + (4294967296 - b % 4294967296) : Nat)) : Int) = (a : Int) - (b : Int) + 4294967296 * (1 + (b : Int) / 4294967296) := by omega
  rw [h]
  simp only [Int.bmod_def, show (Int32.size : Int) = 4294967296 from rfl, show ((Int32.size : Nat) : Int) = 4294967296 from rfl]
  omega
theorem fAnd_ok (a b : Nat) : Int32.ofNat (fAnd a b) = Int32.ofNat a &&& Int32.ofNat b := by
  unfold fAnd
  rw [← Int32.toBitVec_inj]
  show BitVec.ofNat 32 (a &&& b) = BitVec.ofNat 32 a &&& BitVec.ofNat 32 b
  exact BitVec.ofNat_and
theorem fOr_ok (a b : Nat) : Int32.ofNat (fOr a b) = Int32.ofNat a ||| Int32.ofNat b := by
  unfold fOr
  rw [← Int32.toBitVec_inj]
  show BitVec.ofNat 32 (a ||| b) = BitVec.ofNat 32 a ||| BitVec.ofNat 32 b
  exact BitVec.ofNat_or
theorem fLt_ok (a b : Nat) : fLt a b = true ↔ Int32.ofNat a < Int32.ofNat b := by
  show Nat.ble ((a + 2147483648) % 4294967296 + 1) ((b + 2147483648) % 4294967296) = true ↔ _
  rw [Int32.lt_iff_toInt_lt]
  simp only [Int32.toInt_ofNat', Nat.ble_eq, Int.bmod_def, show ((Int32.size : Nat) : Int) = 4294967296 from rfl]
  omega
theorem fEq_ok (a b : Nat) : fEq a b = true ↔ Int32.ofNat a = Int32.ofNat b := by
  show Nat.beq (a % 4294967296) (b % 4294967296) = true ↔ _
  rw [← Int32.toInt_inj]
  simp only [Int32.toInt_ofNat', Nat.beq_eq, Int.bmod_def, show ((Int32.size : Nat) : Int) = 4294967296 from rfl]
  omega
-- strict evaluation by continuations; recursors written out, for the kernel
noncomputable def sFc (n : Nat) (k : Nat → Bool) : Bool := Nat.rec (motive := fun _ => Bool) (k (nat_lit 0)) (fun m _ => k (Nat.succ m)) n
theorem sFc_eq (n : Nat) (k : Nat → Bool) : sFc n k = k n := by cases n <;> rfl
noncomputable def sIf (b : Bool) (k : Bool) : Bool := Bool.rec (motive := fun _ => Bool) false k b
theorem sIf_ok {b k : Bool} (h : sIf b k = true) : b = true ∧ k = true := by
  cases b
  · exact nomatch (show false = true from h)
  · exact ⟨rfl, h⟩
noncomputable def sGet {α : Type} (l : List α) : Nat → (α → Bool) → Bool := List.rec (motive := fun _ => Nat → (α → Bool) → Bool) (fun _ _ => false) (fun a _ ih n k => Nat.rec (motive := fun _ => Bool) (k a) (fun m _ => ih m k) n) l
theorem sGet_ok {α : Type} (l : List α) : ∀ (i : Nat) (k : α → Bool), sGet l i k = true → ∃ a, l[i]? = some a ∧ k a = true := by
  induction l with
  | nil => intro i k h; exact absurd h (by simp [sGet])
  | cons a l ih =>
    intro i k h
    cases i with
    | zero => exact ⟨a, rfl, h⟩
    | succ n =>
      obtain ⟨b, h1, h2⟩ := ih n k h
      exact ⟨b, by simpa using h1, h2⟩
noncomputable def sSet {α : Type} (l : List α) : Nat → α → (List α → Bool) → Bool := List.rec (motive := fun _ => Nat → α → (List α → Bool) → Bool) (fun _ _ _ => false) (fun a l ih n v k => Nat.rec (motive := fun _ => Bool) (k (v :: l)) (fun m _ => ih m v (fun l' => k (a :: l'))) n) l
theorem sSet_ok {α : Type} (l : List α) : ∀ (i : Nat) (v : α) (k : List α → Bool), sSet l i v k = true → i < l.length ∧ k (l.set i v) = true := by
  induction l with
  | nil => intro i v k h; exact absurd h (by simp [sSet])
  | cons a l ih =>
    intro i v k h
    cases i with
    | zero => exact ⟨by simp, h⟩
    | succ n =>
      obtain ⟨h1, h2⟩ := ih n v _ h
      exact ⟨by simpa using h1, h2⟩
/-- a constant -/
noncomputable def sNum (x : sX) (k : Nat → Bool) : Bool := Lean.Grind.CommRing.Expr.rec (motive := fun _ => Bool) (fun _ => false) (fun a => k a) (fun _ => false) (fun _ => false) (fun _ _ => false) (fun _ _ _ _ => false) (fun _ _ _ _ => false) (fun _ _ _ _ => false) (fun _ _ _ => false) x
theorem sNum_ok {x : sX} {k : Nat → Bool} (h : sNum x k = true) : ∃ a, x = .natCast a ∧ k a = true := by
  cases x <;> first | exact ⟨_, rfl, h⟩ | exact absurd h (by simp [sNum])
/-- a constant, or else -/
noncomputable def sNumE (x : sX) (k : Nat → Bool) (u : Bool) : Bool := Lean.Grind.CommRing.Expr.rec (motive := fun _ => Bool) (fun _ => u) (fun a => k a) (fun _ => u) (fun _ => u) (fun _ _ => u) (fun _ _ _ _ => u) (fun _ _ _ _ => u) (fun _ _ _ _ => u) (fun _ _ _ => u) x
theorem sNumE_ok {x : sX} {k : Nat → Bool} {u : Bool} (h : sNumE x k u = true) : (∃ a, x = .natCast a ∧ k a = true) ∨ u = true := by
  cases x <;> first | exact Or.inl ⟨_, rfl, h⟩ | exact Or.inr h
/-- an operation of two: folded where both are constants -/
noncomputable def sBin (o : Nat) (f : Nat → Nat → Nat) (x y : sX) (k : sX → Bool) : Bool := sNumE x (fun a => sNumE y (fun b => sFc (f a b) (fun n => k (.natCast n))) (k (.pow (.mul x y) o))) (k (.pow (.mul x y) o))
theorem sBin_ok {o : Nat} {f : Nat → Nat → Nat} {x y : sX} {k : sX → Bool} (h : sBin o f x y k = true) : (∃ a b, x = .natCast a ∧ y = .natCast b ∧ k (.natCast (f a b)) = true) ∨ k (.pow (.mul x y) o) = true := by
  rcases sNumE_ok h with ⟨a, ha, h⟩ | h
  · rcases sNumE_ok h with ⟨b, hb, h⟩ | h
    · rw [sFc_eq] at h
      exact Or.inl ⟨_, _, ha, hb, h⟩
    · exact Or.inr h
  · exact Or.inr h
noncomputable def sUn (o : Nat) (f : Nat → Nat) (x : sX) (k : sX → Bool) : Bool := sNumE x (fun a => sFc (f a) (fun n => k (.natCast n))) (k (.pow (.neg x) o))
theorem sUn_ok {o : Nat} {f : Nat → Nat} {x : sX} {k : sX → Bool} (h : sUn o f x k = true) : (∃ a, x = .natCast a ∧ k (.natCast (f a)) = true) ∨ k (.pow (.neg x) o) = true := by
  rcases sNumE_ok h with ⟨a, ha, h⟩ | h
  · rw [sFc_eq] at h
    exact Or.inl ⟨_, ha, h⟩
  · exact Or.inr h
def fI (f : Int32 → Int32 → Int32) (a b : Nat) : Nat := fN (f (Int32.ofNat a) (Int32.ofNat b))
def fJ (f : Int64 → Int64 → Int64) (a b : Nat) : Nat := gN (f (Int64.ofNat a) (Int64.ofNat b))
/-- of ints: the answer's meaning is the operation's -/
theorem sBin_I {r : sE} {o : Nat} {f : Nat → Nat → Nat} {g : Int32 → Int32 → Int32} (ho : ∀ a b, (sB o a b).1 = g a.1 b.1) (hf : ∀ a b, Int32.ofNat (f a b) = g (Int32.ofNat a) (Int32.ofNat b)) {x y : sX} {k : sX → Bool} (h : sBin o f x y k = true) : ∃ z, sI r z = g (sI r x) (sI r y) ∧ k z = true := by
  rcases sBin_ok h with ⟨a, b, rfl, rfl, h2⟩ | h2
  · exact ⟨.natCast (f a b), by simp only [sI, sJ, sD_c]; exact hf a b, h2⟩
  · exact ⟨.pow (.mul x y) o, by simp only [sI, sJ, sD_b]; exact ho _ _, h2⟩
theorem sBin_J {r : sE} {o : Nat} {f : Nat → Nat → Nat} {g : Int64 → Int64 → Int64} (ho : ∀ a b, (sB o a b).2 = g a.2 b.2) (hf : ∀ a b, Int64.ofNat (f a b) = g (Int64.ofNat a) (Int64.ofNat b)) {x y : sX} {k : sX → Bool} (h : sBin o f x y k = true) : ∃ z, sJ r z = g (sJ r x) (sJ r y) ∧ k z = true := by
  rcases sBin_ok h with ⟨a, b, rfl, rfl, h2⟩ | h2
  · exact ⟨.natCast (f a b), by simp only [sI, sJ, sD_c]; exact hf a b, h2⟩
  · exact ⟨.pow (.mul x y) o, by simp only [sI, sJ, sD_b]; exact ho _ _, h2⟩
theorem sUn_I {r : sE} {o : Nat} {f : Nat → Nat} {g : Int32 → Int32} (ho : ∀ a, (sU o a).1 = g a.1) (hf : ∀ a, Int32.ofNat (f a) = g (Int32.ofNat a)) {x : sX} {k : sX → Bool} (h : sUn o f x k = true) : ∃ z, sI r z = g (sI r x) ∧ k z = true := by
  rcases sUn_ok h with ⟨a, rfl, h2⟩ | h2
  · exact ⟨.natCast (f a), by simp only [sI, sD_c]; exact hf a, h2⟩
  · exact ⟨.pow (.neg x) o, by simp only [sI, sD_u]; exact ho _, h2⟩
theorem sUn_J {r : sE} {o : Nat} {f : Nat → Nat} {g : Int64 → Int64} (ho : ∀ a, (sU o a).2 = g a.2) (hf : ∀ a, Int64.ofNat (f a) = g (Int64.ofNat a)) {x : sX} {k : sX → Bool} (h : sUn o f x k = true) : ∃ z, sJ r z = g (sJ r x) ∧ k z = true := by
  rcases sUn_ok h with ⟨a, rfl, h2⟩ | h2
  · exact ⟨.natCast (f a), by simp only [sJ, sD_c]; exact hf a, h2⟩
  · exact ⟨.pow (.neg x) o, by simp only [sJ, sD_u]; exact ho _, h2⟩
def fShrG (a b : Nat) : Nat := fI (fun a b => a >>> (b &&& 31)) a b
def fShr (a b : Nat) : Nat := match Bool.and (Nat.blt a 2147483648) (Nat.blt b 32) with
  | true => Nat.shiftRight a b
  | false => fShrG a b
theorem f_sh (b : Nat) (hb : b < 32) : ((Int32.ofNat b &&& 31).toBitVec.smod 32).toNat = b := by
  have h : ∀ b, b < 32 → ((Int32.ofNat b &&& 31).toBitVec.smod 32).toNat = b := by decide +kernel
  exact h b hb
theorem fShr_ok (a b : Nat) : Int32.ofNat (fShr a b) = Int32.ofNat a >>> (Int32.ofNat b &&& 31) := by
  unfold fShr
  split
  · rename_i h
    simp only [Bool.and_eq_true, Nat.blt_eq] at h
    obtain ⟨ha, hb⟩ := h
    rw [← Int32.toBitVec_inj]
    show BitVec.ofNat 32 (a >>> b) = (BitVec.ofNat 32 a).sshiftRight ((Int32.ofNat b &&& 31).toBitVec.smod 32).toNat
    rw [f_sh b hb, BitVec.sshiftRight_eq_of_msb_false (by rw [BitVec.msb_eq_decide]; simp; omega)]
    apply BitVec.eq_of_toNat_eq
    simp only [BitVec.toNat_ofNat, BitVec.toNat_ushiftRight]
    have h1 : a >>> b ≤ a := Nat.shiftRight_le a b
    rw [Nat.mod_eq_of_lt (by omega), Nat.mod_eq_of_lt (by omega)]
  · exact fN_ok _
def fShlG (a b : Nat) : Nat := fI (fun a b => a <<< (b &&& 31)) a b
def fShl (a b : Nat) : Nat := match Nat.blt b 32 with
  | true => (Nat.shiftLeft a b) % 4294967296
  | false => fShlG a b
theorem fShl_ok (a b : Nat) : Int32.ofNat (fShl a b) = Int32.ofNat a <<< (Int32.ofNat b &&& 31) := by
  unfold fShl
  split
  · rename_i h
    simp only [Nat.blt_eq] at h
    rw [f_mod, ← Int32.toBitVec_inj]
    show BitVec.ofNat 32 (a <<< b) = (BitVec.ofNat 32 a) <<< ((Int32.ofNat b &&& 31).toBitVec.smod 32).toNat
    rw [f_sh b h]
    apply BitVec.eq_of_toNat_eq
    simp only [BitVec.toNat_ofNat, BitVec.toNat_shiftLeft]
    rw [Nat.shiftLeft_eq, Nat.shiftLeft_eq, Nat.mod_mul_mod]
  · exact fN_ok _
end
section
/-! 04: values, cells, memory of the symbolic executor, and what they mean on the heap -/
abbrev sV : Type := sX ⊕ (sX ⊕ Option Nat)
abbrev sC : Type := Nat × Nat × List sV
abbrev sM : Type := List sC
def sVal (r : sE) (al : Nat → Nat) : sV → Value
  | .inl x => .int (sI r x)
  | .inr (.inl x) => .long (sJ r x)
  | .inr (.inr none) => .null
  | .inr (.inr (some i)) => .ref (al i)
def sInt (r : sE) : Option sV → Int32
  | some (.inl x) => sI r x
  | _ => 0
def sLng (r : sE) : Option sV → Int64
  | some (.inr (.inl x)) => sJ r x
  | _ => 0
def sRef (al : Nat → Nat) : Option sV → Option Nat
  | some (.inr (.inr (some i))) => some (al i)
  | _ => none
/-- what a cell holds: kind 0 an object, 1 int[], 2 byte[], 3 boolean[], 4 long[], 5 Shelf[], 6 int[][], else hidden -/
def sCe (r : sE) (al : Nat → Nat) (cy : Nat → ClassId) (hid : Nat → va_E) (c : sC) : va_E := match c.1 with
  | 0 => .inr (c.2.1, c.2.2.map (sVal r al))
  | 1 => .inl (cy 1, c.2.2.length, .inl (fun j => sInt r c.2.2[j]?))
  | 2 => .inl (cy 2, c.2.2.length, .inl (fun j => sInt r c.2.2[j]?))
  | 3 => .inl (cy 3, c.2.2.length, .inl (fun j => sInt r c.2.2[j]?))
  | 4 => .inl (cy 4, c.2.2.length, .inr (.inl (fun j => sLng r c.2.2[j]?)))
  | 5 => .inl (cy 5, c.2.2.length, .inr (.inr (.inr (.inr (fun j => sRef al c.2.2[j]?)))))
  | 6 => .inl (cy 6, c.2.2.length, .inr (.inr (.inr (.inr (fun j => sRef al c.2.2[j]?)))))
  | _ => hid c.2.1
def sW (r : sE) (al : Nat → Nat) (cy : Nat → ClassId) (hid : Nat → va_E) (rest : va_W) (mem : sM) : va_W := mem.mapIdx (fun i c => (al i, sCe r al cy hid c)) ++ rest
def sT (cy : Nat → ClassId) : List (ClassId × FieldType) := [(cy 1, .int), (cy 2, .byte), (cy 3, .boolean), (cy 4, .long), (cy 5, .object "SwapTables$Shelf"), (cy 6, .array .int)]
theorem sW_get {r : sE} {al : Nat → Nat} {cy : Nat → ClassId} {hid : Nat → va_E} {rest : va_W} {mem : sM} {i : Nat} {c : sC} (h : mem[i]? = some c) : (sW r al cy hid rest mem)[i]? = some (al i, sCe r al cy hid c) := by
  have hl : i < mem.length := (List.getElem?_eq_some_iff.mp h).1
  unfold sW
  rw [List.getElem?_append_left (by simpa using hl), List.getElem?_mapIdx, h]
  rfl
theorem sW_set {r : sE} {al : Nat → Nat} {cy : Nat → ClassId} {hid : Nat → va_E} {rest : va_W} {mem : sM} {i : Nat} {c : sC} (hl : i < mem.length) : (sW r al cy hid rest mem).set i (al i, sCe r al cy hid c) = sW r al cy hid rest (mem.set i c) := by
  unfold sW
  rw [List.set_append_left _ _ (by simpa using hl)]
  congr 1
  apply List.ext_getElem?
  intro j
  rw [List.getElem?_set, List.getElem?_mapIdx, List.getElem?_mapIdx, List.getElem?_set]
  by_cases hj : i = j
  · subst hj
    simp [hl]
  · simp [hj]
/-- constants of int[] statics -/
def sBegin : List Nat := [0, 0, 1, 3, 6, 11, 18]
def sCodes : List Nat := [65536, 131072, 69632, 196608, 135168, 69888, 262144, 200704, 139264, 135424, 69904, 327680, 266240, 204800, 200960, 139520, 135440, 69905]
def sFn (l : List Nat) (j : Nat) : Value := .int (Int32.ofNat (l.getD j 0))
/-- the two static arrays, at the addresses al 1000000 and al 1000001, outside A -/
def sSt (al : Nat → Nat) (A : Nat → Prop) (U : State) (H : Heap) : Prop :=
  va_Z "SwapTables$Partitions" "BEGIN" "[I" (.ref (al 1000000)) A U H ∧ va_T .int (al 1000000) 7 (sFn sBegin) A U H ∧
  va_Z "SwapTables$Partitions" "CODES" "[I" (.ref (al 1000001)) A U H ∧ va_T .int (al 1000001) 18 (sFn sCodes) A U H
theorem sSt.moved {al : Nat → Nat} {A : Nat → Prop} {u U : State} {H : Heap} (hvm : u.vm.Alike U.vm) (h : sSt al A u H) : sSt al A U H := ⟨h.1.moved hvm, h.2.1.moved hvm, h.2.2.1.moved hvm, h.2.2.2.moved hvm⟩
theorem sSt.kept {al : Nat → Nat} {A : Nat → Prop} {U : State} {H H1 : Heap} (h : sSt al A U H) (hq : ∀ a : Nat, a < H.size → ¬ A a → H1[a]? = H[a]?) : sSt al A U H1 := ⟨h.1.kept hq, h.2.1.kept hq, h.2.2.1.kept hq, h.2.2.2.kept hq⟩
theorem sSt.narrow {al : Nat → Nat} {A B : Nat → Prop} {U : State} {H : Heap} (h : sSt al A U H) (hAB : ∀ q, B q → A q) : sSt al B U H := ⟨h.1.narrow hAB, h.2.1.narrow hAB, h.2.2.1.narrow hAB, h.2.2.2.narrow hAB⟩
-- locals
abbrev sL : Type := List (Option sV)
def sLo (r : sE) (al : Nat → Nat) (ls : Array Slot) (nL : Nat) (L : sL) : Prop := ls.size = nL ∧ lv_wf ls ∧ (∀ (i : Nat) (v : sV), L[i]? = some (some v) → ls[i]? = some (.val (sVal r al v))) ∧ L.length = nL
def sLs (r : sE) (al : Nat → Nat) (L : sL) : List (Nat × Value) := (L.mapIdx (fun i v => (i, v))).filterMap (fun q => q.2.map (fun v => (q.1, sVal r al v)))
theorem sLs_mem {r : sE} {al : Nat → Nat} {L : sL} {q : Nat × Value} : q ∈ sLs r al L ↔ ∃ v : sV, L[q.1]? = some (some v) ∧ q.2 = sVal r al v := by
  unfold sLs
  simp only [List.mem_filterMap, List.mem_mapIdx, Option.map_eq_some_iff]
  constructor
  · rintro ⟨a, ⟨i, hi, rfl⟩, v, hv, rfl⟩
    exact ⟨v, (List.getElem?_eq_getElem hi).trans (congrArg some hv), rfl⟩
  · rintro ⟨v, h1, h2⟩
    obtain ⟨hi, h3⟩ := List.getElem?_eq_some_iff.mp h1
    exact ⟨(q.1, L[q.1]), ⟨q.1, hi, rfl⟩, v, h3, by rw [← h2]⟩
theorem sLo_has {r : sE} {al : Nat → Nat} {ls : Array Slot} {nL : Nat} {L : sL} (h : sLo r al ls nL L) : lv_has ls nL (sLs r al L) :=
  ⟨h.1, h.2.1, fun q hq => by
    obtain ⟨v, h1, h2⟩ := sLs_mem.mp hq
    rw [h2]
    exact h.2.2.1 q.1 v h1⟩
def sLongV (v : Option sV) : Bool := match v with
  | some (.inr (.inl _)) => true
  | _ => false
/-- the local i becomes v, of one word -/
noncomputable def sPut1 (L : sL) (i : Nat) (v : sV) (k : sL → Bool) : Bool := Nat.rec (motive := fun _ => Bool) (sSet L (nat_lit 0) (some v) k) (fun j _ => sGet L j (fun w => Bool.rec (motive := fun _ => Bool) (sSet L (Nat.succ j) (some v) k) (sSet L j none (fun L => sSet L (Nat.succ j) (some v) k)) (sLongV w))) i
/-- .. of two -/
noncomputable def sPut2 (L : sL) (i : Nat) (v : sV) (k : sL → Bool) : Bool := sPut1 L i v (fun L => sSet L (i + 1) none k)
theorem sLo_put1 {r : sE} {al : Nat → Nat} {ls : Array Slot} {nL : Nat} {L : sL} {i : Nat} {v : sV} {k : sL → Bool} (h : sPut1 L i v k = true) : ∃ L', k L' = true ∧ i < L.length ∧ L'.length = L.length ∧ ∀ (j : Nat) (w : sV), L'[j]? = some (some w) → (j = i ∧ w = v) ∨ (j ≠ i ∧ L[j]? = some (some w) ∧ ¬ (j + 1 = i ∧ sLongV (some w) = true)) := by
  cases i with
  | zero =>
    replace h : sSet L 0 (some v) k = true := h
    obtain ⟨h1, h2⟩ := sSet_ok _ _ _ _ h
    refine ⟨_, h2, h1, by simp, fun j w hj => ?_⟩
    rw [List.getElem?_set] at hj
    by_cases e : 0 = j
    · subst e
      simp [h1] at hj
      exact Or.inl ⟨rfl, hj.symm⟩
    · rw [if_neg e] at hj
      exact Or.inr ⟨fun q => e q.symm, hj, fun q => by omega⟩
  | succ j0 =>
    obtain ⟨a, ha, h⟩ := sGet_ok _ _ _ (show sGet L j0 (fun w => Bool.rec (motive := fun _ => Bool) (sSet L (Nat.succ j0) (some v) k) (sSet L j0 none (fun L => sSet L (Nat.succ j0) (some v) k)) (sLongV w)) = true from h)
    cases hlong : sLongV a with
    | true =>
      rw [hlong] at h
      obtain ⟨h1, h⟩ := sSet_ok _ _ _ _ h
      obtain ⟨h2, h⟩ := sSet_ok _ _ _ _ h
      have h2' : j0 + 1 < L.length := by simpa using h2
      refine ⟨_, h, h2', by simp, fun j w hj => ?_⟩
      rw [List.getElem?_set] at hj
      by_cases e : j0 + 1 = j
      · subst e
        simp [h2'] at hj
        exact Or.inl ⟨rfl, hj.symm⟩
      · rw [if_neg e, List.getElem?_set] at hj
        by_cases e2 : j0 = j
        · subst e2
          simp [h1] at hj
        · rw [if_neg e2] at hj
          exact Or.inr ⟨fun q => e q.symm, hj, fun q => e2 (by omega)⟩
    | false =>
      rw [hlong] at h
      obtain ⟨h2, h⟩ := sSet_ok _ _ _ _ h
      refine ⟨_, h, h2, by simp, fun j w hj => ?_⟩
      rw [List.getElem?_set] at hj
      by_cases e : j0 + 1 = j
      · subst e
        simp [h2] at hj
        exact Or.inl ⟨rfl, hj.symm⟩
      · rw [if_neg e] at hj
        refine Or.inr ⟨fun q => e q.symm, hj, fun q => ?_⟩
        have e3 : j = j0 := by omega
        subst e3
        rw [ha] at hj
        cases hj
        rw [q.2] at hlong
        cases hlong
theorem sVal_cat {r : sE} {al : Nat → Nat} {v : sV} : (sVal r al v).category = 2 ↔ sLongV (some v) = true := by
  match v with
  | .inl x => simp [sVal, sLongV, Value.category]
  | .inr (.inl x) => simp [sVal, sLongV, Value.category]
  | .inr (.inr none) => simp [sVal, sLongV, Value.category]
  | .inr (.inr (some i)) => simp [sVal, sLongV, Value.category]
end
section
/-! 05: the symbolic executor -/
/-- the tables' words that hold in every later state, too -/
def sTb : List Cond := lw_tbl.filter goodWord
def sIsN (w : Cond) : Bool := match w with
  | .fieldLinkNest .. => true
  | .methodLinkNest .. => true
  | _ => false
/-- links to members of a nest mate -/
def sTn : List Cond := lw_tbl.filter sIsN
def sNw (U : State) : Prop := ∀ w ∈ sTn, va_Nw w U
theorem sNw.warm {s U : State} (hW : s.WarmedH U.vm) (h : sNw s) : sNw U := fun w hw => by
  have h1 := h w hw
  have h2 := (List.mem_filter.mp hw).2
  cases w <;> first | exact va_Nw.warmF hW h1 | exact va_Nw.warmM hW h1 | exact nomatch (show false = true from h2)
theorem sNw.same {u U : State} (hvm : u.vm = U.vm) (h : sNw u) : sNw U := fun w hw => by
  have h1 := h w hw
  have h2 := (List.mem_filter.mp hw).2
  refine va_Nw.same ?_ hvm h1
  cases w <;> first | rfl | exact nomatch (show false = true from h2)
theorem sNw.use {args : Array Value} {U : State} (h : sNw U) {w : Cond} (hw : w ∈ sTn) : w.before args U = true := by
  have h1 := h w hw
  have h2 := (List.mem_filter.mp hw).2
  refine va_Nw.use ?_ h1
  cases w <;> first | rfl | exact nomatch (show false = true from h2)
/-- a condition of the path: (is it an equation, does it hold, x, y): x = y, or x < y, of ints -/
abbrev sK : Type := Bool × Bool × sX × sX
def eqX : sX → sX → Bool
  | .natCast a, .natCast b => Nat.beq a b
  | .var a, .var b => Nat.beq a b
  | .pow a o, .pow b u => Nat.beq o u && eqX a b
  | .mul a b, .mul c d => eqX a c && eqX b d
  | .neg a, .neg b => eqX a b
  | _, _ => false
theorem eqX_ok (x y : sX) (h : eqX x y = true) : x = y := by
  induction x generalizing y with
  | natCast a => cases y <;> simp_all [eqX]
  | var a => cases y <;> simp_all [eqX]
  | pow a o ih =>
    cases y <;> simp_all [eqX]
    exact ih _ h.2
  | mul a b iha ihb =>
    cases y <;> simp_all [eqX]
    exact ⟨iha _ h.1, ihb _ h.2⟩
  | neg a ih =>
    cases y <;> simp_all [eqX]
    exact ih _ h
  | num a => simp [eqX] at h
  | intCast a => simp [eqX] at h
  | add a b iha ihb => simp [eqX] at h
  | sub a b iha ihb => simp [eqX] at h
def sKd (r : sE) (q : sK) : Prop := match q with
  | (true, true, x, y) => sI r x = sI r y
  | (true, false, x, y) => ¬ sI r x = sI r y
  | (false, true, x, y) => sI r x < sI r y
  | (false, false, x, y) => ¬ sI r x < sI r y
/-- what the path says of a question -/
noncomputable def sAsk (e : Bool) (x y : sX) (ky kn ku : Bool) (pa : List sK) : Bool := List.rec (motive := fun _ => Bool) ku (fun q _ ih => Bool.rec (motive := fun _ => Bool) ih (Bool.rec (motive := fun _ => Bool) kn ky q.2.1) (Bool.and (Bool.and (Bool.not (Bool.xor e q.1)) (eqX x q.2.2.1)) (eqX y q.2.2.2))) pa
def sHo (r : sE) (e : Bool) (x y : sX) : Prop := match e with
  | true => sI r x = sI r y
  | false => sI r x < sI r y
theorem sKd_t {r : sE} {e : Bool} {x y : sX} : sKd r (e, true, x, y) ↔ sHo r e x y := by cases e <;> rfl
theorem sKd_f {r : sE} {e : Bool} {x y : sX} : sKd r (e, false, x, y) ↔ ¬ sHo r e x y := by cases e <;> rfl
theorem sAsk_ok {r : sE} {e : Bool} {x y : sX} {ky kn ku : Bool} : ∀ {pa : List sK}, (∀ q ∈ pa, sKd r q) → sAsk e x y ky kn ku pa = true → (sHo r e x y ∧ ky = true) ∨ (¬ sHo r e x y ∧ kn = true) ∨ ku = true := by
  intro pa
  induction pa with
  | nil => intro _ h; exact Or.inr (Or.inr h)
  | cons q l ih =>
    intro hp h
    have hq := hp q List.mem_cons_self
    obtain ⟨e1, b1, x1, y1⟩ := q
    cases hc : (Bool.and (Bool.and (Bool.not (Bool.xor e e1)) (eqX x x1)) (eqX y y1)) with
    | false =>
      have h2 : sAsk e x y ky kn ku l = true := by
        have := h
        unfold sAsk at this
        simp only [hc] at this
        exact this
      exact ih (fun q hq => hp q (List.mem_cons_of_mem _ hq)) h2
    | true =>
      have h2 : Bool.rec (motive := fun _ => Bool) kn ky b1 = true := by
        have := h
        unfold sAsk at this
        simp only [hc] at this
        exact this
      simp only [Bool.and_eq_true] at hc
      obtain ⟨⟨he, hx⟩, hy⟩ := hc
      have e0 : e = e1 := by cases e <;> cases e1 <;> simp_all
      have e2 := eqX_ok _ _ hx
      have e3 := eqX_ok _ _ hy
      subst e0 e2 e3
      cases b1 with
      | true => exact Or.inl ⟨sKd_t.mp hq, h2⟩
      | false => exact Or.inr (Or.inl ⟨sKd_f.mp hq, h2⟩)
/-- a question: folded, or as the path says, or both ways -/
noncomputable def sQ (e : Bool) (x y : sX) (pa : List sK) (kt kf : List sK → Bool) : Bool :=
  sNumE x (fun a => sNumE y (fun b => Bool.rec (motive := fun _ => Bool) (kf pa) (kt pa) (Bool.rec (motive := fun _ => Bool) (fLt a b) (fEq a b) e))
    (sAsk e x y (kt pa) (kf pa) (Bool.and (kt ((e, true, x, y) :: pa)) (kf ((e, false, x, y) :: pa))) pa))
    (sAsk e x y (kt pa) (kf pa) (Bool.and (kt ((e, true, x, y) :: pa)) (kf ((e, false, x, y) :: pa))) pa)
def sPa (r : sE) (pa : List sK) : Prop := ∀ q ∈ pa, sKd r q
theorem sQ_ok {r : sE} {e : Bool} {x y : sX} {pa : List sK} {kt kf : List sK → Bool} (hp : sPa r pa) (h : sQ e x y pa kt kf = true) : (sHo r e x y → ∃ pa1, sPa r pa1 ∧ kt pa1 = true) ∧ (¬ sHo r e x y → ∃ pa1, sPa r pa1 ∧ kf pa1 = true) := by
  have key : sAsk e x y (kt pa) (kf pa) (Bool.and (kt ((e, true, x, y) :: pa)) (kf ((e, false, x, y) :: pa))) pa = true → (sHo r e x y → ∃ pa1, sPa r pa1 ∧ kt pa1 = true) ∧ (¬ sHo r e x y → ∃ pa1, sPa r pa1 ∧ kf pa1 = true) := by
    intro h
    rcases sAsk_ok (r := r) hp h with ⟨h1, h2⟩ | ⟨h1, h2⟩ | h2
    · exact ⟨fun _ => ⟨pa, hp, h2⟩, fun q => absurd h1 q⟩
    · exact ⟨fun q => absurd q h1, fun _ => ⟨pa, hp, h2⟩⟩
    · simp only [Bool.and_eq_true] at h2
      refine ⟨fun q => ⟨_, fun z hz => ?_, h2.1⟩, fun q => ⟨_, fun z hz => ?_, h2.2⟩⟩
      · rcases List.mem_cons.mp hz with rfl | hz
        · exact sKd_t.mpr q
        · exact hp z hz
      · rcases List.mem_cons.mp hz with rfl | hz
        · exact sKd_f.mpr q
        · exact hp z hz
  rcases sNumE_ok h with ⟨a, rfl, h1⟩ | h1
  · rcases sNumE_ok h1 with ⟨b, rfl, h2⟩ | h2
    · cases e with
      | true =>
        have hh : sHo r true (.natCast a) (.natCast b) ↔ fEq a b = true := by
          rw [fEq_ok]
          simp only [sHo, sI, sD_c]
        rw [hh]
        cases hf : fEq a b with
        | true =>
          simp only [hf] at h2
          exact ⟨fun _ => ⟨pa, hp, h2⟩, fun q => absurd rfl q⟩
        | false =>
          simp only [hf] at h2
          exact ⟨fun q => (by cases q), fun _ => ⟨pa, hp, h2⟩⟩
      | false =>
        have hh : sHo r false (.natCast a) (.natCast b) ↔ fLt a b = true := by
          rw [fLt_ok]
          simp only [sHo, sI, sD_c]
        rw [hh]
        cases hf : fLt a b with
        | true =>
          simp only [hf] at h2
          exact ⟨fun _ => ⟨pa, hp, h2⟩, fun q => absurd rfl q⟩
        | false =>
          simp only [hf] at h2
          exact ⟨fun q => (by cases q), fun _ => ⟨pa, hp, h2⟩⟩
    · exact key h2
  · exact key h1
/-- an instruction's row: its place, itself, the next place, a hint for the check -/
abbrev sIn : Type := Nat × Instr × Nat × Nat
abbrev sGo : Type := Nat → sL → List sV → List sK → sM → Bool
abbrev sFun : Type := Nat → sL → List sV → List sK → sM → sGo → Bool
/-- a branch by a condition of two ints -/
noncomputable def sBr (c : Jvm.ClassFile.Cond) (x y : sX) (pa : List sK) (kt kf : List sK → Bool) : Bool := Jvm.ClassFile.Cond.rec (motive := fun _ => Bool) (sQ true x y pa kt kf) (sQ true x y pa kf kt) (sQ false x y pa kt kf) (sQ false x y pa kf kt) (sQ false y x pa kt kf) (sQ false y x pa kf kt) c
noncomputable def sSw (x : sX) (d : Nat) (go : Nat → List sK → Bool) (ps : List (Int × Int)) : List sK → Bool := List.rec (motive := fun _ => List sK → Bool) (fun pa => go d pa) (fun q _ ih pa => Int.rec (motive := fun _ => Bool) (fun v => Int.rec (motive := fun _ => Bool) (fun t => sQ true x (.natCast v) pa (go t) ih) (fun _ => false) q.2) (fun _ => false) q.1) ps
/-- n places of src from sp on come into dst from dp on -/
noncomputable def sCopy (src : List sV) (sp dp : Nat) (n : Nat) : List sV → (List sV → Bool) → Bool := Nat.rec (motive := fun _ => List sV → (List sV → Bool) → Bool) (fun dst k => k dst) (fun m ih dst k => sGet src (Nat.add sp m) (fun v => sSet dst (Nat.add dp m) v (fun dst => ih dst k))) n
def sCat (v : sV) : Nat := match v with
  | .inr (.inl _) => 2
  | _ => 1
noncomputable def sVI (v : sV) (k : sX → Bool) : Bool := Sum.rec (motive := fun _ => Bool) k (fun _ => false) v
noncomputable def sVL (v : sV) (k : sX → Bool) : Bool := Sum.rec (motive := fun _ => Bool) (fun _ => false) (fun w => Sum.rec (motive := fun _ => Bool) k (fun _ => false) w) v
noncomputable def sVR (v : sV) (k : Nat → Bool) : Bool := Sum.rec (motive := fun _ => Bool) (fun _ => false) (fun w => Sum.rec (motive := fun _ => Bool) (fun _ => false) (fun o => Option.rec (motive := fun _ => Bool) false k o) w) v
noncomputable def sTop (st : List sV) (k : sV → List sV → Bool) : Bool := List.rec (motive := fun _ => Bool) false (fun v st _ => k v st) st
noncomputable def sTI (st : List sV) (k : sX → List sV → Bool) : Bool := sTop st (fun v st => sVI v (fun x => k x st))
noncomputable def sTL (st : List sV) (k : sX → List sV → Bool) : Bool := sTop st (fun v st => sVL v (fun x => k x st))
noncomputable def sTR (st : List sV) (k : Nat → List sV → Bool) : Bool := sTop st (fun v st => sVR v (fun x => k x st))
noncomputable def sOpt {α : Type} (o : Option α) (k : α → Bool) : Bool := Option.rec (motive := fun _ => Bool) false k o
theorem sVI_ok {v : sV} {k : sX → Bool} (h : sVI v k = true) : ∃ x, v = .inl x ∧ k x = true := by
  rcases v with x | x | x
  · exact ⟨x, rfl, h⟩
  · exact nomatch (show false = true from h)
  · exact nomatch (show false = true from h)
theorem sVL_ok {v : sV} {k : sX → Bool} (h : sVL v k = true) : ∃ x, v = .inr (.inl x) ∧ k x = true := by
  rcases v with x | x | x
  · exact nomatch (show false = true from h)
  · exact ⟨x, rfl, h⟩
  · exact nomatch (show false = true from h)
theorem sVR_ok {v : sV} {k : Nat → Bool} (h : sVR v k = true) : ∃ x, v = .inr (.inr (some x)) ∧ k x = true := by
  rcases v with x | x | x | x
  · exact nomatch (show false = true from h)
  · exact nomatch (show false = true from h)
  · exact nomatch (show false = true from h)
  · exact ⟨x, rfl, h⟩
theorem sTop_ok {st : List sV} {k : sV → List sV → Bool} (h : sTop st k = true) : ∃ v st1, st = v :: st1 ∧ k v st1 = true := by
  cases st with
  | nil => exact nomatch (show false = true from h)
  | cons v st => exact ⟨v, st, rfl, h⟩
theorem sTI_ok {st : List sV} {k : sX → List sV → Bool} (h : sTI st k = true) : ∃ x st1, st = .inl x :: st1 ∧ k x st1 = true := by
  obtain ⟨v, st1, rfl, h⟩ := sTop_ok h
  obtain ⟨x, rfl, h⟩ := sVI_ok h
  exact ⟨x, st1, rfl, h⟩
theorem sTL_ok {st : List sV} {k : sX → List sV → Bool} (h : sTL st k = true) : ∃ x st1, st = .inr (.inl x) :: st1 ∧ k x st1 = true := by
  obtain ⟨v, st1, rfl, h⟩ := sTop_ok h
  obtain ⟨x, rfl, h⟩ := sVL_ok h
  exact ⟨x, st1, rfl, h⟩
theorem sTR_ok {st : List sV} {k : Nat → List sV → Bool} (h : sTR st k = true) : ∃ x st1, st = .inr (.inr (some x)) :: st1 ∧ k x st1 = true := by
  obtain ⟨v, st1, rfl, h⟩ := sTop_ok h
  obtain ⟨x, rfl, h⟩ := sVR_ok h
  exact ⟨x, st1, rfl, h⟩
theorem sOpt_ok {α : Type} {o : Option α} {k : α → Bool} (h : sOpt o k = true) : ∃ a, o = some a ∧ k a = true := by
  cases o with
  | none => exact nomatch (show false = true from h)
  | some a => exact ⟨a, rfl, h⟩
/-- the cell q, of the kind K -/
noncomputable def sCell (mem : sM) (q K : Nat) (k : Nat → List sV → Bool) : Bool := sGet mem q (fun c => Prod.rec (motive := fun _ => Bool) (fun kd w => Prod.rec (motive := fun _ => Bool) (fun u vs => sIf (Nat.beq kd K) (k u vs)) w) c)
theorem sCell_ok {mem : sM} {q K : Nat} {k : Nat → List sV → Bool} (h : sCell mem q K k = true) : ∃ u vs, mem[q]? = some (K, u, vs) ∧ k u vs = true := by
  obtain ⟨⟨kd, u, vs⟩, h1, h2⟩ := sGet_ok _ _ _ h
  obtain ⟨h3, h4⟩ := sIf_ok h2
  have : kd = K := Nat.eq_of_beq_eq_true h3
  subst this
  exact ⟨u, vs, h1, h4⟩
-- the instructions
noncomputable def oLdc (n : Nat) : sFun := fun nx L st pa mem go => go nx L (.inl (.natCast n) :: st) pa mem
noncomputable def oLdc2 (n : Nat) : sFun := fun nx L st pa mem go => go nx L (.inr (.inl (.natCast n)) :: st) pa mem
noncomputable def oIload (i : Nat) : sFun := fun nx L st pa mem go => sGet L i (fun w => sOpt w (fun v => sVI v (fun x => go nx L (.inl x :: st) pa mem)))
noncomputable def oLload (i : Nat) : sFun := fun nx L st pa mem go => sGet L i (fun w => sOpt w (fun v => sVL v (fun x => go nx L (.inr (.inl x) :: st) pa mem)))
noncomputable def oAload (i : Nat) : sFun := fun nx L st pa mem go => sGet L i (fun w => sOpt w (fun v => sVR v (fun x => go nx L (.inr (.inr (some x)) :: st) pa mem)))
noncomputable def oIstore (i : Nat) : sFun := fun nx L st pa mem go => sTI st (fun x st => sPut1 L i (.inl x) (fun L => go nx L st pa mem))
noncomputable def oLstore (i : Nat) : sFun := fun nx L st pa mem go => sTL st (fun x st => sPut2 L i (.inr (.inl x)) (fun L => go nx L st pa mem))
noncomputable def oAstore (i : Nat) : sFun := fun nx L st pa mem go => sTR st (fun x st => sPut1 L i (.inr (.inr (some x))) (fun L => go nx L st pa mem))
noncomputable def oIinc (i n : Nat) : sFun := fun nx L st pa mem go => sGet L i (fun w => sOpt w (fun v => sVI v (fun x => sBin (nat_lit 0) fAdd x (.natCast n) (fun z => sPut1 L i (.inl z) (fun L => go nx L st pa mem)))))
/-- two ints to an int -/
noncomputable def oII (o : Nat) (f : Nat → Nat → Nat) : sFun := fun nx L st pa mem go => sTI st (fun y st => sTI st (fun x st => sBin o f x y (fun z => go nx L (.inl z :: st) pa mem)))
noncomputable def oLL (o : Nat) (f : Nat → Nat → Nat) : sFun := fun nx L st pa mem go => sTL st (fun y st => sTL st (fun x st => sBin o f x y (fun z => go nx L (.inr (.inl z) :: st) pa mem)))
noncomputable def oIrem : sFun := fun nx L st pa mem go => sTI st (fun y st => sNum y (fun b => sIf (Bool.not (fEq b (nat_lit 0))) (sTI st (fun x st => sBin (nat_lit 9) (fI (fun a b => a - a / b * b)) x y (fun z => go nx L (.inl z :: st) pa mem)))))
noncomputable def oLdv (o : Nat) (f : Nat → Nat → Nat) : sFun := fun nx L st pa mem go => sTL st (fun y st => sNum y (fun b => sIf (Bool.not (Nat.beq (Nat.mod b (nat_lit 18446744073709551616)) (nat_lit 0))) (sTL st (fun x st => sBin o f x y (fun z => go nx L (.inr (.inl z) :: st) pa mem)))))
noncomputable def oLsh (o : Nat) (f : Nat → Nat → Nat) : sFun := fun nx L st pa mem go => sTI st (fun y st => sTL st (fun x st => sBin o f x y (fun z => go nx L (.inr (.inl z) :: st) pa mem)))
noncomputable def oLcmp : sFun := fun nx L st pa mem go => sTL st (fun y st => sTL st (fun x st => sBin (nat_lit 10) (fun a b => fN (lg_cmp (Int64.ofNat a) (Int64.ofNat b))) x y (fun z => go nx L (.inl z :: st) pa mem)))
noncomputable def oI1 (o : Nat) (f : Nat → Nat) : sFun := fun nx L st pa mem go => sTI st (fun x st => sUn o f x (fun z => go nx L (.inl z :: st) pa mem))
noncomputable def oL2i : sFun := fun nx L st pa mem go => sTL st (fun x st => sUn (nat_lit 4) (fun a => fN (Int64.ofNat a).toInt32) x (fun z => go nx L (.inl z :: st) pa mem))
noncomputable def oI2l : sFun := fun nx L st pa mem go => sTI st (fun x st => sUn (nat_lit 21) (fun a => gN (Int32.ofNat a).toInt64) x (fun z => go nx L (.inr (.inl z) :: st) pa mem))
noncomputable def oLneg : sFun := fun nx L st pa mem go => sTL st (fun x st => sUn (nat_lit 20) (fun a => gN (-Int64.ofNat a)) x (fun z => go nx L (.inr (.inl z) :: st) pa mem))
noncomputable def oDup : sFun := fun nx L st pa mem go => sTop st (fun v st => sIf (Nat.beq (sCat v) (nat_lit 1)) (go nx L (v :: v :: st) pa mem))
noncomputable def oDup2 : sFun := fun nx L st pa mem go => sTop st (fun v st => sIf (Nat.beq (sCat v) (nat_lit 1)) (sTop st (fun w st => sIf (Nat.beq (sCat w) (nat_lit 1)) (go nx L (v :: w :: v :: w :: st) pa mem))))
noncomputable def oGoto (t : Nat) : sFun := fun _ L st pa mem go => go t L st pa mem
/-- a long constant that is an int's -/
noncomputable def sC32 (n : Nat) (k : Nat → Bool) (u : Bool) : Bool := Bool.rec (motive := fun _ => Bool) (Bool.rec (motive := fun _ => Bool) u (sFc (Nat.mod n (nat_lit 4294967296)) k) (Bool.and (Nat.ble (nat_lit 18446744071562067968) n) (Nat.ble (Nat.succ n) (nat_lit 18446744073709551616)))) (k n) (Nat.ble (Nat.succ n) (nat_lit 2147483648))
theorem sC32_ok {n : Nat} {k : Nat → Bool} {u : Bool} (h : sC32 n k u = true) : (∃ c, Int64.ofNat n = (Int32.ofNat c).toInt64 ∧ k c = true) ∨ u = true := by
  unfold sC32 at h
  cases h0 : Nat.ble (Nat.succ n) (nat_lit 2147483648) with
  | true =>
    simp only [h0] at h
    have h1 : n < 2147483648 := Nat.le_of_ble_eq_true h0
    refine Or.inl ⟨n, ?_, h⟩
    rw [← Int64.toInt_inj, Int32.toInt_toInt64]
    simp only [Int64.toInt_ofNat', Int32.toInt_ofNat', Int.bmod_def, show ((Int32.size : Nat) : Int) = 4294967296 from rfl, show ((Int64.size : Nat) : Int) = 18446744073709551616 from rfl]
    omega
  | false =>
    simp only [h0] at h
    cases h1 : (Bool.and (Nat.ble (nat_lit 18446744071562067968) n) (Nat.ble (Nat.succ n) (nat_lit 18446744073709551616))) with
    | true =>
      simp only [h1] at h
      rw [sFc_eq] at h
      rw [Bool.and_eq_true] at h1
      have h2 : 18446744071562067968 ≤ n := Nat.le_of_ble_eq_true h1.1
      have h3 : n < 18446744073709551616 := Nat.le_of_ble_eq_true h1.2
      refine Or.inl ⟨n % 4294967296, ?_, h⟩
      rw [f_mod, ← Int64.toInt_inj, Int32.toInt_toInt64]
      simp only [Int64.toInt_ofNat', Int32.toInt_ofNat', Int.bmod_def, show ((Int32.size : Nat) : Int) = 4294967296 from rfl, show ((Int64.size : Nat) : Int) = 18446744073709551616 from rfl]
      omega
    | false =>
      simp only [h1] at h
      exact Or.inr h
/-- lcmp of an int's long and a constant: then the int and the constant -/
def sIsL (x : sX) : Option (sX × Nat) := match x with
  | .pow (.mul (.pow (.neg u) o1) (.natCast n)) o2 => match Bool.and (Nat.beq o1 (nat_lit 21)) (Nat.beq o2 (nat_lit 10)) with
    | true => some (u, n)
    | false => none
  | _ => none
theorem sIsL_ok {x u : sX} {n : Nat} (h : sIsL x = some (u, n)) : x = .pow (.mul (.pow (.neg u) 21) (.natCast n)) 10 := by
  unfold sIsL at h
  split at h
  · split at h
    · rename_i h1
      rw [Bool.and_eq_true] at h1
      cases h
      have e1 := Nat.eq_of_beq_eq_true h1.1
      have e2 := Nat.eq_of_beq_eq_true h1.2
      subst e1 e2
      rfl
    · cases h
  · cases h
noncomputable def sNrm (x : sX) (k : sX → sX → Bool) : Bool := Option.rec (motive := fun _ => Bool) (k x (.natCast (nat_lit 0))) (fun q => sC32 q.2 (fun c => k q.1 (.natCast c)) (k x (.natCast (nat_lit 0)))) (sIsL x)
/-- two ints that stand to each other as x to 0 -/
theorem sNrm_ok {r : sE} {x : sX} {k : sX → sX → Bool} (h : sNrm x k = true) : ∃ a b, k a b = true ∧ (sI r x = 0 ↔ sI r a = sI r b) ∧ (sI r x < 0 ↔ sI r a < sI r b) ∧ (0 < sI r x ↔ sI r b < sI r a) := by
  have z0 : sI r (.natCast (nat_lit 0)) = 0 := by simp only [sI, sD_c]; rfl
  have base : k x (.natCast (nat_lit 0)) = true → ∃ a b, k a b = true ∧ (sI r x = 0 ↔ sI r a = sI r b) ∧ (sI r x < 0 ↔ sI r a < sI r b) ∧ (0 < sI r x ↔ sI r b < sI r a) := fun q => ⟨_, _, q, by rw [z0], by rw [z0], by rw [z0]⟩
  cases hL : sIsL x with
  | none =>
    unfold sNrm at h
    simp only [hL] at h
    exact base h
  | some q =>
    obtain ⟨u, n⟩ := q
    unfold sNrm at h
    simp only [hL] at h
    rcases sC32_ok h with ⟨c, h1, h2⟩ | h2
    · refine ⟨_, _, h2, ?_⟩
      have e1 := sIsL_ok hL
      subst e1
      have e2 : sI r (.pow (.mul (.pow (.neg u) 21) (.natCast n)) 10) = lg_cmp (sI r u).toInt64 (Int32.ofNat c).toInt64 := by
        rw [← h1]
        simp only [sI, sD_b, sD_u, sD_c]
        rfl
      rw [e2, show sI r (.natCast c) = Int32.ofNat c by simp only [sI, sD_c]]
      generalize sI r u = p1
      generalize Int32.ofNat c = p2
      unfold lg_cmp
      simp only [gt_iff_lt, Int64.lt_iff_toInt_lt, ← Int64.toInt_inj, Int32.lt_iff_toInt_lt, ← Int32.toInt_inj, Int32.toInt_toInt64]
      refine ⟨?_, ?_, ?_⟩ <;> (repeat' split) <;> simp <;> omega
    · exact base h2
noncomputable def oIf (c : Jvm.ClassFile.Cond) (t : Nat) : sFun := fun nx L st pa mem go => sTI st (fun x st => sNrm x (fun x y => sBr c x y pa (fun pa => go t L st pa mem) (fun pa => go nx L st pa mem)))
noncomputable def oIf2 (c : Jvm.ClassFile.Cond) (t : Nat) : sFun := fun nx L st pa mem go => sTI st (fun y st => sTI st (fun x st => sBr c x y pa (fun pa => go t L st pa mem) (fun pa => go nx L st pa mem)))
noncomputable def oSw (d : Nat) (ps : List (Int × Int)) : sFun := fun _ L st pa mem go => sTI st (fun x st => sSw x d (fun t pa => go t L st pa mem) ps pa)
noncomputable def oGetf (n : Nat) : sFun := fun nx L st pa mem go => sTR st (fun q st => sCell mem q (nat_lit 0) (fun ci vs => sIf (Nat.beq ci (Nat.div n (nat_lit 64))) (sGet vs (Nat.mod n (nat_lit 64)) (fun v => go nx L (v :: st) pa mem))))
/-- a value comes into a field -/
noncomputable def sPutf (n : Nat) (v : sV) (q : Nat) (mem : sM) (k : sM → Bool) : Bool := sCell mem q (nat_lit 0) (fun ci vs => sIf (Nat.beq ci (Nat.div n (nat_lit 64))) (sSet vs (Nat.mod n (nat_lit 64)) v (fun vs => sSet mem q ((nat_lit 0), ci, vs) k)))
noncomputable def oPutI (n : Nat) : sFun := fun nx L st pa mem go => sTI st (fun v st => sTR st (fun q st => sPutf n (.inl v) q mem (fun mem => go nx L st pa mem)))
noncomputable def oPutZ (n : Nat) : sFun := fun nx L st pa mem go => sTI st (fun v st => sNum v (fun b => sIf (Nat.ble b (nat_lit 1)) (sTR st (fun q st => sPutf n (.inl (.natCast b)) q mem (fun mem => go nx L st pa mem)))))
noncomputable def oPutJ (n : Nat) : sFun := fun nx L st pa mem go => sTL st (fun v st => sTR st (fun q st => sPutf n (.inr (.inl v)) q mem (fun mem => go nx L st pa mem)))
noncomputable def oPutR (n : Nat) : sFun := fun nx L st pa mem go => sTR st (fun v st => sTR st (fun q st => sPutf n (.inr (.inr (some v))) q mem (fun mem => go nx L st pa mem)))
noncomputable def oGets (j : Nat) : sFun := fun nx L st pa mem go => go nx L (.inr (.inr (some (Nat.add (nat_lit 1000000) j))) :: st) pa mem
/-- an index, constant, and a reference -/
noncomputable def sIx (st : List sV) (k : Nat → Nat → List sV → Bool) : Bool := sTI st (fun x st => sNum x (fun i => sIf (Nat.ble (Nat.succ i) (nat_lit 2147483648)) (sTR st (fun q st => k i q st))))
noncomputable def sStat (i q : Nat) (k : Nat → Bool) : Bool := Bool.rec (motive := fun _ => Bool) (sIf (Nat.beq q (nat_lit 1000001)) (sGet sCodes i k)) (sGet sBegin i k) (Nat.beq q (nat_lit 1000000))
noncomputable def oIaload : sFun := fun nx L st pa mem go => sIx st (fun i q st => Bool.rec (motive := fun _ => Bool) (sStat i q (fun v => go nx L (.inl (.natCast v) :: st) pa mem)) (sCell mem q (nat_lit 1) (fun _ vs => sGet vs i (fun v => sVI v (fun x => go nx L (.inl x :: st) pa mem)))) (Nat.ble q (nat_lit 999999)))
noncomputable def oBaload : sFun := fun nx L st pa mem go => sIx st (fun i q st => Bool.or (sCell mem q (nat_lit 2) (fun _ vs => sGet vs i (fun v => sVI v (fun x => go nx L (.inl x :: st) pa mem)))) (sCell mem q (nat_lit 3) (fun _ vs => sGet vs i (fun v => sVI v (fun x => go nx L (.inl x :: st) pa mem)))))
noncomputable def oLaload : sFun := fun nx L st pa mem go => sIx st (fun i q st => sCell mem q (nat_lit 4) (fun _ vs => sGet vs i (fun v => sVL v (fun x => go nx L (.inr (.inl x) :: st) pa mem))))
noncomputable def oAaload : sFun := fun nx L st pa mem go => sIx st (fun i q st => Bool.or (sCell mem q (nat_lit 5) (fun _ vs => sGet vs i (fun v => sVR v (fun x => go nx L (.inr (.inr (some x)) :: st) pa mem)))) (sCell mem q (nat_lit 6) (fun _ vs => sGet vs i (fun v => sVR v (fun x => go nx L (.inr (.inr (some x)) :: st) pa mem)))))
/-- a value comes into a place of an array of kind K -/
noncomputable def sPuta (K : Nat) (v : sV) (i q : Nat) (mem : sM) (k : sM → Bool) : Bool := sCell mem q K (fun u vs => sSet vs i v (fun vs => sSet mem q (K, u, vs) k))
noncomputable def oIastore : sFun := fun nx L st pa mem go => sTI st (fun x st => sIx st (fun i q st => sPuta (nat_lit 1) (.inl x) i q mem (fun mem => go nx L st pa mem)))
noncomputable def oBastore : sFun := fun nx L st pa mem go => sTI st (fun x st => sIx st (fun i q st => Bool.or (sUn (nat_lit 2) (fun a => fN (vp_nar .byte (Int32.ofNat a))) x (fun x => sPuta (nat_lit 2) (.inl x) i q mem (fun mem => go nx L st pa mem))) (sUn (nat_lit 3) (fun a => fN (vp_nar .boolean (Int32.ofNat a))) x (fun x => sPuta (nat_lit 3) (.inl x) i q mem (fun mem => go nx L st pa mem)))))
noncomputable def oLastore : sFun := fun nx L st pa mem go => sTL st (fun x st => sIx st (fun i q st => sPuta (nat_lit 4) (.inr (.inl x)) i q mem (fun mem => go nx L st pa mem)))
noncomputable def sNil (st : List sV) (k : Bool) : Bool := List.rec (motive := fun _ => Bool) k (fun _ _ _ => false) st
theorem sNil_ok {st : List sV} {k : Bool} (h : sNil st k = true) : st = [] ∧ k = true := by
  cases st with
  | nil => exact ⟨rfl, h⟩
  | cons v st => exact nomatch (show false = true from h)
noncomputable def sIf2 (b c : Bool) (k : Bool) : Bool := sIf b (sIf c k)
noncomputable def sLn {α : Type} (l : List α) : Nat := List.rec (motive := fun _ => Nat) (nat_lit 0) (fun _ _ ih => Nat.succ ih) l
theorem sLn_ok {α : Type} (l : List α) : sLn l = l.length := by
  induction l with
  | nil => rfl
  | cons a l ih => show Nat.succ (sLn l) = _; rw [ih]; rfl
noncomputable def oLen : sFun := fun nx L st pa mem go => sTR st (fun q st => sCell mem q (nat_lit 1) (fun _ vs => sFc (sLn vs) (fun n => go nx L (.inl (.natCast n) :: st) pa mem)))
/-- System.arraycopy of ints -/
noncomputable def oCopy : sFun := fun nx L st pa mem go => sTI st (fun x st => sNum x (fun n => sIx st (fun dp q st => sIx st (fun sp q0 st => sIf (Bool.and (Nat.ble n (nat_lit 1000)) (Bool.or (Nat.ble (nat_lit 1) n) (Bool.and (Nat.beq sp (nat_lit 0)) (Nat.beq dp (nat_lit 0))))) (sNil st (sCell mem q0 (nat_lit 1) (fun _ v0 => sCell mem q (nat_lit 1) (fun u v1 => sCopy v0 sp dp n v1 (fun vs => sSet mem q ((nat_lit 1), u, vs) (fun mem => go nx L st pa mem))))))))))
noncomputable def sCats (l : List sV) : Nat := List.rec (motive := fun _ => Nat) (nat_lit 0) (fun v _ ih => Nat.add (sCat v) ih) l
/-- Math.abs of a long -/
noncomputable def oAbs : sFun := fun nx L st pa mem go => sTL st (fun x st => sIf (Nat.ble (sCats st) (nat_lit 8)) (sUn (nat_lit 22) (fun a => gN (if 0 < Int64.ofNat a then Int64.ofNat a else -Int64.ofNat a)) x (fun z => go nx L (.inr (.inl z) :: st) pa mem)))
noncomputable def oDyn (n : Nat) : sFun := Nat.rec (motive := fun _ => sFun) oCopy (fun _ _ => oAbs) n
noncomputable def sIz (z : Int) (k : Nat → sFun) : sFun := Int.rec (motive := fun _ => sFun) k (fun _ _ _ _ _ _ _ => false) z
/-- what an instruction does: a step, a call, an end -/
noncomputable def sOp (ir : Instr) : sFun ⊕ (Nat ⊕ Nat) := match ir with
  | .ldc n => .inl (oLdc n)
  | .ldc2_w n => .inl (oLdc2 n)
  | .iload i => .inl (oIload i)
  | .lload i => .inl (oLload i)
  | .aload i => .inl (oAload i)
  | .istore i => .inl (oIstore i)
  | .lstore i => .inl (oLstore i)
  | .astore i => .inl (oAstore i)
  | .iinc i n => .inl (sIz n (oIinc i))
  | .iadd => .inl (oII (nat_lit 0) fAdd)
  | .isub => .inl (oII (nat_lit 1) fSub)
  | .imul => .inl (oII (nat_lit 2) fMul)
  | .iand => .inl (oII (nat_lit 3) fAnd)
  | .ior => .inl (oII (nat_lit 4) fOr)
  | .ixor => .inl (oII (nat_lit 5) (fI (fun a b => a ^^^ b)))
  | .ishl => .inl (oII (nat_lit 6) fShl)
  | .ishr => .inl (oII (nat_lit 7) fShr)
  | .iushr => .inl (oII (nat_lit 8) (fI (fun a b => (a.toUInt32 >>> (b.toUInt32 &&& Int32.toUInt32 31)).toInt32)))
  | .irem => .inl oIrem
  | .ineg => .inl (oI1 (nat_lit 0) (fun a => fN (-Int32.ofNat a)))
  | .i2b => .inl (oI1 (nat_lit 1) (fun a => fN (Int32.ofNat a).toInt8.toInt32))
  | .l2i => .inl oL2i
  | .i2l => .inl oI2l
  | .lneg => .inl oLneg
  | .ladd => .inl (oLL (nat_lit 20) (fJ (fun a b => a + b)))
  | .lsub => .inl (oLL (nat_lit 21) (fJ (fun a b => a - b)))
  | .lmul => .inl (oLL (nat_lit 22) (fJ (fun a b => a * b)))
  | .lor => .inl (oLL (nat_lit 24) (fJ (fun a b => a ||| b)))
  | .lshr => .inl (oLsh (nat_lit 27) (fun a b => gN (Int64.ofNat a >>> ((Int32.ofNat b).toInt64 &&& 63))))
  | .lushr => .inl (oLsh (nat_lit 28) (fun a b => gN ((Int64.ofNat a).toUInt64 >>> ((Int32.ofNat b).toInt64.toUInt64 &&& Int64.toUInt64 63)).toInt64))
  | .ldiv => .inl (oLdv (nat_lit 29) (fJ (fun a b => a / b)))
  | .lrem => .inl (oLdv (nat_lit 30) (fJ (fun a b => a - a / b * b)))
  | .lcmp => .inl oLcmp
  | .dup => .inl oDup
  | .dup2 => .inl oDup2
  | .goto t => .inl (sIz t oGoto)
  | .ifCond c t => .inl (sIz t (oIf c))
  | .if_icmp c t => .inl (sIz t (oIf2 c))
  | .lookupswitch d ps => .inl (sIz d (fun d => oSw d ps.toList))
  | .getfield n => .inl (oGetf n)
  | .putfield n => .inl (oPutI n)
  | .putstatic n => .inl (oPutZ n)
  | .instanceof n => .inl (oPutJ n)
  | .checkcast n => .inl (oPutR n)
  | .getstatic j => .inl (oGets j)
  | .iaload => .inl oIaload
  | .baload => .inl oBaload
  | .laload => .inl oLaload
  | .aaload => .inl oAaload
  | .iastore => .inl oIastore
  | .bastore => .inl oBastore
  | .lastore => .inl oLastore
  | .invokedynamic n => .inl (oDyn n)
  | .arraylength => .inl oLen
  | .invokestatic n => .inr (.inl n)
  | .invokevirtual n => .inr (.inl n)
  | .invokespecial n => .inr (.inl n)
  | .return_ => .inr (.inr (nat_lit 0))
  | .ireturn => .inr (.inr (nat_lit 1))
  | .lreturn => .inr (.inr (nat_lit 2))
  | .areturn => .inr (.inr (nat_lit 3))
  | _ => .inr (.inr (nat_lit 9))
end
section
/-! 06: the executor with calls -/
/-- a method: its instructions; maxLocals, how many arguments (this among them), its class' number where it is called on an object (else 99), what it returns (0 nothing, 1 int, 2 boolean, 3 long, 4 a reference) -/
abbrev sMe : Type := Lean.RArray sIn × Nat × Nat × Nat × Nat
noncomputable def sPop (n : Nat) : List sV → List sV → (List sV → List sV → Bool) → Bool := Nat.rec (motive := fun _ => List sV → List sV → (List sV → List sV → Bool) → Bool) (fun st as k => k as st) (fun _ ih st as k => sTop st (fun v st => ih st (v :: as) k)) n
/-- the locals at a method's entry -/
noncomputable def sEnt (as : List sV) : Nat → (sL → Bool) → Bool := List.rec (motive := fun _ => Nat → (sL → Bool) → Bool) (fun n k => Nat.rec (motive := fun _ => (sL → Bool) → Bool) (fun k => k []) (fun _ ih k => ih (fun L => k (none :: L))) n k)
  (fun v _ ih n k => Bool.rec (motive := fun _ => Bool)
    (Nat.rec (motive := fun _ => Bool) false (fun m _ => Nat.rec (motive := fun _ => Bool) false (fun m _ => ih m (fun L => k (some v :: none :: L))) m) n)
    (Nat.rec (motive := fun _ => Bool) false (fun m _ => ih m (fun L => k (some v :: L))) n) (Nat.beq (sCat v) (nat_lit 1))) as
noncomputable def sRecv (mem : sM) (ci : Nat) (as : List sV) (k : Bool) : Bool := Bool.rec (motive := fun _ => Bool) (sTR as (fun q _ => sCell mem q (nat_lit 0) (fun cj _ => sIf (Nat.beq cj ci) k))) k (Nat.beq ci (nat_lit 99))
abbrev sKr : Type := Option sV → List sK → sM → Bool
abbrev sKs : Type := Nat → sL → List sV → List sK → sM → Bool
noncomputable def sRet (rk o : Nat) (st : List sV) (k : Option sV → Bool) : Bool :=
  Bool.rec (motive := fun _ => Bool)
    (Bool.rec (motive := fun _ => Bool)
      (Bool.rec (motive := fun _ => Bool)
        (sIf (Nat.beq o (nat_lit 3)) (sTR st (fun x st => sNil st (sIf (Nat.beq rk (nat_lit 4)) (k (some (.inr (.inr (some x)))))))))
        (sTL st (fun x st => sNil st (sIf (Nat.beq rk (nat_lit 3)) (k (some (.inr (.inl x))))))) (Nat.beq o (nat_lit 2)))
      (sTI st (fun x st => sNil st (Bool.rec (motive := fun _ => Bool) (sIf (Nat.beq rk (nat_lit 2)) (sNum x (fun n => sIf (Nat.ble n (nat_lit 1)) (k (some (.inl (.natCast n))))))) (k (some (.inl x))) (Nat.beq rk (nat_lit 1))))) (Nat.beq o (nat_lit 1)))
    (sIf (Nat.beq rk (nat_lit 0)) (sNil st (k none))) (Nat.beq o (nat_lit 0))
noncomputable def sPush (v : Option sV) (st : List sV) (k : List sV → Bool) : Bool := Option.rec (motive := fun _ => Bool) (k st) (fun v => k (v :: st)) v
/-- the executor: fuel, depth, the method, where to stop, what to do there and at the end -/
noncomputable def sx (PG : Nat → sMe) (fuel : Nat) : Nat → sMe → (Nat → Bool) → sKs → sKr → sGo := Nat.rec (motive := fun _ => Nat → sMe → (Nat → Bool) → sKs → sKr → sGo)
  (fun _ _ _ _ _ _ _ _ _ _ => false)
  (fun _ ih d me stop ks kr pc L st pa mem => Bool.rec (motive := fun _ => Bool)
    (Prod.rec (motive := fun _ => Bool) (fun pc1 w => Prod.rec (motive := fun _ => Bool) (fun ir w => sIf (Nat.beq pc pc1) (Sum.rec (motive := fun _ => Bool)
      (fun h => h w.1 L st pa mem (ih d me stop ks kr))
      (fun z => Sum.rec (motive := fun _ => Bool)
        (fun mi => Nat.rec (motive := fun _ => Bool) false (fun d1 _ => (fun cal : sMe => sPop cal.2.2.1 st [] (fun as st => sIf (Nat.ble (sCats st) (nat_lit 8)) (sRecv mem cal.2.2.2.1 as (sEnt as cal.2.1 (fun L1 =>
          ih d1 cal (fun _ => false) (fun _ _ _ _ _ => false) (fun v pa mem => sPush v st (fun st => ih d me stop ks kr w.1 L st pa mem)) (nat_lit 0) L1 [] pa mem))))) (PG mi)) d)
        (fun o => sRet me.2.2.2.2 o st (fun v => kr v pa mem)) z) (sOp ir))) w) (me.1.get pc))
    (ks pc L st pa mem) (stop pc)) fuel
end
section
/-! 07: the program for the executor (by wip/whole/gen.py) -/
abbrev sMi : Type := MethodName × ByteArray × Nat × Option FieldType
set_option maxRecDepth 100000 in
def pg_1 : Lean.RArray sIn := (.branch 14 (.branch 5 (.branch 2 (.branch 1 (.leaf (0, .ldc 0, 1, 0)) (.leaf (1, .istore 1, 2, 0))) (.branch 3 (.leaf (2, .iload 1, 3, 0)) (.leaf (3, .ldc 6, 5, 0)))) (.branch 9 (.branch 8 (.leaf (5, .if_icmp .ge 28, 8, 0)) (.leaf (8, .aload 0, 9, 0))) (.branch 12 (.leaf (9, .getfield 0, 12, 179)) (.branch 13 (.leaf (12, .iload 1, 13, 0)) (.leaf (13, .ldc2_w 0, 14, 0)))))) (.branch 20 (.branch 16 (.branch 15 (.leaf (14, .lastore, 15, 0)) (.leaf (15, .aload 0, 16, 0))) (.branch 19 (.leaf (16, .getfield 1, 19, 181)) (.leaf (19, .iload 1, 20, 0)))) (.branch 22 (.branch 21 (.leaf (20, .ldc2_w 1, 21, 0)) (.leaf (21, .lastore, 22, 0))) (.branch 25 (.leaf (22, .iinc 1 1, 25, 0)) (.branch 28 (.leaf (25, .goto 2, 28, 0)) (.leaf (28, .return_, 29, 0)))))))
set_option maxRecDepth 100000 in
def pg_2 : Lean.RArray sIn := (.branch 44 (.branch 20 (.branch 10 (.branch 5 (.branch 1 (.leaf (0, .aload 0, 1, 0)) (.branch 4 (.leaf (1, .getfield 0, 4, 179)) (.leaf (4, .iload 1, 5, 0)))) (.branch 8 (.branch 6 (.leaf (5, .laload, 6, 0)) (.leaf (6, .lload 4, 8, 0))) (.branch 9 (.leaf (8, .lmul, 9, 0)) (.leaf (9, .lload 2, 10, 0))))) (.branch 15 (.branch 11 (.leaf (10, .aload 0, 11, 0)) (.branch 14 (.leaf (11, .getfield 1, 14, 181)) (.leaf (14, .iload 1, 15, 0)))) (.branch 17 (.branch 16 (.leaf (15, .laload, 16, 0)) (.leaf (16, .lmul, 17, 0))) (.branch 18 (.leaf (17, .ladd, 18, 0)) (.leaf (18, .lstore 6, 20, 0)))))) (.branch 31 (.branch 25 (.branch 21 (.leaf (20, .aload 0, 21, 0)) (.branch 24 (.leaf (21, .getfield 1, 24, 181)) (.leaf (24, .iload 1, 25, 0)))) (.branch 28 (.branch 26 (.leaf (25, .laload, 26, 0)) (.leaf (26, .lload 4, 28, 0))) (.branch 29 (.leaf (28, .lmul, 29, 0)) (.leaf (29, .lstore 8, 31, 0))))) (.branch 38 (.branch 33 (.leaf (31, .lload 6, 33, 0)) (.branch 35 (.leaf (33, .lload 8, 35, 0)) (.leaf (35, .invokestatic 3, 38, 412)))) (.branch 42 (.branch 40 (.leaf (38, .lstore 10, 40, 0)) (.leaf (40, .lload 10, 42, 0))) (.branch 43 (.leaf (42, .ldc2_w 0, 43, 0)) (.leaf (43, .lcmp, 44, 0))))))) (.branch 70 (.branch 57 (.branch 50 (.branch 47 (.leaf (44, .ifCond .eq 54, 47, 0)) (.branch 49 (.leaf (47, .lload 8, 49, 0)) (.leaf (49, .ldc2_w 0, 50, 0)))) (.branch 54 (.branch 51 (.leaf (50, .lcmp, 51, 0)) (.leaf (51, .ifCond .ne 55, 54, 0))) (.branch 55 (.leaf (54, .return_, 55, 0)) (.leaf (55, .lload 8, 57, 0))))) (.branch 63 (.branch 60 (.leaf (57, .invokestatic 232, 60, 418)) (.branch 61 (.leaf (60, .i2l, 61, 0)) (.leaf (61, .lstore 12, 63, 0)))) (.branch 67 (.branch 64 (.leaf (63, .aload 0, 64, 0)) (.leaf (64, .getfield 0, 67, 179))) (.branch 68 (.leaf (67, .iload 1, 68, 0)) (.leaf (68, .lload 6, 70, 0)))))) (.branch 81 (.branch 75 (.branch 72 (.leaf (70, .lload 10, 72, 0)) (.branch 73 (.leaf (72, .ldiv, 73, 0)) (.leaf (73, .lload 12, 75, 0)))) (.branch 77 (.branch 76 (.leaf (75, .lmul, 76, 0)) (.leaf (76, .lastore, 77, 0))) (.branch 78 (.leaf (77, .aload 0, 78, 0)) (.leaf (78, .getfield 1, 81, 181))))) (.branch 87 (.branch 84 (.branch 82 (.leaf (81, .iload 1, 82, 0)) (.leaf (82, .lload 8, 84, 0))) (.branch 86 (.leaf (84, .lload 10, 86, 0)) (.leaf (86, .ldiv, 87, 0)))) (.branch 90 (.branch 89 (.leaf (87, .lload 12, 89, 0)) (.leaf (89, .lmul, 90, 0))) (.branch 91 (.leaf (90, .lastore, 91, 0)) (.leaf (91, .return_, 92, 0))))))))
set_option maxRecDepth 100000 in
def pg_3 : Lean.RArray sIn := (.branch 26 (.branch 12 (.branch 6 (.branch 1 (.leaf (0, .lload 0, 1, 0)) (.branch 4 (.leaf (1, .invokedynamic 1, 4, 415)) (.leaf (4, .lstore 4, 6, 0)))) (.branch 7 (.leaf (6, .lload 2, 7, 0)) (.branch 10 (.leaf (7, .invokedynamic 1, 10, 415)) (.leaf (10, .lstore 6, 12, 0))))) (.branch 17 (.branch 13 (.leaf (12, .ldc 0, 13, 0)) (.branch 15 (.leaf (13, .istore 8, 15, 0)) (.leaf (15, .iload 8, 17, 0)))) (.branch 23 (.branch 20 (.leaf (17, .ldc 200, 20, 0)) (.leaf (20, .if_icmp .ge 51, 23, 0))) (.branch 25 (.leaf (23, .lload 6, 25, 0)) (.leaf (25, .ldc2_w 0, 26, 0)))))) (.branch 39 (.branch 32 (.branch 27 (.leaf (26, .lcmp, 27, 0)) (.branch 30 (.leaf (27, .ifCond .eq 51, 30, 0)) (.leaf (30, .lload 4, 32, 0)))) (.branch 35 (.branch 34 (.leaf (32, .lload 6, 34, 0)) (.leaf (34, .lrem, 35, 0))) (.branch 37 (.leaf (35, .lstore 9, 37, 0)) (.leaf (37, .lload 6, 39, 0))))) (.branch 45 (.branch 41 (.leaf (39, .lstore 4, 41, 0)) (.branch 43 (.leaf (41, .lload 9, 43, 0)) (.leaf (43, .lstore 6, 45, 0)))) (.branch 51 (.branch 48 (.leaf (45, .iinc 8 1, 48, 0)) (.leaf (48, .goto 15, 51, 0))) (.branch 53 (.leaf (51, .lload 4, 53, 0)) (.leaf (53, .lreturn, 54, 0)))))))
set_option maxRecDepth 100000 in
def pg_4 : Lean.RArray sIn := (.branch 10 (.branch 5 (.branch 1 (.leaf (0, .iload 2, 1, 0)) (.branch 4 (.leaf (1, .ifCond .ne 13, 4, 0)) (.leaf (4, .aload 0, 5, 0)))) (.branch 8 (.leaf (5, .getfield 0, 8, 179)) (.branch 9 (.leaf (8, .iload 1, 9, 0)) (.leaf (9, .laload, 10, 0))))) (.branch 17 (.branch 13 (.leaf (10, .goto 19, 13, 0)) (.branch 14 (.leaf (13, .aload 0, 14, 0)) (.leaf (14, .getfield 1, 17, 181)))) (.branch 18 (.leaf (17, .iload 1, 18, 0)) (.branch 19 (.leaf (18, .laload, 19, 0)) (.leaf (19, .lreturn, 20, 0))))))
set_option maxRecDepth 100000 in
def pg_6 : Lean.RArray sIn := (.branch 5 (.branch 2 (.branch 1 (.leaf (0, .iload 0, 1, 0)) (.leaf (1, .ldc 4, 2, 0))) (.branch 3 (.leaf (2, .iload 1, 3, 0)) (.branch 4 (.leaf (3, .ldc 1, 4, 0)) (.leaf (4, .isub, 5, 0))))) (.branch 7 (.branch 6 (.leaf (5, .imul, 6, 0)) (.leaf (6, .ishr, 7, 0))) (.branch 9 (.leaf (7, .ldc 15, 9, 0)) (.branch 10 (.leaf (9, .iand, 10, 0)) (.leaf (10, .ireturn, 11, 0))))))
set_option maxRecDepth 100000 in
def pg_7 : Lean.RArray sIn := (.branch 10 (.branch 4 (.branch 2 (.branch 1 (.leaf (0, .ldc 4, 1, 0)) (.leaf (1, .iload 1, 2, 0))) (.branch 3 (.leaf (2, .ldc 1, 3, 0)) (.leaf (3, .isub, 4, 0)))) (.branch 6 (.branch 5 (.leaf (4, .imul, 5, 0)) (.leaf (5, .istore 3, 6, 0))) (.branch 7 (.leaf (6, .iload 0, 7, 0)) (.branch 9 (.leaf (7, .ldc 15, 9, 0)) (.leaf (9, .iload 3, 10, 0)))))) (.branch 14 (.branch 12 (.branch 11 (.leaf (10, .ishl, 11, 0)) (.leaf (11, .ldc 4294967295, 12, 0))) (.branch 13 (.leaf (12, .ixor, 13, 0)) (.leaf (13, .iand, 14, 0)))) (.branch 16 (.branch 15 (.leaf (14, .iload 2, 15, 0)) (.leaf (15, .iload 3, 16, 0))) (.branch 17 (.leaf (16, .ishl, 17, 0)) (.branch 18 (.leaf (17, .ior, 18, 0)) (.leaf (18, .ireturn, 19, 0)))))))
set_option maxRecDepth 100000 in
def pg_8 : Lean.RArray sIn := (.branch 13 (.branch 6 (.branch 3 (.branch 2 (.leaf (0, .ldc 344865, 2, 428)) (.leaf (2, .istore 2, 3, 0))) (.branch 4 (.leaf (3, .ldc 1, 4, 0)) (.branch 5 (.leaf (4, .istore 3, 5, 0)) (.leaf (5, .iload 3, 6, 0))))) (.branch 10 (.branch 7 (.leaf (6, .ldc 5, 7, 0)) (.leaf (7, .if_icmp .gt 31, 10, 0))) (.branch 11 (.leaf (10, .iload 2, 11, 0)) (.branch 12 (.leaf (11, .iload 3, 12, 0)) (.leaf (12, .iload 0, 13, 0)))))) (.branch 24 (.branch 15 (.branch 14 (.leaf (13, .iload 1, 14, 0)) (.leaf (14, .iload 3, 15, 0))) (.branch 18 (.leaf (15, .invokestatic 6, 18, 578)) (.branch 21 (.leaf (18, .invokestatic 6, 21, 578)) (.leaf (21, .invokestatic 7, 24, 429))))) (.branch 28 (.branch 25 (.leaf (24, .istore 2, 25, 0)) (.leaf (25, .iinc 3 1, 28, 0))) (.branch 31 (.leaf (28, .goto 5, 31, 0)) (.branch 32 (.leaf (31, .iload 2, 32, 0)) (.leaf (32, .ireturn, 33, 0)))))))
set_option maxRecDepth 100000 in
def pg_9 : Lean.RArray sIn := (.branch 12 (.branch 5 (.branch 3 (.branch 2 (.leaf (0, .ldc 344865, 2, 428)) (.leaf (2, .istore 1, 3, 0))) (.branch 4 (.leaf (3, .ldc 1, 4, 0)) (.leaf (4, .istore 2, 5, 0)))) (.branch 7 (.branch 6 (.leaf (5, .iload 2, 6, 0)) (.leaf (6, .ldc 5, 7, 0))) (.branch 10 (.leaf (7, .if_icmp .gt 27, 10, 0)) (.branch 11 (.leaf (10, .iload 1, 11, 0)) (.leaf (11, .iload 0, 12, 0)))))) (.branch 20 (.branch 16 (.branch 13 (.leaf (12, .iload 2, 13, 0)) (.leaf (13, .invokestatic 6, 16, 578))) (.branch 17 (.leaf (16, .iload 2, 17, 0)) (.leaf (17, .invokestatic 7, 20, 429)))) (.branch 24 (.branch 21 (.leaf (20, .istore 1, 21, 0)) (.leaf (21, .iinc 2 1, 24, 0))) (.branch 27 (.leaf (24, .goto 5, 27, 0)) (.branch 28 (.leaf (27, .iload 1, 28, 0)) (.leaf (28, .ireturn, 29, 0)))))))
set_option maxRecDepth 100000 in
def pg_10 : Lean.RArray sIn := (.branch 9 (.branch 4 (.branch 2 (.leaf (0, .ldc 344865, 2, 428)) (.branch 3 (.leaf (2, .iload 0, 3, 0)) (.leaf (3, .iload 0, 4, 0)))) (.branch 5 (.leaf (4, .ldc 1, 5, 0)) (.branch 6 (.leaf (5, .iadd, 6, 0)) (.leaf (6, .invokestatic 7, 9, 429))))) (.branch 12 (.branch 10 (.leaf (9, .iload 0, 10, 0)) (.branch 11 (.leaf (10, .ldc 1, 11, 0)) (.leaf (11, .iadd, 12, 0)))) (.branch 13 (.leaf (12, .iload 0, 13, 0)) (.branch 16 (.leaf (13, .invokestatic 7, 16, 429)) (.leaf (16, .ireturn, 17, 0))))))
set_option maxRecDepth 100000 in
def pg_11 : Lean.RArray sIn := (.branch 17 (.branch 6 (.branch 3 (.branch 1 (.leaf (0, .ldc 0, 1, 0)) (.branch 2 (.leaf (1, .istore 1, 2, 0)) (.leaf (2, .ldc 2, 3, 0)))) (.branch 4 (.leaf (3, .istore 2, 4, 0)) (.branch 5 (.leaf (4, .iload 2, 5, 0)) (.leaf (5, .ldc 5, 6, 0))))) (.branch 11 (.branch 9 (.leaf (6, .if_icmp .gt 44, 9, 0)) (.branch 10 (.leaf (9, .ldc 1, 10, 0)) (.leaf (10, .istore 3, 11, 0)))) (.branch 13 (.branch 12 (.leaf (11, .iload 3, 12, 0)) (.leaf (12, .iload 2, 13, 0))) (.branch 16 (.leaf (13, .if_icmp .ge 38, 16, 0)) (.leaf (16, .iload 0, 17, 0)))))) (.branch 29 (.branch 22 (.branch 18 (.leaf (17, .iload 3, 18, 0)) (.branch 21 (.leaf (18, .invokestatic 6, 21, 578)) (.leaf (21, .iload 0, 22, 0)))) (.branch 23 (.leaf (22, .iload 2, 23, 0)) (.branch 26 (.leaf (23, .invokestatic 6, 26, 578)) (.leaf (26, .if_icmp .le 32, 29, 0))))) (.branch 38 (.branch 32 (.leaf (29, .iinc 1 1, 32, 0)) (.branch 35 (.leaf (32, .iinc 3 1, 35, 0)) (.leaf (35, .goto 11, 38, 0)))) (.branch 44 (.branch 41 (.leaf (38, .iinc 2 1, 41, 0)) (.leaf (41, .goto 4, 44, 0))) (.branch 45 (.leaf (44, .iload 1, 45, 0)) (.leaf (45, .ireturn, 46, 0)))))))
set_option maxRecDepth 100000 in
def pg_12 : Lean.RArray sIn := (.branch 17 (.branch 7 (.branch 2 (.branch 1 (.leaf (0, .iload 0, 1, 0)) (.leaf (1, .istore 2, 2, 0))) (.branch 3 (.leaf (2, .iload 2, 3, 0)) (.branch 6 (.leaf (3, .invokestatic 13, 6, 631)) (.leaf (6, .istore 3, 7, 0))))) (.branch 12 (.branch 8 (.leaf (7, .ldc 0, 8, 0)) (.branch 10 (.leaf (8, .istore 4, 10, 0)) (.leaf (10, .iload 4, 12, 0)))) (.branch 13 (.leaf (12, .iload 1, 13, 0)) (.branch 16 (.leaf (13, .if_icmp .ge 36, 16, 0)) (.leaf (16, .iload 3, 17, 0)))))) (.branch 26 (.branch 21 (.branch 20 (.leaf (17, .invokestatic 10, 20, 635)) (.leaf (20, .iload 2, 21, 0))) (.branch 24 (.leaf (21, .invokestatic 8, 24, 636)) (.branch 25 (.leaf (24, .istore 2, 25, 0)) (.leaf (25, .iload 2, 26, 0))))) (.branch 33 (.branch 29 (.leaf (26, .invokestatic 13, 29, 631)) (.branch 30 (.leaf (29, .istore 3, 30, 0)) (.leaf (30, .iinc 4 1, 33, 0)))) (.branch 36 (.leaf (33, .goto 10, 36, 0)) (.branch 37 (.leaf (36, .iload 3, 37, 0)) (.leaf (37, .ireturn, 38, 0)))))))
set_option maxRecDepth 100000 in
def pg_13 : Lean.RArray sIn := (.branch 17 (.branch 7 (.branch 4 (.branch 1 (.leaf (0, .iload 0, 1, 0)) (.leaf (1, .invokestatic 9, 4, 634))) (.branch 5 (.leaf (4, .istore 1, 5, 0)) (.branch 6 (.leaf (5, .ldc 1, 6, 0)) (.leaf (6, .istore 2, 7, 0))))) (.branch 12 (.branch 8 (.leaf (7, .iload 2, 8, 0)) (.branch 9 (.leaf (8, .ldc 5, 9, 0)) (.leaf (9, .if_icmp .ge 35, 12, 0)))) (.branch 13 (.leaf (12, .iload 1, 13, 0)) (.branch 14 (.leaf (13, .iload 2, 14, 0)) (.leaf (14, .invokestatic 6, 17, 578)))))) (.branch 27 (.branch 20 (.branch 18 (.leaf (17, .iload 1, 18, 0)) (.branch 19 (.leaf (18, .iload 2, 19, 0)) (.leaf (19, .ldc 1, 20, 0)))) (.branch 21 (.leaf (20, .iadd, 21, 0)) (.branch 24 (.leaf (21, .invokestatic 6, 24, 578)) (.leaf (24, .if_icmp .le 29, 27, 0))))) (.branch 32 (.branch 28 (.leaf (27, .iload 2, 28, 0)) (.branch 29 (.leaf (28, .ireturn, 29, 0)) (.leaf (29, .iinc 2 1, 32, 0)))) (.branch 35 (.leaf (32, .goto 7, 35, 0)) (.branch 36 (.leaf (35, .ldc 1, 36, 0)) (.leaf (36, .ireturn, 37, 0)))))))
set_option maxRecDepth 100000 in
def pg_14 : Lean.RArray sIn := (.branch 28 (.branch 10 (.branch 4 (.branch 2 (.branch 1 (.leaf (0, .ldc 0, 1, 0)) (.leaf (1, .istore 2, 2, 0))) (.branch 3 (.leaf (2, .ldc 0, 3, 0)) (.leaf (3, .istore 3, 4, 0)))) (.branch 7 (.branch 5 (.leaf (4, .iload 1, 5, 0)) (.leaf (5, .istore 4, 7, 0))) (.branch 9 (.leaf (7, .iload 4, 9, 0)) (.leaf (9, .ldc 1, 10, 0))))) (.branch 18 (.branch 14 (.branch 13 (.leaf (10, .if_icmp .lt 65, 13, 0)) (.leaf (13, .ldc 1, 14, 0))) (.branch 16 (.leaf (14, .istore 5, 16, 0)) (.leaf (16, .iload 5, 18, 0)))) (.branch 22 (.branch 19 (.leaf (18, .iload 1, 19, 0)) (.leaf (19, .if_icmp .gt 59, 22, 0))) (.branch 23 (.leaf (22, .iload 0, 23, 0)) (.branch 25 (.leaf (23, .iload 5, 25, 0)) (.leaf (25, .invokestatic 15, 28, 615))))))) (.branch 46 (.branch 36 (.branch 33 (.branch 30 (.leaf (28, .iload 4, 30, 0)) (.leaf (30, .if_icmp .ne 53, 33, 0))) (.branch 34 (.leaf (33, .iload 0, 34, 0)) (.leaf (34, .iload 5, 36, 0)))) (.branch 42 (.branch 39 (.leaf (36, .invokestatic 16, 39, 618)) (.leaf (39, .ifCond .eq 53, 42, 0))) (.branch 43 (.leaf (42, .iload 2, 43, 0)) (.branch 44 (.leaf (43, .iload 3, 44, 0)) (.leaf (44, .iload 4, 46, 0)))))) (.branch 56 (.branch 50 (.branch 49 (.leaf (46, .invokestatic 20, 49, 621)) (.leaf (49, .istore 2, 50, 0))) (.branch 53 (.leaf (50, .iinc 3 1, 53, 0)) (.leaf (53, .iinc 5 1, 56, 0)))) (.branch 62 (.branch 59 (.leaf (56, .goto 16, 59, 0)) (.leaf (59, .iinc 4 4294967295, 62, 0))) (.branch 65 (.leaf (62, .goto 7, 65, 0)) (.branch 66 (.leaf (65, .iload 2, 66, 0)) (.leaf (66, .ireturn, 67, 0))))))))
set_option maxRecDepth 100000 in
def pg_15 : Lean.RArray sIn := (.branch 14 (.branch 7 (.branch 2 (.branch 1 (.leaf (0, .ldc 1, 1, 0)) (.leaf (1, .istore 2, 2, 0))) (.branch 3 (.leaf (2, .iload 0, 3, 0)) (.branch 4 (.leaf (3, .iload 1, 4, 0)) (.leaf (4, .invokestatic 6, 7, 578))))) (.branch 9 (.branch 8 (.leaf (7, .istore 3, 8, 0)) (.leaf (8, .iload 3, 9, 0))) (.branch 10 (.leaf (9, .iload 1, 10, 0)) (.branch 13 (.leaf (10, .if_icmp .eq 30, 13, 0)) (.leaf (13, .iload 2, 14, 0)))))) (.branch 23 (.branch 18 (.branch 15 (.leaf (14, .ldc 5, 15, 0)) (.leaf (15, .if_icmp .ge 30, 18, 0))) (.branch 21 (.leaf (18, .iinc 2 1, 21, 0)) (.branch 22 (.leaf (21, .iload 0, 22, 0)) (.leaf (22, .iload 3, 23, 0))))) (.branch 27 (.branch 26 (.leaf (23, .invokestatic 6, 26, 578)) (.leaf (26, .istore 3, 27, 0))) (.branch 30 (.leaf (27, .goto 8, 30, 0)) (.branch 31 (.leaf (30, .iload 2, 31, 0)) (.leaf (31, .ireturn, 32, 0)))))))
set_option maxRecDepth 100000 in
def pg_16 : Lean.RArray sIn := (.branch 14 (.branch 5 (.branch 2 (.branch 1 (.leaf (0, .iload 1, 1, 0)) (.leaf (1, .istore 2, 2, 0))) (.branch 3 (.leaf (2, .ldc 0, 3, 0)) (.branch 4 (.leaf (3, .istore 3, 4, 0)) (.leaf (4, .iload 3, 5, 0))))) (.branch 9 (.branch 6 (.leaf (5, .ldc 5, 6, 0)) (.leaf (6, .if_icmp .ge 28, 9, 0))) (.branch 10 (.leaf (9, .iload 0, 10, 0)) (.branch 11 (.leaf (10, .iload 2, 11, 0)) (.leaf (11, .invokestatic 6, 14, 578)))))) (.branch 21 (.branch 16 (.branch 15 (.leaf (14, .istore 2, 15, 0)) (.leaf (15, .iload 2, 16, 0))) (.branch 17 (.leaf (16, .iload 1, 17, 0)) (.branch 20 (.leaf (17, .if_icmp .ge 22, 20, 0)) (.leaf (20, .ldc 0, 21, 0))))) (.branch 25 (.branch 22 (.leaf (21, .ireturn, 22, 0)) (.leaf (22, .iinc 3 1, 25, 0))) (.branch 28 (.leaf (25, .goto 4, 28, 0)) (.branch 29 (.leaf (28, .ldc 1, 29, 0)) (.leaf (29, .ireturn, 30, 0)))))))
set_option maxRecDepth 100000 in
def pg_17 : Lean.RArray sIn := (.branch 33 (.branch 16 (.branch 6 (.branch 3 (.branch 2 (.leaf (0, .ldc 344865, 2, 428)) (.leaf (2, .istore 1, 3, 0))) (.branch 4 (.leaf (3, .ldc 1, 4, 0)) (.branch 5 (.leaf (4, .istore 2, 5, 0)) (.leaf (5, .ldc 0, 6, 0))))) (.branch 9 (.branch 7 (.leaf (6, .istore 3, 7, 0)) (.branch 8 (.leaf (7, .iload 3, 8, 0)) (.leaf (8, .iload 0, 9, 0)))) (.branch 12 (.leaf (9, .invokestatic 21, 12, 710)) (.branch 15 (.leaf (12, .if_icmp .ge 72, 15, 0)) (.leaf (15, .iload 2, 16, 0)))))) (.branch 23 (.branch 18 (.branch 17 (.leaf (16, .iload 0, 17, 0)) (.leaf (17, .iload 3, 18, 0))) (.branch 21 (.leaf (18, .invokestatic 19, 21, 711)) (.branch 22 (.leaf (21, .iadd, 22, 0)) (.leaf (22, .ldc 1, 23, 0))))) (.branch 27 (.branch 24 (.leaf (23, .isub, 24, 0)) (.branch 26 (.leaf (24, .istore 4, 26, 0)) (.leaf (26, .iload 2, 27, 0)))) (.branch 29 (.leaf (27, .istore 5, 29, 0)) (.branch 31 (.leaf (29, .iload 5, 31, 0)) (.leaf (31, .iload 4, 33, 0))))))) (.branch 54 (.branch 42 (.branch 37 (.branch 36 (.leaf (33, .if_icmp .ge 53, 36, 0)) (.leaf (36, .iload 1, 37, 0))) (.branch 39 (.leaf (37, .iload 5, 39, 0)) (.branch 41 (.leaf (39, .iload 5, 41, 0)) (.leaf (41, .ldc 1, 42, 0))))) (.branch 47 (.branch 43 (.leaf (42, .iadd, 43, 0)) (.branch 46 (.leaf (43, .invokestatic 7, 46, 429)) (.leaf (46, .istore 1, 47, 0)))) (.branch 50 (.leaf (47, .iinc 5 1, 50, 0)) (.branch 53 (.leaf (50, .goto 29, 53, 0)) (.leaf (53, .iload 1, 54, 0)))))) (.branch 64 (.branch 60 (.branch 56 (.leaf (54, .iload 4, 56, 0)) (.branch 57 (.leaf (56, .iload 2, 57, 0)) (.leaf (57, .invokestatic 7, 60, 429)))) (.branch 61 (.leaf (60, .istore 1, 61, 0)) (.branch 63 (.leaf (61, .iload 4, 63, 0)) (.leaf (63, .ldc 1, 64, 0))))) (.branch 69 (.branch 65 (.leaf (64, .iadd, 65, 0)) (.branch 66 (.leaf (65, .istore 2, 66, 0)) (.leaf (66, .iinc 3 1, 69, 0)))) (.branch 72 (.leaf (69, .goto 7, 72, 0)) (.branch 73 (.leaf (72, .iload 1, 73, 0)) (.leaf (73, .ireturn, 74, 0))))))))
set_option maxRecDepth 100000 in
def pg_18 : Lean.RArray sIn := (.branch 12 (.branch 5 (.branch 3 (.branch 1 (.leaf (0, .iload 0, 1, 0)) (.leaf (1, .ldc 16, 3, 0))) (.branch 4 (.leaf (3, .ishl, 4, 0)) (.leaf (4, .iload 1, 5, 0)))) (.branch 8 (.branch 7 (.leaf (5, .ldc 12, 7, 0)) (.leaf (7, .ishl, 8, 0))) (.branch 9 (.leaf (8, .ior, 9, 0)) (.branch 10 (.leaf (9, .iload 2, 10, 0)) (.leaf (10, .ldc 8, 12, 0)))))) (.branch 16 (.branch 14 (.branch 13 (.leaf (12, .ishl, 13, 0)) (.leaf (13, .ior, 14, 0))) (.branch 15 (.leaf (14, .iload 3, 15, 0)) (.leaf (15, .ldc 4, 16, 0)))) (.branch 18 (.branch 17 (.leaf (16, .ishl, 17, 0)) (.leaf (17, .ior, 18, 0))) (.branch 20 (.leaf (18, .iload 4, 20, 0)) (.branch 21 (.leaf (20, .ior, 21, 0)) (.leaf (21, .ireturn, 22, 0)))))))
set_option maxRecDepth 100000 in
def pg_19 : Lean.RArray sIn := (.branch 10 (.branch 5 (.branch 1 (.leaf (0, .iload 1, 1, 0)) (.branch 2 (.leaf (1, .ldc 5, 2, 0)) (.leaf (2, .if_icmp .ge 19, 5, 0)))) (.branch 8 (.branch 6 (.leaf (5, .iload 0, 6, 0)) (.leaf (6, .ldc 16, 8, 0))) (.branch 9 (.leaf (8, .ldc 4, 9, 0)) (.leaf (9, .iload 1, 10, 0))))) (.branch 15 (.branch 12 (.branch 11 (.leaf (10, .imul, 11, 0)) (.leaf (11, .isub, 12, 0))) (.branch 13 (.leaf (12, .ishr, 13, 0)) (.leaf (13, .ldc 15, 15, 0)))) (.branch 19 (.branch 16 (.leaf (15, .iand, 16, 0)) (.leaf (16, .goto 20, 19, 0))) (.branch 20 (.leaf (19, .ldc 0, 20, 0)) (.leaf (20, .ireturn, 21, 0))))))
set_option maxRecDepth 100000 in
def pg_20 : Lean.RArray sIn := (.branch 6 (.branch 2 (.branch 1 (.leaf (0, .iload 0, 1, 0)) (.leaf (1, .iload 2, 2, 0))) (.branch 4 (.leaf (2, .ldc 16, 4, 0)) (.branch 5 (.leaf (4, .ldc 4, 5, 0)) (.leaf (5, .iload 1, 6, 0))))) (.branch 8 (.branch 7 (.leaf (6, .imul, 7, 0)) (.leaf (7, .isub, 8, 0))) (.branch 9 (.leaf (8, .ishl, 9, 0)) (.branch 10 (.leaf (9, .ior, 10, 0)) (.leaf (10, .ireturn, 11, 0))))))
set_option maxRecDepth 100000 in
def pg_21 : Lean.RArray sIn := (.branch 10 (.branch 4 (.branch 2 (.branch 1 (.leaf (0, .ldc 0, 1, 0)) (.leaf (1, .istore 1, 2, 0))) (.branch 3 (.leaf (2, .ldc 0, 3, 0)) (.leaf (3, .istore 2, 4, 0)))) (.branch 6 (.branch 5 (.leaf (4, .iload 2, 5, 0)) (.leaf (5, .ldc 5, 6, 0))) (.branch 9 (.leaf (6, .if_icmp .ge 26, 9, 0)) (.leaf (9, .iload 0, 10, 0))))) (.branch 20 (.branch 14 (.branch 11 (.leaf (10, .iload 2, 11, 0)) (.leaf (11, .invokestatic 19, 14, 492))) (.branch 17 (.leaf (14, .ifCond .le 20, 17, 0)) (.leaf (17, .iinc 1 1, 20, 0)))) (.branch 26 (.branch 23 (.leaf (20, .iinc 2 1, 23, 0)) (.leaf (23, .goto 4, 26, 0))) (.branch 27 (.leaf (26, .iload 1, 27, 0)) (.leaf (27, .ireturn, 28, 0))))))
set_option maxRecDepth 100000 in
def pg_22 : Lean.RArray sIn := (.branch 7 (.branch 4 (.branch 3 (.leaf (0, .getstatic 0, 3, 507)) (.leaf (3, .iload 0, 4, 0))) (.branch 5 (.leaf (4, .ldc 1, 5, 0)) (.branch 6 (.leaf (5, .iadd, 6, 0)) (.leaf (6, .iaload, 7, 0))))) (.branch 11 (.branch 10 (.leaf (7, .getstatic 0, 10, 507)) (.leaf (10, .iload 0, 11, 0))) (.branch 12 (.leaf (11, .iaload, 12, 0)) (.branch 13 (.leaf (12, .isub, 13, 0)) (.leaf (13, .ireturn, 14, 0))))))
set_option maxRecDepth 100000 in
def pg_23 : Lean.RArray sIn := (.branch 8 (.branch 6 (.branch 3 (.leaf (0, .getstatic 1, 3, 512)) (.leaf (3, .getstatic 0, 6, 507))) (.branch 7 (.leaf (6, .iload 0, 7, 0)) (.leaf (7, .iaload, 8, 0)))) (.branch 10 (.branch 9 (.leaf (8, .iload 1, 9, 0)) (.leaf (9, .iadd, 10, 0))) (.branch 11 (.leaf (10, .iaload, 11, 0)) (.leaf (11, .ireturn, 12, 0)))))
set_option maxRecDepth 100000 in
def pg_24 : Lean.RArray sIn := (.branch 12 (.branch 4 (.branch 2 (.branch 1 (.leaf (0, .ldc 0, 1, 0)) (.leaf (1, .istore 2, 2, 0))) (.branch 3 (.leaf (2, .iload 2, 3, 0)) (.leaf (3, .iload 0, 4, 0)))) (.branch 10 (.branch 7 (.leaf (4, .invokestatic 22, 7, 504)) (.leaf (7, .if_icmp .ge 27, 10, 0))) (.branch 11 (.leaf (10, .iload 0, 11, 0)) (.leaf (11, .iload 2, 12, 0))))) (.branch 20 (.branch 16 (.branch 15 (.leaf (12, .invokestatic 23, 15, 509)) (.leaf (15, .iload 1, 16, 0))) (.branch 19 (.leaf (16, .if_icmp .ne 21, 19, 0)) (.leaf (19, .iload 2, 20, 0)))) (.branch 24 (.branch 21 (.leaf (20, .ireturn, 21, 0)) (.leaf (21, .iinc 2 1, 24, 0))) (.branch 27 (.leaf (24, .goto 2, 27, 0)) (.branch 29 (.leaf (27, .ldc 4294967294, 29, 0)) (.leaf (29, .ireturn, 30, 0)))))))
set_option maxRecDepth 100000 in
def pg_26 : Lean.RArray sIn := (.branch 38 (.branch 17 (.branch 7 (.branch 2 (.branch 1 (.leaf (0, .aload 0, 1, 0)) (.leaf (1, .iload 2, 2, 0))) (.branch 5 (.leaf (2, .invokevirtual 27, 5, 818)) (.branch 6 (.leaf (5, .ldc 0, 6, 0)) (.leaf (6, .istore 3, 7, 0))))) (.branch 12 (.branch 8 (.leaf (7, .iload 3, 8, 0)) (.branch 9 (.leaf (8, .aload 1, 9, 0)) (.leaf (9, .getfield 448, 12, 249)))) (.branch 15 (.leaf (12, .if_icmp .ge 41, 15, 0)) (.branch 16 (.leaf (15, .aload 0, 16, 0)) (.leaf (16, .aload 1, 17, 0)))))) (.branch 26 (.branch 21 (.branch 20 (.leaf (17, .getfield 449, 20, 252)) (.leaf (20, .iload 3, 21, 0))) (.branch 22 (.leaf (21, .baload, 22, 0)) (.branch 23 (.leaf (22, .iload 3, 23, 0)) (.leaf (23, .invokevirtual 31, 26, 823))))) (.branch 31 (.branch 29 (.leaf (26, .ifCond .ne 35, 29, 0)) (.branch 30 (.leaf (29, .aload 0, 30, 0)) (.leaf (30, .iload 3, 31, 0)))) (.branch 34 (.leaf (31, .invokevirtual 28, 34, 883)) (.branch 35 (.leaf (34, .ireturn, 35, 0)) (.leaf (35, .iinc 3 1, 38, 0))))))) (.branch 61 (.branch 49 (.branch 42 (.branch 41 (.leaf (38, .goto 7, 41, 0)) (.leaf (41, .aload 0, 42, 0))) (.branch 45 (.leaf (42, .getfield 132, 45, 292)) (.branch 46 (.leaf (45, .ldc 3, 46, 0)) (.leaf (46, .if_icmp .ne 56, 49, 0))))) (.branch 56 (.branch 50 (.leaf (49, .aload 0, 50, 0)) (.branch 53 (.leaf (50, .getfield 131, 53, 291)) (.leaf (53, .ifCond .le 65, 56, 0)))) (.branch 57 (.leaf (56, .aload 0, 57, 0)) (.branch 58 (.leaf (57, .aload 1, 58, 0)) (.leaf (58, .getfield 448, 61, 249)))))) (.branch 74 (.branch 66 (.branch 64 (.leaf (61, .invokevirtual 28, 64, 883)) (.branch 65 (.leaf (64, .ireturn, 65, 0)) (.leaf (65, .aload 0, 66, 0)))) (.branch 69 (.leaf (66, .getfield 134, 69, 294)) (.branch 72 (.leaf (69, .ifCond .eq 77, 72, 0)) (.leaf (72, .ldc 4294967294, 74, 0))))) (.branch 81 (.branch 77 (.leaf (74, .goto 83, 77, 0)) (.branch 78 (.leaf (77, .aload 0, 78, 0)) (.leaf (78, .getfield 130, 81, 290)))) (.branch 82 (.leaf (81, .ldc 0, 82, 0)) (.branch 83 (.leaf (82, .iaload, 83, 0)) (.leaf (83, .ireturn, 84, 0))))))))
set_option maxRecDepth 100000 in
def pg_27 : Lean.RArray sIn := (.branch 19 (.branch 7 (.branch 2 (.branch 1 (.leaf (0, .aload 0, 1, 0)) (.leaf (1, .iload 1, 2, 0))) (.branch 5 (.leaf (2, .putfield 133, 5, 293)) (.branch 6 (.leaf (5, .aload 0, 6, 0)) (.leaf (6, .ldc 0, 7, 0))))) (.branch 14 (.branch 10 (.leaf (7, .putstatic 134, 10, 294)) (.branch 11 (.leaf (10, .aload 0, 11, 0)) (.leaf (11, .getfield 129, 14, 289)))) (.branch 15 (.leaf (14, .ldc 0, 15, 0)) (.branch 18 (.leaf (15, .putfield 512, 18, 273)) (.leaf (18, .aload 0, 19, 0)))))) (.branch 28 (.branch 23 (.branch 20 (.leaf (19, .ldc 0, 20, 0)) (.leaf (20, .putfield 131, 23, 291))) (.branch 24 (.leaf (23, .aload 0, 24, 0)) (.branch 27 (.leaf (24, .getfield 130, 27, 290)) (.leaf (27, .ldc 0, 28, 0))))) (.branch 32 (.branch 30 (.leaf (28, .ldc 344865, 30, 822)) (.branch 31 (.leaf (30, .iastore, 31, 0)) (.leaf (31, .aload 0, 32, 0)))) (.branch 33 (.leaf (32, .ldc 0, 33, 0)) (.branch 36 (.leaf (33, .putfield 132, 36, 292)) (.leaf (36, .return_, 37, 0)))))))
set_option maxRecDepth 100000 in
def pg_28 : Lean.RArray sIn := (.branch 6 (.branch 2 (.branch 1 (.leaf (0, .aload 0, 1, 0)) (.leaf (1, .ldc 1, 2, 0))) (.branch 3 (.leaf (2, .iload 1, 3, 0)) (.leaf (3, .invokevirtual 29, 6, 861)))) (.branch 9 (.branch 8 (.leaf (6, .ldc 4294967196, 8, 0)) (.leaf (8, .iload 1, 9, 0))) (.branch 10 (.leaf (9, .isub, 10, 0)) (.leaf (10, .ireturn, 11, 0)))))
set_option maxRecDepth 100000 in
def pg_29 : Lean.RArray sIn := (.branch 11 (.branch 4 (.branch 1 (.leaf (0, .aload 0, 1, 0)) (.leaf (1, .getfield 128, 4, 287))) (.branch 5 (.leaf (4, .aload 0, 5, 0)) (.branch 8 (.leaf (5, .getfield 129, 8, 289)) (.leaf (8, .invokevirtual 78, 11, 865))))) (.branch 16 (.branch 12 (.leaf (11, .aload 0, 12, 0)) (.branch 15 (.leaf (12, .getfield 128, 15, 287)) (.leaf (15, .iload 1, 16, 0)))) (.branch 17 (.leaf (16, .iload 2, 17, 0)) (.branch 20 (.leaf (17, .invokevirtual 77, 20, 835)) (.leaf (20, .return_, 21, 0))))))
set_option maxRecDepth 100000 in
def pg_30 : Lean.RArray sIn := (.branch 9 (.branch 4 (.branch 1 (.leaf (0, .aload 0, 1, 0)) (.leaf (1, .getfield 134, 4, 294))) (.branch 7 (.leaf (4, .ifCond .ne 18, 7, 0)) (.branch 8 (.leaf (7, .aload 0, 8, 0)) (.leaf (8, .ldc 1, 9, 0))))) (.branch 14 (.branch 12 (.leaf (9, .putstatic 134, 12, 294)) (.branch 13 (.leaf (12, .aload 0, 13, 0)) (.leaf (13, .ldc 4, 14, 0)))) (.branch 15 (.leaf (14, .iload 1, 15, 0)) (.branch 18 (.leaf (15, .invokevirtual 29, 18, 861)) (.leaf (18, .return_, 19, 0))))))
set_option maxRecDepth 100000 in
def pg_31 : Lean.RArray sIn := (.branch 42 (.branch 34 (.branch 4 (.branch 1 (.leaf (0, .aload 0, 1, 0)) (.leaf (1, .getfield 132, 4, 292))) (.branch 32 (.leaf (4, .lookupswitch 53 #[(0, 32), (1, 39), (2, 46)], 32, 0)) (.branch 33 (.leaf (32, .aload 0, 33, 0)) (.leaf (33, .iload 1, 34, 0))))) (.branch 39 (.branch 35 (.leaf (34, .iload 2, 35, 0)) (.branch 38 (.leaf (35, .invokevirtual 32, 38, 827)) (.leaf (38, .ireturn, 39, 0)))) (.branch 40 (.leaf (39, .aload 0, 40, 0)) (.branch 41 (.leaf (40, .iload 1, 41, 0)) (.leaf (41, .iload 2, 42, 0)))))) (.branch 49 (.branch 46 (.branch 45 (.leaf (42, .invokevirtual 34, 45, 849)) (.leaf (45, .ireturn, 46, 0))) (.branch 47 (.leaf (46, .aload 0, 47, 0)) (.branch 48 (.leaf (47, .iload 1, 48, 0)) (.leaf (48, .iload 2, 49, 0))))) (.branch 54 (.branch 52 (.leaf (49, .invokevirtual 36, 52, 870)) (.branch 53 (.leaf (52, .ireturn, 53, 0)) (.leaf (53, .aload 0, 54, 0)))) (.branch 55 (.leaf (54, .iload 1, 55, 0)) (.branch 58 (.leaf (55, .invokevirtual 38, 58, 879)) (.leaf (58, .ireturn, 59, 0)))))))
set_option maxRecDepth 100000 in
def pg_32 : Lean.RArray sIn := (.branch 70 (.branch 59 (.branch 53 (.branch 1 (.leaf (0, .iload 1, 1, 0)) (.branch 52 (.leaf (1, .lookupswitch 90 #[(40, 59), (91, 76), (101, 82), (115, 52), (126, 65)], 52, 0)) (.leaf (52, .aload 0, 53, 0)))) (.branch 57 (.branch 54 (.leaf (53, .ldc 1, 54, 0)) (.leaf (54, .putfield 132, 57, 292))) (.branch 58 (.leaf (57, .ldc 1, 58, 0)) (.leaf (58, .ireturn, 59, 0))))) (.branch 64 (.branch 60 (.leaf (59, .aload 0, 60, 0)) (.branch 63 (.leaf (60, .invokevirtual 35, 63, 831)) (.leaf (63, .ldc 1, 64, 0)))) (.branch 66 (.branch 65 (.leaf (64, .ireturn, 65, 0)) (.leaf (65, .aload 0, 66, 0))) (.branch 69 (.leaf (66, .getfield 129, 69, 289)) (.leaf (69, .ldc 3, 70, 0)))))) (.branch 81 (.branch 75 (.branch 71 (.leaf (70, .iload 2, 71, 0)) (.branch 74 (.leaf (71, .invokevirtual 77, 74, 835)) (.leaf (74, .ldc 1, 75, 0)))) (.branch 77 (.branch 76 (.leaf (75, .ireturn, 76, 0)) (.leaf (76, .aload 0, 77, 0))) (.branch 78 (.leaf (77, .iload 2, 78, 0)) (.leaf (78, .invokevirtual 33, 81, 839))))) (.branch 88 (.branch 83 (.branch 82 (.leaf (81, .ireturn, 82, 0)) (.leaf (82, .aload 0, 83, 0))) (.branch 85 (.leaf (83, .ldc 344865, 85, 822)) (.leaf (85, .invokevirtual 39, 88, 843)))) (.branch 90 (.branch 89 (.leaf (88, .ldc 1, 89, 0)) (.leaf (89, .ireturn, 90, 0))) (.branch 91 (.leaf (90, .ldc 0, 91, 0)) (.leaf (91, .ireturn, 92, 0)))))))
set_option maxRecDepth 100000 in
def pg_33 : Lean.RArray sIn := (.branch 20 (.branch 10 (.branch 5 (.branch 1 (.leaf (0, .aload 0, 1, 0)) (.branch 4 (.leaf (1, .getfield 131, 4, 291)) (.leaf (4, .ldc 3, 5, 0)))) (.branch 8 (.leaf (5, .if_icmp .lt 10, 8, 0)) (.branch 9 (.leaf (8, .ldc 0, 9, 0)) (.leaf (9, .ireturn, 10, 0))))) (.branch 15 (.branch 11 (.leaf (10, .aload 0, 11, 0)) (.branch 14 (.leaf (11, .getfield 129, 14, 289)) (.leaf (14, .ldc 2, 15, 0)))) (.branch 16 (.leaf (15, .iload 1, 16, 0)) (.branch 19 (.leaf (16, .invokevirtual 77, 19, 835)) (.leaf (19, .aload 0, 20, 0)))))) (.branch 30 (.branch 25 (.branch 21 (.leaf (20, .dup, 21, 0)) (.branch 24 (.leaf (21, .getfield 131, 24, 291)) (.leaf (24, .ldc 1, 25, 0)))) (.branch 26 (.leaf (25, .iadd, 26, 0)) (.branch 29 (.leaf (26, .putfield 131, 29, 291)) (.leaf (29, .aload 0, 30, 0))))) (.branch 37 (.branch 33 (.leaf (30, .getfield 130, 33, 290)) (.branch 34 (.leaf (33, .aload 0, 34, 0)) (.leaf (34, .getfield 131, 37, 291)))) (.branch 40 (.branch 39 (.leaf (37, .ldc 344865, 39, 822)) (.leaf (39, .iastore, 40, 0))) (.branch 41 (.leaf (40, .ldc 1, 41, 0)) (.leaf (41, .ireturn, 42, 0)))))))
set_option maxRecDepth 100000 in
def pg_34 : Lean.RArray sIn := (.branch 22 (.branch 10 (.branch 7 (.branch 1 (.leaf (0, .iload 1, 1, 0)) (.branch 4 (.leaf (1, .invokestatic 40, 4, 853)) (.leaf (4, .ifCond .ne 9, 7, 0)))) (.branch 8 (.leaf (7, .ldc 0, 8, 0)) (.branch 9 (.leaf (8, .ireturn, 9, 0)) (.leaf (9, .iload 1, 10, 0))))) (.branch 14 (.branch 12 (.leaf (10, .ldc 48, 12, 0)) (.branch 13 (.leaf (12, .isub, 13, 0)) (.leaf (13, .istore 3, 14, 0)))) (.branch 16 (.branch 15 (.leaf (14, .iload 3, 15, 0)) (.leaf (15, .aload 0, 16, 0))) (.branch 19 (.leaf (16, .getfield 133, 19, 293)) (.leaf (19, .if_icmp .ge 33, 22, 0)))))) (.branch 34 (.branch 27 (.branch 23 (.leaf (22, .aload 0, 23, 0)) (.branch 24 (.leaf (23, .iload 3, 24, 0)) (.leaf (24, .invokestatic 10, 27, 856)))) (.branch 30 (.leaf (27, .invokevirtual 39, 30, 843)) (.branch 33 (.leaf (30, .goto 44, 33, 0)) (.leaf (33, .aload 0, 34, 0))))) (.branch 39 (.branch 35 (.leaf (34, .iload 2, 35, 0)) (.branch 38 (.leaf (35, .invokevirtual 30, 38, 857)) (.leaf (38, .aload 0, 39, 0)))) (.branch 44 (.branch 41 (.leaf (39, .ldc 344865, 41, 822)) (.leaf (41, .invokevirtual 39, 44, 843))) (.branch 45 (.leaf (44, .ldc 1, 45, 0)) (.leaf (45, .ireturn, 46, 0)))))))
set_option maxRecDepth 100000 in
def pg_35 : Lean.RArray sIn := (.branch 16 (.branch 6 (.branch 2 (.branch 1 (.leaf (0, .aload 0, 1, 0)) (.leaf (1, .ldc 2, 2, 0))) (.branch 5 (.leaf (2, .putfield 132, 5, 292)) (.leaf (5, .aload 0, 6, 0)))) (.branch 11 (.branch 8 (.leaf (6, .ldc 344865, 8, 822)) (.leaf (8, .putfield 135, 11, 295))) (.branch 12 (.leaf (11, .aload 0, 12, 0)) (.branch 13 (.leaf (12, .ldc 0, 13, 0)) (.leaf (13, .putfield 136, 16, 296)))))) (.branch 23 (.branch 18 (.branch 17 (.leaf (16, .aload 0, 17, 0)) (.leaf (17, .ldc 0, 18, 0))) (.branch 21 (.leaf (18, .putfield 137, 21, 297)) (.branch 22 (.leaf (21, .aload 0, 22, 0)) (.leaf (22, .ldc 0, 23, 0))))) (.branch 27 (.branch 26 (.leaf (23, .putfield 138, 26, 298)) (.leaf (26, .aload 0, 27, 0))) (.branch 28 (.leaf (27, .ldc 0, 28, 0)) (.branch 31 (.leaf (28, .putfield 139, 31, 299)) (.leaf (31, .return_, 32, 0)))))))
set_option maxRecDepth 100000 in
def pg_36 : Lean.RArray sIn := (.branch 21 (.branch 11 (.branch 7 (.branch 1 (.leaf (0, .iload 1, 1, 0)) (.branch 4 (.leaf (1, .invokestatic 40, 4, 853)) (.leaf (4, .ifCond .eq 18, 7, 0)))) (.branch 8 (.leaf (7, .aload 0, 8, 0)) (.branch 9 (.leaf (8, .iload 1, 9, 0)) (.leaf (9, .ldc 48, 11, 0))))) (.branch 16 (.branch 12 (.leaf (11, .isub, 12, 0)) (.branch 13 (.leaf (12, .iload 2, 13, 0)) (.leaf (13, .invokevirtual 37, 16, 874)))) (.branch 18 (.branch 17 (.leaf (16, .ldc 1, 17, 0)) (.leaf (17, .ireturn, 18, 0))) (.branch 19 (.leaf (18, .iload 1, 19, 0)) (.leaf (19, .ldc 41, 21, 0)))))) (.branch 33 (.branch 28 (.branch 24 (.leaf (21, .if_icmp .ne 42, 24, 0)) (.branch 25 (.leaf (24, .aload 0, 25, 0)) (.leaf (25, .getfield 136, 28, 296)))) (.branch 29 (.leaf (28, .ldc 2, 29, 0)) (.branch 32 (.leaf (29, .if_icmp .lt 42, 32, 0)) (.leaf (32, .aload 0, 33, 0))))) (.branch 40 (.branch 34 (.leaf (33, .aload 0, 34, 0)) (.branch 37 (.leaf (34, .getfield 135, 37, 295)) (.leaf (37, .invokevirtual 39, 40, 843)))) (.branch 42 (.branch 41 (.leaf (40, .ldc 1, 41, 0)) (.leaf (41, .ireturn, 42, 0))) (.branch 43 (.leaf (42, .ldc 0, 43, 0)) (.leaf (43, .ireturn, 44, 0)))))))
set_option maxRecDepth 100000 in
def pg_37 : Lean.RArray sIn := (.branch 44 (.branch 24 (.branch 11 (.branch 5 (.branch 1 (.leaf (0, .aload 0, 1, 0)) (.branch 2 (.leaf (1, .dup, 2, 0)) (.leaf (2, .getfield 136, 5, 296)))) (.branch 7 (.branch 6 (.leaf (5, .ldc 1, 6, 0)) (.leaf (6, .iadd, 7, 0))) (.branch 10 (.leaf (7, .putfield 136, 10, 296)) (.leaf (10, .iload 1, 11, 0))))) (.branch 18 (.branch 12 (.leaf (11, .aload 0, 12, 0)) (.branch 15 (.leaf (12, .getfield 133, 15, 293)) (.leaf (15, .if_icmp .gt 30, 18, 0)))) (.branch 22 (.branch 19 (.leaf (18, .aload 0, 19, 0)) (.leaf (19, .getfield 137, 22, 297))) (.branch 23 (.leaf (22, .iload 1, 23, 0)) (.leaf (23, .ishr, 24, 0)))))) (.branch 35 (.branch 27 (.branch 25 (.leaf (24, .ldc 1, 25, 0)) (.branch 26 (.leaf (25, .iand, 26, 0)) (.leaf (26, .ldc 1, 27, 0)))) (.branch 31 (.branch 30 (.leaf (27, .if_icmp .ne 36, 30, 0)) (.leaf (30, .aload 0, 31, 0))) (.branch 32 (.leaf (31, .iload 2, 32, 0)) (.leaf (32, .invokevirtual 30, 35, 857))))) (.branch 38 (.branch 36 (.leaf (35, .return_, 36, 0)) (.branch 37 (.leaf (36, .aload 0, 37, 0)) (.leaf (37, .dup, 38, 0)))) (.branch 42 (.branch 41 (.leaf (38, .getfield 137, 41, 297)) (.leaf (41, .ldc 1, 42, 0))) (.branch 43 (.leaf (42, .iload 1, 43, 0)) (.leaf (43, .ishl, 44, 0))))))) (.branch 72 (.branch 57 (.branch 49 (.branch 45 (.leaf (44, .ior, 45, 0)) (.branch 48 (.leaf (45, .putfield 137, 48, 297)) (.leaf (48, .aload 0, 49, 0)))) (.branch 55 (.branch 52 (.leaf (49, .getfield 138, 52, 298)) (.leaf (52, .ifCond .ne 63, 55, 0))) (.branch 56 (.leaf (55, .aload 0, 56, 0)) (.leaf (56, .iload 1, 57, 0))))) (.branch 64 (.branch 60 (.leaf (57, .putfield 138, 60, 298)) (.branch 63 (.leaf (60, .goto 95, 63, 0)) (.leaf (63, .aload 0, 64, 0)))) (.branch 68 (.branch 65 (.leaf (64, .aload 0, 65, 0)) (.leaf (65, .getfield 135, 68, 295))) (.branch 69 (.leaf (68, .aload 0, 69, 0)) (.leaf (69, .getfield 139, 72, 299)))))) (.branch 85 (.branch 79 (.branch 73 (.leaf (72, .iload 1, 73, 0)) (.branch 76 (.leaf (73, .invokestatic 7, 76, 878)) (.leaf (76, .putfield 135, 79, 295)))) (.branch 81 (.branch 80 (.leaf (79, .aload 0, 80, 0)) (.leaf (80, .aload 0, 81, 0))) (.branch 84 (.leaf (81, .getfield 135, 84, 295)) (.leaf (84, .iload 1, 85, 0))))) (.branch 95 (.branch 89 (.branch 86 (.leaf (85, .aload 0, 86, 0)) (.leaf (86, .getfield 138, 89, 298))) (.branch 92 (.leaf (89, .invokestatic 7, 92, 878)) (.leaf (92, .putfield 135, 95, 295)))) (.branch 97 (.branch 96 (.leaf (95, .aload 0, 96, 0)) (.leaf (96, .iload 1, 97, 0))) (.branch 100 (.leaf (97, .putfield 139, 100, 299)) (.leaf (100, .return_, 101, 0))))))))
set_option maxRecDepth 100000 in
def pg_38 : Lean.RArray sIn := (.branch 36 (.branch 16 (.branch 8 (.branch 3 (.branch 1 (.leaf (0, .iload 1, 1, 0)) (.leaf (1, .ldc 42, 3, 0))) (.branch 6 (.leaf (3, .if_icmp .ne 13, 6, 0)) (.branch 7 (.leaf (6, .aload 0, 7, 0)) (.leaf (7, .ldc 0, 8, 0))))) (.branch 12 (.branch 11 (.leaf (8, .putfield 132, 11, 292)) (.leaf (11, .ldc 1, 12, 0))) (.branch 13 (.leaf (12, .ireturn, 13, 0)) (.branch 14 (.leaf (13, .iload 1, 14, 0)) (.leaf (14, .ldc 93, 16, 0)))))) (.branch 27 (.branch 20 (.branch 19 (.leaf (16, .if_icmp .ne 66, 19, 0)) (.leaf (19, .aload 0, 20, 0))) (.branch 23 (.leaf (20, .getfield 131, 23, 291)) (.branch 26 (.leaf (23, .ifCond .le 66, 26, 0)) (.leaf (26, .aload 0, 27, 0))))) (.branch 31 (.branch 30 (.leaf (27, .getfield 130, 30, 290)) (.leaf (30, .aload 0, 31, 0))) (.branch 34 (.leaf (31, .getfield 131, 34, 291)) (.branch 35 (.leaf (34, .iaload, 35, 0)) (.leaf (35, .istore 2, 36, 0))))))) (.branch 54 (.branch 43 (.branch 38 (.branch 37 (.leaf (36, .aload 0, 37, 0)) (.leaf (37, .dup, 38, 0))) (.branch 41 (.leaf (38, .getfield 131, 41, 291)) (.branch 42 (.leaf (41, .ldc 1, 42, 0)) (.leaf (42, .isub, 43, 0))))) (.branch 47 (.branch 46 (.leaf (43, .putfield 131, 46, 291)) (.leaf (46, .aload 0, 47, 0))) (.branch 50 (.leaf (47, .getfield 129, 50, 289)) (.branch 51 (.leaf (50, .dup, 51, 0)) (.leaf (51, .getfield 512, 54, 273)))))) (.branch 61 (.branch 56 (.branch 55 (.leaf (54, .ldc 1, 55, 0)) (.leaf (55, .isub, 56, 0))) (.branch 59 (.leaf (56, .putfield 512, 59, 273)) (.branch 60 (.leaf (59, .aload 0, 60, 0)) (.leaf (60, .iload 2, 61, 0))))) (.branch 65 (.branch 64 (.leaf (61, .invokevirtual 39, 64, 843)) (.leaf (64, .ldc 1, 65, 0))) (.branch 66 (.leaf (65, .ireturn, 66, 0)) (.branch 67 (.leaf (66, .ldc 0, 67, 0)) (.leaf (67, .ireturn, 68, 0))))))))
set_option maxRecDepth 100000 in
def pg_39 : Lean.RArray sIn := (.branch 38 (.branch 17 (.branch 9 (.branch 2 (.branch 1 (.leaf (0, .iload 1, 1, 0)) (.leaf (1, .istore 2, 2, 0))) (.branch 3 (.leaf (2, .aload 0, 3, 0)) (.branch 6 (.leaf (3, .getfield 129, 6, 289)) (.leaf (6, .getfield 512, 9, 273))))) (.branch 12 (.branch 10 (.leaf (9, .ldc 1, 10, 0)) (.branch 11 (.leaf (10, .isub, 11, 0)) (.leaf (11, .istore 3, 12, 0)))) (.branch 13 (.leaf (12, .iload 3, 13, 0)) (.branch 16 (.leaf (13, .ifCond .lt 53, 16, 0)) (.leaf (16, .aload 0, 17, 0)))))) (.branch 26 (.branch 23 (.branch 20 (.leaf (17, .getfield 129, 20, 289)) (.leaf (20, .getfield 513, 23, 276))) (.branch 24 (.leaf (23, .iload 3, 24, 0)) (.branch 25 (.leaf (24, .iaload, 25, 0)) (.leaf (25, .ldc 3, 26, 0))))) (.branch 33 (.branch 29 (.leaf (26, .if_icmp .ne 53, 29, 0)) (.branch 30 (.leaf (29, .iload 2, 30, 0)) (.leaf (30, .invokestatic 9, 33, 847)))) (.branch 34 (.leaf (33, .istore 2, 34, 0)) (.branch 35 (.leaf (34, .aload 0, 35, 0)) (.leaf (35, .getfield 129, 38, 289))))))) (.branch 61 (.branch 47 (.branch 42 (.branch 39 (.leaf (38, .dup, 39, 0)) (.leaf (39, .getfield 512, 42, 273))) (.branch 43 (.leaf (42, .ldc 1, 43, 0)) (.branch 44 (.leaf (43, .isub, 44, 0)) (.leaf (44, .putfield 512, 47, 273))))) (.branch 54 (.branch 50 (.leaf (47, .iinc 3 4294967295, 50, 0)) (.branch 53 (.leaf (50, .goto 12, 53, 0)) (.leaf (53, .aload 0, 54, 0)))) (.branch 57 (.leaf (54, .getfield 130, 57, 290)) (.branch 58 (.leaf (57, .aload 0, 58, 0)) (.leaf (58, .getfield 131, 61, 291)))))) (.branch 71 (.branch 66 (.branch 62 (.leaf (61, .aload 0, 62, 0)) (.branch 65 (.leaf (62, .getfield 130, 65, 290)) (.leaf (65, .aload 0, 66, 0)))) (.branch 69 (.leaf (66, .getfield 131, 69, 291)) (.branch 70 (.leaf (69, .iaload, 70, 0)) (.leaf (70, .iload 2, 71, 0))))) (.branch 76 (.branch 74 (.leaf (71, .invokestatic 8, 74, 848)) (.branch 75 (.leaf (74, .iastore, 75, 0)) (.leaf (75, .aload 0, 76, 0)))) (.branch 77 (.leaf (76, .ldc 3, 77, 0)) (.branch 80 (.leaf (77, .putfield 132, 80, 292)) (.leaf (80, .return_, 81, 0))))))))
set_option maxRecDepth 100000 in
def pg_40 : Lean.RArray sIn := (.branch 9 (.branch 3 (.branch 1 (.leaf (0, .iload 0, 1, 0)) (.leaf (1, .ldc 49, 3, 0))) (.branch 6 (.leaf (3, .if_icmp .lt 16, 6, 0)) (.branch 7 (.leaf (6, .iload 0, 7, 0)) (.leaf (7, .ldc 53, 9, 0))))) (.branch 13 (.branch 12 (.leaf (9, .if_icmp .gt 16, 12, 0)) (.leaf (12, .ldc 1, 13, 0))) (.branch 16 (.leaf (13, .goto 17, 16, 0)) (.branch 17 (.leaf (16, .ldc 0, 17, 0)) (.leaf (17, .ireturn, 18, 0))))))
set_option maxRecDepth 100000 in
def pg_42 : Lean.RArray sIn := (.branch 72 (.branch 34 (.branch 18 (.branch 11 (.branch 4 (.branch 1 (.leaf (0, .aload 0, 1, 0)) (.leaf (1, .getfield 193, 4, 190))) (.branch 7 (.leaf (4, .invokevirtual 1, 7, 404)) (.branch 8 (.leaf (7, .aload 0, 8, 0)) (.leaf (8, .getfield 193, 11, 190))))) (.branch 13 (.branch 12 (.leaf (11, .ldc 0, 12, 0)) (.leaf (12, .ldc2_w 1, 13, 0))) (.branch 14 (.leaf (13, .ldc2_w 1, 14, 0)) (.branch 17 (.leaf (14, .invokevirtual 2, 17, 408)) (.leaf (17, .ldc 1, 18, 0)))))) (.branch 27 (.branch 20 (.branch 19 (.leaf (18, .istore 1, 19, 0)) (.leaf (19, .iload 1, 20, 0))) (.branch 21 (.leaf (20, .aload 0, 21, 0)) (.branch 24 (.leaf (21, .getfield 192, 24, 189)) (.leaf (24, .getfield 258, 27, 117))))) (.branch 31 (.branch 30 (.leaf (27, .if_icmp .ge 145, 30, 0)) (.leaf (30, .ldc 1, 31, 0))) (.branch 32 (.leaf (31, .istore 2, 32, 0)) (.branch 33 (.leaf (32, .iload 2, 33, 0)) (.leaf (33, .aload 0, 34, 0))))))) (.branch 54 (.branch 47 (.branch 40 (.branch 37 (.leaf (34, .getfield 192, 37, 189)) (.leaf (37, .getfield 257, 40, 112))) (.branch 43 (.leaf (40, .if_icmp .ge 139, 43, 0)) (.branch 44 (.leaf (43, .aload 0, 44, 0)) (.leaf (44, .getfield 193, 47, 190))))) (.branch 51 (.branch 50 (.leaf (47, .getfield 0, 50, 180)) (.leaf (50, .iload 1, 51, 0))) (.branch 52 (.leaf (51, .laload, 52, 0)) (.branch 53 (.leaf (52, .ldc2_w 0, 53, 0)) (.leaf (53, .lcmp, 54, 0)))))) (.branch 63 (.branch 58 (.branch 57 (.leaf (54, .ifCond .ne 139, 57, 0)) (.leaf (57, .aload 0, 58, 0))) (.branch 61 (.leaf (58, .getfield 192, 61, 189)) (.branch 62 (.leaf (61, .iload 1, 62, 0)) (.leaf (62, .iload 2, 63, 0))))) (.branch 67 (.branch 66 (.leaf (63, .invokevirtual 58, 66, 421)) (.leaf (66, .istore 3, 67, 0))) (.branch 68 (.leaf (67, .iload 3, 68, 0)) (.branch 71 (.leaf (68, .ifCond .lt 133, 71, 0)) (.leaf (71, .iload 3, 72, 0)))))))) (.branch 105 (.branch 90 (.branch 81 (.branch 76 (.branch 73 (.leaf (72, .iload 1, 73, 0)) (.leaf (73, .if_icmp .ge 133, 76, 0))) (.branch 77 (.leaf (76, .aload 0, 77, 0)) (.branch 80 (.leaf (77, .getfield 192, 80, 189)) (.leaf (80, .iload 3, 81, 0))))) (.branch 85 (.branch 82 (.leaf (81, .iload 2, 82, 0)) (.leaf (82, .invokevirtual 57, 85, 436))) (.branch 86 (.leaf (85, .i2l, 86, 0)) (.branch 87 (.leaf (86, .aload 0, 87, 0)) (.leaf (87, .getfield 192, 90, 189)))))) (.branch 97 (.branch 92 (.branch 91 (.leaf (90, .iload 3, 91, 0)) (.leaf (91, .iload 2, 92, 0))) (.branch 95 (.leaf (92, .invokevirtual 57, 95, 436)) (.branch 96 (.leaf (95, .i2l, 96, 0)) (.leaf (96, .lmul, 97, 0))))) (.branch 100 (.branch 99 (.leaf (97, .lstore 4, 99, 0)) (.leaf (99, .aload 0, 100, 0))) (.branch 103 (.leaf (100, .getfield 193, 103, 190)) (.branch 104 (.leaf (103, .iload 1, 104, 0)) (.leaf (104, .aload 0, 105, 0))))))) (.branch 122 (.branch 115 (.branch 111 (.branch 108 (.leaf (105, .getfield 193, 108, 190)) (.leaf (108, .getfield 0, 111, 180))) (.branch 112 (.leaf (111, .iload 3, 112, 0)) (.branch 113 (.leaf (112, .laload, 113, 0)) (.leaf (113, .lload 4, 115, 0))))) (.branch 117 (.branch 116 (.leaf (115, .ldc2_w 1, 116, 0)) (.leaf (116, .lsub, 117, 0))) (.branch 118 (.leaf (117, .lmul, 118, 0)) (.branch 119 (.leaf (118, .aload 0, 119, 0)) (.leaf (119, .getfield 193, 122, 190)))))) (.branch 130 (.branch 126 (.branch 125 (.leaf (122, .getfield 1, 125, 182)) (.leaf (125, .iload 3, 126, 0))) (.branch 127 (.leaf (126, .laload, 127, 0)) (.branch 129 (.leaf (127, .lload 4, 129, 0)) (.leaf (129, .lmul, 130, 0))))) (.branch 139 (.branch 133 (.leaf (130, .invokevirtual 2, 133, 408)) (.branch 136 (.leaf (133, .iinc 2 1, 136, 0)) (.leaf (136, .goto 32, 139, 0)))) (.branch 142 (.leaf (139, .iinc 1 1, 142, 0)) (.branch 145 (.leaf (142, .goto 19, 145, 0)) (.leaf (145, .return_, 146, 0)))))))))
set_option maxRecDepth 100000 in
def pg_43 : Lean.RArray sIn := (.branch 30 (.branch 16 (.branch 6 (.branch 4 (.branch 1 (.leaf (0, .aload 0, 1, 0)) (.leaf (1, .getfield 194, 4, 192))) (.branch 5 (.leaf (4, .astore 3, 5, 0)) (.leaf (5, .aload 0, 6, 0)))) (.branch 11 (.branch 9 (.leaf (6, .getfield 195, 9, 193)) (.leaf (9, .astore 4, 11, 0))) (.branch 12 (.leaf (11, .aload 3, 12, 0)) (.branch 15 (.leaf (12, .invokevirtual 1, 15, 404)) (.leaf (15, .aload 3, 16, 0)))))) (.branch 22 (.branch 18 (.branch 17 (.leaf (16, .iload 2, 17, 0)) (.leaf (17, .ldc2_w 1, 18, 0))) (.branch 19 (.leaf (18, .ldc2_w 1, 19, 0)) (.leaf (19, .invokevirtual 2, 22, 408)))) (.branch 26 (.branch 23 (.leaf (22, .iload 1, 23, 0)) (.leaf (23, .invokestatic 11, 26, 680))) (.branch 27 (.leaf (26, .ldc 1, 27, 0)) (.branch 28 (.leaf (27, .isub, 28, 0)) (.leaf (28, .istore 5, 30, 0))))))) (.branch 48 (.branch 37 (.branch 35 (.branch 32 (.leaf (30, .iload 5, 32, 0)) (.leaf (32, .ifCond .lt 64, 35, 0))) (.branch 36 (.leaf (35, .aload 0, 36, 0)) (.leaf (36, .aload 3, 37, 0)))) (.branch 40 (.branch 38 (.leaf (37, .iload 1, 38, 0)) (.leaf (38, .iload 5, 40, 0))) (.branch 43 (.leaf (40, .invokestatic 12, 43, 681)) (.branch 45 (.leaf (43, .aload 4, 45, 0)) (.leaf (45, .invokevirtual 44, 48, 682)))))) (.branch 56 (.branch 51 (.branch 49 (.leaf (48, .aload 3, 49, 0)) (.leaf (49, .astore 6, 51, 0))) (.branch 53 (.leaf (51, .aload 4, 53, 0)) (.branch 54 (.leaf (53, .astore 3, 54, 0)) (.leaf (54, .aload 6, 56, 0))))) (.branch 61 (.branch 58 (.leaf (56, .astore 4, 58, 0)) (.leaf (58, .iinc 5 4294967295, 61, 0))) (.branch 64 (.leaf (61, .goto 30, 64, 0)) (.branch 65 (.leaf (64, .aload 3, 65, 0)) (.leaf (65, .areturn, 66, 0))))))))
set_option maxRecDepth 100000 in
def pg_44 : Lean.RArray sIn := (.branch 64 (.branch 33 (.branch 16 (.branch 7 (.branch 4 (.branch 1 (.leaf (0, .aload 3, 1, 0)) (.leaf (1, .invokevirtual 1, 4, 404))) (.branch 5 (.leaf (4, .ldc 0, 5, 0)) (.leaf (5, .istore 4, 7, 0)))) (.branch 10 (.branch 9 (.leaf (7, .iload 4, 9, 0)) (.leaf (9, .aload 0, 10, 0))) (.branch 13 (.leaf (10, .getfield 192, 13, 189)) (.leaf (13, .getfield 258, 16, 117))))) (.branch 25 (.branch 20 (.branch 19 (.leaf (16, .if_icmp .ge 130, 19, 0)) (.leaf (19, .aload 0, 20, 0))) (.branch 23 (.leaf (20, .getfield 192, 23, 189)) (.leaf (23, .iload 4, 25, 0)))) (.branch 29 (.branch 26 (.leaf (25, .iload 2, 26, 0)) (.leaf (26, .invokevirtual 57, 29, 436))) (.branch 30 (.leaf (29, .i2l, 30, 0)) (.branch 32 (.leaf (30, .lstore 5, 32, 0)) (.leaf (32, .aload 1, 33, 0))))))) (.branch 48 (.branch 41 (.branch 38 (.branch 36 (.leaf (33, .getfield 0, 36, 180)) (.leaf (36, .iload 4, 38, 0))) (.branch 39 (.leaf (38, .laload, 39, 0)) (.leaf (39, .lstore 7, 41, 0)))) (.branch 45 (.branch 42 (.leaf (41, .aload 1, 42, 0)) (.leaf (42, .getfield 1, 45, 182))) (.branch 47 (.leaf (45, .iload 4, 47, 0)) (.leaf (47, .laload, 48, 0))))) (.branch 55 (.branch 51 (.branch 50 (.leaf (48, .lstore 9, 50, 0)) (.leaf (50, .aload 3, 51, 0))) (.branch 53 (.leaf (51, .iload 4, 53, 0)) (.leaf (53, .lload 7, 55, 0)))) (.branch 59 (.branch 57 (.leaf (55, .lload 9, 57, 0)) (.leaf (57, .lload 5, 59, 0))) (.branch 60 (.leaf (59, .lmul, 60, 0)) (.branch 63 (.leaf (60, .invokevirtual 2, 63, 408)) (.leaf (63, .aload 0, 64, 0)))))))) (.branch 101 (.branch 82 (.branch 73 (.branch 69 (.branch 67 (.leaf (64, .getfield 192, 67, 189)) (.leaf (67, .iload 4, 69, 0))) (.branch 70 (.leaf (69, .iload 2, 70, 0)) (.leaf (70, .invokevirtual 58, 73, 421)))) (.branch 77 (.branch 75 (.leaf (73, .istore 11, 75, 0)) (.leaf (75, .iload 11, 77, 0))) (.branch 79 (.leaf (77, .iload 4, 79, 0)) (.leaf (79, .if_icmp .le 95, 82, 0))))) (.branch 89 (.branch 85 (.branch 83 (.leaf (82, .aload 3, 83, 0)) (.leaf (83, .iload 11, 85, 0))) (.branch 87 (.leaf (85, .lload 7, 87, 0)) (.leaf (87, .lload 9, 89, 0)))) (.branch 95 (.branch 92 (.leaf (89, .invokevirtual 2, 92, 408)) (.leaf (92, .goto 124, 95, 0))) (.branch 97 (.leaf (95, .iload 11, 97, 0)) (.branch 100 (.leaf (97, .ifCond .lt 124, 100, 0)) (.leaf (100, .aload 3, 101, 0))))))) (.branch 113 (.branch 109 (.branch 105 (.branch 103 (.leaf (101, .iload 11, 103, 0)) (.leaf (103, .lload 7, 105, 0))) (.branch 107 (.leaf (105, .lload 5, 107, 0)) (.leaf (107, .lload 5, 109, 0)))) (.branch 111 (.branch 110 (.leaf (109, .lmul, 110, 0)) (.leaf (110, .ldc2_w 1, 111, 0))) (.branch 112 (.leaf (111, .lsub, 112, 0)) (.leaf (112, .lmul, 113, 0))))) (.branch 120 (.branch 117 (.branch 115 (.leaf (113, .lload 9, 115, 0)) (.leaf (115, .lload 5, 117, 0))) (.branch 118 (.leaf (117, .lmul, 118, 0)) (.leaf (118, .lload 5, 120, 0)))) (.branch 124 (.branch 121 (.leaf (120, .lmul, 121, 0)) (.leaf (121, .invokevirtual 2, 124, 408))) (.branch 127 (.leaf (124, .iinc 4 1, 127, 0)) (.branch 130 (.leaf (127, .goto 7, 130, 0)) (.leaf (130, .return_, 131, 0)))))))))
set_option maxRecDepth 100000 in
def pg_45 : Lean.RArray sIn := (.branch 31 (.branch 17 (.branch 8 (.branch 4 (.branch 1 (.leaf (0, .aload 0, 1, 0)) (.leaf (1, .getfield 194, 4, 192))) (.branch 7 (.leaf (4, .invokevirtual 1, 7, 404)) (.leaf (7, .ldc 0, 8, 0)))) (.branch 10 (.branch 9 (.leaf (8, .istore 3, 9, 0)) (.leaf (9, .iload 3, 10, 0))) (.branch 11 (.leaf (10, .aload 0, 11, 0)) (.branch 14 (.leaf (11, .getfield 192, 14, 189)) (.leaf (14, .getfield 258, 17, 117)))))) (.branch 26 (.branch 21 (.branch 20 (.leaf (17, .if_icmp .ge 62, 20, 0)) (.leaf (20, .aload 0, 21, 0))) (.branch 24 (.leaf (21, .getfield 194, 24, 192)) (.branch 25 (.leaf (24, .ldc 0, 25, 0)) (.leaf (25, .aload 1, 26, 0))))) (.branch 28 (.branch 27 (.leaf (26, .iload 3, 27, 0)) (.leaf (27, .iaload, 28, 0))) (.branch 29 (.leaf (28, .i2l, 29, 0)) (.branch 30 (.leaf (29, .aload 2, 30, 0)) (.leaf (30, .iload 3, 31, 0))))))) (.branch 45 (.branch 38 (.branch 33 (.branch 32 (.leaf (31, .iaload, 32, 0)) (.leaf (32, .i2l, 33, 0))) (.branch 34 (.leaf (33, .lmul, 34, 0)) (.branch 35 (.leaf (34, .aload 0, 35, 0)) (.leaf (35, .getfield 193, 38, 190))))) (.branch 42 (.branch 41 (.leaf (38, .getfield 0, 41, 180)) (.leaf (41, .iload 3, 42, 0))) (.branch 43 (.leaf (42, .laload, 43, 0)) (.branch 44 (.leaf (43, .lmul, 44, 0)) (.leaf (44, .aload 0, 45, 0)))))) (.branch 56 (.branch 51 (.branch 48 (.leaf (45, .getfield 193, 48, 190)) (.leaf (48, .getfield 1, 51, 182))) (.branch 52 (.leaf (51, .iload 3, 52, 0)) (.branch 53 (.leaf (52, .laload, 53, 0)) (.leaf (53, .invokevirtual 2, 56, 408))))) (.branch 62 (.branch 59 (.leaf (56, .iinc 3 1, 59, 0)) (.leaf (59, .goto 9, 62, 0))) (.branch 63 (.leaf (62, .aload 0, 63, 0)) (.branch 66 (.leaf (63, .getfield 194, 66, 192)) (.leaf (66, .areturn, 67, 0))))))))
set_option maxRecDepth 100000 in
def pg_47 : Lean.RArray sIn := (.branch 47 (.branch 23 (.branch 11 (.branch 5 (.branch 1 (.leaf (0, .aload 0, 1, 0)) (.branch 2 (.leaf (1, .iload 1, 2, 0)) (.leaf (2, .putfield 256, 5, 109)))) (.branch 7 (.branch 6 (.leaf (5, .aload 0, 6, 0)) (.leaf (6, .ldc 0, 7, 0))) (.branch 10 (.leaf (7, .putfield 257, 10, 111)) (.leaf (10, .aload 0, 11, 0))))) (.branch 17 (.branch 15 (.branch 12 (.leaf (11, .ldc 0, 12, 0)) (.leaf (12, .putfield 258, 15, 116))) (.branch 16 (.leaf (15, .ldc 0, 16, 0)) (.leaf (16, .istore 2, 17, 0)))) (.branch 19 (.branch 18 (.leaf (17, .iload 2, 18, 0)) (.leaf (18, .ldc 5, 19, 0))) (.branch 22 (.leaf (19, .if_icmp .ge 100, 22, 0)) (.leaf (22, .aload 0, 23, 0)))))) (.branch 37 (.branch 31 (.branch 27 (.branch 26 (.leaf (23, .getfield 259, 26, 119)) (.leaf (26, .iload 2, 27, 0))) (.branch 28 (.leaf (27, .aload 0, 28, 0)) (.leaf (28, .getfield 257, 31, 111)))) (.branch 33 (.branch 32 (.leaf (31, .iastore, 32, 0)) (.leaf (32, .aload 0, 33, 0))) (.branch 36 (.leaf (33, .getfield 264, 36, 125)) (.leaf (36, .iload 2, 37, 0))))) (.branch 41 (.branch 39 (.branch 38 (.leaf (37, .ldc 0, 38, 0)) (.leaf (38, .iastore, 39, 0))) (.branch 40 (.leaf (39, .ldc 0, 40, 0)) (.leaf (40, .istore 3, 41, 0)))) (.branch 43 (.branch 42 (.leaf (41, .iload 3, 42, 0)) (.leaf (42, .aload 0, 43, 0))) (.branch 44 (.leaf (43, .iload 2, 44, 0)) (.leaf (44, .invokevirtual 51, 47, 355))))))) (.branch 76 (.branch 62 (.branch 54 (.branch 50 (.leaf (47, .if_icmp .ge 94, 50, 0)) (.branch 51 (.leaf (50, .aload 0, 51, 0)) (.leaf (51, .getfield 257, 54, 111)))) (.branch 58 (.branch 55 (.leaf (54, .ldc 5, 55, 0)) (.leaf (55, .if_icmp .ge 94, 58, 0))) (.branch 59 (.leaf (58, .aload 0, 59, 0)) (.leaf (59, .getfield 260, 62, 120))))) (.branch 68 (.branch 66 (.branch 63 (.leaf (62, .aload 0, 63, 0)) (.leaf (63, .getfield 257, 66, 111))) (.branch 67 (.leaf (66, .iload 2, 67, 0)) (.leaf (67, .iastore, 68, 0)))) (.branch 72 (.branch 69 (.leaf (68, .aload 0, 69, 0)) (.leaf (69, .getfield 261, 72, 121))) (.branch 73 (.leaf (72, .aload 0, 73, 0)) (.leaf (73, .getfield 257, 76, 111)))))) (.branch 88 (.branch 80 (.branch 78 (.branch 77 (.leaf (76, .iload 3, 77, 0)) (.leaf (77, .iastore, 78, 0))) (.branch 79 (.leaf (78, .aload 0, 79, 0)) (.leaf (79, .dup, 80, 0)))) (.branch 84 (.branch 83 (.leaf (80, .getfield 257, 83, 111)) (.leaf (83, .ldc 1, 84, 0))) (.branch 85 (.leaf (84, .iadd, 85, 0)) (.leaf (85, .putfield 257, 88, 111))))) (.branch 100 (.branch 94 (.branch 91 (.leaf (88, .iinc 3 1, 91, 0)) (.leaf (91, .goto 41, 94, 0))) (.branch 97 (.leaf (94, .iinc 2 1, 97, 0)) (.leaf (97, .goto 17, 100, 0)))) (.branch 102 (.branch 101 (.leaf (100, .aload 0, 101, 0)) (.leaf (101, .ldc 1, 102, 0))) (.branch 105 (.leaf (102, .invokevirtual 48, 105, 362)) (.leaf (105, .return_, 106, 0))))))))
set_option maxRecDepth 100000 in
def pg_48 : Lean.RArray sIn := (.branch 44 (.branch 21 (.branch 12 (.branch 5 (.branch 1 (.leaf (0, .iload 1, 1, 0)) (.branch 2 (.leaf (1, .aload 0, 2, 0)) (.leaf (2, .getfield 257, 5, 111)))) (.branch 8 (.leaf (5, .if_icmp .le 13, 8, 0)) (.branch 9 (.leaf (8, .aload 0, 9, 0)) (.leaf (9, .invokevirtual 50, 12, 366))))) (.branch 15 (.branch 13 (.leaf (12, .return_, 13, 0)) (.branch 14 (.leaf (13, .ldc 0, 14, 0)) (.leaf (14, .istore 2, 15, 0)))) (.branch 17 (.branch 16 (.leaf (15, .iload 2, 16, 0)) (.leaf (16, .ldc 5, 17, 0))) (.branch 20 (.leaf (17, .if_icmp .ge 80, 20, 0)) (.leaf (20, .aload 0, 21, 0)))))) (.branch 33 (.branch 28 (.branch 22 (.leaf (21, .iload 2, 22, 0)) (.branch 25 (.leaf (22, .invokevirtual 49, 25, 373)) (.leaf (25, .ifCond .eq 74, 28, 0)))) (.branch 29 (.leaf (28, .aload 0, 29, 0)) (.branch 32 (.leaf (29, .getfield 263, 32, 124)) (.leaf (32, .iload 1, 33, 0))))) (.branch 38 (.branch 34 (.leaf (33, .aload 0, 34, 0)) (.branch 37 (.leaf (34, .getfield 259, 37, 119)) (.leaf (37, .iload 2, 38, 0)))) (.branch 40 (.branch 39 (.leaf (38, .iaload, 39, 0)) (.leaf (39, .aload 0, 40, 0))) (.branch 43 (.leaf (40, .getfield 264, 43, 125)) (.leaf (43, .iload 2, 44, 0))))))) (.branch 59 (.branch 52 (.branch 47 (.branch 45 (.leaf (44, .iaload, 45, 0)) (.branch 46 (.leaf (45, .iadd, 46, 0)) (.leaf (46, .iastore, 47, 0)))) (.branch 48 (.leaf (47, .aload 0, 48, 0)) (.branch 51 (.leaf (48, .getfield 264, 51, 125)) (.leaf (51, .iload 2, 52, 0))))) (.branch 55 (.branch 53 (.leaf (52, .dup2, 53, 0)) (.branch 54 (.leaf (53, .iaload, 54, 0)) (.leaf (54, .ldc 1, 55, 0)))) (.branch 57 (.branch 56 (.leaf (55, .iadd, 56, 0)) (.leaf (56, .iastore, 57, 0))) (.branch 58 (.leaf (57, .aload 0, 58, 0)) (.leaf (58, .iload 1, 59, 0)))))) (.branch 70 (.branch 64 (.branch 60 (.leaf (59, .ldc 1, 60, 0)) (.branch 61 (.leaf (60, .iadd, 61, 0)) (.leaf (61, .invokevirtual 48, 64, 362)))) (.branch 68 (.branch 65 (.leaf (64, .aload 0, 65, 0)) (.leaf (65, .getfield 264, 68, 125))) (.branch 69 (.leaf (68, .iload 2, 69, 0)) (.leaf (69, .dup2, 70, 0))))) (.branch 73 (.branch 71 (.leaf (70, .iaload, 71, 0)) (.branch 72 (.leaf (71, .ldc 1, 72, 0)) (.leaf (72, .isub, 73, 0)))) (.branch 77 (.branch 74 (.leaf (73, .iastore, 74, 0)) (.leaf (74, .iinc 2 1, 77, 0))) (.branch 80 (.leaf (77, .goto 15, 80, 0)) (.leaf (80, .return_, 81, 0))))))))
set_option maxRecDepth 100000 in
def pg_49 : Lean.RArray sIn := (.branch 22 (.branch 8 (.branch 5 (.branch 1 (.leaf (0, .aload 0, 1, 0)) (.branch 4 (.leaf (1, .getfield 264, 4, 125)) (.leaf (4, .iload 1, 5, 0)))) (.branch 6 (.leaf (5, .iaload, 6, 0)) (.branch 7 (.leaf (6, .aload 0, 7, 0)) (.leaf (7, .iload 1, 8, 0))))) (.branch 15 (.branch 11 (.leaf (8, .invokevirtual 51, 11, 355)) (.branch 14 (.leaf (11, .if_icmp .ge 39, 14, 0)) (.leaf (14, .iload 1, 15, 0)))) (.branch 18 (.leaf (15, .ifCond .eq 35, 18, 0)) (.branch 19 (.leaf (18, .aload 0, 19, 0)) (.leaf (19, .getfield 264, 22, 125)))))) (.branch 30 (.branch 25 (.branch 23 (.leaf (22, .iload 1, 23, 0)) (.branch 24 (.leaf (23, .ldc 1, 24, 0)) (.leaf (24, .isub, 25, 0)))) (.branch 26 (.leaf (25, .iaload, 26, 0)) (.branch 27 (.leaf (26, .aload 0, 27, 0)) (.leaf (27, .getfield 264, 30, 125))))) (.branch 35 (.branch 31 (.leaf (30, .iload 1, 31, 0)) (.branch 32 (.leaf (31, .iaload, 32, 0)) (.leaf (32, .if_icmp .le 39, 35, 0)))) (.branch 39 (.branch 36 (.leaf (35, .ldc 1, 36, 0)) (.leaf (36, .goto 40, 39, 0))) (.branch 40 (.leaf (39, .ldc 0, 40, 0)) (.leaf (40, .ireturn, 41, 0)))))))
set_option maxRecDepth 100000 in
def pg_50 : Lean.RArray sIn := (.branch 22 (.branch 10 (.branch 4 (.branch 1 (.leaf (0, .aload 0, 1, 0)) (.leaf (1, .getfield 258, 4, 116))) (.branch 6 (.leaf (4, .ldc 6, 6, 0)) (.branch 9 (.leaf (6, .if_icmp .ge 39, 9, 0)) (.leaf (9, .aload 0, 10, 0))))) (.branch 15 (.branch 13 (.leaf (10, .getfield 263, 13, 124)) (.branch 14 (.leaf (13, .ldc 0, 14, 0)) (.leaf (14, .aload 0, 15, 0)))) (.branch 18 (.leaf (15, .getfield 262, 18, 123)) (.branch 19 (.leaf (18, .aload 0, 19, 0)) (.leaf (19, .getfield 258, 22, 116)))))) (.branch 30 (.branch 24 (.branch 23 (.leaf (22, .aaload, 23, 0)) (.leaf (23, .ldc 0, 24, 0))) (.branch 26 (.leaf (24, .ldc 6, 26, 0)) (.branch 29 (.leaf (26, .invokedynamic 0, 29, 370)) (.leaf (29, .aload 0, 30, 0))))) (.branch 35 (.branch 31 (.leaf (30, .dup, 31, 0)) (.branch 34 (.leaf (31, .getfield 258, 34, 116)) (.leaf (34, .ldc 1, 35, 0)))) (.branch 36 (.leaf (35, .iadd, 36, 0)) (.branch 39 (.leaf (36, .putfield 258, 39, 116)) (.leaf (39, .return_, 40, 0)))))))
set_option maxRecDepth 100000 in
def pg_51 : Lean.RArray sIn := (.branch 4 (.branch 1 (.leaf (0, .aload 0, 1, 0)) (.leaf (1, .getfield 256, 4, 109))) (.branch 5 (.leaf (4, .iload 1, 5, 0)) (.branch 8 (.leaf (5, .invokestatic 19, 8, 359)) (.leaf (8, .ireturn, 9, 0)))))
set_option maxRecDepth 100000 in
def pg_52 : Lean.RArray sIn := (.branch 14 (.branch 6 (.branch 4 (.branch 1 (.leaf (0, .iload 1, 1, 0)) (.leaf (1, .ifCond .lt 26, 4, 0))) (.branch 5 (.leaf (4, .iload 1, 5, 0)) (.leaf (5, .ldc 5, 6, 0)))) (.branch 10 (.branch 9 (.leaf (6, .if_icmp .ge 26, 9, 0)) (.leaf (9, .iload 2, 10, 0))) (.branch 13 (.leaf (10, .ifCond .lt 26, 13, 0)) (.leaf (13, .iload 2, 14, 0))))) (.branch 22 (.branch 16 (.branch 15 (.leaf (14, .aload 0, 15, 0)) (.leaf (15, .iload 1, 16, 0))) (.branch 19 (.leaf (16, .invokevirtual 51, 19, 355)) (.leaf (19, .if_icmp .ge 26, 22, 0)))) (.branch 26 (.branch 23 (.leaf (22, .ldc 1, 23, 0)) (.leaf (23, .goto 27, 26, 0))) (.branch 27 (.leaf (26, .ldc 0, 27, 0)) (.leaf (27, .ireturn, 28, 0))))))
set_option maxRecDepth 100000 in
def pg_53 : Lean.RArray sIn := (.branch 15 (.branch 7 (.branch 2 (.branch 1 (.leaf (0, .aload 0, 1, 0)) (.leaf (1, .iload 1, 2, 0))) (.branch 5 (.leaf (2, .invokevirtual 51, 5, 355)) (.branch 6 (.leaf (5, .iload 2, 6, 0)) (.leaf (6, .isub, 7, 0))))) (.branch 10 (.branch 8 (.leaf (7, .istore 3, 8, 0)) (.branch 9 (.leaf (8, .iload 1, 9, 0)) (.leaf (9, .ldc 1, 10, 0)))) (.branch 11 (.leaf (10, .iadd, 11, 0)) (.branch 13 (.leaf (11, .istore 4, 13, 0)) (.leaf (13, .iload 4, 15, 0)))))) (.branch 26 (.branch 20 (.branch 16 (.leaf (15, .ldc 5, 16, 0)) (.branch 19 (.leaf (16, .if_icmp .ge 38, 19, 0)) (.leaf (19, .aload 0, 20, 0)))) (.branch 22 (.leaf (20, .iload 4, 22, 0)) (.branch 25 (.leaf (22, .invokevirtual 51, 25, 355)) (.leaf (25, .iload 2, 26, 0))))) (.branch 35 (.branch 29 (.leaf (26, .if_icmp .le 32, 29, 0)) (.branch 32 (.leaf (29, .iinc 3 1, 32, 0)) (.leaf (32, .iinc 4 1, 35, 0)))) (.branch 38 (.leaf (35, .goto 13, 38, 0)) (.branch 39 (.leaf (38, .iload 3, 39, 0)) (.leaf (39, .ireturn, 40, 0)))))))
set_option maxRecDepth 100000 in
def pg_54 : Lean.RArray sIn := (.branch 18 (.branch 6 (.branch 3 (.branch 1 (.leaf (0, .ldc 1, 1, 0)) (.branch 2 (.leaf (1, .istore 1, 2, 0)) (.leaf (2, .ldc 0, 3, 0)))) (.branch 4 (.leaf (3, .istore 2, 4, 0)) (.branch 5 (.leaf (4, .iload 2, 5, 0)) (.leaf (5, .aload 0, 6, 0))))) (.branch 13 (.branch 9 (.leaf (6, .getfield 257, 9, 111)) (.branch 12 (.leaf (9, .if_icmp .ge 37, 12, 0)) (.leaf (12, .iload 1, 13, 0)))) (.branch 14 (.leaf (13, .aload 0, 14, 0)) (.branch 15 (.leaf (14, .aload 0, 15, 0)) (.leaf (15, .getfield 260, 18, 120)))))) (.branch 26 (.branch 21 (.branch 19 (.leaf (18, .iload 2, 19, 0)) (.branch 20 (.leaf (19, .iaload, 20, 0)) (.leaf (20, .aload 0, 21, 0)))) (.branch 24 (.leaf (21, .getfield 261, 24, 121)) (.branch 25 (.leaf (24, .iload 2, 25, 0)) (.leaf (25, .iaload, 26, 0))))) (.branch 31 (.branch 29 (.leaf (26, .invokevirtual 53, 29, 497)) (.branch 30 (.leaf (29, .imul, 30, 0)) (.leaf (30, .istore 1, 31, 0)))) (.branch 37 (.branch 34 (.leaf (31, .iinc 2 1, 34, 0)) (.leaf (34, .goto 4, 37, 0))) (.branch 38 (.leaf (37, .iload 1, 38, 0)) (.leaf (38, .ireturn, 39, 0)))))))
set_option maxRecDepth 100000 in
def pg_55 : Lean.RArray sIn := (.branch 9 (.branch 4 (.branch 1 (.leaf (0, .aload 0, 1, 0)) (.leaf (1, .getfield 260, 4, 120))) (.branch 5 (.leaf (4, .aload 0, 5, 0)) (.branch 8 (.leaf (5, .getfield 262, 8, 123)) (.leaf (8, .iload 1, 9, 0))))) (.branch 11 (.branch 10 (.leaf (9, .aaload, 10, 0)) (.leaf (10, .iload 2, 11, 0))) (.branch 12 (.leaf (11, .iaload, 12, 0)) (.branch 13 (.leaf (12, .iaload, 13, 0)) (.leaf (13, .ireturn, 14, 0))))))
set_option maxRecDepth 100000 in
def pg_56 : Lean.RArray sIn := (.branch 9 (.branch 4 (.branch 1 (.leaf (0, .aload 0, 1, 0)) (.leaf (1, .getfield 261, 4, 121))) (.branch 5 (.leaf (4, .aload 0, 5, 0)) (.branch 8 (.leaf (5, .getfield 262, 8, 123)) (.leaf (8, .iload 1, 9, 0))))) (.branch 11 (.branch 10 (.leaf (9, .aaload, 10, 0)) (.leaf (10, .iload 2, 11, 0))) (.branch 12 (.leaf (11, .iaload, 12, 0)) (.branch 13 (.leaf (12, .iaload, 13, 0)) (.leaf (13, .ireturn, 14, 0))))))
set_option maxRecDepth 100000 in
def pg_57 : Lean.RArray sIn := (.branch 16 (.branch 8 (.branch 3 (.branch 1 (.leaf (0, .aload 0, 1, 0)) (.branch 2 (.leaf (1, .iload 1, 2, 0)) (.leaf (2, .iload 2, 3, 0)))) (.branch 4 (.leaf (3, .ldc 1, 4, 0)) (.branch 5 (.leaf (4, .iadd, 5, 0)) (.leaf (5, .invokevirtual 56, 8, 440))))) (.branch 11 (.branch 9 (.leaf (8, .aload 0, 9, 0)) (.branch 10 (.leaf (9, .iload 1, 10, 0)) (.leaf (10, .iload 2, 11, 0)))) (.branch 12 (.leaf (11, .ldc 1, 12, 0)) (.branch 13 (.leaf (12, .iadd, 13, 0)) (.leaf (13, .invokevirtual 55, 16, 444)))))) (.branch 24 (.branch 19 (.branch 17 (.leaf (16, .isub, 17, 0)) (.branch 18 (.leaf (17, .aload 0, 18, 0)) (.leaf (18, .iload 1, 19, 0)))) (.branch 20 (.leaf (19, .iload 2, 20, 0)) (.branch 23 (.leaf (20, .invokevirtual 56, 23, 440)) (.leaf (23, .aload 0, 24, 0))))) (.branch 29 (.branch 25 (.leaf (24, .iload 1, 25, 0)) (.branch 26 (.leaf (25, .iload 2, 26, 0)) (.leaf (26, .invokevirtual 55, 29, 444)))) (.branch 30 (.leaf (29, .isub, 30, 0)) (.branch 31 (.leaf (30, .isub, 31, 0)) (.leaf (31, .ireturn, 32, 0)))))))
set_option maxRecDepth 100000 in
def pg_58 : Lean.RArray sIn := (.branch 13 (.branch 4 (.branch 2 (.branch 1 (.leaf (0, .ldc 0, 1, 0)) (.leaf (1, .istore 3, 2, 0))) (.branch 3 (.leaf (2, .iload 3, 3, 0)) (.leaf (3, .aload 0, 4, 0)))) (.branch 10 (.branch 7 (.leaf (4, .getfield 258, 7, 116)) (.leaf (7, .if_icmp .ge 31, 10, 0))) (.branch 11 (.leaf (10, .aload 0, 11, 0)) (.branch 12 (.leaf (11, .iload 1, 12, 0)) (.leaf (12, .iload 2, 13, 0)))))) (.branch 24 (.branch 17 (.branch 16 (.leaf (13, .invokestatic 10, 16, 425)) (.leaf (16, .iload 3, 17, 0))) (.branch 20 (.leaf (17, .invokevirtual 59, 20, 432)) (.branch 23 (.leaf (20, .ifCond .eq 25, 23, 0)) (.leaf (23, .iload 3, 24, 0))))) (.branch 28 (.branch 25 (.leaf (24, .ireturn, 25, 0)) (.leaf (25, .iinc 3 1, 28, 0))) (.branch 31 (.leaf (28, .goto 2, 31, 0)) (.branch 33 (.leaf (31, .ldc 4294967294, 33, 0)) (.leaf (33, .ireturn, 34, 0)))))))
set_option maxRecDepth 100000 in
def pg_59 : Lean.RArray sIn := (.branch 24 (.branch 12 (.branch 5 (.branch 1 (.leaf (0, .ldc 1, 1, 0)) (.branch 3 (.leaf (1, .istore 4, 3, 0)) (.leaf (3, .iload 4, 5, 0)))) (.branch 6 (.leaf (5, .aload 0, 6, 0)) (.branch 9 (.leaf (6, .getfield 257, 9, 111)) (.leaf (9, .if_icmp .gt 45, 12, 0))))) (.branch 17 (.branch 13 (.leaf (12, .aload 0, 13, 0)) (.branch 16 (.leaf (13, .getfield 262, 16, 123)) (.leaf (16, .iload 3, 17, 0)))) (.branch 19 (.branch 18 (.leaf (17, .aaload, 18, 0)) (.leaf (18, .iload 2, 19, 0))) (.branch 21 (.leaf (19, .iload 4, 21, 0)) (.leaf (21, .invokestatic 6, 24, 386)))))) (.branch 34 (.branch 29 (.branch 25 (.leaf (24, .iaload, 25, 0)) (.branch 26 (.leaf (25, .aload 0, 26, 0)) (.leaf (26, .getfield 262, 29, 123)))) (.branch 31 (.branch 30 (.leaf (29, .iload 1, 30, 0)) (.leaf (30, .aaload, 31, 0))) (.branch 33 (.leaf (31, .iload 4, 33, 0)) (.leaf (33, .iaload, 34, 0))))) (.branch 39 (.branch 37 (.leaf (34, .if_icmp .eq 39, 37, 0)) (.branch 38 (.leaf (37, .ldc 0, 38, 0)) (.leaf (38, .ireturn, 39, 0)))) (.branch 45 (.branch 42 (.leaf (39, .iinc 4 1, 42, 0)) (.leaf (42, .goto 3, 45, 0))) (.branch 46 (.leaf (45, .ldc 1, 46, 0)) (.leaf (46, .ireturn, 47, 0)))))))
set_option maxRecDepth 100000 in
def pg_60 : Lean.RArray sIn := (.branch 18 (.branch 9 (.branch 3 (.branch 1 (.leaf (0, .ldc 1, 1, 0)) (.leaf (1, .istore 4, 3, 0))) (.branch 5 (.leaf (3, .iload 4, 5, 0)) (.branch 6 (.leaf (5, .aload 0, 6, 0)) (.leaf (6, .getfield 257, 9, 111))))) (.branch 13 (.branch 12 (.leaf (9, .if_icmp .gt 35, 12, 0)) (.leaf (12, .aload 3, 13, 0))) (.branch 14 (.leaf (13, .aload 0, 14, 0)) (.branch 17 (.leaf (14, .getfield 262, 17, 123)) (.leaf (17, .iload 1, 18, 0)))))) (.branch 25 (.branch 21 (.branch 19 (.leaf (18, .aaload, 19, 0)) (.leaf (19, .iload 4, 21, 0))) (.branch 22 (.leaf (21, .iaload, 22, 0)) (.branch 23 (.leaf (22, .iload 2, 23, 0)) (.leaf (23, .iload 4, 25, 0))))) (.branch 29 (.branch 28 (.leaf (25, .invokestatic 6, 28, 386)) (.leaf (28, .iastore, 29, 0))) (.branch 32 (.leaf (29, .iinc 4 1, 32, 0)) (.branch 35 (.leaf (32, .goto 3, 35, 0)) (.leaf (35, .return_, 36, 0)))))))
set_option maxRecDepth 100000 in
def pg_61 : Lean.RArray sIn := (.branch 30 (.branch 14 (.branch 5 (.branch 2 (.branch 1 (.leaf (0, .ldc 0, 1, 0)) (.leaf (1, .istore 2, 2, 0))) (.branch 3 (.leaf (2, .ldc 0, 3, 0)) (.branch 4 (.leaf (3, .istore 3, 4, 0)) (.leaf (4, .iload 3, 5, 0))))) (.branch 9 (.branch 6 (.leaf (5, .aload 0, 6, 0)) (.leaf (6, .getfield 257, 9, 111))) (.branch 12 (.leaf (9, .if_icmp .ge 45, 12, 0)) (.branch 13 (.leaf (12, .aload 1, 13, 0)) (.leaf (13, .iload 3, 14, 0)))))) (.branch 21 (.branch 16 (.branch 15 (.leaf (14, .iaload, 15, 0)) (.leaf (15, .ldc 1, 16, 0))) (.branch 19 (.leaf (16, .if_icmp .lt 29, 19, 0)) (.branch 20 (.leaf (19, .aload 1, 20, 0)) (.leaf (20, .iload 3, 21, 0))))) (.branch 23 (.branch 22 (.leaf (21, .iaload, 22, 0)) (.leaf (22, .aload 0, 23, 0))) (.branch 26 (.leaf (23, .getfield 257, 26, 111)) (.branch 29 (.leaf (26, .if_icmp .le 31, 29, 0)) (.leaf (29, .ldc 0, 30, 0))))))) (.branch 42 (.branch 35 (.branch 32 (.branch 31 (.leaf (30, .ireturn, 31, 0)) (.leaf (31, .iload 2, 32, 0))) (.branch 33 (.leaf (32, .ldc 1, 33, 0)) (.branch 34 (.leaf (33, .aload 1, 34, 0)) (.leaf (34, .iload 3, 35, 0))))) (.branch 37 (.branch 36 (.leaf (35, .iaload, 36, 0)) (.leaf (36, .ishl, 37, 0))) (.branch 38 (.leaf (37, .ior, 38, 0)) (.branch 39 (.leaf (38, .istore 2, 39, 0)) (.leaf (39, .iinc 3 1, 42, 0)))))) (.branch 53 (.branch 46 (.branch 45 (.leaf (42, .goto 4, 45, 0)) (.leaf (45, .iload 2, 46, 0))) (.branch 49 (.leaf (46, .invokestatic 230, 49, 553)) (.branch 50 (.leaf (49, .aload 0, 50, 0)) (.leaf (50, .getfield 257, 53, 111))))) (.branch 57 (.branch 56 (.leaf (53, .if_icmp .ne 60, 56, 0)) (.leaf (56, .ldc 1, 57, 0))) (.branch 60 (.leaf (57, .goto 61, 60, 0)) (.branch 61 (.leaf (60, .ldc 0, 61, 0)) (.leaf (61, .ireturn, 62, 0))))))))
set_option maxRecDepth 100000 in
def pg_62 : Lean.RArray sIn := (.branch 17 (.branch 7 (.branch 2 (.branch 1 (.leaf (0, .ldc 1, 1, 0)) (.leaf (1, .istore 3, 2, 0))) (.branch 3 (.leaf (2, .iload 3, 3, 0)) (.branch 4 (.leaf (3, .aload 0, 4, 0)) (.leaf (4, .getfield 257, 7, 111))))) (.branch 12 (.branch 10 (.leaf (7, .if_icmp .gt 32, 10, 0)) (.branch 11 (.leaf (10, .aload 2, 11, 0)) (.leaf (11, .aload 0, 12, 0)))) (.branch 15 (.leaf (12, .getfield 262, 15, 123)) (.branch 16 (.leaf (15, .iload 1, 16, 0)) (.leaf (16, .aaload, 17, 0)))))) (.branch 24 (.branch 19 (.branch 18 (.leaf (17, .iload 3, 18, 0)) (.leaf (18, .iaload, 19, 0))) (.branch 20 (.leaf (19, .iaload, 20, 0)) (.branch 21 (.leaf (20, .iload 3, 21, 0)) (.leaf (21, .if_icmp .eq 26, 24, 0))))) (.branch 29 (.branch 25 (.leaf (24, .ldc 0, 25, 0)) (.branch 26 (.leaf (25, .ireturn, 26, 0)) (.leaf (26, .iinc 3 1, 29, 0)))) (.branch 32 (.leaf (29, .goto 2, 32, 0)) (.branch 33 (.leaf (32, .ldc 1, 33, 0)) (.leaf (33, .ireturn, 34, 0)))))))
set_option maxRecDepth 100000 in
def pg_63 : Lean.RArray sIn := (.branch 8 (.branch 5 (.branch 1 (.leaf (0, .aload 0, 1, 0)) (.branch 2 (.leaf (1, .iload 1, 2, 0)) (.leaf (2, .invokevirtual 51, 5, 355)))) (.branch 6 (.leaf (5, .aload 0, 6, 0)) (.branch 7 (.leaf (6, .iload 1, 7, 0)) (.leaf (7, .ldc 1, 8, 0))))) (.branch 15 (.branch 9 (.leaf (8, .iadd, 9, 0)) (.branch 12 (.leaf (9, .invokevirtual 51, 12, 355)) (.leaf (12, .if_icmp .le 19, 15, 0)))) (.branch 19 (.branch 16 (.leaf (15, .ldc 1, 16, 0)) (.leaf (16, .goto 20, 19, 0))) (.branch 20 (.leaf (19, .ldc 0, 20, 0)) (.leaf (20, .ireturn, 21, 0))))))
set_option maxRecDepth 100000 in
def pg_64 : Lean.RArray sIn := (.branch 14 (.branch 5 (.branch 2 (.branch 1 (.leaf (0, .ldc 0, 1, 0)) (.leaf (1, .istore 1, 2, 0))) (.branch 3 (.leaf (2, .ldc 0, 3, 0)) (.branch 4 (.leaf (3, .istore 2, 4, 0)) (.leaf (4, .iload 2, 5, 0))))) (.branch 9 (.branch 6 (.leaf (5, .ldc 5, 6, 0)) (.leaf (6, .if_icmp .ge 29, 9, 0))) (.branch 10 (.leaf (9, .aload 0, 10, 0)) (.branch 11 (.leaf (10, .iload 2, 11, 0)) (.leaf (11, .invokevirtual 63, 14, 720)))))) (.branch 21 (.branch 18 (.branch 17 (.leaf (14, .ifCond .eq 23, 17, 0)) (.leaf (17, .iload 1, 18, 0))) (.branch 19 (.leaf (18, .ldc 1, 19, 0)) (.branch 20 (.leaf (19, .iload 2, 20, 0)) (.leaf (20, .ishl, 21, 0))))) (.branch 26 (.branch 22 (.leaf (21, .ior, 22, 0)) (.branch 23 (.leaf (22, .istore 1, 23, 0)) (.leaf (23, .iinc 2 1, 26, 0)))) (.branch 29 (.leaf (26, .goto 4, 29, 0)) (.branch 30 (.leaf (29, .iload 1, 30, 0)) (.leaf (30, .ireturn, 31, 0)))))))
set_option maxRecDepth 100000 in
def pg_65 : Lean.RArray sIn := (.branch 14 (.branch 5 (.branch 2 (.branch 1 (.leaf (0, .ldc 0, 1, 0)) (.leaf (1, .istore 2, 2, 0))) (.branch 3 (.leaf (2, .ldc 0, 3, 0)) (.branch 4 (.leaf (3, .istore 3, 4, 0)) (.leaf (4, .iload 3, 5, 0))))) (.branch 9 (.branch 6 (.leaf (5, .aload 0, 6, 0)) (.leaf (6, .getfield 258, 9, 116))) (.branch 12 (.leaf (9, .if_icmp .ge 34, 12, 0)) (.branch 13 (.leaf (12, .aload 0, 13, 0)) (.leaf (13, .iload 3, 14, 0)))))) (.branch 25 (.branch 18 (.branch 15 (.leaf (14, .aload 0, 15, 0)) (.leaf (15, .getfield 257, 18, 111))) (.branch 21 (.leaf (18, .invokevirtual 55, 21, 444)) (.branch 22 (.leaf (21, .iload 1, 22, 0)) (.leaf (22, .if_icmp .ne 28, 25, 0))))) (.branch 31 (.branch 28 (.leaf (25, .iinc 2 1, 28, 0)) (.leaf (28, .iinc 3 1, 31, 0))) (.branch 34 (.leaf (31, .goto 4, 34, 0)) (.branch 35 (.leaf (34, .iload 2, 35, 0)) (.leaf (35, .ireturn, 36, 0)))))))
set_option maxRecDepth 100000 in
def pg_68 : Lean.RArray sIn := (.branch 13 (.branch 6 (.branch 2 (.branch 1 (.leaf (0, .aload 0, 1, 0)) (.leaf (1, .iload 1, 2, 0))) (.branch 5 (.leaf (2, .putfield 320, 5, 214)) (.leaf (5, .aload 0, 6, 0)))) (.branch 10 (.branch 7 (.leaf (6, .iload 2, 7, 0)) (.leaf (7, .putfield 321, 10, 215))) (.branch 11 (.leaf (10, .ldc 0, 11, 0)) (.branch 12 (.leaf (11, .istore 3, 12, 0)) (.leaf (12, .iload 3, 13, 0)))))) (.branch 23 (.branch 18 (.branch 15 (.leaf (13, .ldc 20, 15, 0)) (.leaf (15, .if_icmp .ge 31, 18, 0))) (.branch 19 (.leaf (18, .aload 0, 19, 0)) (.branch 22 (.leaf (19, .getfield 322, 22, 217)) (.leaf (22, .iload 3, 23, 0))))) (.branch 25 (.branch 24 (.leaf (23, .ldc 0, 24, 0)) (.leaf (24, .iastore, 25, 0))) (.branch 28 (.leaf (25, .iinc 3 1, 28, 0)) (.branch 31 (.leaf (28, .goto 12, 31, 0)) (.leaf (31, .return_, 32, 0)))))))
set_option maxRecDepth 100000 in
def pg_69 : Lean.RArray sIn := (.branch 9 (.branch 4 (.branch 1 (.leaf (0, .iload 1, 1, 0)) (.leaf (1, .ifCond .lt 16, 4, 0))) (.branch 5 (.leaf (4, .iload 1, 5, 0)) (.branch 6 (.leaf (5, .aload 0, 6, 0)) (.leaf (6, .getfield 321, 9, 215))))) (.branch 13 (.branch 12 (.leaf (9, .if_icmp .ge 16, 12, 0)) (.leaf (12, .ldc 1, 13, 0))) (.branch 16 (.leaf (13, .goto 17, 16, 0)) (.branch 17 (.leaf (16, .ldc 0, 17, 0)) (.leaf (17, .ireturn, 18, 0))))))
set_option maxRecDepth 100000 in
def pg_70 : Lean.RArray sIn := (.branch 24 (.branch 11 (.branch 4 (.branch 2 (.branch 1 (.leaf (0, .ldc 0, 1, 0)) (.leaf (1, .istore 2, 2, 0))) (.branch 3 (.leaf (2, .iload 2, 3, 0)) (.leaf (3, .ldc 4, 4, 0)))) (.branch 8 (.branch 7 (.leaf (4, .if_icmp .ge 56, 7, 0)) (.leaf (7, .aload 1, 8, 0))) (.branch 9 (.leaf (8, .iload 2, 9, 0)) (.branch 10 (.leaf (9, .aaload, 10, 0)) (.leaf (10, .aload 0, 11, 0)))))) (.branch 19 (.branch 13 (.branch 12 (.leaf (11, .iload 2, 12, 0)) (.leaf (12, .aaload, 13, 0))) (.branch 16 (.leaf (13, .getfield 320, 16, 214)) (.leaf (16, .putfield 320, 19, 214)))) (.branch 21 (.branch 20 (.leaf (19, .aload 1, 20, 0)) (.leaf (20, .iload 2, 21, 0))) (.branch 22 (.leaf (21, .aaload, 22, 0)) (.branch 23 (.leaf (22, .aload 0, 23, 0)) (.leaf (23, .iload 2, 24, 0))))))) (.branch 39 (.branch 32 (.branch 28 (.branch 25 (.leaf (24, .aaload, 25, 0)) (.leaf (25, .getfield 321, 28, 215))) (.branch 31 (.leaf (28, .putfield 321, 31, 215)) (.leaf (31, .aload 0, 32, 0)))) (.branch 34 (.branch 33 (.leaf (32, .iload 2, 33, 0)) (.leaf (33, .aaload, 34, 0))) (.branch 37 (.leaf (34, .getfield 322, 37, 217)) (.branch 38 (.leaf (37, .ldc 0, 38, 0)) (.leaf (38, .aload 1, 39, 0)))))) (.branch 45 (.branch 41 (.branch 40 (.leaf (39, .iload 2, 40, 0)) (.leaf (40, .aaload, 41, 0))) (.branch 44 (.leaf (41, .getfield 322, 44, 217)) (.leaf (44, .ldc 0, 45, 0)))) (.branch 50 (.branch 47 (.leaf (45, .ldc 20, 47, 0)) (.leaf (47, .invokedynamic 0, 50, 898))) (.branch 53 (.leaf (50, .iinc 2 1, 53, 0)) (.branch 56 (.leaf (53, .goto 2, 56, 0)) (.leaf (56, .return_, 57, 0))))))))
set_option maxRecDepth 100000 in
def pg_72 : Lean.RArray sIn := (.branch 41 (.branch 21 (.branch 10 (.branch 4 (.branch 1 (.leaf (0, .aload 0, 1, 0)) (.leaf (1, .getfield 384, 4, 232))) (.branch 6 (.leaf (4, .ldc 10, 6, 0)) (.branch 9 (.leaf (6, .if_icmp .ne 49, 9, 0)) (.leaf (9, .aload 0, 10, 0))))) (.branch 15 (.branch 13 (.leaf (10, .getfield 385, 13, 234)) (.branch 14 (.leaf (13, .ldc 1, 14, 0)) (.leaf (14, .aload 0, 15, 0)))) (.branch 18 (.leaf (15, .getfield 385, 18, 234)) (.branch 19 (.leaf (18, .ldc 0, 19, 0)) (.leaf (19, .ldc 9, 21, 0)))))) (.branch 30 (.branch 25 (.branch 24 (.leaf (21, .invokedynamic 0, 24, 587)) (.leaf (24, .aload 0, 25, 0))) (.branch 28 (.leaf (25, .getfield 386, 28, 235)) (.branch 29 (.leaf (28, .ldc 1, 29, 0)) (.leaf (29, .aload 0, 30, 0))))) (.branch 36 (.branch 33 (.leaf (30, .getfield 386, 33, 235)) (.branch 34 (.leaf (33, .ldc 0, 34, 0)) (.leaf (34, .ldc 9, 36, 0)))) (.branch 39 (.leaf (36, .invokedynamic 0, 39, 587)) (.branch 40 (.leaf (39, .aload 0, 40, 0)) (.leaf (40, .dup, 41, 0))))))) (.branch 60 (.branch 50 (.branch 45 (.branch 44 (.leaf (41, .getfield 384, 44, 232)) (.leaf (44, .ldc 1, 45, 0))) (.branch 46 (.leaf (45, .isub, 46, 0)) (.branch 49 (.leaf (46, .putfield 384, 49, 232)) (.leaf (49, .aload 0, 50, 0))))) (.branch 57 (.branch 53 (.leaf (50, .getfield 385, 53, 234)) (.branch 54 (.leaf (53, .aload 0, 54, 0)) (.leaf (54, .getfield 384, 57, 232)))) (.branch 58 (.leaf (57, .iload 1, 58, 0)) (.branch 59 (.leaf (58, .iastore, 59, 0)) (.leaf (59, .aload 0, 60, 0)))))) (.branch 70 (.branch 67 (.branch 63 (.leaf (60, .getfield 386, 63, 235)) (.branch 64 (.leaf (63, .aload 0, 64, 0)) (.leaf (64, .getfield 384, 67, 232)))) (.branch 68 (.leaf (67, .iload 2, 68, 0)) (.branch 69 (.leaf (68, .iastore, 69, 0)) (.leaf (69, .aload 0, 70, 0))))) (.branch 75 (.branch 71 (.leaf (70, .dup, 71, 0)) (.branch 74 (.leaf (71, .getfield 384, 74, 232)) (.leaf (74, .ldc 1, 75, 0)))) (.branch 76 (.leaf (75, .iadd, 76, 0)) (.branch 79 (.leaf (76, .putfield 384, 79, 232)) (.leaf (79, .return_, 80, 0))))))))
set_option maxRecDepth 100000 in
def pg_73 : Lean.RArray sIn := (.branch 8 (.branch 4 (.branch 1 (.leaf (0, .aload 0, 1, 0)) (.leaf (1, .getfield 385, 4, 234))) (.branch 5 (.leaf (4, .aload 0, 5, 0)) (.leaf (5, .getfield 384, 8, 232)))) (.branch 10 (.branch 9 (.leaf (8, .ldc 1, 9, 0)) (.leaf (9, .isub, 10, 0))) (.branch 11 (.leaf (10, .iaload, 11, 0)) (.leaf (11, .ireturn, 12, 0)))))
set_option maxRecDepth 100000 in
def pg_74 : Lean.RArray sIn := (.branch 8 (.branch 4 (.branch 1 (.leaf (0, .aload 0, 1, 0)) (.leaf (1, .getfield 386, 4, 235))) (.branch 5 (.leaf (4, .aload 0, 5, 0)) (.leaf (5, .getfield 384, 8, 232)))) (.branch 10 (.branch 9 (.leaf (8, .ldc 1, 9, 0)) (.leaf (9, .isub, 10, 0))) (.branch 11 (.leaf (10, .iaload, 11, 0)) (.leaf (11, .ireturn, 12, 0)))))
set_option maxRecDepth 100000 in
def pg_77 : Lean.RArray sIn := (.branch 20 (.branch 10 (.branch 4 (.branch 1 (.leaf (0, .aload 0, 1, 0)) (.leaf (1, .getfield 512, 4, 272))) (.branch 6 (.leaf (4, .ldc 81, 6, 0)) (.branch 9 (.leaf (6, .if_icmp .ge 39, 9, 0)) (.leaf (9, .aload 0, 10, 0))))) (.branch 17 (.branch 13 (.leaf (10, .getfield 513, 13, 275)) (.branch 14 (.leaf (13, .aload 0, 14, 0)) (.leaf (14, .getfield 512, 17, 272)))) (.branch 18 (.leaf (17, .iload 1, 18, 0)) (.branch 19 (.leaf (18, .iastore, 19, 0)) (.leaf (19, .aload 0, 20, 0)))))) (.branch 30 (.branch 27 (.branch 23 (.leaf (20, .getfield 514, 23, 278)) (.branch 24 (.leaf (23, .aload 0, 24, 0)) (.leaf (24, .getfield 512, 27, 272)))) (.branch 28 (.leaf (27, .iload 2, 28, 0)) (.branch 29 (.leaf (28, .iastore, 29, 0)) (.leaf (29, .aload 0, 30, 0))))) (.branch 35 (.branch 31 (.leaf (30, .dup, 31, 0)) (.branch 34 (.leaf (31, .getfield 512, 34, 272)) (.leaf (34, .ldc 1, 35, 0)))) (.branch 36 (.leaf (35, .iadd, 36, 0)) (.branch 39 (.leaf (36, .putfield 512, 39, 272)) (.leaf (39, .return_, 40, 0)))))))
set_option maxRecDepth 100000 in
def pg_78 : Lean.RArray sIn := (.branch 19 (.branch 9 (.branch 2 (.branch 1 (.leaf (0, .aload 0, 1, 0)) (.leaf (1, .aload 1, 2, 0))) (.branch 5 (.leaf (2, .getfield 512, 5, 272)) (.branch 8 (.leaf (5, .putfield 512, 8, 272)) (.leaf (8, .aload 1, 9, 0))))) (.branch 14 (.branch 12 (.leaf (9, .getfield 513, 12, 275)) (.branch 13 (.leaf (12, .ldc 0, 13, 0)) (.leaf (13, .aload 0, 14, 0)))) (.branch 17 (.leaf (14, .getfield 513, 17, 275)) (.branch 18 (.leaf (17, .ldc 0, 18, 0)) (.leaf (18, .aload 0, 19, 0)))))) (.branch 31 (.branch 26 (.branch 22 (.leaf (19, .getfield 512, 22, 272)) (.branch 25 (.leaf (22, .invokedynamic 0, 25, 869)) (.leaf (25, .aload 1, 26, 0)))) (.branch 29 (.leaf (26, .getfield 514, 29, 278)) (.branch 30 (.leaf (29, .ldc 0, 30, 0)) (.leaf (30, .aload 0, 31, 0))))) (.branch 36 (.branch 34 (.leaf (31, .getfield 514, 34, 278)) (.branch 35 (.leaf (34, .ldc 0, 35, 0)) (.leaf (35, .aload 0, 36, 0)))) (.branch 39 (.leaf (36, .getfield 512, 39, 272)) (.branch 42 (.leaf (39, .invokedynamic 0, 42, 869)) (.leaf (42, .return_, 43, 0)))))))
set_option maxRecDepth 100000 in
def pg_80 : Lean.RArray sIn := (.branch 30 (.branch 14 (.branch 4 (.branch 2 (.branch 1 (.leaf (0, .ldc 0, 1, 0)) (.leaf (1, .istore 1, 2, 0))) (.branch 3 (.leaf (2, .iload 1, 3, 0)) (.leaf (3, .aload 0, 4, 0)))) (.branch 10 (.branch 7 (.leaf (4, .getfield 576, 7, 153)) (.leaf (7, .getfield 258, 10, 115))) (.branch 13 (.leaf (10, .if_icmp .ge 65, 13, 0)) (.leaf (13, .aload 0, 14, 0))))) (.branch 21 (.branch 18 (.branch 17 (.leaf (14, .getfield 576, 17, 153)) (.leaf (17, .iload 1, 18, 0))) (.branch 20 (.leaf (18, .ldc 344865, 20, 381)) (.leaf (20, .aload 0, 21, 0)))) (.branch 27 (.branch 24 (.leaf (21, .getfield 578, 24, 155)) (.leaf (24, .invokevirtual 60, 27, 382))) (.branch 28 (.leaf (27, .ldc 0, 28, 0)) (.branch 29 (.leaf (28, .istore 2, 29, 0)) (.leaf (29, .iload 2, 30, 0))))))) (.branch 47 (.branch 40 (.branch 34 (.branch 31 (.leaf (30, .aload 0, 31, 0)) (.leaf (31, .getfield 576, 34, 153))) (.branch 37 (.leaf (34, .getfield 258, 37, 115)) (.leaf (37, .if_icmp .ge 59, 40, 0)))) (.branch 44 (.branch 41 (.leaf (40, .aload 0, 41, 0)) (.leaf (41, .getfield 577, 44, 154))) (.branch 45 (.leaf (44, .iload 1, 45, 0)) (.branch 46 (.leaf (45, .aaload, 46, 0)) (.leaf (46, .iload 2, 47, 0)))))) (.branch 53 (.branch 49 (.branch 48 (.leaf (47, .aload 0, 48, 0)) (.leaf (48, .iload 2, 49, 0))) (.branch 52 (.leaf (49, .invokevirtual 81, 52, 389)) (.leaf (52, .iastore, 53, 0)))) (.branch 59 (.branch 56 (.leaf (53, .iinc 2 1, 56, 0)) (.leaf (56, .goto 29, 59, 0))) (.branch 62 (.leaf (59, .iinc 1 1, 62, 0)) (.branch 65 (.leaf (62, .goto 2, 65, 0)) (.leaf (65, .return_, 66, 0))))))))
set_option maxRecDepth 100000 in
def pg_81 : Lean.RArray sIn := (.branch 47 (.branch 21 (.branch 6 (.branch 3 (.branch 1 (.leaf (0, .ldc 1, 1, 0)) (.branch 2 (.leaf (1, .istore 2, 2, 0)) (.leaf (2, .ldc 1, 3, 0)))) (.branch 4 (.leaf (3, .istore 3, 4, 0)) (.branch 5 (.leaf (4, .iload 3, 5, 0)) (.leaf (5, .aload 0, 6, 0))))) (.branch 15 (.branch 9 (.leaf (6, .getfield 576, 9, 153)) (.branch 12 (.leaf (9, .getfield 257, 12, 113)) (.leaf (12, .if_icmp .ge 94, 15, 0)))) (.branch 18 (.branch 16 (.leaf (15, .ldc 0, 16, 0)) (.leaf (16, .istore 4, 18, 0))) (.branch 20 (.leaf (18, .iload 4, 20, 0)) (.leaf (20, .iload 3, 21, 0)))))) (.branch 34 (.branch 28 (.branch 24 (.leaf (21, .if_icmp .ge 88, 24, 0)) (.branch 25 (.leaf (24, .aload 0, 25, 0)) (.leaf (25, .getfield 576, 28, 153)))) (.branch 31 (.leaf (28, .getfield 261, 31, 122)) (.branch 33 (.leaf (31, .iload 4, 33, 0)) (.leaf (33, .iaload, 34, 0))))) (.branch 41 (.branch 35 (.leaf (34, .aload 0, 35, 0)) (.branch 38 (.leaf (35, .getfield 576, 38, 153)) (.leaf (38, .getfield 261, 41, 122)))) (.branch 43 (.branch 42 (.leaf (41, .iload 3, 42, 0)) (.leaf (42, .iaload, 43, 0))) (.branch 46 (.leaf (43, .if_icmp .ne 82, 46, 0)) (.leaf (46, .iload 2, 47, 0))))))) (.branch 70 (.branch 57 (.branch 52 (.branch 48 (.leaf (47, .aload 0, 48, 0)) (.branch 51 (.leaf (48, .getfield 576, 51, 153)) (.leaf (51, .iload 1, 52, 0)))) (.branch 53 (.leaf (52, .aload 0, 53, 0)) (.branch 56 (.leaf (53, .getfield 578, 56, 155)) (.leaf (56, .iload 3, 57, 0))))) (.branch 62 (.branch 58 (.leaf (57, .iaload, 58, 0)) (.branch 61 (.leaf (58, .invokevirtual 55, 61, 393)) (.leaf (61, .aload 0, 62, 0)))) (.branch 66 (.branch 65 (.leaf (62, .getfield 576, 65, 153)) (.leaf (65, .iload 1, 66, 0))) (.branch 67 (.leaf (66, .aload 0, 67, 0)) (.leaf (67, .getfield 578, 70, 155)))))) (.branch 81 (.branch 76 (.branch 72 (.leaf (70, .iload 4, 72, 0)) (.branch 73 (.leaf (72, .iaload, 73, 0)) (.leaf (73, .invokevirtual 55, 76, 393)))) (.branch 77 (.leaf (76, .isub, 77, 0)) (.branch 80 (.leaf (77, .invokestatic 231, 80, 397)) (.leaf (80, .imul, 81, 0))))) (.branch 88 (.branch 82 (.leaf (81, .istore 2, 82, 0)) (.branch 85 (.leaf (82, .iinc 4 1, 85, 0)) (.leaf (85, .goto 18, 88, 0)))) (.branch 94 (.branch 91 (.leaf (88, .iinc 3 1, 91, 0)) (.leaf (91, .goto 4, 94, 0))) (.branch 95 (.leaf (94, .iload 2, 95, 0)) (.leaf (95, .ireturn, 96, 0))))))))
set_option maxRecDepth 100000 in
def pg_82 : Lean.RArray sIn := (.branch 32 (.branch 18 (.branch 7 (.branch 2 (.branch 1 (.leaf (0, .ldc 0, 1, 0)) (.leaf (1, .istore 1, 2, 0))) (.branch 3 (.leaf (2, .iload 1, 3, 0)) (.branch 4 (.leaf (3, .aload 0, 4, 0)) (.leaf (4, .getfield 576, 7, 153))))) (.branch 13 (.branch 10 (.leaf (7, .getfield 258, 10, 115)) (.leaf (10, .if_icmp .ge 63, 13, 0))) (.branch 14 (.leaf (13, .aload 0, 14, 0)) (.branch 15 (.leaf (14, .iload 1, 15, 0)) (.leaf (15, .invokevirtual 81, 18, 389)))))) (.branch 23 (.branch 20 (.branch 19 (.leaf (18, .istore 2, 19, 0)) (.leaf (19, .ldc 0, 20, 0))) (.branch 21 (.leaf (20, .istore 3, 21, 0)) (.branch 22 (.leaf (21, .iload 3, 22, 0)) (.leaf (22, .iload 1, 23, 0))))) (.branch 27 (.branch 26 (.leaf (23, .if_icmp .ge 50, 26, 0)) (.leaf (26, .iload 2, 27, 0))) (.branch 28 (.leaf (27, .aload 0, 28, 0)) (.branch 31 (.leaf (28, .getfield 579, 31, 156)) (.leaf (31, .iload 3, 32, 0))))))) (.branch 44 (.branch 39 (.branch 34 (.branch 33 (.leaf (32, .iaload, 33, 0)) (.leaf (33, .aload 0, 34, 0))) (.branch 37 (.leaf (34, .getfield 577, 37, 154)) (.branch 38 (.leaf (37, .iload 3, 38, 0)) (.leaf (38, .aaload, 39, 0))))) (.branch 41 (.branch 40 (.leaf (39, .iload 1, 40, 0)) (.leaf (40, .iaload, 41, 0))) (.branch 42 (.leaf (41, .imul, 42, 0)) (.branch 43 (.leaf (42, .isub, 43, 0)) (.leaf (43, .istore 2, 44, 0)))))) (.branch 55 (.branch 50 (.branch 47 (.leaf (44, .iinc 3 1, 47, 0)) (.leaf (47, .goto 21, 50, 0))) (.branch 51 (.leaf (50, .aload 0, 51, 0)) (.branch 54 (.leaf (51, .getfield 579, 54, 156)) (.leaf (54, .iload 1, 55, 0))))) (.branch 57 (.branch 56 (.leaf (55, .iload 2, 56, 0)) (.leaf (56, .iastore, 57, 0))) (.branch 60 (.leaf (57, .iinc 1 1, 60, 0)) (.branch 63 (.leaf (60, .goto 2, 63, 0)) (.leaf (63, .return_, 64, 0))))))))
set_option maxRecDepth 100000 in
def pg_83 : Lean.RArray sIn := (.branch 8 (.branch 3 (.branch 1 (.leaf (0, .aload 1, 1, 0)) (.branch 2 (.leaf (1, .ldc 0, 2, 0)) (.leaf (2, .aload 0, 3, 0)))) (.branch 6 (.leaf (3, .getfield 578, 6, 155)) (.branch 7 (.leaf (6, .ldc 0, 7, 0)) (.leaf (7, .aload 0, 8, 0))))) (.branch 17 (.branch 11 (.leaf (8, .getfield 576, 11, 153)) (.branch 14 (.leaf (11, .getfield 257, 14, 113)) (.leaf (14, .invokedynamic 0, 17, 656)))) (.branch 18 (.leaf (17, .aload 0, 18, 0)) (.branch 21 (.leaf (18, .invokevirtual 82, 21, 657)) (.leaf (21, .return_, 22, 0))))))
set_option maxRecDepth 100000 in
def pg_84 : Lean.RArray sIn := (.branch 7 (.branch 4 (.branch 1 (.leaf (0, .aload 0, 1, 0)) (.leaf (1, .getfield 576, 4, 153))) (.branch 5 (.leaf (4, .iload 1, 5, 0)) (.branch 6 (.leaf (5, .iload 2, 6, 0)) (.leaf (6, .aload 0, 7, 0))))) (.branch 13 (.branch 10 (.leaf (7, .getfield 578, 10, 155)) (.leaf (10, .invokevirtual 60, 13, 382))) (.branch 14 (.leaf (13, .aload 0, 14, 0)) (.branch 17 (.leaf (14, .invokevirtual 82, 17, 657)) (.leaf (17, .return_, 18, 0))))))
set_option maxRecDepth 100000 in
def pg_85 : Lean.RArray sIn := (.branch 18 (.branch 6 (.branch 3 (.branch 1 (.leaf (0, .ldc 0, 1, 0)) (.branch 2 (.leaf (1, .istore 2, 2, 0)) (.leaf (2, .ldc 0, 3, 0)))) (.branch 4 (.leaf (3, .istore 3, 4, 0)) (.branch 5 (.leaf (4, .iload 3, 5, 0)) (.leaf (5, .aload 0, 6, 0))))) (.branch 15 (.branch 9 (.leaf (6, .getfield 576, 9, 153)) (.branch 12 (.leaf (9, .getfield 258, 12, 115)) (.leaf (12, .if_icmp .ge 36, 15, 0)))) (.branch 16 (.leaf (15, .aload 0, 16, 0)) (.branch 17 (.leaf (16, .iload 3, 17, 0)) (.leaf (17, .iload 1, 18, 0)))))) (.branch 28 (.branch 23 (.branch 21 (.leaf (18, .invokevirtual 84, 21, 702)) (.branch 22 (.leaf (21, .iload 2, 22, 0)) (.leaf (22, .aload 0, 23, 0)))) (.branch 26 (.leaf (23, .getfield 579, 26, 156)) (.branch 27 (.leaf (26, .iload 3, 27, 0)) (.leaf (27, .iaload, 28, 0))))) (.branch 33 (.branch 29 (.leaf (28, .iadd, 29, 0)) (.branch 30 (.leaf (29, .istore 2, 30, 0)) (.leaf (30, .iinc 3 1, 33, 0)))) (.branch 36 (.leaf (33, .goto 4, 36, 0)) (.branch 37 (.leaf (36, .iload 2, 37, 0)) (.leaf (37, .ireturn, 38, 0)))))))
set_option maxRecDepth 100000 in
def pg_86 : Lean.RArray sIn := (.branch 49 (.branch 23 (.branch 12 (.branch 5 (.branch 1 (.leaf (0, .ldc 0, 1, 0)) (.branch 3 (.leaf (1, .istore 4, 3, 0)) (.leaf (3, .iload 4, 5, 0)))) (.branch 6 (.leaf (5, .aload 0, 6, 0)) (.branch 9 (.leaf (6, .getfield 576, 9, 153)) (.leaf (9, .getfield 258, 12, 115))))) (.branch 18 (.branch 15 (.leaf (12, .if_icmp .ge 26, 15, 0)) (.branch 16 (.leaf (15, .aload 3, 16, 0)) (.leaf (16, .iload 4, 18, 0)))) (.branch 19 (.leaf (18, .ldc 0, 19, 0)) (.branch 20 (.leaf (19, .iastore, 20, 0)) (.leaf (20, .iinc 4 1, 23, 0)))))) (.branch 35 (.branch 29 (.branch 26 (.leaf (23, .goto 3, 26, 0)) (.branch 27 (.leaf (26, .ldc 0, 27, 0)) (.leaf (27, .istore 4, 29, 0)))) (.branch 31 (.leaf (29, .iload 4, 31, 0)) (.branch 32 (.leaf (31, .aload 0, 32, 0)) (.leaf (32, .getfield 576, 35, 153))))) (.branch 42 (.branch 38 (.leaf (35, .getfield 258, 38, 115)) (.branch 41 (.leaf (38, .if_icmp .ge 94, 41, 0)) (.leaf (41, .aload 0, 42, 0)))) (.branch 45 (.branch 44 (.leaf (42, .iload 4, 44, 0)) (.leaf (44, .iload 2, 45, 0))) (.branch 48 (.leaf (45, .invokevirtual 84, 48, 702)) (.leaf (48, .ldc 0, 49, 0))))))) (.branch 71 (.branch 63 (.branch 54 (.branch 51 (.leaf (49, .istore 5, 51, 0)) (.branch 53 (.leaf (51, .iload 5, 53, 0)) (.leaf (53, .aload 0, 54, 0)))) (.branch 57 (.leaf (54, .getfield 576, 57, 153)) (.branch 60 (.leaf (57, .getfield 258, 60, 115)) (.leaf (60, .if_icmp .ge 88, 63, 0))))) (.branch 67 (.branch 64 (.leaf (63, .aload 3, 64, 0)) (.branch 66 (.leaf (64, .iload 5, 66, 0)) (.leaf (66, .dup2, 67, 0)))) (.branch 68 (.leaf (67, .iaload, 68, 0)) (.branch 69 (.leaf (68, .aload 1, 69, 0)) (.leaf (69, .iload 4, 71, 0)))))) (.branch 80 (.branch 76 (.branch 72 (.leaf (71, .iaload, 72, 0)) (.branch 73 (.leaf (72, .aload 0, 73, 0)) (.leaf (73, .getfield 579, 76, 156)))) (.branch 78 (.leaf (76, .iload 5, 78, 0)) (.branch 79 (.leaf (78, .iaload, 79, 0)) (.leaf (79, .imul, 80, 0))))) (.branch 85 (.branch 81 (.leaf (80, .iadd, 81, 0)) (.branch 82 (.leaf (81, .iastore, 82, 0)) (.leaf (82, .iinc 5 1, 85, 0)))) (.branch 91 (.branch 88 (.leaf (85, .goto 51, 88, 0)) (.leaf (88, .iinc 4 1, 91, 0))) (.branch 94 (.leaf (91, .goto 29, 94, 0)) (.leaf (94, .return_, 95, 0))))))))
set_option maxRecDepth 100000 in
def pg_88 : Lean.RArray sIn := (.branch 62 (.branch 35 (.branch 16 (.branch 6 (.branch 2 (.branch 1 (.leaf (0, .iload 1, 1, 0)) (.leaf (1, .iload 2, 2, 0))) (.branch 5 (.leaf (2, .if_icmp .lt 32, 5, 0)) (.leaf (5, .iload 2, 6, 0)))) (.branch 10 (.branch 7 (.leaf (6, .iload 3, 7, 0)) (.leaf (7, .if_icmp .lt 32, 10, 0))) (.branch 11 (.leaf (10, .iload 3, 11, 0)) (.branch 13 (.leaf (11, .iload 4, 13, 0)) (.leaf (13, .if_icmp .lt 32, 16, 0)))))) (.branch 25 (.branch 20 (.branch 18 (.leaf (16, .iload 4, 18, 0)) (.leaf (18, .iload 5, 20, 0))) (.branch 23 (.leaf (20, .if_icmp .lt 32, 23, 0)) (.leaf (23, .iload 5, 25, 0)))) (.branch 29 (.branch 28 (.leaf (25, .ifCond .lt 32, 28, 0)) (.leaf (28, .ldc 1, 29, 0))) (.branch 32 (.leaf (29, .goto 33, 32, 0)) (.branch 33 (.leaf (32, .ldc 0, 33, 0)) (.leaf (33, .istore 6, 35, 0))))))) (.branch 51 (.branch 42 (.branch 40 (.branch 37 (.leaf (35, .iload 6, 37, 0)) (.leaf (37, .ifCond .eq 65, 40, 0))) (.branch 41 (.leaf (40, .iload 1, 41, 0)) (.leaf (41, .ldc 1, 42, 0)))) (.branch 46 (.branch 45 (.leaf (42, .if_icmp .lt 65, 45, 0)) (.leaf (45, .iload 1, 46, 0))) (.branch 47 (.leaf (46, .ldc 5, 47, 0)) (.branch 50 (.leaf (47, .if_icmp .gt 65, 50, 0)) (.leaf (50, .iload 1, 51, 0)))))) (.branch 55 (.branch 53 (.branch 52 (.leaf (51, .iload 2, 52, 0)) (.leaf (52, .iadd, 53, 0))) (.branch 54 (.leaf (53, .iload 3, 54, 0)) (.leaf (54, .iadd, 55, 0)))) (.branch 58 (.branch 57 (.leaf (55, .iload 4, 57, 0)) (.leaf (57, .iadd, 58, 0))) (.branch 60 (.leaf (58, .iload 5, 60, 0)) (.branch 61 (.leaf (60, .iadd, 61, 0)) (.leaf (61, .ldc 5, 62, 0)))))))) (.branch 94 (.branch 75 (.branch 68 (.branch 66 (.branch 65 (.leaf (62, .if_icmp .le 67, 65, 0)) (.leaf (65, .ldc 4294967295, 66, 0))) (.branch 67 (.leaf (66, .ireturn, 67, 0)) (.leaf (67, .aload 0, 68, 0)))) (.branch 70 (.branch 69 (.leaf (68, .iload 1, 69, 0)) (.leaf (69, .iload 2, 70, 0))) (.branch 71 (.leaf (70, .iload 3, 71, 0)) (.branch 73 (.leaf (71, .iload 4, 73, 0)) (.leaf (73, .iload 5, 75, 0)))))) (.branch 84 (.branch 81 (.branch 78 (.leaf (75, .invokestatic 18, 78, 344)) (.leaf (78, .invokevirtual 125, 81, 347))) (.branch 82 (.leaf (81, .ldc 0, 82, 0)) (.leaf (82, .istore 7, 84, 0)))) (.branch 87 (.branch 86 (.leaf (84, .iload 7, 86, 0)) (.leaf (86, .ldc 4, 87, 0))) (.branch 90 (.leaf (87, .if_icmp .ge 122, 90, 0)) (.branch 91 (.leaf (90, .aload 0, 91, 0)) (.leaf (91, .getfield 644, 94, 450))))))) (.branch 111 (.branch 101 (.branch 97 (.branch 96 (.leaf (94, .iload 7, 96, 0)) (.leaf (96, .aaload, 97, 0))) (.branch 100 (.leaf (97, .getfield 320, 100, 213)) (.leaf (100, .ldc 1, 101, 0)))) (.branch 105 (.branch 104 (.leaf (101, .if_icmp .ne 116, 104, 0)) (.leaf (104, .aload 0, 105, 0))) (.branch 108 (.leaf (105, .getfield 644, 108, 450)) (.branch 110 (.leaf (108, .iload 7, 110, 0)) (.leaf (110, .aaload, 111, 0)))))) (.branch 119 (.branch 113 (.branch 112 (.leaf (111, .ldc 0, 112, 0)) (.leaf (112, .ldc 0, 113, 0))) (.branch 116 (.leaf (113, .invokevirtual 68, 116, 481)) (.leaf (116, .iinc 7 1, 119, 0)))) (.branch 123 (.branch 122 (.leaf (119, .goto 84, 122, 0)) (.leaf (122, .aload 0, 123, 0))) (.branch 126 (.leaf (123, .getfield 640, 126, 446)) (.branch 129 (.leaf (126, .getfield 258, 129, 118)) (.leaf (129, .ireturn, 130, 0)))))))))
set_option maxRecDepth 100000 in
def pg_89 : Lean.RArray sIn := (.branch 62 (.branch 45 (.branch 37 (.branch 1 (.leaf (0, .iload 1, 1, 0)) (.branch 36 (.leaf (1, .lookupswitch 89 #[(0, 36), (1, 44), (2, 55), (3, 63), (4, 71)], 36, 0)) (.leaf (36, .aload 0, 37, 0)))) (.branch 43 (.branch 40 (.leaf (37, .getfield 640, 40, 446)) (.leaf (40, .getfield 257, 43, 114))) (.branch 44 (.leaf (43, .ireturn, 44, 0)) (.leaf (44, .aload 0, 45, 0))))) (.branch 54 (.branch 48 (.leaf (45, .getfield 640, 48, 446)) (.branch 51 (.leaf (48, .getfield 256, 51, 110)) (.leaf (51, .invokestatic 21, 54, 489)))) (.branch 56 (.branch 55 (.leaf (54, .ireturn, 55, 0)) (.leaf (55, .aload 0, 56, 0))) (.branch 59 (.leaf (56, .getfield 640, 59, 446)) (.leaf (59, .getfield 258, 62, 118)))))) (.branch 75 (.branch 67 (.branch 63 (.leaf (62, .ireturn, 63, 0)) (.branch 64 (.leaf (63, .aload 0, 64, 0)) (.leaf (64, .getfield 640, 67, 446)))) (.branch 71 (.branch 70 (.leaf (67, .invokevirtual 54, 70, 493)) (.leaf (70, .ireturn, 71, 0))) (.branch 72 (.leaf (71, .aload 0, 72, 0)) (.leaf (72, .getfield 640, 75, 446))))) (.branch 85 (.branch 79 (.branch 78 (.leaf (75, .getfield 257, 78, 114)) (.leaf (78, .aload 0, 79, 0))) (.branch 82 (.leaf (79, .getfield 640, 82, 446)) (.leaf (82, .getfield 256, 85, 110)))) (.branch 89 (.branch 88 (.leaf (85, .invokestatic 24, 88, 501)) (.leaf (88, .ireturn, 89, 0))) (.branch 90 (.leaf (89, .ldc 4294967295, 90, 0)) (.leaf (90, .ireturn, 91, 0)))))))
set_option maxRecDepth 100000 in
def pg_90 : Lean.RArray sIn := (.branch 48 (.branch 12 (.branch 5 (.branch 1 (.leaf (0, .aload 0, 1, 0)) (.branch 4 (.leaf (1, .getfield 640, 4, 446)) (.leaf (4, .iload 1, 5, 0)))) (.branch 6 (.leaf (5, .iload 2, 6, 0)) (.branch 9 (.leaf (6, .invokevirtual 52, 9, 518)) (.leaf (9, .ifCond .ne 16, 12, 0))))) (.branch 17 (.branch 15 (.leaf (12, .ldc2_w 9223372036854775808, 15, 522)) (.branch 16 (.leaf (15, .lreturn, 16, 0)) (.leaf (16, .iload 3, 17, 0)))) (.branch 44 (.leaf (17, .lookupswitch 60 #[(0, 44), (1, 55)], 44, 0)) (.branch 45 (.leaf (44, .aload 0, 45, 0)) (.leaf (45, .getfield 640, 48, 446)))))) (.branch 56 (.branch 53 (.branch 49 (.leaf (48, .iload 1, 49, 0)) (.branch 50 (.leaf (49, .iload 2, 50, 0)) (.leaf (50, .invokevirtual 53, 53, 523)))) (.branch 54 (.leaf (53, .i2l, 54, 0)) (.branch 55 (.leaf (54, .lreturn, 55, 0)) (.leaf (55, .iload 2, 56, 0))))) (.branch 59 (.branch 57 (.leaf (56, .iload 1, 57, 0)) (.branch 58 (.leaf (57, .isub, 58, 0)) (.leaf (58, .i2l, 59, 0)))) (.branch 60 (.leaf (59, .lreturn, 60, 0)) (.branch 63 (.leaf (60, .ldc2_w 9223372036854775808, 63, 522)) (.leaf (63, .lreturn, 64, 0)))))))
set_option maxRecDepth 100000 in
def pg_91 : Lean.RArray sIn := (.branch 45 (.branch 10 (.branch 5 (.branch 1 (.leaf (0, .aload 0, 1, 0)) (.branch 2 (.leaf (1, .iload 1, 2, 0)) (.leaf (2, .invokevirtual 131, 5, 528)))) (.branch 8 (.leaf (5, .ifCond .eq 16, 8, 0)) (.branch 9 (.leaf (8, .aload 0, 9, 0)) (.leaf (9, .iload 2, 10, 0))))) (.branch 17 (.branch 13 (.leaf (10, .invokevirtual 132, 13, 532)) (.branch 16 (.leaf (13, .ifCond .ne 18, 16, 0)) (.leaf (16, .ldc 4294967295, 17, 0)))) (.branch 19 (.branch 18 (.leaf (17, .ireturn, 18, 0)) (.leaf (18, .iload 3, 19, 0))) (.branch 44 (.leaf (19, .lookupswitch 64 #[(0, 44), (1, 54)], 44, 0)) (.leaf (44, .aload 0, 45, 0)))))) (.branch 55 (.branch 50 (.branch 48 (.leaf (45, .getfield 640, 48, 446)) (.branch 49 (.leaf (48, .iload 1, 49, 0)) (.leaf (49, .iload 2, 50, 0)))) (.branch 53 (.leaf (50, .invokevirtual 55, 53, 536)) (.branch 54 (.leaf (53, .ireturn, 54, 0)) (.leaf (54, .aload 0, 55, 0))))) (.branch 60 (.branch 58 (.leaf (55, .getfield 640, 58, 446)) (.branch 59 (.leaf (58, .iload 1, 59, 0)) (.leaf (59, .iload 2, 60, 0)))) (.branch 64 (.branch 63 (.leaf (60, .invokevirtual 56, 63, 537)) (.leaf (63, .ireturn, 64, 0))) (.branch 65 (.leaf (64, .ldc 4294967295, 65, 0)) (.leaf (65, .ireturn, 66, 0)))))))
set_option maxRecDepth 100000 in
def pg_92 : Lean.RArray sIn := (.branch 48 (.branch 19 (.branch 8 (.branch 3 (.branch 1 (.leaf (0, .aload 0, 1, 0)) (.branch 2 (.leaf (1, .iload 1, 2, 0)) (.leaf (2, .ldc 2, 3, 0)))) (.branch 6 (.leaf (3, .invokevirtual 129, 6, 542)) (.branch 7 (.leaf (6, .istore 2, 7, 0)) (.leaf (7, .iload 2, 8, 0))))) (.branch 13 (.branch 11 (.leaf (8, .ifCond .eq 13, 11, 0)) (.branch 12 (.leaf (11, .iload 2, 12, 0)) (.leaf (12, .ireturn, 13, 0)))) (.branch 17 (.branch 14 (.leaf (13, .aload 0, 14, 0)) (.leaf (14, .getfield 644, 17, 450))) (.branch 18 (.leaf (17, .iload 1, 18, 0)) (.leaf (18, .aaload, 19, 0)))))) (.branch 35 (.branch 26 (.branch 22 (.leaf (19, .getfield 321, 22, 216)) (.branch 23 (.leaf (22, .aload 0, 23, 0)) (.leaf (23, .getfield 640, 26, 446)))) (.branch 32 (.branch 29 (.leaf (26, .getfield 257, 29, 114)) (.leaf (29, .if_icmp .ge 35, 32, 0))) (.branch 34 (.leaf (32, .ldc 4294967283, 34, 0)) (.leaf (34, .ireturn, 35, 0))))) (.branch 40 (.branch 36 (.leaf (35, .aload 0, 36, 0)) (.branch 39 (.leaf (36, .getfield 640, 39, 446)) (.leaf (39, .aload 0, 40, 0)))) (.branch 44 (.branch 43 (.leaf (40, .getfield 644, 43, 450)) (.leaf (43, .iload 1, 44, 0))) (.branch 45 (.leaf (44, .aaload, 45, 0)) (.leaf (45, .getfield 322, 48, 218))))))) (.branch 74 (.branch 59 (.branch 56 (.branch 51 (.leaf (48, .invokevirtual 61, 51, 549)) (.branch 54 (.leaf (51, .ifCond .ne 57, 54, 0)) (.leaf (54, .ldc 4294967291, 56, 0)))) (.branch 57 (.leaf (56, .ireturn, 57, 0)) (.branch 58 (.leaf (57, .ldc 0, 58, 0)) (.leaf (58, .istore 3, 59, 0))))) (.branch 64 (.branch 60 (.leaf (59, .iload 3, 60, 0)) (.branch 61 (.leaf (60, .aload 0, 61, 0)) (.leaf (61, .getfield 640, 64, 446)))) (.branch 70 (.branch 67 (.leaf (64, .getfield 258, 67, 118)) (.leaf (67, .if_icmp .ge 98, 70, 0))) (.branch 71 (.leaf (70, .aload 0, 71, 0)) (.leaf (71, .getfield 640, 74, 446)))))) (.branch 87 (.branch 79 (.branch 75 (.leaf (74, .iload 3, 75, 0)) (.branch 76 (.leaf (75, .aload 0, 76, 0)) (.leaf (76, .getfield 644, 79, 450)))) (.branch 81 (.branch 80 (.leaf (79, .iload 1, 80, 0)) (.leaf (80, .aaload, 81, 0))) (.branch 84 (.leaf (81, .getfield 322, 84, 218)) (.leaf (84, .invokevirtual 62, 87, 559))))) (.branch 92 (.branch 90 (.leaf (87, .ifCond .eq 92, 90, 0)) (.branch 91 (.leaf (90, .iload 3, 91, 0)) (.leaf (91, .ireturn, 92, 0)))) (.branch 98 (.branch 95 (.leaf (92, .iinc 3 1, 95, 0)) (.leaf (95, .goto 59, 98, 0))) (.branch 100 (.leaf (98, .ldc 4294967294, 100, 0)) (.leaf (100, .ireturn, 101, 0))))))))
set_option maxRecDepth 100000 in
def pg_93 : Lean.RArray sIn := (.branch 18 (.branch 9 (.branch 4 (.branch 1 (.leaf (0, .iload 1, 1, 0)) (.leaf (1, .invokestatic 135, 4, 567))) (.branch 7 (.leaf (4, .ifCond .eq 15, 7, 0)) (.branch 8 (.leaf (7, .aload 0, 8, 0)) (.leaf (8, .iload 2, 9, 0))))) (.branch 15 (.branch 12 (.leaf (9, .invokevirtual 133, 12, 570)) (.leaf (12, .ifCond .ne 17, 15, 0))) (.branch 16 (.leaf (15, .ldc 4294967295, 16, 0)) (.branch 17 (.leaf (16, .ireturn, 17, 0)) (.leaf (17, .aload 0, 18, 0)))))) (.branch 25 (.branch 20 (.branch 19 (.leaf (18, .iload 1, 19, 0)) (.leaf (19, .aload 0, 20, 0))) (.branch 23 (.leaf (20, .getfield 643, 23, 449)) (.branch 24 (.leaf (23, .iload 1, 24, 0)) (.leaf (24, .iaload, 25, 0))))) (.branch 29 (.branch 26 (.leaf (25, .iload 2, 26, 0)) (.leaf (26, .invokestatic 10, 29, 574))) (.branch 32 (.leaf (29, .invokestatic 8, 32, 575)) (.branch 35 (.leaf (32, .invokevirtual 126, 35, 579)) (.leaf (35, .ireturn, 36, 0)))))))
set_option maxRecDepth 100000 in
def pg_94 : Lean.RArray sIn := (.branch 24 (.branch 14 (.branch 7 (.branch 1 (.leaf (0, .iload 1, 1, 0)) (.branch 4 (.leaf (1, .invokestatic 135, 4, 567)) (.leaf (4, .ifCond .eq 21, 7, 0)))) (.branch 8 (.leaf (7, .iload 2, 8, 0)) (.branch 11 (.leaf (8, .invokestatic 135, 11, 567)) (.leaf (11, .ifCond .eq 21, 14, 0))))) (.branch 21 (.branch 15 (.leaf (14, .iload 3, 15, 0)) (.branch 18 (.leaf (15, .invokestatic 135, 18, 567)) (.leaf (18, .ifCond .ne 23, 21, 0)))) (.branch 22 (.leaf (21, .ldc 4294967295, 22, 0)) (.branch 23 (.leaf (22, .ireturn, 23, 0)) (.leaf (23, .aload 0, 24, 0)))))) (.branch 32 (.branch 29 (.branch 25 (.leaf (24, .iload 1, 25, 0)) (.branch 26 (.leaf (25, .aload 0, 26, 0)) (.leaf (26, .getfield 643, 29, 449)))) (.branch 30 (.leaf (29, .iload 2, 30, 0)) (.branch 31 (.leaf (30, .iaload, 31, 0)) (.leaf (31, .aload 0, 32, 0))))) (.branch 37 (.branch 35 (.leaf (32, .getfield 643, 35, 449)) (.branch 36 (.leaf (35, .iload 3, 36, 0)) (.leaf (36, .iaload, 37, 0)))) (.branch 40 (.leaf (37, .invokestatic 8, 40, 575)) (.branch 43 (.leaf (40, .invokevirtual 126, 43, 579)) (.leaf (43, .ireturn, 44, 0)))))))
set_option maxRecDepth 100000 in
def pg_95 : Lean.RArray sIn := (.branch 11 (.branch 7 (.branch 1 (.leaf (0, .iload 1, 1, 0)) (.branch 4 (.leaf (1, .invokestatic 135, 4, 567)) (.leaf (4, .ifCond .ne 9, 7, 0)))) (.branch 9 (.branch 8 (.leaf (7, .ldc 4294967295, 8, 0)) (.leaf (8, .ireturn, 9, 0))) (.branch 10 (.leaf (9, .aload 0, 10, 0)) (.leaf (10, .iload 1, 11, 0))))) (.branch 16 (.branch 12 (.leaf (11, .aload 0, 12, 0)) (.branch 15 (.leaf (12, .getfield 643, 15, 449)) (.leaf (15, .iload 1, 16, 0)))) (.branch 20 (.branch 17 (.leaf (16, .iaload, 17, 0)) (.leaf (17, .invokestatic 9, 20, 599))) (.branch 23 (.leaf (20, .invokevirtual 126, 23, 579)) (.leaf (23, .ireturn, 24, 0))))))
set_option maxRecDepth 100000 in
def pg_96 : Lean.RArray sIn := (.branch 16 (.branch 8 (.branch 4 (.branch 1 (.leaf (0, .iload 1, 1, 0)) (.leaf (1, .invokestatic 135, 4, 567))) (.branch 7 (.leaf (4, .ifCond .eq 15, 7, 0)) (.leaf (7, .aload 0, 8, 0)))) (.branch 12 (.branch 9 (.leaf (8, .iload 2, 9, 0)) (.leaf (9, .invokevirtual 132, 12, 532))) (.branch 15 (.leaf (12, .ifCond .ne 17, 15, 0)) (.leaf (15, .ldc 4294967295, 16, 0))))) (.branch 22 (.branch 18 (.branch 17 (.leaf (16, .ireturn, 17, 0)) (.leaf (17, .aload 0, 18, 0))) (.branch 21 (.leaf (18, .getfield 643, 21, 449)) (.leaf (21, .iload 1, 22, 0)))) (.branch 24 (.branch 23 (.leaf (22, .iaload, 23, 0)) (.leaf (23, .iload 2, 24, 0))) (.branch 27 (.leaf (24, .invokestatic 6, 27, 606)) (.leaf (27, .ireturn, 28, 0))))))
set_option maxRecDepth 100000 in
def pg_97 : Lean.RArray sIn := (.branch 55 (.branch 17 (.branch 10 (.branch 4 (.branch 1 (.leaf (0, .iload 1, 1, 0)) (.leaf (1, .invokestatic 135, 4, 567))) (.branch 7 (.leaf (4, .ifCond .ne 11, 7, 0)) (.leaf (7, .ldc2_w 9223372036854775808, 10, 522)))) (.branch 12 (.branch 11 (.leaf (10, .lreturn, 11, 0)) (.leaf (11, .aload 0, 12, 0))) (.branch 15 (.leaf (12, .getfield 643, 15, 449)) (.branch 16 (.leaf (15, .iload 1, 16, 0)) (.leaf (16, .iaload, 17, 0)))))) (.branch 48 (.branch 19 (.branch 18 (.leaf (17, .istore 3, 18, 0)) (.leaf (18, .iload 2, 19, 0))) (.branch 44 (.leaf (19, .lookupswitch 90 #[(0, 44), (1, 50), (2, 67)], 44, 0)) (.branch 45 (.leaf (44, .iload 3, 45, 0)) (.leaf (45, .invokestatic 11, 48, 588))))) (.branch 50 (.branch 49 (.leaf (48, .i2l, 49, 0)) (.leaf (49, .lreturn, 50, 0))) (.branch 51 (.leaf (50, .iload 3, 51, 0)) (.branch 54 (.leaf (51, .invokestatic 11, 54, 588)) (.leaf (54, .ldc 2, 55, 0))))))) (.branch 74 (.branch 63 (.branch 59 (.branch 56 (.leaf (55, .irem, 56, 0)) (.leaf (56, .ifCond .ne 63, 59, 0))) (.branch 60 (.leaf (59, .ldc2_w 1, 60, 0)) (.leaf (60, .goto 66, 63, 0)))) (.branch 67 (.branch 66 (.leaf (63, .ldc2_w 18446744073709551615, 66, 611)) (.leaf (66, .lreturn, 67, 0))) (.branch 68 (.leaf (67, .aload 0, 68, 0)) (.branch 71 (.leaf (68, .getfield 640, 71, 446)) (.leaf (71, .getfield 257, 74, 114)))))) (.branch 85 (.branch 76 (.branch 75 (.leaf (74, .iload 3, 75, 0)) (.leaf (75, .aload 0, 76, 0))) (.branch 79 (.leaf (76, .getfield 640, 79, 446)) (.branch 82 (.leaf (79, .getfield 257, 82, 114)) (.leaf (82, .invokestatic 14, 85, 612))))) (.branch 89 (.branch 88 (.leaf (85, .invokestatic 24, 88, 501)) (.leaf (88, .i2l, 89, 0))) (.branch 90 (.leaf (89, .lreturn, 90, 0)) (.branch 93 (.leaf (90, .ldc2_w 9223372036854775808, 93, 522)) (.leaf (93, .lreturn, 94, 0))))))))
set_option maxRecDepth 100000 in
def pg_98 : Lean.RArray sIn := (.branch 19 (.branch 11 (.branch 4 (.branch 1 (.leaf (0, .iload 1, 1, 0)) (.leaf (1, .invokestatic 135, 4, 567))) (.branch 7 (.leaf (4, .ifCond .eq 11, 7, 0)) (.branch 8 (.leaf (7, .iload 2, 8, 0)) (.leaf (8, .ifCond .ge 13, 11, 0))))) (.branch 14 (.branch 12 (.leaf (11, .ldc 4294967295, 12, 0)) (.branch 13 (.leaf (12, .ireturn, 13, 0)) (.leaf (13, .iload 2, 14, 0)))) (.branch 15 (.leaf (14, .aload 0, 15, 0)) (.branch 18 (.leaf (15, .getfield 643, 18, 449)) (.leaf (18, .iload 1, 19, 0)))))) (.branch 31 (.branch 26 (.branch 20 (.leaf (19, .iaload, 20, 0)) (.branch 23 (.leaf (20, .invokestatic 11, 23, 588)) (.leaf (23, .if_icmp .ge 39, 26, 0)))) (.branch 27 (.leaf (26, .aload 0, 27, 0)) (.branch 30 (.leaf (27, .getfield 643, 30, 449)) (.leaf (30, .iload 1, 31, 0))))) (.branch 36 (.branch 32 (.leaf (31, .iaload, 32, 0)) (.branch 33 (.leaf (32, .iload 2, 33, 0)) (.leaf (33, .invokestatic 12, 36, 628)))) (.branch 39 (.leaf (36, .goto 41, 39, 0)) (.branch 41 (.leaf (39, .ldc 4294967294, 41, 0)) (.leaf (41, .ireturn, 42, 0)))))))
set_option maxRecDepth 100000 in
def pg_99 : Lean.RArray sIn := (.branch 35 (.branch 17 (.branch 6 (.branch 2 (.branch 1 (.leaf (0, .iload 1, 1, 0)) (.leaf (1, .ldc 4294967295, 2, 0))) (.branch 5 (.leaf (2, .if_icmp .ne 16, 5, 0)) (.leaf (5, .aload 0, 6, 0)))) (.branch 12 (.branch 9 (.leaf (6, .getfield 640, 9, 446)) (.leaf (9, .getfield 257, 12, 114))) (.branch 15 (.leaf (12, .invokestatic 22, 15, 641)) (.branch 16 (.leaf (15, .ireturn, 16, 0)) (.leaf (16, .aload 0, 17, 0)))))) (.branch 26 (.branch 21 (.branch 18 (.leaf (17, .iload 1, 18, 0)) (.leaf (18, .invokevirtual 134, 21, 642))) (.branch 24 (.leaf (21, .ifCond .eq 29, 24, 0)) (.branch 25 (.leaf (24, .iload 2, 25, 0)) (.leaf (25, .ldc 4294967295, 26, 0))))) (.branch 30 (.branch 29 (.leaf (26, .if_icmp .ge 31, 29, 0)) (.leaf (29, .ldc 4294967295, 30, 0))) (.branch 31 (.leaf (30, .ireturn, 31, 0)) (.branch 32 (.leaf (31, .aload 0, 32, 0)) (.leaf (32, .getfield 640, 35, 446))))))) (.branch 53 (.branch 44 (.branch 39 (.branch 38 (.leaf (35, .getfield 257, 38, 114)) (.leaf (38, .iload 1, 39, 0))) (.branch 42 (.leaf (39, .invokestatic 23, 42, 646)) (.branch 43 (.leaf (42, .istore 3, 43, 0)) (.leaf (43, .iload 2, 44, 0))))) (.branch 48 (.branch 45 (.leaf (44, .ldc 4294967295, 45, 0)) (.leaf (45, .if_icmp .ne 53, 48, 0))) (.branch 49 (.leaf (48, .iload 3, 49, 0)) (.branch 52 (.leaf (49, .invokestatic 21, 52, 489)) (.leaf (52, .ireturn, 53, 0)))))) (.branch 62 (.branch 55 (.branch 54 (.leaf (53, .iload 2, 54, 0)) (.leaf (54, .iload 3, 55, 0))) (.branch 58 (.leaf (55, .invokestatic 21, 58, 489)) (.branch 61 (.leaf (58, .if_icmp .ge 69, 61, 0)) (.leaf (61, .iload 3, 62, 0))))) (.branch 66 (.branch 63 (.leaf (62, .iload 2, 63, 0)) (.leaf (63, .invokestatic 19, 66, 647))) (.branch 69 (.leaf (66, .goto 71, 69, 0)) (.branch 71 (.leaf (69, .ldc 4294967294, 71, 0)) (.leaf (71, .ireturn, 72, 0))))))))
set_option maxRecDepth 100000 in
def pg_100 : Lean.RArray sIn := (.branch 39 (.branch 20 (.branch 9 (.branch 2 (.branch 1 (.leaf (0, .aload 0, 1, 0)) (.leaf (1, .iload 1, 2, 0))) (.branch 3 (.leaf (2, .ldc 2, 3, 0)) (.branch 6 (.leaf (3, .invokevirtual 129, 6, 542)) (.leaf (6, .ifCond .ne 17, 9, 0))))) (.branch 11 (.branch 10 (.leaf (9, .aload 0, 10, 0)) (.leaf (10, .iload 2, 11, 0))) (.branch 14 (.leaf (11, .invokevirtual 131, 14, 528)) (.branch 17 (.leaf (14, .ifCond .ne 21, 17, 0)) (.leaf (17, .ldc2_w 9223372036854775808, 20, 522)))))) (.branch 27 (.branch 22 (.branch 21 (.leaf (20, .lreturn, 21, 0)) (.leaf (21, .aload 0, 22, 0))) (.branch 25 (.leaf (22, .getfield 644, 25, 450)) (.branch 26 (.leaf (25, .iload 1, 26, 0)) (.leaf (26, .aaload, 27, 0))))) (.branch 32 (.branch 28 (.leaf (27, .astore 3, 28, 0)) (.branch 29 (.leaf (28, .aload 3, 29, 0)) (.leaf (29, .getfield 321, 32, 216)))) (.branch 33 (.leaf (32, .aload 0, 33, 0)) (.branch 36 (.leaf (33, .getfield 640, 36, 446)) (.leaf (36, .getfield 257, 39, 114))))))) (.branch 61 (.branch 50 (.branch 43 (.branch 42 (.leaf (39, .if_icmp .lt 56, 42, 0)) (.leaf (42, .aload 0, 43, 0))) (.branch 46 (.leaf (43, .getfield 640, 46, 446)) (.branch 47 (.leaf (46, .aload 3, 47, 0)) (.leaf (47, .getfield 322, 50, 218))))) (.branch 56 (.branch 53 (.leaf (50, .invokevirtual 61, 53, 549)) (.leaf (53, .ifCond .ne 60, 56, 0))) (.branch 59 (.leaf (56, .ldc2_w 9223372036854775808, 59, 522)) (.branch 60 (.leaf (59, .lreturn, 60, 0)) (.leaf (60, .aload 0, 61, 0)))))) (.branch 72 (.branch 65 (.branch 64 (.leaf (61, .getfield 641, 64, 447)) (.leaf (64, .aload 3, 65, 0))) (.branch 68 (.leaf (65, .getfield 322, 68, 218)) (.branch 71 (.leaf (68, .invokevirtual 83, 71, 652)) (.leaf (71, .aload 0, 72, 0))))) (.branch 79 (.branch 75 (.leaf (72, .getfield 641, 75, 447)) (.branch 78 (.leaf (75, .getfield 579, 78, 157)) (.leaf (78, .iload 2, 79, 0)))) (.branch 80 (.leaf (79, .iaload, 80, 0)) (.branch 81 (.leaf (80, .i2l, 81, 0)) (.leaf (81, .lreturn, 82, 0))))))))
set_option maxRecDepth 100000 in
def pg_101 : Lean.RArray sIn := (.branch 28 (.branch 15 (.branch 7 (.branch 1 (.leaf (0, .iload 1, 1, 0)) (.branch 4 (.leaf (1, .invokestatic 135, 4, 567)) (.leaf (4, .ifCond .eq 23, 7, 0)))) (.branch 9 (.branch 8 (.leaf (7, .aload 0, 8, 0)) (.leaf (8, .iload 2, 9, 0))) (.branch 12 (.leaf (9, .invokevirtual 131, 12, 528)) (.leaf (12, .ifCond .eq 23, 15, 0))))) (.branch 20 (.branch 16 (.leaf (15, .aload 0, 16, 0)) (.branch 17 (.leaf (16, .iload 3, 17, 0)) (.leaf (17, .invokevirtual 131, 20, 528)))) (.branch 26 (.branch 23 (.leaf (20, .ifCond .ne 27, 23, 0)) (.leaf (23, .ldc2_w 9223372036854775808, 26, 522))) (.branch 27 (.leaf (26, .lreturn, 27, 0)) (.leaf (27, .aload 0, 28, 0)))))) (.branch 41 (.branch 33 (.branch 31 (.leaf (28, .getfield 641, 31, 447)) (.branch 32 (.leaf (31, .iload 2, 32, 0)) (.leaf (32, .aload 0, 33, 0)))) (.branch 37 (.branch 36 (.leaf (33, .getfield 643, 36, 449)) (.leaf (36, .iload 1, 37, 0))) (.branch 38 (.leaf (37, .iaload, 38, 0)) (.leaf (38, .invokevirtual 84, 41, 665))))) (.branch 48 (.branch 42 (.leaf (41, .aload 0, 42, 0)) (.branch 45 (.leaf (42, .getfield 641, 45, 447)) (.leaf (45, .getfield 579, 48, 157)))) (.branch 50 (.branch 49 (.leaf (48, .iload 3, 49, 0)) (.leaf (49, .iaload, 50, 0))) (.branch 51 (.leaf (50, .i2l, 51, 0)) (.leaf (51, .lreturn, 52, 0)))))))
set_option maxRecDepth 100000 in
def pg_102 : Lean.RArray sIn := (.branch 31 (.branch 15 (.branch 7 (.branch 1 (.leaf (0, .iload 1, 1, 0)) (.branch 4 (.leaf (1, .invokestatic 135, 4, 567)) (.leaf (4, .ifCond .eq 31, 7, 0)))) (.branch 9 (.branch 8 (.leaf (7, .aload 0, 8, 0)) (.leaf (8, .iload 2, 9, 0))) (.branch 12 (.leaf (9, .invokevirtual 131, 12, 528)) (.leaf (12, .ifCond .eq 31, 15, 0))))) (.branch 20 (.branch 16 (.leaf (15, .aload 0, 16, 0)) (.branch 17 (.leaf (16, .iload 3, 17, 0)) (.leaf (17, .invokevirtual 131, 20, 528)))) (.branch 25 (.branch 23 (.leaf (20, .ifCond .eq 31, 23, 0)) (.leaf (23, .iload 4, 25, 0))) (.branch 28 (.leaf (25, .invokestatic 137, 28, 673)) (.leaf (28, .ifCond .ne 35, 31, 0)))))) (.branch 44 (.branch 36 (.branch 34 (.leaf (31, .ldc2_w 9223372036854775808, 34, 522)) (.branch 35 (.leaf (34, .lreturn, 35, 0)) (.leaf (35, .aload 0, 36, 0)))) (.branch 40 (.branch 39 (.leaf (36, .getfield 642, 39, 448)) (.leaf (39, .aload 0, 40, 0))) (.branch 43 (.leaf (40, .getfield 643, 43, 449)) (.leaf (43, .iload 1, 44, 0))))) (.branch 49 (.branch 45 (.leaf (44, .iaload, 45, 0)) (.branch 46 (.leaf (45, .iload 2, 46, 0)) (.leaf (46, .invokevirtual 43, 49, 676)))) (.branch 52 (.branch 50 (.leaf (49, .iload 3, 50, 0)) (.leaf (50, .iload 4, 52, 0))) (.branch 55 (.leaf (52, .invokevirtual 4, 55, 686)) (.leaf (55, .lreturn, 56, 0)))))))
set_option maxRecDepth 100000 in
def pg_103 : Lean.RArray sIn := (.branch 18 (.branch 8 (.branch 2 (.branch 1 (.leaf (0, .aload 0, 1, 0)) (.leaf (1, .iload 1, 2, 0))) (.branch 5 (.leaf (2, .invokevirtual 131, 5, 528)) (.leaf (5, .ifCond .eq 15, 8, 0)))) (.branch 12 (.branch 9 (.leaf (8, .iload 2, 9, 0)) (.leaf (9, .invokestatic 137, 12, 673))) (.branch 15 (.leaf (12, .ifCond .ne 19, 15, 0)) (.leaf (15, .ldc2_w 9223372036854775808, 18, 522))))) (.branch 26 (.branch 20 (.branch 19 (.leaf (18, .lreturn, 19, 0)) (.leaf (19, .aload 0, 20, 0))) (.branch 23 (.leaf (20, .getfield 642, 23, 448)) (.leaf (23, .getfield 193, 26, 191)))) (.branch 28 (.branch 27 (.leaf (26, .iload 1, 27, 0)) (.leaf (27, .iload 2, 28, 0))) (.branch 31 (.leaf (28, .invokevirtual 4, 31, 686)) (.leaf (31, .lreturn, 32, 0))))))
set_option maxRecDepth 100000 in
def pg_104 : Lean.RArray sIn := (.branch 15 (.branch 7 (.branch 1 (.leaf (0, .iload 1, 1, 0)) (.branch 4 (.leaf (1, .invokestatic 135, 4, 567)) (.leaf (4, .ifCond .eq 24, 7, 0)))) (.branch 11 (.branch 8 (.leaf (7, .aload 0, 8, 0)) (.leaf (8, .getfield 641, 11, 447))) (.branch 12 (.leaf (11, .aload 0, 12, 0)) (.leaf (12, .getfield 643, 15, 449))))) (.branch 20 (.branch 16 (.leaf (15, .iload 1, 16, 0)) (.branch 17 (.leaf (16, .iaload, 17, 0)) (.leaf (17, .invokevirtual 85, 20, 698)))) (.branch 24 (.branch 21 (.leaf (20, .i2l, 21, 0)) (.leaf (21, .goto 27, 24, 0))) (.branch 27 (.leaf (24, .ldc2_w 9223372036854775808, 27, 522)) (.leaf (27, .lreturn, 28, 0))))))
set_option maxRecDepth 100000 in
def pg_105 : Lean.RArray sIn := (.branch 16 (.branch 8 (.branch 2 (.branch 1 (.leaf (0, .aload 0, 1, 0)) (.leaf (1, .iload 1, 2, 0))) (.branch 5 (.leaf (2, .invokevirtual 134, 5, 642)) (.leaf (5, .ifCond .ne 12, 8, 0)))) (.branch 12 (.branch 11 (.leaf (8, .ldc2_w 9223372036854775808, 11, 522)) (.leaf (11, .lreturn, 12, 0))) (.branch 13 (.leaf (12, .aload 0, 13, 0)) (.leaf (13, .getfield 641, 16, 447))))) (.branch 24 (.branch 20 (.branch 17 (.leaf (16, .aload 0, 17, 0)) (.leaf (17, .getfield 640, 20, 446))) (.branch 23 (.leaf (20, .getfield 257, 23, 114)) (.leaf (23, .iload 1, 24, 0)))) (.branch 30 (.branch 27 (.leaf (24, .invokestatic 23, 27, 646)) (.leaf (27, .invokestatic 17, 30, 707))) (.branch 33 (.leaf (30, .invokevirtual 85, 33, 698)) (.branch 34 (.leaf (33, .i2l, 34, 0)) (.leaf (34, .lreturn, 35, 0)))))))
set_option maxRecDepth 100000 in
def pg_106 : Lean.RArray sIn := (.branch 27 (.branch 13 (.branch 5 (.branch 1 (.leaf (0, .iload 1, 1, 0)) (.branch 2 (.leaf (1, .ldc 4294967295, 2, 0)) (.leaf (2, .if_icmp .lt 19, 5, 0)))) (.branch 7 (.branch 6 (.leaf (5, .iload 1, 6, 0)) (.leaf (6, .aload 0, 7, 0))) (.branch 10 (.leaf (7, .getfield 640, 10, 446)) (.leaf (10, .getfield 256, 13, 110))))) (.branch 21 (.branch 19 (.branch 16 (.leaf (13, .invokestatic 21, 16, 489)) (.leaf (16, .if_icmp .lt 21, 19, 0))) (.branch 20 (.leaf (19, .ldc 4294967295, 20, 0)) (.leaf (20, .ireturn, 21, 0)))) (.branch 23 (.branch 22 (.leaf (21, .iload 1, 22, 0)) (.leaf (22, .ldc 4294967295, 23, 0))) (.branch 26 (.leaf (23, .if_icmp .ne 34, 26, 0)) (.leaf (26, .aload 0, 27, 0)))))) (.branch 42 (.branch 34 (.branch 30 (.leaf (27, .getfield 640, 30, 446)) (.branch 33 (.leaf (30, .invokevirtual 64, 33, 716)) (.leaf (33, .ireturn, 34, 0)))) (.branch 38 (.branch 35 (.leaf (34, .aload 0, 35, 0)) (.leaf (35, .getfield 640, 38, 446))) (.branch 39 (.leaf (38, .iload 1, 39, 0)) (.leaf (39, .invokevirtual 63, 42, 724))))) (.branch 50 (.branch 46 (.branch 45 (.leaf (42, .ifCond .eq 56, 45, 0)) (.leaf (45, .aload 0, 46, 0))) (.branch 49 (.leaf (46, .getfield 640, 49, 446)) (.leaf (49, .iload 1, 50, 0)))) (.branch 56 (.branch 53 (.leaf (50, .invokevirtual 65, 53, 725)) (.leaf (53, .goto 58, 56, 0))) (.branch 58 (.leaf (56, .ldc 4294967294, 58, 0)) (.leaf (58, .ireturn, 59, 0)))))))
set_option maxRecDepth 100000 in
def pg_107 : Lean.RArray sIn := (.branch 25 (.branch 15 (.branch 7 (.branch 1 (.leaf (0, .iload 1, 1, 0)) (.branch 4 (.leaf (1, .invokestatic 136, 4, 546)) (.leaf (4, .ifCond .eq 15, 7, 0)))) (.branch 9 (.branch 8 (.leaf (7, .aload 0, 8, 0)) (.leaf (8, .iload 2, 9, 0))) (.branch 12 (.leaf (9, .invokevirtual 131, 12, 528)) (.leaf (12, .ifCond .ne 17, 15, 0))))) (.branch 21 (.branch 17 (.branch 16 (.leaf (15, .ldc 4294967295, 16, 0)) (.leaf (16, .ireturn, 17, 0))) (.branch 18 (.leaf (17, .aload 0, 18, 0)) (.leaf (18, .getfield 644, 21, 450)))) (.branch 23 (.branch 22 (.leaf (21, .iload 1, 22, 0)) (.leaf (22, .aaload, 23, 0))) (.branch 24 (.leaf (23, .ldc 1, 24, 0)) (.leaf (24, .aload 0, 25, 0)))))) (.branch 40 (.branch 34 (.branch 28 (.leaf (25, .getfield 640, 28, 446)) (.branch 31 (.leaf (28, .getfield 258, 31, 118)) (.leaf (31, .invokevirtual 68, 34, 481)))) (.branch 38 (.branch 35 (.leaf (34, .aload 0, 35, 0)) (.leaf (35, .getfield 644, 38, 450))) (.branch 39 (.leaf (38, .iload 1, 39, 0)) (.leaf (39, .aaload, 40, 0))))) (.branch 46 (.branch 44 (.branch 43 (.leaf (40, .getfield 322, 43, 218)) (.leaf (43, .iload 2, 44, 0))) (.branch 45 (.leaf (44, .ldc 1, 45, 0)) (.leaf (45, .iastore, 46, 0)))) (.branch 50 (.branch 47 (.leaf (46, .aload 0, 47, 0)) (.leaf (47, .getfield 640, 50, 446))) (.branch 53 (.leaf (50, .getfield 258, 53, 118)) (.leaf (53, .ireturn, 54, 0)))))))
set_option maxRecDepth 100000 in
def pg_108 : Lean.RArray sIn := (.branch 26 (.branch 13 (.branch 3 (.branch 1 (.leaf (0, .aload 0, 1, 0)) (.branch 2 (.leaf (1, .iload 1, 2, 0)) (.leaf (2, .iload 2, 3, 0)))) (.branch 9 (.branch 6 (.leaf (3, .invokevirtual 130, 6, 737)) (.leaf (6, .ifCond .eq 16, 9, 0))) (.branch 10 (.leaf (9, .iload 3, 10, 0)) (.leaf (10, .invokestatic 138, 13, 741))))) (.branch 20 (.branch 16 (.leaf (13, .ifCond .eq 20, 16, 0)) (.branch 19 (.leaf (16, .ldc2_w 9223372036854775808, 19, 522)) (.leaf (19, .lreturn, 20, 0)))) (.branch 24 (.branch 21 (.leaf (20, .aload 0, 21, 0)) (.leaf (21, .getfield 644, 24, 450))) (.branch 25 (.leaf (24, .iload 1, 25, 0)) (.leaf (25, .aaload, 26, 0)))))) (.branch 38 (.branch 31 (.branch 29 (.leaf (26, .getfield 322, 29, 218)) (.branch 30 (.leaf (29, .iload 2, 30, 0)) (.leaf (30, .iaload, 31, 0)))) (.branch 34 (.branch 33 (.leaf (31, .istore 4, 33, 0)) (.leaf (33, .aload 0, 34, 0))) (.branch 37 (.leaf (34, .getfield 644, 37, 450)) (.leaf (37, .iload 1, 38, 0))))) (.branch 44 (.branch 42 (.branch 39 (.leaf (38, .aaload, 39, 0)) (.leaf (39, .getfield 322, 42, 218))) (.branch 43 (.leaf (42, .iload 2, 43, 0)) (.leaf (43, .iload 3, 44, 0)))) (.branch 47 (.branch 45 (.leaf (44, .iastore, 45, 0)) (.leaf (45, .iload 4, 47, 0))) (.branch 48 (.leaf (47, .i2l, 48, 0)) (.leaf (48, .lreturn, 49, 0)))))))
set_option maxRecDepth 100000 in
def pg_109 : Lean.RArray sIn := (.branch 14 (.branch 6 (.branch 2 (.branch 1 (.leaf (0, .aload 0, 1, 0)) (.leaf (1, .iload 1, 2, 0))) (.branch 3 (.leaf (2, .iload 2, 3, 0)) (.leaf (3, .invokevirtual 130, 6, 737)))) (.branch 10 (.branch 9 (.leaf (6, .ifCond .eq 24, 9, 0)) (.leaf (9, .aload 0, 10, 0))) (.branch 13 (.leaf (10, .getfield 644, 13, 450)) (.leaf (13, .iload 1, 14, 0))))) (.branch 20 (.branch 18 (.branch 15 (.leaf (14, .aaload, 15, 0)) (.leaf (15, .getfield 322, 18, 218))) (.branch 19 (.leaf (18, .iload 2, 19, 0)) (.leaf (19, .iaload, 20, 0)))) (.branch 24 (.branch 21 (.leaf (20, .i2l, 21, 0)) (.leaf (21, .goto 27, 24, 0))) (.branch 27 (.leaf (24, .ldc2_w 9223372036854775808, 27, 522)) (.leaf (27, .lreturn, 28, 0))))))
set_option maxRecDepth 100000 in
def pg_110 : Lean.RArray sIn := (.branch 52 (.branch 27 (.branch 15 (.branch 7 (.branch 1 (.leaf (0, .iload 1, 1, 0)) (.branch 4 (.leaf (1, .invokestatic 136, 4, 546)) (.leaf (4, .ifCond .eq 14, 7, 0)))) (.branch 11 (.branch 8 (.leaf (7, .iload 2, 8, 0)) (.leaf (8, .invokestatic 135, 11, 567))) (.branch 14 (.leaf (11, .ifCond .ne 16, 14, 0)) (.leaf (14, .ldc 4294967295, 15, 0))))) (.branch 19 (.branch 17 (.branch 16 (.leaf (15, .ireturn, 16, 0)) (.leaf (16, .aload 0, 17, 0))) (.branch 18 (.leaf (17, .iload 1, 18, 0)) (.leaf (18, .ldc 1, 19, 0)))) (.branch 23 (.branch 22 (.leaf (19, .invokevirtual 129, 22, 542)) (.leaf (22, .istore 3, 23, 0))) (.branch 24 (.leaf (23, .iload 3, 24, 0)) (.leaf (24, .ifCond .eq 29, 27, 0)))))) (.branch 38 (.branch 30 (.branch 28 (.leaf (27, .iload 3, 28, 0)) (.branch 29 (.leaf (28, .ireturn, 29, 0)) (.leaf (29, .aload 0, 30, 0)))) (.branch 34 (.branch 33 (.leaf (30, .getfield 644, 33, 450)) (.leaf (33, .iload 1, 34, 0))) (.branch 35 (.leaf (34, .aaload, 35, 0)) (.leaf (35, .getfield 322, 38, 218))))) (.branch 46 (.branch 41 (.branch 40 (.leaf (38, .astore 4, 40, 0)) (.leaf (40, .aload 0, 41, 0))) (.branch 44 (.leaf (41, .getfield 641, 44, 447)) (.leaf (44, .aload 4, 46, 0)))) (.branch 50 (.branch 47 (.leaf (46, .aload 0, 47, 0)) (.leaf (47, .getfield 643, 50, 449))) (.branch 51 (.leaf (50, .iload 2, 51, 0)) (.leaf (51, .iaload, 52, 0))))))) (.branch 84 (.branch 65 (.branch 59 (.branch 53 (.leaf (52, .aload 0, 53, 0)) (.branch 56 (.leaf (53, .getfield 649, 56, 455)) (.leaf (56, .invokevirtual 86, 59, 752)))) (.branch 62 (.branch 60 (.leaf (59, .ldc 0, 60, 0)) (.leaf (60, .istore 5, 62, 0))) (.branch 64 (.leaf (62, .iload 5, 64, 0)) (.leaf (64, .aload 0, 65, 0))))) (.branch 75 (.branch 71 (.branch 68 (.leaf (65, .getfield 640, 68, 446)) (.leaf (68, .getfield 258, 71, 118))) (.branch 74 (.leaf (71, .if_icmp .ge 96, 74, 0)) (.leaf (74, .aload 0, 75, 0)))) (.branch 80 (.branch 78 (.leaf (75, .getfield 649, 78, 455)) (.leaf (78, .iload 5, 80, 0))) (.branch 81 (.leaf (80, .iaload, 81, 0)) (.leaf (81, .invokestatic 138, 84, 741)))))) (.branch 101 (.branch 93 (.branch 89 (.branch 87 (.leaf (84, .ifCond .eq 90, 87, 0)) (.leaf (87, .ldc 4294967291, 89, 0))) (.branch 90 (.leaf (89, .ireturn, 90, 0)) (.leaf (90, .iinc 5 1, 93, 0)))) (.branch 97 (.branch 96 (.leaf (93, .goto 62, 96, 0)) (.leaf (96, .aload 0, 97, 0))) (.branch 100 (.leaf (97, .getfield 649, 100, 455)) (.leaf (100, .ldc 0, 101, 0))))) (.branch 108 (.branch 104 (.branch 103 (.leaf (101, .aload 4, 103, 0)) (.leaf (103, .ldc 0, 104, 0))) (.branch 105 (.leaf (104, .aload 0, 105, 0)) (.leaf (105, .getfield 640, 108, 446)))) (.branch 114 (.branch 111 (.leaf (108, .getfield 258, 111, 118)) (.leaf (111, .invokedynamic 0, 114, 756))) (.branch 115 (.leaf (114, .ldc 1, 115, 0)) (.leaf (115, .ireturn, 116, 0))))))))
set_option maxRecDepth 100000 in
def pg_111 : Lean.RArray sIn := (.branch 30 (.branch 12 (.branch 6 (.branch 2 (.branch 1 (.leaf (0, .aload 0, 1, 0)) (.leaf (1, .iload 1, 2, 0))) (.branch 3 (.leaf (2, .ldc 1, 3, 0)) (.leaf (3, .invokevirtual 129, 6, 542)))) (.branch 10 (.branch 9 (.leaf (6, .ifCond .ne 25, 9, 0)) (.leaf (9, .aload 0, 10, 0))) (.branch 11 (.leaf (10, .iload 2, 11, 0)) (.leaf (11, .ldc 1, 12, 0))))) (.branch 22 (.branch 18 (.branch 15 (.leaf (12, .invokevirtual 129, 15, 542)) (.leaf (15, .ifCond .ne 25, 18, 0))) (.branch 19 (.leaf (18, .iload 3, 19, 0)) (.leaf (19, .invokestatic 137, 22, 673)))) (.branch 28 (.branch 25 (.leaf (22, .ifCond .ne 29, 25, 0)) (.leaf (25, .ldc2_w 9223372036854775808, 28, 522))) (.branch 29 (.leaf (28, .lreturn, 29, 0)) (.leaf (29, .aload 0, 30, 0)))))) (.branch 46 (.branch 38 (.branch 34 (.branch 33 (.leaf (30, .getfield 642, 33, 448)) (.leaf (33, .aload 0, 34, 0))) (.branch 37 (.leaf (34, .getfield 644, 37, 450)) (.leaf (37, .iload 1, 38, 0)))) (.branch 42 (.branch 39 (.leaf (38, .aaload, 39, 0)) (.leaf (39, .getfield 322, 42, 218))) (.branch 43 (.leaf (42, .aload 0, 43, 0)) (.leaf (43, .getfield 644, 46, 450))))) (.branch 54 (.branch 48 (.branch 47 (.leaf (46, .iload 2, 47, 0)) (.leaf (47, .aaload, 48, 0))) (.branch 51 (.leaf (48, .getfield 322, 51, 218)) (.leaf (51, .invokevirtual 45, 54, 761)))) (.branch 56 (.branch 55 (.leaf (54, .ldc 0, 55, 0)) (.leaf (55, .iload 3, 56, 0))) (.branch 59 (.leaf (56, .invokevirtual 4, 59, 686)) (.leaf (59, .lreturn, 60, 0)))))))
set_option maxRecDepth 100000 in
def pg_112 : Lean.RArray sIn := (.branch 28 (.branch 15 (.branch 8 (.branch 4 (.branch 1 (.leaf (0, .iload 1, 1, 0)) (.leaf (1, .invokestatic 136, 4, 546))) (.branch 7 (.leaf (4, .ifCond .eq 13, 7, 0)) (.leaf (7, .iload 2, 8, 0)))) (.branch 13 (.branch 10 (.leaf (8, .ldc 20, 10, 0)) (.leaf (10, .if_icmp .le 15, 13, 0))) (.branch 14 (.leaf (13, .ldc 4294967295, 14, 0)) (.leaf (14, .ireturn, 15, 0))))) (.branch 22 (.branch 17 (.branch 16 (.leaf (15, .iload 2, 16, 0)) (.leaf (16, .ldc 4294967295, 17, 0))) (.branch 20 (.leaf (17, .if_icmp .ge 23, 20, 0)) (.leaf (20, .ldc 4294967282, 22, 0)))) (.branch 24 (.branch 23 (.leaf (22, .ireturn, 23, 0)) (.leaf (23, .iload 2, 24, 0))) (.branch 25 (.leaf (24, .ldc 4294967295, 25, 0)) (.leaf (25, .if_icmp .ne 42, 28, 0)))))) (.branch 42 (.branch 34 (.branch 32 (.branch 29 (.leaf (28, .aload 0, 29, 0)) (.leaf (29, .getfield 644, 32, 450))) (.branch 33 (.leaf (32, .iload 1, 33, 0)) (.leaf (33, .aaload, 34, 0)))) (.branch 36 (.branch 35 (.leaf (34, .ldc 0, 35, 0)) (.leaf (35, .ldc 0, 36, 0))) (.branch 39 (.leaf (36, .invokevirtual 68, 39, 481)) (.leaf (39, .goto 53, 42, 0))))) (.branch 48 (.branch 46 (.branch 43 (.leaf (42, .aload 0, 43, 0)) (.leaf (43, .getfield 644, 46, 450))) (.branch 47 (.leaf (46, .iload 1, 47, 0)) (.leaf (47, .aaload, 48, 0)))) (.branch 50 (.branch 49 (.leaf (48, .ldc 2, 49, 0)) (.leaf (49, .iload 2, 50, 0))) (.branch 53 (.leaf (50, .invokevirtual 68, 53, 481)) (.branch 54 (.leaf (53, .ldc 1, 54, 0)) (.leaf (54, .ireturn, 55, 0))))))))
set_option maxRecDepth 100000 in
def pg_113 : Lean.RArray sIn := (.branch 23 (.branch 13 (.branch 3 (.branch 1 (.leaf (0, .aload 0, 1, 0)) (.branch 2 (.leaf (1, .iload 1, 2, 0)) (.leaf (2, .ldc 2, 3, 0)))) (.branch 8 (.branch 6 (.leaf (3, .invokevirtual 129, 6, 542)) (.leaf (6, .istore 4, 8, 0))) (.branch 10 (.leaf (8, .iload 4, 10, 0)) (.leaf (10, .ifCond .eq 16, 13, 0))))) (.branch 17 (.branch 15 (.leaf (13, .iload 4, 15, 0)) (.branch 16 (.leaf (15, .ireturn, 16, 0)) (.leaf (16, .aload 0, 17, 0)))) (.branch 21 (.branch 20 (.leaf (17, .getfield 644, 20, 450)) (.leaf (20, .iload 1, 21, 0))) (.branch 22 (.leaf (21, .aaload, 22, 0)) (.leaf (22, .iload 2, 23, 0)))))) (.branch 37 (.branch 31 (.branch 26 (.leaf (23, .invokevirtual 69, 26, 773)) (.branch 29 (.leaf (26, .ifCond .ne 32, 29, 0)) (.leaf (29, .ldc 4294967283, 31, 0)))) (.branch 33 (.branch 32 (.leaf (31, .ireturn, 32, 0)) (.leaf (32, .aload 0, 33, 0))) (.branch 36 (.leaf (33, .getfield 644, 36, 450)) (.leaf (36, .iload 1, 37, 0))))) (.branch 42 (.branch 38 (.leaf (37, .aaload, 38, 0)) (.branch 41 (.leaf (38, .getfield 322, 41, 218)) (.leaf (41, .iload 2, 42, 0)))) (.branch 44 (.branch 43 (.leaf (42, .iload 3, 43, 0)) (.leaf (43, .iastore, 44, 0))) (.branch 45 (.leaf (44, .ldc 1, 45, 0)) (.leaf (45, .ireturn, 46, 0)))))))
set_option maxRecDepth 100000 in
def pg_114 : Lean.RArray sIn := (.branch 19 (.branch 9 (.branch 2 (.branch 1 (.leaf (0, .aload 0, 1, 0)) (.leaf (1, .iload 1, 2, 0))) (.branch 3 (.leaf (2, .ldc 2, 3, 0)) (.branch 6 (.leaf (3, .invokevirtual 129, 6, 542)) (.leaf (6, .ifCond .ne 22, 9, 0))))) (.branch 14 (.branch 10 (.leaf (9, .aload 0, 10, 0)) (.branch 13 (.leaf (10, .getfield 644, 13, 450)) (.leaf (13, .iload 1, 14, 0)))) (.branch 15 (.leaf (14, .aaload, 15, 0)) (.branch 16 (.leaf (15, .iload 2, 16, 0)) (.leaf (16, .invokevirtual 69, 19, 773)))))) (.branch 31 (.branch 26 (.branch 22 (.leaf (19, .ifCond .ne 26, 22, 0)) (.branch 25 (.leaf (22, .ldc2_w 9223372036854775808, 25, 522)) (.leaf (25, .lreturn, 26, 0)))) (.branch 27 (.leaf (26, .aload 0, 27, 0)) (.branch 30 (.leaf (27, .getfield 644, 30, 450)) (.leaf (30, .iload 1, 31, 0))))) (.branch 36 (.branch 32 (.leaf (31, .aaload, 32, 0)) (.branch 35 (.leaf (32, .getfield 322, 35, 218)) (.leaf (35, .iload 2, 36, 0)))) (.branch 37 (.leaf (36, .iaload, 37, 0)) (.branch 38 (.leaf (37, .i2l, 38, 0)) (.leaf (38, .lreturn, 39, 0)))))))
set_option maxRecDepth 100000 in
def pg_115 : Lean.RArray sIn := (.branch 28 (.branch 16 (.branch 8 (.branch 4 (.branch 1 (.leaf (0, .iload 1, 1, 0)) (.leaf (1, .invokestatic 136, 4, 546))) (.branch 7 (.leaf (4, .ifCond .eq 15, 7, 0)) (.leaf (7, .aload 0, 8, 0)))) (.branch 12 (.branch 9 (.leaf (8, .iload 2, 9, 0)) (.leaf (9, .invokevirtual 131, 12, 528))) (.branch 15 (.leaf (12, .ifCond .ne 17, 15, 0)) (.leaf (15, .ldc 4294967295, 16, 0))))) (.branch 22 (.branch 18 (.branch 17 (.leaf (16, .ireturn, 17, 0)) (.leaf (17, .aload 0, 18, 0))) (.branch 21 (.leaf (18, .getfield 644, 21, 450)) (.leaf (21, .iload 1, 22, 0)))) (.branch 24 (.branch 23 (.leaf (22, .aaload, 23, 0)) (.leaf (23, .ldc 2, 24, 0))) (.branch 25 (.leaf (24, .aload 0, 25, 0)) (.leaf (25, .getfield 640, 28, 446)))))) (.branch 46 (.branch 38 (.branch 34 (.branch 31 (.leaf (28, .getfield 257, 31, 114)) (.leaf (31, .invokevirtual 68, 34, 481))) (.branch 35 (.leaf (34, .aload 0, 35, 0)) (.leaf (35, .getfield 640, 38, 446)))) (.branch 42 (.branch 39 (.leaf (38, .iload 2, 39, 0)) (.leaf (39, .ldc 344865, 42, 445))) (.branch 43 (.leaf (42, .aload 0, 43, 0)) (.leaf (43, .getfield 644, 46, 450))))) (.branch 54 (.branch 48 (.branch 47 (.leaf (46, .iload 1, 47, 0)) (.leaf (47, .aaload, 48, 0))) (.branch 51 (.leaf (48, .getfield 322, 51, 218)) (.leaf (51, .invokevirtual 60, 54, 785)))) (.branch 58 (.branch 55 (.leaf (54, .aload 0, 55, 0)) (.leaf (55, .getfield 640, 58, 446))) (.branch 61 (.leaf (58, .getfield 257, 61, 114)) (.leaf (61, .ireturn, 62, 0)))))))
set_option maxRecDepth 100000 in
def pg_116 : Lean.RArray sIn := (.branch 45 (.branch 20 (.branch 8 (.branch 3 (.branch 1 (.leaf (0, .aload 0, 1, 0)) (.branch 2 (.leaf (1, .iload 1, 2, 0)) (.leaf (2, .ldc 2, 3, 0)))) (.branch 6 (.leaf (3, .invokevirtual 129, 6, 542)) (.branch 7 (.leaf (6, .istore 2, 7, 0)) (.leaf (7, .iload 2, 8, 0))))) (.branch 13 (.branch 11 (.leaf (8, .ifCond .eq 13, 11, 0)) (.branch 12 (.leaf (11, .iload 2, 12, 0)) (.leaf (12, .ireturn, 13, 0)))) (.branch 17 (.branch 16 (.leaf (13, .ldc 344865, 16, 445)) (.leaf (16, .istore 3, 17, 0))) (.branch 18 (.leaf (17, .ldc 0, 18, 0)) (.leaf (18, .istore 4, 20, 0)))))) (.branch 31 (.branch 26 (.branch 22 (.leaf (20, .iload 4, 22, 0)) (.branch 23 (.leaf (22, .aload 0, 23, 0)) (.leaf (23, .getfield 644, 26, 450)))) (.branch 27 (.leaf (26, .iload 1, 27, 0)) (.branch 28 (.leaf (27, .aaload, 28, 0)) (.leaf (28, .getfield 321, 31, 216))))) (.branch 38 (.branch 34 (.leaf (31, .if_icmp .ge 95, 34, 0)) (.branch 35 (.leaf (34, .aload 0, 35, 0)) (.leaf (35, .getfield 644, 38, 450)))) (.branch 40 (.branch 39 (.leaf (38, .iload 1, 39, 0)) (.leaf (39, .aaload, 40, 0))) (.branch 43 (.leaf (40, .getfield 322, 43, 218)) (.leaf (43, .iload 4, 45, 0))))))) (.branch 71 (.branch 57 (.branch 49 (.branch 46 (.leaf (45, .iaload, 46, 0)) (.branch 48 (.leaf (46, .istore 5, 48, 0)) (.leaf (48, .aload 0, 49, 0)))) (.branch 51 (.leaf (49, .iload 5, 51, 0)) (.branch 54 (.leaf (51, .invokevirtual 133, 54, 570)) (.leaf (54, .ifCond .ne 60, 57, 0))))) (.branch 61 (.branch 59 (.leaf (57, .iload 4, 59, 0)) (.branch 60 (.leaf (59, .ireturn, 60, 0)) (.leaf (60, .iload 3, 61, 0)))) (.branch 66 (.branch 63 (.leaf (61, .iload 5, 63, 0)) (.leaf (63, .invokestatic 10, 66, 574))) (.branch 69 (.leaf (66, .invokestatic 8, 69, 575)) (.leaf (69, .istore 6, 71, 0)))))) (.branch 85 (.branch 77 (.branch 73 (.leaf (71, .iload 6, 73, 0)) (.branch 76 (.leaf (73, .invokestatic 11, 76, 588)) (.leaf (76, .iload 3, 77, 0)))) (.branch 80 (.leaf (77, .invokestatic 11, 80, 588)) (.branch 83 (.leaf (80, .if_icmp .gt 86, 83, 0)) (.leaf (83, .iload 4, 85, 0))))) (.branch 89 (.branch 86 (.leaf (85, .ireturn, 86, 0)) (.branch 88 (.leaf (86, .iload 6, 88, 0)) (.leaf (88, .istore 3, 89, 0)))) (.branch 95 (.branch 92 (.leaf (89, .iinc 4 1, 92, 0)) (.leaf (92, .goto 20, 95, 0))) (.branch 97 (.leaf (95, .ldc 4294967294, 97, 0)) (.leaf (97, .ireturn, 98, 0))))))))
set_option maxRecDepth 100000 in
def pg_117 : Lean.RArray sIn := (.branch 28 (.branch 13 (.branch 7 (.branch 1 (.leaf (0, .aload 0, 1, 0)) (.branch 4 (.leaf (1, .getfield 645, 4, 451)) (.leaf (4, .getfield 384, 7, 233)))) (.branch 10 (.leaf (7, .ifCond .ne 13, 10, 0)) (.branch 12 (.leaf (10, .ldc 4294967291, 12, 0)) (.leaf (12, .ireturn, 13, 0))))) (.branch 18 (.branch 14 (.leaf (13, .aload 0, 14, 0)) (.branch 17 (.leaf (14, .getfield 643, 17, 449)) (.leaf (17, .aload 0, 18, 0)))) (.branch 24 (.branch 21 (.leaf (18, .getfield 645, 21, 451)) (.leaf (21, .invokevirtual 73, 24, 794))) (.branch 25 (.leaf (24, .aload 0, 25, 0)) (.leaf (25, .getfield 645, 28, 451)))))) (.branch 40 (.branch 33 (.branch 31 (.leaf (28, .invokevirtual 74, 31, 798)) (.branch 32 (.leaf (31, .iastore, 32, 0)) (.leaf (32, .aload 0, 33, 0)))) (.branch 36 (.leaf (33, .getfield 645, 36, 451)) (.branch 37 (.leaf (36, .dup, 37, 0)) (.leaf (37, .getfield 384, 40, 233))))) (.branch 45 (.branch 41 (.leaf (40, .ldc 1, 41, 0)) (.branch 42 (.leaf (41, .isub, 42, 0)) (.leaf (42, .putfield 384, 45, 233)))) (.branch 49 (.branch 46 (.leaf (45, .aload 0, 46, 0)) (.leaf (46, .getfield 645, 49, 451))) (.branch 52 (.leaf (49, .getfield 384, 52, 233)) (.leaf (52, .ireturn, 53, 0)))))))
set_option maxRecDepth 100000 in
def pg_118 : Lean.RArray sIn := (.branch 33 (.branch 14 (.branch 7 (.branch 3 (.branch 1 (.leaf (0, .iload 1, 1, 0)) (.leaf (1, .ldc 32, 3, 0))) (.branch 6 (.leaf (3, .if_icmp .lt 12, 6, 0)) (.leaf (6, .iload 1, 7, 0)))) (.branch 12 (.branch 9 (.leaf (7, .ldc 126, 9, 0)) (.leaf (9, .if_icmp .le 14, 12, 0))) (.branch 13 (.leaf (12, .ldc 4294967295, 13, 0)) (.leaf (13, .ireturn, 14, 0))))) (.branch 23 (.branch 18 (.branch 15 (.leaf (14, .aload 0, 15, 0)) (.leaf (15, .getfield 646, 18, 452))) (.branch 21 (.leaf (18, .getfield 448, 21, 250)) (.leaf (21, .ldc 80, 23, 0)))) (.branch 28 (.branch 26 (.leaf (23, .if_icmp .lt 29, 26, 0)) (.leaf (26, .ldc 4294967293, 28, 0))) (.branch 29 (.leaf (28, .ireturn, 29, 0)) (.branch 30 (.leaf (29, .aload 0, 30, 0)) (.leaf (30, .getfield 646, 33, 452))))))) (.branch 50 (.branch 43 (.branch 37 (.branch 36 (.leaf (33, .getfield 449, 36, 253)) (.leaf (36, .aload 0, 37, 0))) (.branch 40 (.leaf (37, .getfield 646, 40, 452)) (.leaf (40, .getfield 448, 43, 250)))) (.branch 45 (.branch 44 (.leaf (43, .iload 1, 44, 0)) (.leaf (44, .i2b, 45, 0))) (.branch 46 (.leaf (45, .bastore, 46, 0)) (.branch 47 (.leaf (46, .aload 0, 47, 0)) (.leaf (47, .getfield 646, 50, 452)))))) (.branch 56 (.branch 54 (.branch 51 (.leaf (50, .dup, 51, 0)) (.leaf (51, .getfield 448, 54, 250))) (.branch 55 (.leaf (54, .ldc 1, 55, 0)) (.leaf (55, .iadd, 56, 0)))) (.branch 60 (.branch 59 (.leaf (56, .putfield 448, 59, 250)) (.leaf (59, .aload 0, 60, 0))) (.branch 63 (.leaf (60, .getfield 646, 63, 452)) (.branch 66 (.leaf (63, .getfield 448, 66, 250)) (.leaf (66, .ireturn, 67, 0))))))))
set_option maxRecDepth 100000 in
def pg_119 : Lean.RArray sIn := (.branch 9 (.branch 4 (.branch 1 (.leaf (0, .aload 0, 1, 0)) (.leaf (1, .getfield 646, 4, 452))) (.branch 7 (.leaf (4, .getfield 448, 7, 250)) (.branch 8 (.leaf (7, .istore 1, 8, 0)) (.leaf (8, .aload 0, 9, 0))))) (.branch 13 (.branch 12 (.leaf (9, .getfield 646, 12, 452)) (.leaf (12, .ldc 0, 13, 0))) (.branch 16 (.leaf (13, .putfield 448, 16, 250)) (.branch 17 (.leaf (16, .iload 1, 17, 0)) (.leaf (17, .ireturn, 18, 0))))))
set_option maxRecDepth 100000 in
def pg_120 : Lean.RArray sIn := (.branch 27 (.branch 10 (.branch 7 (.branch 1 (.leaf (0, .iload 1, 1, 0)) (.branch 4 (.leaf (1, .invokestatic 135, 4, 567)) (.leaf (4, .ifCond .ne 9, 7, 0)))) (.branch 8 (.leaf (7, .ldc 4294967295, 8, 0)) (.branch 9 (.leaf (8, .ireturn, 9, 0)) (.leaf (9, .aload 0, 10, 0))))) (.branch 17 (.branch 13 (.leaf (10, .getfield 647, 13, 453)) (.branch 14 (.leaf (13, .aload 0, 14, 0)) (.leaf (14, .getfield 646, 17, 452)))) (.branch 21 (.branch 18 (.leaf (17, .aload 0, 18, 0)) (.leaf (18, .getfield 640, 21, 446))) (.branch 24 (.leaf (21, .getfield 257, 24, 114)) (.leaf (24, .invokevirtual 26, 27, 814)))))) (.branch 40 (.branch 32 (.branch 28 (.leaf (27, .istore 2, 28, 0)) (.branch 29 (.leaf (28, .aload 0, 29, 0)) (.leaf (29, .getfield 646, 32, 452)))) (.branch 36 (.branch 33 (.leaf (32, .ldc 0, 33, 0)) (.leaf (33, .putfield 448, 36, 250))) (.branch 37 (.leaf (36, .iload 2, 37, 0)) (.leaf (37, .ifCond .ge 44, 40, 0))))) (.branch 45 (.branch 41 (.leaf (40, .iload 2, 41, 0)) (.branch 44 (.leaf (41, .goto 50, 44, 0)) (.leaf (44, .aload 0, 45, 0)))) (.branch 47 (.branch 46 (.leaf (45, .iload 1, 46, 0)) (.leaf (46, .iload 2, 47, 0))) (.branch 50 (.leaf (47, .invokevirtual 126, 50, 579)) (.leaf (50, .ireturn, 51, 0)))))))
set_option maxRecDepth 100000 in
def pg_121 : Lean.RArray sIn := (.branch 31 (.branch 14 (.branch 8 (.branch 4 (.branch 1 (.leaf (0, .iload 1, 1, 0)) (.leaf (1, .ifCond .lt 13, 4, 0))) (.branch 5 (.leaf (4, .iload 2, 5, 0)) (.leaf (5, .ifCond .lt 13, 8, 0)))) (.branch 10 (.branch 9 (.leaf (8, .iload 2, 9, 0)) (.leaf (9, .ldc 1, 10, 0))) (.branch 13 (.leaf (10, .if_icmp .le 15, 13, 0)) (.leaf (13, .ldc 4294967295, 14, 0))))) (.branch 20 (.branch 16 (.branch 15 (.leaf (14, .ireturn, 15, 0)) (.leaf (15, .iload 1, 16, 0))) (.branch 17 (.leaf (16, .aload 0, 17, 0)) (.leaf (17, .getfield 647, 20, 453)))) (.branch 26 (.branch 23 (.leaf (20, .getfield 128, 23, 288)) (.leaf (23, .getfield 512, 26, 274))) (.branch 29 (.leaf (26, .if_icmp .lt 32, 29, 0)) (.leaf (29, .ldc 4294967294, 31, 0)))))) (.branch 47 (.branch 37 (.branch 33 (.branch 32 (.leaf (31, .ireturn, 32, 0)) (.leaf (32, .iload 2, 33, 0))) (.branch 36 (.leaf (33, .ifCond .ne 51, 36, 0)) (.leaf (36, .aload 0, 37, 0)))) (.branch 43 (.branch 40 (.leaf (37, .getfield 647, 40, 453)) (.leaf (40, .getfield 128, 43, 288))) (.branch 46 (.leaf (43, .getfield 513, 46, 277)) (.leaf (46, .iload 1, 47, 0))))) (.branch 55 (.branch 51 (.branch 48 (.leaf (47, .iaload, 48, 0)) (.leaf (48, .goto 63, 51, 0))) (.branch 52 (.leaf (51, .aload 0, 52, 0)) (.leaf (52, .getfield 647, 55, 453)))) (.branch 61 (.branch 58 (.leaf (55, .getfield 128, 58, 288)) (.leaf (58, .getfield 514, 61, 279))) (.branch 62 (.leaf (61, .iload 1, 62, 0)) (.branch 63 (.leaf (62, .iaload, 63, 0)) (.leaf (63, .ireturn, 64, 0))))))))
set_option maxRecDepth 100000 in
def pg_122 : Lean.RArray sIn := (.branch 26 (.branch 14 (.branch 5 (.branch 1 (.leaf (0, .aload 0, 1, 0)) (.branch 4 (.leaf (1, .getfield 648, 4, 454)) (.leaf (4, .aload 0, 5, 0)))) (.branch 8 (.leaf (5, .getfield 640, 8, 446)) (.branch 11 (.leaf (8, .getfield 256, 11, 110)) (.leaf (11, .putfield 64, 14, 332))))) (.branch 19 (.branch 15 (.leaf (14, .aload 0, 15, 0)) (.branch 18 (.leaf (15, .getfield 643, 18, 449)) (.leaf (18, .ldc 0, 19, 0)))) (.branch 20 (.leaf (19, .aload 0, 20, 0)) (.branch 23 (.leaf (20, .getfield 648, 23, 454)) (.leaf (23, .getfield 65, 26, 334)))))) (.branch 36 (.branch 31 (.branch 27 (.leaf (26, .ldc 0, 27, 0)) (.branch 28 (.leaf (27, .ldc 4, 28, 0)) (.leaf (28, .invokedynamic 0, 31, 756)))) (.branch 32 (.leaf (31, .aload 0, 32, 0)) (.branch 35 (.leaf (32, .getfield 644, 35, 450)) (.leaf (35, .aload 0, 36, 0))))) (.branch 45 (.branch 39 (.leaf (36, .getfield 648, 39, 454)) (.branch 42 (.leaf (39, .getfield 66, 42, 336)) (.leaf (42, .invokestatic 70, 45, 895)))) (.branch 49 (.branch 46 (.leaf (45, .aload 0, 46, 0)) (.leaf (46, .getfield 640, 49, 446))) (.branch 52 (.leaf (49, .getfield 257, 52, 114)) (.leaf (52, .ireturn, 53, 0)))))))
set_option maxRecDepth 100000 in
def pg_123 : Lean.RArray sIn := (.branch 32 (.branch 14 (.branch 7 (.branch 1 (.leaf (0, .aload 0, 1, 0)) (.branch 4 (.leaf (1, .getfield 648, 4, 454)) (.leaf (4, .getfield 64, 7, 332)))) (.branch 12 (.branch 10 (.leaf (7, .ifCond .ne 13, 10, 0)) (.leaf (10, .ldc 4294967291, 12, 0))) (.branch 13 (.leaf (12, .ireturn, 13, 0)) (.leaf (13, .aload 0, 14, 0))))) (.branch 24 (.branch 18 (.branch 15 (.leaf (14, .aload 0, 15, 0)) (.leaf (15, .getfield 648, 18, 454))) (.branch 21 (.leaf (18, .getfield 64, 21, 332)) (.leaf (21, .invokevirtual 125, 24, 347)))) (.branch 28 (.branch 25 (.leaf (24, .aload 0, 25, 0)) (.leaf (25, .getfield 648, 28, 454))) (.branch 31 (.leaf (28, .getfield 65, 31, 334)) (.leaf (31, .ldc 0, 32, 0)))))) (.branch 45 (.branch 37 (.branch 33 (.leaf (32, .aload 0, 33, 0)) (.branch 36 (.leaf (33, .getfield 643, 36, 449)) (.leaf (36, .ldc 0, 37, 0)))) (.branch 41 (.branch 38 (.leaf (37, .ldc 4, 38, 0)) (.leaf (38, .invokedynamic 0, 41, 756))) (.branch 42 (.leaf (41, .aload 0, 42, 0)) (.leaf (42, .getfield 648, 45, 454))))) (.branch 55 (.branch 49 (.branch 48 (.leaf (45, .getfield 66, 48, 336)) (.leaf (48, .aload 0, 49, 0))) (.branch 52 (.leaf (49, .getfield 644, 52, 450)) (.leaf (52, .invokestatic 70, 55, 895)))) (.branch 59 (.branch 56 (.leaf (55, .aload 0, 56, 0)) (.leaf (56, .getfield 640, 59, 446))) (.branch 62 (.leaf (59, .getfield 257, 62, 114)) (.leaf (62, .ireturn, 63, 0)))))))
set_option maxRecDepth 100000 in
def pg_124 : Lean.RArray sIn := (.branch 53 (.branch 43 (.branch 36 (.branch 1 (.leaf (0, .iload 1, 1, 0)) (.leaf (1, .lookupswitch 73 #[(0, 36), (1, 44), (2, 52), (3, 63), (4, 68)], 36, 0))) (.branch 37 (.leaf (36, .aload 0, 37, 0)) (.branch 40 (.leaf (37, .getfield 645, 40, 451)) (.leaf (40, .getfield 384, 43, 233))))) (.branch 48 (.branch 44 (.leaf (43, .ireturn, 44, 0)) (.branch 45 (.leaf (44, .aload 0, 45, 0)) (.leaf (45, .getfield 646, 48, 452)))) (.branch 51 (.leaf (48, .getfield 448, 51, 250)) (.branch 52 (.leaf (51, .ireturn, 52, 0)) (.leaf (52, .aload 0, 53, 0)))))) (.branch 67 (.branch 62 (.branch 56 (.leaf (53, .getfield 647, 56, 453)) (.branch 59 (.leaf (56, .getfield 128, 59, 288)) (.leaf (59, .getfield 512, 62, 274)))) (.branch 63 (.leaf (62, .ireturn, 63, 0)) (.branch 64 (.leaf (63, .aload 0, 64, 0)) (.leaf (64, .invokevirtual 127, 67, 907))))) (.branch 72 (.branch 68 (.leaf (67, .ireturn, 68, 0)) (.branch 69 (.leaf (68, .aload 0, 69, 0)) (.leaf (69, .invokevirtual 128, 72, 911)))) (.branch 73 (.leaf (72, .ireturn, 73, 0)) (.branch 74 (.leaf (73, .ldc 4294967295, 74, 0)) (.leaf (74, .ireturn, 75, 0)))))))
set_option maxRecDepth 100000 in
def pg_125 : Lean.RArray sIn := (.branch 25 (.branch 12 (.branch 5 (.branch 1 (.leaf (0, .aload 0, 1, 0)) (.branch 4 (.leaf (1, .getfield 640, 4, 446)) (.leaf (4, .iload 1, 5, 0)))) (.branch 8 (.leaf (5, .invokevirtual 47, 8, 351)) (.branch 9 (.leaf (8, .aload 0, 9, 0)) (.leaf (9, .getfield 641, 12, 447))))) (.branch 19 (.branch 15 (.leaf (12, .invokevirtual 80, 15, 377)) (.branch 16 (.leaf (15, .aload 0, 16, 0)) (.leaf (16, .getfield 642, 19, 448)))) (.branch 23 (.branch 22 (.leaf (19, .invokevirtual 42, 22, 400)) (.leaf (22, .ldc 0, 23, 0))) (.branch 24 (.leaf (23, .istore 2, 24, 0)) (.leaf (24, .iload 2, 25, 0)))))) (.branch 38 (.branch 30 (.branch 26 (.leaf (25, .ldc 4, 26, 0)) (.branch 29 (.leaf (26, .if_icmp .ge 44, 29, 0)) (.leaf (29, .aload 0, 30, 0)))) (.branch 34 (.branch 33 (.leaf (30, .getfield 643, 33, 449)) (.leaf (33, .iload 2, 34, 0))) (.branch 37 (.leaf (34, .ldc 344865, 37, 445)) (.leaf (37, .iastore, 38, 0))))) (.branch 45 (.branch 41 (.leaf (38, .iinc 2 1, 41, 0)) (.branch 44 (.leaf (41, .goto 24, 44, 0)) (.leaf (44, .aload 0, 45, 0)))) (.branch 49 (.branch 48 (.leaf (45, .getfield 645, 48, 451)) (.leaf (48, .ldc 0, 49, 0))) (.branch 52 (.leaf (49, .putfield 384, 52, 233)) (.leaf (52, .return_, 53, 0)))))))
set_option maxRecDepth 100000 in
def pg_126 : Lean.RArray sIn := (.branch 19 (.branch 7 (.branch 4 (.branch 1 (.leaf (0, .aload 0, 1, 0)) (.leaf (1, .getfield 643, 4, 449))) (.branch 5 (.leaf (4, .iload 1, 5, 0)) (.branch 6 (.leaf (5, .iaload, 6, 0)) (.leaf (6, .iload 2, 7, 0))))) (.branch 14 (.branch 10 (.leaf (7, .if_icmp .eq 31, 10, 0)) (.branch 11 (.leaf (10, .aload 0, 11, 0)) (.leaf (11, .getfield 645, 14, 451)))) (.branch 15 (.leaf (14, .iload 1, 15, 0)) (.branch 16 (.leaf (15, .aload 0, 16, 0)) (.leaf (16, .getfield 643, 19, 449)))))) (.branch 28 (.branch 21 (.branch 20 (.leaf (19, .iload 1, 20, 0)) (.leaf (20, .iaload, 21, 0))) (.branch 24 (.leaf (21, .invokevirtual 72, 24, 583)) (.branch 25 (.leaf (24, .aload 0, 25, 0)) (.leaf (25, .getfield 643, 28, 449))))) (.branch 31 (.branch 29 (.leaf (28, .iload 1, 29, 0)) (.branch 30 (.leaf (29, .iload 2, 30, 0)) (.leaf (30, .iastore, 31, 0)))) (.branch 32 (.leaf (31, .iload 2, 32, 0)) (.branch 35 (.leaf (32, .invokestatic 11, 35, 588)) (.leaf (35, .ireturn, 36, 0)))))))
set_option maxRecDepth 100000 in
def pg_127 : Lean.RArray sIn := (.branch 13 (.branch 4 (.branch 2 (.branch 1 (.leaf (0, .ldc 0, 1, 0)) (.leaf (1, .istore 1, 2, 0))) (.branch 3 (.leaf (2, .ldc 0, 3, 0)) (.leaf (3, .istore 2, 4, 0)))) (.branch 6 (.branch 5 (.leaf (4, .iload 2, 5, 0)) (.leaf (5, .ldc 4, 6, 0))) (.branch 9 (.leaf (6, .if_icmp .ge 30, 9, 0)) (.branch 10 (.leaf (9, .aload 0, 10, 0)) (.leaf (10, .getfield 644, 13, 450)))))) (.branch 21 (.branch 15 (.branch 14 (.leaf (13, .iload 2, 14, 0)) (.leaf (14, .aaload, 15, 0))) (.branch 18 (.leaf (15, .getfield 320, 18, 213)) (.leaf (18, .ifCond .eq 24, 21, 0)))) (.branch 27 (.branch 24 (.leaf (21, .iinc 1 1, 24, 0)) (.leaf (24, .iinc 2 1, 27, 0))) (.branch 30 (.leaf (27, .goto 4, 30, 0)) (.branch 31 (.leaf (30, .iload 1, 31, 0)) (.leaf (31, .ireturn, 32, 0)))))))
set_option maxRecDepth 100000 in
def pg_128 : Lean.RArray sIn := (.branch 11 (.branch 4 (.branch 2 (.branch 1 (.leaf (0, .ldc 0, 1, 0)) (.leaf (1, .istore 1, 2, 0))) (.branch 3 (.leaf (2, .ldc 0, 3, 0)) (.leaf (3, .istore 2, 4, 0)))) (.branch 6 (.branch 5 (.leaf (4, .iload 2, 5, 0)) (.leaf (5, .ldc 4, 6, 0))) (.branch 9 (.leaf (6, .if_icmp .ge 27, 9, 0)) (.branch 10 (.leaf (9, .iload 1, 10, 0)) (.leaf (10, .aload 0, 11, 0)))))) (.branch 20 (.branch 15 (.branch 14 (.leaf (11, .getfield 643, 14, 449)) (.leaf (14, .iload 2, 15, 0))) (.branch 16 (.leaf (15, .iaload, 16, 0)) (.branch 19 (.leaf (16, .invokestatic 11, 19, 588)) (.leaf (19, .iadd, 20, 0))))) (.branch 24 (.branch 21 (.leaf (20, .istore 1, 21, 0)) (.leaf (21, .iinc 2 1, 24, 0))) (.branch 27 (.leaf (24, .goto 4, 27, 0)) (.branch 28 (.leaf (27, .iload 1, 28, 0)) (.leaf (28, .ireturn, 29, 0)))))))
set_option maxRecDepth 100000 in
def pg_129 : Lean.RArray sIn := (.branch 23 (.branch 10 (.branch 7 (.branch 1 (.leaf (0, .iload 1, 1, 0)) (.branch 4 (.leaf (1, .invokestatic 136, 4, 546)) (.leaf (4, .ifCond .ne 9, 7, 0)))) (.branch 8 (.leaf (7, .ldc 4294967295, 8, 0)) (.branch 9 (.leaf (8, .ireturn, 9, 0)) (.leaf (9, .aload 0, 10, 0))))) (.branch 15 (.branch 13 (.leaf (10, .getfield 644, 13, 450)) (.branch 14 (.leaf (13, .iload 1, 14, 0)) (.leaf (14, .aaload, 15, 0)))) (.branch 18 (.leaf (15, .getfield 320, 18, 213)) (.branch 21 (.leaf (18, .ifCond .ne 24, 21, 0)) (.leaf (21, .ldc 4294967285, 23, 0)))))) (.branch 33 (.branch 28 (.branch 24 (.leaf (23, .ireturn, 24, 0)) (.branch 25 (.leaf (24, .aload 0, 25, 0)) (.leaf (25, .getfield 644, 28, 450)))) (.branch 29 (.leaf (28, .iload 1, 29, 0)) (.branch 30 (.leaf (29, .aaload, 30, 0)) (.leaf (30, .getfield 320, 33, 213))))) (.branch 38 (.branch 34 (.leaf (33, .iload 2, 34, 0)) (.branch 37 (.leaf (34, .if_icmp .ne 41, 37, 0)) (.leaf (37, .ldc 0, 38, 0)))) (.branch 41 (.leaf (38, .goto 43, 41, 0)) (.branch 43 (.leaf (41, .ldc 4294967284, 43, 0)) (.leaf (43, .ireturn, 44, 0)))))))
set_option maxRecDepth 100000 in
def pg_130 : Lean.RArray sIn := (.branch 10 (.branch 3 (.branch 1 (.leaf (0, .aload 0, 1, 0)) (.branch 2 (.leaf (1, .iload 1, 2, 0)) (.leaf (2, .ldc 1, 3, 0)))) (.branch 6 (.leaf (3, .invokevirtual 129, 6, 542)) (.branch 9 (.leaf (6, .ifCond .ne 21, 9, 0)) (.leaf (9, .aload 0, 10, 0))))) (.branch 17 (.branch 11 (.leaf (10, .iload 2, 11, 0)) (.branch 14 (.leaf (11, .invokevirtual 131, 14, 528)) (.leaf (14, .ifCond .eq 21, 17, 0)))) (.branch 21 (.branch 18 (.leaf (17, .ldc 1, 18, 0)) (.leaf (18, .goto 22, 21, 0))) (.branch 22 (.leaf (21, .ldc 0, 22, 0)) (.leaf (22, .ireturn, 23, 0))))))
set_option maxRecDepth 100000 in
def pg_131 : Lean.RArray sIn := (.branch 9 (.branch 4 (.branch 1 (.leaf (0, .iload 1, 1, 0)) (.leaf (1, .ifCond .lt 19, 4, 0))) (.branch 5 (.leaf (4, .iload 1, 5, 0)) (.branch 6 (.leaf (5, .aload 0, 6, 0)) (.leaf (6, .getfield 640, 9, 446))))) (.branch 16 (.branch 12 (.leaf (9, .getfield 258, 12, 118)) (.branch 15 (.leaf (12, .if_icmp .ge 19, 15, 0)) (.leaf (15, .ldc 1, 16, 0)))) (.branch 19 (.leaf (16, .goto 20, 19, 0)) (.branch 20 (.leaf (19, .ldc 0, 20, 0)) (.leaf (20, .ireturn, 21, 0))))))
set_option maxRecDepth 100000 in
def pg_132 : Lean.RArray sIn := (.branch 10 (.branch 5 (.branch 1 (.leaf (0, .iload 1, 1, 0)) (.branch 2 (.leaf (1, .ldc 1, 2, 0)) (.leaf (2, .if_icmp .lt 20, 5, 0)))) (.branch 6 (.leaf (5, .iload 1, 6, 0)) (.branch 7 (.leaf (6, .aload 0, 7, 0)) (.leaf (7, .getfield 640, 10, 446))))) (.branch 17 (.branch 13 (.leaf (10, .getfield 257, 13, 114)) (.branch 16 (.leaf (13, .if_icmp .gt 20, 16, 0)) (.leaf (16, .ldc 1, 17, 0)))) (.branch 20 (.leaf (17, .goto 21, 20, 0)) (.branch 21 (.leaf (20, .ldc 0, 21, 0)) (.leaf (21, .ireturn, 22, 0))))))
set_option maxRecDepth 100000 in
def pg_133 : Lean.RArray sIn := (.branch 10 (.branch 5 (.branch 1 (.leaf (0, .iload 1, 1, 0)) (.branch 2 (.leaf (1, .ldc 1, 2, 0)) (.leaf (2, .if_icmp .lt 20, 5, 0)))) (.branch 6 (.leaf (5, .iload 1, 6, 0)) (.branch 7 (.leaf (6, .aload 0, 7, 0)) (.leaf (7, .getfield 640, 10, 446))))) (.branch 17 (.branch 13 (.leaf (10, .getfield 257, 13, 114)) (.branch 16 (.leaf (13, .if_icmp .ge 20, 16, 0)) (.leaf (16, .ldc 1, 17, 0)))) (.branch 20 (.leaf (17, .goto 21, 20, 0)) (.branch 21 (.leaf (20, .ldc 0, 21, 0)) (.leaf (21, .ireturn, 22, 0))))))
set_option maxRecDepth 100000 in
def pg_134 : Lean.RArray sIn := (.branch 12 (.branch 5 (.branch 1 (.leaf (0, .iload 1, 1, 0)) (.branch 4 (.leaf (1, .ifCond .lt 22, 4, 0)) (.leaf (4, .iload 1, 5, 0)))) (.branch 6 (.leaf (5, .aload 0, 6, 0)) (.branch 9 (.leaf (6, .getfield 640, 9, 446)) (.leaf (9, .getfield 257, 12, 114))))) (.branch 19 (.branch 15 (.leaf (12, .invokestatic 22, 15, 641)) (.branch 18 (.leaf (15, .if_icmp .ge 22, 18, 0)) (.leaf (18, .ldc 1, 19, 0)))) (.branch 22 (.leaf (19, .goto 23, 22, 0)) (.branch 23 (.leaf (22, .ldc 0, 23, 0)) (.leaf (23, .ireturn, 24, 0))))))
set_option maxRecDepth 100000 in
def pg_135 : Lean.RArray sIn := (.branch 6 (.branch 4 (.branch 1 (.leaf (0, .iload 0, 1, 0)) (.leaf (1, .ifCond .lt 13, 4, 0))) (.branch 5 (.leaf (4, .iload 0, 5, 0)) (.leaf (5, .ldc 4, 6, 0)))) (.branch 10 (.branch 9 (.leaf (6, .if_icmp .ge 13, 9, 0)) (.leaf (9, .ldc 1, 10, 0))) (.branch 13 (.leaf (10, .goto 14, 13, 0)) (.branch 14 (.leaf (13, .ldc 0, 14, 0)) (.leaf (14, .ireturn, 15, 0))))))
set_option maxRecDepth 100000 in
def pg_136 : Lean.RArray sIn := (.branch 6 (.branch 4 (.branch 1 (.leaf (0, .iload 0, 1, 0)) (.leaf (1, .ifCond .lt 13, 4, 0))) (.branch 5 (.leaf (4, .iload 0, 5, 0)) (.leaf (5, .ldc 4, 6, 0)))) (.branch 10 (.branch 9 (.leaf (6, .if_icmp .ge 13, 9, 0)) (.leaf (9, .ldc 1, 10, 0))) (.branch 13 (.leaf (10, .goto 14, 13, 0)) (.branch 14 (.leaf (13, .ldc 0, 14, 0)) (.leaf (14, .ireturn, 15, 0))))))
set_option maxRecDepth 100000 in
def pg_137 : Lean.RArray sIn := (.branch 6 (.branch 4 (.branch 1 (.leaf (0, .iload 0, 1, 0)) (.leaf (1, .ifCond .eq 9, 4, 0))) (.branch 5 (.leaf (4, .iload 0, 5, 0)) (.leaf (5, .ldc 1, 6, 0)))) (.branch 10 (.branch 9 (.leaf (6, .if_icmp .ne 13, 9, 0)) (.leaf (9, .ldc 1, 10, 0))) (.branch 13 (.leaf (10, .goto 14, 13, 0)) (.branch 14 (.leaf (13, .ldc 0, 14, 0)) (.leaf (14, .ireturn, 15, 0))))))
set_option maxRecDepth 100000 in
def pg_138 : Lean.RArray sIn := (.branch 11 (.branch 4 (.branch 1 (.leaf (0, .iload 0, 1, 0)) (.leaf (1, .ldc 4294966297, 4, 0))) (.branch 7 (.leaf (4, .if_icmp .lt 14, 7, 0)) (.branch 8 (.leaf (7, .iload 0, 8, 0)) (.leaf (8, .ldc 999, 11, 0))))) (.branch 15 (.branch 14 (.leaf (11, .if_icmp .le 18, 14, 0)) (.leaf (14, .ldc 1, 15, 0))) (.branch 18 (.leaf (15, .goto 19, 18, 0)) (.branch 19 (.leaf (18, .ldc 0, 19, 0)) (.leaf (19, .ireturn, 20, 0))))))
set_option maxRecDepth 100000 in
def pg_140 : Lean.RArray sIn := (.branch 9 (.branch 3 (.branch 1 (.leaf (0, .lload 0, 1, 0)) (.branch 2 (.leaf (1, .lload 2, 2, 0)) (.leaf (2, .lcmp, 3, 0)))) (.branch 6 (.leaf (3, .ifCond .lt 17, 6, 0)) (.branch 7 (.leaf (6, .lload 0, 7, 0)) (.leaf (7, .lload 4, 9, 0))))) (.branch 14 (.branch 10 (.leaf (9, .lcmp, 10, 0)) (.branch 13 (.leaf (10, .ifCond .gt 17, 13, 0)) (.leaf (13, .ldc 1, 14, 0)))) (.branch 17 (.leaf (14, .goto 18, 17, 0)) (.branch 18 (.leaf (17, .ldc 0, 18, 0)) (.leaf (18, .ireturn, 19, 0))))))
set_option maxRecDepth 100000 in
def pg_141 : Lean.RArray sIn := (.branch 115 (.branch 64 (.branch 32 (.branch 15 (.branch 8 (.branch 2 (.branch 1 (.leaf (0, .iload 1, 1, 0)) (.leaf (1, .aload 0, 2, 0))) (.branch 5 (.leaf (2, .getfield 705, 5, 938)) (.leaf (5, .if_icmp .le 112, 8, 0)))) (.branch 10 (.branch 9 (.leaf (8, .aload 0, 9, 0)) (.leaf (9, .dup, 10, 0))) (.branch 13 (.leaf (10, .getfield 708, 13, 941)) (.branch 14 (.leaf (13, .ldc 1, 14, 0)) (.leaf (14, .iadd, 15, 0)))))) (.branch 21 (.branch 19 (.branch 18 (.leaf (15, .putfield 708, 18, 941)) (.leaf (18, .ldc 1, 19, 0))) (.branch 20 (.leaf (19, .istore 2, 20, 0)) (.leaf (20, .iload 2, 21, 0)))) (.branch 25 (.branch 22 (.leaf (21, .aload 0, 22, 0)) (.leaf (22, .getfield 705, 25, 938))) (.branch 28 (.leaf (25, .if_icmp .gt 111, 28, 0)) (.branch 29 (.leaf (28, .aload 0, 29, 0)) (.leaf (29, .getfield 708, 32, 941))))))) (.branch 49 (.branch 41 (.branch 37 (.branch 34 (.leaf (32, .ldc 6, 34, 0)) (.leaf (34, .if_icmp .ge 111, 37, 0))) (.branch 38 (.leaf (37, .aload 0, 38, 0)) (.leaf (38, .getfield 709, 41, 942)))) (.branch 44 (.branch 43 (.leaf (41, .ldc 6, 43, 0)) (.leaf (43, .aload 0, 44, 0))) (.branch 47 (.leaf (44, .getfield 708, 47, 941)) (.branch 48 (.leaf (47, .imul, 48, 0)) (.leaf (48, .iload 2, 49, 0)))))) (.branch 56 (.branch 51 (.branch 50 (.leaf (49, .iadd, 50, 0)) (.leaf (50, .ldc 1, 51, 0))) (.branch 52 (.leaf (51, .isub, 52, 0)) (.branch 53 (.leaf (52, .aload 0, 53, 0)) (.leaf (53, .getfield 709, 56, 942))))) (.branch 59 (.branch 58 (.leaf (56, .ldc 6, 58, 0)) (.leaf (58, .aload 0, 59, 0))) (.branch 62 (.leaf (59, .getfield 708, 62, 941)) (.branch 63 (.leaf (62, .ldc 1, 63, 0)) (.leaf (63, .isub, 64, 0)))))))) (.branch 87 (.branch 75 (.branch 68 (.branch 66 (.branch 65 (.leaf (64, .imul, 65, 0)) (.leaf (65, .iload 2, 66, 0))) (.branch 67 (.leaf (66, .iadd, 67, 0)) (.leaf (67, .ldc 1, 68, 0)))) (.branch 70 (.branch 69 (.leaf (68, .isub, 69, 0)) (.leaf (69, .iaload, 70, 0))) (.branch 71 (.leaf (70, .iastore, 71, 0)) (.branch 72 (.leaf (71, .aload 0, 72, 0)) (.leaf (72, .getfield 710, 75, 943)))))) (.branch 82 (.branch 78 (.branch 77 (.leaf (75, .ldc 6, 77, 0)) (.leaf (77, .aload 0, 78, 0))) (.branch 81 (.leaf (78, .getfield 708, 81, 941)) (.leaf (81, .imul, 82, 0)))) (.branch 84 (.branch 83 (.leaf (82, .iload 2, 83, 0)) (.leaf (83, .iadd, 84, 0))) (.branch 85 (.leaf (84, .ldc 1, 85, 0)) (.branch 86 (.leaf (85, .isub, 86, 0)) (.leaf (86, .aload 0, 87, 0))))))) (.branch 101 (.branch 96 (.branch 92 (.branch 90 (.leaf (87, .getfield 710, 90, 943)) (.leaf (90, .ldc 6, 92, 0))) (.branch 93 (.leaf (92, .aload 0, 93, 0)) (.leaf (93, .getfield 708, 96, 941)))) (.branch 98 (.branch 97 (.leaf (96, .ldc 1, 97, 0)) (.leaf (97, .isub, 98, 0))) (.branch 99 (.leaf (98, .imul, 99, 0)) (.branch 100 (.leaf (99, .iload 2, 100, 0)) (.leaf (100, .iadd, 101, 0)))))) (.branch 108 (.branch 103 (.branch 102 (.leaf (101, .ldc 1, 102, 0)) (.leaf (102, .isub, 103, 0))) (.branch 104 (.leaf (103, .iaload, 104, 0)) (.branch 105 (.leaf (104, .iastore, 105, 0)) (.leaf (105, .iinc 2 1, 108, 0))))) (.branch 112 (.branch 111 (.leaf (108, .goto 20, 111, 0)) (.leaf (111, .return_, 112, 0))) (.branch 113 (.leaf (112, .ldc 0, 113, 0)) (.branch 114 (.leaf (113, .istore 2, 114, 0)) (.leaf (114, .iload 2, 115, 0))))))))) (.branch 173 (.branch 145 (.branch 130 (.branch 123 (.branch 119 (.branch 116 (.leaf (115, .ldc 5, 116, 0)) (.leaf (116, .if_icmp .ge 227, 119, 0))) (.branch 120 (.leaf (119, .aload 0, 120, 0)) (.leaf (120, .getfield 715, 123, 948)))) (.branch 125 (.branch 124 (.leaf (123, .iload 2, 124, 0)) (.leaf (124, .iaload, 125, 0))) (.branch 126 (.leaf (125, .aload 0, 126, 0)) (.branch 129 (.leaf (126, .getfield 704, 129, 937)) (.leaf (129, .iload 2, 130, 0)))))) (.branch 138 (.branch 134 (.branch 131 (.leaf (130, .iaload, 131, 0)) (.leaf (131, .if_icmp .ge 221, 134, 0))) (.branch 135 (.leaf (134, .iload 2, 135, 0)) (.leaf (135, .ifCond .eq 155, 138, 0)))) (.branch 142 (.branch 139 (.leaf (138, .aload 0, 139, 0)) (.leaf (139, .getfield 715, 142, 948))) (.branch 143 (.leaf (142, .iload 2, 143, 0)) (.branch 144 (.leaf (143, .ldc 1, 144, 0)) (.leaf (144, .isub, 145, 0))))))) (.branch 161 (.branch 151 (.branch 147 (.branch 146 (.leaf (145, .iaload, 146, 0)) (.leaf (146, .aload 0, 147, 0))) (.branch 150 (.leaf (147, .getfield 715, 150, 948)) (.leaf (150, .iload 2, 151, 0)))) (.branch 155 (.branch 152 (.leaf (151, .iaload, 152, 0)) (.leaf (152, .if_icmp .le 221, 155, 0))) (.branch 156 (.leaf (155, .aload 0, 156, 0)) (.branch 159 (.leaf (156, .getfield 709, 159, 942)) (.leaf (159, .ldc 6, 161, 0)))))) (.branch 168 (.branch 165 (.branch 162 (.leaf (161, .aload 0, 162, 0)) (.leaf (162, .getfield 708, 165, 941))) (.branch 166 (.leaf (165, .imul, 166, 0)) (.branch 167 (.leaf (166, .iload 1, 167, 0)) (.leaf (167, .iadd, 168, 0))))) (.branch 170 (.branch 169 (.leaf (168, .ldc 1, 169, 0)) (.leaf (169, .isub, 170, 0))) (.branch 171 (.leaf (170, .iload 2, 171, 0)) (.branch 172 (.leaf (171, .iastore, 172, 0)) (.leaf (172, .aload 0, 173, 0)))))))) (.branch 201 (.branch 187 (.branch 182 (.branch 178 (.branch 176 (.leaf (173, .getfield 710, 176, 943)) (.leaf (176, .ldc 6, 178, 0))) (.branch 179 (.leaf (178, .aload 0, 179, 0)) (.leaf (179, .getfield 708, 182, 941)))) (.branch 184 (.branch 183 (.leaf (182, .imul, 183, 0)) (.leaf (183, .iload 1, 184, 0))) (.branch 185 (.leaf (184, .iadd, 185, 0)) (.branch 186 (.leaf (185, .ldc 1, 186, 0)) (.leaf (186, .isub, 187, 0)))))) (.branch 194 (.branch 191 (.branch 188 (.leaf (187, .aload 0, 188, 0)) (.leaf (188, .getfield 715, 191, 948))) (.branch 192 (.leaf (191, .iload 2, 192, 0)) (.branch 193 (.leaf (192, .iaload, 193, 0)) (.leaf (193, .iastore, 194, 0))))) (.branch 198 (.branch 195 (.leaf (194, .aload 0, 195, 0)) (.leaf (195, .getfield 715, 198, 948))) (.branch 199 (.leaf (198, .iload 2, 199, 0)) (.branch 200 (.leaf (199, .dup2, 200, 0)) (.leaf (200, .iaload, 201, 0))))))) (.branch 212 (.branch 205 (.branch 203 (.branch 202 (.leaf (201, .ldc 1, 202, 0)) (.leaf (202, .iadd, 203, 0))) (.branch 204 (.leaf (203, .iastore, 204, 0)) (.leaf (204, .aload 0, 205, 0)))) (.branch 207 (.branch 206 (.leaf (205, .iload 1, 206, 0)) (.leaf (206, .ldc 1, 207, 0))) (.branch 208 (.leaf (207, .iadd, 208, 0)) (.branch 211 (.leaf (208, .invokevirtual 141, 211, 930)) (.leaf (211, .aload 0, 212, 0)))))) (.branch 219 (.branch 216 (.branch 215 (.leaf (212, .getfield 715, 215, 948)) (.leaf (215, .iload 2, 216, 0))) (.branch 217 (.leaf (216, .dup2, 217, 0)) (.branch 218 (.leaf (217, .iaload, 218, 0)) (.leaf (218, .ldc 1, 219, 0))))) (.branch 221 (.branch 220 (.leaf (219, .isub, 220, 0)) (.leaf (220, .iastore, 221, 0))) (.branch 224 (.leaf (221, .iinc 2 1, 224, 0)) (.branch 227 (.leaf (224, .goto 114, 227, 0)) (.leaf (227, .return_, 228, 0))))))))))
set_option maxRecDepth 100000 in
def pg_142 : Lean.RArray sIn := (.branch 39 (.branch 16 (.branch 8 (.branch 5 (.branch 1 (.leaf (0, .aload 0, 1, 0)) (.branch 2 (.leaf (1, .ldc 0, 2, 0)) (.leaf (2, .putfield 705, 5, 938)))) (.branch 6 (.leaf (5, .ldc 0, 6, 0)) (.branch 7 (.leaf (6, .istore 1, 7, 0)) (.leaf (7, .iload 1, 8, 0))))) (.branch 13 (.branch 9 (.leaf (8, .ldc 5, 9, 0)) (.branch 12 (.leaf (9, .if_icmp .ge 73, 12, 0)) (.leaf (12, .ldc 0, 13, 0)))) (.branch 14 (.leaf (13, .istore 2, 14, 0)) (.branch 15 (.leaf (14, .iload 2, 15, 0)) (.leaf (15, .aload 0, 16, 0)))))) (.branch 28 (.branch 21 (.branch 19 (.leaf (16, .getfield 704, 19, 937)) (.branch 20 (.leaf (19, .iload 1, 20, 0)) (.leaf (20, .iaload, 21, 0)))) (.branch 24 (.leaf (21, .if_icmp .ge 60, 24, 0)) (.branch 25 (.leaf (24, .aload 0, 25, 0)) (.leaf (25, .getfield 706, 28, 939))))) (.branch 33 (.branch 29 (.leaf (28, .aload 0, 29, 0)) (.branch 32 (.leaf (29, .getfield 705, 32, 938)) (.leaf (32, .iload 1, 33, 0)))) (.branch 35 (.branch 34 (.leaf (33, .iastore, 34, 0)) (.leaf (34, .aload 0, 35, 0))) (.branch 38 (.leaf (35, .getfield 707, 38, 940)) (.leaf (38, .aload 0, 39, 0))))))) (.branch 61 (.branch 49 (.branch 44 (.branch 42 (.leaf (39, .getfield 705, 42, 938)) (.branch 43 (.leaf (42, .iload 2, 43, 0)) (.leaf (43, .iastore, 44, 0)))) (.branch 45 (.leaf (44, .aload 0, 45, 0)) (.branch 46 (.leaf (45, .dup, 46, 0)) (.leaf (46, .getfield 705, 49, 938))))) (.branch 54 (.branch 50 (.leaf (49, .ldc 1, 50, 0)) (.branch 51 (.leaf (50, .iadd, 51, 0)) (.leaf (51, .putfield 705, 54, 938)))) (.branch 57 (.leaf (54, .iinc 2 1, 57, 0)) (.branch 60 (.leaf (57, .goto 14, 60, 0)) (.leaf (60, .aload 0, 61, 0)))))) (.branch 73 (.branch 66 (.branch 64 (.leaf (61, .getfield 715, 64, 948)) (.branch 65 (.leaf (64, .iload 1, 65, 0)) (.leaf (65, .ldc 0, 66, 0)))) (.branch 67 (.leaf (66, .iastore, 67, 0)) (.branch 70 (.leaf (67, .iinc 1 1, 70, 0)) (.leaf (70, .goto 7, 73, 0))))) (.branch 78 (.branch 74 (.leaf (73, .aload 0, 74, 0)) (.branch 75 (.leaf (74, .ldc 0, 75, 0)) (.leaf (75, .putfield 708, 78, 941)))) (.branch 80 (.branch 79 (.leaf (78, .aload 0, 79, 0)) (.leaf (79, .ldc 1, 80, 0))) (.branch 83 (.leaf (80, .invokevirtual 141, 83, 930)) (.leaf (83, .return_, 84, 0))))))))
set_option maxRecDepth 100000 in
def pg_143 : Lean.RArray sIn := (.branch 9 (.branch 3 (.branch 1 (.leaf (0, .ldc 1, 1, 0)) (.branch 2 (.leaf (1, .istore 2, 2, 0)) (.leaf (2, .iload 2, 3, 0)))) (.branch 7 (.branch 4 (.leaf (3, .ldc 5, 4, 0)) (.leaf (4, .if_icmp .gt 19, 7, 0))) (.branch 8 (.leaf (7, .aload 0, 8, 0)) (.leaf (8, .iload 1, 9, 0))))) (.branch 12 (.branch 10 (.leaf (9, .iload 2, 10, 0)) (.branch 11 (.leaf (10, .iadd, 11, 0)) (.leaf (11, .iload 2, 12, 0)))) (.branch 16 (.branch 13 (.leaf (12, .iastore, 13, 0)) (.leaf (13, .iinc 2 1, 16, 0))) (.branch 19 (.leaf (16, .goto 2, 19, 0)) (.leaf (19, .return_, 20, 0))))))
set_option maxRecDepth 100000 in
def pg_144 : Lean.RArray sIn := (.branch 90 (.branch 50 (.branch 25 (.branch 10 (.branch 5 (.branch 1 (.leaf (0, .iload 1, 1, 0)) (.branch 2 (.leaf (1, .ldc 1, 2, 0)) (.leaf (2, .if_icmp .lt 69, 5, 0)))) (.branch 6 (.leaf (5, .iload 2, 6, 0)) (.branch 9 (.leaf (6, .ifCond .lt 69, 9, 0)) (.leaf (9, .iload 3, 10, 0))))) (.branch 18 (.branch 13 (.leaf (10, .ifCond .lt 69, 13, 0)) (.branch 15 (.leaf (13, .iload 4, 15, 0)) (.leaf (15, .ifCond .lt 69, 18, 0)))) (.branch 23 (.branch 20 (.leaf (18, .iload 5, 20, 0)) (.leaf (20, .ifCond .lt 69, 23, 0))) (.branch 24 (.leaf (23, .iload 2, 24, 0)) (.leaf (24, .iload 1, 25, 0)))))) (.branch 39 (.branch 30 (.branch 28 (.leaf (25, .if_icmp .gt 69, 28, 0)) (.branch 29 (.leaf (28, .iload 3, 29, 0)) (.leaf (29, .iload 2, 30, 0)))) (.branch 35 (.branch 33 (.leaf (30, .if_icmp .gt 69, 33, 0)) (.leaf (33, .iload 4, 35, 0))) (.branch 36 (.leaf (35, .iload 3, 36, 0)) (.leaf (36, .if_icmp .gt 69, 39, 0))))) (.branch 46 (.branch 41 (.leaf (39, .iload 5, 41, 0)) (.branch 43 (.leaf (41, .iload 4, 43, 0)) (.leaf (43, .if_icmp .gt 69, 46, 0)))) (.branch 48 (.branch 47 (.leaf (46, .iload 1, 47, 0)) (.leaf (47, .i2l, 48, 0))) (.branch 49 (.leaf (48, .iload 2, 49, 0)) (.leaf (49, .i2l, 50, 0))))))) (.branch 70 (.branch 58 (.branch 53 (.branch 51 (.leaf (50, .ladd, 51, 0)) (.branch 52 (.leaf (51, .iload 3, 52, 0)) (.leaf (52, .i2l, 53, 0)))) (.branch 56 (.branch 54 (.leaf (53, .ladd, 54, 0)) (.leaf (54, .iload 4, 56, 0))) (.branch 57 (.leaf (56, .i2l, 57, 0)) (.leaf (57, .ladd, 58, 0))))) (.branch 62 (.branch 60 (.leaf (58, .iload 5, 60, 0)) (.branch 61 (.leaf (60, .i2l, 61, 0)) (.leaf (61, .ladd, 62, 0)))) (.branch 66 (.branch 65 (.leaf (62, .ldc2_w 5, 65, 925)) (.leaf (65, .lcmp, 66, 0))) (.branch 69 (.leaf (66, .ifCond .le 71, 69, 0)) (.leaf (69, .ldc 4294967295, 70, 0)))))) (.branch 79 (.branch 75 (.branch 71 (.leaf (70, .ireturn, 71, 0)) (.branch 72 (.leaf (71, .aload 0, 72, 0)) (.leaf (72, .getfield 704, 75, 937)))) (.branch 77 (.branch 76 (.leaf (75, .ldc 0, 76, 0)) (.leaf (76, .iload 1, 77, 0))) (.branch 78 (.leaf (77, .iastore, 78, 0)) (.leaf (78, .aload 0, 79, 0))))) (.branch 84 (.branch 82 (.leaf (79, .getfield 704, 82, 937)) (.branch 83 (.leaf (82, .ldc 1, 83, 0)) (.leaf (83, .iload 2, 84, 0)))) (.branch 86 (.branch 85 (.leaf (84, .iastore, 85, 0)) (.leaf (85, .aload 0, 86, 0))) (.branch 89 (.leaf (86, .getfield 704, 89, 937)) (.leaf (89, .ldc 2, 90, 0)))))))) (.branch 140 (.branch 112 (.branch 100 (.branch 93 (.branch 91 (.leaf (90, .iload 3, 91, 0)) (.branch 92 (.leaf (91, .iastore, 92, 0)) (.leaf (92, .aload 0, 93, 0)))) (.branch 97 (.branch 96 (.leaf (93, .getfield 704, 96, 937)) (.leaf (96, .ldc 3, 97, 0))) (.branch 99 (.leaf (97, .iload 4, 99, 0)) (.leaf (99, .iastore, 100, 0))))) (.branch 105 (.branch 101 (.leaf (100, .aload 0, 101, 0)) (.branch 104 (.leaf (101, .getfield 704, 104, 937)) (.leaf (104, .ldc 4, 105, 0)))) (.branch 108 (.branch 107 (.leaf (105, .iload 5, 107, 0)) (.leaf (107, .iastore, 108, 0))) (.branch 109 (.leaf (108, .aload 0, 109, 0)) (.leaf (109, .invokevirtual 142, 112, 926)))))) (.branch 125 (.branch 117 (.branch 113 (.leaf (112, .ldc 0, 113, 0)) (.branch 115 (.leaf (113, .istore 6, 115, 0)) (.leaf (115, .iload 6, 117, 0)))) (.branch 121 (.branch 118 (.leaf (117, .ldc 4, 118, 0)) (.leaf (118, .if_icmp .ge 139, 121, 0))) (.branch 122 (.leaf (121, .aload 0, 122, 0)) (.leaf (122, .getfield 711, 125, 944))))) (.branch 130 (.branch 127 (.leaf (125, .ldc 6, 127, 0)) (.branch 129 (.leaf (127, .iload 6, 129, 0)) (.leaf (129, .imul, 130, 0)))) (.branch 136 (.branch 133 (.leaf (130, .invokestatic 143, 133, 934)) (.leaf (133, .iinc 6 1, 136, 0))) (.branch 139 (.leaf (136, .goto 115, 139, 0)) (.leaf (139, .ldc 0, 140, 0))))))) (.branch 166 (.branch 154 (.branch 145 (.branch 142 (.leaf (140, .istore 6, 142, 0)) (.branch 144 (.leaf (142, .iload 6, 144, 0)) (.leaf (144, .ldc 4, 145, 0)))) (.branch 149 (.branch 148 (.leaf (145, .if_icmp .ge 183, 148, 0)) (.leaf (148, .aload 0, 149, 0))) (.branch 152 (.leaf (149, .getfield 712, 152, 945)) (.leaf (152, .iload 6, 154, 0))))) (.branch 160 (.branch 155 (.leaf (154, .aload 0, 155, 0)) (.branch 158 (.leaf (155, .getfield 712, 158, 945)) (.leaf (158, .iload 6, 160, 0)))) (.branch 162 (.branch 161 (.leaf (160, .iaload, 161, 0)) (.leaf (161, .ldc 1, 162, 0))) (.branch 165 (.leaf (162, .if_icmp .ne 169, 165, 0)) (.leaf (165, .ldc 0, 166, 0)))))) (.branch 180 (.branch 173 (.branch 169 (.leaf (166, .goto 176, 169, 0)) (.branch 170 (.leaf (169, .aload 0, 170, 0)) (.leaf (170, .getfield 712, 173, 945)))) (.branch 176 (.branch 175 (.leaf (173, .iload 6, 175, 0)) (.leaf (175, .iaload, 176, 0))) (.branch 177 (.leaf (176, .iastore, 177, 0)) (.leaf (177, .iinc 6 1, 180, 0))))) (.branch 185 (.branch 183 (.leaf (180, .goto 142, 183, 0)) (.branch 184 (.leaf (183, .aload 0, 184, 0)) (.leaf (184, .ldc 0, 185, 0)))) (.branch 189 (.branch 188 (.leaf (185, .putfield 721, 188, 954)) (.leaf (188, .aload 0, 189, 0))) (.branch 192 (.leaf (189, .getfield 708, 192, 941)) (.leaf (192, .ireturn, 193, 0)))))))))
set_option maxRecDepth 100000 in
def pg_145 : Lean.RArray sIn := (.branch 21 (.branch 9 (.branch 5 (.branch 1 (.leaf (0, .aload 0, 1, 0)) (.branch 4 (.leaf (1, .getfield 704, 4, 937)) (.leaf (4, .iload 1, 5, 0)))) (.branch 7 (.branch 6 (.leaf (5, .iaload, 6, 0)) (.leaf (6, .iload 2, 7, 0))) (.branch 8 (.leaf (7, .isub, 8, 0)) (.leaf (8, .istore 3, 9, 0))))) (.branch 14 (.branch 11 (.branch 10 (.leaf (9, .iload 1, 10, 0)) (.leaf (10, .ldc 1, 11, 0))) (.branch 12 (.leaf (11, .iadd, 12, 0)) (.leaf (12, .istore 4, 14, 0)))) (.branch 17 (.branch 16 (.leaf (14, .iload 4, 16, 0)) (.leaf (16, .ldc 5, 17, 0))) (.branch 20 (.leaf (17, .if_icmp .ge 45, 20, 0)) (.leaf (20, .iload 3, 21, 0)))))) (.branch 33 (.branch 27 (.branch 22 (.leaf (21, .aload 0, 22, 0)) (.branch 25 (.leaf (22, .getfield 704, 25, 937)) (.leaf (25, .iload 4, 27, 0)))) (.branch 29 (.branch 28 (.leaf (27, .iaload, 28, 0)) (.leaf (28, .iload 2, 29, 0))) (.branch 32 (.leaf (29, .if_icmp .le 36, 32, 0)) (.leaf (32, .ldc 1, 33, 0))))) (.branch 39 (.branch 37 (.branch 36 (.leaf (33, .goto 37, 36, 0)) (.leaf (36, .ldc 0, 37, 0))) (.branch 38 (.leaf (37, .iadd, 38, 0)) (.leaf (38, .istore 3, 39, 0)))) (.branch 45 (.branch 42 (.leaf (39, .iinc 4 1, 42, 0)) (.leaf (42, .goto 14, 45, 0))) (.branch 46 (.leaf (45, .iload 3, 46, 0)) (.leaf (46, .ireturn, 47, 0)))))))
set_option maxRecDepth 100000 in
def pg_146 : Lean.RArray sIn := (.branch 15 (.branch 5 (.branch 2 (.branch 1 (.leaf (0, .ldc 0, 1, 0)) (.leaf (1, .istore 1, 2, 0))) (.branch 3 (.leaf (2, .ldc 0, 3, 0)) (.branch 4 (.leaf (3, .istore 2, 4, 0)) (.leaf (4, .iload 2, 5, 0))))) (.branch 10 (.branch 6 (.leaf (5, .ldc 5, 6, 0)) (.branch 9 (.leaf (6, .if_icmp .ge 32, 9, 0)) (.leaf (9, .iload 1, 10, 0)))) (.branch 11 (.leaf (10, .aload 0, 11, 0)) (.branch 14 (.leaf (11, .getfield 704, 14, 937)) (.leaf (14, .iload 2, 15, 0)))))) (.branch 24 (.branch 19 (.branch 16 (.leaf (15, .iaload, 16, 0)) (.leaf (16, .ifCond .le 23, 19, 0))) (.branch 20 (.leaf (19, .ldc 1, 20, 0)) (.branch 23 (.leaf (20, .goto 24, 23, 0)) (.leaf (23, .ldc 0, 24, 0))))) (.branch 29 (.branch 25 (.leaf (24, .iadd, 25, 0)) (.branch 26 (.leaf (25, .istore 1, 26, 0)) (.leaf (26, .iinc 2 1, 29, 0)))) (.branch 32 (.leaf (29, .goto 4, 32, 0)) (.branch 33 (.leaf (32, .iload 1, 33, 0)) (.leaf (33, .ireturn, 34, 0)))))))
set_option maxRecDepth 100000 in
def pg_147 : Lean.RArray sIn := (.branch 31 (.branch 14 (.branch 5 (.branch 2 (.branch 1 (.leaf (0, .ldc 1, 1, 0)) (.leaf (1, .istore 2, 2, 0))) (.branch 3 (.leaf (2, .ldc 0, 3, 0)) (.branch 4 (.leaf (3, .istore 3, 4, 0)) (.leaf (4, .iload 3, 5, 0))))) (.branch 9 (.branch 6 (.leaf (5, .aload 0, 6, 0)) (.leaf (6, .getfield 705, 9, 938))) (.branch 12 (.leaf (9, .if_icmp .ge 37, 12, 0)) (.branch 13 (.leaf (12, .iload 2, 13, 0)) (.leaf (13, .aload 0, 14, 0)))))) (.branch 21 (.branch 18 (.branch 15 (.leaf (14, .aload 0, 15, 0)) (.leaf (15, .getfield 706, 18, 939))) (.branch 19 (.leaf (18, .iload 3, 19, 0)) (.branch 20 (.leaf (19, .iaload, 20, 0)) (.leaf (20, .aload 0, 21, 0))))) (.branch 26 (.branch 24 (.leaf (21, .getfield 707, 24, 940)) (.branch 25 (.leaf (24, .iload 3, 25, 0)) (.leaf (25, .iaload, 26, 0)))) (.branch 29 (.leaf (26, .invokevirtual 145, 29, 1121)) (.branch 30 (.leaf (29, .imul, 30, 0)) (.leaf (30, .istore 2, 31, 0))))))) (.branch 83 (.branch 73 (.branch 37 (.branch 34 (.leaf (31, .iinc 3 1, 34, 0)) (.leaf (34, .goto 4, 37, 0))) (.branch 38 (.leaf (37, .iload 1, 38, 0)) (.branch 72 (.leaf (38, .lookupswitch 98 #[(0, 72), (1, 77), (2, 82), (3, 87), (4, 89)], 72, 0)) (.leaf (72, .aload 0, 73, 0))))) (.branch 78 (.branch 76 (.leaf (73, .getfield 705, 76, 938)) (.branch 77 (.leaf (76, .ireturn, 77, 0)) (.leaf (77, .aload 0, 78, 0)))) (.branch 81 (.leaf (78, .invokevirtual 146, 81, 1125)) (.branch 82 (.leaf (81, .ireturn, 82, 0)) (.leaf (82, .aload 0, 83, 0)))))) (.branch 90 (.branch 87 (.branch 86 (.leaf (83, .getfield 708, 86, 941)) (.leaf (86, .ireturn, 87, 0))) (.branch 88 (.leaf (87, .iload 2, 88, 0)) (.branch 89 (.leaf (88, .ireturn, 89, 0)) (.leaf (89, .aload 0, 90, 0))))) (.branch 97 (.branch 91 (.leaf (90, .aload 0, 91, 0)) (.branch 94 (.leaf (91, .getfield 704, 94, 937)) (.leaf (94, .invokevirtual 153, 97, 1129)))) (.branch 98 (.leaf (97, .ireturn, 98, 0)) (.branch 99 (.leaf (98, .ldc 4294967295, 99, 0)) (.leaf (99, .ireturn, 100, 0))))))))
set_option maxRecDepth 100000 in
def pg_148 : Lean.RArray sIn := (.branch 39 (.branch 19 (.branch 9 (.branch 2 (.branch 1 (.leaf (0, .iload 1, 1, 0)) (.leaf (1, .i2l, 2, 0))) (.branch 3 (.leaf (2, .ldc2_w 0, 3, 0)) (.branch 6 (.leaf (3, .ldc2_w 4, 6, 1145)) (.leaf (6, .invokestatic 140, 9, 1146))))) (.branch 14 (.branch 12 (.leaf (9, .ifCond .eq 56, 12, 0)) (.branch 13 (.leaf (12, .iload 2, 13, 0)) (.leaf (13, .i2l, 14, 0)))) (.branch 15 (.leaf (14, .ldc2_w 0, 15, 0)) (.branch 16 (.leaf (15, .aload 0, 16, 0)) (.leaf (16, .getfield 704, 19, 937)))))) (.branch 31 (.branch 22 (.branch 20 (.leaf (19, .iload 1, 20, 0)) (.branch 21 (.leaf (20, .i2l, 21, 0)) (.leaf (21, .ldc2_w 0, 22, 0)))) (.branch 25 (.leaf (22, .ldc2_w 4, 25, 1145)) (.branch 28 (.leaf (25, .invokestatic 140, 28, 1146)) (.leaf (28, .ifCond .eq 35, 31, 0))))) (.branch 36 (.branch 32 (.leaf (31, .iload 1, 32, 0)) (.branch 35 (.leaf (32, .goto 36, 35, 0)) (.leaf (35, .ldc 0, 36, 0)))) (.branch 37 (.leaf (36, .iaload, 37, 0)) (.branch 38 (.leaf (37, .ldc 1, 38, 0)) (.leaf (38, .isub, 39, 0))))))) (.branch 61 (.branch 49 (.branch 46 (.branch 40 (.leaf (39, .i2l, 40, 0)) (.branch 43 (.leaf (40, .invokestatic 140, 43, 1146)) (.leaf (43, .ifCond .eq 56, 46, 0)))) (.branch 47 (.leaf (46, .iload 3, 47, 0)) (.branch 48 (.leaf (47, .i2l, 48, 0)) (.leaf (48, .ldc2_w 0, 49, 0))))) (.branch 56 (.branch 50 (.leaf (49, .ldc2_w 1, 50, 0)) (.branch 53 (.leaf (50, .invokestatic 140, 53, 1146)) (.leaf (53, .ifCond .ne 60, 56, 0)))) (.branch 59 (.leaf (56, .ldc2_w 9223372036854775808, 59, 1149)) (.branch 60 (.leaf (59, .lreturn, 60, 0)) (.leaf (60, .iload 3, 61, 0)))))) (.branch 71 (.branch 66 (.branch 64 (.leaf (61, .ifCond .ne 74, 64, 0)) (.branch 65 (.leaf (64, .aload 0, 65, 0)) (.leaf (65, .iload 1, 66, 0)))) (.branch 67 (.leaf (66, .iload 2, 67, 0)) (.branch 70 (.leaf (67, .invokevirtual 145, 70, 1121)) (.leaf (70, .i2l, 71, 0))))) (.branch 76 (.branch 74 (.leaf (71, .goto 78, 74, 0)) (.branch 75 (.leaf (74, .iload 2, 75, 0)) (.leaf (75, .iload 1, 76, 0)))) (.branch 77 (.leaf (76, .isub, 77, 0)) (.branch 78 (.leaf (77, .i2l, 78, 0)) (.leaf (78, .lreturn, 79, 0))))))))
set_option maxRecDepth 100000 in
def pg_149 : Lean.RArray sIn := (.branch 7 (.branch 2 (.branch 1 (.leaf (0, .iload 1, 1, 0)) (.leaf (1, .i2l, 2, 0))) (.branch 3 (.leaf (2, .ldc2_w 0, 3, 0)) (.branch 4 (.leaf (3, .aload 0, 4, 0)) (.leaf (4, .getfield 708, 7, 941))))) (.branch 9 (.branch 8 (.leaf (7, .ldc 1, 8, 0)) (.leaf (8, .isub, 9, 0))) (.branch 10 (.leaf (9, .i2l, 10, 0)) (.branch 13 (.leaf (10, .invokestatic 140, 13, 1146)) (.leaf (13, .ireturn, 14, 0))))))
set_option maxRecDepth 100000 in
def pg_150 : Lean.RArray sIn := (.branch 38 (.branch 19 (.branch 9 (.branch 2 (.branch 1 (.leaf (0, .aload 0, 1, 0)) (.leaf (1, .iload 1, 2, 0))) (.branch 5 (.leaf (2, .invokevirtual 149, 5, 1154)) (.branch 8 (.leaf (5, .ifCond .eq 32, 8, 0)) (.leaf (8, .iload 2, 9, 0))))) (.branch 12 (.branch 10 (.leaf (9, .i2l, 10, 0)) (.branch 11 (.leaf (10, .ldc2_w 1, 11, 0)) (.leaf (11, .aload 0, 12, 0)))) (.branch 15 (.leaf (12, .getfield 705, 15, 938)) (.branch 16 (.leaf (15, .i2l, 16, 0)) (.leaf (16, .invokestatic 140, 19, 1146)))))) (.branch 26 (.branch 23 (.branch 22 (.leaf (19, .ifCond .eq 32, 22, 0)) (.leaf (22, .iload 3, 23, 0))) (.branch 24 (.leaf (23, .i2l, 24, 0)) (.branch 25 (.leaf (24, .ldc2_w 0, 25, 0)) (.leaf (25, .ldc2_w 1, 26, 0))))) (.branch 33 (.branch 29 (.leaf (26, .invokestatic 140, 29, 1146)) (.branch 32 (.leaf (29, .ifCond .ne 34, 32, 0)) (.leaf (32, .ldc 4294967295, 33, 0)))) (.branch 34 (.leaf (33, .ireturn, 34, 0)) (.branch 35 (.leaf (34, .iload 3, 35, 0)) (.leaf (35, .ifCond .ne 54, 38, 0))))))) (.branch 54 (.branch 46 (.branch 42 (.branch 39 (.leaf (38, .aload 0, 39, 0)) (.leaf (39, .getfield 709, 42, 942))) (.branch 44 (.leaf (42, .ldc 6, 44, 0)) (.branch 45 (.leaf (44, .iload 1, 45, 0)) (.leaf (45, .imul, 46, 0))))) (.branch 49 (.branch 47 (.leaf (46, .iload 2, 47, 0)) (.branch 48 (.leaf (47, .iadd, 48, 0)) (.leaf (48, .ldc 1, 49, 0)))) (.branch 50 (.leaf (49, .isub, 50, 0)) (.branch 51 (.leaf (50, .iaload, 51, 0)) (.leaf (51, .goto 67, 54, 0)))))) (.branch 62 (.branch 58 (.branch 55 (.leaf (54, .aload 0, 55, 0)) (.leaf (55, .getfield 710, 58, 943))) (.branch 60 (.leaf (58, .ldc 6, 60, 0)) (.branch 61 (.leaf (60, .iload 1, 61, 0)) (.leaf (61, .imul, 62, 0))))) (.branch 65 (.branch 63 (.leaf (62, .iload 2, 63, 0)) (.branch 64 (.leaf (63, .iadd, 64, 0)) (.leaf (64, .ldc 1, 65, 0)))) (.branch 66 (.leaf (65, .isub, 66, 0)) (.branch 67 (.leaf (66, .iaload, 67, 0)) (.leaf (67, .ireturn, 68, 0))))))))
set_option maxRecDepth 100000 in
def pg_151 : Lean.RArray sIn := (.branch 55 (.branch 26 (.branch 13 (.branch 5 (.branch 1 (.leaf (0, .iload 2, 1, 0)) (.branch 4 (.leaf (1, .ifCond .ne 61, 4, 0)) (.leaf (4, .ldc 0, 5, 0)))) (.branch 9 (.branch 7 (.leaf (5, .istore 4, 7, 0)) (.leaf (7, .iload 4, 9, 0))) (.branch 10 (.leaf (9, .ldc 5, 10, 0)) (.leaf (10, .if_icmp .ge 50, 13, 0))))) (.branch 19 (.branch 17 (.branch 14 (.leaf (13, .aload 0, 14, 0)) (.leaf (14, .getfield 716, 17, 949))) (.branch 18 (.leaf (17, .ldc 5, 18, 0)) (.leaf (18, .aload 0, 19, 0)))) (.branch 23 (.branch 22 (.leaf (19, .getfield 718, 22, 951)) (.leaf (22, .imul, 23, 0))) (.branch 25 (.leaf (23, .iload 4, 25, 0)) (.leaf (25, .iadd, 26, 0)))))) (.branch 39 (.branch 32 (.branch 28 (.leaf (26, .iload 4, 28, 0)) (.branch 29 (.leaf (28, .iload 1, 29, 0)) (.leaf (29, .if_icmp .ge 42, 32, 0)))) (.branch 36 (.branch 33 (.leaf (32, .aload 0, 33, 0)) (.leaf (33, .getfield 717, 36, 950))) (.branch 38 (.leaf (36, .iload 4, 38, 0)) (.leaf (38, .iaload, 39, 0))))) (.branch 47 (.branch 43 (.branch 42 (.leaf (39, .goto 43, 42, 0)) (.leaf (42, .ldc 0, 43, 0))) (.branch 44 (.leaf (43, .iastore, 44, 0)) (.leaf (44, .iinc 4 1, 47, 0)))) (.branch 51 (.branch 50 (.leaf (47, .goto 7, 50, 0)) (.leaf (50, .aload 0, 51, 0))) (.branch 52 (.leaf (51, .dup, 52, 0)) (.leaf (52, .getfield 718, 55, 951))))))) (.branch 80 (.branch 66 (.branch 60 (.branch 56 (.leaf (55, .ldc 1, 56, 0)) (.branch 57 (.leaf (56, .iadd, 57, 0)) (.leaf (57, .putfield 718, 60, 951)))) (.branch 62 (.branch 61 (.leaf (60, .return_, 61, 0)) (.leaf (61, .iload 2, 62, 0))) (.branch 63 (.leaf (62, .iload 3, 63, 0)) (.leaf (63, .if_icmp .ge 70, 66, 0))))) (.branch 73 (.branch 70 (.branch 67 (.leaf (66, .iload 2, 67, 0)) (.leaf (67, .goto 71, 70, 0))) (.branch 71 (.leaf (70, .iload 3, 71, 0)) (.leaf (71, .istore 4, 73, 0)))) (.branch 76 (.branch 75 (.leaf (73, .iload 4, 75, 0)) (.leaf (75, .ldc 1, 76, 0))) (.branch 79 (.leaf (76, .if_icmp .lt 106, 79, 0)) (.leaf (79, .aload 0, 80, 0)))))) (.branch 91 (.branch 87 (.branch 84 (.branch 83 (.leaf (80, .getfield 717, 83, 950)) (.leaf (83, .iload 1, 84, 0))) (.branch 86 (.leaf (84, .iload 4, 86, 0)) (.leaf (86, .iastore, 87, 0)))) (.branch 89 (.branch 88 (.leaf (87, .aload 0, 88, 0)) (.leaf (88, .iload 1, 89, 0))) (.branch 90 (.leaf (89, .ldc 1, 90, 0)) (.leaf (90, .iadd, 91, 0))))) (.branch 97 (.branch 94 (.branch 92 (.leaf (91, .iload 2, 92, 0)) (.leaf (92, .iload 4, 94, 0))) (.branch 95 (.leaf (94, .isub, 95, 0)) (.leaf (95, .iload 4, 97, 0)))) (.branch 103 (.branch 100 (.leaf (97, .invokevirtual 151, 100, 1137)) (.leaf (100, .iinc 4 4294967295, 103, 0))) (.branch 106 (.leaf (103, .goto 73, 106, 0)) (.leaf (106, .return_, 107, 0))))))))
set_option maxRecDepth 100000 in
def pg_152 : Lean.RArray sIn := (.branch 7 (.branch 2 (.branch 1 (.leaf (0, .aload 0, 1, 0)) (.leaf (1, .ldc 0, 2, 0))) (.branch 5 (.leaf (2, .putfield 718, 5, 951)) (.branch 6 (.leaf (5, .aload 0, 6, 0)) (.leaf (6, .ldc 0, 7, 0))))) (.branch 12 (.branch 8 (.leaf (7, .aload 0, 8, 0)) (.branch 11 (.leaf (8, .getfield 705, 11, 938)) (.leaf (11, .aload 0, 12, 0)))) (.branch 15 (.leaf (12, .getfield 705, 15, 938)) (.branch 18 (.leaf (15, .invokevirtual 151, 18, 1137)) (.leaf (18, .return_, 19, 0))))))
set_option maxRecDepth 100000 in
def pg_153 : Lean.RArray sIn := (.branch 38 (.branch 18 (.branch 8 (.branch 4 (.branch 1 (.leaf (0, .aload 0, 1, 0)) (.leaf (1, .invokevirtual 152, 4, 1133))) (.branch 6 (.leaf (4, .ldc 4294967294, 6, 0)) (.branch 7 (.leaf (6, .istore 2, 7, 0)) (.leaf (7, .ldc 0, 8, 0))))) (.branch 11 (.branch 9 (.leaf (8, .istore 3, 9, 0)) (.branch 10 (.leaf (9, .iload 3, 10, 0)) (.leaf (10, .aload 0, 11, 0)))) (.branch 14 (.leaf (11, .getfield 718, 14, 951)) (.branch 17 (.leaf (14, .if_icmp .ge 80, 17, 0)) (.leaf (17, .ldc 1, 18, 0)))))) (.branch 29 (.branch 23 (.branch 20 (.leaf (18, .istore 4, 20, 0)) (.branch 21 (.leaf (20, .ldc 0, 21, 0)) (.leaf (21, .istore 5, 23, 0)))) (.branch 25 (.leaf (23, .iload 5, 25, 0)) (.branch 26 (.leaf (25, .ldc 5, 26, 0)) (.leaf (26, .if_icmp .ge 63, 29, 0))))) (.branch 35 (.branch 31 (.leaf (29, .iload 4, 31, 0)) (.branch 32 (.leaf (31, .aload 0, 32, 0)) (.leaf (32, .getfield 716, 35, 949)))) (.branch 36 (.leaf (35, .ldc 5, 36, 0)) (.branch 37 (.leaf (36, .iload 3, 37, 0)) (.leaf (37, .imul, 38, 0))))))) (.branch 57 (.branch 46 (.branch 42 (.branch 40 (.leaf (38, .iload 5, 40, 0)) (.branch 41 (.leaf (40, .iadd, 41, 0)) (.leaf (41, .iaload, 42, 0)))) (.branch 43 (.leaf (42, .aload 1, 43, 0)) (.branch 45 (.leaf (43, .iload 5, 45, 0)) (.leaf (45, .iaload, 46, 0))))) (.branch 53 (.branch 49 (.leaf (46, .if_icmp .ne 53, 49, 0)) (.branch 50 (.leaf (49, .ldc 1, 50, 0)) (.leaf (50, .goto 54, 53, 0)))) (.branch 54 (.leaf (53, .ldc 0, 54, 0)) (.branch 55 (.leaf (54, .iand, 55, 0)) (.leaf (55, .istore 4, 57, 0)))))) (.branch 72 (.branch 65 (.branch 60 (.leaf (57, .iinc 5 1, 60, 0)) (.branch 63 (.leaf (60, .goto 23, 63, 0)) (.leaf (63, .iload 4, 65, 0)))) (.branch 68 (.leaf (65, .ifCond .eq 72, 68, 0)) (.branch 69 (.leaf (68, .iload 3, 69, 0)) (.leaf (69, .goto 73, 72, 0))))) (.branch 77 (.branch 73 (.leaf (72, .iload 2, 73, 0)) (.branch 74 (.leaf (73, .istore 2, 74, 0)) (.leaf (74, .iinc 3 1, 77, 0)))) (.branch 80 (.leaf (77, .goto 9, 80, 0)) (.branch 81 (.leaf (80, .iload 2, 81, 0)) (.leaf (81, .ireturn, 82, 0))))))))
set_option maxRecDepth 100000 in
def pg_154 : Lean.RArray sIn := (.branch 53 (.branch 24 (.branch 14 (.branch 6 (.branch 4 (.branch 1 (.leaf (0, .aload 0, 1, 0)) (.leaf (1, .invokevirtual 152, 4, 1133))) (.branch 5 (.leaf (4, .iload 1, 5, 0)) (.leaf (5, .ldc 4294967295, 6, 0)))) (.branch 10 (.branch 9 (.leaf (6, .if_icmp .ne 14, 9, 0)) (.leaf (9, .aload 0, 10, 0))) (.branch 13 (.leaf (10, .getfield 718, 13, 951)) (.leaf (13, .ireturn, 14, 0))))) (.branch 18 (.branch 16 (.branch 15 (.leaf (14, .iload 1, 15, 0)) (.leaf (15, .i2l, 16, 0))) (.branch 17 (.leaf (16, .ldc2_w 0, 17, 0)) (.leaf (17, .aload 0, 18, 0)))) (.branch 22 (.branch 21 (.leaf (18, .getfield 718, 21, 951)) (.leaf (21, .ldc 1, 22, 0))) (.branch 23 (.leaf (22, .isub, 23, 0)) (.leaf (23, .i2l, 24, 0)))))) (.branch 38 (.branch 32 (.branch 30 (.branch 27 (.leaf (24, .invokestatic 140, 27, 1146)) (.leaf (27, .ifCond .eq 35, 30, 0))) (.branch 31 (.leaf (30, .iload 2, 31, 0)) (.leaf (31, .ldc 4294967295, 32, 0)))) (.branch 36 (.branch 35 (.leaf (32, .if_icmp .ge 37, 35, 0)) (.leaf (35, .ldc 4294967295, 36, 0))) (.branch 37 (.leaf (36, .ireturn, 37, 0)) (.leaf (37, .ldc 0, 38, 0))))) (.branch 44 (.branch 40 (.branch 39 (.leaf (38, .istore 3, 39, 0)) (.leaf (39, .ldc 0, 40, 0))) (.branch 42 (.leaf (40, .istore 4, 42, 0)) (.leaf (42, .iload 4, 44, 0)))) (.branch 48 (.branch 45 (.leaf (44, .ldc 5, 45, 0)) (.leaf (45, .if_icmp .ge 76, 48, 0))) (.branch 49 (.leaf (48, .iload 3, 49, 0)) (.branch 50 (.leaf (49, .aload 0, 50, 0)) (.leaf (50, .getfield 716, 53, 949)))))))) (.branch 78 (.branch 64 (.branch 58 (.branch 55 (.branch 54 (.leaf (53, .ldc 5, 54, 0)) (.leaf (54, .iload 1, 55, 0))) (.branch 56 (.leaf (55, .imul, 56, 0)) (.leaf (56, .iload 4, 58, 0)))) (.branch 60 (.branch 59 (.leaf (58, .iadd, 59, 0)) (.leaf (59, .iaload, 60, 0))) (.branch 63 (.leaf (60, .ifCond .le 67, 63, 0)) (.leaf (63, .ldc 1, 64, 0))))) (.branch 70 (.branch 68 (.branch 67 (.leaf (64, .goto 68, 67, 0)) (.leaf (67, .ldc 0, 68, 0))) (.branch 69 (.leaf (68, .iadd, 69, 0)) (.leaf (69, .istore 3, 70, 0)))) (.branch 76 (.branch 73 (.leaf (70, .iinc 4 1, 73, 0)) (.leaf (73, .goto 42, 76, 0))) (.branch 77 (.leaf (76, .iload 2, 77, 0)) (.leaf (77, .ldc 4294967295, 78, 0)))))) (.branch 94 (.branch 86 (.branch 82 (.branch 81 (.leaf (78, .if_icmp .ne 85, 81, 0)) (.leaf (81, .iload 3, 82, 0))) (.branch 85 (.leaf (82, .goto 105, 85, 0)) (.leaf (85, .iload 2, 86, 0)))) (.branch 90 (.branch 87 (.leaf (86, .iload 3, 87, 0)) (.leaf (87, .if_icmp .ge 103, 90, 0))) (.branch 91 (.leaf (90, .aload 0, 91, 0)) (.leaf (91, .getfield 716, 94, 949))))) (.branch 98 (.branch 96 (.branch 95 (.leaf (94, .ldc 5, 95, 0)) (.leaf (95, .iload 1, 96, 0))) (.branch 97 (.leaf (96, .imul, 97, 0)) (.leaf (97, .iload 2, 98, 0)))) (.branch 100 (.branch 99 (.leaf (98, .iadd, 99, 0)) (.leaf (99, .iaload, 100, 0))) (.branch 103 (.leaf (100, .goto 105, 103, 0)) (.branch 105 (.leaf (103, .ldc 4294967294, 105, 0)) (.leaf (105, .ireturn, 106, 0)))))))))
set_option maxRecDepth 100000 in
def pg_155 : Lean.RArray sIn := (.branch 3 (.branch 1 (.leaf (0, .iload 0, 1, 0)) (.branch 2 (.leaf (1, .i2l, 2, 0)) (.leaf (2, .ldc2_w 0, 3, 0)))) (.branch 6 (.leaf (3, .ldc2_w 3, 6, 1169)) (.branch 9 (.leaf (6, .invokestatic 140, 9, 1146)) (.leaf (9, .ireturn, 10, 0)))))
set_option maxRecDepth 100000 in
def pg_156 : Lean.RArray sIn := (.branch 16 (.branch 7 (.branch 2 (.branch 1 (.leaf (0, .ldc 1, 1, 0)) (.leaf (1, .istore 2, 2, 0))) (.branch 3 (.leaf (2, .iload 2, 3, 0)) (.branch 4 (.leaf (3, .ldc 5, 4, 0)) (.leaf (4, .if_icmp .gt 30, 7, 0))))) (.branch 11 (.branch 8 (.leaf (7, .aload 0, 8, 0)) (.leaf (8, .getfield 719, 11, 952))) (.branch 12 (.leaf (11, .iload 2, 12, 0)) (.branch 13 (.leaf (12, .aload 0, 13, 0)) (.leaf (13, .getfield 711, 16, 944)))))) (.branch 22 (.branch 19 (.branch 18 (.leaf (16, .ldc 6, 18, 0)) (.leaf (18, .iload 1, 19, 0))) (.branch 20 (.leaf (19, .imul, 20, 0)) (.branch 21 (.leaf (20, .iload 2, 21, 0)) (.leaf (21, .iadd, 22, 0))))) (.branch 24 (.branch 23 (.leaf (22, .iaload, 23, 0)) (.leaf (23, .iastore, 24, 0))) (.branch 27 (.leaf (24, .iinc 2 1, 27, 0)) (.branch 30 (.leaf (27, .goto 2, 30, 0)) (.leaf (30, .return_, 31, 0)))))))
set_option maxRecDepth 100000 in
def pg_157 : Lean.RArray sIn := (.branch 27 (.branch 12 (.branch 4 (.branch 2 (.branch 1 (.leaf (0, .ldc 0, 1, 0)) (.leaf (1, .istore 2, 2, 0))) (.branch 3 (.leaf (2, .ldc 1, 3, 0)) (.leaf (3, .istore 3, 4, 0)))) (.branch 6 (.branch 5 (.leaf (4, .iload 3, 5, 0)) (.leaf (5, .aload 0, 6, 0))) (.branch 9 (.leaf (6, .getfield 705, 9, 938)) (.leaf (9, .if_icmp .gt 56, 12, 0))))) (.branch 17 (.branch 14 (.branch 13 (.leaf (12, .iload 3, 13, 0)) (.leaf (13, .ldc 1, 14, 0))) (.branch 15 (.leaf (14, .iadd, 15, 0)) (.leaf (15, .istore 4, 17, 0)))) (.branch 20 (.branch 19 (.leaf (17, .iload 4, 19, 0)) (.leaf (19, .aload 0, 20, 0))) (.branch 23 (.leaf (20, .getfield 705, 23, 938)) (.branch 26 (.leaf (23, .if_icmp .gt 50, 26, 0)) (.leaf (26, .iload 2, 27, 0))))))) (.branch 41 (.branch 31 (.branch 29 (.branch 28 (.leaf (27, .aload 1, 28, 0)) (.leaf (28, .iload 3, 29, 0))) (.branch 30 (.leaf (29, .iaload, 30, 0)) (.leaf (30, .aload 1, 31, 0)))) (.branch 34 (.branch 33 (.leaf (31, .iload 4, 33, 0)) (.leaf (33, .iaload, 34, 0))) (.branch 37 (.leaf (34, .if_icmp .le 41, 37, 0)) (.branch 38 (.leaf (37, .ldc 1, 38, 0)) (.leaf (38, .goto 42, 41, 0)))))) (.branch 47 (.branch 43 (.branch 42 (.leaf (41, .ldc 0, 42, 0)) (.leaf (42, .iadd, 43, 0))) (.branch 44 (.leaf (43, .istore 2, 44, 0)) (.leaf (44, .iinc 4 1, 47, 0)))) (.branch 53 (.branch 50 (.leaf (47, .goto 17, 50, 0)) (.leaf (50, .iinc 3 1, 53, 0))) (.branch 56 (.leaf (53, .goto 4, 56, 0)) (.branch 57 (.leaf (56, .iload 2, 57, 0)) (.leaf (57, .ireturn, 58, 0))))))))
set_option maxRecDepth 100000 in
def pg_158 : Lean.RArray sIn := (.branch 7 (.branch 2 (.branch 1 (.leaf (0, .iload 1, 1, 0)) (.leaf (1, .i2l, 2, 0))) (.branch 3 (.leaf (2, .ldc2_w 1, 3, 0)) (.branch 4 (.leaf (3, .aload 0, 4, 0)) (.leaf (4, .getfield 705, 7, 938))))) (.branch 9 (.branch 8 (.leaf (7, .ldc 1, 8, 0)) (.leaf (8, .isub, 9, 0))) (.branch 10 (.leaf (9, .i2l, 10, 0)) (.branch 13 (.leaf (10, .invokestatic 140, 13, 1146)) (.leaf (13, .ireturn, 14, 0))))))
set_option maxRecDepth 100000 in
def pg_159 : Lean.RArray sIn := (.branch 7 (.branch 3 (.branch 1 (.leaf (0, .aload 0, 1, 0)) (.branch 2 (.leaf (1, .iload 1, 2, 0)) (.leaf (2, .iaload, 3, 0)))) (.branch 5 (.branch 4 (.leaf (3, .istore 3, 4, 0)) (.leaf (4, .aload 0, 5, 0))) (.branch 6 (.leaf (5, .iload 1, 6, 0)) (.leaf (6, .aload 0, 7, 0))))) (.branch 11 (.branch 9 (.branch 8 (.leaf (7, .iload 2, 8, 0)) (.leaf (8, .iaload, 9, 0))) (.branch 10 (.leaf (9, .iastore, 10, 0)) (.leaf (10, .aload 0, 11, 0)))) (.branch 13 (.branch 12 (.leaf (11, .iload 2, 12, 0)) (.leaf (12, .iload 3, 13, 0))) (.branch 14 (.leaf (13, .iastore, 14, 0)) (.leaf (14, .return_, 15, 0))))))
set_option maxRecDepth 100000 in
def pg_160 : Lean.RArray sIn := (.branch 101 (.branch 44 (.branch 19 (.branch 9 (.branch 3 (.branch 1 (.leaf (0, .ldc 1, 1, 0)) (.branch 2 (.leaf (1, .istore 2, 2, 0)) (.leaf (2, .ldc 1, 3, 0)))) (.branch 5 (.branch 4 (.leaf (3, .istore 3, 4, 0)) (.leaf (4, .iload 3, 5, 0))) (.branch 6 (.leaf (5, .ldc 5, 6, 0)) (.leaf (6, .if_icmp .gt 43, 9, 0))))) (.branch 14 (.branch 10 (.leaf (9, .iload 2, 10, 0)) (.branch 11 (.leaf (10, .aload 0, 11, 0)) (.leaf (11, .getfield 711, 14, 944)))) (.branch 17 (.branch 16 (.leaf (14, .ldc 6, 16, 0)) (.leaf (16, .iload 1, 17, 0))) (.branch 18 (.leaf (17, .imul, 18, 0)) (.leaf (18, .iload 3, 19, 0)))))) (.branch 30 (.branch 22 (.branch 20 (.leaf (19, .iadd, 20, 0)) (.branch 21 (.leaf (20, .iaload, 21, 0)) (.leaf (21, .aload 0, 22, 0)))) (.branch 26 (.branch 25 (.leaf (22, .getfield 720, 25, 953)) (.leaf (25, .iload 3, 26, 0))) (.branch 27 (.leaf (26, .iaload, 27, 0)) (.leaf (27, .if_icmp .ne 34, 30, 0))))) (.branch 36 (.branch 34 (.branch 31 (.leaf (30, .ldc 1, 31, 0)) (.leaf (31, .goto 35, 34, 0))) (.branch 35 (.leaf (34, .ldc 0, 35, 0)) (.leaf (35, .iand, 36, 0)))) (.branch 40 (.branch 37 (.leaf (36, .istore 2, 37, 0)) (.leaf (37, .iinc 3 1, 40, 0))) (.branch 43 (.leaf (40, .goto 4, 43, 0)) (.leaf (43, .iload 2, 44, 0))))))) (.branch 72 (.branch 57 (.branch 50 (.branch 47 (.leaf (44, .ifCond .ne 186, 47, 0)) (.branch 49 (.leaf (47, .ldc 6, 49, 0)) (.leaf (49, .istore 3, 50, 0)))) (.branch 53 (.branch 51 (.leaf (50, .iload 3, 51, 0)) (.leaf (51, .ldc 60, 53, 0))) (.branch 56 (.leaf (53, .if_icmp .ge 86, 56, 0)) (.leaf (56, .aload 0, 57, 0))))) (.branch 65 (.branch 60 (.leaf (57, .getfield 721, 60, 954)) (.branch 62 (.leaf (60, .ldc 10, 62, 0)) (.leaf (62, .if_icmp .ne 86, 65, 0)))) (.branch 69 (.branch 66 (.leaf (65, .aload 0, 66, 0)) (.leaf (66, .getfield 722, 69, 955))) (.branch 70 (.leaf (69, .iload 3, 70, 0)) (.leaf (70, .ldc 6, 72, 0)))))) (.branch 83 (.branch 77 (.branch 73 (.leaf (72, .isub, 73, 0)) (.branch 74 (.leaf (73, .aload 0, 74, 0)) (.leaf (74, .getfield 722, 77, 955)))) (.branch 79 (.branch 78 (.leaf (77, .iload 3, 78, 0)) (.leaf (78, .iaload, 79, 0))) (.branch 80 (.leaf (79, .iastore, 80, 0)) (.leaf (80, .iinc 3 1, 83, 0))))) (.branch 91 (.branch 87 (.branch 86 (.leaf (83, .goto 50, 86, 0)) (.leaf (86, .aload 0, 87, 0))) (.branch 88 (.leaf (87, .aload 0, 88, 0)) (.leaf (88, .getfield 721, 91, 954)))) (.branch 96 (.branch 93 (.leaf (91, .ldc 10, 93, 0)) (.leaf (93, .if_icmp .ne 101, 96, 0))) (.branch 98 (.leaf (96, .ldc 9, 98, 0)) (.leaf (98, .goto 105, 101, 0)))))))) (.branch 149 (.branch 124 (.branch 115 (.branch 108 (.branch 102 (.leaf (101, .aload 0, 102, 0)) (.branch 105 (.leaf (102, .getfield 721, 105, 954)) (.leaf (105, .putfield 721, 108, 954)))) (.branch 112 (.branch 109 (.leaf (108, .aload 0, 109, 0)) (.leaf (109, .getfield 722, 112, 955))) (.branch 114 (.leaf (112, .ldc 6, 114, 0)) (.leaf (114, .aload 0, 115, 0))))) (.branch 120 (.branch 118 (.leaf (115, .getfield 721, 118, 954)) (.branch 119 (.leaf (118, .imul, 119, 0)) (.leaf (119, .iload 1, 120, 0)))) (.branch 122 (.branch 121 (.leaf (120, .iastore, 121, 0)) (.leaf (121, .ldc 1, 122, 0))) (.branch 123 (.leaf (122, .istore 3, 123, 0)) (.leaf (123, .iload 3, 124, 0)))))) (.branch 138 (.branch 129 (.branch 125 (.leaf (124, .ldc 5, 125, 0)) (.branch 128 (.leaf (125, .if_icmp .gt 176, 128, 0)) (.leaf (128, .aload 0, 129, 0)))) (.branch 134 (.branch 132 (.leaf (129, .getfield 722, 132, 955)) (.leaf (132, .ldc 6, 134, 0))) (.branch 135 (.leaf (134, .aload 0, 135, 0)) (.leaf (135, .getfield 721, 138, 954))))) (.branch 142 (.branch 140 (.branch 139 (.leaf (138, .imul, 139, 0)) (.leaf (139, .iload 3, 140, 0))) (.branch 141 (.leaf (140, .iadd, 141, 0)) (.leaf (141, .aload 0, 142, 0)))) (.branch 147 (.branch 145 (.leaf (142, .getfield 711, 145, 944)) (.leaf (145, .ldc 6, 147, 0))) (.branch 148 (.leaf (147, .iload 1, 148, 0)) (.leaf (148, .imul, 149, 0))))))) (.branch 168 (.branch 159 (.branch 152 (.branch 150 (.leaf (149, .iload 3, 150, 0)) (.branch 151 (.leaf (150, .iadd, 151, 0)) (.leaf (151, .iaload, 152, 0)))) (.branch 154 (.branch 153 (.leaf (152, .iastore, 153, 0)) (.leaf (153, .aload 0, 154, 0))) (.branch 157 (.leaf (154, .getfield 711, 157, 944)) (.leaf (157, .ldc 6, 159, 0))))) (.branch 162 (.branch 160 (.leaf (159, .iload 1, 160, 0)) (.branch 161 (.leaf (160, .imul, 161, 0)) (.leaf (161, .iload 3, 162, 0)))) (.branch 164 (.branch 163 (.leaf (162, .iadd, 163, 0)) (.leaf (163, .aload 0, 164, 0))) (.branch 167 (.leaf (164, .getfield 720, 167, 953)) (.leaf (167, .iload 3, 168, 0)))))) (.branch 181 (.branch 173 (.branch 169 (.leaf (168, .iaload, 169, 0)) (.branch 170 (.leaf (169, .iastore, 170, 0)) (.leaf (170, .iinc 3 1, 173, 0)))) (.branch 177 (.branch 176 (.leaf (173, .goto 123, 176, 0)) (.leaf (176, .aload 0, 177, 0))) (.branch 178 (.leaf (177, .dup, 178, 0)) (.leaf (178, .getfield 721, 181, 954))))) (.branch 187 (.branch 183 (.branch 182 (.leaf (181, .ldc 1, 182, 0)) (.leaf (182, .iadd, 183, 0))) (.branch 186 (.leaf (183, .putfield 721, 186, 954)) (.leaf (186, .aload 0, 187, 0)))) (.branch 191 (.branch 188 (.leaf (187, .aload 0, 188, 0)) (.leaf (188, .getfield 720, 191, 953))) (.branch 194 (.leaf (191, .invokevirtual 157, 194, 1181)) (.leaf (194, .ireturn, 195, 0)))))))))
set_option maxRecDepth 100000 in
def pg_161 : Lean.RArray sIn := (.branch 33 (.branch 17 (.branch 8 (.branch 4 (.branch 1 (.leaf (0, .iload 1, 1, 0)) (.leaf (1, .invokestatic 155, 4, 1166))) (.branch 7 (.leaf (4, .ifCond .eq 15, 7, 0)) (.leaf (7, .aload 0, 8, 0)))) (.branch 12 (.branch 9 (.leaf (8, .iload 2, 9, 0)) (.leaf (9, .invokevirtual 158, 12, 1170))) (.branch 15 (.leaf (12, .ifCond .ne 17, 15, 0)) (.branch 16 (.leaf (15, .ldc 4294967295, 16, 0)) (.leaf (16, .ireturn, 17, 0)))))) (.branch 24 (.branch 19 (.branch 18 (.leaf (17, .ldc 1, 18, 0)) (.leaf (18, .istore 3, 19, 0))) (.branch 20 (.leaf (19, .iload 3, 20, 0)) (.branch 21 (.leaf (20, .ldc 5, 21, 0)) (.leaf (21, .if_icmp .gt 47, 24, 0))))) (.branch 28 (.branch 25 (.leaf (24, .aload 0, 25, 0)) (.leaf (25, .getfield 720, 28, 953))) (.branch 29 (.leaf (28, .iload 3, 29, 0)) (.branch 30 (.leaf (29, .aload 0, 30, 0)) (.leaf (30, .getfield 711, 33, 944))))))) (.branch 48 (.branch 39 (.branch 36 (.branch 35 (.leaf (33, .ldc 6, 35, 0)) (.leaf (35, .iload 1, 36, 0))) (.branch 37 (.leaf (36, .imul, 37, 0)) (.branch 38 (.leaf (37, .iload 3, 38, 0)) (.leaf (38, .iadd, 39, 0))))) (.branch 41 (.branch 40 (.leaf (39, .iaload, 40, 0)) (.leaf (40, .iastore, 41, 0))) (.branch 44 (.leaf (41, .iinc 3 1, 44, 0)) (.branch 47 (.leaf (44, .goto 19, 47, 0)) (.leaf (47, .aload 0, 48, 0)))))) (.branch 55 (.branch 52 (.branch 51 (.leaf (48, .getfield 720, 51, 953)) (.leaf (51, .iload 2, 52, 0))) (.branch 53 (.leaf (52, .iload 2, 53, 0)) (.branch 54 (.leaf (53, .ldc 1, 54, 0)) (.leaf (54, .iadd, 55, 0))))) (.branch 59 (.branch 58 (.leaf (55, .invokestatic 159, 58, 1174)) (.leaf (58, .aload 0, 59, 0))) (.branch 60 (.leaf (59, .iload 1, 60, 0)) (.branch 63 (.leaf (60, .invokevirtual 160, 63, 1177)) (.leaf (63, .ireturn, 64, 0))))))))
set_option maxRecDepth 100000 in
def pg_162 : Lean.RArray sIn := (.branch 39 (.branch 22 (.branch 11 (.branch 4 (.branch 1 (.leaf (0, .iload 1, 1, 0)) (.leaf (1, .invokestatic 155, 4, 1166))) (.branch 7 (.leaf (4, .ifCond .eq 21, 7, 0)) (.branch 8 (.leaf (7, .iload 2, 8, 0)) (.leaf (8, .invokestatic 155, 11, 1166))))) (.branch 15 (.branch 14 (.leaf (11, .ifCond .eq 21, 14, 0)) (.leaf (14, .iload 3, 15, 0))) (.branch 18 (.leaf (15, .invokestatic 155, 18, 1166)) (.branch 21 (.leaf (18, .ifCond .ne 23, 21, 0)) (.leaf (21, .ldc 4294967295, 22, 0)))))) (.branch 29 (.branch 24 (.branch 23 (.leaf (22, .ireturn, 23, 0)) (.leaf (23, .ldc 1, 24, 0))) (.branch 26 (.leaf (24, .istore 4, 26, 0)) (.branch 28 (.leaf (26, .iload 4, 28, 0)) (.leaf (28, .ldc 5, 29, 0))))) (.branch 33 (.branch 32 (.leaf (29, .if_icmp .gt 67, 32, 0)) (.leaf (32, .aload 0, 33, 0))) (.branch 36 (.leaf (33, .getfield 720, 36, 953)) (.branch 38 (.leaf (36, .iload 4, 38, 0)) (.leaf (38, .aload 0, 39, 0))))))) (.branch 56 (.branch 47 (.branch 44 (.branch 42 (.leaf (39, .getfield 711, 42, 944)) (.leaf (42, .ldc 6, 44, 0))) (.branch 45 (.leaf (44, .iload 2, 45, 0)) (.branch 46 (.leaf (45, .imul, 46, 0)) (.leaf (46, .aload 0, 47, 0))))) (.branch 52 (.branch 50 (.leaf (47, .getfield 711, 50, 944)) (.leaf (50, .ldc 6, 52, 0))) (.branch 53 (.leaf (52, .iload 3, 53, 0)) (.branch 54 (.leaf (53, .imul, 54, 0)) (.leaf (54, .iload 4, 56, 0)))))) (.branch 61 (.branch 58 (.branch 57 (.leaf (56, .iadd, 57, 0)) (.leaf (57, .iaload, 58, 0))) (.branch 59 (.leaf (58, .iadd, 59, 0)) (.branch 60 (.leaf (59, .iaload, 60, 0)) (.leaf (60, .iastore, 61, 0))))) (.branch 68 (.branch 64 (.leaf (61, .iinc 4 1, 64, 0)) (.branch 67 (.leaf (64, .goto 26, 67, 0)) (.leaf (67, .aload 0, 68, 0)))) (.branch 69 (.leaf (68, .iload 1, 69, 0)) (.branch 72 (.leaf (69, .invokevirtual 160, 72, 1177)) (.leaf (72, .ireturn, 73, 0))))))))
set_option maxRecDepth 100000 in
def pg_163 : Lean.RArray sIn := (.branch 24 (.branch 11 (.branch 7 (.branch 1 (.leaf (0, .iload 1, 1, 0)) (.branch 4 (.leaf (1, .invokestatic 155, 4, 1166)) (.leaf (4, .ifCond .ne 9, 7, 0)))) (.branch 9 (.branch 8 (.leaf (7, .ldc 4294967295, 8, 0)) (.leaf (8, .ireturn, 9, 0))) (.branch 10 (.leaf (9, .ldc 1, 10, 0)) (.leaf (10, .istore 2, 11, 0))))) (.branch 16 (.branch 12 (.leaf (11, .iload 2, 12, 0)) (.branch 13 (.leaf (12, .ldc 5, 13, 0)) (.leaf (13, .if_icmp .gt 39, 16, 0)))) (.branch 20 (.branch 17 (.leaf (16, .aload 0, 17, 0)) (.leaf (17, .getfield 720, 20, 953))) (.branch 21 (.leaf (20, .aload 0, 21, 0)) (.leaf (21, .getfield 711, 24, 944)))))) (.branch 32 (.branch 28 (.branch 26 (.leaf (24, .ldc 6, 26, 0)) (.branch 27 (.leaf (26, .iload 1, 27, 0)) (.leaf (27, .imul, 28, 0)))) (.branch 30 (.branch 29 (.leaf (28, .iload 2, 29, 0)) (.leaf (29, .iadd, 30, 0))) (.branch 31 (.leaf (30, .iaload, 31, 0)) (.leaf (31, .iload 2, 32, 0))))) (.branch 39 (.branch 33 (.leaf (32, .iastore, 33, 0)) (.branch 36 (.leaf (33, .iinc 2 1, 36, 0)) (.leaf (36, .goto 11, 39, 0)))) (.branch 41 (.branch 40 (.leaf (39, .aload 0, 40, 0)) (.leaf (40, .iload 1, 41, 0))) (.branch 44 (.leaf (41, .invokevirtual 160, 44, 1177)) (.leaf (44, .ireturn, 45, 0)))))))
set_option maxRecDepth 100000 in
def pg_164 : Lean.RArray sIn := (.branch 37 (.branch 20 (.branch 10 (.branch 4 (.branch 1 (.leaf (0, .aload 0, 1, 0)) (.leaf (1, .getfield 721, 4, 954))) (.branch 7 (.leaf (4, .ifCond .ne 10, 7, 0)) (.branch 9 (.leaf (7, .ldc 4294967291, 9, 0)) (.leaf (9, .ireturn, 10, 0))))) (.branch 15 (.branch 11 (.leaf (10, .aload 0, 11, 0)) (.branch 12 (.leaf (11, .dup, 12, 0)) (.leaf (12, .getfield 721, 15, 954)))) (.branch 16 (.leaf (15, .ldc 1, 16, 0)) (.branch 17 (.leaf (16, .isub, 17, 0)) (.leaf (17, .putfield 721, 20, 954)))))) (.branch 31 (.branch 26 (.branch 21 (.leaf (20, .aload 0, 21, 0)) (.branch 24 (.leaf (21, .getfield 722, 24, 955)) (.leaf (24, .ldc 6, 26, 0)))) (.branch 27 (.leaf (26, .aload 0, 27, 0)) (.branch 30 (.leaf (27, .getfield 721, 30, 954)) (.leaf (30, .imul, 31, 0))))) (.branch 34 (.branch 32 (.leaf (31, .iaload, 32, 0)) (.branch 33 (.leaf (32, .istore 1, 33, 0)) (.leaf (33, .ldc 1, 34, 0)))) (.branch 35 (.leaf (34, .istore 2, 35, 0)) (.branch 36 (.leaf (35, .iload 2, 36, 0)) (.leaf (36, .ldc 5, 37, 0))))))) (.branch 56 (.branch 47 (.branch 41 (.branch 40 (.leaf (37, .if_icmp .gt 71, 40, 0)) (.leaf (40, .aload 0, 41, 0))) (.branch 44 (.leaf (41, .getfield 711, 44, 944)) (.branch 46 (.leaf (44, .ldc 6, 46, 0)) (.leaf (46, .iload 1, 47, 0))))) (.branch 50 (.branch 48 (.leaf (47, .imul, 48, 0)) (.branch 49 (.leaf (48, .iload 2, 49, 0)) (.leaf (49, .iadd, 50, 0)))) (.branch 51 (.leaf (50, .aload 0, 51, 0)) (.branch 54 (.leaf (51, .getfield 722, 54, 955)) (.leaf (54, .ldc 6, 56, 0)))))) (.branch 64 (.branch 61 (.branch 57 (.leaf (56, .aload 0, 57, 0)) (.branch 60 (.leaf (57, .getfield 721, 60, 954)) (.leaf (60, .imul, 61, 0)))) (.branch 62 (.leaf (61, .iload 2, 62, 0)) (.branch 63 (.leaf (62, .iadd, 63, 0)) (.leaf (63, .iaload, 64, 0))))) (.branch 71 (.branch 65 (.leaf (64, .iastore, 65, 0)) (.branch 68 (.leaf (65, .iinc 2 1, 68, 0)) (.leaf (68, .goto 35, 71, 0)))) (.branch 72 (.leaf (71, .aload 0, 72, 0)) (.branch 75 (.leaf (72, .getfield 721, 75, 954)) (.leaf (75, .ireturn, 76, 0))))))))
set_option maxRecDepth 100000 in
def pg_165 : Lean.RArray sIn := (.branch 21 (.branch 9 (.branch 4 (.branch 1 (.leaf (0, .iload 1, 1, 0)) (.leaf (1, .invokestatic 155, 4, 1166))) (.branch 7 (.leaf (4, .ifCond .eq 35, 7, 0)) (.branch 8 (.leaf (7, .iload 2, 8, 0)) (.leaf (8, .i2l, 9, 0))))) (.branch 14 (.branch 10 (.leaf (9, .ldc2_w 1, 10, 0)) (.branch 11 (.leaf (10, .aload 0, 11, 0)) (.leaf (11, .getfield 705, 14, 938)))) (.branch 15 (.leaf (14, .i2l, 15, 0)) (.branch 18 (.leaf (15, .invokestatic 140, 18, 1146)) (.leaf (18, .ifCond .eq 35, 21, 0)))))) (.branch 29 (.branch 25 (.branch 22 (.leaf (21, .aload 0, 22, 0)) (.leaf (22, .getfield 711, 25, 944))) (.branch 27 (.leaf (25, .ldc 6, 27, 0)) (.branch 28 (.leaf (27, .iload 1, 28, 0)) (.leaf (28, .imul, 29, 0))))) (.branch 32 (.branch 30 (.leaf (29, .iload 2, 30, 0)) (.branch 31 (.leaf (30, .iadd, 31, 0)) (.leaf (31, .iaload, 32, 0)))) (.branch 35 (.leaf (32, .goto 36, 35, 0)) (.branch 36 (.leaf (35, .ldc 4294967295, 36, 0)) (.leaf (36, .ireturn, 37, 0)))))))
set_option maxRecDepth 100000 in
def pg_166 : Lean.RArray sIn := (.branch 77 (.branch 35 (.branch 15 (.branch 5 (.branch 2 (.branch 1 (.leaf (0, .ldc 0, 1, 0)) (.leaf (1, .istore 2, 2, 0))) (.branch 3 (.leaf (2, .ldc 1, 3, 0)) (.branch 4 (.leaf (3, .istore 3, 4, 0)) (.leaf (4, .iload 3, 5, 0))))) (.branch 10 (.branch 6 (.leaf (5, .ldc 5, 6, 0)) (.branch 9 (.leaf (6, .if_icmp .gt 43, 9, 0)) (.leaf (9, .aload 0, 10, 0)))) (.branch 13 (.leaf (10, .getfield 723, 13, 956)) (.branch 14 (.leaf (13, .iload 3, 14, 0)) (.leaf (14, .iload 3, 15, 0)))))) (.branch 27 (.branch 22 (.branch 16 (.leaf (15, .aload 0, 16, 0)) (.branch 19 (.leaf (16, .getfield 705, 19, 938)) (.leaf (19, .if_icmp .le 26, 22, 0)))) (.branch 23 (.leaf (22, .ldc 1, 23, 0)) (.branch 26 (.leaf (23, .goto 27, 26, 0)) (.leaf (26, .ldc 0, 27, 0))))) (.branch 32 (.branch 28 (.leaf (27, .bastore, 28, 0)) (.branch 29 (.leaf (28, .aload 0, 29, 0)) (.leaf (29, .getfield 724, 32, 957)))) (.branch 33 (.leaf (32, .iload 3, 33, 0)) (.branch 34 (.leaf (33, .ldc 1, 34, 0)) (.leaf (34, .isub, 35, 0))))))) (.branch 56 (.branch 45 (.branch 40 (.branch 36 (.leaf (35, .ldc 0, 36, 0)) (.branch 37 (.leaf (36, .iastore, 37, 0)) (.leaf (37, .iinc 3 1, 40, 0)))) (.branch 43 (.leaf (40, .goto 4, 43, 0)) (.branch 44 (.leaf (43, .ldc 1, 44, 0)) (.leaf (44, .istore 3, 45, 0))))) (.branch 50 (.branch 46 (.leaf (45, .iload 3, 46, 0)) (.branch 47 (.leaf (46, .aload 0, 47, 0)) (.leaf (47, .getfield 705, 50, 938)))) (.branch 53 (.leaf (50, .if_icmp .gt 161, 53, 0)) (.branch 54 (.leaf (53, .ldc 0, 54, 0)) (.leaf (54, .istore 4, 56, 0)))))) (.branch 66 (.branch 60 (.branch 57 (.leaf (56, .iload 3, 57, 0)) (.branch 59 (.leaf (57, .istore 5, 59, 0)) (.leaf (59, .aload 0, 60, 0)))) (.branch 63 (.leaf (60, .getfield 723, 63, 956)) (.branch 65 (.leaf (63, .iload 5, 65, 0)) (.leaf (65, .baload, 66, 0))))) (.branch 73 (.branch 69 (.leaf (66, .ifCond .ne 89, 69, 0)) (.branch 70 (.leaf (69, .aload 0, 70, 0)) (.leaf (70, .getfield 723, 73, 956)))) (.branch 75 (.leaf (73, .iload 5, 75, 0)) (.branch 76 (.leaf (75, .ldc 1, 76, 0)) (.leaf (76, .bastore, 77, 0)))))))) (.branch 122 (.branch 99 (.branch 86 (.branch 81 (.branch 80 (.leaf (77, .iinc 4 1, 80, 0)) (.leaf (80, .aload 1, 81, 0))) (.branch 83 (.leaf (81, .iload 5, 83, 0)) (.branch 84 (.leaf (83, .iaload, 84, 0)) (.leaf (84, .istore 5, 86, 0))))) (.branch 92 (.branch 89 (.leaf (86, .goto 59, 89, 0)) (.branch 90 (.leaf (89, .iload 2, 90, 0)) (.leaf (90, .istore 5, 92, 0)))) (.branch 94 (.leaf (92, .iload 4, 94, 0)) (.branch 97 (.leaf (94, .ifCond .le 138, 97, 0)) (.leaf (97, .iload 5, 99, 0)))))) (.branch 110 (.branch 106 (.branch 102 (.leaf (99, .ifCond .le 138, 102, 0)) (.branch 103 (.leaf (102, .aload 0, 103, 0)) (.leaf (103, .getfield 724, 106, 957)))) (.branch 108 (.leaf (106, .iload 5, 108, 0)) (.branch 109 (.leaf (108, .ldc 1, 109, 0)) (.leaf (109, .isub, 110, 0))))) (.branch 116 (.branch 111 (.leaf (110, .iaload, 111, 0)) (.branch 113 (.leaf (111, .iload 4, 113, 0)) (.leaf (113, .if_icmp .ge 138, 116, 0)))) (.branch 117 (.leaf (116, .aload 0, 117, 0)) (.branch 120 (.leaf (117, .getfield 724, 120, 957)) (.leaf (120, .iload 5, 122, 0))))))) (.branch 144 (.branch 131 (.branch 128 (.branch 123 (.leaf (122, .aload 0, 123, 0)) (.branch 126 (.leaf (123, .getfield 724, 126, 957)) (.leaf (126, .iload 5, 128, 0)))) (.branch 129 (.leaf (128, .ldc 1, 129, 0)) (.branch 130 (.leaf (129, .isub, 130, 0)) (.leaf (130, .iaload, 131, 0))))) (.branch 138 (.branch 132 (.leaf (131, .iastore, 132, 0)) (.branch 135 (.leaf (132, .iinc 5 4294967295, 135, 0)) (.leaf (135, .goto 92, 138, 0)))) (.branch 140 (.leaf (138, .iload 4, 140, 0)) (.branch 143 (.leaf (140, .ifCond .le 155, 143, 0)) (.leaf (143, .aload 0, 144, 0)))))) (.branch 158 (.branch 151 (.branch 147 (.leaf (144, .getfield 724, 147, 957)) (.branch 149 (.leaf (147, .iload 5, 149, 0)) (.leaf (149, .iload 4, 151, 0)))) (.branch 152 (.leaf (151, .iastore, 152, 0)) (.branch 155 (.leaf (152, .iinc 2 1, 155, 0)) (.leaf (155, .iinc 3 1, 158, 0))))) (.branch 163 (.branch 161 (.leaf (158, .goto 45, 161, 0)) (.branch 162 (.leaf (161, .aload 0, 162, 0)) (.leaf (162, .aload 0, 163, 0)))) (.branch 166 (.leaf (163, .getfield 724, 166, 957)) (.branch 169 (.leaf (166, .invokevirtual 153, 169, 1129)) (.leaf (169, .ireturn, 170, 0)))))))))
set_option maxRecDepth 100000 in
def pg_167 : Lean.RArray sIn := (.branch 41 (.branch 22 (.branch 9 (.branch 4 (.branch 1 (.leaf (0, .iload 1, 1, 0)) (.leaf (1, .invokestatic 155, 4, 1166))) (.branch 7 (.leaf (4, .ifCond .eq 19, 7, 0)) (.branch 8 (.leaf (7, .iload 2, 8, 0)) (.leaf (8, .i2l, 9, 0))))) (.branch 13 (.branch 10 (.leaf (9, .ldc2_w 0, 10, 0)) (.leaf (10, .ldc2_w 2, 13, 1205))) (.branch 16 (.leaf (13, .invokestatic 140, 16, 1146)) (.branch 19 (.leaf (16, .ifCond .ne 23, 19, 0)) (.leaf (19, .ldc2_w 9223372036854775808, 22, 1149)))))) (.branch 29 (.branch 24 (.branch 23 (.leaf (22, .lreturn, 23, 0)) (.leaf (23, .aload 0, 24, 0))) (.branch 25 (.leaf (24, .iload 1, 25, 0)) (.branch 28 (.leaf (25, .invokevirtual 156, 28, 1206)) (.leaf (28, .iload 2, 29, 0))))) (.branch 34 (.branch 32 (.leaf (29, .ifCond .ne 44, 32, 0)) (.branch 33 (.leaf (32, .aload 0, 33, 0)) (.leaf (33, .aload 0, 34, 0)))) (.branch 37 (.leaf (34, .getfield 719, 37, 952)) (.branch 40 (.leaf (37, .invokevirtual 157, 40, 1181)) (.leaf (40, .i2l, 41, 0))))))) (.branch 60 (.branch 50 (.branch 45 (.branch 44 (.leaf (41, .goto 76, 44, 0)) (.leaf (44, .iload 2, 45, 0))) (.branch 46 (.leaf (45, .ldc 1, 46, 0)) (.branch 49 (.leaf (46, .if_icmp .ne 67, 49, 0)) (.leaf (49, .ldc 1, 50, 0))))) (.branch 53 (.branch 51 (.leaf (50, .ldc 2, 51, 0)) (.branch 52 (.leaf (51, .aload 0, 52, 0)) (.leaf (52, .aload 0, 53, 0)))) (.branch 56 (.leaf (53, .getfield 719, 56, 952)) (.branch 59 (.leaf (56, .invokevirtual 157, 59, 1181)) (.leaf (59, .ldc 2, 60, 0)))))) (.branch 67 (.branch 62 (.branch 61 (.leaf (60, .irem, 61, 0)) (.leaf (61, .imul, 62, 0))) (.branch 63 (.leaf (62, .isub, 63, 0)) (.branch 64 (.leaf (63, .i2l, 64, 0)) (.leaf (64, .goto 76, 67, 0))))) (.branch 72 (.branch 68 (.leaf (67, .aload 0, 68, 0)) (.branch 69 (.leaf (68, .aload 0, 69, 0)) (.leaf (69, .getfield 719, 72, 952)))) (.branch 75 (.leaf (72, .invokevirtual 166, 75, 1210)) (.branch 76 (.leaf (75, .i2l, 76, 0)) (.leaf (76, .lreturn, 77, 0))))))))
set_option maxRecDepth 100000 in
def pg_168 : Lean.RArray sIn := (.branch 5 (.branch 2 (.branch 1 (.leaf (0, .ldc 1, 1, 0)) (.leaf (1, .istore 2, 2, 0))) (.branch 3 (.leaf (2, .aload 0, 3, 0)) (.branch 4 (.leaf (3, .iload 2, 4, 0)) (.leaf (4, .iaload, 5, 0))))) (.branch 12 (.branch 6 (.leaf (5, .iload 1, 6, 0)) (.branch 9 (.leaf (6, .if_icmp .eq 15, 9, 0)) (.leaf (9, .iinc 2 1, 12, 0)))) (.branch 15 (.leaf (12, .goto 2, 15, 0)) (.branch 16 (.leaf (15, .iload 2, 16, 0)) (.leaf (16, .ireturn, 17, 0))))))
set_option maxRecDepth 100000 in
def pg_169 : Lean.RArray sIn := (.branch 56 (.branch 27 (.branch 12 (.branch 4 (.branch 2 (.branch 1 (.leaf (0, .ldc 1, 1, 0)) (.leaf (1, .istore 2, 2, 0))) (.branch 3 (.leaf (2, .iload 2, 3, 0)) (.leaf (3, .ldc 5, 4, 0)))) (.branch 8 (.branch 7 (.leaf (4, .if_icmp .gt 22, 7, 0)) (.leaf (7, .aload 0, 8, 0))) (.branch 11 (.leaf (8, .getfield 727, 11, 960)) (.leaf (11, .iload 2, 12, 0))))) (.branch 16 (.branch 14 (.branch 13 (.leaf (12, .aload 1, 13, 0)) (.leaf (13, .iload 2, 14, 0))) (.branch 15 (.leaf (14, .iaload, 15, 0)) (.leaf (15, .iastore, 16, 0)))) (.branch 22 (.branch 19 (.leaf (16, .iinc 2 1, 19, 0)) (.leaf (19, .goto 2, 22, 0))) (.branch 23 (.leaf (22, .aload 0, 23, 0)) (.branch 24 (.leaf (23, .ldc 0, 24, 0)) (.leaf (24, .putfield 726, 27, 959))))))) (.branch 41 (.branch 31 (.branch 29 (.branch 28 (.leaf (27, .ldc 1, 28, 0)) (.leaf (28, .istore 2, 29, 0))) (.branch 30 (.leaf (29, .iload 2, 30, 0)) (.leaf (30, .aload 0, 31, 0)))) (.branch 37 (.branch 34 (.leaf (31, .getfield 705, 34, 938)) (.leaf (34, .if_icmp .ge 112, 37, 0))) (.branch 38 (.leaf (37, .aload 0, 38, 0)) (.leaf (38, .getfield 727, 41, 960))))) (.branch 47 (.branch 45 (.branch 42 (.leaf (41, .iload 2, 42, 0)) (.leaf (42, .invokestatic 168, 45, 1222))) (.branch 46 (.leaf (45, .istore 3, 46, 0)) (.leaf (46, .aload 0, 47, 0)))) (.branch 51 (.branch 50 (.leaf (47, .getfield 727, 50, 960)) (.leaf (50, .iload 2, 51, 0))) (.branch 52 (.leaf (51, .ldc 1, 52, 0)) (.branch 53 (.leaf (52, .iadd, 53, 0)) (.leaf (53, .invokestatic 168, 56, 1222)))))))) (.branch 82 (.branch 70 (.branch 64 (.branch 59 (.branch 58 (.leaf (56, .istore 4, 58, 0)) (.leaf (58, .iload 3, 59, 0))) (.branch 61 (.leaf (59, .iload 4, 61, 0)) (.leaf (61, .if_icmp .le 106, 64, 0)))) (.branch 68 (.branch 65 (.leaf (64, .aload 0, 65, 0)) (.leaf (65, .getfield 727, 68, 960))) (.branch 69 (.leaf (68, .iload 3, 69, 0)) (.leaf (69, .iload 2, 70, 0))))) (.branch 74 (.branch 72 (.branch 71 (.leaf (70, .ldc 1, 71, 0)) (.leaf (71, .iadd, 72, 0))) (.branch 73 (.leaf (72, .iastore, 73, 0)) (.leaf (73, .aload 0, 74, 0)))) (.branch 79 (.branch 77 (.leaf (74, .getfield 727, 77, 960)) (.leaf (77, .iload 4, 79, 0))) (.branch 80 (.leaf (79, .iload 2, 80, 0)) (.branch 81 (.leaf (80, .iastore, 81, 0)) (.leaf (81, .aload 0, 82, 0))))))) (.branch 96 (.branch 90 (.branch 86 (.branch 85 (.leaf (82, .getfield 725, 85, 958)) (.leaf (85, .aload 0, 86, 0))) (.branch 89 (.leaf (86, .getfield 726, 89, 959)) (.leaf (89, .iload 2, 90, 0)))) (.branch 92 (.branch 91 (.leaf (90, .iastore, 91, 0)) (.leaf (91, .aload 0, 92, 0))) (.branch 93 (.leaf (92, .dup, 93, 0)) (.leaf (93, .getfield 726, 96, 959))))) (.branch 102 (.branch 98 (.branch 97 (.leaf (96, .ldc 1, 97, 0)) (.leaf (97, .iadd, 98, 0))) (.branch 101 (.leaf (98, .putfield 726, 101, 959)) (.leaf (101, .ldc 1, 102, 0)))) (.branch 106 (.branch 103 (.leaf (102, .istore 2, 103, 0)) (.leaf (103, .goto 109, 106, 0))) (.branch 109 (.leaf (106, .iinc 2 1, 109, 0)) (.branch 112 (.leaf (109, .goto 29, 112, 0)) (.leaf (112, .return_, 113, 0)))))))))
set_option maxRecDepth 100000 in
def pg_170 : Lean.RArray sIn := (.branch 20 (.branch 12 (.branch 7 (.branch 1 (.leaf (0, .iload 1, 1, 0)) (.branch 4 (.leaf (1, .invokestatic 155, 4, 1166)) (.leaf (4, .ifCond .eq 11, 7, 0)))) (.branch 8 (.leaf (7, .iload 2, 8, 0)) (.branch 11 (.leaf (8, .ifCond .ge 13, 11, 0)) (.leaf (11, .ldc 4294967295, 12, 0))))) (.branch 15 (.branch 13 (.leaf (12, .ireturn, 13, 0)) (.branch 14 (.leaf (13, .aload 0, 14, 0)) (.leaf (14, .iload 1, 15, 0)))) (.branch 18 (.leaf (15, .invokevirtual 156, 18, 1206)) (.branch 19 (.leaf (18, .aload 0, 19, 0)) (.leaf (19, .aload 0, 20, 0)))))) (.branch 34 (.branch 27 (.branch 23 (.leaf (20, .getfield 719, 23, 952)) (.branch 26 (.leaf (23, .invokevirtual 169, 26, 1218)) (.leaf (26, .iload 2, 27, 0)))) (.branch 28 (.leaf (27, .aload 0, 28, 0)) (.branch 31 (.leaf (28, .getfield 726, 31, 959)) (.leaf (31, .if_icmp .ge 43, 34, 0))))) (.branch 39 (.branch 35 (.leaf (34, .aload 0, 35, 0)) (.branch 38 (.leaf (35, .getfield 725, 38, 958)) (.leaf (38, .iload 2, 39, 0)))) (.branch 43 (.branch 40 (.leaf (39, .iaload, 40, 0)) (.leaf (40, .goto 45, 43, 0))) (.branch 45 (.leaf (43, .ldc 4294967294, 45, 0)) (.leaf (45, .ireturn, 46, 0)))))))
set_option maxRecDepth 100000 in
def pg_171 : Lean.RArray sIn := (.branch 16 (.branch 8 (.branch 3 (.branch 1 (.leaf (0, .ldc 0, 1, 0)) (.branch 2 (.leaf (1, .istore 1, 2, 0)) (.leaf (2, .aload 0, 3, 0)))) (.branch 6 (.leaf (3, .getfield 705, 6, 938)) (.branch 7 (.leaf (6, .istore 2, 7, 0)) (.leaf (7, .iload 2, 8, 0))))) (.branch 13 (.branch 9 (.leaf (8, .ldc 1, 9, 0)) (.branch 12 (.leaf (9, .if_icmp .lt 36, 12, 0)) (.leaf (12, .ldc 5, 13, 0)))) (.branch 14 (.leaf (13, .iload 1, 14, 0)) (.branch 15 (.leaf (14, .imul, 15, 0)) (.leaf (15, .aload 0, 16, 0)))))) (.branch 28 (.branch 23 (.branch 19 (.leaf (16, .getfield 729, 19, 962)) (.branch 20 (.leaf (19, .aload 0, 20, 0)) (.leaf (20, .getfield 731, 23, 964)))) (.branch 24 (.leaf (23, .iload 2, 24, 0)) (.branch 27 (.leaf (24, .invokestatic 168, 27, 1222)) (.leaf (27, .iaload, 28, 0))))) (.branch 33 (.branch 29 (.leaf (28, .iadd, 29, 0)) (.branch 30 (.leaf (29, .istore 1, 30, 0)) (.leaf (30, .iinc 2 4294967295, 33, 0)))) (.branch 36 (.leaf (33, .goto 7, 36, 0)) (.branch 37 (.leaf (36, .iload 1, 37, 0)) (.leaf (37, .ireturn, 38, 0)))))))
set_option maxRecDepth 100000 in
def pg_172 : Lean.RArray sIn := (.branch 75 (.branch 41 (.branch 17 (.branch 9 (.branch 2 (.branch 1 (.leaf (0, .iload 1, 1, 0)) (.leaf (1, .aload 0, 2, 0))) (.branch 5 (.leaf (2, .getfield 705, 5, 938)) (.branch 8 (.leaf (5, .if_icmp .le 65, 8, 0)) (.leaf (8, .aload 0, 9, 0))))) (.branch 14 (.branch 12 (.leaf (9, .getfield 705, 12, 938)) (.branch 13 (.leaf (12, .ldc 1, 13, 0)) (.leaf (13, .iadd, 14, 0)))) (.branch 15 (.leaf (14, .istore 2, 15, 0)) (.branch 16 (.leaf (15, .iload 2, 16, 0)) (.leaf (16, .ldc 5, 17, 0)))))) (.branch 27 (.branch 24 (.branch 20 (.leaf (17, .if_icmp .gt 33, 20, 0)) (.branch 21 (.leaf (20, .aload 0, 21, 0)) (.leaf (21, .getfield 731, 24, 964)))) (.branch 25 (.leaf (24, .iload 2, 25, 0)) (.branch 26 (.leaf (25, .iload 2, 26, 0)) (.leaf (26, .iastore, 27, 0))))) (.branch 34 (.branch 30 (.leaf (27, .iinc 2 1, 30, 0)) (.branch 33 (.leaf (30, .goto 15, 33, 0)) (.leaf (33, .aload 0, 34, 0)))) (.branch 37 (.leaf (34, .getfield 728, 37, 961)) (.branch 38 (.leaf (37, .aload 0, 38, 0)) (.leaf (38, .invokevirtual 171, 41, 1248))))))) (.branch 59 (.branch 49 (.branch 44 (.branch 42 (.leaf (41, .dup2, 42, 0)) (.branch 43 (.leaf (42, .iaload, 43, 0)) (.leaf (43, .aload 0, 44, 0)))) (.branch 47 (.leaf (44, .getfield 732, 47, 965)) (.branch 48 (.leaf (47, .ldc 1, 48, 0)) (.leaf (48, .ldc 2, 49, 0))))) (.branch 54 (.branch 50 (.leaf (49, .aload 0, 50, 0)) (.branch 51 (.leaf (50, .aload 0, 51, 0)) (.leaf (51, .getfield 731, 54, 964)))) (.branch 57 (.leaf (54, .invokevirtual 157, 57, 1181)) (.branch 58 (.leaf (57, .ldc 2, 58, 0)) (.leaf (58, .irem, 59, 0)))))) (.branch 65 (.branch 62 (.branch 60 (.leaf (59, .imul, 60, 0)) (.branch 61 (.leaf (60, .isub, 61, 0)) (.leaf (61, .imul, 62, 0)))) (.branch 63 (.leaf (62, .iadd, 63, 0)) (.branch 64 (.leaf (63, .iastore, 64, 0)) (.leaf (64, .return_, 65, 0))))) (.branch 68 (.branch 66 (.leaf (65, .ldc 1, 66, 0)) (.branch 67 (.leaf (66, .istore 2, 67, 0)) (.leaf (67, .iload 2, 68, 0)))) (.branch 69 (.leaf (68, .aload 0, 69, 0)) (.branch 72 (.leaf (69, .getfield 705, 72, 938)) (.leaf (72, .if_icmp .gt 154, 75, 0)))))))) (.branch 113 (.branch 94 (.branch 82 (.branch 79 (.branch 76 (.leaf (75, .aload 0, 76, 0)) (.leaf (76, .getfield 730, 79, 963))) (.branch 80 (.leaf (79, .iload 2, 80, 0)) (.branch 81 (.leaf (80, .iaload, 81, 0)) (.leaf (81, .aload 0, 82, 0))))) (.branch 87 (.branch 85 (.leaf (82, .getfield 730, 85, 963)) (.branch 86 (.leaf (85, .iload 1, 86, 0)) (.leaf (86, .iaload, 87, 0)))) (.branch 90 (.leaf (87, .if_icmp .ne 94, 90, 0)) (.branch 91 (.leaf (90, .ldc 1, 91, 0)) (.leaf (91, .goto 95, 94, 0)))))) (.branch 102 (.branch 97 (.branch 95 (.leaf (94, .ldc 0, 95, 0)) (.branch 96 (.leaf (95, .istore 3, 96, 0)) (.leaf (96, .ldc 1, 97, 0)))) (.branch 99 (.leaf (97, .istore 4, 99, 0)) (.branch 101 (.leaf (99, .iload 4, 101, 0)) (.leaf (101, .iload 1, 102, 0))))) (.branch 107 (.branch 105 (.leaf (102, .if_icmp .ge 130, 105, 0)) (.branch 106 (.leaf (105, .iload 3, 106, 0)) (.leaf (106, .aload 0, 107, 0)))) (.branch 110 (.leaf (107, .getfield 731, 110, 964)) (.branch 112 (.leaf (110, .iload 4, 112, 0)) (.leaf (112, .iaload, 113, 0))))))) (.branch 135 (.branch 123 (.branch 118 (.branch 114 (.leaf (113, .iload 2, 114, 0)) (.branch 117 (.leaf (114, .if_icmp .eq 121, 117, 0)) (.leaf (117, .ldc 1, 118, 0)))) (.branch 121 (.leaf (118, .goto 122, 121, 0)) (.branch 122 (.leaf (121, .ldc 0, 122, 0)) (.leaf (122, .iand, 123, 0))))) (.branch 130 (.branch 124 (.leaf (123, .istore 3, 124, 0)) (.branch 127 (.leaf (124, .iinc 4 1, 127, 0)) (.leaf (127, .goto 99, 130, 0)))) (.branch 131 (.leaf (130, .iload 3, 131, 0)) (.branch 134 (.leaf (131, .ifCond .eq 148, 134, 0)) (.leaf (134, .aload 0, 135, 0)))))) (.branch 143 (.branch 140 (.branch 138 (.leaf (135, .getfield 731, 138, 964)) (.branch 139 (.leaf (138, .iload 1, 139, 0)) (.leaf (139, .iload 2, 140, 0)))) (.branch 141 (.leaf (140, .iastore, 141, 0)) (.branch 142 (.leaf (141, .aload 0, 142, 0)) (.leaf (142, .iload 1, 143, 0))))) (.branch 148 (.branch 144 (.leaf (143, .ldc 1, 144, 0)) (.branch 145 (.leaf (144, .iadd, 145, 0)) (.leaf (145, .invokevirtual 172, 148, 1244)))) (.branch 151 (.leaf (148, .iinc 2 1, 151, 0)) (.branch 154 (.leaf (151, .goto 67, 154, 0)) (.leaf (154, .return_, 155, 0)))))))))
set_option maxRecDepth 100000 in
def pg_173 : Lean.RArray sIn := (.branch 27 (.branch 15 (.branch 4 (.branch 2 (.branch 1 (.leaf (0, .ldc 1, 1, 0)) (.leaf (1, .istore 2, 2, 0))) (.branch 3 (.leaf (2, .iload 2, 3, 0)) (.leaf (3, .aload 0, 4, 0)))) (.branch 10 (.branch 7 (.leaf (4, .getfield 705, 7, 938)) (.leaf (7, .if_icmp .gt 54, 10, 0))) (.branch 11 (.leaf (10, .aload 0, 11, 0)) (.branch 14 (.leaf (11, .getfield 729, 14, 962)) (.leaf (14, .iload 2, 15, 0)))))) (.branch 22 (.branch 19 (.branch 16 (.leaf (15, .aload 0, 16, 0)) (.leaf (16, .getfield 709, 19, 942))) (.branch 21 (.leaf (19, .ldc 6, 21, 0)) (.leaf (21, .iload 1, 22, 0)))) (.branch 24 (.branch 23 (.leaf (22, .imul, 23, 0)) (.leaf (23, .iload 2, 24, 0))) (.branch 25 (.leaf (24, .iadd, 25, 0)) (.branch 26 (.leaf (25, .ldc 1, 26, 0)) (.leaf (26, .isub, 27, 0))))))) (.branch 41 (.branch 33 (.branch 29 (.branch 28 (.leaf (27, .iaload, 28, 0)) (.leaf (28, .iastore, 29, 0))) (.branch 30 (.leaf (29, .aload 0, 30, 0)) (.leaf (30, .getfield 730, 33, 963)))) (.branch 35 (.branch 34 (.leaf (33, .iload 2, 34, 0)) (.leaf (34, .aload 0, 35, 0))) (.branch 38 (.leaf (35, .getfield 710, 38, 943)) (.branch 40 (.leaf (38, .ldc 6, 40, 0)) (.leaf (40, .iload 1, 41, 0)))))) (.branch 46 (.branch 43 (.branch 42 (.leaf (41, .imul, 42, 0)) (.leaf (42, .iload 2, 43, 0))) (.branch 44 (.leaf (43, .iadd, 44, 0)) (.branch 45 (.leaf (44, .ldc 1, 45, 0)) (.leaf (45, .isub, 46, 0))))) (.branch 48 (.branch 47 (.leaf (46, .iaload, 47, 0)) (.leaf (47, .iastore, 48, 0))) (.branch 51 (.leaf (48, .iinc 2 1, 51, 0)) (.branch 54 (.leaf (51, .goto 2, 54, 0)) (.leaf (54, .return_, 55, 0))))))))
set_option maxRecDepth 100000 in
def pg_174 : Lean.RArray sIn := (.branch 32 (.branch 17 (.branch 7 (.branch 4 (.branch 1 (.leaf (0, .aload 0, 1, 0)) (.leaf (1, .getfield 705, 4, 938))) (.branch 5 (.leaf (4, .istore 3, 5, 0)) (.branch 6 (.leaf (5, .iload 3, 6, 0)) (.leaf (6, .ldc 1, 7, 0))))) (.branch 11 (.branch 10 (.leaf (7, .if_icmp .lt 66, 10, 0)) (.leaf (10, .aload 0, 11, 0))) (.branch 14 (.leaf (11, .getfield 709, 14, 942)) (.branch 16 (.leaf (14, .ldc 6, 16, 0)) (.leaf (16, .iload 1, 17, 0)))))) (.branch 22 (.branch 19 (.branch 18 (.leaf (17, .imul, 18, 0)) (.leaf (18, .iload 3, 19, 0))) (.branch 20 (.leaf (19, .iadd, 20, 0)) (.branch 21 (.leaf (20, .ldc 1, 21, 0)) (.leaf (21, .isub, 22, 0))))) (.branch 26 (.branch 23 (.leaf (22, .iaload, 23, 0)) (.branch 25 (.leaf (23, .istore 4, 25, 0)) (.leaf (25, .aload 0, 26, 0)))) (.branch 29 (.leaf (26, .getfield 709, 29, 942)) (.branch 31 (.leaf (29, .ldc 6, 31, 0)) (.leaf (31, .iload 2, 32, 0))))))) (.branch 47 (.branch 37 (.branch 34 (.branch 33 (.leaf (32, .imul, 33, 0)) (.leaf (33, .iload 3, 34, 0))) (.branch 35 (.leaf (34, .iadd, 35, 0)) (.branch 36 (.leaf (35, .ldc 1, 36, 0)) (.leaf (36, .isub, 37, 0))))) (.branch 40 (.branch 38 (.leaf (37, .iaload, 38, 0)) (.leaf (38, .istore 5, 40, 0))) (.branch 42 (.leaf (40, .iload 4, 42, 0)) (.branch 44 (.leaf (42, .iload 5, 44, 0)) (.leaf (44, .if_icmp .eq 60, 47, 0)))))) (.branch 58 (.branch 51 (.branch 49 (.leaf (47, .iload 4, 49, 0)) (.leaf (49, .iload 5, 51, 0))) (.branch 54 (.leaf (51, .if_icmp .le 58, 54, 0)) (.branch 55 (.leaf (54, .ldc 1, 55, 0)) (.leaf (55, .goto 59, 58, 0))))) (.branch 63 (.branch 59 (.leaf (58, .ldc 0, 59, 0)) (.branch 60 (.leaf (59, .ireturn, 60, 0)) (.leaf (60, .iinc 3 4294967295, 63, 0)))) (.branch 66 (.leaf (63, .goto 5, 66, 0)) (.branch 67 (.leaf (66, .ldc 0, 67, 0)) (.leaf (67, .ireturn, 68, 0))))))))
set_option maxRecDepth 100000 in
def pg_175 : Lean.RArray sIn := (.branch 19 (.branch 8 (.branch 3 (.branch 1 (.leaf (0, .ldc 0, 1, 0)) (.branch 2 (.leaf (1, .istore 2, 2, 0)) (.leaf (2, .aload 0, 3, 0)))) (.branch 6 (.leaf (3, .getfield 705, 6, 938)) (.branch 7 (.leaf (6, .istore 3, 7, 0)) (.leaf (7, .iload 3, 8, 0))))) (.branch 13 (.branch 9 (.leaf (8, .ldc 1, 9, 0)) (.branch 12 (.leaf (9, .if_icmp .lt 36, 12, 0)) (.leaf (12, .ldc 5, 13, 0)))) (.branch 15 (.branch 14 (.leaf (13, .iload 2, 14, 0)) (.leaf (14, .imul, 15, 0))) (.branch 16 (.leaf (15, .aload 0, 16, 0)) (.leaf (16, .getfield 709, 19, 942)))))) (.branch 27 (.branch 23 (.branch 21 (.leaf (19, .ldc 6, 21, 0)) (.branch 22 (.leaf (21, .iload 1, 22, 0)) (.leaf (22, .imul, 23, 0)))) (.branch 25 (.branch 24 (.leaf (23, .iload 3, 24, 0)) (.leaf (24, .iadd, 25, 0))) (.branch 26 (.leaf (25, .ldc 1, 26, 0)) (.leaf (26, .isub, 27, 0))))) (.branch 30 (.branch 28 (.leaf (27, .iaload, 28, 0)) (.branch 29 (.leaf (28, .iadd, 29, 0)) (.leaf (29, .istore 2, 30, 0)))) (.branch 36 (.branch 33 (.leaf (30, .iinc 3 4294967295, 33, 0)) (.leaf (33, .goto 7, 36, 0))) (.branch 37 (.leaf (36, .iload 2, 37, 0)) (.leaf (37, .ireturn, 38, 0)))))))
set_option maxRecDepth 100000 in
def pg_176 : Lean.RArray sIn := (.branch 83 (.branch 44 (.branch 22 (.branch 10 (.branch 3 (.branch 1 (.leaf (0, .ldc 0, 1, 0)) (.branch 2 (.leaf (1, .istore 1, 2, 0)) (.leaf (2, .iload 1, 3, 0)))) (.branch 6 (.leaf (3, .ldc 3125, 6, 0)) (.branch 9 (.leaf (6, .if_icmp .ge 22, 9, 0)) (.leaf (9, .aload 0, 10, 0))))) (.branch 15 (.branch 13 (.leaf (10, .getfield 728, 13, 961)) (.branch 14 (.leaf (13, .iload 1, 14, 0)) (.leaf (14, .ldc 0, 15, 0)))) (.branch 16 (.leaf (15, .iastore, 16, 0)) (.branch 19 (.leaf (16, .iinc 1 1, 19, 0)) (.leaf (19, .goto 2, 22, 0)))))) (.branch 32 (.branch 27 (.branch 23 (.leaf (22, .aload 0, 23, 0)) (.branch 24 (.leaf (23, .ldc 1, 24, 0)) (.leaf (24, .putfield 732, 27, 965)))) (.branch 28 (.leaf (27, .aload 0, 28, 0)) (.branch 29 (.leaf (28, .ldc 1, 29, 0)) (.leaf (29, .invokevirtual 172, 32, 1244))))) (.branch 35 (.branch 33 (.leaf (32, .ldc 0, 33, 0)) (.branch 34 (.leaf (33, .istore 1, 34, 0)) (.leaf (34, .iload 1, 35, 0)))) (.branch 40 (.branch 37 (.leaf (35, .ldc 6, 37, 0)) (.leaf (37, .if_icmp .ge 60, 40, 0))) (.branch 41 (.leaf (40, .aload 0, 41, 0)) (.leaf (41, .getfield 733, 44, 966))))))) (.branch 62 (.branch 52 (.branch 47 (.branch 45 (.leaf (44, .iload 1, 45, 0)) (.branch 46 (.leaf (45, .ldc 0, 46, 0)) (.leaf (46, .iastore, 47, 0)))) (.branch 48 (.leaf (47, .aload 0, 48, 0)) (.branch 51 (.leaf (48, .getfield 734, 51, 967)) (.leaf (51, .iload 1, 52, 0))))) (.branch 57 (.branch 53 (.leaf (52, .ldc 0, 53, 0)) (.branch 54 (.leaf (53, .bastore, 54, 0)) (.leaf (54, .iinc 1 1, 57, 0)))) (.branch 60 (.leaf (57, .goto 34, 60, 0)) (.branch 61 (.leaf (60, .ldc 0, 61, 0)) (.leaf (61, .istore 1, 62, 0)))))) (.branch 72 (.branch 67 (.branch 63 (.leaf (62, .iload 1, 63, 0)) (.branch 64 (.leaf (63, .aload 0, 64, 0)) (.leaf (64, .getfield 708, 67, 941)))) (.branch 70 (.leaf (67, .if_icmp .ge 173, 70, 0)) (.branch 71 (.leaf (70, .ldc 4294967295, 71, 0)) (.leaf (71, .istore 2, 72, 0))))) (.branch 75 (.branch 73 (.leaf (72, .ldc 0, 73, 0)) (.branch 74 (.leaf (73, .istore 3, 74, 0)) (.leaf (74, .iload 3, 75, 0)))) (.branch 79 (.branch 76 (.leaf (75, .aload 0, 76, 0)) (.leaf (76, .getfield 708, 79, 941))) (.branch 82 (.leaf (79, .if_icmp .ge 116, 82, 0)) (.leaf (82, .aload 0, 83, 0)))))))) (.branch 128 (.branch 105 (.branch 95 (.branch 88 (.branch 86 (.leaf (83, .getfield 734, 86, 967)) (.branch 87 (.leaf (86, .iload 3, 87, 0)) (.leaf (87, .baload, 88, 0)))) (.branch 91 (.leaf (88, .ifCond .ne 108, 91, 0)) (.branch 92 (.leaf (91, .iload 2, 92, 0)) (.leaf (92, .ifCond .lt 104, 95, 0))))) (.branch 98 (.branch 96 (.leaf (95, .aload 0, 96, 0)) (.branch 97 (.leaf (96, .iload 3, 97, 0)) (.leaf (97, .iload 2, 98, 0)))) (.branch 101 (.leaf (98, .invokevirtual 174, 101, 1252)) (.branch 104 (.leaf (101, .ifCond .eq 108, 104, 0)) (.leaf (104, .iload 3, 105, 0)))))) (.branch 117 (.branch 110 (.branch 108 (.leaf (105, .goto 109, 108, 0)) (.branch 109 (.leaf (108, .iload 2, 109, 0)) (.leaf (109, .istore 2, 110, 0)))) (.branch 113 (.leaf (110, .iinc 3 1, 113, 0)) (.branch 116 (.leaf (113, .goto 74, 116, 0)) (.leaf (116, .aload 0, 117, 0))))) (.branch 122 (.branch 120 (.leaf (117, .getfield 734, 120, 967)) (.branch 121 (.leaf (120, .iload 2, 121, 0)) (.leaf (121, .ldc 1, 122, 0)))) (.branch 124 (.branch 123 (.leaf (122, .bastore, 123, 0)) (.leaf (123, .aload 0, 124, 0))) (.branch 127 (.leaf (124, .getfield 733, 127, 966)) (.leaf (127, .iload 2, 128, 0))))))) (.branch 147 (.branch 138 (.branch 133 (.branch 129 (.leaf (128, .aload 0, 129, 0)) (.branch 132 (.leaf (129, .getfield 728, 132, 961)) (.leaf (132, .aload 0, 133, 0)))) (.branch 134 (.leaf (133, .iload 2, 134, 0)) (.branch 137 (.leaf (134, .invokevirtual 175, 137, 1256)) (.leaf (137, .iaload, 138, 0))))) (.branch 141 (.branch 139 (.leaf (138, .iastore, 139, 0)) (.branch 140 (.leaf (139, .aload 0, 140, 0)) (.leaf (140, .aload 0, 141, 0)))) (.branch 145 (.branch 144 (.leaf (141, .getfield 733, 144, 966)) (.leaf (144, .iload 2, 145, 0))) (.branch 146 (.leaf (145, .iaload, 146, 0)) (.leaf (146, .ineg, 147, 0)))))) (.branch 159 (.branch 154 (.branch 150 (.leaf (147, .putfield 732, 150, 965)) (.branch 151 (.leaf (150, .aload 0, 151, 0)) (.leaf (151, .getfield 732, 154, 965)))) (.branch 157 (.leaf (154, .ifCond .eq 167, 157, 0)) (.branch 158 (.leaf (157, .aload 0, 158, 0)) (.leaf (158, .iload 2, 159, 0))))) (.branch 164 (.branch 162 (.leaf (159, .invokevirtual 173, 162, 1260)) (.branch 163 (.leaf (162, .aload 0, 163, 0)) (.leaf (163, .ldc 1, 164, 0)))) (.branch 170 (.branch 167 (.leaf (164, .invokevirtual 172, 167, 1244)) (.leaf (167, .iinc 1 1, 170, 0))) (.branch 173 (.leaf (170, .goto 62, 173, 0)) (.leaf (173, .return_, 174, 0)))))))))
set_option maxRecDepth 100000 in
def pg_177 : Lean.RArray sIn := (.branch 30 (.branch 16 (.branch 7 (.branch 2 (.branch 1 (.leaf (0, .ldc 1, 1, 0)) (.leaf (1, .istore 3, 2, 0))) (.branch 3 (.leaf (2, .iload 3, 3, 0)) (.branch 4 (.leaf (3, .aload 0, 4, 0)) (.leaf (4, .getfield 705, 7, 938))))) (.branch 11 (.branch 10 (.leaf (7, .if_icmp .gt 58, 10, 0)) (.leaf (10, .aload 0, 11, 0))) (.branch 14 (.leaf (11, .getfield 729, 14, 962)) (.branch 15 (.leaf (14, .aload 1, 15, 0)) (.leaf (15, .iload 3, 16, 0)))))) (.branch 24 (.branch 18 (.branch 17 (.leaf (16, .iaload, 17, 0)) (.leaf (17, .aload 0, 18, 0))) (.branch 21 (.leaf (18, .getfield 709, 21, 942)) (.branch 23 (.leaf (21, .ldc 6, 23, 0)) (.leaf (23, .iload 2, 24, 0))))) (.branch 27 (.branch 25 (.leaf (24, .imul, 25, 0)) (.branch 26 (.leaf (25, .iload 3, 26, 0)) (.leaf (26, .iadd, 27, 0)))) (.branch 28 (.leaf (27, .ldc 1, 28, 0)) (.branch 29 (.leaf (28, .isub, 29, 0)) (.leaf (29, .iaload, 30, 0))))))) (.branch 46 (.branch 37 (.branch 32 (.branch 31 (.leaf (30, .iastore, 31, 0)) (.leaf (31, .aload 0, 32, 0))) (.branch 35 (.leaf (32, .getfield 730, 35, 963)) (.branch 36 (.leaf (35, .aload 1, 36, 0)) (.leaf (36, .iload 3, 37, 0))))) (.branch 42 (.branch 38 (.leaf (37, .iaload, 38, 0)) (.branch 39 (.leaf (38, .aload 0, 39, 0)) (.leaf (39, .getfield 710, 42, 943)))) (.branch 44 (.leaf (42, .ldc 6, 44, 0)) (.branch 45 (.leaf (44, .iload 2, 45, 0)) (.leaf (45, .imul, 46, 0)))))) (.branch 51 (.branch 48 (.branch 47 (.leaf (46, .iload 3, 47, 0)) (.leaf (47, .iadd, 48, 0))) (.branch 49 (.leaf (48, .ldc 1, 49, 0)) (.branch 50 (.leaf (49, .isub, 50, 0)) (.leaf (50, .iaload, 51, 0))))) (.branch 58 (.branch 52 (.leaf (51, .iastore, 52, 0)) (.branch 55 (.leaf (52, .iinc 3 1, 55, 0)) (.leaf (55, .goto 2, 58, 0)))) (.branch 59 (.leaf (58, .aload 0, 59, 0)) (.branch 62 (.leaf (59, .invokevirtual 176, 62, 1240)) (.leaf (62, .return_, 63, 0))))))))
set_option maxRecDepth 100000 in
def pg_178 : Lean.RArray sIn := (.branch 3 (.branch 1 (.leaf (0, .iload 0, 1, 0)) (.branch 2 (.leaf (1, .i2l, 2, 0)) (.leaf (2, .ldc2_w 0, 3, 0)))) (.branch 6 (.leaf (3, .ldc2_w 3, 6, 1169)) (.branch 9 (.leaf (6, .invokestatic 140, 9, 1146)) (.leaf (9, .ireturn, 10, 0)))))
set_option maxRecDepth 100000 in
def pg_179 : Lean.RArray sIn := (.branch 44 (.branch 21 (.branch 10 (.branch 3 (.branch 1 (.leaf (0, .ldc 1, 1, 0)) (.branch 2 (.leaf (1, .istore 2, 2, 0)) (.leaf (2, .iload 2, 3, 0)))) (.branch 4 (.leaf (3, .aload 0, 4, 0)) (.branch 7 (.leaf (4, .getfield 705, 7, 938)) (.leaf (7, .if_icmp .gt 88, 10, 0))))) (.branch 13 (.branch 11 (.leaf (10, .ldc 0, 11, 0)) (.branch 12 (.leaf (11, .istore 3, 12, 0)) (.leaf (12, .ldc 0, 13, 0)))) (.branch 17 (.branch 15 (.leaf (13, .istore 4, 15, 0)) (.leaf (15, .iload 4, 17, 0))) (.branch 18 (.leaf (17, .aload 0, 18, 0)) (.leaf (18, .getfield 705, 21, 938)))))) (.branch 32 (.branch 28 (.branch 24 (.leaf (21, .if_icmp .ge 75, 24, 0)) (.branch 25 (.leaf (24, .aload 0, 25, 0)) (.leaf (25, .getfield 714, 28, 947)))) (.branch 30 (.leaf (28, .ldc 20, 30, 0)) (.branch 31 (.leaf (30, .iload 1, 31, 0)) (.leaf (31, .imul, 32, 0))))) (.branch 36 (.branch 34 (.leaf (32, .iload 4, 34, 0)) (.branch 35 (.leaf (34, .iadd, 35, 0)) (.leaf (35, .iaload, 36, 0)))) (.branch 40 (.branch 37 (.leaf (36, .iload 2, 37, 0)) (.leaf (37, .if_icmp .ne 69, 40, 0))) (.branch 41 (.leaf (40, .aload 0, 41, 0)) (.leaf (41, .getfield 729, 44, 962))))))) (.branch 65 (.branch 53 (.branch 49 (.branch 45 (.leaf (44, .iload 2, 45, 0)) (.branch 46 (.leaf (45, .aload 0, 46, 0)) (.leaf (46, .getfield 706, 49, 939)))) (.branch 51 (.leaf (49, .iload 4, 51, 0)) (.branch 52 (.leaf (51, .iaload, 52, 0)) (.leaf (52, .iastore, 53, 0))))) (.branch 58 (.branch 54 (.leaf (53, .aload 0, 54, 0)) (.branch 57 (.leaf (54, .getfield 730, 57, 963)) (.leaf (57, .iload 2, 58, 0)))) (.branch 62 (.branch 59 (.leaf (58, .aload 0, 59, 0)) (.leaf (59, .getfield 707, 62, 940))) (.branch 64 (.leaf (62, .iload 4, 64, 0)) (.leaf (64, .iaload, 65, 0)))))) (.branch 77 (.branch 72 (.branch 66 (.leaf (65, .iastore, 66, 0)) (.branch 69 (.leaf (66, .iinc 3 1, 69, 0)) (.leaf (69, .iinc 4 1, 72, 0)))) (.branch 75 (.leaf (72, .goto 15, 75, 0)) (.branch 76 (.leaf (75, .iload 3, 76, 0)) (.leaf (76, .ldc 1, 77, 0))))) (.branch 82 (.branch 80 (.leaf (77, .if_icmp .eq 82, 80, 0)) (.branch 81 (.leaf (80, .ldc 0, 81, 0)) (.leaf (81, .ireturn, 82, 0)))) (.branch 88 (.branch 85 (.leaf (82, .iinc 2 1, 85, 0)) (.leaf (85, .goto 2, 88, 0))) (.branch 89 (.leaf (88, .ldc 1, 89, 0)) (.leaf (89, .ireturn, 90, 0))))))))
set_option maxRecDepth 100000 in
def pg_180 : Lean.RArray sIn := (.branch 81 (.branch 41 (.branch 19 (.branch 9 (.branch 4 (.branch 1 (.leaf (0, .iload 1, 1, 0)) (.leaf (1, .invokestatic 178, 4, 1229))) (.branch 7 (.leaf (4, .ifCond .ne 9, 7, 0)) (.branch 8 (.leaf (7, .ldc 4294967295, 8, 0)) (.leaf (8, .ireturn, 9, 0))))) (.branch 14 (.branch 10 (.leaf (9, .aload 0, 10, 0)) (.branch 13 (.leaf (10, .getfield 712, 13, 945)) (.leaf (13, .iload 1, 14, 0)))) (.branch 15 (.leaf (14, .iaload, 15, 0)) (.branch 16 (.leaf (15, .ldc 2, 16, 0)) (.leaf (16, .if_icmp .eq 36, 19, 0)))))) (.branch 30 (.branch 24 (.branch 20 (.leaf (19, .aload 0, 20, 0)) (.branch 23 (.leaf (20, .getfield 712, 23, 945)) (.leaf (23, .iload 1, 24, 0)))) (.branch 25 (.leaf (24, .iaload, 25, 0)) (.branch 28 (.leaf (25, .ifCond .ne 33, 28, 0)) (.leaf (28, .ldc 4294967285, 30, 0))))) (.branch 36 (.branch 33 (.leaf (30, .goto 35, 33, 0)) (.branch 35 (.leaf (33, .ldc 4294967284, 35, 0)) (.leaf (35, .ireturn, 36, 0)))) (.branch 37 (.leaf (36, .aload 0, 37, 0)) (.branch 40 (.leaf (37, .getfield 713, 40, 946)) (.leaf (40, .iload 1, 41, 0))))))) (.branch 63 (.branch 52 (.branch 46 (.branch 42 (.leaf (41, .iaload, 42, 0)) (.branch 43 (.leaf (42, .aload 0, 43, 0)) (.leaf (43, .getfield 705, 46, 938)))) (.branch 49 (.leaf (46, .if_icmp .ge 52, 49, 0)) (.branch 51 (.leaf (49, .ldc 4294967283, 51, 0)) (.leaf (51, .ireturn, 52, 0))))) (.branch 57 (.branch 53 (.leaf (52, .aload 0, 53, 0)) (.branch 54 (.leaf (53, .iload 1, 54, 0)) (.leaf (54, .invokevirtual 179, 57, 1232)))) (.branch 60 (.leaf (57, .ifCond .ne 63, 60, 0)) (.branch 62 (.leaf (60, .ldc 4294967291, 62, 0)) (.leaf (62, .ireturn, 63, 0)))))) (.branch 73 (.branch 66 (.branch 64 (.leaf (63, .ldc 0, 64, 0)) (.branch 65 (.leaf (64, .istore 2, 65, 0)) (.leaf (65, .iload 2, 66, 0)))) (.branch 67 (.leaf (66, .aload 0, 67, 0)) (.branch 70 (.leaf (67, .getfield 708, 70, 941)) (.leaf (70, .if_icmp .ge 161, 73, 0))))) (.branch 76 (.branch 74 (.leaf (73, .ldc 1, 74, 0)) (.branch 75 (.leaf (74, .istore 3, 75, 0)) (.leaf (75, .ldc 1, 76, 0)))) (.branch 78 (.leaf (76, .istore 4, 78, 0)) (.branch 80 (.leaf (78, .iload 4, 80, 0)) (.leaf (80, .aload 0, 81, 0)))))))) (.branch 122 (.branch 101 (.branch 94 (.branch 88 (.branch 84 (.leaf (81, .getfield 705, 84, 938)) (.branch 87 (.leaf (84, .if_icmp .gt 149, 87, 0)) (.leaf (87, .iload 3, 88, 0)))) (.branch 89 (.leaf (88, .aload 0, 89, 0)) (.branch 92 (.leaf (89, .getfield 709, 92, 942)) (.leaf (92, .ldc 6, 94, 0))))) (.branch 98 (.branch 95 (.leaf (94, .iload 2, 95, 0)) (.branch 96 (.leaf (95, .imul, 96, 0)) (.leaf (96, .iload 4, 98, 0)))) (.branch 99 (.leaf (98, .iadd, 99, 0)) (.branch 100 (.leaf (99, .ldc 1, 100, 0)) (.leaf (100, .isub, 101, 0)))))) (.branch 112 (.branch 106 (.branch 102 (.leaf (101, .iaload, 102, 0)) (.branch 103 (.leaf (102, .aload 0, 103, 0)) (.leaf (103, .getfield 729, 106, 962)))) (.branch 108 (.leaf (106, .iload 4, 108, 0)) (.branch 109 (.leaf (108, .iaload, 109, 0)) (.leaf (109, .if_icmp .ne 140, 112, 0))))) (.branch 118 (.branch 113 (.leaf (112, .aload 0, 113, 0)) (.branch 116 (.leaf (113, .getfield 710, 116, 943)) (.leaf (116, .ldc 6, 118, 0)))) (.branch 119 (.leaf (118, .iload 2, 119, 0)) (.branch 120 (.leaf (119, .imul, 120, 0)) (.leaf (120, .iload 4, 122, 0))))))) (.branch 141 (.branch 130 (.branch 125 (.branch 123 (.leaf (122, .iadd, 123, 0)) (.branch 124 (.leaf (123, .ldc 1, 124, 0)) (.leaf (124, .isub, 125, 0)))) (.branch 126 (.leaf (125, .iaload, 126, 0)) (.branch 127 (.leaf (126, .aload 0, 127, 0)) (.leaf (127, .getfield 730, 130, 963))))) (.branch 136 (.branch 132 (.leaf (130, .iload 4, 132, 0)) (.branch 133 (.leaf (132, .iaload, 133, 0)) (.leaf (133, .if_icmp .ne 140, 136, 0)))) (.branch 137 (.leaf (136, .ldc 1, 137, 0)) (.branch 140 (.leaf (137, .goto 141, 140, 0)) (.leaf (140, .ldc 0, 141, 0)))))) (.branch 153 (.branch 146 (.branch 142 (.leaf (141, .iand, 142, 0)) (.branch 143 (.leaf (142, .istore 3, 143, 0)) (.leaf (143, .iinc 4 1, 146, 0)))) (.branch 149 (.leaf (146, .goto 78, 149, 0)) (.branch 150 (.leaf (149, .iload 3, 150, 0)) (.leaf (150, .ifCond .eq 155, 153, 0))))) (.branch 158 (.branch 154 (.leaf (153, .iload 2, 154, 0)) (.branch 155 (.leaf (154, .ireturn, 155, 0)) (.leaf (155, .iinc 2 1, 158, 0)))) (.branch 161 (.leaf (158, .goto 65, 161, 0)) (.branch 163 (.leaf (161, .ldc 4294967294, 163, 0)) (.leaf (163, .ireturn, 164, 0)))))))))
set_option maxRecDepth 100000 in
def pg_181 : Lean.RArray sIn := (.branch 31 (.branch 16 (.branch 8 (.branch 4 (.branch 1 (.leaf (0, .iload 1, 1, 0)) (.leaf (1, .invokestatic 178, 4, 1229))) (.branch 7 (.leaf (4, .ifCond .eq 46, 7, 0)) (.leaf (7, .aload 0, 8, 0)))) (.branch 12 (.branch 9 (.leaf (8, .iload 2, 9, 0)) (.leaf (9, .invokevirtual 149, 12, 1154))) (.branch 15 (.leaf (12, .ifCond .eq 46, 15, 0)) (.leaf (15, .aload 0, 16, 0))))) (.branch 22 (.branch 20 (.branch 19 (.leaf (16, .getfield 712, 19, 945)) (.leaf (19, .iload 1, 20, 0))) (.branch 21 (.leaf (20, .iaload, 21, 0)) (.leaf (21, .ldc 2, 22, 0)))) (.branch 26 (.branch 25 (.leaf (22, .if_icmp .ne 46, 25, 0)) (.leaf (25, .aload 0, 26, 0))) (.branch 29 (.leaf (26, .getfield 713, 29, 946)) (.branch 30 (.leaf (29, .iload 1, 30, 0)) (.leaf (30, .iaload, 31, 0))))))) (.branch 49 (.branch 39 (.branch 35 (.branch 32 (.leaf (31, .aload 0, 32, 0)) (.leaf (32, .getfield 705, 35, 938))) (.branch 38 (.leaf (35, .if_icmp .lt 46, 38, 0)) (.leaf (38, .aload 0, 39, 0)))) (.branch 43 (.branch 40 (.leaf (39, .iload 1, 40, 0)) (.leaf (40, .invokevirtual 179, 43, 1232))) (.branch 46 (.leaf (43, .ifCond .ne 50, 46, 0)) (.leaf (46, .ldc2_w 9223372036854775808, 49, 1149))))) (.branch 55 (.branch 51 (.branch 50 (.leaf (49, .lreturn, 50, 0)) (.leaf (50, .aload 0, 51, 0))) (.branch 54 (.leaf (51, .invokevirtual 176, 54, 1240)) (.leaf (54, .aload 0, 55, 0)))) (.branch 59 (.branch 58 (.leaf (55, .getfield 733, 58, 966)) (.leaf (58, .iload 2, 59, 0))) (.branch 60 (.leaf (59, .iaload, 60, 0)) (.branch 61 (.leaf (60, .i2l, 61, 0)) (.leaf (61, .lreturn, 62, 0))))))))
set_option maxRecDepth 100000 in
def pg_182 : Lean.RArray sIn := (.branch 27 (.branch 12 (.branch 7 (.branch 1 (.leaf (0, .iload 1, 1, 0)) (.branch 4 (.leaf (1, .invokestatic 155, 4, 1166)) (.leaf (4, .ifCond .eq 23, 7, 0)))) (.branch 8 (.leaf (7, .aload 0, 8, 0)) (.branch 9 (.leaf (8, .iload 2, 9, 0)) (.leaf (9, .invokevirtual 149, 12, 1154))))) (.branch 17 (.branch 15 (.leaf (12, .ifCond .eq 23, 15, 0)) (.branch 16 (.leaf (15, .aload 0, 16, 0)) (.leaf (16, .iload 3, 17, 0)))) (.branch 23 (.branch 20 (.leaf (17, .invokevirtual 149, 20, 1154)) (.leaf (20, .ifCond .ne 27, 23, 0))) (.branch 26 (.leaf (23, .ldc2_w 9223372036854775808, 26, 1149)) (.leaf (26, .lreturn, 27, 0)))))) (.branch 38 (.branch 32 (.branch 28 (.leaf (27, .aload 0, 28, 0)) (.branch 29 (.leaf (28, .iload 1, 29, 0)) (.leaf (29, .invokevirtual 156, 32, 1206)))) (.branch 34 (.branch 33 (.leaf (32, .aload 0, 33, 0)) (.leaf (33, .aload 0, 34, 0))) (.branch 37 (.leaf (34, .getfield 719, 37, 952)) (.leaf (37, .iload 2, 38, 0))))) (.branch 45 (.branch 41 (.leaf (38, .invokevirtual 177, 41, 1268)) (.branch 42 (.leaf (41, .aload 0, 42, 0)) (.leaf (42, .getfield 733, 45, 966)))) (.branch 47 (.branch 46 (.leaf (45, .iload 3, 46, 0)) (.leaf (46, .iaload, 47, 0))) (.branch 48 (.leaf (47, .i2l, 48, 0)) (.leaf (48, .lreturn, 49, 0)))))))
set_option maxRecDepth 100000 in
def pg_183 : Lean.RArray sIn := (.branch 21 (.branch 8 (.branch 3 (.branch 1 (.leaf (0, .ldc2_w 0, 1, 0)) (.branch 2 (.leaf (1, .lstore 2, 2, 0)) (.leaf (2, .ldc 0, 3, 0)))) (.branch 5 (.leaf (3, .istore 4, 5, 0)) (.branch 7 (.leaf (5, .iload 4, 7, 0)) (.leaf (7, .aload 0, 8, 0))))) (.branch 15 (.branch 11 (.leaf (8, .getfield 708, 11, 941)) (.branch 14 (.leaf (11, .if_icmp .ge 38, 14, 0)) (.leaf (14, .aload 0, 15, 0)))) (.branch 16 (.leaf (15, .aload 1, 16, 0)) (.branch 18 (.leaf (16, .iload 4, 18, 0)) (.leaf (18, .invokevirtual 177, 21, 1268)))))) (.branch 30 (.branch 26 (.branch 22 (.leaf (21, .lload 2, 22, 0)) (.branch 23 (.leaf (22, .aload 0, 23, 0)) (.leaf (23, .getfield 733, 26, 966)))) (.branch 28 (.leaf (26, .iload 4, 28, 0)) (.branch 29 (.leaf (28, .iaload, 29, 0)) (.leaf (29, .i2l, 30, 0))))) (.branch 35 (.branch 31 (.leaf (30, .ladd, 31, 0)) (.branch 32 (.leaf (31, .lstore 2, 32, 0)) (.leaf (32, .iinc 4 1, 35, 0)))) (.branch 38 (.leaf (35, .goto 5, 38, 0)) (.branch 39 (.leaf (38, .lload 2, 39, 0)) (.leaf (39, .lreturn, 40, 0)))))))
set_option maxRecDepth 100000 in
def pg_184 : Lean.RArray sIn := (.branch 12 (.branch 7 (.branch 1 (.leaf (0, .iload 1, 1, 0)) (.branch 4 (.leaf (1, .invokestatic 155, 4, 1166)) (.leaf (4, .ifCond .ne 11, 7, 0)))) (.branch 10 (.leaf (7, .ldc2_w 9223372036854775808, 10, 1149)) (.branch 11 (.leaf (10, .lreturn, 11, 0)) (.leaf (11, .aload 0, 12, 0))))) (.branch 17 (.branch 13 (.leaf (12, .iload 1, 13, 0)) (.branch 16 (.leaf (13, .invokevirtual 156, 16, 1206)) (.leaf (16, .aload 0, 17, 0)))) (.branch 21 (.branch 18 (.leaf (17, .aload 0, 18, 0)) (.leaf (18, .getfield 719, 21, 952))) (.branch 24 (.leaf (21, .invokevirtual 183, 24, 1276)) (.leaf (24, .lreturn, 25, 0))))))
set_option maxRecDepth 100000 in
def pg_185 : Lean.RArray sIn := (.branch 54 (.branch 29 (.branch 12 (.branch 6 (.branch 4 (.branch 1 (.leaf (0, .aload 0, 1, 0)) (.leaf (1, .invokevirtual 152, 4, 1133))) (.branch 5 (.leaf (4, .iload 1, 5, 0)) (.leaf (5, .i2l, 6, 0)))) (.branch 8 (.branch 7 (.leaf (6, .ldc2_w 0, 7, 0)) (.leaf (7, .aload 0, 8, 0))) (.branch 11 (.leaf (8, .getfield 718, 11, 951)) (.leaf (11, .ldc 1, 12, 0))))) (.branch 20 (.branch 14 (.branch 13 (.leaf (12, .isub, 13, 0)) (.leaf (13, .i2l, 14, 0))) (.branch 17 (.leaf (14, .invokestatic 140, 17, 1146)) (.leaf (17, .ifCond .ne 24, 20, 0)))) (.branch 24 (.branch 23 (.leaf (20, .ldc2_w 9223372036854775808, 23, 1149)) (.leaf (23, .lreturn, 24, 0))) (.branch 25 (.leaf (24, .aload 0, 25, 0)) (.branch 28 (.leaf (25, .getfield 719, 28, 952)) (.leaf (28, .ldc 0, 29, 0))))))) (.branch 42 (.branch 35 (.branch 33 (.branch 32 (.leaf (29, .invokestatic 143, 32, 934)) (.leaf (32, .ldc 1, 33, 0))) (.branch 34 (.leaf (33, .istore 2, 34, 0)) (.leaf (34, .ldc 0, 35, 0)))) (.branch 37 (.branch 36 (.leaf (35, .istore 3, 36, 0)) (.leaf (36, .iload 3, 37, 0))) (.branch 38 (.leaf (37, .ldc 5, 38, 0)) (.branch 41 (.leaf (38, .if_icmp .ge 108, 41, 0)) (.leaf (41, .aload 0, 42, 0)))))) (.branch 48 (.branch 46 (.branch 45 (.leaf (42, .getfield 716, 45, 949)) (.leaf (45, .ldc 5, 46, 0))) (.branch 47 (.leaf (46, .iload 1, 47, 0)) (.leaf (47, .imul, 48, 0)))) (.branch 50 (.branch 49 (.leaf (48, .iload 3, 49, 0)) (.leaf (49, .iadd, 50, 0))) (.branch 51 (.leaf (50, .iaload, 51, 0)) (.branch 53 (.leaf (51, .istore 4, 53, 0)) (.leaf (53, .ldc 0, 54, 0)))))))) (.branch 85 (.branch 70 (.branch 63 (.branch 58 (.branch 56 (.leaf (54, .istore 5, 56, 0)) (.leaf (56, .iload 5, 58, 0))) (.branch 60 (.leaf (58, .iload 4, 60, 0)) (.leaf (60, .if_icmp .ge 97, 63, 0)))) (.branch 67 (.branch 64 (.leaf (63, .aload 0, 64, 0)) (.leaf (64, .getfield 719, 67, 952))) (.branch 68 (.leaf (67, .iload 2, 68, 0)) (.leaf (68, .iload 5, 70, 0))))) (.branch 76 (.branch 73 (.branch 71 (.leaf (70, .iadd, 71, 0)) (.leaf (71, .iload 5, 73, 0))) (.branch 75 (.leaf (73, .iload 4, 75, 0)) (.leaf (75, .ldc 1, 76, 0)))) (.branch 80 (.branch 77 (.leaf (76, .isub, 77, 0)) (.leaf (77, .if_icmp .ne 84, 80, 0))) (.branch 81 (.leaf (80, .iload 2, 81, 0)) (.branch 84 (.leaf (81, .goto 90, 84, 0)) (.leaf (84, .iload 2, 85, 0))))))) (.branch 100 (.branch 90 (.branch 88 (.branch 87 (.leaf (85, .iload 5, 87, 0)) (.leaf (87, .iadd, 88, 0))) (.branch 89 (.leaf (88, .ldc 1, 89, 0)) (.leaf (89, .iadd, 90, 0)))) (.branch 94 (.branch 91 (.leaf (90, .iastore, 91, 0)) (.leaf (91, .iinc 5 1, 94, 0))) (.branch 97 (.leaf (94, .goto 56, 97, 0)) (.branch 98 (.leaf (97, .iload 2, 98, 0)) (.leaf (98, .iload 4, 100, 0)))))) (.branch 108 (.branch 102 (.branch 101 (.leaf (100, .iadd, 101, 0)) (.leaf (101, .istore 2, 102, 0))) (.branch 105 (.leaf (102, .iinc 3 1, 105, 0)) (.leaf (105, .goto 36, 108, 0)))) (.branch 110 (.branch 109 (.leaf (108, .aload 0, 109, 0)) (.leaf (109, .aload 0, 110, 0))) (.branch 113 (.leaf (110, .getfield 719, 113, 952)) (.branch 116 (.leaf (113, .invokevirtual 183, 116, 1276)) (.leaf (116, .lreturn, 117, 0)))))))))
set_option maxRecDepth 100000 in
def pg_186 : Lean.RArray sIn := (.branch 25 (.branch 12 (.branch 6 (.branch 2 (.branch 1 (.leaf (0, .lload 0, 1, 0)) (.leaf (1, .ldc2_w 0, 2, 0))) (.branch 3 (.leaf (2, .lcmp, 3, 0)) (.leaf (3, .ifCond .ge 11, 6, 0)))) (.branch 8 (.branch 7 (.leaf (6, .lload 0, 7, 0)) (.leaf (7, .lneg, 8, 0))) (.branch 11 (.leaf (8, .goto 12, 11, 0)) (.leaf (11, .lload 0, 12, 0))))) (.branch 17 (.branch 15 (.branch 14 (.leaf (12, .lstore 4, 14, 0)) (.leaf (14, .lload 2, 15, 0))) (.branch 16 (.leaf (15, .ldc2_w 0, 16, 0)) (.leaf (16, .lcmp, 17, 0)))) (.branch 21 (.branch 20 (.leaf (17, .ifCond .ge 25, 20, 0)) (.leaf (20, .lload 2, 21, 0))) (.branch 22 (.leaf (21, .lneg, 22, 0)) (.leaf (22, .goto 26, 25, 0)))))) (.branch 39 (.branch 31 (.branch 28 (.branch 26 (.leaf (25, .lload 2, 26, 0)) (.leaf (26, .lstore 6, 28, 0))) (.branch 30 (.leaf (28, .lload 6, 30, 0)) (.leaf (30, .ldc2_w 0, 31, 0)))) (.branch 35 (.branch 32 (.leaf (31, .lcmp, 32, 0)) (.leaf (32, .ifCond .eq 53, 35, 0))) (.branch 37 (.leaf (35, .lload 4, 37, 0)) (.leaf (37, .lload 6, 39, 0))))) (.branch 46 (.branch 42 (.branch 40 (.leaf (39, .lrem, 40, 0)) (.leaf (40, .lstore 8, 42, 0))) (.branch 44 (.leaf (42, .lload 6, 44, 0)) (.leaf (44, .lstore 4, 46, 0)))) (.branch 50 (.branch 48 (.leaf (46, .lload 8, 48, 0)) (.leaf (48, .lstore 6, 50, 0))) (.branch 53 (.leaf (50, .goto 28, 53, 0)) (.branch 55 (.leaf (53, .lload 4, 55, 0)) (.leaf (55, .lreturn, 56, 0))))))))
set_option maxRecDepth 100000 in
def pg_187 : Lean.RArray sIn := (.branch 26 (.branch 13 (.branch 5 (.branch 1 (.leaf (0, .aload 0, 1, 0)) (.branch 4 (.leaf (1, .getfield 739, 4, 972)) (.leaf (4, .aload 0, 5, 0)))) (.branch 11 (.branch 8 (.leaf (5, .getfield 740, 8, 973)) (.leaf (8, .invokestatic 186, 11, 1315))) (.branch 12 (.leaf (11, .lstore 1, 12, 0)) (.leaf (12, .aload 0, 13, 0))))) (.branch 18 (.branch 16 (.leaf (13, .getfield 740, 16, 973)) (.branch 17 (.leaf (16, .ldc2_w 0, 17, 0)) (.leaf (17, .lcmp, 18, 0)))) (.branch 22 (.branch 21 (.leaf (18, .ifCond .ge 26, 21, 0)) (.leaf (21, .lload 1, 22, 0))) (.branch 23 (.leaf (22, .lneg, 23, 0)) (.leaf (23, .goto 27, 26, 0)))))) (.branch 35 (.branch 29 (.branch 27 (.leaf (26, .lload 1, 27, 0)) (.branch 28 (.leaf (27, .lstore 1, 28, 0)) (.leaf (28, .aload 0, 29, 0)))) (.branch 33 (.branch 30 (.leaf (29, .dup, 30, 0)) (.leaf (30, .getfield 739, 33, 972))) (.branch 34 (.leaf (33, .lload 1, 34, 0)) (.leaf (34, .ldiv, 35, 0))))) (.branch 43 (.branch 39 (.branch 38 (.leaf (35, .instanceof 739, 38, 972)) (.leaf (38, .aload 0, 39, 0))) (.branch 40 (.leaf (39, .dup, 40, 0)) (.leaf (40, .getfield 740, 43, 973)))) (.branch 45 (.branch 44 (.leaf (43, .lload 1, 44, 0)) (.leaf (44, .ldiv, 45, 0))) (.branch 48 (.leaf (45, .instanceof 740, 48, 973)) (.leaf (48, .return_, 49, 0)))))))
set_option maxRecDepth 100000 in
def pg_188 : Lean.RArray sIn := (.branch 14 (.branch 7 (.branch 2 (.branch 1 (.leaf (0, .aload 0, 1, 0)) (.leaf (1, .aload 0, 2, 0))) (.branch 5 (.leaf (2, .getfield 739, 5, 972)) (.branch 6 (.leaf (5, .lload 3, 6, 0)) (.leaf (6, .lmul, 7, 0))))) (.branch 9 (.branch 8 (.leaf (7, .lload 1, 8, 0)) (.leaf (8, .aload 0, 9, 0))) (.branch 12 (.leaf (9, .getfield 740, 12, 973)) (.branch 13 (.leaf (12, .lmul, 13, 0)) (.leaf (13, .ladd, 14, 0)))))) (.branch 23 (.branch 18 (.branch 17 (.leaf (14, .instanceof 739, 17, 972)) (.leaf (17, .aload 0, 18, 0))) (.branch 19 (.leaf (18, .aload 0, 19, 0)) (.branch 22 (.leaf (19, .getfield 740, 22, 973)) (.leaf (22, .lload 3, 23, 0))))) (.branch 27 (.branch 24 (.leaf (23, .lmul, 24, 0)) (.leaf (24, .instanceof 740, 27, 973))) (.branch 28 (.leaf (27, .aload 0, 28, 0)) (.branch 31 (.leaf (28, .invokevirtual 187, 31, 1311)) (.leaf (31, .return_, 32, 0)))))))
set_option maxRecDepth 100000 in
def pg_189 : Lean.RArray sIn := (.branch 14 (.branch 8 (.branch 4 (.branch 1 (.leaf (0, .aload 0, 1, 0)) (.leaf (1, .getfield 710, 4, 943))) (.branch 6 (.leaf (4, .ldc 6, 6, 0)) (.branch 7 (.leaf (6, .iload 1, 7, 0)) (.leaf (7, .imul, 8, 0))))) (.branch 11 (.branch 9 (.leaf (8, .iload 2, 9, 0)) (.branch 10 (.leaf (9, .iadd, 10, 0)) (.leaf (10, .ldc 1, 11, 0)))) (.branch 12 (.leaf (11, .isub, 12, 0)) (.branch 13 (.leaf (12, .iaload, 13, 0)) (.leaf (13, .aload 0, 14, 0)))))) (.branch 22 (.branch 19 (.branch 17 (.leaf (14, .getfield 709, 17, 942)) (.leaf (17, .ldc 6, 19, 0))) (.branch 20 (.leaf (19, .iload 1, 20, 0)) (.branch 21 (.leaf (20, .imul, 21, 0)) (.leaf (21, .iload 2, 22, 0))))) (.branch 25 (.branch 23 (.leaf (22, .iadd, 23, 0)) (.branch 24 (.leaf (23, .ldc 1, 24, 0)) (.leaf (24, .isub, 25, 0)))) (.branch 26 (.leaf (25, .iaload, 26, 0)) (.branch 27 (.leaf (26, .isub, 27, 0)) (.leaf (27, .ireturn, 28, 0)))))))
set_option maxRecDepth 100000 in
def pg_190 : Lean.RArray sIn := (.branch 75 (.branch 39 (.branch 18 (.branch 7 (.branch 2 (.branch 1 (.leaf (0, .ldc 0, 1, 0)) (.leaf (1, .istore 3, 2, 0))) (.branch 3 (.leaf (2, .iload 3, 3, 0)) (.branch 4 (.leaf (3, .aload 0, 4, 0)) (.leaf (4, .getfield 708, 7, 941))))) (.branch 13 (.branch 10 (.leaf (7, .if_icmp .ge 144, 10, 0)) (.branch 11 (.leaf (10, .ldc 1, 11, 0)) (.leaf (11, .istore 4, 13, 0)))) (.branch 14 (.leaf (13, .ldc 1, 14, 0)) (.branch 16 (.leaf (14, .istore 5, 16, 0)) (.leaf (16, .iload 5, 18, 0)))))) (.branch 28 (.branch 22 (.branch 19 (.leaf (18, .aload 0, 19, 0)) (.leaf (19, .getfield 705, 22, 938))) (.branch 25 (.leaf (22, .if_icmp .gt 131, 25, 0)) (.branch 27 (.leaf (25, .iload 5, 27, 0)) (.leaf (27, .iload 2, 28, 0))))) (.branch 33 (.branch 31 (.leaf (28, .if_icmp .ne 37, 31, 0)) (.branch 32 (.leaf (31, .iload 2, 32, 0)) (.leaf (32, .ldc 1, 33, 0)))) (.branch 34 (.leaf (33, .iadd, 34, 0)) (.branch 37 (.leaf (34, .goto 51, 37, 0)) (.leaf (37, .iload 5, 39, 0))))))) (.branch 59 (.branch 46 (.branch 41 (.branch 40 (.leaf (39, .iload 2, 40, 0)) (.leaf (40, .ldc 1, 41, 0))) (.branch 42 (.leaf (41, .iadd, 42, 0)) (.branch 45 (.leaf (42, .if_icmp .ne 49, 45, 0)) (.leaf (45, .iload 2, 46, 0))))) (.branch 53 (.branch 49 (.leaf (46, .goto 51, 49, 0)) (.branch 51 (.leaf (49, .iload 5, 51, 0)) (.leaf (51, .istore 6, 53, 0)))) (.branch 55 (.leaf (53, .iload 4, 55, 0)) (.branch 56 (.leaf (55, .aload 0, 56, 0)) (.leaf (56, .getfield 709, 59, 942)))))) (.branch 66 (.branch 62 (.branch 61 (.leaf (59, .ldc 6, 61, 0)) (.leaf (61, .iload 3, 62, 0))) (.branch 63 (.leaf (62, .imul, 63, 0)) (.branch 65 (.leaf (63, .iload 5, 65, 0)) (.leaf (65, .iadd, 66, 0))))) (.branch 69 (.branch 67 (.leaf (66, .ldc 1, 67, 0)) (.branch 68 (.leaf (67, .isub, 68, 0)) (.leaf (68, .iaload, 69, 0)))) (.branch 70 (.leaf (69, .aload 0, 70, 0)) (.branch 73 (.leaf (70, .getfield 709, 73, 942)) (.leaf (73, .ldc 6, 75, 0)))))))) (.branch 107 (.branch 92 (.branch 81 (.branch 77 (.branch 76 (.leaf (75, .iload 1, 76, 0)) (.leaf (76, .imul, 77, 0))) (.branch 79 (.leaf (77, .iload 6, 79, 0)) (.branch 80 (.leaf (79, .iadd, 80, 0)) (.leaf (80, .ldc 1, 81, 0))))) (.branch 86 (.branch 82 (.leaf (81, .isub, 82, 0)) (.branch 83 (.leaf (82, .iaload, 83, 0)) (.leaf (83, .if_icmp .ne 121, 86, 0)))) (.branch 87 (.leaf (86, .aload 0, 87, 0)) (.branch 90 (.leaf (87, .getfield 710, 90, 943)) (.leaf (90, .ldc 6, 92, 0)))))) (.branch 98 (.branch 94 (.branch 93 (.leaf (92, .iload 3, 93, 0)) (.leaf (93, .imul, 94, 0))) (.branch 96 (.leaf (94, .iload 5, 96, 0)) (.branch 97 (.leaf (96, .iadd, 97, 0)) (.leaf (97, .ldc 1, 98, 0))))) (.branch 101 (.branch 99 (.leaf (98, .isub, 99, 0)) (.branch 100 (.leaf (99, .iaload, 100, 0)) (.leaf (100, .aload 0, 101, 0)))) (.branch 104 (.leaf (101, .getfield 710, 104, 943)) (.branch 106 (.leaf (104, .ldc 6, 106, 0)) (.leaf (106, .iload 1, 107, 0))))))) (.branch 123 (.branch 113 (.branch 110 (.branch 108 (.leaf (107, .imul, 108, 0)) (.leaf (108, .iload 6, 110, 0))) (.branch 111 (.leaf (110, .iadd, 111, 0)) (.branch 112 (.leaf (111, .ldc 1, 112, 0)) (.leaf (112, .isub, 113, 0))))) (.branch 118 (.branch 114 (.leaf (113, .iaload, 114, 0)) (.branch 117 (.leaf (114, .if_icmp .ne 121, 117, 0)) (.leaf (117, .ldc 1, 118, 0)))) (.branch 121 (.leaf (118, .goto 122, 121, 0)) (.branch 122 (.leaf (121, .ldc 0, 122, 0)) (.leaf (122, .iand, 123, 0)))))) (.branch 136 (.branch 128 (.branch 125 (.leaf (123, .istore 4, 125, 0)) (.leaf (125, .iinc 5 1, 128, 0))) (.branch 131 (.leaf (128, .goto 16, 131, 0)) (.branch 133 (.leaf (131, .iload 4, 133, 0)) (.leaf (133, .ifCond .eq 138, 136, 0))))) (.branch 141 (.branch 137 (.leaf (136, .iload 3, 137, 0)) (.branch 138 (.leaf (137, .ireturn, 138, 0)) (.leaf (138, .iinc 3 1, 141, 0)))) (.branch 144 (.leaf (141, .goto 2, 144, 0)) (.branch 145 (.leaf (144, .ldc 4294967295, 145, 0)) (.leaf (145, .ireturn, 146, 0)))))))))
set_option maxRecDepth 100000 in
def pg_191 : Lean.RArray sIn := (.branch 48 (.branch 20 (.branch 9 (.branch 3 (.branch 1 (.leaf (0, .aload 0, 1, 0)) (.branch 2 (.leaf (1, .iload 2, 2, 0)) (.leaf (2, .iload 1, 3, 0)))) (.branch 5 (.branch 4 (.leaf (3, .ldc 1, 4, 0)) (.leaf (4, .iadd, 5, 0))) (.branch 8 (.leaf (5, .invokevirtual 189, 8, 1303)) (.leaf (8, .aload 0, 9, 0))))) (.branch 15 (.branch 11 (.branch 10 (.leaf (9, .iload 2, 10, 0)) (.leaf (10, .iload 1, 11, 0))) (.branch 14 (.leaf (11, .invokevirtual 189, 14, 1303)) (.leaf (14, .isub, 15, 0)))) (.branch 18 (.branch 16 (.leaf (15, .i2l, 16, 0)) (.leaf (16, .lstore 4, 18, 0))) (.branch 19 (.leaf (18, .iload 2, 19, 0)) (.leaf (19, .iload 3, 20, 0)))))) (.branch 34 (.branch 25 (.branch 23 (.leaf (20, .if_icmp .ne 37, 23, 0)) (.branch 24 (.leaf (23, .aload 0, 24, 0)) (.leaf (24, .ldc2_w 1, 25, 0)))) (.branch 29 (.branch 28 (.leaf (25, .instanceof 739, 28, 972)) (.leaf (28, .aload 0, 29, 0))) (.branch 31 (.leaf (29, .lload 4, 31, 0)) (.leaf (31, .instanceof 740, 34, 973))))) (.branch 40 (.branch 38 (.branch 37 (.leaf (34, .goto 98, 37, 0)) (.leaf (37, .aload 0, 38, 0))) (.branch 39 (.leaf (38, .iload 2, 39, 0)) (.leaf (39, .iload 1, 40, 0)))) (.branch 44 (.branch 43 (.leaf (40, .invokevirtual 190, 43, 1307)) (.leaf (43, .iload 3, 44, 0))) (.branch 47 (.leaf (44, .if_icmp .ne 88, 47, 0)) (.leaf (47, .aload 0, 48, 0))))))) (.branch 73 (.branch 61 (.branch 53 (.branch 49 (.leaf (48, .iload 2, 49, 0)) (.branch 50 (.leaf (49, .iload 3, 50, 0)) (.leaf (50, .if_icmp .ge 57, 53, 0)))) (.branch 57 (.branch 54 (.leaf (53, .ldc2_w 1, 54, 0)) (.leaf (54, .goto 64, 57, 0))) (.branch 59 (.leaf (57, .lload 4, 59, 0)) (.leaf (59, .lload 4, 61, 0))))) (.branch 67 (.branch 63 (.branch 62 (.leaf (61, .lmul, 62, 0)) (.leaf (62, .ldc2_w 1, 63, 0))) (.branch 64 (.leaf (63, .lsub, 64, 0)) (.leaf (64, .instanceof 739, 67, 972)))) (.branch 69 (.branch 68 (.leaf (67, .aload 0, 68, 0)) (.leaf (68, .iload 2, 69, 0))) (.branch 70 (.leaf (69, .iload 3, 70, 0)) (.leaf (70, .if_icmp .ge 77, 73, 0)))))) (.branch 89 (.branch 81 (.branch 77 (.branch 74 (.leaf (73, .ldc2_w 1, 74, 0)) (.leaf (74, .goto 82, 77, 0))) (.branch 79 (.leaf (77, .lload 4, 79, 0)) (.leaf (79, .lload 4, 81, 0)))) (.branch 85 (.branch 82 (.leaf (81, .lmul, 82, 0)) (.leaf (82, .instanceof 740, 85, 973))) (.branch 88 (.leaf (85, .goto 98, 88, 0)) (.leaf (88, .aload 0, 89, 0))))) (.branch 95 (.branch 93 (.branch 90 (.leaf (89, .ldc2_w 0, 90, 0)) (.leaf (90, .instanceof 739, 93, 972))) (.branch 94 (.leaf (93, .aload 0, 94, 0)) (.leaf (94, .ldc2_w 1, 95, 0)))) (.branch 99 (.branch 98 (.leaf (95, .instanceof 740, 98, 973)) (.leaf (98, .aload 0, 99, 0))) (.branch 102 (.leaf (99, .invokevirtual 187, 102, 1311)) (.leaf (102, .return_, 103, 0))))))))
set_option maxRecDepth 100000 in
def pg_192 : Lean.RArray sIn := (.branch 81 (.branch 37 (.branch 18 (.branch 8 (.branch 5 (.branch 1 (.leaf (0, .aload 0, 1, 0)) (.branch 2 (.leaf (1, .aload 1, 2, 0)) (.leaf (2, .invokevirtual 169, 5, 1218)))) (.branch 6 (.leaf (5, .ldc 0, 6, 0)) (.branch 7 (.leaf (6, .istore 2, 7, 0)) (.leaf (7, .iload 2, 8, 0))))) (.branch 15 (.branch 9 (.leaf (8, .aload 0, 9, 0)) (.branch 12 (.leaf (9, .getfield 708, 12, 941)) (.leaf (12, .if_icmp .ge 70, 15, 0)))) (.branch 16 (.leaf (15, .ldc 0, 16, 0)) (.branch 17 (.leaf (16, .istore 3, 17, 0)) (.leaf (17, .iload 3, 18, 0)))))) (.branch 31 (.branch 25 (.branch 19 (.leaf (18, .aload 0, 19, 0)) (.branch 22 (.leaf (19, .getfield 708, 22, 941)) (.leaf (22, .if_icmp .ge 64, 25, 0)))) (.branch 26 (.leaf (25, .aload 0, 26, 0)) (.branch 29 (.leaf (26, .getfield 735, 29, 968)) (.leaf (29, .ldc 6, 31, 0))))) (.branch 34 (.branch 32 (.leaf (31, .iload 2, 32, 0)) (.branch 33 (.leaf (32, .imul, 33, 0)) (.leaf (33, .iload 3, 34, 0)))) (.branch 35 (.leaf (34, .iadd, 35, 0)) (.branch 36 (.leaf (35, .iload 2, 36, 0)) (.leaf (36, .iload 3, 37, 0))))))) (.branch 56 (.branch 47 (.branch 44 (.branch 40 (.leaf (37, .if_icmp .ne 44, 40, 0)) (.branch 41 (.leaf (40, .ldc2_w 1, 41, 0)) (.leaf (41, .goto 45, 44, 0)))) (.branch 45 (.leaf (44, .ldc2_w 0, 45, 0)) (.branch 46 (.leaf (45, .lastore, 46, 0)) (.leaf (46, .aload 0, 47, 0))))) (.branch 53 (.branch 50 (.leaf (47, .getfield 736, 50, 969)) (.branch 52 (.leaf (50, .ldc 6, 52, 0)) (.leaf (52, .iload 2, 53, 0)))) (.branch 54 (.leaf (53, .imul, 54, 0)) (.branch 55 (.leaf (54, .iload 3, 55, 0)) (.leaf (55, .iadd, 56, 0)))))) (.branch 70 (.branch 61 (.branch 57 (.leaf (56, .ldc2_w 1, 57, 0)) (.branch 58 (.leaf (57, .lastore, 58, 0)) (.leaf (58, .iinc 3 1, 61, 0)))) (.branch 64 (.leaf (61, .goto 17, 64, 0)) (.branch 67 (.leaf (64, .iinc 2 1, 67, 0)) (.leaf (67, .goto 7, 70, 0))))) (.branch 75 (.branch 71 (.leaf (70, .aload 0, 71, 0)) (.branch 74 (.leaf (71, .getfield 726, 74, 959)) (.leaf (74, .ldc 1, 75, 0)))) (.branch 77 (.branch 76 (.leaf (75, .isub, 76, 0)) (.leaf (76, .istore 2, 77, 0))) (.branch 78 (.leaf (77, .iload 2, 78, 0)) (.leaf (78, .ifCond .lt 172, 81, 0)))))))) (.branch 129 (.branch 103 (.branch 91 (.branch 84 (.branch 82 (.leaf (81, .ldc 0, 82, 0)) (.branch 83 (.leaf (82, .istore 3, 83, 0)) (.leaf (83, .iload 3, 84, 0)))) (.branch 85 (.leaf (84, .aload 0, 85, 0)) (.branch 88 (.leaf (85, .getfield 708, 88, 941)) (.leaf (88, .if_icmp .ge 128, 91, 0))))) (.branch 96 (.branch 92 (.leaf (91, .ldc 0, 92, 0)) (.branch 94 (.leaf (92, .istore 4, 94, 0)) (.leaf (94, .iload 4, 96, 0)))) (.branch 97 (.leaf (96, .aload 0, 97, 0)) (.branch 100 (.leaf (97, .getfield 708, 100, 941)) (.leaf (100, .if_icmp .ge 122, 103, 0)))))) (.branch 111 (.branch 108 (.branch 104 (.leaf (103, .aload 0, 104, 0)) (.branch 105 (.leaf (104, .aload 0, 105, 0)) (.leaf (105, .getfield 725, 108, 958)))) (.branch 109 (.leaf (108, .iload 2, 109, 0)) (.branch 110 (.leaf (109, .iaload, 110, 0)) (.leaf (110, .iload 3, 111, 0))))) (.branch 119 (.branch 113 (.leaf (111, .iload 4, 113, 0)) (.branch 116 (.leaf (113, .invokevirtual 193, 116, 1295)) (.leaf (116, .iinc 4 1, 119, 0)))) (.branch 125 (.branch 122 (.leaf (119, .goto 94, 122, 0)) (.leaf (122, .iinc 3 1, 125, 0))) (.branch 128 (.leaf (125, .goto 83, 128, 0)) (.leaf (128, .ldc 0, 129, 0))))))) (.branch 148 (.branch 140 (.branch 133 (.branch 130 (.leaf (129, .istore 3, 130, 0)) (.branch 131 (.leaf (130, .iload 3, 131, 0)) (.leaf (131, .ldc 36, 133, 0)))) (.branch 136 (.leaf (133, .if_icmp .ge 166, 136, 0)) (.branch 137 (.leaf (136, .aload 0, 137, 0)) (.leaf (137, .getfield 735, 140, 968))))) (.branch 145 (.branch 141 (.leaf (140, .iload 3, 141, 0)) (.branch 142 (.leaf (141, .aload 0, 142, 0)) (.leaf (142, .getfield 737, 145, 970)))) (.branch 146 (.leaf (145, .iload 3, 146, 0)) (.branch 147 (.leaf (146, .laload, 147, 0)) (.leaf (147, .lastore, 148, 0)))))) (.branch 158 (.branch 153 (.branch 149 (.leaf (148, .aload 0, 149, 0)) (.branch 152 (.leaf (149, .getfield 736, 152, 969)) (.leaf (152, .iload 3, 153, 0)))) (.branch 154 (.leaf (153, .aload 0, 154, 0)) (.branch 157 (.leaf (154, .getfield 738, 157, 971)) (.leaf (157, .iload 3, 158, 0))))) (.branch 163 (.branch 159 (.leaf (158, .laload, 159, 0)) (.branch 160 (.leaf (159, .lastore, 160, 0)) (.leaf (160, .iinc 3 1, 163, 0)))) (.branch 169 (.branch 166 (.leaf (163, .goto 130, 166, 0)) (.leaf (166, .iinc 2 4294967295, 169, 0))) (.branch 172 (.leaf (169, .goto 77, 172, 0)) (.leaf (172, .return_, 173, 0)))))))))
set_option maxRecDepth 100000 in
def pg_193 : Lean.RArray sIn := (.branch 72 (.branch 35 (.branch 18 (.branch 7 (.branch 3 (.branch 1 (.leaf (0, .ldc2_w 0, 1, 0)) (.leaf (1, .lstore 4, 3, 0))) (.branch 4 (.leaf (3, .ldc2_w 1, 4, 0)) (.branch 6 (.leaf (4, .lstore 6, 6, 0)) (.leaf (6, .ldc 0, 7, 0))))) (.branch 11 (.branch 9 (.leaf (7, .istore 8, 9, 0)) (.leaf (9, .iload 8, 11, 0))) (.branch 12 (.leaf (11, .aload 0, 12, 0)) (.branch 15 (.leaf (12, .getfield 708, 15, 941)) (.leaf (15, .if_icmp .ge 119, 18, 0)))))) (.branch 26 (.branch 22 (.branch 19 (.leaf (18, .aload 0, 19, 0)) (.leaf (19, .getfield 735, 22, 968))) (.branch 24 (.leaf (22, .ldc 6, 24, 0)) (.branch 25 (.leaf (24, .iload 2, 25, 0)) (.leaf (25, .imul, 26, 0))))) (.branch 30 (.branch 28 (.leaf (26, .iload 8, 28, 0)) (.branch 29 (.leaf (28, .iadd, 29, 0)) (.leaf (29, .laload, 30, 0)))) (.branch 31 (.leaf (30, .ldc2_w 0, 31, 0)) (.branch 32 (.leaf (31, .lcmp, 32, 0)) (.leaf (32, .ifCond .eq 113, 35, 0))))))) (.branch 54 (.branch 43 (.branch 37 (.branch 36 (.leaf (35, .aload 0, 36, 0)) (.leaf (36, .iload 1, 37, 0))) (.branch 39 (.leaf (37, .iload 8, 39, 0)) (.branch 40 (.leaf (39, .iload 3, 40, 0)) (.leaf (40, .invokevirtual 191, 43, 1299))))) (.branch 48 (.branch 44 (.leaf (43, .aload 0, 44, 0)) (.branch 47 (.leaf (44, .getfield 739, 47, 972)) (.leaf (47, .aload 0, 48, 0)))) (.branch 51 (.leaf (48, .getfield 735, 51, 968)) (.branch 53 (.leaf (51, .ldc 6, 53, 0)) (.leaf (53, .iload 2, 54, 0)))))) (.branch 60 (.branch 57 (.branch 55 (.leaf (54, .imul, 55, 0)) (.leaf (55, .iload 8, 57, 0))) (.branch 58 (.leaf (57, .iadd, 58, 0)) (.branch 59 (.leaf (58, .laload, 59, 0)) (.leaf (59, .lmul, 60, 0))))) (.branch 66 (.branch 62 (.leaf (60, .lstore 9, 62, 0)) (.branch 63 (.leaf (62, .aload 0, 63, 0)) (.leaf (63, .getfield 740, 66, 973)))) (.branch 67 (.leaf (66, .aload 0, 67, 0)) (.branch 70 (.leaf (67, .getfield 736, 70, 969)) (.leaf (70, .ldc 6, 72, 0)))))))) (.branch 111 (.branch 88 (.branch 78 (.branch 74 (.branch 73 (.leaf (72, .iload 2, 73, 0)) (.leaf (73, .imul, 74, 0))) (.branch 76 (.leaf (74, .iload 8, 76, 0)) (.branch 77 (.leaf (76, .iadd, 77, 0)) (.leaf (77, .laload, 78, 0))))) (.branch 82 (.branch 79 (.leaf (78, .lmul, 79, 0)) (.branch 81 (.leaf (79, .lstore 11, 81, 0)) (.leaf (81, .aload 0, 82, 0)))) (.branch 84 (.leaf (82, .lload 4, 84, 0)) (.branch 87 (.leaf (84, .instanceof 739, 87, 972)) (.leaf (87, .aload 0, 88, 0)))))) (.branch 98 (.branch 93 (.branch 90 (.leaf (88, .lload 6, 90, 0)) (.leaf (90, .instanceof 740, 93, 973))) (.branch 94 (.leaf (93, .aload 0, 94, 0)) (.branch 96 (.leaf (94, .lload 9, 96, 0)) (.leaf (96, .lload 11, 98, 0))))) (.branch 105 (.branch 101 (.leaf (98, .invokevirtual 188, 101, 1318)) (.branch 102 (.leaf (101, .aload 0, 102, 0)) (.leaf (102, .getfield 739, 105, 972)))) (.branch 107 (.leaf (105, .lstore 4, 107, 0)) (.branch 108 (.leaf (107, .aload 0, 108, 0)) (.leaf (108, .getfield 740, 111, 973))))))) (.branch 131 (.branch 123 (.branch 116 (.branch 113 (.leaf (111, .lstore 6, 113, 0)) (.leaf (113, .iinc 8 1, 116, 0))) (.branch 119 (.leaf (116, .goto 9, 119, 0)) (.branch 120 (.leaf (119, .aload 0, 120, 0)) (.leaf (120, .getfield 737, 123, 970))))) (.branch 127 (.branch 125 (.leaf (123, .ldc 6, 125, 0)) (.branch 126 (.leaf (125, .iload 2, 126, 0)) (.leaf (126, .imul, 127, 0)))) (.branch 128 (.leaf (127, .iload 3, 128, 0)) (.branch 129 (.leaf (128, .iadd, 129, 0)) (.leaf (129, .lload 4, 131, 0)))))) (.branch 139 (.branch 133 (.branch 132 (.leaf (131, .lastore, 132, 0)) (.leaf (132, .aload 0, 133, 0))) (.branch 136 (.leaf (133, .getfield 738, 136, 971)) (.branch 138 (.leaf (136, .ldc 6, 138, 0)) (.leaf (138, .iload 2, 139, 0))))) (.branch 142 (.branch 140 (.leaf (139, .imul, 140, 0)) (.branch 141 (.leaf (140, .iload 3, 141, 0)) (.leaf (141, .iadd, 142, 0)))) (.branch 144 (.leaf (142, .lload 6, 144, 0)) (.branch 145 (.leaf (144, .lastore, 145, 0)) (.leaf (145, .return_, 146, 0)))))))))
set_option maxRecDepth 100000 in
def pg_194 : Lean.RArray sIn := (.branch 3 (.branch 1 (.leaf (0, .iload 0, 1, 0)) (.branch 2 (.leaf (1, .i2l, 2, 0)) (.leaf (2, .ldc2_w 0, 3, 0)))) (.branch 4 (.leaf (3, .ldc2_w 1, 4, 0)) (.branch 7 (.leaf (4, .invokestatic 140, 7, 1146)) (.leaf (7, .ireturn, 8, 0)))))
set_option maxRecDepth 100000 in
def pg_195 : Lean.RArray sIn := (.branch 42 (.branch 20 (.branch 9 (.branch 4 (.branch 1 (.leaf (0, .iload 1, 1, 0)) (.leaf (1, .invokestatic 155, 4, 1166))) (.branch 7 (.leaf (4, .ifCond .eq 31, 7, 0)) (.branch 8 (.leaf (7, .aload 0, 8, 0)) (.leaf (8, .iload 2, 9, 0))))) (.branch 15 (.branch 12 (.leaf (9, .invokevirtual 149, 12, 1154)) (.leaf (12, .ifCond .eq 31, 15, 0))) (.branch 16 (.leaf (15, .aload 0, 16, 0)) (.branch 17 (.leaf (16, .iload 3, 17, 0)) (.leaf (17, .invokevirtual 149, 20, 1154)))))) (.branch 34 (.branch 25 (.branch 23 (.leaf (20, .ifCond .eq 31, 23, 0)) (.leaf (23, .iload 4, 25, 0))) (.branch 28 (.leaf (25, .invokestatic 194, 28, 1288)) (.branch 31 (.leaf (28, .ifCond .ne 35, 31, 0)) (.leaf (31, .ldc2_w 9223372036854775808, 34, 1149))))) (.branch 37 (.branch 35 (.leaf (34, .lreturn, 35, 0)) (.branch 36 (.leaf (35, .aload 0, 36, 0)) (.leaf (36, .iload 1, 37, 0)))) (.branch 40 (.leaf (37, .invokevirtual 156, 40, 1206)) (.branch 41 (.leaf (40, .aload 0, 41, 0)) (.leaf (41, .aload 0, 42, 0))))))) (.branch 63 (.branch 54 (.branch 48 (.branch 45 (.leaf (42, .getfield 719, 45, 952)) (.leaf (45, .invokevirtual 192, 48, 1291))) (.branch 50 (.leaf (48, .iload 4, 50, 0)) (.branch 53 (.leaf (50, .ifCond .ne 67, 53, 0)) (.leaf (53, .aload 0, 54, 0))))) (.branch 60 (.branch 57 (.leaf (54, .getfield 735, 57, 968)) (.branch 59 (.leaf (57, .ldc 6, 59, 0)) (.leaf (59, .iload 2, 60, 0)))) (.branch 61 (.leaf (60, .imul, 61, 0)) (.branch 62 (.leaf (61, .iload 3, 62, 0)) (.leaf (62, .iadd, 63, 0)))))) (.branch 73 (.branch 67 (.branch 64 (.leaf (63, .laload, 64, 0)) (.leaf (64, .goto 78, 67, 0))) (.branch 68 (.leaf (67, .aload 0, 68, 0)) (.branch 71 (.leaf (68, .getfield 736, 71, 969)) (.leaf (71, .ldc 6, 73, 0))))) (.branch 76 (.branch 74 (.leaf (73, .iload 2, 74, 0)) (.branch 75 (.leaf (74, .imul, 75, 0)) (.leaf (75, .iload 3, 76, 0)))) (.branch 77 (.leaf (76, .iadd, 77, 0)) (.branch 78 (.leaf (77, .laload, 78, 0)) (.leaf (78, .lreturn, 79, 0))))))))
set_option maxRecDepth 100000 in
def pg_196 : Lean.RArray sIn := (.branch 65 (.branch 31 (.branch 14 (.branch 7 (.branch 4 (.branch 1 (.leaf (0, .aload 0, 1, 0)) (.leaf (1, .getfield 741, 4, 974))) (.branch 5 (.leaf (4, .ldc 0, 5, 0)) (.branch 6 (.leaf (5, .ldc2_w 1, 6, 0)) (.leaf (6, .lastore, 7, 0))))) (.branch 11 (.branch 8 (.leaf (7, .aload 0, 8, 0)) (.leaf (8, .getfield 742, 11, 975))) (.branch 12 (.leaf (11, .ldc 0, 12, 0)) (.branch 13 (.leaf (12, .ldc2_w 1, 13, 0)) (.leaf (13, .lastore, 14, 0)))))) (.branch 21 (.branch 16 (.branch 15 (.leaf (14, .ldc 1, 15, 0)) (.leaf (15, .istore 1, 16, 0))) (.branch 17 (.leaf (16, .iload 1, 17, 0)) (.branch 18 (.leaf (17, .aload 0, 18, 0)) (.leaf (18, .getfield 708, 21, 941))))) (.branch 26 (.branch 24 (.leaf (21, .if_icmp .ge 138, 24, 0)) (.branch 25 (.leaf (24, .ldc 1, 25, 0)) (.leaf (25, .istore 2, 26, 0)))) (.branch 27 (.leaf (26, .iload 2, 27, 0)) (.branch 28 (.leaf (27, .aload 0, 28, 0)) (.leaf (28, .getfield 705, 31, 938))))))) (.branch 50 (.branch 40 (.branch 35 (.branch 34 (.leaf (31, .if_icmp .ge 132, 34, 0)) (.leaf (34, .aload 0, 35, 0))) (.branch 36 (.leaf (35, .iload 1, 36, 0)) (.branch 37 (.leaf (36, .iload 2, 37, 0)) (.leaf (37, .invokevirtual 190, 40, 1307))))) (.branch 45 (.branch 41 (.leaf (40, .istore 3, 41, 0)) (.branch 42 (.leaf (41, .iload 3, 42, 0)) (.leaf (42, .ifCond .lt 126, 45, 0)))) (.branch 46 (.leaf (45, .iload 3, 46, 0)) (.branch 47 (.leaf (46, .iload 1, 47, 0)) (.leaf (47, .if_icmp .ge 126, 50, 0)))))) (.branch 55 (.branch 52 (.branch 51 (.leaf (50, .aload 0, 51, 0)) (.leaf (51, .iload 3, 52, 0))) (.branch 53 (.leaf (52, .iload 2, 53, 0)) (.branch 54 (.leaf (53, .ldc 1, 54, 0)) (.leaf (54, .iadd, 55, 0))))) (.branch 60 (.branch 58 (.leaf (55, .invokevirtual 189, 58, 1303)) (.branch 59 (.leaf (58, .aload 0, 59, 0)) (.leaf (59, .iload 3, 60, 0)))) (.branch 61 (.leaf (60, .iload 2, 61, 0)) (.branch 64 (.leaf (61, .invokevirtual 189, 64, 1303)) (.leaf (64, .isub, 65, 0)))))))) (.branch 96 (.branch 80 (.branch 73 (.branch 68 (.branch 66 (.leaf (65, .i2l, 66, 0)) (.leaf (66, .lstore 4, 68, 0))) (.branch 69 (.leaf (68, .aload 0, 69, 0)) (.branch 70 (.leaf (69, .aload 0, 70, 0)) (.leaf (70, .getfield 741, 73, 974))))) (.branch 75 (.branch 74 (.leaf (73, .iload 3, 74, 0)) (.leaf (74, .laload, 75, 0))) (.branch 77 (.leaf (75, .lload 4, 77, 0)) (.branch 79 (.leaf (77, .lload 4, 79, 0)) (.leaf (79, .lmul, 80, 0)))))) (.branch 87 (.branch 82 (.branch 81 (.leaf (80, .ldc2_w 1, 81, 0)) (.leaf (81, .lsub, 82, 0))) (.branch 83 (.leaf (82, .lmul, 83, 0)) (.branch 86 (.leaf (83, .instanceof 739, 86, 972)) (.leaf (86, .aload 0, 87, 0))))) (.branch 92 (.branch 88 (.leaf (87, .aload 0, 88, 0)) (.branch 91 (.leaf (88, .getfield 742, 91, 975)) (.leaf (91, .iload 3, 92, 0)))) (.branch 93 (.leaf (92, .laload, 93, 0)) (.branch 95 (.leaf (93, .lload 4, 95, 0)) (.leaf (95, .lmul, 96, 0))))))) (.branch 116 (.branch 106 (.branch 99 (.branch 98 (.leaf (96, .lload 4, 98, 0)) (.leaf (98, .lmul, 99, 0))) (.branch 102 (.leaf (99, .instanceof 740, 102, 973)) (.branch 103 (.leaf (102, .aload 0, 103, 0)) (.leaf (103, .invokevirtual 187, 106, 1311))))) (.branch 111 (.branch 107 (.leaf (106, .aload 0, 107, 0)) (.branch 110 (.leaf (107, .getfield 741, 110, 974)) (.leaf (110, .iload 1, 111, 0)))) (.branch 112 (.leaf (111, .aload 0, 112, 0)) (.branch 115 (.leaf (112, .getfield 739, 115, 972)) (.leaf (115, .lastore, 116, 0)))))) (.branch 125 (.branch 120 (.branch 117 (.leaf (116, .aload 0, 117, 0)) (.leaf (117, .getfield 742, 120, 975))) (.branch 121 (.leaf (120, .iload 1, 121, 0)) (.branch 122 (.leaf (121, .aload 0, 122, 0)) (.leaf (122, .getfield 740, 125, 973))))) (.branch 132 (.branch 126 (.leaf (125, .lastore, 126, 0)) (.branch 129 (.leaf (126, .iinc 2 1, 129, 0)) (.leaf (129, .goto 26, 132, 0)))) (.branch 135 (.leaf (132, .iinc 1 1, 135, 0)) (.branch 138 (.leaf (135, .goto 16, 138, 0)) (.leaf (138, .return_, 139, 0)))))))))
set_option maxRecDepth 100000 in
def pg_197 : Lean.RArray sIn := (.branch 23 (.branch 9 (.branch 2 (.branch 1 (.leaf (0, .aload 0, 1, 0)) (.leaf (1, .iload 1, 2, 0))) (.branch 5 (.leaf (2, .invokevirtual 149, 5, 1154)) (.branch 8 (.leaf (5, .ifCond .eq 15, 8, 0)) (.leaf (8, .iload 2, 9, 0))))) (.branch 18 (.branch 12 (.leaf (9, .invokestatic 194, 12, 1288)) (.branch 15 (.leaf (12, .ifCond .ne 19, 15, 0)) (.leaf (15, .ldc2_w 9223372036854775808, 18, 1149)))) (.branch 19 (.leaf (18, .lreturn, 19, 0)) (.branch 20 (.leaf (19, .aload 0, 20, 0)) (.leaf (20, .invokevirtual 196, 23, 1326)))))) (.branch 33 (.branch 28 (.branch 24 (.leaf (23, .iload 2, 24, 0)) (.branch 27 (.leaf (24, .ifCond .ne 36, 27, 0)) (.leaf (27, .aload 0, 28, 0)))) (.branch 31 (.leaf (28, .getfield 741, 31, 974)) (.branch 32 (.leaf (31, .iload 1, 32, 0)) (.leaf (32, .laload, 33, 0))))) (.branch 40 (.branch 36 (.leaf (33, .goto 42, 36, 0)) (.branch 37 (.leaf (36, .aload 0, 37, 0)) (.leaf (37, .getfield 742, 40, 975)))) (.branch 41 (.leaf (40, .iload 1, 41, 0)) (.branch 42 (.leaf (41, .laload, 42, 0)) (.leaf (42, .lreturn, 43, 0)))))))
set_option maxRecDepth 100000 in
def pg_198 : Lean.RArray sIn := (.branch 16 (.branch 9 (.branch 4 (.branch 1 (.leaf (0, .aload 0, 1, 0)) (.leaf (1, .getfield 704, 4, 937))) (.branch 5 (.leaf (4, .iload 1, 5, 0)) (.branch 6 (.leaf (5, .iaload, 6, 0)) (.leaf (6, .ifCond .le 30, 9, 0))))) (.branch 13 (.branch 10 (.leaf (9, .aload 0, 10, 0)) (.leaf (10, .getfield 704, 13, 937))) (.branch 14 (.leaf (13, .iload 1, 14, 0)) (.branch 15 (.leaf (14, .iaload, 15, 0)) (.leaf (15, .aload 0, 16, 0)))))) (.branch 23 (.branch 20 (.branch 19 (.leaf (16, .getfield 704, 19, 937)) (.leaf (19, .iload 1, 20, 0))) (.branch 21 (.leaf (20, .ldc 1, 21, 0)) (.branch 22 (.leaf (21, .iadd, 22, 0)) (.leaf (22, .iaload, 23, 0))))) (.branch 27 (.branch 26 (.leaf (23, .if_icmp .le 30, 26, 0)) (.leaf (26, .ldc 1, 27, 0))) (.branch 30 (.leaf (27, .goto 31, 30, 0)) (.branch 31 (.leaf (30, .ldc 0, 31, 0)) (.leaf (31, .ireturn, 32, 0)))))))
set_option maxRecDepth 100000 in
def pg_199 : Lean.RArray sIn := (.branch 57 (.branch 26 (.branch 11 (.branch 4 (.branch 2 (.branch 1 (.leaf (0, .ldc 0, 1, 0)) (.leaf (1, .istore 2, 2, 0))) (.branch 3 (.leaf (2, .ldc 0, 3, 0)) (.leaf (3, .istore 3, 4, 0)))) (.branch 6 (.branch 5 (.leaf (4, .iload 3, 5, 0)) (.leaf (5, .ldc 5, 6, 0))) (.branch 9 (.leaf (6, .if_icmp .ge 33, 9, 0)) (.branch 10 (.leaf (9, .iload 2, 10, 0)) (.leaf (10, .aload 0, 11, 0)))))) (.branch 19 (.branch 15 (.branch 12 (.leaf (11, .iload 3, 12, 0)) (.leaf (12, .invokevirtual 198, 15, 1334))) (.branch 18 (.leaf (15, .ifCond .eq 24, 18, 0)) (.leaf (18, .ldc 1, 19, 0)))) (.branch 21 (.branch 20 (.leaf (19, .iload 3, 20, 0)) (.leaf (20, .ishl, 21, 0))) (.branch 24 (.leaf (21, .goto 25, 24, 0)) (.branch 25 (.leaf (24, .ldc 0, 25, 0)) (.leaf (25, .ior, 26, 0))))))) (.branch 41 (.branch 34 (.branch 30 (.branch 27 (.leaf (26, .istore 2, 27, 0)) (.leaf (27, .iinc 3 1, 30, 0))) (.branch 33 (.leaf (30, .goto 4, 33, 0)) (.leaf (33, .iload 1, 34, 0)))) (.branch 38 (.branch 35 (.leaf (34, .ldc 4294967295, 35, 0)) (.leaf (35, .if_icmp .ne 40, 38, 0))) (.branch 39 (.leaf (38, .iload 2, 39, 0)) (.branch 40 (.leaf (39, .ireturn, 40, 0)) (.leaf (40, .iload 1, 41, 0)))))) (.branch 48 (.branch 43 (.branch 42 (.leaf (41, .i2l, 42, 0)) (.leaf (42, .ldc2_w 0, 43, 0))) (.branch 44 (.leaf (43, .aload 0, 44, 0)) (.branch 47 (.leaf (44, .invokevirtual 146, 47, 1125)) (.leaf (47, .ldc 1, 48, 0))))) (.branch 50 (.branch 49 (.leaf (48, .isub, 49, 0)) (.leaf (49, .i2l, 50, 0))) (.branch 53 (.leaf (50, .invokestatic 140, 53, 1146)) (.branch 56 (.leaf (53, .ifCond .ne 58, 56, 0)) (.leaf (56, .ldc 4294967295, 57, 0)))))))) (.branch 88 (.branch 72 (.branch 61 (.branch 59 (.branch 58 (.leaf (57, .ireturn, 58, 0)) (.leaf (58, .ldc 0, 59, 0))) (.branch 60 (.leaf (59, .istore 3, 60, 0)) (.leaf (60, .ldc 0, 61, 0)))) (.branch 65 (.branch 63 (.leaf (61, .istore 4, 63, 0)) (.leaf (63, .iload 4, 65, 0))) (.branch 66 (.leaf (65, .aload 0, 66, 0)) (.branch 69 (.leaf (66, .getfield 708, 69, 941)) (.leaf (69, .if_icmp .ge 107, 72, 0)))))) (.branch 81 (.branch 74 (.branch 73 (.leaf (72, .iload 3, 73, 0)) (.leaf (73, .aload 0, 74, 0))) (.branch 77 (.leaf (74, .getfield 709, 77, 942)) (.branch 79 (.leaf (77, .ldc 6, 79, 0)) (.leaf (79, .iload 4, 81, 0))))) (.branch 83 (.branch 82 (.leaf (81, .imul, 82, 0)) (.leaf (82, .aload 0, 83, 0))) (.branch 86 (.leaf (83, .getfield 705, 86, 938)) (.branch 87 (.leaf (86, .iadd, 87, 0)) (.leaf (87, .ldc 1, 88, 0))))))) (.branch 101 (.branch 94 (.branch 90 (.branch 89 (.leaf (88, .isub, 89, 0)) (.leaf (89, .iaload, 90, 0))) (.branch 91 (.leaf (90, .iload 1, 91, 0)) (.leaf (91, .if_icmp .ne 98, 94, 0)))) (.branch 98 (.branch 95 (.leaf (94, .ldc 1, 95, 0)) (.leaf (95, .goto 99, 98, 0))) (.branch 99 (.leaf (98, .ldc 0, 99, 0)) (.branch 100 (.leaf (99, .iadd, 100, 0)) (.leaf (100, .istore 3, 101, 0)))))) (.branch 112 (.branch 107 (.branch 104 (.leaf (101, .iinc 4 1, 104, 0)) (.leaf (104, .goto 63, 107, 0))) (.branch 108 (.leaf (107, .aload 0, 108, 0)) (.branch 109 (.leaf (108, .iload 1, 109, 0)) (.leaf (109, .invokevirtual 198, 112, 1334))))) (.branch 116 (.branch 115 (.leaf (112, .ifCond .eq 119, 115, 0)) (.leaf (115, .iload 3, 116, 0))) (.branch 119 (.leaf (116, .goto 121, 119, 0)) (.branch 121 (.leaf (119, .ldc 4294967294, 121, 0)) (.leaf (121, .ireturn, 122, 0)))))))))
set_option maxRecDepth 100000 in
def pg_200 : Lean.RArray sIn := (.branch 36 (.branch 21 (.branch 9 (.branch 4 (.branch 1 (.leaf (0, .iload 1, 1, 0)) (.leaf (1, .invokestatic 178, 4, 1229))) (.branch 7 (.leaf (4, .ifCond .eq 15, 7, 0)) (.branch 8 (.leaf (7, .aload 0, 8, 0)) (.leaf (8, .iload 2, 9, 0))))) (.branch 16 (.branch 12 (.leaf (9, .invokevirtual 149, 12, 1154)) (.branch 15 (.leaf (12, .ifCond .ne 17, 15, 0)) (.leaf (15, .ldc 4294967295, 16, 0)))) (.branch 17 (.leaf (16, .ireturn, 17, 0)) (.branch 18 (.leaf (17, .aload 0, 18, 0)) (.leaf (18, .getfield 712, 21, 945)))))) (.branch 28 (.branch 23 (.branch 22 (.leaf (21, .iload 1, 22, 0)) (.leaf (22, .ldc 1, 23, 0))) (.branch 24 (.leaf (23, .iastore, 24, 0)) (.branch 25 (.leaf (24, .aload 0, 25, 0)) (.leaf (25, .getfield 713, 28, 946))))) (.branch 33 (.branch 29 (.leaf (28, .iload 1, 29, 0)) (.branch 30 (.leaf (29, .aload 0, 30, 0)) (.leaf (30, .getfield 708, 33, 941)))) (.branch 34 (.leaf (33, .iastore, 34, 0)) (.branch 35 (.leaf (34, .ldc 0, 35, 0)) (.leaf (35, .istore 3, 36, 0))))))) (.branch 53 (.branch 46 (.branch 39 (.branch 37 (.leaf (36, .iload 3, 37, 0)) (.leaf (37, .ldc 20, 39, 0))) (.branch 42 (.leaf (39, .if_icmp .ge 69, 42, 0)) (.branch 43 (.leaf (42, .aload 0, 43, 0)) (.leaf (43, .getfield 714, 46, 947))))) (.branch 50 (.branch 48 (.leaf (46, .ldc 20, 48, 0)) (.branch 49 (.leaf (48, .iload 1, 49, 0)) (.leaf (49, .imul, 50, 0)))) (.branch 51 (.leaf (50, .iload 3, 51, 0)) (.branch 52 (.leaf (51, .iadd, 52, 0)) (.leaf (52, .iload 3, 53, 0)))))) (.branch 62 (.branch 57 (.branch 54 (.leaf (53, .iload 2, 54, 0)) (.leaf (54, .if_icmp .ne 61, 57, 0))) (.branch 58 (.leaf (57, .ldc 1, 58, 0)) (.branch 61 (.leaf (58, .goto 62, 61, 0)) (.leaf (61, .ldc 0, 62, 0))))) (.branch 69 (.branch 63 (.leaf (62, .iastore, 63, 0)) (.branch 66 (.leaf (63, .iinc 3 1, 66, 0)) (.leaf (66, .goto 36, 69, 0)))) (.branch 70 (.leaf (69, .aload 0, 70, 0)) (.branch 73 (.leaf (70, .getfield 708, 73, 941)) (.leaf (73, .ireturn, 74, 0))))))))
set_option maxRecDepth 100000 in
def pg_201 : Lean.RArray sIn := (.branch 16 (.branch 8 (.branch 4 (.branch 1 (.leaf (0, .iload 1, 1, 0)) (.leaf (1, .invokestatic 178, 4, 1229))) (.branch 7 (.leaf (4, .ifCond .eq 29, 7, 0)) (.leaf (7, .aload 0, 8, 0)))) (.branch 12 (.branch 9 (.leaf (8, .iload 2, 9, 0)) (.leaf (9, .invokevirtual 149, 12, 1154))) (.branch 15 (.leaf (12, .ifCond .eq 29, 15, 0)) (.leaf (15, .aload 0, 16, 0))))) (.branch 22 (.branch 20 (.branch 19 (.leaf (16, .getfield 712, 19, 945)) (.leaf (19, .iload 1, 20, 0))) (.branch 21 (.leaf (20, .iaload, 21, 0)) (.leaf (21, .ldc 1, 22, 0)))) (.branch 26 (.branch 25 (.leaf (22, .if_icmp .ne 29, 25, 0)) (.leaf (25, .ldc 1, 26, 0))) (.branch 29 (.leaf (26, .goto 30, 29, 0)) (.branch 30 (.leaf (29, .ldc 0, 30, 0)) (.leaf (30, .ireturn, 31, 0)))))))
set_option maxRecDepth 100000 in
def pg_202 : Lean.RArray sIn := (.branch 34 (.branch 14 (.branch 6 (.branch 2 (.branch 1 (.leaf (0, .aload 0, 1, 0)) (.leaf (1, .iload 1, 2, 0))) (.branch 3 (.leaf (2, .iload 2, 3, 0)) (.leaf (3, .invokevirtual 201, 6, 1346)))) (.branch 10 (.branch 9 (.leaf (6, .ifCond .eq 23, 9, 0)) (.leaf (9, .iload 3, 10, 0))) (.branch 11 (.leaf (10, .i2l, 11, 0)) (.leaf (11, .ldc2_w 18446744073709550617, 14, 1350))))) (.branch 26 (.branch 20 (.branch 17 (.leaf (14, .ldc2_w 999, 17, 1351)) (.leaf (17, .invokestatic 140, 20, 1146))) (.branch 23 (.leaf (20, .ifCond .ne 27, 23, 0)) (.leaf (23, .ldc2_w 9223372036854775808, 26, 1149)))) (.branch 28 (.branch 27 (.leaf (26, .lreturn, 27, 0)) (.leaf (27, .aload 0, 28, 0))) (.branch 31 (.leaf (28, .getfield 714, 31, 947)) (.branch 33 (.leaf (31, .ldc 20, 33, 0)) (.leaf (33, .iload 1, 34, 0))))))) (.branch 46 (.branch 38 (.branch 36 (.branch 35 (.leaf (34, .imul, 35, 0)) (.leaf (35, .iload 2, 36, 0))) (.branch 37 (.leaf (36, .iadd, 37, 0)) (.leaf (37, .iaload, 38, 0)))) (.branch 41 (.branch 40 (.leaf (38, .istore 4, 40, 0)) (.leaf (40, .aload 0, 41, 0))) (.branch 44 (.leaf (41, .getfield 714, 44, 947)) (.leaf (44, .ldc 20, 46, 0))))) (.branch 50 (.branch 48 (.branch 47 (.leaf (46, .iload 1, 47, 0)) (.leaf (47, .imul, 48, 0))) (.branch 49 (.leaf (48, .iload 2, 49, 0)) (.leaf (49, .iadd, 50, 0)))) (.branch 52 (.branch 51 (.leaf (50, .iload 3, 51, 0)) (.leaf (51, .iastore, 52, 0))) (.branch 54 (.leaf (52, .iload 4, 54, 0)) (.branch 55 (.leaf (54, .i2l, 55, 0)) (.leaf (55, .lreturn, 56, 0))))))))
set_option maxRecDepth 100000 in
def pg_203 : Lean.RArray sIn := (.branch 15 (.branch 6 (.branch 2 (.branch 1 (.leaf (0, .aload 0, 1, 0)) (.leaf (1, .iload 1, 2, 0))) (.branch 3 (.leaf (2, .iload 2, 3, 0)) (.leaf (3, .invokevirtual 201, 6, 1346)))) (.branch 10 (.branch 9 (.leaf (6, .ifCond .eq 24, 9, 0)) (.leaf (9, .aload 0, 10, 0))) (.branch 13 (.leaf (10, .getfield 714, 13, 947)) (.leaf (13, .ldc 20, 15, 0))))) (.branch 19 (.branch 17 (.branch 16 (.leaf (15, .iload 1, 16, 0)) (.leaf (16, .imul, 17, 0))) (.branch 18 (.leaf (17, .iload 2, 18, 0)) (.leaf (18, .iadd, 19, 0)))) (.branch 21 (.branch 20 (.leaf (19, .iaload, 20, 0)) (.leaf (20, .i2l, 21, 0))) (.branch 24 (.leaf (21, .goto 27, 24, 0)) (.branch 27 (.leaf (24, .ldc2_w 9223372036854775808, 27, 1149)) (.leaf (27, .lreturn, 28, 0)))))))
set_option maxRecDepth 100000 in
def pg_204 : Lean.RArray sIn := (.branch 116 (.branch 57 (.branch 30 (.branch 16 (.branch 8 (.branch 4 (.branch 1 (.leaf (0, .iload 1, 1, 0)) (.leaf (1, .invokestatic 178, 4, 1229))) (.branch 7 (.leaf (4, .ifCond .eq 14, 7, 0)) (.leaf (7, .iload 2, 8, 0)))) (.branch 14 (.branch 11 (.leaf (8, .invokestatic 155, 11, 1166)) (.leaf (11, .ifCond .ne 16, 14, 0))) (.branch 15 (.leaf (14, .ldc 4294967295, 15, 0)) (.leaf (15, .ireturn, 16, 0))))) (.branch 22 (.branch 20 (.branch 17 (.leaf (16, .aload 0, 17, 0)) (.leaf (17, .getfield 712, 20, 945))) (.branch 21 (.leaf (20, .iload 1, 21, 0)) (.leaf (21, .iaload, 22, 0)))) (.branch 26 (.branch 23 (.leaf (22, .ldc 1, 23, 0)) (.leaf (23, .if_icmp .eq 43, 26, 0))) (.branch 27 (.leaf (26, .aload 0, 27, 0)) (.leaf (27, .getfield 712, 30, 945)))))) (.branch 44 (.branch 37 (.branch 32 (.branch 31 (.leaf (30, .iload 1, 31, 0)) (.leaf (31, .iaload, 32, 0))) (.branch 35 (.leaf (32, .ifCond .ne 40, 35, 0)) (.leaf (35, .ldc 4294967285, 37, 0)))) (.branch 42 (.branch 40 (.leaf (37, .goto 42, 40, 0)) (.leaf (40, .ldc 4294967284, 42, 0))) (.branch 43 (.leaf (42, .ireturn, 43, 0)) (.leaf (43, .aload 0, 44, 0))))) (.branch 50 (.branch 48 (.branch 45 (.leaf (44, .iload 2, 45, 0)) (.leaf (45, .invokevirtual 156, 48, 1206))) (.branch 49 (.leaf (48, .ldc 0, 49, 0)) (.leaf (49, .istore 3, 50, 0)))) (.branch 53 (.branch 51 (.leaf (50, .iload 3, 51, 0)) (.leaf (51, .ldc 6, 53, 0))) (.branch 56 (.leaf (53, .if_icmp .ge 69, 56, 0)) (.leaf (56, .aload 0, 57, 0))))))) (.branch 85 (.branch 71 (.branch 63 (.branch 61 (.branch 60 (.leaf (57, .getfield 743, 60, 976)) (.leaf (60, .iload 3, 61, 0))) (.branch 62 (.leaf (61, .ldc2_w 0, 62, 0)) (.leaf (62, .lastore, 63, 0)))) (.branch 69 (.branch 66 (.leaf (63, .iinc 3 1, 66, 0)) (.leaf (66, .goto 50, 69, 0))) (.branch 70 (.leaf (69, .ldc 0, 70, 0)) (.leaf (70, .istore 3, 71, 0))))) (.branch 79 (.branch 73 (.branch 72 (.leaf (71, .iload 3, 72, 0)) (.leaf (72, .aload 0, 73, 0))) (.branch 76 (.leaf (73, .getfield 708, 76, 941)) (.leaf (76, .if_icmp .ge 143, 79, 0)))) (.branch 81 (.branch 80 (.leaf (79, .aload 0, 80, 0)) (.leaf (80, .aload 0, 81, 0))) (.branch 84 (.leaf (81, .getfield 719, 84, 952)) (.leaf (84, .iload 3, 85, 0)))))) (.branch 101 (.branch 93 (.branch 89 (.branch 88 (.leaf (85, .invokevirtual 177, 88, 1268)) (.leaf (88, .ldc 0, 89, 0))) (.branch 91 (.leaf (89, .istore 4, 91, 0)) (.leaf (91, .iload 4, 93, 0)))) (.branch 97 (.branch 94 (.leaf (93, .aload 0, 94, 0)) (.leaf (94, .getfield 708, 97, 941))) (.branch 100 (.leaf (97, .if_icmp .ge 137, 100, 0)) (.leaf (100, .aload 0, 101, 0))))) (.branch 108 (.branch 106 (.branch 104 (.leaf (101, .getfield 743, 104, 976)) (.leaf (104, .iload 4, 106, 0))) (.branch 107 (.leaf (106, .dup2, 107, 0)) (.leaf (107, .laload, 108, 0)))) (.branch 112 (.branch 109 (.leaf (108, .aload 0, 109, 0)) (.leaf (109, .getfield 714, 112, 947))) (.branch 114 (.leaf (112, .ldc 20, 114, 0)) (.branch 115 (.leaf (114, .iload 1, 115, 0)) (.leaf (115, .imul, 116, 0))))))))) (.branch 174 (.branch 143 (.branch 127 (.branch 120 (.branch 118 (.branch 117 (.leaf (116, .iload 3, 117, 0)) (.leaf (117, .iadd, 118, 0))) (.branch 119 (.leaf (118, .iaload, 119, 0)) (.leaf (119, .i2l, 120, 0)))) (.branch 124 (.branch 121 (.leaf (120, .aload 0, 121, 0)) (.leaf (121, .getfield 733, 124, 966))) (.branch 126 (.leaf (124, .iload 4, 126, 0)) (.leaf (126, .iaload, 127, 0))))) (.branch 131 (.branch 129 (.branch 128 (.leaf (127, .i2l, 128, 0)) (.leaf (128, .lmul, 129, 0))) (.branch 130 (.leaf (129, .ladd, 130, 0)) (.leaf (130, .lastore, 131, 0)))) (.branch 137 (.branch 134 (.leaf (131, .iinc 4 1, 134, 0)) (.leaf (134, .goto 91, 137, 0))) (.branch 140 (.leaf (137, .iinc 3 1, 140, 0)) (.leaf (140, .goto 71, 143, 0)))))) (.branch 157 (.branch 148 (.branch 145 (.branch 144 (.leaf (143, .ldc 1, 144, 0)) (.leaf (144, .istore 3, 145, 0))) (.branch 146 (.leaf (145, .ldc 0, 146, 0)) (.leaf (146, .istore 4, 148, 0)))) (.branch 151 (.branch 150 (.leaf (148, .iload 4, 150, 0)) (.leaf (150, .aload 0, 151, 0))) (.branch 154 (.leaf (151, .getfield 708, 154, 941)) (.leaf (154, .if_icmp .ge 182, 157, 0))))) (.branch 164 (.branch 159 (.branch 158 (.leaf (157, .iload 3, 158, 0)) (.leaf (158, .aload 0, 159, 0))) (.branch 162 (.leaf (159, .getfield 743, 162, 976)) (.leaf (162, .iload 4, 164, 0)))) (.branch 168 (.branch 165 (.leaf (164, .laload, 165, 0)) (.leaf (165, .ldc2_w 18446744073709550617, 168, 1350))) (.branch 171 (.leaf (168, .ldc2_w 999, 171, 1351)) (.leaf (171, .invokestatic 140, 174, 1146))))))) (.branch 205 (.branch 188 (.branch 182 (.branch 176 (.branch 175 (.leaf (174, .iand, 175, 0)) (.leaf (175, .istore 3, 176, 0))) (.branch 179 (.leaf (176, .iinc 4 1, 179, 0)) (.leaf (179, .goto 148, 182, 0)))) (.branch 185 (.branch 183 (.leaf (182, .ldc 0, 183, 0)) (.leaf (183, .istore 4, 185, 0))) (.branch 187 (.leaf (185, .iload 4, 187, 0)) (.leaf (187, .aload 0, 188, 0))))) (.branch 198 (.branch 194 (.branch 191 (.leaf (188, .getfield 708, 191, 941)) (.leaf (191, .if_icmp .ge 224, 194, 0))) (.branch 195 (.leaf (194, .iload 3, 195, 0)) (.leaf (195, .ifCond .eq 224, 198, 0)))) (.branch 202 (.branch 199 (.leaf (198, .aload 0, 199, 0)) (.leaf (199, .getfield 714, 202, 947))) (.branch 204 (.leaf (202, .ldc 20, 204, 0)) (.leaf (204, .iload 1, 205, 0)))))) (.branch 217 (.branch 210 (.branch 208 (.branch 206 (.leaf (205, .imul, 206, 0)) (.leaf (206, .iload 4, 208, 0))) (.branch 209 (.leaf (208, .iadd, 209, 0)) (.leaf (209, .aload 0, 210, 0)))) (.branch 215 (.branch 213 (.leaf (210, .getfield 743, 213, 976)) (.leaf (213, .iload 4, 215, 0))) (.branch 216 (.leaf (215, .laload, 216, 0)) (.leaf (216, .l2i, 217, 0))))) (.branch 225 (.branch 221 (.branch 218 (.leaf (217, .iastore, 218, 0)) (.leaf (218, .iinc 4 1, 221, 0))) (.branch 224 (.leaf (221, .goto 185, 224, 0)) (.leaf (224, .iload 3, 225, 0)))) (.branch 229 (.branch 228 (.leaf (225, .ifCond .eq 232, 228, 0)) (.leaf (228, .ldc 1, 229, 0))) (.branch 232 (.leaf (229, .goto 234, 232, 0)) (.branch 234 (.leaf (232, .ldc 4294967291, 234, 0)) (.leaf (234, .ireturn, 235, 0))))))))))
set_option maxRecDepth 100000 in
def pg_205 : Lean.RArray sIn := (.branch 72 (.branch 37 (.branch 21 (.branch 8 (.branch 4 (.branch 1 (.leaf (0, .iload 1, 1, 0)) (.leaf (1, .invokestatic 178, 4, 1229))) (.branch 7 (.leaf (4, .ifCond .eq 41, 7, 0)) (.leaf (7, .iload 2, 8, 0)))) (.branch 14 (.branch 11 (.leaf (8, .invokestatic 178, 11, 1229)) (.leaf (11, .ifCond .eq 41, 14, 0))) (.branch 15 (.leaf (14, .iload 3, 15, 0)) (.branch 18 (.leaf (15, .invokestatic 194, 18, 1288)) (.leaf (18, .ifCond .eq 41, 21, 0)))))) (.branch 28 (.branch 25 (.branch 22 (.leaf (21, .aload 0, 22, 0)) (.leaf (22, .getfield 712, 25, 945))) (.branch 26 (.leaf (25, .iload 1, 26, 0)) (.branch 27 (.leaf (26, .iaload, 27, 0)) (.leaf (27, .ldc 1, 28, 0))))) (.branch 32 (.branch 31 (.leaf (28, .if_icmp .ne 41, 31, 0)) (.leaf (31, .aload 0, 32, 0))) (.branch 35 (.leaf (32, .getfield 712, 35, 945)) (.branch 36 (.leaf (35, .iload 2, 36, 0)) (.leaf (36, .iaload, 37, 0))))))) (.branch 54 (.branch 45 (.branch 41 (.branch 38 (.leaf (37, .ldc 1, 38, 0)) (.leaf (38, .if_icmp .eq 45, 41, 0))) (.branch 44 (.leaf (41, .ldc2_w 9223372036854775808, 44, 1149)) (.leaf (44, .lreturn, 45, 0)))) (.branch 49 (.branch 46 (.leaf (45, .aload 0, 46, 0)) (.leaf (46, .invokevirtual 196, 49, 1326))) (.branch 50 (.leaf (49, .aload 0, 50, 0)) (.branch 51 (.leaf (50, .ldc2_w 0, 51, 0)) (.leaf (51, .instanceof 739, 54, 972)))))) (.branch 62 (.branch 56 (.branch 55 (.leaf (54, .aload 0, 55, 0)) (.leaf (55, .ldc2_w 1, 56, 0))) (.branch 59 (.leaf (56, .instanceof 740, 59, 973)) (.branch 60 (.leaf (59, .ldc 0, 60, 0)) (.leaf (60, .istore 4, 62, 0))))) (.branch 65 (.branch 64 (.leaf (62, .iload 4, 64, 0)) (.leaf (64, .aload 0, 65, 0))) (.branch 68 (.leaf (65, .getfield 708, 68, 941)) (.branch 71 (.leaf (68, .if_icmp .ge 123, 71, 0)) (.leaf (71, .aload 0, 72, 0)))))))) (.branch 99 (.branch 85 (.branch 79 (.branch 76 (.branch 73 (.leaf (72, .aload 0, 73, 0)) (.leaf (73, .getfield 714, 76, 947))) (.branch 78 (.leaf (76, .ldc 20, 78, 0)) (.leaf (78, .iload 1, 79, 0)))) (.branch 82 (.branch 80 (.leaf (79, .imul, 80, 0)) (.leaf (80, .iload 4, 82, 0))) (.branch 83 (.leaf (82, .iadd, 83, 0)) (.branch 84 (.leaf (83, .iaload, 84, 0)) (.leaf (84, .i2l, 85, 0)))))) (.branch 93 (.branch 89 (.branch 86 (.leaf (85, .aload 0, 86, 0)) (.leaf (86, .getfield 714, 89, 947))) (.branch 91 (.leaf (89, .ldc 20, 91, 0)) (.branch 92 (.leaf (91, .iload 2, 92, 0)) (.leaf (92, .imul, 93, 0))))) (.branch 96 (.branch 95 (.leaf (93, .iload 4, 95, 0)) (.leaf (95, .iadd, 96, 0))) (.branch 97 (.leaf (96, .iaload, 97, 0)) (.branch 98 (.leaf (97, .i2l, 98, 0)) (.leaf (98, .lmul, 99, 0))))))) (.branch 117 (.branch 107 (.branch 103 (.branch 100 (.leaf (99, .aload 0, 100, 0)) (.leaf (100, .getfield 741, 103, 974))) (.branch 105 (.leaf (103, .iload 4, 105, 0)) (.branch 106 (.leaf (105, .laload, 106, 0)) (.leaf (106, .lmul, 107, 0))))) (.branch 111 (.branch 108 (.leaf (107, .aload 0, 108, 0)) (.leaf (108, .getfield 742, 111, 975))) (.branch 113 (.leaf (111, .iload 4, 113, 0)) (.branch 114 (.leaf (113, .laload, 114, 0)) (.leaf (114, .invokevirtual 188, 117, 1318)))))) (.branch 128 (.branch 123 (.branch 120 (.leaf (117, .iinc 4 1, 120, 0)) (.leaf (120, .goto 62, 123, 0))) (.branch 124 (.leaf (123, .iload 3, 124, 0)) (.branch 127 (.leaf (124, .ifCond .ne 134, 127, 0)) (.leaf (127, .aload 0, 128, 0))))) (.branch 134 (.branch 131 (.leaf (128, .getfield 739, 131, 972)) (.leaf (131, .goto 138, 134, 0))) (.branch 135 (.leaf (134, .aload 0, 135, 0)) (.branch 138 (.leaf (135, .getfield 740, 138, 973)) (.leaf (138, .lreturn, 139, 0)))))))))
set_option maxRecDepth 100000 in
def pg_206 : Lean.RArray sIn := (.branch 42 (.branch 22 (.branch 13 (.branch 7 (.branch 1 (.leaf (0, .iload 1, 1, 0)) (.branch 4 (.leaf (1, .invokestatic 178, 4, 1229)) (.leaf (4, .ifCond .eq 13, 7, 0)))) (.branch 8 (.leaf (7, .iload 2, 8, 0)) (.branch 10 (.leaf (8, .ldc 20, 10, 0)) (.leaf (10, .if_icmp .le 15, 13, 0))))) (.branch 16 (.branch 14 (.leaf (13, .ldc 4294967295, 14, 0)) (.branch 15 (.leaf (14, .ireturn, 15, 0)) (.leaf (15, .iload 2, 16, 0)))) (.branch 17 (.leaf (16, .ldc 4294967295, 17, 0)) (.branch 20 (.leaf (17, .if_icmp .ge 23, 20, 0)) (.leaf (20, .ldc 4294967282, 22, 0)))))) (.branch 32 (.branch 27 (.branch 23 (.leaf (22, .ireturn, 23, 0)) (.branch 24 (.leaf (23, .aload 0, 24, 0)) (.leaf (24, .getfield 712, 27, 945)))) (.branch 28 (.leaf (27, .iload 1, 28, 0)) (.branch 29 (.leaf (28, .iload 2, 29, 0)) (.leaf (29, .ifCond .ge 36, 32, 0))))) (.branch 37 (.branch 33 (.leaf (32, .ldc 0, 33, 0)) (.branch 36 (.leaf (33, .goto 37, 36, 0)) (.leaf (36, .ldc 2, 37, 0)))) (.branch 38 (.leaf (37, .iastore, 38, 0)) (.branch 39 (.leaf (38, .aload 0, 39, 0)) (.leaf (39, .getfield 713, 42, 946))))))) (.branch 61 (.branch 52 (.branch 47 (.branch 43 (.leaf (42, .iload 1, 43, 0)) (.branch 44 (.leaf (43, .iload 2, 44, 0)) (.leaf (44, .ifCond .ge 51, 47, 0)))) (.branch 48 (.leaf (47, .ldc 0, 48, 0)) (.branch 51 (.leaf (48, .goto 52, 51, 0)) (.leaf (51, .iload 2, 52, 0))))) (.branch 55 (.branch 53 (.leaf (52, .iastore, 53, 0)) (.branch 54 (.leaf (53, .ldc 0, 54, 0)) (.leaf (54, .istore 3, 55, 0)))) (.branch 56 (.leaf (55, .iload 3, 56, 0)) (.branch 58 (.leaf (56, .ldc 20, 58, 0)) (.leaf (58, .if_icmp .ge 79, 61, 0)))))) (.branch 70 (.branch 67 (.branch 62 (.leaf (61, .aload 0, 62, 0)) (.branch 65 (.leaf (62, .getfield 714, 65, 947)) (.leaf (65, .ldc 20, 67, 0)))) (.branch 68 (.leaf (67, .iload 1, 68, 0)) (.branch 69 (.leaf (68, .imul, 69, 0)) (.leaf (69, .iload 3, 70, 0))))) (.branch 73 (.branch 71 (.leaf (70, .iadd, 71, 0)) (.branch 72 (.leaf (71, .ldc 0, 72, 0)) (.leaf (72, .iastore, 73, 0)))) (.branch 79 (.branch 76 (.leaf (73, .iinc 3 1, 76, 0)) (.leaf (76, .goto 55, 79, 0))) (.branch 80 (.leaf (79, .ldc 1, 80, 0)) (.leaf (80, .ireturn, 81, 0))))))))
set_option maxRecDepth 100000 in
def pg_207 : Lean.RArray sIn := (.branch 38 (.branch 19 (.branch 9 (.branch 4 (.branch 1 (.leaf (0, .iload 1, 1, 0)) (.leaf (1, .invokestatic 178, 4, 1229))) (.branch 7 (.leaf (4, .ifCond .ne 9, 7, 0)) (.branch 8 (.leaf (7, .ldc 4294967295, 8, 0)) (.leaf (8, .ireturn, 9, 0))))) (.branch 14 (.branch 10 (.leaf (9, .aload 0, 10, 0)) (.branch 13 (.leaf (10, .getfield 712, 13, 945)) (.leaf (13, .iload 1, 14, 0)))) (.branch 15 (.leaf (14, .iaload, 15, 0)) (.branch 16 (.leaf (15, .ldc 2, 16, 0)) (.leaf (16, .if_icmp .eq 36, 19, 0)))))) (.branch 28 (.branch 23 (.branch 20 (.leaf (19, .aload 0, 20, 0)) (.leaf (20, .getfield 712, 23, 945))) (.branch 24 (.leaf (23, .iload 1, 24, 0)) (.branch 25 (.leaf (24, .iaload, 25, 0)) (.leaf (25, .ifCond .ne 33, 28, 0))))) (.branch 35 (.branch 30 (.leaf (28, .ldc 4294967285, 30, 0)) (.branch 33 (.leaf (30, .goto 35, 33, 0)) (.leaf (33, .ldc 4294967284, 35, 0)))) (.branch 36 (.leaf (35, .ireturn, 36, 0)) (.branch 37 (.leaf (36, .iload 2, 37, 0)) (.leaf (37, .i2l, 38, 0))))))) (.branch 56 (.branch 45 (.branch 40 (.branch 39 (.leaf (38, .ldc2_w 0, 39, 0)) (.leaf (39, .aload 0, 40, 0))) (.branch 43 (.leaf (40, .getfield 713, 43, 946)) (.branch 44 (.leaf (43, .iload 1, 44, 0)) (.leaf (44, .iaload, 45, 0))))) (.branch 48 (.branch 46 (.leaf (45, .ldc 1, 46, 0)) (.branch 47 (.leaf (46, .isub, 47, 0)) (.leaf (47, .i2l, 48, 0)))) (.branch 51 (.leaf (48, .invokestatic 140, 51, 1146)) (.branch 54 (.leaf (51, .ifCond .ne 57, 54, 0)) (.leaf (54, .ldc 4294967283, 56, 0)))))) (.branch 65 (.branch 61 (.branch 57 (.leaf (56, .ireturn, 57, 0)) (.branch 58 (.leaf (57, .aload 0, 58, 0)) (.leaf (58, .getfield 714, 61, 947)))) (.branch 63 (.leaf (61, .ldc 20, 63, 0)) (.branch 64 (.leaf (63, .iload 1, 64, 0)) (.leaf (64, .imul, 65, 0))))) (.branch 68 (.branch 66 (.leaf (65, .iload 2, 66, 0)) (.branch 67 (.leaf (66, .iadd, 67, 0)) (.leaf (67, .iload 3, 68, 0)))) (.branch 69 (.leaf (68, .iastore, 69, 0)) (.branch 70 (.leaf (69, .ldc 1, 70, 0)) (.leaf (70, .ireturn, 71, 0))))))))
set_option maxRecDepth 100000 in
def pg_208 : Lean.RArray sIn := (.branch 26 (.branch 14 (.branch 8 (.branch 4 (.branch 1 (.leaf (0, .iload 1, 1, 0)) (.leaf (1, .invokestatic 178, 4, 1229))) (.branch 7 (.leaf (4, .ifCond .eq 50, 7, 0)) (.leaf (7, .aload 0, 8, 0)))) (.branch 12 (.branch 11 (.leaf (8, .getfield 712, 11, 945)) (.leaf (11, .iload 1, 12, 0))) (.branch 13 (.leaf (12, .iaload, 13, 0)) (.leaf (13, .ldc 2, 14, 0))))) (.branch 20 (.branch 18 (.branch 17 (.leaf (14, .if_icmp .ne 50, 17, 0)) (.leaf (17, .iload 2, 18, 0))) (.branch 19 (.leaf (18, .i2l, 19, 0)) (.leaf (19, .ldc2_w 0, 20, 0)))) (.branch 24 (.branch 21 (.leaf (20, .aload 0, 21, 0)) (.leaf (21, .getfield 713, 24, 946))) (.branch 25 (.leaf (24, .iload 1, 25, 0)) (.leaf (25, .iaload, 26, 0)))))) (.branch 41 (.branch 32 (.branch 28 (.branch 27 (.leaf (26, .ldc 1, 27, 0)) (.leaf (27, .isub, 28, 0))) (.branch 29 (.leaf (28, .i2l, 29, 0)) (.leaf (29, .invokestatic 140, 32, 1146)))) (.branch 36 (.branch 35 (.leaf (32, .ifCond .eq 50, 35, 0)) (.leaf (35, .aload 0, 36, 0))) (.branch 39 (.leaf (36, .getfield 714, 39, 947)) (.leaf (39, .ldc 20, 41, 0))))) (.branch 45 (.branch 43 (.branch 42 (.leaf (41, .iload 1, 42, 0)) (.leaf (42, .imul, 43, 0))) (.branch 44 (.leaf (43, .iload 2, 44, 0)) (.leaf (44, .iadd, 45, 0)))) (.branch 47 (.branch 46 (.leaf (45, .iaload, 46, 0)) (.leaf (46, .i2l, 47, 0))) (.branch 50 (.leaf (47, .goto 53, 50, 0)) (.branch 53 (.leaf (50, .ldc2_w 9223372036854775808, 53, 1149)) (.leaf (53, .lreturn, 54, 0))))))))
set_option maxRecDepth 100000 in
def pg_209 : Lean.RArray sIn := (.branch 79 (.branch 37 (.branch 21 (.branch 9 (.branch 4 (.branch 1 (.leaf (0, .iload 1, 1, 0)) (.leaf (1, .invokestatic 178, 4, 1229))) (.branch 7 (.leaf (4, .ifCond .eq 15, 7, 0)) (.branch 8 (.leaf (7, .aload 0, 8, 0)) (.leaf (8, .iload 2, 9, 0))))) (.branch 16 (.branch 12 (.leaf (9, .invokevirtual 149, 12, 1154)) (.branch 15 (.leaf (12, .ifCond .ne 17, 15, 0)) (.leaf (15, .ldc 4294967295, 16, 0)))) (.branch 17 (.leaf (16, .ireturn, 17, 0)) (.branch 18 (.leaf (17, .aload 0, 18, 0)) (.leaf (18, .getfield 712, 21, 945)))))) (.branch 29 (.branch 24 (.branch 22 (.leaf (21, .iload 1, 22, 0)) (.branch 23 (.leaf (22, .ldc 2, 23, 0)) (.leaf (23, .iastore, 24, 0)))) (.branch 25 (.leaf (24, .aload 0, 25, 0)) (.branch 28 (.leaf (25, .getfield 713, 28, 946)) (.leaf (28, .iload 1, 29, 0))))) (.branch 34 (.branch 30 (.leaf (29, .aload 0, 30, 0)) (.branch 33 (.leaf (30, .getfield 705, 33, 938)) (.leaf (33, .iastore, 34, 0)))) (.branch 35 (.leaf (34, .ldc 0, 35, 0)) (.branch 36 (.leaf (35, .istore 3, 36, 0)) (.leaf (36, .iload 3, 37, 0))))))) (.branch 57 (.branch 49 (.branch 43 (.branch 39 (.leaf (37, .ldc 20, 39, 0)) (.branch 42 (.leaf (39, .if_icmp .ge 60, 42, 0)) (.leaf (42, .aload 0, 43, 0)))) (.branch 46 (.leaf (43, .getfield 714, 46, 947)) (.branch 48 (.leaf (46, .ldc 20, 48, 0)) (.leaf (48, .iload 1, 49, 0))))) (.branch 52 (.branch 50 (.leaf (49, .imul, 50, 0)) (.branch 51 (.leaf (50, .iload 3, 51, 0)) (.leaf (51, .iadd, 52, 0)))) (.branch 53 (.leaf (52, .ldc 0, 53, 0)) (.branch 54 (.leaf (53, .iastore, 54, 0)) (.leaf (54, .iinc 3 1, 57, 0)))))) (.branch 67 (.branch 62 (.branch 60 (.leaf (57, .goto 36, 60, 0)) (.branch 61 (.leaf (60, .ldc 0, 61, 0)) (.leaf (61, .istore 3, 62, 0)))) (.branch 63 (.leaf (62, .iload 3, 63, 0)) (.branch 64 (.leaf (63, .aload 0, 64, 0)) (.leaf (64, .getfield 705, 67, 938))))) (.branch 73 (.branch 70 (.leaf (67, .if_icmp .ge 153, 70, 0)) (.branch 71 (.leaf (70, .ldc 1, 71, 0)) (.leaf (71, .istore 4, 73, 0)))) (.branch 75 (.leaf (73, .iload 4, 75, 0)) (.branch 76 (.leaf (75, .aload 0, 76, 0)) (.leaf (76, .getfield 705, 79, 938)))))))) (.branch 116 (.branch 96 (.branch 89 (.branch 83 (.branch 82 (.leaf (79, .if_icmp .gt 147, 82, 0)) (.leaf (82, .aload 0, 83, 0))) (.branch 86 (.leaf (83, .getfield 709, 86, 942)) (.branch 88 (.leaf (86, .ldc 6, 88, 0)) (.leaf (88, .iload 2, 89, 0))))) (.branch 93 (.branch 90 (.leaf (89, .imul, 90, 0)) (.branch 92 (.leaf (90, .iload 4, 92, 0)) (.leaf (92, .iadd, 93, 0)))) (.branch 94 (.leaf (93, .ldc 1, 94, 0)) (.branch 95 (.leaf (94, .isub, 95, 0)) (.leaf (95, .iaload, 96, 0)))))) (.branch 106 (.branch 101 (.branch 97 (.leaf (96, .aload 0, 97, 0)) (.branch 100 (.leaf (97, .getfield 706, 100, 939)) (.leaf (100, .iload 3, 101, 0)))) (.branch 102 (.leaf (101, .iaload, 102, 0)) (.branch 105 (.leaf (102, .if_icmp .ne 141, 105, 0)) (.leaf (105, .aload 0, 106, 0))))) (.branch 112 (.branch 109 (.leaf (106, .getfield 710, 109, 943)) (.branch 111 (.leaf (109, .ldc 6, 111, 0)) (.leaf (111, .iload 2, 112, 0)))) (.branch 113 (.leaf (112, .imul, 113, 0)) (.branch 115 (.leaf (113, .iload 4, 115, 0)) (.leaf (115, .iadd, 116, 0))))))) (.branch 135 (.branch 124 (.branch 119 (.branch 117 (.leaf (116, .ldc 1, 117, 0)) (.branch 118 (.leaf (117, .isub, 118, 0)) (.leaf (118, .iaload, 119, 0)))) (.branch 120 (.leaf (119, .aload 0, 120, 0)) (.branch 123 (.leaf (120, .getfield 707, 123, 940)) (.leaf (123, .iload 3, 124, 0))))) (.branch 129 (.branch 125 (.leaf (124, .iaload, 125, 0)) (.branch 128 (.leaf (125, .if_icmp .ne 141, 128, 0)) (.leaf (128, .aload 0, 129, 0)))) (.branch 132 (.leaf (129, .getfield 714, 132, 947)) (.branch 134 (.leaf (132, .ldc 20, 134, 0)) (.leaf (134, .iload 1, 135, 0)))))) (.branch 144 (.branch 138 (.branch 136 (.leaf (135, .imul, 136, 0)) (.branch 137 (.leaf (136, .iload 3, 137, 0)) (.leaf (137, .iadd, 138, 0)))) (.branch 140 (.leaf (138, .iload 4, 140, 0)) (.branch 141 (.leaf (140, .iastore, 141, 0)) (.leaf (141, .iinc 4 1, 144, 0))))) (.branch 153 (.branch 147 (.leaf (144, .goto 73, 147, 0)) (.branch 150 (.leaf (147, .iinc 3 1, 150, 0)) (.leaf (150, .goto 62, 153, 0)))) (.branch 154 (.leaf (153, .aload 0, 154, 0)) (.branch 157 (.leaf (154, .getfield 705, 157, 938)) (.leaf (157, .ireturn, 158, 0)))))))))
set_option maxRecDepth 100000 in
def pg_210 : Lean.RArray sIn := (.branch 60 (.branch 30 (.branch 14 (.branch 8 (.branch 4 (.branch 1 (.leaf (0, .iload 1, 1, 0)) (.leaf (1, .invokestatic 178, 4, 1229))) (.branch 7 (.leaf (4, .ifCond .ne 9, 7, 0)) (.leaf (7, .ldc 4294967295, 8, 0)))) (.branch 10 (.branch 9 (.leaf (8, .ireturn, 9, 0)) (.leaf (9, .aload 0, 10, 0))) (.branch 13 (.leaf (10, .getfield 712, 13, 945)) (.leaf (13, .iload 1, 14, 0))))) (.branch 20 (.branch 16 (.branch 15 (.leaf (14, .iaload, 15, 0)) (.leaf (15, .ldc 2, 16, 0))) (.branch 19 (.leaf (16, .if_icmp .eq 36, 19, 0)) (.leaf (19, .aload 0, 20, 0)))) (.branch 24 (.branch 23 (.leaf (20, .getfield 712, 23, 945)) (.leaf (23, .iload 1, 24, 0))) (.branch 25 (.leaf (24, .iaload, 25, 0)) (.branch 28 (.leaf (25, .ifCond .ne 33, 28, 0)) (.leaf (28, .ldc 4294967285, 30, 0))))))) (.branch 45 (.branch 37 (.branch 35 (.branch 33 (.leaf (30, .goto 35, 33, 0)) (.leaf (33, .ldc 4294967284, 35, 0))) (.branch 36 (.leaf (35, .ireturn, 36, 0)) (.leaf (36, .aload 0, 37, 0)))) (.branch 41 (.branch 40 (.leaf (37, .getfield 719, 40, 952)) (.leaf (40, .ldc 0, 41, 0))) (.branch 44 (.leaf (41, .invokestatic 143, 44, 934)) (.leaf (44, .ldc 0, 45, 0))))) (.branch 51 (.branch 47 (.branch 46 (.leaf (45, .istore 2, 46, 0)) (.leaf (46, .iload 2, 47, 0))) (.branch 48 (.leaf (47, .aload 0, 48, 0)) (.leaf (48, .getfield 713, 51, 946)))) (.branch 53 (.branch 52 (.leaf (51, .iload 1, 52, 0)) (.leaf (52, .iaload, 53, 0))) (.branch 56 (.leaf (53, .if_icmp .ge 112, 56, 0)) (.branch 57 (.leaf (56, .aload 0, 57, 0)) (.leaf (57, .getfield 714, 60, 947)))))))) (.branch 86 (.branch 69 (.branch 65 (.branch 63 (.branch 62 (.leaf (60, .ldc 20, 62, 0)) (.leaf (62, .iload 1, 63, 0))) (.branch 64 (.leaf (63, .imul, 64, 0)) (.leaf (64, .iload 2, 65, 0)))) (.branch 67 (.branch 66 (.leaf (65, .iadd, 66, 0)) (.leaf (66, .iaload, 67, 0))) (.branch 68 (.leaf (67, .istore 3, 68, 0)) (.leaf (68, .aload 0, 69, 0))))) (.branch 77 (.branch 73 (.branch 70 (.leaf (69, .iload 3, 70, 0)) (.leaf (70, .invokevirtual 158, 73, 1170))) (.branch 76 (.leaf (73, .ifCond .eq 93, 76, 0)) (.leaf (76, .aload 0, 77, 0)))) (.branch 81 (.branch 80 (.leaf (77, .getfield 719, 80, 952)) (.leaf (80, .iload 3, 81, 0))) (.branch 82 (.leaf (81, .iaload, 82, 0)) (.branch 83 (.leaf (82, .aload 0, 83, 0)) (.leaf (83, .getfield 719, 86, 952))))))) (.branch 99 (.branch 90 (.branch 88 (.branch 87 (.leaf (86, .iload 3, 87, 0)) (.leaf (87, .ldc 1, 88, 0))) (.branch 89 (.leaf (88, .iadd, 89, 0)) (.leaf (89, .iaload, 90, 0)))) (.branch 94 (.branch 93 (.leaf (90, .if_icmp .le 95, 93, 0)) (.leaf (93, .iload 2, 94, 0))) (.branch 95 (.leaf (94, .ireturn, 95, 0)) (.branch 96 (.leaf (95, .aload 0, 96, 0)) (.leaf (96, .getfield 719, 99, 952)))))) (.branch 103 (.branch 101 (.branch 100 (.leaf (99, .iload 3, 100, 0)) (.leaf (100, .iload 3, 101, 0))) (.branch 102 (.leaf (101, .ldc 1, 102, 0)) (.leaf (102, .iadd, 103, 0)))) (.branch 109 (.branch 106 (.leaf (103, .invokestatic 159, 106, 1174)) (.leaf (106, .iinc 2 1, 109, 0))) (.branch 112 (.leaf (109, .goto 46, 112, 0)) (.branch 114 (.leaf (112, .ldc 4294967294, 114, 0)) (.leaf (114, .ireturn, 115, 0)))))))))
set_option maxRecDepth 100000 in
def pg_211 : Lean.RArray sIn := (.branch 28 (.branch 15 (.branch 5 (.branch 1 (.leaf (0, .iload 1, 1, 0)) (.branch 2 (.leaf (1, .i2l, 2, 0)) (.leaf (2, .ldc2_w 32, 5, 1388)))) (.branch 11 (.branch 8 (.leaf (5, .ldc2_w 126, 8, 1389)) (.leaf (8, .invokestatic 140, 11, 1146))) (.branch 14 (.leaf (11, .ifCond .ne 16, 14, 0)) (.leaf (14, .ldc 4294967295, 15, 0))))) (.branch 20 (.branch 16 (.leaf (15, .ireturn, 16, 0)) (.branch 17 (.leaf (16, .aload 0, 17, 0)) (.leaf (17, .getfield 745, 20, 978)))) (.branch 25 (.branch 22 (.leaf (20, .ldc 80, 22, 0)) (.leaf (22, .if_icmp .ne 28, 25, 0))) (.branch 27 (.leaf (25, .ldc 4294967293, 27, 0)) (.leaf (27, .ireturn, 28, 0)))))) (.branch 39 (.branch 33 (.branch 29 (.leaf (28, .aload 0, 29, 0)) (.branch 32 (.leaf (29, .getfield 744, 32, 977)) (.leaf (32, .aload 0, 33, 0)))) (.branch 37 (.branch 36 (.leaf (33, .getfield 745, 36, 978)) (.leaf (36, .iload 1, 37, 0))) (.branch 38 (.leaf (37, .iastore, 38, 0)) (.leaf (38, .aload 0, 39, 0))))) (.branch 45 (.branch 43 (.branch 40 (.leaf (39, .dup, 40, 0)) (.leaf (40, .getfield 745, 43, 978))) (.branch 44 (.leaf (43, .ldc 1, 44, 0)) (.leaf (44, .iadd, 45, 0)))) (.branch 49 (.branch 48 (.leaf (45, .putfield 745, 48, 978)) (.leaf (48, .aload 0, 49, 0))) (.branch 52 (.leaf (49, .getfield 745, 52, 978)) (.leaf (52, .ireturn, 53, 0)))))))
set_option maxRecDepth 100000 in
def pg_212 : Lean.RArray sIn := (.branch 6 (.branch 4 (.branch 1 (.leaf (0, .aload 0, 1, 0)) (.leaf (1, .getfield 745, 4, 978))) (.branch 5 (.leaf (4, .istore 1, 5, 0)) (.leaf (5, .aload 0, 6, 0)))) (.branch 10 (.branch 7 (.leaf (6, .ldc 0, 7, 0)) (.leaf (7, .putfield 745, 10, 978))) (.branch 11 (.leaf (10, .iload 1, 11, 0)) (.leaf (11, .ireturn, 12, 0)))))
set_option maxRecDepth 100000 in
def pg_213 : Lean.RArray sIn := (.branch 12 (.branch 5 (.branch 1 (.leaf (0, .aload 0, 1, 0)) (.branch 4 (.leaf (1, .getfield 746, 4, 979)) (.leaf (4, .aload 0, 5, 0)))) (.branch 8 (.leaf (5, .getfield 745, 8, 978)) (.branch 11 (.leaf (8, .if_icmp .ge 23, 11, 0)) (.leaf (11, .aload 0, 12, 0))))) (.branch 19 (.branch 15 (.leaf (12, .getfield 744, 15, 977)) (.branch 16 (.leaf (15, .aload 0, 16, 0)) (.leaf (16, .getfield 746, 19, 979)))) (.branch 23 (.branch 20 (.leaf (19, .iaload, 20, 0)) (.leaf (20, .goto 24, 23, 0))) (.branch 24 (.leaf (23, .ldc 0, 24, 0)) (.leaf (24, .ireturn, 25, 0))))))
set_option maxRecDepth 100000 in
def pg_214 : Lean.RArray sIn := (.branch 15 (.branch 8 (.branch 4 (.branch 1 (.leaf (0, .aload 0, 1, 0)) (.leaf (1, .getfield 747, 4, 980))) (.branch 5 (.leaf (4, .aload 0, 5, 0)) (.leaf (5, .getfield 749, 8, 982)))) (.branch 10 (.branch 9 (.leaf (8, .iload 1, 9, 0)) (.leaf (9, .iastore, 10, 0))) (.branch 11 (.leaf (10, .aload 0, 11, 0)) (.branch 14 (.leaf (11, .getfield 748, 14, 981)) (.leaf (14, .aload 0, 15, 0)))))) (.branch 22 (.branch 19 (.branch 18 (.leaf (15, .getfield 749, 18, 982)) (.leaf (18, .iload 2, 19, 0))) (.branch 20 (.leaf (19, .iastore, 20, 0)) (.branch 21 (.leaf (20, .aload 0, 21, 0)) (.leaf (21, .dup, 22, 0))))) (.branch 26 (.branch 25 (.leaf (22, .getfield 749, 25, 982)) (.leaf (25, .ldc 1, 26, 0))) (.branch 27 (.leaf (26, .iadd, 27, 0)) (.branch 30 (.leaf (27, .putfield 749, 30, 982)) (.leaf (30, .return_, 31, 0)))))))
set_option maxRecDepth 100000 in
def pg_215 : Lean.RArray sIn := (.branch 29 (.branch 14 (.branch 6 (.branch 2 (.branch 1 (.leaf (0, .aload 0, 1, 0)) (.leaf (1, .iload 1, 2, 0))) (.branch 3 (.leaf (2, .iload 2, 3, 0)) (.leaf (3, .invokevirtual 214, 6, 1424)))) (.branch 8 (.branch 7 (.leaf (6, .aload 0, 7, 0)) (.leaf (7, .aload 0, 8, 0))) (.branch 11 (.leaf (8, .getfield 749, 11, 982)) (.leaf (11, .putfield 753, 14, 986))))) (.branch 18 (.branch 16 (.branch 15 (.leaf (14, .ldc 0, 15, 0)) (.leaf (15, .istore 3, 16, 0))) (.branch 17 (.leaf (16, .iload 3, 17, 0)) (.leaf (17, .aload 0, 18, 0)))) (.branch 24 (.branch 21 (.leaf (18, .getfield 749, 21, 982)) (.leaf (21, .if_icmp .ge 54, 24, 0))) (.branch 25 (.leaf (24, .aload 0, 25, 0)) (.branch 28 (.leaf (25, .getfield 751, 28, 984)) (.leaf (28, .iload 3, 29, 0))))))) (.branch 41 (.branch 35 (.branch 33 (.branch 30 (.leaf (29, .aload 0, 30, 0)) (.leaf (30, .getfield 747, 33, 980))) (.branch 34 (.leaf (33, .iload 3, 34, 0)) (.leaf (34, .iaload, 35, 0)))) (.branch 37 (.branch 36 (.leaf (35, .iastore, 36, 0)) (.leaf (36, .aload 0, 37, 0))) (.branch 40 (.leaf (37, .getfield 752, 40, 985)) (.leaf (40, .iload 3, 41, 0))))) (.branch 47 (.branch 45 (.branch 42 (.leaf (41, .aload 0, 42, 0)) (.leaf (42, .getfield 748, 45, 981))) (.branch 46 (.leaf (45, .iload 3, 46, 0)) (.leaf (46, .iaload, 47, 0)))) (.branch 51 (.branch 48 (.leaf (47, .iastore, 48, 0)) (.leaf (48, .iinc 3 1, 51, 0))) (.branch 54 (.leaf (51, .goto 16, 54, 0)) (.branch 55 (.leaf (54, .ldc 0, 55, 0)) (.leaf (55, .ireturn, 56, 0))))))))
set_option maxRecDepth 100000 in
def pg_216 : Lean.RArray sIn := (.branch 5 (.branch 1 (.leaf (0, .aload 0, 1, 0)) (.branch 4 (.leaf (1, .invokevirtual 213, 4, 1410)) (.leaf (4, .i2l, 5, 0)))) (.branch 11 (.branch 8 (.leaf (5, .ldc2_w 49, 8, 1418)) (.leaf (8, .ldc2_w 53, 11, 1419))) (.branch 14 (.leaf (11, .invokestatic 140, 14, 1146)) (.leaf (14, .ireturn, 15, 0)))))
set_option maxRecDepth 100000 in
def pg_217 : Lean.RArray sIn := (.branch 93 (.branch 44 (.branch 17 (.branch 6 (.branch 3 (.branch 1 (.leaf (0, .ldc 0, 1, 0)) (.branch 2 (.leaf (1, .istore 1, 2, 0)) (.leaf (2, .ldc 0, 3, 0)))) (.branch 4 (.leaf (3, .istore 2, 4, 0)) (.branch 5 (.leaf (4, .ldc 0, 5, 0)) (.leaf (5, .istore 3, 6, 0))))) (.branch 11 (.branch 7 (.leaf (6, .aload 0, 7, 0)) (.branch 10 (.leaf (7, .getfield 756, 10, 989)) (.leaf (10, .ldc 0, 11, 0)))) (.branch 14 (.leaf (11, .invokestatic 143, 14, 934)) (.branch 15 (.leaf (14, .ldc 1, 15, 0)) (.leaf (15, .istore 4, 17, 0)))))) (.branch 29 (.branch 23 (.branch 19 (.leaf (17, .iload 4, 19, 0)) (.branch 20 (.leaf (19, .ldc 5, 20, 0)) (.leaf (20, .if_icmp .gt 37, 23, 0)))) (.branch 24 (.leaf (23, .aload 0, 24, 0)) (.branch 27 (.leaf (24, .getfield 723, 27, 956)) (.leaf (27, .iload 4, 29, 0))))) (.branch 34 (.branch 30 (.leaf (29, .ldc 0, 30, 0)) (.branch 31 (.leaf (30, .bastore, 31, 0)) (.leaf (31, .iinc 4 1, 34, 0)))) (.branch 38 (.branch 37 (.leaf (34, .goto 17, 37, 0)) (.leaf (37, .aload 0, 38, 0))) (.branch 41 (.leaf (38, .invokevirtual 216, 41, 1414)) (.leaf (41, .ifCond .eq 135, 44, 0))))))) (.branch 69 (.branch 54 (.branch 50 (.branch 45 (.leaf (44, .aload 0, 45, 0)) (.branch 48 (.leaf (45, .invokevirtual 213, 48, 1410)) (.leaf (48, .ldc 48, 50, 0)))) (.branch 51 (.leaf (50, .isub, 51, 0)) (.branch 53 (.leaf (51, .istore 4, 53, 0)) (.leaf (53, .aload 0, 54, 0))))) (.branch 62 (.branch 57 (.leaf (54, .getfield 754, 57, 987)) (.branch 60 (.leaf (57, .ifCond .eq 89, 60, 0)) (.leaf (60, .iload 4, 62, 0)))) (.branch 63 (.leaf (62, .aload 0, 63, 0)) (.branch 66 (.leaf (63, .getfield 705, 66, 938)) (.leaf (66, .if_icmp .gt 79, 69, 0)))))) (.branch 80 (.branch 75 (.branch 70 (.leaf (69, .aload 0, 70, 0)) (.branch 73 (.leaf (70, .getfield 723, 73, 956)) (.leaf (73, .iload 4, 75, 0)))) (.branch 76 (.leaf (75, .baload, 76, 0)) (.branch 79 (.leaf (76, .ifCond .eq 89, 79, 0)) (.leaf (79, .aload 0, 80, 0))))) (.branch 85 (.branch 81 (.leaf (80, .ldc 4, 81, 0)) (.branch 82 (.leaf (81, .aload 0, 82, 0)) (.leaf (82, .getfield 746, 85, 979)))) (.branch 89 (.branch 88 (.leaf (85, .invokevirtual 215, 88, 1420)) (.leaf (88, .ireturn, 89, 0))) (.branch 90 (.leaf (89, .aload 0, 90, 0)) (.leaf (90, .getfield 723, 93, 956)))))))) (.branch 136 (.branch 113 (.branch 103 (.branch 97 (.branch 95 (.leaf (93, .iload 4, 95, 0)) (.branch 96 (.leaf (95, .ldc 1, 96, 0)) (.leaf (96, .bastore, 97, 0)))) (.branch 98 (.leaf (97, .iload 3, 98, 0)) (.branch 101 (.leaf (98, .ifCond .ne 106, 101, 0)) (.leaf (101, .iload 4, 103, 0))))) (.branch 108 (.branch 106 (.leaf (103, .goto 107, 106, 0)) (.branch 107 (.leaf (106, .iload 1, 107, 0)) (.leaf (107, .istore 1, 108, 0)))) (.branch 109 (.leaf (108, .aload 0, 109, 0)) (.branch 112 (.leaf (109, .getfield 756, 112, 989)) (.leaf (112, .iload 2, 113, 0)))))) (.branch 123 (.branch 118 (.branch 115 (.leaf (113, .iload 4, 115, 0)) (.branch 116 (.leaf (115, .iastore, 116, 0)) (.leaf (116, .iload 4, 118, 0)))) (.branch 119 (.leaf (118, .istore 2, 119, 0)) (.branch 122 (.leaf (119, .iinc 3 1, 122, 0)) (.leaf (122, .aload 0, 123, 0))))) (.branch 128 (.branch 124 (.leaf (123, .dup, 124, 0)) (.branch 127 (.leaf (124, .getfield 746, 127, 979)) (.leaf (127, .ldc 1, 128, 0)))) (.branch 132 (.branch 129 (.leaf (128, .iadd, 129, 0)) (.leaf (129, .putfield 746, 132, 979))) (.branch 135 (.leaf (132, .goto 37, 135, 0)) (.leaf (135, .iload 3, 136, 0))))))) (.branch 159 (.branch 149 (.branch 141 (.branch 137 (.leaf (136, .ldc 2, 137, 0)) (.branch 140 (.leaf (137, .if_icmp .lt 149, 140, 0)) (.leaf (140, .aload 0, 141, 0)))) (.branch 144 (.leaf (141, .invokevirtual 213, 144, 1410)) (.branch 146 (.leaf (144, .ldc 41, 146, 0)) (.leaf (146, .if_icmp .eq 159, 149, 0))))) (.branch 152 (.branch 150 (.leaf (149, .aload 0, 150, 0)) (.branch 151 (.leaf (150, .ldc 1, 151, 0)) (.leaf (151, .aload 0, 152, 0)))) (.branch 155 (.leaf (152, .getfield 746, 155, 979)) (.branch 158 (.leaf (155, .invokevirtual 215, 158, 1420)) (.leaf (158, .ireturn, 159, 0)))))) (.branch 167 (.branch 164 (.branch 160 (.leaf (159, .aload 0, 160, 0)) (.branch 163 (.leaf (160, .getfield 756, 163, 989)) (.leaf (163, .iload 2, 164, 0)))) (.branch 165 (.leaf (164, .iload 1, 165, 0)) (.branch 166 (.leaf (165, .iastore, 166, 0)) (.leaf (166, .aload 0, 167, 0))))) (.branch 172 (.branch 168 (.leaf (167, .dup, 168, 0)) (.branch 171 (.leaf (168, .getfield 746, 171, 979)) (.leaf (171, .ldc 1, 172, 0)))) (.branch 176 (.branch 173 (.leaf (172, .iadd, 173, 0)) (.leaf (173, .putfield 746, 176, 979))) (.branch 177 (.leaf (176, .ldc 1, 177, 0)) (.leaf (177, .ireturn, 178, 0)))))))))
set_option maxRecDepth 100000 in
def pg_218 : Lean.RArray sIn := (.branch 187 (.branch 95 (.branch 44 (.branch 24 (.branch 10 (.branch 5 (.branch 1 (.leaf (0, .aload 0, 1, 0)) (.branch 4 (.leaf (1, .invokevirtual 213, 4, 1410)) (.leaf (4, .istore 2, 5, 0)))) (.branch 6 (.leaf (5, .aload 0, 6, 0)) (.branch 9 (.leaf (6, .getfield 746, 9, 979)) (.leaf (9, .istore 3, 10, 0))))) (.branch 16 (.branch 11 (.leaf (10, .iload 2, 11, 0)) (.branch 13 (.leaf (11, .ldc 101, 13, 0)) (.leaf (13, .if_icmp .ne 36, 16, 0)))) (.branch 20 (.branch 17 (.leaf (16, .aload 0, 17, 0)) (.leaf (17, .getfield 756, 20, 989))) (.branch 21 (.leaf (20, .ldc 0, 21, 0)) (.leaf (21, .invokestatic 143, 24, 934)))))) (.branch 34 (.branch 29 (.branch 25 (.leaf (24, .aload 0, 25, 0)) (.branch 26 (.leaf (25, .dup, 26, 0)) (.leaf (26, .getfield 746, 29, 979)))) (.branch 30 (.leaf (29, .ldc 1, 30, 0)) (.branch 31 (.leaf (30, .iadd, 31, 0)) (.leaf (31, .putfield 746, 34, 979))))) (.branch 37 (.branch 35 (.leaf (34, .ldc 1, 35, 0)) (.branch 36 (.leaf (35, .ireturn, 36, 0)) (.leaf (36, .iload 2, 37, 0)))) (.branch 42 (.branch 39 (.leaf (37, .ldc 115, 39, 0)) (.leaf (39, .if_icmp .ne 144, 42, 0))) (.branch 43 (.leaf (42, .aload 0, 43, 0)) (.leaf (43, .dup, 44, 0))))))) (.branch 69 (.branch 56 (.branch 49 (.branch 47 (.leaf (44, .getfield 746, 47, 979)) (.branch 48 (.leaf (47, .ldc 1, 48, 0)) (.leaf (48, .iadd, 49, 0)))) (.branch 52 (.leaf (49, .putfield 746, 52, 979)) (.branch 53 (.leaf (52, .aload 0, 53, 0)) (.leaf (53, .invokevirtual 216, 56, 1414))))) (.branch 61 (.branch 59 (.leaf (56, .ifCond .ne 69, 59, 0)) (.branch 60 (.leaf (59, .aload 0, 60, 0)) (.leaf (60, .ldc 1, 61, 0)))) (.branch 65 (.branch 62 (.leaf (61, .aload 0, 62, 0)) (.leaf (62, .getfield 746, 65, 979))) (.branch 68 (.leaf (65, .invokevirtual 215, 68, 1420)) (.leaf (68, .ireturn, 69, 0)))))) (.branch 79 (.branch 75 (.branch 70 (.leaf (69, .aload 0, 70, 0)) (.branch 73 (.leaf (70, .invokevirtual 213, 73, 1410)) (.leaf (73, .ldc 48, 75, 0)))) (.branch 76 (.leaf (75, .isub, 76, 0)) (.branch 78 (.leaf (76, .istore 4, 78, 0)) (.leaf (78, .aload 0, 79, 0))))) (.branch 86 (.branch 82 (.leaf (79, .getfield 754, 82, 987)) (.branch 85 (.leaf (82, .ifCond .eq 104, 85, 0)) (.leaf (85, .aload 0, 86, 0)))) (.branch 91 (.branch 88 (.leaf (86, .iload 4, 88, 0)) (.leaf (88, .invokevirtual 158, 91, 1170))) (.branch 94 (.leaf (91, .ifCond .ne 104, 94, 0)) (.leaf (94, .aload 0, 95, 0)))))))) (.branch 143 (.branch 120 (.branch 105 (.branch 100 (.branch 96 (.leaf (95, .ldc 4, 96, 0)) (.branch 97 (.leaf (96, .aload 0, 97, 0)) (.leaf (97, .getfield 746, 100, 979)))) (.branch 103 (.leaf (100, .invokevirtual 215, 103, 1420)) (.branch 104 (.leaf (103, .ireturn, 104, 0)) (.leaf (104, .aload 0, 105, 0))))) (.branch 112 (.branch 108 (.leaf (105, .getfield 756, 108, 989)) (.branch 109 (.leaf (108, .ldc 0, 109, 0)) (.leaf (109, .invokestatic 143, 112, 934)))) (.branch 116 (.branch 113 (.leaf (112, .aload 0, 113, 0)) (.leaf (113, .getfield 754, 116, 987))) (.branch 119 (.leaf (116, .ifCond .eq 132, 119, 0)) (.leaf (119, .aload 0, 120, 0)))))) (.branch 132 (.branch 127 (.branch 123 (.leaf (120, .getfield 756, 123, 989)) (.branch 125 (.leaf (123, .iload 4, 125, 0)) (.leaf (125, .iload 4, 127, 0)))) (.branch 128 (.leaf (127, .ldc 1, 128, 0)) (.branch 129 (.leaf (128, .iadd, 129, 0)) (.leaf (129, .invokestatic 159, 132, 1174))))) (.branch 137 (.branch 133 (.leaf (132, .aload 0, 133, 0)) (.branch 134 (.leaf (133, .dup, 134, 0)) (.leaf (134, .getfield 746, 137, 979)))) (.branch 139 (.branch 138 (.leaf (137, .ldc 1, 138, 0)) (.leaf (138, .iadd, 139, 0))) (.branch 142 (.leaf (139, .putfield 746, 142, 979)) (.leaf (142, .ldc 1, 143, 0))))))) (.branch 165 (.branch 152 (.branch 147 (.branch 144 (.leaf (143, .ireturn, 144, 0)) (.branch 145 (.leaf (144, .iload 2, 145, 0)) (.leaf (145, .ldc 40, 147, 0)))) (.branch 150 (.leaf (147, .if_icmp .ne 165, 150, 0)) (.branch 151 (.leaf (150, .aload 0, 151, 0)) (.leaf (151, .dup, 152, 0))))) (.branch 157 (.branch 155 (.leaf (152, .getfield 746, 155, 979)) (.branch 156 (.leaf (155, .ldc 1, 156, 0)) (.leaf (156, .iadd, 157, 0)))) (.branch 161 (.branch 160 (.leaf (157, .putfield 746, 160, 979)) (.leaf (160, .aload 0, 161, 0))) (.branch 164 (.leaf (161, .invokevirtual 217, 164, 1428)) (.leaf (164, .ireturn, 165, 0)))))) (.branch 176 (.branch 171 (.branch 166 (.leaf (165, .iload 2, 166, 0)) (.branch 168 (.leaf (166, .ldc 126, 168, 0)) (.leaf (168, .if_icmp .ne 213, 171, 0)))) (.branch 172 (.leaf (171, .aload 0, 172, 0)) (.branch 173 (.leaf (172, .dup, 173, 0)) (.leaf (173, .getfield 746, 176, 979))))) (.branch 181 (.branch 177 (.leaf (176, .ldc 1, 177, 0)) (.branch 178 (.leaf (177, .iadd, 178, 0)) (.leaf (178, .putfield 746, 181, 979)))) (.branch 183 (.branch 182 (.leaf (181, .aload 0, 182, 0)) (.leaf (182, .ldc 3, 183, 0))) (.branch 184 (.leaf (183, .iload 3, 184, 0)) (.leaf (184, .invokevirtual 214, 187, 1424))))))))) (.branch 274 (.branch 230 (.branch 208 (.branch 197 (.branch 192 (.branch 188 (.leaf (187, .aload 0, 188, 0)) (.branch 189 (.leaf (188, .iload 1, 189, 0)) (.leaf (189, .invokevirtual 218, 192, 1406)))) (.branch 195 (.leaf (192, .ifCond .ne 197, 195, 0)) (.branch 196 (.leaf (195, .ldc 0, 196, 0)) (.leaf (196, .ireturn, 197, 0))))) (.branch 202 (.branch 198 (.leaf (197, .aload 0, 198, 0)) (.branch 199 (.leaf (198, .dup, 199, 0)) (.leaf (199, .getfield 749, 202, 982)))) (.branch 204 (.branch 203 (.leaf (202, .ldc 1, 203, 0)) (.leaf (203, .isub, 204, 0))) (.branch 207 (.leaf (204, .putfield 749, 207, 982)) (.leaf (207, .aload 0, 208, 0)))))) (.branch 219 (.branch 213 (.branch 211 (.leaf (208, .invokevirtual 219, 211, 1432)) (.branch 212 (.leaf (211, .ldc 1, 212, 0)) (.leaf (212, .ireturn, 213, 0)))) (.branch 214 (.leaf (213, .iload 2, 214, 0)) (.branch 216 (.leaf (214, .ldc 91, 216, 0)) (.leaf (216, .if_icmp .ne 227, 219, 0))))) (.branch 224 (.branch 220 (.leaf (219, .aload 0, 220, 0)) (.branch 223 (.leaf (220, .getfield 750, 223, 983)) (.leaf (223, .ldc 3, 224, 0)))) (.branch 228 (.branch 227 (.leaf (224, .if_icmp .ne 237, 227, 0)) (.leaf (227, .aload 0, 228, 0))) (.branch 229 (.leaf (228, .ldc 1, 229, 0)) (.leaf (229, .aload 0, 230, 0))))))) (.branch 253 (.branch 242 (.branch 237 (.branch 233 (.leaf (230, .getfield 746, 233, 979)) (.branch 236 (.leaf (233, .invokevirtual 215, 236, 1420)) (.leaf (236, .ireturn, 237, 0)))) (.branch 238 (.leaf (237, .aload 0, 238, 0)) (.branch 239 (.leaf (238, .dup, 239, 0)) (.leaf (239, .getfield 746, 242, 979))))) (.branch 247 (.branch 243 (.leaf (242, .ldc 1, 243, 0)) (.branch 244 (.leaf (243, .iadd, 244, 0)) (.leaf (244, .putfield 746, 247, 979)))) (.branch 249 (.branch 248 (.leaf (247, .aload 0, 248, 0)) (.leaf (248, .dup, 249, 0))) (.branch 252 (.leaf (249, .getfield 750, 252, 983)) (.leaf (252, .ldc 1, 253, 0)))))) (.branch 263 (.branch 258 (.branch 254 (.leaf (253, .iadd, 254, 0)) (.branch 257 (.leaf (254, .putfield 750, 257, 983)) (.leaf (257, .aload 0, 258, 0)))) (.branch 259 (.leaf (258, .ldc 2, 259, 0)) (.branch 260 (.leaf (259, .iload 3, 260, 0)) (.leaf (260, .invokevirtual 214, 263, 1424))))) (.branch 266 (.branch 264 (.leaf (263, .aload 0, 264, 0)) (.branch 265 (.leaf (264, .iload 1, 265, 0)) (.leaf (265, .ldc 1, 266, 0)))) (.branch 270 (.branch 267 (.leaf (266, .iadd, 267, 0)) (.leaf (267, .invokevirtual 220, 270, 1402))) (.branch 273 (.leaf (270, .ifCond .ne 275, 273, 0)) (.leaf (273, .ldc 0, 274, 0)))))))) (.branch 319 (.branch 296 (.branch 285 (.branch 279 (.branch 275 (.leaf (274, .ireturn, 275, 0)) (.branch 276 (.leaf (275, .aload 0, 276, 0)) (.leaf (276, .invokevirtual 213, 279, 1410)))) (.branch 281 (.leaf (279, .ldc 93, 281, 0)) (.branch 284 (.leaf (281, .if_icmp .eq 294, 284, 0)) (.leaf (284, .aload 0, 285, 0))))) (.branch 290 (.branch 286 (.leaf (285, .ldc 1, 286, 0)) (.branch 287 (.leaf (286, .aload 0, 287, 0)) (.leaf (287, .getfield 746, 290, 979)))) (.branch 294 (.branch 293 (.leaf (290, .invokevirtual 215, 293, 1420)) (.leaf (293, .ireturn, 294, 0))) (.branch 295 (.leaf (294, .aload 0, 295, 0)) (.leaf (295, .dup, 296, 0)))))) (.branch 306 (.branch 301 (.branch 299 (.leaf (296, .getfield 746, 299, 979)) (.branch 300 (.leaf (299, .ldc 1, 300, 0)) (.leaf (300, .iadd, 301, 0)))) (.branch 304 (.leaf (301, .putfield 746, 304, 979)) (.branch 305 (.leaf (304, .aload 0, 305, 0)) (.leaf (305, .dup, 306, 0))))) (.branch 311 (.branch 309 (.leaf (306, .getfield 750, 309, 983)) (.branch 310 (.leaf (309, .ldc 1, 310, 0)) (.leaf (310, .isub, 311, 0)))) (.branch 315 (.branch 314 (.leaf (311, .putfield 750, 314, 983)) (.leaf (314, .aload 0, 315, 0))) (.branch 316 (.leaf (315, .dup, 316, 0)) (.leaf (316, .getfield 749, 319, 982))))))) (.branch 343 (.branch 329 (.branch 324 (.branch 320 (.leaf (319, .ldc 1, 320, 0)) (.branch 321 (.leaf (320, .isub, 321, 0)) (.leaf (321, .putfield 749, 324, 982)))) (.branch 325 (.leaf (324, .ldc 1, 325, 0)) (.branch 327 (.leaf (325, .istore 4, 327, 0)) (.leaf (327, .iload 4, 329, 0))))) (.branch 334 (.branch 330 (.leaf (329, .ldc 5, 330, 0)) (.branch 333 (.leaf (330, .if_icmp .gt 360, 333, 0)) (.leaf (333, .aload 0, 334, 0)))) (.branch 339 (.branch 337 (.leaf (334, .getfield 756, 337, 989)) (.leaf (337, .iload 4, 339, 0))) (.branch 340 (.leaf (339, .aload 0, 340, 0)) (.leaf (340, .getfield 755, 343, 988)))))) (.branch 351 (.branch 347 (.branch 345 (.leaf (343, .ldc 6, 345, 0)) (.branch 346 (.leaf (345, .iload 1, 346, 0)) (.leaf (346, .ldc 1, 347, 0)))) (.branch 348 (.leaf (347, .iadd, 348, 0)) (.branch 349 (.leaf (348, .imul, 349, 0)) (.leaf (349, .iload 4, 351, 0))))) (.branch 354 (.branch 352 (.leaf (351, .iadd, 352, 0)) (.branch 353 (.leaf (352, .iaload, 353, 0)) (.leaf (353, .iastore, 354, 0)))) (.branch 360 (.branch 357 (.leaf (354, .iinc 4 1, 357, 0)) (.leaf (357, .goto 327, 360, 0))) (.branch 361 (.leaf (360, .ldc 1, 361, 0)) (.leaf (361, .ireturn, 362, 0))))))))))
set_option maxRecDepth 100000 in
def pg_219 : Lean.RArray sIn := (.branch 25 (.branch 11 (.branch 3 (.branch 1 (.leaf (0, .ldc 1, 1, 0)) (.branch 2 (.leaf (1, .istore 1, 2, 0)) (.leaf (2, .iload 1, 3, 0)))) (.branch 7 (.branch 4 (.leaf (3, .ldc 5, 4, 0)) (.leaf (4, .if_icmp .gt 25, 7, 0))) (.branch 8 (.leaf (7, .aload 0, 8, 0)) (.leaf (8, .getfield 727, 11, 960))))) (.branch 17 (.branch 15 (.branch 12 (.leaf (11, .aload 0, 12, 0)) (.leaf (12, .getfield 756, 15, 989))) (.branch 16 (.leaf (15, .iload 1, 16, 0)) (.leaf (16, .iaload, 17, 0)))) (.branch 19 (.branch 18 (.leaf (17, .iload 1, 18, 0)) (.leaf (18, .iastore, 19, 0))) (.branch 22 (.leaf (19, .iinc 1 1, 22, 0)) (.leaf (22, .goto 2, 25, 0)))))) (.branch 37 (.branch 29 (.branch 27 (.branch 26 (.leaf (25, .ldc 1, 26, 0)) (.leaf (26, .istore 1, 27, 0))) (.branch 28 (.leaf (27, .iload 1, 28, 0)) (.leaf (28, .ldc 5, 29, 0)))) (.branch 33 (.branch 32 (.leaf (29, .if_icmp .gt 50, 32, 0)) (.leaf (32, .aload 0, 33, 0))) (.branch 36 (.leaf (33, .getfield 756, 36, 989)) (.leaf (36, .iload 1, 37, 0))))) (.branch 43 (.branch 41 (.branch 38 (.leaf (37, .aload 0, 38, 0)) (.leaf (38, .getfield 727, 41, 960))) (.branch 42 (.leaf (41, .iload 1, 42, 0)) (.leaf (42, .iaload, 43, 0)))) (.branch 47 (.branch 44 (.leaf (43, .iastore, 44, 0)) (.leaf (44, .iinc 1 1, 47, 0))) (.branch 50 (.leaf (47, .goto 27, 50, 0)) (.leaf (50, .return_, 51, 0)))))))
set_option maxRecDepth 100000 in
def pg_220 : Lean.RArray sIn := (.branch 63 (.branch 30 (.branch 14 (.branch 7 (.branch 4 (.branch 1 (.leaf (0, .aload 0, 1, 0)) (.leaf (1, .getfield 755, 4, 988))) (.branch 6 (.leaf (4, .ldc 6, 6, 0)) (.leaf (6, .iload 1, 7, 0)))) (.branch 11 (.branch 8 (.leaf (7, .imul, 8, 0)) (.leaf (8, .invokestatic 143, 11, 934))) (.branch 12 (.leaf (11, .ldc 1, 12, 0)) (.branch 13 (.leaf (12, .istore 2, 13, 0)) (.leaf (13, .iload 2, 14, 0)))))) (.branch 25 (.branch 18 (.branch 17 (.leaf (14, .ifCond .eq 128, 17, 0)) (.leaf (17, .aload 0, 18, 0))) (.branch 19 (.leaf (18, .iload 1, 19, 0)) (.branch 22 (.leaf (19, .invokevirtual 218, 22, 1406)) (.leaf (22, .ifCond .ne 27, 25, 0))))) (.branch 27 (.branch 26 (.leaf (25, .ldc 0, 26, 0)) (.leaf (26, .ireturn, 27, 0))) (.branch 28 (.leaf (27, .ldc 1, 28, 0)) (.branch 29 (.leaf (28, .istore 3, 29, 0)) (.leaf (29, .iload 3, 30, 0))))))) (.branch 47 (.branch 39 (.branch 34 (.branch 31 (.leaf (30, .ldc 5, 31, 0)) (.leaf (31, .if_icmp .gt 62, 34, 0))) (.branch 35 (.leaf (34, .aload 0, 35, 0)) (.branch 38 (.leaf (35, .getfield 727, 38, 960)) (.leaf (38, .iload 3, 39, 0))))) (.branch 43 (.branch 40 (.leaf (39, .aload 0, 40, 0)) (.leaf (40, .getfield 755, 43, 988))) (.branch 45 (.leaf (43, .ldc 6, 45, 0)) (.branch 46 (.leaf (45, .iload 1, 46, 0)) (.leaf (46, .imul, 47, 0)))))) (.branch 54 (.branch 51 (.branch 48 (.leaf (47, .aload 0, 48, 0)) (.leaf (48, .getfield 756, 51, 989))) (.branch 52 (.leaf (51, .iload 3, 52, 0)) (.branch 53 (.leaf (52, .iaload, 53, 0)) (.leaf (53, .iadd, 54, 0))))) (.branch 56 (.branch 55 (.leaf (54, .iaload, 55, 0)) (.leaf (55, .iastore, 56, 0))) (.branch 59 (.leaf (56, .iinc 3 1, 59, 0)) (.branch 62 (.leaf (59, .goto 29, 62, 0)) (.leaf (62, .ldc 1, 63, 0)))))))) (.branch 93 (.branch 77 (.branch 69 (.branch 65 (.branch 64 (.leaf (63, .istore 3, 64, 0)) (.leaf (64, .iload 3, 65, 0))) (.branch 66 (.leaf (65, .ldc 5, 66, 0)) (.leaf (66, .if_icmp .gt 92, 69, 0)))) (.branch 73 (.branch 70 (.leaf (69, .aload 0, 70, 0)) (.leaf (70, .getfield 755, 73, 988))) (.branch 75 (.leaf (73, .ldc 6, 75, 0)) (.branch 76 (.leaf (75, .iload 1, 76, 0)) (.leaf (76, .imul, 77, 0)))))) (.branch 84 (.branch 79 (.branch 78 (.leaf (77, .iload 3, 78, 0)) (.leaf (78, .iadd, 79, 0))) (.branch 80 (.leaf (79, .aload 0, 80, 0)) (.branch 83 (.leaf (80, .getfield 727, 83, 960)) (.leaf (83, .iload 3, 84, 0))))) (.branch 86 (.branch 85 (.leaf (84, .iaload, 85, 0)) (.leaf (85, .iastore, 86, 0))) (.branch 89 (.leaf (86, .iinc 3 1, 89, 0)) (.branch 92 (.leaf (89, .goto 64, 92, 0)) (.leaf (92, .aload 0, 93, 0))))))) (.branch 112 (.branch 105 (.branch 98 (.branch 96 (.leaf (93, .invokevirtual 213, 96, 1410)) (.leaf (96, .ldc 42, 98, 0))) (.branch 101 (.leaf (98, .if_icmp .ne 105, 101, 0)) (.branch 102 (.leaf (101, .ldc 1, 102, 0)) (.leaf (102, .goto 106, 105, 0))))) (.branch 107 (.branch 106 (.leaf (105, .ldc 0, 106, 0)) (.leaf (106, .istore 2, 107, 0))) (.branch 108 (.leaf (107, .aload 0, 108, 0)) (.branch 109 (.leaf (108, .dup, 109, 0)) (.leaf (109, .getfield 746, 112, 979)))))) (.branch 121 (.branch 116 (.branch 113 (.leaf (112, .iload 2, 113, 0)) (.leaf (113, .ifCond .eq 120, 116, 0))) (.branch 117 (.leaf (116, .ldc 1, 117, 0)) (.branch 120 (.leaf (117, .goto 121, 120, 0)) (.leaf (120, .ldc 0, 121, 0))))) (.branch 125 (.branch 122 (.leaf (121, .iadd, 122, 0)) (.leaf (122, .putfield 746, 125, 979))) (.branch 128 (.leaf (125, .goto 13, 128, 0)) (.branch 129 (.leaf (128, .ldc 1, 129, 0)) (.leaf (129, .ireturn, 130, 0)))))))))
set_option maxRecDepth 100000 in
def pg_221 : Lean.RArray sIn := (.branch 25 (.branch 11 (.branch 5 (.branch 1 (.leaf (0, .aload 0, 1, 0)) (.branch 2 (.leaf (1, .iload 1, 2, 0)) (.leaf (2, .putstatic 754, 5, 987)))) (.branch 7 (.branch 6 (.leaf (5, .aload 0, 6, 0)) (.leaf (6, .ldc 0, 7, 0))) (.branch 10 (.leaf (7, .putfield 746, 10, 979)) (.leaf (10, .aload 0, 11, 0))))) (.branch 17 (.branch 15 (.branch 12 (.leaf (11, .ldc 0, 12, 0)) (.leaf (12, .putfield 749, 15, 982))) (.branch 16 (.leaf (15, .aload 0, 16, 0)) (.leaf (16, .ldc 0, 17, 0)))) (.branch 21 (.branch 20 (.leaf (17, .putfield 750, 20, 983)) (.leaf (20, .aload 0, 21, 0))) (.branch 22 (.leaf (21, .ldc 0, 22, 0)) (.leaf (22, .invokevirtual 220, 25, 1402)))))) (.branch 41 (.branch 33 (.branch 29 (.branch 28 (.leaf (25, .ifCond .eq 55, 28, 0)) (.leaf (28, .aload 0, 29, 0))) (.branch 32 (.leaf (29, .getfield 746, 32, 979)) (.leaf (32, .aload 0, 33, 0)))) (.branch 39 (.branch 36 (.leaf (33, .getfield 745, 36, 978)) (.leaf (36, .if_icmp .eq 51, 39, 0))) (.branch 40 (.leaf (39, .aload 0, 40, 0)) (.leaf (40, .ldc 1, 41, 0))))) (.branch 51 (.branch 45 (.branch 42 (.leaf (41, .aload 0, 42, 0)) (.leaf (42, .getfield 746, 45, 979))) (.branch 48 (.leaf (45, .invokevirtual 215, 48, 1420)) (.leaf (48, .ifCond .eq 55, 51, 0)))) (.branch 55 (.branch 52 (.leaf (51, .ldc 1, 52, 0)) (.leaf (52, .goto 56, 55, 0))) (.branch 56 (.leaf (55, .ldc 0, 56, 0)) (.leaf (56, .ireturn, 57, 0)))))))
set_option maxRecDepth 100000 in
def pg_222 : Lean.RArray sIn := (.branch 44 (.branch 21 (.branch 10 (.branch 7 (.branch 1 (.leaf (0, .iload 1, 1, 0)) (.branch 4 (.leaf (1, .invokestatic 155, 4, 1166)) (.leaf (4, .ifCond .ne 9, 7, 0)))) (.branch 8 (.leaf (7, .ldc 4294967295, 8, 0)) (.branch 9 (.leaf (8, .ireturn, 9, 0)) (.leaf (9, .aload 0, 10, 0))))) (.branch 15 (.branch 11 (.leaf (10, .ldc 0, 11, 0)) (.branch 14 (.leaf (11, .invokevirtual 221, 14, 1398)) (.leaf (14, .istore 2, 15, 0)))) (.branch 19 (.branch 16 (.leaf (15, .iload 2, 16, 0)) (.leaf (16, .ifCond .ne 39, 19, 0))) (.branch 20 (.leaf (19, .aload 0, 20, 0)) (.leaf (20, .ldc 0, 21, 0)))))) (.branch 35 (.branch 27 (.branch 24 (.leaf (21, .putfield 745, 24, 978)) (.branch 26 (.leaf (24, .ldc 4294967196, 26, 0)) (.leaf (26, .aload 0, 27, 0)))) (.branch 31 (.branch 30 (.leaf (27, .getfield 752, 30, 985)) (.leaf (30, .aload 0, 31, 0))) (.branch 34 (.leaf (31, .getfield 753, 34, 986)) (.leaf (34, .ldc 1, 35, 0))))) (.branch 38 (.branch 36 (.leaf (35, .isub, 36, 0)) (.branch 37 (.leaf (36, .iaload, 37, 0)) (.leaf (37, .isub, 38, 0)))) (.branch 40 (.branch 39 (.leaf (38, .ireturn, 39, 0)) (.leaf (39, .aload 0, 40, 0))) (.branch 41 (.leaf (40, .ldc 1, 41, 0)) (.leaf (41, .invokevirtual 221, 44, 1398))))))) (.branch 64 (.branch 54 (.branch 47 (.branch 45 (.leaf (44, .istore 2, 45, 0)) (.branch 46 (.leaf (45, .aload 0, 46, 0)) (.leaf (46, .ldc 0, 47, 0)))) (.branch 50 (.leaf (47, .putfield 745, 50, 978)) (.branch 51 (.leaf (50, .iload 2, 51, 0)) (.leaf (51, .ifCond .ne 57, 54, 0))))) (.branch 58 (.branch 56 (.leaf (54, .ldc 4294967294, 56, 0)) (.branch 57 (.leaf (56, .ireturn, 57, 0)) (.leaf (57, .ldc 1, 58, 0)))) (.branch 60 (.branch 59 (.leaf (58, .istore 3, 59, 0)) (.leaf (59, .iload 3, 60, 0))) (.branch 61 (.leaf (60, .ldc 5, 61, 0)) (.leaf (61, .if_icmp .gt 82, 64, 0)))))) (.branch 75 (.branch 69 (.branch 65 (.leaf (64, .aload 0, 65, 0)) (.branch 68 (.leaf (65, .getfield 720, 68, 953)) (.leaf (68, .iload 3, 69, 0)))) (.branch 73 (.branch 70 (.leaf (69, .aload 0, 70, 0)) (.leaf (70, .getfield 755, 73, 988))) (.branch 74 (.leaf (73, .iload 3, 74, 0)) (.leaf (74, .iaload, 75, 0))))) (.branch 82 (.branch 76 (.leaf (75, .iastore, 76, 0)) (.branch 79 (.leaf (76, .iinc 3 1, 79, 0)) (.leaf (79, .goto 59, 82, 0)))) (.branch 84 (.branch 83 (.leaf (82, .aload 0, 83, 0)) (.leaf (83, .iload 1, 84, 0))) (.branch 87 (.leaf (84, .invokevirtual 160, 87, 1177)) (.leaf (87, .ireturn, 88, 0))))))))
set_option maxRecDepth 100000 in
def pg_223 : Lean.RArray sIn := (.branch 24 (.branch 11 (.branch 5 (.branch 1 (.leaf (0, .iload 1, 1, 0)) (.branch 4 (.leaf (1, .ifCond .lt 14, 4, 0)) (.leaf (4, .iload 2, 5, 0)))) (.branch 7 (.branch 6 (.leaf (5, .i2l, 6, 0)) (.leaf (6, .ldc2_w 0, 7, 0))) (.branch 8 (.leaf (7, .ldc2_w 1, 8, 0)) (.leaf (8, .invokestatic 140, 11, 1146))))) (.branch 16 (.branch 14 (.leaf (11, .ifCond .ne 16, 14, 0)) (.branch 15 (.leaf (14, .ldc 4294967295, 15, 0)) (.leaf (15, .ireturn, 16, 0)))) (.branch 18 (.branch 17 (.leaf (16, .iload 1, 17, 0)) (.leaf (17, .aload 0, 18, 0))) (.branch 21 (.leaf (18, .getfield 753, 21, 986)) (.leaf (21, .if_icmp .lt 29, 24, 0)))))) (.branch 38 (.branch 30 (.branch 26 (.leaf (24, .ldc 4294967294, 26, 0)) (.branch 29 (.leaf (26, .goto 48, 29, 0)) (.leaf (29, .iload 2, 30, 0)))) (.branch 34 (.branch 33 (.leaf (30, .ifCond .ne 42, 33, 0)) (.leaf (33, .aload 0, 34, 0))) (.branch 37 (.leaf (34, .getfield 751, 37, 984)) (.leaf (37, .iload 1, 38, 0))))) (.branch 43 (.branch 39 (.leaf (38, .iaload, 39, 0)) (.branch 42 (.leaf (39, .goto 48, 42, 0)) (.leaf (42, .aload 0, 43, 0)))) (.branch 47 (.branch 46 (.leaf (43, .getfield 752, 46, 985)) (.leaf (46, .iload 1, 47, 0))) (.branch 48 (.leaf (47, .iaload, 48, 0)) (.leaf (48, .ireturn, 49, 0)))))))
set_option maxRecDepth 100000 in
def pg_224 : Lean.RArray sIn := (.branch 9 (.branch 3 (.branch 1 (.leaf (0, .ldc 0, 1, 0)) (.branch 2 (.leaf (1, .istore 2, 2, 0)) (.leaf (2, .iload 2, 3, 0)))) (.branch 5 (.branch 4 (.leaf (3, .aload 0, 4, 0)) (.leaf (4, .arraylength, 5, 0))) (.branch 8 (.leaf (5, .if_icmp .ge 20, 8, 0)) (.leaf (8, .aload 1, 9, 0))))) (.branch 13 (.branch 11 (.branch 10 (.leaf (9, .iload 2, 10, 0)) (.leaf (10, .aload 0, 11, 0))) (.branch 12 (.leaf (11, .iload 2, 12, 0)) (.leaf (12, .iaload, 13, 0)))) (.branch 17 (.branch 14 (.leaf (13, .iastore, 14, 0)) (.leaf (14, .iinc 2 1, 17, 0))) (.branch 20 (.leaf (17, .goto 2, 20, 0)) (.leaf (20, .return_, 21, 0))))))
set_option maxRecDepth 100000 in
def pg_225 : Lean.RArray sIn := (.branch 31 (.branch 13 (.branch 5 (.branch 1 (.leaf (0, .aload 0, 1, 0)) (.branch 2 (.leaf (1, .ldc 1, 2, 0)) (.leaf (2, .putstatic 757, 5, 990)))) (.branch 9 (.branch 6 (.leaf (5, .aload 0, 6, 0)) (.leaf (6, .getfield 704, 9, 937))) (.branch 10 (.leaf (9, .aload 0, 10, 0)) (.leaf (10, .getfield 758, 13, 991))))) (.branch 21 (.branch 17 (.branch 16 (.leaf (13, .invokestatic 224, 16, 1444)) (.leaf (16, .aload 0, 17, 0))) (.branch 20 (.leaf (17, .getfield 711, 20, 944)) (.leaf (20, .aload 0, 21, 0)))) (.branch 27 (.branch 24 (.leaf (21, .getfield 759, 24, 992)) (.leaf (24, .invokestatic 224, 27, 1444))) (.branch 28 (.leaf (27, .aload 0, 28, 0)) (.leaf (28, .getfield 712, 31, 945)))))) (.branch 49 (.branch 39 (.branch 35 (.branch 32 (.leaf (31, .aload 0, 32, 0)) (.leaf (32, .getfield 760, 35, 993))) (.branch 38 (.leaf (35, .invokestatic 224, 38, 1444)) (.leaf (38, .aload 0, 39, 0)))) (.branch 43 (.branch 42 (.leaf (39, .getfield 713, 42, 946)) (.leaf (42, .aload 0, 43, 0))) (.branch 46 (.leaf (43, .getfield 761, 46, 994)) (.leaf (46, .invokestatic 224, 49, 1444))))) (.branch 57 (.branch 53 (.branch 50 (.leaf (49, .aload 0, 50, 0)) (.leaf (50, .getfield 714, 53, 947))) (.branch 54 (.leaf (53, .aload 0, 54, 0)) (.leaf (54, .getfield 762, 57, 995)))) (.branch 61 (.branch 60 (.leaf (57, .invokestatic 224, 60, 1444)) (.leaf (60, .aload 0, 61, 0))) (.branch 64 (.leaf (61, .getfield 705, 64, 938)) (.leaf (64, .ireturn, 65, 0)))))))
set_option maxRecDepth 100000 in
def pg_226 : Lean.RArray sIn := (.branch 40 (.branch 18 (.branch 9 (.branch 4 (.branch 1 (.leaf (0, .aload 0, 1, 0)) (.leaf (1, .getfield 757, 4, 990))) (.branch 7 (.leaf (4, .ifCond .ne 10, 7, 0)) (.leaf (7, .ldc 4294967291, 9, 0)))) (.branch 11 (.branch 10 (.leaf (9, .ireturn, 10, 0)) (.leaf (10, .aload 0, 11, 0))) (.branch 14 (.leaf (11, .getfield 758, 14, 991)) (.branch 15 (.leaf (14, .aload 0, 15, 0)) (.leaf (15, .getfield 704, 18, 937)))))) (.branch 29 (.branch 22 (.branch 21 (.leaf (18, .invokestatic 224, 21, 1444)) (.leaf (21, .aload 0, 22, 0))) (.branch 25 (.leaf (22, .invokevirtual 142, 25, 926)) (.branch 26 (.leaf (25, .aload 0, 26, 0)) (.leaf (26, .getfield 759, 29, 992))))) (.branch 33 (.branch 30 (.leaf (29, .aload 0, 30, 0)) (.leaf (30, .getfield 711, 33, 944))) (.branch 36 (.leaf (33, .invokestatic 224, 36, 1444)) (.branch 37 (.leaf (36, .aload 0, 37, 0)) (.leaf (37, .getfield 760, 40, 993))))))) (.branch 59 (.branch 48 (.branch 44 (.branch 41 (.leaf (40, .aload 0, 41, 0)) (.leaf (41, .getfield 712, 44, 945))) (.branch 47 (.leaf (44, .invokestatic 224, 47, 1444)) (.leaf (47, .aload 0, 48, 0)))) (.branch 52 (.branch 51 (.leaf (48, .getfield 761, 51, 994)) (.leaf (51, .aload 0, 52, 0))) (.branch 55 (.leaf (52, .getfield 713, 55, 946)) (.branch 58 (.leaf (55, .invokestatic 224, 58, 1444)) (.leaf (58, .aload 0, 59, 0)))))) (.branch 70 (.branch 63 (.branch 62 (.leaf (59, .getfield 762, 62, 995)) (.leaf (62, .aload 0, 63, 0))) (.branch 66 (.leaf (63, .getfield 714, 66, 947)) (.branch 69 (.leaf (66, .invokestatic 224, 69, 1444)) (.leaf (69, .aload 0, 70, 0))))) (.branch 74 (.branch 71 (.leaf (70, .ldc 0, 71, 0)) (.leaf (71, .putfield 721, 74, 954))) (.branch 75 (.leaf (74, .aload 0, 75, 0)) (.branch 78 (.leaf (75, .getfield 705, 78, 938)) (.leaf (78, .ireturn, 79, 0))))))))
set_option maxRecDepth 100000 in
def pg_227 : Lean.RArray sIn := (.branch 15 (.branch 5 (.branch 2 (.branch 1 (.leaf (0, .ldc 0, 1, 0)) (.leaf (1, .istore 1, 2, 0))) (.branch 3 (.leaf (2, .ldc 0, 3, 0)) (.branch 4 (.leaf (3, .istore 2, 4, 0)) (.leaf (4, .iload 2, 5, 0))))) (.branch 10 (.branch 6 (.leaf (5, .ldc 4, 6, 0)) (.branch 9 (.leaf (6, .if_icmp .ge 32, 9, 0)) (.leaf (9, .iload 1, 10, 0)))) (.branch 11 (.leaf (10, .aload 0, 11, 0)) (.branch 14 (.leaf (11, .getfield 712, 14, 945)) (.leaf (14, .iload 2, 15, 0)))))) (.branch 24 (.branch 19 (.branch 16 (.leaf (15, .iaload, 16, 0)) (.leaf (16, .ifCond .eq 23, 19, 0))) (.branch 20 (.leaf (19, .ldc 1, 20, 0)) (.branch 23 (.leaf (20, .goto 24, 23, 0)) (.leaf (23, .ldc 0, 24, 0))))) (.branch 29 (.branch 25 (.leaf (24, .iadd, 25, 0)) (.branch 26 (.leaf (25, .istore 1, 26, 0)) (.leaf (26, .iinc 2 1, 29, 0)))) (.branch 32 (.leaf (29, .goto 4, 32, 0)) (.branch 33 (.leaf (32, .iload 1, 33, 0)) (.leaf (33, .ireturn, 34, 0)))))))
set_option maxRecDepth 100000 in
def pg_228 : Lean.RArray sIn := (.branch 14 (.branch 5 (.branch 2 (.branch 1 (.leaf (0, .ldc 0, 1, 0)) (.leaf (1, .istore 1, 2, 0))) (.branch 3 (.leaf (2, .ldc 0, 3, 0)) (.branch 4 (.leaf (3, .istore 2, 4, 0)) (.leaf (4, .iload 2, 5, 0))))) (.branch 9 (.branch 6 (.leaf (5, .ldc 4, 6, 0)) (.leaf (6, .if_icmp .ge 31, 9, 0))) (.branch 10 (.leaf (9, .aload 0, 10, 0)) (.branch 11 (.leaf (10, .iload 2, 11, 0)) (.leaf (11, .invokevirtual 156, 14, 1206)))))) (.branch 23 (.branch 16 (.branch 15 (.leaf (14, .iload 1, 15, 0)) (.leaf (15, .aload 0, 16, 0))) (.branch 17 (.leaf (16, .aload 0, 17, 0)) (.branch 20 (.leaf (17, .getfield 719, 20, 952)) (.leaf (20, .invokevirtual 157, 23, 1181))))) (.branch 28 (.branch 24 (.leaf (23, .iadd, 24, 0)) (.branch 25 (.leaf (24, .istore 1, 25, 0)) (.leaf (25, .iinc 2 1, 28, 0)))) (.branch 31 (.leaf (28, .goto 4, 31, 0)) (.branch 32 (.leaf (31, .iload 1, 32, 0)) (.leaf (32, .ireturn, 33, 0)))))))
set_option maxRecDepth 100000 in
def pg_229 : Lean.RArray sIn := (.branch 47 (.branch 40 (.branch 36 (.branch 1 (.leaf (0, .iload 1, 1, 0)) (.leaf (1, .lookupswitch 61 #[(0, 36), (1, 41), (2, 46), (3, 51), (4, 56)], 36, 0))) (.branch 37 (.leaf (36, .aload 0, 37, 0)) (.leaf (37, .getfield 721, 40, 954)))) (.branch 42 (.branch 41 (.leaf (40, .ireturn, 41, 0)) (.leaf (41, .aload 0, 42, 0))) (.branch 45 (.leaf (42, .getfield 745, 45, 978)) (.branch 46 (.leaf (45, .ireturn, 46, 0)) (.leaf (46, .aload 0, 47, 0)))))) (.branch 56 (.branch 51 (.branch 50 (.leaf (47, .getfield 753, 50, 986)) (.leaf (50, .ireturn, 51, 0))) (.branch 52 (.leaf (51, .aload 0, 52, 0)) (.branch 55 (.leaf (52, .invokevirtual 227, 55, 1455)) (.leaf (55, .ireturn, 56, 0))))) (.branch 60 (.branch 57 (.leaf (56, .aload 0, 57, 0)) (.leaf (57, .invokevirtual 228, 60, 1459))) (.branch 61 (.leaf (60, .ireturn, 61, 0)) (.branch 62 (.leaf (61, .ldc 4294967295, 62, 0)) (.leaf (62, .ireturn, 63, 0)))))))
set_option maxRecDepth 100000 in
def pg_230 : Lean.RArray sIn := (.branch 27 (.branch 14 (.branch 7 (.branch 2 (.branch 1 (.leaf (0, .iload 0, 1, 0)) (.leaf (1, .iload 0, 2, 0))) (.branch 3 (.leaf (2, .ldc 1, 3, 0)) (.branch 4 (.leaf (3, .iushr, 4, 0)) (.leaf (4, .ldc 1431655765, 7, 556))))) (.branch 9 (.branch 8 (.leaf (7, .iand, 8, 0)) (.leaf (8, .isub, 9, 0))) (.branch 10 (.leaf (9, .istore 0, 10, 0)) (.branch 11 (.leaf (10, .iload 0, 11, 0)) (.leaf (11, .ldc 858993459, 14, 557)))))) (.branch 21 (.branch 16 (.branch 15 (.leaf (14, .iand, 15, 0)) (.leaf (15, .iload 0, 16, 0))) (.branch 17 (.leaf (16, .ldc 2, 17, 0)) (.branch 18 (.leaf (17, .iushr, 18, 0)) (.leaf (18, .ldc 858993459, 21, 557))))) (.branch 24 (.branch 22 (.leaf (21, .iand, 22, 0)) (.branch 23 (.leaf (22, .iadd, 23, 0)) (.leaf (23, .istore 0, 24, 0)))) (.branch 25 (.leaf (24, .iload 0, 25, 0)) (.branch 26 (.leaf (25, .iload 0, 26, 0)) (.leaf (26, .ldc 4, 27, 0))))))) (.branch 40 (.branch 34 (.branch 29 (.branch 28 (.leaf (27, .iushr, 28, 0)) (.leaf (28, .iadd, 29, 0))) (.branch 32 (.leaf (29, .ldc 252645135, 32, 558)) (.branch 33 (.leaf (32, .iand, 33, 0)) (.leaf (33, .istore 0, 34, 0))))) (.branch 36 (.branch 35 (.leaf (34, .iload 0, 35, 0)) (.leaf (35, .iload 0, 36, 0))) (.branch 38 (.leaf (36, .ldc 8, 38, 0)) (.branch 39 (.leaf (38, .iushr, 39, 0)) (.leaf (39, .iadd, 40, 0)))))) (.branch 46 (.branch 42 (.branch 41 (.leaf (40, .istore 0, 41, 0)) (.leaf (41, .iload 0, 42, 0))) (.branch 43 (.leaf (42, .iload 0, 43, 0)) (.branch 45 (.leaf (43, .ldc 16, 45, 0)) (.leaf (45, .iushr, 46, 0))))) (.branch 49 (.branch 47 (.leaf (46, .iadd, 47, 0)) (.branch 48 (.leaf (47, .istore 0, 48, 0)) (.leaf (48, .iload 0, 49, 0)))) (.branch 51 (.leaf (49, .ldc 63, 51, 0)) (.branch 52 (.leaf (51, .iand, 52, 0)) (.leaf (52, .ireturn, 53, 0))))))))
set_option maxRecDepth 100000 in
def pg_231 : Lean.RArray sIn := (.branch 5 (.branch 3 (.branch 1 (.leaf (0, .iload 0, 1, 0)) (.leaf (1, .ldc 31, 3, 0))) (.branch 4 (.leaf (3, .ishr, 4, 0)) (.leaf (4, .iload 0, 5, 0)))) (.branch 8 (.branch 6 (.leaf (5, .ineg, 6, 0)) (.leaf (6, .ldc 31, 8, 0))) (.branch 9 (.leaf (8, .iushr, 9, 0)) (.branch 10 (.leaf (9, .ior, 10, 0)) (.leaf (10, .ireturn, 11, 0))))))
set_option maxRecDepth 100000 in
def pg_232 : Lean.RArray sIn := (.branch 6 (.branch 3 (.branch 1 (.leaf (0, .lload 0, 1, 0)) (.leaf (1, .ldc 63, 3, 0))) (.branch 4 (.leaf (3, .lshr, 4, 0)) (.branch 5 (.leaf (4, .lload 0, 5, 0)) (.leaf (5, .lneg, 6, 0))))) (.branch 9 (.branch 8 (.leaf (6, .ldc 63, 8, 0)) (.leaf (8, .lushr, 9, 0))) (.branch 10 (.leaf (9, .lor, 10, 0)) (.branch 11 (.leaf (10, .l2i, 11, 0)) (.leaf (11, .ireturn, 12, 0))))))
def pm_1 : sMe × sMi × (Nat × Nat × Nat × Nat) := ((pg_1, 2, 1, 0, 0), (⟨"SwapTables$FractionRow", "clear", "()V"⟩, prog_2_method_2_code, 2, none), (407, 79, 405, 406))
def pm_2 : sMe × sMi × (Nat × Nat × Nat × Nat) := ((pg_2, 14, 4, 0, 0), (⟨"SwapTables$FractionRow", "add", "(IJJ)V"⟩, prog_2_method_3_code, 14, none), (411, 79, 409, 410))
def pm_3 : sMe × sMi × (Nat × Nat × Nat × Nat) := ((pg_3, 11, 2, 99, 3), (⟨"SwapTables$FractionRow", "commonDivisor", "(JJ)J"⟩, prog_2_method_4_code, 11, (some FieldType.long)), (414, 79, 413, 0))
def pm_4 : sMe × sMi × (Nat × Nat × Nat × Nat) := ((pg_4, 3, 3, 0, 3), (⟨"SwapTables$FractionRow", "partAt", "(II)J"⟩, prog_2_method_5_code, 3, (some FieldType.long)), (689, 79, 687, 688))
def pm_6 : sMe × sMi × (Nat × Nat × Nat × Nat) := ((pg_6, 2, 2, 99, 1), (⟨"SwapTables$Orders", "target", "(II)I"⟩, prog_4_method_2_code, 2, (some FieldType.int)), (388, 88, 387, 0))
def pm_7 : sMe × sMi × (Nat × Nat × Nat × Nat) := ((pg_7, 4, 3, 99, 1), (⟨"SwapTables$Orders", "withTarget", "(III)I"⟩, prog_4_method_3_code, 4, (some FieldType.int)), (431, 88, 430, 0))
def pm_8 : sMe × sMi × (Nat × Nat × Nat × Nat) := ((pg_8, 4, 2, 99, 1), (⟨"SwapTables$Orders", "product", "(II)I"⟩, prog_4_method_4_code, 4, (some FieldType.int)), (577, 88, 576, 0))
def pm_9 : sMe × sMi × (Nat × Nat × Nat × Nat) := ((pg_9, 3, 1, 99, 1), (⟨"SwapTables$Orders", "turned", "(I)I"⟩, prog_4_method_5_code, 3, (some FieldType.int)), (601, 88, 600, 0))
def pm_10 : sMe × sMi × (Nat × Nat × Nat × Nat) := ((pg_10, 1, 1, 99, 1), (⟨"SwapTables$Orders", "neighbours", "(I)I"⟩, prog_4_method_6_code, 1, (some FieldType.int)), (427, 88, 426, 0))
def pm_11 : sMe × sMi × (Nat × Nat × Nat × Nat) := ((pg_11, 4, 1, 99, 1), (⟨"SwapTables$Orders", "length", "(I)I"⟩, prog_4_method_7_code, 4, (some FieldType.int)), (590, 88, 589, 0))
def pm_12 : sMe × sMi × (Nat × Nat × Nat × Nat) := ((pg_12, 5, 2, 99, 1), (⟨"SwapTables$Orders", "letter", "(II)I"⟩, prog_4_method_8_code, 5, (some FieldType.int)), (630, 88, 629, 0))
def pm_13 : sMe × sMi × (Nat × Nat × Nat × Nat) := ((pg_13, 3, 1, 99, 1), (⟨"SwapTables$Orders", "firstLetter", "(I)I"⟩, prog_4_method_9_code, 3, (some FieldType.int)), (633, 88, 632, 0))
def pm_14 : sMe × sMi × (Nat × Nat × Nat × Nat) := ((pg_14, 6, 2, 99, 1), (⟨"SwapTables$Orders", "typeOf", "(II)I"⟩, prog_4_method_10_code, 6, (some FieldType.int)), (614, 88, 613, 0))
def pm_15 : sMe × sMi × (Nat × Nat × Nat × Nat) := ((pg_15, 4, 2, 99, 1), (⟨"SwapTables$Orders", "cycleSize", "(II)I"⟩, prog_4_method_11_code, 4, (some FieldType.int)), (617, 88, 616, 0))
def pm_16 : sMe × sMi × (Nat × Nat × Nat × Nat) := ((pg_16, 4, 2, 99, 2), (⟨"SwapTables$Orders", "beginsCycle", "(II)Z"⟩, prog_4_method_12_code, 4, (some FieldType.boolean)), (620, 88, 619, 0))
def pm_17 : sMe × sMi × (Nat × Nat × Nat × Nat) := ((pg_17, 6, 1, 99, 1), (⟨"SwapTables$Orders", "ofType", "(I)I"⟩, prog_4_method_13_code, 6, (some FieldType.int)), (709, 88, 708, 0))
def pm_18 : sMe × sMi × (Nat × Nat × Nat × Nat) := ((pg_18, 5, 5, 99, 1), (⟨"SwapTables$Partitions", "codeOf", "(IIIII)I"⟩, prog_5_method_2_code, 5, (some FieldType.int)), (346, 86, 345, 0))
def pm_19 : sMe × sMi × (Nat × Nat × Nat × Nat) := ((pg_19, 2, 2, 99, 1), (⟨"SwapTables$Partitions", "part", "(II)I"⟩, prog_5_method_3_code, 2, (some FieldType.int)), (361, 86, 360, 0))
def pm_20 : sMe × sMi × (Nat × Nat × Nat × Nat) := ((pg_20, 3, 3, 99, 1), (⟨"SwapTables$Partitions", "withPart", "(III)I"⟩, prog_5_method_4_code, 3, (some FieldType.int)), (623, 86, 622, 0))
def pm_21 : sMe × sMi × (Nat × Nat × Nat × Nat) := ((pg_21, 3, 1, 99, 1), (⟨"SwapTables$Partitions", "size", "(I)I"⟩, prog_5_method_5_code, 3, (some FieldType.int)), (491, 86, 490, 0))
def pm_22 : sMe × sMi × (Nat × Nat × Nat × Nat) := ((pg_22, 1, 1, 99, 1), (⟨"SwapTables$Partitions", "amount", "(I)I"⟩, prog_5_method_6_code, 1, (some FieldType.int)), (506, 86, 505, 0))
def pm_23 : sMe × sMi × (Nat × Nat × Nat × Nat) := ((pg_23, 2, 2, 99, 1), (⟨"SwapTables$Partitions", "code", "(II)I"⟩, prog_5_method_7_code, 2, (some FieldType.int)), (511, 86, 510, 0))
def pm_24 : sMe × sMi × (Nat × Nat × Nat × Nat) := ((pg_24, 3, 2, 99, 1), (⟨"SwapTables$Partitions", "numberOf", "(II)I"⟩, prog_5_method_8_code, 3, (some FieldType.int)), (503, 86, 502, 0))
def pm_26 : sMe × sMi × (Nat × Nat × Nat × Nat) := ((pg_26, 4, 3, 2, 1), (⟨"SwapTables$Reader", "workOut", "(LSwapTables$Tape;I)I"⟩, prog_6_method_2_code, 4, (some FieldType.int)), (817, 83, 815, 816))
def pm_27 : sMe × sMi × (Nat × Nat × Nat × Nat) := ((pg_27, 2, 2, 2, 0), (⟨"SwapTables$Reader", "begin", "(I)V"⟩, prog_6_method_3_code, 2, none), (821, 83, 820, 15))
def pm_28 : sMe × sMi × (Nat × Nat × Nat × Nat) := ((pg_28, 2, 2, 2, 1), (⟨"SwapTables$Reader", "refuseFault", "(I)I"⟩, prog_6_method_4_code, 2, (some FieldType.int)), (886, 83, 885, 27))
def pm_29 : sMe × sMi × (Nat × Nat × Nat × Nat) := ((pg_29, 3, 3, 2, 0), (⟨"SwapTables$Reader", "refuse", "(II)V"⟩, prog_6_method_5_code, 3, none), (864, 83, 863, 23))
def pm_30 : sMe × sMi × (Nat × Nat × Nat × Nat) := ((pg_30, 2, 2, 2, 0), (⟨"SwapTables$Reader", "noteWrong", "(I)V"⟩, prog_6_method_6_code, 2, none), (860, 83, 859, 22))
def pm_31 : sMe × sMi × (Nat × Nat × Nat × Nat) := ((pg_31, 3, 3, 2, 2), (⟨"SwapTables$Reader", "goesOnWith", "(II)Z"⟩, prog_6_method_7_code, 3, (some FieldType.boolean)), (826, 83, 825, 16))
def pm_32 : sMe × sMi × (Nat × Nat × Nat × Nat) := ((pg_32, 3, 3, 2, 2), (⟨"SwapTables$Reader", "beginsPart", "(II)Z"⟩, prog_6_method_8_code, 3, (some FieldType.boolean)), (830, 83, 829, 17))
def pm_33 : sMe × sMi × (Nat × Nat × Nat × Nat) := ((pg_33, 2, 2, 2, 2), (⟨"SwapTables$Reader", "opensBracket", "(I)Z"⟩, prog_6_method_9_code, 2, (some FieldType.boolean)), (842, 83, 841, 19))
def pm_34 : sMe × sMi × (Nat × Nat × Nat × Nat) := ((pg_34, 4, 3, 2, 2), (⟨"SwapTables$Reader", "endsSwap", "(II)Z"⟩, prog_6_method_10_code, 4, (some FieldType.boolean)), (852, 83, 851, 21))
def pm_35 : sMe × sMi × (Nat × Nat × Nat × Nat) := ((pg_35, 1, 1, 2, 0), (⟨"SwapTables$Reader", "beginCycle", "()V"⟩, prog_6_method_11_code, 1, none), (834, 83, 833, 18))
def pm_36 : sMe × sMi × (Nat × Nat × Nat × Nat) := ((pg_36, 3, 3, 2, 2), (⟨"SwapTables$Reader", "goesOnInCycle", "(II)Z"⟩, prog_6_method_12_code, 3, (some FieldType.boolean)), (873, 83, 872, 24))
def pm_37 : sMe × sMi × (Nat × Nat × Nat × Nat) := ((pg_37, 3, 3, 2, 0), (⟨"SwapTables$Reader", "takeIntoCycle", "(II)V"⟩, prog_6_method_13_code, 3, none), (877, 83, 876, 25))
def pm_38 : sMe × sMi × (Nat × Nat × Nat × Nat) := ((pg_38, 3, 2, 2, 2), (⟨"SwapTables$Reader", "goesOnBehindPart", "(I)Z"⟩, prog_6_method_14_code, 3, (some FieldType.boolean)), (882, 83, 881, 26))
def pm_39 : sMe × sMi × (Nat × Nat × Nat × Nat) := ((pg_39, 4, 2, 2, 0), (⟨"SwapTables$Reader", "endPart", "(I)V"⟩, prog_6_method_15_code, 4, none), (846, 83, 845, 20))
def pm_40 : sMe × sMi × (Nat × Nat × Nat × Nat) := ((pg_40, 1, 1, 99, 2), (⟨"SwapTables$Reader", "isFigure", "(I)Z"⟩, prog_6_method_16_code, 1, (some FieldType.boolean)), (855, 83, 854, 0))
def pm_42 : sMe × sMi × (Nat × Nat × Nat × Nat) := ((pg_42, 6, 1, 3, 0), (⟨"SwapTables$SeminormalAxes", "build", "()V"⟩, prog_7_method_2_code, 6, none), (403, 78, 401, 402))
def pm_43 : sMe × sMi × (Nat × Nat × Nat × Nat) := ((pg_43, 7, 3, 3, 4), (⟨"SwapTables$SeminormalAxes", "rowOf", "(II)LSwapTables$FractionRow;"⟩, prog_7_method_3_code, 7, (some (FieldType.object "SwapTables$FractionRow"))), (679, 78, 677, 678))
def pm_44 : sMe × sMi × (Nat × Nat × Nat × Nat) := ((pg_44, 12, 4, 3, 0), (⟨"SwapTables$SeminormalAxes", "goOn", "(LSwapTables$FractionRow;ILSwapTables$FractionRow;)V"⟩, prog_7_method_4_code, 12, none), (685, 78, 684, 13))
def pm_45 : sMe × sMi × (Nat × Nat × Nat × Nat) := ((pg_45, 4, 3, 3, 4), (⟨"SwapTables$SeminormalAxes", "innerProduct", "([I[I)LSwapTables$FractionRow;"⟩, prog_7_method_5_code, 4, (some (FieldType.object "SwapTables$FractionRow"))), (764, 78, 762, 763))
def pm_47 : sMe × sMi × (Nat × Nat × Nat × Nat) := ((pg_47, 4, 2, 4, 0), (⟨"SwapTables$Shape", "build", "(I)V"⟩, prog_8_method_2_code, 4, none), (354, 76, 352, 353))
def pm_48 : sMe × sMi × (Nat × Nat × Nat × Nat) := ((pg_48, 3, 2, 4, 0), (⟨"SwapTables$Shape", "fillFrom", "(I)V"⟩, prog_8_method_3_code, 3, none), (365, 76, 364, 1))
def pm_49 : sMe × sMi × (Nat × Nat × Nat × Nat) := ((pg_49, 2, 2, 4, 2), (⟨"SwapTables$Shape", "canTakeNext", "(I)Z"⟩, prog_8_method_4_code, 2, (some FieldType.boolean)), (376, 76, 375, 3))
def pm_50 : sMe × sMi × (Nat × Nat × Nat × Nat) := ((pg_50, 1, 1, 4, 0), (⟨"SwapTables$Shape", "keepFilling", "()V"⟩, prog_8_method_5_code, 1, none), (369, 76, 368, 2))
def pm_51 : sMe × sMi × (Nat × Nat × Nat × Nat) := ((pg_51, 2, 2, 4, 1), (⟨"SwapTables$Shape", "lengthOf", "(I)I"⟩, prog_8_method_6_code, 2, (some FieldType.int)), (358, 76, 356, 357))
def pm_52 : sMe × sMi × (Nat × Nat × Nat × Nat) := ((pg_52, 3, 3, 4, 2), (⟨"SwapTables$Shape", "hasCell", "(II)Z"⟩, prog_8_method_7_code, 3, (some FieldType.boolean)), (521, 76, 519, 520))
def pm_53 : sMe × sMi × (Nat × Nat × Nat × Nat) := ((pg_53, 5, 3, 4, 1), (⟨"SwapTables$Shape", "hook", "(II)I"⟩, prog_8_method_8_code, 5, (some FieldType.int)), (500, 76, 498, 499))
def pm_54 : sMe × sMi × (Nat × Nat × Nat × Nat) := ((pg_54, 3, 1, 4, 1), (⟨"SwapTables$Shape", "hooksMultiplied", "()I"⟩, prog_8_method_9_code, 3, (some FieldType.int)), (496, 76, 494, 495))
def pm_55 : sMe × sMi × (Nat × Nat × Nat × Nat) := ((pg_55, 3, 3, 4, 1), (⟨"SwapTables$Shape", "rowIn", "(II)I"⟩, prog_8_method_10_code, 3, (some FieldType.int)), (396, 76, 394, 395))
def pm_56 : sMe × sMi × (Nat × Nat × Nat × Nat) := ((pg_56, 3, 3, 4, 1), (⟨"SwapTables$Shape", "columnIn", "(II)I"⟩, prog_8_method_11_code, 3, (some FieldType.int)), (443, 76, 441, 442))
def pm_57 : sMe × sMi × (Nat × Nat × Nat × Nat) := ((pg_57, 3, 3, 4, 1), (⟨"SwapTables$Shape", "distance", "(II)I"⟩, prog_8_method_12_code, 3, (some FieldType.int)), (439, 76, 437, 438))
def pm_58 : sMe × sMi × (Nat × Nat × Nat × Nat) := ((pg_58, 4, 3, 4, 1), (⟨"SwapTables$Shape", "changed", "(II)I"⟩, prog_8_method_13_code, 4, (some FieldType.int)), (424, 76, 422, 423))
def pm_59 : sMe × sMi × (Nat × Nat × Nat × Nat) := ((pg_59, 5, 4, 4, 2), (⟨"SwapTables$Shape", "isTakenTo", "(III)Z"⟩, prog_8_method_14_code, 5, (some FieldType.boolean)), (435, 76, 434, 5))
def pm_60 : sMe × sMi × (Nat × Nat × Nat × Nat) := ((pg_60, 5, 4, 4, 0), (⟨"SwapTables$Shape", "copyFilling", "(II[I)V"⟩, prog_8_method_15_code, 5, none), (385, 76, 383, 384))
def pm_61 : sMe × sMi × (Nat × Nat × Nat × Nat) := ((pg_61, 4, 2, 4, 2), (⟨"SwapTables$Shape", "isFilling", "([I)Z"⟩, prog_8_method_16_code, 4, (some FieldType.boolean)), (552, 76, 550, 551))
def pm_62 : sMe × sMi × (Nat × Nat × Nat × Nat) := ((pg_62, 4, 3, 4, 2), (⟨"SwapTables$Shape", "isToldBy", "(I[I)Z"⟩, prog_8_method_17_code, 4, (some FieldType.boolean)), (562, 76, 560, 561))
def pm_63 : sMe × sMi × (Nat × Nat × Nat × Nat) := ((pg_63, 2, 2, 4, 2), (⟨"SwapTables$Shape", "canLose", "(I)Z"⟩, prog_8_method_18_code, 2, (some FieldType.boolean)), (723, 76, 721, 722))
def pm_64 : sMe × sMi × (Nat × Nat × Nat × Nat) := ((pg_64, 3, 1, 4, 1), (⟨"SwapTables$Shape", "branches", "()I"⟩, prog_8_method_19_code, 3, (some FieldType.int)), (719, 76, 717, 718))
def pm_65 : sMe × sMi × (Nat × Nat × Nat × Nat) := ((pg_65, 4, 2, 4, 1), (⟨"SwapTables$Shape", "standardWithLastIn", "(I)I"⟩, prog_8_method_20_code, 4, (some FieldType.int)), (728, 76, 726, 727))
def pm_68 : sMe × sMi × (Nat × Nat × Nat × Nat) := ((pg_68, 4, 3, 5, 0), (⟨"SwapTables$Shelf", "hold", "(II)V"⟩, prog_9_method_3_code, 4, none), (484, 80, 482, 483))
def pm_69 : sMe × sMi × (Nat × Nat × Nat × Nat) := ((pg_69, 2, 2, 5, 2), (⟨"SwapTables$Shelf", "hasPlace", "(I)Z"⟩, prog_9_method_4_code, 2, (some FieldType.boolean)), (776, 80, 774, 775))
def pm_70 : sMe × sMi × (Nat × Nat × Nat × Nat) := ((pg_70, 3, 2, 99, 0), (⟨"SwapTables$Shelf", "copyAll", "([LSwapTables$Shelf;[LSwapTables$Shelf;)V"⟩, prog_9_method_5_code, 3, none), (897, 80, 896, 0))
def pm_72 : sMe × sMi × (Nat × Nat × Nat × Nat) := ((pg_72, 3, 3, 6, 0), (⟨"SwapTables$Steps", "keep", "(II)V"⟩, prog_10_method_2_code, 3, none), (586, 81, 584, 585))
def pm_73 : sMe × sMi × (Nat × Nat × Nat × Nat) := ((pg_73, 1, 1, 6, 1), (⟨"SwapTables$Steps", "latestRegister", "()I"⟩, prog_10_method_3_code, 1, (some FieldType.int)), (797, 81, 795, 796))
def pm_74 : sMe × sMi × (Nat × Nat × Nat × Nat) := ((pg_74, 1, 1, 6, 1), (⟨"SwapTables$Steps", "latestOrder", "()I"⟩, prog_10_method_4_code, 1, (some FieldType.int)), (801, 81, 799, 800))
def pm_77 : sMe × sMi × (Nat × Nat × Nat × Nat) := ((pg_77, 3, 3, 8, 0), (⟨"SwapTables$Troubles", "add", "(II)V"⟩, prog_12_method_2_code, 3, none), (838, 84, 836, 837))
def pm_78 : sMe × sMi × (Nat × Nat × Nat × Nat) := ((pg_78, 2, 2, 8, 0), (⟨"SwapTables$Troubles", "copyOf", "(LSwapTables$Troubles;)V"⟩, prog_12_method_3_code, 2, none), (868, 84, 866, 867))
def pm_80 : sMe × sMi × (Nat × Nat × Nat × Nat) := ((pg_80, 3, 1, 9, 0), (⟨"SwapTables$WholeAxes", "build", "()V"⟩, prog_13_method_2_code, 3, none), (380, 77, 378, 379))
def pm_81 : sMe × sMi × (Nat × Nat × Nat × Nat) := ((pg_81, 5, 2, 9, 1), (⟨"SwapTables$WholeAxes", "numberAtTabloid", "(I)I"⟩, prog_13_method_3_code, 5, (some FieldType.int)), (392, 77, 391, 4))
def pm_82 : sMe × sMi × (Nat × Nat × Nat × Nat) := ((pg_82, 4, 1, 9, 0), (⟨"SwapTables$WholeAxes", "straighten", "()V"⟩, prog_13_method_4_code, 4, none), (660, 77, 659, 12))
def pm_83 : sMe × sMi × (Nat × Nat × Nat × Nat) := ((pg_83, 2, 2, 9, 0), (⟨"SwapTables$WholeAxes", "straightenTold", "([I)V"⟩, prog_13_method_5_code, 2, none), (655, 77, 653, 654))
def pm_84 : sMe × sMi × (Nat × Nat × Nat × Nat) := ((pg_84, 3, 3, 9, 0), (⟨"SwapTables$WholeAxes", "straightenTaken", "(II)V"⟩, prog_13_method_6_code, 3, none), (668, 77, 666, 667))
def pm_85 : sMe × sMi × (Nat × Nat × Nat × Nat) := ((pg_85, 4, 2, 9, 1), (⟨"SwapTables$WholeAxes", "trace", "(I)I"⟩, prog_13_method_7_code, 4, (some FieldType.int)), (701, 77, 699, 700))
def pm_86 : sMe × sMi × (Nat × Nat × Nat × Nat) := ((pg_86, 6, 4, 9, 0), (⟨"SwapTables$WholeAxes", "act", "([II[I)V"⟩, prog_13_method_8_code, 6, none), (755, 77, 753, 754))
def pm_88 : sMe × sMi × (Nat × Nat × Nat × Nat) := ((pg_88, 8, 6, 10, 1), (⟨"SwapTables", "shape", "(IIIII)I"⟩, prog_1_method_2_code, 8, (some FieldType.int)), (480, 75, 478, 479))
def pm_89 : sMe × sMi × (Nat × Nat × Nat × Nat) := ((pg_89, 2, 2, 10, 1), (⟨"SwapTables", "of", "(I)I"⟩, prog_1_method_3_code, 2, (some FieldType.int)), (488, 75, 486, 487))
def pm_90 : sMe × sMi × (Nat × Nat × Nat × Nat) := ((pg_90, 4, 4, 10, 3), (⟨"SwapTables", "cell", "(III)J"⟩, prog_1_method_4_code, 4, (some FieldType.long)), (517, 75, 515, 516))
def pm_91 : sMe × sMi × (Nat × Nat × Nat × Nat) := ((pg_91, 4, 4, 10, 1), (⟨"SwapTables", "standard", "(III)I"⟩, prog_1_method_5_code, 4, (some FieldType.int)), (527, 75, 525, 526))
def pm_92 : sMe × sMi × (Nat × Nat × Nat × Nat) := ((pg_92, 4, 2, 10, 1), (⟨"SwapTables", "which", "(I)I"⟩, prog_1_method_6_code, 4, (some FieldType.int)), (541, 75, 539, 540))
def pm_93 : sMe × sMi × (Nat × Nat × Nat × Nat) := ((pg_93, 3, 3, 10, 1), (⟨"SwapTables", "swap", "(II)I"⟩, prog_1_method_7_code, 3, (some FieldType.int)), (566, 75, 564, 565))
def pm_94 : sMe × sMi × (Nat × Nat × Nat × Nat) := ((pg_94, 4, 4, 10, 1), (⟨"SwapTables", "times", "(III)I"⟩, prog_1_method_8_code, 4, (some FieldType.int)), (594, 75, 592, 593))
def pm_95 : sMe × sMi × (Nat × Nat × Nat × Nat) := ((pg_95, 2, 2, 10, 1), (⟨"SwapTables", "turn", "(I)I"⟩, prog_1_method_9_code, 2, (some FieldType.int)), (598, 75, 596, 597))
def pm_96 : sMe × sMi × (Nat × Nat × Nat × Nat) := ((pg_96, 3, 3, 10, 1), (⟨"SwapTables", "takes", "(II)I"⟩, prog_1_method_10_code, 3, (some FieldType.int)), (605, 75, 603, 604))
def pm_97 : sMe × sMi × (Nat × Nat × Nat × Nat) := ((pg_97, 4, 3, 10, 3), (⟨"SwapTables", "told", "(II)J"⟩, prog_1_method_11_code, 4, (some FieldType.long)), (610, 75, 608, 609))
def pm_98 : sMe × sMi × (Nat × Nat × Nat × Nat) := ((pg_98, 3, 3, 10, 1), (⟨"SwapTables", "word", "(II)I"⟩, prog_1_method_12_code, 3, (some FieldType.int)), (627, 75, 625, 626))
def pm_99 : sMe × sMi × (Nat × Nat × Nat × Nat) := ((pg_99, 4, 3, 10, 1), (⟨"SwapTables", "partition", "(II)I"⟩, prog_1_method_13_code, 4, (some FieldType.int)), (640, 75, 638, 639))
def pm_100 : sMe × sMi × (Nat × Nat × Nat × Nat) := ((pg_100, 4, 3, 10, 3), (⟨"SwapTables", "straight", "(II)J"⟩, prog_1_method_14_code, 4, (some FieldType.long)), (651, 75, 649, 650))
def pm_101 : sMe × sMi × (Nat × Nat × Nat × Nat) := ((pg_101, 4, 4, 10, 3), (⟨"SwapTables", "whole", "(III)J"⟩, prog_1_method_15_code, 4, (some FieldType.long)), (664, 75, 662, 663))
def pm_102 : sMe × sMi × (Nat × Nat × Nat × Nat) := ((pg_102, 5, 5, 10, 3), (⟨"SwapTables", "fraction", "(IIII)J"⟩, prog_1_method_16_code, 5, (some FieldType.long)), (672, 75, 670, 671))
def pm_103 : sMe × sMi × (Nat × Nat × Nat × Nat) := ((pg_103, 3, 3, 10, 3), (⟨"SwapTables", "norm", "(II)J"⟩, prog_1_method_17_code, 3, (some FieldType.long)), (693, 75, 691, 692))
def pm_104 : sMe × sMi × (Nat × Nat × Nat × Nat) := ((pg_104, 2, 2, 10, 3), (⟨"SwapTables", "character", "(I)J"⟩, prog_1_method_18_code, 2, (some FieldType.long)), (697, 75, 695, 696))
def pm_105 : sMe × sMi × (Nat × Nat × Nat × Nat) := ((pg_105, 2, 2, 10, 3), (⟨"SwapTables", "characterOf", "(I)J"⟩, prog_1_method_19_code, 2, (some FieldType.long)), (706, 75, 704, 705))
def pm_106 : sMe × sMi × (Nat × Nat × Nat × Nat) := ((pg_106, 2, 2, 10, 1), (⟨"SwapTables", "branch", "(I)I"⟩, prog_1_method_20_code, 2, (some FieldType.int)), (715, 75, 713, 714))
def pm_107 : sMe × sMi × (Nat × Nat × Nat × Nat) := ((pg_107, 3, 3, 10, 1), (⟨"SwapTables", "vector", "(II)I"⟩, prog_1_method_21_code, 3, (some FieldType.int)), (732, 75, 730, 731))
def pm_108 : sMe × sMi × (Nat × Nat × Nat × Nat) := ((pg_108, 5, 4, 10, 3), (⟨"SwapTables", "give", "(III)J"⟩, prog_1_method_22_code, 5, (some FieldType.long)), (736, 75, 734, 735))
def pm_109 : sMe × sMi × (Nat × Nat × Nat × Nat) := ((pg_109, 3, 3, 10, 3), (⟨"SwapTables", "has", "(II)J"⟩, prog_1_method_23_code, 3, (some FieldType.long)), (747, 75, 745, 746))
def pm_110 : sMe × sMi × (Nat × Nat × Nat × Nat) := ((pg_110, 6, 3, 10, 1), (⟨"SwapTables", "acts", "(II)I"⟩, prog_1_method_24_code, 6, (some FieldType.int)), (751, 75, 749, 750))
def pm_111 : sMe × sMi × (Nat × Nat × Nat × Nat) := ((pg_111, 4, 4, 10, 3), (⟨"SwapTables", "inner", "(III)J"⟩, prog_1_method_25_code, 4, (some FieldType.long)), (760, 75, 758, 759))
def pm_112 : sMe × sMi × (Nat × Nat × Nat × Nat) := ((pg_112, 3, 3, 10, 1), (⟨"SwapTables", "row", "(II)I"⟩, prog_1_method_26_code, 3, (some FieldType.int)), (768, 75, 766, 767))
def pm_113 : sMe × sMi × (Nat × Nat × Nat × Nat) := ((pg_113, 5, 4, 10, 1), (⟨"SwapTables", "put", "(III)I"⟩, prog_1_method_27_code, 5, (some FieldType.int)), (772, 75, 770, 771))
def pm_114 : sMe × sMi × (Nat × Nat × Nat × Nat) := ((pg_114, 3, 3, 10, 3), (⟨"SwapTables", "get", "(II)J"⟩, prog_1_method_28_code, 3, (some FieldType.long)), (780, 75, 778, 779))
def pm_115 : sMe × sMi × (Nat × Nat × Nat × Nat) := ((pg_115, 3, 3, 10, 1), (⟨"SwapTables", "film", "(II)I"⟩, prog_1_method_29_code, 3, (some FieldType.int)), (784, 75, 782, 783))
def pm_116 : sMe × sMi × (Nat × Nat × Nat × Nat) := ((pg_116, 7, 2, 10, 1), (⟨"SwapTables", "judge", "(I)I"⟩, prog_1_method_30_code, 7, (some FieldType.int)), (789, 75, 787, 788))
def pm_117 : sMe × sMi × (Nat × Nat × Nat × Nat) := ((pg_117, 1, 1, 10, 1), (⟨"SwapTables", "back", "()I"⟩, prog_1_method_31_code, 1, (some FieldType.int)), (793, 75, 791, 792))
def pm_118 : sMe × sMi × (Nat × Nat × Nat × Nat) := ((pg_118, 2, 2, 10, 1), (⟨"SwapTables", "feed", "(I)I"⟩, prog_1_method_32_code, 2, (some FieldType.int)), (805, 75, 803, 804))
def pm_119 : sMe × sMi × (Nat × Nat × Nat × Nat) := ((pg_119, 2, 1, 10, 1), (⟨"SwapTables", "wipe", "()I"⟩, prog_1_method_33_code, 2, (some FieldType.int)), (809, 75, 807, 808))
def pm_120 : sMe × sMi × (Nat × Nat × Nat × Nat) := ((pg_120, 3, 2, 10, 1), (⟨"SwapTables", "read", "(I)I"⟩, prog_1_method_34_code, 3, (some FieldType.int)), (813, 75, 811, 812))
def pm_121 : sMe × sMi × (Nat × Nat × Nat × Nat) := ((pg_121, 3, 3, 10, 1), (⟨"SwapTables", "why", "(II)I"⟩, prog_1_method_35_code, 3, (some FieldType.int)), (890, 75, 888, 889))
def pm_122 : sMe × sMi × (Nat × Nat × Nat × Nat) := ((pg_122, 1, 1, 10, 1), (⟨"SwapTables", "image", "()I"⟩, prog_1_method_36_code, 1, (some FieldType.int)), (894, 75, 892, 893))
def pm_123 : sMe × sMi × (Nat × Nat × Nat × Nat) := ((pg_123, 1, 1, 10, 1), (⟨"SwapTables", "restore", "()I"⟩, prog_1_method_37_code, 1, (some FieldType.int)), (902, 75, 900, 901))
def pm_124 : sMe × sMi × (Nat × Nat × Nat × Nat) := ((pg_124, 2, 2, 10, 1), (⟨"SwapTables", "count", "(I)I"⟩, prog_1_method_38_code, 2, (some FieldType.int)), (906, 75, 904, 905))
def pm_125 : sMe × sMi × (Nat × Nat × Nat × Nat) := ((pg_125, 3, 2, 10, 0), (⟨"SwapTables", "become", "(I)V"⟩, prog_1_method_39_code, 3, none), (350, 75, 349, 0))
def pm_126 : sMe × sMi × (Nat × Nat × Nat × Nat) := ((pg_126, 3, 3, 10, 1), (⟨"SwapTables", "makeOtherwise", "(II)I"⟩, prog_1_method_40_code, 3, (some FieldType.int)), (582, 75, 581, 10))
def pm_127 : sMe × sMi × (Nat × Nat × Nat × Nat) := ((pg_127, 3, 1, 10, 1), (⟨"SwapTables", "shelvesInUse", "()I"⟩, prog_1_method_41_code, 3, (some FieldType.int)), (910, 75, 909, 28))
def pm_128 : sMe × sMi × (Nat × Nat × Nat × Nat) := ((pg_128, 3, 1, 10, 1), (⟨"SwapTables", "lengthsTogether", "()I"⟩, prog_1_method_42_code, 3, (some FieldType.int)), (914, 75, 913, 29))
def pm_129 : sMe × sMi × (Nat × Nat × Nat × Nat) := ((pg_129, 3, 3, 10, 1), (⟨"SwapTables", "refusalOf", "(II)I"⟩, prog_1_method_43_code, 3, (some FieldType.int)), (545, 75, 544, 8))
def pm_130 : sMe × sMi × (Nat × Nat × Nat × Nat) := ((pg_130, 3, 3, 10, 2), (⟨"SwapTables", "isInVector", "(II)Z"⟩, prog_1_method_44_code, 3, (some FieldType.boolean)), (740, 75, 739, 14))
def pm_131 : sMe × sMi × (Nat × Nat × Nat × Nat) := ((pg_131, 2, 2, 10, 2), (⟨"SwapTables", "isStandard", "(I)Z"⟩, prog_1_method_45_code, 2, (some FieldType.boolean)), (531, 75, 530, 6))
def pm_132 : sMe × sMi × (Nat × Nat × Nat × Nat) := ((pg_132, 2, 2, 10, 2), (⟨"SwapTables", "isNumber", "(I)Z"⟩, prog_1_method_46_code, 2, (some FieldType.boolean)), (535, 75, 534, 7))
def pm_133 : sMe × sMi × (Nat × Nat × Nat × Nat) := ((pg_133, 2, 2, 10, 2), (⟨"SwapTables", "isSwap", "(I)Z"⟩, prog_1_method_47_code, 2, (some FieldType.boolean)), (573, 75, 572, 9))
def pm_134 : sMe × sMi × (Nat × Nat × Nat × Nat) := ((pg_134, 2, 2, 10, 2), (⟨"SwapTables", "isPartition", "(I)Z"⟩, prog_1_method_48_code, 2, (some FieldType.boolean)), (645, 75, 644, 11))
def pm_135 : sMe × sMi × (Nat × Nat × Nat × Nat) := ((pg_135, 1, 1, 99, 2), (⟨"SwapTables", "isRegister", "(I)Z"⟩, prog_1_method_49_code, 1, (some FieldType.boolean)), (569, 75, 568, 0))
def pm_136 : sMe × sMi × (Nat × Nat × Nat × Nat) := ((pg_136, 1, 1, 99, 2), (⟨"SwapTables", "isShelf", "(I)Z"⟩, prog_1_method_50_code, 1, (some FieldType.boolean)), (548, 75, 547, 0))
def pm_137 : sMe × sMi × (Nat × Nat × Nat × Nat) := ((pg_137, 1, 1, 99, 2), (⟨"SwapTables", "isPart", "(I)Z"⟩, prog_1_method_51_code, 1, (some FieldType.boolean)), (675, 75, 674, 0))
def pm_138 : sMe × sMi × (Nat × Nat × Nat × Nat) := ((pg_138, 1, 1, 99, 2), (⟨"SwapTables", "isBeyond", "(I)Z"⟩, prog_1_method_52_code, 1, (some FieldType.boolean)), (743, 75, 742, 0))
def pm_140 : sMe × sMi × (Nat × Nat × Nat × Nat) := ((pg_140, 6, 3, 99, 2), (⟨"SwapTablesModel", "in", "(JJJ)Z"⟩, prog_15_method_2_code, 6, (some FieldType.boolean)), (1148, 92, 1147, 0))
def pm_141 : sMe × sMi × (Nat × Nat × Nat × Nat) := ((pg_141, 3, 2, 11, 0), (⟨"SwapTablesModel", "stands", "(I)V"⟩, prog_15_method_3_code, 3, none), (933, 92, 932, 31))
def pm_142 : sMe × sMi × (Nat × Nat × Nat × Nat) := ((pg_142, 3, 1, 11, 0), (⟨"SwapTablesModel", "tellsShape", "()V"⟩, prog_15_method_4_code, 3, none), (929, 92, 928, 30))
def pm_143 : sMe × sMi × (Nat × Nat × Nat × Nat) := ((pg_143, 3, 2, 99, 0), (⟨"SwapTablesModel", "begins", "([II)V"⟩, prog_15_method_5_code, 3, none), (936, 92, 935, 0))
def pm_144 : sMe × sMi × (Nat × Nat × Nat × Nat) := ((pg_144, 7, 6, 11, 1), (⟨"SwapTablesModel", "shape", "(IIIII)I"⟩, prog_15_method_6_code, 7, (some FieldType.int)), (924, 92, 922, 923))
def pm_145 : sMe × sMi × (Nat × Nat × Nat × Nat) := ((pg_145, 5, 3, 11, 1), (⟨"SwapTablesModel", "hookOf", "(II)I"⟩, prog_15_method_7_code, 5, (some FieldType.int)), (1124, 92, 1123, 32))
def pm_146 : sMe × sMi × (Nat × Nat × Nat × Nat) := ((pg_146, 3, 1, 11, 1), (⟨"SwapTablesModel", "rows", "()I"⟩, prog_15_method_8_code, 3, (some FieldType.int)), (1128, 92, 1127, 33))
def pm_147 : sMe × sMi × (Nat × Nat × Nat × Nat) := ((pg_147, 4, 2, 11, 1), (⟨"SwapTablesModel", "of", "(I)I"⟩, prog_15_method_9_code, 4, (some FieldType.int)), (1120, 92, 1118, 1119))
def pm_148 : sMe × sMi × (Nat × Nat × Nat × Nat) := ((pg_148, 4, 4, 11, 3), (⟨"SwapTablesModel", "cell", "(III)J"⟩, prog_15_method_10_code, 4, (some FieldType.long)), (1144, 92, 1142, 1143))
def pm_149 : sMe × sMi × (Nat × Nat × Nat × Nat) := ((pg_149, 2, 2, 11, 2), (⟨"SwapTablesModel", "isStandard", "(I)Z"⟩, prog_15_method_11_code, 2, (some FieldType.boolean)), (1157, 92, 1156, 37))
def pm_150 : sMe × sMi × (Nat × Nat × Nat × Nat) := ((pg_150, 4, 4, 11, 1), (⟨"SwapTablesModel", "standard", "(III)I"⟩, prog_15_method_12_code, 4, (some FieldType.int)), (1153, 92, 1151, 1152))
def pm_151 : sMe × sMi × (Nat × Nat × Nat × Nat) := ((pg_151, 5, 4, 11, 0), (⟨"SwapTablesModel", "splits", "(III)V"⟩, prog_15_method_13_code, 5, none), (1140, 92, 1139, 36))
def pm_152 : sMe × sMi × (Nat × Nat × Nat × Nat) := ((pg_152, 1, 1, 11, 0), (⟨"SwapTablesModel", "tellsPartitions", "()V"⟩, prog_15_method_14_code, 1, none), (1136, 92, 1135, 35))
def pm_153 : sMe × sMi × (Nat × Nat × Nat × Nat) := ((pg_153, 6, 2, 11, 1), (⟨"SwapTablesModel", "partitionOf", "([I)I"⟩, prog_15_method_15_code, 6, (some FieldType.int)), (1132, 92, 1131, 34))
def pm_154 : sMe × sMi × (Nat × Nat × Nat × Nat) := ((pg_154, 5, 3, 11, 1), (⟨"SwapTablesModel", "partition", "(II)I"⟩, prog_15_method_16_code, 5, (some FieldType.int)), (1161, 92, 1159, 1160))
def pm_155 : sMe × sMi × (Nat × Nat × Nat × Nat) := ((pg_155, 1, 1, 99, 2), (⟨"SwapTablesModel", "isRegister", "(I)Z"⟩, prog_15_method_17_code, 1, (some FieldType.boolean)), (1168, 92, 1167, 0))
def pm_156 : sMe × sMi × (Nat × Nat × Nat × Nat) := ((pg_156, 3, 2, 11, 0), (⟨"SwapTablesModel", "takesOut", "(I)V"⟩, prog_15_method_18_code, 3, none), (1209, 92, 1208, 41))
def pm_157 : sMe × sMi × (Nat × Nat × Nat × Nat) := ((pg_157, 5, 2, 11, 1), (⟨"SwapTablesModel", "lengthOf", "([I)I"⟩, prog_15_method_19_code, 5, (some FieldType.int)), (1184, 92, 1183, 40))
def pm_158 : sMe × sMi × (Nat × Nat × Nat × Nat) := ((pg_158, 2, 2, 11, 2), (⟨"SwapTablesModel", "isSwap", "(I)Z"⟩, prog_15_method_20_code, 2, (some FieldType.boolean)), (1173, 92, 1172, 38))
def pm_159 : sMe × sMi × (Nat × Nat × Nat × Nat) := ((pg_159, 4, 3, 99, 0), (⟨"SwapTablesModel", "changes", "([III)V"⟩, prog_15_method_21_code, 4, none), (1176, 92, 1175, 0))
def pm_160 : sMe × sMi × (Nat × Nat × Nat × Nat) := ((pg_160, 4, 2, 11, 1), (⟨"SwapTablesModel", "becomes", "(I)I"⟩, prog_15_method_22_code, 4, (some FieldType.int)), (1180, 92, 1179, 39))
def pm_161 : sMe × sMi × (Nat × Nat × Nat × Nat) := ((pg_161, 4, 3, 11, 1), (⟨"SwapTablesModel", "swap", "(II)I"⟩, prog_15_method_23_code, 4, (some FieldType.int)), (1165, 92, 1163, 1164))
def pm_162 : sMe × sMi × (Nat × Nat × Nat × Nat) := ((pg_162, 5, 4, 11, 1), (⟨"SwapTablesModel", "times", "(III)I"⟩, prog_15_method_24_code, 5, (some FieldType.int)), (1188, 92, 1186, 1187))
def pm_163 : sMe × sMi × (Nat × Nat × Nat × Nat) := ((pg_163, 3, 2, 11, 1), (⟨"SwapTablesModel", "turn", "(I)I"⟩, prog_15_method_25_code, 3, (some FieldType.int)), (1192, 92, 1190, 1191))
def pm_164 : sMe × sMi × (Nat × Nat × Nat × Nat) := ((pg_164, 3, 1, 11, 1), (⟨"SwapTablesModel", "back", "()I"⟩, prog_15_method_26_code, 3, (some FieldType.int)), (1196, 92, 1194, 1195))
def pm_165 : sMe × sMi × (Nat × Nat × Nat × Nat) := ((pg_165, 3, 3, 11, 1), (⟨"SwapTablesModel", "takes", "(II)I"⟩, prog_15_method_27_code, 3, (some FieldType.int)), (1200, 92, 1198, 1199))
def pm_166 : sMe × sMi × (Nat × Nat × Nat × Nat) := ((pg_166, 6, 2, 11, 1), (⟨"SwapTablesModel", "typeOf", "([I)I"⟩, prog_15_method_28_code, 6, (some FieldType.int)), (1213, 92, 1212, 42))
def pm_167 : sMe × sMi × (Nat × Nat × Nat × Nat) := ((pg_167, 3, 3, 11, 3), (⟨"SwapTablesModel", "told", "(II)J"⟩, prog_15_method_29_code, 3, (some FieldType.long)), (1204, 92, 1202, 1203))
def pm_168 : sMe × sMi × (Nat × Nat × Nat × Nat) := ((pg_168, 3, 2, 99, 1), (⟨"SwapTablesModel", "placeOf", "([II)I"⟩, prog_15_method_30_code, 3, (some FieldType.int)), (1224, 92, 1223, 0))
def pm_169 : sMe × sMi × (Nat × Nat × Nat × Nat) := ((pg_169, 5, 2, 11, 0), (⟨"SwapTablesModel", "tellsWord", "([I)V"⟩, prog_15_method_31_code, 5, none), (1221, 92, 1220, 43))
def pm_170 : sMe × sMi × (Nat × Nat × Nat × Nat) := ((pg_170, 3, 3, 11, 1), (⟨"SwapTablesModel", "word", "(II)I"⟩, prog_15_method_32_code, 3, (some FieldType.int)), (1217, 92, 1215, 1216))
def pm_171 : sMe × sMi × (Nat × Nat × Nat × Nat) := ((pg_171, 3, 1, 11, 1), (⟨"SwapTablesModel", "codeOf", "()I"⟩, prog_15_method_33_code, 3, (some FieldType.int)), (1251, 92, 1250, 47))
def pm_172 : sMe × sMi × (Nat × Nat × Nat × Nat) := ((pg_172, 5, 2, 11, 0), (⟨"SwapTablesModel", "adds", "(I)V"⟩, prog_15_method_34_code, 5, none), (1247, 92, 1246, 46))
def pm_173 : sMe × sMi × (Nat × Nat × Nat × Nat) := ((pg_173, 3, 2, 11, 0), (⟨"SwapTablesModel", "tellsStandard", "(I)V"⟩, prog_15_method_35_code, 3, none), (1263, 92, 1262, 50))
def pm_174 : sMe × sMi × (Nat × Nat × Nat × Nat) := ((pg_174, 6, 3, 11, 2), (⟨"SwapTablesModel", "isHigher", "(II)Z"⟩, prog_15_method_36_code, 6, (some FieldType.boolean)), (1255, 92, 1254, 48))
def pm_175 : sMe × sMi × (Nat × Nat × Nat × Nat) := ((pg_175, 4, 2, 11, 1), (⟨"SwapTablesModel", "standCode", "(I)I"⟩, prog_15_method_37_code, 4, (some FieldType.int)), (1259, 92, 1258, 49))
def pm_176 : sMe × sMi × (Nat × Nat × Nat × Nat) := ((pg_176, 4, 1, 11, 0), (⟨"SwapTablesModel", "straightens", "()V"⟩, prog_15_method_38_code, 4, none), (1243, 92, 1242, 45))
def pm_177 : sMe × sMi × (Nat × Nat × Nat × Nat) := ((pg_177, 4, 3, 11, 0), (⟨"SwapTablesModel", "tellsWhole", "([II)V"⟩, prog_15_method_39_code, 4, none), (1271, 92, 1270, 51))
def pm_178 : sMe × sMi × (Nat × Nat × Nat × Nat) := ((pg_178, 1, 1, 99, 2), (⟨"SwapTablesModel", "isShelf", "(I)Z"⟩, prog_15_method_40_code, 1, (some FieldType.boolean)), (1231, 92, 1230, 0))
def pm_179 : sMe × sMi × (Nat × Nat × Nat × Nat) := ((pg_179, 5, 2, 11, 2), (⟨"SwapTablesModel", "isFilling", "(I)Z"⟩, prog_15_method_41_code, 5, (some FieldType.boolean)), (1235, 92, 1234, 44))
def pm_180 : sMe × sMi × (Nat × Nat × Nat × Nat) := ((pg_180, 5, 2, 11, 1), (⟨"SwapTablesModel", "which", "(I)I"⟩, prog_15_method_42_code, 5, (some FieldType.int)), (1228, 92, 1226, 1227))
def pm_181 : sMe × sMi × (Nat × Nat × Nat × Nat) := ((pg_181, 3, 3, 11, 3), (⟨"SwapTablesModel", "straight", "(II)J"⟩, prog_15_method_43_code, 3, (some FieldType.long)), (1239, 92, 1237, 1238))
def pm_182 : sMe × sMi × (Nat × Nat × Nat × Nat) := ((pg_182, 4, 4, 11, 3), (⟨"SwapTablesModel", "whole", "(III)J"⟩, prog_15_method_44_code, 4, (some FieldType.long)), (1267, 92, 1265, 1266))
def pm_183 : sMe × sMi × (Nat × Nat × Nat × Nat) := ((pg_183, 5, 2, 11, 3), (⟨"SwapTablesModel", "trace", "([I)J"⟩, prog_15_method_45_code, 5, (some FieldType.long)), (1279, 92, 1278, 52))
def pm_184 : sMe × sMi × (Nat × Nat × Nat × Nat) := ((pg_184, 2, 2, 11, 3), (⟨"SwapTablesModel", "character", "(I)J"⟩, prog_15_method_46_code, 2, (some FieldType.long)), (1275, 92, 1273, 1274))
def pm_185 : sMe × sMi × (Nat × Nat × Nat × Nat) := ((pg_185, 6, 2, 11, 3), (⟨"SwapTablesModel", "characterOf", "(I)J"⟩, prog_15_method_47_code, 6, (some FieldType.long)), (1283, 92, 1281, 1282))
def pm_186 : sMe × sMi × (Nat × Nat × Nat × Nat) := ((pg_186, 10, 2, 99, 3), (⟨"SwapTablesModel", "common", "(JJ)J"⟩, prog_15_method_48_code, 10, (some FieldType.long)), (1317, 92, 1316, 0))
def pm_187 : sMe × sMi × (Nat × Nat × Nat × Nat) := ((pg_187, 3, 1, 11, 0), (⟨"SwapTablesModel", "lowers", "()V"⟩, prog_15_method_49_code, 3, none), (1314, 92, 1313, 58))
def pm_188 : sMe × sMi × (Nat × Nat × Nat × Nat) := ((pg_188, 5, 3, 11, 0), (⟨"SwapTablesModel", "addsTo", "(JJ)V"⟩, prog_15_method_50_code, 5, none), (1321, 92, 1320, 59))
def pm_189 : sMe × sMi × (Nat × Nat × Nat × Nat) := ((pg_189, 3, 3, 11, 1), (⟨"SwapTablesModel", "contentOf", "(II)I"⟩, prog_15_method_51_code, 3, (some FieldType.int)), (1306, 92, 1305, 56))
def pm_190 : sMe × sMi × (Nat × Nat × Nat × Nat) := ((pg_190, 7, 3, 11, 1), (⟨"SwapTablesModel", "changed", "(II)I"⟩, prog_15_method_52_code, 7, (some FieldType.int)), (1310, 92, 1309, 57))
def pm_191 : sMe × sMi × (Nat × Nat × Nat × Nat) := ((pg_191, 6, 4, 11, 0), (⟨"SwapTablesModel", "tellsSwap", "(III)V"⟩, prog_15_method_53_code, 6, none), (1302, 92, 1301, 55))
def pm_192 : sMe × sMi × (Nat × Nat × Nat × Nat) := ((pg_192, 5, 2, 11, 0), (⟨"SwapTablesModel", "tellsFractions", "([I)V"⟩, prog_15_method_54_code, 5, none), (1294, 92, 1293, 53))
def pm_193 : sMe × sMi × (Nat × Nat × Nat × Nat) := ((pg_193, 13, 4, 11, 0), (⟨"SwapTablesModel", "sums", "(III)V"⟩, prog_15_method_55_code, 13, none), (1298, 92, 1297, 54))
def pm_194 : sMe × sMi × (Nat × Nat × Nat × Nat) := ((pg_194, 1, 1, 99, 2), (⟨"SwapTablesModel", "isPart", "(I)Z"⟩, prog_15_method_56_code, 1, (some FieldType.boolean)), (1290, 92, 1289, 0))
def pm_195 : sMe × sMi × (Nat × Nat × Nat × Nat) := ((pg_195, 5, 5, 11, 3), (⟨"SwapTablesModel", "fraction", "(IIII)J"⟩, prog_15_method_57_code, 5, (some FieldType.long)), (1287, 92, 1285, 1286))
def pm_196 : sMe × sMi × (Nat × Nat × Nat × Nat) := ((pg_196, 6, 1, 11, 0), (⟨"SwapTablesModel", "tellsNorms", "()V"⟩, prog_15_method_58_code, 6, none), (1329, 92, 1328, 60))
def pm_197 : sMe × sMi × (Nat × Nat × Nat × Nat) := ((pg_197, 3, 3, 11, 3), (⟨"SwapTablesModel", "norm", "(II)J"⟩, prog_15_method_59_code, 3, (some FieldType.long)), (1325, 92, 1323, 1324))
def pm_198 : sMe × sMi × (Nat × Nat × Nat × Nat) := ((pg_198, 2, 2, 11, 2), (⟨"SwapTablesModel", "canLose", "(I)Z"⟩, prog_15_method_60_code, 2, (some FieldType.boolean)), (1337, 92, 1336, 61))
def pm_199 : sMe × sMi × (Nat × Nat × Nat × Nat) := ((pg_199, 5, 2, 11, 1), (⟨"SwapTablesModel", "branch", "(I)I"⟩, prog_15_method_61_code, 5, (some FieldType.int)), (1333, 92, 1331, 1332))
def pm_200 : sMe × sMi × (Nat × Nat × Nat × Nat) := ((pg_200, 4, 3, 11, 1), (⟨"SwapTablesModel", "vector", "(II)I"⟩, prog_15_method_62_code, 4, (some FieldType.int)), (1341, 92, 1339, 1340))
def pm_201 : sMe × sMi × (Nat × Nat × Nat × Nat) := ((pg_201, 3, 3, 11, 2), (⟨"SwapTablesModel", "isNumber", "(II)Z"⟩, prog_15_method_63_code, 3, (some FieldType.boolean)), (1349, 92, 1348, 62))
def pm_202 : sMe × sMi × (Nat × Nat × Nat × Nat) := ((pg_202, 5, 4, 11, 3), (⟨"SwapTablesModel", "give", "(III)J"⟩, prog_15_method_64_code, 5, (some FieldType.long)), (1345, 92, 1343, 1344))
def pm_203 : sMe × sMi × (Nat × Nat × Nat × Nat) := ((pg_203, 3, 3, 11, 3), (⟨"SwapTablesModel", "has", "(II)J"⟩, prog_15_method_65_code, 3, (some FieldType.long)), (1355, 92, 1353, 1354))
def pm_204 : sMe × sMi × (Nat × Nat × Nat × Nat) := ((pg_204, 5, 3, 11, 1), (⟨"SwapTablesModel", "acts", "(II)I"⟩, prog_15_method_66_code, 5, (some FieldType.int)), (1359, 92, 1357, 1358))
def pm_205 : sMe × sMi × (Nat × Nat × Nat × Nat) := ((pg_205, 5, 4, 11, 3), (⟨"SwapTablesModel", "inner", "(III)J"⟩, prog_15_method_67_code, 5, (some FieldType.long)), (1363, 92, 1361, 1362))
def pm_206 : sMe × sMi × (Nat × Nat × Nat × Nat) := ((pg_206, 4, 3, 11, 1), (⟨"SwapTablesModel", "row", "(II)I"⟩, prog_15_method_68_code, 4, (some FieldType.int)), (1367, 92, 1365, 1366))
def pm_207 : sMe × sMi × (Nat × Nat × Nat × Nat) := ((pg_207, 4, 4, 11, 1), (⟨"SwapTablesModel", "put", "(III)I"⟩, prog_15_method_69_code, 4, (some FieldType.int)), (1371, 92, 1369, 1370))
def pm_208 : sMe × sMi × (Nat × Nat × Nat × Nat) := ((pg_208, 3, 3, 11, 3), (⟨"SwapTablesModel", "get", "(II)J"⟩, prog_15_method_70_code, 3, (some FieldType.long)), (1375, 92, 1373, 1374))
def pm_209 : sMe × sMi × (Nat × Nat × Nat × Nat) := ((pg_209, 5, 3, 11, 1), (⟨"SwapTablesModel", "film", "(II)I"⟩, prog_15_method_71_code, 5, (some FieldType.int)), (1379, 92, 1377, 1378))
def pm_210 : sMe × sMi × (Nat × Nat × Nat × Nat) := ((pg_210, 4, 2, 11, 1), (⟨"SwapTablesModel", "judge", "(I)I"⟩, prog_15_method_72_code, 4, (some FieldType.int)), (1383, 92, 1381, 1382))
def pm_211 : sMe × sMi × (Nat × Nat × Nat × Nat) := ((pg_211, 2, 2, 11, 1), (⟨"SwapTablesModel", "feed", "(I)I"⟩, prog_15_method_73_code, 2, (some FieldType.int)), (1387, 92, 1385, 1386))
def pm_212 : sMe × sMi × (Nat × Nat × Nat × Nat) := ((pg_212, 2, 1, 11, 1), (⟨"SwapTablesModel", "wipe", "()I"⟩, prog_15_method_74_code, 2, (some FieldType.int)), (1393, 92, 1391, 1392))
def pm_213 : sMe × sMi × (Nat × Nat × Nat × Nat) := ((pg_213, 1, 1, 11, 1), (⟨"SwapTablesModel", "here", "()I"⟩, prog_15_method_75_code, 1, (some FieldType.int)), (1413, 92, 1412, 66))
def pm_214 : sMe × sMi × (Nat × Nat × Nat × Nat) := ((pg_214, 3, 3, 11, 0), (⟨"SwapTablesModel", "opens", "(II)V"⟩, prog_15_method_76_code, 3, none), (1427, 92, 1426, 69))
def pm_215 : sMe × sMi × (Nat × Nat × Nat × Nat) := ((pg_215, 4, 3, 11, 2), (⟨"SwapTablesModel", "fails", "(II)Z"⟩, prog_15_method_77_code, 4, (some FieldType.boolean)), (1423, 92, 1422, 68))
def pm_216 : sMe × sMi × (Nat × Nat × Nat × Nat) := ((pg_216, 1, 1, 11, 2), (⟨"SwapTablesModel", "isFigure", "()Z"⟩, prog_15_method_78_code, 1, (some FieldType.boolean)), (1417, 92, 1416, 67))
def pm_217 : sMe × sMi × (Nat × Nat × Nat × Nat) := ((pg_217, 5, 1, 11, 2), (⟨"SwapTablesModel", "readsCycle", "()Z"⟩, prog_15_method_79_code, 5, (some FieldType.boolean)), (1431, 92, 1430, 70))
def pm_218 : sMe × sMi × (Nat × Nat × Nat × Nat) := ((pg_218, 5, 2, 11, 2), (⟨"SwapTablesModel", "readsPart", "(I)Z"⟩, prog_15_method_80_code, 5, (some FieldType.boolean)), (1409, 92, 1408, 65))
def pm_219 : sMe × sMi × (Nat × Nat × Nat × Nat) := ((pg_219, 2, 1, 11, 0), (⟨"SwapTablesModel", "turnsPart", "()V"⟩, prog_15_method_81_code, 2, none), (1435, 92, 1434, 71))
def pm_220 : sMe × sMi × (Nat × Nat × Nat × Nat) := ((pg_220, 4, 2, 11, 2), (⟨"SwapTablesModel", "readsText", "(I)Z"⟩, prog_15_method_82_code, 4, (some FieldType.boolean)), (1405, 92, 1404, 64))
def pm_221 : sMe × sMi × (Nat × Nat × Nat × Nat) := ((pg_221, 2, 2, 11, 2), (⟨"SwapTablesModel", "readsAll", "(Z)Z"⟩, prog_15_method_83_code, 2, (some FieldType.boolean)), (1401, 92, 1400, 63))
def pm_222 : sMe × sMi × (Nat × Nat × Nat × Nat) := ((pg_222, 4, 2, 11, 1), (⟨"SwapTablesModel", "read", "(I)I"⟩, prog_15_method_84_code, 4, (some FieldType.int)), (1397, 92, 1395, 1396))
def pm_223 : sMe × sMi × (Nat × Nat × Nat × Nat) := ((pg_223, 3, 3, 11, 1), (⟨"SwapTablesModel", "why", "(II)I"⟩, prog_15_method_85_code, 3, (some FieldType.int)), (1439, 92, 1437, 1438))
def pm_224 : sMe × sMi × (Nat × Nat × Nat × Nat) := ((pg_224, 3, 2, 99, 0), (⟨"SwapTablesModel", "lays", "([I[I)V"⟩, prog_15_method_86_code, 3, none), (1446, 92, 1445, 0))
def pm_225 : sMe × sMi × (Nat × Nat × Nat × Nat) := ((pg_225, 1, 1, 11, 1), (⟨"SwapTablesModel", "image", "()I"⟩, prog_15_method_87_code, 1, (some FieldType.int)), (1443, 92, 1441, 1442))
def pm_226 : sMe × sMi × (Nat × Nat × Nat × Nat) := ((pg_226, 1, 1, 11, 1), (⟨"SwapTablesModel", "restore", "()I"⟩, prog_15_method_88_code, 1, (some FieldType.int)), (1450, 92, 1448, 1449))
def pm_227 : sMe × sMi × (Nat × Nat × Nat × Nat) := ((pg_227, 3, 1, 11, 1), (⟨"SwapTablesModel", "held", "()I"⟩, prog_15_method_89_code, 3, (some FieldType.int)), (1458, 92, 1457, 72))
def pm_228 : sMe × sMi × (Nat × Nat × Nat × Nat) := ((pg_228, 3, 1, 11, 1), (⟨"SwapTablesModel", "lengthsAll", "()I"⟩, prog_15_method_90_code, 3, (some FieldType.int)), (1462, 92, 1461, 73))
def pm_229 : sMe × sMi × (Nat × Nat × Nat × Nat) := ((pg_229, 2, 2, 11, 1), (⟨"SwapTablesModel", "count", "(I)I"⟩, prog_15_method_91_code, 2, (some FieldType.int)), (1454, 92, 1452, 1453))
def pm_230 : sMe × sMi × (Nat × Nat × Nat × Nat) := ((pg_230, 1, 1, 99, 1), (⟨"java/lang/Integer", "bitCount", "(I)I"⟩, prog_16_method_49_code, 1, (some FieldType.int)), (555, 89, 554, 0))
def pm_231 : sMe × sMi × (Nat × Nat × Nat × Nat) := ((pg_231, 1, 1, 99, 1), (⟨"java/lang/Integer", "signum", "(I)I"⟩, prog_16_method_56_code, 1, (some FieldType.int)), (399, 89, 398, 0))
def pm_232 : sMe × sMi × (Nat × Nat × Nat × Nat) := ((pg_232, 2, 1, 99, 1), (⟨"java/lang/Long", "signum", "(J)I"⟩, prog_17_method_57_code, 2, (some FieldType.int)), (420, 91, 419, 0))
def pmD : sMe × sMi × (Nat × Nat × Nat × Nat) := ((.leaf (999999, .nop, 0, 0), pm_6.1.2), pm_6.2)
def PMt : Lean.RArray (sMe × sMi × (Nat × Nat × Nat × Nat)) := (.branch 117 (.branch 58 (.branch 29 (.branch 14 (.branch 7 (.branch 3 (.branch 1 (.leaf pmD) (.branch 2 (.leaf pm_1) (.leaf pm_2))) (.branch 5 (.branch 4 (.leaf pm_3) (.leaf pm_4)) (.branch 6 (.leaf pmD) (.leaf pm_6)))) (.branch 10 (.branch 8 (.leaf pm_7) (.branch 9 (.leaf pm_8) (.leaf pm_9))) (.branch 12 (.branch 11 (.leaf pm_10) (.leaf pm_11)) (.branch 13 (.leaf pm_12) (.leaf pm_13))))) (.branch 21 (.branch 17 (.branch 15 (.leaf pm_14) (.branch 16 (.leaf pm_15) (.leaf pm_16))) (.branch 19 (.branch 18 (.leaf pm_17) (.leaf pm_18)) (.branch 20 (.leaf pm_19) (.leaf pm_20)))) (.branch 25 (.branch 23 (.branch 22 (.leaf pm_21) (.leaf pm_22)) (.branch 24 (.leaf pm_23) (.leaf pm_24))) (.branch 27 (.branch 26 (.leaf pmD) (.leaf pm_26)) (.branch 28 (.leaf pm_27) (.leaf pm_28)))))) (.branch 43 (.branch 36 (.branch 32 (.branch 30 (.leaf pm_29) (.branch 31 (.leaf pm_30) (.leaf pm_31))) (.branch 34 (.branch 33 (.leaf pm_32) (.leaf pm_33)) (.branch 35 (.leaf pm_34) (.leaf pm_35)))) (.branch 39 (.branch 37 (.leaf pm_36) (.branch 38 (.leaf pm_37) (.leaf pm_38))) (.branch 41 (.branch 40 (.leaf pm_39) (.leaf pm_40)) (.branch 42 (.leaf pmD) (.leaf pm_42))))) (.branch 50 (.branch 46 (.branch 44 (.leaf pm_43) (.branch 45 (.leaf pm_44) (.leaf pm_45))) (.branch 48 (.branch 47 (.leaf pmD) (.leaf pm_47)) (.branch 49 (.leaf pm_48) (.leaf pm_49)))) (.branch 54 (.branch 52 (.branch 51 (.leaf pm_50) (.leaf pm_51)) (.branch 53 (.leaf pm_52) (.leaf pm_53))) (.branch 56 (.branch 55 (.leaf pm_54) (.leaf pm_55)) (.branch 57 (.leaf pm_56) (.leaf pm_57))))))) (.branch 87 (.branch 72 (.branch 65 (.branch 61 (.branch 59 (.leaf pm_58) (.branch 60 (.leaf pm_59) (.leaf pm_60))) (.branch 63 (.branch 62 (.leaf pm_61) (.leaf pm_62)) (.branch 64 (.leaf pm_63) (.leaf pm_64)))) (.branch 68 (.branch 66 (.leaf pm_65) (.branch 67 (.leaf pmD) (.leaf pmD))) (.branch 70 (.branch 69 (.leaf pm_68) (.leaf pm_69)) (.branch 71 (.leaf pm_70) (.leaf pmD))))) (.branch 79 (.branch 75 (.branch 73 (.leaf pm_72) (.branch 74 (.leaf pm_73) (.leaf pm_74))) (.branch 77 (.branch 76 (.leaf pmD) (.leaf pmD)) (.branch 78 (.leaf pm_77) (.leaf pm_78)))) (.branch 83 (.branch 81 (.branch 80 (.leaf pmD) (.leaf pm_80)) (.branch 82 (.leaf pm_81) (.leaf pm_82))) (.branch 85 (.branch 84 (.leaf pm_83) (.leaf pm_84)) (.branch 86 (.leaf pm_85) (.leaf pm_86)))))) (.branch 102 (.branch 94 (.branch 90 (.branch 88 (.leaf pmD) (.branch 89 (.leaf pm_88) (.leaf pm_89))) (.branch 92 (.branch 91 (.leaf pm_90) (.leaf pm_91)) (.branch 93 (.leaf pm_92) (.leaf pm_93)))) (.branch 98 (.branch 96 (.branch 95 (.leaf pm_94) (.leaf pm_95)) (.branch 97 (.leaf pm_96) (.leaf pm_97))) (.branch 100 (.branch 99 (.leaf pm_98) (.leaf pm_99)) (.branch 101 (.leaf pm_100) (.leaf pm_101))))) (.branch 109 (.branch 105 (.branch 103 (.leaf pm_102) (.branch 104 (.leaf pm_103) (.leaf pm_104))) (.branch 107 (.branch 106 (.leaf pm_105) (.leaf pm_106)) (.branch 108 (.leaf pm_107) (.leaf pm_108)))) (.branch 113 (.branch 111 (.branch 110 (.leaf pm_109) (.leaf pm_110)) (.branch 112 (.leaf pm_111) (.leaf pm_112))) (.branch 115 (.branch 114 (.leaf pm_113) (.leaf pm_114)) (.branch 116 (.leaf pm_115) (.leaf pm_116)))))))) (.branch 175 (.branch 146 (.branch 131 (.branch 124 (.branch 120 (.branch 118 (.leaf pm_117) (.branch 119 (.leaf pm_118) (.leaf pm_119))) (.branch 122 (.branch 121 (.leaf pm_120) (.leaf pm_121)) (.branch 123 (.leaf pm_122) (.leaf pm_123)))) (.branch 127 (.branch 125 (.leaf pm_124) (.branch 126 (.leaf pm_125) (.leaf pm_126))) (.branch 129 (.branch 128 (.leaf pm_127) (.leaf pm_128)) (.branch 130 (.leaf pm_129) (.leaf pm_130))))) (.branch 138 (.branch 134 (.branch 132 (.leaf pm_131) (.branch 133 (.leaf pm_132) (.leaf pm_133))) (.branch 136 (.branch 135 (.leaf pm_134) (.leaf pm_135)) (.branch 137 (.leaf pm_136) (.leaf pm_137)))) (.branch 142 (.branch 140 (.branch 139 (.leaf pm_138) (.leaf pmD)) (.branch 141 (.leaf pm_140) (.leaf pm_141))) (.branch 144 (.branch 143 (.leaf pm_142) (.leaf pm_143)) (.branch 145 (.leaf pm_144) (.leaf pm_145)))))) (.branch 160 (.branch 153 (.branch 149 (.branch 147 (.leaf pm_146) (.branch 148 (.leaf pm_147) (.leaf pm_148))) (.branch 151 (.branch 150 (.leaf pm_149) (.leaf pm_150)) (.branch 152 (.leaf pm_151) (.leaf pm_152)))) (.branch 156 (.branch 154 (.leaf pm_153) (.branch 155 (.leaf pm_154) (.leaf pm_155))) (.branch 158 (.branch 157 (.leaf pm_156) (.leaf pm_157)) (.branch 159 (.leaf pm_158) (.leaf pm_159))))) (.branch 167 (.branch 163 (.branch 161 (.leaf pm_160) (.branch 162 (.leaf pm_161) (.leaf pm_162))) (.branch 165 (.branch 164 (.leaf pm_163) (.leaf pm_164)) (.branch 166 (.leaf pm_165) (.leaf pm_166)))) (.branch 171 (.branch 169 (.branch 168 (.leaf pm_167) (.leaf pm_168)) (.branch 170 (.leaf pm_169) (.leaf pm_170))) (.branch 173 (.branch 172 (.leaf pm_171) (.leaf pm_172)) (.branch 174 (.leaf pm_173) (.leaf pm_174))))))) (.branch 204 (.branch 189 (.branch 182 (.branch 178 (.branch 176 (.leaf pm_175) (.branch 177 (.leaf pm_176) (.leaf pm_177))) (.branch 180 (.branch 179 (.leaf pm_178) (.leaf pm_179)) (.branch 181 (.leaf pm_180) (.leaf pm_181)))) (.branch 185 (.branch 183 (.leaf pm_182) (.branch 184 (.leaf pm_183) (.leaf pm_184))) (.branch 187 (.branch 186 (.leaf pm_185) (.leaf pm_186)) (.branch 188 (.leaf pm_187) (.leaf pm_188))))) (.branch 196 (.branch 192 (.branch 190 (.leaf pm_189) (.branch 191 (.leaf pm_190) (.leaf pm_191))) (.branch 194 (.branch 193 (.leaf pm_192) (.leaf pm_193)) (.branch 195 (.leaf pm_194) (.leaf pm_195)))) (.branch 200 (.branch 198 (.branch 197 (.leaf pm_196) (.leaf pm_197)) (.branch 199 (.leaf pm_198) (.leaf pm_199))) (.branch 202 (.branch 201 (.leaf pm_200) (.leaf pm_201)) (.branch 203 (.leaf pm_202) (.leaf pm_203)))))) (.branch 219 (.branch 211 (.branch 207 (.branch 205 (.leaf pm_204) (.branch 206 (.leaf pm_205) (.leaf pm_206))) (.branch 209 (.branch 208 (.leaf pm_207) (.leaf pm_208)) (.branch 210 (.leaf pm_209) (.leaf pm_210)))) (.branch 215 (.branch 213 (.branch 212 (.leaf pm_211) (.leaf pm_212)) (.branch 214 (.leaf pm_213) (.leaf pm_214))) (.branch 217 (.branch 216 (.leaf pm_215) (.leaf pm_216)) (.branch 218 (.leaf pm_217) (.leaf pm_218))))) (.branch 226 (.branch 222 (.branch 220 (.leaf pm_219) (.branch 221 (.leaf pm_220) (.leaf pm_221))) (.branch 224 (.branch 223 (.leaf pm_222) (.leaf pm_223)) (.branch 225 (.leaf pm_224) (.leaf pm_225)))) (.branch 230 (.branch 228 (.branch 227 (.leaf pm_226) (.leaf pm_227)) (.branch 229 (.leaf pm_228) (.leaf pm_229))) (.branch 232 (.branch 231 (.leaf pm_230) (.leaf pm_231)) (.branch 233 (.leaf pm_232) (.leaf pmD)))))))))
def PG (i : Nat) : sMe := (PMt.get i).1
def MI (i : Nat) : sMi := (PMt.get i).2.1
-- 0: X0_init SwapTables$FractionRow <init> ()V
-- 1: X0_clear SwapTables$FractionRow clear ()V
-- 2: X0_add SwapTables$FractionRow add (IJJ)V
-- 3: X0_commonDivisor SwapTables$FractionRow commonDivisor (JJ)J
-- 4: X0_partAt SwapTables$FractionRow partAt (II)J
-- 5: X1_init SwapTables$Image <init> ()V
-- 6: X2_target SwapTables$Orders target (II)I
-- 7: X2_withTarget SwapTables$Orders withTarget (III)I
-- 8: X2_product SwapTables$Orders product (II)I
-- 9: X2_turned SwapTables$Orders turned (I)I
-- 10: X2_neighbours SwapTables$Orders neighbours (I)I
-- 11: X2_length SwapTables$Orders length (I)I
-- 12: X2_letter SwapTables$Orders letter (II)I
-- 13: X2_firstLetter SwapTables$Orders firstLetter (I)I
-- 14: X2_typeOf SwapTables$Orders typeOf (II)I
-- 15: X2_cycleSize SwapTables$Orders cycleSize (II)I
-- 16: X2_beginsCycle SwapTables$Orders beginsCycle (II)Z
-- 17: X2_ofType SwapTables$Orders ofType (I)I
-- 18: X3_codeOf SwapTables$Partitions codeOf (IIIII)I
-- 19: X3_part SwapTables$Partitions part (II)I
-- 20: X3_withPart SwapTables$Partitions withPart (III)I
-- 21: X3_size SwapTables$Partitions size (I)I
-- 22: X3_amount SwapTables$Partitions amount (I)I
-- 23: X3_code SwapTables$Partitions code (II)I
-- 24: X3_numberOf SwapTables$Partitions numberOf (II)I
-- 25: X4_init SwapTables$Reader <init> ()V
-- 26: X4_workOut SwapTables$Reader workOut (LSwapTables$Tape;I)I
-- 27: X4_begin SwapTables$Reader begin (I)V
-- 28: X4_refuseFault SwapTables$Reader refuseFault (I)I
-- 29: X4_refuse SwapTables$Reader refuse (II)V
-- 30: X4_noteWrong SwapTables$Reader noteWrong (I)V
-- 31: X4_goesOnWith SwapTables$Reader goesOnWith (II)Z
-- 32: X4_beginsPart SwapTables$Reader beginsPart (II)Z
-- 33: X4_opensBracket SwapTables$Reader opensBracket (I)Z
-- 34: X4_endsSwap SwapTables$Reader endsSwap (II)Z
-- 35: X4_beginCycle SwapTables$Reader beginCycle ()V
-- 36: X4_goesOnInCycle SwapTables$Reader goesOnInCycle (II)Z
-- 37: X4_takeIntoCycle SwapTables$Reader takeIntoCycle (II)V
-- 38: X4_goesOnBehindPart SwapTables$Reader goesOnBehindPart (I)Z
-- 39: X4_endPart SwapTables$Reader endPart (I)V
-- 40: X4_isFigure SwapTables$Reader isFigure (I)Z
-- 41: X5_init SwapTables$SeminormalAxes <init> (LSwapTables$Shape;)V
-- 42: X5_build SwapTables$SeminormalAxes build ()V
-- 43: X5_rowOf SwapTables$SeminormalAxes rowOf (II)LSwapTables$FractionRow;
-- 44: X5_goOn SwapTables$SeminormalAxes goOn (LSwapTables$FractionRow;ILSwapTables$FractionRow;)V
-- 45: X5_innerProduct SwapTables$SeminormalAxes innerProduct ([I[I)LSwapTables$FractionRow;
-- 46: X6_init SwapTables$Shape <init> ()V
-- 47: X6_build SwapTables$Shape build (I)V
-- 48: X6_fillFrom SwapTables$Shape fillFrom (I)V
-- 49: X6_canTakeNext SwapTables$Shape canTakeNext (I)Z
-- 50: X6_keepFilling SwapTables$Shape keepFilling ()V
-- 51: X6_lengthOf SwapTables$Shape lengthOf (I)I
-- 52: X6_hasCell SwapTables$Shape hasCell (II)Z
-- 53: X6_hook SwapTables$Shape hook (II)I
-- 54: X6_hooksMultiplied SwapTables$Shape hooksMultiplied ()I
-- 55: X6_rowIn SwapTables$Shape rowIn (II)I
-- 56: X6_columnIn SwapTables$Shape columnIn (II)I
-- 57: X6_distance SwapTables$Shape distance (II)I
-- 58: X6_changed SwapTables$Shape changed (II)I
-- 59: X6_isTakenTo SwapTables$Shape isTakenTo (III)Z
-- 60: X6_copyFilling SwapTables$Shape copyFilling (II[I)V
-- 61: X6_isFilling SwapTables$Shape isFilling ([I)Z
-- 62: X6_isToldBy SwapTables$Shape isToldBy (I[I)Z
-- 63: X6_canLose SwapTables$Shape canLose (I)Z
-- 64: X6_branches SwapTables$Shape branches ()I
-- 65: X6_standardWithLastIn SwapTables$Shape standardWithLastIn (I)I
-- 66: X7_init SwapTables$Shelf <init> ()V
-- 67: X7_emptyOnes SwapTables$Shelf emptyOnes ()[LSwapTables$Shelf;
-- 68: X7_hold SwapTables$Shelf hold (II)V
-- 69: X7_hasPlace SwapTables$Shelf hasPlace (I)Z
-- 70: X7_copyAll SwapTables$Shelf copyAll ([LSwapTables$Shelf;[LSwapTables$Shelf;)V
-- 71: X8_init SwapTables$Steps <init> ()V
-- 72: X8_keep SwapTables$Steps keep (II)V
-- 73: X8_latestRegister SwapTables$Steps latestRegister ()I
-- 74: X8_latestOrder SwapTables$Steps latestOrder ()I
-- 75: X9_init SwapTables$Tape <init> ()V
-- 76: X10_init SwapTables$Troubles <init> ()V
-- 77: X10_add SwapTables$Troubles add (II)V
-- 78: X10_copyOf SwapTables$Troubles copyOf (LSwapTables$Troubles;)V
-- 79: X11_init SwapTables$WholeAxes <init> (LSwapTables$Shape;)V
-- 80: X11_build SwapTables$WholeAxes build ()V
-- 81: X11_numberAtTabloid SwapTables$WholeAxes numberAtTabloid (I)I
-- 82: X11_straighten SwapTables$WholeAxes straighten ()V
-- 83: X11_straightenTold SwapTables$WholeAxes straightenTold ([I)V
-- 84: X11_straightenTaken SwapTables$WholeAxes straightenTaken (II)V
-- 85: X11_trace SwapTables$WholeAxes trace (I)I
-- 86: X11_act SwapTables$WholeAxes act ([II[I)V
-- 87: X12_init SwapTables <init> ()V
-- 88: X12_shape SwapTables shape (IIIII)I
-- 89: X12_of SwapTables of (I)I
-- 90: X12_cell SwapTables cell (III)J
-- 91: X12_standard SwapTables standard (III)I
-- 92: X12_which SwapTables which (I)I
-- 93: X12_swap SwapTables swap (II)I
-- 94: X12_times SwapTables times (III)I
-- 95: X12_turn SwapTables turn (I)I
-- 96: X12_takes SwapTables takes (II)I
-- 97: X12_told SwapTables told (II)J
-- 98: X12_word SwapTables word (II)I
-- 99: X12_partition SwapTables partition (II)I
-- 100: X12_straight SwapTables straight (II)J
-- 101: X12_whole SwapTables whole (III)J
-- 102: X12_fraction SwapTables fraction (IIII)J
-- 103: X12_norm SwapTables norm (II)J
-- 104: X12_character SwapTables character (I)J
-- 105: X12_characterOf SwapTables characterOf (I)J
-- 106: X12_branch SwapTables branch (I)I
-- 107: X12_vector SwapTables vector (II)I
-- 108: X12_give SwapTables give (III)J
-- 109: X12_has SwapTables has (II)J
-- 110: X12_acts SwapTables acts (II)I
-- 111: X12_inner SwapTables inner (III)J
-- 112: X12_row SwapTables row (II)I
-- 113: X12_put SwapTables put (III)I
-- 114: X12_get SwapTables get (II)J
-- 115: X12_film SwapTables film (II)I
-- 116: X12_judge SwapTables judge (I)I
-- 117: X12_back SwapTables back ()I
-- 118: X12_feed SwapTables feed (I)I
-- 119: X12_wipe SwapTables wipe ()I
-- 120: X12_read SwapTables read (I)I
-- 121: X12_why SwapTables why (II)I
-- 122: X12_image SwapTables image ()I
-- 123: X12_restore SwapTables restore ()I
-- 124: X12_count SwapTables count (I)I
-- 125: X12_become SwapTables become (I)V
-- 126: X12_makeOtherwise SwapTables makeOtherwise (II)I
-- 127: X12_shelvesInUse SwapTables shelvesInUse ()I
-- 128: X12_lengthsTogether SwapTables lengthsTogether ()I
-- 129: X12_refusalOf SwapTables refusalOf (II)I
-- 130: X12_isInVector SwapTables isInVector (II)Z
-- 131: X12_isStandard SwapTables isStandard (I)Z
-- 132: X12_isNumber SwapTables isNumber (I)Z
-- 133: X12_isSwap SwapTables isSwap (I)Z
-- 134: X12_isPartition SwapTables isPartition (I)Z
-- 135: X12_isRegister SwapTables isRegister (I)Z
-- 136: X12_isShelf SwapTables isShelf (I)Z
-- 137: X12_isPart SwapTables isPart (I)Z
-- 138: X12_isBeyond SwapTables isBeyond (I)Z
-- 139: X13_init SwapTablesModel <init> ()V
-- 140: X13_in SwapTablesModel in (JJJ)Z
-- 141: X13_stands SwapTablesModel stands (I)V
-- 142: X13_tellsShape SwapTablesModel tellsShape ()V
-- 143: X13_begins SwapTablesModel begins ([II)V
-- 144: X13_shape SwapTablesModel shape (IIIII)I
-- 145: X13_hookOf SwapTablesModel hookOf (II)I
-- 146: X13_rows SwapTablesModel rows ()I
-- 147: X13_of SwapTablesModel of (I)I
-- 148: X13_cell SwapTablesModel cell (III)J
-- 149: X13_isStandard SwapTablesModel isStandard (I)Z
-- 150: X13_standard SwapTablesModel standard (III)I
-- 151: X13_splits SwapTablesModel splits (III)V
-- 152: X13_tellsPartitions SwapTablesModel tellsPartitions ()V
-- 153: X13_partitionOf SwapTablesModel partitionOf ([I)I
-- 154: X13_partition SwapTablesModel partition (II)I
-- 155: X13_isRegister SwapTablesModel isRegister (I)Z
-- 156: X13_takesOut SwapTablesModel takesOut (I)V
-- 157: X13_lengthOf SwapTablesModel lengthOf ([I)I
-- 158: X13_isSwap SwapTablesModel isSwap (I)Z
-- 159: X13_changes SwapTablesModel changes ([III)V
-- 160: X13_becomes SwapTablesModel becomes (I)I
-- 161: X13_swap SwapTablesModel swap (II)I
-- 162: X13_times SwapTablesModel times (III)I
-- 163: X13_turn SwapTablesModel turn (I)I
-- 164: X13_back SwapTablesModel back ()I
-- 165: X13_takes SwapTablesModel takes (II)I
-- 166: X13_typeOf SwapTablesModel typeOf ([I)I
-- 167: X13_told SwapTablesModel told (II)J
-- 168: X13_placeOf SwapTablesModel placeOf ([II)I
-- 169: X13_tellsWord SwapTablesModel tellsWord ([I)V
-- 170: X13_word SwapTablesModel word (II)I
-- 171: X13_codeOf SwapTablesModel codeOf ()I
-- 172: X13_adds SwapTablesModel adds (I)V
-- 173: X13_tellsStandard SwapTablesModel tellsStandard (I)V
-- 174: X13_isHigher SwapTablesModel isHigher (II)Z
-- 175: X13_standCode SwapTablesModel standCode (I)I
-- 176: X13_straightens SwapTablesModel straightens ()V
-- 177: X13_tellsWhole SwapTablesModel tellsWhole ([II)V
-- 178: X13_isShelf SwapTablesModel isShelf (I)Z
-- 179: X13_isFilling SwapTablesModel isFilling (I)Z
-- 180: X13_which SwapTablesModel which (I)I
-- 181: X13_straight SwapTablesModel straight (II)J
-- 182: X13_whole SwapTablesModel whole (III)J
-- 183: X13_trace SwapTablesModel trace ([I)J
-- 184: X13_character SwapTablesModel character (I)J
-- 185: X13_characterOf SwapTablesModel characterOf (I)J
-- 186: X13_common SwapTablesModel common (JJ)J
-- 187: X13_lowers SwapTablesModel lowers ()V
-- 188: X13_addsTo SwapTablesModel addsTo (JJ)V
-- 189: X13_contentOf SwapTablesModel contentOf (II)I
-- 190: X13_changed SwapTablesModel changed (II)I
-- 191: X13_tellsSwap SwapTablesModel tellsSwap (III)V
-- 192: X13_tellsFractions SwapTablesModel tellsFractions ([I)V
-- 193: X13_sums SwapTablesModel sums (III)V
-- 194: X13_isPart SwapTablesModel isPart (I)Z
-- 195: X13_fraction SwapTablesModel fraction (IIII)J
-- 196: X13_tellsNorms SwapTablesModel tellsNorms ()V
-- 197: X13_norm SwapTablesModel norm (II)J
-- 198: X13_canLose SwapTablesModel canLose (I)Z
-- 199: X13_branch SwapTablesModel branch (I)I
-- 200: X13_vector SwapTablesModel vector (II)I
-- 201: X13_isNumber SwapTablesModel isNumber (II)Z
-- 202: X13_give SwapTablesModel give (III)J
-- 203: X13_has SwapTablesModel has (II)J
-- 204: X13_acts SwapTablesModel acts (II)I
-- 205: X13_inner SwapTablesModel inner (III)J
-- 206: X13_row SwapTablesModel row (II)I
-- 207: X13_put SwapTablesModel put (III)I
-- 208: X13_get SwapTablesModel get (II)J
-- 209: X13_film SwapTablesModel film (II)I
-- 210: X13_judge SwapTablesModel judge (I)I
-- 211: X13_feed SwapTablesModel feed (I)I
-- 212: X13_wipe SwapTablesModel wipe ()I
-- 213: X13_here SwapTablesModel here ()I
-- 214: X13_opens SwapTablesModel opens (II)V
-- 215: X13_fails SwapTablesModel fails (II)Z
-- 216: X13_isFigure SwapTablesModel isFigure ()Z
-- 217: X13_readsCycle SwapTablesModel readsCycle ()Z
-- 218: X13_readsPart SwapTablesModel readsPart (I)Z
-- 219: X13_turnsPart SwapTablesModel turnsPart ()V
-- 220: X13_readsText SwapTablesModel readsText (I)Z
-- 221: X13_readsAll SwapTablesModel readsAll (Z)Z
-- 222: X13_read SwapTablesModel read (I)I
-- 223: X13_why SwapTablesModel why (II)I
-- 224: X13_lays SwapTablesModel lays ([I[I)V
-- 225: X13_image SwapTablesModel image ()I
-- 226: X13_restore SwapTablesModel restore ()I
-- 227: X13_held SwapTablesModel held ()I
-- 228: X13_lengthsAll SwapTablesModel lengthsAll ()I
-- 229: X13_count SwapTablesModel count (I)I
-- 230: J6_bitCount_0f7a4 java/lang/Integer bitCount (I)I
-- 231: J6_signum_0f7a4 java/lang/Integer signum (I)I
-- 232: J13_signum_95d88 java/lang/Long signum (J)I
-- 233: J9_abs_067f4 java/lang/Math abs (J)J
end
section
/-! 08: the executor's steps are the machine's (by wip/whole/mk09.py) -/
/-- the memory lies on the heap -/
def sLv (D : va_G) (cy : Nat → ClassId) (A : Nat → Prop) (r : sE) (al : Nat → Nat) (hid : Nat → va_E) (rest : va_W) (H0 : Heap) (mem : sM) (H : Heap) (locs : List Loc) : Prop := va_P D vwCl (sW r al cy hid rest mem) H ∧ va_D A (sW r al cy hid rest mem) ∧ va_S A H0 H locs
def sGoOk (Wf : Heap → List Loc → JFrame → Prop) (Lv : sM → Heap → List Loc → Prop) (m : MethodId) (r : sE) (al : Nat → Nat) (nL : Nat) (go : sGo) : Prop := ∀ (pc : Nat) (L : sL) (st : List sV) (pa : List sK) (mem : sM) (H : Heap) (locs : List Loc) (ls : Array Slot), go pc L st pa mem = true → sPa r pa → Lv mem H locs → sLo r al ls nL L → Wf H locs (F0 m pc ls (st.map (sVal r al)))
def sStepOk (Wf : Heap → List Loc → JFrame → Prop) (Lv : sM → Heap → List Loc → Prop) (m : MethodId) (r : sE) (al : Nat → Nat) (nL pc nx : Nat) (h : sFun) : Prop := ∀ go : sGo, sGoOk Wf Lv m r al nL go → ∀ (L : sL) (st : List sV) (pa : List sK) (mem : sM) (H : Heap) (locs : List Loc) (ls : Array Slot), h nx L st pa mem go = true → sPa r pa → Lv mem H locs → sLo r al ls nL L → Wf H locs (F0 m pc ls (st.map (sVal r al)))
section SO
variable {p : Program} {l : Launch} {e : Env} {R : Room} {s : State} {m : MethodId} {args : Array Value} {below : List Frame} {meth : Method} {c : Code} {cells slots : Nat} {Q : State → Prop}
variable {cc : ByteArray} {pc nx nL : Nat} {D : va_G} {cy : Nat → ClassId} {A : Nat → Prop} {r : sE} {al : Nat → Nat} {hid : Nat → va_E} {rest : va_W}

theorem so_iconst (hx : p.tables.exec = Jvm.exec) (hb : c.code = cc) {n : Int} {v : Nat} (hd : decode cc pc = .ok (.iconst n, 1)) (hn : nx = pc + 1) (hv0 : Int32.ofInt n = Int32.ofNat v) : sStepOk (fun H locs g => W p l e R s m args below meth c H locs cells slots Q g) (sLv D cy A r al hid rest s.heap) m r al nL pc nx (oLdc v) := by
  intro go hgo L st pa mem H locs ls h hp hv hl
  subst hn
  have k := hgo _ _ _ _ _ _ _ _ h hp hv hl
  simp only [List.map_cons, sVal, sI, sD_c] at k
  exact lv_iconst hx hb hd hv0 k

theorem so_bipush (hx : p.tables.exec = Jvm.exec) (hb : c.code = cc) {n : Int} {v : Nat} (hd : decode cc pc = .ok (.bipush n, 2)) (hn : nx = pc + 2) (hv0 : (Int8.ofInt n).toInt32 = Int32.ofNat v) : sStepOk (fun H locs g => W p l e R s m args below meth c H locs cells slots Q g) (sLv D cy A r al hid rest s.heap) m r al nL pc nx (oLdc v) := by
  intro go hgo L st pa mem H locs ls h hp hv hl
  subst hn
  have k := hgo _ _ _ _ _ _ _ _ h hp hv hl
  simp only [List.map_cons, sVal, sI, sD_c] at k
  exact lv_bipush hx hb hd hv0 k

theorem so_sipush (hx : p.tables.exec = Jvm.exec) (hb : c.code = cc) {n : Int} {v : Nat} (hd : decode cc pc = .ok (.sipush n, 3)) (hn : nx = pc + 3) (hv0 : (Int16.ofInt n).toInt32 = Int32.ofNat v) : sStepOk (fun H locs g => W p l e R s m args below meth c H locs cells slots Q g) (sLv D cy A r al hid rest s.heap) m r al nL pc nx (oLdc v) := by
  intro go hgo L st pa mem H locs ls h hp hv hl
  subst hn
  have k := hgo _ _ _ _ _ _ _ _ h hp hv hl
  simp only [List.map_cons, sVal, sI, sD_c] at k
  exact lv_sipush hx hb hd hv0 k

theorem so_lconst (hx : p.tables.exec = Jvm.exec) (hb : c.code = cc) {n : Fin 2} {v : Nat} (hd : decode cc pc = .ok (.lconst n, 1)) (hn : nx = pc + 1) (hv0 : Int64.ofNat (n : Nat) = Int64.ofNat v) : sStepOk (fun H locs g => W p l e R s m args below meth c H locs cells slots Q g) (sLv D cy A r al hid rest s.heap) m r al nL pc nx (oLdc2 v) := by
  intro go hgo L st pa mem H locs ls h hp hv hl
  subst hn
  have k := hgo _ _ _ _ _ _ _ _ h hp hv hl
  simp only [List.map_cons, sVal, sJ, sD_c] at k
  exact lv_lconst hx hb hd hv0 k

theorem so_ldc (hx : p.tables.exec = Jvm.exec) (hb : c.code = cc) {own : String} {i v : Nat} (hown : s.vm.findClass own = some m.cls) (hd : decode cc pc = .ok (.ldc i, 2)) (hn : nx = pc + 2) (hc : (Jvm.Cond.constant own i (Int32.ofNat v)).before args s = true) : sStepOk (fun H locs g => W p l e R s m args below meth c H locs cells slots Q g) (sLv D cy A r al hid rest s.heap) m r al nL pc nx (oLdc v) := by
  intro go hgo L st pa mem H locs ls h hp hv hl
  subst hn
  have k := hgo _ _ _ _ _ _ _ _ h hp hv hl
  simp only [List.map_cons, sVal, sI, sD_c] at k
  exact lv_ldc hx hb hown hc hd k

theorem so_ldcw (hx : p.tables.exec = Jvm.exec) (hb : c.code = cc) {own : String} {i v : Nat} (hown : s.vm.findClass own = some m.cls) (hd : decode cc pc = .ok (.ldc_w i, 3)) (hn : nx = pc + 3) (hc : (Jvm.Cond.constant own i (Int32.ofNat v)).before args s = true) : sStepOk (fun H locs g => W p l e R s m args below meth c H locs cells slots Q g) (sLv D cy A r al hid rest s.heap) m r al nL pc nx (oLdc v) := by
  intro go hgo L st pa mem H locs ls h hp hv hl
  subst hn
  have k := hgo _ _ _ _ _ _ _ _ h hp hv hl
  simp only [List.map_cons, sVal, sI, sD_c] at k
  exact lv_ldcw hx hb hown hc hd k

theorem so_ldc2 (hx : p.tables.exec = Jvm.exec) (hb : c.code = cc) {own : String} {i v : Nat} (hown : s.vm.findClass own = some m.cls) (hd : decode cc pc = .ok (.ldc2_w i, 3)) (hn : nx = pc + 3) (hc : (Jvm.Cond.constantLong own i (Int64.ofNat v)).before args s = true) : sStepOk (fun H locs g => W p l e R s m args below meth c H locs cells slots Q g) (sLv D cy A r al hid rest s.heap) m r al nL pc nx (oLdc2 v) := by
  intro go hgo L st pa mem H locs ls h hp hv hl
  subst hn
  have k := hgo _ _ _ _ _ _ _ _ h hp hv hl
  simp only [List.map_cons, sVal, sJ, sD_c] at k
  exact lv_ldc2 hx hb hown hc hd k

theorem so_iload_n (hx : p.tables.exec = Jvm.exec) (hb : c.code = cc) {k : Fin 4} {i : Nat} (hd : decode cc pc = .ok (.iload_n k, 1)) (hn : nx = pc + 1) (hi : (k : Nat) = i) : sStepOk (fun H locs g => W p l e R s m args below meth c H locs cells slots Q g) (sLv D cy A r al hid rest s.heap) m r al nL pc nx (oIload i) := by
  intro go hgo L st pa mem H locs ls h hp hv hl
  subst hn
  replace h := sGet_ok _ _ _ h
  obtain ⟨w, h1, h⟩ := h
  replace h := sOpt_ok h
  obtain ⟨v, rfl, h⟩ := h
  replace h := sVI_ok h
  obtain ⟨x, rfl, h⟩ := h
  have k := hgo _ _ _ _ _ _ _ _ h hp hv hl
  have h2 := hl.2.2.1 _ _ h1
  simp only [List.map_cons, sVal] at k h2
  exact lv_iload_n hx hb hd hi h2 k

theorem so_iload (hx : p.tables.exec = Jvm.exec) (hb : c.code = cc) {i : Nat} (hd : decode cc pc = .ok (.iload i, 2)) (hn : nx = pc + 2) : sStepOk (fun H locs g => W p l e R s m args below meth c H locs cells slots Q g) (sLv D cy A r al hid rest s.heap) m r al nL pc nx (oIload i) := by
  intro go hgo L st pa mem H locs ls h hp hv hl
  subst hn
  replace h := sGet_ok _ _ _ h
  obtain ⟨w, h1, h⟩ := h
  replace h := sOpt_ok h
  obtain ⟨v, rfl, h⟩ := h
  replace h := sVI_ok h
  obtain ⟨x, rfl, h⟩ := h
  have k := hgo _ _ _ _ _ _ _ _ h hp hv hl
  have h2 := hl.2.2.1 _ _ h1
  simp only [List.map_cons, sVal] at k h2
  exact lv_iload hx hb hd h2 k

theorem so_lload_n (hx : p.tables.exec = Jvm.exec) (hb : c.code = cc) {k : Fin 4} {i : Nat} (hd : decode cc pc = .ok (.lload_n k, 1)) (hn : nx = pc + 1) (hi : (k : Nat) = i) : sStepOk (fun H locs g => W p l e R s m args below meth c H locs cells slots Q g) (sLv D cy A r al hid rest s.heap) m r al nL pc nx (oLload i) := by
  intro go hgo L st pa mem H locs ls h hp hv hl
  subst hn
  replace h := sGet_ok _ _ _ h
  obtain ⟨w, h1, h⟩ := h
  replace h := sOpt_ok h
  obtain ⟨v, rfl, h⟩ := h
  replace h := sVL_ok h
  obtain ⟨x, rfl, h⟩ := h
  have k := hgo _ _ _ _ _ _ _ _ h hp hv hl
  have h2 := hl.2.2.1 _ _ h1
  simp only [List.map_cons, sVal] at k h2
  exact lv_lload_n hx hb hd hi h2 k

theorem so_lload (hx : p.tables.exec = Jvm.exec) (hb : c.code = cc) {i : Nat} (hd : decode cc pc = .ok (.lload i, 2)) (hn : nx = pc + 2) : sStepOk (fun H locs g => W p l e R s m args below meth c H locs cells slots Q g) (sLv D cy A r al hid rest s.heap) m r al nL pc nx (oLload i) := by
  intro go hgo L st pa mem H locs ls h hp hv hl
  subst hn
  replace h := sGet_ok _ _ _ h
  obtain ⟨w, h1, h⟩ := h
  replace h := sOpt_ok h
  obtain ⟨v, rfl, h⟩ := h
  replace h := sVL_ok h
  obtain ⟨x, rfl, h⟩ := h
  have k := hgo _ _ _ _ _ _ _ _ h hp hv hl
  have h2 := hl.2.2.1 _ _ h1
  simp only [List.map_cons, sVal] at k h2
  exact lv_lload hx hb hd h2 k

theorem so_aload_n (hx : p.tables.exec = Jvm.exec) (hb : c.code = cc) {k : Fin 4} {i : Nat} (hd : decode cc pc = .ok (.aload_n k, 1)) (hn : nx = pc + 1) (hi : (k : Nat) = i) : sStepOk (fun H locs g => W p l e R s m args below meth c H locs cells slots Q g) (sLv D cy A r al hid rest s.heap) m r al nL pc nx (oAload i) := by
  intro go hgo L st pa mem H locs ls h hp hv hl
  subst hn
  replace h := sGet_ok _ _ _ h
  obtain ⟨w, h1, h⟩ := h
  replace h := sOpt_ok h
  obtain ⟨v, rfl, h⟩ := h
  replace h := sVR_ok h
  obtain ⟨x, rfl, h⟩ := h
  have k := hgo _ _ _ _ _ _ _ _ h hp hv hl
  have h2 := hl.2.2.1 _ _ h1
  simp only [List.map_cons, sVal] at k h2
  exact lv_aload_n hx hb hd hi h2 k

theorem so_aload (hx : p.tables.exec = Jvm.exec) (hb : c.code = cc) {i : Nat} (hd : decode cc pc = .ok (.aload i, 2)) (hn : nx = pc + 2) : sStepOk (fun H locs g => W p l e R s m args below meth c H locs cells slots Q g) (sLv D cy A r al hid rest s.heap) m r al nL pc nx (oAload i) := by
  intro go hgo L st pa mem H locs ls h hp hv hl
  subst hn
  replace h := sGet_ok _ _ _ h
  obtain ⟨w, h1, h⟩ := h
  replace h := sOpt_ok h
  obtain ⟨v, rfl, h⟩ := h
  replace h := sVR_ok h
  obtain ⟨x, rfl, h⟩ := h
  have k := hgo _ _ _ _ _ _ _ _ h hp hv hl
  have h2 := hl.2.2.1 _ _ h1
  simp only [List.map_cons, sVal] at k h2
  exact lv_aload hx hb hd h2 k

theorem so_put1 {L : sL} {i : Nat} {v : sV} {k : sL → Bool} {ls : Array Slot} (h : sPut1 L i v k = true) (hl : sLo r al ls nL L) : i < nL ∧ ∃ L', k L' = true ∧ ∀ ls' : Array Slot, lv_has ls' nL ((i, sVal r al v) :: (sLs r al L).filter (fun q => !(q.1 == i) && !(q.1 + 1 == i && q.2.category == 2))) → sLo r al ls' nL L' := by
  obtain ⟨L', h1, h2, h3, h4⟩ := sLo_put1 (r := r) (al := al) (ls := ls) (nL := nL) h
  have hL := hl.2.2.2
  refine ⟨hL ▸ h2, L', h1, fun ls' hls => ⟨hls.1, hls.2.1, fun j w hj => ?_, h3.trans hL⟩⟩
  rcases h4 j w hj with ⟨rfl, rfl⟩ | ⟨e1, e2, e3⟩
  · exact hls.2.2 (j, sVal r al w) List.mem_cons_self
  · refine hls.2.2 (j, sVal r al w) (List.mem_cons_of_mem _ (List.mem_filter.mpr ⟨sLs_mem.mpr ⟨w, e2, rfl⟩, ?_⟩))
    simp only [Bool.and_eq_true, Bool.not_eq_true', beq_eq_false_iff_ne, ne_eq, Bool.and_eq_false_iff]
    refine ⟨e1, ?_⟩
    by_cases q : j + 1 = i
    · refine Or.inr (fun q2 => e3 ⟨q, sVal_cat.mp q2⟩)
    · exact Or.inl q
theorem so_put2 {L : sL} {i : Nat} {v : sV} {k : sL → Bool} {ls : Array Slot} (h : sPut2 L i v k = true) (hl : sLo r al ls nL L) : i + 1 < nL ∧ ∃ L', k L' = true ∧ ∀ ls' : Array Slot, lv_has ls' nL ((i, sVal r al v) :: (sLs r al L).filter (fun q => !(q.1 == i) && (!(q.1 == i + 1) && !(q.1 + 1 == i && q.2.category == 2)))) → sLo r al ls' nL L' := by
  obtain ⟨L1, h1, h2, h3, h4⟩ := sLo_put1 (r := r) (al := al) (ls := ls) (nL := nL) h
  obtain ⟨h5, h6⟩ := sSet_ok _ _ _ _ h1
  have hL := hl.2.2.2
  refine ⟨by omega, _, h6, fun ls' hls => ⟨hls.1, hls.2.1, fun j w hj => ?_, by rw [List.length_set]; exact h3.trans hL⟩⟩
  rw [List.getElem?_set] at hj
  by_cases e0 : i + 1 = j
  · subst e0
    simp [h5] at hj
  · rw [if_neg e0] at hj
    rcases h4 j w hj with ⟨rfl, rfl⟩ | ⟨e1, e2, e3⟩
    · exact hls.2.2 (j, sVal r al w) List.mem_cons_self
    · refine hls.2.2 (j, sVal r al w) (List.mem_cons_of_mem _ (List.mem_filter.mpr ⟨sLs_mem.mpr ⟨w, e2, rfl⟩, ?_⟩))
      simp only [Bool.and_eq_true, Bool.not_eq_true', beq_eq_false_iff_ne, ne_eq, Bool.and_eq_false_iff]
      refine ⟨e1, fun q => e0 q.symm, ?_⟩
      by_cases q : j + 1 = i
      · refine Or.inr (fun q2 => e3 ⟨q, sVal_cat.mp q2⟩)
      · exact Or.inl q

theorem so_istore_n (hx : p.tables.exec = Jvm.exec) (hb : c.code = cc) {k : Fin 4} {i : Nat} (hd : decode cc pc = .ok (.istore_n k, 1)) (hn : nx = pc + 1) (hi : (k : Nat) = i) : sStepOk (fun H locs g => W p l e R s m args below meth c H locs cells slots Q g) (sLv D cy A r al hid rest s.heap) m r al nL pc nx (oIstore i) := by
  intro go hgo L st pa mem H locs ls h hp hv hl
  subst hn
  replace h := sTI_ok h
  obtain ⟨x, st1, rfl, h⟩ := h
  obtain ⟨h1, L', h2, h3⟩ := so_put1 h hl
  simp only [List.map_cons, sVal] at h3 ⊢
  exact lv_istore_n hx hb hd hi (sLo_has hl) h1 rfl (fun ls' hls => hgo _ _ _ _ _ _ _ _ h2 hp hv (h3 ls' hls))

theorem so_istore (hx : p.tables.exec = Jvm.exec) (hb : c.code = cc) {i : Nat} (hd : decode cc pc = .ok (.istore i, 2)) (hn : nx = pc + 2) : sStepOk (fun H locs g => W p l e R s m args below meth c H locs cells slots Q g) (sLv D cy A r al hid rest s.heap) m r al nL pc nx (oIstore i) := by
  intro go hgo L st pa mem H locs ls h hp hv hl
  subst hn
  replace h := sTI_ok h
  obtain ⟨x, st1, rfl, h⟩ := h
  obtain ⟨h1, L', h2, h3⟩ := so_put1 h hl
  simp only [List.map_cons, sVal] at h3 ⊢
  exact lv_istore hx hb hd (sLo_has hl) h1 rfl (fun ls' hls => hgo _ _ _ _ _ _ _ _ h2 hp hv (h3 ls' hls))

theorem so_lstore_n (hx : p.tables.exec = Jvm.exec) (hb : c.code = cc) {k : Fin 4} {i : Nat} (hd : decode cc pc = .ok (.lstore_n k, 1)) (hn : nx = pc + 1) (hi : (k : Nat) = i) : sStepOk (fun H locs g => W p l e R s m args below meth c H locs cells slots Q g) (sLv D cy A r al hid rest s.heap) m r al nL pc nx (oLstore i) := by
  intro go hgo L st pa mem H locs ls h hp hv hl
  subst hn
  replace h := sTL_ok h
  obtain ⟨x, st1, rfl, h⟩ := h
  obtain ⟨h1, L', h2, h3⟩ := so_put2 h hl
  simp only [List.map_cons, sVal] at h3 ⊢
  exact lv_lstore_n hx hb hd hi (sLo_has hl) h1 rfl (fun ls' hls => hgo _ _ _ _ _ _ _ _ h2 hp hv (h3 ls' hls))

theorem so_lstore (hx : p.tables.exec = Jvm.exec) (hb : c.code = cc) {i : Nat} (hd : decode cc pc = .ok (.lstore i, 2)) (hn : nx = pc + 2) : sStepOk (fun H locs g => W p l e R s m args below meth c H locs cells slots Q g) (sLv D cy A r al hid rest s.heap) m r al nL pc nx (oLstore i) := by
  intro go hgo L st pa mem H locs ls h hp hv hl
  subst hn
  replace h := sTL_ok h
  obtain ⟨x, st1, rfl, h⟩ := h
  obtain ⟨h1, L', h2, h3⟩ := so_put2 h hl
  simp only [List.map_cons, sVal] at h3 ⊢
  exact lv_lstore hx hb hd (sLo_has hl) h1 rfl (fun ls' hls => hgo _ _ _ _ _ _ _ _ h2 hp hv (h3 ls' hls))

theorem so_astore_n (hx : p.tables.exec = Jvm.exec) (hb : c.code = cc) {k : Fin 4} {i : Nat} (hd : decode cc pc = .ok (.astore_n k, 1)) (hn : nx = pc + 1) (hi : (k : Nat) = i) : sStepOk (fun H locs g => W p l e R s m args below meth c H locs cells slots Q g) (sLv D cy A r al hid rest s.heap) m r al nL pc nx (oAstore i) := by
  intro go hgo L st pa mem H locs ls h hp hv hl
  subst hn
  replace h := sTR_ok h
  obtain ⟨x, st1, rfl, h⟩ := h
  obtain ⟨h1, L', h2, h3⟩ := so_put1 h hl
  simp only [List.map_cons, sVal] at h3 ⊢
  exact lv_astore_n hx hb hd hi (sLo_has hl) h1 rfl (fun ls' hls => hgo _ _ _ _ _ _ _ _ h2 hp hv (h3 ls' hls))

theorem so_astore (hx : p.tables.exec = Jvm.exec) (hb : c.code = cc) {i : Nat} (hd : decode cc pc = .ok (.astore i, 2)) (hn : nx = pc + 2) : sStepOk (fun H locs g => W p l e R s m args below meth c H locs cells slots Q g) (sLv D cy A r al hid rest s.heap) m r al nL pc nx (oAstore i) := by
  intro go hgo L st pa mem H locs ls h hp hv hl
  subst hn
  replace h := sTR_ok h
  obtain ⟨x, st1, rfl, h⟩ := h
  obtain ⟨h1, L', h2, h3⟩ := so_put1 h hl
  simp only [List.map_cons, sVal] at h3 ⊢
  exact lv_astore hx hb hd (sLo_has hl) h1 rfl (fun ls' hls => hgo _ _ _ _ _ _ _ _ h2 hp hv (h3 ls' hls))

theorem so_iinc (hx : p.tables.exec = Jvm.exec) (hb : c.code = cc) {i n : Nat} {n0 : Int} (hd : decode cc pc = .ok (.iinc i n0, 3)) (hn : nx = pc + 3) (hn0 : Int32.ofInt n0 = Int32.ofNat n) : sStepOk (fun H locs g => W p l e R s m args below meth c H locs cells slots Q g) (sLv D cy A r al hid rest s.heap) m r al nL pc nx (oIinc i n) := by
  intro go hgo L st pa mem H locs ls h hp hv hl
  subst hn
  replace h := sGet_ok _ _ _ h
  obtain ⟨w, h1, h⟩ := h
  replace h := sOpt_ok h
  obtain ⟨v, rfl, h⟩ := h
  replace h := sVI_ok h
  obtain ⟨x, rfl, h⟩ := h
  replace h := sBin_I (r := r) (g := fun a b => a + b) (fun _ _ => rfl) fAdd_ok h
  obtain ⟨z, hz, h⟩ := h
  obtain ⟨h2, L', h3, h4⟩ := so_put1 h hl
  have hm : (i, Value.int (sI r x)) ∈ sLs r al L := sLs_mem.mpr ⟨.inl x, h1, rfl⟩
  obtain ⟨kk, hkk⟩ := List.getElem?_of_mem hm
  refine lv_iinc (v := sI r z) hx hb hd (sLo_has hl) hkk (by rw [hz, hn0]; simp only [sI, sD_c]) h2 rfl (fun ls' hls => hgo _ _ _ _ _ _ _ _ h3 hp hv (h4 ls' hls))

theorem so_iadd (hx : p.tables.exec = Jvm.exec) (hb : c.code = cc) (hd : decode cc pc = .ok (.iadd, 1)) (hn : nx = pc + 1) : sStepOk (fun H locs g => W p l e R s m args below meth c H locs cells slots Q g) (sLv D cy A r al hid rest s.heap) m r al nL pc nx (oII 0 fAdd) := by
  intro go hgo L st pa mem H locs ls h hp hv hl
  subst hn
  replace h := sTI_ok h
  obtain ⟨y, st1, rfl, h⟩ := h
  replace h := sTI_ok h
  obtain ⟨x, st2, rfl, h⟩ := h
  replace h := sBin_I (r := r) (g := fun a b => a + b) (fun _ _ => rfl) fAdd_ok h
  obtain ⟨z, hz, h⟩ := h
  have k := hgo _ _ _ _ _ _ _ _ h hp hv hl
  simp only [List.map_cons, sVal] at k ⊢
  rw [hz] at k
  exact lv_iadd hx hb hd k

theorem so_isub (hx : p.tables.exec = Jvm.exec) (hb : c.code = cc) (hd : decode cc pc = .ok (.isub, 1)) (hn : nx = pc + 1) : sStepOk (fun H locs g => W p l e R s m args below meth c H locs cells slots Q g) (sLv D cy A r al hid rest s.heap) m r al nL pc nx (oII 1 fSub) := by
  intro go hgo L st pa mem H locs ls h hp hv hl
  subst hn
  replace h := sTI_ok h
  obtain ⟨y, st1, rfl, h⟩ := h
  replace h := sTI_ok h
  obtain ⟨x, st2, rfl, h⟩ := h
  replace h := sBin_I (r := r) (g := fun a b => a - b) (fun _ _ => rfl) fSub_ok h
  obtain ⟨z, hz, h⟩ := h
  have k := hgo _ _ _ _ _ _ _ _ h hp hv hl
  simp only [List.map_cons, sVal] at k ⊢
  rw [hz] at k
  exact lv_isub hx hb hd k

theorem so_imul (hx : p.tables.exec = Jvm.exec) (hb : c.code = cc) (hd : decode cc pc = .ok (.imul, 1)) (hn : nx = pc + 1) : sStepOk (fun H locs g => W p l e R s m args below meth c H locs cells slots Q g) (sLv D cy A r al hid rest s.heap) m r al nL pc nx (oII 2 fMul) := by
  intro go hgo L st pa mem H locs ls h hp hv hl
  subst hn
  replace h := sTI_ok h
  obtain ⟨y, st1, rfl, h⟩ := h
  replace h := sTI_ok h
  obtain ⟨x, st2, rfl, h⟩ := h
  replace h := sBin_I (r := r) (g := fun a b => a * b) (fun _ _ => rfl) fMul_ok h
  obtain ⟨z, hz, h⟩ := h
  have k := hgo _ _ _ _ _ _ _ _ h hp hv hl
  simp only [List.map_cons, sVal] at k ⊢
  rw [hz] at k
  exact lv_imul hx hb hd k

theorem so_iand (hx : p.tables.exec = Jvm.exec) (hb : c.code = cc) (hd : decode cc pc = .ok (.iand, 1)) (hn : nx = pc + 1) : sStepOk (fun H locs g => W p l e R s m args below meth c H locs cells slots Q g) (sLv D cy A r al hid rest s.heap) m r al nL pc nx (oII 3 fAnd) := by
  intro go hgo L st pa mem H locs ls h hp hv hl
  subst hn
  replace h := sTI_ok h
  obtain ⟨y, st1, rfl, h⟩ := h
  replace h := sTI_ok h
  obtain ⟨x, st2, rfl, h⟩ := h
  replace h := sBin_I (r := r) (g := fun a b => a &&& b) (fun _ _ => rfl) fAnd_ok h
  obtain ⟨z, hz, h⟩ := h
  have k := hgo _ _ _ _ _ _ _ _ h hp hv hl
  simp only [List.map_cons, sVal] at k ⊢
  rw [hz] at k
  exact lv_iand hx hb hd k

theorem so_ior (hx : p.tables.exec = Jvm.exec) (hb : c.code = cc) (hd : decode cc pc = .ok (.ior, 1)) (hn : nx = pc + 1) : sStepOk (fun H locs g => W p l e R s m args below meth c H locs cells slots Q g) (sLv D cy A r al hid rest s.heap) m r al nL pc nx (oII 4 fOr) := by
  intro go hgo L st pa mem H locs ls h hp hv hl
  subst hn
  replace h := sTI_ok h
  obtain ⟨y, st1, rfl, h⟩ := h
  replace h := sTI_ok h
  obtain ⟨x, st2, rfl, h⟩ := h
  replace h := sBin_I (r := r) (g := fun a b => a ||| b) (fun _ _ => rfl) fOr_ok h
  obtain ⟨z, hz, h⟩ := h
  have k := hgo _ _ _ _ _ _ _ _ h hp hv hl
  simp only [List.map_cons, sVal] at k ⊢
  rw [hz] at k
  exact lv_ior hx hb hd k

theorem so_ixor (hx : p.tables.exec = Jvm.exec) (hb : c.code = cc) (hd : decode cc pc = .ok (.ixor, 1)) (hn : nx = pc + 1) : sStepOk (fun H locs g => W p l e R s m args below meth c H locs cells slots Q g) (sLv D cy A r al hid rest s.heap) m r al nL pc nx (oII 5 (fI (fun a b => a ^^^ b))) := by
  intro go hgo L st pa mem H locs ls h hp hv hl
  subst hn
  replace h := sTI_ok h
  obtain ⟨y, st1, rfl, h⟩ := h
  replace h := sTI_ok h
  obtain ⟨x, st2, rfl, h⟩ := h
  replace h := sBin_I (r := r) (g := fun a b => a ^^^ b) (fun _ _ => rfl) (fun _ _ => fN_ok _) h
  obtain ⟨z, hz, h⟩ := h
  have k := hgo _ _ _ _ _ _ _ _ h hp hv hl
  simp only [List.map_cons, sVal] at k ⊢
  rw [hz] at k
  exact lv_ixor hx hb hd k

theorem so_ishl (hx : p.tables.exec = Jvm.exec) (hb : c.code = cc) (hd : decode cc pc = .ok (.ishl, 1)) (hn : nx = pc + 1) : sStepOk (fun H locs g => W p l e R s m args below meth c H locs cells slots Q g) (sLv D cy A r al hid rest s.heap) m r al nL pc nx (oII 6 fShl) := by
  intro go hgo L st pa mem H locs ls h hp hv hl
  subst hn
  replace h := sTI_ok h
  obtain ⟨y, st1, rfl, h⟩ := h
  replace h := sTI_ok h
  obtain ⟨x, st2, rfl, h⟩ := h
  replace h := sBin_I (r := r) (g := fun a b => a <<< (b &&& 31)) (fun _ _ => rfl) fShl_ok h
  obtain ⟨z, hz, h⟩ := h
  have k := hgo _ _ _ _ _ _ _ _ h hp hv hl
  simp only [List.map_cons, sVal] at k ⊢
  rw [hz] at k
  exact lv_ishl hx hb hd k

theorem so_ishr (hx : p.tables.exec = Jvm.exec) (hb : c.code = cc) (hd : decode cc pc = .ok (.ishr, 1)) (hn : nx = pc + 1) : sStepOk (fun H locs g => W p l e R s m args below meth c H locs cells slots Q g) (sLv D cy A r al hid rest s.heap) m r al nL pc nx (oII 7 fShr) := by
  intro go hgo L st pa mem H locs ls h hp hv hl
  subst hn
  replace h := sTI_ok h
  obtain ⟨y, st1, rfl, h⟩ := h
  replace h := sTI_ok h
  obtain ⟨x, st2, rfl, h⟩ := h
  replace h := sBin_I (r := r) (g := fun a b => a >>> (b &&& 31)) (fun _ _ => rfl) fShr_ok h
  obtain ⟨z, hz, h⟩ := h
  have k := hgo _ _ _ _ _ _ _ _ h hp hv hl
  simp only [List.map_cons, sVal] at k ⊢
  rw [hz] at k
  exact lv_ishr hx hb hd k

theorem so_iushr (hx : p.tables.exec = Jvm.exec) (hb : c.code = cc) (hd : decode cc pc = .ok (.iushr, 1)) (hn : nx = pc + 1) : sStepOk (fun H locs g => W p l e R s m args below meth c H locs cells slots Q g) (sLv D cy A r al hid rest s.heap) m r al nL pc nx (oII 8 (fI (fun a b => (a.toUInt32 >>> (b.toUInt32 &&& Int32.toUInt32 31)).toInt32))) := by
  intro go hgo L st pa mem H locs ls h hp hv hl
  subst hn
  replace h := sTI_ok h
  obtain ⟨y, st1, rfl, h⟩ := h
  replace h := sTI_ok h
  obtain ⟨x, st2, rfl, h⟩ := h
  replace h := sBin_I (r := r) (g := fun a b => (a.toUInt32 >>> (b.toUInt32 &&& Int32.toUInt32 31)).toInt32) (fun _ _ => rfl) (fun _ _ => fN_ok _) h
  obtain ⟨z, hz, h⟩ := h
  have k := hgo _ _ _ _ _ _ _ _ h hp hv hl
  simp only [List.map_cons, sVal] at k ⊢
  exact lv_iushr hx hb hd hz.symm k

theorem so_irem (hx : p.tables.exec = Jvm.exec) (hb : c.code = cc) (hd : decode cc pc = .ok (.irem, 1)) (hn : nx = pc + 1) : sStepOk (fun H locs g => W p l e R s m args below meth c H locs cells slots Q g) (sLv D cy A r al hid rest s.heap) m r al nL pc nx oIrem := by
  intro go hgo L st pa mem H locs ls h hp hv hl
  subst hn
  replace h := sTI_ok h
  obtain ⟨y, st1, rfl, h⟩ := h
  replace h := sNum_ok h
  obtain ⟨b, rfl, h⟩ := h
  replace h := sIf_ok h
  obtain ⟨hb0, h⟩ := h
  replace h := sTI_ok h
  obtain ⟨x, st2, rfl, h⟩ := h
  replace h := sBin_I (r := r) (g := fun a b => a - a / b * b) (fun _ _ => rfl) (fun _ _ => fN_ok _) h
  obtain ⟨z, hz, h⟩ := h
  have k := hgo _ _ _ _ _ _ _ _ h hp hv hl
  simp only [List.map_cons, sVal] at k ⊢
  rw [hz] at k
  refine lv_irem hx hb hd (fun q => ?_) k
  simp only [sI, sD_c] at q
  have q2 : fEq b 0 = true := (fEq_ok b 0).mpr q
  rw [show fEq b (nat_lit 0) = fEq b 0 from rfl, q2] at hb0
  cases hb0

theorem so_ineg (hx : p.tables.exec = Jvm.exec) (hb : c.code = cc) (hd : decode cc pc = .ok (.ineg, 1)) (hn : nx = pc + 1) : sStepOk (fun H locs g => W p l e R s m args below meth c H locs cells slots Q g) (sLv D cy A r al hid rest s.heap) m r al nL pc nx (oI1 0 (fun a => fN (-Int32.ofNat a))) := by
  intro go hgo L st pa mem H locs ls h hp hv hl
  subst hn
  replace h := sTI_ok h
  obtain ⟨x, st2, rfl, h⟩ := h
  replace h := sUn_I (r := r) (g := fun a => -a) (fun _ => rfl) (fun _ => fN_ok _) h
  obtain ⟨z, hz, h⟩ := h
  have k := hgo _ _ _ _ _ _ _ _ h hp hv hl
  simp only [List.map_cons, sVal] at k ⊢
  rw [hz] at k
  exact lv_ineg hx hb hd k

theorem so_i2b (hx : p.tables.exec = Jvm.exec) (hb : c.code = cc) (hd : decode cc pc = .ok (.i2b, 1)) (hn : nx = pc + 1) : sStepOk (fun H locs g => W p l e R s m args below meth c H locs cells slots Q g) (sLv D cy A r al hid rest s.heap) m r al nL pc nx (oI1 1 (fun a => fN (Int32.ofNat a).toInt8.toInt32)) := by
  intro go hgo L st pa mem H locs ls h hp hv hl
  subst hn
  replace h := sTI_ok h
  obtain ⟨x, st2, rfl, h⟩ := h
  replace h := sUn_I (r := r) (g := fun a => a.toInt8.toInt32) (fun _ => rfl) (fun _ => fN_ok _) h
  obtain ⟨z, hz, h⟩ := h
  have k := hgo _ _ _ _ _ _ _ _ h hp hv hl
  simp only [List.map_cons, sVal] at k ⊢
  exact lv_i2b hx hb hd hz.symm k

theorem so_l2i (hx : p.tables.exec = Jvm.exec) (hb : c.code = cc) (hd : decode cc pc = .ok (.l2i, 1)) (hn : nx = pc + 1) : sStepOk (fun H locs g => W p l e R s m args below meth c H locs cells slots Q g) (sLv D cy A r al hid rest s.heap) m r al nL pc nx oL2i := by
  intro go hgo L st pa mem H locs ls h hp hv hl
  subst hn
  replace h := sTL_ok h
  obtain ⟨x, st2, rfl, h⟩ := h
  have k0 : ∃ z, sI r z = (sJ r x).toInt32 ∧ go (pc + 1) L (.inl z :: st2) pa mem = true := by
    rcases sUn_ok h with ⟨a, ha, h2⟩ | h2
    · subst ha
      exact ⟨_, by simp only [sI, sJ, sD_c]; exact fN_ok _, h2⟩
    · exact ⟨_, by simp only [sI, sJ, sD_u]; rfl, h2⟩
  obtain ⟨z, hz, h⟩ := k0
  have k := hgo _ _ _ _ _ _ _ _ h hp hv hl
  simp only [List.map_cons, sVal] at k ⊢
  exact lv_l2i hx hb hd hz.symm k

theorem so_i2l (hx : p.tables.exec = Jvm.exec) (hb : c.code = cc) (hd : decode cc pc = .ok (.i2l, 1)) (hn : nx = pc + 1) : sStepOk (fun H locs g => W p l e R s m args below meth c H locs cells slots Q g) (sLv D cy A r al hid rest s.heap) m r al nL pc nx oI2l := by
  intro go hgo L st pa mem H locs ls h hp hv hl
  subst hn
  replace h := sTI_ok h
  obtain ⟨x, st2, rfl, h⟩ := h
  have k0 : ∃ z, sJ r z = (sI r x).toInt64 ∧ go (pc + 1) L (.inr (.inl z) :: st2) pa mem = true := by
    rcases sUn_ok h with ⟨a, ha, h2⟩ | h2
    · subst ha
      exact ⟨_, by simp only [sI, sJ, sD_c]; exact gN_ok _, h2⟩
    · exact ⟨_, by simp only [sI, sJ, sD_u]; rfl, h2⟩
  obtain ⟨z, hz, h⟩ := k0
  have k := hgo _ _ _ _ _ _ _ _ h hp hv hl
  simp only [List.map_cons, sVal] at k ⊢
  exact lv_i2l hx hb hd hz.symm k

theorem so_lneg (hx : p.tables.exec = Jvm.exec) (hb : c.code = cc) (hd : decode cc pc = .ok (.lneg, 1)) (hn : nx = pc + 1) : sStepOk (fun H locs g => W p l e R s m args below meth c H locs cells slots Q g) (sLv D cy A r al hid rest s.heap) m r al nL pc nx oLneg := by
  intro go hgo L st pa mem H locs ls h hp hv hl
  subst hn
  replace h := sTL_ok h
  obtain ⟨x, st2, rfl, h⟩ := h
  replace h := sUn_J (r := r) (g := fun a => -a) (fun _ => rfl) (fun _ => gN_ok _) h
  obtain ⟨z, hz, h⟩ := h
  have k := hgo _ _ _ _ _ _ _ _ h hp hv hl
  simp only [List.map_cons, sVal] at k ⊢
  rw [hz] at k
  exact lv_lneg hx hb hd k

theorem so_ladd (hx : p.tables.exec = Jvm.exec) (hb : c.code = cc) (hd : decode cc pc = .ok (.ladd, 1)) (hn : nx = pc + 1) : sStepOk (fun H locs g => W p l e R s m args below meth c H locs cells slots Q g) (sLv D cy A r al hid rest s.heap) m r al nL pc nx (oLL 20 (fJ (fun a b => a + b))) := by
  intro go hgo L st pa mem H locs ls h hp hv hl
  subst hn
  replace h := sTL_ok h
  obtain ⟨y, st1, rfl, h⟩ := h
  replace h := sTL_ok h
  obtain ⟨x, st2, rfl, h⟩ := h
  replace h := sBin_J (r := r) (g := fun a b => a + b) (fun _ _ => rfl) (fun _ _ => gN_ok _) h
  obtain ⟨z, hz, h⟩ := h
  have k := hgo _ _ _ _ _ _ _ _ h hp hv hl
  simp only [List.map_cons, sVal] at k ⊢
  rw [hz] at k
  exact lv_ladd hx hb hd k

theorem so_lsub (hx : p.tables.exec = Jvm.exec) (hb : c.code = cc) (hd : decode cc pc = .ok (.lsub, 1)) (hn : nx = pc + 1) : sStepOk (fun H locs g => W p l e R s m args below meth c H locs cells slots Q g) (sLv D cy A r al hid rest s.heap) m r al nL pc nx (oLL 21 (fJ (fun a b => a - b))) := by
  intro go hgo L st pa mem H locs ls h hp hv hl
  subst hn
  replace h := sTL_ok h
  obtain ⟨y, st1, rfl, h⟩ := h
  replace h := sTL_ok h
  obtain ⟨x, st2, rfl, h⟩ := h
  replace h := sBin_J (r := r) (g := fun a b => a - b) (fun _ _ => rfl) (fun _ _ => gN_ok _) h
  obtain ⟨z, hz, h⟩ := h
  have k := hgo _ _ _ _ _ _ _ _ h hp hv hl
  simp only [List.map_cons, sVal] at k ⊢
  rw [hz] at k
  exact lv_lsub hx hb hd k

theorem so_lmul (hx : p.tables.exec = Jvm.exec) (hb : c.code = cc) (hd : decode cc pc = .ok (.lmul, 1)) (hn : nx = pc + 1) : sStepOk (fun H locs g => W p l e R s m args below meth c H locs cells slots Q g) (sLv D cy A r al hid rest s.heap) m r al nL pc nx (oLL 22 (fJ (fun a b => a * b))) := by
  intro go hgo L st pa mem H locs ls h hp hv hl
  subst hn
  replace h := sTL_ok h
  obtain ⟨y, st1, rfl, h⟩ := h
  replace h := sTL_ok h
  obtain ⟨x, st2, rfl, h⟩ := h
  replace h := sBin_J (r := r) (g := fun a b => a * b) (fun _ _ => rfl) (fun _ _ => gN_ok _) h
  obtain ⟨z, hz, h⟩ := h
  have k := hgo _ _ _ _ _ _ _ _ h hp hv hl
  simp only [List.map_cons, sVal] at k ⊢
  rw [hz] at k
  exact lv_lmul hx hb hd k

theorem so_lor (hx : p.tables.exec = Jvm.exec) (hb : c.code = cc) (hd : decode cc pc = .ok (.lor, 1)) (hn : nx = pc + 1) : sStepOk (fun H locs g => W p l e R s m args below meth c H locs cells slots Q g) (sLv D cy A r al hid rest s.heap) m r al nL pc nx (oLL 24 (fJ (fun a b => a ||| b))) := by
  intro go hgo L st pa mem H locs ls h hp hv hl
  subst hn
  replace h := sTL_ok h
  obtain ⟨y, st1, rfl, h⟩ := h
  replace h := sTL_ok h
  obtain ⟨x, st2, rfl, h⟩ := h
  replace h := sBin_J (r := r) (g := fun a b => a ||| b) (fun _ _ => rfl) (fun _ _ => gN_ok _) h
  obtain ⟨z, hz, h⟩ := h
  have k := hgo _ _ _ _ _ _ _ _ h hp hv hl
  simp only [List.map_cons, sVal] at k ⊢
  rw [hz] at k
  exact lv_lor hx hb hd k

theorem so_lshr (hx : p.tables.exec = Jvm.exec) (hb : c.code = cc) (hd : decode cc pc = .ok (.lshr, 1)) (hn : nx = pc + 1) : sStepOk (fun H locs g => W p l e R s m args below meth c H locs cells slots Q g) (sLv D cy A r al hid rest s.heap) m r al nL pc nx (oLsh 27 (fun a b => gN (Int64.ofNat a >>> ((Int32.ofNat b).toInt64 &&& 63)))) := by
  intro go hgo L st pa mem H locs ls h hp hv hl
  subst hn
  replace h := sTI_ok h
  obtain ⟨y, st1, rfl, h⟩ := h
  replace h := sTL_ok h
  obtain ⟨x, st2, rfl, h⟩ := h
  have k0 : ∃ z, sJ r z = (sJ r x) >>> ((sI r y).toInt64 &&& 63) ∧ go (pc + 1) L (.inr (.inl z) :: st2) pa mem = true := by
    rcases sBin_ok h with ⟨a, b, ha, hb, h2⟩ | h2
    · subst ha hb
      exact ⟨_, by simp only [sI, sJ, sD_c]; exact gN_ok _, h2⟩
    · exact ⟨_, by simp only [sI, sJ, sD_b]; rfl, h2⟩
  obtain ⟨z, hz, h⟩ := k0
  have k := hgo _ _ _ _ _ _ _ _ h hp hv hl
  simp only [List.map_cons, sVal] at k ⊢
  exact lv_lshr hx hb hd hz.symm k

theorem so_lushr (hx : p.tables.exec = Jvm.exec) (hb : c.code = cc) (hd : decode cc pc = .ok (.lushr, 1)) (hn : nx = pc + 1) : sStepOk (fun H locs g => W p l e R s m args below meth c H locs cells slots Q g) (sLv D cy A r al hid rest s.heap) m r al nL pc nx (oLsh 28 (fun a b => gN ((Int64.ofNat a).toUInt64 >>> ((Int32.ofNat b).toInt64.toUInt64 &&& Int64.toUInt64 63)).toInt64)) := by
  intro go hgo L st pa mem H locs ls h hp hv hl
  subst hn
  replace h := sTI_ok h
  obtain ⟨y, st1, rfl, h⟩ := h
  replace h := sTL_ok h
  obtain ⟨x, st2, rfl, h⟩ := h
  have k0 : ∃ z, sJ r z = ((sJ r x).toUInt64 >>> ((sI r y).toInt64.toUInt64 &&& Int64.toUInt64 63)).toInt64 ∧ go (pc + 1) L (.inr (.inl z) :: st2) pa mem = true := by
    rcases sBin_ok h with ⟨a, b, ha, hb, h2⟩ | h2
    · subst ha hb
      exact ⟨_, by simp only [sI, sJ, sD_c]; exact gN_ok _, h2⟩
    · exact ⟨_, by simp only [sI, sJ, sD_b]; rfl, h2⟩
  obtain ⟨z, hz, h⟩ := k0
  have k := hgo _ _ _ _ _ _ _ _ h hp hv hl
  simp only [List.map_cons, sVal] at k ⊢
  exact lv_lushr hx hb hd hz.symm k

theorem so_ldiv (hx : p.tables.exec = Jvm.exec) (hb : c.code = cc) (hd : decode cc pc = .ok (.ldiv, 1)) (hn : nx = pc + 1) : sStepOk (fun H locs g => W p l e R s m args below meth c H locs cells slots Q g) (sLv D cy A r al hid rest s.heap) m r al nL pc nx (oLdv 29 (fJ (fun a b => a / b))) := by
  intro go hgo L st pa mem H locs ls h hp hv hl
  subst hn
  replace h := sTL_ok h
  obtain ⟨y, st1, rfl, h⟩ := h
  replace h := sNum_ok h
  obtain ⟨b, rfl, h⟩ := h
  replace h := sIf_ok h
  obtain ⟨hb0, h⟩ := h
  replace h := sTL_ok h
  obtain ⟨x, st2, rfl, h⟩ := h
  replace h := sBin_J (r := r) (g := fun a b => a / b) (fun _ _ => rfl) (fun _ _ => gN_ok _) h
  obtain ⟨z, hz, h⟩ := h
  have k := hgo _ _ _ _ _ _ _ _ h hp hv hl
  simp only [List.map_cons, sVal] at k ⊢
  rw [hz] at k
  refine lv_ldiv hx hb hd (fun q => ?_) k
  simp only [sJ, sD_c] at q
  have q1 := congrArg gN q
  have q4 : (Int64.toUInt64 0).toNat = 0 := by decide
  have q2 : b % 18446744073709551616 = 0 := by simpa [gN, q4] using q1
  have q3 : Nat.beq (Nat.mod b (nat_lit 18446744073709551616)) (nat_lit 0) = true := Nat.beq_eq.mpr q2
  rw [q3] at hb0
  cases hb0

theorem so_lrem (hx : p.tables.exec = Jvm.exec) (hb : c.code = cc) (hd : decode cc pc = .ok (.lrem, 1)) (hn : nx = pc + 1) : sStepOk (fun H locs g => W p l e R s m args below meth c H locs cells slots Q g) (sLv D cy A r al hid rest s.heap) m r al nL pc nx (oLdv 30 (fJ (fun a b => a - a / b * b))) := by
  intro go hgo L st pa mem H locs ls h hp hv hl
  subst hn
  replace h := sTL_ok h
  obtain ⟨y, st1, rfl, h⟩ := h
  replace h := sNum_ok h
  obtain ⟨b, rfl, h⟩ := h
  replace h := sIf_ok h
  obtain ⟨hb0, h⟩ := h
  replace h := sTL_ok h
  obtain ⟨x, st2, rfl, h⟩ := h
  replace h := sBin_J (r := r) (g := fun a b => a - a / b * b) (fun _ _ => rfl) (fun _ _ => gN_ok _) h
  obtain ⟨z, hz, h⟩ := h
  have k := hgo _ _ _ _ _ _ _ _ h hp hv hl
  simp only [List.map_cons, sVal] at k ⊢
  rw [hz] at k
  refine lv_lrem hx hb hd (fun q => ?_) k
  simp only [sJ, sD_c] at q
  have q1 := congrArg gN q
  have q4 : (Int64.toUInt64 0).toNat = 0 := by decide
  have q2 : b % 18446744073709551616 = 0 := by simpa [gN, q4] using q1
  have q3 : Nat.beq (Nat.mod b (nat_lit 18446744073709551616)) (nat_lit 0) = true := Nat.beq_eq.mpr q2
  rw [q3] at hb0
  cases hb0

theorem so_lcmp (hx : p.tables.exec = Jvm.exec) (hb : c.code = cc) (hd : decode cc pc = .ok (.lcmp, 1)) (hn : nx = pc + 1) : sStepOk (fun H locs g => W p l e R s m args below meth c H locs cells slots Q g) (sLv D cy A r al hid rest s.heap) m r al nL pc nx oLcmp := by
  intro go hgo L st pa mem H locs ls h hp hv hl
  subst hn
  replace h := sTL_ok h
  obtain ⟨y, st1, rfl, h⟩ := h
  replace h := sTL_ok h
  obtain ⟨x, st2, rfl, h⟩ := h
  have k0 : ∃ z, sI r z = lg_cmp (sJ r x) (sJ r y) ∧ go (pc + 1) L (.inl z :: st2) pa mem = true := by
    rcases sBin_ok h with ⟨a, b, ha, hb, h2⟩ | h2
    · subst ha hb
      exact ⟨_, by simp only [sI, sJ, sD_c]; exact fN_ok _, h2⟩
    · exact ⟨_, by simp only [sI, sJ, sD_b]; rfl, h2⟩
  obtain ⟨z, hz, h⟩ := k0
  have k := hgo _ _ _ _ _ _ _ _ h hp hv hl
  simp only [List.map_cons, sVal] at k ⊢
  rw [hz] at k
  exact W.lcmp hx hb hd k

theorem sCat_ok {v : sV} (h : Nat.beq (sCat v) (nat_lit 1) = true) : (sVal r al v).category = 1 := by
  rcases v with x | x | x | x
  · rfl
  · exact nomatch (show false = true from h)
  · rfl
  · rfl

theorem so_dup (hx : p.tables.exec = Jvm.exec) (hb : c.code = cc) (hd : decode cc pc = .ok (.dup, 1)) (hn : nx = pc + 1) : sStepOk (fun H locs g => W p l e R s m args below meth c H locs cells slots Q g) (sLv D cy A r al hid rest s.heap) m r al nL pc nx oDup := by
  intro go hgo L st pa mem H locs ls h hp hv hl
  subst hn
  replace h := sTop_ok h
  obtain ⟨v, st1, rfl, h⟩ := h
  replace h := sIf_ok h
  obtain ⟨hc, h⟩ := h
  have k := hgo _ _ _ _ _ _ _ _ h hp hv hl
  simp only [List.map_cons] at k ⊢
  exact lv_dup hx hb hd (sCat_ok hc) k

theorem so_dup2 (hx : p.tables.exec = Jvm.exec) (hb : c.code = cc) (hd : decode cc pc = .ok (.dup2, 1)) (hn : nx = pc + 1) : sStepOk (fun H locs g => W p l e R s m args below meth c H locs cells slots Q g) (sLv D cy A r al hid rest s.heap) m r al nL pc nx oDup2 := by
  intro go hgo L st pa mem H locs ls h hp hv hl
  subst hn
  replace h := sTop_ok h
  obtain ⟨v, st1, rfl, h⟩ := h
  replace h := sIf_ok h
  obtain ⟨hc, h⟩ := h
  replace h := sTop_ok h
  obtain ⟨w, st2, rfl, h⟩ := h
  replace h := sIf_ok h
  obtain ⟨hc2, h⟩ := h
  have k := hgo _ _ _ _ _ _ _ _ h hp hv hl
  simp only [List.map_cons] at k ⊢
  exact lv_dup2_11 hx hb hd (sCat_ok hc) (sCat_ok hc2) k

theorem so_goto (hx : p.tables.exec = Jvm.exec) (hb : c.code = cc) {t : Nat} {off : Int} (hd : decode cc pc = .ok (.goto off, 3)) (ht : (pc : Int) + off = (t : Int)) : sStepOk (fun H locs g => W p l e R s m args below meth c H locs cells slots Q g) (sLv D cy A r al hid rest s.heap) m r al nL pc nx (oGoto t) := by
  intro go hgo L st pa mem H locs ls h hp hv hl
  exact lv_goto hx hb hd ht (hgo _ _ _ _ _ _ _ _ h hp hv hl)

theorem sBr_eq (x y : sX) (pa : List sK) (kt kf : List sK → Bool) : sBr .eq x y pa kt kf = sQ true x y pa kt kf := rfl

theorem sBr_ne (x y : sX) (pa : List sK) (kt kf : List sK → Bool) : sBr .ne x y pa kt kf = sQ true x y pa kf kt := rfl

theorem sBr_lt (x y : sX) (pa : List sK) (kt kf : List sK → Bool) : sBr .lt x y pa kt kf = sQ false x y pa kt kf := rfl

theorem sBr_ge (x y : sX) (pa : List sK) (kt kf : List sK → Bool) : sBr .ge x y pa kt kf = sQ false x y pa kf kt := rfl

theorem sBr_gt (x y : sX) (pa : List sK) (kt kf : List sK → Bool) : sBr .gt x y pa kt kf = sQ false y x pa kt kf := rfl

theorem sBr_le (x y : sX) (pa : List sK) (kt kf : List sK → Bool) : sBr .le x y pa kt kf = sQ false y x pa kf kt := rfl

theorem so_if (hx : p.tables.exec = Jvm.exec) (hb : c.code = cc) {cn : Jvm.ClassFile.Cond} {t : Nat} {off : Int} (hd : decode cc pc = .ok (.ifCond cn off, 3)) (hn : nx = pc + 3) (ht : (pc : Int) + off = (t : Int)) : sStepOk (fun H locs g => W p l e R s m args below meth c H locs cells slots Q g) (sLv D cy A r al hid rest s.heap) m r al nL pc nx (oIf cn t) := by
  intro go hgo L st pa mem H locs ls h hp hv hl
  subst hn
  replace h := sTI_ok h
  obtain ⟨x, st1, rfl, h⟩ := h
  simp only [List.map_cons, sVal]
  obtain ⟨a, b, h, n1, n2, n3⟩ := sNrm_ok (r := r) h
  cases cn with
  | eq =>
    rw [sBr_eq] at h
    have q := sQ_ok hp h
    refine lv_if_eq (tgt := t) hx hb hd ht (fun c1 => ?_) (fun c1 => ?_)
    · obtain ⟨pa1, h1, h2⟩ := q.1 (n1.mp c1)
      exact hgo _ _ _ _ _ _ _ _ h2 h1 hv hl
    · obtain ⟨pa1, h1, h2⟩ := q.2 (fun z => c1 (n1.mpr z))
      exact hgo _ _ _ _ _ _ _ _ h2 h1 hv hl
  | ne =>
    rw [sBr_ne] at h
    have q := sQ_ok hp h
    refine lv_if_ne (tgt := t) hx hb hd ht (fun c1 => ?_) (fun c1 => ?_)
    · obtain ⟨pa1, h1, h2⟩ := q.2 (fun z => c1 (n1.mpr z))
      exact hgo _ _ _ _ _ _ _ _ h2 h1 hv hl
    · obtain ⟨pa1, h1, h2⟩ := q.1 (n1.mp c1)
      exact hgo _ _ _ _ _ _ _ _ h2 h1 hv hl
  | lt =>
    rw [sBr_lt] at h
    have q := sQ_ok hp h
    refine lv_if_lt (tgt := t) hx hb hd ht (fun c1 => ?_) (fun c1 => ?_)
    · obtain ⟨pa1, h1, h2⟩ := q.1 (n2.mp c1)
      exact hgo _ _ _ _ _ _ _ _ h2 h1 hv hl
    · obtain ⟨pa1, h1, h2⟩ := q.2 (fun z => c1 (n2.mpr z))
      exact hgo _ _ _ _ _ _ _ _ h2 h1 hv hl
  | ge =>
    rw [sBr_ge] at h
    have q := sQ_ok hp h
    refine lv_if_ge (tgt := t) hx hb hd ht (fun c1 => ?_) (fun c1 => ?_)
    · obtain ⟨pa1, h1, h2⟩ := q.2 (fun z => Int32.not_lt.mpr c1 (n2.mpr z))
      exact hgo _ _ _ _ _ _ _ _ h2 h1 hv hl
    · obtain ⟨pa1, h1, h2⟩ := q.1 (n2.mp (Int32.not_le.mp c1))
      exact hgo _ _ _ _ _ _ _ _ h2 h1 hv hl
  | gt =>
    rw [sBr_gt] at h
    have q := sQ_ok hp h
    refine lv_if_gt (tgt := t) hx hb hd ht (fun c1 => ?_) (fun c1 => ?_)
    · obtain ⟨pa1, h1, h2⟩ := q.1 (n3.mp c1)
      exact hgo _ _ _ _ _ _ _ _ h2 h1 hv hl
    · obtain ⟨pa1, h1, h2⟩ := q.2 (fun z => c1 (n3.mpr z))
      exact hgo _ _ _ _ _ _ _ _ h2 h1 hv hl
  | le =>
    rw [sBr_le] at h
    have q := sQ_ok hp h
    refine lv_if_le (tgt := t) hx hb hd ht (fun c1 => ?_) (fun c1 => ?_)
    · obtain ⟨pa1, h1, h2⟩ := q.2 (fun z => Int32.not_lt.mpr c1 (n3.mpr z))
      exact hgo _ _ _ _ _ _ _ _ h2 h1 hv hl
    · obtain ⟨pa1, h1, h2⟩ := q.1 (n3.mp (Int32.not_le.mp c1))
      exact hgo _ _ _ _ _ _ _ _ h2 h1 hv hl

theorem so_if2 (hx : p.tables.exec = Jvm.exec) (hb : c.code = cc) {cn : Jvm.ClassFile.Cond} {t : Nat} {off : Int} (hd : decode cc pc = .ok (.if_icmp cn off, 3)) (hn : nx = pc + 3) (ht : (pc : Int) + off = (t : Int)) : sStepOk (fun H locs g => W p l e R s m args below meth c H locs cells slots Q g) (sLv D cy A r al hid rest s.heap) m r al nL pc nx (oIf2 cn t) := by
  intro go hgo L st pa mem H locs ls h hp hv hl
  subst hn
  replace h := sTI_ok h
  obtain ⟨y, st1, rfl, h⟩ := h
  replace h := sTI_ok h
  obtain ⟨x, st2, rfl, h⟩ := h
  simp only [List.map_cons, sVal]
  cases cn with
  | eq =>
    rw [sBr_eq] at h
    have q := sQ_ok hp h
    refine lv_icmp_eq (tgt := t) hx hb hd ht (fun c1 => ?_) (fun c1 => ?_)
    · obtain ⟨pa1, h1, h2⟩ := q.1 (by first | exact c1 | (simp only [sHo]; exact c1))
      exact hgo _ _ _ _ _ _ _ _ h2 h1 hv hl
    · obtain ⟨pa1, h1, h2⟩ := q.2 (by first | exact c1 | (simp only [sHo]; exact c1))
      exact hgo _ _ _ _ _ _ _ _ h2 h1 hv hl
  | ne =>
    rw [sBr_ne] at h
    have q := sQ_ok hp h
    refine lv_icmp_ne (tgt := t) hx hb hd ht (fun c1 => ?_) (fun c1 => ?_)
    · obtain ⟨pa1, h1, h2⟩ := q.2 (by first | exact c1 | (simp only [sHo]; exact c1))
      exact hgo _ _ _ _ _ _ _ _ h2 h1 hv hl
    · obtain ⟨pa1, h1, h2⟩ := q.1 (by first | exact c1 | (simp only [sHo]; exact c1))
      exact hgo _ _ _ _ _ _ _ _ h2 h1 hv hl
  | lt =>
    rw [sBr_lt] at h
    have q := sQ_ok hp h
    refine lv_icmp_lt (tgt := t) hx hb hd ht (fun c1 => ?_) (fun c1 => ?_)
    · obtain ⟨pa1, h1, h2⟩ := q.1 (by first | exact c1 | (simp only [sHo]; exact c1))
      exact hgo _ _ _ _ _ _ _ _ h2 h1 hv hl
    · obtain ⟨pa1, h1, h2⟩ := q.2 (by first | exact c1 | (simp only [sHo]; exact c1))
      exact hgo _ _ _ _ _ _ _ _ h2 h1 hv hl
  | ge =>
    rw [sBr_ge] at h
    have q := sQ_ok hp h
    refine lv_icmp_ge (tgt := t) hx hb hd ht (fun c1 => ?_) (fun c1 => ?_)
    · obtain ⟨pa1, h1, h2⟩ := q.2 (Int32.not_lt.mpr (by first | exact c1 | (simp only [sHo]; exact c1)))
      exact hgo _ _ _ _ _ _ _ _ h2 h1 hv hl
    · obtain ⟨pa1, h1, h2⟩ := q.1 (Int32.not_le.mp (by first | exact c1 | (simp only [sHo]; exact c1)))
      exact hgo _ _ _ _ _ _ _ _ h2 h1 hv hl
  | gt =>
    rw [sBr_gt] at h
    have q := sQ_ok hp h
    refine lv_icmp_gt (tgt := t) hx hb hd ht (fun c1 => ?_) (fun c1 => ?_)
    · obtain ⟨pa1, h1, h2⟩ := q.1 (by first | exact c1 | (simp only [sHo]; exact c1))
      exact hgo _ _ _ _ _ _ _ _ h2 h1 hv hl
    · obtain ⟨pa1, h1, h2⟩ := q.2 (by first | exact c1 | (simp only [sHo]; exact c1))
      exact hgo _ _ _ _ _ _ _ _ h2 h1 hv hl
  | le =>
    rw [sBr_le] at h
    have q := sQ_ok hp h
    refine lv_icmp_le (tgt := t) hx hb hd ht (fun c1 => ?_) (fun c1 => ?_)
    · obtain ⟨pa1, h1, h2⟩ := q.2 (Int32.not_lt.mpr (by first | exact c1 | (simp only [sHo]; exact c1)))
      exact hgo _ _ _ _ _ _ _ _ h2 h1 hv hl
    · obtain ⟨pa1, h1, h2⟩ := q.1 (Int32.not_le.mp (by first | exact c1 | (simp only [sHo]; exact c1)))
      exact hgo _ _ _ _ _ _ _ _ h2 h1 hv hl

def sPs (pc : Nat) : List (Int × Int) → List (Int × Int) → Bool
  | [], [] => true
  | (key, off) :: a, (.ofNat v, .ofNat t) :: b => decide ((Int32.ofNat v).toInt = key) && (decide ((pc : Int) + off = (t : Int)) && sPs pc a b)
  | _, _ => false
theorem sSw_ok {x : sX} {d : Nat} {go : Nat → List sK → Bool} {dflt : Int} (hdf : (pc : Int) + dflt = (d : Int)) : ∀ (ps0 ps : List (Int × Int)) (pa : List sK), sPa r pa → sPs pc ps0 ps = true → sSw x d go ps pa = true → ∃ t pa1, go t pa1 = true ∧ sPa r pa1 ∧ (pc : Int) + Op.lookupswitch.offset ps0 dflt (sI r x).toInt = (t : Int)
  | [], [], pa, hp, _, h => ⟨d, pa, h, hp, hdf⟩
  | (key, off) :: a, (.ofNat v, .ofNat t) :: b, pa, hp, hs, h => by
    simp only [sPs, Bool.and_eq_true, decide_eq_true_eq] at hs
    obtain ⟨h1, h2, h3⟩ := hs
    have h' : sQ true x (.natCast v) pa (go t) (sSw x d go b) = true := h
    have q := sQ_ok hp h'
    by_cases c1 : sI r x = Int32.ofNat v
    · obtain ⟨pa1, e1, e2⟩ := q.1 (by simp only [sHo, sI, sD_c]; exact c1)
      refine ⟨t, pa1, e2, e1, ?_⟩
      rw [Op.lookupswitch.offset_cons, if_pos (by rw [c1, h1])]
      exact h2
    · obtain ⟨pa1, e1, e2⟩ := q.2 (by simp only [sHo, sI, sD_c]; exact c1)
      obtain ⟨t1, pa2, e3, e4, e5⟩ := sSw_ok hdf a b pa1 e1 h3 e2
      refine ⟨t1, pa2, e3, e4, ?_⟩
      rw [Op.lookupswitch.offset_cons, if_neg (fun q => c1 (Int32.toInt_inj.mp (by rw [h1]; exact q.symm)))]
      exact e5
  | [], (_ :: _), _, _, hs, _ => by simp [sPs] at hs
  | (_, _) :: _, [], _, _, hs, _ => by simp [sPs] at hs
  | (_, _) :: _, (.negSucc _, _) :: _, _, _, hs, _ => by simp [sPs] at hs
  | (_, _) :: _, (.ofNat _, .negSucc _) :: _, _, _, hs, _ => by simp [sPs] at hs

theorem so_look (hx : p.tables.exec = Jvm.exec) (hb : c.code = cc) {dflt : Int} {ps0 : Array (Int × Int)} {ps : List (Int × Int)} {len d : Nat} (hd : decode cc pc = .ok (.lookupswitch dflt ps0, len)) (hs : (ps0.toList.zip (ps0.toList.drop 1)).all (fun (a, next) => a.1 < next.1) = true) (hps : sPs pc ps0.toList ps = true) (hdf : (pc : Int) + dflt = (d : Int)) : sStepOk (fun H locs g => W p l e R s m args below meth c H locs cells slots Q g) (sLv D cy A r al hid rest s.heap) m r al nL pc nx (oSw d ps) := by
  intro go hgo L st pa mem H locs ls h hp hv hl
  replace h := sTI_ok h
  obtain ⟨x, st1, rfl, h⟩ := h
  obtain ⟨t, pa1, e1, e2, e3⟩ := sSw_ok hdf _ _ _ hp hps h
  simp only [List.map_cons, sVal]
  exact lv_lookup hx hb hd hs rfl e3 (hgo _ _ _ _ _ _ _ _ e1 e2 hv hl)

def sTab (lo : Int) : List Int → List (Int × Int)
  | [] => []
  | a :: l => (lo, a) :: sTab (lo + 1) l
theorem sTab_ok (d x : Int) : ∀ (l : List Int) (lo : Int), (x < lo ∨ lo + l.length ≤ x → Op.lookupswitch.offset (sTab lo l) d x = d) ∧ (lo ≤ x → x < lo + l.length → l[(x - lo).toNat]? = some (Op.lookupswitch.offset (sTab lo l) d x))
  | [], lo => ⟨fun _ => rfl, fun h1 h2 => by simp at h2; omega⟩
  | a :: l, lo => by
    obtain ⟨i1, i2⟩ := sTab_ok d x l (lo + 1)
    simp only [sTab, List.length_cons, Int.natCast_add, Int.natCast_one]
    refine ⟨fun h => ?_, fun h1 h2 => ?_⟩
    · rw [Op.lookupswitch.offset_cons, if_neg (by omega)]
      exact i1 (by omega)
    · rw [Op.lookupswitch.offset_cons]
      by_cases e0 : lo = x
      · rw [if_pos e0]
        subst e0
        simp
      · rw [if_neg e0, ← i2 (by omega) (by omega)]
        rw [show (x - lo).toNat = (x - (lo + 1)).toNat + 1 by omega]
        rfl

theorem so_table (hx : p.tables.exec = Jvm.exec) (hb : c.code = cc) {dflt lo hi : Int} {offs : Array Int} {ps : List (Int × Int)} {len d : Nat} (hd : decode cc pc = .ok (.tableswitch dflt lo hi offs, len)) (hh : lo + offs.toList.length = hi + 1) (hps : sPs pc (sTab lo offs.toList) ps = true) (hdf : (pc : Int) + dflt = (d : Int)) : sStepOk (fun H locs g => W p l e R s m args below meth c H locs cells slots Q g) (sLv D cy A r al hid rest s.heap) m r al nL pc nx (oSw d ps) := by
  intro go hgo L st pa mem H locs ls h hp hv hl
  replace h := sTI_ok h
  obtain ⟨x, st1, rfl, h⟩ := h
  obtain ⟨t, pa1, e1, e2, e3⟩ := sSw_ok hdf _ _ _ hp hps h
  simp only [List.map_cons, sVal]
  have k := hgo _ _ _ _ _ _ _ _ e1 e2 hv hl
  obtain ⟨i1, i2⟩ := sTab_ok dflt (sI r x).toInt offs.toList lo
  by_cases c1 : (sI r x).toInt < lo ∨ hi < (sI r x).toInt
  · rw [i1 (by omega)] at e3
    exact lv_tableOut hx hb hd c1 e3 k
  · have i3 := i2 (by omega) (by omega)
    rw [Array.getElem?_toList] at i3
    exact lv_tableIn hx hb hd (by omega) (by omega) i3 e3 k

theorem so_getf (hx : p.tables.exec = Jvm.exec) (hb : c.code = cc) {own C : String} {T : u_T} {N idx n : Nat} (hts : ∀ w ∈ sTb, w.before args s = true) (hK : va_K D vwCl (sT cy) s) (hown : s.vm.findClass own = some m.cls) (hc : vwCl[n / 64]? = some (C, T, N)) (hk : n % 64 < N) (hin : ∀ w ∈ u_ws C T N, w ∈ sTb) (hlink : (Cond.fieldLink own idx (T (n % 64)).1 (T (n % 64)).2.1 (T (n % 64)).2.2.1).before args s = true ∨ ∃ host, (Cond.fieldLinkNest own idx (T (n % 64)).1 (T (n % 64)).2.1 (T (n % 64)).2.2.1 host).before args s = true) (hd : decode cc pc = .ok (.getfield idx, 3)) (hn : nx = pc + 3) : sStepOk (fun H locs g => W p l e R s m args below meth c H locs cells slots Q g) (sLv D cy A r al hid rest s.heap) m r al nL pc nx (oGetf n) := by
  intro go hgo L st pa mem H locs ls h hp hv hl
  subst hn
  replace h := sTR_ok h
  obtain ⟨q, st1, rfl, h⟩ := h
  replace h := sCell_ok h
  obtain ⟨ci, vs, h1, h⟩ := h
  replace h := sIf_ok h
  obtain ⟨h2, h⟩ := h
  replace h := sGet_ok _ _ _ h
  obtain ⟨v, h3, h⟩ := h
  have k := hgo _ _ _ _ _ _ _ _ h hp hv hl
  simp only [List.map_cons, sVal] at k ⊢
  have e1 : ci = n / 64 := Nat.eq_of_beq_eq_true h2
  subst e1
  have he := sW_get (r := r) (al := al) (cy := cy) (hid := hid) (rest := rest) h1
  have h4 : (vs.map (sVal r al))[n % 64]? = some (sVal r al v) := by
    rw [List.getElem?_map]
    exact congrArg (Option.map (sVal r al)) h3
  rcases hlink with hlink | ⟨host, hlink⟩
  · exact va_get hx hb hts hin hown hK hv.1 q he hc (n % 64) hk hlink (fun _ h => h) h4 hd k
  · exact va_getN hx hb hts hin hown hK hv.1 q he hc (n % 64) hk hlink (fun _ h => h) h4 hd k

theorem sPutf_ok {n : Nat} {v : sV} {q : Nat} {mem : sM} {k : sM → Bool} (h : sPutf n v q mem k = true) : ∃ vs, mem[q]? = some (0, n / 64, vs) ∧ n % 64 < vs.length ∧ k (mem.set q (0, n / 64, vs.set (n % 64) v)) = true := by
  replace h := sCell_ok h
  obtain ⟨ci, vs, h1, h⟩ := h
  replace h := sIf_ok h
  obtain ⟨h2, h⟩ := h
  replace h := sSet_ok _ _ _ _ h
  obtain ⟨h3, h⟩ := h
  replace h := sSet_ok _ _ _ _ h
  obtain ⟨h4, h⟩ := h
  have e1 : ci = n / 64 := Nat.eq_of_beq_eq_true h2
  subst e1
  exact ⟨vs, h1, h3, h⟩
theorem so_putf (hx : p.tables.exec = Jvm.exec) (hb : c.code = cc) {own C : String} {T : u_T} {N idx n : Nat} (hts : ∀ w ∈ sTb, w.before args s = true) (hK : va_K D vwCl (sT cy) s) (hown : s.vm.findClass own = some m.cls) (hc : vwCl[n / 64]? = some (C, T, N)) (hk : n % 64 < N) (hin : ∀ w ∈ u_ws C T N, w ∈ sTb) (hlink : (Cond.fieldLink own idx (T (n % 64)).1 (T (n % 64)).2.1 (T (n % 64)).2.2.1).before args s = true ∨ ∃ host, (Cond.fieldLinkNest own idx (T (n % 64)).1 (T (n % 64)).2.1 (T (n % 64)).2.2.1 host).before args s = true) (hT : ∃ ty0 : Nat → FieldType, (∀ k, k < N → parseFieldDescriptor (T k).2.2.1 = some (ty0 k)) ∧ ∀ a, a < N → ∀ b, b < N → a ≠ b → (T a).2.1 ≠ (T b).2.1) (hfin : (T (n % 64)).2.2.2 = false) {ty : FieldType} {v : sV} (hty : parseFieldDescriptor (T (n % 64)).2.2.1 = some ty) (hnar : narrow ty (sVal r al v) = sVal r al v) (hfit : fits ty (sVal r al v) = true) (hd : decode cc pc = .ok (.putfield idx, 3)) {mem : sM} {q : Nat} {vs : List sV} (h1 : mem[q]? = some (0, n / 64, vs)) (h2 : n % 64 < vs.length) {H : Heap} {locs : List Loc} {ls : Array Slot} {st : List Value} (hv : sLv D cy A r al hid rest s.heap mem H locs)
    (kk : ∀ (H1 : Heap) (locs1 : List Loc), sLv D cy A r al hid rest s.heap (mem.set q (0, n / 64, vs.set (n % 64) v)) H1 locs1 → W p l e R s m args below meth c H1 locs1 cells slots Q (F0 m (pc + 3) ls st)) : W p l e R s m args below meth c H locs cells slots Q (F0 m pc ls (sVal r al v :: .ref (al q) :: st)) := by
  have he := sW_get (r := r) (al := al) (cy := cy) (hid := hid) (rest := rest) h1
  obtain ⟨ty0, hT1, hT2⟩ := hT
  have hl1 : q < mem.length := (List.getElem?_eq_some_iff.mp h1).1
  have es : (sW r al cy hid rest mem).set q (al q, .inr (n / 64, (vs.map (sVal r al)).set (n % 64) (sVal r al v))) = sW r al cy hid rest (mem.set q (0, n / 64, vs.set (n % 64) v)) := by
    rw [← sW_set hl1, ← List.map_set]
    rfl
  have key : ∀ (H1 : Heap) (locs1 : List Loc), va_P D vwCl ((sW r al cy hid rest mem).set q (al q, .inr (n / 64, (vs.map (sVal r al)).set (n % 64) (sVal r al v)))) H1 → va_D A ((sW r al cy hid rest mem).set q (al q, .inr (n / 64, (vs.map (sVal r al)).set (n % 64) (sVal r al v)))) → va_S A s.heap H1 locs1 → W p l e R s m args below meth c H1 locs1 cells slots Q (F0 m (pc + 3) ls st) := by
    intro H1 locs1 a1 a2 a3
    rw [es] at a1 a2
    exact kk H1 locs1 ⟨a1, a2, a3⟩
  have hlen : n % 64 < (vs.map (sVal r al)).length := by rw [List.length_map]; exact h2
  rcases hlink with hlink | ⟨host, hlink⟩
  · exact va_put hx hb hts hin ty0 hT1 hT2 hown hK hv.1 hv.2.1 hv.2.2 q he hc (n % 64) hk hlink (fun _ h => h) hfin hty hnar hfit hlen hd key
  · exact va_putN hx hb hts hin ty0 hT1 hT2 hown hK hv.1 hv.2.1 hv.2.2 q he hc (n % 64) hk hlink (fun _ h => h) hfin hty hnar hfit hlen hd key

theorem so_putI (hx : p.tables.exec = Jvm.exec) (hb : c.code = cc) {own C : String} {T : u_T} {N idx n : Nat} (hts : ∀ w ∈ sTb, w.before args s = true) (hK : va_K D vwCl (sT cy) s) (hown : s.vm.findClass own = some m.cls) (hc : vwCl[n / 64]? = some (C, T, N)) (hk : n % 64 < N) (hin : ∀ w ∈ u_ws C T N, w ∈ sTb) (hlink : (Cond.fieldLink own idx (T (n % 64)).1 (T (n % 64)).2.1 (T (n % 64)).2.2.1).before args s = true ∨ ∃ host, (Cond.fieldLinkNest own idx (T (n % 64)).1 (T (n % 64)).2.1 (T (n % 64)).2.2.1 host).before args s = true) (hT : ∃ ty0 : Nat → FieldType, (∀ k, k < N → parseFieldDescriptor (T k).2.2.1 = some (ty0 k)) ∧ ∀ a, a < N → ∀ b, b < N → a ≠ b → (T a).2.1 ≠ (T b).2.1) (hfin : (T (n % 64)).2.2.2 = false) (hd : decode cc pc = .ok (.putfield idx, 3)) (hn : nx = pc + 3) (hty : parseFieldDescriptor (T (n % 64)).2.2.1 = some .int) : sStepOk (fun H locs g => W p l e R s m args below meth c H locs cells slots Q g) (sLv D cy A r al hid rest s.heap) m r al nL pc nx (oPutI n) := by
  intro go hgo L st pa mem H locs ls h hp hv hl
  subst hn
  replace h := sTI_ok h
  obtain ⟨v, st1, rfl, h⟩ := h
  replace h := sTR_ok h
  obtain ⟨q, st2, rfl, h⟩ := h
  replace h := sPutf_ok h
  obtain ⟨vs, h1, h2, h⟩ := h
  simp only [List.map_cons]
  exact so_putf hx hb hts hK hown hc hk hin hlink hT hfin hty rfl rfl hd h1 h2 hv (fun H1 locs1 hv1 => hgo _ _ _ _ _ _ _ _ h hp hv1 hl)

theorem so_putJ (hx : p.tables.exec = Jvm.exec) (hb : c.code = cc) {own C : String} {T : u_T} {N idx n : Nat} (hts : ∀ w ∈ sTb, w.before args s = true) (hK : va_K D vwCl (sT cy) s) (hown : s.vm.findClass own = some m.cls) (hc : vwCl[n / 64]? = some (C, T, N)) (hk : n % 64 < N) (hin : ∀ w ∈ u_ws C T N, w ∈ sTb) (hlink : (Cond.fieldLink own idx (T (n % 64)).1 (T (n % 64)).2.1 (T (n % 64)).2.2.1).before args s = true ∨ ∃ host, (Cond.fieldLinkNest own idx (T (n % 64)).1 (T (n % 64)).2.1 (T (n % 64)).2.2.1 host).before args s = true) (hT : ∃ ty0 : Nat → FieldType, (∀ k, k < N → parseFieldDescriptor (T k).2.2.1 = some (ty0 k)) ∧ ∀ a, a < N → ∀ b, b < N → a ≠ b → (T a).2.1 ≠ (T b).2.1) (hfin : (T (n % 64)).2.2.2 = false) (hd : decode cc pc = .ok (.putfield idx, 3)) (hn : nx = pc + 3) (hty : parseFieldDescriptor (T (n % 64)).2.2.1 = some .long) : sStepOk (fun H locs g => W p l e R s m args below meth c H locs cells slots Q g) (sLv D cy A r al hid rest s.heap) m r al nL pc nx (oPutJ n) := by
  intro go hgo L st pa mem H locs ls h hp hv hl
  subst hn
  replace h := sTL_ok h
  obtain ⟨v, st1, rfl, h⟩ := h
  replace h := sTR_ok h
  obtain ⟨q, st2, rfl, h⟩ := h
  replace h := sPutf_ok h
  obtain ⟨vs, h1, h2, h⟩ := h
  simp only [List.map_cons]
  exact so_putf hx hb hts hK hown hc hk hin hlink hT hfin hty rfl rfl hd h1 h2 hv (fun H1 locs1 hv1 => hgo _ _ _ _ _ _ _ _ h hp hv1 hl)

theorem so_putZ (hx : p.tables.exec = Jvm.exec) (hb : c.code = cc) {own C : String} {T : u_T} {N idx n : Nat} (hts : ∀ w ∈ sTb, w.before args s = true) (hK : va_K D vwCl (sT cy) s) (hown : s.vm.findClass own = some m.cls) (hc : vwCl[n / 64]? = some (C, T, N)) (hk : n % 64 < N) (hin : ∀ w ∈ u_ws C T N, w ∈ sTb) (hlink : (Cond.fieldLink own idx (T (n % 64)).1 (T (n % 64)).2.1 (T (n % 64)).2.2.1).before args s = true ∨ ∃ host, (Cond.fieldLinkNest own idx (T (n % 64)).1 (T (n % 64)).2.1 (T (n % 64)).2.2.1 host).before args s = true) (hT : ∃ ty0 : Nat → FieldType, (∀ k, k < N → parseFieldDescriptor (T k).2.2.1 = some (ty0 k)) ∧ ∀ a, a < N → ∀ b, b < N → a ≠ b → (T a).2.1 ≠ (T b).2.1) (hfin : (T (n % 64)).2.2.2 = false) (hd : decode cc pc = .ok (.putfield idx, 3)) (hn : nx = pc + 3) (hty : parseFieldDescriptor (T (n % 64)).2.2.1 = some .boolean) : sStepOk (fun H locs g => W p l e R s m args below meth c H locs cells slots Q g) (sLv D cy A r al hid rest s.heap) m r al nL pc nx (oPutZ n) := by
  intro go hgo L st pa mem H locs ls h hp hv hl
  subst hn
  replace h := sTI_ok h
  obtain ⟨v, st1, rfl, h⟩ := h
  replace h := sNum_ok h
  obtain ⟨b, rfl, h⟩ := h
  replace h := sIf_ok h
  obtain ⟨hb1, h⟩ := h
  replace h := sTR_ok h
  obtain ⟨q, st2, rfl, h⟩ := h
  replace h := sPutf_ok h
  obtain ⟨vs, h1, h2, h⟩ := h
  simp only [List.map_cons]
  have hb2 : b ≤ 1 := Nat.le_of_ble_eq_true hb1
  have e1 : narrow .boolean (sVal r al (.inl (.natCast b))) = sVal r al (.inl (.natCast b)) := by
    rcases (show b = 0 ∨ b = 1 by omega) with rfl | rfl <;> simp only [sVal, sI, sD_c] <;> decide
  have e2 : fits .boolean (sVal r al (.inl (.natCast b))) = true := by
    rcases (show b = 0 ∨ b = 1 by omega) with rfl | rfl <;> simp only [sVal, sI, sD_c] <;> decide
  exact so_putf hx hb hts hK hown hc hk hin hlink hT hfin hty e1 e2 hd h1 h2 hv (fun H1 locs1 hv1 => hgo _ _ _ _ _ _ _ _ h hp hv1 hl)

theorem s_in {i n : Nat} (h : i < n) (hi : i < 2 ^ 31) : vp_in (Int32.ofNat i) n := by
  have h1 : (Int32.ofNat i).toNatClampNeg = i := nI_clamp hi
  have h2 : (Int32.ofNat i).toInt = (i : Int) := nI_toInt hi
  rintro (q | q)
  · rw [Int32.lt_iff_toInt_lt, h2] at q
    simp at q
    omega
  · rw [h1] at q
    omega
theorem sIx_ok {st : List sV} {k : Nat → Nat → List sV → Bool} (h : sIx st k = true) : ∃ i q st1, st = .inl (.natCast i) :: .inr (.inr (some q)) :: st1 ∧ i < 2 ^ 31 ∧ k i q st1 = true := by
  replace h := sTI_ok h
  obtain ⟨x, st1, rfl, h⟩ := h
  replace h := sNum_ok h
  obtain ⟨i, rfl, h⟩ := h
  replace h := sIf_ok h
  obtain ⟨h1, h⟩ := h
  replace h := sTR_ok h
  obtain ⟨q, st2, rfl, h⟩ := h
  exact ⟨i, q, st2, rfl, Nat.le_of_ble_eq_true h1, h⟩
theorem sPuta_ok {K : Nat} {v : sV} {i q : Nat} {mem : sM} {k : sM → Bool} (h : sPuta K v i q mem k = true) : ∃ u vs, mem[q]? = some (K, u, vs) ∧ i < vs.length ∧ k (mem.set q (K, u, vs.set i v)) = true := by
  replace h := sCell_ok h
  obtain ⟨u, vs, h1, h⟩ := h
  replace h := sSet_ok _ _ _ _ h
  obtain ⟨h3, h⟩ := h
  replace h := sSet_ok _ _ _ _ h
  obtain ⟨h4, h⟩ := h
  exact ⟨u, vs, h1, h3, h⟩
theorem s_updI {vs : List sV} {i : Nat} {x : sX} (h : i < vs.length) : upd (fun j => sInt r vs[j]?) i (sI r x) = fun j => sInt r (vs.set i (.inl x))[j]? := by
  funext j
  unfold upd
  rw [List.getElem?_set]
  by_cases e0 : j = i
  · subst e0
    simp [h, sInt]
  · simp [e0, Ne.symm e0]
theorem s_updL {vs : List sV} {i : Nat} {x : sX} (h : i < vs.length) : vp_updL (fun j => sLng r vs[j]?) i (sJ r x) = fun j => sLng r (vs.set i (.inr (.inl x)))[j]? := by
  funext j
  unfold vp_updL
  rw [List.getElem?_set]
  by_cases e0 : j = i
  · subst e0
    simp [h, sLng]
  · simp [e0, Ne.symm e0]

theorem va_aldg (hexec : p.tables.exec = Jvm.exec) (hb : c.code = cc) {D : va_G} {cl : List vw_C} {tys : List (ClassId × FieldType)} {ws : va_W} {a : Nat} {H : Heap} {locs : List Loc} {ls : Array Slot} {rest : List Value} (hK : va_K D cl tys s) (hP : va_P D cl ws H) (q0 t0 : Nat) {cA : ClassId} {ty : FieldType} {n : Nat} {f : Nat → Option Nat} (ha : ws[q0]? = some (a, .inl (cA, n, .inr (.inr (.inr (.inr f)))))) (ht : tys[t0]? = some (cA, .array ty)) {i : Int32} (hin : vp_in i n) (hdg : decode cc pc = .ok (.aaload, 1))
    (kk : W p l e R s m args below meth c H locs cells slots Q (F0 m (pc + 1) ls (va_rf (f i.toNatClampNeg) :: rest))) : W p l e R s m args below meth c H locs cells slots Q (F0 m pc ls (.int i :: .ref a :: rest)) := by
  have hlt : i.toNatClampNeg < n := Nat.not_le.mp fun q => hin (Or.inr q)
  exact W.aald (v := va_rf (f i.toNatClampNeg)) (ty := .array ty) hexec hb (hP q0 _ ha) ((hK.2 t0 _ ht).1 n (fun j => va_rf (f j))) rfl (fun q => by cases q) (by show ¬ (i < 0 ∨ (arrV _ _ _).slots.size ≤ _); rw [arrV_size]; exact hin) (by show (arrV _ _ _).slots[_]? = _; rw [arrV_read _ _ hlt]) rfl rfl hdg kk

theorem so_rd1 (hx : p.tables.exec = Jvm.exec) (hb : c.code = cc) (hK : va_K D vwCl (sT cy) s) (hd : decode cc pc = .ok (.iaload, 1)) {go : List sV → Bool} {mem : sM} {i q : Nat} {st : List sV} {H : Heap} {locs : List Loc} {ls : Array Slot} (h : sCell mem q 1 (fun _ vs => sGet vs i (fun v => sVI v (fun x => go (.inl x :: st)))) = true) (hi : i < 2 ^ 31) (hv : sLv D cy A r al hid rest s.heap mem H locs) (kk : ∀ st1 : List sV, go st1 = true → W p l e R s m args below meth c H locs cells slots Q (F0 m (pc + 1) ls (st1.map (sVal r al)))) : W p l e R s m args below meth c H locs cells slots Q (F0 m pc ls (.int (Int32.ofNat i) :: .ref (al q) :: st.map (sVal r al))) := by
  replace h := sCell_ok h
  obtain ⟨u, vs, h1, h⟩ := h
  replace h := sGet_ok _ _ _ h
  obtain ⟨v, h2, h⟩ := h
  replace h := sVI_ok h
  obtain ⟨x, rfl, h⟩ := h
  have k := kk _ h
  simp only [List.map_cons] at k
  have he := sW_get (r := r) (al := al) (cy := cy) (hid := hid) (rest := rest) h1
  have hlt : i < vs.length := (List.getElem?_eq_some_iff.mp h2).1
  have e1 : sInt r vs[(Int32.ofNat i).toNatClampNeg]? = sI r x := by
    rw [show (Int32.ofNat i).toNatClampNeg = i from nI_clamp hi, h2]
    rfl
  simp only [sVal] at k
  rw [← e1] at k
  exact va_iald hx hb hK hv.1 q 0 he rfl (s_in hlt hi) hd k

theorem so_rd2 (hx : p.tables.exec = Jvm.exec) (hb : c.code = cc) (hK : va_K D vwCl (sT cy) s) (hd : decode cc pc = .ok (.baload, 1)) {go : List sV → Bool} {mem : sM} {i q : Nat} {st : List sV} {H : Heap} {locs : List Loc} {ls : Array Slot} (h : sCell mem q 2 (fun _ vs => sGet vs i (fun v => sVI v (fun x => go (.inl x :: st)))) = true) (hi : i < 2 ^ 31) (hv : sLv D cy A r al hid rest s.heap mem H locs) (kk : ∀ st1 : List sV, go st1 = true → W p l e R s m args below meth c H locs cells slots Q (F0 m (pc + 1) ls (st1.map (sVal r al)))) : W p l e R s m args below meth c H locs cells slots Q (F0 m pc ls (.int (Int32.ofNat i) :: .ref (al q) :: st.map (sVal r al))) := by
  replace h := sCell_ok h
  obtain ⟨u, vs, h1, h⟩ := h
  replace h := sGet_ok _ _ _ h
  obtain ⟨v, h2, h⟩ := h
  replace h := sVI_ok h
  obtain ⟨x, rfl, h⟩ := h
  have k := kk _ h
  simp only [List.map_cons] at k
  have he := sW_get (r := r) (al := al) (cy := cy) (hid := hid) (rest := rest) h1
  have hlt : i < vs.length := (List.getElem?_eq_some_iff.mp h2).1
  have e1 : sInt r vs[(Int32.ofNat i).toNatClampNeg]? = sI r x := by
    rw [show (Int32.ofNat i).toNatClampNeg = i from nI_clamp hi, h2]
    rfl
  simp only [sVal] at k
  rw [← e1] at k
  exact va_bald hx hb hK hv.1 q 1 he rfl (s_in hlt hi) hd k

theorem so_rd3 (hx : p.tables.exec = Jvm.exec) (hb : c.code = cc) (hK : va_K D vwCl (sT cy) s) (hd : decode cc pc = .ok (.baload, 1)) {go : List sV → Bool} {mem : sM} {i q : Nat} {st : List sV} {H : Heap} {locs : List Loc} {ls : Array Slot} (h : sCell mem q 3 (fun _ vs => sGet vs i (fun v => sVI v (fun x => go (.inl x :: st)))) = true) (hi : i < 2 ^ 31) (hv : sLv D cy A r al hid rest s.heap mem H locs) (kk : ∀ st1 : List sV, go st1 = true → W p l e R s m args below meth c H locs cells slots Q (F0 m (pc + 1) ls (st1.map (sVal r al)))) : W p l e R s m args below meth c H locs cells slots Q (F0 m pc ls (.int (Int32.ofNat i) :: .ref (al q) :: st.map (sVal r al))) := by
  replace h := sCell_ok h
  obtain ⟨u, vs, h1, h⟩ := h
  replace h := sGet_ok _ _ _ h
  obtain ⟨v, h2, h⟩ := h
  replace h := sVI_ok h
  obtain ⟨x, rfl, h⟩ := h
  have k := kk _ h
  simp only [List.map_cons] at k
  have he := sW_get (r := r) (al := al) (cy := cy) (hid := hid) (rest := rest) h1
  have hlt : i < vs.length := (List.getElem?_eq_some_iff.mp h2).1
  have e1 : sInt r vs[(Int32.ofNat i).toNatClampNeg]? = sI r x := by
    rw [show (Int32.ofNat i).toNatClampNeg = i from nI_clamp hi, h2]
    rfl
  simp only [sVal] at k
  rw [← e1] at k
  exact va_zald hx hb hK hv.1 q 2 he rfl (s_in hlt hi) hd k

theorem so_rd4 (hx : p.tables.exec = Jvm.exec) (hb : c.code = cc) (hK : va_K D vwCl (sT cy) s) (hd : decode cc pc = .ok (.laload, 1)) {go : List sV → Bool} {mem : sM} {i q : Nat} {st : List sV} {H : Heap} {locs : List Loc} {ls : Array Slot} (h : sCell mem q 4 (fun _ vs => sGet vs i (fun v => sVL v (fun x => go (.inr (.inl x) :: st)))) = true) (hi : i < 2 ^ 31) (hv : sLv D cy A r al hid rest s.heap mem H locs) (kk : ∀ st1 : List sV, go st1 = true → W p l e R s m args below meth c H locs cells slots Q (F0 m (pc + 1) ls (st1.map (sVal r al)))) : W p l e R s m args below meth c H locs cells slots Q (F0 m pc ls (.int (Int32.ofNat i) :: .ref (al q) :: st.map (sVal r al))) := by
  replace h := sCell_ok h
  obtain ⟨u, vs, h1, h⟩ := h
  replace h := sGet_ok _ _ _ h
  obtain ⟨v, h2, h⟩ := h
  replace h := sVL_ok h
  obtain ⟨x, rfl, h⟩ := h
  have k := kk _ h
  simp only [List.map_cons] at k
  have he := sW_get (r := r) (al := al) (cy := cy) (hid := hid) (rest := rest) h1
  have hlt : i < vs.length := (List.getElem?_eq_some_iff.mp h2).1
  have e1 : sLng r vs[(Int32.ofNat i).toNatClampNeg]? = sJ r x := by
    rw [show (Int32.ofNat i).toNatClampNeg = i from nI_clamp hi, h2]
    rfl
  simp only [sVal] at k
  rw [← e1] at k
  exact va_lald hx hb hK hv.1 q 3 he rfl (s_in hlt hi) hd k

theorem so_rd5 (hx : p.tables.exec = Jvm.exec) (hb : c.code = cc) (hK : va_K D vwCl (sT cy) s) (hd : decode cc pc = .ok (.aaload, 1)) {go : List sV → Bool} {mem : sM} {i q : Nat} {st : List sV} {H : Heap} {locs : List Loc} {ls : Array Slot} (h : sCell mem q 5 (fun _ vs => sGet vs i (fun v => sVR v (fun x => go (.inr (.inr (some x)) :: st)))) = true) (hi : i < 2 ^ 31) (hv : sLv D cy A r al hid rest s.heap mem H locs) (kk : ∀ st1 : List sV, go st1 = true → W p l e R s m args below meth c H locs cells slots Q (F0 m (pc + 1) ls (st1.map (sVal r al)))) : W p l e R s m args below meth c H locs cells slots Q (F0 m pc ls (.int (Int32.ofNat i) :: .ref (al q) :: st.map (sVal r al))) := by
  replace h := sCell_ok h
  obtain ⟨u, vs, h1, h⟩ := h
  replace h := sGet_ok _ _ _ h
  obtain ⟨v, h2, h⟩ := h
  replace h := sVR_ok h
  obtain ⟨x, rfl, h⟩ := h
  have k := kk _ h
  simp only [List.map_cons] at k
  have he := sW_get (r := r) (al := al) (cy := cy) (hid := hid) (rest := rest) h1
  have hlt : i < vs.length := (List.getElem?_eq_some_iff.mp h2).1
  have e1 : sRef al vs[(Int32.ofNat i).toNatClampNeg]? = some (al x) := by
    rw [show (Int32.ofNat i).toNatClampNeg = i from nI_clamp hi, h2]
    rfl
  simp only [sVal] at k
  rw [show Value.ref (al x) = va_rf (some (al x)) from rfl, ← e1] at k
  exact va_aldq hx hb hK hv.1 q 4 he rfl (s_in hlt hi) hd k

theorem so_rd6 (hx : p.tables.exec = Jvm.exec) (hb : c.code = cc) (hK : va_K D vwCl (sT cy) s) (hd : decode cc pc = .ok (.aaload, 1)) {go : List sV → Bool} {mem : sM} {i q : Nat} {st : List sV} {H : Heap} {locs : List Loc} {ls : Array Slot} (h : sCell mem q 6 (fun _ vs => sGet vs i (fun v => sVR v (fun x => go (.inr (.inr (some x)) :: st)))) = true) (hi : i < 2 ^ 31) (hv : sLv D cy A r al hid rest s.heap mem H locs) (kk : ∀ st1 : List sV, go st1 = true → W p l e R s m args below meth c H locs cells slots Q (F0 m (pc + 1) ls (st1.map (sVal r al)))) : W p l e R s m args below meth c H locs cells slots Q (F0 m pc ls (.int (Int32.ofNat i) :: .ref (al q) :: st.map (sVal r al))) := by
  replace h := sCell_ok h
  obtain ⟨u, vs, h1, h⟩ := h
  replace h := sGet_ok _ _ _ h
  obtain ⟨v, h2, h⟩ := h
  replace h := sVR_ok h
  obtain ⟨x, rfl, h⟩ := h
  have k := kk _ h
  simp only [List.map_cons] at k
  have he := sW_get (r := r) (al := al) (cy := cy) (hid := hid) (rest := rest) h1
  have hlt : i < vs.length := (List.getElem?_eq_some_iff.mp h2).1
  have e1 : sRef al vs[(Int32.ofNat i).toNatClampNeg]? = some (al x) := by
    rw [show (Int32.ofNat i).toNatClampNeg = i from nI_clamp hi, h2]
    rfl
  simp only [sVal] at k
  rw [show Value.ref (al x) = va_rf (some (al x)) from rfl, ← e1] at k
  exact va_aldg hx hb hK hv.1 q 5 he rfl (s_in hlt hi) hd k

theorem so_iaload (hx : p.tables.exec = Jvm.exec) (hb : c.code = cc) (hK : va_K D vwCl (sT cy) s) (hst : sSt al A s s.heap) (hd : decode cc pc = .ok (.iaload, 1)) (hn : nx = pc + 1) : sStepOk (fun H locs g => W p l e R s m args below meth c H locs cells slots Q g) (sLv D cy A r al hid rest s.heap) m r al nL pc nx oIaload := by
  intro go hgo L st pa mem H locs ls h hp hv hl
  subst hn
  replace h := sIx_ok h
  obtain ⟨i, q, st1, rfl, hi, h⟩ := h
  simp only [List.map_cons, sVal, sI, sD_c]
  cases hq : Nat.ble q (nat_lit 999999) with
  | true =>
    simp only [hq] at h
    exact so_rd1 (go := fun st => go (pc + 1) L st pa mem) hx hb hK hd h hi hv (fun st2 h2 => hgo _ _ _ _ _ _ _ _ h2 hp hv hl)
  | false =>
    simp only [hq] at h
    unfold sStat at h
    cases hq1 : Nat.beq q (nat_lit 1000000) with
    | true =>
      simp only [hq1] at h
      replace h := sGet_ok _ _ _ h
      obtain ⟨v, h1, h⟩ := h
      have k := hgo _ _ _ _ _ _ _ _ h hp hv hl
      simp only [List.map_cons, sVal, sI, sD_c] at k
      have e1 : q = 1000000 := Nat.eq_of_beq_eq_true hq1
      subst e1
      have hlt : i < 7 := (List.getElem?_eq_some_iff.mp h1).1
      exact va_ti hx hb hst.2.1 hv.2.2 (s_in hlt hi) (by rw [show (Int32.ofNat i).toNatClampNeg = i from nI_clamp hi]; unfold sFn; rw [List.getD_eq_getElem?_getD, h1]; rfl) hd k
    | false =>
      simp only [hq1] at h
      replace h := sIf_ok h
      obtain ⟨h0, h⟩ := h
      replace h := sGet_ok _ _ _ h
      obtain ⟨v, h1, h⟩ := h
      have k := hgo _ _ _ _ _ _ _ _ h hp hv hl
      simp only [List.map_cons, sVal, sI, sD_c] at k
      have e1 : q = 1000001 := Nat.eq_of_beq_eq_true h0
      subst e1
      have hlt : i < 18 := (List.getElem?_eq_some_iff.mp h1).1
      exact va_ti hx hb hst.2.2.2 hv.2.2 (s_in hlt hi) (by rw [show (Int32.ofNat i).toNatClampNeg = i from nI_clamp hi]; unfold sFn; rw [List.getD_eq_getElem?_getD, h1]; rfl) hd k

theorem so_baload (hx : p.tables.exec = Jvm.exec) (hb : c.code = cc) (hK : va_K D vwCl (sT cy) s) (hd : decode cc pc = .ok (.baload, 1)) (hn : nx = pc + 1) : sStepOk (fun H locs g => W p l e R s m args below meth c H locs cells slots Q g) (sLv D cy A r al hid rest s.heap) m r al nL pc nx oBaload := by
  intro go hgo L st pa mem H locs ls h hp hv hl
  subst hn
  replace h := sIx_ok h
  obtain ⟨i, q, st1, rfl, hi, h⟩ := h
  simp only [List.map_cons, sVal, sI, sD_c]
  rcases Bool.or_eq_true_iff.mp h with h | h
  · exact so_rd2 (go := fun st => go (pc + 1) L st pa mem) hx hb hK hd h hi hv (fun st2 h2 => hgo _ _ _ _ _ _ _ _ h2 hp hv hl)
  · exact so_rd3 (go := fun st => go (pc + 1) L st pa mem) hx hb hK hd h hi hv (fun st2 h2 => hgo _ _ _ _ _ _ _ _ h2 hp hv hl)

theorem so_arraylength (hx : p.tables.exec = Jvm.exec) (hb : c.code = cc) (hK : va_K D vwCl (sT cy) s) (hd : decode cc pc = .ok (.arraylength, 1)) (hn : nx = pc + 1) : sStepOk (fun H locs g => W p l e R s m args below meth c H locs cells slots Q g) (sLv D cy A r al hid rest s.heap) m r al nL pc nx oLen := by
  intro go hgo L st pa mem H locs ls h hp hv hl
  subst hn
  replace h := sTR_ok h
  obtain ⟨q, st1, rfl, h⟩ := h
  replace h := sCell_ok h
  obtain ⟨u, vs, h1, h⟩ := h
  rw [sFc_eq] at h
  have k := hgo _ _ _ _ _ _ _ _ h hp hv hl
  simp only [List.map_cons, sVal, sI, sD_c] at k ⊢
  have he := sW_get (r := r) (al := al) (cy := cy) (hid := hid) (rest := rest) h1
  exact va_alen hx hb hK hv.1 q 0 he rfl (by rw [sLn_ok]) hd k

theorem so_laload (hx : p.tables.exec = Jvm.exec) (hb : c.code = cc) (hK : va_K D vwCl (sT cy) s) (hd : decode cc pc = .ok (.laload, 1)) (hn : nx = pc + 1) : sStepOk (fun H locs g => W p l e R s m args below meth c H locs cells slots Q g) (sLv D cy A r al hid rest s.heap) m r al nL pc nx oLaload := by
  intro go hgo L st pa mem H locs ls h hp hv hl
  subst hn
  replace h := sIx_ok h
  obtain ⟨i, q, st1, rfl, hi, h⟩ := h
  simp only [List.map_cons, sVal, sI, sD_c]
  exact so_rd4 (go := fun st => go (pc + 1) L st pa mem) hx hb hK hd h hi hv (fun st2 h2 => hgo _ _ _ _ _ _ _ _ h2 hp hv hl)

theorem so_aaload (hx : p.tables.exec = Jvm.exec) (hb : c.code = cc) (hK : va_K D vwCl (sT cy) s) (hd : decode cc pc = .ok (.aaload, 1)) (hn : nx = pc + 1) : sStepOk (fun H locs g => W p l e R s m args below meth c H locs cells slots Q g) (sLv D cy A r al hid rest s.heap) m r al nL pc nx oAaload := by
  intro go hgo L st pa mem H locs ls h hp hv hl
  subst hn
  replace h := sIx_ok h
  obtain ⟨i, q, st1, rfl, hi, h⟩ := h
  simp only [List.map_cons, sVal, sI, sD_c]
  rcases Bool.or_eq_true_iff.mp h with h | h
  · exact so_rd5 (go := fun st => go (pc + 1) L st pa mem) hx hb hK hd h hi hv (fun st2 h2 => hgo _ _ _ _ _ _ _ _ h2 hp hv hl)
  · exact so_rd6 (go := fun st => go (pc + 1) L st pa mem) hx hb hK hd h hi hv (fun st2 h2 => hgo _ _ _ _ _ _ _ _ h2 hp hv hl)

theorem so_wr1 (hx : p.tables.exec = Jvm.exec) (hb : c.code = cc) (hK : va_K D vwCl (sT cy) s) (hd : decode cc pc = .ok (.iastore, 1)) {go : sM → Bool} {mem : sM} {i q : Nat} {x z : sX} {st : List Value} {H : Heap} {locs : List Loc} {ls : Array Slot} (hz : sI r z = sI r x) (h : sPuta 1 (.inl z) i q mem go = true) (hi : i < 2 ^ 31) (hv : sLv D cy A r al hid rest s.heap mem H locs) (kk : ∀ (mem1 : sM) (H1 : Heap) (locs1 : List Loc), go mem1 = true → sLv D cy A r al hid rest s.heap mem1 H1 locs1 → W p l e R s m args below meth c H1 locs1 cells slots Q (F0 m (pc + 1) ls st)) : W p l e R s m args below meth c H locs cells slots Q (F0 m pc ls (.int (sI r x) :: .int (Int32.ofNat i) :: .ref (al q) :: st)) := by
  replace h := sPuta_ok h
  obtain ⟨u, vs, h1, h2, h⟩ := h
  have he := sW_get (r := r) (al := al) (cy := cy) (hid := hid) (rest := rest) h1
  have hl1 : q < mem.length := (List.getElem?_eq_some_iff.mp h1).1
  have hcl : (Int32.ofNat i).toNatClampNeg = i := nI_clamp hi
  refine va_iast hx hb hK hv.1 hv.2.1 hv.2.2 q 0 he rfl (s_in h2 hi) hd (fun H1 locs1 a1 a2 a3 => kk _ H1 locs1 h ⟨?_, ?_, a3⟩)
  · rw [hcl, ← hz, s_updI h2] at a1
    rw [← sW_set hl1]
    simpa [sCe] using a1
  · rw [hcl, ← hz, s_updI h2] at a2
    rw [← sW_set hl1]
    simpa [sCe] using a2

theorem so_wr2 (hx : p.tables.exec = Jvm.exec) (hb : c.code = cc) (hK : va_K D vwCl (sT cy) s) (hd : decode cc pc = .ok (.bastore, 1)) {go : sM → Bool} {mem : sM} {i q : Nat} {x z : sX} {st : List Value} {H : Heap} {locs : List Loc} {ls : Array Slot} (hz : sI r z = vp_nar .byte (sI r x)) (h : sPuta 2 (.inl z) i q mem go = true) (hi : i < 2 ^ 31) (hv : sLv D cy A r al hid rest s.heap mem H locs) (kk : ∀ (mem1 : sM) (H1 : Heap) (locs1 : List Loc), go mem1 = true → sLv D cy A r al hid rest s.heap mem1 H1 locs1 → W p l e R s m args below meth c H1 locs1 cells slots Q (F0 m (pc + 1) ls st)) : W p l e R s m args below meth c H locs cells slots Q (F0 m pc ls (.int (sI r x) :: .int (Int32.ofNat i) :: .ref (al q) :: st)) := by
  replace h := sPuta_ok h
  obtain ⟨u, vs, h1, h2, h⟩ := h
  have he := sW_get (r := r) (al := al) (cy := cy) (hid := hid) (rest := rest) h1
  have hl1 : q < mem.length := (List.getElem?_eq_some_iff.mp h1).1
  have hcl : (Int32.ofNat i).toNatClampNeg = i := nI_clamp hi
  refine va_bast hx hb hK hv.1 hv.2.1 hv.2.2 q 1 he rfl (s_in h2 hi) hd (fun H1 locs1 a1 a2 a3 => kk _ H1 locs1 h ⟨?_, ?_, a3⟩)
  · rw [hcl, ← hz, s_updI h2] at a1
    rw [← sW_set hl1]
    simpa [sCe] using a1
  · rw [hcl, ← hz, s_updI h2] at a2
    rw [← sW_set hl1]
    simpa [sCe] using a2

theorem so_wr3 (hx : p.tables.exec = Jvm.exec) (hb : c.code = cc) (hK : va_K D vwCl (sT cy) s) (hd : decode cc pc = .ok (.bastore, 1)) {go : sM → Bool} {mem : sM} {i q : Nat} {x z : sX} {st : List Value} {H : Heap} {locs : List Loc} {ls : Array Slot} (hz : sI r z = vp_nar .boolean (sI r x)) (h : sPuta 3 (.inl z) i q mem go = true) (hi : i < 2 ^ 31) (hv : sLv D cy A r al hid rest s.heap mem H locs) (kk : ∀ (mem1 : sM) (H1 : Heap) (locs1 : List Loc), go mem1 = true → sLv D cy A r al hid rest s.heap mem1 H1 locs1 → W p l e R s m args below meth c H1 locs1 cells slots Q (F0 m (pc + 1) ls st)) : W p l e R s m args below meth c H locs cells slots Q (F0 m pc ls (.int (sI r x) :: .int (Int32.ofNat i) :: .ref (al q) :: st)) := by
  replace h := sPuta_ok h
  obtain ⟨u, vs, h1, h2, h⟩ := h
  have he := sW_get (r := r) (al := al) (cy := cy) (hid := hid) (rest := rest) h1
  have hl1 : q < mem.length := (List.getElem?_eq_some_iff.mp h1).1
  have hcl : (Int32.ofNat i).toNatClampNeg = i := nI_clamp hi
  refine va_zast hx hb hK hv.1 hv.2.1 hv.2.2 q 2 he rfl (s_in h2 hi) hd (fun H1 locs1 a1 a2 a3 => kk _ H1 locs1 h ⟨?_, ?_, a3⟩)
  · rw [hcl, ← hz, s_updI h2] at a1
    rw [← sW_set hl1]
    simpa [sCe] using a1
  · rw [hcl, ← hz, s_updI h2] at a2
    rw [← sW_set hl1]
    simpa [sCe] using a2

theorem so_wr4 (hx : p.tables.exec = Jvm.exec) (hb : c.code = cc) (hK : va_K D vwCl (sT cy) s) (hd : decode cc pc = .ok (.lastore, 1)) {go : sM → Bool} {mem : sM} {i q : Nat} {x z : sX} {st : List Value} {H : Heap} {locs : List Loc} {ls : Array Slot} (hz : sJ r z = sJ r x) (h : sPuta 4 (.inr (.inl z)) i q mem go = true) (hi : i < 2 ^ 31) (hv : sLv D cy A r al hid rest s.heap mem H locs) (kk : ∀ (mem1 : sM) (H1 : Heap) (locs1 : List Loc), go mem1 = true → sLv D cy A r al hid rest s.heap mem1 H1 locs1 → W p l e R s m args below meth c H1 locs1 cells slots Q (F0 m (pc + 1) ls st)) : W p l e R s m args below meth c H locs cells slots Q (F0 m pc ls (.long (sJ r x) :: .int (Int32.ofNat i) :: .ref (al q) :: st)) := by
  replace h := sPuta_ok h
  obtain ⟨u, vs, h1, h2, h⟩ := h
  have he := sW_get (r := r) (al := al) (cy := cy) (hid := hid) (rest := rest) h1
  have hl1 : q < mem.length := (List.getElem?_eq_some_iff.mp h1).1
  have hcl : (Int32.ofNat i).toNatClampNeg = i := nI_clamp hi
  refine va_last hx hb hK hv.1 hv.2.1 hv.2.2 q 3 he rfl (s_in h2 hi) hd (fun H1 locs1 a1 a2 a3 => kk _ H1 locs1 h ⟨?_, ?_, a3⟩)
  · rw [hcl, ← hz, s_updL h2] at a1
    rw [← sW_set hl1]
    simpa [sCe] using a1
  · rw [hcl, ← hz, s_updL h2] at a2
    rw [← sW_set hl1]
    simpa [sCe] using a2

theorem so_iastore (hx : p.tables.exec = Jvm.exec) (hb : c.code = cc) (hK : va_K D vwCl (sT cy) s) (hd : decode cc pc = .ok (.iastore, 1)) (hn : nx = pc + 1) : sStepOk (fun H locs g => W p l e R s m args below meth c H locs cells slots Q g) (sLv D cy A r al hid rest s.heap) m r al nL pc nx oIastore := by
  intro go hgo L st pa mem H locs ls h hp hv hl
  subst hn
  replace h := sTI_ok h
  obtain ⟨x, st0, rfl, h⟩ := h
  replace h := sIx_ok h
  obtain ⟨i, q, st1, rfl, hi, h⟩ := h
  simp only [List.map_cons, sVal]
  rw [show sI r (.natCast i) = Int32.ofNat i by simp only [sI, sD_c]]
  exact so_wr1 hx hb hK hd rfl h hi hv (fun mem1 H1 locs1 h2 hv1 => hgo _ _ _ _ _ _ _ _ h2 hp hv1 hl)

theorem so_lastore (hx : p.tables.exec = Jvm.exec) (hb : c.code = cc) (hK : va_K D vwCl (sT cy) s) (hd : decode cc pc = .ok (.lastore, 1)) (hn : nx = pc + 1) : sStepOk (fun H locs g => W p l e R s m args below meth c H locs cells slots Q g) (sLv D cy A r al hid rest s.heap) m r al nL pc nx oLastore := by
  intro go hgo L st pa mem H locs ls h hp hv hl
  subst hn
  replace h := sTL_ok h
  obtain ⟨x, st0, rfl, h⟩ := h
  replace h := sIx_ok h
  obtain ⟨i, q, st1, rfl, hi, h⟩ := h
  simp only [List.map_cons, sVal]
  rw [show sI r (.natCast i) = Int32.ofNat i by simp only [sI, sD_c]]
  exact so_wr4 hx hb hK hd rfl h hi hv (fun mem1 H1 locs1 h2 hv1 => hgo _ _ _ _ _ _ _ _ h2 hp hv1 hl)

theorem so_bastore (hx : p.tables.exec = Jvm.exec) (hb : c.code = cc) (hK : va_K D vwCl (sT cy) s) (hd : decode cc pc = .ok (.bastore, 1)) (hn : nx = pc + 1) : sStepOk (fun H locs g => W p l e R s m args below meth c H locs cells slots Q g) (sLv D cy A r al hid rest s.heap) m r al nL pc nx oBastore := by
  intro go hgo L st pa mem H locs ls h hp hv hl
  subst hn
  replace h := sTI_ok h
  obtain ⟨x, st0, rfl, h⟩ := h
  replace h := sIx_ok h
  obtain ⟨i, q, st1, rfl, hi, h⟩ := h
  simp only [List.map_cons, sVal]
  rw [show sI r (.natCast i) = Int32.ofNat i by simp only [sI, sD_c]]
  rcases Bool.or_eq_true_iff.mp h with h | h
  · replace h := sUn_I (r := r) (g := fun a => vp_nar .byte a) (fun _ => rfl) (fun _ => fN_ok _) h
    obtain ⟨z, hz, h⟩ := h
    exact so_wr2 hx hb hK hd hz h hi hv (fun mem1 H1 locs1 h2 hv1 => hgo _ _ _ _ _ _ _ _ h2 hp hv1 hl)
  · replace h := sUn_I (r := r) (g := fun a => vp_nar .boolean a) (fun _ => rfl) (fun _ => fN_ok _) h
    obtain ⟨z, hz, h⟩ := h
    exact so_wr3 hx hb hK hd hz h hi hv (fun mem1 H1 locs1 h2 hv1 => hgo _ _ _ _ _ _ _ _ h2 hp hv1 hl)

theorem so_gets0 (hx : p.tables.exec = Jvm.exec) (hb : c.code = cc) {own : String} {idx : Nat} (hown : s.vm.findClass own = some m.cls) (hst : sSt al A s s.heap) (hlink : (Cond.fieldLink own idx "SwapTables$Partitions" "BEGIN" "[I").before args s = true) (hd : decode cc pc = .ok (.getstatic idx, 3)) (hn : nx = pc + 3) : sStepOk (fun H locs g => W p l e R s m args below meth c H locs cells slots Q g) (sLv D cy A r al hid rest s.heap) m r al nL pc nx (oGets 0) := by
  intro go hgo L st pa mem H locs ls h hp hv hl
  subst hn
  have k := hgo _ _ _ _ _ _ _ _ h hp hv hl
  simp only [List.map_cons, sVal] at k
  exact va_gets hx hb hst.1 hv.2.2 hown hlink (fun _ h => h) hd k

theorem so_gets1 (hx : p.tables.exec = Jvm.exec) (hb : c.code = cc) {own : String} {idx : Nat} (hown : s.vm.findClass own = some m.cls) (hst : sSt al A s s.heap) (hlink : (Cond.fieldLink own idx "SwapTables$Partitions" "CODES" "[I").before args s = true) (hd : decode cc pc = .ok (.getstatic idx, 3)) (hn : nx = pc + 3) : sStepOk (fun H locs g => W p l e R s m args below meth c H locs cells slots Q g) (sLv D cy A r al hid rest s.heap) m r al nL pc nx (oGets 1) := by
  intro go hgo L st pa mem H locs ls h hp hv hl
  subst hn
  have k := hgo _ _ _ _ _ _ _ _ h hp hv hl
  simp only [List.map_cons, sVal] at k
  exact va_gets hx hb hst.2.2.1 hv.2.2 hown hlink (fun _ h => h) hd k

theorem sCopy_ok {src : List sV} {sp dp : Nat} : ∀ (n : Nat) (dst : List sV) (k : List sV → Bool), sCopy src sp dp n dst k = true → ∃ vs : List sV, k vs = true ∧ vs.length = dst.length ∧ (0 < n → sp + n ≤ src.length ∧ dp + n ≤ dst.length) ∧ ∀ j : Nat, vs[j]? = if dp ≤ j ∧ j < dp + n then src[sp + (j - dp)]? else dst[j]?
  | 0, dst, k, h => ⟨dst, h, rfl, fun q => absurd q (Nat.lt_irrefl 0), fun j => by rw [if_neg (by omega)]⟩
  | n + 1, dst, k, h => by
    have h0 : sGet src (Nat.add sp n) (fun v => sSet dst (Nat.add dp n) v (fun dst => sCopy src sp dp n dst k)) = true := h
    obtain ⟨v, h1, h2⟩ := sGet_ok _ _ _ h0
    obtain ⟨h3, h4⟩ := sSet_ok _ _ _ _ h2
    obtain ⟨vs, h5, h6, h7, h8⟩ := sCopy_ok n _ _ h4
    have h1' : src[sp + n]? = some v := h1
    have h3' : dp + n < dst.length := h3
    have hs : sp + n < src.length := (List.getElem?_eq_some_iff.mp h1').1
    refine ⟨vs, h5, by rw [h6, List.length_set], fun _ => ⟨by omega, by omega⟩, fun j => ?_⟩
    rw [h8 j]
    by_cases c1 : dp ≤ j ∧ j < dp + n
    · rw [if_pos c1, if_pos (by omega)]
    · rw [if_neg c1]
      show (dst.set (dp + n) v)[j]? = _
      rw [List.getElem?_set]
      by_cases c2 : dp + n = j
      · subst c2
        rw [if_pos rfl, if_pos h3', if_pos (by omega), show sp + (dp + n - dp) = sp + n by omega, h1']
      · rw [if_neg c2, if_neg (by omega)]

theorem sCats_ok {r : sE} {al : Nat → Nat} : ∀ st : List sV, ((st.map (sVal r al)).map fun v => v.category).sum = sCats st
  | [] => rfl
  | v :: st => by
    rw [List.map_cons, List.map_cons, List.sum_cons, sCats_ok st]
    have : (sVal r al v).category = sCat v := by
      rcases v with x | x | x | x <;> rfl
    rw [this]
    rfl

theorem so_abs (hx : p.tables.exec = Jvm.exec) (hb : c.code = cc) {own : String} {idx : Nat} (hml : c.maxLocals = nL) (hown : s.vm.findClass own = some m.cls) (hlink : (Cond.methodLink own idx Lib.MathLoose.abs_long.x).before args s = true) (hstat : (Cond.static Lib.MathLoose.abs_long.x).before args s = true) (hini : (Cond.initialized "java/lang/Math").before args s = true) (hcode : (Cond.code Lib.MathLoose.abs_long.x Lib.MathLoose.abs_long.code 2 (some .long)).before args s = true) (hfr : 1 ≤ R.frames) (hlo : 32 ≤ R.locals) (hcs : cells ≤ R.cells ∧ slots ≤ R.slots) (hd : decode cc pc = .ok (.invokestatic idx, 3)) (hn : nx = pc + 3) : sStepOk (fun H locs g => W p l e R s m args below meth c H locs cells slots Q g) (sLv D cy A r al hid rest s.heap) m r al nL pc nx oAbs := by
  intro go hgo L st pa mem H locs ls h hp hv hl
  subst hn
  replace h := sTL_ok h
  obtain ⟨x, st1, rfl, h⟩ := h
  replace h := sIf_ok h
  obtain ⟨hc8, h⟩ := h
  replace h := sUn_J (r := r) (g := fun a => if 0 < a then a else -a) (fun _ => rfl) (fun _ => gN_ok _) h
  obtain ⟨z, hz, h⟩ := h
  have k := hgo _ _ _ _ _ _ _ _ h hp hv hl
  simp only [List.map_cons, sVal] at k ⊢
  rw [hz] at k
  have hsum := sCats_ok (r := r) (al := al) st1
  have hle : sCats st1 ≤ 8 := Nat.le_of_ble_eq_true hc8
  exact va_mabs_long hx hb (hml.trans hl.1.symm) hown hlink hstat hini hcode hfr (by omega) hcs.1 hcs.2 hd k

theorem so_copy (hx : p.tables.exec = Jvm.exec) (hb : c.code = cc) {own : String} {idx : Nat} (hml : c.maxLocals = nL) (hown : s.vm.findClass own = some m.cls) (hlink : (Cond.methodLink own idx arraycopyName).before args s = true) (hnat : (Cond.native arraycopyName).before args s = true) (hstat : (Cond.static arraycopyName).before args s = true) (hini : (Cond.initialized "java/lang/System").before args s = true) (hK : va_K D vwCl (sT cy) s) (hfr : 1 ≤ R.frames) (hlo : 18 ≤ R.locals) (hd : decode cc pc = .ok (.invokestatic idx, 3)) (hn : nx = pc + 3) : sStepOk (fun H locs g => W p l e R s m args below meth c H locs cells slots Q g) (sLv D cy A r al hid rest s.heap) m r al nL pc nx oCopy := by
  intro go hgo L st pa mem H locs ls h hp hv hl
  subst hn
  replace h := sTI_ok h
  obtain ⟨x, st0, rfl, h⟩ := h
  replace h := sNum_ok h
  obtain ⟨n, rfl, h⟩ := h
  replace h := sIx_ok h
  obtain ⟨dp, q, st1, rfl, hdp, h⟩ := h
  replace h := sIx_ok h
  obtain ⟨sp, q0, st2, rfl, hsp, h⟩ := h
  replace h := sIf_ok h
  obtain ⟨hn1, h⟩ := h
  rw [Bool.and_eq_true] at hn1
  replace h := sNil_ok h
  obtain ⟨hem, h⟩ := h
  subst hem
  replace h := sCell_ok h
  obtain ⟨u0, v0, h0, h⟩ := h
  replace h := sCell_ok h
  obtain ⟨u, v1, h1, h⟩ := h
  obtain ⟨vs, h, e1, e2, e3⟩ := sCopy_ok _ _ _ h
  obtain ⟨h2, h3⟩ := sSet_ok _ _ _ _ h
  have hn2 : n ≤ 1000 := Nat.le_of_ble_eq_true hn1.1
  obtain ⟨e4, e5⟩ : sp + n ≤ v0.length ∧ dp + n ≤ v1.length := by
    by_cases hn3 : 0 < n
    · exact e2 hn3
    · rcases Bool.or_eq_true_iff.mp hn1.2 with q9 | q9
      · exact absurd (Nat.lt_of_succ_le (Nat.le_of_ble_eq_true q9)) hn3
      · rw [Bool.and_eq_true] at q9
        have z1 : sp = 0 := Nat.eq_of_beq_eq_true q9.1
        have z2 : dp = 0 := Nat.eq_of_beq_eq_true q9.2
        exact ⟨by omega, by omega⟩
  have cn : (Int32.ofNat n).toNatClampNeg = n := nI_clamp (by omega)
  have cd : (Int32.ofNat dp).toNatClampNeg = dp := nI_clamp hdp
  have cs : (Int32.ofNat sp).toNatClampNeg = sp := nI_clamp hsp
  have pos : ∀ i : Nat, i < 2 ^ 31 → ¬ Int32.ofNat i < 0 := fun i hi q => by
    rw [Int32.lt_iff_toInt_lt, show (Int32.ofNat i).toInt = (i : Int) from nI_toInt hi] at q
    simp at q
    omega
  simp only [List.map_cons, List.map_nil, sVal, sI, sD_c]
  have he0 := sW_get (r := r) (al := al) (cy := cy) (hid := hid) (rest := rest) h0
  have he1 := sW_get (r := r) (al := al) (cy := cy) (hid := hid) (rest := rest) h1
  have ef : va_cpy (fun j => sInt r v0[j]?) (fun j => sInt r v1[j]?) sp dp n = fun j => sInt r vs[j]? := by
    funext j
    unfold va_cpy
    rw [e3 j]
    by_cases c1 : dp ≤ j ∧ j < dp + n
    · rw [if_pos c1, if_pos c1]
    · rw [if_neg c1, if_neg c1]
  have hsz : ls.size = nL := hl.1
  refine va_copyi hx hb (by rw [hml, hsz]) hown hlink hnat hstat hini hK hv.1 hv.2.1 hv.2.2 q0 q 0 0 he0 he1 rfl rfl rfl (pos sp hsp) (pos dp hdp) (pos n (by omega)) (by rw [cs, cn]; exact e4) (by rw [cd, cn]; exact e5) (fun _ _ => rfl) hfr (show 0 + (nativeFrameWords "java/lang/System" "arraycopy" 5 + 11) ≤ R.locals from hlo) hd (fun H1 locs1 a1 a2 a3 => hgo _ _ _ _ _ _ _ _ h3 hp ⟨?_, ?_, a3⟩ hl)
  · rw [cn, cd, cs, ef, ← e1] at a1
    rw [← sW_set h2]
    simpa [sCe] using a1
  · rw [cn, cd, cs, ef, ← e1] at a2
    rw [← sW_set h2]
    simpa [sCe] using a2

end SO
end
section
/-! 09: the executor is sound: what it says of a method is the method's contract -/

theorem sTb_in {w : Cond} (h : w ∈ sTb) : w ∈ lw_tbl := (List.mem_filter.mp h).1
theorem lw_goodIn {w : Cond} (h : w ∈ sTb) : GoodIn sTb (w :: sTb) := fun v hv => by
  have hm : v ∈ sTb := by
    rcases List.mem_cons.mp hv with rfl | hv
    · exact h
    · exact hv
  exact ⟨hm, good_of_word (List.mem_filter.mp hm).2⟩
def sRm (d : Nat) : Room := { frames := d + 1, cells := 0, slots := 0, locals := 64 * (d + 1) }
def sQc (D : va_G) (cy : Nat → ClassId) (hid : Nat → va_E) (rest : va_W) (r : sE) (al : Nat → Nat) (A : Nat → Prop) (kr : sKr) : Array Value → State → Outcome → State → Prop := fun _ st o t => (∃ (v : Option sV) (pa : List sK) (mem : sM), kr v pa mem = true ∧ sPa r pa ∧ o = .returned (v.map (sVal r al)) ∧ va_P D vwCl (sW r al cy hid rest mem) t.heap ∧ va_K D vwCl (sT cy) t ∧ va_D A (sW r al cy hid rest mem)) ∧ va_F A st t
def sPre (D : va_G) (cy : Nat → ClassId) (hid : Nat → va_E) (rest : va_W) (r : sE) (al : Nat → Nat) (mem : sM) (sz : Nat) (U : State) : Prop := U.heap.size = sz ∧ va_P D vwCl (sW r al cy hid rest mem) U.heap ∧ va_K D vwCl (sT cy) U ∧ va_D (fun _ => True) (sW r al cy hid rest mem) ∧ sSt al (va_A (sW r al cy hid rest mem) sz) U U.heap ∧ sNw U
theorem sPre_blind {D : va_G} {cy : Nat → ClassId} {hid : Nat → va_E} {rest : va_W} {r : sE} {al : Nat → Nat} {mem : sM} {sz : Nat} {av : List Value} : FrameBlind (va_Pc av (sPre D cy hid rest r al mem sz)) := fun a U g mk q => by
  obtain ⟨q0, q1, q2, q3, q4, q5, q6⟩ := q
  exact ⟨q0, q1, q2, va_K.moved (u := U) (U := U.calling g mk a) (Vm.Alike.refl U.vm) q3, q4, sSt.moved (u := U) (U := U.calling g mk a) (Vm.Alike.refl U.vm) q5, sNw.same (u := U) (U := U.calling g mk a) rfl q6⟩
/-- what a call needs of the method called -/
def sMok (me : sMe) (mi : sMi) : Prop := Cond.code mi.1 mi.2.1 mi.2.2.1 mi.2.2.2 ∈ sTb ∧ Cond.initialized mi.1.cls ∈ sTb ∧ (mi.1.cls ≠ "java/lang/invoke/MethodHandle" ∧ mi.1.cls ≠ "java/lang/invoke/VarHandle") ∧ plainName mi.1.cls = true ∧ me.2.1 = mi.2.2.1 ∧ mi.2.2.1 + 19 ≤ 64 ∧
  ((me.2.2.2.1 = 99 ∧ Cond.static mi.1 ∈ sTb ∧ (parseMethodDescriptor mi.1.desc).map (fun d => d.parameters.length) = some me.2.2.1) ∨
   (me.2.2.2.1 ≠ 99 ∧ Cond.instanceMethod mi.1 ∈ sTb ∧ Cond.selects mi.1.cls mi.1 mi.1 ∈ sTb ∧ (∃ T N, vwCl[me.2.2.2.1]? = some (mi.1.cls, T, N)) ∧ ∃ n, (parseMethodDescriptor mi.1.desc).map (fun d => d.parameters.length) = some n ∧ me.2.2.1 = n + 1)) ∧
  ((me.2.2.2.2 = 0 ∧ mi.2.2.2 = none) ∨ (me.2.2.2.2 = 1 ∧ mi.2.2.2 = some .int) ∨ (me.2.2.2.2 = 2 ∧ mi.2.2.2 = some .boolean) ∨ (me.2.2.2.2 = 3 ∧ mi.2.2.2 = some .long) ∨ (me.2.2.2.2 = 4 ∧ ∃ rt, mi.2.2.2 = some rt ∧ ((∃ n, rt = .object n) ∨ ∃ t, rt = .array t)))
/-- an instruction's row is what the code has there -/
def sLink (own : String) (idx n : Nat) : Prop := ∃ C T N, vwCl[n / 64]? = some (C, T, N) ∧ n % 64 < N ∧ (Cond.fieldLink own idx (T (n % 64)).1 (T (n % 64)).2.1 (T (n % 64)).2.2.1 ∈ sTb ∨ ∃ host, Cond.fieldLinkNest own idx (T (n % 64)).1 (T (n % 64)).2.1 (T (n % 64)).2.2.1 host ∈ sTn)
def sLinkP (own : String) (idx n : Nat) (ty : FieldType) : Prop := ∃ C T N, vwCl[n / 64]? = some (C, T, N) ∧ n % 64 < N ∧ (Cond.fieldLink own idx (T (n % 64)).1 (T (n % 64)).2.1 (T (n % 64)).2.2.1 ∈ sTb ∨ ∃ host, Cond.fieldLinkNest own idx (T (n % 64)).1 (T (n % 64)).2.1 (T (n % 64)).2.2.1 host ∈ sTn) ∧ (T (n % 64)).2.2.2 = false ∧ parseFieldDescriptor (T (n % 64)).2.2.1 = some ty
def sLinkM (own : String) (idx : Nat) (y : MethodName) : Prop := Cond.methodLink own idx y ∈ sTb ∨ ∃ host, Cond.methodLinkNest own idx y host ∈ sTn
def sRel (MI : Nat → sMi) (PG : Nat → sMe) (own : String) (cc : ByteArray) (q : sIn) : Prop := match q with
  | (pc, ir, nx, _) => match ir with
    | .ldc v => (∃ n, decode cc pc = .ok (.iconst n, 1) ∧ nx = pc + 1 ∧ Int32.ofInt n = Int32.ofNat v) ∨ (∃ n, decode cc pc = .ok (.bipush n, 2) ∧ nx = pc + 2 ∧ (Int8.ofInt n).toInt32 = Int32.ofNat v) ∨ (∃ n, decode cc pc = .ok (.sipush n, 3) ∧ nx = pc + 3 ∧ (Int16.ofInt n).toInt32 = Int32.ofNat v) ∨ (∃ i, decode cc pc = .ok (.ldc i, 2) ∧ nx = pc + 2 ∧ Cond.constant own i (Int32.ofNat v) ∈ sTb) ∨ (∃ i, decode cc pc = .ok (.ldc_w i, 3) ∧ nx = pc + 3 ∧ Cond.constant own i (Int32.ofNat v) ∈ sTb)
    | .ldc2_w v => (∃ n, decode cc pc = .ok (.lconst n, 1) ∧ nx = pc + 1 ∧ Int64.ofNat (n : Nat) = Int64.ofNat v) ∨ (∃ i, decode cc pc = .ok (.ldc2_w i, 3) ∧ nx = pc + 3 ∧ Cond.constantLong own i (Int64.ofNat v) ∈ sTb)
    | .iload i => (∃ k : Fin 4, decode cc pc = .ok (.iload_n k, 1) ∧ nx = pc + 1 ∧ (k : Nat) = i) ∨ (decode cc pc = .ok (.iload i, 2) ∧ nx = pc + 2)
    | .lload i => (∃ k : Fin 4, decode cc pc = .ok (.lload_n k, 1) ∧ nx = pc + 1 ∧ (k : Nat) = i) ∨ (decode cc pc = .ok (.lload i, 2) ∧ nx = pc + 2)
    | .aload i => (∃ k : Fin 4, decode cc pc = .ok (.aload_n k, 1) ∧ nx = pc + 1 ∧ (k : Nat) = i) ∨ (decode cc pc = .ok (.aload i, 2) ∧ nx = pc + 2)
    | .istore i => (∃ k : Fin 4, decode cc pc = .ok (.istore_n k, 1) ∧ nx = pc + 1 ∧ (k : Nat) = i) ∨ (decode cc pc = .ok (.istore i, 2) ∧ nx = pc + 2)
    | .lstore i => (∃ k : Fin 4, decode cc pc = .ok (.lstore_n k, 1) ∧ nx = pc + 1 ∧ (k : Nat) = i) ∨ (decode cc pc = .ok (.lstore i, 2) ∧ nx = pc + 2)
    | .astore i => (∃ k : Fin 4, decode cc pc = .ok (.astore_n k, 1) ∧ nx = pc + 1 ∧ (k : Nat) = i) ∨ (decode cc pc = .ok (.astore i, 2) ∧ nx = pc + 2)
    | .iinc i n => ∃ n0 v, n = Int.ofNat v ∧ decode cc pc = .ok (.iinc i n0, 3) ∧ nx = pc + 3 ∧ Int32.ofInt n0 = Int32.ofNat v
    | .goto t => ∃ off v, t = Int.ofNat v ∧ decode cc pc = .ok (.goto off, 3) ∧ (pc : Int) + off = t
    | .ifCond cn t => ∃ off v, t = Int.ofNat v ∧ decode cc pc = .ok (.ifCond cn off, 3) ∧ nx = pc + 3 ∧ (pc : Int) + off = t
    | .if_icmp cn t => ∃ off v, t = Int.ofNat v ∧ decode cc pc = .ok (.if_icmp cn off, 3) ∧ nx = pc + 3 ∧ (pc : Int) + off = t
    | .lookupswitch d ps => (∃ dflt ps0 len v, d = Int.ofNat v ∧ decode cc pc = .ok (.lookupswitch dflt ps0, len) ∧ (ps0.toList.zip (ps0.toList.drop 1)).all (fun (a, next) => a.1 < next.1) = true ∧ sPs pc ps0.toList ps.toList = true ∧ (pc : Int) + dflt = d) ∨ (∃ dflt lo hi offs len v, d = Int.ofNat v ∧ decode cc pc = .ok (.tableswitch dflt lo hi offs, len) ∧ lo + offs.toList.length = hi + 1 ∧ sPs pc (sTab lo offs.toList) ps.toList = true ∧ (pc : Int) + dflt = d)
    | .getfield n => ∃ idx, decode cc pc = .ok (.getfield idx, 3) ∧ nx = pc + 3 ∧ sLink own idx n
    | .putfield n => ∃ idx, decode cc pc = .ok (.putfield idx, 3) ∧ nx = pc + 3 ∧ sLinkP own idx n .int
    | .putstatic n => ∃ idx, decode cc pc = .ok (.putfield idx, 3) ∧ nx = pc + 3 ∧ sLinkP own idx n .boolean
    | .instanceof n => ∃ idx, decode cc pc = .ok (.putfield idx, 3) ∧ nx = pc + 3 ∧ sLinkP own idx n .long
    | .getstatic j => ∃ idx, decode cc pc = .ok (.getstatic idx, 3) ∧ nx = pc + 3 ∧ ((j = 0 ∧ Cond.fieldLink own idx "SwapTables$Partitions" "BEGIN" "[I" ∈ sTb) ∨ (j = 1 ∧ Cond.fieldLink own idx "SwapTables$Partitions" "CODES" "[I" ∈ sTb))
    | .invokedynamic j => ∃ idx, decode cc pc = .ok (.invokestatic idx, 3) ∧ nx = pc + 3 ∧ ((j = 0 ∧ Cond.methodLink own idx arraycopyName ∈ sTb) ∨ (j = 1 ∧ Cond.methodLink own idx Lib.MathLoose.abs_long.x ∈ sTb))
    | .invokestatic k => ∃ idx, decode cc pc = .ok (.invokestatic idx, 3) ∧ nx = pc + 3 ∧ sLinkM own idx (MI k).1 ∧ (PG k).2.2.2.1 = 99
    | .invokevirtual k => ∃ idx, decode cc pc = .ok (.invokevirtual idx, 3) ∧ nx = pc + 3 ∧ sLinkM own idx (MI k).1 ∧ (PG k).2.2.2.1 ≠ 99
    | .nop => True
    | .return_ => decode cc pc = .ok (.return_, 1)
    | .ireturn => decode cc pc = .ok (.ireturn, 1)
    | .lreturn => decode cc pc = .ok (.lreturn, 1)
    | .areturn => decode cc pc = .ok (.areturn, 1)
    | .iadd => decode cc pc = .ok (.iadd, 1) ∧ nx = pc + 1
    | .isub => decode cc pc = .ok (.isub, 1) ∧ nx = pc + 1
    | .imul => decode cc pc = .ok (.imul, 1) ∧ nx = pc + 1
    | .iand => decode cc pc = .ok (.iand, 1) ∧ nx = pc + 1
    | .ior => decode cc pc = .ok (.ior, 1) ∧ nx = pc + 1
    | .ixor => decode cc pc = .ok (.ixor, 1) ∧ nx = pc + 1
    | .ishl => decode cc pc = .ok (.ishl, 1) ∧ nx = pc + 1
    | .ishr => decode cc pc = .ok (.ishr, 1) ∧ nx = pc + 1
    | .iushr => decode cc pc = .ok (.iushr, 1) ∧ nx = pc + 1
    | .irem => decode cc pc = .ok (.irem, 1) ∧ nx = pc + 1
    | .ineg => decode cc pc = .ok (.ineg, 1) ∧ nx = pc + 1
    | .i2b => decode cc pc = .ok (.i2b, 1) ∧ nx = pc + 1
    | .l2i => decode cc pc = .ok (.l2i, 1) ∧ nx = pc + 1
    | .i2l => decode cc pc = .ok (.i2l, 1) ∧ nx = pc + 1
    | .lneg => decode cc pc = .ok (.lneg, 1) ∧ nx = pc + 1
    | .ladd => decode cc pc = .ok (.ladd, 1) ∧ nx = pc + 1
    | .lsub => decode cc pc = .ok (.lsub, 1) ∧ nx = pc + 1
    | .lmul => decode cc pc = .ok (.lmul, 1) ∧ nx = pc + 1
    | .lor => decode cc pc = .ok (.lor, 1) ∧ nx = pc + 1
    | .lshr => decode cc pc = .ok (.lshr, 1) ∧ nx = pc + 1
    | .lushr => decode cc pc = .ok (.lushr, 1) ∧ nx = pc + 1
    | .ldiv => decode cc pc = .ok (.ldiv, 1) ∧ nx = pc + 1
    | .lrem => decode cc pc = .ok (.lrem, 1) ∧ nx = pc + 1
    | .lcmp => decode cc pc = .ok (.lcmp, 1) ∧ nx = pc + 1
    | .dup => decode cc pc = .ok (.dup, 1) ∧ nx = pc + 1
    | .dup2 => decode cc pc = .ok (.dup2, 1) ∧ nx = pc + 1
    | .iaload => decode cc pc = .ok (.iaload, 1) ∧ nx = pc + 1
    | .baload => decode cc pc = .ok (.baload, 1) ∧ nx = pc + 1
    | .laload => decode cc pc = .ok (.laload, 1) ∧ nx = pc + 1
    | .aaload => decode cc pc = .ok (.aaload, 1) ∧ nx = pc + 1
    | .iastore => decode cc pc = .ok (.iastore, 1) ∧ nx = pc + 1
    | .bastore => decode cc pc = .ok (.bastore, 1) ∧ nx = pc + 1
    | .lastore => decode cc pc = .ok (.lastore, 1) ∧ nx = pc + 1
    | .arraylength => decode cc pc = .ok (.arraylength, 1) ∧ nx = pc + 1
    | _ => False
/-- the whole program is what the class files have -/
def sGood (MI : Nat → sMi) (PG : Nat → sMe) : Prop := ∀ k, sMok (PG k) (MI k) ∧ ∀ pc, sRel MI PG (MI k).1.cls (MI k).2.1 ((PG k).1.get pc)
theorem sPop_ok : ∀ (n : Nat) (st as : List sV) (k : List sV → List sV → Bool), sPop n st as k = true → ∃ bs st1, st = bs.reverse ++ st1 ∧ bs.length = n ∧ k (bs ++ as) st1 = true
  | 0, st, as, k, h => ⟨[], st, rfl, rfl, h⟩
  | n + 1, st, as, k, h => by
    obtain ⟨v, st1, rfl, h1⟩ := sTop_ok (show sTop st (fun v st => sPop n st (v :: as) k) = true from h)
    obtain ⟨bs, st2, rfl, h2, h3⟩ := sPop_ok n st1 (v :: as) k h1
    exact ⟨bs ++ [v], st2, by simp, by simp [h2], by simpa using h3⟩
end
section
/-! 10: every step, and the whole (by wip/whole/mk10.py) -/
/-- the classes' fields, as the rows of fields want them -/
def sFld : Prop := ∀ (ci : Nat) (C : String) (T : u_T) (N : Nat), vwCl[ci]? = some (C, T, N) → (∀ w ∈ u_ws C T N, w ∈ sTb) ∧ ∃ ty0 : Nat → FieldType, (∀ k, k < N → parseFieldDescriptor (T k).2.2.1 = some (ty0 k)) ∧ ∀ a, a < N → ∀ b, b < N → a ≠ b → (T a).2.1 ≠ (T b).2.1
/-- words for arraycopy -/
def sCpw : Prop := Cond.native arraycopyName ∈ sTb ∧ Cond.static arraycopyName ∈ sTb ∧ Cond.initialized "java/lang/System" ∈ sTb ∧ Cond.static Lib.MathLoose.abs_long.x ∈ sTb ∧ Cond.initialized "java/lang/Math" ∈ sTb ∧ Cond.code Lib.MathLoose.abs_long.x Lib.MathLoose.abs_long.code 2 (some .long) ∈ sTb
section SA
variable {p : Program} {l : Launch} {e : Env} {R : Room} {s : State} {m : MethodId} {args : Array Value} {below : List Frame} {meth : Method} {c : Code} {cells slots : Nat} {Q : State → Prop}
variable {cc : ByteArray} {nL : Nat} {D : va_G} {cy : Nat → ClassId} {A : Nat → Prop} {r : sE} {al : Nat → Nat} {hid : Nat → va_E} {rest : va_W}
set_option maxHeartbeats 4000000 in
theorem so_all {MI : Nat → sMi} {PG : Nat → sMe} (hF : sFld) (hC : sCpw) (hx : p.tables.exec = Jvm.exec) (hb : c.code = cc) (hml : c.maxLocals = nL) {own : String} (hown : s.vm.findClass own = some m.cls) (hts : ∀ w ∈ sTb, w.before args s = true) (hNw : sNw s) (hK : va_K D vwCl (sT cy) s) (hst : sSt al A s s.heap) (hfr : 1 ≤ R.frames) (hlo : 32 ≤ R.locals) (hcs : cells ≤ R.cells ∧ slots ≤ R.slots) {pc nx aux : Nat} {ir : Instr} (hrel : sRel MI PG own cc (pc, ir, nx, aux)) {h : sFun} (hh : sOp ir = .inl h) : sStepOk (fun H locs g => W p l e R s m args below meth c H locs cells slots Q g) (sLv D cy A r al hid rest s.heap) m r al nL pc nx h := by
  cases ir
  all_goals first | exact False.elim hrel | skip
  case iadd => cases hh; exact so_iadd hx hb hrel.1 hrel.2
  case isub => cases hh; exact so_isub hx hb hrel.1 hrel.2
  case imul => cases hh; exact so_imul hx hb hrel.1 hrel.2
  case iand => cases hh; exact so_iand hx hb hrel.1 hrel.2
  case ior => cases hh; exact so_ior hx hb hrel.1 hrel.2
  case ixor => cases hh; exact so_ixor hx hb hrel.1 hrel.2
  case ishl => cases hh; exact so_ishl hx hb hrel.1 hrel.2
  case ishr => cases hh; exact so_ishr hx hb hrel.1 hrel.2
  case iushr => cases hh; exact so_iushr hx hb hrel.1 hrel.2
  case irem => cases hh; exact so_irem hx hb hrel.1 hrel.2
  case ineg => cases hh; exact so_ineg hx hb hrel.1 hrel.2
  case i2b => cases hh; exact so_i2b hx hb hrel.1 hrel.2
  case l2i => cases hh; exact so_l2i hx hb hrel.1 hrel.2
  case i2l => cases hh; exact so_i2l hx hb hrel.1 hrel.2
  case lneg => cases hh; exact so_lneg hx hb hrel.1 hrel.2
  case ladd => cases hh; exact so_ladd hx hb hrel.1 hrel.2
  case lsub => cases hh; exact so_lsub hx hb hrel.1 hrel.2
  case lmul => cases hh; exact so_lmul hx hb hrel.1 hrel.2
  case lor => cases hh; exact so_lor hx hb hrel.1 hrel.2
  case lshr => cases hh; exact so_lshr hx hb hrel.1 hrel.2
  case lushr => cases hh; exact so_lushr hx hb hrel.1 hrel.2
  case ldiv => cases hh; exact so_ldiv hx hb hrel.1 hrel.2
  case lrem => cases hh; exact so_lrem hx hb hrel.1 hrel.2
  case lcmp => cases hh; exact so_lcmp hx hb hrel.1 hrel.2
  case dup => cases hh; exact so_dup hx hb hrel.1 hrel.2
  case dup2 => cases hh; exact so_dup2 hx hb hrel.1 hrel.2
  case baload => cases hh; exact so_baload hx hb hK hrel.1 hrel.2
  case laload => cases hh; exact so_laload hx hb hK hrel.1 hrel.2
  case aaload => cases hh; exact so_aaload hx hb hK hrel.1 hrel.2
  case iastore => cases hh; exact so_iastore hx hb hK hrel.1 hrel.2
  case bastore => cases hh; exact so_bastore hx hb hK hrel.1 hrel.2
  case lastore => cases hh; exact so_lastore hx hb hK hrel.1 hrel.2
  case arraylength => cases hh; exact so_arraylength hx hb hK hrel.1 hrel.2
  case iaload => cases hh; exact so_iaload hx hb hK hst hrel.1 hrel.2
  case ldc v =>
    cases hh
    rcases hrel with ⟨n, h1, h2, h3⟩ | ⟨n, h1, h2, h3⟩ | ⟨n, h1, h2, h3⟩ | ⟨n, h1, h2, h3⟩ | ⟨n, h1, h2, h3⟩
    · exact so_iconst hx hb h1 h2 h3
    · exact so_bipush hx hb h1 h2 h3
    · exact so_sipush hx hb h1 h2 h3
    · exact so_ldc hx hb hown h1 h2 (hts _ h3)
    · exact so_ldcw hx hb hown h1 h2 (hts _ h3)
  case ldc2_w v =>
    cases hh
    rcases hrel with ⟨n, h1, h2, h3⟩ | ⟨n, h1, h2, h3⟩
    · exact so_lconst hx hb h1 h2 h3
    · exact so_ldc2 hx hb hown h1 h2 (hts _ h3)
  case iload i =>
    cases hh
    rcases hrel with ⟨k, h1, h2, h3⟩ | ⟨h1, h2⟩
    · exact so_iload_n hx hb h1 h2 h3
    · exact so_iload hx hb h1 h2
  case lload i =>
    cases hh
    rcases hrel with ⟨k, h1, h2, h3⟩ | ⟨h1, h2⟩
    · exact so_lload_n hx hb h1 h2 h3
    · exact so_lload hx hb h1 h2
  case aload i =>
    cases hh
    rcases hrel with ⟨k, h1, h2, h3⟩ | ⟨h1, h2⟩
    · exact so_aload_n hx hb h1 h2 h3
    · exact so_aload hx hb h1 h2
  case istore i =>
    cases hh
    rcases hrel with ⟨k, h1, h2, h3⟩ | ⟨h1, h2⟩
    · exact so_istore_n hx hb h1 h2 h3
    · exact so_istore hx hb h1 h2
  case lstore i =>
    cases hh
    rcases hrel with ⟨k, h1, h2, h3⟩ | ⟨h1, h2⟩
    · exact so_lstore_n hx hb h1 h2 h3
    · exact so_lstore hx hb h1 h2
  case astore i =>
    cases hh
    rcases hrel with ⟨k, h1, h2, h3⟩ | ⟨h1, h2⟩
    · exact so_astore_n hx hb h1 h2 h3
    · exact so_astore hx hb h1 h2
  case iinc i n =>
    obtain ⟨n0, v, rfl, h1, h2, h3⟩ := hrel
    cases hh
    exact so_iinc hx hb h1 h2 h3
  case goto t =>
    obtain ⟨off, v, rfl, h1, h2⟩ := hrel
    cases hh
    exact so_goto hx hb h1 h2
  case ifCond cn t =>
    obtain ⟨off, v, rfl, h1, h2, h3⟩ := hrel
    cases hh
    exact so_if hx hb h1 h2 h3
  case if_icmp cn t =>
    obtain ⟨off, v, rfl, h1, h2, h3⟩ := hrel
    cases hh
    exact so_if2 hx hb h1 h2 h3
  case lookupswitch d ps =>
    rcases hrel with ⟨dflt, ps0, len, v, rfl, h1, h2, h3, h4⟩ | ⟨dflt, lo, hi, offs, len, v, rfl, h1, h2, h3, h4⟩
    · cases hh
      exact so_look hx hb h1 h2 h3 h4
    · cases hh
      exact so_table hx hb h1 h2 h3 h4
  case getfield n =>
    cases hh
    obtain ⟨idx, h1, h2, C, T, N, h3, h4, h5⟩ := hrel
    exact so_getf hx hb hts hK hown h3 h4 (hF _ _ _ _ h3).1 (h5.imp (hts _) (fun ⟨host, q⟩ => ⟨host, hNw.use q⟩)) h1 h2
  case putfield n =>
    cases hh
    obtain ⟨idx, h1, h2, C, T, N, h3, h4, h5, h6, h7⟩ := hrel
    exact so_putI hx hb hts hK hown h3 h4 (hF _ _ _ _ h3).1 (h5.imp (hts _) (fun ⟨host, q⟩ => ⟨host, hNw.use q⟩)) (hF _ _ _ _ h3).2 h6 h1 h2 h7
  case putstatic n =>
    cases hh
    obtain ⟨idx, h1, h2, C, T, N, h3, h4, h5, h6, h7⟩ := hrel
    exact so_putZ hx hb hts hK hown h3 h4 (hF _ _ _ _ h3).1 (h5.imp (hts _) (fun ⟨host, q⟩ => ⟨host, hNw.use q⟩)) (hF _ _ _ _ h3).2 h6 h1 h2 h7
  case instanceof n =>
    cases hh
    obtain ⟨idx, h1, h2, C, T, N, h3, h4, h5, h6, h7⟩ := hrel
    exact so_putJ hx hb hts hK hown h3 h4 (hF _ _ _ _ h3).1 (h5.imp (hts _) (fun ⟨host, q⟩ => ⟨host, hNw.use q⟩)) (hF _ _ _ _ h3).2 h6 h1 h2 h7
  case getstatic j =>
    cases hh
    obtain ⟨idx, h1, h2, h3⟩ := hrel
    rcases h3 with ⟨rfl, h3⟩ | ⟨rfl, h3⟩
    · exact so_gets0 hx hb hown hst (hts _ h3) h1 h2
    · exact so_gets1 hx hb hown hst (hts _ h3) h1 h2
  case invokedynamic j =>
    cases hh
    obtain ⟨idx, h1, h2, h3⟩ := hrel
    rcases h3 with ⟨rfl, h3⟩ | ⟨rfl, h3⟩
    · exact so_copy hx hb hml hown (hts _ h3) (hts _ hC.1) (hts _ hC.2.1) (hts _ hC.2.2.1) hK hfr (by omega) h1 h2
    · exact so_abs hx hb hml hown (hts _ h3) (hts _ hC.2.2.2.1) (hts _ hC.2.2.2.2.1) (hts _ hC.2.2.2.2.2) hfr hlo hcs h1 h2
  all_goals cases hh
end SA
end
section
/-! 11: the executor with its calls is sound -/
theorem sEnt_ok {r : sE} {al : Nat → Nat} : ∀ (as : List sV) (n : Nat) (k : sL → Bool), sEnt as n k = true → ∃ L, k L = true ∧ L.length = n ∧ (lg_sl (as.map (sVal r al))).length ≤ n ∧ ∀ (b i : Nat) (v : sV), L[i]? = some (some v) → (b + i, sVal r al v) ∈ lv_args b (as.map (sVal r al))
  | [], n, k, h => by
    have key : ∀ (n : Nat) (k : sL → Bool), sEnt [] n k = true → ∃ L, k L = true ∧ L.length = n ∧ ∀ (i : Nat) (v : sV), L[i]? ≠ some (some v) := by
      intro n
      induction n with
      | zero => intro k h; exact ⟨[], h, rfl, fun i v q => by simp at q⟩
      | succ n ih =>
        intro k h
        obtain ⟨L, h1, h2, h3⟩ := ih (fun L => k (none :: L)) h
        refine ⟨none :: L, h1, by simp [h2], fun i v q => ?_⟩
        cases i with
        | zero => simp at q
        | succ i => exact h3 i v (by simpa using q)
    obtain ⟨L, h1, h2, h3⟩ := key n k h
    exact ⟨L, h1, h2, by simp [lg_sl], fun b i v q => absurd q (h3 i v)⟩
  | a :: as, n, k, h => by
    cases hc : Nat.beq (sCat a) (nat_lit 1) with
    | true =>
      have hcat : (sVal r al a).category = 1 := sCat_ok hc
      have h' : Nat.rec (motive := fun _ => Bool) false (fun m _ => sEnt as m (fun L => k (some a :: L))) n = true := by
        have h2 := h
        unfold sEnt at h2
        simp only [hc] at h2
        exact h2
      cases n with
      | zero => exact nomatch (show false = true from h')
      | succ n =>
        obtain ⟨L, h1, h2, h3, h4⟩ := sEnt_ok (r := r) (al := al) as n _ h'
        refine ⟨some a :: L, h1, by simp [h2], ?_, fun b i v q => ?_⟩
        · simp only [lg_sl, List.map_cons, List.flatMap_cons] at h3 ⊢
          rw [if_neg (by omega)]
          simp only [List.length_append, List.length_cons, List.length_nil]
          omega
        · rw [List.map_cons]
          unfold lv_args
          rw [if_neg (by omega)]
          cases i with
          | zero =>
            simp at q
            subst q
            exact List.mem_cons_self
          | succ i =>
            have := h4 (b + 1) i v (by simpa using q)
            rw [show b + 1 + i = b + (i + 1) by omega] at this
            exact List.mem_cons_of_mem _ this
    | false =>
      have hcat : (sVal r al a).category = 2 := by
        rcases a with x | x | x | x
        · exact nomatch (show true = false from hc)
        · rfl
        · exact nomatch (show true = false from hc)
        · exact nomatch (show true = false from hc)
      have h' : Nat.rec (motive := fun _ => Bool) false (fun m _ => Nat.rec (motive := fun _ => Bool) false (fun m _ => sEnt as m (fun L => k (some a :: none :: L))) m) n = true := by
        have h2 := h
        unfold sEnt at h2
        simp only [hc] at h2
        exact h2
      cases n with
      | zero => exact nomatch (show false = true from h')
      | succ n => cases n with
        | zero => exact nomatch (show false = true from h')
        | succ n =>
          obtain ⟨L, h1, h2, h3, h4⟩ := sEnt_ok (r := r) (al := al) as n _ h'
          refine ⟨some a :: none :: L, h1, by simp [h2], ?_, fun b i v q => ?_⟩
          · simp only [lg_sl, List.map_cons, List.flatMap_cons] at h3 ⊢
            rw [if_pos hcat]
            simp only [List.length_append, List.length_cons, List.length_nil]
            omega
          · rw [List.map_cons]
            unfold lv_args
            rw [if_pos hcat]
            cases i with
            | zero =>
              simp at q
              subst q
              exact List.mem_cons_self
            | succ i => cases i with
              | zero => simp at q
              | succ i =>
                have := h4 (b + 2) i v (by simpa using q)
                rw [show b + 2 + i = b + (i + 1 + 1) by omega] at this
                exact List.mem_cons_of_mem _ this
section SX
variable {D : va_G} {cy : Nat → ClassId} {r : sE} {al : Nat → Nat} {hid : Nat → va_E} {rest : va_W}
theorem s_call {p : Program} {l : Launch} {e : Env} {R : Room} {s : State} {m : MethodId} {args : Array Value} {below : List Frame} {meth : Method} {c : Code} {H : Heap} {locs : List Loc} {Q : State → Prop} {pc cells slots : Nat} {ls : Array Slot} {st0 rs : List Value} {a : Array Value} {A A1 free : Nat → Prop} {kr : sKr}
    (hr : va_Run p l e R s m args below meth c H locs cells slots 0 0 (F0 m pc ls st0) rs (sQc D cy hid rest r al A1 kr a) free) (hS : va_S A s.heap H locs) (hA : ∀ q, q < H.size → A1 q → A q) (hf : ∀ q, free q → A q)
    (kk : ∀ (v : Option sV) (pa : List sK) (mem : sM) (H1 : Heap) (locs1 : List Loc), kr v pa mem = true → sPa r pa → va_P D vwCl (sW r al cy hid rest mem) H1 → va_D A1 (sW r al cy hid rest mem) → va_S A s.heap H1 locs1 → W p l e R s m args below meth c H1 locs1 cells slots Q (F0 m (pc + 3) ls ((v.map (sVal r al)).toList ++ rs))) : W p l e R s m args below meth c H locs cells slots Q (F0 m pc ls st0) := by
  intro T hT X
  obtain ⟨v, st₀, t, T', L, h0, X', hL, e1, e2, ⟨⟨v1, pa, mem, k1, k2, hv, k3, k4, k5⟩, hz, hk⟩, st⟩ := hr T hT X
  cases hv
  rw [h0] at hz hk
  obtain ⟨t2, a1, b1⟩ := kk v1 pa mem T'.heap (locs ++ L) k1 k2 (by rw [e1]; exact k3) k5
    ⟨Nat.le_trans hS.1 (by rw [e1]; exact hz), fun q h1 h2 => by rw [e1, hk q (Nat.lt_of_lt_of_le h1 hS.1) (fun z => h2 (hA q (Nat.lt_of_lt_of_le h1 hS.1) z))]; exact hS.2.1 q h1 h2, fun q hq => by
      rcases List.mem_append.mp hq with h | h
      · exact hS.2.2 q h
      · exact hf _ (hL q h)⟩ T' rfl X'
  exact ⟨t2, st t2 a1, b1⟩
/-- a frame of a method that runs: what holds of it all the time -/
def sCtx (MI : Nat → sMi) (k d : Nat) (D : va_G) (cy : Nat → ClassId) (al : Nat → Nat) (A : Nat → Prop) (p : Program) (R : Room) (s : State) (m : MethodId) (args : Array Value) (meth : Method) (c : Code) : Prop :=
  p.tables.exec = Jvm.exec ∧ c.code = (MI k).2.1 ∧ c.maxLocals = (MI k).2.2.1 ∧ s.vm.findClass (MI k).1.cls = some m.cls ∧ (∀ w ∈ sTb, w.before args s = true) ∧ sNw s ∧ va_K D vwCl (sT cy) s ∧ sSt al A s s.heap ∧ (∀ q, s.heap.size ≤ q → A q) ∧ d + 1 ≤ R.frames ∧ 64 * (d + 1) ≤ R.locals ∧ meth.sig.returnType = (MI k).2.2.2 ∧ meth.locks = false
/-- the contract that a run of the executor gives -/
def sMet (MI : Nat → sMi) (l : Launch) (D : va_G) (cy : Nat → ClassId) (hid : Nat → va_E) (rest : va_W) (r : sE) (al : Nat → Nat) (d k : Nat) (mem : sM) (as : List sV) (kr : sKr) : Prop :=
  ∀ sz : Nat, Met l (MI k).1 (Cond.code (MI k).1 (MI k).2.1 (MI k).2.2.1 (MI k).2.2.2 :: sTb) (sRm d) (va_Pc (as.map (sVal r al)) (sPre D cy hid rest r al mem sz)) (sQc D cy hid rest r al (va_A (sW r al cy hid rest mem) sz) kr) 0 0 (va_A (sW r al cy hid rest mem) sz)
/-- a step of the executor, told in words -/
theorem sx_step {PG : Nat → sMe} {n d : Nat} {me : sMe} {stop : Nat → Bool} {ks : sKs} {kr : sKr} {pc : Nat} {L : sL} {st : List sV} {pa : List sK} {mem : sM} (h : sx PG (n + 1) d me stop ks kr pc L st pa mem = true) :
    ks pc L st pa mem = true ∨ ∃ ir nx aux, me.1.get pc = (pc, ir, nx, aux) ∧ ((∃ f, sOp ir = .inl f ∧ f nx L st pa mem (sx PG n d me stop ks kr) = true) ∨
      (∃ mi d1, sOp ir = .inr (.inl mi) ∧ d = d1 + 1 ∧ sPop (PG mi).2.2.1 st [] (fun as st => sIf (Nat.ble (sCats st) (nat_lit 8)) (sRecv mem (PG mi).2.2.2.1 as (sEnt as (PG mi).2.1 (fun L1 =>
          sx PG n d1 (PG mi) (fun _ => false) (fun _ _ _ _ _ => false) (fun v pa mem => sPush v st (fun st => sx PG n d me stop ks kr nx L st pa mem)) (nat_lit 0) L1 [] pa mem)))) = true) ∨
      (∃ o, sOp ir = .inr (.inr o) ∧ sRet me.2.2.2.2 o st (fun v => kr v pa mem) = true)) := by
  cases hs : stop pc with
  | true =>
    have h2 : ks pc L st pa mem = true := by
      have h3 := h
      unfold sx at h3
      simp only [hs] at h3
      exact h3
    exact Or.inl h2
  | false =>
    right
    obtain ⟨pc1, ir, nx, aux, hg⟩ : ∃ pc1 ir nx aux, me.1.get pc = (pc1, ir, nx, aux) := ⟨_, _, _, _, rfl⟩
    have h2 : sIf (Nat.beq pc pc1) (Sum.rec (motive := fun _ => Bool)
      (fun h => h nx L st pa mem (sx PG n d me stop ks kr))
      (fun z => Sum.rec (motive := fun _ => Bool)
        (fun mi => Nat.rec (motive := fun _ => Bool) false (fun d1 _ => (fun cal : sMe => sPop cal.2.2.1 st [] (fun as st => sIf (Nat.ble (sCats st) (nat_lit 8)) (sRecv mem cal.2.2.2.1 as (sEnt as cal.2.1 (fun L1 =>
          sx PG n d1 cal (fun _ => false) (fun _ _ _ _ _ => false) (fun v pa mem => sPush v st (fun st => sx PG n d me stop ks kr nx L st pa mem)) (nat_lit 0) L1 [] pa mem))))) (PG mi)) d)
        (fun o => sRet me.2.2.2.2 o st (fun v => kr v pa mem)) z) (sOp ir)) = true := by
      have h3 := h
      unfold sx at h3
      simp only [hs, hg] at h3
      exact h3
    obtain ⟨h4, h5⟩ := sIf_ok h2
    have e0 : pc = pc1 := Nat.eq_of_beq_eq_true h4
    subst e0
    refine ⟨ir, nx, aux, hg, ?_⟩
    cases ho : sOp ir with
    | inl f =>
      rw [ho] at h5
      exact Or.inl ⟨f, rfl, h5⟩
    | inr z =>
      cases z with
      | inl mi =>
        rw [ho] at h5
        cases d with
        | zero => exact nomatch (show false = true from h5)
        | succ d1 => exact Or.inr (Or.inl ⟨mi, d1, rfl, rfl, h5⟩)
      | inr o =>
        rw [ho] at h5
        exact Or.inr (Or.inr ⟨o, rfl, h5⟩)
theorem sRet_ok {rk o : Nat} {st : List sV} {k : Option sV → Bool} (h : sRet rk o st k = true) : (o = 0 ∧ rk = 0 ∧ st = [] ∧ k none = true) ∨ (o = 1 ∧ rk = 1 ∧ ∃ x, st = [.inl x] ∧ k (some (.inl x)) = true) ∨ (o = 1 ∧ rk = 2 ∧ ∃ n, n ≤ 1 ∧ st = [.inl (.natCast n)] ∧ k (some (.inl (.natCast n))) = true) ∨ (o = 2 ∧ rk = 3 ∧ ∃ x, st = [.inr (.inl x)] ∧ k (some (.inr (.inl x))) = true) ∨ (o = 3 ∧ rk = 4 ∧ ∃ x, st = [.inr (.inr (some x))] ∧ k (some (.inr (.inr (some x)))) = true) := by
  unfold sRet at h
  cases h0 : Nat.beq o (nat_lit 0) with
  | true =>
    simp only [h0] at h
    obtain ⟨h1, h⟩ := sIf_ok h
    obtain ⟨h2, h⟩ := sNil_ok h
    exact Or.inl ⟨Nat.eq_of_beq_eq_true h0, Nat.eq_of_beq_eq_true h1, h2, h⟩
  | false =>
    simp only [h0] at h
    right
    cases h1 : Nat.beq o (nat_lit 1) with
    | true =>
      simp only [h1] at h
      obtain ⟨x, st1, rfl, h⟩ := sTI_ok h
      rename_i h9
      clear h9
      obtain ⟨h2, h⟩ := sNil_ok h
      subst h2
      cases h3 : Nat.beq rk (nat_lit 1) with
      | true =>
        simp only [h3] at h
        exact Or.inl ⟨Nat.eq_of_beq_eq_true h1, Nat.eq_of_beq_eq_true h3, x, rfl, h⟩
      | false =>
        simp only [h3] at h
        obtain ⟨h4, h⟩ := sIf_ok h
        obtain ⟨n, h5, h⟩ := sNum_ok h
        subst h5
        obtain ⟨h6, h⟩ := sIf_ok h
        exact Or.inr (Or.inl ⟨Nat.eq_of_beq_eq_true h1, Nat.eq_of_beq_eq_true h4, n, Nat.le_of_ble_eq_true h6, rfl, h⟩)
    | false =>
      simp only [h1] at h
      right
      right
      cases h2 : Nat.beq o (nat_lit 2) with
      | true =>
        simp only [h2] at h
        obtain ⟨x, st1, h7, h⟩ := sTL_ok h
        subst h7
        obtain ⟨h3, h⟩ := sNil_ok h
        subst h3
        obtain ⟨h4, h⟩ := sIf_ok h
        exact Or.inl ⟨Nat.eq_of_beq_eq_true h2, Nat.eq_of_beq_eq_true h4, x, rfl, h⟩
      | false =>
        simp only [h2] at h
        obtain ⟨h3, h⟩ := sIf_ok h
        obtain ⟨x, st1, h7, h⟩ := sTR_ok h
        subst h7
        obtain ⟨h4, h⟩ := sNil_ok h
        subst h4
        obtain ⟨h5, h⟩ := sIf_ok h
        exact Or.inr ⟨Nat.eq_of_beq_eq_true h3, Nat.eq_of_beq_eq_true h5, x, rfl, h⟩
theorem sRecv_ok {mem : sM} {ci : Nat} {as : List sV} {k : Bool} (h : sRecv mem ci as k = true) : k = true ∧ (ci ≠ 99 → ∃ q as1 vs, as = .inr (.inr (some q)) :: as1 ∧ mem[q]? = some (0, ci, vs)) := by
  unfold sRecv at h
  cases h0 : Nat.beq ci (nat_lit 99) with
  | true =>
    simp only [h0] at h
    exact ⟨h, fun q => absurd (Nat.eq_of_beq_eq_true h0) q⟩
  | false =>
    simp only [h0] at h
    obtain ⟨q, as1, h1, h⟩ := sTR_ok h
    obtain ⟨cj, vs, h2, h⟩ := sCell_ok h
    obtain ⟨h3, h8⟩ := sIf_ok h
    have e0 : cj = ci := Nat.eq_of_beq_eq_true h3
    subst e0
    exact ⟨h8, fun _ => ⟨q, as1, vs, h1, h2⟩⟩
end SX
end
section
/-! 12: the main induction -/
section SY
variable {D : va_G} {cy : Nat → ClassId} {r : sE} {al : Nat → Nat} {hid : Nat → va_E} {rest : va_W}
/-- what a run says of a method's frame -/
def sWok (MI : Nat → sMi) (PG : Nat → sMe) (l : Launch) (D : va_G) (cy : Nat → ClassId) (hid : Nat → va_E) (rest : va_W) (r : sE) (al : Nat → Nat) (n : Nat) : Prop :=
  ∀ (k d : Nat) (A : Nat → Prop) (p : Program) (e : Env) (R : Room) (s : State) (m : MethodId) (args : Array Value) (below : List Frame) (meth : Method) (c : Code) (Qc : Array Value → State → Outcome → State → Prop) (free : Addr → Prop) (stop : Nat → Bool) (ks : sKs) (kr : sKr),
    sCtx MI k d D cy al A p R s m args meth c →
    (∀ (pc : Nat) (L : sL) (st : List sV) (pa : List sK) (mem : sM) (H : Heap) (locs : List Loc) (ls : Array Slot), ks pc L st pa mem = true → sPa r pa → sLv D cy A r al hid rest s.heap mem H locs → sLo r al ls (MI k).2.2.1 L → W p l e R s m args below meth c H locs 0 0 (MQ below Qc args s 0 0 free) (F0 m pc ls (st.map (sVal r al)))) →
    (∀ (v : Option sV) (pa : List sK) (mem : sM) (H : Heap) (locs : List Loc), kr v pa mem = true → sPa r pa → sLv D cy A r al hid rest s.heap mem H locs → ∀ t : State, t.heap = H → s.WarmedH t.vm → Qc args s (.returned (v.map (sVal r al))) t) →
    (∀ q, A q → free q) →
    sGoOk (fun H locs g => W p l e R s m args below meth c H locs 0 0 (MQ below Qc args s 0 0 free) g) (sLv D cy A r al hid rest s.heap) m r al (MI k).2.2.1 (sx PG n d (PG k) stop ks kr)
/-- .. gives the method's contract -/
theorem sMet_of {MI : Nat → sMi} {PG : Nat → sMe} {l : Launch} (hG : sGood MI PG) {n : Nat} (hW : sWok MI PG l D cy hid rest r al n) {k d : Nat} {mem : sM} {as : List sV} {pa : List sK} {kr : sKr} (hp : sPa r pa) (h : sEnt as (PG k).2.1 (fun L => sx PG n d (PG k) (fun _ => false) (fun _ _ _ _ _ => false) kr (nat_lit 0) L [] pa mem) = true) : sMet MI l D cy hid rest r al d k mem as kr := by
  intro sz
  obtain ⟨⟨c1, c2, c3, c4, c5, c6, c7, c8⟩, -⟩ := hG k
  refine Met.ofW (cc := (MI k).2.1) (maxL := (MI k).2.2.1) (ret := (MI k).2.2.2) c4 rfl ?_
  intro p e s m args below meth c s₁ B hml hv
  obtain ⟨rfl, hsz, hP, hK, hD0, hst, hNw⟩ := hv
  subst hsz
  have hts := atoms_spec (ws := Cond.code (MI k).1 (MI k).2.1 (MI k).2.2.1 (MI k).2.2.2 :: sTb) B.pre
  have hown : s.vm.findClass (MI k).1.cls = some m.cls := findClass_of_methodNamed B.named
  have hD := hD0.self (sz := s.heap.size)
  have hA : ∀ q : Nat, s.heap.size ≤ q → va_A (sW r al cy hid rest mem) s.heap.size q := fun q h => Or.inr h
  obtain ⟨L, h1, h2, h3, h4⟩ := sEnt_ok (r := r) (al := al) _ _ _ h
  rw [c5] at h2 h3
  have hl := lv_entry (as.map (sVal r al)) (n := (MI k).2.2.1) h3
  rw [lg_entry_eq]
  generalize (lg_sl (as.map (sVal r al)) ++ List.replicate ((MI k).2.2.1 - (lg_sl (as.map (sVal r al))).length) Slot.unset).toArray = ls at hl ⊢
  have hlo : sLo r al ls (MI k).2.2.1 L := ⟨hl.1, hl.2.1, fun i v q => hl.2.2 (i, sVal r al v) (by have := h4 0 i v q; rwa [Nat.zero_add] at this), h2⟩
  have X : sCtx MI k d D cy al (va_A (sW r al cy hid rest mem) s.heap.size) p (headSpec (Cond.code (MI k).1 (MI k).2.1 (MI k).2.2.1 (MI k).2.2.2 :: sTb) (sRm d)).room s m (as.map (sVal r al)).toArray meth c :=
    ⟨B.exec, B.bytes, hml, hown, fun w h => hts w (List.mem_cons_of_mem _ h), hNw, hK, hst, hA, Nat.le_refl _, Nat.le_refl _, B.returns, B.notSynchronized⟩
  refine hW k d _ p e _ s m _ below meth c _ _ (fun _ => false) (fun _ _ _ _ _ => false) kr X (fun _ _ _ _ _ _ _ _ q => nomatch q) ?_ (fun q h => h) 0 L [] pa mem s.heap [] ls h1 hp ⟨hP, hD, va_S.rf⟩ hlo
  intro v pa1 mem1 H1 locs1 q1 q2 q3 t ht hw
  exact ⟨⟨v, pa1, mem1, q1, q2, rfl, by rw [ht]; exact q3.1, va_K.moved hw.alike hK, q3.2.1⟩, q3.2.2.F ht⟩
set_option maxHeartbeats 4000000 in
theorem sx_w {MI : Nat → sMi} {PG : Nat → sMe} {l : Launch} (hG : sGood MI PG) (hF : sFld) (hC : sCpw) : ∀ n : Nat, sWok MI PG l D cy hid rest r al n := by
  intro n
  induction n with
  | zero => intro k d A p e R s m args below meth c Qc free stop ks kr X hks hkr hfree pc L st pa mem H locs ls h; exact nomatch (show false = true from h)
  | succ n ih =>
    intro k d A p e R s m args below meth c Qc free stop ks kr X hks hkr hfree pc L st pa mem H locs ls h hp hv hl
    have ihk := ih k d A p e R s m args below meth c Qc free stop ks kr X hks hkr hfree
    obtain ⟨hx, hb, hml, hown, hts, hNw, hK, hst, hA, hfr, hlo, hret, hlocks⟩ := X
    obtain ⟨⟨c1, c2, c3, c4, c5, c6, c7, c8⟩, hR⟩ := hG k
    rcases sx_step h with h | ⟨ir, nx, aux, hg, h⟩
    · exact hks _ _ _ _ _ _ _ _ h hp hv hl
    have hrel := hR pc
    rw [hg] at hrel
    rcases h with ⟨f, h1, h2⟩ | ⟨mi, d1, h1, hd1, h2⟩ | ⟨o, h1, h2⟩
    · exact so_all hF hC hx hb hml hown hts hNw hK hst (by omega) (by omega) ⟨Nat.zero_le _, Nat.zero_le _⟩ hrel h1 _ ihk _ _ _ _ _ _ _ h2 hp hv hl
    · subst hd1
      obtain ⟨as, st1, rfl, hna, h3⟩ := sPop_ok _ _ _ _ h2
      rw [List.append_nil] at h3
      obtain ⟨h4, h5⟩ := sIf_ok h3
      obtain ⟨h6, h7⟩ := sRecv_ok h5
      obtain ⟨⟨b1, b2, b3, b4, b5, b6, b7, b8⟩, -⟩ := hG mi
      have hM := sMet_of hG ih hp h6 H.size
      have hcat : ((st1.map (sVal r al)).map fun v => v.category).sum ≤ 8 := by
        rw [sCats_ok]
        exact Nat.le_of_ble_eq_true h4
      have hFc : ∀ q, va_A (sW r al cy hid rest mem) H.size q → A q := fun q hq => by
        rcases hq with ⟨j, en, hj⟩ | hq
        · exact hv.2.1.2 j _ hj
        · exact hA q (Nat.le_trans hv.2.2.1 hq)
      have hpre : ∀ U : State, U.heap = H → s.WarmedH U.vm → va_Pc (as.map (sVal r al)) (sPre D cy hid rest r al mem H.size) (as.map (sVal r al)).toArray U := fun U hU hw =>
        ⟨rfl, by rw [hU], by rw [hU]; exact hv.1, va_K.moved hw.alike hK, hv.2.1.weaken (fun _ _ _ _ => trivial), by
          rw [hU]
          exact ((hst.kept (fun a h1 h2 => hv.2.2.2.1 a h1 h2)).narrow hFc).moved hw.alike, hNw.warm hw⟩
      have hroom : (sRm d1).frames + 1 ≤ R.frames ∧ 8 + ((MI mi).2.2.1 + 11) + (sRm d1).locals ≤ R.locals := ⟨hfr, by show 8 + ((MI mi).2.2.1 + 11) + 64 * (d1 + 1) ≤ R.locals; omega⟩
      have hgi := lw_goodIn b1
      have cont : ∀ (pc1 : Nat), nx = pc1 + 3 → ∀ (v : Option sV) (pa1 : List sK) (mem1 : sM) (H1 : Heap) (locs1 : List Loc), sPush v st1 (fun st => sx PG n (d1 + 1) (PG k) stop ks kr nx L st pa1 mem1) = true → sPa r pa1 → va_P D vwCl (sW r al cy hid rest mem1) H1 → va_D (va_A (sW r al cy hid rest mem) H.size) (sW r al cy hid rest mem1) → va_S A s.heap H1 locs1 → W p l e R s m args below meth c H1 locs1 0 0 (MQ below Qc args s 0 0 free) (F0 m (pc1 + 3) ls ((v.map (sVal r al)).toList ++ st1.map (sVal r al))) := by
        intro pc1 hnx v pa1 mem1 H1 locs1 q1 q2 q3 q4 q5
        have hv1 : sLv D cy A r al hid rest s.heap mem1 H1 locs1 := ⟨q3, q4.weaken (fun j y hy hz => hFc _ hz), q5⟩
        rw [← hnx]
        cases v with
        | none => exact ihk _ _ _ _ _ _ _ _ q1 q2 hv1 hl
        | some v => exact ihk _ _ _ _ _ _ _ _ (show sx PG n (d1 + 1) (PG k) stop ks kr nx L (v :: st1) pa1 mem1 = true from q1) q2 hv1 hl
      have hstk : (as.reverse ++ st1).map (sVal r al) = (as.map (sVal r al)).reverse ++ st1.map (sVal r al) := by rw [List.map_append, List.map_reverse]
      show W p l e R s m args below meth c H locs 0 0 (MQ below Qc args s 0 0 free) (F0 m pc ls ((as.reverse ++ st1).map (sVal r al)))
      rw [hstk]
      have stat : ∀ idx : Nat, decode (MI k).2.1 pc = .ok (.invokestatic idx, 3) → nx = pc + 3 → sLinkM (MI k).1.cls idx (MI mi).1 → (PG mi).2.2.2.1 = 99 → W p l e R s m args below meth c H locs 0 0 (MQ below Qc args s 0 0 free) (F0 m pc ls ((as.map (sVal r al)).reverse ++ st1.map (sVal r al))) := by
        intro idx g1 g2 g3 g4
        rcases b7 with ⟨-, w1, w2⟩ | ⟨w0, -⟩
        · have hn : (as.map (sVal r al)).length = (PG mi).2.2.1 := by rw [List.length_map]; exact hna
          rcases g3 with g3 | ⟨host, g3⟩
          · refine s_call (va_runS ⟨hx, hb, hml, hown, hts⟩ hM ⟨callB_of (PG mi).2.2.1 hts hgi rfl rfl rfl (hts _ b2) (hts _ g3) ⟨b3.1, b3.2, w2⟩ hroom, hts _ w1⟩ ⟨sPre_blind, hpre⟩ rfl hn hl.1 rfl (lv_room hcat) g1 ⟨Nat.zero_le _, Nat.zero_le _⟩) hv.2.2 (fun q _ h => hFc q h) hFc (cont pc g2)
          · refine s_call (va_runSN ⟨hx, hb, hml, hown, hts⟩ hM ⟨va_cnB (PG mi).2.2.1 hts hgi rfl rfl rfl (hNw _ g3) (hts _ b2) ⟨b3.1, b3.2, w2⟩ hroom, hts _ w1, trivial⟩ ⟨sPre_blind, hpre⟩ rfl hn hl.1 rfl (lv_room hcat) g1 ⟨Nat.zero_le _, Nat.zero_le _⟩) hv.2.2 (fun q _ h => hFc q h) hFc (cont pc g2)
        · exact absurd g4 w0
      have virt : ∀ idx : Nat, decode (MI k).2.1 pc = .ok (.invokevirtual idx, 3) → nx = pc + 3 → sLinkM (MI k).1.cls idx (MI mi).1 → (PG mi).2.2.2.1 ≠ 99 → W p l e R s m args below meth c H locs 0 0 (MQ below Qc args s 0 0 free) (F0 m pc ls ((as.map (sVal r al)).reverse ++ st1.map (sVal r al))) := by
        intro idx g1 g2 g3 g4
        rcases b7 with ⟨w0, -⟩ | ⟨-, w1, w2, ⟨T, N, w3⟩, nn, w4, w5⟩
        · exact absurd w0 g4
        · obtain ⟨q0, as1, vs, rfl, hq⟩ := h7 g4
          have he := sW_get (r := r) (al := al) (cy := cy) (hid := hid) (rest := rest) hq
          have hrecv := va_recv hK hv.1 w3 he
          have hn : (as1.map (sVal r al)).length = nn := by
            rw [List.length_map]
            rw [List.length_cons] at hna
            omega
          have hst2 : (F0 m pc ls (((.inr (.inr (some q0)) :: as1 : List sV).map (sVal r al)).reverse ++ st1.map (sVal r al))).stack = (as1.map (sVal r al)).reverse ++ .ref (al q0) :: st1.map (sVal r al) := by simp [sVal]
          rcases g3 with g3 | ⟨host, g3⟩
          · refine s_call (va_runV (C := (MI mi).1.cls) (As := as1.map (sVal r al)) (b := al q0) ⟨hx, hb, hml, hown, hts⟩ hM ⟨callB_of nn hts hgi rfl rfl rfl (hts _ b2) (hts _ g3) ⟨b3.1, b3.2, w4⟩ hroom, hts _ w1, hts _ w2⟩ ⟨sPre_blind, hrecv, hpre⟩ rfl hn hl.1 hst2 (lv_room hcat) g1 ⟨Nat.zero_le _, Nat.zero_le _⟩) hv.2.2 (fun q _ h => hFc q h) hFc (cont pc g2)
          · refine s_call (va_runVN (C := (MI mi).1.cls) (As := as1.map (sVal r al)) (b := al q0) ⟨hx, hb, hml, hown, hts⟩ hM ⟨va_cnB nn hts hgi rfl rfl rfl (hNw _ g3) (hts _ b2) ⟨b3.1, b3.2, w4⟩ hroom, hts _ w1, hts _ w2⟩ ⟨sPre_blind, hrecv, hpre⟩ rfl hn hl.1 hst2 (lv_room hcat) g1 ⟨Nat.zero_le _, Nat.zero_le _⟩) hv.2.2 (fun q _ h => hFc q h) hFc (cont pc g2)
      cases ir
      case invokestatic kk =>
        cases h1
        obtain ⟨idx, g1, g2, g3, g4⟩ := hrel
        exact stat idx g1 g2 g3 g4
      case invokevirtual kk =>
        cases h1
        obtain ⟨idx, g1, g2, g3, g4⟩ := hrel
        exact virt idx g1 g2 g3 g4
      all_goals first | exact False.elim hrel | cases h1
    · have key := sRet_ok h2
      have hfl : ∀ q ∈ locs, free q.base := fun q hq => hfree _ (hv.2.2.2.2 q hq)
      cases ir
      case return_ =>
        cases h1
        rcases key with ⟨-, k2, rfl, k4⟩ | ⟨q, -⟩ | ⟨q, -⟩ | ⟨q, -⟩ | ⟨q, -⟩
        · rcases c8 with ⟨-, g⟩ | ⟨g, -⟩ | ⟨g, -⟩ | ⟨g, -⟩ | ⟨g, -⟩
          · exact W.vret hx hb (by rw [hret, g]) (fun t ht hw => hkr _ _ _ _ _ k4 hp hv t ht hw) hfl hrel hlocks
          all_goals first | omega | exact absurd q (by decide)
        all_goals first | omega | exact absurd q (by decide)
      case ireturn =>
        cases h1
        rcases key with ⟨q, -⟩ | ⟨-, k2, x, rfl, k4⟩ | ⟨-, k2, nn, kn, rfl, k4⟩ | ⟨q, -⟩ | ⟨q, -⟩
        · first | omega | exact absurd q (by decide)
        · rcases c8 with ⟨g, -⟩ | ⟨-, g⟩ | ⟨g, -⟩ | ⟨g, -⟩ | ⟨g, -⟩
          · first | omega | exact absurd q (by decide)
          · exact W.iret hx hb (by rw [hret, g]) (fun t ht hw => hkr _ _ _ _ _ k4 hp hv t ht hw) hfl hrel hlocks
          all_goals first | omega | exact absurd q (by decide)
        · rcases c8 with ⟨g, -⟩ | ⟨g, -⟩ | ⟨-, g⟩ | ⟨g, -⟩ | ⟨g, -⟩
          · first | omega | exact absurd q (by decide)
          · first | omega | exact absurd q (by decide)
          · refine W.zret hx hb (by rw [hret, g]) ?_ (fun t ht hw => hkr _ _ _ _ _ k4 hp hv t ht hw) hfl hrel hlocks
            rcases (show nn = 0 ∨ nn = 1 by omega) with rfl | rfl <;> simp only [sI, sD_c] <;> decide
          all_goals first | omega | exact absurd q (by decide)
        all_goals first | omega | exact absurd q (by decide)
      case lreturn =>
        cases h1
        rcases key with ⟨q, -⟩ | ⟨q, -⟩ | ⟨q, -⟩ | ⟨-, k2, x, rfl, k4⟩ | ⟨q, -⟩
        · first | omega | exact absurd q (by decide)
        · first | omega | exact absurd q (by decide)
        · first | omega | exact absurd q (by decide)
        · rcases c8 with ⟨g, -⟩ | ⟨g, -⟩ | ⟨g, -⟩ | ⟨-, g⟩ | ⟨g, -⟩
          · first | omega | exact absurd q (by decide)
          · first | omega | exact absurd q (by decide)
          · first | omega | exact absurd q (by decide)
          · exact W.lret hx hb (by rw [hret, g]) (fun t ht hw => hkr _ _ _ _ _ k4 hp hv t ht hw) hfl hrel hlocks
          · first | omega | exact absurd q (by decide)
        · first | omega | exact absurd q (by decide)
      case areturn =>
        cases h1
        rcases key with ⟨q, -⟩ | ⟨q, -⟩ | ⟨q, -⟩ | ⟨q, -⟩ | ⟨-, k2, x, rfl, k4⟩
        · first | omega | exact absurd q (by decide)
        · first | omega | exact absurd q (by decide)
        · first | omega | exact absurd q (by decide)
        · first | omega | exact absurd q (by decide)
        · rcases c8 with ⟨g, -⟩ | ⟨g, -⟩ | ⟨g, -⟩ | ⟨g, -⟩ | ⟨-, rt, g, g2⟩
          · first | omega | exact absurd q (by decide)
          · first | omega | exact absurd q (by decide)
          · first | omega | exact absurd q (by decide)
          · first | omega | exact absurd q (by decide)
          · exact W.aret hx hb (by rw [hret, g]) g2 (Or.inr ⟨_, rfl⟩) (fun t ht hw => hkr _ _ _ _ _ k4 hp hv t ht hw) hfl hrel hlocks
      case nop =>
        cases h1
        rcases key with ⟨q, -⟩ | ⟨q, -⟩ | ⟨q, -⟩ | ⟨q, -⟩ | ⟨q, -⟩
        all_goals exact absurd q (by decide)
      all_goals first | exact False.elim hrel | cases h1
end SY
end
section
/-! 13: a check of the program's rows against the class files -/
def sTw (i : Nat) (w : Cond) : Bool := decide (lw_tbl[i]? = some w) && goodWord w
theorem sTw_ok {i : Nat} {w : Cond} (h : sTw i w = true) : w ∈ sTb := by
  simp only [sTw, Bool.and_eq_true, decide_eq_true_eq] at h
  exact List.mem_filter.mpr ⟨List.mem_of_getElem? h.1, h.2⟩
def sTwN (i : Nat) (w : Cond) : Bool := decide (lw_tbl[i]? = some w) && sIsN w
theorem sTwN_ok {i : Nat} {w : Cond} (h : sTwN i w = true) : w ∈ sTn := by
  simp only [sTwN, Bool.and_eq_true, decide_eq_true_eq] at h
  exact List.mem_filter.mpr ⟨List.mem_of_getElem? h.1, h.2⟩
def sLinkB (own : String) (idx n aux : Nat) : Bool := match vwCl[n / 64]? with
  | some (_, T, N) => decide (n % 64 < N) && (sTw aux (.fieldLink own idx (T (n % 64)).1 (T (n % 64)).2.1 (T (n % 64)).2.2.1) || sTwN aux (.fieldLinkNest own idx (T (n % 64)).1 (T (n % 64)).2.1 (T (n % 64)).2.2.1 "SwapTables"))
  | none => false
theorem sLinkB_ok {own : String} {idx n aux : Nat} (h : sLinkB own idx n aux = true) : sLink own idx n := by
  unfold sLinkB at h
  split at h
  · rename_i C T N hq
    simp only [Bool.and_eq_true, decide_eq_true_eq, Bool.or_eq_true] at h
    exact ⟨C, T, N, hq, h.1, h.2.imp sTw_ok (fun q => ⟨_, sTwN_ok q⟩)⟩
  · cases h
def sLinkPB (own : String) (idx n aux : Nat) (ty : FieldType) : Bool := match vwCl[n / 64]? with
  | some (_, T, N) => decide (n % 64 < N) && ((sTw aux (.fieldLink own idx (T (n % 64)).1 (T (n % 64)).2.1 (T (n % 64)).2.2.1) || sTwN aux (.fieldLinkNest own idx (T (n % 64)).1 (T (n % 64)).2.1 (T (n % 64)).2.2.1 "SwapTables")) && (decide ((T (n % 64)).2.2.2 = false) && decide (parseFieldDescriptor (T (n % 64)).2.2.1 = some ty)))
  | none => false
theorem sLinkPB_ok {own : String} {idx n aux : Nat} {ty : FieldType} (h : sLinkPB own idx n aux ty = true) : sLinkP own idx n ty := by
  unfold sLinkPB at h
  split at h
  · rename_i C T N hq
    simp only [Bool.and_eq_true, decide_eq_true_eq, Bool.or_eq_true] at h
    exact ⟨C, T, N, hq, h.1, h.2.1.imp sTw_ok (fun q => ⟨_, sTwN_ok q⟩), h.2.2.1, h.2.2.2⟩
  · cases h
def sLinkMB (own : String) (idx aux : Nat) (y : MethodName) : Bool := sTw aux (.methodLink own idx y) || sTwN aux (.methodLinkNest own idx y "SwapTables")
theorem sLinkMB_ok {own : String} {idx aux : Nat} {y : MethodName} (h : sLinkMB own idx aux y = true) : sLinkM own idx y := by
  simp only [sLinkMB, Bool.or_eq_true] at h
  exact h.imp sTw_ok (fun q => ⟨_, sTwN_ok q⟩)
/-- those that stand as they are -/
def sSame (ir : Instr) : Bool := match ir with
  | .iadd => true | .isub => true | .imul => true | .iand => true | .ior => true | .ixor => true | .ishl => true | .ishr => true | .iushr => true | .irem => true | .ineg => true | .i2b => true | .l2i => true | .i2l => true | .lneg => true
  | .ladd => true | .lsub => true | .lmul => true | .lor => true | .lshr => true | .lushr => true | .ldiv => true | .lrem => true | .lcmp => true | .dup => true | .dup2 => true
  | .iaload => true | .baload => true | .laload => true | .aaload => true | .iastore => true | .bastore => true | .lastore => true | .arraylength => true | .return_ => true | .ireturn => true | .lreturn => true | .areturn => true
  | _ => false
def sActB (own : String) (pc : Nat) (ir : Instr) (aux : Nat) (act : Instr) (len : Nat) : Bool := match ir with
  | .ldc v => match act with
    | .iconst n => decide (len = 1) && decide (Int32.ofInt n = Int32.ofNat v)
    | .bipush n => decide (len = 2) && decide ((Int8.ofInt n).toInt32 = Int32.ofNat v)
    | .sipush n => decide (len = 3) && decide ((Int16.ofInt n).toInt32 = Int32.ofNat v)
    | .ldc i => decide (len = 2) && sTw aux (.constant own i (Int32.ofNat v))
    | .ldc_w i => decide (len = 3) && sTw aux (.constant own i (Int32.ofNat v))
    | _ => false
  | .ldc2_w v => match act with
    | .lconst n => decide (len = 1) && decide (Int64.ofNat (n : Nat) = Int64.ofNat v)
    | .ldc2_w i => decide (len = 3) && sTw aux (.constantLong own i (Int64.ofNat v))
    | _ => false
  | .iload i => match act with
    | .iload_n k => decide (len = 1) && decide ((k : Nat) = i)
    | .iload j => decide (len = 2) && decide (j = i)
    | _ => false
  | .lload i => match act with
    | .lload_n k => decide (len = 1) && decide ((k : Nat) = i)
    | .lload j => decide (len = 2) && decide (j = i)
    | _ => false
  | .aload i => match act with
    | .aload_n k => decide (len = 1) && decide ((k : Nat) = i)
    | .aload j => decide (len = 2) && decide (j = i)
    | _ => false
  | .istore i => match act with
    | .istore_n k => decide (len = 1) && decide ((k : Nat) = i)
    | .istore j => decide (len = 2) && decide (j = i)
    | _ => false
  | .lstore i => match act with
    | .lstore_n k => decide (len = 1) && decide ((k : Nat) = i)
    | .lstore j => decide (len = 2) && decide (j = i)
    | _ => false
  | .astore i => match act with
    | .astore_n k => decide (len = 1) && decide ((k : Nat) = i)
    | .astore j => decide (len = 2) && decide (j = i)
    | _ => false
  | .iinc i n => match act with
    | .iinc j n0 => decide (len = 3) && (decide (j = i) && (decide (n = Int.ofNat n.toNat) && decide (Int32.ofInt n0 = Int32.ofNat n.toNat)))
    | _ => false
  | .goto t => match act with
    | .goto off => decide (len = 3) && (decide (t = Int.ofNat t.toNat) && decide ((pc : Int) + off = t))
    | _ => false
  | .ifCond cn t => match act with
    | .ifCond cm off => decide (len = 3) && (decide (cm = cn) && (decide (t = Int.ofNat t.toNat) && decide ((pc : Int) + off = t)))
    | _ => false
  | .if_icmp cn t => match act with
    | .if_icmp cm off => decide (len = 3) && (decide (cm = cn) && (decide (t = Int.ofNat t.toNat) && decide ((pc : Int) + off = t)))
    | _ => false
  | .lookupswitch d ps => match act with
    | .lookupswitch dflt ps0 => decide (d = Int.ofNat d.toNat) && ((ps0.toList.zip (ps0.toList.drop 1)).all (fun (a, next) => a.1 < next.1) && (sPs pc ps0.toList ps.toList && decide ((pc : Int) + dflt = d)))
    | .tableswitch dflt lo hi offs => decide (d = Int.ofNat d.toNat) && (decide (lo + offs.toList.length = hi + 1) && (sPs pc (sTab lo offs.toList) ps.toList && decide ((pc : Int) + dflt = d)))
    | _ => false
  | .getfield n => match act with
    | .getfield idx => decide (len = 3) && sLinkB own idx n aux
    | _ => false
  | .putfield n => match act with
    | .putfield idx => decide (len = 3) && sLinkPB own idx n aux .int
    | _ => false
  | .putstatic n => match act with
    | .putfield idx => decide (len = 3) && sLinkPB own idx n aux .boolean
    | _ => false
  | .instanceof n => match act with
    | .putfield idx => decide (len = 3) && sLinkPB own idx n aux .long
    | _ => false
  | .getstatic j => match act with
    | .getstatic idx => decide (len = 3) && ((decide (j = 0) && sTw aux (.fieldLink own idx "SwapTables$Partitions" "BEGIN" "[I")) || (decide (j = 1) && sTw aux (.fieldLink own idx "SwapTables$Partitions" "CODES" "[I")))
    | _ => false
  | .invokedynamic j => match act with
    | .invokestatic idx => decide (len = 3) && ((decide (j = 0) && sTw aux (.methodLink own idx arraycopyName)) || (decide (j = 1) && sTw aux (.methodLink own idx Lib.MathLoose.abs_long.x)))
    | _ => false
  | .invokestatic k => match act with
    | .invokestatic idx => decide (len = 3) && (sLinkMB own idx aux (MI k).1 && decide ((PG k).2.2.2.1 = 99))
    | _ => false
  | .invokevirtual k => match act with
    | .invokevirtual idx => decide (len = 3) && (sLinkMB own idx aux (MI k).1 && decide ((PG k).2.2.2.1 ≠ 99))
    | _ => false
  | _ => sSame ir && (decide (act = ir) && decide (len = 1))
def sRelB (own : String) (cc : ByteArray) (q : sIn) : Bool := match q with
  | (pc, ir, nx, aux) => match decide (ir = .nop) with
    | true => true
    | false => match decode cc pc with
      | .ok (act, len) => decide (nx = pc + len) && sActB own pc ir aux act len
      | .error _ => false
set_option maxHeartbeats 4000000 in
theorem sRelB_ok {own : String} {cc : ByteArray} {q : sIn} (h : sRelB own cc q = true) : sRel MI PG own cc q := by
  obtain ⟨pc, ir, nx, aux⟩ := q
  cases h0 : decide (ir = Instr.nop) with
  | true =>
    have h1 : ir = .nop := of_decide_eq_true h0
    subst h1
    trivial
  | false =>
    unfold sRelB at h
    simp only [h0] at h
    split at h
    · rename_i act len hd
      simp only [Bool.and_eq_true, decide_eq_true_eq] at h
      obtain ⟨hn, h⟩ := h
      subst hn
      cases ir
      all_goals dsimp only [sActB] at h
      all_goals first
        | (simp only [sSame, Bool.and_eq_true, decide_eq_true_eq, Bool.false_eq_true, false_and] at h; done)
        | (simp only [sSame, Bool.and_eq_true, decide_eq_true_eq, true_and] at h
           obtain ⟨h1, h2⟩ := h
           subst h1 h2
           first | exact hd | exact ⟨hd, rfl⟩)
        | skip
      case ldc v =>
        split at h <;> simp only [Bool.and_eq_true, decide_eq_true_eq, Bool.false_eq_true] at h
        · exact Or.inl ⟨_, by rw [hd, h.1], by rw [h.1], h.2⟩
        · exact Or.inr (Or.inl ⟨_, by rw [hd, h.1], by rw [h.1], h.2⟩)
        · exact Or.inr (Or.inr (Or.inl ⟨_, by rw [hd, h.1], by rw [h.1], h.2⟩))
        · exact Or.inr (Or.inr (Or.inr (Or.inl ⟨_, by rw [hd, h.1], by rw [h.1], sTw_ok h.2⟩)))
        · exact Or.inr (Or.inr (Or.inr (Or.inr ⟨_, by rw [hd, h.1], by rw [h.1], sTw_ok h.2⟩)))
      case ldc2_w v =>
        split at h <;> simp only [Bool.and_eq_true, decide_eq_true_eq, Bool.false_eq_true] at h
        · exact Or.inl ⟨_, by rw [hd, h.1], by rw [h.1], h.2⟩
        · exact Or.inr ⟨_, by rw [hd, h.1], by rw [h.1], sTw_ok h.2⟩
      case iload i =>
        split at h <;> simp only [Bool.and_eq_true, decide_eq_true_eq, Bool.false_eq_true] at h
        · exact Or.inl ⟨_, by rw [hd, h.1], by rw [h.1], h.2⟩
        · exact Or.inr ⟨by rw [hd, h.1, h.2], by rw [h.1]⟩
      case lload i =>
        split at h <;> simp only [Bool.and_eq_true, decide_eq_true_eq, Bool.false_eq_true] at h
        · exact Or.inl ⟨_, by rw [hd, h.1], by rw [h.1], h.2⟩
        · exact Or.inr ⟨by rw [hd, h.1, h.2], by rw [h.1]⟩
      case aload i =>
        split at h <;> simp only [Bool.and_eq_true, decide_eq_true_eq, Bool.false_eq_true] at h
        · exact Or.inl ⟨_, by rw [hd, h.1], by rw [h.1], h.2⟩
        · exact Or.inr ⟨by rw [hd, h.1, h.2], by rw [h.1]⟩
      case istore i =>
        split at h <;> simp only [Bool.and_eq_true, decide_eq_true_eq, Bool.false_eq_true] at h
        · exact Or.inl ⟨_, by rw [hd, h.1], by rw [h.1], h.2⟩
        · exact Or.inr ⟨by rw [hd, h.1, h.2], by rw [h.1]⟩
      case lstore i =>
        split at h <;> simp only [Bool.and_eq_true, decide_eq_true_eq, Bool.false_eq_true] at h
        · exact Or.inl ⟨_, by rw [hd, h.1], by rw [h.1], h.2⟩
        · exact Or.inr ⟨by rw [hd, h.1, h.2], by rw [h.1]⟩
      case astore i =>
        split at h <;> simp only [Bool.and_eq_true, decide_eq_true_eq, Bool.false_eq_true] at h
        · exact Or.inl ⟨_, by rw [hd, h.1], by rw [h.1], h.2⟩
        · exact Or.inr ⟨by rw [hd, h.1, h.2], by rw [h.1]⟩
      case iinc i n =>
        split at h <;> simp only [Bool.and_eq_true, decide_eq_true_eq, Bool.false_eq_true] at h
        exact ⟨_, _, h.2.2.1, by rw [hd, h.1, h.2.1], by rw [h.1], h.2.2.2⟩
      case goto t =>
        split at h <;> simp only [Bool.and_eq_true, decide_eq_true_eq, Bool.false_eq_true] at h
        exact ⟨_, _, h.2.1, by rw [hd, h.1], h.2.2⟩
      case ifCond cn t =>
        split at h <;> simp only [Bool.and_eq_true, decide_eq_true_eq, Bool.false_eq_true] at h
        exact ⟨_, _, h.2.2.1, by rw [hd, h.1, h.2.1], by rw [h.1], h.2.2.2⟩
      case if_icmp cn t =>
        split at h <;> simp only [Bool.and_eq_true, decide_eq_true_eq, Bool.false_eq_true] at h
        exact ⟨_, _, h.2.2.1, by rw [hd, h.1, h.2.1], by rw [h.1], h.2.2.2⟩
      case lookupswitch d ps =>
        split at h
        · simp only [Bool.and_eq_true, decide_eq_true_eq] at h
          exact Or.inl ⟨_, _, _, _, h.1, hd, h.2.1, h.2.2.1, h.2.2.2⟩
        · simp only [Bool.and_eq_true, decide_eq_true_eq] at h
          exact Or.inr ⟨_, _, _, _, _, _, h.1, hd, h.2.1, h.2.2.1, h.2.2.2⟩
        · cases h
      case getfield n =>
        split at h <;> simp only [Bool.and_eq_true, decide_eq_true_eq, Bool.false_eq_true] at h
        exact ⟨_, by rw [hd, h.1], by rw [h.1], sLinkB_ok h.2⟩
      case putfield n =>
        split at h <;> simp only [Bool.and_eq_true, decide_eq_true_eq, Bool.false_eq_true] at h
        exact ⟨_, by rw [hd, h.1], by rw [h.1], sLinkPB_ok h.2⟩
      case putstatic n =>
        split at h <;> simp only [Bool.and_eq_true, decide_eq_true_eq, Bool.false_eq_true] at h
        exact ⟨_, by rw [hd, h.1], by rw [h.1], sLinkPB_ok h.2⟩
      case instanceof n =>
        split at h <;> simp only [Bool.and_eq_true, decide_eq_true_eq, Bool.false_eq_true] at h
        exact ⟨_, by rw [hd, h.1], by rw [h.1], sLinkPB_ok h.2⟩
      case getstatic j =>
        split at h <;> simp only [Bool.and_eq_true, decide_eq_true_eq, Bool.false_eq_true, Bool.or_eq_true] at h
        exact ⟨_, by rw [hd, h.1], by rw [h.1], h.2.imp (fun q => ⟨q.1, sTw_ok q.2⟩) (fun q => ⟨q.1, sTw_ok q.2⟩)⟩
      case invokedynamic j =>
        split at h <;> simp only [Bool.and_eq_true, decide_eq_true_eq, Bool.false_eq_true, Bool.or_eq_true] at h
        exact ⟨_, by rw [hd, h.1], by rw [h.1], h.2.imp (fun q => ⟨q.1, sTw_ok q.2⟩) (fun q => ⟨q.1, sTw_ok q.2⟩)⟩
      case invokestatic k =>
        split at h <;> simp only [Bool.and_eq_true, decide_eq_true_eq, Bool.false_eq_true] at h
        exact ⟨_, by rw [hd, h.1], by rw [h.1], sLinkMB_ok h.2.1, h.2.2⟩
      case invokevirtual k =>
        split at h <;> simp only [Bool.and_eq_true, decide_eq_true_eq, Bool.false_eq_true] at h
        exact ⟨_, by rw [hd, h.1], by rw [h.1], sLinkMB_ok h.2.1, h.2.2⟩
    · cases h
noncomputable def sAllR {α : Type} (P : α → Bool) (t : Lean.RArray α) : Bool := Lean.RArray.rec (motive := fun _ => Bool) P (fun _ _ _ a b => Bool.and a b) t
theorem sAllR_ok {α : Type} {P : α → Bool} (t : Lean.RArray α) (h : sAllR P t = true) (k : Nat) : P (t.get k) = true := by
  induction t with
  | leaf a => exact h
  | branch q a b iha ihb =>
    have h2 : Bool.and (sAllR P a) (sAllR P b) = true := h
    rw [Bool.and_eq_true] at h2
    show P (Bool.rec (a.get k) (b.get k) (Nat.ble q k)) = true
    cases Nat.ble q k with
    | true => exact ihb h2.2
    | false => exact iha h2.1
theorem sAll_l {α : Type} {P : α → Bool} {a : α} (h : P a = true) : ∀ k, P ((Lean.RArray.leaf a).get k) = true := fun _ => h
theorem sAll_b {α : Type} {P : α → Bool} {q : Nat} {a b : Lean.RArray α} (ha : ∀ k, P (a.get k) = true) (hb : ∀ k, P (b.get k) = true) : ∀ k, P ((Lean.RArray.branch q a b).get k) = true := fun k => by
  show P (Bool.rec (a.get k) (b.get k) (Nat.ble q k)) = true
  cases Nat.ble q k with
  | true => exact hb k
  | false => exact ha k
def sMokB (me : sMe) (mi : sMi) (t : Nat × Nat × Nat × Nat) : Bool := sTw t.1 (.code mi.1 mi.2.1 mi.2.2.1 mi.2.2.2) && (sTw t.2.1 (.initialized mi.1.cls) && (decide (mi.1.cls ≠ "java/lang/invoke/MethodHandle" ∧ mi.1.cls ≠ "java/lang/invoke/VarHandle") && (plainName mi.1.cls && (decide (me.2.1 = mi.2.2.1) && (decide (mi.2.2.1 + 19 ≤ 64) &&
  (((decide (me.2.2.2.1 = 99) && (sTw t.2.2.1 (.static mi.1) && decide ((parseMethodDescriptor mi.1.desc).map (fun d => d.parameters.length) = some me.2.2.1))) ||
   (decide (me.2.2.2.1 ≠ 99) && (sTw t.2.2.1 (.instanceMethod mi.1) && (sTw t.2.2.2 (.selects mi.1.cls mi.1 mi.1) && (decide ((vwCl[me.2.2.2.1]?).map (fun q => q.1) = some mi.1.cls) && decide ((parseMethodDescriptor mi.1.desc).map (fun d => d.parameters.length + 1) = some me.2.2.1)))))) &&
  ((decide (me.2.2.2.2 = 0) && decide (mi.2.2.2 = none)) || ((decide (me.2.2.2.2 = 1) && decide (mi.2.2.2 = some .int)) || ((decide (me.2.2.2.2 = 2) && decide (mi.2.2.2 = some .boolean)) || ((decide (me.2.2.2.2 = 3) && decide (mi.2.2.2 = some .long)) || (decide (me.2.2.2.2 = 4) && (match mi.2.2.2 with
    | some (.object _) => true
    | some (.array _) => true
    | _ => false))))))))))))
noncomputable def sCk (q : sMe × sMi × (Nat × Nat × Nat × Nat)) : Bool := sMokB q.1 q.2.1 q.2.2 && sAllR (sRelB q.2.1.1.cls q.2.1.2.1) q.1.1
theorem sMokB_ok {me : sMe} {mi : sMi} {t : Nat × Nat × Nat × Nat} (h : sMokB me mi t = true) : sMok me mi := by
  simp only [sMokB, Bool.and_eq_true, Bool.or_eq_true, decide_eq_true_eq] at h
  obtain ⟨h1, h2, h3, h4, h5, h6, h7, h8⟩ := h
  refine ⟨sTw_ok h1, sTw_ok h2, h3, h4, h5, h6, ?_, ?_⟩
  · rcases h7 with ⟨a, b, c⟩ | ⟨a, b, c, d, e⟩
    · exact Or.inl ⟨a, sTw_ok b, c⟩
    · refine Or.inr ⟨a, sTw_ok b, sTw_ok c, ?_, ?_⟩
      · obtain ⟨⟨C, T, N⟩, q1, q2⟩ := Option.map_eq_some_iff.mp d
        exact ⟨T, N, by rw [q1, ← q2]⟩
      · obtain ⟨q, q1, q2⟩ := Option.map_eq_some_iff.mp e
        exact ⟨q.parameters.length, by rw [q1]; rfl, q2.symm⟩
  · rcases h8 with h | h | h | h | ⟨h, g⟩
    · exact Or.inl h
    · exact Or.inr (Or.inl h)
    · exact Or.inr (Or.inr (Or.inl h))
    · exact Or.inr (Or.inr (Or.inr (Or.inl h)))
    · refine Or.inr (Or.inr (Or.inr (Or.inr ⟨h, ?_⟩)))
      split at g
      · rename_i n q
        exact ⟨_, q, Or.inl ⟨n, rfl⟩⟩
      · rename_i n q
        exact ⟨_, q, Or.inr ⟨n, rfl⟩⟩
      · cases g
theorem sCk_ok {k : Nat} (h : sCk (PMt.get k) = true) : sMok (PG k) (MI k) ∧ ∀ pc, sRel MI PG (MI k).1.cls (MI k).2.1 ((PG k).1.get pc) := by
  unfold sCk at h
  rw [Bool.and_eq_true] at h
  exact ⟨sMokB_ok h.1, fun pc => sRelB_ok (sAllR_ok _ h.2 pc)⟩
end
section
/-! 14: the program is what the class files have (by wip/whole/gen.py) -/
theorem ck_pm_1 : sCk pm_1 = true := by decide +kernel
theorem ck_pm_2 : sCk pm_2 = true := by decide +kernel
theorem ck_pm_3 : sCk pm_3 = true := by decide +kernel
theorem ck_pm_4 : sCk pm_4 = true := by decide +kernel
theorem ck_pm_6 : sCk pm_6 = true := by decide +kernel
theorem ck_pm_7 : sCk pm_7 = true := by decide +kernel
theorem ck_pm_8 : sCk pm_8 = true := by decide +kernel
theorem ck_pm_9 : sCk pm_9 = true := by decide +kernel
theorem ck_pm_10 : sCk pm_10 = true := by decide +kernel
theorem ck_pm_11 : sCk pm_11 = true := by decide +kernel
theorem ck_pm_12 : sCk pm_12 = true := by decide +kernel
theorem ck_pm_13 : sCk pm_13 = true := by decide +kernel
theorem ck_pm_14 : sCk pm_14 = true := by decide +kernel
theorem ck_pm_15 : sCk pm_15 = true := by decide +kernel
theorem ck_pm_16 : sCk pm_16 = true := by decide +kernel
theorem ck_pm_17 : sCk pm_17 = true := by decide +kernel
theorem ck_pm_18 : sCk pm_18 = true := by decide +kernel
theorem ck_pm_19 : sCk pm_19 = true := by decide +kernel
theorem ck_pm_20 : sCk pm_20 = true := by decide +kernel
theorem ck_pm_21 : sCk pm_21 = true := by decide +kernel
theorem ck_pm_22 : sCk pm_22 = true := by decide +kernel
theorem ck_pm_23 : sCk pm_23 = true := by decide +kernel
theorem ck_pm_24 : sCk pm_24 = true := by decide +kernel
theorem ck_pm_26 : sCk pm_26 = true := by decide +kernel
theorem ck_pm_27 : sCk pm_27 = true := by decide +kernel
theorem ck_pm_28 : sCk pm_28 = true := by decide +kernel
theorem ck_pm_29 : sCk pm_29 = true := by decide +kernel
theorem ck_pm_30 : sCk pm_30 = true := by decide +kernel
theorem ck_pm_31 : sCk pm_31 = true := by decide +kernel
theorem ck_pm_32 : sCk pm_32 = true := by decide +kernel
theorem ck_pm_33 : sCk pm_33 = true := by decide +kernel
theorem ck_pm_34 : sCk pm_34 = true := by decide +kernel
theorem ck_pm_35 : sCk pm_35 = true := by decide +kernel
theorem ck_pm_36 : sCk pm_36 = true := by decide +kernel
theorem ck_pm_37 : sCk pm_37 = true := by decide +kernel
theorem ck_pm_38 : sCk pm_38 = true := by decide +kernel
theorem ck_pm_39 : sCk pm_39 = true := by decide +kernel
theorem ck_pm_40 : sCk pm_40 = true := by decide +kernel
theorem ck_pm_42 : sCk pm_42 = true := by decide +kernel
theorem ck_pm_43 : sCk pm_43 = true := by decide +kernel
theorem ck_pm_44 : sCk pm_44 = true := by decide +kernel
theorem ck_pm_45 : sCk pm_45 = true := by decide +kernel
theorem ck_pm_47 : sCk pm_47 = true := by decide +kernel
theorem ck_pm_48 : sCk pm_48 = true := by decide +kernel
theorem ck_pm_49 : sCk pm_49 = true := by decide +kernel
theorem ck_pm_50 : sCk pm_50 = true := by decide +kernel
theorem ck_pm_51 : sCk pm_51 = true := by decide +kernel
theorem ck_pm_52 : sCk pm_52 = true := by decide +kernel
theorem ck_pm_53 : sCk pm_53 = true := by decide +kernel
theorem ck_pm_54 : sCk pm_54 = true := by decide +kernel
theorem ck_pm_55 : sCk pm_55 = true := by decide +kernel
theorem ck_pm_56 : sCk pm_56 = true := by decide +kernel
theorem ck_pm_57 : sCk pm_57 = true := by decide +kernel
theorem ck_pm_58 : sCk pm_58 = true := by decide +kernel
theorem ck_pm_59 : sCk pm_59 = true := by decide +kernel
theorem ck_pm_60 : sCk pm_60 = true := by decide +kernel
theorem ck_pm_61 : sCk pm_61 = true := by decide +kernel
theorem ck_pm_62 : sCk pm_62 = true := by decide +kernel
theorem ck_pm_63 : sCk pm_63 = true := by decide +kernel
theorem ck_pm_64 : sCk pm_64 = true := by decide +kernel
end
section
/-! 14: the program is what the class files have (by wip/whole/gen.py) -/
theorem ck_pm_65 : sCk pm_65 = true := by decide +kernel
theorem ck_pm_68 : sCk pm_68 = true := by decide +kernel
theorem ck_pm_69 : sCk pm_69 = true := by decide +kernel
theorem ck_pm_70 : sCk pm_70 = true := by decide +kernel
theorem ck_pm_72 : sCk pm_72 = true := by decide +kernel
theorem ck_pm_73 : sCk pm_73 = true := by decide +kernel
theorem ck_pm_74 : sCk pm_74 = true := by decide +kernel
theorem ck_pm_77 : sCk pm_77 = true := by decide +kernel
theorem ck_pm_78 : sCk pm_78 = true := by decide +kernel
theorem ck_pm_80 : sCk pm_80 = true := by decide +kernel
theorem ck_pm_81 : sCk pm_81 = true := by decide +kernel
theorem ck_pm_82 : sCk pm_82 = true := by decide +kernel
theorem ck_pm_83 : sCk pm_83 = true := by decide +kernel
theorem ck_pm_84 : sCk pm_84 = true := by decide +kernel
theorem ck_pm_85 : sCk pm_85 = true := by decide +kernel
theorem ck_pm_86 : sCk pm_86 = true := by decide +kernel
theorem ck_pm_88 : sCk pm_88 = true := by decide +kernel
theorem ck_pm_89 : sCk pm_89 = true := by decide +kernel
theorem ck_pm_90 : sCk pm_90 = true := by decide +kernel
theorem ck_pm_91 : sCk pm_91 = true := by decide +kernel
theorem ck_pm_92 : sCk pm_92 = true := by decide +kernel
theorem ck_pm_93 : sCk pm_93 = true := by decide +kernel
theorem ck_pm_94 : sCk pm_94 = true := by decide +kernel
theorem ck_pm_95 : sCk pm_95 = true := by decide +kernel
theorem ck_pm_96 : sCk pm_96 = true := by decide +kernel
theorem ck_pm_97 : sCk pm_97 = true := by decide +kernel
theorem ck_pm_98 : sCk pm_98 = true := by decide +kernel
theorem ck_pm_99 : sCk pm_99 = true := by decide +kernel
theorem ck_pm_100 : sCk pm_100 = true := by decide +kernel
theorem ck_pm_101 : sCk pm_101 = true := by decide +kernel
theorem ck_pm_102 : sCk pm_102 = true := by decide +kernel
theorem ck_pm_103 : sCk pm_103 = true := by decide +kernel
theorem ck_pm_104 : sCk pm_104 = true := by decide +kernel
theorem ck_pm_105 : sCk pm_105 = true := by decide +kernel
theorem ck_pm_106 : sCk pm_106 = true := by decide +kernel
theorem ck_pm_107 : sCk pm_107 = true := by decide +kernel
theorem ck_pm_108 : sCk pm_108 = true := by decide +kernel
theorem ck_pm_109 : sCk pm_109 = true := by decide +kernel
theorem ck_pm_110 : sCk pm_110 = true := by decide +kernel
theorem ck_pm_111 : sCk pm_111 = true := by decide +kernel
theorem ck_pm_112 : sCk pm_112 = true := by decide +kernel
theorem ck_pm_113 : sCk pm_113 = true := by decide +kernel
theorem ck_pm_114 : sCk pm_114 = true := by decide +kernel
theorem ck_pm_115 : sCk pm_115 = true := by decide +kernel
theorem ck_pm_116 : sCk pm_116 = true := by decide +kernel
theorem ck_pm_117 : sCk pm_117 = true := by decide +kernel
theorem ck_pm_118 : sCk pm_118 = true := by decide +kernel
theorem ck_pm_119 : sCk pm_119 = true := by decide +kernel
theorem ck_pm_120 : sCk pm_120 = true := by decide +kernel
theorem ck_pm_121 : sCk pm_121 = true := by decide +kernel
theorem ck_pm_122 : sCk pm_122 = true := by decide +kernel
theorem ck_pm_123 : sCk pm_123 = true := by decide +kernel
theorem ck_pm_124 : sCk pm_124 = true := by decide +kernel
theorem ck_pm_125 : sCk pm_125 = true := by decide +kernel
theorem ck_pm_126 : sCk pm_126 = true := by decide +kernel
theorem ck_pm_127 : sCk pm_127 = true := by decide +kernel
theorem ck_pm_128 : sCk pm_128 = true := by decide +kernel
theorem ck_pm_129 : sCk pm_129 = true := by decide +kernel
theorem ck_pm_130 : sCk pm_130 = true := by decide +kernel
theorem ck_pm_131 : sCk pm_131 = true := by decide +kernel
end
section
/-! 14: the program is what the class files have (by wip/whole/gen.py) -/
theorem ck_pm_132 : sCk pm_132 = true := by decide +kernel
theorem ck_pm_133 : sCk pm_133 = true := by decide +kernel
theorem ck_pm_134 : sCk pm_134 = true := by decide +kernel
theorem ck_pm_135 : sCk pm_135 = true := by decide +kernel
theorem ck_pm_136 : sCk pm_136 = true := by decide +kernel
theorem ck_pm_137 : sCk pm_137 = true := by decide +kernel
theorem ck_pm_138 : sCk pm_138 = true := by decide +kernel
theorem ck_pm_140 : sCk pm_140 = true := by decide +kernel
theorem ck_pm_141 : sCk pm_141 = true := by decide +kernel
theorem ck_pm_142 : sCk pm_142 = true := by decide +kernel
theorem ck_pm_143 : sCk pm_143 = true := by decide +kernel
theorem ck_pm_144 : sCk pm_144 = true := by decide +kernel
theorem ck_pm_145 : sCk pm_145 = true := by decide +kernel
theorem ck_pm_146 : sCk pm_146 = true := by decide +kernel
theorem ck_pm_147 : sCk pm_147 = true := by decide +kernel
theorem ck_pm_148 : sCk pm_148 = true := by decide +kernel
theorem ck_pm_149 : sCk pm_149 = true := by decide +kernel
theorem ck_pm_150 : sCk pm_150 = true := by decide +kernel
theorem ck_pm_151 : sCk pm_151 = true := by decide +kernel
theorem ck_pm_152 : sCk pm_152 = true := by decide +kernel
theorem ck_pm_153 : sCk pm_153 = true := by decide +kernel
theorem ck_pm_154 : sCk pm_154 = true := by decide +kernel
theorem ck_pm_155 : sCk pm_155 = true := by decide +kernel
theorem ck_pm_156 : sCk pm_156 = true := by decide +kernel
theorem ck_pm_157 : sCk pm_157 = true := by decide +kernel
theorem ck_pm_158 : sCk pm_158 = true := by decide +kernel
theorem ck_pm_159 : sCk pm_159 = true := by decide +kernel
theorem ck_pm_160 : sCk pm_160 = true := by decide +kernel
theorem ck_pm_161 : sCk pm_161 = true := by decide +kernel
theorem ck_pm_162 : sCk pm_162 = true := by decide +kernel
theorem ck_pm_163 : sCk pm_163 = true := by decide +kernel
theorem ck_pm_164 : sCk pm_164 = true := by decide +kernel
theorem ck_pm_165 : sCk pm_165 = true := by decide +kernel
theorem ck_pm_166 : sCk pm_166 = true := by decide +kernel
theorem ck_pm_167 : sCk pm_167 = true := by decide +kernel
theorem ck_pm_168 : sCk pm_168 = true := by decide +kernel
theorem ck_pm_169 : sCk pm_169 = true := by decide +kernel
theorem ck_pm_170 : sCk pm_170 = true := by decide +kernel
theorem ck_pm_171 : sCk pm_171 = true := by decide +kernel
theorem ck_pm_172 : sCk pm_172 = true := by decide +kernel
theorem ck_pm_173 : sCk pm_173 = true := by decide +kernel
theorem ck_pm_174 : sCk pm_174 = true := by decide +kernel
theorem ck_pm_175 : sCk pm_175 = true := by decide +kernel
theorem ck_pm_176 : sCk pm_176 = true := by decide +kernel
theorem ck_pm_177 : sCk pm_177 = true := by decide +kernel
theorem ck_pm_178 : sCk pm_178 = true := by decide +kernel
theorem ck_pm_179 : sCk pm_179 = true := by decide +kernel
theorem ck_pm_180 : sCk pm_180 = true := by decide +kernel
theorem ck_pm_181 : sCk pm_181 = true := by decide +kernel
theorem ck_pm_182 : sCk pm_182 = true := by decide +kernel
theorem ck_pm_183 : sCk pm_183 = true := by decide +kernel
theorem ck_pm_184 : sCk pm_184 = true := by decide +kernel
theorem ck_pm_185 : sCk pm_185 = true := by decide +kernel
theorem ck_pm_186 : sCk pm_186 = true := by decide +kernel
theorem ck_pm_187 : sCk pm_187 = true := by decide +kernel
theorem ck_pm_188 : sCk pm_188 = true := by decide +kernel
theorem ck_pm_189 : sCk pm_189 = true := by decide +kernel
theorem ck_pm_190 : sCk pm_190 = true := by decide +kernel
theorem ck_pm_191 : sCk pm_191 = true := by decide +kernel
theorem ck_pm_192 : sCk pm_192 = true := by decide +kernel
end
section
/-! 14: the program is what the class files have (by wip/whole/gen.py) -/
theorem ck_pm_193 : sCk pm_193 = true := by decide +kernel
theorem ck_pm_194 : sCk pm_194 = true := by decide +kernel
theorem ck_pm_195 : sCk pm_195 = true := by decide +kernel
theorem ck_pm_196 : sCk pm_196 = true := by decide +kernel
theorem ck_pm_197 : sCk pm_197 = true := by decide +kernel
theorem ck_pm_198 : sCk pm_198 = true := by decide +kernel
theorem ck_pm_199 : sCk pm_199 = true := by decide +kernel
theorem ck_pm_200 : sCk pm_200 = true := by decide +kernel
theorem ck_pm_201 : sCk pm_201 = true := by decide +kernel
theorem ck_pm_202 : sCk pm_202 = true := by decide +kernel
theorem ck_pm_203 : sCk pm_203 = true := by decide +kernel
theorem ck_pm_204 : sCk pm_204 = true := by decide +kernel
theorem ck_pm_205 : sCk pm_205 = true := by decide +kernel
theorem ck_pm_206 : sCk pm_206 = true := by decide +kernel
theorem ck_pm_207 : sCk pm_207 = true := by decide +kernel
theorem ck_pm_208 : sCk pm_208 = true := by decide +kernel
theorem ck_pm_209 : sCk pm_209 = true := by decide +kernel
theorem ck_pm_210 : sCk pm_210 = true := by decide +kernel
theorem ck_pm_211 : sCk pm_211 = true := by decide +kernel
theorem ck_pm_212 : sCk pm_212 = true := by decide +kernel
theorem ck_pm_213 : sCk pm_213 = true := by decide +kernel
theorem ck_pm_214 : sCk pm_214 = true := by decide +kernel
theorem ck_pm_215 : sCk pm_215 = true := by decide +kernel
theorem ck_pm_216 : sCk pm_216 = true := by decide +kernel
theorem ck_pm_217 : sCk pm_217 = true := by decide +kernel
theorem ck_pm_218 : sCk pm_218 = true := by decide +kernel
theorem ck_pm_219 : sCk pm_219 = true := by decide +kernel
theorem ck_pm_220 : sCk pm_220 = true := by decide +kernel
theorem ck_pm_221 : sCk pm_221 = true := by decide +kernel
theorem ck_pm_222 : sCk pm_222 = true := by decide +kernel
theorem ck_pm_223 : sCk pm_223 = true := by decide +kernel
theorem ck_pm_224 : sCk pm_224 = true := by decide +kernel
theorem ck_pm_225 : sCk pm_225 = true := by decide +kernel
theorem ck_pm_226 : sCk pm_226 = true := by decide +kernel
theorem ck_pm_227 : sCk pm_227 = true := by decide +kernel
theorem ck_pm_228 : sCk pm_228 = true := by decide +kernel
theorem ck_pm_229 : sCk pm_229 = true := by decide +kernel
theorem ck_pm_230 : sCk pm_230 = true := by decide +kernel
theorem ck_pm_231 : sCk pm_231 = true := by decide +kernel
theorem ck_pm_232 : sCk pm_232 = true := by decide +kernel
theorem ck_pmD : sCk pmD = true := by decide +kernel
end
section
/-! 15: so the program is good -/
theorem pm_all : ∀ k, sCk (PMt.get k) = true := (sAll_b (sAll_b (sAll_b (sAll_b (sAll_b (sAll_b (sAll_b (sAll_l ck_pmD) (sAll_b (sAll_l ck_pm_1) (sAll_l ck_pm_2))) (sAll_b (sAll_b (sAll_l ck_pm_3) (sAll_l ck_pm_4)) (sAll_b (sAll_l ck_pmD) (sAll_l ck_pm_6)))) (sAll_b (sAll_b (sAll_l ck_pm_7) (sAll_b (sAll_l ck_pm_8) (sAll_l ck_pm_9))) (sAll_b (sAll_b (sAll_l ck_pm_10) (sAll_l ck_pm_11)) (sAll_b (sAll_l ck_pm_12) (sAll_l ck_pm_13))))) (sAll_b (sAll_b (sAll_b (sAll_l ck_pm_14) (sAll_b (sAll_l ck_pm_15) (sAll_l ck_pm_16))) (sAll_b (sAll_b (sAll_l ck_pm_17) (sAll_l ck_pm_18)) (sAll_b (sAll_l ck_pm_19) (sAll_l ck_pm_20)))) (sAll_b (sAll_b (sAll_b (sAll_l ck_pm_21) (sAll_l ck_pm_22)) (sAll_b (sAll_l ck_pm_23) (sAll_l ck_pm_24))) (sAll_b (sAll_b (sAll_l ck_pmD) (sAll_l ck_pm_26)) (sAll_b (sAll_l ck_pm_27) (sAll_l ck_pm_28)))))) (sAll_b (sAll_b (sAll_b (sAll_b (sAll_l ck_pm_29) (sAll_b (sAll_l ck_pm_30) (sAll_l ck_pm_31))) (sAll_b (sAll_b (sAll_l ck_pm_32) (sAll_l ck_pm_33)) (sAll_b (sAll_l ck_pm_34) (sAll_l ck_pm_35)))) (sAll_b (sAll_b (sAll_l ck_pm_36) (sAll_b (sAll_l ck_pm_37) (sAll_l ck_pm_38))) (sAll_b (sAll_b (sAll_l ck_pm_39) (sAll_l ck_pm_40)) (sAll_b (sAll_l ck_pmD) (sAll_l ck_pm_42))))) (sAll_b (sAll_b (sAll_b (sAll_l ck_pm_43) (sAll_b (sAll_l ck_pm_44) (sAll_l ck_pm_45))) (sAll_b (sAll_b (sAll_l ck_pmD) (sAll_l ck_pm_47)) (sAll_b (sAll_l ck_pm_48) (sAll_l ck_pm_49)))) (sAll_b (sAll_b (sAll_b (sAll_l ck_pm_50) (sAll_l ck_pm_51)) (sAll_b (sAll_l ck_pm_52) (sAll_l ck_pm_53))) (sAll_b (sAll_b (sAll_l ck_pm_54) (sAll_l ck_pm_55)) (sAll_b (sAll_l ck_pm_56) (sAll_l ck_pm_57))))))) (sAll_b (sAll_b (sAll_b (sAll_b (sAll_b (sAll_l ck_pm_58) (sAll_b (sAll_l ck_pm_59) (sAll_l ck_pm_60))) (sAll_b (sAll_b (sAll_l ck_pm_61) (sAll_l ck_pm_62)) (sAll_b (sAll_l ck_pm_63) (sAll_l ck_pm_64)))) (sAll_b (sAll_b (sAll_l ck_pm_65) (sAll_b (sAll_l ck_pmD) (sAll_l ck_pmD))) (sAll_b (sAll_b (sAll_l ck_pm_68) (sAll_l ck_pm_69)) (sAll_b (sAll_l ck_pm_70) (sAll_l ck_pmD))))) (sAll_b (sAll_b (sAll_b (sAll_l ck_pm_72) (sAll_b (sAll_l ck_pm_73) (sAll_l ck_pm_74))) (sAll_b (sAll_b (sAll_l ck_pmD) (sAll_l ck_pmD)) (sAll_b (sAll_l ck_pm_77) (sAll_l ck_pm_78)))) (sAll_b (sAll_b (sAll_b (sAll_l ck_pmD) (sAll_l ck_pm_80)) (sAll_b (sAll_l ck_pm_81) (sAll_l ck_pm_82))) (sAll_b (sAll_b (sAll_l ck_pm_83) (sAll_l ck_pm_84)) (sAll_b (sAll_l ck_pm_85) (sAll_l ck_pm_86)))))) (sAll_b (sAll_b (sAll_b (sAll_b (sAll_l ck_pmD) (sAll_b (sAll_l ck_pm_88) (sAll_l ck_pm_89))) (sAll_b (sAll_b (sAll_l ck_pm_90) (sAll_l ck_pm_91)) (sAll_b (sAll_l ck_pm_92) (sAll_l ck_pm_93)))) (sAll_b (sAll_b (sAll_b (sAll_l ck_pm_94) (sAll_l ck_pm_95)) (sAll_b (sAll_l ck_pm_96) (sAll_l ck_pm_97))) (sAll_b (sAll_b (sAll_l ck_pm_98) (sAll_l ck_pm_99)) (sAll_b (sAll_l ck_pm_100) (sAll_l ck_pm_101))))) (sAll_b (sAll_b (sAll_b (sAll_l ck_pm_102) (sAll_b (sAll_l ck_pm_103) (sAll_l ck_pm_104))) (sAll_b (sAll_b (sAll_l ck_pm_105) (sAll_l ck_pm_106)) (sAll_b (sAll_l ck_pm_107) (sAll_l ck_pm_108)))) (sAll_b (sAll_b (sAll_b (sAll_l ck_pm_109) (sAll_l ck_pm_110)) (sAll_b (sAll_l ck_pm_111) (sAll_l ck_pm_112))) (sAll_b (sAll_b (sAll_l ck_pm_113) (sAll_l ck_pm_114)) (sAll_b (sAll_l ck_pm_115) (sAll_l ck_pm_116)))))))) (sAll_b (sAll_b (sAll_b (sAll_b (sAll_b (sAll_b (sAll_l ck_pm_117) (sAll_b (sAll_l ck_pm_118) (sAll_l ck_pm_119))) (sAll_b (sAll_b (sAll_l ck_pm_120) (sAll_l ck_pm_121)) (sAll_b (sAll_l ck_pm_122) (sAll_l ck_pm_123)))) (sAll_b (sAll_b (sAll_l ck_pm_124) (sAll_b (sAll_l ck_pm_125) (sAll_l ck_pm_126))) (sAll_b (sAll_b (sAll_l ck_pm_127) (sAll_l ck_pm_128)) (sAll_b (sAll_l ck_pm_129) (sAll_l ck_pm_130))))) (sAll_b (sAll_b (sAll_b (sAll_l ck_pm_131) (sAll_b (sAll_l ck_pm_132) (sAll_l ck_pm_133))) (sAll_b (sAll_b (sAll_l ck_pm_134) (sAll_l ck_pm_135)) (sAll_b (sAll_l ck_pm_136) (sAll_l ck_pm_137)))) (sAll_b (sAll_b (sAll_b (sAll_l ck_pm_138) (sAll_l ck_pmD)) (sAll_b (sAll_l ck_pm_140) (sAll_l ck_pm_141))) (sAll_b (sAll_b (sAll_l ck_pm_142) (sAll_l ck_pm_143)) (sAll_b (sAll_l ck_pm_144) (sAll_l ck_pm_145)))))) (sAll_b (sAll_b (sAll_b (sAll_b (sAll_l ck_pm_146) (sAll_b (sAll_l ck_pm_147) (sAll_l ck_pm_148))) (sAll_b (sAll_b (sAll_l ck_pm_149) (sAll_l ck_pm_150)) (sAll_b (sAll_l ck_pm_151) (sAll_l ck_pm_152)))) (sAll_b (sAll_b (sAll_l ck_pm_153) (sAll_b (sAll_l ck_pm_154) (sAll_l ck_pm_155))) (sAll_b (sAll_b (sAll_l ck_pm_156) (sAll_l ck_pm_157)) (sAll_b (sAll_l ck_pm_158) (sAll_l ck_pm_159))))) (sAll_b (sAll_b (sAll_b (sAll_l ck_pm_160) (sAll_b (sAll_l ck_pm_161) (sAll_l ck_pm_162))) (sAll_b (sAll_b (sAll_l ck_pm_163) (sAll_l ck_pm_164)) (sAll_b (sAll_l ck_pm_165) (sAll_l ck_pm_166)))) (sAll_b (sAll_b (sAll_b (sAll_l ck_pm_167) (sAll_l ck_pm_168)) (sAll_b (sAll_l ck_pm_169) (sAll_l ck_pm_170))) (sAll_b (sAll_b (sAll_l ck_pm_171) (sAll_l ck_pm_172)) (sAll_b (sAll_l ck_pm_173) (sAll_l ck_pm_174))))))) (sAll_b (sAll_b (sAll_b (sAll_b (sAll_b (sAll_l ck_pm_175) (sAll_b (sAll_l ck_pm_176) (sAll_l ck_pm_177))) (sAll_b (sAll_b (sAll_l ck_pm_178) (sAll_l ck_pm_179)) (sAll_b (sAll_l ck_pm_180) (sAll_l ck_pm_181)))) (sAll_b (sAll_b (sAll_l ck_pm_182) (sAll_b (sAll_l ck_pm_183) (sAll_l ck_pm_184))) (sAll_b (sAll_b (sAll_l ck_pm_185) (sAll_l ck_pm_186)) (sAll_b (sAll_l ck_pm_187) (sAll_l ck_pm_188))))) (sAll_b (sAll_b (sAll_b (sAll_l ck_pm_189) (sAll_b (sAll_l ck_pm_190) (sAll_l ck_pm_191))) (sAll_b (sAll_b (sAll_l ck_pm_192) (sAll_l ck_pm_193)) (sAll_b (sAll_l ck_pm_194) (sAll_l ck_pm_195)))) (sAll_b (sAll_b (sAll_b (sAll_l ck_pm_196) (sAll_l ck_pm_197)) (sAll_b (sAll_l ck_pm_198) (sAll_l ck_pm_199))) (sAll_b (sAll_b (sAll_l ck_pm_200) (sAll_l ck_pm_201)) (sAll_b (sAll_l ck_pm_202) (sAll_l ck_pm_203)))))) (sAll_b (sAll_b (sAll_b (sAll_b (sAll_l ck_pm_204) (sAll_b (sAll_l ck_pm_205) (sAll_l ck_pm_206))) (sAll_b (sAll_b (sAll_l ck_pm_207) (sAll_l ck_pm_208)) (sAll_b (sAll_l ck_pm_209) (sAll_l ck_pm_210)))) (sAll_b (sAll_b (sAll_b (sAll_l ck_pm_211) (sAll_l ck_pm_212)) (sAll_b (sAll_l ck_pm_213) (sAll_l ck_pm_214))) (sAll_b (sAll_b (sAll_l ck_pm_215) (sAll_l ck_pm_216)) (sAll_b (sAll_l ck_pm_217) (sAll_l ck_pm_218))))) (sAll_b (sAll_b (sAll_b (sAll_l ck_pm_219) (sAll_b (sAll_l ck_pm_220) (sAll_l ck_pm_221))) (sAll_b (sAll_b (sAll_l ck_pm_222) (sAll_l ck_pm_223)) (sAll_b (sAll_l ck_pm_224) (sAll_l ck_pm_225)))) (sAll_b (sAll_b (sAll_b (sAll_l ck_pm_226) (sAll_l ck_pm_227)) (sAll_b (sAll_l ck_pm_228) (sAll_l ck_pm_229))) (sAll_b (sAll_b (sAll_l ck_pm_230) (sAll_l ck_pm_231)) (sAll_b (sAll_l ck_pm_232) (sAll_l ck_pmD)))))))))
theorem sGood_ok : sGood MI PG := fun k => sCk_ok (pm_all k)
end
section
/-! 16: words of the fields, of arraycopy -/
theorem cpw_abs : sTw 417 (Cond.code Lib.MathLoose.abs_long.x Lib.MathLoose.abs_long.code 2 (some .long)) = true := by decide +kernel
theorem sCpw_ok : sCpw := ⟨by decide +kernel, by decide +kernel, by decide +kernel, by decide +kernel, by decide +kernel, sTw_ok cpw_abs⟩
theorem fw_0 : ∀ w ∈ u_ws RX0 TX0 2, w ∈ sTb := by decide +kernel
theorem fw_1 : ∀ w ∈ u_ws RX1 TX1 3, w ∈ sTb := by decide +kernel
theorem fw_4 : ∀ w ∈ u_ws RX4 TX4 12, w ∈ sTb := by decide +kernel
theorem fw_5 : ∀ w ∈ u_ws RX5 TX5 4, w ∈ sTb := by decide +kernel
theorem fw_6 : ∀ w ∈ u_ws RX6 TX6 9, w ∈ sTb := by decide +kernel
theorem fw_7 : ∀ w ∈ u_ws RX7 TX7 3, w ∈ sTb := by decide +kernel
theorem fw_8 : ∀ w ∈ u_ws RX8 TX8 3, w ∈ sTb := by decide +kernel
theorem fw_9 : ∀ w ∈ u_ws RX9 TX9 2, w ∈ sTb := by decide +kernel
theorem fw_10 : ∀ w ∈ u_ws RX10 TX10 3, w ∈ sTb := by decide +kernel
theorem fw_11 : ∀ w ∈ u_ws RX11 TX11 4, w ∈ sTb := by decide +kernel
theorem fw_12 : ∀ w ∈ u_ws RX12 TX12 10, w ∈ sTb := by decide +kernel
theorem fw_13 : ∀ w ∈ u_ws RX13 TX13 59, w ∈ sTb := by decide +kernel
theorem sFld_ok : sFld := by
  intro ci C T N h
  match ci, h with
  | 0, h => cases h; exact ⟨fw_0, tyX0, tyX0_ok, nmX0⟩
  | 1, h => cases h; exact ⟨fw_1, tyX1, tyX1_ok, nmX1⟩
  | 2, h => cases h; exact ⟨fw_4, tyX4, tyX4_ok, nmX4⟩
  | 3, h => cases h; exact ⟨fw_5, tyX5, tyX5_ok, nmX5⟩
  | 4, h => cases h; exact ⟨fw_6, tyX6, tyX6_ok, nmX6⟩
  | 5, h => cases h; exact ⟨fw_7, tyX7, tyX7_ok, nmX7⟩
  | 6, h => cases h; exact ⟨fw_8, tyX8, tyX8_ok, nmX8⟩
  | 7, h => cases h; exact ⟨fw_9, tyX9, tyX9_ok, nmX9⟩
  | 8, h => cases h; exact ⟨fw_10, tyX10, tyX10_ok, nmX10⟩
  | 9, h => cases h; exact ⟨fw_11, tyX11, tyX11_ok, nmX11⟩
  | 10, h => cases h; exact ⟨fw_12, tyX12, tyX12_ok, nmX12⟩
  | 11, h => cases h; exact ⟨fw_13, tyX13, tyX13_ok, nmX13⟩
  | k + 12, h => simp [vwCl] at h
end
section
/-! 17: results compared; runs with one end -/
def eqV (v w : sV) : Bool := match v with
  | .inl x => match w with
    | .inl y => eqX x y
    | _ => false
  | .inr (.inl x) => match w with
    | .inr (.inl y) => eqX x y
    | _ => false
  | .inr (.inr none) => match w with
    | .inr (.inr none) => true
    | _ => false
  | .inr (.inr (some i)) => match w with
    | .inr (.inr (some j)) => Nat.beq i j
    | _ => false
theorem eqV_ok {v w : sV} (h : eqV v w = true) : v = w := by
  rcases v with x | x | x | x <;> rcases w with y | y | y | y
  all_goals first
    | exact nomatch (show false = true from h)
    | exact congrArg Sum.inl (eqX_ok _ _ h)
    | exact congrArg (fun z => Sum.inr (Sum.inl z)) (eqX_ok _ _ h)
    | rfl
    | exact congrArg (fun z => Sum.inr (Sum.inr (some z))) (Nat.eq_of_beq_eq_true h)
noncomputable def eqL {α : Type} (f : α → α → Bool) (a : List α) : List α → Bool := List.rec (motive := fun _ => List α → Bool) (fun b => List.rec (motive := fun _ => Bool) true (fun _ _ _ => false) b) (fun x _ ih b => List.rec (motive := fun _ => Bool) false (fun y b _ => Bool.and (f x y) (ih b)) b) a
theorem eqL_ok {α : Type} {f : α → α → Bool} (hf : ∀ x y, f x y = true → x = y) : ∀ a b : List α, eqL f a b = true → a = b
  | [], [], _ => rfl
  | [], _ :: _, h => nomatch (show false = true from h)
  | _ :: _, [], h => nomatch (show false = true from h)
  | x :: a, y :: b, h => by
    have h2 : Bool.and (f x y) (eqL f a b) = true := h
    rw [Bool.and_eq_true] at h2
    rw [hf x y h2.1, eqL_ok hf a b h2.2]
noncomputable def eqC (a b : sC) : Bool := Bool.and (Nat.beq a.1 b.1) (Bool.and (Nat.beq a.2.1 b.2.1) (eqL eqV a.2.2 b.2.2))
theorem eqC_ok (a b : sC) (h : eqC a b = true) : a = b := by
  obtain ⟨a1, a2, a3⟩ := a
  obtain ⟨b1, b2, b3⟩ := b
  simp only [eqC, Bool.and_eq_true] at h
  have h1 : a1 = b1 := Nat.eq_of_beq_eq_true h.1
  have h2 : a2 = b2 := Nat.eq_of_beq_eq_true h.2.1
  have h3 : a3 = b3 := eqL_ok (fun _ _ => eqV_ok) _ _ h.2.2
  rw [h1, h2, h3]
noncomputable def eqO (v w : Option sV) : Bool := Option.rec (motive := fun _ => Bool) (Option.rec (motive := fun _ => Bool) true (fun _ => false) w) (fun v => Option.rec (motive := fun _ => Bool) false (fun w => eqV v w) w) v
theorem eqO_ok {v w : Option sV} (h : eqO v w = true) : v = w := by
  cases v <;> cases w
  · rfl
  · exact nomatch (show false = true from h)
  · exact nomatch (show false = true from h)
  · exact congrArg some (eqV_ok h)
/-- the end of a run: this answer, this memory -/
noncomputable def sEnd (v0 : Option sV) (mem0 : sM) : sKr := fun v _ mem => Bool.and (eqO v v0) (eqL eqC mem mem0)
/-- a run of method k from mem with the arguments as (path pa) that ends so -/
noncomputable def sRun (fuel d k : Nat) (pa : List sK) (mem : sM) (as : List sV) (kr : sKr) : Bool := sEnt as (PG k).2.1 (fun L => sx PG fuel d (PG k) (fun _ => false) (fun _ _ _ _ _ => false) kr (nat_lit 0) L [] pa mem)
section SR
variable {D : va_G} {cy : Nat → ClassId} {r : sE} {al : Nat → Nat} {hid : Nat → va_E} {rest : va_W}
theorem sRun_met (l : Launch) {fuel d k : Nat} {pa : List sK} {mem : sM} {as : List sV} {kr : sKr} (hp : sPa r pa) (h : sRun fuel d k pa mem as kr = true) : sMet MI l D cy hid rest r al d k mem as kr := sMet_of sGood_ok (sx_w sGood_ok sFld_ok sCpw_ok fuel) hp h
end SR
end
section
/-! 18: making: constructors. The executor sy: as sx, with new objects and arrays; other methods' calls are runs of sx -/
/-- a maker: its instructions, maxLocals, how many arguments, what it returns (0 nothing, 4 a reference), cells and slots that it makes -/
abbrev sMc : Type := Lean.RArray sIn × Nat × Nat × Nat × Nat × Nat
noncomputable def sBdV (n : Nat) (v : sV) : Bool := Sum.rec (motive := fun _ => Bool) (fun _ => true) (fun w => Sum.rec (motive := fun _ => Bool) (fun _ => true) (fun o => Option.rec (motive := fun _ => Bool) true (fun i => Bool.or (Nat.ble (Nat.succ i) n) (Nat.ble (nat_lit 1000000) i)) o) w) v
noncomputable def sAllL {α : Type} (f : α → Bool) (l : List α) : Bool := List.rec (motive := fun _ => Bool) true (fun a _ ih => Bool.and (f a) ih) l
noncomputable def sBdO (n : Nat) (v : Option sV) : Bool := Option.rec (motive := fun _ => Bool) true (sBdV n) v
/-- cells of ints hold no references -/
noncomputable def sBdC (n : Nat) (c : sC) : Bool := Bool.or (Bool.and (Nat.ble (nat_lit 1) c.1) (Nat.ble c.1 (nat_lit 4))) (Bool.and (Nat.ble c.1 (nat_lit 6)) (sAllL (sBdV n) c.2.2))
theorem sAllL_ok {α : Type} {f : α → Bool} : ∀ {l : List α}, sAllL f l = true → ∀ a ∈ l, f a = true
  | [], _, a, h => by cases h
  | b :: l, h, a, ha => by
    have h2 : Bool.and (f b) (sAllL f l) = true := h
    rw [Bool.and_eq_true] at h2
    rcases List.mem_cons.mp ha with rfl | ha
    · exact h2.1
    · exact sAllL_ok h2.2 a ha
/-- al2 is al, but for new cells -/
def sAg (n : Nat) (al al2 : Nat → Nat) : Prop := ∀ i, (i < n ∨ 1000000 ≤ i) → al2 i = al i
theorem sBdV_ok {r : sE} {n : Nat} {al al2 : Nat → Nat} (h : sAg n al al2) {v : sV} (hv : sBdV n v = true) : sVal r al2 v = sVal r al v := by
  rcases v with x | x | x | i
  · rfl
  · rfl
  · rfl
  · have h2 : Bool.or (Nat.ble (Nat.succ i) n) (Nat.ble (nat_lit 1000000) i) = true := hv
    show Value.ref (al2 i) = Value.ref (al i)
    rcases Bool.or_eq_true_iff.mp h2 with q | q
    · rw [h i (Or.inl (Nat.le_of_ble_eq_true q))]
    · rw [h i (Or.inr (Nat.le_of_ble_eq_true q))]
theorem sBd_map {r : sE} {n : Nat} {al al2 : Nat → Nat} (h : sAg n al al2) {st : List sV} (hv : sAllL (sBdV n) st = true) : st.map (sVal r al2) = st.map (sVal r al) := List.map_congr_left (fun v q => sBdV_ok h (sAllL_ok hv v q))
theorem sBd_lo {r : sE} {n : Nat} {al al2 : Nat → Nat} (h : sAg n al al2) {L : sL} (hv : sAllL (sBdO n) L = true) {ls : Array Slot} {nL : Nat} (hl : sLo r al ls nL L) : sLo r al2 ls nL L := ⟨hl.1, hl.2.1, fun i v q => by
  rw [sBdV_ok h (sAllL_ok hv (some v) (List.mem_of_getElem? q))]
  exact hl.2.2.1 i v q, hl.2.2.2⟩
theorem sRef_eq {n : Nat} {al al2 : Nat → Nat} (h : sAg n al al2) {vs : List sV} (hv : sAllL (sBdV n) vs = true) (j : Nat) : sRef al2 vs[j]? = sRef al vs[j]? := by
  cases hj : vs[j]? with
  | none => rfl
  | some v =>
    have h2 := sAllL_ok hv v (List.mem_of_getElem? hj)
    rcases v with x | x | x | i
    · rfl
    · rfl
    · rfl
    · have h3 := sBdV_ok (r := (fun _ => 0, fun _ => 0)) h h2
      have h4 : Value.ref (al2 i) = Value.ref (al i) := h3
      exact congrArg some (Value.ref.inj h4)
theorem sBd_ce {r : sE} {n : Nat} {al al2 : Nat → Nat} {cy : Nat → ClassId} {hid : Nat → va_E} (h : sAg n al al2) {c : sC} (hc : sBdC n c = true) : sCe r al2 cy hid c = sCe r al cy hid c := by
  obtain ⟨k, u, vs⟩ := c
  have hc2 : Bool.or (Bool.and (Nat.ble (nat_lit 1) k) (Nat.ble k (nat_lit 4))) (Bool.and (Nat.ble k (nat_lit 6)) (sAllL (sBdV n) vs)) = true := hc
  rcases Bool.or_eq_true_iff.mp hc2 with q | q
  · rw [Bool.and_eq_true] at q
    have q1 : 1 ≤ k := Nat.le_of_ble_eq_true q.1
    have q2 : k ≤ 4 := Nat.le_of_ble_eq_true q.2
    rcases (show k = 1 ∨ k = 2 ∨ k = 3 ∨ k = 4 by omega) with rfl | rfl | rfl | rfl <;> rfl
  · rw [Bool.and_eq_true] at q
    have q1 : k ≤ 6 := Nat.le_of_ble_eq_true q.1
    rcases (show k = 0 ∨ k = 1 ∨ k = 2 ∨ k = 3 ∨ k = 4 ∨ k = 5 ∨ k = 6 by omega) with rfl | rfl | rfl | rfl | rfl | rfl | rfl
    · show (Sum.inr (u, vs.map (sVal r al2)) : va_E) = Sum.inr (u, vs.map (sVal r al))
      rw [sBd_map h q.2]
    · rfl
    · rfl
    · rfl
    · rfl
    · simp only [sCe, sRef_eq h q.2]
    · simp only [sCe, sRef_eq h q.2]
theorem sBd_w {r : sE} {al al2 : Nat → Nat} {cy : Nat → ClassId} {hid : Nat → va_E} {rest : va_W} {mem : sM} (h : sAg mem.length al al2) (hm : sAllL (sBdC mem.length) mem = true) : sW r al2 cy hid rest mem = sW r al cy hid rest mem := by
  unfold sW
  congr 1
  apply List.ext_getElem?
  intro j
  rw [List.getElem?_mapIdx, List.getElem?_mapIdx]
  cases hj : mem[j]? with
  | none => rfl
  | some c =>
    simp only [Option.map_some]
    have hl : j < mem.length := (List.getElem?_eq_some_iff.mp hj).1
    rw [h j (Or.inl hl), sBd_ce h (sAllL_ok hm c (List.mem_of_getElem? hj))]
def sTy (ci : Nat) : Nat → FieldType := match ci with
  | 0 => tyX0 | 1 => tyX1 | 2 => tyX4 | 3 => tyX5 | 4 => tyX6 | 5 => tyX7 | 6 => tyX8 | 7 => tyX9 | 8 => tyX10 | 9 => tyX11 | 10 => tyX12 | _ => tyX13
def sNn (ci : Nat) : Nat := match ci with
  | 0 => 2 | 1 => 3 | 2 => 12 | 3 => 4 | 4 => 9 | 5 => 3 | 6 => 3 | 7 => 2 | 8 => 3 | 9 => 4 | 10 => 10 | _ => 59
def sDefV (t : FieldType) : sV := match t with
  | .long => .inr (.inl (.natCast (nat_lit 0)))
  | .object _ => .inr (.inr none)
  | .array _ => .inr (.inr none)
  | _ => .inl (.natCast (nat_lit 0))
/-- a new object's fields -/
def sNewF (ci : Nat) : List sV := (List.range (sNn ci)).map (fun k => sDefV (sTy ci k))
theorem sNewF_ok {r : sE} {al : Nat → Nat} {ci : Nat} (hci : ci < 12) : ∀ j, j < sNn ci → defaultValue (sTy ci j) = vp_V ((sNewF ci).map (sVal r al)) j := by
  have key : ∀ ty : FieldType, (ty = .int ∨ ty = .boolean ∨ ty = .long ∨ (∃ n, ty = .object n) ∨ ∃ t, ty = .array t) → defaultValue ty = sVal r al (sDefV ty) := by
    rintro ty (rfl | rfl | rfl | ⟨n, rfl⟩ | ⟨t, rfl⟩)
    · simp only [sDefV, sVal, sI, sD_c]; rfl
    · simp only [sDefV, sVal, sI, sD_c]; rfl
    · simp only [sDefV, sVal, sJ, sD_c]; rfl
    · rfl
    · rfl
  have tys : ∀ ci, ci < 12 → ∀ j, j < sNn ci → (match sTy ci j with | .int => true | .boolean => true | .long => true | .object _ => true | .array _ => true | _ => false) = true := by decide +kernel
  intro j hj
  have h1 := tys ci hci j hj
  have h2 : sTy ci j = .int ∨ sTy ci j = .boolean ∨ sTy ci j = .long ∨ (∃ n, sTy ci j = .object n) ∨ ∃ t, sTy ci j = .array t := by
    split at h1
    · exact Or.inl (by assumption)
    · exact Or.inr (Or.inl (by assumption))
    · exact Or.inr (Or.inr (Or.inl (by assumption)))
    · exact Or.inr (Or.inr (Or.inr (Or.inl ⟨_, by assumption⟩)))
    · exact Or.inr (Or.inr (Or.inr (Or.inr ⟨_, by assumption⟩)))
    · cases h1
  rw [key _ h2]
  unfold vp_V sNewF
  simp [hj]
/-- kinds of the steps that make -/
noncomputable def sOq (ir : Instr) : sFun ⊕ (Nat × Nat) := match ir with
  | .new ci => .inr (0, ci)
  | .newarray .int => .inr (1, 1)
  | .newarray .byte => .inr (1, 2)
  | .newarray .boolean => .inr (1, 3)
  | .newarray .long => .inr (1, 4)
  | .anewarray _ => .inr (2, 0)
  | .multianewarray _ _ => .inr (3, 0)
  | .aastore => .inr (4, 0)
  | .checkcast n => .inr (5, n)
  | .pop => .inr (6, 0)
  | .invokespecial k => .inr (7, k)
  | .invokestatic k => .inr (8, k)
  | .invokevirtual k => .inr (8, k)
  | .return_ => .inr (9, 0)
  | .areturn => .inr (9, 3)
  | ir => match sOp ir with
    | .inl f => .inl f
    | .inr _ => .inr (99, 0)
section SMK
variable {p : Program} {l : Launch} {e : Env} {R : Room} {s : State} {m : MethodId} {args : Array Value} {below : List Frame} {meth : Method} {c : Code} {cells slots : Nat} {Q : State → Prop}
variable {cc : ByteArray} {pc nL : Nat} {D : va_G} {cy : Nat → ClassId} {A : Nat → Prop} {r : sE} {al : Nat → Nat} {hid : Nat → va_E} {rest : va_W}
/-- one cell more, at q -/
def sUp (al : Nat → Nat) (n q : Nat) : Nat → Nat := fun i => if i = n then q else al i
theorem sUp_ag {n q : Nat} (hn : n < 1000000) : sAg n al (sUp al n q) := fun i h => if_neg (by omega)
theorem sW_app {mem : sM} {q : Nat} {cl : sC} (hm : sAllL (sBdC mem.length) mem = true) (hn : mem.length < 1000000) : sW r (sUp al mem.length q) cy hid rest (mem ++ [cl]) = (mem.mapIdx (fun i c => (al i, sCe r al cy hid c)) ++ [(q, sCe r (sUp al mem.length q) cy hid cl)]) ++ rest := by
  have h1 := sBd_w (r := r) (cy := cy) (hid := hid) (rest := []) (sUp_ag (al := al) (q := q) hn) hm
  unfold sW at h1 ⊢
  rw [List.append_nil, List.append_nil] at h1
  rw [List.mapIdx_append]
  congr 1
  rw [h1]
  congr 1
  simp [sUp]
/-- the world with one cell more, as the kit lays it: behind the rest -/
theorem sLv_app {mem : sM} {q : Nat} {cl : sC} {H : Heap} {locs : List Loc} {H0 : Heap} (hm : sAllL (sBdC mem.length) mem = true) (hn : mem.length < 1000000) (h1 : va_P D vwCl (sW r al cy hid rest mem ++ [(q, sCe r (sUp al mem.length q) cy hid cl)]) H) (h2 : va_D A (sW r al cy hid rest mem ++ [(q, sCe r (sUp al mem.length q) cy hid cl)])) (h3 : va_S A H0 H locs) : sLv D cy A r (sUp al mem.length q) hid rest H0 (mem ++ [cl]) H locs := by
  unfold sLv
  rw [sW_app hm hn]
  unfold sW at h1 h2
  exact ⟨va_P.swap h1, va_D.swap h2, h3⟩
theorem so_new {own C : String} {T : u_T} {N idx ci : Nat} (hx : p.tables.exec = Jvm.exec) (hb : c.code = cc) (hts : ∀ w ∈ sTb, w.before args s = true) (hK : va_K D vwCl (sT cy) s) (hA : ∀ q, s.heap.size ≤ q → A q) (hown : s.vm.findClass own = some m.cls) (hci : ci < 12) (hc : vwCl[ci]? = some (C, T, N)) (hN : N = sNn ci) (hty : ∀ k, k < N → parseFieldDescriptor (T k).2.2.1 = some (sTy ci k)) (hin : ∀ w ∈ u_ws C T N, w ∈ sTb) (hcl : Cond.classLink own idx C ∈ sTb) (hinst : Cond.instantiable C N ∈ sTb) (hini : Cond.initialized C ∈ sTb) (hcells : cells + 1 ≤ R.cells) (hslots : slots + N ≤ R.slots) (hd : decode cc pc = .ok (.new idx, 3))
    {mem : sM} {H : Heap} {locs : List Loc} {ls : Array Slot} {st : List Value} (hm : sAllL (sBdC mem.length) mem = true) (hn : mem.length < 1000000) (hv : sLv D cy A r al hid rest s.heap mem H locs)
    (kk : ∀ (q : Nat) (H1 : Heap), sLv D cy A r (sUp al mem.length q) hid rest s.heap (mem ++ [(0, ci, sNewF ci)]) H1 locs → W p l e R s m args below meth c H1 locs (cells + 1) (slots + N) Q (F0 m (pc + 3) ls (.ref q :: st))) : W p l e R s m args below meth c H locs cells slots Q (F0 m pc ls st) := by
  subst hN
  refine va_new (ci := ci) (fs := (sNewF ci).map (sVal r al)) hx hb hts hin (sTy ci) hty hown (hts _ hcl) (hts _ hinst) (hts _ hini) hK hv.1 hv.2.1 hv.2.2 hA hc (sNewF_ok hci) hcells hslots hd (fun q H1 h1 h2 h3 => kk q H1 (sLv_app hm hn ?_ ?_ h3))
  all_goals
    have e1 : sCe r (sUp al mem.length q) cy hid (0, ci, sNewF ci) = .inr (ci, (sNewF ci).map (sVal r al)) := by
      show (Sum.inr (ci, (sNewF ci).map (sVal r (sUp al mem.length q))) : va_E) = _
      congr 2
      apply List.map_congr_left
      intro v hv
      unfold sNewF at hv
      obtain ⟨k, -, rfl⟩ := List.mem_map.mp hv
      cases sTy ci k <;> rfl
    rw [e1]
    assumption
theorem s_cy {k : Nat} {cA cB : ClassId} {ty : FieldType} {tys : List (ClassId × FieldType)} (hK : va_K D vwCl tys s) (hk : tys[k]? = some (cB, ty)) (hK2 : va_K D vwCl (tys ++ [(cA, ty)]) s) : cA = cB := by
  have h1 := (hK.2 k _ hk).2
  have h2 := (hK2.2 tys.length (cA, ty) (by simp)).2
  cases ty with
  | object C =>
    obtain ⟨_, _, _, _, _, h3⟩ := h1
    obtain ⟨_, _, _, _, _, h4⟩ := h2
    exact Option.some.inj (h4.symm.trans h3)
  | _ => exact Option.some.inj (h2.symm.trans h1)
theorem s_zeroI (n : Nat) : (fun j : Nat => sInt r (List.replicate n (Sum.inl (.natCast 0) : sV))[j]?) = fun _ => 0 := by
  funext j
  by_cases h : j < n
  · simp only [List.getElem?_replicate, h, if_true, sInt, sI, sD_c]
    rfl
  · simp only [List.getElem?_replicate, h, if_false, sInt]
theorem s_zeroJ (n : Nat) : (fun j : Nat => sLng r (List.replicate n (Sum.inr (Sum.inl (.natCast 0)) : sV))[j]?) = fun _ => 0 := by
  funext j
  by_cases h : j < n
  · simp only [List.getElem?_replicate, h, if_true, sLng, sJ, sD_c]
    rfl
  · simp only [List.getElem?_replicate, h, if_false, sLng]
/-- a new array of ints (kind 1), bytes (2), booleans (3) -/
theorem so_newI {kd : Nat} {atype : ArrayType} {ty : FieldType} (hkd : (kd = 1 ∧ ty = .int) ∨ (kd = 2 ∧ ty = .byte) ∨ (kd = 3 ∧ ty = .boolean)) (hty : newarray.typeOf atype = ty) (hx : p.tables.exec = Jvm.exec) (hb : c.code = cc) (hts : ∀ w ∈ sTb, w.before args s = true) (harr : Cond.arrayClass ty ∈ sTb) (hK : va_K D vwCl (sT cy) s) (hA : ∀ q, s.heap.size ≤ q → A q) {n : Nat} (hn0 : n ≤ 100000) (hcells : cells + 1 ≤ R.cells) (hslots : slots + n ≤ R.slots) (hd : decode cc pc = .ok (.newarray atype, 2))
    {mem : sM} {H : Heap} {locs : List Loc} {ls : Array Slot} {st : List Value} (hm : sAllL (sBdC mem.length) mem = true) (hn : mem.length < 1000000) (hv : sLv D cy A r al hid rest s.heap mem H locs)
    (kk : ∀ (q : Nat) (H1 : Heap), sLv D cy A r (sUp al mem.length q) hid rest s.heap (mem ++ [(kd, 0, List.replicate n (.inl (.natCast 0)))]) H1 locs → W p l e R s m args below meth c H1 locs (cells + 1) (slots + n) Q (F0 m (pc + 2) ls (.ref q :: st))) : W p l e R s m args below meth c H locs cells slots Q (F0 m pc ls (.int (Int32.ofNat n) :: st)) := by
  have cn : (Int32.ofNat n).toNatClampNeg = n := nI_clamp (by omega)
  have pos : ¬ Int32.ofNat n < 0 := fun q => by
    rw [Int32.lt_iff_toInt_lt, show (Int32.ofNat n).toInt = (n : Int) from nI_toInt (by omega)] at q
    simp at q
    omega
  have hcb : componentBytes ty ≤ 8 := by rcases hkd with ⟨-, rfl⟩ | ⟨-, rfl⟩ | ⟨-, rfl⟩ <;> decide
  have hdf : defaultValue ty = .int 0 := by rcases hkd with ⟨-, rfl⟩ | ⟨-, rfl⟩ | ⟨-, rfl⟩ <;> rfl
  refine va_newa (a0 := (n, .inl (fun _ => 0))) hx hb (by rw [hty]; exact hts _ harr) hty hK hv.1 hv.2.1 hv.2.2 hA (fun cA => by show arrV cA n (fun _ => Value.int 0) = _; rw [hdf]) pos cn (by have := Nat.mul_le_mul hn0 hcb; omega) hcells hslots hd (fun q cA H1 h0 h1 h2 h3 => kk q H1 (sLv_app hm hn ?_ ?_ h3))
  all_goals
    have e1 : sCe r (sUp al mem.length q) cy hid (kd, 0, List.replicate n (.inl (.natCast 0))) = .inl (cA, n, .inl (fun _ => 0)) := by
      rcases hkd with ⟨rfl, rfl⟩ | ⟨rfl, rfl⟩ | ⟨rfl, rfl⟩
      · have e2 := s_cy (k := 0) hK rfl h0
        simp only [sCe, s_zeroI, List.length_replicate, e2]
      · have e2 := s_cy (k := 1) hK rfl h0
        simp only [sCe, s_zeroI, List.length_replicate, e2]
      · have e2 := s_cy (k := 2) hK rfl h0
        simp only [sCe, s_zeroI, List.length_replicate, e2]
    rw [e1]
    assumption
theorem so_newJ (hx : p.tables.exec = Jvm.exec) (hb : c.code = cc) (hts : ∀ w ∈ sTb, w.before args s = true) (harr : Cond.arrayClass .long ∈ sTb) (hK : va_K D vwCl (sT cy) s) (hA : ∀ q, s.heap.size ≤ q → A q) {n : Nat} (hn0 : n ≤ 100000) (hcells : cells + 1 ≤ R.cells) (hslots : slots + n ≤ R.slots) (hd : decode cc pc = .ok (.newarray .long, 2))
    {mem : sM} {H : Heap} {locs : List Loc} {ls : Array Slot} {st : List Value} (hm : sAllL (sBdC mem.length) mem = true) (hn : mem.length < 1000000) (hv : sLv D cy A r al hid rest s.heap mem H locs)
    (kk : ∀ (q : Nat) (H1 : Heap), sLv D cy A r (sUp al mem.length q) hid rest s.heap (mem ++ [(4, 0, List.replicate n (.inr (.inl (.natCast 0))))]) H1 locs → W p l e R s m args below meth c H1 locs (cells + 1) (slots + n) Q (F0 m (pc + 2) ls (.ref q :: st))) : W p l e R s m args below meth c H locs cells slots Q (F0 m pc ls (.int (Int32.ofNat n) :: st)) := by
  have cn : (Int32.ofNat n).toNatClampNeg = n := nI_clamp (by omega)
  have pos : ¬ Int32.ofNat n < 0 := fun q => by
    rw [Int32.lt_iff_toInt_lt, show (Int32.ofNat n).toInt = (n : Int) from nI_toInt (by omega)] at q
    simp at q
    omega
  refine va_newa (atype := .long) (ty := .long) (N' := n) (a0 := (n, .inr (.inl (fun _ => 0)))) hx hb (hts _ harr) rfl hK hv.1 hv.2.1 hv.2.2 hA (fun cA => rfl) pos cn (show n * 8 ≤ 536870912 by omega) hcells hslots hd (fun q cA H1 h0 h1 h2 h3 => kk q H1 (sLv_app hm hn ?_ ?_ h3))
  all_goals
    have e1 : sCe r (sUp al mem.length q) cy hid (4, 0, List.replicate n (.inr (.inl (.natCast 0)))) = .inl (cA, n, .inr (.inl (fun _ => 0))) := by
      have e2 := s_cy (k := 3) hK rfl h0
      simp only [sCe, s_zeroJ, List.length_replicate, e2]
    rw [e1]
    assumption
theorem so_newQ {own : String} {idx : Nat} (hx : p.tables.exec = Jvm.exec) (hb : c.code = cc) (hts : ∀ w ∈ sTb, w.before args s = true) (hown : s.vm.findClass own = some m.cls) (hcl : Cond.classLink own idx "SwapTables$Shelf" ∈ sTb) (hov : va_AO "SwapTables$Shelf" s) (hK : va_K D vwCl (sT cy) s) (hA : ∀ q, s.heap.size ≤ q → A q) {n : Nat} (hn0 : n ≤ 100000) (hcells : cells + 1 ≤ R.cells) (hslots : slots + n ≤ R.slots) (hd : decode cc pc = .ok (.anewarray idx, 3))
    {mem : sM} {H : Heap} {locs : List Loc} {ls : Array Slot} {st : List Value} (hm : sAllL (sBdC mem.length) mem = true) (hn : mem.length < 1000000) (hv : sLv D cy A r al hid rest s.heap mem H locs)
    (kk : ∀ (q : Nat) (H1 : Heap), sLv D cy A r (sUp al mem.length q) hid rest s.heap (mem ++ [(5, 0, List.replicate n (.inr (.inr none)))]) H1 locs → W p l e R s m args below meth c H1 locs (cells + 1) (slots + n) Q (F0 m (pc + 3) ls (.ref q :: st))) : W p l e R s m args below meth c H locs cells slots Q (F0 m pc ls (.int (Int32.ofNat n) :: st)) := by
  have cn : (Int32.ofNat n).toNatClampNeg = n := nI_clamp (by omega)
  have pos : ¬ Int32.ofNat n < 0 := fun q => by
    rw [Int32.lt_iff_toInt_lt, show (Int32.ofNat n).toInt = (n : Int) from nI_toInt (by omega)] at q
    simp at q
    omega
  refine va_newq (N' := n) hx hb hown (hts _ hcl) hov hK hv.1 hv.2.1 hv.2.2 hA pos cn (by omega) hcells hslots hd (fun q cA H1 h0 h1 h2 h3 => kk q H1 (sLv_app hm hn ?_ ?_ h3))
  all_goals
    have e0 : (fun j : Nat => sRef (sUp al mem.length q) (List.replicate n (Sum.inr (Sum.inr none) : sV))[j]?) = fun _ => none := by
      funext j
      by_cases h : j < n
      · simp only [List.getElem?_replicate, h, if_true, sRef]
      · simp only [List.getElem?_replicate, h, if_false, sRef]
    have e1 : sCe r (sUp al mem.length q) cy hid (5, 0, List.replicate n (.inr (.inr none))) = .inl (cA, n, .inr (.inr (.inr (.inr (fun _ => none))))) := by
      have e2 := s_cy (k := 4) hK rfl h0
      simp only [sCe, e0, List.length_replicate, e2]
    rw [e1]
    assumption
/-- seven cells more: an array of six rows, and these -/
def sUp7 (al : Nat → Nat) (n q : Nat) (ρ : Nat → Nat) : Nat → Nat := fun i => if i = n then q else if n < i ∧ i ≤ n + 6 then ρ (i - (n + 1)) else al i
theorem sUp7_ag {n q : Nat} {ρ : Nat → Nat} (hn : n + 6 < 1000000) : sAg n al (sUp7 al n q ρ) := fun i h => by
  unfold sUp7
  rw [if_neg (by omega), if_neg (by omega)]
def sGrid (n : Nat) : sM := [(6, 0, [.inr (.inr (some (Nat.add n (nat_lit 1)))), .inr (.inr (some (Nat.add n (nat_lit 2)))), .inr (.inr (some (Nat.add n (nat_lit 3)))), .inr (.inr (some (Nat.add n (nat_lit 4)))), .inr (.inr (some (Nat.add n (nat_lit 5)))), .inr (.inr (some (Nat.add n (nat_lit 6))))]),
  (1, 0, List.replicate 6 (.inl (.natCast 0))), (1, 0, List.replicate 6 (.inl (.natCast 0))), (1, 0, List.replicate 6 (.inl (.natCast 0))), (1, 0, List.replicate 6 (.inl (.natCast 0))), (1, 0, List.replicate 6 (.inl (.natCast 0))), (1, 0, List.replicate 6 (.inl (.natCast 0)))]
theorem sW_app7 {mem : sM} {q : Nat} {ρ : Nat → Nat} (hm : sAllL (sBdC mem.length) mem = true) (hn : mem.length + 6 < 1000000) : sW r (sUp7 al mem.length q ρ) cy hid rest (mem ++ sGrid mem.length) = (mem.mapIdx (fun i c => (al i, sCe r al cy hid c)) ++ ([(q, .inl (cy 6, 6, .inr (.inr (.inr (.inr (fun i => if i < 6 then some (ρ i) else none))))))] ++ (List.range 6).map (fun i => (ρ i, .inl (cy 1, 6, .inl (fun _ => 0)))))) ++ rest := by
  have h1 := sBd_w (r := r) (cy := cy) (hid := hid) (rest := []) (sUp7_ag (al := al) (q := q) (ρ := ρ) hn) hm
  unfold sW at h1 ⊢
  rw [List.append_nil, List.append_nil] at h1
  rw [List.mapIdx_append]
  congr 1
  rw [h1]
  congr 1
  have e0 : ∀ j, j < 6 → sUp7 al mem.length q ρ (mem.length + (j + 1)) = ρ j := fun j hj => by
    unfold sUp7
    rw [if_neg (by omega), if_pos (by omega)]
    congr 1
    omega
  have eq0 : sUp7 al mem.length q ρ mem.length = q := if_pos rfl
  have ez := s_zeroI (r := r) 6
  have er : (fun j : Nat => sRef (sUp7 al mem.length q ρ) ([.inr (.inr (some (Nat.add mem.length (nat_lit 1)))), .inr (.inr (some (Nat.add mem.length (nat_lit 2)))), .inr (.inr (some (Nat.add mem.length (nat_lit 3)))), .inr (.inr (some (Nat.add mem.length (nat_lit 4)))), .inr (.inr (some (Nat.add mem.length (nat_lit 5)))), .inr (.inr (some (Nat.add mem.length (nat_lit 6))))] : List sV)[j]?) = fun i => if i < 6 then some (ρ i) else none := by
    funext j
    match j with
    | 0 => exact congrArg some (e0 0 (by omega))
    | 1 => exact congrArg some (e0 1 (by omega))
    | 2 => exact congrArg some (e0 2 (by omega))
    | 3 => exact congrArg some (e0 3 (by omega))
    | 4 => exact congrArg some (e0 4 (by omega))
    | 5 => exact congrArg some (e0 5 (by omega))
    | j + 6 => rw [if_neg (by omega)]; rfl
  have c1 : ∀ al2 : Nat → Nat, sCe r al2 cy hid (1, 0, List.replicate 6 (.inl (.natCast 0))) = .inl (cy 1, 6, .inl (fun _ => 0)) := fun al2 => by
    simp only [sCe, ez, List.length_replicate]
  have c6 : sCe r (sUp7 al mem.length q ρ) cy hid (6, 0, [.inr (.inr (some (Nat.add mem.length (nat_lit 1)))), .inr (.inr (some (Nat.add mem.length (nat_lit 2)))), .inr (.inr (some (Nat.add mem.length (nat_lit 3)))), .inr (.inr (some (Nat.add mem.length (nat_lit 4)))), .inr (.inr (some (Nat.add mem.length (nat_lit 5)))), .inr (.inr (some (Nat.add mem.length (nat_lit 6))))]) = .inl (cy 6, 6, .inr (.inr (.inr (.inr (fun i => if i < 6 then some (ρ i) else none))))) := by
    rw [← er]
    rfl
  unfold sGrid
  simp only [List.mapIdx_cons, List.mapIdx_nil, Nat.zero_add, c6, c1]
  show _ = (q, _) :: (ρ 0, _) :: (ρ 1, _) :: (ρ 2, _) :: (ρ 3, _) :: (ρ 4, _) :: (ρ 5, _) :: []
  have f0 := e0 0 (by omega)
  have f1 := e0 1 (by omega)
  have f2 := e0 2 (by omega)
  have f3 := e0 3 (by omega)
  have f4 := e0 4 (by omega)
  have f5 := e0 5 (by omega)
  simp only [Nat.zero_add, Nat.reduceAdd] at f0 f1 f2 f3 f4 f5
  simp only [Nat.reduceAdd, Nat.add_comm _ mem.length, f0, f1, f2, f3, f4, f5, eq0, Nat.add_zero]
theorem so_grid {own : String} {idx : Nat} (hx : p.tables.exec = Jvm.exec) (hb : c.code = cc) (hts : ∀ w ∈ sTb, w.before args s = true) (hown : s.vm.findClass own = some m.cls) (hcl : Cond.classLink own idx "[[I" ∈ sTb) (hov : va_AOA .int s) (harr : Cond.arrayClass .int ∈ sTb) (hK : va_K D vwCl (sT cy) s) (hA : ∀ q, s.heap.size ≤ q → A q) (hcells : cells + 7 ≤ R.cells) (hslots : slots + 42 ≤ R.slots) (hd : decode cc pc = .ok (.multianewarray idx 2, 4))
    {mem : sM} {H : Heap} {locs : List Loc} {ls : Array Slot} {st : List Value} (hm : sAllL (sBdC mem.length) mem = true) (hn : mem.length + 6 < 1000000) (hv : sLv D cy A r al hid rest s.heap mem H locs)
    (kk : ∀ (q : Nat) (ρ : Nat → Nat) (H1 : Heap), sLv D cy A r (sUp7 al mem.length q ρ) hid rest s.heap (mem ++ sGrid mem.length) H1 locs → W p l e R s m args below meth c H1 locs (cells + 7) (slots + 42) Q (F0 m (pc + 4) ls (.ref q :: st))) : W p l e R s m args below meth c H locs cells slots Q (F0 m pc ls (.int (Int32.ofNat 6) :: .int (Int32.ofNat 6) :: st)) := by
  have c6 : (Int32.ofNat 6).toNatClampNeg = 6 := rfl
  have hcy : s.vm.findClass (FieldType.array .int).toString = some (cy 1) := (hK.2 0 _ rfl).2
  refine va_mna (X := sW r al cy hid rest mem) (L := []) (f := fun _ => .inr (0, [])) (z := (6, .inl (fun _ => 0))) (N' := 6) (K' := 6) hx hb hown (hts _ hcl) hov (hts _ harr) hcy hK (by simpa [va_pl] using hv.1) (by simpa [va_pl] using hv.2.1) hv.2.2 hA (by decide) (by decide) c6 c6 (by decide) (by decide) (by decide) (by decide) (by decide) (by omega) (by omega) (fun cA => ?_) hd (fun q ρ cA H1 g1 g2 g3 g4 g5 g6 => ?_)
  · show ({ cls := cA, slots := Array.replicate 6 (.int 0), vm := .none } : Cell) = _
    rw [arrV_new]
    rfl
  · have e2 := s_cy (k := 5) hK rfl g3
    have e3 : va_pl ([] ++ (List.range 6).map ρ) (vr_up (fun _ => .inr (0, [])) ((List.range 6).map ρ) (.inl (cy 1, 6, .inl (fun _ => 0)))) = (List.range 6).map (fun i => (ρ i, .inl (cy 1, 6, .inl (fun _ => 0)))) := by
      unfold va_pl
      rw [List.nil_append, List.map_map]
      apply List.map_congr_left
      intro i hi
      show (ρ i, vr_up _ _ _ (ρ i)) = _
      rw [vr_up_in (List.mem_map.mpr ⟨i, hi, rfl⟩)]
    rw [e3, e2] at g4 g5
    have e4 : slots + 6 + 6 * 6 = slots + 42 := by omega
    have e5 : cells + 1 + 6 = cells + 7 := by omega
    rw [e4, e5]
    refine kk q ρ H1 ?_
    unfold sLv
    rw [sW_app7 hm hn]
    unfold sW at g4 g5
    rw [List.append_assoc (_ ++ rest)] at g4 g5
    exact ⟨va_P.swap g4, va_D.swap g5, g6⟩
end SMK
end
section
/-! 19: the executor of makers, and its soundness -/
noncomputable def sApp {α : Type} (l : List α) : List α → (List α → Bool) → Bool := List.rec (motive := fun _ => List α → (List α → Bool) → Bool) (fun b k => k b) (fun a _ ih b k => ih b (fun l => k (a :: l))) l
theorem sApp_eq {α : Type} (l b : List α) (k : List α → Bool) : sApp l b k = k (l ++ b) := by
  induction l generalizing k with
  | nil => rfl
  | cons a l ih => exact ih (fun l => k (a :: l))
noncomputable def sBd (n : Nat) (L : sL) (st : List sV) (mem : sM) : Bool := Bool.and (Nat.ble n (nat_lit 999000)) (Bool.and (sAllL (sBdO n) L) (Bool.and (sAllL (sBdV n) st) (sAllL (sBdC n) mem)))
noncomputable def sBd2 (n : Nat) (L : sL) (st : List sV) : Bool := Bool.and (sAllL (sBdO n) L) (sAllL (sBdV n) st)
abbrev sGy : Type := Nat → sL → List sV → List sK → sM → Nat → Nat → Bool
abbrev sIh : Type := Nat → sMc → Nat → sKr → sGy
/-- new cells -/
noncomputable def sMkN (N0 : Nat) (cs : sM) (d1 d2 : Nat) (go : sGy) (me : sMc) (nx : Nat) (L : sL) (st : List sV) (pa : List sK) (mem : sM) (nc ns : Nat) : Bool :=
  sFc (sLn mem) (fun n => sIf (Bool.and (Nat.ble N0 n) (sBd n L st mem)) (sIf (Bool.and (Nat.ble (Nat.add nc d1) me.2.2.2.2.1) (Nat.ble (Nat.add ns d2) me.2.2.2.2.2)) (sFc (Nat.add nc d1) (fun nc => sFc (Nat.add ns d2) (fun ns => sApp mem cs (fun mem => go nx L (.inr (.inr (some n)) :: st) pa mem nc ns))))))
theorem sMkN_ok {N0 : Nat} {cs : sM} {d1 d2 : Nat} {go : sGy} {me : sMc} {nx : Nat} {L : sL} {st : List sV} {pa : List sK} {mem : sM} {nc ns : Nat} (h : sMkN N0 cs d1 d2 go me nx L st pa mem nc ns = true) : N0 ≤ mem.length ∧ mem.length ≤ 999000 ∧ sAllL (sBdO mem.length) L = true ∧ sAllL (sBdV mem.length) st = true ∧ sAllL (sBdC mem.length) mem = true ∧ nc + d1 ≤ me.2.2.2.2.1 ∧ ns + d2 ≤ me.2.2.2.2.2 ∧ go nx L (.inr (.inr (some mem.length)) :: st) pa (mem ++ cs) (nc + d1) (ns + d2) = true := by
  unfold sMkN at h
  rw [sFc_eq, sLn_ok] at h
  obtain ⟨h1, h⟩ := sIf_ok h
  obtain ⟨h2, h⟩ := sIf_ok h
  rw [sFc_eq, sFc_eq, sApp_eq] at h
  simp only [sBd, Bool.and_eq_true] at h1 h2
  exact ⟨Nat.le_of_ble_eq_true h1.1, Nat.le_of_ble_eq_true h1.2.1, h1.2.2.1, h1.2.2.2.1, h1.2.2.2.2, Nat.le_of_ble_eq_true h2.1, Nat.le_of_ble_eq_true h2.2, h⟩
noncomputable def sMkA (N0 : Nat) (kd : Nat) (z : sV) (go : sGy) (me : sMc) (nx : Nat) (L : sL) (st : List sV) (pa : List sK) (mem : sM) (nc ns : Nat) : Bool := sTI st (fun x st => sNum x (fun n => sIf (Nat.ble n (nat_lit 100000)) (sMkN N0 [(kd, 0, List.replicate n z)] (nat_lit 1) n go me nx L st pa mem nc ns)))
noncomputable def sMkG (N0 : Nat) (go : sGy) (me : sMc) (nx : Nat) (L : sL) (st : List sV) (pa : List sK) (mem : sM) (nc ns : Nat) : Bool := sTI st (fun x st => sTI st (fun y st => sNum x (fun a => sNum y (fun b => sIf (Bool.and (Nat.beq a (nat_lit 6)) (Nat.beq b (nat_lit 6))) (sFc (sLn mem) (fun n => sMkN N0 (sGrid n) (nat_lit 7) (nat_lit 42) go me nx L st pa mem nc ns))))))
noncomputable def sMkS (go : sGy) (nx : Nat) (L : sL) (st : List sV) (pa : List sK) (mem : sM) (nc ns : Nat) : Bool := sTR st (fun v st => sIx st (fun i q st => sCell mem v (nat_lit 0) (fun cv _ => sIf (Nat.beq cv (nat_lit 5)) (sPuta (nat_lit 5) (.inr (.inr (some v))) i q mem (fun mem => go nx L st pa mem nc ns)))))
noncomputable def sMkP (n : Nat) (go : sGy) (nx : Nat) (L : sL) (st : List sV) (pa : List sK) (mem : sM) (nc ns : Nat) : Bool := sTR st (fun v st => sTR st (fun q st => sPutf n (.inr (.inr (some v))) q mem (fun mem => go nx L st pa mem nc ns)))
/-- a call of a maker -/
noncomputable def sMkD (ih : sIh) (d1 : Nat) (cal : sMc) (go : sGy) (nx : Nat) (L : sL) (st as : List sV) (pa : List sK) (mem : sM) (nc ns : Nat) : Bool := sEnt as cal.2.1 (fun L1 => sFc (sLn mem) (fun n1 => ih d1 cal n1 (fun v pa mem => sPush v st (fun st => sFc (Nat.add nc cal.2.2.2.2.1) (fun nc => sFc (Nat.add ns cal.2.2.2.2.2) (fun ns => go nx L st pa mem nc ns)))) (nat_lit 0) L1 [] pa mem (nat_lit 0) (nat_lit 0)))
noncomputable def sB3 (b : Bool) (f t : Bool) : Bool := Bool.rec (motive := fun _ => Bool) f t b
noncomputable def sMkC (PC : Nat → sMc) (ih : sIh) (d N0 : Nat) (k : Nat) (go : sGy) (me : sMc) (nx : Nat) (L : sL) (st : List sV) (pa : List sK) (mem : sM) (nc ns : Nat) : Bool :=
  Nat.rec (motive := fun _ => Bool) false (fun d1 _ => sPop (PC k).2.2.1 st [] (fun as st => sIf (Nat.ble (sCats st) (nat_lit 8)) (sIf (sBd2 (sLn mem) L st) (sIf (Bool.and (Nat.ble N0 (sLn mem)) (Nat.ble (sLn mem) (nat_lit 999000))) (sIf (Bool.and (Nat.ble (Nat.add nc (PC k).2.2.2.2.1) me.2.2.2.2.1) (Nat.ble (Nat.add ns (PC k).2.2.2.2.2) me.2.2.2.2.2)) (sB3 (Nat.beq (PC k).2.2.2.1 (nat_lit 0)) (sMkD ih d1 (PC k) go nx L st as pa mem nc ns) (sTR as (fun _ _ => sMkD ih d1 (PC k) go nx L st as pa mem nc ns)))))))) d
/-- a call of another method -/
noncomputable def sMkX (FX : Nat) (d : Nat) (k : Nat) (go : sGy) (nx : Nat) (L : sL) (st : List sV) (pa : List sK) (mem : sM) (nc ns : Nat) : Bool :=
  Nat.rec (motive := fun _ => Bool) false (fun d1 _ => (fun cal : sMe => sPop cal.2.2.1 st [] (fun as st => sIf (Nat.ble (sCats st) (nat_lit 8)) (sRecv mem cal.2.2.2.1 as (sEnt as cal.2.1 (fun L1 => sx PG FX d1 cal (fun _ => false) (fun _ _ _ _ _ => false) (fun v pa mem => sPush v st (fun st => go nx L st pa mem nc ns)) (nat_lit 0) L1 [] pa mem))))) (PG k)) d
noncomputable def sMkR (o : Nat) (me : sMc) (kr : sKr) (st : List sV) (pa : List sK) (mem : sM) : Bool := Bool.rec (motive := fun _ => Bool) (sIf (Nat.beq o (nat_lit 3)) (sIf (Nat.beq me.2.2.2.1 (nat_lit 4)) (sTR st (fun x st => sNil st (kr (some (.inr (.inr (some x)))) pa mem))))) (sIf (Nat.beq me.2.2.2.1 (nat_lit 0)) (sNil st (kr none pa mem))) (Nat.beq o (nat_lit 0))
noncomputable def sMk (PC : Nat → sMc) (FX : Nat) (ih : sIh) (d N0 : Nat) (me : sMc) (kr : sKr) (go : sGy) (nx : Nat) (L : sL) (st : List sV) (pa : List sK) (mem : sM) (nc ns : Nat) (t a : Nat) : Bool :=
  sB3 (Nat.beq t (nat_lit 0)) (sB3 (Nat.beq t (nat_lit 1)) (sB3 (Nat.beq t (nat_lit 2)) (sB3 (Nat.beq t (nat_lit 3)) (sB3 (Nat.beq t (nat_lit 4)) (sB3 (Nat.beq t (nat_lit 5)) (sB3 (Nat.beq t (nat_lit 6)) (sB3 (Nat.beq t (nat_lit 7)) (sB3 (Nat.beq t (nat_lit 8)) (sB3 (Nat.beq t (nat_lit 9)) false
    (sMkR a me kr st pa mem))
    (sB3 (Nat.beq a (nat_lit 67)) (sMkX FX d a go nx L st pa mem nc ns) (sMkC PC ih d N0 a go me nx L st pa mem nc ns)))
    (sMkC PC ih d N0 a go me nx L st pa mem nc ns))
    (sTR st (fun _ st => sIf (Nat.ble (sCats st) (nat_lit 8)) (go nx L st pa mem nc ns))))
    (sMkP a go nx L st pa mem nc ns))
    (sMkS go nx L st pa mem nc ns))
    (sMkG N0 go me nx L st pa mem nc ns))
    (sMkA N0 (nat_lit 5) (.inr (.inr none)) go me nx L st pa mem nc ns))
    (sB3 (Nat.beq a (nat_lit 4)) (sMkA N0 a (.inl (.natCast 0)) go me nx L st pa mem nc ns) (sMkA N0 a (.inr (.inl (.natCast 0))) go me nx L st pa mem nc ns)))
    (sMkN N0 [(0, a, sNewF a)] (nat_lit 1) (sNn a) go me nx L st pa mem nc ns)
noncomputable def sy (PC : Nat → sMc) (FX : Nat) (fuel : Nat) : sIh := Nat.rec (motive := fun _ => sIh) (fun _ _ _ _ _ _ _ _ _ _ _ => false)
  (fun _ ih d me N0 kr pc L st pa mem nc ns => Prod.rec (motive := fun _ => Bool) (fun pc1 w => Prod.rec (motive := fun _ => Bool) (fun ir w => sIf (Nat.beq pc pc1) (Sum.rec (motive := fun _ => Bool)
    (fun f => f w.1 L st pa mem (fun pc L st pa mem => ih d me N0 kr pc L st pa mem nc ns))
    (fun z => sMk PC FX ih d N0 me kr (ih d me N0 kr) w.1 L st pa mem nc ns z.1 z.2) (sOq ir))) w) (me.1.get pc)) fuel
theorem sy_step {PC : Nat → sMc} {FX n d N0 : Nat} {me : sMc} {kr : sKr} {pc : Nat} {L : sL} {st : List sV} {pa : List sK} {mem : sM} {nc ns : Nat} (h : sy PC FX (n + 1) d me N0 kr pc L st pa mem nc ns = true) :
    ∃ ir nx aux, me.1.get pc = (pc, ir, nx, aux) ∧ ((∃ f, sOq ir = .inl f ∧ f nx L st pa mem (fun pc L st pa mem => sy PC FX n d me N0 kr pc L st pa mem nc ns) = true) ∨ ∃ t a, sOq ir = .inr (t, a) ∧ sMk PC FX (sy PC FX n) d N0 me kr (sy PC FX n d me N0 kr) nx L st pa mem nc ns t a = true) := by
  obtain ⟨pc1, ir, nx, aux, hg⟩ : ∃ pc1 ir nx aux, me.1.get pc = (pc1, ir, nx, aux) := ⟨_, _, _, _, rfl⟩
  have h2 : sIf (Nat.beq pc pc1) (Sum.rec (motive := fun _ => Bool)
    (fun f => f nx L st pa mem (fun pc L st pa mem => sy PC FX n d me N0 kr pc L st pa mem nc ns))
    (fun z => sMk PC FX (sy PC FX n) d N0 me kr (sy PC FX n d me N0 kr) nx L st pa mem nc ns z.1 z.2) (sOq ir)) = true := by
    have h3 := h
    unfold sy at h3
    simp only [hg] at h3
    exact h3
  obtain ⟨h4, h5⟩ := sIf_ok h2
  have e0 : pc = pc1 := Nat.eq_of_beq_eq_true h4
  subst e0
  refine ⟨ir, nx, aux, hg, ?_⟩
  cases ho : sOq ir with
  | inl f =>
    rw [ho] at h5
    exact Or.inl ⟨f, rfl, h5⟩
  | inr z =>
    rw [ho] at h5
    exact Or.inr ⟨z.1, z.2, rfl, h5⟩
end
section
/-! 20: the executor of makers is sound -/
def sRelC (MC : Nat → sMi) (own nm : String) (cc : ByteArray) (q : sIn) : Prop := match q with
  | (pc, ir, nx, aux) => match ir with
    | .new ci => ∃ idx C T N, decode cc pc = .ok (.new idx, 3) ∧ nx = pc + 3 ∧ ci < 12 ∧ vwCl[ci]? = some (C, T, N) ∧ Cond.classLink own idx C ∈ sTb ∧ Cond.instantiable C N ∈ sTb ∧ Cond.initialized C ∈ sTb
    | .newarray t => decode cc pc = .ok (.newarray t, 2) ∧ nx = pc + 2
    | .anewarray _ => ∃ idx, decode cc pc = .ok (.anewarray idx, 3) ∧ nx = pc + 3 ∧ Cond.classLink own idx "SwapTables$Shelf" ∈ sTb
    | .multianewarray _ _ => ∃ idx, decode cc pc = .ok (.multianewarray idx 2, 4) ∧ nx = pc + 4 ∧ Cond.classLink own idx "[[I" ∈ sTb
    | .aastore => decode cc pc = .ok (.aastore, 1) ∧ nx = pc + 1
    | .checkcast n => ∃ idx C T N ty, decode cc pc = .ok (.putfield idx, 3) ∧ nx = pc + 3 ∧ vwCl[n / 64]? = some (C, T, N) ∧ n % 64 < N ∧ Cond.fieldLink own idx (T (n % 64)).1 (T (n % 64)).2.1 (T (n % 64)).2.2.1 ∈ sTb ∧ (T (n % 64)).2.2.2 = true ∧ (T (n % 64)).1 = own ∧ parseFieldDescriptor (T (n % 64)).2.2.1 = some ty ∧ ((∃ n, ty = .object n) ∨ ∃ t, ty = .array t) ∧ nm = "<init>"
    | .pop => ∃ idx, decode cc pc = .ok (.invokespecial idx, 3) ∧ nx = pc + 3 ∧ Cond.methodLink own idx Lib.objectInit ∈ sTb
    | .invokespecial k => ∃ idx, decode cc pc = .ok (.invokespecial idx, 3) ∧ nx = pc + 3 ∧ sLinkM own idx (MC k).1 ∧ (MC k).1.name = "<init>"
    | .invokestatic k => ∃ idx, decode cc pc = .ok (.invokestatic idx, 3) ∧ nx = pc + 3 ∧ ((k = 67 ∧ sLinkM own idx (MC k).1 ∧ (MC k).1.name ≠ "<init>") ∨ (k ≠ 67 ∧ sLinkM own idx (MI k).1 ∧ (PG k).2.2.2.1 = 99))
    | .invokevirtual k => ∃ idx, decode cc pc = .ok (.invokevirtual idx, 3) ∧ nx = pc + 3 ∧ k ≠ 67 ∧ sLinkM own idx (MI k).1 ∧ (PG k).2.2.2.1 ≠ 99
    | ir => sRel MI PG own cc (pc, ir, nx, aux)
def sMokC (me : sMc) (mi : sMi) : Prop := Cond.code mi.1 mi.2.1 mi.2.2.1 mi.2.2.2 ∈ sTb ∧ Cond.initialized mi.1.cls ∈ sTb ∧ (mi.1.cls ≠ "java/lang/invoke/MethodHandle" ∧ mi.1.cls ≠ "java/lang/invoke/VarHandle") ∧ plainName mi.1.cls = true ∧ me.2.1 = mi.2.2.1 ∧ mi.2.2.1 + 19 ≤ 64 ∧
  ((mi.1.name = "<init>" ∧ Cond.instanceMethod mi.1 ∈ sTb ∧ (∃ n, (parseMethodDescriptor mi.1.desc).map (fun d => d.parameters.length) = some n ∧ me.2.2.1 = n + 1) ∧ me.2.2.2.1 = 0 ∧ mi.2.2.2 = none) ∨
   (mi.1.name ≠ "<init>" ∧ Cond.static mi.1 ∈ sTb ∧ (parseMethodDescriptor mi.1.desc).map (fun d => d.parameters.length) = some me.2.2.1 ∧ me.2.2.2.1 = 4 ∧ ∃ rt, mi.2.2.2 = some rt ∧ ((∃ n, rt = .object n) ∨ ∃ t, rt = .array t)))
def sGoodC (MC : Nat → sMi) (PC : Nat → sMc) : Prop := ∀ k, sMokC (PC k) (MC k) ∧ ∀ pc, sRelC MC (MC k).1.cls (MC k).1.name (MC k).2.1 ((PC k).1.get pc)
/-- words for making -/
def sMkw : Prop := Cond.instanceMethod Lib.objectInit ∈ sTb ∧ Cond.code Lib.objectInit ⟨#[0xb1]⟩ 1 none ∈ sTb ∧ Cond.arrayClass .int ∈ sTb ∧ Cond.arrayClass .byte ∈ sTb ∧ Cond.arrayClass .boolean ∈ sTb ∧ Cond.arrayClass .long ∈ sTb
def sFldC : Prop := ∀ (ci : Nat) (C : String) (T : u_T) (N : Nat), vwCl[ci]? = some (C, T, N) → N = sNn ci ∧ ∀ k, k < N → parseFieldDescriptor (T k).2.2.1 = some (sTy ci k)
def sRmC (d mc ms : Nat) : Room := { frames := d + 1, cells := mc, slots := ms, locals := 64 * (d + 1) }
def sAO (U : State) : Prop := va_AO "SwapTables$Shelf" U ∧ va_AOA .int U
theorem va_AOA.alike {t : FieldType} {u U : State} (hvm : u.vm.Alike U.vm) (h : va_AOA t u) : va_AOA t U := over_moved hvm h
def sQcC (D : va_G) (cy : Nat → ClassId) (hid : Nat → va_E) (rest : va_W) (r : sE) (al : Nat → Nat) (N : Nat) (A : Nat → Prop) (kr : sKr) : Array Value → State → Outcome → State → Prop := fun _ st o t => (∃ (al2 : Nat → Nat) (v : Option sV) (pa : List sK) (mem : sM), sAg N al al2 ∧ kr v pa mem = true ∧ sPa r pa ∧ o = .returned (v.map (sVal r al2)) ∧ va_P D vwCl (sW r al2 cy hid rest mem) t.heap ∧ va_K D vwCl (sT cy) t ∧ va_D A (sW r al2 cy hid rest mem)) ∧ va_F A st t
def sPreC (D : va_G) (cy : Nat → ClassId) (hid : Nat → va_E) (rest : va_W) (r : sE) (al : Nat → Nat) (mem : sM) (sz : Nat) (U : State) : Prop := sPre D cy hid rest r al mem sz U ∧ sAO U
theorem sPreC_blind {D : va_G} {cy : Nat → ClassId} {hid : Nat → va_E} {rest : va_W} {r : sE} {al : Nat → Nat} {mem : sM} {sz : Nat} {av : List Value} : FrameBlind (va_Pc av (sPreC D cy hid rest r al mem sz)) := fun a U g mk q => by
  obtain ⟨q0, q1, q2, q3⟩ := q
  have h1 := sPre_blind (av := av) a U g mk ⟨q0, q1⟩
  exact ⟨q0, h1.2, va_AO.moved (u := U) (U := U.calling g mk a) (Vm.Alike.refl U.vm) q2, va_AOA.alike (u := U) (U := U.calling g mk a) (Vm.Alike.refl U.vm) q3⟩
def sMetC (MC : Nat → sMi) (PC : Nat → sMc) (l : Launch) (D : va_G) (cy : Nat → ClassId) (hid : Nat → va_E) (rest : va_W) (r : sE) (al : Nat → Nat) (d k : Nat) (mem : sM) (as : List sV) (kr : sKr) : Prop :=
  ∀ sz : Nat, Met l (MC k).1 (Cond.code (MC k).1 (MC k).2.1 (MC k).2.2.1 (MC k).2.2.2 :: sTb) (sRmC d (PC k).2.2.2.2.1 (PC k).2.2.2.2.2) (va_Pc (as.map (sVal r al)) (sPreC D cy hid rest r al mem sz)) (sQcC D cy hid rest r al mem.length (va_A (sW r al cy hid rest mem) sz) kr) (PC k).2.2.2.2.1 (PC k).2.2.2.2.2 (va_A (sW r al cy hid rest mem) sz)
def sCy (MC : Nat → sMi) (PC : Nat → sMc) (k d : Nat) (D : va_G) (cy : Nat → ClassId) (A : Nat → Prop) (p : Program) (R : Room) (s : State) (m : MethodId) (args : Array Value) (meth : Method) (c : Code) : Prop :=
  p.tables.exec = Jvm.exec ∧ c.code = (MC k).2.1 ∧ c.maxLocals = (MC k).2.2.1 ∧ s.vm.findClass (MC k).1.cls = some m.cls ∧ (∀ w ∈ sTb, w.before args s = true) ∧ sNw s ∧ va_K D vwCl (sT cy) s ∧ sAO s ∧ (∀ q, s.heap.size ≤ q → A q) ∧ d + 1 ≤ R.frames ∧ 64 * (d + 1) ≤ R.locals ∧ R.cells = (PC k).2.2.2.2.1 ∧ R.slots = (PC k).2.2.2.2.2 ∧ meth.sig.returnType = (MC k).2.2.2 ∧ meth.locks = false ∧ meth.name = (MC k).1.name
theorem sSt.ag {al al2 : Nat → Nat} {n : Nat} (h : sAg n al al2) {A : Nat → Prop} {U : State} {H : Heap} (hs : sSt al A U H) : sSt al2 A U H := by
  unfold sSt at hs ⊢
  rw [h 1000000 (Or.inr (Nat.le_refl _)), h 1000001 (Or.inr (by omega))]
  exact hs
theorem sAg.rf (n : Nat) (al : Nat → Nat) : sAg n al al := fun _ _ => rfl
theorem sAg.trans {n n2 : Nat} {a b c : Nat → Nat} (h1 : sAg n a b) (hn : n ≤ n2) (h2 : sAg n2 b c) : sAg n a c := fun i hi => (h2 i (hi.imp (fun q => Nat.lt_of_lt_of_le q hn) id)).trans (h1 i hi)
section SYO
variable {D : va_G} {cy : Nat → ClassId} {r : sE} {hid : Nat → va_E} {rest : va_W}
theorem s_callC {p : Program} {l : Launch} {e : Env} {R : Room} {s : State} {m : MethodId} {args : Array Value} {below : List Frame} {meth : Method} {c : Code} {H : Heap} {locs : List Loc} {Q : State → Prop} {pc cells slots mc ms N : Nat} {ls : Array Slot} {st0 rs : List Value} {a : Array Value} {A A1 free : Nat → Prop} {kr : sKr} {al : Nat → Nat}
    (hr : va_Run p l e R s m args below meth c H locs cells slots mc ms (F0 m pc ls st0) rs (sQcC D cy hid rest r al N A1 kr a) free) (hS : va_S A s.heap H locs) (hA : ∀ q, q < H.size → A1 q → A q) (hf : ∀ q, free q → A q)
    (kk : ∀ (al2 : Nat → Nat) (v : Option sV) (pa : List sK) (mem : sM) (H1 : Heap) (locs1 : List Loc), sAg N al al2 → kr v pa mem = true → sPa r pa → va_P D vwCl (sW r al2 cy hid rest mem) H1 → va_D A1 (sW r al2 cy hid rest mem) → va_S A s.heap H1 locs1 → W p l e R s m args below meth c H1 locs1 (cells + mc) (slots + ms) Q (F0 m (pc + 3) ls ((v.map (sVal r al2)).toList ++ rs))) : W p l e R s m args below meth c H locs cells slots Q (F0 m pc ls st0) := by
  intro T hT X
  obtain ⟨v, st₀, t, T', L, h0, X', hL, e1, e2, ⟨⟨al2, v1, pa, mem, k0, k1, k2, hv, k3, k4, k5⟩, hz, hk⟩, st⟩ := hr T hT X
  cases hv
  rw [h0] at hz hk
  obtain ⟨t2, a1, b1⟩ := kk al2 v1 pa mem T'.heap (locs ++ L) k0 k1 k2 (by rw [e1]; exact k3) k5
    ⟨Nat.le_trans hS.1 (by rw [e1]; exact hz), fun q h1 h2 => by rw [e1, hk q (Nat.lt_of_lt_of_le h1 hS.1) (fun z => h2 (hA q (Nat.lt_of_lt_of_le h1 hS.1) z))]; exact hS.2.1 q h1 h2, fun q hq => by
      rcases List.mem_append.mp hq with h | h
      · exact hS.2.2 q h
      · exact hf _ (hL q h)⟩ T' rfl X'
  exact ⟨t2, st t2 a1, b1⟩
def sYok (MC : Nat → sMi) (PC : Nat → sMc) (FX : Nat) (l : Launch) (D : va_G) (cy : Nat → ClassId) (hid : Nat → va_E) (rest : va_W) (r : sE) (n : Nat) : Prop :=
  ∀ (k d N0 : Nat) (al0 : Nat → Nat) (A : Nat → Prop) (p : Program) (e : Env) (R : Room) (s : State) (m : MethodId) (args : Array Value) (below : List Frame) (meth : Method) (c : Code) (Qc : Array Value → State → Outcome → State → Prop) (free : Addr → Prop) (kr : sKr),
    sCy MC PC k d D cy A p R s m args meth c → sSt al0 A s s.heap →
    (∀ (al : Nat → Nat) (v : Option sV) (pa : List sK) (mem : sM) (H : Heap) (locs : List Loc), sAg N0 al0 al → kr v pa mem = true → sPa r pa → sLv D cy A r al hid rest s.heap mem H locs → ∀ t : State, t.heap = H → s.WarmedH t.vm → Qc args s (.returned (v.map (sVal r al))) t) →
    (∀ q, A q → free q) →
    ∀ (al : Nat → Nat), sAg N0 al0 al → ∀ (pc : Nat) (L : sL) (st : List sV) (pa : List sK) (mem : sM) (nc ns : Nat) (H : Heap) (locs : List Loc) (ls : Array Slot), sy PC FX n d (PC k) N0 kr pc L st pa mem nc ns = true → nc ≤ (PC k).2.2.2.2.1 → ns ≤ (PC k).2.2.2.2.2 → sPa r pa → sLv D cy A r al hid rest s.heap mem H locs → sLo r al ls (MC k).2.2.1 L →
      W p l e R s m args below meth c H locs nc ns (MQ below Qc args s (PC k).2.2.2.2.1 (PC k).2.2.2.2.2 free) (F0 m pc ls (st.map (sVal r al)))
theorem sMetC_of {MC : Nat → sMi} {PC : Nat → sMc} {FX : Nat} {l : Launch} (hG : sGoodC MC PC) {n : Nat} (hW : sYok MC PC FX l D cy hid rest r n) {k d : Nat} {mem : sM} {as : List sV} {pa : List sK} {kr : sKr} {al : Nat → Nat} (hp : sPa r pa) (h : sEnt as (PC k).2.1 (fun L => sy PC FX n d (PC k) mem.length kr (nat_lit 0) L [] pa mem (nat_lit 0) (nat_lit 0)) = true) : sMetC MC PC l D cy hid rest r al d k mem as kr := by
  intro sz
  obtain ⟨⟨c1, c2, c3, c4, c5, c6, c7⟩, -⟩ := hG k
  refine Met.ofW (cc := (MC k).2.1) (maxL := (MC k).2.2.1) (ret := (MC k).2.2.2) c4 rfl ?_
  intro p e s m args below meth c s₁ B hml hv
  obtain ⟨rfl, ⟨hsz, hP, hK, hD0, hst, hNw⟩, hAO⟩ := hv
  subst hsz
  have hts := atoms_spec (ws := Cond.code (MC k).1 (MC k).2.1 (MC k).2.2.1 (MC k).2.2.2 :: sTb) B.pre
  have hown : s.vm.findClass (MC k).1.cls = some m.cls := findClass_of_methodNamed B.named
  have hD := hD0.self (sz := s.heap.size)
  have hA : ∀ q : Nat, s.heap.size ≤ q → va_A (sW r al cy hid rest mem) s.heap.size q := fun q h => Or.inr h
  obtain ⟨L, h1, h2, h3, h4⟩ := sEnt_ok (r := r) (al := al) _ _ _ h
  rw [c5] at h2 h3
  have hl := lv_entry (as.map (sVal r al)) (n := (MC k).2.2.1) h3
  rw [lg_entry_eq]
  generalize (lg_sl (as.map (sVal r al)) ++ List.replicate ((MC k).2.2.1 - (lg_sl (as.map (sVal r al))).length) Slot.unset).toArray = ls at hl ⊢
  have hlo : sLo r al ls (MC k).2.2.1 L := ⟨hl.1, hl.2.1, fun i v q => hl.2.2 (i, sVal r al v) (by have := h4 0 i v q; rwa [Nat.zero_add] at this), h2⟩
  have X : sCy MC PC k d D cy (va_A (sW r al cy hid rest mem) s.heap.size) p (headSpec (Cond.code (MC k).1 (MC k).2.1 (MC k).2.2.1 (MC k).2.2.2 :: sTb) (sRmC d (PC k).2.2.2.2.1 (PC k).2.2.2.2.2)).room s m (as.map (sVal r al)).toArray meth c :=
    ⟨B.exec, B.bytes, hml, hown, fun w h => hts w (List.mem_cons_of_mem _ h), hNw, hK, hAO, hA, Nat.le_refl _, Nat.le_refl _, rfl, rfl, B.returns, B.notSynchronized, (name_of_methodNamed B.named B.method).1⟩
  refine hW k d mem.length al _ p e _ s m _ below meth c _ _ kr X hst ?_ (fun q h => h) al (sAg.rf _ _) 0 L [] pa mem 0 0 s.heap [] ls h1 (Nat.zero_le _) (Nat.zero_le _) hp ⟨hP, hD, va_S.rf⟩ hlo
  intro al2 v pa1 mem1 H1 locs1 q0 q1 q2 q3 t ht hw
  exact ⟨⟨al2, v, pa1, mem1, q0, q1, q2, rfl, by rw [ht]; exact q3.1, va_K.moved hw.alike hK, q3.2.1⟩, q3.2.2.F ht⟩
end SYO
end
section
/-! 21: the main induction for makers -/
section SYM
variable {D : va_G} {cy : Nat → ClassId} {r : sE} {hid : Nat → va_E} {rest : va_W}
set_option maxHeartbeats 8000000 in
theorem sy_w {MC : Nat → sMi} {PC : Nat → sMc} {FX : Nat} {l : Launch} (hG : sGoodC MC PC) (hM : sMkw) (hFC : sFldC) : ∀ n : Nat, sYok MC PC FX l D cy hid rest r n := by
  intro n
  induction n with
  | zero => intro k d N0 al0 A p e R s m args below meth c Qc free kr X hst0 hkr hfree al hag pc L st pa mem nc ns H locs ls h; exact nomatch (show false = true from h)
  | succ n ih =>
    intro k d N0 al0 A p e R s m args below meth c Qc free kr X hst0 hkr hfree al hag pc L st pa mem nc ns H locs ls h hnc hns hp hv hl
    have ihk := ih k d N0 al0 A p e R s m args below meth c Qc free kr X hst0 hkr hfree
    have hst := hst0.ag hag
    obtain ⟨hx, hb, hml, hown, hts, hNw, hK, hAO, hA, hfr, hlo, hRc, hRs, hret, hlocks, hname⟩ := X
    obtain ⟨⟨c1, c2, c3, c4, c5, c6, c7⟩, hR⟩ := hG k
    obtain ⟨ir, nx, aux, hg, h⟩ := sy_step h
    have hrel := hR pc
    rw [hg] at hrel
    have hFcA : ∀ q, va_A (sW r al cy hid rest mem) H.size q → A q := fun q hq => by
      rcases hq with ⟨j, en, hj⟩ | hq
      · exact hv.2.1.2 j _ hj
      · exact hA q (Nat.le_trans hv.2.2.1 hq)
    have hfl : ∀ q ∈ locs, free q.base := fun q hq => hfree _ (hv.2.2.2.2 q hq)
    have callX : ∀ {a : Nat} (idx : Nat), (decode (MC k).2.1 pc = .ok (.invokestatic idx, 3) ∧ (PG a).2.2.2.1 = 99) ∨ (decode (MC k).2.1 pc = .ok (.invokevirtual idx, 3) ∧ (PG a).2.2.2.1 ≠ 99) → nx = pc + 3 → sLinkM (MC k).1.cls idx (MI a).1 → sMkX FX d a (sy PC FX n d (PC k) N0 kr) nx L st pa mem nc ns = true → W p l e R s m args below meth c H locs nc ns (MQ below Qc args s (PC k).2.2.2.2.1 (PC k).2.2.2.2.2 free) (F0 m pc ls (st.map (sVal r al))) := by
      intro a idx g1 g2 g3 h2
      subst g2
      cases d with
      | zero => exact nomatch (show false = true from h2)
      | succ d1 =>
        obtain ⟨as, st1, rfl, hna, h3⟩ := sPop_ok _ _ _ _ (show sPop (PG a).2.2.1 st [] (fun as st => sIf (Nat.ble (sCats st) (nat_lit 8)) (sRecv mem (PG a).2.2.2.1 as (sEnt as (PG a).2.1 (fun L1 => sx PG FX d1 (PG a) (fun _ => false) (fun _ _ _ _ _ => false) (fun v pa mem => sPush v st (fun st => sy PC FX n (d1 + 1) (PC k) N0 kr (pc + 3) L st pa mem nc ns)) (nat_lit 0) L1 [] pa mem)))) = true from h2)
        rw [List.append_nil] at h3
        obtain ⟨h4, h5⟩ := sIf_ok h3
        obtain ⟨h6, h7⟩ := sRecv_ok h5
        obtain ⟨⟨b1, b2, b3, b4, b5, b6, b7, b8⟩, -⟩ := sGood_ok a
        have hMm := sMet_of (al := al) (D := D) (cy := cy) (hid := hid) (rest := rest) sGood_ok (sx_w (l := l) sGood_ok sFld_ok sCpw_ok FX) hp h6 H.size
        have hcat : ((st1.map (sVal r al)).map fun v => v.category).sum ≤ 8 := by
          rw [sCats_ok]
          exact Nat.le_of_ble_eq_true h4
        have hpre : ∀ U : State, U.heap = H → s.WarmedH U.vm → va_Pc (as.map (sVal r al)) (sPre D cy hid rest r al mem H.size) (as.map (sVal r al)).toArray U := fun U hU hw =>
          ⟨rfl, by rw [hU], by rw [hU]; exact hv.1, va_K.moved hw.alike hK, hv.2.1.weaken (fun _ _ _ _ => trivial), by
            rw [hU]
            exact ((hst.kept (fun a h1 h2 => hv.2.2.2.1 a h1 h2)).narrow hFcA).moved hw.alike, hNw.warm hw⟩
        have hroom : (sRm d1).frames + 1 ≤ R.frames ∧ 8 + ((MI a).2.2.1 + 11) + (sRm d1).locals ≤ R.locals := ⟨hfr, by show 8 + ((MI a).2.2.1 + 11) + 64 * (d1 + 1) ≤ R.locals; omega⟩
        have hgi := lw_goodIn b1
        have hcs : nc + 0 ≤ R.cells ∧ ns + 0 ≤ R.slots := ⟨by rw [hRc]; exact hnc, by rw [hRs]; exact hns⟩
        have cont : ∀ (v : Option sV) (pa1 : List sK) (mem1 : sM) (H1 : Heap) (locs1 : List Loc), sPush v st1 (fun st => sy PC FX n (d1 + 1) (PC k) N0 kr (pc + 3) L st pa1 mem1 nc ns) = true → sPa r pa1 → va_P D vwCl (sW r al cy hid rest mem1) H1 → va_D (va_A (sW r al cy hid rest mem) H.size) (sW r al cy hid rest mem1) → va_S A s.heap H1 locs1 → W p l e R s m args below meth c H1 locs1 nc ns (MQ below Qc args s (PC k).2.2.2.2.1 (PC k).2.2.2.2.2 free) (F0 m (pc + 3) ls ((v.map (sVal r al)).toList ++ st1.map (sVal r al))) := by
          intro v pa1 mem1 H1 locs1 q1 q2 q3 q4 q5
          have hv1 : sLv D cy A r al hid rest s.heap mem1 H1 locs1 := ⟨q3, q4.weaken (fun j y hy hz => hFcA _ hz), q5⟩
          cases v with
          | none => exact ihk al hag _ _ _ _ _ _ _ H1 locs1 ls q1 hnc hns q2 hv1 hl
          | some v => exact ihk al hag _ _ _ _ _ _ _ H1 locs1 ls (show sy PC FX n (d1 + 1) (PC k) N0 kr (pc + 3) L (v :: st1) pa1 mem1 nc ns = true from q1) hnc hns q2 hv1 hl
        have hstk : (as.reverse ++ st1).map (sVal r al) = (as.map (sVal r al)).reverse ++ st1.map (sVal r al) := by rw [List.map_append, List.map_reverse]
        rw [hstk]
        rcases g1 with ⟨g1, g4⟩ | ⟨g1, g4⟩
        · rcases b7 with ⟨-, w1, w2⟩ | ⟨w0, -⟩
          · have hn : (as.map (sVal r al)).length = (PG a).2.2.1 := by rw [List.length_map]; exact hna
            rcases g3 with g3 | ⟨host, g3⟩
            · exact s_call (va_runS ⟨hx, hb, hml, hown, hts⟩ hMm ⟨callB_of (PG a).2.2.1 hts hgi rfl rfl rfl (hts _ b2) (hts _ g3) ⟨b3.1, b3.2, w2⟩ hroom, hts _ w1⟩ ⟨sPre_blind, hpre⟩ rfl hn hl.1 rfl (lv_room hcat) g1 hcs) hv.2.2 (fun q _ h => hFcA q h) hFcA cont
            · exact s_call (va_runSN ⟨hx, hb, hml, hown, hts⟩ hMm ⟨va_cnB (PG a).2.2.1 hts hgi rfl rfl rfl (hNw _ g3) (hts _ b2) ⟨b3.1, b3.2, w2⟩ hroom, hts _ w1, trivial⟩ ⟨sPre_blind, hpre⟩ rfl hn hl.1 rfl (lv_room hcat) g1 hcs) hv.2.2 (fun q _ h => hFcA q h) hFcA cont
          · exact absurd g4 w0
        · rcases b7 with ⟨w0, -⟩ | ⟨-, w1, w2, ⟨T, N, w3⟩, nn, w4, w5⟩
          · exact absurd w0 g4
          · obtain ⟨q0, as1, vs, rfl, hq⟩ := h7 g4
            have he := sW_get (r := r) (al := al) (cy := cy) (hid := hid) (rest := rest) hq
            have hrecv := va_recv hK hv.1 w3 he
            have hn : (as1.map (sVal r al)).length = nn := by
              rw [List.length_map]
              rw [List.length_cons] at hna
              omega
            have hst2 : (F0 m pc ls (((.inr (.inr (some q0)) :: as1 : List sV).map (sVal r al)).reverse ++ st1.map (sVal r al))).stack = (as1.map (sVal r al)).reverse ++ .ref (al q0) :: st1.map (sVal r al) := by simp [sVal]
            rcases g3 with g3 | ⟨host, g3⟩
            · exact s_call (va_runV (C := (MI a).1.cls) (As := as1.map (sVal r al)) (b := al q0) ⟨hx, hb, hml, hown, hts⟩ hMm ⟨callB_of nn hts hgi rfl rfl rfl (hts _ b2) (hts _ g3) ⟨b3.1, b3.2, w4⟩ hroom, hts _ w1, hts _ w2⟩ ⟨sPre_blind, hrecv, hpre⟩ rfl hn hl.1 hst2 (lv_room hcat) g1 hcs) hv.2.2 (fun q _ h => hFcA q h) hFcA cont
            · exact s_call (va_runVN (C := (MI a).1.cls) (As := as1.map (sVal r al)) (b := al q0) ⟨hx, hb, hml, hown, hts⟩ hMm ⟨va_cnB nn hts hgi rfl rfl rfl (hNw _ g3) (hts _ b2) ⟨b3.1, b3.2, w4⟩ hroom, hts _ w1, hts _ w2⟩ ⟨sPre_blind, hrecv, hpre⟩ rfl hn hl.1 hst2 (lv_room hcat) g1 hcs) hv.2.2 (fun q _ h => hFcA q h) hFcA cont
    have callC : ∀ {a : Nat} (idx : Nat), (decode (MC k).2.1 pc = .ok (.invokespecial idx, 3) ∧ (MC a).1.name = "<init>") ∨ (decode (MC k).2.1 pc = .ok (.invokestatic idx, 3) ∧ (MC a).1.name ≠ "<init>") → nx = pc + 3 → sLinkM (MC k).1.cls idx (MC a).1 → sMkC PC (sy PC FX n) d N0 a (sy PC FX n d (PC k) N0 kr) (PC k) nx L st pa mem nc ns = true → W p l e R s m args below meth c H locs nc ns (MQ below Qc args s (PC k).2.2.2.2.1 (PC k).2.2.2.2.2 free) (F0 m pc ls (st.map (sVal r al))) := by
      intro a idx g1 g2 g3 h2
      subst g2
      cases d with
      | zero => exact nomatch (show false = true from h2)
      | succ d1 =>
        obtain ⟨as, st1, rfl, hna, h3⟩ := sPop_ok _ _ _ _ (show sPop (PC a).2.2.1 st [] (fun as st => sIf (Nat.ble (sCats st) (nat_lit 8)) (sIf (sBd2 (sLn mem) L st) (sIf (Bool.and (Nat.ble N0 (sLn mem)) (Nat.ble (sLn mem) (nat_lit 999000))) (sIf (Bool.and (Nat.ble (Nat.add nc (PC a).2.2.2.2.1) (PC k).2.2.2.2.1) (Nat.ble (Nat.add ns (PC a).2.2.2.2.2) (PC k).2.2.2.2.2)) (sB3 (Nat.beq (PC a).2.2.2.1 (nat_lit 0)) (sMkD (sy PC FX n) d1 (PC a) (sy PC FX n (d1 + 1) (PC k) N0 kr) (pc + 3) L st as pa mem nc ns) (sTR as (fun _ _ => sMkD (sy PC FX n) d1 (PC a) (sy PC FX n (d1 + 1) (PC k) N0 kr) (pc + 3) L st as pa mem nc ns))))))) = true from h2)
        rw [List.append_nil] at h3
        obtain ⟨h4, h5⟩ := sIf_ok h3
        obtain ⟨h6, h7⟩ := sIf_ok h5
        obtain ⟨h8, h9⟩ := sIf_ok h7
        obtain ⟨h10, h11⟩ := sIf_ok h9
        rw [sLn_ok] at h6 h8
        rw [Bool.and_eq_true] at h8 h10
        unfold sBd2 at h6
        rw [Bool.and_eq_true] at h6
        have j1 : N0 ≤ mem.length := Nat.le_of_ble_eq_true h8.1
        have j2 : mem.length ≤ 999000 := Nat.le_of_ble_eq_true h8.2
        have j3 : nc + (PC a).2.2.2.2.1 ≤ (PC k).2.2.2.2.1 := Nat.le_of_ble_eq_true h10.1
        have j4 : ns + (PC a).2.2.2.2.2 ≤ (PC k).2.2.2.2.2 := Nat.le_of_ble_eq_true h10.2
        obtain ⟨⟨b1, b2, b3, b4, b5, b6, b7⟩, -⟩ := hG a
        have hbody : sMkD (sy PC FX n) d1 (PC a) (sy PC FX n (d1 + 1) (PC k) N0 kr) (pc + 3) L st1 as pa mem nc ns = true ∧ ((PC a).2.2.2.1 = 0 → ∃ q0 as1, as = .inr (.inr (some q0)) :: as1) := by
          cases hq : Nat.beq (PC a).2.2.2.1 (nat_lit 0) with
          | true =>
            rw [hq] at h11
            obtain ⟨q0, as1, e1, e2⟩ := sTR_ok (show sTR as (fun _ _ => sMkD (sy PC FX n) d1 (PC a) (sy PC FX n (d1 + 1) (PC k) N0 kr) (pc + 3) L st1 as pa mem nc ns) = true from h11)
            exact ⟨e2, fun _ => ⟨q0, as1, e1⟩⟩
          | false =>
            rw [hq] at h11
            refine ⟨h11, fun e1 => ?_⟩
            rw [e1] at hq
            exact nomatch hq
        obtain ⟨h12, hrcv⟩ := hbody
        unfold sMkD at h12
        simp only [sFc_eq, sLn_ok] at h12
        have hMm := sMetC_of (al := al) hG ih hp h12 H.size
        have hcat : ((st1.map (sVal r al)).map fun v => v.category).sum ≤ 8 := by
          rw [sCats_ok]
          exact Nat.le_of_ble_eq_true h4
        have hpre : ∀ U : State, U.heap = H → s.WarmedH U.vm → va_Pc (as.map (sVal r al)) (sPreC D cy hid rest r al mem H.size) (as.map (sVal r al)).toArray U := fun U hU hw =>
          ⟨rfl, ⟨by rw [hU], by rw [hU]; exact hv.1, va_K.moved hw.alike hK, hv.2.1.weaken (fun _ _ _ _ => trivial), by
            rw [hU]
            exact ((hst.kept (fun a h1 h2 => hv.2.2.2.1 a h1 h2)).narrow hFcA).moved hw.alike, hNw.warm hw⟩, hAO.1.moved hw.alike, va_AOA.alike hw.alike hAO.2⟩
        have hroom : (sRmC d1 (PC a).2.2.2.2.1 (PC a).2.2.2.2.2).frames + 1 ≤ R.frames ∧ 8 + ((MC a).2.2.1 + 11) + (sRmC d1 (PC a).2.2.2.2.1 (PC a).2.2.2.2.2).locals ≤ R.locals := ⟨hfr, by show 8 + ((MC a).2.2.1 + 11) + 64 * (d1 + 1) ≤ R.locals; omega⟩
        have hgi := lw_goodIn b1
        have hcs : nc + (PC a).2.2.2.2.1 ≤ R.cells ∧ ns + (PC a).2.2.2.2.2 ≤ R.slots := ⟨by rw [hRc]; exact j3, by rw [hRs]; exact j4⟩
        have cont : ∀ (al2 : Nat → Nat) (v : Option sV) (pa1 : List sK) (mem1 : sM) (H1 : Heap) (locs1 : List Loc), sAg mem.length al al2 → sPush v st1 (fun st => sy PC FX n (d1 + 1) (PC k) N0 kr (pc + 3) L st pa1 mem1 (Nat.add nc (PC a).2.2.2.2.1) (Nat.add ns (PC a).2.2.2.2.2)) = true → sPa r pa1 → va_P D vwCl (sW r al2 cy hid rest mem1) H1 → va_D (va_A (sW r al cy hid rest mem) H.size) (sW r al2 cy hid rest mem1) → va_S A s.heap H1 locs1 → W p l e R s m args below meth c H1 locs1 (nc + (PC a).2.2.2.2.1) (ns + (PC a).2.2.2.2.2) (MQ below Qc args s (PC k).2.2.2.2.1 (PC k).2.2.2.2.2 free) (F0 m (pc + 3) ls ((v.map (sVal r al2)).toList ++ st1.map (sVal r al))) := by
          intro al2 v pa1 mem1 H1 locs1 ag q1 q2 q3 q4 q5
          have hv1 : sLv D cy A r al2 hid rest s.heap mem1 H1 locs1 := ⟨q3, q4.weaken (fun j y hy hz => hFcA _ hz), q5⟩
          have hl2 := sBd_lo ag h6.1 hl
          rw [← sBd_map (r := r) ag h6.2]
          cases v with
          | none => exact ihk al2 (hag.trans j1 ag) _ _ _ _ _ _ _ H1 locs1 ls q1 j3 j4 q2 hv1 hl2
          | some v => exact ihk al2 (hag.trans j1 ag) _ _ _ _ _ _ _ H1 locs1 ls (show sy PC FX n (d1 + 1) (PC k) N0 kr (pc + 3) L (v :: st1) pa1 mem1 _ _ = true from q1) j3 j4 q2 hv1 hl2
        have hstk : (as.reverse ++ st1).map (sVal r al) = (as.map (sVal r al)).reverse ++ st1.map (sVal r al) := by rw [List.map_append, List.map_reverse]
        rw [hstk]
        rcases g1 with ⟨g1, g4⟩ | ⟨g1, g4⟩
        · rcases b7 with ⟨w0, w1, ⟨nn, w2, w3⟩, w4, w5⟩ | ⟨w0, -⟩
          · obtain ⟨q0, as1, rfl⟩ := hrcv w4
            have hn : (as1.map (sVal r al)).length = nn := by
              rw [List.length_map]
              rw [List.length_cons] at hna
              omega
            have hst2 : (F0 m pc ls (((.inr (.inr (some q0)) :: as1 : List sV).map (sVal r al)).reverse ++ st1.map (sVal r al))).stack = (as1.map (sVal r al)).reverse ++ .ref (al q0) :: st1.map (sVal r al) := by simp [sVal]
            rw [w5] at hMm hgi b1
            rcases g3 with g3 | ⟨host, g3⟩
            · exact s_callC (va_runI (As := as1.map (sVal r al)) (b := al q0) ⟨hx, hb, hml, hown, hts⟩ hMm ⟨callB_of nn hts hgi rfl rfl rfl (hts _ b2) (hts _ g3) ⟨b3.1, b3.2, w2⟩ hroom, w0, hts _ w1⟩ ⟨sPreC_blind, hpre⟩ rfl hn hl.1 hst2 (lv_room hcat) g1 hcs) hv.2.2 (fun q _ h => hFcA q h) hFcA cont
            · exact s_callC (va_runIN (As := as1.map (sVal r al)) (b := al q0) ⟨hx, hb, hml, hown, hts⟩ hMm ⟨va_cnB nn hts hgi rfl rfl rfl (hNw _ g3) (hts _ b2) ⟨b3.1, b3.2, w2⟩ hroom, w0, hts _ w1⟩ ⟨sPreC_blind, hpre⟩ rfl hn hl.1 hst2 (lv_room hcat) g1 hcs) hv.2.2 (fun q _ h => hFcA q h) hFcA cont
          · exact absurd g4 w0
        · rcases b7 with ⟨w0, -⟩ | ⟨-, w1, w2, -⟩
          · exact absurd w0 g4
          · have hn : (as.map (sVal r al)).length = (PC a).2.2.1 := by rw [List.length_map]; exact hna
            rcases g3 with g3 | ⟨host, g3⟩
            · exact s_callC (va_runS ⟨hx, hb, hml, hown, hts⟩ hMm ⟨callB_of (PC a).2.2.1 hts hgi rfl rfl rfl (hts _ b2) (hts _ g3) ⟨b3.1, b3.2, w2⟩ hroom, hts _ w1⟩ ⟨sPreC_blind, hpre⟩ rfl hn hl.1 rfl (lv_room hcat) g1 hcs) hv.2.2 (fun q _ h => hFcA q h) hFcA cont
            · exact s_callC (va_runSN ⟨hx, hb, hml, hown, hts⟩ hMm ⟨va_cnB (PC a).2.2.1 hts hgi rfl rfl rfl (hNw _ g3) (hts _ b2) ⟨b3.1, b3.2, w2⟩ hroom, hts _ w1, trivial⟩ ⟨sPreC_blind, hpre⟩ rfl hn hl.1 rfl (lv_room hcat) g1 hcs) hv.2.2 (fun q _ h => hFcA q h) hFcA cont
    rcases h with ⟨f, h1, h2⟩ | ⟨t, a, h1, h2⟩
    · have key : ∀ f2, sOp ir = .inl f2 → sRel MI PG (MC k).1.cls (MC k).2.1 (pc, ir, nx, aux) → f2 = f → W p l e R s m args below meth c H locs nc ns (MQ below Qc args s (PC k).2.2.2.2.1 (PC k).2.2.2.2.2 free) (F0 m pc ls (st.map (sVal r al))) := by
        intro f2 g1 g2 g3
        subst g3
        refine so_all sFld_ok sCpw_ok hx hb hml hown hts hNw hK hst (by omega) (by omega) ⟨by rw [hRc]; exact hnc, by rw [hRs]; exact hns⟩ g2 g1 (fun pc L st pa mem => sy PC FX n d (PC k) N0 kr pc L st pa mem nc ns) ?_ L st pa mem H locs ls h2 hp hv hl
        intro pc2 L2 st2 pa2 mem2 H2 locs2 ls2 q1 q2 q3 q4
        exact ihk al hag pc2 L2 st2 pa2 mem2 nc ns H2 locs2 ls2 q1 hnc hns q2 q3 q4
      cases ir
      all_goals first
        | (cases h1; done)
        | (exact False.elim hrel)
        | skip
      all_goals first
        | (refine key _ rfl hrel ?_; exact Sum.inl.inj h1)
        | skip
      case newarray at_ => cases at_ <;> cases h1
    · cases ir
      case new ci =>
        cases h1
        obtain ⟨idx, C, T, N, g1, g2, g3, g4, g5, g6, g7⟩ := hrel
        subst g2
        obtain ⟨w0, w1, w2, w3, w4, w5, w6, w7⟩ := sMkN_ok (show sMkN N0 [(0, a, sNewF a)] 1 (sNn a) (sy PC FX n d (PC k) N0 kr) (PC k) (pc + 3) L st pa mem nc ns = true from h2)
        obtain ⟨f1, f2⟩ := hFC _ _ _ _ g4
        subst f1
        refine so_new hx hb hts hK hA hown g3 g4 rfl f2 (sFld_ok _ _ _ _ g4).1 g5 g6 g7 (by rw [hRc]; exact w5) (by rw [hRs]; exact w6) g1 w4 (by omega) hv (fun q H1 hv1 => ?_)
        have ag : sAg mem.length al (sUp al mem.length q) := sUp_ag (by omega)
        have kk := ihk (sUp al mem.length q) (hag.trans w0 ag) _ _ _ _ _ _ _ H1 locs ls w7 w5 w6 hp hv1 (sBd_lo ag w2 hl)
        rw [List.map_cons, sBd_map ag w3] at kk
        have e1 : sVal r (sUp al mem.length q) (.inr (.inr (some mem.length))) = .ref q := by
          show Value.ref (sUp al mem.length q mem.length) = _
          rw [show sUp al mem.length q mem.length = q from if_pos rfl]
        rw [e1] at kk
        exact kk
      case newarray at_ =>
        have keyI : ∀ (kd : Nat) (ty : FieldType), ((kd = 1 ∧ ty = .int) ∨ (kd = 2 ∧ ty = .byte) ∨ (kd = 3 ∧ ty = .boolean)) → newarray.typeOf at_ = ty → Cond.arrayClass ty ∈ sTb → sMkA N0 kd (.inl (.natCast 0)) (sy PC FX n d (PC k) N0 kr) (PC k) nx L st pa mem nc ns = true → decode (MC k).2.1 pc = .ok (.newarray at_, 2) → nx = pc + 2 → W p l e R s m args below meth c H locs nc ns (MQ below Qc args s (PC k).2.2.2.2.1 (PC k).2.2.2.2.2 free) (F0 m pc ls (st.map (sVal r al))) := by
          intro kd ty z1 z2 z3 z4 z5 z6
          subst z6
          obtain ⟨x, st1, rfl, z7⟩ := sTI_ok z4
          obtain ⟨nn, rfl, z8⟩ := sNum_ok z7
          obtain ⟨z9, z10⟩ := sIf_ok z8
          obtain ⟨w0, w1, w2, w3, w4, w5, w6, w7⟩ := sMkN_ok z10
          rw [List.map_cons]
          simp only [sVal, sI, sD_c]
          refine so_newI z1 z2 hx hb hts z3 hK hA (Nat.le_of_ble_eq_true z9) (by rw [hRc]; exact w5) (by rw [hRs]; exact w6) z5 w4 (by omega) hv (fun q H1 hv1 => ?_)
          have ag : sAg mem.length al (sUp al mem.length q) := sUp_ag (by omega)
          have kk := ihk (sUp al mem.length q) (hag.trans w0 ag) _ _ _ _ _ _ _ H1 locs ls w7 w5 w6 hp hv1 (sBd_lo ag w2 hl)
          rw [List.map_cons, sBd_map ag w3] at kk
          have e1 : sVal r (sUp al mem.length q) (.inr (.inr (some mem.length))) = .ref q := by
            show Value.ref (sUp al mem.length q mem.length) = _
            rw [show sUp al mem.length q mem.length = q from if_pos rfl]
          rw [e1] at kk
          exact kk
        cases at_
        case int => cases h1; exact keyI 1 .int (Or.inl ⟨rfl, rfl⟩) rfl hM.2.2.1 h2 hrel.1 hrel.2
        case byte => cases h1; exact keyI 2 .byte (Or.inr (Or.inl ⟨rfl, rfl⟩)) rfl hM.2.2.2.1 h2 hrel.1 hrel.2
        case boolean => cases h1; exact keyI 3 .boolean (Or.inr (Or.inr ⟨rfl, rfl⟩)) rfl hM.2.2.2.2.1 h2 hrel.1 hrel.2
        case long =>
          cases h1
          obtain ⟨g1, g2⟩ := hrel
          subst g2
          obtain ⟨x, st1, rfl, z7⟩ := sTI_ok (show sMkA N0 4 (.inr (.inl (.natCast 0))) (sy PC FX n d (PC k) N0 kr) (PC k) (pc + 2) L st pa mem nc ns = true from h2)
          obtain ⟨nn, rfl, z8⟩ := sNum_ok z7
          obtain ⟨z9, z10⟩ := sIf_ok z8
          obtain ⟨w0, w1, w2, w3, w4, w5, w6, w7⟩ := sMkN_ok z10
          rw [List.map_cons]
          simp only [sVal, sI, sD_c]
          refine so_newJ hx hb hts hM.2.2.2.2.2 hK hA (Nat.le_of_ble_eq_true z9) (by rw [hRc]; exact w5) (by rw [hRs]; exact w6) g1 w4 (by omega) hv (fun q H1 hv1 => ?_)
          have ag : sAg mem.length al (sUp al mem.length q) := sUp_ag (by omega)
          have kk := ihk (sUp al mem.length q) (hag.trans w0 ag) _ _ _ _ _ _ _ H1 locs ls w7 w5 w6 hp hv1 (sBd_lo ag w2 hl)
          rw [List.map_cons, sBd_map ag w3] at kk
          have e1 : sVal r (sUp al mem.length q) (.inr (.inr (some mem.length))) = .ref q := by
            show Value.ref (sUp al mem.length q mem.length) = _
            rw [show sUp al mem.length q mem.length = q from if_pos rfl]
          rw [e1] at kk
          exact kk
        all_goals (cases h1; exact nomatch (show false = true from h2))
      case anewarray j =>
        cases h1
        obtain ⟨idx, g1, g2, g3⟩ := hrel
        subst g2
        obtain ⟨x, st1, rfl, z7⟩ := sTI_ok (show sMkA N0 5 (.inr (.inr none)) (sy PC FX n d (PC k) N0 kr) (PC k) (pc + 3) L st pa mem nc ns = true from h2)
        obtain ⟨nn, rfl, z8⟩ := sNum_ok z7
        obtain ⟨z9, z10⟩ := sIf_ok z8
        obtain ⟨w0, w1, w2, w3, w4, w5, w6, w7⟩ := sMkN_ok z10
        rw [List.map_cons]
        simp only [sVal, sI, sD_c]
        refine so_newQ hx hb hts hown g3 hAO.1 hK hA (Nat.le_of_ble_eq_true z9) (by rw [hRc]; exact w5) (by rw [hRs]; exact w6) g1 w4 (by omega) hv (fun q H1 hv1 => ?_)
        have ag : sAg mem.length al (sUp al mem.length q) := sUp_ag (by omega)
        have kk := ihk (sUp al mem.length q) (hag.trans w0 ag) _ _ _ _ _ _ _ H1 locs ls w7 w5 w6 hp hv1 (sBd_lo ag w2 hl)
        rw [List.map_cons, sBd_map ag w3] at kk
        have e1 : sVal r (sUp al mem.length q) (.inr (.inr (some mem.length))) = .ref q := by
          show Value.ref (sUp al mem.length q mem.length) = _
          rw [show sUp al mem.length q mem.length = q from if_pos rfl]
        rw [e1] at kk
        exact kk
      case multianewarray j1 j2 =>
        cases h1
        obtain ⟨idx, g1, g2, g3⟩ := hrel
        subst g2
        obtain ⟨x, st1, rfl, z1⟩ := sTI_ok (show sMkG N0 (sy PC FX n d (PC k) N0 kr) (PC k) (pc + 4) L st pa mem nc ns = true from h2)
        obtain ⟨y, st2, rfl, z2⟩ := sTI_ok z1
        obtain ⟨a1, rfl, z3⟩ := sNum_ok z2
        obtain ⟨b1, rfl, z4⟩ := sNum_ok z3
        obtain ⟨z5, z6⟩ := sIf_ok z4
        rw [Bool.and_eq_true] at z5
        have e5 : a1 = 6 := Nat.eq_of_beq_eq_true z5.1
        have e6 : b1 = 6 := Nat.eq_of_beq_eq_true z5.2
        subst e5 e6
        rw [sFc_eq, sLn_ok] at z6
        obtain ⟨w0, w1, w2, w3, w4, w5, w6, w7⟩ := sMkN_ok z6
        rw [List.map_cons, List.map_cons]
        simp only [sVal, sI, sD_c]
        refine so_grid hx hb hts hown g3 hAO.2 hM.2.2.1 hK hA (by rw [hRc]; exact w5) (by rw [hRs]; exact w6) g1 w4 (by omega) hv (fun q ρ H1 hv1 => ?_)
        have ag : sAg mem.length al (sUp7 al mem.length q ρ) := sUp7_ag (by omega)
        have kk := ihk (sUp7 al mem.length q ρ) (hag.trans w0 ag) _ _ _ _ _ _ _ H1 locs ls w7 w5 w6 hp hv1 (sBd_lo ag w2 hl)
        rw [List.map_cons, sBd_map ag w3] at kk
        have e1 : sVal r (sUp7 al mem.length q ρ) (.inr (.inr (some mem.length))) = .ref q := by
          show Value.ref (sUp7 al mem.length q ρ mem.length) = _
          rw [show sUp7 al mem.length q ρ mem.length = q from if_pos rfl]
        rw [e1] at kk
        exact kk
      case aastore =>
        cases h1
        obtain ⟨g1, g2⟩ := hrel
        subst g2
        obtain ⟨v, st1, rfl, z1⟩ := sTR_ok (show sMkS (sy PC FX n d (PC k) N0 kr) (pc + 1) L st pa mem nc ns = true from h2)
        obtain ⟨i, q, st2, rfl, hi, z2⟩ := sIx_ok z1
        obtain ⟨cv, vs0, z3, z4⟩ := sCell_ok z2
        obtain ⟨z5, z6⟩ := sIf_ok z4
        have e5 : cv = 5 := Nat.eq_of_beq_eq_true z5
        subst e5
        obtain ⟨u, vs, z7, z8, z9⟩ := sPuta_ok z6
        have he := sW_get (r := r) (al := al) (cy := cy) (hid := hid) (rest := rest) z7
        have he0 := sW_get (r := r) (al := al) (cy := cy) (hid := hid) (rest := rest) z3
        have hl1 : q < mem.length := (List.getElem?_eq_some_iff.mp z7).1
        have hcl : (Int32.ofNat i).toNatClampNeg = i := nI_clamp hi
        have ef : va_up (fun j : Nat => sRef al vs[j]?) i (some (al v)) = fun j : Nat => sRef al (vs.set i (.inr (.inr (some v))))[j]? := by
          funext j
          unfold va_up
          rw [List.getElem?_set]
          by_cases e0 : j = i
          · subst e0
            simp [z8, sRef]
          · simp [e0, Ne.symm e0]
        rw [List.map_cons, List.map_cons, List.map_cons]
        simp only [sVal, sI, sD_c]
        refine va_astq (r := (RX7, TX7, 3)) hx hb hK hv.1 hv.2.1 hv.2.2 q 4 v 5 he rfl he0 rfl (s_in z8 hi) g1 (fun H1 locs1 a1 a2 a3 => ihk al hag _ _ _ _ _ _ _ H1 locs1 ls z9 hnc hns hp ⟨?_, ?_, a3⟩ hl)
        · rw [hcl, ef] at a1
          rw [← sW_set hl1]
          simpa [sCe] using a1
        · rw [hcl, ef] at a2
          rw [← sW_set hl1]
          simpa [sCe] using a2
      case checkcast nn =>
        cases h1
        obtain ⟨idx, C, T, N, ty, g1, g2, g3, g4, g5, g6, g7, g8, g9, g10⟩ := hrel
        subst g2
        obtain ⟨v, st1, rfl, z1⟩ := sTR_ok (show sMkP a (sy PC FX n d (PC k) N0 kr) (pc + 3) L st pa mem nc ns = true from h2)
        obtain ⟨q, st2, rfl, z2⟩ := sTR_ok z1
        obtain ⟨vs, z3, z4, z5⟩ := sPutf_ok z2
        have he := sW_get (r := r) (al := al) (cy := cy) (hid := hid) (rest := rest) z3
        obtain ⟨ty0, hT1, hT2⟩ := (sFld_ok _ _ _ _ g3).2
        have hl1 : q < mem.length := (List.getElem?_eq_some_iff.mp z3).1
        have es : (sW r al cy hid rest mem).set q (al q, .inr (a / 64, (vs.map (sVal r al)).set (a % 64) (sVal r al (.inr (.inr (some v)))))) = sW r al cy hid rest (mem.set q (0, a / 64, vs.set (a % 64) (.inr (.inr (some v))))) := by
          rw [← sW_set hl1, ← List.map_set]
          rfl
        have hlen : a % 64 < (vs.map (sVal r al)).length := by rw [List.length_map]; exact z4
        have hnm : meth.name = "<init>" := hname.trans g10
        rw [List.map_cons, List.map_cons]
        refine va_putF hx hb hts (sFld_ok _ _ _ _ g3).1 ty0 hT1 hT2 hown hK hv.1 hv.2.1 hv.2.2 q he g3 (a % 64) g4 (hts _ g5) (fun _ h => h) g6 hnm g7 g8 (by rcases g9 with ⟨n1, rfl⟩ | ⟨t1, rfl⟩ <;> rfl) (by rcases g9 with ⟨n1, rfl⟩ | ⟨t1, rfl⟩ <;> rfl) hlen g1 (fun H1 locs1 a1 a2 a3 => ?_)
        rw [es] at a1 a2
        exact ihk al hag _ _ _ _ _ _ _ H1 locs1 ls z5 hnc hns hp ⟨a1, a2, a3⟩ hl
      case pop =>
        cases h1
        obtain ⟨idx, g1, g2, g3⟩ := hrel
        subst g2
        obtain ⟨v, st1, rfl, z1⟩ := sTR_ok (show sTR st (fun _ st => sIf (Nat.ble (sCats st) (nat_lit 8)) (sy PC FX n d (PC k) N0 kr (pc + 3) L st pa mem nc ns)) = true from h2)
        obtain ⟨z2, z3⟩ := sIf_ok z1
        have hsum := sCats_ok (r := r) (al := al) st1
        have hle : sCats st1 ≤ 8 := Nat.le_of_ble_eq_true z2
        rw [List.map_cons]
        exact W.objInit hx hb hown (hts _ g3) (hts _ hM.1) (hts _ hM.2.1) rfl (hl.1.trans hml.symm) rfl g1 (by omega) (by show 2 * 0 + _ + 12 ≤ R.locals; omega) (ihk al hag _ _ _ _ _ _ _ H locs ls z3 hnc hns hp hv hl)
      case invokespecial kk =>
        cases h1
        obtain ⟨idx, g1, g2, g3, g4⟩ := hrel
        exact callC idx (Or.inl ⟨g1, g4⟩) g2 g3 (show sMkC PC (sy PC FX n) d N0 a (sy PC FX n d (PC k) N0 kr) (PC k) nx L st pa mem nc ns = true from h2)
      case invokestatic kk =>
        cases h1
        obtain ⟨idx, g1, g2, g3⟩ := hrel
        rcases g3 with ⟨g3, g4, g5⟩ | ⟨g3, g4, g5⟩
        · subst g3
          exact callC idx (Or.inr ⟨g1, g5⟩) g2 g4 h2
        · have hb9 : Nat.beq a (nat_lit 67) = false := by
            cases hq : Nat.beq a (nat_lit 67) with
            | true => exact absurd (Nat.eq_of_beq_eq_true hq) g3
            | false => rfl
          have h3 : sB3 (Nat.beq a (nat_lit 67)) (sMkX FX d a (sy PC FX n d (PC k) N0 kr) nx L st pa mem nc ns) (sMkC PC (sy PC FX n) d N0 a (sy PC FX n d (PC k) N0 kr) (PC k) nx L st pa mem nc ns) = true := h2
          rw [hb9] at h3
          exact callX idx (Or.inl ⟨g1, g5⟩) g2 g4 h3
      case invokevirtual kk =>
        cases h1
        obtain ⟨idx, g1, g2, g3, g4, g5⟩ := hrel
        have hb9 : Nat.beq a (nat_lit 67) = false := by
          cases hq : Nat.beq a (nat_lit 67) with
          | true => exact absurd (Nat.eq_of_beq_eq_true hq) g3
          | false => rfl
        have h3 : sB3 (Nat.beq a (nat_lit 67)) (sMkX FX d a (sy PC FX n d (PC k) N0 kr) nx L st pa mem nc ns) (sMkC PC (sy PC FX n) d N0 a (sy PC FX n d (PC k) N0 kr) (PC k) nx L st pa mem nc ns) = true := h2
        rw [hb9] at h3
        exact callX idx (Or.inr ⟨g1, g5⟩) g2 g4 h3
      case return_ =>
        cases h1
        obtain ⟨z1, z2⟩ := sIf_ok (show sIf (Nat.beq (PC k).2.2.2.1 (nat_lit 0)) (sNil st (kr none pa mem)) = true from h2)
        obtain ⟨rfl, z3⟩ := sNil_ok z2
        have e1 : (PC k).2.2.2.1 = 0 := Nat.eq_of_beq_eq_true z1
        rcases c7 with ⟨-, -, -, -, g⟩ | ⟨-, -, -, g, -⟩
        · refine W.widen hnc hns ?_
          exact W.vret hx hb (by rw [hret, g]) (fun t ht hw => hkr al none pa mem H locs hag z3 hp hv t ht hw) hfl hrel hlocks
        · omega
      case areturn =>
        cases h1
        obtain ⟨z1, z2⟩ := sIf_ok (show sIf (Nat.beq (PC k).2.2.2.1 (nat_lit 4)) (sTR st (fun x st => sNil st (kr (some (.inr (.inr (some x)))) pa mem))) = true from h2)
        obtain ⟨x, st1, rfl, z3⟩ := sTR_ok z2
        obtain ⟨rfl, z4⟩ := sNil_ok z3
        have e1 : (PC k).2.2.2.1 = 4 := Nat.eq_of_beq_eq_true z1
        rcases c7 with ⟨-, -, -, g, -⟩ | ⟨-, -, -, -, rt, g, g2⟩
        · omega
        · refine W.widen hnc hns ?_
          exact W.aret hx hb (by rw [hret, g]) g2 (Or.inr ⟨_, rfl⟩) (fun t ht hw => hkr al _ pa mem H locs hag z4 hp hv t ht hw) hfl hrel hlocks
      all_goals first
        | (cases h1; done)
        | (exact False.elim hrel)
        | (cases h1; exact nomatch (show false = true from h2))
end SYM
end
section
/-! 22: the makers (by wip/whole/gen.py) -/
set_option maxRecDepth 100000 in
def pgc_0 : Lean.RArray sIn := (.branch 9 (.branch 4 (.branch 1 (.leaf (0, .aload 0, 1, 0)) (.leaf (1, .pop, 4, 178))) (.branch 5 (.leaf (4, .aload 0, 5, 0)) (.branch 7 (.leaf (5, .ldc 6, 7, 0)) (.leaf (7, .newarray .long, 9, 0))))) (.branch 15 (.branch 12 (.leaf (9, .checkcast 0, 12, 179)) (.branch 13 (.leaf (12, .aload 0, 13, 0)) (.leaf (13, .ldc 6, 15, 0)))) (.branch 17 (.leaf (15, .newarray .long, 17, 0)) (.branch 20 (.leaf (17, .checkcast 1, 20, 181)) (.leaf (20, .return_, 21, 0))))))
def pmc_0 : sMc × sMi × (Nat × Nat × Nat) := ((pgc_0, 1, 1, 0, 2, 12), (⟨"SwapTables$FractionRow", "<init>", "()V"⟩, prog_2_method_1_code, 1, none), (177, 79, 176))
set_option maxRecDepth 100000 in
def pgc_5 : Lean.RArray sIn := (.branch 8 (.branch 4 (.branch 1 (.leaf (0, .aload 0, 1, 0)) (.leaf (1, .pop, 4, 330))) (.branch 5 (.leaf (4, .aload 0, 5, 0)) (.branch 6 (.leaf (5, .ldc 4, 6, 0)) (.leaf (6, .newarray .int, 8, 0))))) (.branch 12 (.branch 11 (.leaf (8, .checkcast 65, 11, 333)) (.leaf (11, .aload 0, 12, 0))) (.branch 15 (.leaf (12, .invokestatic 67, 15, 331)) (.branch 18 (.leaf (15, .checkcast 66, 18, 335)) (.leaf (18, .return_, 19, 0))))))
def pmc_5 : sMc × sMi × (Nat × Nat × Nat) := ((pgc_5, 1, 1, 0, 10, 100), (⟨"SwapTables$Image", "<init>", "()V"⟩, prog_3_method_1_code, 1, none), (329, 85, 328))
set_option maxRecDepth 100000 in
def pgc_25 : Lean.RArray sIn := (.branch 16 (.branch 8 (.branch 4 (.branch 1 (.leaf (0, .aload 0, 1, 0)) (.leaf (1, .pop, 4, 265))) (.branch 5 (.leaf (4, .aload 0, 5, 0)) (.leaf (5, .new 8, 8, 266)))) (.branch 12 (.branch 9 (.leaf (8, .dup, 9, 0)) (.leaf (9, .invokespecial 76, 12, 268))) (.branch 15 (.leaf (12, .checkcast 128, 15, 287)) (.leaf (15, .aload 0, 16, 0))))) (.branch 26 (.branch 20 (.branch 19 (.leaf (16, .new 8, 19, 266)) (.leaf (19, .dup, 20, 0))) (.branch 23 (.leaf (20, .invokespecial 76, 23, 268)) (.leaf (23, .checkcast 129, 26, 289)))) (.branch 28 (.branch 27 (.leaf (26, .aload 0, 27, 0)) (.leaf (27, .ldc 4, 28, 0))) (.branch 30 (.leaf (28, .newarray .int, 30, 0)) (.branch 33 (.leaf (30, .checkcast 130, 33, 290)) (.leaf (33, .return_, 34, 0)))))))
def pmc_25 : sMc × sMi × (Nat × Nat × Nat) := ((pgc_25, 1, 1, 0, 7, 334), (⟨"SwapTables$Reader", "<init>", "()V"⟩, prog_6_method_1_code, 1, none), (264, 83, 263))
set_option maxRecDepth 100000 in
def pgc_41 : Lean.RArray sIn := (.branch 20 (.branch 9 (.branch 4 (.branch 1 (.leaf (0, .aload 0, 1, 0)) (.leaf (1, .pop, 4, 172))) (.branch 5 (.leaf (4, .aload 0, 5, 0)) (.branch 8 (.leaf (5, .new 0, 8, 173)) (.leaf (8, .dup, 9, 0))))) (.branch 15 (.branch 12 (.leaf (9, .invokespecial 0, 12, 175)) (.leaf (12, .checkcast 193, 15, 190))) (.branch 16 (.leaf (15, .aload 0, 16, 0)) (.branch 19 (.leaf (16, .new 0, 19, 173)) (.leaf (19, .dup, 20, 0)))))) (.branch 31 (.branch 26 (.branch 23 (.leaf (20, .invokespecial 0, 23, 175)) (.leaf (23, .checkcast 194, 26, 192))) (.branch 27 (.leaf (26, .aload 0, 27, 0)) (.branch 30 (.leaf (27, .new 0, 30, 173)) (.leaf (30, .dup, 31, 0))))) (.branch 38 (.branch 34 (.leaf (31, .invokespecial 0, 34, 175)) (.branch 37 (.leaf (34, .checkcast 195, 37, 193)) (.leaf (37, .aload 0, 38, 0)))) (.branch 39 (.leaf (38, .aload 1, 39, 0)) (.branch 42 (.leaf (39, .checkcast 192, 42, 189)) (.leaf (42, .return_, 43, 0)))))))
def pmc_41 : sMc × sMi × (Nat × Nat × Nat) := ((pgc_41, 2, 2, 0, 9, 42), (⟨"SwapTables$SeminormalAxes", "<init>", "(LSwapTables$Shape;)V"⟩, prog_7_method_1_code, 2, none), (171, 78, 170))
set_option maxRecDepth 100000 in
def pgc_46 : Lean.RArray sIn := (.branch 25 (.branch 12 (.branch 5 (.branch 1 (.leaf (0, .aload 0, 1, 0)) (.branch 4 (.leaf (1, .pop, 4, 106)) (.leaf (4, .aload 0, 5, 0)))) (.branch 8 (.branch 6 (.leaf (5, .ldc 5, 6, 0)) (.leaf (6, .newarray .int, 8, 0))) (.branch 11 (.leaf (8, .checkcast 259, 11, 119)) (.leaf (11, .aload 0, 12, 0))))) (.branch 18 (.branch 13 (.leaf (12, .ldc 5, 13, 0)) (.branch 15 (.leaf (13, .newarray .int, 15, 0)) (.leaf (15, .checkcast 260, 18, 120)))) (.branch 20 (.branch 19 (.leaf (18, .aload 0, 19, 0)) (.leaf (19, .ldc 5, 20, 0))) (.branch 22 (.leaf (20, .newarray .int, 22, 0)) (.leaf (22, .checkcast 261, 25, 121)))))) (.branch 40 (.branch 30 (.branch 26 (.leaf (25, .aload 0, 26, 0)) (.branch 28 (.leaf (26, .ldc 6, 28, 0)) (.leaf (28, .ldc 6, 30, 0)))) (.branch 37 (.branch 34 (.leaf (30, .multianewarray 0 0, 34, 107)) (.leaf (34, .checkcast 262, 37, 123))) (.branch 38 (.leaf (37, .aload 0, 38, 0)) (.leaf (38, .ldc 6, 40, 0))))) (.branch 46 (.branch 42 (.leaf (40, .newarray .int, 42, 0)) (.branch 45 (.leaf (42, .checkcast 263, 45, 124)) (.leaf (45, .aload 0, 46, 0)))) (.branch 49 (.branch 47 (.leaf (46, .ldc 5, 47, 0)) (.leaf (47, .newarray .int, 49, 0))) (.branch 52 (.leaf (49, .checkcast 264, 52, 125)) (.leaf (52, .return_, 53, 0)))))))
def pmc_46 : sMc × sMi × (Nat × Nat × Nat) := ((pgc_46, 1, 1, 0, 12, 68), (⟨"SwapTables$Shape", "<init>", "()V"⟩, prog_8_method_1_code, 1, none), (105, 76, 104))
set_option maxRecDepth 100000 in
def pgc_66 : Lean.RArray sIn := (.branch 5 (.branch 1 (.leaf (0, .aload 0, 1, 0)) (.branch 4 (.leaf (1, .pop, 4, 212)) (.leaf (4, .aload 0, 5, 0)))) (.branch 9 (.branch 7 (.leaf (5, .ldc 20, 7, 0)) (.leaf (7, .newarray .int, 9, 0))) (.branch 12 (.leaf (9, .checkcast 322, 12, 217)) (.leaf (12, .return_, 13, 0)))))
def pmc_66 : sMc × sMi × (Nat × Nat × Nat) := ((pgc_66, 1, 1, 0, 1, 20), (⟨"SwapTables$Shelf", "<init>", "()V"⟩, prog_9_method_1_code, 1, none), (211, 80, 210))
set_option maxRecDepth 100000 in
def pgc_67 : Lean.RArray sIn := (.branch 13 (.branch 6 (.branch 4 (.branch 1 (.leaf (0, .ldc 4, 1, 0)) (.leaf (1, .anewarray 5, 4, 206))) (.branch 5 (.leaf (4, .astore 0, 5, 0)) (.leaf (5, .ldc 0, 6, 0)))) (.branch 8 (.branch 7 (.leaf (6, .istore 1, 7, 0)) (.leaf (7, .iload 1, 8, 0))) (.branch 9 (.leaf (8, .ldc 4, 9, 0)) (.branch 12 (.leaf (9, .if_icmp .ge 28, 12, 0)) (.leaf (12, .aload 0, 13, 0)))))) (.branch 21 (.branch 17 (.branch 14 (.leaf (13, .iload 1, 14, 0)) (.leaf (14, .new 5, 17, 206))) (.branch 18 (.leaf (17, .dup, 18, 0)) (.leaf (18, .invokespecial 66, 21, 209)))) (.branch 25 (.branch 22 (.leaf (21, .aastore, 22, 0)) (.leaf (22, .iinc 1 1, 25, 0))) (.branch 28 (.leaf (25, .goto 7, 28, 0)) (.branch 29 (.leaf (28, .aload 0, 29, 0)) (.leaf (29, .areturn, 30, 0)))))))
def pmc_67 : sMc × sMi × (Nat × Nat × Nat) := ((pgc_67, 2, 0, 4, 9, 96), (⟨"SwapTables$Shelf", "emptyOnes", "()[LSwapTables$Shelf;"⟩, prog_9_method_2_code, 2, (some (FieldType.array (FieldType.object "SwapTables$Shelf")))), (205, 80, 204))
set_option maxRecDepth 100000 in
def pgc_71 : Lean.RArray sIn := (.branch 9 (.branch 4 (.branch 1 (.leaf (0, .aload 0, 1, 0)) (.leaf (1, .pop, 4, 231))) (.branch 5 (.leaf (4, .aload 0, 5, 0)) (.branch 7 (.leaf (5, .ldc 10, 7, 0)) (.leaf (7, .newarray .int, 9, 0))))) (.branch 15 (.branch 12 (.leaf (9, .checkcast 385, 12, 234)) (.branch 13 (.leaf (12, .aload 0, 13, 0)) (.leaf (13, .ldc 10, 15, 0)))) (.branch 17 (.leaf (15, .newarray .int, 17, 0)) (.branch 20 (.leaf (17, .checkcast 386, 20, 235)) (.leaf (20, .return_, 21, 0))))))
def pmc_71 : sMc × sMi × (Nat × Nat × Nat) := ((pgc_71, 1, 1, 0, 2, 20), (⟨"SwapTables$Steps", "<init>", "()V"⟩, prog_10_method_1_code, 1, none), (230, 81, 229))
set_option maxRecDepth 100000 in
def pgc_75 : Lean.RArray sIn := (.branch 5 (.branch 1 (.leaf (0, .aload 0, 1, 0)) (.branch 4 (.leaf (1, .pop, 4, 248)) (.leaf (4, .aload 0, 5, 0)))) (.branch 9 (.branch 7 (.leaf (5, .ldc 80, 7, 0)) (.leaf (7, .newarray .byte, 9, 0))) (.branch 12 (.leaf (9, .checkcast 449, 12, 251)) (.leaf (12, .return_, 13, 0)))))
def pmc_75 : sMc × sMi × (Nat × Nat × Nat) := ((pgc_75, 1, 1, 0, 1, 80), (⟨"SwapTables$Tape", "<init>", "()V"⟩, prog_11_method_1_code, 1, none), (247, 82, 246))
set_option maxRecDepth 100000 in
def pgc_76 : Lean.RArray sIn := (.branch 9 (.branch 4 (.branch 1 (.leaf (0, .aload 0, 1, 0)) (.leaf (1, .pop, 4, 271))) (.branch 5 (.leaf (4, .aload 0, 5, 0)) (.branch 7 (.leaf (5, .ldc 81, 7, 0)) (.leaf (7, .newarray .int, 9, 0))))) (.branch 15 (.branch 12 (.leaf (9, .checkcast 513, 12, 275)) (.branch 13 (.leaf (12, .aload 0, 13, 0)) (.leaf (13, .ldc 81, 15, 0)))) (.branch 17 (.leaf (15, .newarray .int, 17, 0)) (.branch 20 (.leaf (17, .checkcast 514, 20, 278)) (.leaf (20, .return_, 21, 0))))))
def pmc_76 : sMc × sMi × (Nat × Nat × Nat) := ((pgc_76, 1, 1, 0, 2, 162), (⟨"SwapTables$Troubles", "<init>", "()V"⟩, prog_12_method_1_code, 1, none), (270, 84, 269))
set_option maxRecDepth 100000 in
def pgc_79 : Lean.RArray sIn := (.branch 18 (.branch 7 (.branch 4 (.branch 1 (.leaf (0, .aload 0, 1, 0)) (.leaf (1, .pop, 4, 151))) (.branch 5 (.leaf (4, .aload 0, 5, 0)) (.leaf (5, .ldc 6, 7, 0)))) (.branch 13 (.branch 9 (.leaf (7, .ldc 6, 9, 0)) (.leaf (9, .multianewarray 0 0, 13, 152))) (.branch 16 (.leaf (13, .checkcast 577, 16, 154)) (.branch 17 (.leaf (16, .aload 0, 17, 0)) (.leaf (17, .ldc 5, 18, 0)))))) (.branch 28 (.branch 23 (.branch 20 (.leaf (18, .newarray .int, 20, 0)) (.leaf (20, .checkcast 578, 23, 155))) (.branch 24 (.leaf (23, .aload 0, 24, 0)) (.branch 26 (.leaf (24, .ldc 6, 26, 0)) (.leaf (26, .newarray .int, 28, 0))))) (.branch 32 (.branch 31 (.leaf (28, .checkcast 579, 31, 156)) (.leaf (31, .aload 0, 32, 0))) (.branch 33 (.leaf (32, .aload 1, 33, 0)) (.branch 36 (.leaf (33, .checkcast 576, 36, 153)) (.leaf (36, .return_, 37, 0)))))))
def pmc_79 : sMc × sMi × (Nat × Nat × Nat) := ((pgc_79, 2, 2, 0, 9, 53), (⟨"SwapTables$WholeAxes", "<init>", "(LSwapTables$Shape;)V"⟩, prog_13_method_1_code, 2, none), (150, 77, 149))
set_option maxRecDepth 100000 in
def pgc_87 : Lean.RArray sIn := (.branch 63 (.branch 31 (.branch 15 (.branch 5 (.branch 1 (.leaf (0, .aload 0, 1, 0)) (.branch 4 (.leaf (1, .pop, 4, 98)) (.leaf (4, .aload 0, 5, 0)))) (.branch 9 (.branch 8 (.leaf (5, .new 4, 8, 101)) (.leaf (8, .dup, 9, 0))) (.branch 12 (.leaf (9, .invokespecial 46, 12, 103)) (.leaf (12, .checkcast 640, 15, 446))))) (.branch 21 (.branch 19 (.branch 16 (.leaf (15, .aload 0, 16, 0)) (.leaf (16, .new 9, 19, 146))) (.branch 20 (.leaf (19, .dup, 20, 0)) (.leaf (20, .aload 0, 21, 0)))) (.branch 27 (.branch 24 (.leaf (21, .getfield 640, 24, 446)) (.leaf (24, .invokespecial 79, 27, 148))) (.branch 30 (.leaf (27, .checkcast 641, 30, 447)) (.leaf (30, .aload 0, 31, 0)))))) (.branch 46 (.branch 36 (.branch 34 (.leaf (31, .new 3, 34, 167)) (.branch 35 (.leaf (34, .dup, 35, 0)) (.leaf (35, .aload 0, 36, 0)))) (.branch 42 (.branch 39 (.leaf (36, .getfield 640, 39, 446)) (.leaf (39, .invokespecial 41, 42, 169))) (.branch 45 (.leaf (42, .checkcast 642, 45, 448)) (.leaf (45, .aload 0, 46, 0))))) (.branch 53 (.branch 49 (.branch 47 (.leaf (46, .ldc 4, 47, 0)) (.leaf (47, .newarray .int, 49, 0))) (.branch 52 (.leaf (49, .checkcast 643, 52, 449)) (.leaf (52, .aload 0, 53, 0)))) (.branch 59 (.branch 56 (.leaf (53, .invokestatic 67, 56, 203)) (.leaf (56, .checkcast 644, 59, 450))) (.branch 60 (.leaf (59, .aload 0, 60, 0)) (.leaf (60, .new 6, 63, 226))))))) (.branch 96 (.branch 78 (.branch 70 (.branch 64 (.leaf (63, .dup, 64, 0)) (.branch 67 (.leaf (64, .invokespecial 71, 67, 228)) (.leaf (67, .checkcast 645, 70, 451)))) (.branch 74 (.branch 71 (.leaf (70, .aload 0, 71, 0)) (.leaf (71, .new 7, 74, 243))) (.branch 75 (.leaf (74, .dup, 75, 0)) (.leaf (75, .invokespecial 75, 78, 245))))) (.branch 86 (.branch 82 (.branch 81 (.leaf (78, .checkcast 646, 81, 452)) (.leaf (81, .aload 0, 82, 0))) (.branch 85 (.leaf (82, .new 2, 85, 260)) (.leaf (85, .dup, 86, 0)))) (.branch 92 (.branch 89 (.leaf (86, .invokespecial 25, 89, 262)) (.leaf (89, .checkcast 647, 92, 453))) (.branch 93 (.leaf (92, .aload 0, 93, 0)) (.leaf (93, .new 1, 96, 325)))))) (.branch 112 (.branch 104 (.branch 100 (.branch 97 (.leaf (96, .dup, 97, 0)) (.leaf (97, .invokespecial 5, 100, 327))) (.branch 103 (.leaf (100, .checkcast 648, 103, 454)) (.leaf (103, .aload 0, 104, 0)))) (.branch 108 (.branch 106 (.leaf (104, .ldc 6, 106, 0)) (.leaf (106, .newarray .int, 108, 0))) (.branch 111 (.leaf (108, .checkcast 649, 111, 455)) (.leaf (111, .aload 0, 112, 0))))) (.branch 116 (.branch 114 (.branch 113 (.leaf (112, .ldc 2, 113, 0)) (.leaf (113, .ldc 1, 114, 0))) (.branch 115 (.leaf (114, .ldc 0, 115, 0)) (.leaf (115, .ldc 0, 116, 0)))) (.branch 120 (.branch 117 (.leaf (116, .ldc 0, 117, 0)) (.leaf (117, .invokestatic 18, 120, 344))) (.branch 123 (.leaf (120, .invokevirtual 125, 123, 347)) (.leaf (123, .return_, 124, 0))))))))
def pmc_87 : sMc × sMi × (Nat × Nat × Nat) := ((pgc_87, 1, 1, 0, 68, 840), (⟨"SwapTables", "<init>", "()V"⟩, prog_1_method_1_code, 1, none), (97, 75, 96))
set_option maxRecDepth 100000 in
def pgc_139 : Lean.RArray sIn := (.branch 181 (.branch 88 (.branch 43 (.branch 20 (.branch 9 (.branch 4 (.branch 1 (.leaf (0, .aload 0, 1, 0)) (.leaf (1, .pop, 4, 920))) (.branch 5 (.leaf (4, .aload 0, 5, 0)) (.branch 7 (.leaf (5, .ldc 6, 7, 0)) (.leaf (7, .newarray .int, 9, 0))))) (.branch 14 (.branch 12 (.leaf (9, .checkcast 704, 12, 937)) (.branch 13 (.leaf (12, .aload 0, 13, 0)) (.leaf (13, .ldc 5, 14, 0)))) (.branch 16 (.leaf (14, .newarray .int, 16, 0)) (.branch 19 (.leaf (16, .checkcast 706, 19, 939)) (.leaf (19, .aload 0, 20, 0)))))) (.branch 31 (.branch 26 (.branch 21 (.leaf (20, .ldc 5, 21, 0)) (.branch 23 (.leaf (21, .newarray .int, 23, 0)) (.leaf (23, .checkcast 707, 26, 940)))) (.branch 27 (.leaf (26, .aload 0, 27, 0)) (.branch 29 (.leaf (27, .ldc 36, 29, 0)) (.leaf (29, .newarray .int, 31, 0))))) (.branch 37 (.branch 34 (.leaf (31, .checkcast 709, 34, 942)) (.branch 35 (.leaf (34, .aload 0, 35, 0)) (.leaf (35, .ldc 36, 37, 0)))) (.branch 39 (.leaf (37, .newarray .int, 39, 0)) (.branch 42 (.leaf (39, .checkcast 710, 42, 943)) (.leaf (42, .aload 0, 43, 0))))))) (.branch 64 (.branch 52 (.branch 47 (.branch 45 (.leaf (43, .ldc 24, 45, 0)) (.leaf (45, .newarray .int, 47, 0))) (.branch 50 (.leaf (47, .checkcast 711, 50, 944)) (.branch 51 (.leaf (50, .aload 0, 51, 0)) (.leaf (51, .ldc 4, 52, 0))))) (.branch 58 (.branch 54 (.leaf (52, .newarray .int, 54, 0)) (.branch 57 (.leaf (54, .checkcast 712, 57, 945)) (.leaf (57, .aload 0, 58, 0)))) (.branch 59 (.leaf (58, .ldc 4, 59, 0)) (.branch 61 (.leaf (59, .newarray .int, 61, 0)) (.leaf (61, .checkcast 713, 64, 946)))))) (.branch 75 (.branch 69 (.branch 65 (.leaf (64, .aload 0, 65, 0)) (.branch 67 (.leaf (65, .ldc 80, 67, 0)) (.leaf (67, .newarray .int, 69, 0)))) (.branch 72 (.leaf (69, .checkcast 714, 72, 947)) (.branch 73 (.leaf (72, .aload 0, 73, 0)) (.leaf (73, .ldc 6, 75, 0))))) (.branch 81 (.branch 77 (.leaf (75, .newarray .int, 77, 0)) (.branch 80 (.leaf (77, .checkcast 715, 80, 948)) (.leaf (80, .aload 0, 81, 0)))) (.branch 83 (.leaf (81, .ldc 40, 83, 0)) (.branch 85 (.leaf (83, .newarray .int, 85, 0)) (.leaf (85, .checkcast 716, 88, 949)))))))) (.branch 132 (.branch 109 (.branch 97 (.branch 91 (.branch 89 (.leaf (88, .aload 0, 89, 0)) (.leaf (89, .ldc 6, 91, 0))) (.branch 93 (.leaf (91, .newarray .int, 93, 0)) (.branch 96 (.leaf (93, .checkcast 717, 96, 950)) (.leaf (96, .aload 0, 97, 0))))) (.branch 104 (.branch 99 (.leaf (97, .ldc 6, 99, 0)) (.branch 101 (.leaf (99, .newarray .int, 101, 0)) (.leaf (101, .checkcast 719, 104, 952)))) (.branch 105 (.leaf (104, .aload 0, 105, 0)) (.branch 107 (.leaf (105, .ldc 6, 107, 0)) (.leaf (107, .newarray .int, 109, 0)))))) (.branch 121 (.branch 115 (.branch 112 (.leaf (109, .checkcast 720, 112, 953)) (.branch 113 (.leaf (112, .aload 0, 113, 0)) (.leaf (113, .ldc 60, 115, 0)))) (.branch 117 (.leaf (115, .newarray .int, 117, 0)) (.branch 120 (.leaf (117, .checkcast 722, 120, 955)) (.leaf (120, .aload 0, 121, 0))))) (.branch 128 (.branch 123 (.leaf (121, .ldc 6, 123, 0)) (.branch 125 (.leaf (123, .newarray .boolean, 125, 0)) (.leaf (125, .checkcast 723, 128, 956)))) (.branch 129 (.leaf (128, .aload 0, 129, 0)) (.branch 130 (.leaf (129, .ldc 5, 130, 0)) (.leaf (130, .newarray .int, 132, 0))))))) (.branch 157 (.branch 144 (.branch 138 (.branch 135 (.leaf (132, .checkcast 724, 135, 957)) (.branch 136 (.leaf (135, .aload 0, 136, 0)) (.leaf (136, .ldc 30, 138, 0)))) (.branch 140 (.leaf (138, .newarray .int, 140, 0)) (.branch 143 (.leaf (140, .checkcast 725, 143, 958)) (.leaf (143, .aload 0, 144, 0))))) (.branch 151 (.branch 146 (.leaf (144, .ldc 6, 146, 0)) (.branch 148 (.leaf (146, .newarray .int, 148, 0)) (.leaf (148, .checkcast 727, 151, 960)))) (.branch 152 (.leaf (151, .aload 0, 152, 0)) (.branch 155 (.leaf (152, .ldc 3125, 155, 0)) (.leaf (155, .newarray .int, 157, 0)))))) (.branch 169 (.branch 163 (.branch 160 (.leaf (157, .checkcast 728, 160, 961)) (.branch 161 (.leaf (160, .aload 0, 161, 0)) (.leaf (161, .ldc 6, 163, 0)))) (.branch 165 (.leaf (163, .newarray .int, 165, 0)) (.branch 168 (.leaf (165, .checkcast 729, 168, 962)) (.leaf (168, .aload 0, 169, 0))))) (.branch 176 (.branch 171 (.leaf (169, .ldc 6, 171, 0)) (.branch 173 (.leaf (171, .newarray .int, 173, 0)) (.leaf (173, .checkcast 730, 176, 963)))) (.branch 177 (.leaf (176, .aload 0, 177, 0)) (.branch 179 (.leaf (177, .ldc 6, 179, 0)) (.leaf (179, .newarray .int, 181, 0))))))))) (.branch 275 (.branch 227 (.branch 203 (.branch 192 (.branch 185 (.branch 184 (.leaf (181, .checkcast 731, 184, 964)) (.leaf (184, .aload 0, 185, 0))) (.branch 187 (.leaf (185, .ldc 6, 187, 0)) (.branch 189 (.leaf (187, .newarray .int, 189, 0)) (.leaf (189, .checkcast 733, 192, 966))))) (.branch 197 (.branch 193 (.leaf (192, .aload 0, 193, 0)) (.branch 195 (.leaf (193, .ldc 6, 195, 0)) (.leaf (195, .newarray .boolean, 197, 0)))) (.branch 200 (.leaf (197, .checkcast 734, 200, 967)) (.branch 201 (.leaf (200, .aload 0, 201, 0)) (.leaf (201, .ldc 36, 203, 0)))))) (.branch 216 (.branch 209 (.branch 205 (.leaf (203, .newarray .long, 205, 0)) (.branch 208 (.leaf (205, .checkcast 735, 208, 968)) (.leaf (208, .aload 0, 209, 0)))) (.branch 211 (.leaf (209, .ldc 36, 211, 0)) (.branch 213 (.leaf (211, .newarray .long, 213, 0)) (.leaf (213, .checkcast 736, 216, 969))))) (.branch 221 (.branch 217 (.leaf (216, .aload 0, 217, 0)) (.branch 219 (.leaf (217, .ldc 36, 219, 0)) (.leaf (219, .newarray .long, 221, 0)))) (.branch 224 (.leaf (221, .checkcast 737, 224, 970)) (.branch 225 (.leaf (224, .aload 0, 225, 0)) (.leaf (225, .ldc 36, 227, 0))))))) (.branch 251 (.branch 240 (.branch 233 (.branch 229 (.leaf (227, .newarray .long, 229, 0)) (.branch 232 (.leaf (229, .checkcast 738, 232, 971)) (.leaf (232, .aload 0, 233, 0)))) (.branch 235 (.leaf (233, .ldc 6, 235, 0)) (.branch 237 (.leaf (235, .newarray .long, 237, 0)) (.leaf (237, .checkcast 741, 240, 974))))) (.branch 245 (.branch 241 (.leaf (240, .aload 0, 241, 0)) (.branch 243 (.leaf (241, .ldc 6, 243, 0)) (.leaf (243, .newarray .long, 245, 0)))) (.branch 248 (.leaf (245, .checkcast 742, 248, 975)) (.branch 249 (.leaf (248, .aload 0, 249, 0)) (.leaf (249, .ldc 6, 251, 0)))))) (.branch 264 (.branch 257 (.branch 253 (.leaf (251, .newarray .long, 253, 0)) (.branch 256 (.leaf (253, .checkcast 743, 256, 976)) (.leaf (256, .aload 0, 257, 0)))) (.branch 259 (.leaf (257, .ldc 80, 259, 0)) (.branch 261 (.leaf (259, .newarray .int, 261, 0)) (.leaf (261, .checkcast 744, 264, 977))))) (.branch 269 (.branch 265 (.leaf (264, .aload 0, 265, 0)) (.branch 267 (.leaf (265, .ldc 90, 267, 0)) (.leaf (267, .newarray .int, 269, 0)))) (.branch 272 (.leaf (269, .checkcast 747, 272, 980)) (.branch 273 (.leaf (272, .aload 0, 273, 0)) (.leaf (273, .ldc 90, 275, 0)))))))) (.branch 322 (.branch 297 (.branch 285 (.branch 280 (.branch 277 (.leaf (275, .newarray .int, 277, 0)) (.leaf (277, .checkcast 748, 280, 981))) (.branch 281 (.leaf (280, .aload 0, 281, 0)) (.branch 283 (.leaf (281, .ldc 90, 283, 0)) (.leaf (283, .newarray .int, 285, 0))))) (.branch 291 (.branch 288 (.leaf (285, .checkcast 751, 288, 984)) (.branch 289 (.leaf (288, .aload 0, 289, 0)) (.leaf (289, .ldc 90, 291, 0)))) (.branch 293 (.leaf (291, .newarray .int, 293, 0)) (.branch 296 (.leaf (293, .checkcast 752, 296, 985)) (.leaf (296, .aload 0, 297, 0)))))) (.branch 310 (.branch 305 (.branch 300 (.leaf (297, .ldc 540, 300, 0)) (.branch 302 (.leaf (300, .newarray .int, 302, 0)) (.leaf (302, .checkcast 755, 305, 988)))) (.branch 306 (.leaf (305, .aload 0, 306, 0)) (.branch 308 (.leaf (306, .ldc 6, 308, 0)) (.leaf (308, .newarray .int, 310, 0))))) (.branch 316 (.branch 313 (.leaf (310, .checkcast 756, 313, 989)) (.branch 314 (.leaf (313, .aload 0, 314, 0)) (.leaf (314, .ldc 6, 316, 0)))) (.branch 318 (.leaf (316, .newarray .int, 318, 0)) (.branch 321 (.leaf (318, .checkcast 758, 321, 991)) (.leaf (321, .aload 0, 322, 0))))))) (.branch 344 (.branch 333 (.branch 329 (.branch 324 (.leaf (322, .ldc 24, 324, 0)) (.branch 326 (.leaf (324, .newarray .int, 326, 0)) (.leaf (326, .checkcast 759, 329, 992)))) (.branch 330 (.leaf (329, .aload 0, 330, 0)) (.branch 331 (.leaf (330, .ldc 4, 331, 0)) (.leaf (331, .newarray .int, 333, 0))))) (.branch 338 (.branch 336 (.leaf (333, .checkcast 760, 336, 993)) (.branch 337 (.leaf (336, .aload 0, 337, 0)) (.leaf (337, .ldc 4, 338, 0)))) (.branch 340 (.leaf (338, .newarray .int, 340, 0)) (.branch 343 (.leaf (340, .checkcast 761, 343, 994)) (.leaf (343, .aload 0, 344, 0)))))) (.branch 354 (.branch 351 (.branch 346 (.leaf (344, .ldc 80, 346, 0)) (.branch 348 (.leaf (346, .newarray .int, 348, 0)) (.leaf (348, .checkcast 762, 351, 995)))) (.branch 352 (.leaf (351, .aload 0, 352, 0)) (.branch 353 (.leaf (352, .ldc 2, 353, 0)) (.leaf (353, .ldc 1, 354, 0))))) (.branch 357 (.branch 355 (.leaf (354, .ldc 0, 355, 0)) (.branch 356 (.leaf (355, .ldc 0, 356, 0)) (.leaf (356, .ldc 0, 357, 0)))) (.branch 360 (.leaf (357, .invokevirtual 144, 360, 921)) (.branch 361 (.leaf (360, .istore 1, 361, 0)) (.leaf (361, .return_, 362, 0))))))))))
def pmc_139 : sMc × sMi × (Nat × Nat × Nat) := ((pgc_139, 2, 1, 0, 44, 4792), (⟨"SwapTablesModel", "<init>", "()V"⟩, prog_15_method_1_code, 2, none), (919, 92, 918))
def pmcD : sMc × sMi × (Nat × Nat × Nat) := ((.leaf (999999, .nop, 0, 0), pmc_0.1.2), pmc_0.2)
def PMc : Lean.RArray (sMc × sMi × (Nat × Nat × Nat)) := (.branch 117 (.branch 58 (.branch 29 (.branch 14 (.branch 7 (.branch 3 (.branch 1 (.leaf pmc_0) (.branch 2 (.leaf pmcD) (.leaf pmcD))) (.branch 5 (.branch 4 (.leaf pmcD) (.leaf pmcD)) (.branch 6 (.leaf pmc_5) (.leaf pmcD)))) (.branch 10 (.branch 8 (.leaf pmcD) (.branch 9 (.leaf pmcD) (.leaf pmcD))) (.branch 12 (.branch 11 (.leaf pmcD) (.leaf pmcD)) (.branch 13 (.leaf pmcD) (.leaf pmcD))))) (.branch 21 (.branch 17 (.branch 15 (.leaf pmcD) (.branch 16 (.leaf pmcD) (.leaf pmcD))) (.branch 19 (.branch 18 (.leaf pmcD) (.leaf pmcD)) (.branch 20 (.leaf pmcD) (.leaf pmcD)))) (.branch 25 (.branch 23 (.branch 22 (.leaf pmcD) (.leaf pmcD)) (.branch 24 (.leaf pmcD) (.leaf pmcD))) (.branch 27 (.branch 26 (.leaf pmc_25) (.leaf pmcD)) (.branch 28 (.leaf pmcD) (.leaf pmcD)))))) (.branch 43 (.branch 36 (.branch 32 (.branch 30 (.leaf pmcD) (.branch 31 (.leaf pmcD) (.leaf pmcD))) (.branch 34 (.branch 33 (.leaf pmcD) (.leaf pmcD)) (.branch 35 (.leaf pmcD) (.leaf pmcD)))) (.branch 39 (.branch 37 (.leaf pmcD) (.branch 38 (.leaf pmcD) (.leaf pmcD))) (.branch 41 (.branch 40 (.leaf pmcD) (.leaf pmcD)) (.branch 42 (.leaf pmc_41) (.leaf pmcD))))) (.branch 50 (.branch 46 (.branch 44 (.leaf pmcD) (.branch 45 (.leaf pmcD) (.leaf pmcD))) (.branch 48 (.branch 47 (.leaf pmc_46) (.leaf pmcD)) (.branch 49 (.leaf pmcD) (.leaf pmcD)))) (.branch 54 (.branch 52 (.branch 51 (.leaf pmcD) (.leaf pmcD)) (.branch 53 (.leaf pmcD) (.leaf pmcD))) (.branch 56 (.branch 55 (.leaf pmcD) (.leaf pmcD)) (.branch 57 (.leaf pmcD) (.leaf pmcD))))))) (.branch 87 (.branch 72 (.branch 65 (.branch 61 (.branch 59 (.leaf pmcD) (.branch 60 (.leaf pmcD) (.leaf pmcD))) (.branch 63 (.branch 62 (.leaf pmcD) (.leaf pmcD)) (.branch 64 (.leaf pmcD) (.leaf pmcD)))) (.branch 68 (.branch 66 (.leaf pmcD) (.branch 67 (.leaf pmc_66) (.leaf pmc_67))) (.branch 70 (.branch 69 (.leaf pmcD) (.leaf pmcD)) (.branch 71 (.leaf pmcD) (.leaf pmc_71))))) (.branch 79 (.branch 75 (.branch 73 (.leaf pmcD) (.branch 74 (.leaf pmcD) (.leaf pmcD))) (.branch 77 (.branch 76 (.leaf pmc_75) (.leaf pmc_76)) (.branch 78 (.leaf pmcD) (.leaf pmcD)))) (.branch 83 (.branch 81 (.branch 80 (.leaf pmc_79) (.leaf pmcD)) (.branch 82 (.leaf pmcD) (.leaf pmcD))) (.branch 85 (.branch 84 (.leaf pmcD) (.leaf pmcD)) (.branch 86 (.leaf pmcD) (.leaf pmcD)))))) (.branch 102 (.branch 94 (.branch 90 (.branch 88 (.leaf pmc_87) (.branch 89 (.leaf pmcD) (.leaf pmcD))) (.branch 92 (.branch 91 (.leaf pmcD) (.leaf pmcD)) (.branch 93 (.leaf pmcD) (.leaf pmcD)))) (.branch 98 (.branch 96 (.branch 95 (.leaf pmcD) (.leaf pmcD)) (.branch 97 (.leaf pmcD) (.leaf pmcD))) (.branch 100 (.branch 99 (.leaf pmcD) (.leaf pmcD)) (.branch 101 (.leaf pmcD) (.leaf pmcD))))) (.branch 109 (.branch 105 (.branch 103 (.leaf pmcD) (.branch 104 (.leaf pmcD) (.leaf pmcD))) (.branch 107 (.branch 106 (.leaf pmcD) (.leaf pmcD)) (.branch 108 (.leaf pmcD) (.leaf pmcD)))) (.branch 113 (.branch 111 (.branch 110 (.leaf pmcD) (.leaf pmcD)) (.branch 112 (.leaf pmcD) (.leaf pmcD))) (.branch 115 (.branch 114 (.leaf pmcD) (.leaf pmcD)) (.branch 116 (.leaf pmcD) (.leaf pmcD)))))))) (.branch 175 (.branch 146 (.branch 131 (.branch 124 (.branch 120 (.branch 118 (.leaf pmcD) (.branch 119 (.leaf pmcD) (.leaf pmcD))) (.branch 122 (.branch 121 (.leaf pmcD) (.leaf pmcD)) (.branch 123 (.leaf pmcD) (.leaf pmcD)))) (.branch 127 (.branch 125 (.leaf pmcD) (.branch 126 (.leaf pmcD) (.leaf pmcD))) (.branch 129 (.branch 128 (.leaf pmcD) (.leaf pmcD)) (.branch 130 (.leaf pmcD) (.leaf pmcD))))) (.branch 138 (.branch 134 (.branch 132 (.leaf pmcD) (.branch 133 (.leaf pmcD) (.leaf pmcD))) (.branch 136 (.branch 135 (.leaf pmcD) (.leaf pmcD)) (.branch 137 (.leaf pmcD) (.leaf pmcD)))) (.branch 142 (.branch 140 (.branch 139 (.leaf pmcD) (.leaf pmc_139)) (.branch 141 (.leaf pmcD) (.leaf pmcD))) (.branch 144 (.branch 143 (.leaf pmcD) (.leaf pmcD)) (.branch 145 (.leaf pmcD) (.leaf pmcD)))))) (.branch 160 (.branch 153 (.branch 149 (.branch 147 (.leaf pmcD) (.branch 148 (.leaf pmcD) (.leaf pmcD))) (.branch 151 (.branch 150 (.leaf pmcD) (.leaf pmcD)) (.branch 152 (.leaf pmcD) (.leaf pmcD)))) (.branch 156 (.branch 154 (.leaf pmcD) (.branch 155 (.leaf pmcD) (.leaf pmcD))) (.branch 158 (.branch 157 (.leaf pmcD) (.leaf pmcD)) (.branch 159 (.leaf pmcD) (.leaf pmcD))))) (.branch 167 (.branch 163 (.branch 161 (.leaf pmcD) (.branch 162 (.leaf pmcD) (.leaf pmcD))) (.branch 165 (.branch 164 (.leaf pmcD) (.leaf pmcD)) (.branch 166 (.leaf pmcD) (.leaf pmcD)))) (.branch 171 (.branch 169 (.branch 168 (.leaf pmcD) (.leaf pmcD)) (.branch 170 (.leaf pmcD) (.leaf pmcD))) (.branch 173 (.branch 172 (.leaf pmcD) (.leaf pmcD)) (.branch 174 (.leaf pmcD) (.leaf pmcD))))))) (.branch 204 (.branch 189 (.branch 182 (.branch 178 (.branch 176 (.leaf pmcD) (.branch 177 (.leaf pmcD) (.leaf pmcD))) (.branch 180 (.branch 179 (.leaf pmcD) (.leaf pmcD)) (.branch 181 (.leaf pmcD) (.leaf pmcD)))) (.branch 185 (.branch 183 (.leaf pmcD) (.branch 184 (.leaf pmcD) (.leaf pmcD))) (.branch 187 (.branch 186 (.leaf pmcD) (.leaf pmcD)) (.branch 188 (.leaf pmcD) (.leaf pmcD))))) (.branch 196 (.branch 192 (.branch 190 (.leaf pmcD) (.branch 191 (.leaf pmcD) (.leaf pmcD))) (.branch 194 (.branch 193 (.leaf pmcD) (.leaf pmcD)) (.branch 195 (.leaf pmcD) (.leaf pmcD)))) (.branch 200 (.branch 198 (.branch 197 (.leaf pmcD) (.leaf pmcD)) (.branch 199 (.leaf pmcD) (.leaf pmcD))) (.branch 202 (.branch 201 (.leaf pmcD) (.leaf pmcD)) (.branch 203 (.leaf pmcD) (.leaf pmcD)))))) (.branch 219 (.branch 211 (.branch 207 (.branch 205 (.leaf pmcD) (.branch 206 (.leaf pmcD) (.leaf pmcD))) (.branch 209 (.branch 208 (.leaf pmcD) (.leaf pmcD)) (.branch 210 (.leaf pmcD) (.leaf pmcD)))) (.branch 215 (.branch 213 (.branch 212 (.leaf pmcD) (.leaf pmcD)) (.branch 214 (.leaf pmcD) (.leaf pmcD))) (.branch 217 (.branch 216 (.leaf pmcD) (.leaf pmcD)) (.branch 218 (.leaf pmcD) (.leaf pmcD))))) (.branch 226 (.branch 222 (.branch 220 (.leaf pmcD) (.branch 221 (.leaf pmcD) (.leaf pmcD))) (.branch 224 (.branch 223 (.leaf pmcD) (.leaf pmcD)) (.branch 225 (.leaf pmcD) (.leaf pmcD)))) (.branch 230 (.branch 228 (.branch 227 (.leaf pmcD) (.leaf pmcD)) (.branch 229 (.leaf pmcD) (.leaf pmcD))) (.branch 232 (.branch 231 (.leaf pmcD) (.leaf pmcD)) (.branch 233 (.leaf pmcD) (.leaf pmcD)))))))))
def PC (i : Nat) : sMc := (PMc.get i).1
def MC (i : Nat) : sMi := (PMc.get i).2.1
end
section
/-! 23: a check of the makers' rows -/
def sActC (own nm : String) (pc : Nat) (ir : Instr) (aux : Nat) (act : Instr) (len : Nat) : Bool := match ir with
  | .new ci => match act with
    | .new idx => decide (len = 3) && (decide (ci < 12) && (match vwCl[ci]? with
      | some (C, _, N) => sTw aux (.classLink own idx C) && (decide (Cond.instantiable C N ∈ sTb) && decide (Cond.initialized C ∈ sTb))
      | none => false))
    | _ => false
  | .newarray t => match act with
    | .newarray u => decide (u = t) && decide (len = 2)
    | _ => false
  | .anewarray _ => match act with
    | .anewarray idx => decide (len = 3) && sTw aux (.classLink own idx "SwapTables$Shelf")
    | _ => false
  | .multianewarray _ _ => match act with
    | .multianewarray idx k => decide (k = 2) && (decide (len = 4) && sTw aux (.classLink own idx "[[I"))
    | _ => false
  | .aastore => decide (act = .aastore) && decide (len = 1)
  | .checkcast n => match act with
    | .putfield idx => decide (len = 3) && (match vwCl[n / 64]? with
      | some (_, T, N) => decide (n % 64 < N) && (sTw aux (.fieldLink own idx (T (n % 64)).1 (T (n % 64)).2.1 (T (n % 64)).2.2.1) && (decide ((T (n % 64)).2.2.2 = true) && (decide ((T (n % 64)).1 = own) && ((match parseFieldDescriptor (T (n % 64)).2.2.1 with
        | some (.object _) => true
        | some (.array _) => true
        | _ => false) && decide (nm = "<init>")))))
      | none => false)
    | _ => false
  | .pop => match act with
    | .invokespecial idx => decide (len = 3) && sTw aux (.methodLink own idx Lib.objectInit)
    | _ => false
  | .invokespecial k => match act with
    | .invokespecial idx => decide (len = 3) && (sLinkMB own idx aux (MC k).1 && decide ((MC k).1.name = "<init>"))
    | _ => false
  | .invokestatic k => match act with
    | .invokestatic idx => decide (len = 3) && ((decide (k = 67) && (sLinkMB own idx aux (MC k).1 && decide ((MC k).1.name ≠ "<init>"))) || (decide (k ≠ 67) && (sLinkMB own idx aux (MI k).1 && decide ((PG k).2.2.2.1 = 99))))
    | _ => false
  | .invokevirtual k => match act with
    | .invokevirtual idx => decide (len = 3) && (decide (k ≠ 67) && (sLinkMB own idx aux (MI k).1 && decide ((PG k).2.2.2.1 ≠ 99)))
    | _ => false
  | _ => false
def sMkI (ir : Instr) : Bool := match ir with
  | .new _ => true | .newarray _ => true | .anewarray _ => true | .multianewarray _ _ => true | .aastore => true | .checkcast _ => true | .pop => true | .invokespecial _ => true | .invokestatic _ => true | .invokevirtual _ => true
  | _ => false
def sRelCB (own nm : String) (cc : ByteArray) (q : sIn) : Bool := match sMkI q.2.1 with
  | false => sRelB own cc q
  | true => match decode cc q.1 with
    | .ok (act, len) => decide (q.2.2.1 = q.1 + len) && sActC own nm q.1 q.2.1 q.2.2.2 act len
    | .error _ => false
set_option maxHeartbeats 4000000 in
theorem sRelCB_ok {own nm : String} {cc : ByteArray} {q : sIn} (h : sRelCB own nm cc q = true) : sRelC MC own nm cc q := by
  obtain ⟨pc, ir, nx, aux⟩ := q
  cases h0 : sMkI ir with
  | false =>
    unfold sRelCB at h
    simp only [h0] at h
    have h1 := sRelB_ok h
    cases ir
    all_goals first
      | exact h1
      | exact nomatch (show true = false from h0)
  | true =>
    unfold sRelCB at h
    simp only [h0] at h
    split at h
    · rename_i act len hd
      simp only [Bool.and_eq_true, decide_eq_true_eq] at h
      obtain ⟨hn, h⟩ := h
      subst hn
      cases ir
      all_goals first | exact nomatch (show false = true from h0) | skip
      all_goals dsimp only [sActC] at h
      case new ci =>
        split at h <;> simp only [Bool.and_eq_true, decide_eq_true_eq, Bool.false_eq_true] at h
        obtain ⟨h1, h2, h3⟩ := h
        split at h3
        · rename_i C T N hq
          simp only [Bool.and_eq_true, decide_eq_true_eq] at h3
          exact ⟨_, C, T, N, by rw [hd, h1], by rw [h1], h2, hq, sTw_ok h3.1, h3.2.1, h3.2.2⟩
        · cases h3
      case newarray t =>
        split at h <;> simp only [Bool.and_eq_true, decide_eq_true_eq, Bool.false_eq_true] at h
        exact ⟨by rw [hd, h.1, h.2], by rw [h.2]⟩
      case anewarray j =>
        split at h <;> simp only [Bool.and_eq_true, decide_eq_true_eq, Bool.false_eq_true] at h
        exact ⟨_, by rw [hd, h.1], by rw [h.1], sTw_ok h.2⟩
      case multianewarray j1 j2 =>
        split at h <;> simp only [Bool.and_eq_true, decide_eq_true_eq, Bool.false_eq_true] at h
        exact ⟨_, by rw [hd, h.1, h.2.1], by rw [h.2.1], sTw_ok h.2.2⟩
      case aastore =>
        simp only [Bool.and_eq_true, decide_eq_true_eq] at h
        exact ⟨by rw [hd, h.1, h.2], by rw [h.2]⟩
      case checkcast n =>
        split at h <;> simp only [Bool.and_eq_true, decide_eq_true_eq, Bool.false_eq_true] at h
        obtain ⟨h1, h2⟩ := h
        split at h2
        · rename_i C T N hq
          simp only [Bool.and_eq_true, decide_eq_true_eq] at h2
          obtain ⟨e1, e2, e3, e4, e5, e6⟩ := h2
          split at e5
          · rename_i nn hp
            exact ⟨_, C, T, N, _, by rw [hd, h1], by rw [h1], hq, e1, sTw_ok e2, e3, e4, hp, Or.inl ⟨nn, rfl⟩, e6⟩
          · rename_i nn hp
            exact ⟨_, C, T, N, _, by rw [hd, h1], by rw [h1], hq, e1, sTw_ok e2, e3, e4, hp, Or.inr ⟨nn, rfl⟩, e6⟩
          · cases e5
        · cases h2
      case pop =>
        split at h <;> simp only [Bool.and_eq_true, decide_eq_true_eq, Bool.false_eq_true] at h
        exact ⟨_, by rw [hd, h.1], by rw [h.1], sTw_ok h.2⟩
      case invokespecial k =>
        split at h <;> simp only [Bool.and_eq_true, decide_eq_true_eq, Bool.false_eq_true] at h
        exact ⟨_, by rw [hd, h.1], by rw [h.1], sLinkMB_ok h.2.1, h.2.2⟩
      case invokestatic k =>
        split at h <;> simp only [Bool.and_eq_true, decide_eq_true_eq, Bool.false_eq_true, Bool.or_eq_true] at h
        exact ⟨_, by rw [hd, h.1], by rw [h.1], h.2.imp (fun q => ⟨q.1, sLinkMB_ok q.2.1, q.2.2⟩) (fun q => ⟨q.1, sLinkMB_ok q.2.1, q.2.2⟩)⟩
      case invokevirtual k =>
        split at h <;> simp only [Bool.and_eq_true, decide_eq_true_eq, Bool.false_eq_true] at h
        exact ⟨_, by rw [hd, h.1], by rw [h.1], h.2.1, sLinkMB_ok h.2.2.1, h.2.2.2⟩
    · cases h
def sMokCB (me : sMc) (mi : sMi) (t : Nat × Nat × Nat) : Bool := sTw t.1 (.code mi.1 mi.2.1 mi.2.2.1 mi.2.2.2) && (sTw t.2.1 (.initialized mi.1.cls) && (decide (mi.1.cls ≠ "java/lang/invoke/MethodHandle" ∧ mi.1.cls ≠ "java/lang/invoke/VarHandle") && (plainName mi.1.cls && (decide (me.2.1 = mi.2.2.1) && (decide (mi.2.2.1 + 19 ≤ 64) &&
  ((decide (mi.1.name = "<init>") && (sTw t.2.2 (.instanceMethod mi.1) && (decide ((parseMethodDescriptor mi.1.desc).map (fun d => d.parameters.length + 1) = some me.2.2.1) && (decide (me.2.2.2.1 = 0) && decide (mi.2.2.2 = none))))) ||
   (decide (mi.1.name ≠ "<init>") && (sTw t.2.2 (.static mi.1) && (decide ((parseMethodDescriptor mi.1.desc).map (fun d => d.parameters.length) = some me.2.2.1) && (decide (me.2.2.2.1 = 4) && (match mi.2.2.2 with
    | some (.object _) => true
    | some (.array _) => true
    | _ => false)))))))))))
noncomputable def sCkC (q : sMc × sMi × (Nat × Nat × Nat)) : Bool := sMokCB q.1 q.2.1 q.2.2 && sAllR (sRelCB q.2.1.1.cls q.2.1.1.name q.2.1.2.1) q.1.1
theorem sMokCB_ok {me : sMc} {mi : sMi} {t : Nat × Nat × Nat} (h : sMokCB me mi t = true) : sMokC me mi := by
  simp only [sMokCB, Bool.and_eq_true, Bool.or_eq_true, decide_eq_true_eq] at h
  obtain ⟨h1, h2, h3, h4, h5, h6, h7⟩ := h
  refine ⟨sTw_ok h1, sTw_ok h2, h3, h4, h5, h6, ?_⟩
  rcases h7 with ⟨a, b, c, d, e⟩ | ⟨a, b, c, d, e⟩
  · refine Or.inl ⟨a, sTw_ok b, ?_, d, e⟩
    obtain ⟨q, q1, q2⟩ := Option.map_eq_some_iff.mp c
    exact ⟨q.parameters.length, by rw [q1]; rfl, q2.symm⟩
  · refine Or.inr ⟨a, sTw_ok b, c, d, ?_⟩
    split at e
    · rename_i n q
      exact ⟨_, q, Or.inl ⟨n, rfl⟩⟩
    · rename_i n q
      exact ⟨_, q, Or.inr ⟨n, rfl⟩⟩
    · cases e
theorem sCkC_ok {k : Nat} (h : sCkC (PMc.get k) = true) : sMokC (PC k) (MC k) ∧ ∀ pc, sRelC MC (MC k).1.cls (MC k).1.name (MC k).2.1 ((PC k).1.get pc) := by
  unfold sCkC at h
  rw [Bool.and_eq_true] at h
  exact ⟨sMokCB_ok h.1, fun pc => sRelCB_ok (sAllR_ok _ h.2 pc)⟩
theorem sMkw_ok : sMkw := ⟨by decide +kernel, by decide +kernel, by decide +kernel, by decide +kernel, by decide +kernel, by decide +kernel⟩
theorem sFldC_ok : sFldC := by
  intro ci C T N h
  match ci, h with
  | 0, h => cases h; exact ⟨rfl, tyX0_ok⟩
  | 1, h => cases h; exact ⟨rfl, tyX1_ok⟩
  | 2, h => cases h; exact ⟨rfl, tyX4_ok⟩
  | 3, h => cases h; exact ⟨rfl, tyX5_ok⟩
  | 4, h => cases h; exact ⟨rfl, tyX6_ok⟩
  | 5, h => cases h; exact ⟨rfl, tyX7_ok⟩
  | 6, h => cases h; exact ⟨rfl, tyX8_ok⟩
  | 7, h => cases h; exact ⟨rfl, tyX9_ok⟩
  | 8, h => cases h; exact ⟨rfl, tyX10_ok⟩
  | 9, h => cases h; exact ⟨rfl, tyX11_ok⟩
  | 10, h => cases h; exact ⟨rfl, tyX12_ok⟩
  | 11, h => cases h; exact ⟨rfl, tyX13_ok⟩
  | k + 12, h => simp [vwCl] at h
end
section
/-! 24: the makers are what the class files have (by wip/whole/gen.py) -/
theorem ck_pmcD : sCkC pmcD = true := by decide +kernel
theorem ck_pmc_0 : sCkC pmc_0 = true := by decide +kernel
theorem ck_pmc_139 : sCkC pmc_139 = true := by decide +kernel
theorem ck_pmc_25 : sCkC pmc_25 = true := by decide +kernel
theorem ck_pmc_41 : sCkC pmc_41 = true := by decide +kernel
theorem ck_pmc_46 : sCkC pmc_46 = true := by decide +kernel
theorem ck_pmc_5 : sCkC pmc_5 = true := by decide +kernel
theorem ck_pmc_66 : sCkC pmc_66 = true := by decide +kernel
theorem ck_pmc_67 : sCkC pmc_67 = true := by decide +kernel
theorem ck_pmc_71 : sCkC pmc_71 = true := by decide +kernel
theorem ck_pmc_75 : sCkC pmc_75 = true := by decide +kernel
theorem ck_pmc_76 : sCkC pmc_76 = true := by decide +kernel
theorem ck_pmc_79 : sCkC pmc_79 = true := by decide +kernel
theorem ck_pmc_87 : sCkC pmc_87 = true := by decide +kernel
theorem pmc_all : ∀ k, sCkC (PMc.get k) = true := (sAll_b (sAll_b (sAll_b (sAll_b (sAll_b (sAll_b (sAll_b (sAll_l ck_pmc_0) (sAll_b (sAll_l ck_pmcD) (sAll_l ck_pmcD))) (sAll_b (sAll_b (sAll_l ck_pmcD) (sAll_l ck_pmcD)) (sAll_b (sAll_l ck_pmc_5) (sAll_l ck_pmcD)))) (sAll_b (sAll_b (sAll_l ck_pmcD) (sAll_b (sAll_l ck_pmcD) (sAll_l ck_pmcD))) (sAll_b (sAll_b (sAll_l ck_pmcD) (sAll_l ck_pmcD)) (sAll_b (sAll_l ck_pmcD) (sAll_l ck_pmcD))))) (sAll_b (sAll_b (sAll_b (sAll_l ck_pmcD) (sAll_b (sAll_l ck_pmcD) (sAll_l ck_pmcD))) (sAll_b (sAll_b (sAll_l ck_pmcD) (sAll_l ck_pmcD)) (sAll_b (sAll_l ck_pmcD) (sAll_l ck_pmcD)))) (sAll_b (sAll_b (sAll_b (sAll_l ck_pmcD) (sAll_l ck_pmcD)) (sAll_b (sAll_l ck_pmcD) (sAll_l ck_pmcD))) (sAll_b (sAll_b (sAll_l ck_pmc_25) (sAll_l ck_pmcD)) (sAll_b (sAll_l ck_pmcD) (sAll_l ck_pmcD)))))) (sAll_b (sAll_b (sAll_b (sAll_b (sAll_l ck_pmcD) (sAll_b (sAll_l ck_pmcD) (sAll_l ck_pmcD))) (sAll_b (sAll_b (sAll_l ck_pmcD) (sAll_l ck_pmcD)) (sAll_b (sAll_l ck_pmcD) (sAll_l ck_pmcD)))) (sAll_b (sAll_b (sAll_l ck_pmcD) (sAll_b (sAll_l ck_pmcD) (sAll_l ck_pmcD))) (sAll_b (sAll_b (sAll_l ck_pmcD) (sAll_l ck_pmcD)) (sAll_b (sAll_l ck_pmc_41) (sAll_l ck_pmcD))))) (sAll_b (sAll_b (sAll_b (sAll_l ck_pmcD) (sAll_b (sAll_l ck_pmcD) (sAll_l ck_pmcD))) (sAll_b (sAll_b (sAll_l ck_pmc_46) (sAll_l ck_pmcD)) (sAll_b (sAll_l ck_pmcD) (sAll_l ck_pmcD)))) (sAll_b (sAll_b (sAll_b (sAll_l ck_pmcD) (sAll_l ck_pmcD)) (sAll_b (sAll_l ck_pmcD) (sAll_l ck_pmcD))) (sAll_b (sAll_b (sAll_l ck_pmcD) (sAll_l ck_pmcD)) (sAll_b (sAll_l ck_pmcD) (sAll_l ck_pmcD))))))) (sAll_b (sAll_b (sAll_b (sAll_b (sAll_b (sAll_l ck_pmcD) (sAll_b (sAll_l ck_pmcD) (sAll_l ck_pmcD))) (sAll_b (sAll_b (sAll_l ck_pmcD) (sAll_l ck_pmcD)) (sAll_b (sAll_l ck_pmcD) (sAll_l ck_pmcD)))) (sAll_b (sAll_b (sAll_l ck_pmcD) (sAll_b (sAll_l ck_pmc_66) (sAll_l ck_pmc_67))) (sAll_b (sAll_b (sAll_l ck_pmcD) (sAll_l ck_pmcD)) (sAll_b (sAll_l ck_pmcD) (sAll_l ck_pmc_71))))) (sAll_b (sAll_b (sAll_b (sAll_l ck_pmcD) (sAll_b (sAll_l ck_pmcD) (sAll_l ck_pmcD))) (sAll_b (sAll_b (sAll_l ck_pmc_75) (sAll_l ck_pmc_76)) (sAll_b (sAll_l ck_pmcD) (sAll_l ck_pmcD)))) (sAll_b (sAll_b (sAll_b (sAll_l ck_pmc_79) (sAll_l ck_pmcD)) (sAll_b (sAll_l ck_pmcD) (sAll_l ck_pmcD))) (sAll_b (sAll_b (sAll_l ck_pmcD) (sAll_l ck_pmcD)) (sAll_b (sAll_l ck_pmcD) (sAll_l ck_pmcD)))))) (sAll_b (sAll_b (sAll_b (sAll_b (sAll_l ck_pmc_87) (sAll_b (sAll_l ck_pmcD) (sAll_l ck_pmcD))) (sAll_b (sAll_b (sAll_l ck_pmcD) (sAll_l ck_pmcD)) (sAll_b (sAll_l ck_pmcD) (sAll_l ck_pmcD)))) (sAll_b (sAll_b (sAll_b (sAll_l ck_pmcD) (sAll_l ck_pmcD)) (sAll_b (sAll_l ck_pmcD) (sAll_l ck_pmcD))) (sAll_b (sAll_b (sAll_l ck_pmcD) (sAll_l ck_pmcD)) (sAll_b (sAll_l ck_pmcD) (sAll_l ck_pmcD))))) (sAll_b (sAll_b (sAll_b (sAll_l ck_pmcD) (sAll_b (sAll_l ck_pmcD) (sAll_l ck_pmcD))) (sAll_b (sAll_b (sAll_l ck_pmcD) (sAll_l ck_pmcD)) (sAll_b (sAll_l ck_pmcD) (sAll_l ck_pmcD)))) (sAll_b (sAll_b (sAll_b (sAll_l ck_pmcD) (sAll_l ck_pmcD)) (sAll_b (sAll_l ck_pmcD) (sAll_l ck_pmcD))) (sAll_b (sAll_b (sAll_l ck_pmcD) (sAll_l ck_pmcD)) (sAll_b (sAll_l ck_pmcD) (sAll_l ck_pmcD)))))))) (sAll_b (sAll_b (sAll_b (sAll_b (sAll_b (sAll_b (sAll_l ck_pmcD) (sAll_b (sAll_l ck_pmcD) (sAll_l ck_pmcD))) (sAll_b (sAll_b (sAll_l ck_pmcD) (sAll_l ck_pmcD)) (sAll_b (sAll_l ck_pmcD) (sAll_l ck_pmcD)))) (sAll_b (sAll_b (sAll_l ck_pmcD) (sAll_b (sAll_l ck_pmcD) (sAll_l ck_pmcD))) (sAll_b (sAll_b (sAll_l ck_pmcD) (sAll_l ck_pmcD)) (sAll_b (sAll_l ck_pmcD) (sAll_l ck_pmcD))))) (sAll_b (sAll_b (sAll_b (sAll_l ck_pmcD) (sAll_b (sAll_l ck_pmcD) (sAll_l ck_pmcD))) (sAll_b (sAll_b (sAll_l ck_pmcD) (sAll_l ck_pmcD)) (sAll_b (sAll_l ck_pmcD) (sAll_l ck_pmcD)))) (sAll_b (sAll_b (sAll_b (sAll_l ck_pmcD) (sAll_l ck_pmc_139)) (sAll_b (sAll_l ck_pmcD) (sAll_l ck_pmcD))) (sAll_b (sAll_b (sAll_l ck_pmcD) (sAll_l ck_pmcD)) (sAll_b (sAll_l ck_pmcD) (sAll_l ck_pmcD)))))) (sAll_b (sAll_b (sAll_b (sAll_b (sAll_l ck_pmcD) (sAll_b (sAll_l ck_pmcD) (sAll_l ck_pmcD))) (sAll_b (sAll_b (sAll_l ck_pmcD) (sAll_l ck_pmcD)) (sAll_b (sAll_l ck_pmcD) (sAll_l ck_pmcD)))) (sAll_b (sAll_b (sAll_l ck_pmcD) (sAll_b (sAll_l ck_pmcD) (sAll_l ck_pmcD))) (sAll_b (sAll_b (sAll_l ck_pmcD) (sAll_l ck_pmcD)) (sAll_b (sAll_l ck_pmcD) (sAll_l ck_pmcD))))) (sAll_b (sAll_b (sAll_b (sAll_l ck_pmcD) (sAll_b (sAll_l ck_pmcD) (sAll_l ck_pmcD))) (sAll_b (sAll_b (sAll_l ck_pmcD) (sAll_l ck_pmcD)) (sAll_b (sAll_l ck_pmcD) (sAll_l ck_pmcD)))) (sAll_b (sAll_b (sAll_b (sAll_l ck_pmcD) (sAll_l ck_pmcD)) (sAll_b (sAll_l ck_pmcD) (sAll_l ck_pmcD))) (sAll_b (sAll_b (sAll_l ck_pmcD) (sAll_l ck_pmcD)) (sAll_b (sAll_l ck_pmcD) (sAll_l ck_pmcD))))))) (sAll_b (sAll_b (sAll_b (sAll_b (sAll_b (sAll_l ck_pmcD) (sAll_b (sAll_l ck_pmcD) (sAll_l ck_pmcD))) (sAll_b (sAll_b (sAll_l ck_pmcD) (sAll_l ck_pmcD)) (sAll_b (sAll_l ck_pmcD) (sAll_l ck_pmcD)))) (sAll_b (sAll_b (sAll_l ck_pmcD) (sAll_b (sAll_l ck_pmcD) (sAll_l ck_pmcD))) (sAll_b (sAll_b (sAll_l ck_pmcD) (sAll_l ck_pmcD)) (sAll_b (sAll_l ck_pmcD) (sAll_l ck_pmcD))))) (sAll_b (sAll_b (sAll_b (sAll_l ck_pmcD) (sAll_b (sAll_l ck_pmcD) (sAll_l ck_pmcD))) (sAll_b (sAll_b (sAll_l ck_pmcD) (sAll_l ck_pmcD)) (sAll_b (sAll_l ck_pmcD) (sAll_l ck_pmcD)))) (sAll_b (sAll_b (sAll_b (sAll_l ck_pmcD) (sAll_l ck_pmcD)) (sAll_b (sAll_l ck_pmcD) (sAll_l ck_pmcD))) (sAll_b (sAll_b (sAll_l ck_pmcD) (sAll_l ck_pmcD)) (sAll_b (sAll_l ck_pmcD) (sAll_l ck_pmcD)))))) (sAll_b (sAll_b (sAll_b (sAll_b (sAll_l ck_pmcD) (sAll_b (sAll_l ck_pmcD) (sAll_l ck_pmcD))) (sAll_b (sAll_b (sAll_l ck_pmcD) (sAll_l ck_pmcD)) (sAll_b (sAll_l ck_pmcD) (sAll_l ck_pmcD)))) (sAll_b (sAll_b (sAll_b (sAll_l ck_pmcD) (sAll_l ck_pmcD)) (sAll_b (sAll_l ck_pmcD) (sAll_l ck_pmcD))) (sAll_b (sAll_b (sAll_l ck_pmcD) (sAll_l ck_pmcD)) (sAll_b (sAll_l ck_pmcD) (sAll_l ck_pmcD))))) (sAll_b (sAll_b (sAll_b (sAll_l ck_pmcD) (sAll_b (sAll_l ck_pmcD) (sAll_l ck_pmcD))) (sAll_b (sAll_b (sAll_l ck_pmcD) (sAll_l ck_pmcD)) (sAll_b (sAll_l ck_pmcD) (sAll_l ck_pmcD)))) (sAll_b (sAll_b (sAll_b (sAll_l ck_pmcD) (sAll_l ck_pmcD)) (sAll_b (sAll_l ck_pmcD) (sAll_l ck_pmcD))) (sAll_b (sAll_b (sAll_l ck_pmcD) (sAll_l ck_pmcD)) (sAll_b (sAll_l ck_pmcD) (sAll_l ck_pmcD)))))))))
theorem sGoodC_ok : sGoodC MC PC := fun k => sCkC_ok (pmc_all k)
end
section
/-! 25: the constructors' runs -/
noncomputable def sRunC (fuel FX d k : Nat) (pa : List sK) (mem : sM) (as : List sV) (kr : sKr) : Bool := sEnt as (PC k).2.1 (fun L => sy PC FX fuel d (PC k) mem.length kr (nat_lit 0) L [] pa mem (nat_lit 0) (nat_lit 0))
section SRC
variable {D : va_G} {cy : Nat → ClassId} {r : sE} {al : Nat → Nat} {hid : Nat → va_E} {rest : va_W}
theorem sRunC_met (l : Launch) {fuel FX d k : Nat} {pa : List sK} {mem : sM} {as : List sV} {kr : sKr} (hp : sPa r pa) (h : sRunC fuel FX d k pa mem as kr = true) : sMetC MC PC l D cy hid rest r al d k mem as kr := sMetC_of (FX := FX) sGoodC_ok (sy_w sGoodC_ok sMkw_ok sFldC_ok fuel) hp h
end SRC
/-- the class' memory behind its constructor -/
def tX0 : sM := [(0, 10, [.inr (.inr (some 1)), .inr (.inr (some 14)), .inr (.inr (some 24)), .inr (.inr (some 34)), .inr (.inr (some 35)), .inr (.inr (some 44)), .inr (.inr (some 47)), .inr (.inr (some 49)), .inr (.inr (some 57)), .inr (.inr (some 68))]), (0, 4, [.inl (.natCast 135168), .inl (.natCast 3), .inl (.natCast 2), .inr (.inr (some 2)), .inr (.inr (some 3)), .inr (.inr (some 4)), .inr (.inr (some 5)), .inr (.inr (some 12)), .inr (.inr (some 13))]), (1, 0, [.inl (.natCast 0), .inl (.natCast 2), .inl (.natCast 3), .inl (.natCast 3), .inl (.natCast 3)]), (1, 0, [.inl (.natCast 0), .inl (.natCast 0), .inl (.natCast 1), .inl (.natCast 0), .inl (.natCast 0)]), (1, 0, [.inl (.natCast 0), .inl (.natCast 1), .inl (.natCast 0), .inl (.natCast 0), .inl (.natCast 0)]), (6, 0, [.inr (.inr (some 6)), .inr (.inr (some 7)), .inr (.inr (some 8)), .inr (.inr (some 9)), .inr (.inr (some 10)), .inr (.inr (some 11))]), (1, 0, [.inl (.natCast 0), .inl (.natCast 0), .inl (.natCast 1), .inl (.natCast 2), .inl (.natCast 0), .inl (.natCast 0)]), (1, 0, [.inl (.natCast 0), .inl (.natCast 0), .inl (.natCast 2), .inl (.natCast 1), .inl (.natCast 0), .inl (.natCast 0)]), (1, 0, [.inl (.natCast 0), .inl (.natCast 0), .inl (.natCast 0), .inl (.natCast 0), .inl (.natCast 0), .inl (.natCast 0)]), (1, 0, [.inl (.natCast 0), .inl (.natCast 0), .inl (.natCast 0), .inl (.natCast 0), .inl (.natCast 0), .inl (.natCast 0)]), (1, 0, [.inl (.natCast 0), .inl (.natCast 0), .inl (.natCast 0), .inl (.natCast 0), .inl (.natCast 0), .inl (.natCast 0)]), (1, 0, [.inl (.natCast 0), .inl (.natCast 0), .inl (.natCast 0), .inl (.natCast 0), .inl (.natCast 0), .inl (.natCast 0)]), (1, 0, [.inl (.natCast 0), .inl (.natCast 0), .inl (.natCast 2), .inl (.natCast 1), .inl (.natCast 0), .inl (.natCast 0)]), (1, 0, [.inl (.natCast 0), .inl (.natCast 0), .inl (.natCast 0), .inl (.natCast 0), .inl (.natCast 0)]), (0, 9, [.inr (.inr (some 1)), .inr (.inr (some 15)), .inr (.inr (some 22)), .inr (.inr (some 23))]), (6, 0, [.inr (.inr (some 16)), .inr (.inr (some 17)), .inr (.inr (some 18)), .inr (.inr (some 19)), .inr (.inr (some 20)), .inr (.inr (some 21))]), (1, 0, [.inl (.natCast 1), .inl (.natCast 0), .inl (.natCast 0), .inl (.natCast 0), .inl (.natCast 0), .inl (.natCast 0)]), (1, 0, [.inl (.natCast 0), .inl (.natCast 1), .inl (.natCast 0), .inl (.natCast 0), .inl (.natCast 0), .inl (.natCast 0)]), (1, 0, [.inl (.natCast 0), .inl (.natCast 0), .inl (.natCast 0), .inl (.natCast 0), .inl (.natCast 0), .inl (.natCast 0)]), (1, 0, [.inl (.natCast 0), .inl (.natCast 0), .inl (.natCast 0), .inl (.natCast 0), .inl (.natCast 0), .inl (.natCast 0)]), (1, 0, [.inl (.natCast 0), .inl (.natCast 0), .inl (.natCast 0), .inl (.natCast 0), .inl (.natCast 0), .inl (.natCast 0)]), (1, 0, [.inl (.natCast 0), .inl (.natCast 0), .inl (.natCast 0), .inl (.natCast 0), .inl (.natCast 0), .inl (.natCast 0)]), (1, 0, [.inl (.natCast 1), .inl (.natCast 3), .inl (.natCast 2), .inl (.natCast 0), .inl (.natCast 0)]), (1, 0, [.inl (.natCast 0), .inl (.natCast 0), .inl (.natCast 0), .inl (.natCast 0), .inl (.natCast 0), .inl (.natCast 0)]), (0, 3, [.inr (.inr (some 1)), .inr (.inr (some 25)), .inr (.inr (some 28)), .inr (.inr (some 31))]), (0, 0, [.inr (.inr (some 26)), .inr (.inr (some 27))]), (4, 0, [.inr (.inl (.natCast 1)), .inr (.inl (.natCast 3)), .inr (.inl (.natCast 0)), .inr (.inl (.natCast 0)), .inr (.inl (.natCast 0)), .inr (.inl (.natCast 0))]), (4, 0, [.inr (.inl (.natCast 1)), .inr (.inl (.natCast 4)), .inr (.inl (.natCast 1)), .inr (.inl (.natCast 1)), .inr (.inl (.natCast 1)), .inr (.inl (.natCast 1))]), (0, 0, [.inr (.inr (some 29)), .inr (.inr (some 30))]), (4, 0, [.inr (.inl (.natCast 0)), .inr (.inl (.natCast 0)), .inr (.inl (.natCast 0)), .inr (.inl (.natCast 0)), .inr (.inl (.natCast 0)), .inr (.inl (.natCast 0))]), (4, 0, [.inr (.inl (.natCast 0)), .inr (.inl (.natCast 0)), .inr (.inl (.natCast 0)), .inr (.inl (.natCast 0)), .inr (.inl (.natCast 0)), .inr (.inl (.natCast 0))]), (0, 0, [.inr (.inr (some 32)), .inr (.inr (some 33))]), (4, 0, [.inr (.inl (.natCast 0)), .inr (.inl (.natCast 0)), .inr (.inl (.natCast 0)), .inr (.inl (.natCast 0)), .inr (.inl (.natCast 0)), .inr (.inl (.natCast 0))]), (4, 0, [.inr (.inl (.natCast 0)), .inr (.inl (.natCast 0)), .inr (.inl (.natCast 0)), .inr (.inl (.natCast 0)), .inr (.inl (.natCast 0)), .inr (.inl (.natCast 0))]), (1, 0, [.inl (.natCast 344865), .inl (.natCast 344865), .inl (.natCast 344865), .inl (.natCast 344865)]), (5, 0, [.inr (.inr (some 36)), .inr (.inr (some 38)), .inr (.inr (some 40)), .inr (.inr (some 42))]), (0, 5, [.inl (.natCast 0), .inl (.natCast 0), .inr (.inr (some 37))]), (1, 0, [.inl (.natCast 0), .inl (.natCast 0), .inl (.natCast 0), .inl (.natCast 0), .inl (.natCast 0), .inl (.natCast 0), .inl (.natCast 0), .inl (.natCast 0), .inl (.natCast 0), .inl (.natCast 0), .inl (.natCast 0), .inl (.natCast 0), .inl (.natCast 0), .inl (.natCast 0), .inl (.natCast 0), .inl (.natCast 0), .inl (.natCast 0), .inl (.natCast 0), .inl (.natCast 0), .inl (.natCast 0)]), (0, 5, [.inl (.natCast 0), .inl (.natCast 0), .inr (.inr (some 39))]), (1, 0, [.inl (.natCast 0), .inl (.natCast 0), .inl (.natCast 0), .inl (.natCast 0), .inl (.natCast 0), .inl (.natCast 0), .inl (.natCast 0), .inl (.natCast 0), .inl (.natCast 0), .inl (.natCast 0), .inl (.natCast 0), .inl (.natCast 0), .inl (.natCast 0), .inl (.natCast 0), .inl (.natCast 0), .inl (.natCast 0), .inl (.natCast 0), .inl (.natCast 0), .inl (.natCast 0), .inl (.natCast 0)]), (0, 5, [.inl (.natCast 0), .inl (.natCast 0), .inr (.inr (some 41))]), (1, 0, [.inl (.natCast 0), .inl (.natCast 0), .inl (.natCast 0), .inl (.natCast 0), .inl (.natCast 0), .inl (.natCast 0), .inl (.natCast 0), .inl (.natCast 0), .inl (.natCast 0), .inl (.natCast 0), .inl (.natCast 0), .inl (.natCast 0), .inl (.natCast 0), .inl (.natCast 0), .inl (.natCast 0), .inl (.natCast 0), .inl (.natCast 0), .inl (.natCast 0), .inl (.natCast 0), .inl (.natCast 0)]), (0, 5, [.inl (.natCast 0), .inl (.natCast 0), .inr (.inr (some 43))]), (1, 0, [.inl (.natCast 0), .inl (.natCast 0), .inl (.natCast 0), .inl (.natCast 0), .inl (.natCast 0), .inl (.natCast 0), .inl (.natCast 0), .inl (.natCast 0), .inl (.natCast 0), .inl (.natCast 0), .inl (.natCast 0), .inl (.natCast 0), .inl (.natCast 0), .inl (.natCast 0), .inl (.natCast 0), .inl (.natCast 0), .inl (.natCast 0), .inl (.natCast 0), .inl (.natCast 0), .inl (.natCast 0)]), (0, 6, [.inl (.natCast 0), .inr (.inr (some 45)), .inr (.inr (some 46))]), (1, 0, [.inl (.natCast 0), .inl (.natCast 0), .inl (.natCast 0), .inl (.natCast 0), .inl (.natCast 0), .inl (.natCast 0), .inl (.natCast 0), .inl (.natCast 0), .inl (.natCast 0), .inl (.natCast 0)]), (1, 0, [.inl (.natCast 0), .inl (.natCast 0), .inl (.natCast 0), .inl (.natCast 0), .inl (.natCast 0), .inl (.natCast 0), .inl (.natCast 0), .inl (.natCast 0), .inl (.natCast 0), .inl (.natCast 0)]), (0, 7, [.inl (.natCast 0), .inr (.inr (some 48))]), (2, 0, [.inl (.natCast 0), .inl (.natCast 0), .inl (.natCast 0), .inl (.natCast 0), .inl (.natCast 0), .inl (.natCast 0), .inl (.natCast 0), .inl (.natCast 0), .inl (.natCast 0), .inl (.natCast 0), .inl (.natCast 0), .inl (.natCast 0), .inl (.natCast 0), .inl (.natCast 0), .inl (.natCast 0), .inl (.natCast 0), .inl (.natCast 0), .inl (.natCast 0), .inl (.natCast 0), .inl (.natCast 0), .inl (.natCast 0), .inl (.natCast 0), .inl (.natCast 0), .inl (.natCast 0), .inl (.natCast 0), .inl (.natCast 0), .inl (.natCast 0), .inl (.natCast 0), .inl (.natCast 0), .inl (.natCast 0), .inl (.natCast 0), .inl (.natCast 0), .inl (.natCast 0), .inl (.natCast 0), .inl (.natCast 0), .inl (.natCast 0), .inl (.natCast 0), .inl (.natCast 0), .inl (.natCast 0), .inl (.natCast 0), .inl (.natCast 0), .inl (.natCast 0), .inl (.natCast 0), .inl (.natCast 0), .inl (.natCast 0), .inl (.natCast 0), .inl (.natCast 0), .inl (.natCast 0), .inl (.natCast 0), .inl (.natCast 0), .inl (.natCast 0), .inl (.natCast 0), .inl (.natCast 0), .inl (.natCast 0), .inl (.natCast 0), .inl (.natCast 0), .inl (.natCast 0), .inl (.natCast 0), .inl (.natCast 0), .inl (.natCast 0), .inl (.natCast 0), .inl (.natCast 0), .inl (.natCast 0), .inl (.natCast 0), .inl (.natCast 0), .inl (.natCast 0), .inl (.natCast 0), .inl (.natCast 0), .inl (.natCast 0), .inl (.natCast 0), .inl (.natCast 0), .inl (.natCast 0), .inl (.natCast 0), .inl (.natCast 0), .inl (.natCast 0), .inl (.natCast 0), .inl (.natCast 0), .inl (.natCast 0), .inl (.natCast 0), .inl (.natCast 0)]), (0, 2, [.inr (.inr (some 50)), .inr (.inr (some 53)), .inr (.inr (some 56)), .inl (.natCast 0), .inl (.natCast 0), .inl (.natCast 0), .inl (.natCast 0), .inl (.natCast 0), .inl (.natCast 0), .inl (.natCast 0), .inl (.natCast 0), .inl (.natCast 0)]), (0, 8, [.inl (.natCast 0), .inr (.inr (some 51)), .inr (.inr (some 52))]), (1, 0, [.inl (.natCast 0), .inl (.natCast 0), .inl (.natCast 0), .inl (.natCast 0), .inl (.natCast 0), .inl (.natCast 0), .inl (.natCast 0), .inl (.natCast 0), .inl (.natCast 0), .inl (.natCast 0), .inl (.natCast 0), .inl (.natCast 0), .inl (.natCast 0), .inl (.natCast 0), .inl (.natCast 0), .inl (.natCast 0), .inl (.natCast 0), .inl (.natCast 0), .inl (.natCast 0), .inl (.natCast 0), .inl (.natCast 0), .inl (.natCast 0), .inl (.natCast 0), .inl (.natCast 0), .inl (.natCast 0), .inl (.natCast 0), .inl (.natCast 0), .inl (.natCast 0), .inl (.natCast 0), .inl (.natCast 0), .inl (.natCast 0), .inl (.natCast 0), .inl (.natCast 0), .inl (.natCast 0), .inl (.natCast 0), .inl (.natCast 0), .inl (.natCast 0), .inl (.natCast 0), .inl (.natCast 0), .inl (.natCast 0), .inl (.natCast 0), .inl (.natCast 0), .inl (.natCast 0), .inl (.natCast 0), .inl (.natCast 0), .inl (.natCast 0), .inl (.natCast 0), .inl (.natCast 0), .inl (.natCast 0), .inl (.natCast 0), .inl (.natCast 0), .inl (.natCast 0), .inl (.natCast 0), .inl (.natCast 0), .inl (.natCast 0), .inl (.natCast 0), .inl (.natCast 0), .inl (.natCast 0), .inl (.natCast 0), .inl (.natCast 0), .inl (.natCast 0), .inl (.natCast 0), .inl (.natCast 0), .inl (.natCast 0), .inl (.natCast 0), .inl (.natCast 0), .inl (.natCast 0), .inl (.natCast 0), .inl (.natCast 0), .inl (.natCast 0), .inl (.natCast 0), .inl (.natCast 0), .inl (.natCast 0), .inl (.natCast 0), .inl (.natCast 0), .inl (.natCast 0), .inl (.natCast 0), .inl (.natCast 0), .inl (.natCast 0), .inl (.natCast 0), .inl (.natCast 0)]), (1, 0, [.inl (.natCast 0), .inl (.natCast 0), .inl (.natCast 0), .inl (.natCast 0), .inl (.natCast 0), .inl (.natCast 0), .inl (.natCast 0), .inl (.natCast 0), .inl (.natCast 0), .inl (.natCast 0), .inl (.natCast 0), .inl (.natCast 0), .inl (.natCast 0), .inl (.natCast 0), .inl (.natCast 0), .inl (.natCast 0), .inl (.natCast 0), .inl (.natCast 0), .inl (.natCast 0), .inl (.natCast 0), .inl (.natCast 0), .inl (.natCast 0), .inl (.natCast 0), .inl (.natCast 0), .inl (.natCast 0), .inl (.natCast 0), .inl (.natCast 0), .inl (.natCast 0), .inl (.natCast 0), .inl (.natCast 0), .inl (.natCast 0), .inl (.natCast 0), .inl (.natCast 0), .inl (.natCast 0), .inl (.natCast 0), .inl (.natCast 0), .inl (.natCast 0), .inl (.natCast 0), .inl (.natCast 0), .inl (.natCast 0), .inl (.natCast 0), .inl (.natCast 0), .inl (.natCast 0), .inl (.natCast 0), .inl (.natCast 0), .inl (.natCast 0), .inl (.natCast 0), .inl (.natCast 0), .inl (.natCast 0), .inl (.natCast 0), .inl (.natCast 0), .inl (.natCast 0), .inl (.natCast 0), .inl (.natCast 0), .inl (.natCast 0), .inl (.natCast 0), .inl (.natCast 0), .inl (.natCast 0), .inl (.natCast 0), .inl (.natCast 0), .inl (.natCast 0), .inl (.natCast 0), .inl (.natCast 0), .inl (.natCast 0), .inl (.natCast 0), .inl (.natCast 0), .inl (.natCast 0), .inl (.natCast 0), .inl (.natCast 0), .inl (.natCast 0), .inl (.natCast 0), .inl (.natCast 0), .inl (.natCast 0), .inl (.natCast 0), .inl (.natCast 0), .inl (.natCast 0), .inl (.natCast 0), .inl (.natCast 0), .inl (.natCast 0), .inl (.natCast 0), .inl (.natCast 0)]), (0, 8, [.inl (.natCast 0), .inr (.inr (some 54)), .inr (.inr (some 55))]), (1, 0, [.inl (.natCast 0), .inl (.natCast 0), .inl (.natCast 0), .inl (.natCast 0), .inl (.natCast 0), .inl (.natCast 0), .inl (.natCast 0), .inl (.natCast 0), .inl (.natCast 0), .inl (.natCast 0), .inl (.natCast 0), .inl (.natCast 0), .inl (.natCast 0), .inl (.natCast 0), .inl (.natCast 0), .inl (.natCast 0), .inl (.natCast 0), .inl (.natCast 0), .inl (.natCast 0), .inl (.natCast 0), .inl (.natCast 0), .inl (.natCast 0), .inl (.natCast 0), .inl (.natCast 0), .inl (.natCast 0), .inl (.natCast 0), .inl (.natCast 0), .inl (.natCast 0), .inl (.natCast 0), .inl (.natCast 0), .inl (.natCast 0), .inl (.natCast 0), .inl (.natCast 0), .inl (.natCast 0), .inl (.natCast 0), .inl (.natCast 0), .inl (.natCast 0), .inl (.natCast 0), .inl (.natCast 0), .inl (.natCast 0), .inl (.natCast 0), .inl (.natCast 0), .inl (.natCast 0), .inl (.natCast 0), .inl (.natCast 0), .inl (.natCast 0), .inl (.natCast 0), .inl (.natCast 0), .inl (.natCast 0), .inl (.natCast 0), .inl (.natCast 0), .inl (.natCast 0), .inl (.natCast 0), .inl (.natCast 0), .inl (.natCast 0), .inl (.natCast 0), .inl (.natCast 0), .inl (.natCast 0), .inl (.natCast 0), .inl (.natCast 0), .inl (.natCast 0), .inl (.natCast 0), .inl (.natCast 0), .inl (.natCast 0), .inl (.natCast 0), .inl (.natCast 0), .inl (.natCast 0), .inl (.natCast 0), .inl (.natCast 0), .inl (.natCast 0), .inl (.natCast 0), .inl (.natCast 0), .inl (.natCast 0), .inl (.natCast 0), .inl (.natCast 0), .inl (.natCast 0), .inl (.natCast 0), .inl (.natCast 0), .inl (.natCast 0), .inl (.natCast 0), .inl (.natCast 0)]), (1, 0, [.inl (.natCast 0), .inl (.natCast 0), .inl (.natCast 0), .inl (.natCast 0), .inl (.natCast 0), .inl (.natCast 0), .inl (.natCast 0), .inl (.natCast 0), .inl (.natCast 0), .inl (.natCast 0), .inl (.natCast 0), .inl (.natCast 0), .inl (.natCast 0), .inl (.natCast 0), .inl (.natCast 0), .inl (.natCast 0), .inl (.natCast 0), .inl (.natCast 0), .inl (.natCast 0), .inl (.natCast 0), .inl (.natCast 0), .inl (.natCast 0), .inl (.natCast 0), .inl (.natCast 0), .inl (.natCast 0), .inl (.natCast 0), .inl (.natCast 0), .inl (.natCast 0), .inl (.natCast 0), .inl (.natCast 0), .inl (.natCast 0), .inl (.natCast 0), .inl (.natCast 0), .inl (.natCast 0), .inl (.natCast 0), .inl (.natCast 0), .inl (.natCast 0), .inl (.natCast 0), .inl (.natCast 0), .inl (.natCast 0), .inl (.natCast 0), .inl (.natCast 0), .inl (.natCast 0), .inl (.natCast 0), .inl (.natCast 0), .inl (.natCast 0), .inl (.natCast 0), .inl (.natCast 0), .inl (.natCast 0), .inl (.natCast 0), .inl (.natCast 0), .inl (.natCast 0), .inl (.natCast 0), .inl (.natCast 0), .inl (.natCast 0), .inl (.natCast 0), .inl (.natCast 0), .inl (.natCast 0), .inl (.natCast 0), .inl (.natCast 0), .inl (.natCast 0), .inl (.natCast 0), .inl (.natCast 0), .inl (.natCast 0), .inl (.natCast 0), .inl (.natCast 0), .inl (.natCast 0), .inl (.natCast 0), .inl (.natCast 0), .inl (.natCast 0), .inl (.natCast 0), .inl (.natCast 0), .inl (.natCast 0), .inl (.natCast 0), .inl (.natCast 0), .inl (.natCast 0), .inl (.natCast 0), .inl (.natCast 0), .inl (.natCast 0), .inl (.natCast 0), .inl (.natCast 0)]), (1, 0, [.inl (.natCast 0), .inl (.natCast 0), .inl (.natCast 0), .inl (.natCast 0)]), (0, 1, [.inl (.natCast 0), .inr (.inr (some 58)), .inr (.inr (some 59))]), (1, 0, [.inl (.natCast 0), .inl (.natCast 0), .inl (.natCast 0), .inl (.natCast 0)]), (5, 0, [.inr (.inr (some 60)), .inr (.inr (some 62)), .inr (.inr (some 64)), .inr (.inr (some 66))]), (0, 5, [.inl (.natCast 0), .inl (.natCast 0), .inr (.inr (some 61))]), (1, 0, [.inl (.natCast 0), .inl (.natCast 0), .inl (.natCast 0), .inl (.natCast 0), .inl (.natCast 0), .inl (.natCast 0), .inl (.natCast 0), .inl (.natCast 0), .inl (.natCast 0), .inl (.natCast 0), .inl (.natCast 0), .inl (.natCast 0), .inl (.natCast 0), .inl (.natCast 0), .inl (.natCast 0), .inl (.natCast 0), .inl (.natCast 0), .inl (.natCast 0), .inl (.natCast 0), .inl (.natCast 0)]), (0, 5, [.inl (.natCast 0), .inl (.natCast 0), .inr (.inr (some 63))]), (1, 0, [.inl (.natCast 0), .inl (.natCast 0), .inl (.natCast 0), .inl (.natCast 0), .inl (.natCast 0), .inl (.natCast 0), .inl (.natCast 0), .inl (.natCast 0), .inl (.natCast 0), .inl (.natCast 0), .inl (.natCast 0), .inl (.natCast 0), .inl (.natCast 0), .inl (.natCast 0), .inl (.natCast 0), .inl (.natCast 0), .inl (.natCast 0), .inl (.natCast 0), .inl (.natCast 0), .inl (.natCast 0)]), (0, 5, [.inl (.natCast 0), .inl (.natCast 0), .inr (.inr (some 65))]), (1, 0, [.inl (.natCast 0), .inl (.natCast 0), .inl (.natCast 0), .inl (.natCast 0), .inl (.natCast 0), .inl (.natCast 0), .inl (.natCast 0), .inl (.natCast 0), .inl (.natCast 0), .inl (.natCast 0), .inl (.natCast 0), .inl (.natCast 0), .inl (.natCast 0), .inl (.natCast 0), .inl (.natCast 0), .inl (.natCast 0), .inl (.natCast 0), .inl (.natCast 0), .inl (.natCast 0), .inl (.natCast 0)]), (0, 5, [.inl (.natCast 0), .inl (.natCast 0), .inr (.inr (some 67))]), (1, 0, [.inl (.natCast 0), .inl (.natCast 0), .inl (.natCast 0), .inl (.natCast 0), .inl (.natCast 0), .inl (.natCast 0), .inl (.natCast 0), .inl (.natCast 0), .inl (.natCast 0), .inl (.natCast 0), .inl (.natCast 0), .inl (.natCast 0), .inl (.natCast 0), .inl (.natCast 0), .inl (.natCast 0), .inl (.natCast 0), .inl (.natCast 0), .inl (.natCast 0), .inl (.natCast 0), .inl (.natCast 0)]), (1, 0, [.inl (.natCast 0), .inl (.natCast 0), .inl (.natCast 0), .inl (.natCast 0), .inl (.natCast 0), .inl (.natCast 0)])]
/-- the model's -/
def tM0 : sM := [(0, 11, [.inr (.inr (some 1)), .inl (.natCast 3), .inr (.inr (some 2)), .inr (.inr (some 3)), .inl (.natCast 2), .inr (.inr (some 4)), .inr (.inr (some 5)), .inr (.inr (some 6)), .inr (.inr (some 7)), .inr (.inr (some 8)), .inr (.inr (some 9)), .inr (.inr (some 10)), .inr (.inr (some 11)), .inr (.inr (some 12)), .inl (.natCast 0), .inr (.inr (some 13)), .inr (.inr (some 14)), .inl (.natCast 0), .inr (.inr (some 15)), .inr (.inr (some 16)), .inr (.inr (some 17)), .inr (.inr (some 18)), .inl (.natCast 0), .inr (.inr (some 19)), .inr (.inr (some 20)), .inr (.inr (some 21)), .inr (.inr (some 22)), .inr (.inr (some 23)), .inl (.natCast 0), .inr (.inr (some 24)), .inr (.inr (some 25)), .inr (.inr (some 26)), .inr (.inr (some 27)), .inr (.inr (some 28)), .inr (.inr (some 29)), .inr (.inl (.natCast 0)), .inr (.inl (.natCast 0)), .inr (.inr (some 30)), .inr (.inr (some 31)), .inr (.inr (some 32)), .inr (.inr (some 33)), .inl (.natCast 0), .inl (.natCast 0), .inr (.inr (some 34)), .inr (.inr (some 35)), .inl (.natCast 0), .inl (.natCast 0), .inr (.inr (some 36)), .inr (.inr (some 37)), .inl (.natCast 0), .inl (.natCast 0), .inr (.inr (some 38)), .inr (.inr (some 39)), .inl (.natCast 0), .inr (.inr (some 40)), .inr (.inr (some 41)), .inr (.inr (some 42)), .inr (.inr (some 43)), .inr (.inr (some 44))]), (1, 0, [.inl (.natCast 2), .inl (.natCast 1), .inl (.natCast 0), .inl (.natCast 0), .inl (.natCast 0), .inl (.natCast 0)]), (1, 0, [.inl (.natCast 0), .inl (.natCast 0), .inl (.natCast 1), .inl (.natCast 0), .inl (.natCast 0)]), (1, 0, [.inl (.natCast 0), .inl (.natCast 1), .inl (.natCast 0), .inl (.natCast 0), .inl (.natCast 0)]), (1, 0, [.inl (.natCast 0), .inl (.natCast 0), .inl (.natCast 1), .inl (.natCast 0), .inl (.natCast 0), .inl (.natCast 0), .inl (.natCast 0), .inl (.natCast 1), .inl (.natCast 0), .inl (.natCast 0), .inl (.natCast 0), .inl (.natCast 0), .inl (.natCast 0), .inl (.natCast 1), .inl (.natCast 0), .inl (.natCast 0), .inl (.natCast 0), .inl (.natCast 0), .inl (.natCast 0), .inl (.natCast 0), .inl (.natCast 0), .inl (.natCast 0), .inl (.natCast 0), .inl (.natCast 0), .inl (.natCast 0), .inl (.natCast 0), .inl (.natCast 0), .inl (.natCast 0), .inl (.natCast 0), .inl (.natCast 0), .inl (.natCast 0), .inl (.natCast 0), .inl (.natCast 0), .inl (.natCast 0), .inl (.natCast 0), .inl (.natCast 0)]), (1, 0, [.inl (.natCast 0), .inl (.natCast 1), .inl (.natCast 0), .inl (.natCast 0), .inl (.natCast 0), .inl (.natCast 0), .inl (.natCast 0), .inl (.natCast 0), .inl (.natCast 1), .inl (.natCast 0), .inl (.natCast 0), .inl (.natCast 0), .inl (.natCast 0), .inl (.natCast 0), .inl (.natCast 1), .inl (.natCast 0), .inl (.natCast 0), .inl (.natCast 0), .inl (.natCast 0), .inl (.natCast 0), .inl (.natCast 0), .inl (.natCast 0), .inl (.natCast 0), .inl (.natCast 0), .inl (.natCast 0), .inl (.natCast 0), .inl (.natCast 0), .inl (.natCast 0), .inl (.natCast 0), .inl (.natCast 0), .inl (.natCast 0), .inl (.natCast 0), .inl (.natCast 0), .inl (.natCast 0), .inl (.natCast 0), .inl (.natCast 0)]), (1, 0, [.inl (.natCast 0), .inl (.natCast 1), .inl (.natCast 2), .inl (.natCast 3), .inl (.natCast 4), .inl (.natCast 5), .inl (.natCast 0), .inl (.natCast 1), .inl (.natCast 2), .inl (.natCast 3), .inl (.natCast 4), .inl (.natCast 5), .inl (.natCast 0), .inl (.natCast 1), .inl (.natCast 2), .inl (.natCast 3), .inl (.natCast 4), .inl (.natCast 5), .inl (.natCast 0), .inl (.natCast 1), .inl (.natCast 2), .inl (.natCast 3), .inl (.natCast 4), .inl (.natCast 5)]), (1, 0, [.inl (.natCast 0), .inl (.natCast 0), .inl (.natCast 0), .inl (.natCast 0)]), (1, 0, [.inl (.natCast 0), .inl (.natCast 0), .inl (.natCast 0), .inl (.natCast 0)]), (1, 0, [.inl (.natCast 0), .inl (.natCast 0), .inl (.natCast 0), .inl (.natCast 0), .inl (.natCast 0), .inl (.natCast 0), .inl (.natCast 0), .inl (.natCast 0), .inl (.natCast 0), .inl (.natCast 0), .inl (.natCast 0), .inl (.natCast 0), .inl (.natCast 0), .inl (.natCast 0), .inl (.natCast 0), .inl (.natCast 0), .inl (.natCast 0), .inl (.natCast 0), .inl (.natCast 0), .inl (.natCast 0), .inl (.natCast 0), .inl (.natCast 0), .inl (.natCast 0), .inl (.natCast 0), .inl (.natCast 0), .inl (.natCast 0), .inl (.natCast 0), .inl (.natCast 0), .inl (.natCast 0), .inl (.natCast 0), .inl (.natCast 0), .inl (.natCast 0), .inl (.natCast 0), .inl (.natCast 0), .inl (.natCast 0), .inl (.natCast 0), .inl (.natCast 0), .inl (.natCast 0), .inl (.natCast 0), .inl (.natCast 0), .inl (.natCast 0), .inl (.natCast 0), .inl (.natCast 0), .inl (.natCast 0), .inl (.natCast 0), .inl (.natCast 0), .inl (.natCast 0), .inl (.natCast 0), .inl (.natCast 0), .inl (.natCast 0), .inl (.natCast 0), .inl (.natCast 0), .inl (.natCast 0), .inl (.natCast 0), .inl (.natCast 0), .inl (.natCast 0), .inl (.natCast 0), .inl (.natCast 0), .inl (.natCast 0), .inl (.natCast 0), .inl (.natCast 0), .inl (.natCast 0), .inl (.natCast 0), .inl (.natCast 0), .inl (.natCast 0), .inl (.natCast 0), .inl (.natCast 0), .inl (.natCast 0), .inl (.natCast 0), .inl (.natCast 0), .inl (.natCast 0), .inl (.natCast 0), .inl (.natCast 0), .inl (.natCast 0), .inl (.natCast 0), .inl (.natCast 0), .inl (.natCast 0), .inl (.natCast 0), .inl (.natCast 0), .inl (.natCast 0)]), (1, 0, [.inl (.natCast 0), .inl (.natCast 0), .inl (.natCast 0), .inl (.natCast 0), .inl (.natCast 0), .inl (.natCast 0)]), (1, 0, [.inl (.natCast 0), .inl (.natCast 0), .inl (.natCast 0), .inl (.natCast 0), .inl (.natCast 0), .inl (.natCast 0), .inl (.natCast 0), .inl (.natCast 0), .inl (.natCast 0), .inl (.natCast 0), .inl (.natCast 0), .inl (.natCast 0), .inl (.natCast 0), .inl (.natCast 0), .inl (.natCast 0), .inl (.natCast 0), .inl (.natCast 0), .inl (.natCast 0), .inl (.natCast 0), .inl (.natCast 0), .inl (.natCast 0), .inl (.natCast 0), .inl (.natCast 0), .inl (.natCast 0), .inl (.natCast 0), .inl (.natCast 0), .inl (.natCast 0), .inl (.natCast 0), .inl (.natCast 0), .inl (.natCast 0), .inl (.natCast 0), .inl (.natCast 0), .inl (.natCast 0), .inl (.natCast 0), .inl (.natCast 0), .inl (.natCast 0), .inl (.natCast 0), .inl (.natCast 0), .inl (.natCast 0), .inl (.natCast 0)]), (1, 0, [.inl (.natCast 0), .inl (.natCast 0), .inl (.natCast 0), .inl (.natCast 0), .inl (.natCast 0), .inl (.natCast 0)]), (1, 0, [.inl (.natCast 0), .inl (.natCast 0), .inl (.natCast 0), .inl (.natCast 0), .inl (.natCast 0), .inl (.natCast 0)]), (1, 0, [.inl (.natCast 0), .inl (.natCast 0), .inl (.natCast 0), .inl (.natCast 0), .inl (.natCast 0), .inl (.natCast 0)]), (1, 0, [.inl (.natCast 0), .inl (.natCast 0), .inl (.natCast 0), .inl (.natCast 0), .inl (.natCast 0), .inl (.natCast 0), .inl (.natCast 0), .inl (.natCast 0), .inl (.natCast 0), .inl (.natCast 0), .inl (.natCast 0), .inl (.natCast 0), .inl (.natCast 0), .inl (.natCast 0), .inl (.natCast 0), .inl (.natCast 0), .inl (.natCast 0), .inl (.natCast 0), .inl (.natCast 0), .inl (.natCast 0), .inl (.natCast 0), .inl (.natCast 0), .inl (.natCast 0), .inl (.natCast 0), .inl (.natCast 0), .inl (.natCast 0), .inl (.natCast 0), .inl (.natCast 0), .inl (.natCast 0), .inl (.natCast 0), .inl (.natCast 0), .inl (.natCast 0), .inl (.natCast 0), .inl (.natCast 0), .inl (.natCast 0), .inl (.natCast 0), .inl (.natCast 0), .inl (.natCast 0), .inl (.natCast 0), .inl (.natCast 0), .inl (.natCast 0), .inl (.natCast 0), .inl (.natCast 0), .inl (.natCast 0), .inl (.natCast 0), .inl (.natCast 0), .inl (.natCast 0), .inl (.natCast 0), .inl (.natCast 0), .inl (.natCast 0), .inl (.natCast 0), .inl (.natCast 0), .inl (.natCast 0), .inl (.natCast 0), .inl (.natCast 0), .inl (.natCast 0), .inl (.natCast 0), .inl (.natCast 0), .inl (.natCast 0), .inl (.natCast 0)]), (3, 0, [.inl (.natCast 0), .inl (.natCast 0), .inl (.natCast 0), .inl (.natCast 0), .inl (.natCast 0), .inl (.natCast 0)]), (1, 0, [.inl (.natCast 0), .inl (.natCast 0), .inl (.natCast 0), .inl (.natCast 0), .inl (.natCast 0)]), (1, 0, [.inl (.natCast 0), .inl (.natCast 0), .inl (.natCast 0), .inl (.natCast 0), .inl (.natCast 0), .inl (.natCast 0), .inl (.natCast 0), .inl (.natCast 0), .inl (.natCast 0), .inl (.natCast 0), .inl (.natCast 0), .inl (.natCast 0), .inl (.natCast 0), .inl (.natCast 0), .inl (.natCast 0), .inl (.natCast 0), .inl (.natCast 0), .inl (.natCast 0), .inl (.natCast 0), .inl (.natCast 0), .inl (.natCast 0), .inl (.natCast 0), .inl (.natCast 0), .inl (.natCast 0), .inl (.natCast 0), .inl (.natCast 0), .inl (.natCast 0), .inl (.natCast 0), .inl (.natCast 0), .inl (.natCast 0)]), (1, 0, [.inl (.natCast 0), .inl (.natCast 0), .inl (.natCast 0), .inl (.natCast 0), .inl (.natCast 0), .inl (.natCast 0)]), (1, 0, List.replicate 3125 (.inl (.natCast 0))), (1, 0, [.inl (.natCast 0), .inl (.natCast 0), .inl (.natCast 0), .inl (.natCast 0), .inl (.natCast 0), .inl (.natCast 0)]), (1, 0, [.inl (.natCast 0), .inl (.natCast 0), .inl (.natCast 0), .inl (.natCast 0), .inl (.natCast 0), .inl (.natCast 0)]), (1, 0, [.inl (.natCast 0), .inl (.natCast 0), .inl (.natCast 0), .inl (.natCast 0), .inl (.natCast 0), .inl (.natCast 0)]), (1, 0, [.inl (.natCast 0), .inl (.natCast 0), .inl (.natCast 0), .inl (.natCast 0), .inl (.natCast 0), .inl (.natCast 0)]), (3, 0, [.inl (.natCast 0), .inl (.natCast 0), .inl (.natCast 0), .inl (.natCast 0), .inl (.natCast 0), .inl (.natCast 0)]), (4, 0, [.inr (.inl (.natCast 0)), .inr (.inl (.natCast 0)), .inr (.inl (.natCast 0)), .inr (.inl (.natCast 0)), .inr (.inl (.natCast 0)), .inr (.inl (.natCast 0)), .inr (.inl (.natCast 0)), .inr (.inl (.natCast 0)), .inr (.inl (.natCast 0)), .inr (.inl (.natCast 0)), .inr (.inl (.natCast 0)), .inr (.inl (.natCast 0)), .inr (.inl (.natCast 0)), .inr (.inl (.natCast 0)), .inr (.inl (.natCast 0)), .inr (.inl (.natCast 0)), .inr (.inl (.natCast 0)), .inr (.inl (.natCast 0)), .inr (.inl (.natCast 0)), .inr (.inl (.natCast 0)), .inr (.inl (.natCast 0)), .inr (.inl (.natCast 0)), .inr (.inl (.natCast 0)), .inr (.inl (.natCast 0)), .inr (.inl (.natCast 0)), .inr (.inl (.natCast 0)), .inr (.inl (.natCast 0)), .inr (.inl (.natCast 0)), .inr (.inl (.natCast 0)), .inr (.inl (.natCast 0)), .inr (.inl (.natCast 0)), .inr (.inl (.natCast 0)), .inr (.inl (.natCast 0)), .inr (.inl (.natCast 0)), .inr (.inl (.natCast 0)), .inr (.inl (.natCast 0))]), (4, 0, [.inr (.inl (.natCast 0)), .inr (.inl (.natCast 0)), .inr (.inl (.natCast 0)), .inr (.inl (.natCast 0)), .inr (.inl (.natCast 0)), .inr (.inl (.natCast 0)), .inr (.inl (.natCast 0)), .inr (.inl (.natCast 0)), .inr (.inl (.natCast 0)), .inr (.inl (.natCast 0)), .inr (.inl (.natCast 0)), .inr (.inl (.natCast 0)), .inr (.inl (.natCast 0)), .inr (.inl (.natCast 0)), .inr (.inl (.natCast 0)), .inr (.inl (.natCast 0)), .inr (.inl (.natCast 0)), .inr (.inl (.natCast 0)), .inr (.inl (.natCast 0)), .inr (.inl (.natCast 0)), .inr (.inl (.natCast 0)), .inr (.inl (.natCast 0)), .inr (.inl (.natCast 0)), .inr (.inl (.natCast 0)), .inr (.inl (.natCast 0)), .inr (.inl (.natCast 0)), .inr (.inl (.natCast 0)), .inr (.inl (.natCast 0)), .inr (.inl (.natCast 0)), .inr (.inl (.natCast 0)), .inr (.inl (.natCast 0)), .inr (.inl (.natCast 0)), .inr (.inl (.natCast 0)), .inr (.inl (.natCast 0)), .inr (.inl (.natCast 0)), .inr (.inl (.natCast 0))]), (4, 0, [.inr (.inl (.natCast 0)), .inr (.inl (.natCast 0)), .inr (.inl (.natCast 0)), .inr (.inl (.natCast 0)), .inr (.inl (.natCast 0)), .inr (.inl (.natCast 0)), .inr (.inl (.natCast 0)), .inr (.inl (.natCast 0)), .inr (.inl (.natCast 0)), .inr (.inl (.natCast 0)), .inr (.inl (.natCast 0)), .inr (.inl (.natCast 0)), .inr (.inl (.natCast 0)), .inr (.inl (.natCast 0)), .inr (.inl (.natCast 0)), .inr (.inl (.natCast 0)), .inr (.inl (.natCast 0)), .inr (.inl (.natCast 0)), .inr (.inl (.natCast 0)), .inr (.inl (.natCast 0)), .inr (.inl (.natCast 0)), .inr (.inl (.natCast 0)), .inr (.inl (.natCast 0)), .inr (.inl (.natCast 0)), .inr (.inl (.natCast 0)), .inr (.inl (.natCast 0)), .inr (.inl (.natCast 0)), .inr (.inl (.natCast 0)), .inr (.inl (.natCast 0)), .inr (.inl (.natCast 0)), .inr (.inl (.natCast 0)), .inr (.inl (.natCast 0)), .inr (.inl (.natCast 0)), .inr (.inl (.natCast 0)), .inr (.inl (.natCast 0)), .inr (.inl (.natCast 0))]), (4, 0, [.inr (.inl (.natCast 0)), .inr (.inl (.natCast 0)), .inr (.inl (.natCast 0)), .inr (.inl (.natCast 0)), .inr (.inl (.natCast 0)), .inr (.inl (.natCast 0)), .inr (.inl (.natCast 0)), .inr (.inl (.natCast 0)), .inr (.inl (.natCast 0)), .inr (.inl (.natCast 0)), .inr (.inl (.natCast 0)), .inr (.inl (.natCast 0)), .inr (.inl (.natCast 0)), .inr (.inl (.natCast 0)), .inr (.inl (.natCast 0)), .inr (.inl (.natCast 0)), .inr (.inl (.natCast 0)), .inr (.inl (.natCast 0)), .inr (.inl (.natCast 0)), .inr (.inl (.natCast 0)), .inr (.inl (.natCast 0)), .inr (.inl (.natCast 0)), .inr (.inl (.natCast 0)), .inr (.inl (.natCast 0)), .inr (.inl (.natCast 0)), .inr (.inl (.natCast 0)), .inr (.inl (.natCast 0)), .inr (.inl (.natCast 0)), .inr (.inl (.natCast 0)), .inr (.inl (.natCast 0)), .inr (.inl (.natCast 0)), .inr (.inl (.natCast 0)), .inr (.inl (.natCast 0)), .inr (.inl (.natCast 0)), .inr (.inl (.natCast 0)), .inr (.inl (.natCast 0))]), (4, 0, [.inr (.inl (.natCast 0)), .inr (.inl (.natCast 0)), .inr (.inl (.natCast 0)), .inr (.inl (.natCast 0)), .inr (.inl (.natCast 0)), .inr (.inl (.natCast 0))]), (4, 0, [.inr (.inl (.natCast 0)), .inr (.inl (.natCast 0)), .inr (.inl (.natCast 0)), .inr (.inl (.natCast 0)), .inr (.inl (.natCast 0)), .inr (.inl (.natCast 0))]), (4, 0, [.inr (.inl (.natCast 0)), .inr (.inl (.natCast 0)), .inr (.inl (.natCast 0)), .inr (.inl (.natCast 0)), .inr (.inl (.natCast 0)), .inr (.inl (.natCast 0))]), (1, 0, [.inl (.natCast 0), .inl (.natCast 0), .inl (.natCast 0), .inl (.natCast 0), .inl (.natCast 0), .inl (.natCast 0), .inl (.natCast 0), .inl (.natCast 0), .inl (.natCast 0), .inl (.natCast 0), .inl (.natCast 0), .inl (.natCast 0), .inl (.natCast 0), .inl (.natCast 0), .inl (.natCast 0), .inl (.natCast 0), .inl (.natCast 0), .inl (.natCast 0), .inl (.natCast 0), .inl (.natCast 0), .inl (.natCast 0), .inl (.natCast 0), .inl (.natCast 0), .inl (.natCast 0), .inl (.natCast 0), .inl (.natCast 0), .inl (.natCast 0), .inl (.natCast 0), .inl (.natCast 0), .inl (.natCast 0), .inl (.natCast 0), .inl (.natCast 0), .inl (.natCast 0), .inl (.natCast 0), .inl (.natCast 0), .inl (.natCast 0), .inl (.natCast 0), .inl (.natCast 0), .inl (.natCast 0), .inl (.natCast 0), .inl (.natCast 0), .inl (.natCast 0), .inl (.natCast 0), .inl (.natCast 0), .inl (.natCast 0), .inl (.natCast 0), .inl (.natCast 0), .inl (.natCast 0), .inl (.natCast 0), .inl (.natCast 0), .inl (.natCast 0), .inl (.natCast 0), .inl (.natCast 0), .inl (.natCast 0), .inl (.natCast 0), .inl (.natCast 0), .inl (.natCast 0), .inl (.natCast 0), .inl (.natCast 0), .inl (.natCast 0), .inl (.natCast 0), .inl (.natCast 0), .inl (.natCast 0), .inl (.natCast 0), .inl (.natCast 0), .inl (.natCast 0), .inl (.natCast 0), .inl (.natCast 0), .inl (.natCast 0), .inl (.natCast 0), .inl (.natCast 0), .inl (.natCast 0), .inl (.natCast 0), .inl (.natCast 0), .inl (.natCast 0), .inl (.natCast 0), .inl (.natCast 0), .inl (.natCast 0), .inl (.natCast 0), .inl (.natCast 0)]), (1, 0, [.inl (.natCast 0), .inl (.natCast 0), .inl (.natCast 0), .inl (.natCast 0), .inl (.natCast 0), .inl (.natCast 0), .inl (.natCast 0), .inl (.natCast 0), .inl (.natCast 0), .inl (.natCast 0), .inl (.natCast 0), .inl (.natCast 0), .inl (.natCast 0), .inl (.natCast 0), .inl (.natCast 0), .inl (.natCast 0), .inl (.natCast 0), .inl (.natCast 0), .inl (.natCast 0), .inl (.natCast 0), .inl (.natCast 0), .inl (.natCast 0), .inl (.natCast 0), .inl (.natCast 0), .inl (.natCast 0), .inl (.natCast 0), .inl (.natCast 0), .inl (.natCast 0), .inl (.natCast 0), .inl (.natCast 0), .inl (.natCast 0), .inl (.natCast 0), .inl (.natCast 0), .inl (.natCast 0), .inl (.natCast 0), .inl (.natCast 0), .inl (.natCast 0), .inl (.natCast 0), .inl (.natCast 0), .inl (.natCast 0), .inl (.natCast 0), .inl (.natCast 0), .inl (.natCast 0), .inl (.natCast 0), .inl (.natCast 0), .inl (.natCast 0), .inl (.natCast 0), .inl (.natCast 0), .inl (.natCast 0), .inl (.natCast 0), .inl (.natCast 0), .inl (.natCast 0), .inl (.natCast 0), .inl (.natCast 0), .inl (.natCast 0), .inl (.natCast 0), .inl (.natCast 0), .inl (.natCast 0), .inl (.natCast 0), .inl (.natCast 0), .inl (.natCast 0), .inl (.natCast 0), .inl (.natCast 0), .inl (.natCast 0), .inl (.natCast 0), .inl (.natCast 0), .inl (.natCast 0), .inl (.natCast 0), .inl (.natCast 0), .inl (.natCast 0), .inl (.natCast 0), .inl (.natCast 0), .inl (.natCast 0), .inl (.natCast 0), .inl (.natCast 0), .inl (.natCast 0), .inl (.natCast 0), .inl (.natCast 0), .inl (.natCast 0), .inl (.natCast 0), .inl (.natCast 0), .inl (.natCast 0), .inl (.natCast 0), .inl (.natCast 0), .inl (.natCast 0), .inl (.natCast 0), .inl (.natCast 0), .inl (.natCast 0), .inl (.natCast 0), .inl (.natCast 0)]), (1, 0, [.inl (.natCast 0), .inl (.natCast 0), .inl (.natCast 0), .inl (.natCast 0), .inl (.natCast 0), .inl (.natCast 0), .inl (.natCast 0), .inl (.natCast 0), .inl (.natCast 0), .inl (.natCast 0), .inl (.natCast 0), .inl (.natCast 0), .inl (.natCast 0), .inl (.natCast 0), .inl (.natCast 0), .inl (.natCast 0), .inl (.natCast 0), .inl (.natCast 0), .inl (.natCast 0), .inl (.natCast 0), .inl (.natCast 0), .inl (.natCast 0), .inl (.natCast 0), .inl (.natCast 0), .inl (.natCast 0), .inl (.natCast 0), .inl (.natCast 0), .inl (.natCast 0), .inl (.natCast 0), .inl (.natCast 0), .inl (.natCast 0), .inl (.natCast 0), .inl (.natCast 0), .inl (.natCast 0), .inl (.natCast 0), .inl (.natCast 0), .inl (.natCast 0), .inl (.natCast 0), .inl (.natCast 0), .inl (.natCast 0), .inl (.natCast 0), .inl (.natCast 0), .inl (.natCast 0), .inl (.natCast 0), .inl (.natCast 0), .inl (.natCast 0), .inl (.natCast 0), .inl (.natCast 0), .inl (.natCast 0), .inl (.natCast 0), .inl (.natCast 0), .inl (.natCast 0), .inl (.natCast 0), .inl (.natCast 0), .inl (.natCast 0), .inl (.natCast 0), .inl (.natCast 0), .inl (.natCast 0), .inl (.natCast 0), .inl (.natCast 0), .inl (.natCast 0), .inl (.natCast 0), .inl (.natCast 0), .inl (.natCast 0), .inl (.natCast 0), .inl (.natCast 0), .inl (.natCast 0), .inl (.natCast 0), .inl (.natCast 0), .inl (.natCast 0), .inl (.natCast 0), .inl (.natCast 0), .inl (.natCast 0), .inl (.natCast 0), .inl (.natCast 0), .inl (.natCast 0), .inl (.natCast 0), .inl (.natCast 0), .inl (.natCast 0), .inl (.natCast 0), .inl (.natCast 0), .inl (.natCast 0), .inl (.natCast 0), .inl (.natCast 0), .inl (.natCast 0), .inl (.natCast 0), .inl (.natCast 0), .inl (.natCast 0), .inl (.natCast 0), .inl (.natCast 0)]), (1, 0, [.inl (.natCast 0), .inl (.natCast 0), .inl (.natCast 0), .inl (.natCast 0), .inl (.natCast 0), .inl (.natCast 0), .inl (.natCast 0), .inl (.natCast 0), .inl (.natCast 0), .inl (.natCast 0), .inl (.natCast 0), .inl (.natCast 0), .inl (.natCast 0), .inl (.natCast 0), .inl (.natCast 0), .inl (.natCast 0), .inl (.natCast 0), .inl (.natCast 0), .inl (.natCast 0), .inl (.natCast 0), .inl (.natCast 0), .inl (.natCast 0), .inl (.natCast 0), .inl (.natCast 0), .inl (.natCast 0), .inl (.natCast 0), .inl (.natCast 0), .inl (.natCast 0), .inl (.natCast 0), .inl (.natCast 0), .inl (.natCast 0), .inl (.natCast 0), .inl (.natCast 0), .inl (.natCast 0), .inl (.natCast 0), .inl (.natCast 0), .inl (.natCast 0), .inl (.natCast 0), .inl (.natCast 0), .inl (.natCast 0), .inl (.natCast 0), .inl (.natCast 0), .inl (.natCast 0), .inl (.natCast 0), .inl (.natCast 0), .inl (.natCast 0), .inl (.natCast 0), .inl (.natCast 0), .inl (.natCast 0), .inl (.natCast 0), .inl (.natCast 0), .inl (.natCast 0), .inl (.natCast 0), .inl (.natCast 0), .inl (.natCast 0), .inl (.natCast 0), .inl (.natCast 0), .inl (.natCast 0), .inl (.natCast 0), .inl (.natCast 0), .inl (.natCast 0), .inl (.natCast 0), .inl (.natCast 0), .inl (.natCast 0), .inl (.natCast 0), .inl (.natCast 0), .inl (.natCast 0), .inl (.natCast 0), .inl (.natCast 0), .inl (.natCast 0), .inl (.natCast 0), .inl (.natCast 0), .inl (.natCast 0), .inl (.natCast 0), .inl (.natCast 0), .inl (.natCast 0), .inl (.natCast 0), .inl (.natCast 0), .inl (.natCast 0), .inl (.natCast 0), .inl (.natCast 0), .inl (.natCast 0), .inl (.natCast 0), .inl (.natCast 0), .inl (.natCast 0), .inl (.natCast 0), .inl (.natCast 0), .inl (.natCast 0), .inl (.natCast 0), .inl (.natCast 0)]), (1, 0, [.inl (.natCast 0), .inl (.natCast 0), .inl (.natCast 0), .inl (.natCast 0), .inl (.natCast 0), .inl (.natCast 0), .inl (.natCast 0), .inl (.natCast 0), .inl (.natCast 0), .inl (.natCast 0), .inl (.natCast 0), .inl (.natCast 0), .inl (.natCast 0), .inl (.natCast 0), .inl (.natCast 0), .inl (.natCast 0), .inl (.natCast 0), .inl (.natCast 0), .inl (.natCast 0), .inl (.natCast 0), .inl (.natCast 0), .inl (.natCast 0), .inl (.natCast 0), .inl (.natCast 0), .inl (.natCast 0), .inl (.natCast 0), .inl (.natCast 0), .inl (.natCast 0), .inl (.natCast 0), .inl (.natCast 0), .inl (.natCast 0), .inl (.natCast 0), .inl (.natCast 0), .inl (.natCast 0), .inl (.natCast 0), .inl (.natCast 0), .inl (.natCast 0), .inl (.natCast 0), .inl (.natCast 0), .inl (.natCast 0), .inl (.natCast 0), .inl (.natCast 0), .inl (.natCast 0), .inl (.natCast 0), .inl (.natCast 0), .inl (.natCast 0), .inl (.natCast 0), .inl (.natCast 0), .inl (.natCast 0), .inl (.natCast 0), .inl (.natCast 0), .inl (.natCast 0), .inl (.natCast 0), .inl (.natCast 0), .inl (.natCast 0), .inl (.natCast 0), .inl (.natCast 0), .inl (.natCast 0), .inl (.natCast 0), .inl (.natCast 0), .inl (.natCast 0), .inl (.natCast 0), .inl (.natCast 0), .inl (.natCast 0), .inl (.natCast 0), .inl (.natCast 0), .inl (.natCast 0), .inl (.natCast 0), .inl (.natCast 0), .inl (.natCast 0), .inl (.natCast 0), .inl (.natCast 0), .inl (.natCast 0), .inl (.natCast 0), .inl (.natCast 0), .inl (.natCast 0), .inl (.natCast 0), .inl (.natCast 0), .inl (.natCast 0), .inl (.natCast 0), .inl (.natCast 0), .inl (.natCast 0), .inl (.natCast 0), .inl (.natCast 0), .inl (.natCast 0), .inl (.natCast 0), .inl (.natCast 0), .inl (.natCast 0), .inl (.natCast 0), .inl (.natCast 0)]), (1, 0, List.replicate 540 (.inl (.natCast 0))), (1, 0, [.inl (.natCast 0), .inl (.natCast 0), .inl (.natCast 0), .inl (.natCast 0), .inl (.natCast 0), .inl (.natCast 0)]), (1, 0, [.inl (.natCast 0), .inl (.natCast 0), .inl (.natCast 0), .inl (.natCast 0), .inl (.natCast 0), .inl (.natCast 0)]), (1, 0, [.inl (.natCast 0), .inl (.natCast 0), .inl (.natCast 0), .inl (.natCast 0), .inl (.natCast 0), .inl (.natCast 0), .inl (.natCast 0), .inl (.natCast 0), .inl (.natCast 0), .inl (.natCast 0), .inl (.natCast 0), .inl (.natCast 0), .inl (.natCast 0), .inl (.natCast 0), .inl (.natCast 0), .inl (.natCast 0), .inl (.natCast 0), .inl (.natCast 0), .inl (.natCast 0), .inl (.natCast 0), .inl (.natCast 0), .inl (.natCast 0), .inl (.natCast 0), .inl (.natCast 0)]), (1, 0, [.inl (.natCast 0), .inl (.natCast 0), .inl (.natCast 0), .inl (.natCast 0)]), (1, 0, [.inl (.natCast 0), .inl (.natCast 0), .inl (.natCast 0), .inl (.natCast 0)]), (1, 0, [.inl (.natCast 0), .inl (.natCast 0), .inl (.natCast 0), .inl (.natCast 0), .inl (.natCast 0), .inl (.natCast 0), .inl (.natCast 0), .inl (.natCast 0), .inl (.natCast 0), .inl (.natCast 0), .inl (.natCast 0), .inl (.natCast 0), .inl (.natCast 0), .inl (.natCast 0), .inl (.natCast 0), .inl (.natCast 0), .inl (.natCast 0), .inl (.natCast 0), .inl (.natCast 0), .inl (.natCast 0), .inl (.natCast 0), .inl (.natCast 0), .inl (.natCast 0), .inl (.natCast 0), .inl (.natCast 0), .inl (.natCast 0), .inl (.natCast 0), .inl (.natCast 0), .inl (.natCast 0), .inl (.natCast 0), .inl (.natCast 0), .inl (.natCast 0), .inl (.natCast 0), .inl (.natCast 0), .inl (.natCast 0), .inl (.natCast 0), .inl (.natCast 0), .inl (.natCast 0), .inl (.natCast 0), .inl (.natCast 0), .inl (.natCast 0), .inl (.natCast 0), .inl (.natCast 0), .inl (.natCast 0), .inl (.natCast 0), .inl (.natCast 0), .inl (.natCast 0), .inl (.natCast 0), .inl (.natCast 0), .inl (.natCast 0), .inl (.natCast 0), .inl (.natCast 0), .inl (.natCast 0), .inl (.natCast 0), .inl (.natCast 0), .inl (.natCast 0), .inl (.natCast 0), .inl (.natCast 0), .inl (.natCast 0), .inl (.natCast 0), .inl (.natCast 0), .inl (.natCast 0), .inl (.natCast 0), .inl (.natCast 0), .inl (.natCast 0), .inl (.natCast 0), .inl (.natCast 0), .inl (.natCast 0), .inl (.natCast 0), .inl (.natCast 0), .inl (.natCast 0), .inl (.natCast 0), .inl (.natCast 0), .inl (.natCast 0), .inl (.natCast 0), .inl (.natCast 0), .inl (.natCast 0), .inl (.natCast 0), .inl (.natCast 0), .inl (.natCast 0)])]
theorem run_X : sRunC 400 20000 20 87 [] [(0, 10, sNewF 10)] [.inr (.inr (some 0))] (sEnd none tX0) = true := by decide +kernel
theorem run_M : sRunC 400 20000 20 139 [] [(0, 11, sNewF 11)] [.inr (.inr (some 0))] (sEnd none tM0) = true := by decide +kernel
end
