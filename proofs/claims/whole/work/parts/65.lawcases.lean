/-! 65: the law: its cases (by wip/whole/mk65.py) -/
theorem blk_0 : caseOk 196 5 13 17 false = true := by decide +kernel
theorem blx_0 : Cond.methodLink R_law 13 (MI 88).1 ∈ lw_tbl := List.mem_of_getElem? (i := 461) (by decide +kernel)
theorem blm_0 : Cond.methodLink R_law 17 (MI 144).1 ∈ lw_tbl := List.mem_of_getElem? (i := 1100) (by decide +kernel)
theorem blk_1 : caseOk 259 1 18 22 false = true := by decide +kernel
theorem blx_1 : Cond.methodLink R_law 18 (MI 89).1 ∈ lw_tbl := List.mem_of_getElem? (i := 469) (by decide +kernel)
theorem blm_1 : Cond.methodLink R_law 22 (MI 147).1 ∈ lw_tbl := List.mem_of_getElem? (i := 1101) (by decide +kernel)
theorem blk_2 : caseOk 282 3 23 27 true = true := by decide +kernel
theorem blx_2 : Cond.methodLink R_law 23 (MI 90).1 ∈ lw_tbl := List.mem_of_getElem? (i := 498) (by decide +kernel)
theorem blm_2 : Cond.methodLink R_law 27 (MI 148).1 ∈ lw_tbl := List.mem_of_getElem? (i := 1125) (by decide +kernel)
theorem blk_3 : caseOk 326 3 28 32 false = true := by decide +kernel
theorem blx_3 : Cond.methodLink R_law 28 (MI 91).1 ∈ lw_tbl := List.mem_of_getElem? (i := 508) (by decide +kernel)
theorem blm_3 : Cond.methodLink R_law 32 (MI 150).1 ∈ lw_tbl := List.mem_of_getElem? (i := 1134) (by decide +kernel)
theorem blk_4 : caseOk 369 1 33 36 false = true := by decide +kernel
theorem blx_4 : Cond.methodLink R_law 33 (MI 92).1 ∈ lw_tbl := List.mem_of_getElem? (i := 522) (by decide +kernel)
theorem blm_4 : Cond.methodLink R_law 36 (MI 180).1 ∈ lw_tbl := List.mem_of_getElem? (i := 1209) (by decide +kernel)
theorem blk_5 : caseOk 392 2 37 41 false = true := by decide +kernel
theorem blx_5 : Cond.methodLink R_law 37 (MI 93).1 ∈ lw_tbl := List.mem_of_getElem? (i := 547) (by decide +kernel)
theorem blm_5 : Cond.methodLink R_law 41 (MI 161).1 ∈ lw_tbl := List.mem_of_getElem? (i := 1146) (by decide +kernel)
theorem blk_6 : caseOk 425 3 42 45 false = true := by decide +kernel
theorem blx_6 : Cond.methodLink R_law 42 (MI 94).1 ∈ lw_tbl := List.mem_of_getElem? (i := 575) (by decide +kernel)
theorem blm_6 : Cond.methodLink R_law 45 (MI 162).1 ∈ lw_tbl := List.mem_of_getElem? (i := 1169) (by decide +kernel)
theorem blk_7 : caseOk 468 1 46 49 false = true := by decide +kernel
theorem blx_7 : Cond.methodLink R_law 46 (MI 95).1 ∈ lw_tbl := List.mem_of_getElem? (i := 579) (by decide +kernel)
theorem blm_7 : Cond.methodLink R_law 49 (MI 163).1 ∈ lw_tbl := List.mem_of_getElem? (i := 1173) (by decide +kernel)
theorem blk_8 : caseOk 491 2 50 53 false = true := by decide +kernel
theorem blx_8 : Cond.methodLink R_law 50 (MI 96).1 ∈ lw_tbl := List.mem_of_getElem? (i := 586) (by decide +kernel)
theorem blm_8 : Cond.methodLink R_law 53 (MI 165).1 ∈ lw_tbl := List.mem_of_getElem? (i := 1181) (by decide +kernel)
theorem blk_9 : caseOk 524 2 54 58 true = true := by decide +kernel
theorem blx_9 : Cond.methodLink R_law 54 (MI 97).1 ∈ lw_tbl := List.mem_of_getElem? (i := 591) (by decide +kernel)
theorem blm_9 : Cond.methodLink R_law 58 (MI 167).1 ∈ lw_tbl := List.mem_of_getElem? (i := 1185) (by decide +kernel)
theorem blk_10 : caseOk 558 2 59 62 false = true := by decide +kernel
theorem blx_10 : Cond.methodLink R_law 59 (MI 98).1 ∈ lw_tbl := List.mem_of_getElem? (i := 608) (by decide +kernel)
theorem blm_10 : Cond.methodLink R_law 62 (MI 170).1 ∈ lw_tbl := List.mem_of_getElem? (i := 1198) (by decide +kernel)
theorem blk_11 : caseOk 591 2 63 66 false = true := by decide +kernel
theorem blx_11 : Cond.methodLink R_law 63 (MI 99).1 ∈ lw_tbl := List.mem_of_getElem? (i := 621) (by decide +kernel)
theorem blm_11 : Cond.methodLink R_law 66 (MI 154).1 ∈ lw_tbl := List.mem_of_getElem? (i := 1142) (by decide +kernel)
theorem blk_12 : caseOk 624 2 67 70 true = true := by decide +kernel
theorem blx_12 : Cond.methodLink R_law 67 (MI 100).1 ∈ lw_tbl := List.mem_of_getElem? (i := 632) (by decide +kernel)
theorem blm_12 : Cond.methodLink R_law 70 (MI 181).1 ∈ lw_tbl := List.mem_of_getElem? (i := 1220) (by decide +kernel)
theorem blk_13 : caseOk 658 3 71 74 true = true := by decide +kernel
theorem blx_13 : Cond.methodLink R_law 71 (MI 101).1 ∈ lw_tbl := List.mem_of_getElem? (i := 645) (by decide +kernel)
theorem blm_13 : Cond.methodLink R_law 74 (MI 182).1 ∈ lw_tbl := List.mem_of_getElem? (i := 1248) (by decide +kernel)
theorem blk_14 : caseOk 702 4 75 79 true = true := by decide +kernel
theorem blx_14 : Cond.methodLink R_law 75 (MI 102).1 ∈ lw_tbl := List.mem_of_getElem? (i := 653) (by decide +kernel)
theorem blm_14 : Cond.methodLink R_law 79 (MI 195).1 ∈ lw_tbl := List.mem_of_getElem? (i := 1268) (by decide +kernel)
theorem blk_15 : caseOk 756 2 80 83 true = true := by decide +kernel
theorem blx_15 : Cond.methodLink R_law 80 (MI 103).1 ∈ lw_tbl := List.mem_of_getElem? (i := 674) (by decide +kernel)
theorem blm_15 : Cond.methodLink R_law 83 (MI 197).1 ∈ lw_tbl := List.mem_of_getElem? (i := 1306) (by decide +kernel)
theorem blk_16 : caseOk 790 1 84 88 true = true := by decide +kernel
theorem blx_16 : Cond.methodLink R_law 84 (MI 104).1 ∈ lw_tbl := List.mem_of_getElem? (i := 678) (by decide +kernel)
theorem blm_16 : Cond.methodLink R_law 88 (MI 184).1 ∈ lw_tbl := List.mem_of_getElem? (i := 1256) (by decide +kernel)
theorem blk_17 : caseOk 814 1 89 92 true = true := by decide +kernel
theorem blx_17 : Cond.methodLink R_law 89 (MI 105).1 ∈ lw_tbl := List.mem_of_getElem? (i := 687) (by decide +kernel)
theorem blm_17 : Cond.methodLink R_law 92 (MI 185).1 ∈ lw_tbl := List.mem_of_getElem? (i := 1264) (by decide +kernel)
theorem blk_18 : caseOk 838 1 93 96 false = true := by decide +kernel
theorem blx_18 : Cond.methodLink R_law 93 (MI 106).1 ∈ lw_tbl := List.mem_of_getElem? (i := 696) (by decide +kernel)
theorem blm_18 : Cond.methodLink R_law 96 (MI 199).1 ∈ lw_tbl := List.mem_of_getElem? (i := 1314) (by decide +kernel)
theorem blk_19 : caseOk 861 2 97 100 false = true := by decide +kernel
theorem blx_19 : Cond.methodLink R_law 97 (MI 107).1 ∈ lw_tbl := List.mem_of_getElem? (i := 713) (by decide +kernel)
theorem blm_19 : Cond.methodLink R_law 100 (MI 200).1 ∈ lw_tbl := List.mem_of_getElem? (i := 1322) (by decide +kernel)
theorem blk_20 : caseOk 894 3 101 104 true = true := by decide +kernel
theorem blx_20 : Cond.methodLink R_law 101 (MI 108).1 ∈ lw_tbl := List.mem_of_getElem? (i := 717) (by decide +kernel)
theorem blm_20 : Cond.methodLink R_law 104 (MI 202).1 ∈ lw_tbl := List.mem_of_getElem? (i := 1326) (by decide +kernel)
theorem blk_21 : caseOk 938 2 105 108 true = true := by decide +kernel
theorem blx_21 : Cond.methodLink R_law 105 (MI 109).1 ∈ lw_tbl := List.mem_of_getElem? (i := 728) (by decide +kernel)
theorem blm_21 : Cond.methodLink R_law 108 (MI 203).1 ∈ lw_tbl := List.mem_of_getElem? (i := 1336) (by decide +kernel)
theorem blk_22 : caseOk 972 2 109 112 false = true := by decide +kernel
theorem blx_22 : Cond.methodLink R_law 109 (MI 110).1 ∈ lw_tbl := List.mem_of_getElem? (i := 732) (by decide +kernel)
theorem blm_22 : Cond.methodLink R_law 112 (MI 204).1 ∈ lw_tbl := List.mem_of_getElem? (i := 1340) (by decide +kernel)
theorem blk_23 : caseOk 1005 3 113 116 true = true := by decide +kernel
theorem blx_23 : Cond.methodLink R_law 113 (MI 111).1 ∈ lw_tbl := List.mem_of_getElem? (i := 741) (by decide +kernel)
theorem blm_23 : Cond.methodLink R_law 116 (MI 205).1 ∈ lw_tbl := List.mem_of_getElem? (i := 1344) (by decide +kernel)
theorem blk_24 : caseOk 1049 2 117 120 false = true := by decide +kernel
theorem blx_24 : Cond.methodLink R_law 117 (MI 112).1 ∈ lw_tbl := List.mem_of_getElem? (i := 749) (by decide +kernel)
theorem blm_24 : Cond.methodLink R_law 120 (MI 206).1 ∈ lw_tbl := List.mem_of_getElem? (i := 1348) (by decide +kernel)
theorem blk_25 : caseOk 1082 3 121 124 false = true := by decide +kernel
theorem blx_25 : Cond.methodLink R_law 121 (MI 113).1 ∈ lw_tbl := List.mem_of_getElem? (i := 753) (by decide +kernel)
theorem blm_25 : Cond.methodLink R_law 124 (MI 207).1 ∈ lw_tbl := List.mem_of_getElem? (i := 1352) (by decide +kernel)
theorem blk_26 : caseOk 1125 2 125 128 true = true := by decide +kernel
theorem blx_26 : Cond.methodLink R_law 125 (MI 114).1 ∈ lw_tbl := List.mem_of_getElem? (i := 761) (by decide +kernel)
theorem blm_26 : Cond.methodLink R_law 128 (MI 208).1 ∈ lw_tbl := List.mem_of_getElem? (i := 1356) (by decide +kernel)
theorem blk_27 : caseOk 1159 2 129 132 false = true := by decide +kernel
theorem blx_27 : Cond.methodLink R_law 129 (MI 115).1 ∈ lw_tbl := List.mem_of_getElem? (i := 765) (by decide +kernel)
theorem blm_27 : Cond.methodLink R_law 132 (MI 209).1 ∈ lw_tbl := List.mem_of_getElem? (i := 1360) (by decide +kernel)
theorem blk_28 : caseOk 1192 1 133 136 false = true := by decide +kernel
theorem blx_28 : Cond.methodLink R_law 133 (MI 116).1 ∈ lw_tbl := List.mem_of_getElem? (i := 770) (by decide +kernel)
theorem blm_28 : Cond.methodLink R_law 136 (MI 210).1 ∈ lw_tbl := List.mem_of_getElem? (i := 1364) (by decide +kernel)
theorem blk_29 : caseOk 1215 0 137 141 false = true := by decide +kernel
theorem blx_29 : Cond.methodLink R_law 137 (MI 117).1 ∈ lw_tbl := List.mem_of_getElem? (i := 774) (by decide +kernel)
theorem blm_29 : Cond.methodLink R_law 141 (MI 164).1 ∈ lw_tbl := List.mem_of_getElem? (i := 1177) (by decide +kernel)
theorem blk_30 : caseOk 1228 1 142 145 false = true := by decide +kernel
theorem blx_30 : Cond.methodLink R_law 142 (MI 118).1 ∈ lw_tbl := List.mem_of_getElem? (i := 786) (by decide +kernel)
theorem blm_30 : Cond.methodLink R_law 145 (MI 211).1 ∈ lw_tbl := List.mem_of_getElem? (i := 1368) (by decide +kernel)
theorem blk_31 : caseOk 1251 0 146 149 false = true := by decide +kernel
theorem blx_31 : Cond.methodLink R_law 146 (MI 119).1 ∈ lw_tbl := List.mem_of_getElem? (i := 790) (by decide +kernel)
theorem blm_31 : Cond.methodLink R_law 149 (MI 212).1 ∈ lw_tbl := List.mem_of_getElem? (i := 1374) (by decide +kernel)
theorem blk_32 : caseOk 1264 1 150 153 false = true := by decide +kernel
theorem blx_32 : Cond.methodLink R_law 150 (MI 120).1 ∈ lw_tbl := List.mem_of_getElem? (i := 794) (by decide +kernel)
theorem blm_32 : Cond.methodLink R_law 153 (MI 222).1 ∈ lw_tbl := List.mem_of_getElem? (i := 1378) (by decide +kernel)
theorem blk_33 : caseOk 1287 2 154 157 false = true := by decide +kernel
theorem blx_33 : Cond.methodLink R_law 154 (MI 121).1 ∈ lw_tbl := List.mem_of_getElem? (i := 871) (by decide +kernel)
theorem blm_33 : Cond.methodLink R_law 157 (MI 223).1 ∈ lw_tbl := List.mem_of_getElem? (i := 1420) (by decide +kernel)
theorem blk_34 : caseOk 1320 0 158 161 false = true := by decide +kernel
theorem blx_34 : Cond.methodLink R_law 158 (MI 122).1 ∈ lw_tbl := List.mem_of_getElem? (i := 875) (by decide +kernel)
theorem blm_34 : Cond.methodLink R_law 161 (MI 225).1 ∈ lw_tbl := List.mem_of_getElem? (i := 1424) (by decide +kernel)
theorem blk_35 : caseOk 1333 0 162 165 false = true := by decide +kernel
theorem blx_35 : Cond.methodLink R_law 162 (MI 123).1 ∈ lw_tbl := List.mem_of_getElem? (i := 883) (by decide +kernel)
theorem blm_35 : Cond.methodLink R_law 165 (MI 226).1 ∈ lw_tbl := List.mem_of_getElem? (i := 1431) (by decide +kernel)
theorem blk_36 : caseOk 1346 1 166 169 false = true := by decide +kernel
theorem blx_36 : Cond.methodLink R_law 166 (MI 124).1 ∈ lw_tbl := List.mem_of_getElem? (i := 887) (by decide +kernel)
theorem blm_36 : Cond.methodLink R_law 169 (MI 229).1 ∈ lw_tbl := List.mem_of_getElem? (i := 1435) (by decide +kernel)
/-- every operation -/
def AllOps (l : Launch) (D : va_G) (cy : Nat → ClassId) (alX alM : Nat → Nat) : Prop :=
  OpI l D cy alX alM 88 144 5 ∧
  OpI l D cy alX alM 89 147 1 ∧
  OpI l D cy alX alM 90 148 3 ∧
  OpI l D cy alX alM 91 150 3 ∧
  OpI l D cy alX alM 92 180 1 ∧
  OpI l D cy alX alM 93 161 2 ∧
  OpI l D cy alX alM 94 162 3 ∧
  OpI l D cy alX alM 95 163 1 ∧
  OpI l D cy alX alM 96 165 2 ∧
  OpI l D cy alX alM 97 167 2 ∧
  OpI l D cy alX alM 98 170 2 ∧
  OpI l D cy alX alM 99 154 2 ∧
  OpI l D cy alX alM 100 181 2 ∧
  OpI l D cy alX alM 101 182 3 ∧
  OpI l D cy alX alM 102 195 4 ∧
  OpI l D cy alX alM 103 197 2 ∧
  OpI l D cy alX alM 104 184 1 ∧
  OpI l D cy alX alM 105 185 1 ∧
  OpI l D cy alX alM 106 199 1 ∧
  OpI l D cy alX alM 107 200 2 ∧
  OpI l D cy alX alM 108 202 3 ∧
  OpI l D cy alX alM 109 203 2 ∧
  OpI l D cy alX alM 110 204 2 ∧
  OpI l D cy alX alM 111 205 3 ∧
  OpI l D cy alX alM 112 206 2 ∧
  OpI l D cy alX alM 113 207 3 ∧
  OpI l D cy alX alM 114 208 2 ∧
  OpI l D cy alX alM 115 209 2 ∧
  OpI l D cy alX alM 116 210 1 ∧
  OpI l D cy alX alM 117 164 0 ∧
  OpI l D cy alX alM 118 211 1 ∧
  OpI l D cy alX alM 119 212 0 ∧
  OpI l D cy alX alM 120 222 1 ∧
  OpI l D cy alX alM 121 223 2 ∧
  OpI l D cy alX alM 122 225 0 ∧
  OpI l D cy alX alM 123 226 0 ∧
  OpI l D cy alX alM 124 229 1
theorem dl_18 : decode code 18 = .ok (.iload_n 3, 1) := by decide +kernel
theorem dl_19 : decode code 19 = .ok (.aload_n 0, 1) := by decide +kernel
theorem dl_20 : decode code 20 = .ok (.arraylength, 1) := by decide +kernel
theorem dl_21 : decode code 21 = .ok (.bipush 6, 2) := by decide +kernel
theorem dl_23 : decode code 23 = .ok (.isub, 1) := by decide +kernel
theorem dl_24 : decode code 24 = .ok (.if_icmp .gt 1351, 3) := by decide +kernel
theorem dl_27 : decode code 27 = .ok (.aload_n 0, 1) := by decide +kernel
theorem dl_28 : decode code 28 = .ok (.iload_n 3, 1) := by decide +kernel
theorem dl_29 : decode code 29 = .ok (.iaload, 1) := by decide +kernel
theorem dl_30 : decode code 30 = .ok (.bipush 63, 2) := by decide +kernel
theorem dl_32 : decode code 32 = .ok (.iand, 1) := by decide +kernel
theorem dl_33 : decode code 33 = .ok (.tableswitch 1336 0 36 #[163, 226, 249, 293, 336, 359, 392, 435, 458, 491, 525, 558, 591, 625, 669, 723, 757, 781, 805, 828, 861, 905, 939, 972, 1016, 1049, 1092, 1126, 1159, 1182, 1195, 1218, 1231, 1254, 1287, 1300, 1313], 163) := by decide +kernel
theorem dl_1369 : decode code 1369 = .ok (.iinc 3 6, 3) := by decide +kernel
theorem dl_1372 : decode code 1372 = .ok (.goto (-1354), 3) := by decide +kernel
theorem dl_1375 : decode code 1375 = .ok (.iconst 1, 1) := by decide +kernel
theorem dl_1376 : decode code 1376 = .ok (.ireturn, 1) := by decide +kernel
