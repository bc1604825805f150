/-! the words of the law's calls (own work) -/
theorem lw_GC {C : String} {idx : Nat} {y : MethodName} {c0 : Cond} {is : List Nat} (h : [Cond.methodLink R_law idx y, .instanceMethod y, .selects C y y, .initialized C, c0] = is.filterMap (fun i => lw_tbl[i]?)) (hc : goodWord c0 = true) : GoodIn lw_tbl (wsV R_law idx C y (c0 :: w_C)) := by
  intro w hw
  have h5 := lx_in h
  unfold wsV at hw
  rcases List.mem_append.mp hw with h1 | h1
  · have h2 := h1
    simp only [List.mem_cons, List.not_mem_nil, or_false] at h2
    refine ⟨h5 w ?_, good_of_word ?_⟩
    · simp only [List.mem_cons, List.not_mem_nil, or_false]
      rcases h2 with h | h | h | h
      · exact Or.inl h
      · exact Or.inr (Or.inl h)
      · exact Or.inr (Or.inr (Or.inl h))
      · exact Or.inr (Or.inr (Or.inr (Or.inl h)))
    · rcases h2 with rfl | rfl | rfl | rfl <;> rfl
  · rcases List.mem_cons.mp h1 with rfl | h2
    · exact ⟨h5 _ (by simp), good_of_word hc⟩
    · exact ⟨lt_C w h2, good_of_word (List.all_eq_true.mp w_C_good w h2)⟩
theorem lw_IC {own C : String} {i1 i2 : Nat} {y : MethodName} {c0 : Cond} {is : List Nat} (h : [Cond.classLink own i1 C, Cond.methodLink own i2 y, .instanceMethod y, .initialized C, c0] = is.filterMap (fun i => lw_tbl[i]?)) (hc : goodWord c0 = true) : GoodIn lw_tbl (c0 :: w_C) := by
  intro w hw
  rcases List.mem_cons.mp hw with rfl | h2
  · exact ⟨lx_in h _ (by simp), good_of_word hc⟩
  · exact ⟨lt_C w h2, good_of_word (List.all_eq_true.mp w_C_good w h2)⟩
theorem lw_GM {C : String} {idx : Nat} {y : MethodName} {c0 : Cond} {is : List Nat} (h : [Cond.methodLink R_law idx y, .instanceMethod y, .selects C y y, .initialized C, c0] = is.filterMap (fun i => lw_tbl[i]?)) (hc : goodWord c0 = true) : GoodIn lw_tbl (wsV R_law idx C y (c0 :: w_M)) := by
  intro w hw
  have h5 := lx_in h
  unfold wsV at hw
  rcases List.mem_append.mp hw with h1 | h1
  · have h2 := h1
    simp only [List.mem_cons, List.not_mem_nil, or_false] at h2
    refine ⟨h5 w ?_, good_of_word ?_⟩
    · simp only [List.mem_cons, List.not_mem_nil, or_false]
      rcases h2 with h | h | h | h
      · exact Or.inl h
      · exact Or.inr (Or.inl h)
      · exact Or.inr (Or.inr (Or.inl h))
      · exact Or.inr (Or.inr (Or.inr (Or.inl h)))
    · rcases h2 with rfl | rfl | rfl | rfl <;> rfl
  · rcases List.mem_cons.mp h1 with rfl | h2
    · exact ⟨h5 _ (by simp), good_of_word hc⟩
    · exact ⟨lt_M w h2, good_of_word (List.all_eq_true.mp w_M_good w h2)⟩
theorem lw_IM {own C : String} {i1 i2 : Nat} {y : MethodName} {c0 : Cond} {is : List Nat} (h : [Cond.classLink own i1 C, Cond.methodLink own i2 y, .instanceMethod y, .initialized C, c0] = is.filterMap (fun i => lw_tbl[i]?)) (hc : goodWord c0 = true) : GoodIn lw_tbl (c0 :: w_M) := by
  intro w hw
  rcases List.mem_cons.mp hw with rfl | h2
  · exact ⟨lx_in h _ (by simp), good_of_word hc⟩
  · exact ⟨lt_M w h2, good_of_word (List.all_eq_true.mp w_M_good w h2)⟩
set_option maxRecDepth 100000 in
theorem lg_Out_start : GoodIn lw_tbl (wsV R_law 13 R_Out y_Out_start (Cond.code y_Out_start b_Out_start 4 (some .int) :: w_C)) := lw_GC (is := [533, 534, 535, 100, 536]) (by decide +kernel) rfl
set_option maxRecDepth 100000 in
theorem lg_M_start : GoodIn lw_tbl (wsV R_law 17 R_M y_M_start (Cond.code y_M_start b_M_start 4 (some .int) :: w_M)) := lw_GM (is := [1283, 1284, 1285, 113, 1286]) (by decide +kernel) rfl
set_option maxRecDepth 100000 in
theorem lg_Out_addBlock : GoodIn lw_tbl (wsV R_law 18 R_Out y_Out_addBlock (Cond.code y_Out_addBlock b_Out_addBlock 4 (some .int) :: w_C)) := lw_GC (is := [544, 545, 546, 100, 547]) (by decide +kernel) rfl
set_option maxRecDepth 100000 in
theorem lg_M_addBlock : GoodIn lw_tbl (wsV R_law 21 R_M y_M_addBlock (Cond.code y_M_addBlock b_M_addBlock 4 (some .int) :: w_M)) := lw_GM (is := [1294, 1295, 1296, 113, 1297]) (by decide +kernel) rfl
set_option maxRecDepth 100000 in
theorem lg_Out_setClue : GoodIn lw_tbl (wsV R_law 22 R_Out y_Out_setClue (Cond.code y_Out_setClue b_Out_setClue 4 (some .int) :: w_C)) := lw_GC (is := [590, 591, 592, 100, 593]) (by decide +kernel) rfl
set_option maxRecDepth 100000 in
theorem lg_M_setClue : GoodIn lw_tbl (wsV R_law 26 R_M y_M_setClue (Cond.code y_M_setClue b_M_setClue 4 (some .int) :: w_M)) := lw_GM (is := [1322, 1323, 1324, 113, 1325]) (by decide +kernel) rfl
set_option maxRecDepth 100000 in
theorem lg_Out_line : GoodIn lw_tbl (wsV R_law 27 R_Out y_Out_line (Cond.code y_Out_line b_Out_line 3 (some .int) :: w_C)) := lw_GC (is := [602, 603, 604, 100, 605]) (by decide +kernel) rfl
set_option maxRecDepth 100000 in
theorem lg_M_line : GoodIn lw_tbl (wsV R_law 31 R_M y_M_line (Cond.code y_M_line b_M_line 3 (some .int) :: w_M)) := lw_GM (is := [1330, 1331, 1332, 113, 1333]) (by decide +kernel) rfl
set_option maxRecDepth 100000 in
theorem lg_Out_block : GoodIn lw_tbl (wsV R_law 32 R_Out y_Out_block (Cond.code y_Out_block b_Out_block 4 (some .int) :: w_C)) := lw_GC (is := [682, 683, 684, 100, 685]) (by decide +kernel) rfl
set_option maxRecDepth 100000 in
theorem lg_M_block : GoodIn lw_tbl (wsV R_law 35 R_M y_M_block (Cond.code y_M_block b_M_block 4 (some .int) :: w_M)) := lw_GM (is := [1373, 1374, 1375, 113, 1376]) (by decide +kernel) rfl
set_option maxRecDepth 100000 in
theorem lg_Out_paint : GoodIn lw_tbl (wsV R_law 36 R_Out y_Out_paint (Cond.code y_Out_paint b_Out_paint 9 (some .int) :: w_C)) := lw_GC (is := [708, 709, 710, 100, 711]) (by decide +kernel) rfl
set_option maxRecDepth 100000 in
theorem lg_M_paint : GoodIn lw_tbl (wsV R_law 40 R_M y_M_paint (Cond.code y_M_paint b_M_paint 9 (some .int) :: w_M)) := lw_GM (is := [1377, 1378, 1379, 113, 1380]) (by decide +kernel) rfl
set_option maxRecDepth 100000 in
theorem lg_Out_takeClues : GoodIn lw_tbl (wsV R_law 41 R_Out y_Out_takeClues (Cond.code y_Out_takeClues b_Out_takeClues 3 (some .int) :: w_C)) := lw_GC (is := [720, 721, 722, 100, 723]) (by decide +kernel) rfl
set_option maxRecDepth 100000 in
theorem lg_M_takeClues : GoodIn lw_tbl (wsV R_law 45 R_M y_M_takeClues (Cond.code y_M_takeClues b_M_takeClues 3 (some .int) :: w_M)) := lw_GM (is := [1385, 1386, 1387, 113, 1388]) (by decide +kernel) rfl
set_option maxRecDepth 100000 in
theorem lg_Out_picture : GoodIn lw_tbl (wsV R_law 46 R_Out y_Out_picture (Cond.code y_Out_picture b_Out_picture 3 (some .int) :: w_C)) := lw_GC (is := [745, 746, 747, 100, 748]) (by decide +kernel) rfl
set_option maxRecDepth 100000 in
theorem lg_M_picture : GoodIn lw_tbl (wsV R_law 49 R_M y_M_picture (Cond.code y_M_picture b_M_picture 3 (some .int) :: w_M)) := lw_GM (is := [1393, 1394, 1395, 113, 1396]) (by decide +kernel) rfl
set_option maxRecDepth 100000 in
theorem lg_Out_type : GoodIn lw_tbl (wsV R_law 50 R_Out y_Out_type (Cond.code y_Out_type b_Out_type 2 (some .int) :: w_C)) := lw_GC (is := [750, 751, 752, 100, 753]) (by decide +kernel) rfl
set_option maxRecDepth 100000 in
theorem lg_M_type : GoodIn lw_tbl (wsV R_law 54 R_M y_M_type (Cond.code y_M_type b_M_type 2 (some .int) :: w_M)) := lw_GM (is := [1397, 1398, 1399, 113, 1400]) (by decide +kernel) rfl
set_option maxRecDepth 100000 in
theorem lg_Out_clear : GoodIn lw_tbl (wsV R_law 55 R_Out y_Out_clear (Cond.code y_Out_clear b_Out_clear 2 (some .int) :: w_C)) := lw_GC (is := [758, 759, 760, 100, 761]) (by decide +kernel) rfl
set_option maxRecDepth 100000 in
theorem lg_M_clear : GoodIn lw_tbl (wsV R_law 58 R_M y_M_clear (Cond.code y_M_clear b_M_clear 2 (some .int) :: w_M)) := lw_GM (is := [1401, 1402, 1403, 113, 1404]) (by decide +kernel) rfl
set_option maxRecDepth 100000 in
theorem lg_Out_load : GoodIn lw_tbl (wsV R_law 59 R_Out y_Out_load (Cond.code y_Out_load b_Out_load 2 (some .int) :: w_C)) := lw_GC (is := [762, 763, 764, 100, 765]) (by decide +kernel) rfl
set_option maxRecDepth 100000 in
theorem lg_M_load : GoodIn lw_tbl (wsV R_law 62 R_M y_M_load (Cond.code y_M_load b_M_load 4 (some .int) :: w_M)) := lw_GM (is := [1405, 1406, 1407, 113, 1408]) (by decide +kernel) rfl
set_option maxRecDepth 100000 in
theorem lg_Out_setMark : GoodIn lw_tbl (wsV R_law 63 R_Out y_Out_setMark (Cond.code y_Out_setMark b_Out_setMark 7 (some .int) :: w_C)) := lw_GC (is := [862, 863, 864, 100, 865]) (by decide +kernel) rfl
set_option maxRecDepth 100000 in
theorem lg_M_setMark : GoodIn lw_tbl (wsV R_law 66 R_M y_M_setMark (Cond.code y_M_setMark b_M_setMark 5 (some .int) :: w_M)) := lw_GM (is := [1445, 1446, 1447, 113, 1448]) (by decide +kernel) rfl
set_option maxRecDepth 100000 in
theorem lg_Out_mark : GoodIn lw_tbl (wsV R_law 67 R_Out y_Out_mark (Cond.code y_Out_mark b_Out_mark 3 (some .int) :: w_C)) := lw_GC (is := [867, 868, 869, 100, 870]) (by decide +kernel) rfl
set_option maxRecDepth 100000 in
theorem lg_M_mark : GoodIn lw_tbl (wsV R_law 70 R_M y_M_mark (Cond.code y_M_mark b_M_mark 3 (some .int) :: w_M)) := lw_GM (is := [1449, 1450, 1451, 113, 1452]) (by decide +kernel) rfl
set_option maxRecDepth 100000 in
theorem lg_Out_clearMarks : GoodIn lw_tbl (wsV R_law 71 R_Out y_Out_clearMarks (Cond.code y_Out_clearMarks b_Out_clearMarks 1 (some .int) :: w_C)) := lw_GC (is := [871, 872, 873, 100, 874]) (by decide +kernel) rfl
set_option maxRecDepth 100000 in
theorem lg_M_clearMarks : GoodIn lw_tbl (wsV R_law 74 R_M y_M_clearMarks (Cond.code y_M_clearMarks b_M_clearMarks 3 (some .int) :: w_M)) := lw_GM (is := [1453, 1454, 1455, 113, 1456]) (by decide +kernel) rfl
set_option maxRecDepth 100000 in
theorem lg_Out_narrow : GoodIn lw_tbl (wsV R_law 75 R_Out y_Out_narrow (Cond.code y_Out_narrow b_Out_narrow 4 (some .int) :: w_C)) := lw_GC (is := [879, 880, 881, 100, 882]) (by decide +kernel) rfl
set_option maxRecDepth 100000 in
theorem lg_M_narrow : GoodIn lw_tbl (wsV R_law 78 R_M y_M_narrow (Cond.code y_M_narrow b_M_narrow 5 (some .int) :: w_M)) := lw_GM (is := [1457, 1458, 1459, 113, 1460]) (by decide +kernel) rfl
set_option maxRecDepth 100000 in
theorem lg_Out_trial : GoodIn lw_tbl (wsV R_law 79 R_Out y_Out_trial (Cond.code y_Out_trial b_Out_trial 5 (some .int) :: w_C)) := lw_GC (is := [950, 951, 952, 100, 953]) (by decide +kernel) rfl
set_option maxRecDepth 100000 in
theorem lg_M_trial : GoodIn lw_tbl (wsV R_law 82 R_M y_M_trial (Cond.code y_M_trial b_M_trial 5 (some .int) :: w_M)) := lw_GM (is := [1501, 1502, 1503, 113, 1504]) (by decide +kernel) rfl
set_option maxRecDepth 100000 in
theorem lg_Out_solutions : GoodIn lw_tbl (wsV R_law 83 R_Out y_Out_solutions (Cond.code y_Out_solutions b_Out_solutions 2 (some .int) :: w_C)) := lw_GC (is := [956, 957, 958, 100, 959]) (by decide +kernel) rfl
set_option maxRecDepth 100000 in
theorem lg_M_solutions : GoodIn lw_tbl (wsV R_law 86 R_M y_M_solutions (Cond.code y_M_solutions b_M_solutions 3 (some .int) :: w_M)) := lw_GM (is := [1505, 1506, 1507, 113, 1508]) (by decide +kernel) rfl
set_option maxRecDepth 100000 in
theorem lg_Out_solve : GoodIn lw_tbl (wsV R_law 87 R_Out y_Out_solve (Cond.code y_Out_solve b_Out_solve 1 (some .int) :: w_C)) := lw_GC (is := [1068, 1069, 1070, 100, 1071]) (by decide +kernel) rfl
set_option maxRecDepth 100000 in
theorem lg_M_solve : GoodIn lw_tbl (wsV R_law 90 R_M y_M_solve (Cond.code y_M_solve b_M_solve 3 (some .int) :: w_M)) := lw_GM (is := [1533, 1534, 1535, 113, 1536]) (by decide +kernel) rfl
set_option maxRecDepth 100000 in
theorem lg_Out_difficulty : GoodIn lw_tbl (wsV R_law 91 R_Out y_Out_difficulty (Cond.code y_Out_difficulty b_Out_difficulty 2 (some .int) :: w_C)) := lw_GC (is := [1076, 1077, 1078, 100, 1079]) (by decide +kernel) rfl
set_option maxRecDepth 100000 in
theorem lg_M_difficulty : GoodIn lw_tbl (wsV R_law 94 R_M y_M_difficulty (Cond.code y_M_difficulty b_M_difficulty 5 (some .int) :: w_M)) := lw_GM (is := [1545, 1546, 1547, 113, 1548]) (by decide +kernel) rfl
set_option maxRecDepth 100000 in
theorem lg_Out_mistakes : GoodIn lw_tbl (wsV R_law 95 R_Out y_Out_mistakes (Cond.code y_Out_mistakes b_Out_mistakes 4 (some .int) :: w_C)) := lw_GC (is := [1080, 1081, 1082, 100, 1083]) (by decide +kernel) rfl
set_option maxRecDepth 100000 in
theorem lg_M_mistakes : GoodIn lw_tbl (wsV R_law 98 R_M y_M_mistakes (Cond.code y_M_mistakes b_M_mistakes 3 (some .int) :: w_M)) := lw_GM (is := [1553, 1554, 1555, 113, 1556]) (by decide +kernel) rfl
set_option maxRecDepth 100000 in
theorem lg_Out_hint : GoodIn lw_tbl (wsV R_law 99 R_Out y_Out_hint (Cond.code y_Out_hint b_Out_hint 2 (some .int) :: w_C)) := lw_GC (is := [1084, 1085, 1086, 100, 1087]) (by decide +kernel) rfl
set_option maxRecDepth 100000 in
theorem lg_M_hint : GoodIn lw_tbl (wsV R_law 102 R_M y_M_hint (Cond.code y_M_hint b_M_hint 3 (some .int) :: w_M)) := lw_GM (is := [1557, 1558, 1559, 113, 1560]) (by decide +kernel) rfl
set_option maxRecDepth 100000 in
theorem lg_Out_hinted : GoodIn lw_tbl (wsV R_law 103 R_Out y_Out_hinted (Cond.code y_Out_hinted b_Out_hinted 2 (some .int) :: w_C)) := lw_GC (is := [1128, 1129, 1130, 100, 1131]) (by decide +kernel) rfl
set_option maxRecDepth 100000 in
theorem lg_M_hinted : GoodIn lw_tbl (wsV R_law 106 R_M y_M_hinted (Cond.code y_M_hinted b_M_hinted 2 (some .int) :: w_M)) := lw_GM (is := [1577, 1578, 1579, 113, 1580]) (by decide +kernel) rfl
set_option maxRecDepth 100000 in
theorem lg_Out_takeHint : GoodIn lw_tbl (wsV R_law 107 R_Out y_Out_takeHint (Cond.code y_Out_takeHint b_Out_takeHint 4 (some .int) :: w_C)) := lw_GC (is := [1134, 1135, 1136, 100, 1137]) (by decide +kernel) rfl
set_option maxRecDepth 100000 in
theorem lg_M_takeHint : GoodIn lw_tbl (wsV R_law 110 R_M y_M_takeHint (Cond.code y_M_takeHint b_M_takeHint 1 (some .int) :: w_M)) := lw_GM (is := [1585, 1586, 1587, 113, 1588]) (by decide +kernel) rfl
set_option maxRecDepth 100000 in
theorem lg_Out_undo : GoodIn lw_tbl (wsV R_law 111 R_Out y_Out_undo (Cond.code y_Out_undo b_Out_undo 1 (some .int) :: w_C)) := lw_GC (is := [1138, 1139, 1140, 100, 1141]) (by decide +kernel) rfl
set_option maxRecDepth 100000 in
theorem lg_M_undo : GoodIn lw_tbl (wsV R_law 114 R_M y_M_undo (Cond.code y_M_undo b_M_undo 2 (some .int) :: w_M)) := lw_GM (is := [1279, 1280, 1281, 113, 1282]) (by decide +kernel) rfl
set_option maxRecDepth 100000 in
theorem lg_Out_count : GoodIn lw_tbl (wsV R_law 115 R_Out y_Out_count (Cond.code y_Out_count b_Out_count 2 (some .int) :: w_C)) := lw_GC (is := [1146, 1147, 1148, 100, 1149]) (by decide +kernel) rfl
set_option maxRecDepth 100000 in
theorem lg_M_count : GoodIn lw_tbl (wsV R_law 118 R_M y_M_count (Cond.code y_M_count b_M_count 2 (some .int) :: w_M)) := lw_GM (is := [1589, 1590, 1591, 113, 1592]) (by decide +kernel) rfl
set_option maxRecDepth 100000 in
theorem lg_Out_digest : GoodIn lw_tbl (wsV R_law 119 R_Out y_Out_digest (Cond.code y_Out_digest b_Out_digest 5 (some .long) :: w_C)) := lw_GC (is := [1154, 1155, 1156, 100, 1157]) (by decide +kernel) rfl
set_option maxRecDepth 100000 in
theorem lg_M_digest : GoodIn lw_tbl (wsV R_law 123 R_M y_M_digest (Cond.code y_M_digest b_M_digest 3 (some .long) :: w_M)) := lw_GM (is := [1609, 1610, 1611, 113, 1612]) (by decide +kernel) rfl
set_option maxRecDepth 100000 in
theorem lq_init_Out : [Cond.classLink R_law 7 R_Out, Cond.methodLink R_law 9 y_Out_init, Cond.instanceMethod y_Out_init, Cond.initialized R_Out, Cond.code y_Out_init b_Out_init 1 none] = [122, 124, 125, 100, 126].filterMap (fun i => lw_tbl[i]?) := by decide +kernel
set_option maxRecDepth 100000 in
theorem lq_init_M : [Cond.classLink R_law 10 R_M, Cond.methodLink R_law 12 y_M_init, Cond.instanceMethod y_M_init, Cond.initialized R_M, Cond.code y_M_init b_M_init 1 none] = [1170, 1172, 1173, 113, 1174].filterMap (fun i => lw_tbl[i]?) := by decide +kernel
set_option maxRecDepth 100000 in
theorem lq_inst : [Cond.instantiable R_Out 9, Cond.instantiable R_Grid 4, Cond.instantiable R_Situation 3, Cond.instantiable R_Clues 5, Cond.instantiable R_Layer 1, Cond.instantiable R_History 3, Cond.instantiable R_ClueText 3, Cond.instantiable R_Fillings 15, Cond.instantiable R_Narrower 5, Cond.instantiable R_Search 16, Cond.instantiable R_Stages 9, Cond.instantiable R_Advice 9, Cond.instantiable R_M 30] = [123, 131, 157, 163, 195, 223, 243, 264, 316, 343, 351, 435, 1171].filterMap (fun i => lw_tbl[i]?) := by decide +kernel
set_option maxRecDepth 100000 in
theorem lq_arrs : [Cond.arrayClass .int, Cond.arrayClass .long, Cond.arrayClass .byte, Cond.arrayOver (.object R_Situation)] = [193, 208, 260, 229].filterMap (fun i => lw_tbl[i]?) := by decide +kernel
set_option maxRecDepth 100000 in
theorem lq_NF : (fx_NF.map (fun q => Cond.fieldLinkNest q.1 q.2.1 q.2.2.1 q.2.2.2.1 q.2.2.2.2 "PictureClues")) = [137, 138, 140, 141, 143, 144, 146, 169, 170, 171, 172, 174, 175, 176, 178, 179, 201, 202, 203, 204, 210, 212, 214, 233, 249, 251, 327, 328, 329, 389, 446, 448, 450, 452].filterMap (fun i => lw_tbl[i]?) := by decide +kernel
set_option maxRecDepth 100000 in
theorem lq_NM : (fx_NM.map (fun q => Cond.methodLinkNest q.1 q.2.1 q.2.2 "PictureClues")) = [132, 158, 164, 196, 230, 244, 262, 322, 349, 553, 692, 705, 744, 787, 892, 1044, 1107].filterMap (fun i => lw_tbl[i]?) := by decide +kernel
