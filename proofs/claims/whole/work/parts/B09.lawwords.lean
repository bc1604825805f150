/-! the words of both sides stand in the law's table (own work) -/
theorem lx_in {L : List Cond} {is : List Nat} (h : L = is.filterMap (fun i => lw_tbl[i]?)) : ∀ w ∈ L, w ∈ lw_tbl := fun w hw => by
  rw [h] at hw
  obtain ⟨i, _, hi⟩ := List.mem_filterMap.mp hw
  exact List.mem_of_getElem? hi
set_option maxRecDepth 100000 in
theorem lx_0 : ∀ w ∈ w_C_0, w ∈ lw_tbl := lx_in (is := [438, 439, 128, 129, 193, 444, 440, 441, 442, 443, 543, 139, 136, 597, 168, 565, 618, 483, 619, 623, 180, 561, 181, 628, 173, 271, 270, 272, 269, 273, 274, 275, 276, 277, 614, 563, 564, 101, 615, 616, 617, 620, 621, 622, 103, 624, 559, 560, 625, 626, 627, 613, 633, 638, 646, 642, 283, 282, 643, 645]) (by decide +kernel)
set_option maxRecDepth 100000 in
theorem lx_1 : ∀ w ∈ w_C_1, w ∈ lw_tbl := lx_in (is := [5, 107, 635, 637, 3, 610, 612, 1, 629, 595, 596, 630, 632, 2, 634, 489, 112, 490, 639, 641, 4, 609, 1096, 541, 542, 1097, 1098, 607, 608, 1095, 694, 695, 696, 117, 697, 698, 699, 700, 1106, 693, 100, 673, 669, 278, 280, 670, 672, 8, 681, 677, 279, 678, 680, 10, 666, 668, 7, 674, 676, 9]) (by decide +kernel)
set_option maxRecDepth 100000 in
theorem lx_2 : ∀ w ∈ w_C_2, w ∈ lw_tbl := lx_in (is := [665, 691, 707, 652, 653, 116, 654, 655, 656, 657, 704, 706, 904, 281, 908, 898, 580, 579, 114, 899, 689, 690, 900, 702, 703, 901, 903, 18, 905, 907, 19, 897, 912, 719, 734, 735, 718, 731, 732, 733, 1115, 1119, 445, 447, 449, 451, 1103, 1105, 35, 111, 1108, 663, 664, 1109, 895, 896, 1110, 910, 911, 1111]) (by decide +kernel)
set_option maxRecDepth 100000 in
theorem lx_3 : ∀ w ∈ w_C_3, w ∈ lw_tbl := lx_in (is := [729, 730, 1112, 1113, 1114, 1116, 1118, 36, 1102, 504, 200, 650, 930, 326, 931, 648, 649, 104, 495, 496, 944, 947, 941, 942, 943, 945, 946, 920, 921, 916, 922, 917, 918, 919, 926, 324, 891, 325, 323, 893, 894, 909, 913, 914, 915, 923, 924, 925, 890, 330, 936, 502, 503, 937, 493, 494, 938, 939, 940, 887]) (by decide +kernel)
set_option maxRecDepth 100000 in
theorem lx_4 : ∀ w ∈ w_C_4, w ∈ lw_tbl := lx_in (is := [888, 889, 108, 935, 743, 1124, 1125, 928, 929, 1126, 933, 934, 1127, 741, 742, 1123, 246, 247, 260, 248, 757, 250, 487, 177, 488, 775, 252, 783, 539, 786, 538, 797, 798, 799, 118, 800, 1622, 801, 802, 803, 804, 805, 1623, 807, 808, 809, 810, 811, 812, 813, 814, 815, 816, 119, 817, 818, 819, 820, 821, 823]) (by decide +kernel)
set_option maxRecDepth 100000 in
theorem lx_5 : ∀ w ∈ w_C_5, w ∈ lw_tbl := lx_in (is := [824, 120, 825, 826, 827, 121, 828, 829, 830, 831, 832, 833, 834, 835, 836, 837, 838, 839, 841, 843, 796, 601, 784, 785, 106, 793, 795, 16, 846, 599, 600, 780, 782, 14, 791, 849, 557, 558, 588, 589, 555, 556, 772, 774, 12, 854, 855, 856, 586, 587, 853, 788, 790, 15, 847, 848, 850, 852, 17, 779]) (by decide +kernel)
set_option maxRecDepth 100000 in
theorem lx_6 : ∀ w ∈ w_C_6, w ∈ lw_tbl := lx_in (is := [770, 485, 486, 771, 776, 778, 13, 769, 166, 167, 577, 578, 861, 267, 268, 134, 135, 482, 479, 142, 145, 480, 481, 500, 551, 552, 715, 1048, 1067, 198, 199, 208, 161, 162, 163, 209, 194, 195, 211, 213, 165, 197, 160, 227, 228, 231, 157, 102, 159, 226, 573, 574, 575, 576, 581, 234, 232, 582, 583, 115]) (by decide +kernel)
set_option maxRecDepth 100000 in
theorem lx_7 : ∀ w ∈ w_C_7, w ∈ lw_tbl := lx_in (is := [584, 570, 571, 572, 569, 1145, 739, 740, 878, 319, 320, 321, 948, 927, 932, 886, 354, 355, 358, 359, 360, 361, 362, 363, 364, 356, 357, 347, 348, 388, 390, 391, 392, 393, 394, 395, 396, 397, 398, 399, 384, 385, 386, 350, 351, 110, 387, 352, 353, 346, 974, 975, 976, 977, 978, 973, 992, 988, 989, 991]) (by decide +kernel)
set_option maxRecDepth 100000 in
theorem lx_8 : ∀ w ∈ w_C_8, w ∈ lw_tbl := lx_in (is := [23, 996, 984, 985, 987, 22, 993, 995, 24, 983, 1001, 997, 969, 970, 972, 20, 979, 980, 982, 21, 998, 1000, 25, 968, 1009, 1005, 1006, 1007, 1008, 1010, 1014, 1015, 1016, 1017, 1018, 1019, 1020, 1021, 1022, 1023, 1032, 1033, 1034, 1038, 400, 1029, 1031, 29, 109, 1035, 1036, 1037, 1028, 1052, 1053, 1054, 1055, 1059, 1045, 1046]) (by decide +kernel)
set_option maxRecDepth 100000 in
theorem lx_9 : ∀ w ∈ w_C_9, w ∈ lw_tbl := lx_in (is := [1047, 1049, 1051, 31, 1056, 1057, 1058, 1025, 1027, 28, 1043, 1064, 1065, 1066, 1063, 1039, 964, 965, 966, 967, 1002, 1004, 26, 1011, 1013, 27, 1024, 1040, 1042, 30, 1060, 1062, 32, 963, 505, 506, 491, 511, 507, 513, 476, 477, 478, 484, 492, 497, 498, 499, 501, 475, 127, 130, 131, 156, 222, 223, 105, 242, 243, 508]) (by decide +kernel)
set_option maxRecDepth 100000 in
theorem lx_10 : ∀ w ∈ w_C_10, w ∈ lw_tbl := lx_in (is := [261, 509, 263, 264, 510, 315, 316, 342, 343, 512, 434, 435, 133, 224, 225, 245, 265, 266, 317, 318, 344, 345, 436, 437, 472, 474, 0, 126, 537, 540, 536, 548, 549, 550, 554, 562, 566, 567, 568, 585, 547, 594, 598, 593, 662, 661, 606, 647, 651, 658, 660, 6, 605, 686, 687, 688, 701, 685, 712, 713]) (by decide +kernel)
set_option maxRecDepth 100000 in
theorem lx_11 : ∀ w ∈ w_C_11, w ∈ lw_tbl := lx_in (is := [714, 716, 717, 711, 728, 736, 737, 738, 727, 724, 726, 11, 723, 749, 748, 753, 754, 755, 756, 761, 766, 767, 768, 857, 858, 859, 860, 765, 866, 865, 870, 875, 876, 877, 874, 883, 884, 885, 949, 882, 954, 955, 953, 960, 961, 962, 959, 1075, 1072, 1074, 33, 1071, 1079, 1083, 1091, 1088, 1090, 34, 1092, 1093]) (by decide +kernel)
set_option maxRecDepth 100000 in
theorem lx_12 : ∀ w ∈ w_C_12, w ∈ lw_tbl := lx_in (is := [1094, 1099, 1100, 1101, 1120, 1121, 1122, 1087, 1131, 1132, 1133, 1137, 1142, 1143, 1144, 1141, 1153, 1150, 1152, 37, 1149, 1159, 1165, 603, 604, 1166, 683, 684, 1164, 1158, 1160, 1147, 1148, 1161, 1163, 38, 1167, 868, 869, 1168, 746, 747, 1169, 1129, 1130, 1157]) (by decide +kernel)
set_option maxRecDepth 100000 in
theorem lx_13 : ∀ w ∈ (u_ws R_Out T_Out 9), w ∈ lw_tbl := lx_in (is := [514, 516, 518, 520, 522, 524, 526, 528, 530]) (by decide +kernel)
set_option maxRecDepth 100000 in
theorem lx_14 : ∀ w ∈ (u_ws R_Grid T_Grid 4), w ∈ lw_tbl := lx_in (is := [147, 149, 151, 153]) (by decide +kernel)
set_option maxRecDepth 100000 in
theorem lx_15 : ∀ w ∈ (u_ws R_Situation T_Situation 3), w ∈ lw_tbl := lx_in (is := [215, 217, 219]) (by decide +kernel)
set_option maxRecDepth 100000 in
theorem lx_16 : ∀ w ∈ (u_ws R_Clues T_Clues 5), w ∈ lw_tbl := lx_in (is := [182, 184, 186, 188, 190]) (by decide +kernel)
set_option maxRecDepth 100000 in
theorem lx_17 : ∀ w ∈ (u_ws R_Layer T_Layer 1), w ∈ lw_tbl := lx_in (is := [205]) (by decide +kernel)
set_option maxRecDepth 100000 in
theorem lx_18 : ∀ w ∈ (u_ws R_History T_History 3), w ∈ lw_tbl := lx_in (is := [235, 237, 239]) (by decide +kernel)
set_option maxRecDepth 100000 in
theorem lx_19 : ∀ w ∈ (u_ws R_ClueText T_ClueText 3), w ∈ lw_tbl := lx_in (is := [253, 255, 257]) (by decide +kernel)
set_option maxRecDepth 100000 in
theorem lx_20 : ∀ w ∈ (u_ws R_Fillings T_Fillings 15), w ∈ lw_tbl := lx_in (is := [284, 286, 288, 290, 292, 294, 296, 298, 300, 302, 304, 306, 308, 310, 312]) (by decide +kernel)
set_option maxRecDepth 100000 in
theorem lx_21 : ∀ w ∈ (u_ws R_Narrower T_Narrower 5), w ∈ lw_tbl := lx_in (is := [331, 333, 335, 337, 339]) (by decide +kernel)
set_option maxRecDepth 100000 in
theorem lx_22 : ∀ w ∈ (u_ws R_Search T_Search 16), w ∈ lw_tbl := lx_in (is := [401, 403, 405, 407, 409, 411, 413, 415, 417, 419, 421, 423, 425, 427, 429, 431]) (by decide +kernel)
set_option maxRecDepth 100000 in
theorem lx_23 : ∀ w ∈ (u_ws R_Stages T_Stages 9), w ∈ lw_tbl := lx_in (is := [365, 367, 369, 371, 373, 375, 377, 379, 381]) (by decide +kernel)
set_option maxRecDepth 100000 in
theorem lx_24 : ∀ w ∈ (u_ws R_Advice T_Advice 9), w ∈ lw_tbl := lx_in (is := [453, 455, 457, 459, 461, 463, 465, 467, 469]) (by decide +kernel)
set_option maxRecDepth 100000 in
theorem lx_25 : ∀ w ∈ w_M_0, w ∈ lw_tbl := lx_in (is := [1187, 1193, 1183, 1188, 1184, 1186, 41, 113, 1179, 1191, 1192, 1190, 1194, 1180, 1182, 40, 1175, 128, 129, 193, 1189, 1198, 1199, 1200, 1202, 1203, 1204, 1205, 1206, 1210, 1211, 1212, 1213, 208, 1214, 1215, 1216, 1176, 1178, 39, 1174, 1289, 1293, 1301, 1290, 1292, 42, 1287, 1288, 1313, 1353, 1384, 1317, 1282, 1286, 1345, 1361, 1342, 1344, 52]) (by decide +kernel)
set_option maxRecDepth 100000 in
theorem lx_26 : ∀ w ∈ w_M_1, w ∈ lw_tbl := lx_in (is := [1310, 1312, 46, 1357, 1349, 1201, 1350, 1352, 54, 1354, 1356, 55, 1346, 1348, 53, 1358, 1360, 56, 1341, 1338, 1340, 51, 1372, 1364, 1362, 1363, 1337, 1484, 1488, 1480, 1481, 1483, 75, 1485, 1487, 76, 1369, 1371, 58, 1477, 1479, 74, 1476, 1473, 1475, 73, 1496, 1493, 1495, 78, 1492, 1489, 1491, 77, 1472, 1469, 1471, 72, 1468, 1309]) (by decide +kernel)
set_option maxRecDepth 100000 in
theorem lx_27 : ∀ w ∈ w_M_2, w ∈ lw_tbl := lx_in (is := [1305, 1306, 1308, 45, 1321, 1329, 1298, 1300, 43, 1302, 1304, 44, 1314, 1316, 47, 1318, 1320, 48, 1297, 1326, 1328, 49, 1325, 1368, 1334, 1336, 50, 1365, 1367, 57, 1333, 1376, 1380, 1381, 1383, 59, 1392, 1389, 1391, 60, 1388, 1396, 1400, 1207, 1404, 1420, 1416, 1208, 1417, 1419, 63, 1424, 1209, 1432, 1436, 1429, 1431, 66, 1421, 1423]) (by decide +kernel)
set_option maxRecDepth 100000 in
theorem lx_28 : ∀ w ∈ w_M_3, w ∈ lw_tbl := lx_in (is := [64, 1413, 1415, 62, 1444, 1441, 1443, 69, 1440, 1433, 1435, 67, 1437, 1439, 68, 1428, 1425, 1427, 65, 1412, 1409, 1411, 61, 1408, 1448, 1452, 1456, 1464, 1500, 1461, 1463, 70, 1465, 1467, 71, 1497, 1499, 79, 1460, 1504, 1512, 1532, 1524, 1520, 1528, 1529, 1531, 85, 1517, 1519, 82, 1509, 1511, 80, 1521, 1523, 83, 1525, 1527, 84]) (by decide +kernel)
set_option maxRecDepth 100000 in
theorem lx_29 : ∀ w ∈ w_M_4, w ∈ lw_tbl := lx_in (is := [1516, 1513, 1515, 81, 1508, 1544, 1541, 1543, 87, 1540, 1537, 1539, 86, 1536, 1552, 1549, 1551, 88, 1548, 1556, 1564, 1576, 1195, 1196, 1197, 1573, 1575, 92, 1572, 1569, 1571, 91, 1568, 1561, 1563, 89, 1565, 1567, 90, 1560, 1584, 1580, 1581, 1583, 93, 1588, 1600, 1597, 1599, 95, 1596, 1604, 1608, 1593, 1595, 94, 1601, 1603, 96, 1605]) (by decide +kernel)
set_option maxRecDepth 100000 in
theorem lx_30 : ∀ w ∈ w_M_5, w ∈ lw_tbl := lx_in (is := [1607, 97, 1592, 1618, 1619, 1217, 1613, 1614, 1590, 1591, 1615, 1617, 98, 1620, 1331, 1332, 1621, 1374, 1375, 1612]) (by decide +kernel)
set_option maxRecDepth 100000 in
theorem lx_31 : ∀ w ∈ (u_ws R_M T_M 30), w ∈ lw_tbl := lx_in (is := [1218, 1220, 1222, 1224, 1226, 1228, 1230, 1232, 1234, 1236, 1238, 1240, 1242, 1244, 1246, 1248, 1250, 1252, 1254, 1256, 1258, 1260, 1262, 1264, 1266, 1268, 1270, 1272, 1274, 1276]) (by decide +kernel)
theorem lt_C : ∀ w ∈ w_C, w ∈ lw_tbl := by
  unfold w_C
  exact List.forall_mem_append.mpr ⟨lx_0, List.forall_mem_append.mpr ⟨lx_1, List.forall_mem_append.mpr ⟨lx_2, List.forall_mem_append.mpr ⟨lx_3, List.forall_mem_append.mpr ⟨lx_4, List.forall_mem_append.mpr ⟨lx_5, List.forall_mem_append.mpr ⟨lx_6, List.forall_mem_append.mpr ⟨lx_7, List.forall_mem_append.mpr ⟨lx_8, List.forall_mem_append.mpr ⟨lx_9, List.forall_mem_append.mpr ⟨lx_10, List.forall_mem_append.mpr ⟨lx_11, List.forall_mem_append.mpr ⟨lx_12, List.forall_mem_append.mpr ⟨lx_13, List.forall_mem_append.mpr ⟨lx_14, List.forall_mem_append.mpr ⟨lx_15, List.forall_mem_append.mpr ⟨lx_16, List.forall_mem_append.mpr ⟨lx_17, List.forall_mem_append.mpr ⟨lx_18, List.forall_mem_append.mpr ⟨lx_19, List.forall_mem_append.mpr ⟨lx_20, List.forall_mem_append.mpr ⟨lx_21, List.forall_mem_append.mpr ⟨lx_22, List.forall_mem_append.mpr ⟨lx_23, lx_24⟩⟩⟩⟩⟩⟩⟩⟩⟩⟩⟩⟩⟩⟩⟩⟩⟩⟩⟩⟩⟩⟩⟩⟩
theorem lt_M : ∀ w ∈ w_M, w ∈ lw_tbl := by
  unfold w_M
  exact List.forall_mem_append.mpr ⟨lx_25, List.forall_mem_append.mpr ⟨lx_26, List.forall_mem_append.mpr ⟨lx_27, List.forall_mem_append.mpr ⟨lx_28, List.forall_mem_append.mpr ⟨lx_29, List.forall_mem_append.mpr ⟨lx_30, lx_31⟩⟩⟩⟩⟩⟩
