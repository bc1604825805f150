/-! constants -/
theorem cb_m4 : (Int8.ofInt (-4)).toInt32 = (-4) := by decide +kernel
theorem cb_m3 : (Int8.ofInt (-3)).toInt32 = (-3) := by decide +kernel
theorem cb_m2 : (Int8.ofInt (-2)).toInt32 = (-2) := by decide +kernel
theorem cb_8 : (Int8.ofInt (8)).toInt32 = 8 := by decide +kernel
theorem cb_9 : (Int8.ofInt (9)).toInt32 = 9 := by decide +kernel
theorem cb_11 : (Int8.ofInt (11)).toInt32 = 11 := by decide +kernel
theorem cb_15 : (Int8.ofInt (15)).toInt32 = 15 := by decide +kernel
theorem cb_16 : (Int8.ofInt (16)).toInt32 = 16 := by decide +kernel
theorem cb_32 : (Int8.ofInt (32)).toInt32 = 32 := by decide +kernel
theorem cb_48 : (Int8.ofInt (48)).toInt32 = 48 := by decide +kernel
theorem cb_49 : (Int8.ofInt (49)).toInt32 = 49 := by decide +kernel
theorem cb_56 : (Int8.ofInt (56)).toInt32 = 56 := by decide +kernel
theorem cb_59 : (Int8.ofInt (59)).toInt32 = 59 := by decide +kernel
theorem cb_64 : (Int8.ofInt (64)).toInt32 = 64 := by decide +kernel
theorem cb_65 : (Int8.ofInt (65)).toInt32 = 65 := by decide +kernel
theorem cb_66 : (Int8.ofInt (66)).toInt32 = 66 := by decide +kernel
theorem cb_67 : (Int8.ofInt (67)).toInt32 = 67 := by decide +kernel
theorem cb_70 : (Int8.ofInt (70)).toInt32 = 70 := by decide +kernel
theorem cb_97 : (Int8.ofInt (97)).toInt32 = 97 := by decide +kernel
theorem cb_99 : (Int8.ofInt (99)).toInt32 = 99 := by decide +kernel
theorem cb_101 : (Int8.ofInt (101)).toInt32 = 101 := by decide +kernel
theorem cb_110 : (Int8.ofInt (110)).toInt32 = 110 := by decide +kernel
theorem cb_111 : (Int8.ofInt (111)).toInt32 = 111 := by decide +kernel
theorem cb_120 : (Int8.ofInt (120)).toInt32 = 120 := by decide +kernel
theorem cb_121 : (Int8.ofInt (121)).toInt32 = 121 := by decide +kernel
theorem cb_122 : (Int8.ofInt (122)).toInt32 = 122 := by decide +kernel
theorem cb_127 : (Int8.ofInt (127)).toInt32 = 127 := by decide +kernel
theorem ci_m1 : Int32.ofInt (-1) = (-1) := by decide +kernel
theorem ci_0 : Int32.ofInt (0) = 0 := by decide +kernel
theorem ci_1 : Int32.ofInt (1) = 1 := by decide +kernel
theorem ci_2 : Int32.ofInt (2) = 2 := by decide +kernel
theorem ci_3 : Int32.ofInt (3) = 3 := by decide +kernel
theorem ci_4 : Int32.ofInt (4) = 4 := by decide +kernel
theorem ci_5 : Int32.ofInt (5) = 5 := by decide +kernel
theorem cs_m2000 : (Int16.ofInt (-2000)).toInt32 = (-2000) := by decide +kernel
theorem cs_160 : (Int16.ofInt (160)).toInt32 = 160 := by decide +kernel
theorem cs_272 : (Int16.ofInt (272)).toInt32 = 272 := by decide +kernel
theorem cs_288 : (Int16.ofInt (288)).toInt32 = 288 := by decide +kernel
theorem cs_352 : (Int16.ofInt (352)).toInt32 = 352 := by decide +kernel
theorem cs_416 : (Int16.ofInt (416)).toInt32 = 416 := by decide +kernel
theorem cs_560 : (Int16.ofInt (560)).toInt32 = 560 := by decide +kernel
theorem cs_2912 : (Int16.ofInt (2912)).toInt32 = 2912 := by decide +kernel
theorem cs_3328 : (Int16.ofInt (3328)).toInt32 = 3328 := by decide +kernel
theorem lt_0_1 : (0 < 1) = True := eq_true (by decide)
theorem lt_0_2 : (0 < 2) = True := eq_true (by decide)
theorem lt_0_3 : (0 < 3) = True := eq_true (by decide)
theorem lt_0_4 : (0 < 4) = True := eq_true (by decide)
theorem lt_0_5 : (0 < 5) = True := eq_true (by decide)
theorem lt_0_6 : (0 < 6) = True := eq_true (by decide)
theorem lt_0_7 : (0 < 7) = True := eq_true (by decide)
theorem lt_0_8 : (0 < 8) = True := eq_true (by decide)
theorem lt_0_9 : (0 < 9) = True := eq_true (by decide)
theorem lt_0_10 : (0 < 10) = True := eq_true (by decide)
theorem lt_0_11 : (0 < 11) = True := eq_true (by decide)
theorem lt_0_12 : (0 < 12) = True := eq_true (by decide)
theorem lt_1_2 : (1 < 2) = True := eq_true (by decide)
theorem lt_1_3 : (1 < 3) = True := eq_true (by decide)
theorem lt_1_4 : (1 < 4) = True := eq_true (by decide)
theorem lt_1_5 : (1 < 5) = True := eq_true (by decide)
theorem lt_1_6 : (1 < 6) = True := eq_true (by decide)
theorem lt_1_7 : (1 < 7) = True := eq_true (by decide)
theorem lt_1_8 : (1 < 8) = True := eq_true (by decide)
theorem lt_1_9 : (1 < 9) = True := eq_true (by decide)
theorem lt_1_10 : (1 < 10) = True := eq_true (by decide)
theorem lt_1_11 : (1 < 11) = True := eq_true (by decide)
theorem lt_1_12 : (1 < 12) = True := eq_true (by decide)
theorem lt_2_3 : (2 < 3) = True := eq_true (by decide)
theorem lt_2_4 : (2 < 4) = True := eq_true (by decide)
theorem lt_2_5 : (2 < 5) = True := eq_true (by decide)
theorem lt_2_6 : (2 < 6) = True := eq_true (by decide)
theorem lt_2_7 : (2 < 7) = True := eq_true (by decide)
theorem lt_2_8 : (2 < 8) = True := eq_true (by decide)
theorem lt_2_9 : (2 < 9) = True := eq_true (by decide)
theorem lt_2_10 : (2 < 10) = True := eq_true (by decide)
theorem lt_2_11 : (2 < 11) = True := eq_true (by decide)
theorem lt_2_12 : (2 < 12) = True := eq_true (by decide)
theorem lt_3_4 : (3 < 4) = True := eq_true (by decide)
theorem lt_3_5 : (3 < 5) = True := eq_true (by decide)
theorem lt_3_6 : (3 < 6) = True := eq_true (by decide)
theorem lt_3_7 : (3 < 7) = True := eq_true (by decide)
theorem lt_3_8 : (3 < 8) = True := eq_true (by decide)
theorem lt_3_9 : (3 < 9) = True := eq_true (by decide)
theorem lt_3_10 : (3 < 10) = True := eq_true (by decide)
theorem lt_3_11 : (3 < 11) = True := eq_true (by decide)
theorem lt_3_12 : (3 < 12) = True := eq_true (by decide)
theorem lt_4_5 : (4 < 5) = True := eq_true (by decide)
theorem lt_4_6 : (4 < 6) = True := eq_true (by decide)
theorem lt_4_7 : (4 < 7) = True := eq_true (by decide)
theorem lt_4_8 : (4 < 8) = True := eq_true (by decide)
theorem lt_4_9 : (4 < 9) = True := eq_true (by decide)
theorem lt_4_10 : (4 < 10) = True := eq_true (by decide)
theorem lt_4_11 : (4 < 11) = True := eq_true (by decide)
theorem lt_4_12 : (4 < 12) = True := eq_true (by decide)
theorem lt_5_6 : (5 < 6) = True := eq_true (by decide)
theorem lt_5_7 : (5 < 7) = True := eq_true (by decide)
theorem lt_5_8 : (5 < 8) = True := eq_true (by decide)
theorem lt_5_9 : (5 < 9) = True := eq_true (by decide)
theorem lt_5_10 : (5 < 10) = True := eq_true (by decide)
theorem lt_5_11 : (5 < 11) = True := eq_true (by decide)
theorem lt_5_12 : (5 < 12) = True := eq_true (by decide)
theorem lt_6_7 : (6 < 7) = True := eq_true (by decide)
theorem lt_6_8 : (6 < 8) = True := eq_true (by decide)
theorem lt_6_9 : (6 < 9) = True := eq_true (by decide)
theorem lt_6_10 : (6 < 10) = True := eq_true (by decide)
theorem lt_6_11 : (6 < 11) = True := eq_true (by decide)
theorem lt_6_12 : (6 < 12) = True := eq_true (by decide)
theorem lt_7_8 : (7 < 8) = True := eq_true (by decide)
theorem lt_7_9 : (7 < 9) = True := eq_true (by decide)
theorem lt_7_10 : (7 < 10) = True := eq_true (by decide)
theorem lt_7_11 : (7 < 11) = True := eq_true (by decide)
theorem lt_7_12 : (7 < 12) = True := eq_true (by decide)
theorem lt_8_9 : (8 < 9) = True := eq_true (by decide)
theorem lt_8_10 : (8 < 10) = True := eq_true (by decide)
theorem lt_8_11 : (8 < 11) = True := eq_true (by decide)
theorem lt_8_12 : (8 < 12) = True := eq_true (by decide)
theorem lt_9_10 : (9 < 10) = True := eq_true (by decide)
theorem lt_9_11 : (9 < 11) = True := eq_true (by decide)
theorem lt_9_12 : (9 < 12) = True := eq_true (by decide)
theorem lt_10_11 : (10 < 11) = True := eq_true (by decide)
theorem lt_10_12 : (10 < 12) = True := eq_true (by decide)
theorem lt_11_12 : (11 < 12) = True := eq_true (by decide)
theorem cl_0 : Int64.ofNat 0 = 0 := by decide +kernel
theorem cl_1 : Int64.ofNat 1 = 1 := by decide +kernel
