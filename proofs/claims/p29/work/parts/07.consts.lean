/-! constants -/
theorem cb_m3 : (Int8.ofInt (-3)).toInt32 = (-3) := by decide +kernel
theorem cb_m2 : (Int8.ofInt (-2)).toInt32 = (-2) := by decide +kernel
theorem cb_6 : (Int8.ofInt (6)).toInt32 = 6 := by decide +kernel
theorem cb_8 : (Int8.ofInt (8)).toInt32 = 8 := by decide +kernel
theorem cb_16 : (Int8.ofInt (16)).toInt32 = 16 := by decide +kernel
theorem cb_25 : (Int8.ofInt (25)).toInt32 = 25 := by decide +kernel
theorem cb_32 : (Int8.ofInt (32)).toInt32 = 32 := by decide +kernel
theorem cb_56 : (Int8.ofInt (56)).toInt32 = 56 := by decide +kernel
theorem cb_60 : (Int8.ofInt (60)).toInt32 = 60 := by decide +kernel
theorem cb_61 : (Int8.ofInt (61)).toInt32 = 61 := by decide +kernel
theorem cb_62 : (Int8.ofInt (62)).toInt32 = 62 := by decide +kernel
theorem cb_63 : (Int8.ofInt (63)).toInt32 = 63 := by decide +kernel
theorem cb_127 : (Int8.ofInt (127)).toInt32 = 127 := by decide +kernel
theorem ci_m1 : Int32.ofInt (-1) = (-1) := by decide +kernel
theorem ci_0 : Int32.ofInt (0) = 0 := by decide +kernel
theorem ci_1 : Int32.ofInt (1) = 1 := by decide +kernel
theorem ci_2 : Int32.ofInt (2) = 2 := by decide +kernel
theorem ci_3 : Int32.ofInt (3) = 3 := by decide +kernel
theorem ci_4 : Int32.ofInt (4) = 4 := by decide +kernel
theorem ci_5 : Int32.ofInt (5) = 5 := by decide +kernel
theorem cs_128 : (Int16.ofInt (128)).toInt32 = 128 := by decide +kernel
theorem cs_255 : (Int16.ofInt (255)).toInt32 = 255 := by decide +kernel
theorem lt_0_1 : (0 < 1) = True := eq_true (by decide)
theorem lt_1_2 : (1 < 2) = True := eq_true (by decide)
theorem lt_1_3 : (1 < 3) = True := eq_true (by decide)
theorem lt_1_4 : (1 < 4) = True := eq_true (by decide)
theorem lt_1_5 : (1 < 5) = True := eq_true (by decide)
theorem lt_2_3 : (2 < 3) = True := eq_true (by decide)
theorem lt_2_4 : (2 < 4) = True := eq_true (by decide)
theorem lt_2_5 : (2 < 5) = True := eq_true (by decide)
theorem lt_2_6 : (2 < 6) = True := eq_true (by decide)
theorem lt_3_4 : (3 < 4) = True := eq_true (by decide)
theorem lt_3_5 : (3 < 5) = True := eq_true (by decide)
theorem lt_3_6 : (3 < 6) = True := eq_true (by decide)
theorem lt_3_8 : (3 < 8) = True := eq_true (by decide)
theorem lt_4_5 : (4 < 5) = True := eq_true (by decide)
theorem lt_4_6 : (4 < 6) = True := eq_true (by decide)
theorem lt_4_7 : (4 < 7) = True := eq_true (by decide)
theorem lt_4_8 : (4 < 8) = True := eq_true (by decide)
theorem lt_4_10 : (4 < 10) = True := eq_true (by decide)
theorem lt_5_6 : (5 < 6) = True := eq_true (by decide)
theorem lt_5_7 : (5 < 7) = True := eq_true (by decide)
theorem lt_5_8 : (5 < 8) = True := eq_true (by decide)
theorem lt_5_10 : (5 < 10) = True := eq_true (by decide)
theorem lt_6_7 : (6 < 7) = True := eq_true (by decide)
theorem lt_6_8 : (6 < 8) = True := eq_true (by decide)
theorem lt_6_10 : (6 < 10) = True := eq_true (by decide)
theorem lt_7_8 : (7 < 8) = True := eq_true (by decide)
theorem lt_7_10 : (7 < 10) = True := eq_true (by decide)
theorem lt_8_10 : (8 < 10) = True := eq_true (by decide)
theorem lt_9_10 : (9 < 10) = True := eq_true (by decide)
theorem cl_0 : Int64.ofNat 0 = 0 := by decide +kernel
theorem cl_1 : Int64.ofNat 1 = 1 := by decide +kernel
