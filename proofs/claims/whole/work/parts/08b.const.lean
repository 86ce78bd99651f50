theorem cb_m100 : (Int8.ofInt (-100)).toInt32 = (-100) := by decide +kernel
theorem cb_m14 : (Int8.ofInt (-14)).toInt32 = (-14) := by decide +kernel
theorem cb_m13 : (Int8.ofInt (-13)).toInt32 = (-13) := by decide +kernel
theorem cb_m11 : (Int8.ofInt (-11)).toInt32 = (-11) := by decide +kernel
theorem cb_m5 : (Int8.ofInt (-5)).toInt32 = (-5) := by decide +kernel
theorem cb_m4 : (Int8.ofInt (-4)).toInt32 = (-4) := by decide +kernel
theorem cb_m3 : (Int8.ofInt (-3)).toInt32 = (-3) := by decide +kernel
theorem cb_m2 : (Int8.ofInt (-2)).toInt32 = (-2) := by decide +kernel
theorem cb_6 : (Int8.ofInt (6)).toInt32 = nI 6 := by decide +kernel
theorem cb_8 : (Int8.ofInt (8)).toInt32 = nI 8 := by decide +kernel
theorem cb_10 : (Int8.ofInt (10)).toInt32 = nI 10 := by decide +kernel
theorem cb_12 : (Int8.ofInt (12)).toInt32 = nI 12 := by decide +kernel
theorem cb_13 : (Int8.ofInt (13)).toInt32 = nI 13 := by decide +kernel
theorem cb_15 : (Int8.ofInt (15)).toInt32 = nI 15 := by decide +kernel
theorem cb_16 : (Int8.ofInt (16)).toInt32 = nI 16 := by decide +kernel
theorem cb_32 : (Int8.ofInt (32)).toInt32 = nI 32 := by decide +kernel
theorem cb_36 : (Int8.ofInt (36)).toInt32 = nI 36 := by decide +kernel
theorem cb_48 : (Int8.ofInt (48)).toInt32 = nI 48 := by decide +kernel
theorem cb_57 : (Int8.ofInt (57)).toInt32 = nI 57 := by decide +kernel
theorem cb_59 : (Int8.ofInt (59)).toInt32 = nI 59 := by decide +kernel
theorem cb_63 : (Int8.ofInt (63)).toInt32 = nI 63 := by decide +kernel
theorem cb_64 : (Int8.ofInt (64)).toInt32 = nI 64 := by decide +kernel
theorem cb_97 : (Int8.ofInt (97)).toInt32 = nI 97 := by decide +kernel
theorem cb_100 : (Int8.ofInt (100)).toInt32 = nI 100 := by decide +kernel
theorem cb_122 : (Int8.ofInt (122)).toInt32 = nI 122 := by decide +kernel
theorem cb_126 : (Int8.ofInt (126)).toInt32 = nI 126 := by decide +kernel
theorem cb_127 : (Int8.ofInt (127)).toInt32 = nI 127 := by decide +kernel
theorem ci_m1 : Int32.ofInt (-1) = (-1) := by decide +kernel
theorem ci_0 : Int32.ofInt (0) = nI 0 := by decide +kernel
theorem ci_1 : Int32.ofInt (1) = nI 1 := by decide +kernel
theorem ci_2 : Int32.ofInt (2) = nI 2 := by decide +kernel
theorem ci_3 : Int32.ofInt (3) = nI 3 := by decide +kernel
theorem ci_4 : Int32.ofInt (4) = nI 4 := by decide +kernel
theorem ci_5 : Int32.ofInt (5) = nI 5 := by decide +kernel
theorem cs_m300 : (Int16.ofInt (-300)).toInt32 = (-300) := by decide +kernel
theorem cs_144 : (Int16.ofInt (144)).toInt32 = nI 144 := by decide +kernel
theorem cs_153 : (Int16.ofInt (153)).toInt32 = nI 153 := by decide +kernel
theorem cs_200 : (Int16.ofInt (200)).toInt32 = nI 200 := by decide +kernel
theorem cs_1000 : (Int16.ofInt (1000)).toInt32 = nI 1000 := by decide +kernel
