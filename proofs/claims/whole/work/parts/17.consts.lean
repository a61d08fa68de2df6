theorem kb_m20 : (Int8.ofInt (-20)).toInt32 = (-20) := by decide
theorem kb_m14 : (Int8.ofInt (-14)).toInt32 = (-14) := by decide
theorem kb_m13 : (Int8.ofInt (-13)).toInt32 = (-13) := by decide
theorem kb_m12 : (Int8.ofInt (-12)).toInt32 = (-12) := by decide
theorem kb_m11 : (Int8.ofInt (-11)).toInt32 = (-11) := by decide
theorem kb_m5 : (Int8.ofInt (-5)).toInt32 = (-5) := by decide
theorem kb_m4 : (Int8.ofInt (-4)).toInt32 = (-4) := by decide
theorem kb_m3 : (Int8.ofInt (-3)).toInt32 = (-3) := by decide
theorem kb_m2 : (Int8.ofInt (-2)).toInt32 = (-2) := by decide
theorem kb_6 : (Int8.ofInt 6).toInt32 = 6 := by decide
theorem kb_7 : (Int8.ofInt 7).toInt32 = 7 := by decide
theorem kb_8 : (Int8.ofInt 8).toInt32 = 8 := by decide
theorem kb_16 : (Int8.ofInt 16).toInt32 = 16 := by decide
theorem kb_20 : (Int8.ofInt 20).toInt32 = 20 := by decide
theorem kb_24 : (Int8.ofInt 24).toInt32 = 24 := by decide
theorem kb_40 : (Int8.ofInt 40).toInt32 = 40 := by decide
theorem kb_60 : (Int8.ofInt 60).toInt32 = 60 := by decide
theorem kb_63 : (Int8.ofInt 63).toInt32 = 63 := by decide
theorem kb_100 : (Int8.ofInt 100).toInt32 = 100 := by decide
theorem kc_m1 : Int32.ofInt (-1) = (-1) := by decide
theorem kc_0 : Int32.ofInt 0 = 0 := by decide
theorem kc_1 : Int32.ofInt 1 = 1 := by decide
theorem kc_2 : Int32.ofInt 2 = 2 := by decide
theorem kc_3 : Int32.ofInt 3 = 3 := by decide
theorem kc_4 : Int32.ofInt 4 = 4 := by decide
theorem kl_0 : Int64.ofNat ((0 : Fin 2) : Nat) = 0 := by decide
theorem kl_1 : Int64.ofNat ((1 : Fin 2) : Nat) = 1 := by decide
theorem ks_500 : (Int16.ofInt 500).toInt32 = 500 := by decide
theorem vi4_0 : vp_in 0 4 := by unfold vp_in; decide
theorem vi4_1 : vp_in 1 4 := by unfold vp_in; decide
theorem vi4_2 : vp_in 2 4 := by unfold vp_in; decide
theorem vi4_3 : vp_in 3 4 := by unfold vp_in; decide
