/-! THE MEAN LIES BETWEEN 1 AND 30 -/
def mnOk (m s : Nat) : Bool := !(decide (Op.cmpValue (FP.dcmp (FP.ddiv (FP.i2d (nI s)) (FP.i2d (nI m))) FP.dconst1) .l < 0)) && !(decide (0 < Op.cmpValue (FP.dcmp (FP.ddiv (FP.i2d (nI s)) (FP.i2d (nI m))) (4629137466983448576 : UInt64)) .g))
def mnAll (m : Nat) : Bool := (List.range (29 * m + 1)).all fun i => mnOk m (m + i)
theorem mn_1 : mnAll 1 = true := by decide +kernel
theorem mn_2 : mnAll 2 = true := by decide +kernel
theorem mn_3 : mnAll 3 = true := by decide +kernel
theorem mn_4 : mnAll 4 = true := by decide +kernel
theorem mn_5 : mnAll 5 = true := by decide +kernel
theorem mn_6 : mnAll 6 = true := by decide +kernel
theorem mn_7 : mnAll 7 = true := by decide +kernel
theorem mn_8 : mnAll 8 = true := by decide +kernel
theorem mn_9 : mnAll 9 = true := by decide +kernel
theorem mn_10 : mnAll 10 = true := by decide +kernel
theorem mn_11 : mnAll 11 = true := by decide +kernel
theorem mn_12 : mnAll 12 = true := by decide +kernel
theorem mn_13 : mnAll 13 = true := by decide +kernel
theorem mn_14 : mnAll 14 = true := by decide +kernel
theorem mn_15 : mnAll 15 = true := by decide +kernel
theorem mn_16 : mnAll 16 = true := by decide +kernel
theorem mn_17 : mnAll 17 = true := by decide +kernel
theorem mn_18 : mnAll 18 = true := by decide +kernel
theorem mn_19 : mnAll 19 = true := by decide +kernel
theorem mn_20 : mnAll 20 = true := by decide +kernel
theorem mn_21 : mnAll 21 = true := by decide +kernel
theorem mn_22 : mnAll 22 = true := by decide +kernel
theorem mn_23 : mnAll 23 = true := by decide +kernel
theorem mn_24 : mnAll 24 = true := by decide +kernel
theorem mn_25 : mnAll 25 = true := by decide +kernel
theorem mn_26 : mnAll 26 = true := by decide +kernel
theorem mn_27 : mnAll 27 = true := by decide +kernel
theorem mn_28 : mnAll 28 = true := by decide +kernel
theorem mn_29 : mnAll 29 = true := by decide +kernel
theorem mn_30 : mnAll 30 = true := by decide +kernel
