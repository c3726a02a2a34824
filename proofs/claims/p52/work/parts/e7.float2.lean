/-! the mean, on -/
theorem mn_31 : mnAll 31 = true := by decide +kernel
theorem mn_32 : mnAll 32 = true := by decide +kernel
theorem mn_33 : mnAll 33 = true := by decide +kernel
theorem mn_34 : mnAll 34 = true := by decide +kernel
theorem mn_35 : mnAll 35 = true := by decide +kernel
theorem mn_36 : mnAll 36 = true := by decide +kernel
theorem mn_37 : mnAll 37 = true := by decide +kernel
theorem mn_38 : mnAll 38 = true := by decide +kernel
theorem mn_39 : mnAll 39 = true := by decide +kernel
theorem mn_40 : mnAll 40 = true := by decide +kernel
theorem mn_41 : mnAll 41 = true := by decide +kernel
theorem mn_42 : mnAll 42 = true := by decide +kernel
theorem mn_43 : mnAll 43 = true := by decide +kernel
theorem mn_44 : mnAll 44 = true := by decide +kernel
theorem mn_45 : mnAll 45 = true := by decide +kernel
