/-! the mean, to the end -/
theorem mn_46 : mnAll 46 = true := by decide +kernel
theorem mn_47 : mnAll 47 = true := by decide +kernel
theorem mn_48 : mnAll 48 = true := by decide +kernel
theorem mn_49 : mnAll 49 = true := by decide +kernel
theorem mn_50 : mnAll 50 = true := by decide +kernel
theorem mn_51 : mnAll 51 = true := by decide +kernel
theorem mn_52 : mnAll 52 = true := by decide +kernel
theorem mn_53 : mnAll 53 = true := by decide +kernel
theorem mn_54 : mnAll 54 = true := by decide +kernel
theorem mn_55 : mnAll 55 = true := by decide +kernel
theorem mn_56 : mnAll 56 = true := by decide +kernel
theorem mn_57 : mnAll 57 = true := by decide +kernel
theorem mn_58 : mnAll 58 = true := by decide +kernel
theorem mn_59 : mnAll 59 = true := by decide +kernel
theorem mn_60 : mnAll 60 = true := by decide +kernel
theorem mn_all : ∀ m : Nat, 1 ≤ m → m ≤ 60 → mnAll m = true
  | 0, h, _ => absurd h (by decide)
  | 1, _, _ => mn_1
  | 2, _, _ => mn_2
  | 3, _, _ => mn_3
  | 4, _, _ => mn_4
  | 5, _, _ => mn_5
  | 6, _, _ => mn_6
  | 7, _, _ => mn_7
  | 8, _, _ => mn_8
  | 9, _, _ => mn_9
  | 10, _, _ => mn_10
  | 11, _, _ => mn_11
  | 12, _, _ => mn_12
  | 13, _, _ => mn_13
  | 14, _, _ => mn_14
  | 15, _, _ => mn_15
  | 16, _, _ => mn_16
  | 17, _, _ => mn_17
  | 18, _, _ => mn_18
  | 19, _, _ => mn_19
  | 20, _, _ => mn_20
  | 21, _, _ => mn_21
  | 22, _, _ => mn_22
  | 23, _, _ => mn_23
  | 24, _, _ => mn_24
  | 25, _, _ => mn_25
  | 26, _, _ => mn_26
  | 27, _, _ => mn_27
  | 28, _, _ => mn_28
  | 29, _, _ => mn_29
  | 30, _, _ => mn_30
  | 31, _, _ => mn_31
  | 32, _, _ => mn_32
  | 33, _, _ => mn_33
  | 34, _, _ => mn_34
  | 35, _, _ => mn_35
  | 36, _, _ => mn_36
  | 37, _, _ => mn_37
  | 38, _, _ => mn_38
  | 39, _, _ => mn_39
  | 40, _, _ => mn_40
  | 41, _, _ => mn_41
  | 42, _, _ => mn_42
  | 43, _, _ => mn_43
  | 44, _, _ => mn_44
  | 45, _, _ => mn_45
  | 46, _, _ => mn_46
  | 47, _, _ => mn_47
  | 48, _, _ => mn_48
  | 49, _, _ => mn_49
  | 50, _, _ => mn_50
  | 51, _, _ => mn_51
  | 52, _, _ => mn_52
  | 53, _, _ => mn_53
  | 54, _, _ => mn_54
  | 55, _, _ => mn_55
  | 56, _, _ => mn_56
  | 57, _, _ => mn_57
  | 58, _, _ => mn_58
  | 59, _, _ => mn_59
  | 60, _, _ => mn_60
  | n + 61, _, h => absurd h (by omega)
theorem mn_bd {m s : Nat} (h1 : 1 ≤ m) (h2 : m ≤ 60) (h3 : m ≤ s) (h4 : s ≤ 30 * m) : ¬ (Op.cmpValue (FP.dcmp (FP.ddiv (FP.i2d (nI s)) (FP.i2d (nI m))) FP.dconst1) .l < 0) ∧ ¬ (0 < Op.cmpValue (FP.dcmp (FP.ddiv (FP.i2d (nI s)) (FP.i2d (nI m))) (4629137466983448576 : UInt64)) .g) := by
  have h := List.all_eq_true.mp (mn_all m h1 h2) (s - m) (List.mem_range.mpr (by omega))
  rw [show m + (s - m) = s by omega] at h
  unfold mnOk at h
  rw [Bool.and_eq_true, Bool.not_eq_true', Bool.not_eq_true', decide_eq_false_iff_not, decide_eq_false_iff_not] at h
  exact h
theorem m1_eq : Op.cmpValue (FP.dcmp (13830554455654793216 : UInt64) (13830554455654793216 : UInt64)) .l = 0 := by decide +kernel
theorem i2f_n : ∀ c, c < 64 → (FP.fdiv (FP.i2f (nI c)) (1107296256 : UInt32)) &&& 0x7fffffff ≤ (0x7f800000 : UInt32) := by decide +kernel
