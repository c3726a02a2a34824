/-! X0_has -/
abbrev mX0_has : MD := (yX0_has, cX0_has, 2, some .boolean)
theorem mdX0_has : MDv mX0_has RX0 1 := ⟨kIm_X0_has, kSe_X0_has, kIn_X0, kCo_X0_has, by decide +kernel⟩
def F_X0_has (σ : DS) (a1 : Int32) : Int32 := (if a1 < 0 then (0 : Int32) else (if (σ.1 1) ≤ a1 then (0 : Int32) else (1 : Int32)))
set_option maxRecDepth 100000 in
theorem sp_X0_has {l : Launch} (hl : l.stackTraces = false) {g : Gy} {ad : Nat → Nat} {rst : va_W} {σ : DS} (a1 : Int32) : SpF l mX0_has 1 0 0 mI g [.ref (ad 1), .int a1] ((dkh g ad rst) σ) (F_X0_has σ a1) ((dkh g ad rst) σ) := by
  generalize H : F_X0_has σ a1 = r0
  unfold F_X0_has at H
  refine Sp.of hl (by decide) (Nat.le_of_ble_eq_true rfl) (fun p e s m args below meth c A C hr hx => ?_)
  refine J.lw (lv' := [(0, .ref (ad 1)), (1, .int a1)]) ⟨rfl, rfl, trivial⟩ ?_
  refine J.iload_n (i := 1) C dX0_has_0 rfl rfl ?_
  refine J.if_ltL (tgt := 16) C dX0_has_1 (by decide) H (fun c_1 H => ?_) (fun c_1 H => ?_)
  · refine J.iconst C (0) dX0_has_16 (by decide) ?_
    exact J.zretA C hr rfl (Nat.le_refl _) (Nat.le_refl _) dX0_has_17 H
  · refine J.iload_n (i := 1) C dX0_has_4 rfl rfl ?_
    refine J.aload_n (i := 0) C dX0_has_5 rfl rfl ?_
    refine J.get C 1 9 dk_1 rfl (by decide) kFl_X0_41 inB_X0 rfl dX0_has_6 ?_
    refine J.icmp_geL (tgt := 16) C dX0_has_9 (by decide) H (fun c_9 H => ?_) (fun c_9 H => ?_)
    · refine J.iconst C (0) dX0_has_16 (by decide) ?_
      exact J.zretA C hr rfl (Nat.le_refl _) (Nat.le_refl _) dX0_has_17 H
    · refine J.iconst C (1) dX0_has_12 (by decide) ?_
      refine J.goto (tgt := 17) C dX0_has_13 (by decide) ?_
      exact J.zretA C hr rfl (Nat.le_refl _) (Nat.le_refl _) dX0_has_17 H
theorem nr_X0_has (σ : DS) (a1 : Int32) : narrow .boolean (.int (F_X0_has σ a1)) = .int (F_X0_has σ a1) := by
  unfold F_X0_has
  try simp only [lt]
  repeat' split
  all_goals first | rfl | exact pk_nc _ | (first | rfl)

/-! X0_size -/
abbrev mX0_size : MD := (yX0_size, cX0_size, 2, some .int)
theorem mdX0_size : MDv mX0_size RX0 1 := ⟨kIm_X0_size, kSe_X0_size, kIn_X0, kCo_X0_size, by decide +kernel⟩
def F_X0_size (σ : DS) (a1 : Int32) : Int32 := (if (F_X0_has σ a1) = 0 then (0 : Int32) else (rat 150 (σ.2 2) a1))
set_option maxRecDepth 100000 in
theorem sp_X0_size {l : Launch} (hl : l.stackTraces = false) {g : Gy} {ad : Nat → Nat} {rst : va_W} {σ : DS} (a1 : Int32) : SpF l mX0_size 2 0 0 mI g [.ref (ad 1), .int a1] ((dkh g ad rst) σ) (F_X0_size σ a1) ((dkh g ad rst) σ) := by
  generalize H : F_X0_size σ a1 = r0
  unfold F_X0_size at H
  refine Sp.of hl (by decide) (Nat.le_of_ble_eq_true rfl) (fun p e s m args below meth c A C hr hx => ?_)
  refine J.lw (lv' := [(0, .ref (ad 1)), (1, .int a1)]) ⟨rfl, rfl, trivial⟩ ?_
  refine J.aload_n (i := 0) C dX0_size_0 rfl rfl ?_
  refine J.iload_n (i := 1) C dX0_size_1 rfl rfl ?_
  refine J.callVI C (sp_X0_has hl _) rfl kMl_X0_45 mdX0_has ⟨(Nat.le_of_ble_eq_true rfl), (Nat.le_of_ble_eq_true rfl)⟩ dk_1 rfl rfl (Nat.le_of_ble_eq_true rfl) dX0_size_2 ⟨(Nat.le_of_ble_eq_true rfl), (Nat.le_of_ble_eq_true rfl)⟩ ?_
  refine J.if_eqL (tgt := 19) C dX0_size_5 (by decide) H (fun c_5 H => ?_) (fun c_5 H => ?_)
  · refine J.iconst C (0) dX0_size_19 (by decide) ?_
    exact J.iretA C hr (Nat.le_refl _) (Nat.le_refl _) dX0_size_20 H
  · refine J.aload_n (i := 0) C dX0_size_8 rfl rfl ?_
    refine J.get C 1 2 dk_1 rfl (by decide) kFl_X0_23 inB_X0 rfl dX0_size_9 ?_
    refine J.iload_n (i := 1) C dX0_size_12 rfl rfl ?_
    refine J.callVI C (at_2 hl _) rfl kMl_X0_49 mdX3_at ⟨(Nat.le_of_ble_eq_true rfl), (Nat.le_of_ble_eq_true rfl)⟩ dk_10 rfl rfl (Nat.le_of_ble_eq_true rfl) dX0_size_13 ⟨(Nat.le_of_ble_eq_true rfl), (Nat.le_of_ble_eq_true rfl)⟩ ?_
    refine J.goto (tgt := 20) C dX0_size_16 (by decide) ?_
    exact J.iretA C hr (Nat.le_refl _) (Nat.le_refl _) dX0_size_20 H

/-! X0_symbol -/
abbrev mX0_symbol : MD := (yX0_symbol, cX0_symbol, 3, some .char)
theorem mdX0_symbol : MDv mX0_symbol RX0 2 := ⟨kIm_X0_symbol, kSe_X0_symbol, kIn_X0, kCo_X0_symbol, by decide +kernel⟩
def F_X0_symbol (σ : DS) (a1 : Int32) (a2 : Int32) : Int32 := (if a2 < 0 then (0 : Int32) else (if (F_X0_size σ a1) ≤ a2 then (0 : Int32) else (((rat 4500 (σ.2 4) ((a1 * (30 : Int32)) + a2))).toUInt32 % 65536).toInt32))
set_option maxRecDepth 100000 in
theorem sp_X0_symbol {l : Launch} (hl : l.stackTraces = false) {g : Gy} {ad : Nat → Nat} {rst : va_W} {σ : DS} (a1 : Int32) (a2 : Int32) : SpF l mX0_symbol 3 0 0 mI g [.ref (ad 1), .int a1, .int a2] ((dkh g ad rst) σ) (F_X0_symbol σ a1 a2) ((dkh g ad rst) σ) := by
  generalize H : F_X0_symbol σ a1 a2 = r0
  unfold F_X0_symbol at H
  refine Sp.of hl (by decide) (Nat.le_of_ble_eq_true rfl) (fun p e s m args below meth c A C hr hx => ?_)
  refine J.lw (lv' := [(0, .ref (ad 1)), (1, .int a1), (2, .int a2)]) ⟨rfl, rfl, rfl, trivial⟩ ?_
  refine J.iload_n (i := 2) C dX0_symbol_0 rfl rfl ?_
  refine J.if_ltL (tgt := 30) C dX0_symbol_1 (by decide) H (fun c_1 H => ?_) (fun c_1 H => ?_)
  · refine J.iconst C (0) dX0_symbol_30 (by decide) ?_
    exact J.zretA C hr rfl (Nat.le_refl _) (Nat.le_refl _) dX0_symbol_31 H
  · refine J.iload_n (i := 2) C dX0_symbol_4 rfl rfl ?_
    refine J.aload_n (i := 0) C dX0_symbol_5 rfl rfl ?_
    refine J.iload_n (i := 1) C dX0_symbol_6 rfl rfl ?_
    refine J.callVI C (sp_X0_size hl _) rfl kMl_X0_53 mdX0_size ⟨(Nat.le_of_ble_eq_true rfl), (Nat.le_of_ble_eq_true rfl)⟩ dk_1 rfl rfl (Nat.le_of_ble_eq_true rfl) dX0_symbol_7 ⟨(Nat.le_of_ble_eq_true rfl), (Nat.le_of_ble_eq_true rfl)⟩ ?_
    refine J.icmp_geL (tgt := 30) C dX0_symbol_10 (by decide) H (fun c_10 H => ?_) (fun c_10 H => ?_)
    · refine J.iconst C (0) dX0_symbol_30 (by decide) ?_
      exact J.zretA C hr rfl (Nat.le_refl _) (Nat.le_refl _) dX0_symbol_31 H
    · refine J.aload_n (i := 0) C dX0_symbol_13 rfl rfl ?_
      refine J.get C 1 4 dk_1 rfl (by decide) kFl_X0_29 inB_X0 rfl dX0_symbol_14 ?_
      refine J.iload_n (i := 1) C dX0_symbol_17 rfl rfl ?_
      refine J.bipush C (30) dX0_symbol_18 (by decide) ?_
      refine J.imul C dX0_symbol_20 ?_
      refine J.iload_n (i := 2) C dX0_symbol_21 rfl rfl ?_
      refine J.iadd C dX0_symbol_22 ?_
      refine J.callVI C (at_4 hl _) rfl kMl_X0_49 mdX3_at ⟨(Nat.le_of_ble_eq_true rfl), (Nat.le_of_ble_eq_true rfl)⟩ dk_14 rfl rfl (Nat.le_of_ble_eq_true rfl) dX0_symbol_23 ⟨(Nat.le_of_ble_eq_true rfl), (Nat.le_of_ble_eq_true rfl)⟩ ?_
      refine J.i2c C _ dX0_symbol_26 rfl ?_
      refine J.goto (tgt := 31) C dX0_symbol_27 (by decide) ?_
      exact J.zretA C hr (pk_nc _) (Nat.le_refl _) (Nat.le_refl _) dX0_symbol_31 H
theorem nr_X0_symbol (σ : DS) (a1 : Int32) (a2 : Int32) : narrow .char (.int (F_X0_symbol σ a1 a2)) = .int (F_X0_symbol σ a1 a2) := by
  unfold F_X0_symbol
  try simp only [lt]
  repeat' split
  all_goals first | rfl | exact pk_nc _ | (first | rfl)

/-! X0_kind -/
abbrev mX0_kind : MD := (yX0_kind, cX0_kind, 2, some .char)
theorem mdX0_kind : MDv mX0_kind RX0 1 := ⟨kIm_X0_kind, kSe_X0_kind, kIn_X0, kCo_X0_kind, by decide +kernel⟩
def F_X0_kind (σ : DS) (a1 : Int32) : Int32 := (if (F_X0_has σ a1) = 0 then (0 : Int32) else (((rat 4500 (σ.2 4) (a1 * (30 : Int32)))).toUInt32 % 65536).toInt32)
set_option maxRecDepth 100000 in
theorem sp_X0_kind {l : Launch} (hl : l.stackTraces = false) {g : Gy} {ad : Nat → Nat} {rst : va_W} {σ : DS} (a1 : Int32) : SpF l mX0_kind 2 0 0 mI g [.ref (ad 1), .int a1] ((dkh g ad rst) σ) (F_X0_kind σ a1) ((dkh g ad rst) σ) := by
  generalize H : F_X0_kind σ a1 = r0
  unfold F_X0_kind at H
  refine Sp.of hl (by decide) (Nat.le_of_ble_eq_true rfl) (fun p e s m args below meth c A C hr hx => ?_)
  refine J.lw (lv' := [(0, .ref (ad 1)), (1, .int a1)]) ⟨rfl, rfl, trivial⟩ ?_
  refine J.aload_n (i := 0) C dX0_kind_0 rfl rfl ?_
  refine J.iload_n (i := 1) C dX0_kind_1 rfl rfl ?_
  refine J.callVI C (sp_X0_has hl _) rfl kMl_X0_45 mdX0_has ⟨(Nat.le_of_ble_eq_true rfl), (Nat.le_of_ble_eq_true rfl)⟩ dk_1 rfl rfl (Nat.le_of_ble_eq_true rfl) dX0_kind_2 ⟨(Nat.le_of_ble_eq_true rfl), (Nat.le_of_ble_eq_true rfl)⟩ ?_
  refine J.if_eqL (tgt := 23) C dX0_kind_5 (by decide) H (fun c_5 H => ?_) (fun c_5 H => ?_)
  · refine J.iconst C (0) dX0_kind_23 (by decide) ?_
    exact J.zretA C hr rfl (Nat.le_refl _) (Nat.le_refl _) dX0_kind_24 H
  · refine J.aload_n (i := 0) C dX0_kind_8 rfl rfl ?_
    refine J.get C 1 4 dk_1 rfl (by decide) kFl_X0_29 inB_X0 rfl dX0_kind_9 ?_
    refine J.iload_n (i := 1) C dX0_kind_12 rfl rfl ?_
    refine J.bipush C (30) dX0_kind_13 (by decide) ?_
    refine J.imul C dX0_kind_15 ?_
    refine J.callVI C (at_4 hl _) rfl kMl_X0_49 mdX3_at ⟨(Nat.le_of_ble_eq_true rfl), (Nat.le_of_ble_eq_true rfl)⟩ dk_14 rfl rfl (Nat.le_of_ble_eq_true rfl) dX0_kind_16 ⟨(Nat.le_of_ble_eq_true rfl), (Nat.le_of_ble_eq_true rfl)⟩ ?_
    refine J.i2c C _ dX0_kind_19 rfl ?_
    refine J.goto (tgt := 24) C dX0_kind_20 (by decide) ?_
    exact J.zretA C hr (pk_nc _) (Nat.le_refl _) (Nat.le_refl _) dX0_kind_24 H
theorem nr_X0_kind (σ : DS) (a1 : Int32) : narrow .char (.int (F_X0_kind σ a1)) = .int (F_X0_kind σ a1) := by
  unfold F_X0_kind
  try simp only [lt]
  repeat' split
  all_goals first | rfl | exact pk_nc _ | (first | exact nr_X0_has ..)

/-! X0_left -/
abbrev mX0_left : MD := (yX0_left, cX0_left, 2, some .int)
theorem mdX0_left : MDv mX0_left RX0 1 := ⟨kIm_X0_left, kSe_X0_left, kIn_X0, kCo_X0_left, by decide +kernel⟩
def F_X0_left (σ : DS) (a1 : Int32) : Int32 := (if (F_X0_has σ a1) = 0 then (-1 : Int32) else (rat 150 (σ.2 0) a1))
set_option maxRecDepth 100000 in
theorem sp_X0_left {l : Launch} (hl : l.stackTraces = false) {g : Gy} {ad : Nat → Nat} {rst : va_W} {σ : DS} (a1 : Int32) : SpF l mX0_left 2 0 0 mI g [.ref (ad 1), .int a1] ((dkh g ad rst) σ) (F_X0_left σ a1) ((dkh g ad rst) σ) := by
  generalize H : F_X0_left σ a1 = r0
  unfold F_X0_left at H
  refine Sp.of hl (by decide) (Nat.le_of_ble_eq_true rfl) (fun p e s m args below meth c A C hr hx => ?_)
  refine J.lw (lv' := [(0, .ref (ad 1)), (1, .int a1)]) ⟨rfl, rfl, trivial⟩ ?_
  refine J.aload_n (i := 0) C dX0_left_0 rfl rfl ?_
  refine J.iload_n (i := 1) C dX0_left_1 rfl rfl ?_
  refine J.callVI C (sp_X0_has hl _) rfl kMl_X0_45 mdX0_has ⟨(Nat.le_of_ble_eq_true rfl), (Nat.le_of_ble_eq_true rfl)⟩ dk_1 rfl rfl (Nat.le_of_ble_eq_true rfl) dX0_left_2 ⟨(Nat.le_of_ble_eq_true rfl), (Nat.le_of_ble_eq_true rfl)⟩ ?_
  refine J.if_eqL (tgt := 19) C dX0_left_5 (by decide) H (fun c_5 H => ?_) (fun c_5 H => ?_)
  · refine J.iconst C (-1) dX0_left_19 (by decide) ?_
    exact J.iretA C hr (Nat.le_refl _) (Nat.le_refl _) dX0_left_20 H
  · refine J.aload_n (i := 0) C dX0_left_8 rfl rfl ?_
    refine J.get C 1 0 dk_1 rfl (by decide) kFl_X0_14 inB_X0 rfl dX0_left_9 ?_
    refine J.iload_n (i := 1) C dX0_left_12 rfl rfl ?_
    refine J.callVI C (at_0 hl _) rfl kMl_X0_49 mdX3_at ⟨(Nat.le_of_ble_eq_true rfl), (Nat.le_of_ble_eq_true rfl)⟩ dk_6 rfl rfl (Nat.le_of_ble_eq_true rfl) dX0_left_13 ⟨(Nat.le_of_ble_eq_true rfl), (Nat.le_of_ble_eq_true rfl)⟩ ?_
    refine J.goto (tgt := 20) C dX0_left_16 (by decide) ?_
    exact J.iretA C hr (Nat.le_refl _) (Nat.le_refl _) dX0_left_20 H

/-! X0_right -/
abbrev mX0_right : MD := (yX0_right, cX0_right, 2, some .int)
theorem mdX0_right : MDv mX0_right RX0 1 := ⟨kIm_X0_right, kSe_X0_right, kIn_X0, kCo_X0_right, by decide +kernel⟩
def F_X0_right (σ : DS) (a1 : Int32) : Int32 := (if (F_X0_has σ a1) = 0 then (-1 : Int32) else (rat 150 (σ.2 1) a1))
set_option maxRecDepth 100000 in
theorem sp_X0_right {l : Launch} (hl : l.stackTraces = false) {g : Gy} {ad : Nat → Nat} {rst : va_W} {σ : DS} (a1 : Int32) : SpF l mX0_right 2 0 0 mI g [.ref (ad 1), .int a1] ((dkh g ad rst) σ) (F_X0_right σ a1) ((dkh g ad rst) σ) := by
  generalize H : F_X0_right σ a1 = r0
  unfold F_X0_right at H
  refine Sp.of hl (by decide) (Nat.le_of_ble_eq_true rfl) (fun p e s m args below meth c A C hr hx => ?_)
  refine J.lw (lv' := [(0, .ref (ad 1)), (1, .int a1)]) ⟨rfl, rfl, trivial⟩ ?_
  refine J.aload_n (i := 0) C dX0_right_0 rfl rfl ?_
  refine J.iload_n (i := 1) C dX0_right_1 rfl rfl ?_
  refine J.callVI C (sp_X0_has hl _) rfl kMl_X0_45 mdX0_has ⟨(Nat.le_of_ble_eq_true rfl), (Nat.le_of_ble_eq_true rfl)⟩ dk_1 rfl rfl (Nat.le_of_ble_eq_true rfl) dX0_right_2 ⟨(Nat.le_of_ble_eq_true rfl), (Nat.le_of_ble_eq_true rfl)⟩ ?_
  refine J.if_eqL (tgt := 19) C dX0_right_5 (by decide) H (fun c_5 H => ?_) (fun c_5 H => ?_)
  · refine J.iconst C (-1) dX0_right_19 (by decide) ?_
    exact J.iretA C hr (Nat.le_refl _) (Nat.le_refl _) dX0_right_20 H
  · refine J.aload_n (i := 0) C dX0_right_8 rfl rfl ?_
    refine J.get C 1 1 dk_1 rfl (by decide) kFl_X0_20 inB_X0 rfl dX0_right_9 ?_
    refine J.iload_n (i := 1) C dX0_right_12 rfl rfl ?_
    refine J.callVI C (at_1 hl _) rfl kMl_X0_49 mdX3_at ⟨(Nat.le_of_ble_eq_true rfl), (Nat.le_of_ble_eq_true rfl)⟩ dk_8 rfl rfl (Nat.le_of_ble_eq_true rfl) dX0_right_13 ⟨(Nat.le_of_ble_eq_true rfl), (Nat.le_of_ble_eq_true rfl)⟩ ?_
    refine J.goto (tgt := 20) C dX0_right_16 (by decide) ?_
    exact J.iretA C hr (Nat.le_refl _) (Nat.le_refl _) dX0_right_20 H

/-! X0_table -/
abbrev mX0_table : MD := (yX0_table, cX0_table, 2, some .int)
theorem mdX0_table : MDv mX0_table RX0 1 := ⟨kIm_X0_table, kSe_X0_table, kIn_X0, kCo_X0_table, by decide +kernel⟩
def F_X0_table (σ : DS) (a1 : Int32) : Int32 := (rat 150 (σ.2 3) a1)
set_option maxRecDepth 100000 in
theorem sp_X0_table {l : Launch} (hl : l.stackTraces = false) {g : Gy} {ad : Nat → Nat} {rst : va_W} {σ : DS} (a1 : Int32) : SpF l mX0_table 2 0 0 mI g [.ref (ad 1), .int a1] ((dkh g ad rst) σ) (F_X0_table σ a1) ((dkh g ad rst) σ) := by
  generalize H : F_X0_table σ a1 = r0
  unfold F_X0_table at H
  refine Sp.of hl (by decide) (Nat.le_of_ble_eq_true rfl) (fun p e s m args below meth c A C hr hx => ?_)
  refine J.lw (lv' := [(0, .ref (ad 1)), (1, .int a1)]) ⟨rfl, rfl, trivial⟩ ?_
  refine J.aload_n (i := 0) C dX0_table_0 rfl rfl ?_
  refine J.get C 1 3 dk_1 rfl (by decide) kFl_X0_26 inB_X0 rfl dX0_table_1 ?_
  refine J.iload_n (i := 1) C dX0_table_4 rfl rfl ?_
  refine J.callVI C (at_3 hl _) rfl kMl_X0_49 mdX3_at ⟨(Nat.le_of_ble_eq_true rfl), (Nat.le_of_ble_eq_true rfl)⟩ dk_12 rfl rfl (Nat.le_of_ble_eq_true rfl) dX0_table_5 ⟨(Nat.le_of_ble_eq_true rfl), (Nat.le_of_ble_eq_true rfl)⟩ ?_
  exact J.iretA C hr (Nat.le_refl _) (Nat.le_refl _) dX0_table_8 H

/-! X0_find -/
def B_X0_find_3 (k_3 : DS → Int32 → Int32 → Int32 → Int32 → Res DS Int32) (σ : DS) (l1 : Int32) (l2 : Int32) (l3 : Int32) (l4 : Int32) : Res DS Int32 := (if (σ.1 1) ≤ l4 then (some (.inl (-1 : Int32), σ)) else (if (F_X0_kind σ l4) = l1 then (if (rat 150 (σ.2 0) l4) = l2 then (if (rat 150 (σ.2 1) l4) = l3 then (some (.inl l4, σ)) else (lt (l4 + (1 : Int32)) fun z51 => (k_3 σ l1 l2 l3 z51))) else (lt (l4 + (1 : Int32)) fun z51 => (k_3 σ l1 l2 l3 z51))) else (lt (l4 + (1 : Int32)) fun z51 => (k_3 σ l1 l2 l3 z51))))
set_option maxRecDepth 100000 in
theorem bl_X0_find_3 {l : Launch} (hl : l.stackTraces = false) {g : Gy} {ad : Nat → Nat} {rst : va_W} {p : Program} {e : Env} {s : State} {m : MethodId} {args : Array Value} {below : List Frame} {meth : Method} {c : Code} {A : Nat → Prop} (C : Cx p l s m args meth c g A yX0_find.cls cX0_find 5) (hr : meth.sig.returnType = some .int) (hx : ∀ x ∈ c.exceptionTable.toList, False) {rr : (Int32 ⊕ String) × DS} (k_3 : DS → Int32 → Int32 → Int32 → Int32 → Res DS Int32) (hk_3 : ∀ (σ : DS) (l1 : Int32) (l2 : Int32) (l3 : Int32) (l4 : Int32), k_3 σ l1 l2 l3 l4 = some rr → J p l e (rmOf 3 0 0) s m args below meth c g A 5 0 0 (QR mI g A (dkh g ad rst) rr below args s 0 0) 3 [(0, .ref (ad 1)), (1, .int l1), (2, .int l2), (3, .int l3), (4, .int l4)] [] ((dkh g ad rst) σ)) (σ : DS) (l1 : Int32) (l2 : Int32) (l3 : Int32) (l4 : Int32) (H : B_X0_find_3 k_3 σ l1 l2 l3 l4 = some rr) : J p l e (rmOf 3 0 0) s m args below meth c g A 5 0 0 (QR mI g A (dkh g ad rst) rr below args s 0 0) 3 [(0, .ref (ad 1)), (1, .int l1), (2, .int l2), (3, .int l3), (4, .int l4)] [] ((dkh g ad rst) σ) := by
  unfold B_X0_find_3 at H
  refine J.iload C dX0_find_3 rfl ?_
  refine J.aload_n (i := 0) C dX0_find_5 rfl rfl ?_
  refine J.get C 1 9 dk_1 rfl (by decide) kFl_X0_41 inB_X0 rfl dX0_find_6 ?_
  refine J.icmp_geL (tgt := 57) C dX0_find_9 (by decide) H (fun c_9 H => ?_) (fun c_9 H => ?_)
  · refine J.iconst C (-1) dX0_find_57 (by decide) ?_
    exact J.iretL C hr (Nat.le_of_ble_eq_true rfl) (Nat.le_of_ble_eq_true rfl) dX0_find_58 H
  · refine J.aload_n (i := 0) C dX0_find_12 rfl rfl ?_
    refine J.iload C dX0_find_13 rfl ?_
    refine J.callVI C (sp_X0_kind hl _) rfl kMl_X0_56 mdX0_kind ⟨(Nat.le_of_ble_eq_true rfl), (Nat.le_of_ble_eq_true rfl)⟩ dk_1 rfl rfl (Nat.le_of_ble_eq_true rfl) dX0_find_15 ⟨(Nat.le_of_ble_eq_true rfl), (Nat.le_of_ble_eq_true rfl)⟩ ?_
    refine J.iload_n (i := 1) C dX0_find_18 rfl rfl ?_
    refine J.icmp_neL (tgt := 51) C dX0_find_19 (by decide) H (fun c_19 H => ?_) (fun c_19 H => ?_)
    · refine J.iincL C (l4 + (1 : Int32)) dX0_find_51 rfl rfl (by decide) H (fun z51 H => ?_)
      refine J.goto (tgt := 3) C dX0_find_54 (by decide) ?_
      refine J.widen (k := 0) (n := 0) (Nat.le_of_ble_eq_true rfl) (Nat.le_of_ble_eq_true rfl) ?_
      refine J.lw (lv' := [(0, .ref (ad 1)), (1, .int l1), (2, .int l2), (3, .int l3), (4, .int z51)]) ⟨rfl, rfl, rfl, rfl, rfl, trivial⟩ ?_
      exact hk_3 _ _ _ _ _  H
    · refine J.aload_n (i := 0) C dX0_find_22 rfl rfl ?_
      refine J.get C 1 0 dk_1 rfl (by decide) kFl_X0_14 inB_X0 rfl dX0_find_23 ?_
      refine J.iload C dX0_find_26 rfl ?_
      refine J.callVI C (at_0 hl _) rfl kMl_X0_49 mdX3_at ⟨(Nat.le_of_ble_eq_true rfl), (Nat.le_of_ble_eq_true rfl)⟩ dk_6 rfl rfl (Nat.le_of_ble_eq_true rfl) dX0_find_28 ⟨(Nat.le_of_ble_eq_true rfl), (Nat.le_of_ble_eq_true rfl)⟩ ?_
      refine J.iload_n (i := 2) C dX0_find_31 rfl rfl ?_
      refine J.icmp_neL (tgt := 51) C dX0_find_32 (by decide) H (fun c_32 H => ?_) (fun c_32 H => ?_)
      · refine J.iincL C (l4 + (1 : Int32)) dX0_find_51 rfl rfl (by decide) H (fun z51 H => ?_)
        refine J.goto (tgt := 3) C dX0_find_54 (by decide) ?_
        refine J.widen (k := 0) (n := 0) (Nat.le_of_ble_eq_true rfl) (Nat.le_of_ble_eq_true rfl) ?_
        refine J.lw (lv' := [(0, .ref (ad 1)), (1, .int l1), (2, .int l2), (3, .int l3), (4, .int z51)]) ⟨rfl, rfl, rfl, rfl, rfl, trivial⟩ ?_
        exact hk_3 _ _ _ _ _  H
      · refine J.aload_n (i := 0) C dX0_find_35 rfl rfl ?_
        refine J.get C 1 1 dk_1 rfl (by decide) kFl_X0_20 inB_X0 rfl dX0_find_36 ?_
        refine J.iload C dX0_find_39 rfl ?_
        refine J.callVI C (at_1 hl _) rfl kMl_X0_49 mdX3_at ⟨(Nat.le_of_ble_eq_true rfl), (Nat.le_of_ble_eq_true rfl)⟩ dk_8 rfl rfl (Nat.le_of_ble_eq_true rfl) dX0_find_41 ⟨(Nat.le_of_ble_eq_true rfl), (Nat.le_of_ble_eq_true rfl)⟩ ?_
        refine J.iload_n (i := 3) C dX0_find_44 rfl rfl ?_
        refine J.icmp_neL (tgt := 51) C dX0_find_45 (by decide) H (fun c_45 H => ?_) (fun c_45 H => ?_)
        · refine J.iincL C (l4 + (1 : Int32)) dX0_find_51 rfl rfl (by decide) H (fun z51 H => ?_)
          refine J.goto (tgt := 3) C dX0_find_54 (by decide) ?_
          refine J.widen (k := 0) (n := 0) (Nat.le_of_ble_eq_true rfl) (Nat.le_of_ble_eq_true rfl) ?_
          refine J.lw (lv' := [(0, .ref (ad 1)), (1, .int l1), (2, .int l2), (3, .int l3), (4, .int z51)]) ⟨rfl, rfl, rfl, rfl, rfl, trivial⟩ ?_
          exact hk_3 _ _ _ _ _  H
        · refine J.iload C dX0_find_48 rfl ?_
          exact J.iretL C hr (Nat.le_of_ble_eq_true rfl) (Nat.le_of_ble_eq_true rfl) dX0_find_50 H
def L_X0_find_3 : Nat → DS → Int32 → Int32 → Int32 → Int32 → Res DS Int32
  | 0, _, _, _, _, _ => none
  | n + 1, σ, l1, l2, l3, l4 => B_X0_find_3 (L_X0_find_3 n) σ l1 l2 l3 l4
set_option maxRecDepth 100000 in
theorem lp_X0_find_3 {l : Launch} (hl : l.stackTraces = false) {g : Gy} {ad : Nat → Nat} {rst : va_W} {p : Program} {e : Env} {s : State} {m : MethodId} {args : Array Value} {below : List Frame} {meth : Method} {c : Code} {A : Nat → Prop} (C : Cx p l s m args meth c g A yX0_find.cls cX0_find 5) (hr : meth.sig.returnType = some .int) (hx : ∀ x ∈ c.exceptionTable.toList, False) {rr : (Int32 ⊕ String) × DS} : ∀ (n : Nat) (σ : DS) (l1 : Int32) (l2 : Int32) (l3 : Int32) (l4 : Int32), L_X0_find_3 n σ l1 l2 l3 l4 = some rr → J p l e (rmOf 3 0 0) s m args below meth c g A 5 0 0 (QR mI g A (dkh g ad rst) rr below args s 0 0) 3 [(0, .ref (ad 1)), (1, .int l1), (2, .int l2), (3, .int l3), (4, .int l4)] [] ((dkh g ad rst) σ) := by
  intro n
  induction n with
  | zero => intro σ l1 l2 l3 l4 H; cases H
  | succ n ih => intro σ l1 l2 l3 l4 H; exact bl_X0_find_3 hl C hr hx _ ih _ _ _ _ _ H
abbrev mX0_find : MD := (yX0_find, cX0_find, 5, some .int)
theorem mdX0_find : MDv mX0_find RX0 3 := ⟨kIm_X0_find, kSe_X0_find, kIn_X0, kCo_X0_find, by decide +kernel⟩
def P_X0_find (σ : DS) (a1 : Int32) (a2 : Int32) (a3 : Int32) : Res DS Int32 := (lt (0 : Int32) fun z1 => (L_X0_find_3 FU σ a1 a2 a3 z1))
set_option maxRecDepth 100000 in
theorem sp_X0_find {l : Launch} (hl : l.stackTraces = false) {g : Gy} {ad : Nat → Nat} {rst : va_W} {σ : DS} (a1 : Int32) (a2 : Int32) (a3 : Int32) : SpR l mX0_find 3 0 0 mI g [.ref (ad 1), .int a1, .int a2, .int a3] (dkh g ad rst) σ (P_X0_find σ a1 a2 a3) := by
  refine SpR.of hl (by decide) (Nat.le_of_ble_eq_true rfl) (fun rr H p e s m args below meth c A C hr hx => ?_)
  unfold P_X0_find at H
  refine J.lw (lv' := [(0, .ref (ad 1)), (1, .int a1), (2, .int a2), (3, .int a3)]) ⟨rfl, rfl, rfl, rfl, trivial⟩ ?_
  refine J.iconst C (0) dX0_find_0 (by decide) ?_
  refine J.istoreL C dX0_find_1 (by decide) H (fun z1 H => ?_)
  refine J.widen (k := 0) (n := 0) (Nat.le_of_ble_eq_true rfl) (Nat.le_of_ble_eq_true rfl) ?_
  refine J.lw (lv' := [(0, .ref (ad 1)), (1, .int a1), (2, .int a2), (3, .int a3), (4, .int z1)]) ⟨rfl, rfl, rfl, rfl, rfl, trivial⟩ ?_
  exact lp_X0_find_3 hl C hr hx  FU _ _ _ _ _  H

/-! X0_putSymbols -/
def B_X0_putSymbols_9 (k_9 : DS → Int32 → Int32 → Int32 → Int32 → Res DS Unit) (σ : DS) (l1 : Int32) (l2 : Int32) (l3 : Int32) (l4 : Int32) : Res DS Unit := (if l3 ≤ l4 then (some (.inl (), σ)) else (lt (sR σ 4 (rput 4500 (σ.2 4) (l2 + l4) (rat 4500 (σ.2 4) ((l1 * (30 : Int32)) + l4)))) fun s37 => (lt (l4 + (1 : Int32)) fun z40 => (k_9 s37 l1 l2 l3 z40))))
set_option maxRecDepth 100000 in
theorem bl_X0_putSymbols_9 {l : Launch} (hl : l.stackTraces = false) {g : Gy} {ad : Nat → Nat} {rst : va_W} {p : Program} {e : Env} {s : State} {m : MethodId} {args : Array Value} {below : List Frame} {meth : Method} {c : Code} {A : Nat → Prop} (C : Cx p l s m args meth c g A yX0_putSymbols.cls cX0_putSymbols 5) (hr : meth.sig.returnType = none) (hx : ∀ x ∈ c.exceptionTable.toList, False) {rr : (Unit ⊕ String) × DS} (k_9 : DS → Int32 → Int32 → Int32 → Int32 → Res DS Unit) (hk_9 : ∀ (σ : DS) (l1 : Int32) (l2 : Int32) (l3 : Int32) (l4 : Int32), k_9 σ l1 l2 l3 l4 = some rr → J p l e (rmOf 3 0 0) s m args below meth c g A 5 0 0 (QR mV g A (dkh g ad rst) rr below args s 0 0) 9 [(0, .ref (ad 1)), (1, .int l1), (2, .int l2), (3, .int l3), (4, .int l4)] [] ((dkh g ad rst) σ)) (σ : DS) (l1 : Int32) (l2 : Int32) (l3 : Int32) (l4 : Int32) (H : B_X0_putSymbols_9 k_9 σ l1 l2 l3 l4 = some rr) : J p l e (rmOf 3 0 0) s m args below meth c g A 5 0 0 (QR mV g A (dkh g ad rst) rr below args s 0 0) 9 [(0, .ref (ad 1)), (1, .int l1), (2, .int l2), (3, .int l3), (4, .int l4)] [] ((dkh g ad rst) σ) := by
  unfold B_X0_putSymbols_9 at H
  refine J.iload C dX0_putSymbols_9 rfl ?_
  refine J.iload_n (i := 3) C dX0_putSymbols_11 rfl rfl ?_
  refine J.icmp_geL (tgt := 46) C dX0_putSymbols_12 (by decide) H (fun c_12 H => ?_) (fun c_12 H => ?_)
  · exact J.vretL C hr (Nat.le_of_ble_eq_true rfl) (Nat.le_of_ble_eq_true rfl) dX0_putSymbols_46 H
  · refine J.aload_n (i := 0) C dX0_putSymbols_15 rfl rfl ?_
    refine J.get C 1 4 dk_1 rfl (by decide) kFl_X0_29 inB_X0 rfl dX0_putSymbols_16 ?_
    refine J.iload_n (i := 2) C dX0_putSymbols_19 rfl rfl ?_
    refine J.iload C dX0_putSymbols_20 rfl ?_
    refine J.iadd C dX0_putSymbols_22 ?_
    refine J.aload_n (i := 0) C dX0_putSymbols_23 rfl rfl ?_
    refine J.get C 1 4 dk_1 rfl (by decide) kFl_X0_29 inB_X0 rfl dX0_putSymbols_24 ?_
    refine J.iload_n (i := 1) C dX0_putSymbols_27 rfl rfl ?_
    refine J.bipush C (30) dX0_putSymbols_28 (by decide) ?_
    refine J.imul C dX0_putSymbols_30 ?_
    refine J.iload C dX0_putSymbols_31 rfl ?_
    refine J.iadd C dX0_putSymbols_33 ?_
    refine J.callVI C (at_4 hl _) rfl kMl_X0_49 mdX3_at ⟨(Nat.le_of_ble_eq_true rfl), (Nat.le_of_ble_eq_true rfl)⟩ dk_14 rfl rfl (Nat.le_of_ble_eq_true rfl) dX0_putSymbols_34 ⟨(Nat.le_of_ble_eq_true rfl), (Nat.le_of_ble_eq_true rfl)⟩ ?_
    refine J.callVVL (hp := (dkh g ad rst)) C (put_4 hl _ _) rfl kMl_X0_81 mdX3_put ⟨(Nat.le_of_ble_eq_true rfl), (Nat.le_of_ble_eq_true rfl)⟩ dk_14 rfl rfl (Nat.le_of_ble_eq_true rfl) dX0_putSymbols_37 ⟨(Nat.le_of_ble_eq_true rfl), (Nat.le_of_ble_eq_true rfl)⟩ H (fun s37 H => ?_)
    refine J.iincL C (l4 + (1 : Int32)) dX0_putSymbols_40 rfl rfl (by decide) H (fun z40 H => ?_)
    refine J.goto (tgt := 9) C dX0_putSymbols_43 (by decide) ?_
    refine J.widen (k := 0) (n := 0) (Nat.le_of_ble_eq_true rfl) (Nat.le_of_ble_eq_true rfl) ?_
    refine J.lw (lv' := [(0, .ref (ad 1)), (1, .int l1), (2, .int l2), (3, .int l3), (4, .int z40)]) ⟨rfl, rfl, rfl, rfl, rfl, trivial⟩ ?_
    exact hk_9 _ _ _ _ _  H
def L_X0_putSymbols_9 : Nat → DS → Int32 → Int32 → Int32 → Int32 → Res DS Unit
  | 0, _, _, _, _, _ => none
  | n + 1, σ, l1, l2, l3, l4 => B_X0_putSymbols_9 (L_X0_putSymbols_9 n) σ l1 l2 l3 l4
set_option maxRecDepth 100000 in
theorem lp_X0_putSymbols_9 {l : Launch} (hl : l.stackTraces = false) {g : Gy} {ad : Nat → Nat} {rst : va_W} {p : Program} {e : Env} {s : State} {m : MethodId} {args : Array Value} {below : List Frame} {meth : Method} {c : Code} {A : Nat → Prop} (C : Cx p l s m args meth c g A yX0_putSymbols.cls cX0_putSymbols 5) (hr : meth.sig.returnType = none) (hx : ∀ x ∈ c.exceptionTable.toList, False) {rr : (Unit ⊕ String) × DS} : ∀ (n : Nat) (σ : DS) (l1 : Int32) (l2 : Int32) (l3 : Int32) (l4 : Int32), L_X0_putSymbols_9 n σ l1 l2 l3 l4 = some rr → J p l e (rmOf 3 0 0) s m args below meth c g A 5 0 0 (QR mV g A (dkh g ad rst) rr below args s 0 0) 9 [(0, .ref (ad 1)), (1, .int l1), (2, .int l2), (3, .int l3), (4, .int l4)] [] ((dkh g ad rst) σ) := by
  intro n
  induction n with
  | zero => intro σ l1 l2 l3 l4 H; cases H
  | succ n ih => intro σ l1 l2 l3 l4 H; exact bl_X0_putSymbols_9 hl C hr hx _ ih _ _ _ _ _ H
abbrev mX0_putSymbols : MD := (yX0_putSymbols, cX0_putSymbols, 5, none)
theorem mdX0_putSymbols : MDv mX0_putSymbols RX0 2 := ⟨kIm_X0_putSymbols, kSe_X0_putSymbols, kIn_X0, kCo_X0_putSymbols, by decide +kernel⟩
def P_X0_putSymbols (σ : DS) (a1 : Int32) (a2 : Int32) : Res DS Unit := (lt (F_X0_size σ a1) fun z5 => (lt (0 : Int32) fun z7 => (L_X0_putSymbols_9 FU σ a1 a2 z5 z7)))
set_option maxRecDepth 100000 in
theorem sp_X0_putSymbols {l : Launch} (hl : l.stackTraces = false) {g : Gy} {ad : Nat → Nat} {rst : va_W} {σ : DS} (a1 : Int32) (a2 : Int32) : SpR l mX0_putSymbols 3 0 0 mV g [.ref (ad 1), .int a1, .int a2] (dkh g ad rst) σ (P_X0_putSymbols σ a1 a2) := by
  refine SpR.of hl (by decide) (Nat.le_of_ble_eq_true rfl) (fun rr H p e s m args below meth c A C hr hx => ?_)
  unfold P_X0_putSymbols at H
  refine J.lw (lv' := [(0, .ref (ad 1)), (1, .int a1), (2, .int a2)]) ⟨rfl, rfl, rfl, trivial⟩ ?_
  refine J.aload_n (i := 0) C dX0_putSymbols_0 rfl rfl ?_
  refine J.iload_n (i := 1) C dX0_putSymbols_1 rfl rfl ?_
  refine J.callVI C (sp_X0_size hl _) rfl kMl_X0_53 mdX0_size ⟨(Nat.le_of_ble_eq_true rfl), (Nat.le_of_ble_eq_true rfl)⟩ dk_1 rfl rfl (Nat.le_of_ble_eq_true rfl) dX0_putSymbols_2 ⟨(Nat.le_of_ble_eq_true rfl), (Nat.le_of_ble_eq_true rfl)⟩ ?_
  refine J.istore_nL (i := 3) C dX0_putSymbols_5 rfl (by decide) H (fun z5 H => ?_)
  refine J.iconst C (0) dX0_putSymbols_6 (by decide) ?_
  refine J.istoreL C dX0_putSymbols_7 (by decide) H (fun z7 H => ?_)
  refine J.widen (k := 0) (n := 0) (Nat.le_of_ble_eq_true rfl) (Nat.le_of_ble_eq_true rfl) ?_
  refine J.lw (lv' := [(0, .ref (ad 1)), (1, .int a1), (2, .int a2), (3, .int z5), (4, .int z7)]) ⟨rfl, rfl, rfl, rfl, rfl, trivial⟩ ?_
  exact lp_X0_putSymbols_9 hl C hr hx  FU _ _ _ _ _  H

/-! X0_isLetterTrue -/
abbrev mX0_isLetterTrue : MD := (yX0_isLetterTrue, cX0_isLetterTrue, 2, some .boolean)
theorem mdX0_isLetterTrue : MDs mX0_isLetterTrue 2 := ⟨kSt_X0_isLetterTrue, kIn_X0, kCo_X0_isLetterTrue, by decide +kernel⟩
def F_X0_isLetterTrue (σ : DS) (a0 : Int32) (a1 : Int32) : Int32 := (if ((a1 >>> (a0 &&& 31)) &&& (1 : Int32)) = (1 : Int32) then (1 : Int32) else (0 : Int32))
set_option maxRecDepth 100000 in
theorem sp_X0_isLetterTrue {l : Launch} (hl : l.stackTraces = false) {g : Gy} {ad : Nat → Nat} {rst : va_W} {σ : DS} (a0 : Int32) (a1 : Int32) : SpF l mX0_isLetterTrue 1 0 0 mI g [.int a0, .int a1] ((dkh g ad rst) σ) (F_X0_isLetterTrue σ a0 a1) ((dkh g ad rst) σ) := by
  generalize H : F_X0_isLetterTrue σ a0 a1 = r0
  unfold F_X0_isLetterTrue at H
  refine Sp.of hl (by decide) (Nat.le_of_ble_eq_true rfl) (fun p e s m args below meth c A C hr hx => ?_)
  refine J.lw (lv' := [(0, .int a0), (1, .int a1)]) ⟨rfl, rfl, trivial⟩ ?_
  refine J.iload_n (i := 1) C dX0_isLetterTrue_0 rfl rfl ?_
  refine J.iload_n (i := 0) C dX0_isLetterTrue_1 rfl rfl ?_
  refine J.ishr C dX0_isLetterTrue_2 ?_
  refine J.iconst C (1) dX0_isLetterTrue_3 (by decide) ?_
  refine J.iand C dX0_isLetterTrue_4 ?_
  refine J.iconst C (1) dX0_isLetterTrue_5 (by decide) ?_
  refine J.icmp_neL (tgt := 13) C dX0_isLetterTrue_6 (by decide) H (fun c_6 H => ?_) (fun c_6 H => ?_)
  · refine J.iconst C (0) dX0_isLetterTrue_13 (by decide) ?_
    exact J.zretA C hr rfl (Nat.le_refl _) (Nat.le_refl _) dX0_isLetterTrue_14 H
  · refine J.iconst C (1) dX0_isLetterTrue_9 (by decide) ?_
    refine J.goto (tgt := 14) C dX0_isLetterTrue_10 (by decide) ?_
    exact J.zretA C hr rfl (Nat.le_refl _) (Nat.le_refl _) dX0_isLetterTrue_14 H
theorem nr_X0_isLetterTrue (σ : DS) (a0 : Int32) (a1 : Int32) : narrow .boolean (.int (F_X0_isLetterTrue σ a0 a1)) = .int (F_X0_isLetterTrue σ a0 a1) := by
  unfold F_X0_isLetterTrue
  try simp only [lt]
  repeat' split
  all_goals first | rfl | exact pk_nc _ | (first | rfl)

/-! X0_letterTable -/
def B_X0_letterTable_4 (k_4 : DS → Int32 → Int32 → Int32 → Res DS Int32) (σ : DS) (l0 : Int32) (l1 : Int32) (l2 : Int32) : Res DS Int32 := (if (32 : Int32) ≤ l2 then (some (.inl l1, σ)) else (if (F_X0_isLetterTrue σ l0 l2) = 0 then (lt (l2 + (1 : Int32)) fun z24 => (k_4 σ l0 l1 z24)) else (lt (l1 ||| ((1 : Int32) <<< (l2 &&& 31))) fun z23 => (lt (l2 + (1 : Int32)) fun z24 => (k_4 σ l0 z23 z24)))))
set_option maxRecDepth 100000 in
theorem bl_X0_letterTable_4 {l : Launch} (hl : l.stackTraces = false) {g : Gy} {ad : Nat → Nat} {rst : va_W} {p : Program} {e : Env} {s : State} {m : MethodId} {args : Array Value} {below : List Frame} {meth : Method} {c : Code} {A : Nat → Prop} (C : Cx p l s m args meth c g A yX0_letterTable.cls cX0_letterTable 3) (hr : meth.sig.returnType = some .int) (hx : ∀ x ∈ c.exceptionTable.toList, False) {rr : (Int32 ⊕ String) × DS} (k_4 : DS → Int32 → Int32 → Int32 → Res DS Int32) (hk_4 : ∀ (σ : DS) (l0 : Int32) (l1 : Int32) (l2 : Int32), k_4 σ l0 l1 l2 = some rr → J p l e (rmOf 2 0 0) s m args below meth c g A 3 0 0 (QR mI g A (dkh g ad rst) rr below args s 0 0) 4 [(0, .int l0), (1, .int l1), (2, .int l2)] [] ((dkh g ad rst) σ)) (σ : DS) (l0 : Int32) (l1 : Int32) (l2 : Int32) (H : B_X0_letterTable_4 k_4 σ l0 l1 l2 = some rr) : J p l e (rmOf 2 0 0) s m args below meth c g A 3 0 0 (QR mI g A (dkh g ad rst) rr below args s 0 0) 4 [(0, .int l0), (1, .int l1), (2, .int l2)] [] ((dkh g ad rst) σ) := by
  unfold B_X0_letterTable_4 at H
  refine J.iload_n (i := 2) C dX0_letterTable_4 rfl rfl ?_
  refine J.bipush C (32) dX0_letterTable_5 (by decide) ?_
  refine J.icmp_geL (tgt := 30) C dX0_letterTable_7 (by decide) H (fun c_7 H => ?_) (fun c_7 H => ?_)
  · refine J.iload_n (i := 1) C dX0_letterTable_30 rfl rfl ?_
    exact J.iretL C hr (Nat.le_of_ble_eq_true rfl) (Nat.le_of_ble_eq_true rfl) dX0_letterTable_31 H
  · refine J.iload_n (i := 0) C dX0_letterTable_10 rfl rfl ?_
    refine J.iload_n (i := 2) C dX0_letterTable_11 rfl rfl ?_
    refine J.callSI C (sp_X0_isLetterTrue hl _ _) rfl kMl_X0_103 mdX0_isLetterTrue ⟨(Nat.le_of_ble_eq_true rfl), (Nat.le_of_ble_eq_true rfl)⟩ rfl (Nat.le_of_ble_eq_true rfl) dX0_letterTable_12 ⟨(Nat.le_of_ble_eq_true rfl), (Nat.le_of_ble_eq_true rfl)⟩ ?_
    refine J.if_eqL (tgt := 24) C dX0_letterTable_15 (by decide) H (fun c_15 H => ?_) (fun c_15 H => ?_)
    · refine J.iincL C (l2 + (1 : Int32)) dX0_letterTable_24 rfl rfl (by decide) H (fun z24 H => ?_)
      refine J.goto (tgt := 4) C dX0_letterTable_27 (by decide) ?_
      refine J.widen (k := 0) (n := 0) (Nat.le_of_ble_eq_true rfl) (Nat.le_of_ble_eq_true rfl) ?_
      refine J.lw (lv' := [(0, .int l0), (1, .int l1), (2, .int z24)]) ⟨rfl, rfl, rfl, trivial⟩ ?_
      exact hk_4 _ _ _ _  H
    · refine J.iload_n (i := 1) C dX0_letterTable_18 rfl rfl ?_
      refine J.iconst C (1) dX0_letterTable_19 (by decide) ?_
      refine J.iload_n (i := 2) C dX0_letterTable_20 rfl rfl ?_
      refine J.ishl C dX0_letterTable_21 ?_
      refine J.ior C dX0_letterTable_22 ?_
      refine J.istore_nL (i := 1) C dX0_letterTable_23 rfl (by decide) H (fun z23 H => ?_)
      refine J.iincL C (l2 + (1 : Int32)) dX0_letterTable_24 rfl rfl (by decide) H (fun z24 H => ?_)
      refine J.goto (tgt := 4) C dX0_letterTable_27 (by decide) ?_
      refine J.widen (k := 0) (n := 0) (Nat.le_of_ble_eq_true rfl) (Nat.le_of_ble_eq_true rfl) ?_
      refine J.lw (lv' := [(0, .int l0), (1, .int z23), (2, .int z24)]) ⟨rfl, rfl, rfl, trivial⟩ ?_
      exact hk_4 _ _ _ _  H
def L_X0_letterTable_4 : Nat → DS → Int32 → Int32 → Int32 → Res DS Int32
  | 0, _, _, _, _ => none
  | n + 1, σ, l0, l1, l2 => B_X0_letterTable_4 (L_X0_letterTable_4 n) σ l0 l1 l2
set_option maxRecDepth 100000 in
theorem lp_X0_letterTable_4 {l : Launch} (hl : l.stackTraces = false) {g : Gy} {ad : Nat → Nat} {rst : va_W} {p : Program} {e : Env} {s : State} {m : MethodId} {args : Array Value} {below : List Frame} {meth : Method} {c : Code} {A : Nat → Prop} (C : Cx p l s m args meth c g A yX0_letterTable.cls cX0_letterTable 3) (hr : meth.sig.returnType = some .int) (hx : ∀ x ∈ c.exceptionTable.toList, False) {rr : (Int32 ⊕ String) × DS} : ∀ (n : Nat) (σ : DS) (l0 : Int32) (l1 : Int32) (l2 : Int32), L_X0_letterTable_4 n σ l0 l1 l2 = some rr → J p l e (rmOf 2 0 0) s m args below meth c g A 3 0 0 (QR mI g A (dkh g ad rst) rr below args s 0 0) 4 [(0, .int l0), (1, .int l1), (2, .int l2)] [] ((dkh g ad rst) σ) := by
  intro n
  induction n with
  | zero => intro σ l0 l1 l2 H; cases H
  | succ n ih => intro σ l0 l1 l2 H; exact bl_X0_letterTable_4 hl C hr hx _ ih _ _ _ _ H
abbrev mX0_letterTable : MD := (yX0_letterTable, cX0_letterTable, 3, some .int)
theorem mdX0_letterTable : MDs mX0_letterTable 1 := ⟨kSt_X0_letterTable, kIn_X0, kCo_X0_letterTable, by decide +kernel⟩
def P_X0_letterTable (σ : DS) (a0 : Int32) : Res DS Int32 := (lt (0 : Int32) fun z1 => (lt (0 : Int32) fun z3 => (L_X0_letterTable_4 FU σ a0 z1 z3)))
set_option maxRecDepth 100000 in
theorem sp_X0_letterTable {l : Launch} (hl : l.stackTraces = false) {g : Gy} {ad : Nat → Nat} {rst : va_W} {σ : DS} (a0 : Int32) : SpR l mX0_letterTable 2 0 0 mI g [.int a0] (dkh g ad rst) σ (P_X0_letterTable σ a0) := by
  refine SpR.of hl (by decide) (Nat.le_of_ble_eq_true rfl) (fun rr H p e s m args below meth c A C hr hx => ?_)
  unfold P_X0_letterTable at H
  refine J.lw (lv' := [(0, .int a0)]) ⟨rfl, trivial⟩ ?_
  refine J.iconst C (0) dX0_letterTable_0 (by decide) ?_
  refine J.istore_nL (i := 1) C dX0_letterTable_1 rfl (by decide) H (fun z1 H => ?_)
  refine J.iconst C (0) dX0_letterTable_2 (by decide) ?_
  refine J.istore_nL (i := 2) C dX0_letterTable_3 rfl (by decide) H (fun z3 H => ?_)
  refine J.widen (k := 0) (n := 0) (Nat.le_of_ble_eq_true rfl) (Nat.le_of_ble_eq_true rfl) ?_
  refine J.lw (lv' := [(0, .int a0), (1, .int z1), (2, .int z3)]) ⟨rfl, rfl, rfl, trivial⟩ ?_
  exact lp_X0_letterTable_4 hl C hr hx  FU _ _ _ _  H

/-! X0_tableFrom -/
abbrev mX0_tableFrom : MD := (yX0_tableFrom, cX0_tableFrom, 3, some .int)
theorem mdX0_tableFrom : MDs mX0_tableFrom 3 := ⟨kSt_X0_tableFrom, kIn_X0, kCo_X0_tableFrom, by decide +kernel⟩
def P_X0_tableFrom (σ : DS) (a0 : Int32) (a1 : Int32) (a2 : Int32) : Res DS Int32 := (if a0 = (78 : Int32) then (some (.inl (a1 ^^^ (-1 : Int32)), σ)) else (if a0 = (75 : Int32) then (some (.inl (a1 &&& a2), σ)) else (if a0 = (65 : Int32) then (some (.inl (a1 ||| a2), σ)) else (if a0 = (67 : Int32) then (some (.inl ((a1 ^^^ (-1 : Int32)) ||| a2), σ)) else (if a0 = (70 : Int32) then (some (.inl (0 : Int32), σ)) else (bd (P_X0_letterTable σ (a0 - (97 : Int32))) fun r56 s56 => (some (.inl r56, s56))))))))
set_option maxRecDepth 100000 in
theorem sp_X0_tableFrom {l : Launch} (hl : l.stackTraces = false) {g : Gy} {ad : Nat → Nat} {rst : va_W} {σ : DS} (a0 : Int32) (a1 : Int32) (a2 : Int32) : SpR l mX0_tableFrom 3 0 0 mI g [.int a0, .int a1, .int a2] (dkh g ad rst) σ (P_X0_tableFrom σ a0 a1 a2) := by
  refine SpR.of hl (by decide) (Nat.le_of_ble_eq_true rfl) (fun rr H p e s m args below meth c A C hr hx => ?_)
  unfold P_X0_tableFrom at H
  refine J.lw (lv' := [(0, .int a0), (1, .int a1), (2, .int a2)]) ⟨rfl, rfl, rfl, trivial⟩ ?_
  refine J.iload_n (i := 0) C dX0_tableFrom_0 rfl rfl ?_
  refine J.bipush C (78) dX0_tableFrom_1 (by decide) ?_
  refine J.icmp_neL (tgt := 10) C dX0_tableFrom_3 (by decide) H (fun c_3 H => ?_) (fun c_3 H => ?_)
  · refine J.iload_n (i := 0) C dX0_tableFrom_10 rfl rfl ?_
    refine J.bipush C (75) dX0_tableFrom_11 (by decide) ?_
    refine J.icmp_neL (tgt := 20) C dX0_tableFrom_13 (by decide) H (fun c_13 H => ?_) (fun c_13 H => ?_)
    · refine J.iload_n (i := 0) C dX0_tableFrom_20 rfl rfl ?_
      refine J.bipush C (65) dX0_tableFrom_21 (by decide) ?_
      refine J.icmp_neL (tgt := 30) C dX0_tableFrom_23 (by decide) H (fun c_23 H => ?_) (fun c_23 H => ?_)
      · refine J.iload_n (i := 0) C dX0_tableFrom_30 rfl rfl ?_
        refine J.bipush C (67) dX0_tableFrom_31 (by decide) ?_
        refine J.icmp_neL (tgt := 42) C dX0_tableFrom_33 (by decide) H (fun c_33 H => ?_) (fun c_33 H => ?_)
        · refine J.iload_n (i := 0) C dX0_tableFrom_42 rfl rfl ?_
          refine J.bipush C (70) dX0_tableFrom_43 (by decide) ?_
          refine J.icmp_neL (tgt := 52) C dX0_tableFrom_45 (by decide) H (fun c_45 H => ?_) (fun c_45 H => ?_)
          · refine J.iload_n (i := 0) C dX0_tableFrom_52 rfl rfl ?_
            refine J.bipush C (97) dX0_tableFrom_53 (by decide) ?_
            refine J.isub C dX0_tableFrom_55 ?_
            refine J.callSBI (hp := (dkh g ad rst)) C rfl (sp_X0_letterTable hl _) rfl kMl_X0_100 mdX0_letterTable ⟨(Nat.le_of_ble_eq_true rfl), (Nat.le_of_ble_eq_true rfl)⟩ rfl (Nat.le_of_ble_eq_true rfl) dX0_tableFrom_56 ⟨(Nat.le_of_ble_eq_true rfl), (Nat.le_of_ble_eq_true rfl)⟩ hx (Nat.le_of_ble_eq_true rfl) (Nat.le_of_ble_eq_true rfl) H (fun r56 s56 H => ?_)
            exact J.iretL C hr (Nat.le_of_ble_eq_true rfl) (Nat.le_of_ble_eq_true rfl) dX0_tableFrom_59 H
          · refine J.iconst C (0) dX0_tableFrom_48 (by decide) ?_
            refine J.goto (tgt := 59) C dX0_tableFrom_49 (by decide) ?_
            exact J.iretL C hr (Nat.le_of_ble_eq_true rfl) (Nat.le_of_ble_eq_true rfl) dX0_tableFrom_59 H
        · refine J.iload_n (i := 1) C dX0_tableFrom_36 rfl rfl ?_
          refine J.iconst C (-1) dX0_tableFrom_37 (by decide) ?_
          refine J.ixor C dX0_tableFrom_38 ?_
          refine J.iload_n (i := 2) C dX0_tableFrom_39 rfl rfl ?_
          refine J.ior C dX0_tableFrom_40 ?_
          exact J.iretL C hr (Nat.le_of_ble_eq_true rfl) (Nat.le_of_ble_eq_true rfl) dX0_tableFrom_41 H
      · refine J.iload_n (i := 1) C dX0_tableFrom_26 rfl rfl ?_
        refine J.iload_n (i := 2) C dX0_tableFrom_27 rfl rfl ?_
        refine J.ior C dX0_tableFrom_28 ?_
        exact J.iretL C hr (Nat.le_of_ble_eq_true rfl) (Nat.le_of_ble_eq_true rfl) dX0_tableFrom_29 H
    · refine J.iload_n (i := 1) C dX0_tableFrom_16 rfl rfl ?_
      refine J.iload_n (i := 2) C dX0_tableFrom_17 rfl rfl ?_
      refine J.iand C dX0_tableFrom_18 ?_
      exact J.iretL C hr (Nat.le_of_ble_eq_true rfl) (Nat.le_of_ble_eq_true rfl) dX0_tableFrom_19 H
  · refine J.iload_n (i := 1) C dX0_tableFrom_6 rfl rfl ?_
    refine J.iconst C (-1) dX0_tableFrom_7 (by decide) ?_
    refine J.ixor C dX0_tableFrom_8 ?_
    exact J.iretL C hr (Nat.le_of_ble_eq_true rfl) (Nat.le_of_ble_eq_true rfl) dX0_tableFrom_9 H

/-! X0_add -/
abbrev mX0_add : MD := (yX0_add, cX0_add, 6, some .int)
theorem mdX0_add : MDv mX0_add RX0 3 := ⟨kIm_X0_add, kSe_X0_add, kIn_X0, kCo_X0_add, by decide +kernel⟩
def P_X0_add (σ : DS) (a1 : Int32) (a2 : Int32) (a3 : Int32) : Res DS Int32 := (lt (σ.1 1) fun z4 => (lt (z4 * (30 : Int32)) fun z11 => (lt (sR σ 4 (rput 4500 (σ.2 4) z11 a1)) fun s20 => (bd (P_X0_putSymbols s20 a2 (z11 + (1 : Int32))) fun _ s29 => (bd (P_X0_putSymbols s29 a3 ((z11 + (1 : Int32)) + (F_X0_size s29 a2))) fun _ s44 => (lt (sR s44 2 (rput 150 (s44.2 2) z4 (((1 : Int32) + (F_X0_size s44 a2)) + (F_X0_size s44 a3)))) fun s66 => (lt (sR s66 0 (rput 150 (s66.2 0) z4 a2)) fun s76 => (lt (sR s76 1 (rput 150 (s76.2 1) z4 a3)) fun s86 => (bd (P_X0_tableFrom s86 a1 (F_X0_table s86 a2) (F_X0_table s86 a3)) fun r106 s106 => (lt (sR s106 3 (rput 150 (s106.2 3) z4 r106)) fun s109 => (lt (sI s109 1 ((s109.1 1) + (1 : Int32))) fun s119 => (some (.inl z4, s119)))))))))))))
set_option maxRecDepth 100000 in
theorem sp_X0_add {l : Launch} (hl : l.stackTraces = false) {g : Gy} {ad : Nat → Nat} {rst : va_W} {σ : DS} (a1 : Int32) (a2 : Int32) (a3 : Int32) : SpR l mX0_add 4 0 0 mI g [.ref (ad 1), .int a1, .int a2, .int a3] (dkh g ad rst) σ (P_X0_add σ a1 a2 a3) := by
  refine SpR.of hl (by decide) (Nat.le_of_ble_eq_true rfl) (fun rr H p e s m args below meth c A C hr hx => ?_)
  unfold P_X0_add at H
  refine J.lw (lv' := [(0, .ref (ad 1)), (1, .int a1), (2, .int a2), (3, .int a3)]) ⟨rfl, rfl, rfl, rfl, trivial⟩ ?_
  refine J.aload_n (i := 0) C dX0_add_0 rfl rfl ?_
  refine J.get C 1 9 dk_1 rfl (by decide) kFl_X0_41 inB_X0 rfl dX0_add_1 ?_
  refine J.istoreL C dX0_add_4 (by decide) H (fun z4 H => ?_)
  refine J.iload C dX0_add_6 rfl ?_
  refine J.bipush C (30) dX0_add_8 (by decide) ?_
  refine J.imul C dX0_add_10 ?_
  refine J.istoreL C dX0_add_11 (by decide) H (fun z11 H => ?_)
  refine J.aload_n (i := 0) C dX0_add_13 rfl rfl ?_
  refine J.get C 1 4 dk_1 rfl (by decide) kFl_X0_29 inB_X0 rfl dX0_add_14 ?_
  refine J.iload C dX0_add_17 rfl ?_
  refine J.iload_n (i := 1) C dX0_add_19 rfl rfl ?_
  refine J.callVVL (hp := (dkh g ad rst)) C (put_4 hl _ _) rfl kMl_X0_81 mdX3_put ⟨(Nat.le_of_ble_eq_true rfl), (Nat.le_of_ble_eq_true rfl)⟩ dk_14 rfl rfl (Nat.le_of_ble_eq_true rfl) dX0_add_20 ⟨(Nat.le_of_ble_eq_true rfl), (Nat.le_of_ble_eq_true rfl)⟩ H (fun s20 H => ?_)
  refine J.aload_n (i := 0) C dX0_add_23 rfl rfl ?_
  refine J.iload_n (i := 2) C dX0_add_24 rfl rfl ?_
  refine J.iload C dX0_add_25 rfl ?_
  refine J.iconst C (1) dX0_add_27 (by decide) ?_
  refine J.iadd C dX0_add_28 ?_
  refine J.callVBV (hp := (dkh g ad rst)) C rfl (sp_X0_putSymbols hl _ _) rfl kMl_X0_91 mdX0_putSymbols ⟨(Nat.le_of_ble_eq_true rfl), (Nat.le_of_ble_eq_true rfl)⟩ dk_1 rfl rfl (Nat.le_of_ble_eq_true rfl) dX0_add_29 ⟨(Nat.le_of_ble_eq_true rfl), (Nat.le_of_ble_eq_true rfl)⟩ hx (Nat.le_of_ble_eq_true rfl) (Nat.le_of_ble_eq_true rfl) H (fun _ s29 H => ?_)
  refine J.aload_n (i := 0) C dX0_add_32 rfl rfl ?_
  refine J.iload_n (i := 3) C dX0_add_33 rfl rfl ?_
  refine J.iload C dX0_add_34 rfl ?_
  refine J.iconst C (1) dX0_add_36 (by decide) ?_
  refine J.iadd C dX0_add_37 ?_
  refine J.aload_n (i := 0) C dX0_add_38 rfl rfl ?_
  refine J.iload_n (i := 2) C dX0_add_39 rfl rfl ?_
  refine J.callVI C (sp_X0_size hl _) rfl kMl_X0_53 mdX0_size ⟨(Nat.le_of_ble_eq_true rfl), (Nat.le_of_ble_eq_true rfl)⟩ dk_1 rfl rfl (Nat.le_of_ble_eq_true rfl) dX0_add_40 ⟨(Nat.le_of_ble_eq_true rfl), (Nat.le_of_ble_eq_true rfl)⟩ ?_
  refine J.iadd C dX0_add_43 ?_
  refine J.callVBV (hp := (dkh g ad rst)) C rfl (sp_X0_putSymbols hl _ _) rfl kMl_X0_91 mdX0_putSymbols ⟨(Nat.le_of_ble_eq_true rfl), (Nat.le_of_ble_eq_true rfl)⟩ dk_1 rfl rfl (Nat.le_of_ble_eq_true rfl) dX0_add_44 ⟨(Nat.le_of_ble_eq_true rfl), (Nat.le_of_ble_eq_true rfl)⟩ hx (Nat.le_of_ble_eq_true rfl) (Nat.le_of_ble_eq_true rfl) H (fun _ s44 H => ?_)
  refine J.aload_n (i := 0) C dX0_add_47 rfl rfl ?_
  refine J.get C 1 2 dk_1 rfl (by decide) kFl_X0_23 inB_X0 rfl dX0_add_48 ?_
  refine J.iload C dX0_add_51 rfl ?_
  refine J.iconst C (1) dX0_add_53 (by decide) ?_
  refine J.aload_n (i := 0) C dX0_add_54 rfl rfl ?_
  refine J.iload_n (i := 2) C dX0_add_55 rfl rfl ?_
  refine J.callVI C (sp_X0_size hl _) rfl kMl_X0_53 mdX0_size ⟨(Nat.le_of_ble_eq_true rfl), (Nat.le_of_ble_eq_true rfl)⟩ dk_1 rfl rfl (Nat.le_of_ble_eq_true rfl) dX0_add_56 ⟨(Nat.le_of_ble_eq_true rfl), (Nat.le_of_ble_eq_true rfl)⟩ ?_
  refine J.iadd C dX0_add_59 ?_
  refine J.aload_n (i := 0) C dX0_add_60 rfl rfl ?_
  refine J.iload_n (i := 3) C dX0_add_61 rfl rfl ?_
  refine J.callVI C (sp_X0_size hl _) rfl kMl_X0_53 mdX0_size ⟨(Nat.le_of_ble_eq_true rfl), (Nat.le_of_ble_eq_true rfl)⟩ dk_1 rfl rfl (Nat.le_of_ble_eq_true rfl) dX0_add_62 ⟨(Nat.le_of_ble_eq_true rfl), (Nat.le_of_ble_eq_true rfl)⟩ ?_
  refine J.iadd C dX0_add_65 ?_
  refine J.callVVL (hp := (dkh g ad rst)) C (put_2 hl _ _) rfl kMl_X0_81 mdX3_put ⟨(Nat.le_of_ble_eq_true rfl), (Nat.le_of_ble_eq_true rfl)⟩ dk_10 rfl rfl (Nat.le_of_ble_eq_true rfl) dX0_add_66 ⟨(Nat.le_of_ble_eq_true rfl), (Nat.le_of_ble_eq_true rfl)⟩ H (fun s66 H => ?_)
  refine J.aload_n (i := 0) C dX0_add_69 rfl rfl ?_
  refine J.get C 1 0 dk_1 rfl (by decide) kFl_X0_14 inB_X0 rfl dX0_add_70 ?_
  refine J.iload C dX0_add_73 rfl ?_
  refine J.iload_n (i := 2) C dX0_add_75 rfl rfl ?_
  refine J.callVVL (hp := (dkh g ad rst)) C (put_0 hl _ _) rfl kMl_X0_81 mdX3_put ⟨(Nat.le_of_ble_eq_true rfl), (Nat.le_of_ble_eq_true rfl)⟩ dk_6 rfl rfl (Nat.le_of_ble_eq_true rfl) dX0_add_76 ⟨(Nat.le_of_ble_eq_true rfl), (Nat.le_of_ble_eq_true rfl)⟩ H (fun s76 H => ?_)
  refine J.aload_n (i := 0) C dX0_add_79 rfl rfl ?_
  refine J.get C 1 1 dk_1 rfl (by decide) kFl_X0_20 inB_X0 rfl dX0_add_80 ?_
  refine J.iload C dX0_add_83 rfl ?_
  refine J.iload_n (i := 3) C dX0_add_85 rfl rfl ?_
  refine J.callVVL (hp := (dkh g ad rst)) C (put_1 hl _ _) rfl kMl_X0_81 mdX3_put ⟨(Nat.le_of_ble_eq_true rfl), (Nat.le_of_ble_eq_true rfl)⟩ dk_8 rfl rfl (Nat.le_of_ble_eq_true rfl) dX0_add_86 ⟨(Nat.le_of_ble_eq_true rfl), (Nat.le_of_ble_eq_true rfl)⟩ H (fun s86 H => ?_)
  refine J.aload_n (i := 0) C dX0_add_89 rfl rfl ?_
  refine J.get C 1 3 dk_1 rfl (by decide) kFl_X0_26 inB_X0 rfl dX0_add_90 ?_
  refine J.iload C dX0_add_93 rfl ?_
  refine J.iload_n (i := 1) C dX0_add_95 rfl rfl ?_
  refine J.aload_n (i := 0) C dX0_add_96 rfl rfl ?_
  refine J.iload_n (i := 2) C dX0_add_97 rfl rfl ?_
  refine J.callVI C (sp_X0_table hl _) rfl kMl_X0_94 mdX0_table ⟨(Nat.le_of_ble_eq_true rfl), (Nat.le_of_ble_eq_true rfl)⟩ dk_1 rfl rfl (Nat.le_of_ble_eq_true rfl) dX0_add_98 ⟨(Nat.le_of_ble_eq_true rfl), (Nat.le_of_ble_eq_true rfl)⟩ ?_
  refine J.aload_n (i := 0) C dX0_add_101 rfl rfl ?_
  refine J.iload_n (i := 3) C dX0_add_102 rfl rfl ?_
  refine J.callVI C (sp_X0_table hl _) rfl kMl_X0_94 mdX0_table ⟨(Nat.le_of_ble_eq_true rfl), (Nat.le_of_ble_eq_true rfl)⟩ dk_1 rfl rfl (Nat.le_of_ble_eq_true rfl) dX0_add_103 ⟨(Nat.le_of_ble_eq_true rfl), (Nat.le_of_ble_eq_true rfl)⟩ ?_
  refine J.callSBI (hp := (dkh g ad rst)) C rfl (sp_X0_tableFrom hl _ _ _) rfl kMl_X0_97 mdX0_tableFrom ⟨(Nat.le_of_ble_eq_true rfl), (Nat.le_of_ble_eq_true rfl)⟩ rfl (Nat.le_of_ble_eq_true rfl) dX0_add_106 ⟨(Nat.le_of_ble_eq_true rfl), (Nat.le_of_ble_eq_true rfl)⟩ hx (Nat.le_of_ble_eq_true rfl) (Nat.le_of_ble_eq_true rfl) H (fun r106 s106 H => ?_)
  refine J.callVVL (hp := (dkh g ad rst)) C (put_3 hl _ _) rfl kMl_X0_81 mdX3_put ⟨(Nat.le_of_ble_eq_true rfl), (Nat.le_of_ble_eq_true rfl)⟩ dk_12 rfl rfl (Nat.le_of_ble_eq_true rfl) dX0_add_109 ⟨(Nat.le_of_ble_eq_true rfl), (Nat.le_of_ble_eq_true rfl)⟩ H (fun s109 H => ?_)
  refine J.aload_n (i := 0) C dX0_add_112 rfl rfl ?_
  refine J.dup C dX0_add_113 rfl ?_
  refine J.get C 1 9 dk_1 rfl (by decide) kFl_X0_41 inB_X0 rfl dX0_add_114 ?_
  refine J.iconst C (1) dX0_add_117 (by decide) ?_
  refine J.iadd C dX0_add_118 ?_
  refine J.putL (hp := (dkh g ad rst)) C 1 9 dk_1 rfl (by decide) kFl_X0_41 inB_X0 tyX0 tyX0_ok nmX0 rfl rfl rfl rfl (Nat.le_of_ble_eq_true rfl) dX0_add_119 (dkI_1 _) H (fun s119 H => ?_)
  refine J.iload C dX0_add_122 rfl ?_
  exact J.iretL C hr (Nat.le_of_ble_eq_true rfl) (Nat.le_of_ble_eq_true rfl) dX0_add_124 H

/-! X0_enter -/
def B_X0_enter_41 (σ : DS) (l1 : Int32) (l2 : Int32) (l3 : Int32) (t0 : Int32) : Res DS Int32 := (lt t0 fun z41 => (if z41 = 0 then (if (σ.1 1) < (150 : Int32) then (bd (P_X0_add σ l1 l2 l3) fun r66 s66 => (some (.inl r66, s66))) else (some (.inl (-1 : Int32), σ))) else (some (.inl (-1 : Int32), σ))))
set_option maxRecDepth 100000 in
theorem bl_X0_enter_41 {l : Launch} (hl : l.stackTraces = false) {g : Gy} {ad : Nat → Nat} {rst : va_W} {p : Program} {e : Env} {s : State} {m : MethodId} {args : Array Value} {below : List Frame} {meth : Method} {c : Code} {A : Nat → Prop} (C : Cx p l s m args meth c g A yX0_enter.cls cX0_enter 6) (hr : meth.sig.returnType = some .int) (hx : ∀ x ∈ c.exceptionTable.toList, False) {rr : (Int32 ⊕ String) × DS} (σ : DS) (l1 : Int32) (l2 : Int32) (l3 : Int32) (t0 : Int32) (H : B_X0_enter_41 σ l1 l2 l3 t0 = some rr) : J p l e (rmOf 5 0 0) s m args below meth c g A 6 0 0 (QR mI g A (dkh g ad rst) rr below args s 0 0) 41 [(0, .ref (ad 1)), (1, .int l1), (2, .int l2), (3, .int l3)] [.int t0] ((dkh g ad rst) σ) := by
  unfold B_X0_enter_41 at H
  refine J.istoreL C dX0_enter_41 (by decide) H (fun z41 H => ?_)
  refine J.iload C dX0_enter_43 rfl ?_
  refine J.if_neL (tgt := 58) C dX0_enter_45 (by decide) H (fun c_45 H => ?_) (fun c_45 H => ?_)
  · refine J.iconst C (-1) dX0_enter_58 (by decide) ?_
    refine J.goto (tgt := 69) C dX0_enter_59 (by decide) ?_
    exact J.iretL C hr (Nat.le_of_ble_eq_true rfl) (Nat.le_of_ble_eq_true rfl) dX0_enter_69 H
  · refine J.aload_n (i := 0) C dX0_enter_48 rfl rfl ?_
    refine J.get C 1 9 dk_1 rfl (by decide) kFl_X0_41 inB_X0 rfl dX0_enter_49 ?_
    refine J.sipush C (150) dX0_enter_52 (by decide) ?_
    refine J.icmp_ltL (tgt := 62) C dX0_enter_55 (by decide) H (fun c_55 H => ?_) (fun c_55 H => ?_)
    · refine J.aload_n (i := 0) C dX0_enter_62 rfl rfl ?_
      refine J.iload_n (i := 1) C dX0_enter_63 rfl rfl ?_
      refine J.iload_n (i := 2) C dX0_enter_64 rfl rfl ?_
      refine J.iload_n (i := 3) C dX0_enter_65 rfl rfl ?_
      refine J.callVBI (hp := (dkh g ad rst)) C rfl (sp_X0_add hl _ _ _) rfl kMl_X0_64 mdX0_add ⟨(Nat.le_of_ble_eq_true rfl), (Nat.le_of_ble_eq_true rfl)⟩ dk_1 rfl rfl (Nat.le_of_ble_eq_true rfl) dX0_enter_66 ⟨(Nat.le_of_ble_eq_true rfl), (Nat.le_of_ble_eq_true rfl)⟩ hx (Nat.le_of_ble_eq_true rfl) (Nat.le_of_ble_eq_true rfl) H (fun r66 s66 H => ?_)
      exact J.iretL C hr (Nat.le_of_ble_eq_true rfl) (Nat.le_of_ble_eq_true rfl) dX0_enter_69 H
    · refine J.iconst C (-1) dX0_enter_58 (by decide) ?_
      refine J.goto (tgt := 69) C dX0_enter_59 (by decide) ?_
      exact J.iretL C hr (Nat.le_of_ble_eq_true rfl) (Nat.le_of_ble_eq_true rfl) dX0_enter_69 H
abbrev mX0_enter : MD := (yX0_enter, cX0_enter, 6, some .int)
theorem mdX0_enter : MDv mX0_enter RX0 3 := ⟨kIm_X0_enter, kSe_X0_enter, kIn_X0, kCo_X0_enter, by decide +kernel⟩
def P_X0_enter (σ : DS) (a1 : Int32) (a2 : Int32) (a3 : Int32) : Res DS Int32 := (bd (P_X0_find σ a1 a2 a3) fun r4 s4 => (lt r4 fun z7 => (if z7 = (-1 : Int32) then (if (((1 : Int32) + (F_X0_size s4 a2)) + (F_X0_size s4 a3)) ≤ (30 : Int32) then (B_X0_enter_41 s4 a1 a2 a3 (0 : Int32)) else (B_X0_enter_41 s4 a1 a2 a3 (1 : Int32))) else (some (.inl z7, s4)))))
set_option maxRecDepth 100000 in
theorem sp_X0_enter {l : Launch} (hl : l.stackTraces = false) {g : Gy} {ad : Nat → Nat} {rst : va_W} {σ : DS} (a1 : Int32) (a2 : Int32) (a3 : Int32) : SpR l mX0_enter 5 0 0 mI g [.ref (ad 1), .int a1, .int a2, .int a3] (dkh g ad rst) σ (P_X0_enter σ a1 a2 a3) := by
  refine SpR.of hl (by decide) (Nat.le_of_ble_eq_true rfl) (fun rr H p e s m args below meth c A C hr hx => ?_)
  unfold P_X0_enter at H
  refine J.lw (lv' := [(0, .ref (ad 1)), (1, .int a1), (2, .int a2), (3, .int a3)]) ⟨rfl, rfl, rfl, rfl, trivial⟩ ?_
  refine J.aload_n (i := 0) C dX0_enter_0 rfl rfl ?_
  refine J.iload_n (i := 1) C dX0_enter_1 rfl rfl ?_
  refine J.iload_n (i := 2) C dX0_enter_2 rfl rfl ?_
  refine J.iload_n (i := 3) C dX0_enter_3 rfl rfl ?_
  refine J.callVBI (hp := (dkh g ad rst)) C rfl (sp_X0_find hl _ _ _) rfl kMl_X0_60 mdX0_find ⟨(Nat.le_of_ble_eq_true rfl), (Nat.le_of_ble_eq_true rfl)⟩ dk_1 rfl rfl (Nat.le_of_ble_eq_true rfl) dX0_enter_4 ⟨(Nat.le_of_ble_eq_true rfl), (Nat.le_of_ble_eq_true rfl)⟩ hx (Nat.le_of_ble_eq_true rfl) (Nat.le_of_ble_eq_true rfl) H (fun r4 s4 H => ?_)
  refine J.istoreL C dX0_enter_7 (by decide) H (fun z7 H => ?_)
  refine J.iload C dX0_enter_9 rfl ?_
  refine J.iconst C (-1) dX0_enter_11 (by decide) ?_
  refine J.icmp_eqL (tgt := 18) C dX0_enter_12 (by decide) H (fun c_12 H => ?_) (fun c_12 H => ?_)
  · refine J.iconst C (1) dX0_enter_18 (by decide) ?_
    refine J.aload_n (i := 0) C dX0_enter_19 rfl rfl ?_
    refine J.iload_n (i := 2) C dX0_enter_20 rfl rfl ?_
    refine J.callVI C (sp_X0_size hl _) rfl kMl_X0_53 mdX0_size ⟨(Nat.le_of_ble_eq_true rfl), (Nat.le_of_ble_eq_true rfl)⟩ dk_1 rfl rfl (Nat.le_of_ble_eq_true rfl) dX0_enter_21 ⟨(Nat.le_of_ble_eq_true rfl), (Nat.le_of_ble_eq_true rfl)⟩ ?_
    refine J.iadd C dX0_enter_24 ?_
    refine J.aload_n (i := 0) C dX0_enter_25 rfl rfl ?_
    refine J.iload_n (i := 3) C dX0_enter_26 rfl rfl ?_
    refine J.callVI C (sp_X0_size hl _) rfl kMl_X0_53 mdX0_size ⟨(Nat.le_of_ble_eq_true rfl), (Nat.le_of_ble_eq_true rfl)⟩ dk_1 rfl rfl (Nat.le_of_ble_eq_true rfl) dX0_enter_27 ⟨(Nat.le_of_ble_eq_true rfl), (Nat.le_of_ble_eq_true rfl)⟩ ?_
    refine J.iadd C dX0_enter_30 ?_
    refine J.bipush C (30) dX0_enter_31 (by decide) ?_
    refine J.icmp_leL (tgt := 40) C dX0_enter_33 (by decide) H (fun c_33 H => ?_) (fun c_33 H => ?_)
    · refine J.iconst C (0) dX0_enter_40 (by decide) ?_
      refine J.widen (k := 0) (n := 0) (Nat.le_of_ble_eq_true rfl) (Nat.le_of_ble_eq_true rfl) ?_
      refine J.lw (lv' := [(0, .ref (ad 1)), (1, .int a1), (2, .int a2), (3, .int a3)]) ⟨rfl, rfl, rfl, rfl, trivial⟩ ?_
      exact bl_X0_enter_41 hl C hr hx  _ _ _ _ _  H
    · refine J.iconst C (1) dX0_enter_36 (by decide) ?_
      refine J.goto (tgt := 41) C dX0_enter_37 (by decide) ?_
      refine J.widen (k := 0) (n := 0) (Nat.le_of_ble_eq_true rfl) (Nat.le_of_ble_eq_true rfl) ?_
      refine J.lw (lv' := [(0, .ref (ad 1)), (1, .int a1), (2, .int a2), (3, .int a3)]) ⟨rfl, rfl, rfl, rfl, trivial⟩ ?_
      exact bl_X0_enter_41 hl C hr hx  _ _ _ _ _  H
  · refine J.iload C dX0_enter_15 rfl ?_
    exact J.iretL C hr (Nat.le_of_ble_eq_true rfl) (Nat.le_of_ble_eq_true rfl) dX0_enter_17 H

/-! X5_at -/
abbrev mX5_at : MD := (yX5_at, cX5_at, 2, some .char)
theorem mdX5_at : MDv mX5_at RX5 1 := ⟨kIm_X5_at, kSe_X5_at, kIn_X5, kCo_X5_at, by decide +kernel⟩
def F_X5_at (σ : DS) (a1 : Int32) : Int32 := (if (σ.1 11) ≤ a1 then (0 : Int32) else (((rat 64 (σ.2 29) a1)).toUInt32 % 65536).toInt32)
set_option maxRecDepth 100000 in
theorem sp_X5_at {l : Launch} (hl : l.stackTraces = false) {g : Gy} {ad : Nat → Nat} {rst : va_W} {σ : DS} (a1 : Int32) : SpF l mX5_at 2 0 0 mI g [.ref (ad 5), .int a1] ((dkh g ad rst) σ) (F_X5_at σ a1) ((dkh g ad rst) σ) := by
  generalize H : F_X5_at σ a1 = r0
  unfold F_X5_at at H
  refine Sp.of hl (by decide) (Nat.le_of_ble_eq_true rfl) (fun p e s m args below meth c A C hr hx => ?_)
  refine J.lw (lv' := [(0, .ref (ad 5)), (1, .int a1)]) ⟨rfl, rfl, trivial⟩ ?_
  refine J.iload_n (i := 1) C dX5_at_0 rfl rfl ?_
  refine J.aload_n (i := 0) C dX5_at_1 rfl rfl ?_
  refine J.get C 5 1 dk_5 rfl (by decide) kFl_X5_20 inB_X5 rfl dX5_at_2 ?_
  refine J.icmp_geL (tgt := 20) C dX5_at_5 (by decide) H (fun c_5 H => ?_) (fun c_5 H => ?_)
  · refine J.iconst C (0) dX5_at_20 (by decide) ?_
    exact J.zretA C hr rfl (Nat.le_refl _) (Nat.le_refl _) dX5_at_21 H
  · refine J.aload_n (i := 0) C dX5_at_8 rfl rfl ?_
    refine J.get C 5 0 dk_5 rfl (by decide) kFl_X5_16 inB_X5 rfl dX5_at_9 ?_
    refine J.iload_n (i := 1) C dX5_at_12 rfl rfl ?_
    refine J.callVI C (at_29 hl _) rfl kMl_X5_24 mdX3_at ⟨(Nat.le_of_ble_eq_true rfl), (Nat.le_of_ble_eq_true rfl)⟩ dk_64 rfl rfl (Nat.le_of_ble_eq_true rfl) dX5_at_13 ⟨(Nat.le_of_ble_eq_true rfl), (Nat.le_of_ble_eq_true rfl)⟩ ?_
    refine J.i2c C _ dX5_at_16 rfl ?_
    refine J.goto (tgt := 21) C dX5_at_17 (by decide) ?_
    exact J.zretA C hr (pk_nc _) (Nat.le_refl _) (Nat.le_refl _) dX5_at_21 H
theorem nr_X5_at (σ : DS) (a1 : Int32) : narrow .char (.int (F_X5_at σ a1)) = .int (F_X5_at σ a1) := by
  unfold F_X5_at
  try simp only [lt]
  repeat' split
  all_goals first | rfl | exact pk_nc _ | (first | rfl)

/-! X5_isLetter -/
abbrev mX5_isLetter : MD := (yX5_isLetter, cX5_isLetter, 1, some .boolean)
theorem mdX5_isLetter : MDs mX5_isLetter 1 := ⟨kSt_X5_isLetter, kIn_X5, kCo_X5_isLetter, by decide +kernel⟩
def F_X5_isLetter (σ : DS) (a0 : Int32) : Int32 := (if a0 < (97 : Int32) then (0 : Int32) else (if (102 : Int32) ≤ a0 then (0 : Int32) else (1 : Int32)))
set_option maxRecDepth 100000 in
theorem sp_X5_isLetter {l : Launch} (hl : l.stackTraces = false) {g : Gy} {ad : Nat → Nat} {rst : va_W} {σ : DS} (a0 : Int32) : SpF l mX5_isLetter 1 0 0 mI g [.int a0] ((dkh g ad rst) σ) (F_X5_isLetter σ a0) ((dkh g ad rst) σ) := by
  generalize H : F_X5_isLetter σ a0 = r0
  unfold F_X5_isLetter at H
  refine Sp.of hl (by decide) (Nat.le_of_ble_eq_true rfl) (fun p e s m args below meth c A C hr hx => ?_)
  refine J.lw (lv' := [(0, .int a0)]) ⟨rfl, trivial⟩ ?_
  refine J.iload_n (i := 0) C dX5_isLetter_0 rfl rfl ?_
  refine J.bipush C (97) dX5_isLetter_1 (by decide) ?_
  refine J.icmp_ltL (tgt := 16) C dX5_isLetter_3 (by decide) H (fun c_3 H => ?_) (fun c_3 H => ?_)
  · refine J.iconst C (0) dX5_isLetter_16 (by decide) ?_
    exact J.zretA C hr rfl (Nat.le_refl _) (Nat.le_refl _) dX5_isLetter_17 H
  · refine J.iload_n (i := 0) C dX5_isLetter_6 rfl rfl ?_
    refine J.bipush C (102) dX5_isLetter_7 (by decide) ?_
    refine J.icmp_geL (tgt := 16) C dX5_isLetter_9 (by decide) H (fun c_9 H => ?_) (fun c_9 H => ?_)
    · refine J.iconst C (0) dX5_isLetter_16 (by decide) ?_
      exact J.zretA C hr rfl (Nat.le_refl _) (Nat.le_refl _) dX5_isLetter_17 H
    · refine J.iconst C (1) dX5_isLetter_12 (by decide) ?_
      refine J.goto (tgt := 17) C dX5_isLetter_13 (by decide) ?_
      exact J.zretA C hr rfl (Nat.le_refl _) (Nat.le_refl _) dX5_isLetter_17 H
theorem nr_X5_isLetter (σ : DS) (a0 : Int32) : narrow .boolean (.int (F_X5_isLetter σ a0)) = .int (F_X5_isLetter σ a0) := by
  unfold F_X5_isLetter
  try simp only [lt]
  repeat' split
  all_goals first | rfl | exact pk_nc _ | (first | rfl)

/-! X5_isLeaf -/
abbrev mX5_isLeaf : MD := (yX5_isLeaf, cX5_isLeaf, 1, some .boolean)
theorem mdX5_isLeaf : MDs mX5_isLeaf 1 := ⟨kSt_X5_isLeaf, kIn_X5, kCo_X5_isLeaf, by decide +kernel⟩
def F_X5_isLeaf (σ : DS) (a0 : Int32) : Int32 := (if a0 = (70 : Int32) then (1 : Int32) else (if (F_X5_isLetter σ a0) = 0 then (0 : Int32) else (1 : Int32)))
set_option maxRecDepth 100000 in
theorem sp_X5_isLeaf {l : Launch} (hl : l.stackTraces = false) {g : Gy} {ad : Nat → Nat} {rst : va_W} {σ : DS} (a0 : Int32) : SpF l mX5_isLeaf 2 0 0 mI g [.int a0] ((dkh g ad rst) σ) (F_X5_isLeaf σ a0) ((dkh g ad rst) σ) := by
  generalize H : F_X5_isLeaf σ a0 = r0
  unfold F_X5_isLeaf at H
  refine Sp.of hl (by decide) (Nat.le_of_ble_eq_true rfl) (fun p e s m args below meth c A C hr hx => ?_)
  refine J.lw (lv' := [(0, .int a0)]) ⟨rfl, trivial⟩ ?_
  refine J.iload_n (i := 0) C dX5_isLeaf_0 rfl rfl ?_
  refine J.bipush C (70) dX5_isLeaf_1 (by decide) ?_
  refine J.icmp_eqL (tgt := 13) C dX5_isLeaf_3 (by decide) H (fun c_3 H => ?_) (fun c_3 H => ?_)
  · refine J.iconst C (1) dX5_isLeaf_13 (by decide) ?_
    refine J.goto (tgt := 18) C dX5_isLeaf_14 (by decide) ?_
    exact J.zretA C hr rfl (Nat.le_refl _) (Nat.le_refl _) dX5_isLeaf_18 H
  · refine J.iload_n (i := 0) C dX5_isLeaf_6 rfl rfl ?_
    refine J.callSI C (sp_X5_isLetter hl _) rfl kMl_X5_76 mdX5_isLetter ⟨(Nat.le_of_ble_eq_true rfl), (Nat.le_of_ble_eq_true rfl)⟩ rfl (Nat.le_of_ble_eq_true rfl) dX5_isLeaf_7 ⟨(Nat.le_of_ble_eq_true rfl), (Nat.le_of_ble_eq_true rfl)⟩ ?_
    refine J.if_eqL (tgt := 17) C dX5_isLeaf_10 (by decide) H (fun c_10 H => ?_) (fun c_10 H => ?_)
    · refine J.iconst C (0) dX5_isLeaf_17 (by decide) ?_
      exact J.zretA C hr rfl (Nat.le_refl _) (Nat.le_refl _) dX5_isLeaf_18 H
    · refine J.iconst C (1) dX5_isLeaf_13 (by decide) ?_
      refine J.goto (tgt := 18) C dX5_isLeaf_14 (by decide) ?_
      exact J.zretA C hr rfl (Nat.le_refl _) (Nat.le_refl _) dX5_isLeaf_18 H
theorem nr_X5_isLeaf (σ : DS) (a0 : Int32) : narrow .boolean (.int (F_X5_isLeaf σ a0)) = .int (F_X5_isLeaf σ a0) := by
  unfold F_X5_isLeaf
  try simp only [lt]
  repeat' split
  all_goals first | rfl | exact pk_nc _ | (first | exact nr_X5_isLetter ..)

/-! X0_complete -/
def B_X0_complete_63 (k_9 : DS → Int32 → Int32 → Res DS Int32) (σ : DS) (l2 : Int32) (l3 : Int32) (l4 : Int32) (l5 : Int32) : Res DS Int32 := (lt (sI σ 0 l3) fun s65 => (if l4 = (78 : Int32) then (bd (P_X0_enter s65 (78 : Int32) l2 (-1 : Int32)) fun r80 s80 => (lt r80 fun z95 => (lt (l3 + (-1 : Int32)) fun z96 => (k_9 s80 z95 z96)))) else (bd (P_X0_enter s65 l4 l5 l2) fun r92 s92 => (lt r92 fun z95 => (lt (l3 + (-1 : Int32)) fun z96 => (k_9 s92 z95 z96))))))
set_option maxRecDepth 100000 in
theorem bl_X0_complete_63 {l : Launch} (hl : l.stackTraces = false) {g : Gy} {ad : Nat → Nat} {rst : va_W} {p : Program} {e : Env} {s : State} {m : MethodId} {args : Array Value} {below : List Frame} {meth : Method} {c : Code} {A : Nat → Prop} (C : Cx p l s m args meth c g A yX0_complete.cls cX0_complete 6) (hr : meth.sig.returnType = some .int) (hx : ∀ x ∈ c.exceptionTable.toList, False) {rr : (Int32 ⊕ String) × DS} (k_9 : DS → Int32 → Int32 → Res DS Int32) (hk_9 : ∀ (σ : DS) (l2 : Int32) (l3 : Int32), k_9 σ l2 l3 = some rr → J p l e (rmOf 6 0 0) s m args below meth c g A 6 0 0 (QR mI g A (dkh g ad rst) rr below args s 0 0) 9 [(0, .ref (ad 1)), (2, .int l2), (3, .int l3)] [] ((dkh g ad rst) σ)) (σ : DS) (l2 : Int32) (l3 : Int32) (l4 : Int32) (l5 : Int32) (H : B_X0_complete_63 k_9 σ l2 l3 l4 l5 = some rr) : J p l e (rmOf 6 0 0) s m args below meth c g A 6 0 0 (QR mI g A (dkh g ad rst) rr below args s 0 0) 63 [(0, .ref (ad 1)), (2, .int l2), (3, .int l3), (4, .int l4), (5, .int l5)] [] ((dkh g ad rst) σ) := by
  unfold B_X0_complete_63 at H
  refine J.aload_n (i := 0) C dX0_complete_63 rfl rfl ?_
  refine J.iload_n (i := 3) C dX0_complete_64 rfl rfl ?_
  refine J.putL (hp := (dkh g ad rst)) C 1 8 dk_1 rfl (by decide) kFl_X0_72 inB_X0 tyX0 tyX0_ok nmX0 rfl rfl rfl rfl (Nat.le_of_ble_eq_true rfl) dX0_complete_65 (dkI_0 _) H (fun s65 H => ?_)
  refine J.iload C dX0_complete_68 rfl ?_
  refine J.bipush C (78) dX0_complete_70 (by decide) ?_
  refine J.icmp_neL (tgt := 86) C dX0_complete_72 (by decide) H (fun c_72 H => ?_) (fun c_72 H => ?_)
  · refine J.aload_n (i := 0) C dX0_complete_86 rfl rfl ?_
    refine J.iload C dX0_complete_87 rfl ?_
    refine J.iload C dX0_complete_89 rfl ?_
    refine J.iload_n (i := 2) C dX0_complete_91 rfl rfl ?_
    refine J.callVBI (hp := (dkh g ad rst)) C rfl (sp_X0_enter hl _ _ _) rfl kMl_X0_85 mdX0_enter ⟨(Nat.le_of_ble_eq_true rfl), (Nat.le_of_ble_eq_true rfl)⟩ dk_1 rfl rfl (Nat.le_of_ble_eq_true rfl) dX0_complete_92 ⟨(Nat.le_of_ble_eq_true rfl), (Nat.le_of_ble_eq_true rfl)⟩ hx (Nat.le_of_ble_eq_true rfl) (Nat.le_of_ble_eq_true rfl) H (fun r92 s92 H => ?_)
    refine J.istore_nL (i := 2) C dX0_complete_95 rfl (by decide) H (fun z95 H => ?_)
    refine J.iincL C (l3 + (-1 : Int32)) dX0_complete_96 rfl rfl (by decide) H (fun z96 H => ?_)
    refine J.goto (tgt := 9) C dX0_complete_99 (by decide) ?_
    refine J.widen (k := 0) (n := 0) (Nat.le_of_ble_eq_true rfl) (Nat.le_of_ble_eq_true rfl) ?_
    refine J.lw (lv' := [(0, .ref (ad 1)), (2, .int z95), (3, .int z96)]) ⟨rfl, rfl, rfl, trivial⟩ ?_
    exact hk_9 _ _ _  H
  · refine J.aload_n (i := 0) C dX0_complete_75 rfl rfl ?_
    refine J.bipush C (78) dX0_complete_76 (by decide) ?_
    refine J.iload_n (i := 2) C dX0_complete_78 rfl rfl ?_
    refine J.iconst C (-1) dX0_complete_79 (by decide) ?_
    refine J.callVBI (hp := (dkh g ad rst)) C rfl (sp_X0_enter hl _ _ _) rfl kMl_X0_85 mdX0_enter ⟨(Nat.le_of_ble_eq_true rfl), (Nat.le_of_ble_eq_true rfl)⟩ dk_1 rfl rfl (Nat.le_of_ble_eq_true rfl) dX0_complete_80 ⟨(Nat.le_of_ble_eq_true rfl), (Nat.le_of_ble_eq_true rfl)⟩ hx (Nat.le_of_ble_eq_true rfl) (Nat.le_of_ble_eq_true rfl) H (fun r80 s80 H => ?_)
    refine J.goto (tgt := 95) C dX0_complete_83 (by decide) ?_
    refine J.istore_nL (i := 2) C dX0_complete_95 rfl (by decide) H (fun z95 H => ?_)
    refine J.iincL C (l3 + (-1 : Int32)) dX0_complete_96 rfl rfl (by decide) H (fun z96 H => ?_)
    refine J.goto (tgt := 9) C dX0_complete_99 (by decide) ?_
    refine J.widen (k := 0) (n := 0) (Nat.le_of_ble_eq_true rfl) (Nat.le_of_ble_eq_true rfl) ?_
    refine J.lw (lv' := [(0, .ref (ad 1)), (2, .int z95), (3, .int z96)]) ⟨rfl, rfl, rfl, trivial⟩ ?_
    exact hk_9 _ _ _  H
def B_X0_complete_9 (k_9 : DS → Int32 → Int32 → Res DS Int32) (σ : DS) (l2 : Int32) (l3 : Int32) : Res DS Int32 := (if l3 < 0 then (some (.inl l2, σ)) else (if l2 = (-1 : Int32) then (some (.inl l2, σ)) else (lt (((rat 30 (σ.2 6) l3)).toUInt32 % 65536).toInt32 fun z27 => (lt (rat 30 (σ.2 7) l3) fun z37 => (if z27 = (78 : Int32) then (B_X0_complete_63 k_9 σ l2 l3 z27 z37) else (if z37 = (-1 : Int32) then (lt (sR σ 7 (rput 30 (σ.2 7) l3 l2)) fun s58 => (some (.inl l2, s58))) else (B_X0_complete_63 k_9 σ l2 l3 z27 z37)))))))
set_option maxRecDepth 100000 in
theorem bl_X0_complete_9 {l : Launch} (hl : l.stackTraces = false) {g : Gy} {ad : Nat → Nat} {rst : va_W} {p : Program} {e : Env} {s : State} {m : MethodId} {args : Array Value} {below : List Frame} {meth : Method} {c : Code} {A : Nat → Prop} (C : Cx p l s m args meth c g A yX0_complete.cls cX0_complete 6) (hr : meth.sig.returnType = some .int) (hx : ∀ x ∈ c.exceptionTable.toList, False) {rr : (Int32 ⊕ String) × DS} (k_9 : DS → Int32 → Int32 → Res DS Int32) (hk_9 : ∀ (σ : DS) (l2 : Int32) (l3 : Int32), k_9 σ l2 l3 = some rr → J p l e (rmOf 6 0 0) s m args below meth c g A 6 0 0 (QR mI g A (dkh g ad rst) rr below args s 0 0) 9 [(0, .ref (ad 1)), (2, .int l2), (3, .int l3)] [] ((dkh g ad rst) σ)) (σ : DS) (l2 : Int32) (l3 : Int32) (H : B_X0_complete_9 k_9 σ l2 l3 = some rr) : J p l e (rmOf 6 0 0) s m args below meth c g A 6 0 0 (QR mI g A (dkh g ad rst) rr below args s 0 0) 9 [(0, .ref (ad 1)), (2, .int l2), (3, .int l3)] [] ((dkh g ad rst) σ) := by
  unfold B_X0_complete_9 at H
  refine J.iload_n (i := 3) C dX0_complete_9 rfl rfl ?_
  refine J.if_ltL (tgt := 102) C dX0_complete_10 (by decide) H (fun c_10 H => ?_) (fun c_10 H => ?_)
  · refine J.iload_n (i := 2) C dX0_complete_102 rfl rfl ?_
    exact J.iretL C hr (Nat.le_of_ble_eq_true rfl) (Nat.le_of_ble_eq_true rfl) dX0_complete_103 H
  · refine J.iload_n (i := 2) C dX0_complete_13 rfl rfl ?_
    refine J.iconst C (-1) dX0_complete_14 (by decide) ?_
    refine J.icmp_eqL (tgt := 102) C dX0_complete_15 (by decide) H (fun c_15 H => ?_) (fun c_15 H => ?_)
    · refine J.iload_n (i := 2) C dX0_complete_102 rfl rfl ?_
      exact J.iretL C hr (Nat.le_of_ble_eq_true rfl) (Nat.le_of_ble_eq_true rfl) dX0_complete_103 H
    · refine J.aload_n (i := 0) C dX0_complete_18 rfl rfl ?_
      refine J.get C 1 6 dk_1 rfl (by decide) kFl_X0_35 inB_X0 rfl dX0_complete_19 ?_
      refine J.iload_n (i := 3) C dX0_complete_22 rfl rfl ?_
      refine J.callVI C (at_6 hl _) rfl kMl_X0_49 mdX3_at ⟨(Nat.le_of_ble_eq_true rfl), (Nat.le_of_ble_eq_true rfl)⟩ dk_18 rfl rfl (Nat.le_of_ble_eq_true rfl) dX0_complete_23 ⟨(Nat.le_of_ble_eq_true rfl), (Nat.le_of_ble_eq_true rfl)⟩ ?_
      refine J.i2c C _ dX0_complete_26 rfl ?_
      refine J.istoreL C dX0_complete_27 (by decide) H (fun z27 H => ?_)
      refine J.aload_n (i := 0) C dX0_complete_29 rfl rfl ?_
      refine J.get C 1 7 dk_1 rfl (by decide) kFl_X0_38 inB_X0 rfl dX0_complete_30 ?_
      refine J.iload_n (i := 3) C dX0_complete_33 rfl rfl ?_
      refine J.callVI C (at_7 hl _) rfl kMl_X0_49 mdX3_at ⟨(Nat.le_of_ble_eq_true rfl), (Nat.le_of_ble_eq_true rfl)⟩ dk_20 rfl rfl (Nat.le_of_ble_eq_true rfl) dX0_complete_34 ⟨(Nat.le_of_ble_eq_true rfl), (Nat.le_of_ble_eq_true rfl)⟩ ?_
      refine J.istoreL C dX0_complete_37 (by decide) H (fun z37 H => ?_)
      refine J.iload C dX0_complete_39 rfl ?_
      refine J.bipush C (78) dX0_complete_41 (by decide) ?_
      refine J.icmp_eqL (tgt := 63) C dX0_complete_43 (by decide) H (fun c_43 H => ?_) (fun c_43 H => ?_)
      · refine J.widen (k := 0) (n := 0) (Nat.le_of_ble_eq_true rfl) (Nat.le_of_ble_eq_true rfl) ?_
        refine J.lw (lv' := [(0, .ref (ad 1)), (2, .int l2), (3, .int l3), (4, .int z27), (5, .int z37)]) ⟨rfl, rfl, rfl, rfl, rfl, trivial⟩ ?_
        exact bl_X0_complete_63 hl C hr hx k_9 hk_9 _ _ _ _ _  H
      · refine J.iload C dX0_complete_46 rfl ?_
        refine J.iconst C (-1) dX0_complete_48 (by decide) ?_
        refine J.icmp_neL (tgt := 63) C dX0_complete_49 (by decide) H (fun c_49 H => ?_) (fun c_49 H => ?_)
        · refine J.widen (k := 0) (n := 0) (Nat.le_of_ble_eq_true rfl) (Nat.le_of_ble_eq_true rfl) ?_
          refine J.lw (lv' := [(0, .ref (ad 1)), (2, .int l2), (3, .int l3), (4, .int z27), (5, .int z37)]) ⟨rfl, rfl, rfl, rfl, rfl, trivial⟩ ?_
          exact bl_X0_complete_63 hl C hr hx k_9 hk_9 _ _ _ _ _  H
        · refine J.aload_n (i := 0) C dX0_complete_52 rfl rfl ?_
          refine J.get C 1 7 dk_1 rfl (by decide) kFl_X0_38 inB_X0 rfl dX0_complete_53 ?_
          refine J.iload_n (i := 3) C dX0_complete_56 rfl rfl ?_
          refine J.iload_n (i := 2) C dX0_complete_57 rfl rfl ?_
          refine J.callVVL (hp := (dkh g ad rst)) C (put_7 hl _ _) rfl kMl_X0_81 mdX3_put ⟨(Nat.le_of_ble_eq_true rfl), (Nat.le_of_ble_eq_true rfl)⟩ dk_20 rfl rfl (Nat.le_of_ble_eq_true rfl) dX0_complete_58 ⟨(Nat.le_of_ble_eq_true rfl), (Nat.le_of_ble_eq_true rfl)⟩ H (fun s58 H => ?_)
          refine J.iload_n (i := 2) C dX0_complete_61 rfl rfl ?_
          exact J.iretL C hr (Nat.le_of_ble_eq_true rfl) (Nat.le_of_ble_eq_true rfl) dX0_complete_62 H
def L_X0_complete_9 : Nat → DS → Int32 → Int32 → Res DS Int32
  | 0, _, _, _ => none
  | n + 1, σ, l2, l3 => B_X0_complete_9 (L_X0_complete_9 n) σ l2 l3
set_option maxRecDepth 100000 in
theorem lp_X0_complete_9 {l : Launch} (hl : l.stackTraces = false) {g : Gy} {ad : Nat → Nat} {rst : va_W} {p : Program} {e : Env} {s : State} {m : MethodId} {args : Array Value} {below : List Frame} {meth : Method} {c : Code} {A : Nat → Prop} (C : Cx p l s m args meth c g A yX0_complete.cls cX0_complete 6) (hr : meth.sig.returnType = some .int) (hx : ∀ x ∈ c.exceptionTable.toList, False) {rr : (Int32 ⊕ String) × DS} : ∀ (n : Nat) (σ : DS) (l2 : Int32) (l3 : Int32), L_X0_complete_9 n σ l2 l3 = some rr → J p l e (rmOf 6 0 0) s m args below meth c g A 6 0 0 (QR mI g A (dkh g ad rst) rr below args s 0 0) 9 [(0, .ref (ad 1)), (2, .int l2), (3, .int l3)] [] ((dkh g ad rst) σ) := by
  intro n
  induction n with
  | zero => intro σ l2 l3 H; cases H
  | succ n ih => intro σ l2 l3 H; exact bl_X0_complete_9 hl C hr hx _ ih _ _ _ H
abbrev mX0_complete : MD := (yX0_complete, cX0_complete, 6, some .int)
theorem mdX0_complete : MDv mX0_complete RX0 1 := ⟨kIm_X0_complete, kSe_X0_complete, kIn_X0, kCo_X0_complete, by decide +kernel⟩
def P_X0_complete (σ : DS) (a1 : Int32) : Res DS Int32 := (lt a1 fun z1 => (lt ((σ.1 0) - (1 : Int32)) fun z8 => (L_X0_complete_9 FU σ z1 z8)))
set_option maxRecDepth 100000 in
theorem sp_X0_complete {l : Launch} (hl : l.stackTraces = false) {g : Gy} {ad : Nat → Nat} {rst : va_W} {σ : DS} (a1 : Int32) : SpR l mX0_complete 6 0 0 mI g [.ref (ad 1), .int a1] (dkh g ad rst) σ (P_X0_complete σ a1) := by
  refine SpR.of hl (by decide) (Nat.le_of_ble_eq_true rfl) (fun rr H p e s m args below meth c A C hr hx => ?_)
  unfold P_X0_complete at H
  refine J.lw (lv' := [(0, .ref (ad 1)), (1, .int a1)]) ⟨rfl, rfl, trivial⟩ ?_
  refine J.iload_n (i := 1) C dX0_complete_0 rfl rfl ?_
  refine J.istore_nL (i := 2) C dX0_complete_1 rfl (by decide) H (fun z1 H => ?_)
  refine J.aload_n (i := 0) C dX0_complete_2 rfl rfl ?_
  refine J.get C 1 8 dk_1 rfl (by decide) kFl_X0_72 inB_X0 rfl dX0_complete_3 ?_
  refine J.iconst C (1) dX0_complete_6 (by decide) ?_
  refine J.isub C dX0_complete_7 ?_
  refine J.istore_nL (i := 3) C dX0_complete_8 rfl (by decide) H (fun z8 H => ?_)
  refine J.widen (k := 0) (n := 0) (Nat.le_of_ble_eq_true rfl) (Nat.le_of_ble_eq_true rfl) ?_
  refine J.lw (lv' := [(0, .ref (ad 1)), (2, .int z1), (3, .int z8)]) ⟨rfl, rfl, rfl, trivial⟩ ?_
  exact lp_X0_complete_9 hl C hr hx  FU _ _ _  H

/-! X0_read -/
def B_X0_read_26 (k_26 : DS → Int32 → Int32 → Int32 → Res DS Int32) (σ : DS) (l2 : Int32) (l3 : Int32) (l4 : Int32) : Res DS Int32 := (if (σ.1 11) ≤ l4 then (some (.inl l3, σ)) else (lt (F_X5_at σ l4) fun z41 => (if (F_X5_isLeaf σ z41) = 0 then (lt (sR σ 6 (rput 30 (σ.2 6) (σ.1 0) z41)) fun s61 => (lt (sR s61 7 (rput 30 (s61.2 7) (s61.1 0) (-1 : Int32))) fun s73 => (lt (sI s73 0 ((s73.1 0) + (1 : Int32))) fun s83 => (lt (l4 + (1 : Int32)) fun z114 => (k_26 s83 l2 l3 z114))))) else (bd (P_X0_enter σ z41 (-1 : Int32) (-1 : Int32)) fun r95 s95 => (bd (P_X0_complete s95 r95) fun r98 s98 => (lt r98 fun z101 => (if z101 = (-1 : Int32) then (lt (sI s98 1 l2) fun s109 => (some (.inl (-1 : Int32), s109))) else (lt (l4 + (1 : Int32)) fun z114 => (k_26 s98 l2 z101 z114)))))))))
set_option maxRecDepth 100000 in
theorem bl_X0_read_26 {l : Launch} (hl : l.stackTraces = false) {g : Gy} {ad : Nat → Nat} {rst : va_W} {p : Program} {e : Env} {s : State} {m : MethodId} {args : Array Value} {below : List Frame} {meth : Method} {c : Code} {A : Nat → Prop} (C : Cx p l s m args meth c g A yX0_read.cls cX0_read 6) (hr : meth.sig.returnType = some .int) (hx : ∀ x ∈ c.exceptionTable.toList, False) {rr : (Int32 ⊕ String) × DS} (k_26 : DS → Int32 → Int32 → Int32 → Res DS Int32) (hk_26 : ∀ (σ : DS) (l2 : Int32) (l3 : Int32) (l4 : Int32), k_26 σ l2 l3 l4 = some rr → J p l e (rmOf 7 0 0) s m args below meth c g A 6 0 0 (QR mI g A (dkh g ad rst) rr below args s 0 0) 26 [(0, .ref (ad 1)), (1, .ref (ad 5)), (2, .int l2), (3, .int l3), (4, .int l4)] [] ((dkh g ad rst) σ)) (σ : DS) (l2 : Int32) (l3 : Int32) (l4 : Int32) (H : B_X0_read_26 k_26 σ l2 l3 l4 = some rr) : J p l e (rmOf 7 0 0) s m args below meth c g A 6 0 0 (QR mI g A (dkh g ad rst) rr below args s 0 0) 26 [(0, .ref (ad 1)), (1, .ref (ad 5)), (2, .int l2), (3, .int l3), (4, .int l4)] [] ((dkh g ad rst) σ) := by
  unfold B_X0_read_26 at H
  refine J.iload C dX0_read_26 rfl ?_
  refine J.aload_n (i := 1) C dX0_read_28 rfl rfl ?_
  refine J.getN C 5 1 dk_5 rfl (by decide) nest_X0_67 inB_X5 rfl dX0_read_29 ?_
  refine J.icmp_geL (tgt := 120) C dX0_read_32 (by decide) H (fun c_32 H => ?_) (fun c_32 H => ?_)
  · refine J.iload_n (i := 3) C dX0_read_120 rfl rfl ?_
    exact J.iretL C hr (Nat.le_of_ble_eq_true rfl) (Nat.le_of_ble_eq_true rfl) dX0_read_121 H
  · refine J.aload_n (i := 1) C dX0_read_35 rfl rfl ?_
    refine J.iload C dX0_read_36 rfl ?_
    refine J.callVI C (sp_X5_at hl _) rfl kMl_X0_75 mdX5_at ⟨(Nat.le_of_ble_eq_true rfl), (Nat.le_of_ble_eq_true rfl)⟩ dk_5 rfl rfl (Nat.le_of_ble_eq_true rfl) dX0_read_38 ⟨(Nat.le_of_ble_eq_true rfl), (Nat.le_of_ble_eq_true rfl)⟩ ?_
    refine J.istoreL C dX0_read_41 (by decide) H (fun z41 H => ?_)
    refine J.iload C dX0_read_43 rfl ?_
    refine J.callSI C (sp_X5_isLeaf hl _) rfl kMl_X0_77 mdX5_isLeaf ⟨(Nat.le_of_ble_eq_true rfl), (Nat.le_of_ble_eq_true rfl)⟩ rfl (Nat.le_of_ble_eq_true rfl) dX0_read_45 ⟨(Nat.le_of_ble_eq_true rfl), (Nat.le_of_ble_eq_true rfl)⟩ ?_
    refine J.if_neL (tgt := 89) C dX0_read_48 (by decide) H (fun c_48 H => ?_) (fun c_48 H => ?_)
    · refine J.aload_n (i := 0) C dX0_read_89 rfl rfl ?_
      refine J.aload_n (i := 0) C dX0_read_90 rfl rfl ?_
      refine J.iload C dX0_read_91 rfl ?_
      refine J.iconst C (-1) dX0_read_93 (by decide) ?_
      refine J.iconst C (-1) dX0_read_94 (by decide) ?_
      refine J.callVBI (hp := (dkh g ad rst)) C rfl (sp_X0_enter hl _ _ _) rfl kMl_X0_85 mdX0_enter ⟨(Nat.le_of_ble_eq_true rfl), (Nat.le_of_ble_eq_true rfl)⟩ dk_1 rfl rfl (Nat.le_of_ble_eq_true rfl) dX0_read_95 ⟨(Nat.le_of_ble_eq_true rfl), (Nat.le_of_ble_eq_true rfl)⟩ hx (Nat.le_of_ble_eq_true rfl) (Nat.le_of_ble_eq_true rfl) H (fun r95 s95 H => ?_)
      refine J.callVBI (hp := (dkh g ad rst)) C rfl (sp_X0_complete hl _) rfl kMl_X0_88 mdX0_complete ⟨(Nat.le_of_ble_eq_true rfl), (Nat.le_of_ble_eq_true rfl)⟩ dk_1 rfl rfl (Nat.le_of_ble_eq_true rfl) dX0_read_98 ⟨(Nat.le_of_ble_eq_true rfl), (Nat.le_of_ble_eq_true rfl)⟩ hx (Nat.le_of_ble_eq_true rfl) (Nat.le_of_ble_eq_true rfl) H (fun r98 s98 H => ?_)
      refine J.istore_nL (i := 3) C dX0_read_101 rfl (by decide) H (fun z101 H => ?_)
      refine J.iload_n (i := 3) C dX0_read_102 rfl rfl ?_
      refine J.iconst C (-1) dX0_read_103 (by decide) ?_
      refine J.icmp_neL (tgt := 114) C dX0_read_104 (by decide) H (fun c_104 H => ?_) (fun c_104 H => ?_)
      · refine J.iincL C (l4 + (1 : Int32)) dX0_read_114 rfl rfl (by decide) H (fun z114 H => ?_)
        refine J.goto (tgt := 26) C dX0_read_117 (by decide) ?_
        refine J.widen (k := 0) (n := 0) (Nat.le_of_ble_eq_true rfl) (Nat.le_of_ble_eq_true rfl) ?_
        refine J.lw (lv' := [(0, .ref (ad 1)), (1, .ref (ad 5)), (2, .int l2), (3, .int z101), (4, .int z114)]) ⟨rfl, rfl, rfl, rfl, rfl, trivial⟩ ?_
        exact hk_26 _ _ _ _  H
      · refine J.aload_n (i := 0) C dX0_read_107 rfl rfl ?_
        refine J.iload_n (i := 2) C dX0_read_108 rfl rfl ?_
        refine J.putL (hp := (dkh g ad rst)) C 1 9 dk_1 rfl (by decide) kFl_X0_41 inB_X0 tyX0 tyX0_ok nmX0 rfl rfl rfl rfl (Nat.le_of_ble_eq_true rfl) dX0_read_109 (dkI_1 _) H (fun s109 H => ?_)
        refine J.iconst C (-1) dX0_read_112 (by decide) ?_
        exact J.iretL C hr (Nat.le_of_ble_eq_true rfl) (Nat.le_of_ble_eq_true rfl) dX0_read_113 H
    · refine J.aload_n (i := 0) C dX0_read_51 rfl rfl ?_
      refine J.get C 1 6 dk_1 rfl (by decide) kFl_X0_35 inB_X0 rfl dX0_read_52 ?_
      refine J.aload_n (i := 0) C dX0_read_55 rfl rfl ?_
      refine J.get C 1 8 dk_1 rfl (by decide) kFl_X0_72 inB_X0 rfl dX0_read_56 ?_
      refine J.iload C dX0_read_59 rfl ?_
      refine J.callVVL (hp := (dkh g ad rst)) C (put_6 hl _ _) rfl kMl_X0_81 mdX3_put ⟨(Nat.le_of_ble_eq_true rfl), (Nat.le_of_ble_eq_true rfl)⟩ dk_18 rfl rfl (Nat.le_of_ble_eq_true rfl) dX0_read_61 ⟨(Nat.le_of_ble_eq_true rfl), (Nat.le_of_ble_eq_true rfl)⟩ H (fun s61 H => ?_)
      refine J.aload_n (i := 0) C dX0_read_64 rfl rfl ?_
      refine J.get C 1 7 dk_1 rfl (by decide) kFl_X0_38 inB_X0 rfl dX0_read_65 ?_
      refine J.aload_n (i := 0) C dX0_read_68 rfl rfl ?_
      refine J.get C 1 8 dk_1 rfl (by decide) kFl_X0_72 inB_X0 rfl dX0_read_69 ?_
      refine J.iconst C (-1) dX0_read_72 (by decide) ?_
      refine J.callVVL (hp := (dkh g ad rst)) C (put_7 hl _ _) rfl kMl_X0_81 mdX3_put ⟨(Nat.le_of_ble_eq_true rfl), (Nat.le_of_ble_eq_true rfl)⟩ dk_20 rfl rfl (Nat.le_of_ble_eq_true rfl) dX0_read_73 ⟨(Nat.le_of_ble_eq_true rfl), (Nat.le_of_ble_eq_true rfl)⟩ H (fun s73 H => ?_)
      refine J.aload_n (i := 0) C dX0_read_76 rfl rfl ?_
      refine J.dup C dX0_read_77 rfl ?_
      refine J.get C 1 8 dk_1 rfl (by decide) kFl_X0_72 inB_X0 rfl dX0_read_78 ?_
      refine J.iconst C (1) dX0_read_81 (by decide) ?_
      refine J.iadd C dX0_read_82 ?_
      refine J.putL (hp := (dkh g ad rst)) C 1 8 dk_1 rfl (by decide) kFl_X0_72 inB_X0 tyX0 tyX0_ok nmX0 rfl rfl rfl rfl (Nat.le_of_ble_eq_true rfl) dX0_read_83 (dkI_0 _) H (fun s83 H => ?_)
      refine J.goto (tgt := 114) C dX0_read_86 (by decide) ?_
      refine J.iincL C (l4 + (1 : Int32)) dX0_read_114 rfl rfl (by decide) H (fun z114 H => ?_)
      refine J.goto (tgt := 26) C dX0_read_117 (by decide) ?_
      refine J.widen (k := 0) (n := 0) (Nat.le_of_ble_eq_true rfl) (Nat.le_of_ble_eq_true rfl) ?_
      refine J.lw (lv' := [(0, .ref (ad 1)), (1, .ref (ad 5)), (2, .int l2), (3, .int l3), (4, .int z114)]) ⟨rfl, rfl, rfl, rfl, rfl, trivial⟩ ?_
      exact hk_26 _ _ _ _  H
def L_X0_read_26 : Nat → DS → Int32 → Int32 → Int32 → Res DS Int32
  | 0, _, _, _, _ => none
  | n + 1, σ, l2, l3, l4 => B_X0_read_26 (L_X0_read_26 n) σ l2 l3 l4
set_option maxRecDepth 100000 in
theorem lp_X0_read_26 {l : Launch} (hl : l.stackTraces = false) {g : Gy} {ad : Nat → Nat} {rst : va_W} {p : Program} {e : Env} {s : State} {m : MethodId} {args : Array Value} {below : List Frame} {meth : Method} {c : Code} {A : Nat → Prop} (C : Cx p l s m args meth c g A yX0_read.cls cX0_read 6) (hr : meth.sig.returnType = some .int) (hx : ∀ x ∈ c.exceptionTable.toList, False) {rr : (Int32 ⊕ String) × DS} : ∀ (n : Nat) (σ : DS) (l2 : Int32) (l3 : Int32) (l4 : Int32), L_X0_read_26 n σ l2 l3 l4 = some rr → J p l e (rmOf 7 0 0) s m args below meth c g A 6 0 0 (QR mI g A (dkh g ad rst) rr below args s 0 0) 26 [(0, .ref (ad 1)), (1, .ref (ad 5)), (2, .int l2), (3, .int l3), (4, .int l4)] [] ((dkh g ad rst) σ) := by
  intro n
  induction n with
  | zero => intro σ l2 l3 l4 H; cases H
  | succ n ih => intro σ l2 l3 l4 H; exact bl_X0_read_26 hl C hr hx _ ih _ _ _ _ H
abbrev mX0_read : MD := (yX0_read, cX0_read, 6, some .int)
theorem mdX0_read : MDv mX0_read RX0 1 := ⟨kIm_X0_read, kSe_X0_read, kIn_X0, kCo_X0_read, by decide +kernel⟩
def P_X0_read (σ : DS)  : Res DS Int32 := (if (σ.1 11) ≤ (30 : Int32) then (lt (σ.1 1) fun z15 => (lt (-1 : Int32) fun z17 => (lt (sI σ 0 (0 : Int32)) fun s20 => (lt (0 : Int32) fun z24 => (L_X0_read_26 FU s20 z15 z17 z24))))) else (some (.inl (-1 : Int32), σ)))
set_option maxRecDepth 100000 in
theorem sp_X0_read {l : Launch} (hl : l.stackTraces = false) {g : Gy} {ad : Nat → Nat} {rst : va_W} {σ : DS}  : SpR l mX0_read 7 0 0 mI g [.ref (ad 1), .ref (ad 5)] (dkh g ad rst) σ (P_X0_read σ ) := by
  refine SpR.of hl (by decide) (Nat.le_of_ble_eq_true rfl) (fun rr H p e s m args below meth c A C hr hx => ?_)
  unfold P_X0_read at H
  refine J.lw (lv' := [(0, .ref (ad 1)), (1, .ref (ad 5))]) ⟨rfl, rfl, trivial⟩ ?_
  refine J.aload_n (i := 1) C dX0_read_0 rfl rfl ?_
  refine J.getN C 5 1 dk_5 rfl (by decide) nest_X0_67 inB_X5 rfl dX0_read_1 ?_
  refine J.bipush C (30) dX0_read_4 (by decide) ?_
  refine J.icmp_leL (tgt := 11) C dX0_read_6 (by decide) H (fun c_6 H => ?_) (fun c_6 H => ?_)
  · refine J.aload_n (i := 0) C dX0_read_11 rfl rfl ?_
    refine J.get C 1 9 dk_1 rfl (by decide) kFl_X0_41 inB_X0 rfl dX0_read_12 ?_
    refine J.istore_nL (i := 2) C dX0_read_15 rfl (by decide) H (fun z15 H => ?_)
    refine J.iconst C (-1) dX0_read_16 (by decide) ?_
    refine J.istore_nL (i := 3) C dX0_read_17 rfl (by decide) H (fun z17 H => ?_)
    refine J.aload_n (i := 0) C dX0_read_18 rfl rfl ?_
    refine J.iconst C (0) dX0_read_19 (by decide) ?_
    refine J.putL (hp := (dkh g ad rst)) C 1 8 dk_1 rfl (by decide) kFl_X0_72 inB_X0 tyX0 tyX0_ok nmX0 rfl rfl rfl rfl (Nat.le_of_ble_eq_true rfl) dX0_read_20 (dkI_0 _) H (fun s20 H => ?_)
    refine J.iconst C (0) dX0_read_23 (by decide) ?_
    refine J.istoreL C dX0_read_24 (by decide) H (fun z24 H => ?_)
    refine J.widen (k := 0) (n := 0) (Nat.le_of_ble_eq_true rfl) (Nat.le_of_ble_eq_true rfl) ?_
    refine J.lw (lv' := [(0, .ref (ad 1)), (1, .ref (ad 5)), (2, .int z15), (3, .int z17), (4, .int z24)]) ⟨rfl, rfl, rfl, rfl, rfl, trivial⟩ ?_
    exact lp_X0_read_26 hl C hr hx  FU _ _ _ _  H
  · refine J.iconst C (-1) dX0_read_9 (by decide) ?_
    exact J.iretL C hr (Nat.le_of_ble_eq_true rfl) (Nat.le_of_ble_eq_true rfl) dX0_read_10 H

/-! X0_isTrueFromParts -/
abbrev mX0_isTrueFromParts : MD := (yX0_isTrueFromParts, cX0_isTrueFromParts, 6, some .boolean)
theorem mdX0_isTrueFromParts : MDv mX0_isTrueFromParts RX0 2 := ⟨kIm_X0_isTrueFromParts, kSe_X0_isTrueFromParts, kIn_X0, kCo_X0_isTrueFromParts, by decide +kernel⟩
def F_X0_isTrueFromParts (σ : DS) (a1 : Int32) (a2 : Int32) : Int32 := (if (rat 150 (σ.2 5) (rat 150 (σ.2 0) a1)) = (1 : Int32) then (lt (1 : Int32) fun z24 => (if (rat 150 (σ.2 5) (rat 150 (σ.2 1) a1)) = (1 : Int32) then (lt (1 : Int32) fun z49 => (lt (F_X0_kind σ a1) fun z56 => (if z56 = (78 : Int32) then (if z24 = 0 then (1 : Int32) else (0 : Int32)) else (if z56 = (75 : Int32) then (if z24 = 0 then (0 : Int32) else (if z49 = 0 then (0 : Int32) else (1 : Int32))) else (if z56 = (65 : Int32) then (if z24 = 0 then (if z49 = 0 then (0 : Int32) else (1 : Int32)) else (1 : Int32)) else (if z56 = (67 : Int32) then (if z24 = 0 then (1 : Int32) else (if z49 = 0 then (0 : Int32) else (1 : Int32))) else (if z56 = (70 : Int32) then (0 : Int32) else (if (F_X0_isLetterTrue σ (z56 - (97 : Int32)) a2) = 0 then (0 : Int32) else (1 : Int32))))))))) else (lt (0 : Int32) fun z49 => (lt (F_X0_kind σ a1) fun z56 => (if z56 = (78 : Int32) then (if z24 = 0 then (1 : Int32) else (0 : Int32)) else (if z56 = (75 : Int32) then (if z24 = 0 then (0 : Int32) else (if z49 = 0 then (0 : Int32) else (1 : Int32))) else (if z56 = (65 : Int32) then (if z24 = 0 then (if z49 = 0 then (0 : Int32) else (1 : Int32)) else (1 : Int32)) else (if z56 = (67 : Int32) then (if z24 = 0 then (1 : Int32) else (if z49 = 0 then (0 : Int32) else (1 : Int32))) else (if z56 = (70 : Int32) then (0 : Int32) else (if (F_X0_isLetterTrue σ (z56 - (97 : Int32)) a2) = 0 then (0 : Int32) else (1 : Int32))))))))))) else (lt (0 : Int32) fun z24 => (if (rat 150 (σ.2 5) (rat 150 (σ.2 1) a1)) = (1 : Int32) then (lt (1 : Int32) fun z49 => (lt (F_X0_kind σ a1) fun z56 => (if z56 = (78 : Int32) then (if z24 = 0 then (1 : Int32) else (0 : Int32)) else (if z56 = (75 : Int32) then (if z24 = 0 then (0 : Int32) else (if z49 = 0 then (0 : Int32) else (1 : Int32))) else (if z56 = (65 : Int32) then (if z24 = 0 then (if z49 = 0 then (0 : Int32) else (1 : Int32)) else (1 : Int32)) else (if z56 = (67 : Int32) then (if z24 = 0 then (1 : Int32) else (if z49 = 0 then (0 : Int32) else (1 : Int32))) else (if z56 = (70 : Int32) then (0 : Int32) else (if (F_X0_isLetterTrue σ (z56 - (97 : Int32)) a2) = 0 then (0 : Int32) else (1 : Int32))))))))) else (lt (0 : Int32) fun z49 => (lt (F_X0_kind σ a1) fun z56 => (if z56 = (78 : Int32) then (if z24 = 0 then (1 : Int32) else (0 : Int32)) else (if z56 = (75 : Int32) then (if z24 = 0 then (0 : Int32) else (if z49 = 0 then (0 : Int32) else (1 : Int32))) else (if z56 = (65 : Int32) then (if z24 = 0 then (if z49 = 0 then (0 : Int32) else (1 : Int32)) else (1 : Int32)) else (if z56 = (67 : Int32) then (if z24 = 0 then (1 : Int32) else (if z49 = 0 then (0 : Int32) else (1 : Int32))) else (if z56 = (70 : Int32) then (0 : Int32) else (if (F_X0_isLetterTrue σ (z56 - (97 : Int32)) a2) = 0 then (0 : Int32) else (1 : Int32))))))))))))
set_option maxRecDepth 100000 in
theorem sp_X0_isTrueFromParts {l : Launch} (hl : l.stackTraces = false) {g : Gy} {ad : Nat → Nat} {rst : va_W} {σ : DS} (a1 : Int32) (a2 : Int32) : SpF l mX0_isTrueFromParts 3 0 0 mI g [.ref (ad 1), .int a1, .int a2] ((dkh g ad rst) σ) (F_X0_isTrueFromParts σ a1 a2) ((dkh g ad rst) σ) := by
  generalize H : F_X0_isTrueFromParts σ a1 a2 = r0
  unfold F_X0_isTrueFromParts at H
  refine Sp.of hl (by decide) (Nat.le_of_ble_eq_true rfl) (fun p e s m args below meth c A C hr hx => ?_)
  refine J.lw (lv' := [(0, .ref (ad 1)), (1, .int a1), (2, .int a2)]) ⟨rfl, rfl, rfl, trivial⟩ ?_
  refine J.aload_n (i := 0) C dX0_isTrueFromParts_0 rfl rfl ?_
  refine J.get C 1 5 dk_1 rfl (by decide) kFl_X0_32 inB_X0 rfl dX0_isTrueFromParts_1 ?_
  refine J.aload_n (i := 0) C dX0_isTrueFromParts_4 rfl rfl ?_
  refine J.get C 1 0 dk_1 rfl (by decide) kFl_X0_14 inB_X0 rfl dX0_isTrueFromParts_5 ?_
  refine J.iload_n (i := 1) C dX0_isTrueFromParts_8 rfl rfl ?_
  refine J.callVI C (at_0 hl _) rfl kMl_X0_49 mdX3_at ⟨(Nat.le_of_ble_eq_true rfl), (Nat.le_of_ble_eq_true rfl)⟩ dk_6 rfl rfl (Nat.le_of_ble_eq_true rfl) dX0_isTrueFromParts_9 ⟨(Nat.le_of_ble_eq_true rfl), (Nat.le_of_ble_eq_true rfl)⟩ ?_
  refine J.callVI C (at_5 hl _) rfl kMl_X0_49 mdX3_at ⟨(Nat.le_of_ble_eq_true rfl), (Nat.le_of_ble_eq_true rfl)⟩ dk_16 rfl rfl (Nat.le_of_ble_eq_true rfl) dX0_isTrueFromParts_12 ⟨(Nat.le_of_ble_eq_true rfl), (Nat.le_of_ble_eq_true rfl)⟩ ?_
  refine J.iconst C (1) dX0_isTrueFromParts_15 (by decide) ?_
  refine J.icmp_neL (tgt := 23) C dX0_isTrueFromParts_16 (by decide) H (fun c_16 H => ?_) (fun c_16 H => ?_)
  · refine J.iconst C (0) dX0_isTrueFromParts_23 (by decide) ?_
    refine J.istore_nL (i := 3) C dX0_isTrueFromParts_24 rfl (by decide) H (fun z24 H => ?_)
    refine J.aload_n (i := 0) C dX0_isTrueFromParts_25 rfl rfl ?_
    refine J.get C 1 5 dk_1 rfl (by decide) kFl_X0_32 inB_X0 rfl dX0_isTrueFromParts_26 ?_
    refine J.aload_n (i := 0) C dX0_isTrueFromParts_29 rfl rfl ?_
    refine J.get C 1 1 dk_1 rfl (by decide) kFl_X0_20 inB_X0 rfl dX0_isTrueFromParts_30 ?_
    refine J.iload_n (i := 1) C dX0_isTrueFromParts_33 rfl rfl ?_
    refine J.callVI C (at_1 hl _) rfl kMl_X0_49 mdX3_at ⟨(Nat.le_of_ble_eq_true rfl), (Nat.le_of_ble_eq_true rfl)⟩ dk_8 rfl rfl (Nat.le_of_ble_eq_true rfl) dX0_isTrueFromParts_34 ⟨(Nat.le_of_ble_eq_true rfl), (Nat.le_of_ble_eq_true rfl)⟩ ?_
    refine J.callVI C (at_5 hl _) rfl kMl_X0_49 mdX3_at ⟨(Nat.le_of_ble_eq_true rfl), (Nat.le_of_ble_eq_true rfl)⟩ dk_16 rfl rfl (Nat.le_of_ble_eq_true rfl) dX0_isTrueFromParts_37 ⟨(Nat.le_of_ble_eq_true rfl), (Nat.le_of_ble_eq_true rfl)⟩ ?_
    refine J.iconst C (1) dX0_isTrueFromParts_40 (by decide) ?_
    refine J.icmp_neL (tgt := 48) C dX0_isTrueFromParts_41 (by decide) H (fun c_41 H => ?_) (fun c_41 H => ?_)
    · refine J.iconst C (0) dX0_isTrueFromParts_48 (by decide) ?_
      refine J.istoreL C dX0_isTrueFromParts_49 (by decide) H (fun z49 H => ?_)
      refine J.aload_n (i := 0) C dX0_isTrueFromParts_51 rfl rfl ?_
      refine J.iload_n (i := 1) C dX0_isTrueFromParts_52 rfl rfl ?_
      refine J.callVI C (sp_X0_kind hl _) rfl kMl_X0_56 mdX0_kind ⟨(Nat.le_of_ble_eq_true rfl), (Nat.le_of_ble_eq_true rfl)⟩ dk_1 rfl rfl (Nat.le_of_ble_eq_true rfl) dX0_isTrueFromParts_53 ⟨(Nat.le_of_ble_eq_true rfl), (Nat.le_of_ble_eq_true rfl)⟩ ?_
      refine J.istoreL C dX0_isTrueFromParts_56 (by decide) H (fun z56 H => ?_)
      refine J.iload C dX0_isTrueFromParts_58 rfl ?_
      refine J.bipush C (78) dX0_isTrueFromParts_60 (by decide) ?_
      refine J.icmp_neL (tgt := 75) C dX0_isTrueFromParts_62 (by decide) H (fun c_62 H => ?_) (fun c_62 H => ?_)
      · refine J.iload C dX0_isTrueFromParts_75 rfl ?_
        refine J.bipush C (75) dX0_isTrueFromParts_77 (by decide) ?_
        refine J.icmp_neL (tgt := 97) C dX0_isTrueFromParts_79 (by decide) H (fun c_79 H => ?_) (fun c_79 H => ?_)
        · refine J.iload C dX0_isTrueFromParts_97 rfl ?_
          refine J.bipush C (65) dX0_isTrueFromParts_99 (by decide) ?_
          refine J.icmp_neL (tgt := 119) C dX0_isTrueFromParts_101 (by decide) H (fun c_101 H => ?_) (fun c_101 H => ?_)
          · refine J.iload C dX0_isTrueFromParts_119 rfl ?_
            refine J.bipush C (67) dX0_isTrueFromParts_121 (by decide) ?_
            refine J.icmp_neL (tgt := 141) C dX0_isTrueFromParts_123 (by decide) H (fun c_123 H => ?_) (fun c_123 H => ?_)
            · refine J.iload C dX0_isTrueFromParts_141 rfl ?_
              refine J.bipush C (70) dX0_isTrueFromParts_143 (by decide) ?_
              refine J.icmp_eqL (tgt := 164) C dX0_isTrueFromParts_145 (by decide) H (fun c_145 H => ?_) (fun c_145 H => ?_)
              · refine J.iconst C (0) dX0_isTrueFromParts_164 (by decide) ?_
                exact J.zretA C hr rfl (Nat.le_refl _) (Nat.le_refl _) dX0_isTrueFromParts_165 H
              · refine J.iload C dX0_isTrueFromParts_148 rfl ?_
                refine J.bipush C (97) dX0_isTrueFromParts_150 (by decide) ?_
                refine J.isub C dX0_isTrueFromParts_152 ?_
                refine J.iload_n (i := 2) C dX0_isTrueFromParts_153 rfl rfl ?_
                refine J.callSI C (sp_X0_isLetterTrue hl _ _) rfl kMl_X0_103 mdX0_isLetterTrue ⟨(Nat.le_of_ble_eq_true rfl), (Nat.le_of_ble_eq_true rfl)⟩ rfl (Nat.le_of_ble_eq_true rfl) dX0_isTrueFromParts_154 ⟨(Nat.le_of_ble_eq_true rfl), (Nat.le_of_ble_eq_true rfl)⟩ ?_
                refine J.if_eqL (tgt := 164) C dX0_isTrueFromParts_157 (by decide) H (fun c_157 H => ?_) (fun c_157 H => ?_)
                · refine J.iconst C (0) dX0_isTrueFromParts_164 (by decide) ?_
                  exact J.zretA C hr rfl (Nat.le_refl _) (Nat.le_refl _) dX0_isTrueFromParts_165 H
                · refine J.iconst C (1) dX0_isTrueFromParts_160 (by decide) ?_
                  refine J.goto (tgt := 165) C dX0_isTrueFromParts_161 (by decide) ?_
                  exact J.zretA C hr rfl (Nat.le_refl _) (Nat.le_refl _) dX0_isTrueFromParts_165 H
            · refine J.iload_n (i := 3) C dX0_isTrueFromParts_126 rfl rfl ?_
              refine J.if_eqL (tgt := 135) C dX0_isTrueFromParts_127 (by decide) H (fun c_127 H => ?_) (fun c_127 H => ?_)
              · refine J.iconst C (1) dX0_isTrueFromParts_135 (by decide) ?_
                refine J.goto (tgt := 140) C dX0_isTrueFromParts_136 (by decide) ?_
                exact J.zretA C hr rfl (Nat.le_refl _) (Nat.le_refl _) dX0_isTrueFromParts_140 H
              · refine J.iload C dX0_isTrueFromParts_130 rfl ?_
                refine J.if_eqL (tgt := 139) C dX0_isTrueFromParts_132 (by decide) H (fun c_132 H => ?_) (fun c_132 H => ?_)
                · refine J.iconst C (0) dX0_isTrueFromParts_139 (by decide) ?_
                  exact J.zretA C hr rfl (Nat.le_refl _) (Nat.le_refl _) dX0_isTrueFromParts_140 H
                · refine J.iconst C (1) dX0_isTrueFromParts_135 (by decide) ?_
                  refine J.goto (tgt := 140) C dX0_isTrueFromParts_136 (by decide) ?_
                  exact J.zretA C hr rfl (Nat.le_refl _) (Nat.le_refl _) dX0_isTrueFromParts_140 H
          · refine J.iload_n (i := 3) C dX0_isTrueFromParts_104 rfl rfl ?_
            refine J.if_neL (tgt := 113) C dX0_isTrueFromParts_105 (by decide) H (fun c_105 H => ?_) (fun c_105 H => ?_)
            · refine J.iconst C (1) dX0_isTrueFromParts_113 (by decide) ?_
              refine J.goto (tgt := 118) C dX0_isTrueFromParts_114 (by decide) ?_
              exact J.zretA C hr rfl (Nat.le_refl _) (Nat.le_refl _) dX0_isTrueFromParts_118 H
            · refine J.iload C dX0_isTrueFromParts_108 rfl ?_
              refine J.if_eqL (tgt := 117) C dX0_isTrueFromParts_110 (by decide) H (fun c_110 H => ?_) (fun c_110 H => ?_)
              · refine J.iconst C (0) dX0_isTrueFromParts_117 (by decide) ?_
                exact J.zretA C hr rfl (Nat.le_refl _) (Nat.le_refl _) dX0_isTrueFromParts_118 H
              · refine J.iconst C (1) dX0_isTrueFromParts_113 (by decide) ?_
                refine J.goto (tgt := 118) C dX0_isTrueFromParts_114 (by decide) ?_
                exact J.zretA C hr rfl (Nat.le_refl _) (Nat.le_refl _) dX0_isTrueFromParts_118 H
        · refine J.iload_n (i := 3) C dX0_isTrueFromParts_82 rfl rfl ?_
          refine J.if_eqL (tgt := 95) C dX0_isTrueFromParts_83 (by decide) H (fun c_83 H => ?_) (fun c_83 H => ?_)
          · refine J.iconst C (0) dX0_isTrueFromParts_95 (by decide) ?_
            exact J.zretA C hr rfl (Nat.le_refl _) (Nat.le_refl _) dX0_isTrueFromParts_96 H
          · refine J.iload C dX0_isTrueFromParts_86 rfl ?_
            refine J.if_eqL (tgt := 95) C dX0_isTrueFromParts_88 (by decide) H (fun c_88 H => ?_) (fun c_88 H => ?_)
            · refine J.iconst C (0) dX0_isTrueFromParts_95 (by decide) ?_
              exact J.zretA C hr rfl (Nat.le_refl _) (Nat.le_refl _) dX0_isTrueFromParts_96 H
            · refine J.iconst C (1) dX0_isTrueFromParts_91 (by decide) ?_
              refine J.goto (tgt := 96) C dX0_isTrueFromParts_92 (by decide) ?_
              exact J.zretA C hr rfl (Nat.le_refl _) (Nat.le_refl _) dX0_isTrueFromParts_96 H
      · refine J.iload_n (i := 3) C dX0_isTrueFromParts_65 rfl rfl ?_
        refine J.if_neL (tgt := 73) C dX0_isTrueFromParts_66 (by decide) H (fun c_66 H => ?_) (fun c_66 H => ?_)
        · refine J.iconst C (0) dX0_isTrueFromParts_73 (by decide) ?_
          exact J.zretA C hr rfl (Nat.le_refl _) (Nat.le_refl _) dX0_isTrueFromParts_74 H
        · refine J.iconst C (1) dX0_isTrueFromParts_69 (by decide) ?_
          refine J.goto (tgt := 74) C dX0_isTrueFromParts_70 (by decide) ?_
          exact J.zretA C hr rfl (Nat.le_refl _) (Nat.le_refl _) dX0_isTrueFromParts_74 H
    · refine J.iconst C (1) dX0_isTrueFromParts_44 (by decide) ?_
      refine J.goto (tgt := 49) C dX0_isTrueFromParts_45 (by decide) ?_
      refine J.istoreL C dX0_isTrueFromParts_49 (by decide) H (fun z49 H => ?_)
      refine J.aload_n (i := 0) C dX0_isTrueFromParts_51 rfl rfl ?_
      refine J.iload_n (i := 1) C dX0_isTrueFromParts_52 rfl rfl ?_
      refine J.callVI C (sp_X0_kind hl _) rfl kMl_X0_56 mdX0_kind ⟨(Nat.le_of_ble_eq_true rfl), (Nat.le_of_ble_eq_true rfl)⟩ dk_1 rfl rfl (Nat.le_of_ble_eq_true rfl) dX0_isTrueFromParts_53 ⟨(Nat.le_of_ble_eq_true rfl), (Nat.le_of_ble_eq_true rfl)⟩ ?_
      refine J.istoreL C dX0_isTrueFromParts_56 (by decide) H (fun z56 H => ?_)
      refine J.iload C dX0_isTrueFromParts_58 rfl ?_
      refine J.bipush C (78) dX0_isTrueFromParts_60 (by decide) ?_
      refine J.icmp_neL (tgt := 75) C dX0_isTrueFromParts_62 (by decide) H (fun c_62 H => ?_) (fun c_62 H => ?_)
      · refine J.iload C dX0_isTrueFromParts_75 rfl ?_
        refine J.bipush C (75) dX0_isTrueFromParts_77 (by decide) ?_
        refine J.icmp_neL (tgt := 97) C dX0_isTrueFromParts_79 (by decide) H (fun c_79 H => ?_) (fun c_79 H => ?_)
        · refine J.iload C dX0_isTrueFromParts_97 rfl ?_
          refine J.bipush C (65) dX0_isTrueFromParts_99 (by decide) ?_
          refine J.icmp_neL (tgt := 119) C dX0_isTrueFromParts_101 (by decide) H (fun c_101 H => ?_) (fun c_101 H => ?_)
          · refine J.iload C dX0_isTrueFromParts_119 rfl ?_
            refine J.bipush C (67) dX0_isTrueFromParts_121 (by decide) ?_
            refine J.icmp_neL (tgt := 141) C dX0_isTrueFromParts_123 (by decide) H (fun c_123 H => ?_) (fun c_123 H => ?_)
            · refine J.iload C dX0_isTrueFromParts_141 rfl ?_
              refine J.bipush C (70) dX0_isTrueFromParts_143 (by decide) ?_
              refine J.icmp_eqL (tgt := 164) C dX0_isTrueFromParts_145 (by decide) H (fun c_145 H => ?_) (fun c_145 H => ?_)
              · refine J.iconst C (0) dX0_isTrueFromParts_164 (by decide) ?_
                exact J.zretA C hr rfl (Nat.le_refl _) (Nat.le_refl _) dX0_isTrueFromParts_165 H
              · refine J.iload C dX0_isTrueFromParts_148 rfl ?_
                refine J.bipush C (97) dX0_isTrueFromParts_150 (by decide) ?_
                refine J.isub C dX0_isTrueFromParts_152 ?_
                refine J.iload_n (i := 2) C dX0_isTrueFromParts_153 rfl rfl ?_
                refine J.callSI C (sp_X0_isLetterTrue hl _ _) rfl kMl_X0_103 mdX0_isLetterTrue ⟨(Nat.le_of_ble_eq_true rfl), (Nat.le_of_ble_eq_true rfl)⟩ rfl (Nat.le_of_ble_eq_true rfl) dX0_isTrueFromParts_154 ⟨(Nat.le_of_ble_eq_true rfl), (Nat.le_of_ble_eq_true rfl)⟩ ?_
                refine J.if_eqL (tgt := 164) C dX0_isTrueFromParts_157 (by decide) H (fun c_157 H => ?_) (fun c_157 H => ?_)
                · refine J.iconst C (0) dX0_isTrueFromParts_164 (by decide) ?_
                  exact J.zretA C hr rfl (Nat.le_refl _) (Nat.le_refl _) dX0_isTrueFromParts_165 H
                · refine J.iconst C (1) dX0_isTrueFromParts_160 (by decide) ?_
                  refine J.goto (tgt := 165) C dX0_isTrueFromParts_161 (by decide) ?_
                  exact J.zretA C hr rfl (Nat.le_refl _) (Nat.le_refl _) dX0_isTrueFromParts_165 H
            · refine J.iload_n (i := 3) C dX0_isTrueFromParts_126 rfl rfl ?_
              refine J.if_eqL (tgt := 135) C dX0_isTrueFromParts_127 (by decide) H (fun c_127 H => ?_) (fun c_127 H => ?_)
              · refine J.iconst C (1) dX0_isTrueFromParts_135 (by decide) ?_
                refine J.goto (tgt := 140) C dX0_isTrueFromParts_136 (by decide) ?_
                exact J.zretA C hr rfl (Nat.le_refl _) (Nat.le_refl _) dX0_isTrueFromParts_140 H
              · refine J.iload C dX0_isTrueFromParts_130 rfl ?_
                refine J.if_eqL (tgt := 139) C dX0_isTrueFromParts_132 (by decide) H (fun c_132 H => ?_) (fun c_132 H => ?_)
                · refine J.iconst C (0) dX0_isTrueFromParts_139 (by decide) ?_
                  exact J.zretA C hr rfl (Nat.le_refl _) (Nat.le_refl _) dX0_isTrueFromParts_140 H
                · refine J.iconst C (1) dX0_isTrueFromParts_135 (by decide) ?_
                  refine J.goto (tgt := 140) C dX0_isTrueFromParts_136 (by decide) ?_
                  exact J.zretA C hr rfl (Nat.le_refl _) (Nat.le_refl _) dX0_isTrueFromParts_140 H
          · refine J.iload_n (i := 3) C dX0_isTrueFromParts_104 rfl rfl ?_
            refine J.if_neL (tgt := 113) C dX0_isTrueFromParts_105 (by decide) H (fun c_105 H => ?_) (fun c_105 H => ?_)
            · refine J.iconst C (1) dX0_isTrueFromParts_113 (by decide) ?_
              refine J.goto (tgt := 118) C dX0_isTrueFromParts_114 (by decide) ?_
              exact J.zretA C hr rfl (Nat.le_refl _) (Nat.le_refl _) dX0_isTrueFromParts_118 H
            · refine J.iload C dX0_isTrueFromParts_108 rfl ?_
              refine J.if_eqL (tgt := 117) C dX0_isTrueFromParts_110 (by decide) H (fun c_110 H => ?_) (fun c_110 H => ?_)
              · refine J.iconst C (0) dX0_isTrueFromParts_117 (by decide) ?_
                exact J.zretA C hr rfl (Nat.le_refl _) (Nat.le_refl _) dX0_isTrueFromParts_118 H
              · refine J.iconst C (1) dX0_isTrueFromParts_113 (by decide) ?_
                refine J.goto (tgt := 118) C dX0_isTrueFromParts_114 (by decide) ?_
                exact J.zretA C hr rfl (Nat.le_refl _) (Nat.le_refl _) dX0_isTrueFromParts_118 H
        · refine J.iload_n (i := 3) C dX0_isTrueFromParts_82 rfl rfl ?_
          refine J.if_eqL (tgt := 95) C dX0_isTrueFromParts_83 (by decide) H (fun c_83 H => ?_) (fun c_83 H => ?_)
          · refine J.iconst C (0) dX0_isTrueFromParts_95 (by decide) ?_
            exact J.zretA C hr rfl (Nat.le_refl _) (Nat.le_refl _) dX0_isTrueFromParts_96 H
          · refine J.iload C dX0_isTrueFromParts_86 rfl ?_
            refine J.if_eqL (tgt := 95) C dX0_isTrueFromParts_88 (by decide) H (fun c_88 H => ?_) (fun c_88 H => ?_)
            · refine J.iconst C (0) dX0_isTrueFromParts_95 (by decide) ?_
              exact J.zretA C hr rfl (Nat.le_refl _) (Nat.le_refl _) dX0_isTrueFromParts_96 H
            · refine J.iconst C (1) dX0_isTrueFromParts_91 (by decide) ?_
              refine J.goto (tgt := 96) C dX0_isTrueFromParts_92 (by decide) ?_
              exact J.zretA C hr rfl (Nat.le_refl _) (Nat.le_refl _) dX0_isTrueFromParts_96 H
      · refine J.iload_n (i := 3) C dX0_isTrueFromParts_65 rfl rfl ?_
        refine J.if_neL (tgt := 73) C dX0_isTrueFromParts_66 (by decide) H (fun c_66 H => ?_) (fun c_66 H => ?_)
        · refine J.iconst C (0) dX0_isTrueFromParts_73 (by decide) ?_
          exact J.zretA C hr rfl (Nat.le_refl _) (Nat.le_refl _) dX0_isTrueFromParts_74 H
        · refine J.iconst C (1) dX0_isTrueFromParts_69 (by decide) ?_
          refine J.goto (tgt := 74) C dX0_isTrueFromParts_70 (by decide) ?_
          exact J.zretA C hr rfl (Nat.le_refl _) (Nat.le_refl _) dX0_isTrueFromParts_74 H
  · refine J.iconst C (1) dX0_isTrueFromParts_19 (by decide) ?_
    refine J.goto (tgt := 24) C dX0_isTrueFromParts_20 (by decide) ?_
    refine J.istore_nL (i := 3) C dX0_isTrueFromParts_24 rfl (by decide) H (fun z24 H => ?_)
    refine J.aload_n (i := 0) C dX0_isTrueFromParts_25 rfl rfl ?_
    refine J.get C 1 5 dk_1 rfl (by decide) kFl_X0_32 inB_X0 rfl dX0_isTrueFromParts_26 ?_
    refine J.aload_n (i := 0) C dX0_isTrueFromParts_29 rfl rfl ?_
    refine J.get C 1 1 dk_1 rfl (by decide) kFl_X0_20 inB_X0 rfl dX0_isTrueFromParts_30 ?_
    refine J.iload_n (i := 1) C dX0_isTrueFromParts_33 rfl rfl ?_
    refine J.callVI C (at_1 hl _) rfl kMl_X0_49 mdX3_at ⟨(Nat.le_of_ble_eq_true rfl), (Nat.le_of_ble_eq_true rfl)⟩ dk_8 rfl rfl (Nat.le_of_ble_eq_true rfl) dX0_isTrueFromParts_34 ⟨(Nat.le_of_ble_eq_true rfl), (Nat.le_of_ble_eq_true rfl)⟩ ?_
    refine J.callVI C (at_5 hl _) rfl kMl_X0_49 mdX3_at ⟨(Nat.le_of_ble_eq_true rfl), (Nat.le_of_ble_eq_true rfl)⟩ dk_16 rfl rfl (Nat.le_of_ble_eq_true rfl) dX0_isTrueFromParts_37 ⟨(Nat.le_of_ble_eq_true rfl), (Nat.le_of_ble_eq_true rfl)⟩ ?_
    refine J.iconst C (1) dX0_isTrueFromParts_40 (by decide) ?_
    refine J.icmp_neL (tgt := 48) C dX0_isTrueFromParts_41 (by decide) H (fun c_41 H => ?_) (fun c_41 H => ?_)
    · refine J.iconst C (0) dX0_isTrueFromParts_48 (by decide) ?_
      refine J.istoreL C dX0_isTrueFromParts_49 (by decide) H (fun z49 H => ?_)
      refine J.aload_n (i := 0) C dX0_isTrueFromParts_51 rfl rfl ?_
      refine J.iload_n (i := 1) C dX0_isTrueFromParts_52 rfl rfl ?_
      refine J.callVI C (sp_X0_kind hl _) rfl kMl_X0_56 mdX0_kind ⟨(Nat.le_of_ble_eq_true rfl), (Nat.le_of_ble_eq_true rfl)⟩ dk_1 rfl rfl (Nat.le_of_ble_eq_true rfl) dX0_isTrueFromParts_53 ⟨(Nat.le_of_ble_eq_true rfl), (Nat.le_of_ble_eq_true rfl)⟩ ?_
      refine J.istoreL C dX0_isTrueFromParts_56 (by decide) H (fun z56 H => ?_)
      refine J.iload C dX0_isTrueFromParts_58 rfl ?_
      refine J.bipush C (78) dX0_isTrueFromParts_60 (by decide) ?_
      refine J.icmp_neL (tgt := 75) C dX0_isTrueFromParts_62 (by decide) H (fun c_62 H => ?_) (fun c_62 H => ?_)
      · refine J.iload C dX0_isTrueFromParts_75 rfl ?_
        refine J.bipush C (75) dX0_isTrueFromParts_77 (by decide) ?_
        refine J.icmp_neL (tgt := 97) C dX0_isTrueFromParts_79 (by decide) H (fun c_79 H => ?_) (fun c_79 H => ?_)
        · refine J.iload C dX0_isTrueFromParts_97 rfl ?_
          refine J.bipush C (65) dX0_isTrueFromParts_99 (by decide) ?_
          refine J.icmp_neL (tgt := 119) C dX0_isTrueFromParts_101 (by decide) H (fun c_101 H => ?_) (fun c_101 H => ?_)
          · refine J.iload C dX0_isTrueFromParts_119 rfl ?_
            refine J.bipush C (67) dX0_isTrueFromParts_121 (by decide) ?_
            refine J.icmp_neL (tgt := 141) C dX0_isTrueFromParts_123 (by decide) H (fun c_123 H => ?_) (fun c_123 H => ?_)
            · refine J.iload C dX0_isTrueFromParts_141 rfl ?_
              refine J.bipush C (70) dX0_isTrueFromParts_143 (by decide) ?_
              refine J.icmp_eqL (tgt := 164) C dX0_isTrueFromParts_145 (by decide) H (fun c_145 H => ?_) (fun c_145 H => ?_)
              · refine J.iconst C (0) dX0_isTrueFromParts_164 (by decide) ?_
                exact J.zretA C hr rfl (Nat.le_refl _) (Nat.le_refl _) dX0_isTrueFromParts_165 H
              · refine J.iload C dX0_isTrueFromParts_148 rfl ?_
                refine J.bipush C (97) dX0_isTrueFromParts_150 (by decide) ?_
                refine J.isub C dX0_isTrueFromParts_152 ?_
                refine J.iload_n (i := 2) C dX0_isTrueFromParts_153 rfl rfl ?_
                refine J.callSI C (sp_X0_isLetterTrue hl _ _) rfl kMl_X0_103 mdX0_isLetterTrue ⟨(Nat.le_of_ble_eq_true rfl), (Nat.le_of_ble_eq_true rfl)⟩ rfl (Nat.le_of_ble_eq_true rfl) dX0_isTrueFromParts_154 ⟨(Nat.le_of_ble_eq_true rfl), (Nat.le_of_ble_eq_true rfl)⟩ ?_
                refine J.if_eqL (tgt := 164) C dX0_isTrueFromParts_157 (by decide) H (fun c_157 H => ?_) (fun c_157 H => ?_)
                · refine J.iconst C (0) dX0_isTrueFromParts_164 (by decide) ?_
                  exact J.zretA C hr rfl (Nat.le_refl _) (Nat.le_refl _) dX0_isTrueFromParts_165 H
                · refine J.iconst C (1) dX0_isTrueFromParts_160 (by decide) ?_
                  refine J.goto (tgt := 165) C dX0_isTrueFromParts_161 (by decide) ?_
                  exact J.zretA C hr rfl (Nat.le_refl _) (Nat.le_refl _) dX0_isTrueFromParts_165 H
            · refine J.iload_n (i := 3) C dX0_isTrueFromParts_126 rfl rfl ?_
              refine J.if_eqL (tgt := 135) C dX0_isTrueFromParts_127 (by decide) H (fun c_127 H => ?_) (fun c_127 H => ?_)
              · refine J.iconst C (1) dX0_isTrueFromParts_135 (by decide) ?_
                refine J.goto (tgt := 140) C dX0_isTrueFromParts_136 (by decide) ?_
                exact J.zretA C hr rfl (Nat.le_refl _) (Nat.le_refl _) dX0_isTrueFromParts_140 H
              · refine J.iload C dX0_isTrueFromParts_130 rfl ?_
                refine J.if_eqL (tgt := 139) C dX0_isTrueFromParts_132 (by decide) H (fun c_132 H => ?_) (fun c_132 H => ?_)
                · refine J.iconst C (0) dX0_isTrueFromParts_139 (by decide) ?_
                  exact J.zretA C hr rfl (Nat.le_refl _) (Nat.le_refl _) dX0_isTrueFromParts_140 H
                · refine J.iconst C (1) dX0_isTrueFromParts_135 (by decide) ?_
                  refine J.goto (tgt := 140) C dX0_isTrueFromParts_136 (by decide) ?_
                  exact J.zretA C hr rfl (Nat.le_refl _) (Nat.le_refl _) dX0_isTrueFromParts_140 H
          · refine J.iload_n (i := 3) C dX0_isTrueFromParts_104 rfl rfl ?_
            refine J.if_neL (tgt := 113) C dX0_isTrueFromParts_105 (by decide) H (fun c_105 H => ?_) (fun c_105 H => ?_)
            · refine J.iconst C (1) dX0_isTrueFromParts_113 (by decide) ?_
              refine J.goto (tgt := 118) C dX0_isTrueFromParts_114 (by decide) ?_
              exact J.zretA C hr rfl (Nat.le_refl _) (Nat.le_refl _) dX0_isTrueFromParts_118 H
            · refine J.iload C dX0_isTrueFromParts_108 rfl ?_
              refine J.if_eqL (tgt := 117) C dX0_isTrueFromParts_110 (by decide) H (fun c_110 H => ?_) (fun c_110 H => ?_)
              · refine J.iconst C (0) dX0_isTrueFromParts_117 (by decide) ?_
                exact J.zretA C hr rfl (Nat.le_refl _) (Nat.le_refl _) dX0_isTrueFromParts_118 H
              · refine J.iconst C (1) dX0_isTrueFromParts_113 (by decide) ?_
                refine J.goto (tgt := 118) C dX0_isTrueFromParts_114 (by decide) ?_
                exact J.zretA C hr rfl (Nat.le_refl _) (Nat.le_refl _) dX0_isTrueFromParts_118 H
        · refine J.iload_n (i := 3) C dX0_isTrueFromParts_82 rfl rfl ?_
          refine J.if_eqL (tgt := 95) C dX0_isTrueFromParts_83 (by decide) H (fun c_83 H => ?_) (fun c_83 H => ?_)
          · refine J.iconst C (0) dX0_isTrueFromParts_95 (by decide) ?_
            exact J.zretA C hr rfl (Nat.le_refl _) (Nat.le_refl _) dX0_isTrueFromParts_96 H
          · refine J.iload C dX0_isTrueFromParts_86 rfl ?_
            refine J.if_eqL (tgt := 95) C dX0_isTrueFromParts_88 (by decide) H (fun c_88 H => ?_) (fun c_88 H => ?_)
            · refine J.iconst C (0) dX0_isTrueFromParts_95 (by decide) ?_
              exact J.zretA C hr rfl (Nat.le_refl _) (Nat.le_refl _) dX0_isTrueFromParts_96 H
            · refine J.iconst C (1) dX0_isTrueFromParts_91 (by decide) ?_
              refine J.goto (tgt := 96) C dX0_isTrueFromParts_92 (by decide) ?_
              exact J.zretA C hr rfl (Nat.le_refl _) (Nat.le_refl _) dX0_isTrueFromParts_96 H
      · refine J.iload_n (i := 3) C dX0_isTrueFromParts_65 rfl rfl ?_
        refine J.if_neL (tgt := 73) C dX0_isTrueFromParts_66 (by decide) H (fun c_66 H => ?_) (fun c_66 H => ?_)
        · refine J.iconst C (0) dX0_isTrueFromParts_73 (by decide) ?_
          exact J.zretA C hr rfl (Nat.le_refl _) (Nat.le_refl _) dX0_isTrueFromParts_74 H
        · refine J.iconst C (1) dX0_isTrueFromParts_69 (by decide) ?_
          refine J.goto (tgt := 74) C dX0_isTrueFromParts_70 (by decide) ?_
          exact J.zretA C hr rfl (Nat.le_refl _) (Nat.le_refl _) dX0_isTrueFromParts_74 H
    · refine J.iconst C (1) dX0_isTrueFromParts_44 (by decide) ?_
      refine J.goto (tgt := 49) C dX0_isTrueFromParts_45 (by decide) ?_
      refine J.istoreL C dX0_isTrueFromParts_49 (by decide) H (fun z49 H => ?_)
      refine J.aload_n (i := 0) C dX0_isTrueFromParts_51 rfl rfl ?_
      refine J.iload_n (i := 1) C dX0_isTrueFromParts_52 rfl rfl ?_
      refine J.callVI C (sp_X0_kind hl _) rfl kMl_X0_56 mdX0_kind ⟨(Nat.le_of_ble_eq_true rfl), (Nat.le_of_ble_eq_true rfl)⟩ dk_1 rfl rfl (Nat.le_of_ble_eq_true rfl) dX0_isTrueFromParts_53 ⟨(Nat.le_of_ble_eq_true rfl), (Nat.le_of_ble_eq_true rfl)⟩ ?_
      refine J.istoreL C dX0_isTrueFromParts_56 (by decide) H (fun z56 H => ?_)
      refine J.iload C dX0_isTrueFromParts_58 rfl ?_
      refine J.bipush C (78) dX0_isTrueFromParts_60 (by decide) ?_
      refine J.icmp_neL (tgt := 75) C dX0_isTrueFromParts_62 (by decide) H (fun c_62 H => ?_) (fun c_62 H => ?_)
      · refine J.iload C dX0_isTrueFromParts_75 rfl ?_
        refine J.bipush C (75) dX0_isTrueFromParts_77 (by decide) ?_
        refine J.icmp_neL (tgt := 97) C dX0_isTrueFromParts_79 (by decide) H (fun c_79 H => ?_) (fun c_79 H => ?_)
        · refine J.iload C dX0_isTrueFromParts_97 rfl ?_
          refine J.bipush C (65) dX0_isTrueFromParts_99 (by decide) ?_
          refine J.icmp_neL (tgt := 119) C dX0_isTrueFromParts_101 (by decide) H (fun c_101 H => ?_) (fun c_101 H => ?_)
          · refine J.iload C dX0_isTrueFromParts_119 rfl ?_
            refine J.bipush C (67) dX0_isTrueFromParts_121 (by decide) ?_
            refine J.icmp_neL (tgt := 141) C dX0_isTrueFromParts_123 (by decide) H (fun c_123 H => ?_) (fun c_123 H => ?_)
            · refine J.iload C dX0_isTrueFromParts_141 rfl ?_
              refine J.bipush C (70) dX0_isTrueFromParts_143 (by decide) ?_
              refine J.icmp_eqL (tgt := 164) C dX0_isTrueFromParts_145 (by decide) H (fun c_145 H => ?_) (fun c_145 H => ?_)
              · refine J.iconst C (0) dX0_isTrueFromParts_164 (by decide) ?_
                exact J.zretA C hr rfl (Nat.le_refl _) (Nat.le_refl _) dX0_isTrueFromParts_165 H
              · refine J.iload C dX0_isTrueFromParts_148 rfl ?_
                refine J.bipush C (97) dX0_isTrueFromParts_150 (by decide) ?_
                refine J.isub C dX0_isTrueFromParts_152 ?_
                refine J.iload_n (i := 2) C dX0_isTrueFromParts_153 rfl rfl ?_
                refine J.callSI C (sp_X0_isLetterTrue hl _ _) rfl kMl_X0_103 mdX0_isLetterTrue ⟨(Nat.le_of_ble_eq_true rfl), (Nat.le_of_ble_eq_true rfl)⟩ rfl (Nat.le_of_ble_eq_true rfl) dX0_isTrueFromParts_154 ⟨(Nat.le_of_ble_eq_true rfl), (Nat.le_of_ble_eq_true rfl)⟩ ?_
                refine J.if_eqL (tgt := 164) C dX0_isTrueFromParts_157 (by decide) H (fun c_157 H => ?_) (fun c_157 H => ?_)
                · refine J.iconst C (0) dX0_isTrueFromParts_164 (by decide) ?_
                  exact J.zretA C hr rfl (Nat.le_refl _) (Nat.le_refl _) dX0_isTrueFromParts_165 H
                · refine J.iconst C (1) dX0_isTrueFromParts_160 (by decide) ?_
                  refine J.goto (tgt := 165) C dX0_isTrueFromParts_161 (by decide) ?_
                  exact J.zretA C hr rfl (Nat.le_refl _) (Nat.le_refl _) dX0_isTrueFromParts_165 H
            · refine J.iload_n (i := 3) C dX0_isTrueFromParts_126 rfl rfl ?_
              refine J.if_eqL (tgt := 135) C dX0_isTrueFromParts_127 (by decide) H (fun c_127 H => ?_) (fun c_127 H => ?_)
              · refine J.iconst C (1) dX0_isTrueFromParts_135 (by decide) ?_
                refine J.goto (tgt := 140) C dX0_isTrueFromParts_136 (by decide) ?_
                exact J.zretA C hr rfl (Nat.le_refl _) (Nat.le_refl _) dX0_isTrueFromParts_140 H
              · refine J.iload C dX0_isTrueFromParts_130 rfl ?_
                refine J.if_eqL (tgt := 139) C dX0_isTrueFromParts_132 (by decide) H (fun c_132 H => ?_) (fun c_132 H => ?_)
                · refine J.iconst C (0) dX0_isTrueFromParts_139 (by decide) ?_
                  exact J.zretA C hr rfl (Nat.le_refl _) (Nat.le_refl _) dX0_isTrueFromParts_140 H
                · refine J.iconst C (1) dX0_isTrueFromParts_135 (by decide) ?_
                  refine J.goto (tgt := 140) C dX0_isTrueFromParts_136 (by decide) ?_
                  exact J.zretA C hr rfl (Nat.le_refl _) (Nat.le_refl _) dX0_isTrueFromParts_140 H
          · refine J.iload_n (i := 3) C dX0_isTrueFromParts_104 rfl rfl ?_
            refine J.if_neL (tgt := 113) C dX0_isTrueFromParts_105 (by decide) H (fun c_105 H => ?_) (fun c_105 H => ?_)
            · refine J.iconst C (1) dX0_isTrueFromParts_113 (by decide) ?_
              refine J.goto (tgt := 118) C dX0_isTrueFromParts_114 (by decide) ?_
              exact J.zretA C hr rfl (Nat.le_refl _) (Nat.le_refl _) dX0_isTrueFromParts_118 H
            · refine J.iload C dX0_isTrueFromParts_108 rfl ?_
              refine J.if_eqL (tgt := 117) C dX0_isTrueFromParts_110 (by decide) H (fun c_110 H => ?_) (fun c_110 H => ?_)
              · refine J.iconst C (0) dX0_isTrueFromParts_117 (by decide) ?_
                exact J.zretA C hr rfl (Nat.le_refl _) (Nat.le_refl _) dX0_isTrueFromParts_118 H
              · refine J.iconst C (1) dX0_isTrueFromParts_113 (by decide) ?_
                refine J.goto (tgt := 118) C dX0_isTrueFromParts_114 (by decide) ?_
                exact J.zretA C hr rfl (Nat.le_refl _) (Nat.le_refl _) dX0_isTrueFromParts_118 H
        · refine J.iload_n (i := 3) C dX0_isTrueFromParts_82 rfl rfl ?_
          refine J.if_eqL (tgt := 95) C dX0_isTrueFromParts_83 (by decide) H (fun c_83 H => ?_) (fun c_83 H => ?_)
          · refine J.iconst C (0) dX0_isTrueFromParts_95 (by decide) ?_
            exact J.zretA C hr rfl (Nat.le_refl _) (Nat.le_refl _) dX0_isTrueFromParts_96 H
          · refine J.iload C dX0_isTrueFromParts_86 rfl ?_
            refine J.if_eqL (tgt := 95) C dX0_isTrueFromParts_88 (by decide) H (fun c_88 H => ?_) (fun c_88 H => ?_)
            · refine J.iconst C (0) dX0_isTrueFromParts_95 (by decide) ?_
              exact J.zretA C hr rfl (Nat.le_refl _) (Nat.le_refl _) dX0_isTrueFromParts_96 H
            · refine J.iconst C (1) dX0_isTrueFromParts_91 (by decide) ?_
              refine J.goto (tgt := 96) C dX0_isTrueFromParts_92 (by decide) ?_
              exact J.zretA C hr rfl (Nat.le_refl _) (Nat.le_refl _) dX0_isTrueFromParts_96 H
      · refine J.iload_n (i := 3) C dX0_isTrueFromParts_65 rfl rfl ?_
        refine J.if_neL (tgt := 73) C dX0_isTrueFromParts_66 (by decide) H (fun c_66 H => ?_) (fun c_66 H => ?_)
        · refine J.iconst C (0) dX0_isTrueFromParts_73 (by decide) ?_
          exact J.zretA C hr rfl (Nat.le_refl _) (Nat.le_refl _) dX0_isTrueFromParts_74 H
        · refine J.iconst C (1) dX0_isTrueFromParts_69 (by decide) ?_
          refine J.goto (tgt := 74) C dX0_isTrueFromParts_70 (by decide) ?_
          exact J.zretA C hr rfl (Nat.le_refl _) (Nat.le_refl _) dX0_isTrueFromParts_74 H
theorem nr_X0_isTrueFromParts (σ : DS) (a1 : Int32) (a2 : Int32) : narrow .boolean (.int (F_X0_isTrueFromParts σ a1 a2)) = .int (F_X0_isTrueFromParts σ a1 a2) := by
  unfold F_X0_isTrueFromParts
  try simp only [lt]
  repeat' split
  all_goals first | rfl | exact pk_nc _ | (first | exact nr_X0_kind .. | exact nr_X0_isLetterTrue ..)

/-! X0_isTrue -/
def B_X0_isTrue_43 (σ : DS) (l1 : Int32) : Res DS Int32 := (if (rat 150 (σ.2 5) l1) = (1 : Int32) then (some (.inl (1 : Int32), σ)) else (some (.inl (0 : Int32), σ)))
set_option maxRecDepth 100000 in
theorem bl_X0_isTrue_43 {l : Launch} (hl : l.stackTraces = false) {g : Gy} {ad : Nat → Nat} {rst : va_W} {p : Program} {e : Env} {s : State} {m : MethodId} {args : Array Value} {below : List Frame} {meth : Method} {c : Code} {A : Nat → Prop} (C : Cx p l s m args meth c g A yX0_isTrue.cls cX0_isTrue 4) (hr : meth.sig.returnType = some .boolean) (hx : ∀ x ∈ c.exceptionTable.toList, False) {rr : (Int32 ⊕ String) × DS} (σ : DS) (l1 : Int32) (H : B_X0_isTrue_43 σ l1 = some rr) : J p l e (rmOf 4 0 0) s m args below meth c g A 4 0 0 (QR mI g A (dkh g ad rst) rr below args s 0 0) 43 [(0, .ref (ad 1)), (1, .int l1)] [] ((dkh g ad rst) σ) := by
  unfold B_X0_isTrue_43 at H
  refine J.aload_n (i := 0) C dX0_isTrue_43 rfl rfl ?_
  refine J.get C 1 5 dk_1 rfl (by decide) kFl_X0_32 inB_X0 rfl dX0_isTrue_44 ?_
  refine J.iload_n (i := 1) C dX0_isTrue_47 rfl rfl ?_
  refine J.callVI C (at_5 hl _) rfl kMl_X0_49 mdX3_at ⟨(Nat.le_of_ble_eq_true rfl), (Nat.le_of_ble_eq_true rfl)⟩ dk_16 rfl rfl (Nat.le_of_ble_eq_true rfl) dX0_isTrue_48 ⟨(Nat.le_of_ble_eq_true rfl), (Nat.le_of_ble_eq_true rfl)⟩ ?_
  refine J.iconst C (1) dX0_isTrue_51 (by decide) ?_
  refine J.icmp_neL (tgt := 59) C dX0_isTrue_52 (by decide) H (fun c_52 H => ?_) (fun c_52 H => ?_)
  · refine J.iconst C (0) dX0_isTrue_59 (by decide) ?_
    exact J.zretL C hr rfl (Nat.le_of_ble_eq_true rfl) (Nat.le_of_ble_eq_true rfl) dX0_isTrue_60 H
  · refine J.iconst C (1) dX0_isTrue_55 (by decide) ?_
    refine J.goto (tgt := 60) C dX0_isTrue_56 (by decide) ?_
    exact J.zretL C hr rfl (Nat.le_of_ble_eq_true rfl) (Nat.le_of_ble_eq_true rfl) dX0_isTrue_60 H
def B_X0_isTrue_2 (k_2 : DS → Int32 → Int32 → Int32 → Res DS Int32) (σ : DS) (l1 : Int32) (l2 : Int32) (l3 : Int32) : Res DS Int32 := (if l1 < l3 then (B_X0_isTrue_43 σ l1) else (if (σ.1 1) ≤ l3 then (B_X0_isTrue_43 σ l1) else (if (F_X0_isTrueFromParts σ l3 l2) = 0 then (lt (sR σ 5 (rput 150 (σ.2 5) l3 (0 : Int32))) fun s34 => (lt (l3 + (1 : Int32)) fun z37 => (k_2 s34 l1 l2 z37))) else (lt (sR σ 5 (rput 150 (σ.2 5) l3 (1 : Int32))) fun s34 => (lt (l3 + (1 : Int32)) fun z37 => (k_2 s34 l1 l2 z37))))))
set_option maxRecDepth 100000 in
theorem bl_X0_isTrue_2 {l : Launch} (hl : l.stackTraces = false) {g : Gy} {ad : Nat → Nat} {rst : va_W} {p : Program} {e : Env} {s : State} {m : MethodId} {args : Array Value} {below : List Frame} {meth : Method} {c : Code} {A : Nat → Prop} (C : Cx p l s m args meth c g A yX0_isTrue.cls cX0_isTrue 4) (hr : meth.sig.returnType = some .boolean) (hx : ∀ x ∈ c.exceptionTable.toList, False) {rr : (Int32 ⊕ String) × DS} (k_2 : DS → Int32 → Int32 → Int32 → Res DS Int32) (hk_2 : ∀ (σ : DS) (l1 : Int32) (l2 : Int32) (l3 : Int32), k_2 σ l1 l2 l3 = some rr → J p l e (rmOf 4 0 0) s m args below meth c g A 4 0 0 (QR mI g A (dkh g ad rst) rr below args s 0 0) 2 [(0, .ref (ad 1)), (1, .int l1), (2, .int l2), (3, .int l3)] [] ((dkh g ad rst) σ)) (σ : DS) (l1 : Int32) (l2 : Int32) (l3 : Int32) (H : B_X0_isTrue_2 k_2 σ l1 l2 l3 = some rr) : J p l e (rmOf 4 0 0) s m args below meth c g A 4 0 0 (QR mI g A (dkh g ad rst) rr below args s 0 0) 2 [(0, .ref (ad 1)), (1, .int l1), (2, .int l2), (3, .int l3)] [] ((dkh g ad rst) σ) := by
  unfold B_X0_isTrue_2 at H
  refine J.iload_n (i := 3) C dX0_isTrue_2 rfl rfl ?_
  refine J.iload_n (i := 1) C dX0_isTrue_3 rfl rfl ?_
  refine J.icmp_gtL (tgt := 43) C dX0_isTrue_4 (by decide) H (fun c_4 H => ?_) (fun c_4 H => ?_)
  · refine J.widen (k := 0) (n := 0) (Nat.le_of_ble_eq_true rfl) (Nat.le_of_ble_eq_true rfl) ?_
    refine J.lw (lv' := [(0, .ref (ad 1)), (1, .int l1)]) ⟨rfl, rfl, trivial⟩ ?_
    exact bl_X0_isTrue_43 hl C hr hx  _ _  H
  · refine J.iload_n (i := 3) C dX0_isTrue_7 rfl rfl ?_
    refine J.aload_n (i := 0) C dX0_isTrue_8 rfl rfl ?_
    refine J.get C 1 9 dk_1 rfl (by decide) kFl_X0_41 inB_X0 rfl dX0_isTrue_9 ?_
    refine J.icmp_geL (tgt := 43) C dX0_isTrue_12 (by decide) H (fun c_12 H => ?_) (fun c_12 H => ?_)
    · refine J.widen (k := 0) (n := 0) (Nat.le_of_ble_eq_true rfl) (Nat.le_of_ble_eq_true rfl) ?_
      refine J.lw (lv' := [(0, .ref (ad 1)), (1, .int l1)]) ⟨rfl, rfl, trivial⟩ ?_
      exact bl_X0_isTrue_43 hl C hr hx  _ _  H
    · refine J.aload_n (i := 0) C dX0_isTrue_15 rfl rfl ?_
      refine J.get C 1 5 dk_1 rfl (by decide) kFl_X0_32 inB_X0 rfl dX0_isTrue_16 ?_
      refine J.iload_n (i := 3) C dX0_isTrue_19 rfl rfl ?_
      refine J.aload_n (i := 0) C dX0_isTrue_20 rfl rfl ?_
      refine J.iload_n (i := 3) C dX0_isTrue_21 rfl rfl ?_
      refine J.iload_n (i := 2) C dX0_isTrue_22 rfl rfl ?_
      refine J.callVI C (sp_X0_isTrueFromParts hl _ _) rfl kMl_X0_107 mdX0_isTrueFromParts ⟨(Nat.le_of_ble_eq_true rfl), (Nat.le_of_ble_eq_true rfl)⟩ dk_1 rfl rfl (Nat.le_of_ble_eq_true rfl) dX0_isTrue_23 ⟨(Nat.le_of_ble_eq_true rfl), (Nat.le_of_ble_eq_true rfl)⟩ ?_
      refine J.if_eqL (tgt := 33) C dX0_isTrue_26 (by decide) H (fun c_26 H => ?_) (fun c_26 H => ?_)
      · refine J.iconst C (0) dX0_isTrue_33 (by decide) ?_
        refine J.callVVL (hp := (dkh g ad rst)) C (put_5 hl _ _) rfl kMl_X0_81 mdX3_put ⟨(Nat.le_of_ble_eq_true rfl), (Nat.le_of_ble_eq_true rfl)⟩ dk_16 rfl rfl (Nat.le_of_ble_eq_true rfl) dX0_isTrue_34 ⟨(Nat.le_of_ble_eq_true rfl), (Nat.le_of_ble_eq_true rfl)⟩ H (fun s34 H => ?_)
        refine J.iincL C (l3 + (1 : Int32)) dX0_isTrue_37 rfl rfl (by decide) H (fun z37 H => ?_)
        refine J.goto (tgt := 2) C dX0_isTrue_40 (by decide) ?_
        refine J.widen (k := 0) (n := 0) (Nat.le_of_ble_eq_true rfl) (Nat.le_of_ble_eq_true rfl) ?_
        refine J.lw (lv' := [(0, .ref (ad 1)), (1, .int l1), (2, .int l2), (3, .int z37)]) ⟨rfl, rfl, rfl, rfl, trivial⟩ ?_
        exact hk_2 _ _ _ _  H
      · refine J.iconst C (1) dX0_isTrue_29 (by decide) ?_
        refine J.goto (tgt := 34) C dX0_isTrue_30 (by decide) ?_
        refine J.callVVL (hp := (dkh g ad rst)) C (put_5 hl _ _) rfl kMl_X0_81 mdX3_put ⟨(Nat.le_of_ble_eq_true rfl), (Nat.le_of_ble_eq_true rfl)⟩ dk_16 rfl rfl (Nat.le_of_ble_eq_true rfl) dX0_isTrue_34 ⟨(Nat.le_of_ble_eq_true rfl), (Nat.le_of_ble_eq_true rfl)⟩ H (fun s34 H => ?_)
        refine J.iincL C (l3 + (1 : Int32)) dX0_isTrue_37 rfl rfl (by decide) H (fun z37 H => ?_)
        refine J.goto (tgt := 2) C dX0_isTrue_40 (by decide) ?_
        refine J.widen (k := 0) (n := 0) (Nat.le_of_ble_eq_true rfl) (Nat.le_of_ble_eq_true rfl) ?_
        refine J.lw (lv' := [(0, .ref (ad 1)), (1, .int l1), (2, .int l2), (3, .int z37)]) ⟨rfl, rfl, rfl, rfl, trivial⟩ ?_
        exact hk_2 _ _ _ _  H
def L_X0_isTrue_2 : Nat → DS → Int32 → Int32 → Int32 → Res DS Int32
  | 0, _, _, _, _ => none
  | n + 1, σ, l1, l2, l3 => B_X0_isTrue_2 (L_X0_isTrue_2 n) σ l1 l2 l3
set_option maxRecDepth 100000 in
theorem lp_X0_isTrue_2 {l : Launch} (hl : l.stackTraces = false) {g : Gy} {ad : Nat → Nat} {rst : va_W} {p : Program} {e : Env} {s : State} {m : MethodId} {args : Array Value} {below : List Frame} {meth : Method} {c : Code} {A : Nat → Prop} (C : Cx p l s m args meth c g A yX0_isTrue.cls cX0_isTrue 4) (hr : meth.sig.returnType = some .boolean) (hx : ∀ x ∈ c.exceptionTable.toList, False) {rr : (Int32 ⊕ String) × DS} : ∀ (n : Nat) (σ : DS) (l1 : Int32) (l2 : Int32) (l3 : Int32), L_X0_isTrue_2 n σ l1 l2 l3 = some rr → J p l e (rmOf 4 0 0) s m args below meth c g A 4 0 0 (QR mI g A (dkh g ad rst) rr below args s 0 0) 2 [(0, .ref (ad 1)), (1, .int l1), (2, .int l2), (3, .int l3)] [] ((dkh g ad rst) σ) := by
  intro n
  induction n with
  | zero => intro σ l1 l2 l3 H; cases H
  | succ n ih => intro σ l1 l2 l3 H; exact bl_X0_isTrue_2 hl C hr hx _ ih _ _ _ _ H
abbrev mX0_isTrue : MD := (yX0_isTrue, cX0_isTrue, 4, some .boolean)
theorem mdX0_isTrue : MDv mX0_isTrue RX0 2 := ⟨kIm_X0_isTrue, kSe_X0_isTrue, kIn_X0, kCo_X0_isTrue, by decide +kernel⟩
def P_X0_isTrue (σ : DS) (a1 : Int32) (a2 : Int32) : Res DS Int32 := (lt (0 : Int32) fun z1 => (L_X0_isTrue_2 FU σ a1 a2 z1))
set_option maxRecDepth 100000 in
theorem sp_X0_isTrue {l : Launch} (hl : l.stackTraces = false) {g : Gy} {ad : Nat → Nat} {rst : va_W} {σ : DS} (a1 : Int32) (a2 : Int32) : SpR l mX0_isTrue 4 0 0 mI g [.ref (ad 1), .int a1, .int a2] (dkh g ad rst) σ (P_X0_isTrue σ a1 a2) := by
  refine SpR.of hl (by decide) (Nat.le_of_ble_eq_true rfl) (fun rr H p e s m args below meth c A C hr hx => ?_)
  unfold P_X0_isTrue at H
  refine J.lw (lv' := [(0, .ref (ad 1)), (1, .int a1), (2, .int a2)]) ⟨rfl, rfl, rfl, trivial⟩ ?_
  refine J.iconst C (0) dX0_isTrue_0 (by decide) ?_
  refine J.istore_nL (i := 3) C dX0_isTrue_1 rfl (by decide) H (fun z1 H => ?_)
  refine J.widen (k := 0) (n := 0) (Nat.le_of_ble_eq_true rfl) (Nat.le_of_ble_eq_true rfl) ?_
  refine J.lw (lv' := [(0, .ref (ad 1)), (1, .int a1), (2, .int a2), (3, .int z1)]) ⟨rfl, rfl, rfl, rfl, trivial⟩ ?_
  exact lp_X0_isTrue_2 hl C hr hx  FU _ _ _ _  H

/-! X5_clear -/
abbrev mX5_clear : MD := (yX5_clear, cX5_clear, 1, none)
theorem mdX5_clear : MDv mX5_clear RX5 0 := ⟨kIm_X5_clear, kSe_X5_clear, kIn_X5, kCo_X5_clear, by decide +kernel⟩
def P_X5_clear (σ : DS)  : Res DS Unit := (lt (sI σ 11 (0 : Int32)) fun s2 => (some (.inl (), s2)))
set_option maxRecDepth 100000 in
theorem sp_X5_clear {l : Launch} (hl : l.stackTraces = false) {g : Gy} {ad : Nat → Nat} {rst : va_W} {σ : DS}  : SpR l mX5_clear 1 0 0 mV g [.ref (ad 5)] (dkh g ad rst) σ (P_X5_clear σ ) := by
  refine SpR.of hl (by decide) (Nat.le_of_ble_eq_true rfl) (fun rr H p e s m args below meth c A C hr hx => ?_)
  unfold P_X5_clear at H
  refine J.lw (lv' := [(0, .ref (ad 5))]) ⟨rfl, trivial⟩ ?_
  refine J.aload_n (i := 0) C dX5_clear_0 rfl rfl ?_
  refine J.iconst C (0) dX5_clear_1 (by decide) ?_
  refine J.putL (hp := (dkh g ad rst)) C 5 1 dk_5 rfl (by decide) kFl_X5_20 inB_X5 tyX5 tyX5_ok nmX5 rfl rfl rfl rfl (Nat.le_of_ble_eq_true rfl) dX5_clear_2 (dkI_11 _) H (fun s2 H => ?_)
  exact J.vretL C hr (Nat.le_of_ble_eq_true rfl) (Nat.le_of_ble_eq_true rfl) dX5_clear_5 H

/-! X5_insert -/
def B_X5_insert_14 (k_14 : DS → Int32 → Int32 → Int32 → Res DS Unit) (σ : DS) (l1 : Int32) (l2 : Int32) (l3 : Int32) : Res DS Unit := (if l3 ≤ l1 then (lt (sR σ 29 (rput 64 (σ.2 29) l1 l2)) fun s49 => (lt (sI s49 11 ((s49.1 11) + (1 : Int32))) fun s59 => (some (.inl (), s59)))) else (lt (sR σ 29 (rput 64 (σ.2 29) l3 (rat 64 (σ.2 29) (l3 - (1 : Int32))))) fun s34 => (lt (l3 + (-1 : Int32)) fun z37 => (k_14 s34 l1 l2 z37))))
set_option maxRecDepth 100000 in
theorem bl_X5_insert_14 {l : Launch} (hl : l.stackTraces = false) {g : Gy} {ad : Nat → Nat} {rst : va_W} {p : Program} {e : Env} {s : State} {m : MethodId} {args : Array Value} {below : List Frame} {meth : Method} {c : Code} {A : Nat → Prop} (C : Cx p l s m args meth c g A yX5_insert.cls cX5_insert 4) (hr : meth.sig.returnType = none) (hx : ∀ x ∈ c.exceptionTable.toList, False) {rr : (Unit ⊕ String) × DS} (k_14 : DS → Int32 → Int32 → Int32 → Res DS Unit) (hk_14 : ∀ (σ : DS) (l1 : Int32) (l2 : Int32) (l3 : Int32), k_14 σ l1 l2 l3 = some rr → J p l e (rmOf 2 0 0) s m args below meth c g A 4 0 0 (QR mV g A (dkh g ad rst) rr below args s 0 0) 14 [(0, .ref (ad 5)), (1, .int l1), (2, .int l2), (3, .int l3)] [] ((dkh g ad rst) σ)) (σ : DS) (l1 : Int32) (l2 : Int32) (l3 : Int32) (H : B_X5_insert_14 k_14 σ l1 l2 l3 = some rr) : J p l e (rmOf 2 0 0) s m args below meth c g A 4 0 0 (QR mV g A (dkh g ad rst) rr below args s 0 0) 14 [(0, .ref (ad 5)), (1, .int l1), (2, .int l2), (3, .int l3)] [] ((dkh g ad rst) σ) := by
  unfold B_X5_insert_14 at H
  refine J.iload_n (i := 3) C dX5_insert_14 rfl rfl ?_
  refine J.iload_n (i := 1) C dX5_insert_15 rfl rfl ?_
  refine J.icmp_leL (tgt := 43) C dX5_insert_16 (by decide) H (fun c_16 H => ?_) (fun c_16 H => ?_)
  · refine J.aload_n (i := 0) C dX5_insert_43 rfl rfl ?_
    refine J.get C 5 0 dk_5 rfl (by decide) kFl_X5_16 inB_X5 rfl dX5_insert_44 ?_
    refine J.iload_n (i := 1) C dX5_insert_47 rfl rfl ?_
    refine J.iload_n (i := 2) C dX5_insert_48 rfl rfl ?_
    refine J.callVVL (hp := (dkh g ad rst)) C (put_29 hl _ _) rfl kMl_X5_55 mdX3_put ⟨(Nat.le_of_ble_eq_true rfl), (Nat.le_of_ble_eq_true rfl)⟩ dk_64 rfl rfl (Nat.le_of_ble_eq_true rfl) dX5_insert_49 ⟨(Nat.le_of_ble_eq_true rfl), (Nat.le_of_ble_eq_true rfl)⟩ H (fun s49 H => ?_)
    refine J.aload_n (i := 0) C dX5_insert_52 rfl rfl ?_
    refine J.dup C dX5_insert_53 rfl ?_
    refine J.get C 5 1 dk_5 rfl (by decide) kFl_X5_20 inB_X5 rfl dX5_insert_54 ?_
    refine J.iconst C (1) dX5_insert_57 (by decide) ?_
    refine J.iadd C dX5_insert_58 ?_
    refine J.putL (hp := (dkh g ad rst)) C 5 1 dk_5 rfl (by decide) kFl_X5_20 inB_X5 tyX5 tyX5_ok nmX5 rfl rfl rfl rfl (Nat.le_of_ble_eq_true rfl) dX5_insert_59 (dkI_11 _) H (fun s59 H => ?_)
    exact J.vretL C hr (Nat.le_of_ble_eq_true rfl) (Nat.le_of_ble_eq_true rfl) dX5_insert_62 H
  · refine J.aload_n (i := 0) C dX5_insert_19 rfl rfl ?_
    refine J.get C 5 0 dk_5 rfl (by decide) kFl_X5_16 inB_X5 rfl dX5_insert_20 ?_
    refine J.iload_n (i := 3) C dX5_insert_23 rfl rfl ?_
    refine J.aload_n (i := 0) C dX5_insert_24 rfl rfl ?_
    refine J.get C 5 0 dk_5 rfl (by decide) kFl_X5_16 inB_X5 rfl dX5_insert_25 ?_
    refine J.iload_n (i := 3) C dX5_insert_28 rfl rfl ?_
    refine J.iconst C (1) dX5_insert_29 (by decide) ?_
    refine J.isub C dX5_insert_30 ?_
    refine J.callVI C (at_29 hl _) rfl kMl_X5_24 mdX3_at ⟨(Nat.le_of_ble_eq_true rfl), (Nat.le_of_ble_eq_true rfl)⟩ dk_64 rfl rfl (Nat.le_of_ble_eq_true rfl) dX5_insert_31 ⟨(Nat.le_of_ble_eq_true rfl), (Nat.le_of_ble_eq_true rfl)⟩ ?_
    refine J.callVVL (hp := (dkh g ad rst)) C (put_29 hl _ _) rfl kMl_X5_55 mdX3_put ⟨(Nat.le_of_ble_eq_true rfl), (Nat.le_of_ble_eq_true rfl)⟩ dk_64 rfl rfl (Nat.le_of_ble_eq_true rfl) dX5_insert_34 ⟨(Nat.le_of_ble_eq_true rfl), (Nat.le_of_ble_eq_true rfl)⟩ H (fun s34 H => ?_)
    refine J.iincL C (l3 + (-1 : Int32)) dX5_insert_37 rfl rfl (by decide) H (fun z37 H => ?_)
    refine J.goto (tgt := 14) C dX5_insert_40 (by decide) ?_
    refine J.widen (k := 0) (n := 0) (Nat.le_of_ble_eq_true rfl) (Nat.le_of_ble_eq_true rfl) ?_
    refine J.lw (lv' := [(0, .ref (ad 5)), (1, .int l1), (2, .int l2), (3, .int z37)]) ⟨rfl, rfl, rfl, rfl, trivial⟩ ?_
    exact hk_14 _ _ _ _  H
def L_X5_insert_14 : Nat → DS → Int32 → Int32 → Int32 → Res DS Unit
  | 0, _, _, _, _ => none
  | n + 1, σ, l1, l2, l3 => B_X5_insert_14 (L_X5_insert_14 n) σ l1 l2 l3
set_option maxRecDepth 100000 in
theorem lp_X5_insert_14 {l : Launch} (hl : l.stackTraces = false) {g : Gy} {ad : Nat → Nat} {rst : va_W} {p : Program} {e : Env} {s : State} {m : MethodId} {args : Array Value} {below : List Frame} {meth : Method} {c : Code} {A : Nat → Prop} (C : Cx p l s m args meth c g A yX5_insert.cls cX5_insert 4) (hr : meth.sig.returnType = none) (hx : ∀ x ∈ c.exceptionTable.toList, False) {rr : (Unit ⊕ String) × DS} : ∀ (n : Nat) (σ : DS) (l1 : Int32) (l2 : Int32) (l3 : Int32), L_X5_insert_14 n σ l1 l2 l3 = some rr → J p l e (rmOf 2 0 0) s m args below meth c g A 4 0 0 (QR mV g A (dkh g ad rst) rr below args s 0 0) 14 [(0, .ref (ad 5)), (1, .int l1), (2, .int l2), (3, .int l3)] [] ((dkh g ad rst) σ) := by
  intro n
  induction n with
  | zero => intro σ l1 l2 l3 H; cases H
  | succ n ih => intro σ l1 l2 l3 H; exact bl_X5_insert_14 hl C hr hx _ ih _ _ _ _ H
abbrev mX5_insert : MD := (yX5_insert, cX5_insert, 4, none)
theorem mdX5_insert : MDv mX5_insert RX5 2 := ⟨kIm_X5_insert, kSe_X5_insert, kIn_X5, kCo_X5_insert, by decide +kernel⟩
def P_X5_insert (σ : DS) (a1 : Int32) (a2 : Int32) : Res DS Unit := (if (64 : Int32) ≤ (σ.1 11) then (some (.inl (), σ)) else (lt (σ.1 11) fun z13 => (L_X5_insert_14 FU σ a1 a2 z13)))
set_option maxRecDepth 100000 in
theorem sp_X5_insert {l : Launch} (hl : l.stackTraces = false) {g : Gy} {ad : Nat → Nat} {rst : va_W} {σ : DS} (a1 : Int32) (a2 : Int32) : SpR l mX5_insert 2 0 0 mV g [.ref (ad 5), .int a1, .int a2] (dkh g ad rst) σ (P_X5_insert σ a1 a2) := by
  refine SpR.of hl (by decide) (Nat.le_of_ble_eq_true rfl) (fun rr H p e s m args below meth c A C hr hx => ?_)
  unfold P_X5_insert at H
  refine J.lw (lv' := [(0, .ref (ad 5)), (1, .int a1), (2, .int a2)]) ⟨rfl, rfl, rfl, trivial⟩ ?_
  refine J.aload_n (i := 0) C dX5_insert_0 rfl rfl ?_
  refine J.get C 5 1 dk_5 rfl (by decide) kFl_X5_20 inB_X5 rfl dX5_insert_1 ?_
  refine J.bipush C (64) dX5_insert_4 (by decide) ?_
  refine J.icmp_geL (tgt := 62) C dX5_insert_6 (by decide) H (fun c_6 H => ?_) (fun c_6 H => ?_)
  · exact J.vretL C hr (Nat.le_of_ble_eq_true rfl) (Nat.le_of_ble_eq_true rfl) dX5_insert_62 H
  · refine J.aload_n (i := 0) C dX5_insert_9 rfl rfl ?_
    refine J.get C 5 1 dk_5 rfl (by decide) kFl_X5_20 inB_X5 rfl dX5_insert_10 ?_
    refine J.istore_nL (i := 3) C dX5_insert_13 rfl (by decide) H (fun z13 H => ?_)
    refine J.widen (k := 0) (n := 0) (Nat.le_of_ble_eq_true rfl) (Nat.le_of_ble_eq_true rfl) ?_
    refine J.lw (lv' := [(0, .ref (ad 5)), (1, .int a1), (2, .int a2), (3, .int z13)]) ⟨rfl, rfl, rfl, rfl, trivial⟩ ?_
    exact lp_X5_insert_14 hl C hr hx  FU _ _ _ _  H

/-! X5_append -/
abbrev mX5_append : MD := (yX5_append, cX5_append, 2, none)
theorem mdX5_append : MDv mX5_append RX5 1 := ⟨kIm_X5_append, kSe_X5_append, kIn_X5, kCo_X5_append, by decide +kernel⟩
def P_X5_append (σ : DS) (a1 : Int32) : Res DS Unit := (bd (P_X5_insert σ (σ.1 11) a1) fun _ s6 => (some (.inl (), s6)))
set_option maxRecDepth 100000 in
theorem sp_X5_append {l : Launch} (hl : l.stackTraces = false) {g : Gy} {ad : Nat → Nat} {rst : va_W} {σ : DS} (a1 : Int32) : SpR l mX5_append 3 0 0 mV g [.ref (ad 5), .int a1] (dkh g ad rst) σ (P_X5_append σ a1) := by
  refine SpR.of hl (by decide) (Nat.le_of_ble_eq_true rfl) (fun rr H p e s m args below meth c A C hr hx => ?_)
  unfold P_X5_append at H
  refine J.lw (lv' := [(0, .ref (ad 5)), (1, .int a1)]) ⟨rfl, rfl, trivial⟩ ?_
  refine J.aload_n (i := 0) C dX5_append_0 rfl rfl ?_
  refine J.aload_n (i := 0) C dX5_append_1 rfl rfl ?_
  refine J.get C 5 1 dk_5 rfl (by decide) kFl_X5_20 inB_X5 rfl dX5_append_2 ?_
  refine J.iload_n (i := 1) C dX5_append_5 rfl rfl ?_
  refine J.callVBV (hp := (dkh g ad rst)) C rfl (sp_X5_insert hl _ _) rfl kMl_X5_28 mdX5_insert ⟨(Nat.le_of_ble_eq_true rfl), (Nat.le_of_ble_eq_true rfl)⟩ dk_5 rfl rfl (Nat.le_of_ble_eq_true rfl) dX5_append_6 ⟨(Nat.le_of_ble_eq_true rfl), (Nat.le_of_ble_eq_true rfl)⟩ hx (Nat.le_of_ble_eq_true rfl) (Nat.le_of_ble_eq_true rfl) H (fun _ s6 H => ?_)
  exact J.vretL C hr (Nat.le_of_ble_eq_true rfl) (Nat.le_of_ble_eq_true rfl) dX5_append_9 H

/-! X5_appendFormula -/
def B_X5_appendFormula_9 (k_9 : DS → Int32 → Int32 → Int32 → Res DS Unit) (σ : DS) (l2 : Int32) (l3 : Int32) (l4 : Int32) : Res DS Unit := (if l3 ≤ l4 then (some (.inl (), σ)) else (bd (P_X5_append σ (F_X0_symbol σ l2 l4)) fun _ s23 => (lt (l4 + (1 : Int32)) fun z26 => (k_9 s23 l2 l3 z26))))
set_option maxRecDepth 100000 in
theorem bl_X5_appendFormula_9 {l : Launch} (hl : l.stackTraces = false) {g : Gy} {ad : Nat → Nat} {rst : va_W} {p : Program} {e : Env} {s : State} {m : MethodId} {args : Array Value} {below : List Frame} {meth : Method} {c : Code} {A : Nat → Prop} (C : Cx p l s m args meth c g A yX5_appendFormula.cls cX5_appendFormula 5) (hr : meth.sig.returnType = none) (hx : ∀ x ∈ c.exceptionTable.toList, False) {rr : (Unit ⊕ String) × DS} (k_9 : DS → Int32 → Int32 → Int32 → Res DS Unit) (hk_9 : ∀ (σ : DS) (l2 : Int32) (l3 : Int32) (l4 : Int32), k_9 σ l2 l3 l4 = some rr → J p l e (rmOf 4 0 0) s m args below meth c g A 5 0 0 (QR mV g A (dkh g ad rst) rr below args s 0 0) 9 [(0, .ref (ad 5)), (1, .ref (ad 1)), (2, .int l2), (3, .int l3), (4, .int l4)] [] ((dkh g ad rst) σ)) (σ : DS) (l2 : Int32) (l3 : Int32) (l4 : Int32) (H : B_X5_appendFormula_9 k_9 σ l2 l3 l4 = some rr) : J p l e (rmOf 4 0 0) s m args below meth c g A 5 0 0 (QR mV g A (dkh g ad rst) rr below args s 0 0) 9 [(0, .ref (ad 5)), (1, .ref (ad 1)), (2, .int l2), (3, .int l3), (4, .int l4)] [] ((dkh g ad rst) σ) := by
  unfold B_X5_appendFormula_9 at H
  refine J.iload C dX5_appendFormula_9 rfl ?_
  refine J.iload_n (i := 3) C dX5_appendFormula_11 rfl rfl ?_
  refine J.icmp_geL (tgt := 32) C dX5_appendFormula_12 (by decide) H (fun c_12 H => ?_) (fun c_12 H => ?_)
  · exact J.vretL C hr (Nat.le_of_ble_eq_true rfl) (Nat.le_of_ble_eq_true rfl) dX5_appendFormula_32 H
  · refine J.aload_n (i := 0) C dX5_appendFormula_15 rfl rfl ?_
    refine J.aload_n (i := 1) C dX5_appendFormula_16 rfl rfl ?_
    refine J.iload_n (i := 2) C dX5_appendFormula_17 rfl rfl ?_
    refine J.iload C dX5_appendFormula_18 rfl ?_
    refine J.callVI C (sp_X0_symbol hl _ _) rfl kMl_X5_37 mdX0_symbol ⟨(Nat.le_of_ble_eq_true rfl), (Nat.le_of_ble_eq_true rfl)⟩ dk_1 rfl rfl (Nat.le_of_ble_eq_true rfl) dX5_appendFormula_20 ⟨(Nat.le_of_ble_eq_true rfl), (Nat.le_of_ble_eq_true rfl)⟩ ?_
    refine J.callVBV (hp := (dkh g ad rst)) C rfl (sp_X5_append hl _) rfl kMl_X5_41 mdX5_append ⟨(Nat.le_of_ble_eq_true rfl), (Nat.le_of_ble_eq_true rfl)⟩ dk_5 rfl rfl (Nat.le_of_ble_eq_true rfl) dX5_appendFormula_23 ⟨(Nat.le_of_ble_eq_true rfl), (Nat.le_of_ble_eq_true rfl)⟩ hx (Nat.le_of_ble_eq_true rfl) (Nat.le_of_ble_eq_true rfl) H (fun _ s23 H => ?_)
    refine J.iincL C (l4 + (1 : Int32)) dX5_appendFormula_26 rfl rfl (by decide) H (fun z26 H => ?_)
    refine J.goto (tgt := 9) C dX5_appendFormula_29 (by decide) ?_
    refine J.widen (k := 0) (n := 0) (Nat.le_of_ble_eq_true rfl) (Nat.le_of_ble_eq_true rfl) ?_
    refine J.lw (lv' := [(0, .ref (ad 5)), (1, .ref (ad 1)), (2, .int l2), (3, .int l3), (4, .int z26)]) ⟨rfl, rfl, rfl, rfl, rfl, trivial⟩ ?_
    exact hk_9 _ _ _ _  H
def L_X5_appendFormula_9 : Nat → DS → Int32 → Int32 → Int32 → Res DS Unit
  | 0, _, _, _, _ => none
  | n + 1, σ, l2, l3, l4 => B_X5_appendFormula_9 (L_X5_appendFormula_9 n) σ l2 l3 l4
set_option maxRecDepth 100000 in
theorem lp_X5_appendFormula_9 {l : Launch} (hl : l.stackTraces = false) {g : Gy} {ad : Nat → Nat} {rst : va_W} {p : Program} {e : Env} {s : State} {m : MethodId} {args : Array Value} {below : List Frame} {meth : Method} {c : Code} {A : Nat → Prop} (C : Cx p l s m args meth c g A yX5_appendFormula.cls cX5_appendFormula 5) (hr : meth.sig.returnType = none) (hx : ∀ x ∈ c.exceptionTable.toList, False) {rr : (Unit ⊕ String) × DS} : ∀ (n : Nat) (σ : DS) (l2 : Int32) (l3 : Int32) (l4 : Int32), L_X5_appendFormula_9 n σ l2 l3 l4 = some rr → J p l e (rmOf 4 0 0) s m args below meth c g A 5 0 0 (QR mV g A (dkh g ad rst) rr below args s 0 0) 9 [(0, .ref (ad 5)), (1, .ref (ad 1)), (2, .int l2), (3, .int l3), (4, .int l4)] [] ((dkh g ad rst) σ) := by
  intro n
  induction n with
  | zero => intro σ l2 l3 l4 H; cases H
  | succ n ih => intro σ l2 l3 l4 H; exact bl_X5_appendFormula_9 hl C hr hx _ ih _ _ _ _ H
abbrev mX5_appendFormula : MD := (yX5_appendFormula, cX5_appendFormula, 5, none)
theorem mdX5_appendFormula : MDv mX5_appendFormula RX5 2 := ⟨kIm_X5_appendFormula, kSe_X5_appendFormula, kIn_X5, kCo_X5_appendFormula, by decide +kernel⟩
def P_X5_appendFormula (σ : DS) (a2 : Int32) : Res DS Unit := (lt (F_X0_size σ a2) fun z5 => (lt (0 : Int32) fun z7 => (L_X5_appendFormula_9 FU σ a2 z5 z7)))
set_option maxRecDepth 100000 in
theorem sp_X5_appendFormula {l : Launch} (hl : l.stackTraces = false) {g : Gy} {ad : Nat → Nat} {rst : va_W} {σ : DS} (a2 : Int32) : SpR l mX5_appendFormula 4 0 0 mV g [.ref (ad 5), .ref (ad 1), .int a2] (dkh g ad rst) σ (P_X5_appendFormula σ a2) := by
  refine SpR.of hl (by decide) (Nat.le_of_ble_eq_true rfl) (fun rr H p e s m args below meth c A C hr hx => ?_)
  unfold P_X5_appendFormula at H
  refine J.lw (lv' := [(0, .ref (ad 5)), (1, .ref (ad 1)), (2, .int a2)]) ⟨rfl, rfl, rfl, trivial⟩ ?_
  refine J.aload_n (i := 1) C dX5_appendFormula_0 rfl rfl ?_
  refine J.iload_n (i := 2) C dX5_appendFormula_1 rfl rfl ?_
  refine J.callVI C (sp_X0_size hl _) rfl kMl_X5_32 mdX0_size ⟨(Nat.le_of_ble_eq_true rfl), (Nat.le_of_ble_eq_true rfl)⟩ dk_1 rfl rfl (Nat.le_of_ble_eq_true rfl) dX5_appendFormula_2 ⟨(Nat.le_of_ble_eq_true rfl), (Nat.le_of_ble_eq_true rfl)⟩ ?_
  refine J.istore_nL (i := 3) C dX5_appendFormula_5 rfl (by decide) H (fun z5 H => ?_)
  refine J.iconst C (0) dX5_appendFormula_6 (by decide) ?_
  refine J.istoreL C dX5_appendFormula_7 (by decide) H (fun z7 H => ?_)
  refine J.widen (k := 0) (n := 0) (Nat.le_of_ble_eq_true rfl) (Nat.le_of_ble_eq_true rfl) ?_
  refine J.lw (lv' := [(0, .ref (ad 5)), (1, .ref (ad 1)), (2, .int a2), (3, .int z5), (4, .int z7)]) ⟨rfl, rfl, rfl, rfl, rfl, trivial⟩ ?_
  exact lp_X5_appendFormula_9 hl C hr hx  FU _ _ _ _  H

/-! X5_copy -/
abbrev mX5_copy : MD := (yX5_copy, cX5_copy, 3, none)
theorem mdX5_copy : MDv mX5_copy RX5 2 := ⟨kIm_X5_copy, kSe_X5_copy, kIn_X5, kCo_X5_copy, by decide +kernel⟩
def P_X5_copy (σ : DS) (a2 : Int32) : Res DS Unit := (bd (P_X5_clear σ ) fun _ s1 => (bd (P_X5_appendFormula s1 a2) fun _ s7 => (some (.inl (), s7))))
set_option maxRecDepth 100000 in
theorem sp_X5_copy {l : Launch} (hl : l.stackTraces = false) {g : Gy} {ad : Nat → Nat} {rst : va_W} {σ : DS} (a2 : Int32) : SpR l mX5_copy 5 0 0 mV g [.ref (ad 5), .ref (ad 1), .int a2] (dkh g ad rst) σ (P_X5_copy σ a2) := by
  refine SpR.of hl (by decide) (Nat.le_of_ble_eq_true rfl) (fun rr H p e s m args below meth c A C hr hx => ?_)
  unfold P_X5_copy at H
  refine J.lw (lv' := [(0, .ref (ad 5)), (1, .ref (ad 1)), (2, .int a2)]) ⟨rfl, rfl, rfl, trivial⟩ ?_
  refine J.aload_n (i := 0) C dX5_copy_0 rfl rfl ?_
  refine J.callVBV (hp := (dkh g ad rst)) C rfl (sp_X5_clear hl ) rfl kMl_X5_45 mdX5_clear ⟨(Nat.le_of_ble_eq_true rfl), (Nat.le_of_ble_eq_true rfl)⟩ dk_5 rfl rfl (Nat.le_of_ble_eq_true rfl) dX5_copy_1 ⟨(Nat.le_of_ble_eq_true rfl), (Nat.le_of_ble_eq_true rfl)⟩ hx (Nat.le_of_ble_eq_true rfl) (Nat.le_of_ble_eq_true rfl) H (fun _ s1 H => ?_)
  refine J.aload_n (i := 0) C dX5_copy_4 rfl rfl ?_
  refine J.aload_n (i := 1) C dX5_copy_5 rfl rfl ?_
  refine J.iload_n (i := 2) C dX5_copy_6 rfl rfl ?_
  refine J.callVBV (hp := (dkh g ad rst)) C rfl (sp_X5_appendFormula hl _) rfl kMl_X5_48 mdX5_appendFormula ⟨(Nat.le_of_ble_eq_true rfl), (Nat.le_of_ble_eq_true rfl)⟩ dk_5 rfl rfl (Nat.le_of_ble_eq_true rfl) dX5_copy_7 ⟨(Nat.le_of_ble_eq_true rfl), (Nat.le_of_ble_eq_true rfl)⟩ hx (Nat.le_of_ble_eq_true rfl) (Nat.le_of_ble_eq_true rfl) H (fun _ s7 H => ?_)
  exact J.vretL C hr (Nat.le_of_ble_eq_true rfl) (Nat.le_of_ble_eq_true rfl) dX5_copy_10 H

/-! X5_remove -/
def B_X5_remove_2 (k_2 : DS → Int32 → Res DS Unit) (σ : DS) (l2 : Int32) : Res DS Unit := (if ((σ.1 11) - (1 : Int32)) ≤ l2 then (lt (sI σ 11 ((σ.1 11) - (1 : Int32))) fun s43 => (some (.inl (), s43))) else (lt (sR σ 29 (rput 64 (σ.2 29) l2 (rat 64 (σ.2 29) (l2 + (1 : Int32))))) fun s27 => (lt (l2 + (1 : Int32)) fun z30 => (k_2 s27 z30))))
set_option maxRecDepth 100000 in
theorem bl_X5_remove_2 {l : Launch} (hl : l.stackTraces = false) {g : Gy} {ad : Nat → Nat} {rst : va_W} {p : Program} {e : Env} {s : State} {m : MethodId} {args : Array Value} {below : List Frame} {meth : Method} {c : Code} {A : Nat → Prop} (C : Cx p l s m args meth c g A yX5_remove.cls cX5_remove 3) (hr : meth.sig.returnType = none) (hx : ∀ x ∈ c.exceptionTable.toList, False) {rr : (Unit ⊕ String) × DS} (k_2 : DS → Int32 → Res DS Unit) (hk_2 : ∀ (σ : DS) (l2 : Int32), k_2 σ l2 = some rr → J p l e (rmOf 2 0 0) s m args below meth c g A 3 0 0 (QR mV g A (dkh g ad rst) rr below args s 0 0) 2 [(0, .ref (ad 5)), (2, .int l2)] [] ((dkh g ad rst) σ)) (σ : DS) (l2 : Int32) (H : B_X5_remove_2 k_2 σ l2 = some rr) : J p l e (rmOf 2 0 0) s m args below meth c g A 3 0 0 (QR mV g A (dkh g ad rst) rr below args s 0 0) 2 [(0, .ref (ad 5)), (2, .int l2)] [] ((dkh g ad rst) σ) := by
  unfold B_X5_remove_2 at H
  refine J.iload_n (i := 2) C dX5_remove_2 rfl rfl ?_
  refine J.aload_n (i := 0) C dX5_remove_3 rfl rfl ?_
  refine J.get C 5 1 dk_5 rfl (by decide) kFl_X5_20 inB_X5 rfl dX5_remove_4 ?_
  refine J.iconst C (1) dX5_remove_7 (by decide) ?_
  refine J.isub C dX5_remove_8 ?_
  refine J.icmp_geL (tgt := 36) C dX5_remove_9 (by decide) H (fun c_9 H => ?_) (fun c_9 H => ?_)
  · refine J.aload_n (i := 0) C dX5_remove_36 rfl rfl ?_
    refine J.dup C dX5_remove_37 rfl ?_
    refine J.get C 5 1 dk_5 rfl (by decide) kFl_X5_20 inB_X5 rfl dX5_remove_38 ?_
    refine J.iconst C (1) dX5_remove_41 (by decide) ?_
    refine J.isub C dX5_remove_42 ?_
    refine J.putL (hp := (dkh g ad rst)) C 5 1 dk_5 rfl (by decide) kFl_X5_20 inB_X5 tyX5 tyX5_ok nmX5 rfl rfl rfl rfl (Nat.le_of_ble_eq_true rfl) dX5_remove_43 (dkI_11 _) H (fun s43 H => ?_)
    exact J.vretL C hr (Nat.le_of_ble_eq_true rfl) (Nat.le_of_ble_eq_true rfl) dX5_remove_46 H
  · refine J.aload_n (i := 0) C dX5_remove_12 rfl rfl ?_
    refine J.get C 5 0 dk_5 rfl (by decide) kFl_X5_16 inB_X5 rfl dX5_remove_13 ?_
    refine J.iload_n (i := 2) C dX5_remove_16 rfl rfl ?_
    refine J.aload_n (i := 0) C dX5_remove_17 rfl rfl ?_
    refine J.get C 5 0 dk_5 rfl (by decide) kFl_X5_16 inB_X5 rfl dX5_remove_18 ?_
    refine J.iload_n (i := 2) C dX5_remove_21 rfl rfl ?_
    refine J.iconst C (1) dX5_remove_22 (by decide) ?_
    refine J.iadd C dX5_remove_23 ?_
    refine J.callVI C (at_29 hl _) rfl kMl_X5_24 mdX3_at ⟨(Nat.le_of_ble_eq_true rfl), (Nat.le_of_ble_eq_true rfl)⟩ dk_64 rfl rfl (Nat.le_of_ble_eq_true rfl) dX5_remove_24 ⟨(Nat.le_of_ble_eq_true rfl), (Nat.le_of_ble_eq_true rfl)⟩ ?_
    refine J.callVVL (hp := (dkh g ad rst)) C (put_29 hl _ _) rfl kMl_X5_55 mdX3_put ⟨(Nat.le_of_ble_eq_true rfl), (Nat.le_of_ble_eq_true rfl)⟩ dk_64 rfl rfl (Nat.le_of_ble_eq_true rfl) dX5_remove_27 ⟨(Nat.le_of_ble_eq_true rfl), (Nat.le_of_ble_eq_true rfl)⟩ H (fun s27 H => ?_)
    refine J.iincL C (l2 + (1 : Int32)) dX5_remove_30 rfl rfl (by decide) H (fun z30 H => ?_)
    refine J.goto (tgt := 2) C dX5_remove_33 (by decide) ?_
    refine J.widen (k := 0) (n := 0) (Nat.le_of_ble_eq_true rfl) (Nat.le_of_ble_eq_true rfl) ?_
    refine J.lw (lv' := [(0, .ref (ad 5)), (2, .int z30)]) ⟨rfl, rfl, trivial⟩ ?_
    exact hk_2 _ _  H
def L_X5_remove_2 : Nat → DS → Int32 → Res DS Unit
  | 0, _, _ => none
  | n + 1, σ, l2 => B_X5_remove_2 (L_X5_remove_2 n) σ l2
set_option maxRecDepth 100000 in
theorem lp_X5_remove_2 {l : Launch} (hl : l.stackTraces = false) {g : Gy} {ad : Nat → Nat} {rst : va_W} {p : Program} {e : Env} {s : State} {m : MethodId} {args : Array Value} {below : List Frame} {meth : Method} {c : Code} {A : Nat → Prop} (C : Cx p l s m args meth c g A yX5_remove.cls cX5_remove 3) (hr : meth.sig.returnType = none) (hx : ∀ x ∈ c.exceptionTable.toList, False) {rr : (Unit ⊕ String) × DS} : ∀ (n : Nat) (σ : DS) (l2 : Int32), L_X5_remove_2 n σ l2 = some rr → J p l e (rmOf 2 0 0) s m args below meth c g A 3 0 0 (QR mV g A (dkh g ad rst) rr below args s 0 0) 2 [(0, .ref (ad 5)), (2, .int l2)] [] ((dkh g ad rst) σ) := by
  intro n
  induction n with
  | zero => intro σ l2 H; cases H
  | succ n ih => intro σ l2 H; exact bl_X5_remove_2 hl C hr hx _ ih _ _ H
abbrev mX5_remove : MD := (yX5_remove, cX5_remove, 3, none)
theorem mdX5_remove : MDv mX5_remove RX5 1 := ⟨kIm_X5_remove, kSe_X5_remove, kIn_X5, kCo_X5_remove, by decide +kernel⟩
def P_X5_remove (σ : DS) (a1 : Int32) : Res DS Unit := (lt a1 fun z1 => (L_X5_remove_2 FU σ z1))
set_option maxRecDepth 100000 in
theorem sp_X5_remove {l : Launch} (hl : l.stackTraces = false) {g : Gy} {ad : Nat → Nat} {rst : va_W} {σ : DS} (a1 : Int32) : SpR l mX5_remove 2 0 0 mV g [.ref (ad 5), .int a1] (dkh g ad rst) σ (P_X5_remove σ a1) := by
  refine SpR.of hl (by decide) (Nat.le_of_ble_eq_true rfl) (fun rr H p e s m args below meth c A C hr hx => ?_)
  unfold P_X5_remove at H
  refine J.lw (lv' := [(0, .ref (ad 5)), (1, .int a1)]) ⟨rfl, rfl, trivial⟩ ?_
  refine J.iload_n (i := 1) C dX5_remove_0 rfl rfl ?_
  refine J.istore_nL (i := 2) C dX5_remove_1 rfl (by decide) H (fun z1 H => ?_)
  refine J.widen (k := 0) (n := 0) (Nat.le_of_ble_eq_true rfl) (Nat.le_of_ble_eq_true rfl) ?_
  refine J.lw (lv' := [(0, .ref (ad 5)), (2, .int z1)]) ⟨rfl, rfl, trivial⟩ ?_
  exact lp_X5_remove_2 hl C hr hx  FU _ _  H

/-! X5_endOf -/
def B_X5_endOf_4 (k_4 : DS → Int32 → Int32 → Res DS Int32) (σ : DS) (l2 : Int32) (l3 : Int32) : Res DS Int32 := (if l2 ≤ 0 then (some (.inl l3, σ)) else (if (σ.1 11) ≤ l3 then (some (.inl l3, σ)) else (lt (F_X5_at σ l3) fun z21 => (if (F_X5_isLeaf σ z21) = 0 then (if z21 = (78 : Int32) then (lt (l3 + (1 : Int32)) fun z47 => (k_4 σ l2 z47)) else (lt (l2 + (1 : Int32)) fun z44 => (lt (l3 + (1 : Int32)) fun z47 => (k_4 σ z44 z47)))) else (lt (l2 + (-1 : Int32)) fun z31 => (lt (l3 + (1 : Int32)) fun z47 => (k_4 σ z31 z47)))))))
set_option maxRecDepth 100000 in
theorem bl_X5_endOf_4 {l : Launch} (hl : l.stackTraces = false) {g : Gy} {ad : Nat → Nat} {rst : va_W} {p : Program} {e : Env} {s : State} {m : MethodId} {args : Array Value} {below : List Frame} {meth : Method} {c : Code} {A : Nat → Prop} (C : Cx p l s m args meth c g A yX5_endOf.cls cX5_endOf 5) (hr : meth.sig.returnType = some .int) (hx : ∀ x ∈ c.exceptionTable.toList, False) {rr : (Int32 ⊕ String) × DS} (k_4 : DS → Int32 → Int32 → Res DS Int32) (hk_4 : ∀ (σ : DS) (l2 : Int32) (l3 : Int32), k_4 σ l2 l3 = some rr → J p l e (rmOf 3 0 0) s m args below meth c g A 5 0 0 (QR mI g A (dkh g ad rst) rr below args s 0 0) 4 [(0, .ref (ad 5)), (2, .int l2), (3, .int l3)] [] ((dkh g ad rst) σ)) (σ : DS) (l2 : Int32) (l3 : Int32) (H : B_X5_endOf_4 k_4 σ l2 l3 = some rr) : J p l e (rmOf 3 0 0) s m args below meth c g A 5 0 0 (QR mI g A (dkh g ad rst) rr below args s 0 0) 4 [(0, .ref (ad 5)), (2, .int l2), (3, .int l3)] [] ((dkh g ad rst) σ) := by
  unfold B_X5_endOf_4 at H
  refine J.iload_n (i := 2) C dX5_endOf_4 rfl rfl ?_
  refine J.if_leL (tgt := 53) C dX5_endOf_5 (by decide) H (fun c_5 H => ?_) (fun c_5 H => ?_)
  · refine J.iload_n (i := 3) C dX5_endOf_53 rfl rfl ?_
    exact J.iretL C hr (Nat.le_of_ble_eq_true rfl) (Nat.le_of_ble_eq_true rfl) dX5_endOf_54 H
  · refine J.iload_n (i := 3) C dX5_endOf_8 rfl rfl ?_
    refine J.aload_n (i := 0) C dX5_endOf_9 rfl rfl ?_
    refine J.get C 5 1 dk_5 rfl (by decide) kFl_X5_20 inB_X5 rfl dX5_endOf_10 ?_
    refine J.icmp_geL (tgt := 53) C dX5_endOf_13 (by decide) H (fun c_13 H => ?_) (fun c_13 H => ?_)
    · refine J.iload_n (i := 3) C dX5_endOf_53 rfl rfl ?_
      exact J.iretL C hr (Nat.le_of_ble_eq_true rfl) (Nat.le_of_ble_eq_true rfl) dX5_endOf_54 H
    · refine J.aload_n (i := 0) C dX5_endOf_16 rfl rfl ?_
      refine J.iload_n (i := 3) C dX5_endOf_17 rfl rfl ?_
      refine J.callVI C (sp_X5_at hl _) rfl kMl_X5_52 mdX5_at ⟨(Nat.le_of_ble_eq_true rfl), (Nat.le_of_ble_eq_true rfl)⟩ dk_5 rfl rfl (Nat.le_of_ble_eq_true rfl) dX5_endOf_18 ⟨(Nat.le_of_ble_eq_true rfl), (Nat.le_of_ble_eq_true rfl)⟩ ?_
      refine J.istoreL C dX5_endOf_21 (by decide) H (fun z21 H => ?_)
      refine J.iload C dX5_endOf_23 rfl ?_
      refine J.callSI C (sp_X5_isLeaf hl _) rfl kMl_X5_72 mdX5_isLeaf ⟨(Nat.le_of_ble_eq_true rfl), (Nat.le_of_ble_eq_true rfl)⟩ rfl (Nat.le_of_ble_eq_true rfl) dX5_endOf_25 ⟨(Nat.le_of_ble_eq_true rfl), (Nat.le_of_ble_eq_true rfl)⟩ ?_
      refine J.if_eqL (tgt := 37) C dX5_endOf_28 (by decide) H (fun c_28 H => ?_) (fun c_28 H => ?_)
      · refine J.iload C dX5_endOf_37 rfl ?_
        refine J.bipush C (78) dX5_endOf_39 (by decide) ?_
        refine J.icmp_eqL (tgt := 47) C dX5_endOf_41 (by decide) H (fun c_41 H => ?_) (fun c_41 H => ?_)
        · refine J.iincL C (l3 + (1 : Int32)) dX5_endOf_47 rfl rfl (by decide) H (fun z47 H => ?_)
          refine J.goto (tgt := 4) C dX5_endOf_50 (by decide) ?_
          refine J.widen (k := 0) (n := 0) (Nat.le_of_ble_eq_true rfl) (Nat.le_of_ble_eq_true rfl) ?_
          refine J.lw (lv' := [(0, .ref (ad 5)), (2, .int l2), (3, .int z47)]) ⟨rfl, rfl, rfl, trivial⟩ ?_
          exact hk_4 _ _ _  H
        · refine J.iincL C (l2 + (1 : Int32)) dX5_endOf_44 rfl rfl (by decide) H (fun z44 H => ?_)
          refine J.iincL C (l3 + (1 : Int32)) dX5_endOf_47 rfl rfl (by decide) H (fun z47 H => ?_)
          refine J.goto (tgt := 4) C dX5_endOf_50 (by decide) ?_
          refine J.widen (k := 0) (n := 0) (Nat.le_of_ble_eq_true rfl) (Nat.le_of_ble_eq_true rfl) ?_
          refine J.lw (lv' := [(0, .ref (ad 5)), (2, .int z44), (3, .int z47)]) ⟨rfl, rfl, rfl, trivial⟩ ?_
          exact hk_4 _ _ _  H
      · refine J.iincL C (l2 + (-1 : Int32)) dX5_endOf_31 rfl rfl (by decide) H (fun z31 H => ?_)
        refine J.goto (tgt := 47) C dX5_endOf_34 (by decide) ?_
        refine J.iincL C (l3 + (1 : Int32)) dX5_endOf_47 rfl rfl (by decide) H (fun z47 H => ?_)
        refine J.goto (tgt := 4) C dX5_endOf_50 (by decide) ?_
        refine J.widen (k := 0) (n := 0) (Nat.le_of_ble_eq_true rfl) (Nat.le_of_ble_eq_true rfl) ?_
        refine J.lw (lv' := [(0, .ref (ad 5)), (2, .int z31), (3, .int z47)]) ⟨rfl, rfl, rfl, trivial⟩ ?_
        exact hk_4 _ _ _  H
def L_X5_endOf_4 : Nat → DS → Int32 → Int32 → Res DS Int32
  | 0, _, _, _ => none
  | n + 1, σ, l2, l3 => B_X5_endOf_4 (L_X5_endOf_4 n) σ l2 l3
set_option maxRecDepth 100000 in
theorem lp_X5_endOf_4 {l : Launch} (hl : l.stackTraces = false) {g : Gy} {ad : Nat → Nat} {rst : va_W} {p : Program} {e : Env} {s : State} {m : MethodId} {args : Array Value} {below : List Frame} {meth : Method} {c : Code} {A : Nat → Prop} (C : Cx p l s m args meth c g A yX5_endOf.cls cX5_endOf 5) (hr : meth.sig.returnType = some .int) (hx : ∀ x ∈ c.exceptionTable.toList, False) {rr : (Int32 ⊕ String) × DS} : ∀ (n : Nat) (σ : DS) (l2 : Int32) (l3 : Int32), L_X5_endOf_4 n σ l2 l3 = some rr → J p l e (rmOf 3 0 0) s m args below meth c g A 5 0 0 (QR mI g A (dkh g ad rst) rr below args s 0 0) 4 [(0, .ref (ad 5)), (2, .int l2), (3, .int l3)] [] ((dkh g ad rst) σ) := by
  intro n
  induction n with
  | zero => intro σ l2 l3 H; cases H
  | succ n ih => intro σ l2 l3 H; exact bl_X5_endOf_4 hl C hr hx _ ih _ _ _ H
abbrev mX5_endOf : MD := (yX5_endOf, cX5_endOf, 5, some .int)
theorem mdX5_endOf : MDv mX5_endOf RX5 1 := ⟨kIm_X5_endOf, kSe_X5_endOf, kIn_X5, kCo_X5_endOf, by decide +kernel⟩
def P_X5_endOf (σ : DS) (a1 : Int32) : Res DS Int32 := (lt (1 : Int32) fun z1 => (lt a1 fun z3 => (L_X5_endOf_4 FU σ z1 z3)))
set_option maxRecDepth 100000 in
theorem sp_X5_endOf {l : Launch} (hl : l.stackTraces = false) {g : Gy} {ad : Nat → Nat} {rst : va_W} {σ : DS} (a1 : Int32) : SpR l mX5_endOf 3 0 0 mI g [.ref (ad 5), .int a1] (dkh g ad rst) σ (P_X5_endOf σ a1) := by
  refine SpR.of hl (by decide) (Nat.le_of_ble_eq_true rfl) (fun rr H p e s m args below meth c A C hr hx => ?_)
  unfold P_X5_endOf at H
  refine J.lw (lv' := [(0, .ref (ad 5)), (1, .int a1)]) ⟨rfl, rfl, trivial⟩ ?_
  refine J.iconst C (1) dX5_endOf_0 (by decide) ?_
  refine J.istore_nL (i := 2) C dX5_endOf_1 rfl (by decide) H (fun z1 H => ?_)
  refine J.iload_n (i := 1) C dX5_endOf_2 rfl rfl ?_
  refine J.istore_nL (i := 3) C dX5_endOf_3 rfl (by decide) H (fun z3 H => ?_)
  refine J.widen (k := 0) (n := 0) (Nat.le_of_ble_eq_true rfl) (Nat.le_of_ble_eq_true rfl) ?_
  refine J.lw (lv' := [(0, .ref (ad 5)), (2, .int z1), (3, .int z3)]) ⟨rfl, rfl, rfl, trivial⟩ ?_
  exact lp_X5_endOf_4 hl C hr hx  FU _ _ _  H

/-! X5_moveNegationInward -/
def B_X5_moveNegationInward_24 (σ : DS) (l1 : Int32) (t0 : Int32) (t1 : Int32) : Res DS Unit := (lt (sR σ 29 (rput 64 (σ.2 29) t1 t0)) fun s24 => (lt (sR s24 29 (rput 64 (s24.2 29) (l1 + (1 : Int32)) (78 : Int32))) fun s36 => (bd (P_X5_endOf s36 (l1 + (2 : Int32))) fun r44 s44 => (bd (P_X5_insert s44 r44 (78 : Int32)) fun _ s49 => (some (.inl (), s49))))))
set_option maxRecDepth 100000 in
theorem bl_X5_moveNegationInward_24 {l : Launch} (hl : l.stackTraces = false) {g : Gy} {ad : Nat → Nat} {rst : va_W} {p : Program} {e : Env} {s : State} {m : MethodId} {args : Array Value} {below : List Frame} {meth : Method} {c : Code} {A : Nat → Prop} (C : Cx p l s m args meth c g A yX5_moveNegationInward.cls cX5_moveNegationInward 2) (hr : meth.sig.returnType = none) (hx : ∀ x ∈ c.exceptionTable.toList, False) {rr : (Unit ⊕ String) × DS} (σ : DS) (l1 : Int32) (t0 : Int32) (t1 : Int32) (H : B_X5_moveNegationInward_24 σ l1 t0 t1 = some rr) : J p l e (rmOf 4 0 0) s m args below meth c g A 2 0 0 (QR mV g A (dkh g ad rst) rr below args s 0 0) 24 [(0, .ref (ad 5)), (1, .int l1)] [.int t0, .int t1, .ref (ad 64)] ((dkh g ad rst) σ) := by
  unfold B_X5_moveNegationInward_24 at H
  refine J.callVVL (hp := (dkh g ad rst)) C (put_29 hl _ _) rfl kMl_X5_55 mdX3_put ⟨(Nat.le_of_ble_eq_true rfl), (Nat.le_of_ble_eq_true rfl)⟩ dk_64 rfl rfl (Nat.le_of_ble_eq_true rfl) dX5_moveNegationInward_24 ⟨(Nat.le_of_ble_eq_true rfl), (Nat.le_of_ble_eq_true rfl)⟩ H (fun s24 H => ?_)
  refine J.aload_n (i := 0) C dX5_moveNegationInward_27 rfl rfl ?_
  refine J.get C 5 0 dk_5 rfl (by decide) kFl_X5_16 inB_X5 rfl dX5_moveNegationInward_28 ?_
  refine J.iload_n (i := 1) C dX5_moveNegationInward_31 rfl rfl ?_
  refine J.iconst C (1) dX5_moveNegationInward_32 (by decide) ?_
  refine J.iadd C dX5_moveNegationInward_33 ?_
  refine J.bipush C (78) dX5_moveNegationInward_34 (by decide) ?_
  refine J.callVVL (hp := (dkh g ad rst)) C (put_29 hl _ _) rfl kMl_X5_55 mdX3_put ⟨(Nat.le_of_ble_eq_true rfl), (Nat.le_of_ble_eq_true rfl)⟩ dk_64 rfl rfl (Nat.le_of_ble_eq_true rfl) dX5_moveNegationInward_36 ⟨(Nat.le_of_ble_eq_true rfl), (Nat.le_of_ble_eq_true rfl)⟩ H (fun s36 H => ?_)
  refine J.aload_n (i := 0) C dX5_moveNegationInward_39 rfl rfl ?_
  refine J.aload_n (i := 0) C dX5_moveNegationInward_40 rfl rfl ?_
  refine J.iload_n (i := 1) C dX5_moveNegationInward_41 rfl rfl ?_
  refine J.iconst C (2) dX5_moveNegationInward_42 (by decide) ?_
  refine J.iadd C dX5_moveNegationInward_43 ?_
  refine J.callVBI (hp := (dkh g ad rst)) C rfl (sp_X5_endOf hl _) rfl kMl_X5_69 mdX5_endOf ⟨(Nat.le_of_ble_eq_true rfl), (Nat.le_of_ble_eq_true rfl)⟩ dk_5 rfl rfl (Nat.le_of_ble_eq_true rfl) dX5_moveNegationInward_44 ⟨(Nat.le_of_ble_eq_true rfl), (Nat.le_of_ble_eq_true rfl)⟩ hx (Nat.le_of_ble_eq_true rfl) (Nat.le_of_ble_eq_true rfl) H (fun r44 s44 H => ?_)
  refine J.bipush C (78) dX5_moveNegationInward_47 (by decide) ?_
  refine J.callVBV (hp := (dkh g ad rst)) C rfl (sp_X5_insert hl _ _) rfl kMl_X5_28 mdX5_insert ⟨(Nat.le_of_ble_eq_true rfl), (Nat.le_of_ble_eq_true rfl)⟩ dk_5 rfl rfl (Nat.le_of_ble_eq_true rfl) dX5_moveNegationInward_49 ⟨(Nat.le_of_ble_eq_true rfl), (Nat.le_of_ble_eq_true rfl)⟩ hx (Nat.le_of_ble_eq_true rfl) (Nat.le_of_ble_eq_true rfl) H (fun _ s49 H => ?_)
  exact J.vretL C hr (Nat.le_of_ble_eq_true rfl) (Nat.le_of_ble_eq_true rfl) dX5_moveNegationInward_52 H
abbrev mX5_moveNegationInward : MD := (yX5_moveNegationInward, cX5_moveNegationInward, 2, none)
theorem mdX5_moveNegationInward : MDv mX5_moveNegationInward RX5 1 := ⟨kIm_X5_moveNegationInward, kSe_X5_moveNegationInward, kIn_X5, kCo_X5_moveNegationInward, by decide +kernel⟩
def P_X5_moveNegationInward (σ : DS) (a1 : Int32) : Res DS Unit := (if (F_X5_at σ (a1 + (1 : Int32))) = (75 : Int32) then (B_X5_moveNegationInward_24 σ a1 (65 : Int32) a1) else (B_X5_moveNegationInward_24 σ a1 (75 : Int32) a1))
set_option maxRecDepth 100000 in
theorem sp_X5_moveNegationInward {l : Launch} (hl : l.stackTraces = false) {g : Gy} {ad : Nat → Nat} {rst : va_W} {σ : DS} (a1 : Int32) : SpR l mX5_moveNegationInward 4 0 0 mV g [.ref (ad 5), .int a1] (dkh g ad rst) σ (P_X5_moveNegationInward σ a1) := by
  refine SpR.of hl (by decide) (Nat.le_of_ble_eq_true rfl) (fun rr H p e s m args below meth c A C hr hx => ?_)
  unfold P_X5_moveNegationInward at H
  refine J.lw (lv' := [(0, .ref (ad 5)), (1, .int a1)]) ⟨rfl, rfl, trivial⟩ ?_
  refine J.aload_n (i := 0) C dX5_moveNegationInward_0 rfl rfl ?_
  refine J.get C 5 0 dk_5 rfl (by decide) kFl_X5_16 inB_X5 rfl dX5_moveNegationInward_1 ?_
  refine J.iload_n (i := 1) C dX5_moveNegationInward_4 rfl rfl ?_
  refine J.aload_n (i := 0) C dX5_moveNegationInward_5 rfl rfl ?_
  refine J.iload_n (i := 1) C dX5_moveNegationInward_6 rfl rfl ?_
  refine J.iconst C (1) dX5_moveNegationInward_7 (by decide) ?_
  refine J.iadd C dX5_moveNegationInward_8 ?_
  refine J.callVI C (sp_X5_at hl _) rfl kMl_X5_52 mdX5_at ⟨(Nat.le_of_ble_eq_true rfl), (Nat.le_of_ble_eq_true rfl)⟩ dk_5 rfl rfl (Nat.le_of_ble_eq_true rfl) dX5_moveNegationInward_9 ⟨(Nat.le_of_ble_eq_true rfl), (Nat.le_of_ble_eq_true rfl)⟩ ?_
  refine J.bipush C (75) dX5_moveNegationInward_12 (by decide) ?_
  refine J.icmp_neL (tgt := 22) C dX5_moveNegationInward_14 (by decide) H (fun c_14 H => ?_) (fun c_14 H => ?_)
  · refine J.bipush C (75) dX5_moveNegationInward_22 (by decide) ?_
    refine J.widen (k := 0) (n := 0) (Nat.le_of_ble_eq_true rfl) (Nat.le_of_ble_eq_true rfl) ?_
    refine J.lw (lv' := [(0, .ref (ad 5)), (1, .int a1)]) ⟨rfl, rfl, trivial⟩ ?_
    exact bl_X5_moveNegationInward_24 hl C hr hx  _ _ _ _  H
  · refine J.bipush C (65) dX5_moveNegationInward_17 (by decide) ?_
    refine J.goto (tgt := 24) C dX5_moveNegationInward_19 (by decide) ?_
    refine J.widen (k := 0) (n := 0) (Nat.le_of_ble_eq_true rfl) (Nat.le_of_ble_eq_true rfl) ?_
    refine J.lw (lv' := [(0, .ref (ad 5)), (1, .int a1)]) ⟨rfl, rfl, trivial⟩ ?_
    exact bl_X5_moveNegationInward_24 hl C hr hx  _ _ _ _  H

/-! X5_step -/
def B_X5_step_75 (k_2 : DS → Int32 → Res DS Int32) (σ : DS) (l1 : Int32) (l2 : Int32) (l3 : Int32) : Res DS Int32 := (if l2 = (78 : Int32) then (if l3 = (75 : Int32) then (bd (P_X5_moveNegationInward σ l1) fun _ s95 => (some (.inl (1 : Int32), s95))) else (if l3 = (65 : Int32) then (bd (P_X5_moveNegationInward σ l1) fun _ s95 => (some (.inl (1 : Int32), s95))) else (lt (l1 + (1 : Int32)) fun z100 => (k_2 σ z100)))) else (lt (l1 + (1 : Int32)) fun z100 => (k_2 σ z100)))
set_option maxRecDepth 100000 in
theorem bl_X5_step_75 {l : Launch} (hl : l.stackTraces = false) {g : Gy} {ad : Nat → Nat} {rst : va_W} {p : Program} {e : Env} {s : State} {m : MethodId} {args : Array Value} {below : List Frame} {meth : Method} {c : Code} {A : Nat → Prop} (C : Cx p l s m args meth c g A yX5_step.cls cX5_step 4) (hr : meth.sig.returnType = some .boolean) (hx : ∀ x ∈ c.exceptionTable.toList, False) {rr : (Int32 ⊕ String) × DS} (k_2 : DS → Int32 → Res DS Int32) (hk_2 : ∀ (σ : DS) (l1 : Int32), k_2 σ l1 = some rr → J p l e (rmOf 5 0 0) s m args below meth c g A 4 0 0 (QR mI g A (dkh g ad rst) rr below args s 0 0) 2 [(0, .ref (ad 5)), (1, .int l1)] [] ((dkh g ad rst) σ)) (σ : DS) (l1 : Int32) (l2 : Int32) (l3 : Int32) (H : B_X5_step_75 k_2 σ l1 l2 l3 = some rr) : J p l e (rmOf 5 0 0) s m args below meth c g A 4 0 0 (QR mI g A (dkh g ad rst) rr below args s 0 0) 75 [(0, .ref (ad 5)), (1, .int l1), (2, .int l2), (3, .int l3)] [] ((dkh g ad rst) σ) := by
  unfold B_X5_step_75 at H
  refine J.iload_n (i := 2) C dX5_step_75 rfl rfl ?_
  refine J.bipush C (78) dX5_step_76 (by decide) ?_
  refine J.icmp_neL (tgt := 100) C dX5_step_78 (by decide) H (fun c_78 H => ?_) (fun c_78 H => ?_)
  · refine J.iincL C (l1 + (1 : Int32)) dX5_step_100 rfl rfl (by decide) H (fun z100 H => ?_)
    refine J.goto (tgt := 2) C dX5_step_103 (by decide) ?_
    refine J.widen (k := 0) (n := 0) (Nat.le_of_ble_eq_true rfl) (Nat.le_of_ble_eq_true rfl) ?_
    refine J.lw (lv' := [(0, .ref (ad 5)), (1, .int z100)]) ⟨rfl, rfl, trivial⟩ ?_
    exact hk_2 _ _  H
  · refine J.iload_n (i := 3) C dX5_step_81 rfl rfl ?_
    refine J.bipush C (75) dX5_step_82 (by decide) ?_
    refine J.icmp_eqL (tgt := 93) C dX5_step_84 (by decide) H (fun c_84 H => ?_) (fun c_84 H => ?_)
    · refine J.aload_n (i := 0) C dX5_step_93 rfl rfl ?_
      refine J.iload_n (i := 1) C dX5_step_94 rfl rfl ?_
      refine J.callVBV (hp := (dkh g ad rst)) C rfl (sp_X5_moveNegationInward hl _) rfl kMl_X5_62 mdX5_moveNegationInward ⟨(Nat.le_of_ble_eq_true rfl), (Nat.le_of_ble_eq_true rfl)⟩ dk_5 rfl rfl (Nat.le_of_ble_eq_true rfl) dX5_step_95 ⟨(Nat.le_of_ble_eq_true rfl), (Nat.le_of_ble_eq_true rfl)⟩ hx (Nat.le_of_ble_eq_true rfl) (Nat.le_of_ble_eq_true rfl) H (fun _ s95 H => ?_)
      refine J.iconst C (1) dX5_step_98 (by decide) ?_
      exact J.zretL C hr rfl (Nat.le_of_ble_eq_true rfl) (Nat.le_of_ble_eq_true rfl) dX5_step_99 H
    · refine J.iload_n (i := 3) C dX5_step_87 rfl rfl ?_
      refine J.bipush C (65) dX5_step_88 (by decide) ?_
      refine J.icmp_neL (tgt := 100) C dX5_step_90 (by decide) H (fun c_90 H => ?_) (fun c_90 H => ?_)
      · refine J.iincL C (l1 + (1 : Int32)) dX5_step_100 rfl rfl (by decide) H (fun z100 H => ?_)
        refine J.goto (tgt := 2) C dX5_step_103 (by decide) ?_
        refine J.widen (k := 0) (n := 0) (Nat.le_of_ble_eq_true rfl) (Nat.le_of_ble_eq_true rfl) ?_
        refine J.lw (lv' := [(0, .ref (ad 5)), (1, .int z100)]) ⟨rfl, rfl, trivial⟩ ?_
        exact hk_2 _ _  H
      · refine J.aload_n (i := 0) C dX5_step_93 rfl rfl ?_
        refine J.iload_n (i := 1) C dX5_step_94 rfl rfl ?_
        refine J.callVBV (hp := (dkh g ad rst)) C rfl (sp_X5_moveNegationInward hl _) rfl kMl_X5_62 mdX5_moveNegationInward ⟨(Nat.le_of_ble_eq_true rfl), (Nat.le_of_ble_eq_true rfl)⟩ dk_5 rfl rfl (Nat.le_of_ble_eq_true rfl) dX5_step_95 ⟨(Nat.le_of_ble_eq_true rfl), (Nat.le_of_ble_eq_true rfl)⟩ hx (Nat.le_of_ble_eq_true rfl) (Nat.le_of_ble_eq_true rfl) H (fun _ s95 H => ?_)
        refine J.iconst C (1) dX5_step_98 (by decide) ?_
        exact J.zretL C hr rfl (Nat.le_of_ble_eq_true rfl) (Nat.le_of_ble_eq_true rfl) dX5_step_99 H
def B_X5_step_2 (k_2 : DS → Int32 → Res DS Int32) (σ : DS) (l1 : Int32) : Res DS Int32 := (if (σ.1 11) ≤ l1 then (some (.inl (0 : Int32), σ)) else (lt (F_X5_at σ l1) fun z15 => (lt (F_X5_at σ (l1 + (1 : Int32))) fun z23 => (if z15 = (67 : Int32) then (lt (sR σ 29 (rput 64 (σ.2 29) l1 (65 : Int32))) fun s37 => (bd (P_X5_insert s37 (l1 + (1 : Int32)) (78 : Int32)) fun _ s46 => (some (.inl (1 : Int32), s46)))) else (if z15 = (78 : Int32) then (if z23 = (78 : Int32) then (bd (P_X5_remove σ l1) fun _ s65 => (bd (P_X5_remove s65 l1) fun _ s70 => (some (.inl (1 : Int32), s70)))) else (B_X5_step_75 k_2 σ l1 z15 z23)) else (B_X5_step_75 k_2 σ l1 z15 z23))))))
set_option maxRecDepth 100000 in
theorem bl_X5_step_2 {l : Launch} (hl : l.stackTraces = false) {g : Gy} {ad : Nat → Nat} {rst : va_W} {p : Program} {e : Env} {s : State} {m : MethodId} {args : Array Value} {below : List Frame} {meth : Method} {c : Code} {A : Nat → Prop} (C : Cx p l s m args meth c g A yX5_step.cls cX5_step 4) (hr : meth.sig.returnType = some .boolean) (hx : ∀ x ∈ c.exceptionTable.toList, False) {rr : (Int32 ⊕ String) × DS} (k_2 : DS → Int32 → Res DS Int32) (hk_2 : ∀ (σ : DS) (l1 : Int32), k_2 σ l1 = some rr → J p l e (rmOf 5 0 0) s m args below meth c g A 4 0 0 (QR mI g A (dkh g ad rst) rr below args s 0 0) 2 [(0, .ref (ad 5)), (1, .int l1)] [] ((dkh g ad rst) σ)) (σ : DS) (l1 : Int32) (H : B_X5_step_2 k_2 σ l1 = some rr) : J p l e (rmOf 5 0 0) s m args below meth c g A 4 0 0 (QR mI g A (dkh g ad rst) rr below args s 0 0) 2 [(0, .ref (ad 5)), (1, .int l1)] [] ((dkh g ad rst) σ) := by
  unfold B_X5_step_2 at H
  refine J.iload_n (i := 1) C dX5_step_2 rfl rfl ?_
  refine J.aload_n (i := 0) C dX5_step_3 rfl rfl ?_
  refine J.get C 5 1 dk_5 rfl (by decide) kFl_X5_20 inB_X5 rfl dX5_step_4 ?_
  refine J.icmp_geL (tgt := 106) C dX5_step_7 (by decide) H (fun c_7 H => ?_) (fun c_7 H => ?_)
  · refine J.iconst C (0) dX5_step_106 (by decide) ?_
    exact J.zretL C hr rfl (Nat.le_of_ble_eq_true rfl) (Nat.le_of_ble_eq_true rfl) dX5_step_107 H
  · refine J.aload_n (i := 0) C dX5_step_10 rfl rfl ?_
    refine J.iload_n (i := 1) C dX5_step_11 rfl rfl ?_
    refine J.callVI C (sp_X5_at hl _) rfl kMl_X5_52 mdX5_at ⟨(Nat.le_of_ble_eq_true rfl), (Nat.le_of_ble_eq_true rfl)⟩ dk_5 rfl rfl (Nat.le_of_ble_eq_true rfl) dX5_step_12 ⟨(Nat.le_of_ble_eq_true rfl), (Nat.le_of_ble_eq_true rfl)⟩ ?_
    refine J.istore_nL (i := 2) C dX5_step_15 rfl (by decide) H (fun z15 H => ?_)
    refine J.aload_n (i := 0) C dX5_step_16 rfl rfl ?_
    refine J.iload_n (i := 1) C dX5_step_17 rfl rfl ?_
    refine J.iconst C (1) dX5_step_18 (by decide) ?_
    refine J.iadd C dX5_step_19 ?_
    refine J.callVI C (sp_X5_at hl _) rfl kMl_X5_52 mdX5_at ⟨(Nat.le_of_ble_eq_true rfl), (Nat.le_of_ble_eq_true rfl)⟩ dk_5 rfl rfl (Nat.le_of_ble_eq_true rfl) dX5_step_20 ⟨(Nat.le_of_ble_eq_true rfl), (Nat.le_of_ble_eq_true rfl)⟩ ?_
    refine J.istore_nL (i := 3) C dX5_step_23 rfl (by decide) H (fun z23 H => ?_)
    refine J.iload_n (i := 2) C dX5_step_24 rfl rfl ?_
    refine J.bipush C (67) dX5_step_25 (by decide) ?_
    refine J.icmp_neL (tgt := 51) C dX5_step_27 (by decide) H (fun c_27 H => ?_) (fun c_27 H => ?_)
    · refine J.iload_n (i := 2) C dX5_step_51 rfl rfl ?_
      refine J.bipush C (78) dX5_step_52 (by decide) ?_
      refine J.icmp_neL (tgt := 75) C dX5_step_54 (by decide) H (fun c_54 H => ?_) (fun c_54 H => ?_)
      · refine J.widen (k := 0) (n := 0) (Nat.le_of_ble_eq_true rfl) (Nat.le_of_ble_eq_true rfl) ?_
        refine J.lw (lv' := [(0, .ref (ad 5)), (1, .int l1), (2, .int z15), (3, .int z23)]) ⟨rfl, rfl, rfl, rfl, trivial⟩ ?_
        exact bl_X5_step_75 hl C hr hx k_2 hk_2 _ _ _ _  H
      · refine J.iload_n (i := 3) C dX5_step_57 rfl rfl ?_
        refine J.bipush C (78) dX5_step_58 (by decide) ?_
        refine J.icmp_neL (tgt := 75) C dX5_step_60 (by decide) H (fun c_60 H => ?_) (fun c_60 H => ?_)
        · refine J.widen (k := 0) (n := 0) (Nat.le_of_ble_eq_true rfl) (Nat.le_of_ble_eq_true rfl) ?_
          refine J.lw (lv' := [(0, .ref (ad 5)), (1, .int l1), (2, .int z15), (3, .int z23)]) ⟨rfl, rfl, rfl, rfl, trivial⟩ ?_
          exact bl_X5_step_75 hl C hr hx k_2 hk_2 _ _ _ _  H
        · refine J.aload_n (i := 0) C dX5_step_63 rfl rfl ?_
          refine J.iload_n (i := 1) C dX5_step_64 rfl rfl ?_
          refine J.callVBV (hp := (dkh g ad rst)) C rfl (sp_X5_remove hl _) rfl kMl_X5_59 mdX5_remove ⟨(Nat.le_of_ble_eq_true rfl), (Nat.le_of_ble_eq_true rfl)⟩ dk_5 rfl rfl (Nat.le_of_ble_eq_true rfl) dX5_step_65 ⟨(Nat.le_of_ble_eq_true rfl), (Nat.le_of_ble_eq_true rfl)⟩ hx (Nat.le_of_ble_eq_true rfl) (Nat.le_of_ble_eq_true rfl) H (fun _ s65 H => ?_)
          refine J.aload_n (i := 0) C dX5_step_68 rfl rfl ?_
          refine J.iload_n (i := 1) C dX5_step_69 rfl rfl ?_
          refine J.callVBV (hp := (dkh g ad rst)) C rfl (sp_X5_remove hl _) rfl kMl_X5_59 mdX5_remove ⟨(Nat.le_of_ble_eq_true rfl), (Nat.le_of_ble_eq_true rfl)⟩ dk_5 rfl rfl (Nat.le_of_ble_eq_true rfl) dX5_step_70 ⟨(Nat.le_of_ble_eq_true rfl), (Nat.le_of_ble_eq_true rfl)⟩ hx (Nat.le_of_ble_eq_true rfl) (Nat.le_of_ble_eq_true rfl) H (fun _ s70 H => ?_)
          refine J.iconst C (1) dX5_step_73 (by decide) ?_
          exact J.zretL C hr rfl (Nat.le_of_ble_eq_true rfl) (Nat.le_of_ble_eq_true rfl) dX5_step_74 H
    · refine J.aload_n (i := 0) C dX5_step_30 rfl rfl ?_
      refine J.get C 5 0 dk_5 rfl (by decide) kFl_X5_16 inB_X5 rfl dX5_step_31 ?_
      refine J.iload_n (i := 1) C dX5_step_34 rfl rfl ?_
      refine J.bipush C (65) dX5_step_35 (by decide) ?_
      refine J.callVVL (hp := (dkh g ad rst)) C (put_29 hl _ _) rfl kMl_X5_55 mdX3_put ⟨(Nat.le_of_ble_eq_true rfl), (Nat.le_of_ble_eq_true rfl)⟩ dk_64 rfl rfl (Nat.le_of_ble_eq_true rfl) dX5_step_37 ⟨(Nat.le_of_ble_eq_true rfl), (Nat.le_of_ble_eq_true rfl)⟩ H (fun s37 H => ?_)
      refine J.aload_n (i := 0) C dX5_step_40 rfl rfl ?_
      refine J.iload_n (i := 1) C dX5_step_41 rfl rfl ?_
      refine J.iconst C (1) dX5_step_42 (by decide) ?_
      refine J.iadd C dX5_step_43 ?_
      refine J.bipush C (78) dX5_step_44 (by decide) ?_
      refine J.callVBV (hp := (dkh g ad rst)) C rfl (sp_X5_insert hl _ _) rfl kMl_X5_28 mdX5_insert ⟨(Nat.le_of_ble_eq_true rfl), (Nat.le_of_ble_eq_true rfl)⟩ dk_5 rfl rfl (Nat.le_of_ble_eq_true rfl) dX5_step_46 ⟨(Nat.le_of_ble_eq_true rfl), (Nat.le_of_ble_eq_true rfl)⟩ hx (Nat.le_of_ble_eq_true rfl) (Nat.le_of_ble_eq_true rfl) H (fun _ s46 H => ?_)
      refine J.iconst C (1) dX5_step_49 (by decide) ?_
      exact J.zretL C hr rfl (Nat.le_of_ble_eq_true rfl) (Nat.le_of_ble_eq_true rfl) dX5_step_50 H
def L_X5_step_2 : Nat → DS → Int32 → Res DS Int32
  | 0, _, _ => none
  | n + 1, σ, l1 => B_X5_step_2 (L_X5_step_2 n) σ l1
set_option maxRecDepth 100000 in
theorem lp_X5_step_2 {l : Launch} (hl : l.stackTraces = false) {g : Gy} {ad : Nat → Nat} {rst : va_W} {p : Program} {e : Env} {s : State} {m : MethodId} {args : Array Value} {below : List Frame} {meth : Method} {c : Code} {A : Nat → Prop} (C : Cx p l s m args meth c g A yX5_step.cls cX5_step 4) (hr : meth.sig.returnType = some .boolean) (hx : ∀ x ∈ c.exceptionTable.toList, False) {rr : (Int32 ⊕ String) × DS} : ∀ (n : Nat) (σ : DS) (l1 : Int32), L_X5_step_2 n σ l1 = some rr → J p l e (rmOf 5 0 0) s m args below meth c g A 4 0 0 (QR mI g A (dkh g ad rst) rr below args s 0 0) 2 [(0, .ref (ad 5)), (1, .int l1)] [] ((dkh g ad rst) σ) := by
  intro n
  induction n with
  | zero => intro σ l1 H; cases H
  | succ n ih => intro σ l1 H; exact bl_X5_step_2 hl C hr hx _ ih _ _ H
abbrev mX5_step : MD := (yX5_step, cX5_step, 4, some .boolean)
theorem mdX5_step : MDv mX5_step RX5 0 := ⟨kIm_X5_step, kSe_X5_step, kIn_X5, kCo_X5_step, by decide +kernel⟩
def P_X5_step (σ : DS)  : Res DS Int32 := (lt (0 : Int32) fun z1 => (L_X5_step_2 FU σ z1))
set_option maxRecDepth 100000 in
theorem sp_X5_step {l : Launch} (hl : l.stackTraces = false) {g : Gy} {ad : Nat → Nat} {rst : va_W} {σ : DS}  : SpR l mX5_step 5 0 0 mI g [.ref (ad 5)] (dkh g ad rst) σ (P_X5_step σ ) := by
  refine SpR.of hl (by decide) (Nat.le_of_ble_eq_true rfl) (fun rr H p e s m args below meth c A C hr hx => ?_)
  unfold P_X5_step at H
  refine J.lw (lv' := [(0, .ref (ad 5))]) ⟨rfl, trivial⟩ ?_
  refine J.iconst C (0) dX5_step_0 (by decide) ?_
  refine J.istore_nL (i := 1) C dX5_step_1 rfl (by decide) H (fun z1 H => ?_)
  refine J.widen (k := 0) (n := 0) (Nat.le_of_ble_eq_true rfl) (Nat.le_of_ble_eq_true rfl) ?_
  refine J.lw (lv' := [(0, .ref (ad 5)), (1, .int z1)]) ⟨rfl, rfl, trivial⟩ ?_
  exact lp_X5_step_2 hl C hr hx  FU _ _  H

/-! X5_stepToEnd -/
def B_X5_stepToEnd_2 (k_2 : DS → Int32 → Res DS Int32) (σ : DS) (l1 : Int32) : Res DS Int32 := (if (1000 : Int32) ≤ l1 then (some (.inl l1, σ)) else (bd (P_X5_step σ ) fun r10 s10 => (if r10 = 0 then (some (.inl l1, s10)) else (lt (l1 + (1 : Int32)) fun z16 => (k_2 s10 z16)))))
set_option maxRecDepth 100000 in
theorem bl_X5_stepToEnd_2 {l : Launch} (hl : l.stackTraces = false) {g : Gy} {ad : Nat → Nat} {rst : va_W} {p : Program} {e : Env} {s : State} {m : MethodId} {args : Array Value} {below : List Frame} {meth : Method} {c : Code} {A : Nat → Prop} (C : Cx p l s m args meth c g A yX5_stepToEnd.cls cX5_stepToEnd 2) (hr : meth.sig.returnType = some .int) (hx : ∀ x ∈ c.exceptionTable.toList, False) {rr : (Int32 ⊕ String) × DS} (k_2 : DS → Int32 → Res DS Int32) (hk_2 : ∀ (σ : DS) (l1 : Int32), k_2 σ l1 = some rr → J p l e (rmOf 6 0 0) s m args below meth c g A 2 0 0 (QR mI g A (dkh g ad rst) rr below args s 0 0) 2 [(0, .ref (ad 5)), (1, .int l1)] [] ((dkh g ad rst) σ)) (σ : DS) (l1 : Int32) (H : B_X5_stepToEnd_2 k_2 σ l1 = some rr) : J p l e (rmOf 6 0 0) s m args below meth c g A 2 0 0 (QR mI g A (dkh g ad rst) rr below args s 0 0) 2 [(0, .ref (ad 5)), (1, .int l1)] [] ((dkh g ad rst) σ) := by
  unfold B_X5_stepToEnd_2 at H
  refine J.iload_n (i := 1) C dX5_stepToEnd_2 rfl rfl ?_
  refine J.sipush C (1000) dX5_stepToEnd_3 (by decide) ?_
  refine J.icmp_geL (tgt := 22) C dX5_stepToEnd_6 (by decide) H (fun c_6 H => ?_) (fun c_6 H => ?_)
  · refine J.iload_n (i := 1) C dX5_stepToEnd_22 rfl rfl ?_
    exact J.iretL C hr (Nat.le_of_ble_eq_true rfl) (Nat.le_of_ble_eq_true rfl) dX5_stepToEnd_23 H
  · refine J.aload_n (i := 0) C dX5_stepToEnd_9 rfl rfl ?_
    refine J.callVBI (hp := (dkh g ad rst)) C rfl (sp_X5_step hl ) rfl kMl_X5_65 mdX5_step ⟨(Nat.le_of_ble_eq_true rfl), (Nat.le_of_ble_eq_true rfl)⟩ dk_5 rfl rfl (Nat.le_of_ble_eq_true rfl) dX5_stepToEnd_10 ⟨(Nat.le_of_ble_eq_true rfl), (Nat.le_of_ble_eq_true rfl)⟩ hx (Nat.le_of_ble_eq_true rfl) (Nat.le_of_ble_eq_true rfl) H (fun r10 s10 H => ?_)
    refine J.if_eqL (tgt := 22) C dX5_stepToEnd_13 (by decide) H (fun c_13 H => ?_) (fun c_13 H => ?_)
    · refine J.iload_n (i := 1) C dX5_stepToEnd_22 rfl rfl ?_
      exact J.iretL C hr (Nat.le_of_ble_eq_true rfl) (Nat.le_of_ble_eq_true rfl) dX5_stepToEnd_23 H
    · refine J.iincL C (l1 + (1 : Int32)) dX5_stepToEnd_16 rfl rfl (by decide) H (fun z16 H => ?_)
      refine J.goto (tgt := 2) C dX5_stepToEnd_19 (by decide) ?_
      refine J.widen (k := 0) (n := 0) (Nat.le_of_ble_eq_true rfl) (Nat.le_of_ble_eq_true rfl) ?_
      refine J.lw (lv' := [(0, .ref (ad 5)), (1, .int z16)]) ⟨rfl, rfl, trivial⟩ ?_
      exact hk_2 _ _  H
def L_X5_stepToEnd_2 : Nat → DS → Int32 → Res DS Int32
  | 0, _, _ => none
  | n + 1, σ, l1 => B_X5_stepToEnd_2 (L_X5_stepToEnd_2 n) σ l1
set_option maxRecDepth 100000 in
theorem lp_X5_stepToEnd_2 {l : Launch} (hl : l.stackTraces = false) {g : Gy} {ad : Nat → Nat} {rst : va_W} {p : Program} {e : Env} {s : State} {m : MethodId} {args : Array Value} {below : List Frame} {meth : Method} {c : Code} {A : Nat → Prop} (C : Cx p l s m args meth c g A yX5_stepToEnd.cls cX5_stepToEnd 2) (hr : meth.sig.returnType = some .int) (hx : ∀ x ∈ c.exceptionTable.toList, False) {rr : (Int32 ⊕ String) × DS} : ∀ (n : Nat) (σ : DS) (l1 : Int32), L_X5_stepToEnd_2 n σ l1 = some rr → J p l e (rmOf 6 0 0) s m args below meth c g A 2 0 0 (QR mI g A (dkh g ad rst) rr below args s 0 0) 2 [(0, .ref (ad 5)), (1, .int l1)] [] ((dkh g ad rst) σ) := by
  intro n
  induction n with
  | zero => intro σ l1 H; cases H
  | succ n ih => intro σ l1 H; exact bl_X5_stepToEnd_2 hl C hr hx _ ih _ _ H
abbrev mX5_stepToEnd : MD := (yX5_stepToEnd, cX5_stepToEnd, 2, some .int)
theorem mdX5_stepToEnd : MDv mX5_stepToEnd RX5 0 := ⟨kIm_X5_stepToEnd, kSe_X5_stepToEnd, kIn_X5, kCo_X5_stepToEnd, by decide +kernel⟩
def P_X5_stepToEnd (σ : DS)  : Res DS Int32 := (lt (0 : Int32) fun z1 => (L_X5_stepToEnd_2 FU σ z1))
set_option maxRecDepth 100000 in
theorem sp_X5_stepToEnd {l : Launch} (hl : l.stackTraces = false) {g : Gy} {ad : Nat → Nat} {rst : va_W} {σ : DS}  : SpR l mX5_stepToEnd 6 0 0 mI g [.ref (ad 5)] (dkh g ad rst) σ (P_X5_stepToEnd σ ) := by
  refine SpR.of hl (by decide) (Nat.le_of_ble_eq_true rfl) (fun rr H p e s m args below meth c A C hr hx => ?_)
  unfold P_X5_stepToEnd at H
  refine J.lw (lv' := [(0, .ref (ad 5))]) ⟨rfl, trivial⟩ ?_
  refine J.iconst C (0) dX5_stepToEnd_0 (by decide) ?_
  refine J.istore_nL (i := 1) C dX5_stepToEnd_1 rfl (by decide) H (fun z1 H => ?_)
  refine J.widen (k := 0) (n := 0) (Nat.le_of_ble_eq_true rfl) (Nat.le_of_ble_eq_true rfl) ?_
  refine J.lw (lv' := [(0, .ref (ad 5)), (1, .int z1)]) ⟨rfl, rfl, trivial⟩ ?_
  exact lp_X5_stepToEnd_2 hl C hr hx  FU _ _  H

