/-! X1_has -/
abbrev mX1_has : MD := (yX1_has, cX1_has, 2, some .boolean)
theorem mdX1_has : MDv mX1_has RX1 1 := ⟨kIm_X1_has, kSe_X1_has, kIn_X1, kCo_X1_has, by decide +kernel⟩
def F_X1_has (σ : DS) (a1 : Int32) : Int32 := (if a1 < 0 then (0 : Int32) else (if (σ.1 5) ≤ a1 then (0 : Int32) else (1 : Int32)))
set_option maxRecDepth 100000 in
theorem sp_X1_has {l : Launch} (hl : l.stackTraces = false) {g : Gy} {ad : Nat → Nat} {rst : va_W} {σ : DS} (a1 : Int32) : SpF l mX1_has 1 0 0 mI g [.ref (ad 3), .int a1] ((dkh g ad rst) σ) (F_X1_has σ a1) ((dkh g ad rst) σ) := by
  generalize H : F_X1_has σ a1 = r0
  unfold F_X1_has at H
  refine Sp.of hl (by decide) (Nat.le_of_ble_eq_true rfl) (fun p e s m args below meth c A C hr hx => ?_)
  refine J.lw (lv' := [(0, .ref (ad 3)), (1, .int a1)]) ⟨rfl, rfl, trivial⟩ ?_
  refine J.iload_n (i := 1) C dX1_has_0 rfl rfl ?_
  refine J.if_ltL (tgt := 16) C dX1_has_1 (by decide) H (fun c_1 H => ?_) (fun c_1 H => ?_)
  · refine J.iconst C (0) dX1_has_16 (by decide) ?_
    exact J.zretA C hr rfl (Nat.le_refl _) (Nat.le_refl _) dX1_has_17 H
  · refine J.iload_n (i := 1) C dX1_has_4 rfl rfl ?_
    refine J.aload_n (i := 0) C dX1_has_5 rfl rfl ?_
    refine J.get C 3 7 dk_3 rfl (by decide) kFl_X1_42 inB_X1 rfl dX1_has_6 ?_
    refine J.icmp_geL (tgt := 16) C dX1_has_9 (by decide) H (fun c_9 H => ?_) (fun c_9 H => ?_)
    · refine J.iconst C (0) dX1_has_16 (by decide) ?_
      exact J.zretA C hr rfl (Nat.le_refl _) (Nat.le_refl _) dX1_has_17 H
    · refine J.iconst C (1) dX1_has_12 (by decide) ?_
      refine J.goto (tgt := 17) C dX1_has_13 (by decide) ?_
      exact J.zretA C hr rfl (Nat.le_refl _) (Nat.le_refl _) dX1_has_17 H
theorem nr_X1_has (σ : DS) (a1 : Int32) : narrow .boolean (.int (F_X1_has σ a1)) = .int (F_X1_has σ a1) := by
  unfold F_X1_has
  try simp only [lt]
  repeat' split
  all_goals first | rfl | exact pk_nc _ | (first | rfl)

/-! X1_premiseCount -/
abbrev mX1_premiseCount : MD := (yX1_premiseCount, cX1_premiseCount, 2, some .int)
theorem mdX1_premiseCount : MDv mX1_premiseCount RX1 1 := ⟨kIm_X1_premiseCount, kSe_X1_premiseCount, kIn_X1, kCo_X1_premiseCount, by decide +kernel⟩
def F_X1_premiseCount (σ : DS) (a1 : Int32) : Int32 := (rat 8 (σ.2 20) a1)
set_option maxRecDepth 100000 in
theorem sp_X1_premiseCount {l : Launch} (hl : l.stackTraces = false) {g : Gy} {ad : Nat → Nat} {rst : va_W} {σ : DS} (a1 : Int32) : SpF l mX1_premiseCount 2 0 0 mI g [.ref (ad 3), .int a1] ((dkh g ad rst) σ) (F_X1_premiseCount σ a1) ((dkh g ad rst) σ) := by
  generalize H : F_X1_premiseCount σ a1 = r0
  unfold F_X1_premiseCount at H
  refine Sp.of hl (by decide) (Nat.le_of_ble_eq_true rfl) (fun p e s m args below meth c A C hr hx => ?_)
  refine J.lw (lv' := [(0, .ref (ad 3)), (1, .int a1)]) ⟨rfl, rfl, trivial⟩ ?_
  refine J.aload_n (i := 0) C dX1_premiseCount_0 rfl rfl ?_
  refine J.get C 3 1 dk_3 rfl (by decide) kFl_X1_14 inB_X1 rfl dX1_premiseCount_1 ?_
  refine J.iload_n (i := 1) C dX1_premiseCount_4 rfl rfl ?_
  refine J.callVI C (at_20 hl _) rfl kMl_X1_46 mdX3_at ⟨(Nat.le_of_ble_eq_true rfl), (Nat.le_of_ble_eq_true rfl)⟩ dk_46 rfl rfl (Nat.le_of_ble_eq_true rfl) dX1_premiseCount_5 ⟨(Nat.le_of_ble_eq_true rfl), (Nat.le_of_ble_eq_true rfl)⟩ ?_
  exact J.iretA C hr (Nat.le_refl _) (Nat.le_refl _) dX1_premiseCount_8 H

/-! X1_conclusion -/
abbrev mX1_conclusion : MD := (yX1_conclusion, cX1_conclusion, 2, some .int)
theorem mdX1_conclusion : MDv mX1_conclusion RX1 1 := ⟨kIm_X1_conclusion, kSe_X1_conclusion, kIn_X1, kCo_X1_conclusion, by decide +kernel⟩
def F_X1_conclusion (σ : DS) (a1 : Int32) : Int32 := (rat 8 (σ.2 23) a1)
set_option maxRecDepth 100000 in
theorem sp_X1_conclusion {l : Launch} (hl : l.stackTraces = false) {g : Gy} {ad : Nat → Nat} {rst : va_W} {σ : DS} (a1 : Int32) : SpF l mX1_conclusion 2 0 0 mI g [.ref (ad 3), .int a1] ((dkh g ad rst) σ) (F_X1_conclusion σ a1) ((dkh g ad rst) σ) := by
  generalize H : F_X1_conclusion σ a1 = r0
  unfold F_X1_conclusion at H
  refine Sp.of hl (by decide) (Nat.le_of_ble_eq_true rfl) (fun p e s m args below meth c A C hr hx => ?_)
  refine J.lw (lv' := [(0, .ref (ad 3)), (1, .int a1)]) ⟨rfl, rfl, trivial⟩ ?_
  refine J.aload_n (i := 0) C dX1_conclusion_0 rfl rfl ?_
  refine J.get C 3 4 dk_3 rfl (by decide) kFl_X1_26 inB_X1 rfl dX1_conclusion_1 ?_
  refine J.iload_n (i := 1) C dX1_conclusion_4 rfl rfl ?_
  refine J.callVI C (at_23 hl _) rfl kMl_X1_46 mdX3_at ⟨(Nat.le_of_ble_eq_true rfl), (Nat.le_of_ble_eq_true rfl)⟩ dk_52 rfl rfl (Nat.le_of_ble_eq_true rfl) dX1_conclusion_5 ⟨(Nat.le_of_ble_eq_true rfl), (Nat.le_of_ble_eq_true rfl)⟩ ?_
  exact J.iretA C hr (Nat.le_refl _) (Nat.le_refl _) dX1_conclusion_8 H

/-! X2_rule -/
abbrev mX2_rule : MD := (yX2_rule, cX2_rule, 2, some .char)
theorem mdX2_rule : MDv mX2_rule RX2 1 := ⟨kIm_X2_rule, kSe_X2_rule, kIn_X2, kCo_X2_rule, by decide +kernel⟩
def F_X2_rule (σ : DS) (a1 : Int32) : Int32 := (((rat 60 (σ.2 9) a1)).toUInt32 % 65536).toInt32
set_option maxRecDepth 100000 in
theorem sp_X2_rule {l : Launch} (hl : l.stackTraces = false) {g : Gy} {ad : Nat → Nat} {rst : va_W} {σ : DS} (a1 : Int32) : SpF l mX2_rule 2 0 0 mI g [.ref (ad 2), .int a1] ((dkh g ad rst) σ) (F_X2_rule σ a1) ((dkh g ad rst) σ) := by
  generalize H : F_X2_rule σ a1 = r0
  unfold F_X2_rule at H
  refine Sp.of hl (by decide) (Nat.le_of_ble_eq_true rfl) (fun p e s m args below meth c A C hr hx => ?_)
  refine J.lw (lv' := [(0, .ref (ad 2)), (1, .int a1)]) ⟨rfl, rfl, trivial⟩ ?_
  refine J.aload_n (i := 0) C dX2_rule_0 rfl rfl ?_
  refine J.get C 2 2 dk_2 rfl (by decide) kFl_X2_20 inB_X2 rfl dX2_rule_1 ?_
  refine J.iload_n (i := 1) C dX2_rule_4 rfl rfl ?_
  refine J.callVI C (at_9 hl _) rfl kMl_X2_67 mdX3_at ⟨(Nat.le_of_ble_eq_true rfl), (Nat.le_of_ble_eq_true rfl)⟩ dk_24 rfl rfl (Nat.le_of_ble_eq_true rfl) dX2_rule_5 ⟨(Nat.le_of_ble_eq_true rfl), (Nat.le_of_ble_eq_true rfl)⟩ ?_
  refine J.i2c C _ dX2_rule_8 rfl ?_
  exact J.zretA C hr (pk_nc _) (Nat.le_refl _) (Nat.le_refl _) dX2_rule_9 H
theorem nr_X2_rule (σ : DS) (a1 : Int32) : narrow .char (.int (F_X2_rule σ a1)) = .int (F_X2_rule σ a1) := by
  unfold F_X2_rule
  try simp only [lt]
  repeat' split
  all_goals first | rfl | exact pk_nc _ | (first | rfl)

/-! X2_isPremise -/
abbrev mX2_isPremise : MD := (yX2_isPremise, cX2_isPremise, 2, some .boolean)
theorem mdX2_isPremise : MDv mX2_isPremise RX2 1 := ⟨kIm_X2_isPremise, kSe_X2_isPremise, kIn_X2, kCo_X2_isPremise, by decide +kernel⟩
def F_X2_isPremise (σ : DS) (a1 : Int32) : Int32 := (if (F_X2_rule σ a1) = (80 : Int32) then (1 : Int32) else (0 : Int32))
set_option maxRecDepth 100000 in
theorem sp_X2_isPremise {l : Launch} (hl : l.stackTraces = false) {g : Gy} {ad : Nat → Nat} {rst : va_W} {σ : DS} (a1 : Int32) : SpF l mX2_isPremise 3 0 0 mI g [.ref (ad 2), .int a1] ((dkh g ad rst) σ) (F_X2_isPremise σ a1) ((dkh g ad rst) σ) := by
  generalize H : F_X2_isPremise σ a1 = r0
  unfold F_X2_isPremise at H
  refine Sp.of hl (by decide) (Nat.le_of_ble_eq_true rfl) (fun p e s m args below meth c A C hr hx => ?_)
  refine J.lw (lv' := [(0, .ref (ad 2)), (1, .int a1)]) ⟨rfl, rfl, trivial⟩ ?_
  refine J.aload_n (i := 0) C dX2_isPremise_0 rfl rfl ?_
  refine J.iload_n (i := 1) C dX2_isPremise_1 rfl rfl ?_
  refine J.callVI C (sp_X2_rule hl _) rfl kMl_X2_89 mdX2_rule ⟨(Nat.le_of_ble_eq_true rfl), (Nat.le_of_ble_eq_true rfl)⟩ dk_2 rfl rfl (Nat.le_of_ble_eq_true rfl) dX2_isPremise_2 ⟨(Nat.le_of_ble_eq_true rfl), (Nat.le_of_ble_eq_true rfl)⟩ ?_
  refine J.bipush C (80) dX2_isPremise_5 (by decide) ?_
  refine J.icmp_neL (tgt := 14) C dX2_isPremise_7 (by decide) H (fun c_7 H => ?_) (fun c_7 H => ?_)
  · refine J.iconst C (0) dX2_isPremise_14 (by decide) ?_
    exact J.zretA C hr rfl (Nat.le_refl _) (Nat.le_refl _) dX2_isPremise_15 H
  · refine J.iconst C (1) dX2_isPremise_10 (by decide) ?_
    refine J.goto (tgt := 15) C dX2_isPremise_11 (by decide) ?_
    exact J.zretA C hr rfl (Nat.le_refl _) (Nat.le_refl _) dX2_isPremise_15 H
theorem nr_X2_isPremise (σ : DS) (a1 : Int32) : narrow .boolean (.int (F_X2_isPremise σ a1)) = .int (F_X2_isPremise σ a1) := by
  unfold F_X2_isPremise
  try simp only [lt]
  repeat' split
  all_goals first | rfl | exact pk_nc _ | (first | exact nr_X2_rule ..)

/-! X2_formula -/
abbrev mX2_formula : MD := (yX2_formula, cX2_formula, 2, some .int)
theorem mdX2_formula : MDv mX2_formula RX2 1 := ⟨kIm_X2_formula, kSe_X2_formula, kIn_X2, kCo_X2_formula, by decide +kernel⟩
def F_X2_formula (σ : DS) (a1 : Int32) : Int32 := (rat 60 (σ.2 8) a1)
set_option maxRecDepth 100000 in
theorem sp_X2_formula {l : Launch} (hl : l.stackTraces = false) {g : Gy} {ad : Nat → Nat} {rst : va_W} {σ : DS} (a1 : Int32) : SpF l mX2_formula 2 0 0 mI g [.ref (ad 2), .int a1] ((dkh g ad rst) σ) (F_X2_formula σ a1) ((dkh g ad rst) σ) := by
  generalize H : F_X2_formula σ a1 = r0
  unfold F_X2_formula at H
  refine Sp.of hl (by decide) (Nat.le_of_ble_eq_true rfl) (fun p e s m args below meth c A C hr hx => ?_)
  refine J.lw (lv' := [(0, .ref (ad 2)), (1, .int a1)]) ⟨rfl, rfl, trivial⟩ ?_
  refine J.aload_n (i := 0) C dX2_formula_0 rfl rfl ?_
  refine J.get C 2 1 dk_2 rfl (by decide) kFl_X2_14 inB_X2 rfl dX2_formula_1 ?_
  refine J.iload_n (i := 1) C dX2_formula_4 rfl rfl ?_
  refine J.callVI C (at_8 hl _) rfl kMl_X2_67 mdX3_at ⟨(Nat.le_of_ble_eq_true rfl), (Nat.le_of_ble_eq_true rfl)⟩ dk_22 rfl rfl (Nat.le_of_ble_eq_true rfl) dX2_formula_5 ⟨(Nat.le_of_ble_eq_true rfl), (Nat.le_of_ble_eq_true rfl)⟩ ?_
  exact J.iretA C hr (Nat.le_refl _) (Nat.le_refl _) dX2_formula_8 H

/-! X1_keep -/
def B_X1_keep_10 (k_10 : DS → Int32 → Int32 → Int32 → Res DS Int32) (σ : DS) (l2 : Int32) (l3 : Int32) (l4 : Int32) : Res DS Int32 := (if (σ.1 2) ≤ l4 then (lt (sR σ 20 (rput 8 (σ.2 20) l2 l3)) fun s72 => (lt (sR s72 23 (rput 8 (s72.2 23) l2 (F_X2_formula s72 ((s72.1 2) - (1 : Int32))))) fun s90 => (lt (sI s90 5 ((s90.1 5) + (1 : Int32))) fun s100 => (some (.inl l2, s100))))) else (if (F_X2_isPremise σ l4) = 0 then (lt (l4 + (1 : Int32)) fun z60 => (k_10 σ l2 l3 z60)) else (if l3 = 0 then (lt (sR σ 21 (rput 8 (σ.2 21) l2 (F_X2_formula σ l4))) fun s54 => (lt (l3 + (1 : Int32)) fun z57 => (lt (l4 + (1 : Int32)) fun z60 => (k_10 s54 l2 z57 z60)))) else (lt (sR σ 22 (rput 8 (σ.2 22) l2 (F_X2_formula σ l4))) fun s54 => (lt (l3 + (1 : Int32)) fun z57 => (lt (l4 + (1 : Int32)) fun z60 => (k_10 s54 l2 z57 z60)))))))
set_option maxRecDepth 100000 in
theorem bl_X1_keep_10 {l : Launch} (hl : l.stackTraces = false) {g : Gy} {ad : Nat → Nat} {rst : va_W} {p : Program} {e : Env} {s : State} {m : MethodId} {args : Array Value} {below : List Frame} {meth : Method} {c : Code} {A : Nat → Prop} (C : Cx p l s m args meth c g A yX1_keep.cls cX1_keep 6) (hr : meth.sig.returnType = some .int) (hx : ∀ x ∈ c.exceptionTable.toList, False) {rr : (Int32 ⊕ String) × DS} (k_10 : DS → Int32 → Int32 → Int32 → Res DS Int32) (hk_10 : ∀ (σ : DS) (l2 : Int32) (l3 : Int32) (l4 : Int32), k_10 σ l2 l3 l4 = some rr → J p l e (rmOf 4 0 0) s m args below meth c g A 6 0 0 (QR mI g A (dkh g ad rst) rr below args s 0 0) 10 [(0, .ref (ad 3)), (1, .ref (ad 2)), (2, .int l2), (3, .int l3), (4, .int l4)] [] ((dkh g ad rst) σ)) (σ : DS) (l2 : Int32) (l3 : Int32) (l4 : Int32) (H : B_X1_keep_10 k_10 σ l2 l3 l4 = some rr) : J p l e (rmOf 4 0 0) s m args below meth c g A 6 0 0 (QR mI g A (dkh g ad rst) rr below args s 0 0) 10 [(0, .ref (ad 3)), (1, .ref (ad 2)), (2, .int l2), (3, .int l3), (4, .int l4)] [] ((dkh g ad rst) σ) := by
  unfold B_X1_keep_10 at H
  refine J.iload C dX1_keep_10 rfl ?_
  refine J.aload_n (i := 1) C dX1_keep_12 rfl rfl ?_
  refine J.getN C 2 13 dk_2 rfl (by decide) nest_X1_50 inB_X2 rfl dX1_keep_13 ?_
  refine J.icmp_geL (tgt := 66) C dX1_keep_16 (by decide) H (fun c_16 H => ?_) (fun c_16 H => ?_)
  · refine J.aload_n (i := 0) C dX1_keep_66 rfl rfl ?_
    refine J.get C 3 1 dk_3 rfl (by decide) kFl_X1_14 inB_X1 rfl dX1_keep_67 ?_
    refine J.iload_n (i := 2) C dX1_keep_70 rfl rfl ?_
    refine J.iload_n (i := 3) C dX1_keep_71 rfl rfl ?_
    refine J.callVVL (hp := (dkh g ad rst)) C (put_20 hl _ _) rfl kMl_X1_62 mdX3_put ⟨(Nat.le_of_ble_eq_true rfl), (Nat.le_of_ble_eq_true rfl)⟩ dk_46 rfl rfl (Nat.le_of_ble_eq_true rfl) dX1_keep_72 ⟨(Nat.le_of_ble_eq_true rfl), (Nat.le_of_ble_eq_true rfl)⟩ H (fun s72 H => ?_)
    refine J.aload_n (i := 0) C dX1_keep_75 rfl rfl ?_
    refine J.get C 3 4 dk_3 rfl (by decide) kFl_X1_26 inB_X1 rfl dX1_keep_76 ?_
    refine J.iload_n (i := 2) C dX1_keep_79 rfl rfl ?_
    refine J.aload_n (i := 1) C dX1_keep_80 rfl rfl ?_
    refine J.aload_n (i := 1) C dX1_keep_81 rfl rfl ?_
    refine J.getN C 2 13 dk_2 rfl (by decide) nest_X1_50 inB_X2 rfl dX1_keep_82 ?_
    refine J.iconst C (1) dX1_keep_85 (by decide) ?_
    refine J.isub C dX1_keep_86 ?_
    refine J.callVI C (sp_X2_formula hl _) rfl kMl_X1_59 mdX2_formula ⟨(Nat.le_of_ble_eq_true rfl), (Nat.le_of_ble_eq_true rfl)⟩ dk_2 rfl rfl (Nat.le_of_ble_eq_true rfl) dX1_keep_87 ⟨(Nat.le_of_ble_eq_true rfl), (Nat.le_of_ble_eq_true rfl)⟩ ?_
    refine J.callVVL (hp := (dkh g ad rst)) C (put_23 hl _ _) rfl kMl_X1_62 mdX3_put ⟨(Nat.le_of_ble_eq_true rfl), (Nat.le_of_ble_eq_true rfl)⟩ dk_52 rfl rfl (Nat.le_of_ble_eq_true rfl) dX1_keep_90 ⟨(Nat.le_of_ble_eq_true rfl), (Nat.le_of_ble_eq_true rfl)⟩ H (fun s90 H => ?_)
    refine J.aload_n (i := 0) C dX1_keep_93 rfl rfl ?_
    refine J.dup C dX1_keep_94 rfl ?_
    refine J.get C 3 7 dk_3 rfl (by decide) kFl_X1_42 inB_X1 rfl dX1_keep_95 ?_
    refine J.iconst C (1) dX1_keep_98 (by decide) ?_
    refine J.iadd C dX1_keep_99 ?_
    refine J.putL (hp := (dkh g ad rst)) C 3 7 dk_3 rfl (by decide) kFl_X1_42 inB_X1 tyX1 tyX1_ok nmX1 rfl rfl rfl rfl (Nat.le_of_ble_eq_true rfl) dX1_keep_100 (dkI_5 _) H (fun s100 H => ?_)
    refine J.iload_n (i := 2) C dX1_keep_103 rfl rfl ?_
    exact J.iretL C hr (Nat.le_of_ble_eq_true rfl) (Nat.le_of_ble_eq_true rfl) dX1_keep_104 H
  · refine J.aload_n (i := 1) C dX1_keep_19 rfl rfl ?_
    refine J.iload C dX1_keep_20 rfl ?_
    refine J.callVI C (sp_X2_isPremise hl _) rfl kMl_X1_55 mdX2_isPremise ⟨(Nat.le_of_ble_eq_true rfl), (Nat.le_of_ble_eq_true rfl)⟩ dk_2 rfl rfl (Nat.le_of_ble_eq_true rfl) dX1_keep_22 ⟨(Nat.le_of_ble_eq_true rfl), (Nat.le_of_ble_eq_true rfl)⟩ ?_
    refine J.if_eqL (tgt := 60) C dX1_keep_25 (by decide) H (fun c_25 H => ?_) (fun c_25 H => ?_)
    · refine J.iincL C (l4 + (1 : Int32)) dX1_keep_60 rfl rfl (by decide) H (fun z60 H => ?_)
      refine J.goto (tgt := 10) C dX1_keep_63 (by decide) ?_
      refine J.widen (k := 0) (n := 0) (Nat.le_of_ble_eq_true rfl) (Nat.le_of_ble_eq_true rfl) ?_
      refine J.lw (lv' := [(0, .ref (ad 3)), (1, .ref (ad 2)), (2, .int l2), (3, .int l3), (4, .int z60)]) ⟨rfl, rfl, rfl, rfl, rfl, trivial⟩ ?_
      exact hk_10 _ _ _ _  H
    · refine J.iload_n (i := 3) C dX1_keep_28 rfl rfl ?_
      refine J.if_neL (tgt := 39) C dX1_keep_29 (by decide) H (fun c_29 H => ?_) (fun c_29 H => ?_)
      · refine J.aload_n (i := 0) C dX1_keep_39 rfl rfl ?_
        refine J.get C 3 3 dk_3 rfl (by decide) kFl_X1_23 inB_X1 rfl dX1_keep_40 ?_
        refine J.astore C dX1_keep_43 (by decide) ?_
        refine J.aload C dX1_keep_45 rfl ?_
        refine J.iload_n (i := 2) C dX1_keep_47 rfl rfl ?_
        refine J.aload_n (i := 1) C dX1_keep_48 rfl rfl ?_
        refine J.iload C dX1_keep_49 rfl ?_
        refine J.callVI C (sp_X2_formula hl _) rfl kMl_X1_59 mdX2_formula ⟨(Nat.le_of_ble_eq_true rfl), (Nat.le_of_ble_eq_true rfl)⟩ dk_2 rfl rfl (Nat.le_of_ble_eq_true rfl) dX1_keep_51 ⟨(Nat.le_of_ble_eq_true rfl), (Nat.le_of_ble_eq_true rfl)⟩ ?_
        refine J.callVVL (hp := (dkh g ad rst)) C (put_22 hl _ _) rfl kMl_X1_62 mdX3_put ⟨(Nat.le_of_ble_eq_true rfl), (Nat.le_of_ble_eq_true rfl)⟩ dk_50 rfl rfl (Nat.le_of_ble_eq_true rfl) dX1_keep_54 ⟨(Nat.le_of_ble_eq_true rfl), (Nat.le_of_ble_eq_true rfl)⟩ H (fun s54 H => ?_)
        refine J.iincL C (l3 + (1 : Int32)) dX1_keep_57 rfl rfl (by decide) H (fun z57 H => ?_)
        refine J.iincL C (l4 + (1 : Int32)) dX1_keep_60 rfl rfl (by decide) H (fun z60 H => ?_)
        refine J.goto (tgt := 10) C dX1_keep_63 (by decide) ?_
        refine J.widen (k := 0) (n := 0) (Nat.le_of_ble_eq_true rfl) (Nat.le_of_ble_eq_true rfl) ?_
        refine J.lw (lv' := [(0, .ref (ad 3)), (1, .ref (ad 2)), (2, .int l2), (3, .int z57), (4, .int z60)]) ⟨rfl, rfl, rfl, rfl, rfl, trivial⟩ ?_
        exact hk_10 _ _ _ _  H
      · refine J.aload_n (i := 0) C dX1_keep_32 rfl rfl ?_
        refine J.get C 3 2 dk_3 rfl (by decide) kFl_X1_20 inB_X1 rfl dX1_keep_33 ?_
        refine J.goto (tgt := 43) C dX1_keep_36 (by decide) ?_
        refine J.astore C dX1_keep_43 (by decide) ?_
        refine J.aload C dX1_keep_45 rfl ?_
        refine J.iload_n (i := 2) C dX1_keep_47 rfl rfl ?_
        refine J.aload_n (i := 1) C dX1_keep_48 rfl rfl ?_
        refine J.iload C dX1_keep_49 rfl ?_
        refine J.callVI C (sp_X2_formula hl _) rfl kMl_X1_59 mdX2_formula ⟨(Nat.le_of_ble_eq_true rfl), (Nat.le_of_ble_eq_true rfl)⟩ dk_2 rfl rfl (Nat.le_of_ble_eq_true rfl) dX1_keep_51 ⟨(Nat.le_of_ble_eq_true rfl), (Nat.le_of_ble_eq_true rfl)⟩ ?_
        refine J.callVVL (hp := (dkh g ad rst)) C (put_21 hl _ _) rfl kMl_X1_62 mdX3_put ⟨(Nat.le_of_ble_eq_true rfl), (Nat.le_of_ble_eq_true rfl)⟩ dk_48 rfl rfl (Nat.le_of_ble_eq_true rfl) dX1_keep_54 ⟨(Nat.le_of_ble_eq_true rfl), (Nat.le_of_ble_eq_true rfl)⟩ H (fun s54 H => ?_)
        refine J.iincL C (l3 + (1 : Int32)) dX1_keep_57 rfl rfl (by decide) H (fun z57 H => ?_)
        refine J.iincL C (l4 + (1 : Int32)) dX1_keep_60 rfl rfl (by decide) H (fun z60 H => ?_)
        refine J.goto (tgt := 10) C dX1_keep_63 (by decide) ?_
        refine J.widen (k := 0) (n := 0) (Nat.le_of_ble_eq_true rfl) (Nat.le_of_ble_eq_true rfl) ?_
        refine J.lw (lv' := [(0, .ref (ad 3)), (1, .ref (ad 2)), (2, .int l2), (3, .int z57), (4, .int z60)]) ⟨rfl, rfl, rfl, rfl, rfl, trivial⟩ ?_
        exact hk_10 _ _ _ _  H
def L_X1_keep_10 : Nat → DS → Int32 → Int32 → Int32 → Res DS Int32
  | 0, _, _, _, _ => none
  | n + 1, σ, l2, l3, l4 => B_X1_keep_10 (L_X1_keep_10 n) σ l2 l3 l4
set_option maxRecDepth 100000 in
theorem lp_X1_keep_10 {l : Launch} (hl : l.stackTraces = false) {g : Gy} {ad : Nat → Nat} {rst : va_W} {p : Program} {e : Env} {s : State} {m : MethodId} {args : Array Value} {below : List Frame} {meth : Method} {c : Code} {A : Nat → Prop} (C : Cx p l s m args meth c g A yX1_keep.cls cX1_keep 6) (hr : meth.sig.returnType = some .int) (hx : ∀ x ∈ c.exceptionTable.toList, False) {rr : (Int32 ⊕ String) × DS} : ∀ (n : Nat) (σ : DS) (l2 : Int32) (l3 : Int32) (l4 : Int32), L_X1_keep_10 n σ l2 l3 l4 = some rr → J p l e (rmOf 4 0 0) s m args below meth c g A 6 0 0 (QR mI g A (dkh g ad rst) rr below args s 0 0) 10 [(0, .ref (ad 3)), (1, .ref (ad 2)), (2, .int l2), (3, .int l3), (4, .int l4)] [] ((dkh g ad rst) σ) := by
  intro n
  induction n with
  | zero => intro σ l2 l3 l4 H; cases H
  | succ n ih => intro σ l2 l3 l4 H; exact bl_X1_keep_10 hl C hr hx _ ih _ _ _ _ H
abbrev mX1_keep : MD := (yX1_keep, cX1_keep, 6, some .int)
theorem mdX1_keep : MDv mX1_keep RX1 1 := ⟨kIm_X1_keep, kSe_X1_keep, kIn_X1, kCo_X1_keep, by decide +kernel⟩
def P_X1_keep (σ : DS)  : Res DS Int32 := (lt (σ.1 5) fun z4 => (lt (0 : Int32) fun z6 => (lt (0 : Int32) fun z8 => (L_X1_keep_10 FU σ z4 z6 z8))))
set_option maxRecDepth 100000 in
theorem sp_X1_keep {l : Launch} (hl : l.stackTraces = false) {g : Gy} {ad : Nat → Nat} {rst : va_W} {σ : DS}  : SpR l mX1_keep 4 0 0 mI g [.ref (ad 3), .ref (ad 2)] (dkh g ad rst) σ (P_X1_keep σ ) := by
  refine SpR.of hl (by decide) (Nat.le_of_ble_eq_true rfl) (fun rr H p e s m args below meth c A C hr hx => ?_)
  unfold P_X1_keep at H
  refine J.lw (lv' := [(0, .ref (ad 3)), (1, .ref (ad 2))]) ⟨rfl, rfl, trivial⟩ ?_
  refine J.aload_n (i := 0) C dX1_keep_0 rfl rfl ?_
  refine J.get C 3 7 dk_3 rfl (by decide) kFl_X1_42 inB_X1 rfl dX1_keep_1 ?_
  refine J.istore_nL (i := 2) C dX1_keep_4 rfl (by decide) H (fun z4 H => ?_)
  refine J.iconst C (0) dX1_keep_5 (by decide) ?_
  refine J.istore_nL (i := 3) C dX1_keep_6 rfl (by decide) H (fun z6 H => ?_)
  refine J.iconst C (0) dX1_keep_7 (by decide) ?_
  refine J.istoreL C dX1_keep_8 (by decide) H (fun z8 H => ?_)
  refine J.widen (k := 0) (n := 0) (Nat.le_of_ble_eq_true rfl) (Nat.le_of_ble_eq_true rfl) ?_
  refine J.lw (lv' := [(0, .ref (ad 3)), (1, .ref (ad 2)), (2, .int z4), (3, .int z6), (4, .int z8)]) ⟨rfl, rfl, rfl, rfl, rfl, trivial⟩ ?_
  exact lp_X1_keep_10 hl C hr hx  FU _ _ _ _  H

/-! X1_setImage -/
abbrev mX1_setImage : MD := (yX1_setImage, cX1_setImage, 4, some .boolean)
theorem mdX1_setImage : MDv mX1_setImage RX1 2 := ⟨kIm_X1_setImage, kSe_X1_setImage, kIn_X1, kCo_X1_setImage, by decide +kernel⟩
def P_X1_setImage (σ : DS) (a1 : Int32) (a2 : Int32) : Res DS Int32 := (lt (rat 150 (σ.2 25) a1) fun z8 => (lt (sR σ 25 (rput 150 (σ.2 25) a1 a2)) fun s15 => (if z8 = (-1 : Int32) then (some (.inl (1 : Int32), s15)) else (if z8 = a2 then (some (.inl (1 : Int32), s15)) else (some (.inl (0 : Int32), s15))))))
set_option maxRecDepth 100000 in
theorem sp_X1_setImage {l : Launch} (hl : l.stackTraces = false) {g : Gy} {ad : Nat → Nat} {rst : va_W} {σ : DS} (a1 : Int32) (a2 : Int32) : SpR l mX1_setImage 2 0 0 mI g [.ref (ad 3), .int a1, .int a2] (dkh g ad rst) σ (P_X1_setImage σ a1 a2) := by
  refine SpR.of hl (by decide) (Nat.le_of_ble_eq_true rfl) (fun rr H p e s m args below meth c A C hr hx => ?_)
  unfold P_X1_setImage at H
  refine J.lw (lv' := [(0, .ref (ad 3)), (1, .int a1), (2, .int a2)]) ⟨rfl, rfl, rfl, trivial⟩ ?_
  refine J.aload_n (i := 0) C dX1_setImage_0 rfl rfl ?_
  refine J.get C 3 6 dk_3 rfl (by decide) kFl_X1_32 inB_X1 rfl dX1_setImage_1 ?_
  refine J.iload_n (i := 1) C dX1_setImage_4 rfl rfl ?_
  refine J.callVI C (at_25 hl _) rfl kMl_X1_46 mdX3_at ⟨(Nat.le_of_ble_eq_true rfl), (Nat.le_of_ble_eq_true rfl)⟩ dk_56 rfl rfl (Nat.le_of_ble_eq_true rfl) dX1_setImage_5 ⟨(Nat.le_of_ble_eq_true rfl), (Nat.le_of_ble_eq_true rfl)⟩ ?_
  refine J.istore_nL (i := 3) C dX1_setImage_8 rfl (by decide) H (fun z8 H => ?_)
  refine J.aload_n (i := 0) C dX1_setImage_9 rfl rfl ?_
  refine J.get C 3 6 dk_3 rfl (by decide) kFl_X1_32 inB_X1 rfl dX1_setImage_10 ?_
  refine J.iload_n (i := 1) C dX1_setImage_13 rfl rfl ?_
  refine J.iload_n (i := 2) C dX1_setImage_14 rfl rfl ?_
  refine J.callVVL (hp := (dkh g ad rst)) C (put_25 hl _ _) rfl kMl_X1_62 mdX3_put ⟨(Nat.le_of_ble_eq_true rfl), (Nat.le_of_ble_eq_true rfl)⟩ dk_56 rfl rfl (Nat.le_of_ble_eq_true rfl) dX1_setImage_15 ⟨(Nat.le_of_ble_eq_true rfl), (Nat.le_of_ble_eq_true rfl)⟩ H (fun s15 H => ?_)
  refine J.iload_n (i := 3) C dX1_setImage_18 rfl rfl ?_
  refine J.iconst C (-1) dX1_setImage_19 (by decide) ?_
  refine J.icmp_eqL (tgt := 28) C dX1_setImage_20 (by decide) H (fun c_20 H => ?_) (fun c_20 H => ?_)
  · refine J.iconst C (1) dX1_setImage_28 (by decide) ?_
    refine J.goto (tgt := 33) C dX1_setImage_29 (by decide) ?_
    exact J.zretL C hr rfl (Nat.le_of_ble_eq_true rfl) (Nat.le_of_ble_eq_true rfl) dX1_setImage_33 H
  · refine J.iload_n (i := 3) C dX1_setImage_23 rfl rfl ?_
    refine J.iload_n (i := 2) C dX1_setImage_24 rfl rfl ?_
    refine J.icmp_neL (tgt := 32) C dX1_setImage_25 (by decide) H (fun c_25 H => ?_) (fun c_25 H => ?_)
    · refine J.iconst C (0) dX1_setImage_32 (by decide) ?_
      exact J.zretL C hr rfl (Nat.le_of_ble_eq_true rfl) (Nat.le_of_ble_eq_true rfl) dX1_setImage_33 H
    · refine J.iconst C (1) dX1_setImage_28 (by decide) ?_
      refine J.goto (tgt := 33) C dX1_setImage_29 (by decide) ?_
      exact J.zretL C hr rfl (Nat.le_of_ble_eq_true rfl) (Nat.le_of_ble_eq_true rfl) dX1_setImage_33 H

/-! X1_handOn -/
abbrev mX1_handOn : MD := (yX1_handOn, cX1_handOn, 4, some .boolean)
theorem mdX1_handOn : MDv mX1_handOn RX1 2 := ⟨kIm_X1_handOn, kSe_X1_handOn, kIn_X1, kCo_X1_handOn, by decide +kernel⟩
def P_X1_handOn (σ : DS) (a1 : Int32) (a2 : Int32) : Res DS Int32 := (lt (F_X0_kind σ a1) fun z8 => (if (F_X5_isLetter σ z8) = 0 then (if (F_X0_kind σ a2) = z8 then (bd (P_X1_setImage σ (F_X0_left σ a1) (F_X0_left σ a2)) fun r47 s47 => (if r47 = 0 then (some (.inl (0 : Int32), s47)) else (bd (P_X1_setImage s47 (F_X0_right s47 a1) (F_X0_right s47 a2)) fun r70 s70 => (if r70 = 0 then (some (.inl (0 : Int32), s70)) else (some (.inl (1 : Int32), s70)))))) else (some (.inl (0 : Int32), σ))) else (some (.inl (1 : Int32), σ))))
set_option maxRecDepth 100000 in
theorem sp_X1_handOn {l : Launch} (hl : l.stackTraces = false) {g : Gy} {ad : Nat → Nat} {rst : va_W} {σ : DS} (a1 : Int32) (a2 : Int32) : SpR l mX1_handOn 3 0 0 mI g [.ref (ad 3), .int a1, .int a2] (dkh g ad rst) σ (P_X1_handOn σ a1 a2) := by
  refine SpR.of hl (by decide) (Nat.le_of_ble_eq_true rfl) (fun rr H p e s m args below meth c A C hr hx => ?_)
  unfold P_X1_handOn at H
  refine J.lw (lv' := [(0, .ref (ad 3)), (1, .int a1), (2, .int a2)]) ⟨rfl, rfl, rfl, trivial⟩ ?_
  refine J.aload_n (i := 0) C dX1_handOn_0 rfl rfl ?_
  refine J.get C 3 0 dk_3 rfl (by decide) kFl_X1_35 inB_X1 rfl dX1_handOn_1 ?_
  refine J.iload_n (i := 1) C dX1_handOn_4 rfl rfl ?_
  refine J.callVI C (sp_X0_kind hl _) rfl kMl_X1_79 mdX0_kind ⟨(Nat.le_of_ble_eq_true rfl), (Nat.le_of_ble_eq_true rfl)⟩ dk_1 rfl rfl (Nat.le_of_ble_eq_true rfl) dX1_handOn_5 ⟨(Nat.le_of_ble_eq_true rfl), (Nat.le_of_ble_eq_true rfl)⟩ ?_
  refine J.istore_nL (i := 3) C dX1_handOn_8 rfl (by decide) H (fun z8 H => ?_)
  refine J.iload_n (i := 3) C dX1_handOn_9 rfl rfl ?_
  refine J.callSI C (sp_X5_isLetter hl _) rfl kMl_X1_83 mdX5_isLetter ⟨(Nat.le_of_ble_eq_true rfl), (Nat.le_of_ble_eq_true rfl)⟩ rfl (Nat.le_of_ble_eq_true rfl) dX1_handOn_10 ⟨(Nat.le_of_ble_eq_true rfl), (Nat.le_of_ble_eq_true rfl)⟩ ?_
  refine J.if_eqL (tgt := 18) C dX1_handOn_13 (by decide) H (fun c_13 H => ?_) (fun c_13 H => ?_)
  · refine J.aload_n (i := 0) C dX1_handOn_18 rfl rfl ?_
    refine J.get C 3 0 dk_3 rfl (by decide) kFl_X1_35 inB_X1 rfl dX1_handOn_19 ?_
    refine J.iload_n (i := 2) C dX1_handOn_22 rfl rfl ?_
    refine J.callVI C (sp_X0_kind hl _) rfl kMl_X1_79 mdX0_kind ⟨(Nat.le_of_ble_eq_true rfl), (Nat.le_of_ble_eq_true rfl)⟩ dk_1 rfl rfl (Nat.le_of_ble_eq_true rfl) dX1_handOn_23 ⟨(Nat.le_of_ble_eq_true rfl), (Nat.le_of_ble_eq_true rfl)⟩ ?_
    refine J.iload_n (i := 3) C dX1_handOn_26 rfl rfl ?_
    refine J.icmp_neL (tgt := 80) C dX1_handOn_27 (by decide) H (fun c_27 H => ?_) (fun c_27 H => ?_)
    · refine J.iconst C (0) dX1_handOn_80 (by decide) ?_
      exact J.zretL C hr rfl (Nat.le_of_ble_eq_true rfl) (Nat.le_of_ble_eq_true rfl) dX1_handOn_81 H
    · refine J.aload_n (i := 0) C dX1_handOn_30 rfl rfl ?_
      refine J.aload_n (i := 0) C dX1_handOn_31 rfl rfl ?_
      refine J.get C 3 0 dk_3 rfl (by decide) kFl_X1_35 inB_X1 rfl dX1_handOn_32 ?_
      refine J.iload_n (i := 1) C dX1_handOn_35 rfl rfl ?_
      refine J.callVI C (sp_X0_left hl _) rfl kMl_X1_89 mdX0_left ⟨(Nat.le_of_ble_eq_true rfl), (Nat.le_of_ble_eq_true rfl)⟩ dk_1 rfl rfl (Nat.le_of_ble_eq_true rfl) dX1_handOn_36 ⟨(Nat.le_of_ble_eq_true rfl), (Nat.le_of_ble_eq_true rfl)⟩ ?_
      refine J.aload_n (i := 0) C dX1_handOn_39 rfl rfl ?_
      refine J.get C 3 0 dk_3 rfl (by decide) kFl_X1_35 inB_X1 rfl dX1_handOn_40 ?_
      refine J.iload_n (i := 2) C dX1_handOn_43 rfl rfl ?_
      refine J.callVI C (sp_X0_left hl _) rfl kMl_X1_89 mdX0_left ⟨(Nat.le_of_ble_eq_true rfl), (Nat.le_of_ble_eq_true rfl)⟩ dk_1 rfl rfl (Nat.le_of_ble_eq_true rfl) dX1_handOn_44 ⟨(Nat.le_of_ble_eq_true rfl), (Nat.le_of_ble_eq_true rfl)⟩ ?_
      refine J.callVBI (hp := (dkh g ad rst)) C rfl (sp_X1_setImage hl _ _) rfl kMl_X1_69 mdX1_setImage ⟨(Nat.le_of_ble_eq_true rfl), (Nat.le_of_ble_eq_true rfl)⟩ dk_3 rfl rfl (Nat.le_of_ble_eq_true rfl) dX1_handOn_47 ⟨(Nat.le_of_ble_eq_true rfl), (Nat.le_of_ble_eq_true rfl)⟩ hx (Nat.le_of_ble_eq_true rfl) (Nat.le_of_ble_eq_true rfl) H (fun r47 s47 H => ?_)
      refine J.if_eqL (tgt := 80) C dX1_handOn_50 (by decide) H (fun c_50 H => ?_) (fun c_50 H => ?_)
      · refine J.iconst C (0) dX1_handOn_80 (by decide) ?_
        exact J.zretL C hr rfl (Nat.le_of_ble_eq_true rfl) (Nat.le_of_ble_eq_true rfl) dX1_handOn_81 H
      · refine J.aload_n (i := 0) C dX1_handOn_53 rfl rfl ?_
        refine J.aload_n (i := 0) C dX1_handOn_54 rfl rfl ?_
        refine J.get C 3 0 dk_3 rfl (by decide) kFl_X1_35 inB_X1 rfl dX1_handOn_55 ?_
        refine J.iload_n (i := 1) C dX1_handOn_58 rfl rfl ?_
        refine J.callVI C (sp_X0_right hl _) rfl kMl_X1_92 mdX0_right ⟨(Nat.le_of_ble_eq_true rfl), (Nat.le_of_ble_eq_true rfl)⟩ dk_1 rfl rfl (Nat.le_of_ble_eq_true rfl) dX1_handOn_59 ⟨(Nat.le_of_ble_eq_true rfl), (Nat.le_of_ble_eq_true rfl)⟩ ?_
        refine J.aload_n (i := 0) C dX1_handOn_62 rfl rfl ?_
        refine J.get C 3 0 dk_3 rfl (by decide) kFl_X1_35 inB_X1 rfl dX1_handOn_63 ?_
        refine J.iload_n (i := 2) C dX1_handOn_66 rfl rfl ?_
        refine J.callVI C (sp_X0_right hl _) rfl kMl_X1_92 mdX0_right ⟨(Nat.le_of_ble_eq_true rfl), (Nat.le_of_ble_eq_true rfl)⟩ dk_1 rfl rfl (Nat.le_of_ble_eq_true rfl) dX1_handOn_67 ⟨(Nat.le_of_ble_eq_true rfl), (Nat.le_of_ble_eq_true rfl)⟩ ?_
        refine J.callVBI (hp := (dkh g ad rst)) C rfl (sp_X1_setImage hl _ _) rfl kMl_X1_69 mdX1_setImage ⟨(Nat.le_of_ble_eq_true rfl), (Nat.le_of_ble_eq_true rfl)⟩ dk_3 rfl rfl (Nat.le_of_ble_eq_true rfl) dX1_handOn_70 ⟨(Nat.le_of_ble_eq_true rfl), (Nat.le_of_ble_eq_true rfl)⟩ hx (Nat.le_of_ble_eq_true rfl) (Nat.le_of_ble_eq_true rfl) H (fun r70 s70 H => ?_)
        refine J.if_eqL (tgt := 80) C dX1_handOn_73 (by decide) H (fun c_73 H => ?_) (fun c_73 H => ?_)
        · refine J.iconst C (0) dX1_handOn_80 (by decide) ?_
          exact J.zretL C hr rfl (Nat.le_of_ble_eq_true rfl) (Nat.le_of_ble_eq_true rfl) dX1_handOn_81 H
        · refine J.iconst C (1) dX1_handOn_76 (by decide) ?_
          refine J.goto (tgt := 81) C dX1_handOn_77 (by decide) ?_
          exact J.zretL C hr rfl (Nat.le_of_ble_eq_true rfl) (Nat.le_of_ble_eq_true rfl) dX1_handOn_81 H
  · refine J.iconst C (1) dX1_handOn_16 (by decide) ?_
    exact J.zretL C hr rfl (Nat.le_of_ble_eq_true rfl) (Nat.le_of_ble_eq_true rfl) dX1_handOn_17 H

/-! X1_matches -/
def B_X1_matches_71 (k_71 : DS → Int32 → Res DS Int32) (σ : DS) (l5 : Int32) : Res DS Int32 := (if l5 < 0 then (some (.inl (1 : Int32), σ)) else (if (rat 150 (σ.2 25) l5) = (-1 : Int32) then (lt (l5 + (-1 : Int32)) fun z109 => (k_71 σ z109)) else (bd (P_X1_handOn σ l5 (rat 150 (σ.2 25) l5)) fun r101 s101 => (if r101 = 0 then (some (.inl (0 : Int32), s101)) else (lt (l5 + (-1 : Int32)) fun z109 => (k_71 s101 z109))))))
set_option maxRecDepth 100000 in
theorem bl_X1_matches_71 {l : Launch} (hl : l.stackTraces = false) {g : Gy} {ad : Nat → Nat} {rst : va_W} {p : Program} {e : Env} {s : State} {m : MethodId} {args : Array Value} {below : List Frame} {meth : Method} {c : Code} {A : Nat → Prop} (C : Cx p l s m args meth c g A yX1_matches.cls cX1_matches 6) (hr : meth.sig.returnType = some .boolean) (hx : ∀ x ∈ c.exceptionTable.toList, False) {rr : (Int32 ⊕ String) × DS} (k_71 : DS → Int32 → Res DS Int32) (hk_71 : ∀ (σ : DS) (l5 : Int32), k_71 σ l5 = some rr → J p l e (rmOf 4 0 0) s m args below meth c g A 6 0 0 (QR mI g A (dkh g ad rst) rr below args s 0 0) 71 [(0, .ref (ad 3)), (5, .int l5)] [] ((dkh g ad rst) σ)) (σ : DS) (l5 : Int32) (H : B_X1_matches_71 k_71 σ l5 = some rr) : J p l e (rmOf 4 0 0) s m args below meth c g A 6 0 0 (QR mI g A (dkh g ad rst) rr below args s 0 0) 71 [(0, .ref (ad 3)), (5, .int l5)] [] ((dkh g ad rst) σ) := by
  unfold B_X1_matches_71 at H
  refine J.iload C dX1_matches_71 rfl ?_
  refine J.if_ltL (tgt := 115) C dX1_matches_73 (by decide) H (fun c_73 H => ?_) (fun c_73 H => ?_)
  · refine J.iconst C (1) dX1_matches_115 (by decide) ?_
    exact J.zretL C hr rfl (Nat.le_of_ble_eq_true rfl) (Nat.le_of_ble_eq_true rfl) dX1_matches_116 H
  · refine J.aload_n (i := 0) C dX1_matches_76 rfl rfl ?_
    refine J.get C 3 6 dk_3 rfl (by decide) kFl_X1_32 inB_X1 rfl dX1_matches_77 ?_
    refine J.iload C dX1_matches_80 rfl ?_
    refine J.callVI C (at_25 hl _) rfl kMl_X1_46 mdX3_at ⟨(Nat.le_of_ble_eq_true rfl), (Nat.le_of_ble_eq_true rfl)⟩ dk_56 rfl rfl (Nat.le_of_ble_eq_true rfl) dX1_matches_82 ⟨(Nat.le_of_ble_eq_true rfl), (Nat.le_of_ble_eq_true rfl)⟩ ?_
    refine J.iconst C (-1) dX1_matches_85 (by decide) ?_
    refine J.icmp_eqL (tgt := 109) C dX1_matches_86 (by decide) H (fun c_86 H => ?_) (fun c_86 H => ?_)
    · refine J.iincL C (l5 + (-1 : Int32)) dX1_matches_109 rfl rfl (by decide) H (fun z109 H => ?_)
      refine J.goto (tgt := 71) C dX1_matches_112 (by decide) ?_
      refine J.widen (k := 0) (n := 0) (Nat.le_of_ble_eq_true rfl) (Nat.le_of_ble_eq_true rfl) ?_
      refine J.lw (lv' := [(0, .ref (ad 3)), (5, .int z109)]) ⟨rfl, rfl, trivial⟩ ?_
      exact hk_71 _ _  H
    · refine J.aload_n (i := 0) C dX1_matches_89 rfl rfl ?_
      refine J.iload C dX1_matches_90 rfl ?_
      refine J.aload_n (i := 0) C dX1_matches_92 rfl rfl ?_
      refine J.get C 3 6 dk_3 rfl (by decide) kFl_X1_32 inB_X1 rfl dX1_matches_93 ?_
      refine J.iload C dX1_matches_96 rfl ?_
      refine J.callVI C (at_25 hl _) rfl kMl_X1_46 mdX3_at ⟨(Nat.le_of_ble_eq_true rfl), (Nat.le_of_ble_eq_true rfl)⟩ dk_56 rfl rfl (Nat.le_of_ble_eq_true rfl) dX1_matches_98 ⟨(Nat.le_of_ble_eq_true rfl), (Nat.le_of_ble_eq_true rfl)⟩ ?_
      refine J.callVBI (hp := (dkh g ad rst)) C rfl (sp_X1_handOn hl _ _) rfl kMl_X1_76 mdX1_handOn ⟨(Nat.le_of_ble_eq_true rfl), (Nat.le_of_ble_eq_true rfl)⟩ dk_3 rfl rfl (Nat.le_of_ble_eq_true rfl) dX1_matches_101 ⟨(Nat.le_of_ble_eq_true rfl), (Nat.le_of_ble_eq_true rfl)⟩ hx (Nat.le_of_ble_eq_true rfl) (Nat.le_of_ble_eq_true rfl) H (fun r101 s101 H => ?_)
      refine J.if_neL (tgt := 109) C dX1_matches_104 (by decide) H (fun c_104 H => ?_) (fun c_104 H => ?_)
      · refine J.iincL C (l5 + (-1 : Int32)) dX1_matches_109 rfl rfl (by decide) H (fun z109 H => ?_)
        refine J.goto (tgt := 71) C dX1_matches_112 (by decide) ?_
        refine J.widen (k := 0) (n := 0) (Nat.le_of_ble_eq_true rfl) (Nat.le_of_ble_eq_true rfl) ?_
        refine J.lw (lv' := [(0, .ref (ad 3)), (5, .int z109)]) ⟨rfl, rfl, trivial⟩ ?_
        exact hk_71 _ _  H
      · refine J.iconst C (0) dX1_matches_107 (by decide) ?_
        exact J.zretL C hr rfl (Nat.le_of_ble_eq_true rfl) (Nat.le_of_ble_eq_true rfl) dX1_matches_108 H
def L_X1_matches_71 : Nat → DS → Int32 → Res DS Int32
  | 0, _, _ => none
  | n + 1, σ, l5 => B_X1_matches_71 (L_X1_matches_71 n) σ l5
set_option maxRecDepth 100000 in
theorem lp_X1_matches_71 {l : Launch} (hl : l.stackTraces = false) {g : Gy} {ad : Nat → Nat} {rst : va_W} {p : Program} {e : Env} {s : State} {m : MethodId} {args : Array Value} {below : List Frame} {meth : Method} {c : Code} {A : Nat → Prop} (C : Cx p l s m args meth c g A yX1_matches.cls cX1_matches 6) (hr : meth.sig.returnType = some .boolean) (hx : ∀ x ∈ c.exceptionTable.toList, False) {rr : (Int32 ⊕ String) × DS} : ∀ (n : Nat) (σ : DS) (l5 : Int32), L_X1_matches_71 n σ l5 = some rr → J p l e (rmOf 4 0 0) s m args below meth c g A 6 0 0 (QR mI g A (dkh g ad rst) rr below args s 0 0) 71 [(0, .ref (ad 3)), (5, .int l5)] [] ((dkh g ad rst) σ) := by
  intro n
  induction n with
  | zero => intro σ l5 H; cases H
  | succ n ih => intro σ l5 H; exact bl_X1_matches_71 hl C hr hx _ ih _ _ H
def B_X1_matches_36 (σ : DS) (l1 : Int32) (l3 : Int32) (l4 : Int32) : Res DS Int32 := (if l4 ≤ (1 : Int32) then (lt ((σ.1 1) - (1 : Int32)) fun z69 => (L_X1_matches_71 FU σ z69)) else (bd (P_X1_setImage σ (rat 8 (σ.2 22) l1) l3) fun r52 s52 => (if r52 = 0 then (some (.inl (0 : Int32), s52)) else (lt ((s52.1 1) - (1 : Int32)) fun z69 => (L_X1_matches_71 FU s52 z69)))))
set_option maxRecDepth 100000 in
theorem bl_X1_matches_36 {l : Launch} (hl : l.stackTraces = false) {g : Gy} {ad : Nat → Nat} {rst : va_W} {p : Program} {e : Env} {s : State} {m : MethodId} {args : Array Value} {below : List Frame} {meth : Method} {c : Code} {A : Nat → Prop} (C : Cx p l s m args meth c g A yX1_matches.cls cX1_matches 6) (hr : meth.sig.returnType = some .boolean) (hx : ∀ x ∈ c.exceptionTable.toList, False) {rr : (Int32 ⊕ String) × DS} (σ : DS) (l1 : Int32) (l3 : Int32) (l4 : Int32) (H : B_X1_matches_36 σ l1 l3 l4 = some rr) : J p l e (rmOf 4 0 0) s m args below meth c g A 6 0 0 (QR mI g A (dkh g ad rst) rr below args s 0 0) 36 [(0, .ref (ad 3)), (1, .int l1), (3, .int l3), (4, .int l4)] [] ((dkh g ad rst) σ) := by
  unfold B_X1_matches_36 at H
  refine J.iload C dX1_matches_36 rfl ?_
  refine J.iconst C (1) dX1_matches_38 (by decide) ?_
  refine J.icmp_leL (tgt := 60) C dX1_matches_39 (by decide) H (fun c_39 H => ?_) (fun c_39 H => ?_)
  · refine J.aload_n (i := 0) C dX1_matches_60 rfl rfl ?_
    refine J.get C 3 0 dk_3 rfl (by decide) kFl_X1_35 inB_X1 rfl dX1_matches_61 ?_
    refine J.getN C 1 9 dk_1 rfl (by decide) nest_X1_73 inB_X0 rfl dX1_matches_64 ?_
    refine J.iconst C (1) dX1_matches_67 (by decide) ?_
    refine J.isub C dX1_matches_68 ?_
    refine J.istoreL C dX1_matches_69 (by decide) H (fun z69 H => ?_)
    refine J.widen (k := 0) (n := 0) (Nat.le_of_ble_eq_true rfl) (Nat.le_of_ble_eq_true rfl) ?_
    refine J.lw (lv' := [(0, .ref (ad 3)), (5, .int z69)]) ⟨rfl, rfl, trivial⟩ ?_
    exact lp_X1_matches_71 hl C hr hx  FU _ _  H
  · refine J.aload_n (i := 0) C dX1_matches_42 rfl rfl ?_
    refine J.aload_n (i := 0) C dX1_matches_43 rfl rfl ?_
    refine J.get C 3 3 dk_3 rfl (by decide) kFl_X1_23 inB_X1 rfl dX1_matches_44 ?_
    refine J.iload_n (i := 1) C dX1_matches_47 rfl rfl ?_
    refine J.callVI C (at_22 hl _) rfl kMl_X1_46 mdX3_at ⟨(Nat.le_of_ble_eq_true rfl), (Nat.le_of_ble_eq_true rfl)⟩ dk_50 rfl rfl (Nat.le_of_ble_eq_true rfl) dX1_matches_48 ⟨(Nat.le_of_ble_eq_true rfl), (Nat.le_of_ble_eq_true rfl)⟩ ?_
    refine J.iload_n (i := 3) C dX1_matches_51 rfl rfl ?_
    refine J.callVBI (hp := (dkh g ad rst)) C rfl (sp_X1_setImage hl _ _) rfl kMl_X1_69 mdX1_setImage ⟨(Nat.le_of_ble_eq_true rfl), (Nat.le_of_ble_eq_true rfl)⟩ dk_3 rfl rfl (Nat.le_of_ble_eq_true rfl) dX1_matches_52 ⟨(Nat.le_of_ble_eq_true rfl), (Nat.le_of_ble_eq_true rfl)⟩ hx (Nat.le_of_ble_eq_true rfl) (Nat.le_of_ble_eq_true rfl) H (fun r52 s52 H => ?_)
    refine J.if_neL (tgt := 60) C dX1_matches_55 (by decide) H (fun c_55 H => ?_) (fun c_55 H => ?_)
    · refine J.aload_n (i := 0) C dX1_matches_60 rfl rfl ?_
      refine J.get C 3 0 dk_3 rfl (by decide) kFl_X1_35 inB_X1 rfl dX1_matches_61 ?_
      refine J.getN C 1 9 dk_1 rfl (by decide) nest_X1_73 inB_X0 rfl dX1_matches_64 ?_
      refine J.iconst C (1) dX1_matches_67 (by decide) ?_
      refine J.isub C dX1_matches_68 ?_
      refine J.istoreL C dX1_matches_69 (by decide) H (fun z69 H => ?_)
      refine J.widen (k := 0) (n := 0) (Nat.le_of_ble_eq_true rfl) (Nat.le_of_ble_eq_true rfl) ?_
      refine J.lw (lv' := [(0, .ref (ad 3)), (5, .int z69)]) ⟨rfl, rfl, trivial⟩ ?_
      exact lp_X1_matches_71 hl C hr hx  FU _ _  H
    · refine J.iconst C (0) dX1_matches_58 (by decide) ?_
      exact J.zretL C hr rfl (Nat.le_of_ble_eq_true rfl) (Nat.le_of_ble_eq_true rfl) dX1_matches_59 H
abbrev mX1_matches : MD := (yX1_matches, cX1_matches, 6, some .boolean)
theorem mdX1_matches : MDv mX1_matches RX1 3 := ⟨kIm_X1_matches, kSe_X1_matches, kIn_X1, kCo_X1_matches, by decide +kernel⟩
def P_X1_matches (σ : DS) (a1 : Int32) (a2 : Int32) (a3 : Int32) : Res DS Int32 := (lt (F_X1_premiseCount σ a1) fun z5 => (lt (sR σ 25 (rfill 150 (σ.2 25) (-1 : Int32))) fun s12 => (if z5 ≤ 0 then (B_X1_matches_36 s12 a1 a3 z5) else (lt (sR s12 25 (rput 150 (s12.2 25) (rat 8 (s12.2 21) a1) a2)) fun s33 => (B_X1_matches_36 s33 a1 a3 z5)))))
set_option maxRecDepth 100000 in
theorem sp_X1_matches {l : Launch} (hl : l.stackTraces = false) {g : Gy} {ad : Nat → Nat} {rst : va_W} {σ : DS} (a1 : Int32) (a2 : Int32) (a3 : Int32) : SpR l mX1_matches 4 0 0 mI g [.ref (ad 3), .int a1, .int a2, .int a3] (dkh g ad rst) σ (P_X1_matches σ a1 a2 a3) := by
  refine SpR.of hl (by decide) (Nat.le_of_ble_eq_true rfl) (fun rr H p e s m args below meth c A C hr hx => ?_)
  unfold P_X1_matches at H
  refine J.lw (lv' := [(0, .ref (ad 3)), (1, .int a1), (2, .int a2), (3, .int a3)]) ⟨rfl, rfl, rfl, rfl, trivial⟩ ?_
  refine J.aload_n (i := 0) C dX1_matches_0 rfl rfl ?_
  refine J.iload_n (i := 1) C dX1_matches_1 rfl rfl ?_
  refine J.callVI C (sp_X1_premiseCount hl _) rfl kMl_X1_66 mdX1_premiseCount ⟨(Nat.le_of_ble_eq_true rfl), (Nat.le_of_ble_eq_true rfl)⟩ dk_3 rfl rfl (Nat.le_of_ble_eq_true rfl) dX1_matches_2 ⟨(Nat.le_of_ble_eq_true rfl), (Nat.le_of_ble_eq_true rfl)⟩ ?_
  refine J.istoreL C dX1_matches_5 (by decide) H (fun z5 H => ?_)
  refine J.aload_n (i := 0) C dX1_matches_7 rfl rfl ?_
  refine J.get C 3 6 dk_3 rfl (by decide) kFl_X1_32 inB_X1 rfl dX1_matches_8 ?_
  refine J.iconst C (-1) dX1_matches_11 (by decide) ?_
  refine J.callVVL (hp := (dkh g ad rst)) C (fill_25 hl _) rfl kMl_X1_39 mdX3_fill ⟨(Nat.le_of_ble_eq_true rfl), (Nat.le_of_ble_eq_true rfl)⟩ dk_56 rfl rfl (Nat.le_of_ble_eq_true rfl) dX1_matches_12 ⟨(Nat.le_of_ble_eq_true rfl), (Nat.le_of_ble_eq_true rfl)⟩ H (fun s12 H => ?_)
  refine J.iload C dX1_matches_15 rfl ?_
  refine J.if_leL (tgt := 36) C dX1_matches_17 (by decide) H (fun c_17 H => ?_) (fun c_17 H => ?_)
  · refine J.widen (k := 0) (n := 0) (Nat.le_of_ble_eq_true rfl) (Nat.le_of_ble_eq_true rfl) ?_
    refine J.lw (lv' := [(0, .ref (ad 3)), (1, .int a1), (3, .int a3), (4, .int z5)]) ⟨rfl, rfl, rfl, rfl, trivial⟩ ?_
    exact bl_X1_matches_36 hl C hr hx  _ _ _ _  H
  · refine J.aload_n (i := 0) C dX1_matches_20 rfl rfl ?_
    refine J.get C 3 6 dk_3 rfl (by decide) kFl_X1_32 inB_X1 rfl dX1_matches_21 ?_
    refine J.aload_n (i := 0) C dX1_matches_24 rfl rfl ?_
    refine J.get C 3 2 dk_3 rfl (by decide) kFl_X1_20 inB_X1 rfl dX1_matches_25 ?_
    refine J.iload_n (i := 1) C dX1_matches_28 rfl rfl ?_
    refine J.callVI C (at_21 hl _) rfl kMl_X1_46 mdX3_at ⟨(Nat.le_of_ble_eq_true rfl), (Nat.le_of_ble_eq_true rfl)⟩ dk_48 rfl rfl (Nat.le_of_ble_eq_true rfl) dX1_matches_29 ⟨(Nat.le_of_ble_eq_true rfl), (Nat.le_of_ble_eq_true rfl)⟩ ?_
    refine J.iload_n (i := 2) C dX1_matches_32 rfl rfl ?_
    refine J.callVVL (hp := (dkh g ad rst)) C (put_25 hl _ _) rfl kMl_X1_62 mdX3_put ⟨(Nat.le_of_ble_eq_true rfl), (Nat.le_of_ble_eq_true rfl)⟩ dk_56 rfl rfl (Nat.le_of_ble_eq_true rfl) dX1_matches_33 ⟨(Nat.le_of_ble_eq_true rfl), (Nat.le_of_ble_eq_true rfl)⟩ H (fun s33 H => ?_)
    refine J.widen (k := 0) (n := 0) (Nat.le_of_ble_eq_true rfl) (Nat.le_of_ble_eq_true rfl) ?_
    refine J.lw (lv' := [(0, .ref (ad 3)), (1, .int a1), (3, .int a3), (4, .int z5)]) ⟨rfl, rfl, rfl, rfl, trivial⟩ ?_
    exact bl_X1_matches_36 hl C hr hx  _ _ _ _  H

/-! X1_replacement -/
abbrev mX1_replacement : MD := (yX1_replacement, cX1_replacement, 5, some .int)
theorem mdX1_replacement : MDv mX1_replacement RX1 1 := ⟨kIm_X1_replacement, kSe_X1_replacement, kIn_X1, kCo_X1_replacement, by decide +kernel⟩
def P_X1_replacement (σ : DS) (a1 : Int32) : Res DS Int32 := (bd (P_X0_find σ a1 (-1 : Int32) (-1 : Int32)) fun r7 s7 => (lt r7 fun z10 => (lt (rat 150 (s7.2 25) z10) fun z19 => (lt (rat 5 (s7.2 24) (a1 - (97 : Int32))) fun z31 => (if z19 = (-1 : Int32) then (if z31 = (-1 : Int32) then (some (.inl z10, s7)) else (some (.inl z31, s7))) else (some (.inl z19, s7)))))))
set_option maxRecDepth 100000 in
theorem sp_X1_replacement {l : Launch} (hl : l.stackTraces = false) {g : Gy} {ad : Nat → Nat} {rst : va_W} {σ : DS} (a1 : Int32) : SpR l mX1_replacement 4 0 0 mI g [.ref (ad 3), .int a1] (dkh g ad rst) σ (P_X1_replacement σ a1) := by
  refine SpR.of hl (by decide) (Nat.le_of_ble_eq_true rfl) (fun rr H p e s m args below meth c A C hr hx => ?_)
  unfold P_X1_replacement at H
  refine J.lw (lv' := [(0, .ref (ad 3)), (1, .int a1)]) ⟨rfl, rfl, trivial⟩ ?_
  refine J.aload_n (i := 0) C dX1_replacement_0 rfl rfl ?_
  refine J.get C 3 0 dk_3 rfl (by decide) kFl_X1_35 inB_X1 rfl dX1_replacement_1 ?_
  refine J.iload_n (i := 1) C dX1_replacement_4 rfl rfl ?_
  refine J.iconst C (-1) dX1_replacement_5 (by decide) ?_
  refine J.iconst C (-1) dX1_replacement_6 (by decide) ?_
  refine J.callVBI (hp := (dkh g ad rst)) C rfl (sp_X0_find hl _ _ _) rfl kMl_X1_123 mdX0_find ⟨(Nat.le_of_ble_eq_true rfl), (Nat.le_of_ble_eq_true rfl)⟩ dk_1 rfl rfl (Nat.le_of_ble_eq_true rfl) dX1_replacement_7 ⟨(Nat.le_of_ble_eq_true rfl), (Nat.le_of_ble_eq_true rfl)⟩ hx (Nat.le_of_ble_eq_true rfl) (Nat.le_of_ble_eq_true rfl) H (fun r7 s7 H => ?_)
  refine J.istore_nL (i := 2) C dX1_replacement_10 rfl (by decide) H (fun z10 H => ?_)
  refine J.aload_n (i := 0) C dX1_replacement_11 rfl rfl ?_
  refine J.get C 3 6 dk_3 rfl (by decide) kFl_X1_32 inB_X1 rfl dX1_replacement_12 ?_
  refine J.iload_n (i := 2) C dX1_replacement_15 rfl rfl ?_
  refine J.callVI C (at_25 hl _) rfl kMl_X1_46 mdX3_at ⟨(Nat.le_of_ble_eq_true rfl), (Nat.le_of_ble_eq_true rfl)⟩ dk_56 rfl rfl (Nat.le_of_ble_eq_true rfl) dX1_replacement_16 ⟨(Nat.le_of_ble_eq_true rfl), (Nat.le_of_ble_eq_true rfl)⟩ ?_
  refine J.istore_nL (i := 3) C dX1_replacement_19 rfl (by decide) H (fun z19 H => ?_)
  refine J.aload_n (i := 0) C dX1_replacement_20 rfl rfl ?_
  refine J.get C 3 5 dk_3 rfl (by decide) kFl_X1_29 inB_X1 rfl dX1_replacement_21 ?_
  refine J.iload_n (i := 1) C dX1_replacement_24 rfl rfl ?_
  refine J.bipush C (97) dX1_replacement_25 (by decide) ?_
  refine J.isub C dX1_replacement_27 ?_
  refine J.callVI C (at_24 hl _) rfl kMl_X1_46 mdX3_at ⟨(Nat.le_of_ble_eq_true rfl), (Nat.le_of_ble_eq_true rfl)⟩ dk_54 rfl rfl (Nat.le_of_ble_eq_true rfl) dX1_replacement_28 ⟨(Nat.le_of_ble_eq_true rfl), (Nat.le_of_ble_eq_true rfl)⟩ ?_
  refine J.istoreL C dX1_replacement_31 (by decide) H (fun z31 H => ?_)
  refine J.iload_n (i := 3) C dX1_replacement_33 rfl rfl ?_
  refine J.iconst C (-1) dX1_replacement_34 (by decide) ?_
  refine J.icmp_eqL (tgt := 40) C dX1_replacement_35 (by decide) H (fun c_35 H => ?_) (fun c_35 H => ?_)
  · refine J.iload C dX1_replacement_40 rfl ?_
    refine J.iconst C (-1) dX1_replacement_42 (by decide) ?_
    refine J.icmp_eqL (tgt := 51) C dX1_replacement_43 (by decide) H (fun c_43 H => ?_) (fun c_43 H => ?_)
    · refine J.iload_n (i := 2) C dX1_replacement_51 rfl rfl ?_
      exact J.iretL C hr (Nat.le_of_ble_eq_true rfl) (Nat.le_of_ble_eq_true rfl) dX1_replacement_52 H
    · refine J.iload C dX1_replacement_46 rfl ?_
      refine J.goto (tgt := 52) C dX1_replacement_48 (by decide) ?_
      exact J.iretL C hr (Nat.le_of_ble_eq_true rfl) (Nat.le_of_ble_eq_true rfl) dX1_replacement_52 H
  · refine J.iload_n (i := 3) C dX1_replacement_38 rfl rfl ?_
    exact J.iretL C hr (Nat.le_of_ble_eq_true rfl) (Nat.le_of_ble_eq_true rfl) dX1_replacement_39 H

/-! X1_writeConclusion -/
def B_X1_writeConclusion_23 (k_23 : DS → Int32 → Int32 → Int32 → Res DS Unit) (σ : DS) (l3 : Int32) (l4 : Int32) (l5 : Int32) : Res DS Unit := (if l4 ≤ l5 then (some (.inl (), σ)) else (if (30 : Int32) < (σ.1 11) then (some (.inl (), σ)) else (lt (F_X0_symbol σ l3 l5) fun z49 => (if (F_X5_isLetter σ z49) = 0 then (bd (P_X5_append σ z49) fun _ s79 => (lt (l5 + (1 : Int32)) fun z82 => (k_23 s79 l3 l4 z82))) else (bd (P_X1_replacement σ z49) fun r67 s67 => (bd (P_X5_appendFormula s67 r67) fun _ s70 => (lt (l5 + (1 : Int32)) fun z82 => (k_23 s70 l3 l4 z82))))))))
set_option maxRecDepth 100000 in
theorem bl_X1_writeConclusion_23 {l : Launch} (hl : l.stackTraces = false) {g : Gy} {ad : Nat → Nat} {rst : va_W} {p : Program} {e : Env} {s : State} {m : MethodId} {args : Array Value} {below : List Frame} {meth : Method} {c : Code} {A : Nat → Prop} (C : Cx p l s m args meth c g A yX1_writeConclusion.cls cX1_writeConclusion 7) (hr : meth.sig.returnType = none) (hx : ∀ x ∈ c.exceptionTable.toList, False) {rr : (Unit ⊕ String) × DS} (k_23 : DS → Int32 → Int32 → Int32 → Res DS Unit) (hk_23 : ∀ (σ : DS) (l3 : Int32) (l4 : Int32) (l5 : Int32), k_23 σ l3 l4 l5 = some rr → J p l e (rmOf 5 0 0) s m args below meth c g A 7 0 0 (QR mV g A (dkh g ad rst) rr below args s 0 0) 23 [(0, .ref (ad 3)), (2, .ref (ad 5)), (3, .int l3), (4, .int l4), (5, .int l5)] [] ((dkh g ad rst) σ)) (σ : DS) (l3 : Int32) (l4 : Int32) (l5 : Int32) (H : B_X1_writeConclusion_23 k_23 σ l3 l4 l5 = some rr) : J p l e (rmOf 5 0 0) s m args below meth c g A 7 0 0 (QR mV g A (dkh g ad rst) rr below args s 0 0) 23 [(0, .ref (ad 3)), (2, .ref (ad 5)), (3, .int l3), (4, .int l4), (5, .int l5)] [] ((dkh g ad rst) σ) := by
  unfold B_X1_writeConclusion_23 at H
  refine J.iload C dX1_writeConclusion_23 rfl ?_
  refine J.iload C dX1_writeConclusion_25 rfl ?_
  refine J.icmp_geL (tgt := 88) C dX1_writeConclusion_27 (by decide) H (fun c_27 H => ?_) (fun c_27 H => ?_)
  · exact J.vretL C hr (Nat.le_of_ble_eq_true rfl) (Nat.le_of_ble_eq_true rfl) dX1_writeConclusion_88 H
  · refine J.aload_n (i := 2) C dX1_writeConclusion_30 rfl rfl ?_
    refine J.getN C 5 1 dk_5 rfl (by decide) nest_X1_104 inB_X5 rfl dX1_writeConclusion_31 ?_
    refine J.bipush C (30) dX1_writeConclusion_34 (by decide) ?_
    refine J.icmp_gtL (tgt := 88) C dX1_writeConclusion_36 (by decide) H (fun c_36 H => ?_) (fun c_36 H => ?_)
    · exact J.vretL C hr (Nat.le_of_ble_eq_true rfl) (Nat.le_of_ble_eq_true rfl) dX1_writeConclusion_88 H
    · refine J.aload_n (i := 0) C dX1_writeConclusion_39 rfl rfl ?_
      refine J.get C 3 0 dk_3 rfl (by decide) kFl_X1_35 inB_X1 rfl dX1_writeConclusion_40 ?_
      refine J.iload_n (i := 3) C dX1_writeConclusion_43 rfl rfl ?_
      refine J.iload C dX1_writeConclusion_44 rfl ?_
      refine J.callVI C (sp_X0_symbol hl _ _) rfl kMl_X1_107 mdX0_symbol ⟨(Nat.le_of_ble_eq_true rfl), (Nat.le_of_ble_eq_true rfl)⟩ dk_1 rfl rfl (Nat.le_of_ble_eq_true rfl) dX1_writeConclusion_46 ⟨(Nat.le_of_ble_eq_true rfl), (Nat.le_of_ble_eq_true rfl)⟩ ?_
      refine J.istoreL C dX1_writeConclusion_49 (by decide) H (fun z49 H => ?_)
      refine J.iload C dX1_writeConclusion_51 rfl ?_
      refine J.callSI C (sp_X5_isLetter hl _) rfl kMl_X1_83 mdX5_isLetter ⟨(Nat.le_of_ble_eq_true rfl), (Nat.le_of_ble_eq_true rfl)⟩ rfl (Nat.le_of_ble_eq_true rfl) dX1_writeConclusion_53 ⟨(Nat.le_of_ble_eq_true rfl), (Nat.le_of_ble_eq_true rfl)⟩ ?_
      refine J.if_eqL (tgt := 76) C dX1_writeConclusion_56 (by decide) H (fun c_56 H => ?_) (fun c_56 H => ?_)
      · refine J.aload_n (i := 2) C dX1_writeConclusion_76 rfl rfl ?_
        refine J.iload C dX1_writeConclusion_77 rfl ?_
        refine J.callVBV (hp := (dkh g ad rst)) C rfl (sp_X5_append hl _) rfl kMl_X1_119 mdX5_append ⟨(Nat.le_of_ble_eq_true rfl), (Nat.le_of_ble_eq_true rfl)⟩ dk_5 rfl rfl (Nat.le_of_ble_eq_true rfl) dX1_writeConclusion_79 ⟨(Nat.le_of_ble_eq_true rfl), (Nat.le_of_ble_eq_true rfl)⟩ hx (Nat.le_of_ble_eq_true rfl) (Nat.le_of_ble_eq_true rfl) H (fun _ s79 H => ?_)
        refine J.iincL C (l5 + (1 : Int32)) dX1_writeConclusion_82 rfl rfl (by decide) H (fun z82 H => ?_)
        refine J.goto (tgt := 23) C dX1_writeConclusion_85 (by decide) ?_
        refine J.widen (k := 0) (n := 0) (Nat.le_of_ble_eq_true rfl) (Nat.le_of_ble_eq_true rfl) ?_
        refine J.lw (lv' := [(0, .ref (ad 3)), (2, .ref (ad 5)), (3, .int l3), (4, .int l4), (5, .int z82)]) ⟨rfl, rfl, rfl, rfl, rfl, trivial⟩ ?_
        exact hk_23 _ _ _ _  H
      · refine J.aload_n (i := 2) C dX1_writeConclusion_59 rfl rfl ?_
        refine J.aload_n (i := 0) C dX1_writeConclusion_60 rfl rfl ?_
        refine J.get C 3 0 dk_3 rfl (by decide) kFl_X1_35 inB_X1 rfl dX1_writeConclusion_61 ?_
        refine J.aload_n (i := 0) C dX1_writeConclusion_64 rfl rfl ?_
        refine J.iload C dX1_writeConclusion_65 rfl ?_
        refine J.callVBI (hp := (dkh g ad rst)) C rfl (sp_X1_replacement hl _) rfl kMl_X1_111 mdX1_replacement ⟨(Nat.le_of_ble_eq_true rfl), (Nat.le_of_ble_eq_true rfl)⟩ dk_3 rfl rfl (Nat.le_of_ble_eq_true rfl) dX1_writeConclusion_67 ⟨(Nat.le_of_ble_eq_true rfl), (Nat.le_of_ble_eq_true rfl)⟩ hx (Nat.le_of_ble_eq_true rfl) (Nat.le_of_ble_eq_true rfl) H (fun r67 s67 H => ?_)
        refine J.callVBV (hp := (dkh g ad rst)) C rfl (sp_X5_appendFormula hl _) rfl kMl_X1_115 mdX5_appendFormula ⟨(Nat.le_of_ble_eq_true rfl), (Nat.le_of_ble_eq_true rfl)⟩ dk_5 rfl rfl (Nat.le_of_ble_eq_true rfl) dX1_writeConclusion_70 ⟨(Nat.le_of_ble_eq_true rfl), (Nat.le_of_ble_eq_true rfl)⟩ hx (Nat.le_of_ble_eq_true rfl) (Nat.le_of_ble_eq_true rfl) H (fun _ s70 H => ?_)
        refine J.goto (tgt := 82) C dX1_writeConclusion_73 (by decide) ?_
        refine J.iincL C (l5 + (1 : Int32)) dX1_writeConclusion_82 rfl rfl (by decide) H (fun z82 H => ?_)
        refine J.goto (tgt := 23) C dX1_writeConclusion_85 (by decide) ?_
        refine J.widen (k := 0) (n := 0) (Nat.le_of_ble_eq_true rfl) (Nat.le_of_ble_eq_true rfl) ?_
        refine J.lw (lv' := [(0, .ref (ad 3)), (2, .ref (ad 5)), (3, .int l3), (4, .int l4), (5, .int z82)]) ⟨rfl, rfl, rfl, rfl, rfl, trivial⟩ ?_
        exact hk_23 _ _ _ _  H
def L_X1_writeConclusion_23 : Nat → DS → Int32 → Int32 → Int32 → Res DS Unit
  | 0, _, _, _, _ => none
  | n + 1, σ, l3, l4, l5 => B_X1_writeConclusion_23 (L_X1_writeConclusion_23 n) σ l3 l4 l5
set_option maxRecDepth 100000 in
theorem lp_X1_writeConclusion_23 {l : Launch} (hl : l.stackTraces = false) {g : Gy} {ad : Nat → Nat} {rst : va_W} {p : Program} {e : Env} {s : State} {m : MethodId} {args : Array Value} {below : List Frame} {meth : Method} {c : Code} {A : Nat → Prop} (C : Cx p l s m args meth c g A yX1_writeConclusion.cls cX1_writeConclusion 7) (hr : meth.sig.returnType = none) (hx : ∀ x ∈ c.exceptionTable.toList, False) {rr : (Unit ⊕ String) × DS} : ∀ (n : Nat) (σ : DS) (l3 : Int32) (l4 : Int32) (l5 : Int32), L_X1_writeConclusion_23 n σ l3 l4 l5 = some rr → J p l e (rmOf 5 0 0) s m args below meth c g A 7 0 0 (QR mV g A (dkh g ad rst) rr below args s 0 0) 23 [(0, .ref (ad 3)), (2, .ref (ad 5)), (3, .int l3), (4, .int l4), (5, .int l5)] [] ((dkh g ad rst) σ) := by
  intro n
  induction n with
  | zero => intro σ l3 l4 l5 H; cases H
  | succ n ih => intro σ l3 l4 l5 H; exact bl_X1_writeConclusion_23 hl C hr hx _ ih _ _ _ _ H
abbrev mX1_writeConclusion : MD := (yX1_writeConclusion, cX1_writeConclusion, 7, none)
theorem mdX1_writeConclusion : MDv mX1_writeConclusion RX1 2 := ⟨kIm_X1_writeConclusion, kSe_X1_writeConclusion, kIn_X1, kCo_X1_writeConclusion, by decide +kernel⟩
def P_X1_writeConclusion (σ : DS) (a1 : Int32) : Res DS Unit := (lt (F_X1_conclusion σ a1) fun z5 => (bd (P_X5_clear σ ) fun _ s7 => (lt (F_X0_size s7 z5) fun z18 => (lt (0 : Int32) fun z21 => (L_X1_writeConclusion_23 FU s7 z5 z18 z21)))))
set_option maxRecDepth 100000 in
theorem sp_X1_writeConclusion {l : Launch} (hl : l.stackTraces = false) {g : Gy} {ad : Nat → Nat} {rst : va_W} {σ : DS} (a1 : Int32) : SpR l mX1_writeConclusion 5 0 0 mV g [.ref (ad 3), .int a1, .ref (ad 5)] (dkh g ad rst) σ (P_X1_writeConclusion σ a1) := by
  refine SpR.of hl (by decide) (Nat.le_of_ble_eq_true rfl) (fun rr H p e s m args below meth c A C hr hx => ?_)
  unfold P_X1_writeConclusion at H
  refine J.lw (lv' := [(0, .ref (ad 3)), (1, .int a1), (2, .ref (ad 5))]) ⟨rfl, rfl, rfl, trivial⟩ ?_
  refine J.aload_n (i := 0) C dX1_writeConclusion_0 rfl rfl ?_
  refine J.iload_n (i := 1) C dX1_writeConclusion_1 rfl rfl ?_
  refine J.callVI C (sp_X1_conclusion hl _) rfl kMl_X1_95 mdX1_conclusion ⟨(Nat.le_of_ble_eq_true rfl), (Nat.le_of_ble_eq_true rfl)⟩ dk_3 rfl rfl (Nat.le_of_ble_eq_true rfl) dX1_writeConclusion_2 ⟨(Nat.le_of_ble_eq_true rfl), (Nat.le_of_ble_eq_true rfl)⟩ ?_
  refine J.istore_nL (i := 3) C dX1_writeConclusion_5 rfl (by decide) H (fun z5 H => ?_)
  refine J.aload_n (i := 2) C dX1_writeConclusion_6 rfl rfl ?_
  refine J.callVBV (hp := (dkh g ad rst)) C rfl (sp_X5_clear hl ) rfl kMl_X1_98 mdX5_clear ⟨(Nat.le_of_ble_eq_true rfl), (Nat.le_of_ble_eq_true rfl)⟩ dk_5 rfl rfl (Nat.le_of_ble_eq_true rfl) dX1_writeConclusion_7 ⟨(Nat.le_of_ble_eq_true rfl), (Nat.le_of_ble_eq_true rfl)⟩ hx (Nat.le_of_ble_eq_true rfl) (Nat.le_of_ble_eq_true rfl) H (fun _ s7 H => ?_)
  refine J.aload_n (i := 0) C dX1_writeConclusion_10 rfl rfl ?_
  refine J.get C 3 0 dk_3 rfl (by decide) kFl_X1_35 inB_X1 rfl dX1_writeConclusion_11 ?_
  refine J.iload_n (i := 3) C dX1_writeConclusion_14 rfl rfl ?_
  refine J.callVI C (sp_X0_size hl _) rfl kMl_X1_101 mdX0_size ⟨(Nat.le_of_ble_eq_true rfl), (Nat.le_of_ble_eq_true rfl)⟩ dk_1 rfl rfl (Nat.le_of_ble_eq_true rfl) dX1_writeConclusion_15 ⟨(Nat.le_of_ble_eq_true rfl), (Nat.le_of_ble_eq_true rfl)⟩ ?_
  refine J.istoreL C dX1_writeConclusion_18 (by decide) H (fun z18 H => ?_)
  refine J.iconst C (0) dX1_writeConclusion_20 (by decide) ?_
  refine J.istoreL C dX1_writeConclusion_21 (by decide) H (fun z21 H => ?_)
  refine J.widen (k := 0) (n := 0) (Nat.le_of_ble_eq_true rfl) (Nat.le_of_ble_eq_true rfl) ?_
  refine J.lw (lv' := [(0, .ref (ad 3)), (2, .ref (ad 5)), (3, .int z5), (4, .int z18), (5, .int z21)]) ⟨rfl, rfl, rfl, rfl, rfl, trivial⟩ ?_
  exact lp_X1_writeConclusion_23 hl C hr hx  FU _ _ _ _  H

/-! X2_clear -/
abbrev mX2_clear : MD := (yX2_clear, cX2_clear, 1, none)
theorem mdX2_clear : MDv mX2_clear RX2 0 := ⟨kIm_X2_clear, kSe_X2_clear, kIn_X2, kCo_X2_clear, by decide +kernel⟩
def P_X2_clear (σ : DS)  : Res DS Unit := (lt (sI σ 2 (0 : Int32)) fun s2 => (lt (sI s2 3 (0 : Int32)) fun s7 => (lt (sI s7 4 (-1 : Int32)) fun s12 => (some (.inl (), s12)))))
set_option maxRecDepth 100000 in
theorem sp_X2_clear {l : Launch} (hl : l.stackTraces = false) {g : Gy} {ad : Nat → Nat} {rst : va_W} {σ : DS}  : SpR l mX2_clear 1 0 0 mV g [.ref (ad 2)] (dkh g ad rst) σ (P_X2_clear σ ) := by
  refine SpR.of hl (by decide) (Nat.le_of_ble_eq_true rfl) (fun rr H p e s m args below meth c A C hr hx => ?_)
  unfold P_X2_clear at H
  refine J.lw (lv' := [(0, .ref (ad 2))]) ⟨rfl, trivial⟩ ?_
  refine J.aload_n (i := 0) C dX2_clear_0 rfl rfl ?_
  refine J.iconst C (0) dX2_clear_1 (by decide) ?_
  refine J.putL (hp := (dkh g ad rst)) C 2 13 dk_2 rfl (by decide) kFl_X2_61 inB_X2 tyX2 tyX2_ok nmX2 rfl rfl rfl rfl (Nat.le_of_ble_eq_true rfl) dX2_clear_2 (dkI_2 _) H (fun s2 H => ?_)
  refine J.aload_n (i := 0) C dX2_clear_5 rfl rfl ?_
  refine J.iconst C (0) dX2_clear_6 (by decide) ?_
  refine J.putL (hp := (dkh g ad rst)) C 2 14 dk_2 rfl (by decide) kFl_X2_64 inB_X2 tyX2 tyX2_ok nmX2 rfl rfl rfl rfl (Nat.le_of_ble_eq_true rfl) dX2_clear_7 (dkI_3 _) H (fun s7 H => ?_)
  refine J.aload_n (i := 0) C dX2_clear_10 rfl rfl ?_
  refine J.iconst C (-1) dX2_clear_11 (by decide) ?_
  refine J.putL (hp := (dkh g ad rst)) C 2 15 dk_2 rfl (by decide) kFl_X2_53 inB_X2 tyX2 tyX2_ok nmX2 rfl rfl rfl rfl (Nat.le_of_ble_eq_true rfl) dX2_clear_12 (dkI_4 _) H (fun s12 H => ?_)
  exact J.vretL C hr (Nat.le_of_ble_eq_true rfl) (Nat.le_of_ble_eq_true rfl) dX2_clear_15 H

/-! X2_hasLine -/
abbrev mX2_hasLine : MD := (yX2_hasLine, cX2_hasLine, 2, some .boolean)
theorem mdX2_hasLine : MDv mX2_hasLine RX2 1 := ⟨kIm_X2_hasLine, kSe_X2_hasLine, kIn_X2, kCo_X2_hasLine, by decide +kernel⟩
def F_X2_hasLine (σ : DS) (a1 : Int32) : Int32 := (if a1 < 0 then (0 : Int32) else (if (σ.1 2) ≤ a1 then (0 : Int32) else (1 : Int32)))
set_option maxRecDepth 100000 in
theorem sp_X2_hasLine {l : Launch} (hl : l.stackTraces = false) {g : Gy} {ad : Nat → Nat} {rst : va_W} {σ : DS} (a1 : Int32) : SpF l mX2_hasLine 1 0 0 mI g [.ref (ad 2), .int a1] ((dkh g ad rst) σ) (F_X2_hasLine σ a1) ((dkh g ad rst) σ) := by
  generalize H : F_X2_hasLine σ a1 = r0
  unfold F_X2_hasLine at H
  refine Sp.of hl (by decide) (Nat.le_of_ble_eq_true rfl) (fun p e s m args below meth c A C hr hx => ?_)
  refine J.lw (lv' := [(0, .ref (ad 2)), (1, .int a1)]) ⟨rfl, rfl, trivial⟩ ?_
  refine J.iload_n (i := 1) C dX2_hasLine_0 rfl rfl ?_
  refine J.if_ltL (tgt := 16) C dX2_hasLine_1 (by decide) H (fun c_1 H => ?_) (fun c_1 H => ?_)
  · refine J.iconst C (0) dX2_hasLine_16 (by decide) ?_
    exact J.zretA C hr rfl (Nat.le_refl _) (Nat.le_refl _) dX2_hasLine_17 H
  · refine J.iload_n (i := 1) C dX2_hasLine_4 rfl rfl ?_
    refine J.aload_n (i := 0) C dX2_hasLine_5 rfl rfl ?_
    refine J.get C 2 13 dk_2 rfl (by decide) kFl_X2_61 inB_X2 rfl dX2_hasLine_6 ?_
    refine J.icmp_geL (tgt := 16) C dX2_hasLine_9 (by decide) H (fun c_9 H => ?_) (fun c_9 H => ?_)
    · refine J.iconst C (0) dX2_hasLine_16 (by decide) ?_
      exact J.zretA C hr rfl (Nat.le_refl _) (Nat.le_refl _) dX2_hasLine_17 H
    · refine J.iconst C (1) dX2_hasLine_12 (by decide) ?_
      refine J.goto (tgt := 17) C dX2_hasLine_13 (by decide) ?_
      exact J.zretA C hr rfl (Nat.le_refl _) (Nat.le_refl _) dX2_hasLine_17 H
theorem nr_X2_hasLine (σ : DS) (a1 : Int32) : narrow .boolean (.int (F_X2_hasLine σ a1)) = .int (F_X2_hasLine σ a1) := by
  unfold F_X2_hasLine
  try simp only [lt]
  repeat' split
  all_goals first | rfl | exact pk_nc _ | (first | rfl)

/-! X2_hasBox -/
abbrev mX2_hasBox : MD := (yX2_hasBox, cX2_hasBox, 2, some .boolean)
theorem mdX2_hasBox : MDv mX2_hasBox RX2 1 := ⟨kIm_X2_hasBox, kSe_X2_hasBox, kIn_X2, kCo_X2_hasBox, by decide +kernel⟩
def F_X2_hasBox (σ : DS) (a1 : Int32) : Int32 := (if a1 < 0 then (0 : Int32) else (if (σ.1 3) ≤ a1 then (0 : Int32) else (1 : Int32)))
set_option maxRecDepth 100000 in
theorem sp_X2_hasBox {l : Launch} (hl : l.stackTraces = false) {g : Gy} {ad : Nat → Nat} {rst : va_W} {σ : DS} (a1 : Int32) : SpF l mX2_hasBox 1 0 0 mI g [.ref (ad 2), .int a1] ((dkh g ad rst) σ) (F_X2_hasBox σ a1) ((dkh g ad rst) σ) := by
  generalize H : F_X2_hasBox σ a1 = r0
  unfold F_X2_hasBox at H
  refine Sp.of hl (by decide) (Nat.le_of_ble_eq_true rfl) (fun p e s m args below meth c A C hr hx => ?_)
  refine J.lw (lv' := [(0, .ref (ad 2)), (1, .int a1)]) ⟨rfl, rfl, trivial⟩ ?_
  refine J.iload_n (i := 1) C dX2_hasBox_0 rfl rfl ?_
  refine J.if_ltL (tgt := 16) C dX2_hasBox_1 (by decide) H (fun c_1 H => ?_) (fun c_1 H => ?_)
  · refine J.iconst C (0) dX2_hasBox_16 (by decide) ?_
    exact J.zretA C hr rfl (Nat.le_refl _) (Nat.le_refl _) dX2_hasBox_17 H
  · refine J.iload_n (i := 1) C dX2_hasBox_4 rfl rfl ?_
    refine J.aload_n (i := 0) C dX2_hasBox_5 rfl rfl ?_
    refine J.get C 2 14 dk_2 rfl (by decide) kFl_X2_64 inB_X2 rfl dX2_hasBox_6 ?_
    refine J.icmp_geL (tgt := 16) C dX2_hasBox_9 (by decide) H (fun c_9 H => ?_) (fun c_9 H => ?_)
    · refine J.iconst C (0) dX2_hasBox_16 (by decide) ?_
      exact J.zretA C hr rfl (Nat.le_refl _) (Nat.le_refl _) dX2_hasBox_17 H
    · refine J.iconst C (1) dX2_hasBox_12 (by decide) ?_
      refine J.goto (tgt := 17) C dX2_hasBox_13 (by decide) ?_
      exact J.zretA C hr rfl (Nat.le_refl _) (Nat.le_refl _) dX2_hasBox_17 H
theorem nr_X2_hasBox (σ : DS) (a1 : Int32) : narrow .boolean (.int (F_X2_hasBox σ a1)) = .int (F_X2_hasBox σ a1) := by
  unfold F_X2_hasBox
  try simp only [lt]
  repeat' split
  all_goals first | rfl | exact pk_nc _ | (first | rfl)

/-! X2_innermostOf -/
abbrev mX2_innermostOf : MD := (yX2_innermostOf, cX2_innermostOf, 2, some .int)
theorem mdX2_innermostOf : MDv mX2_innermostOf RX2 1 := ⟨kIm_X2_innermostOf, kSe_X2_innermostOf, kIn_X2, kCo_X2_innermostOf, by decide +kernel⟩
def F_X2_innermostOf (σ : DS) (a1 : Int32) : Int32 := (rat 60 (σ.2 10) a1)
set_option maxRecDepth 100000 in
theorem sp_X2_innermostOf {l : Launch} (hl : l.stackTraces = false) {g : Gy} {ad : Nat → Nat} {rst : va_W} {σ : DS} (a1 : Int32) : SpF l mX2_innermostOf 2 0 0 mI g [.ref (ad 2), .int a1] ((dkh g ad rst) σ) (F_X2_innermostOf σ a1) ((dkh g ad rst) σ) := by
  generalize H : F_X2_innermostOf σ a1 = r0
  unfold F_X2_innermostOf at H
  refine Sp.of hl (by decide) (Nat.le_of_ble_eq_true rfl) (fun p e s m args below meth c A C hr hx => ?_)
  refine J.lw (lv' := [(0, .ref (ad 2)), (1, .int a1)]) ⟨rfl, rfl, trivial⟩ ?_
  refine J.aload_n (i := 0) C dX2_innermostOf_0 rfl rfl ?_
  refine J.get C 2 3 dk_2 rfl (by decide) kFl_X2_23 inB_X2 rfl dX2_innermostOf_1 ?_
  refine J.iload_n (i := 1) C dX2_innermostOf_4 rfl rfl ?_
  refine J.callVI C (at_10 hl _) rfl kMl_X2_67 mdX3_at ⟨(Nat.le_of_ble_eq_true rfl), (Nat.le_of_ble_eq_true rfl)⟩ dk_26 rfl rfl (Nat.le_of_ble_eq_true rfl) dX2_innermostOf_5 ⟨(Nat.le_of_ble_eq_true rfl), (Nat.le_of_ble_eq_true rfl)⟩ ?_
  exact J.iretA C hr (Nat.le_refl _) (Nat.le_refl _) dX2_innermostOf_8 H

/-! X2_begin -/
abbrev mX2_begin : MD := (yX2_begin, cX2_begin, 2, some .int)
theorem mdX2_begin : MDv mX2_begin RX2 1 := ⟨kIm_X2_begin, kSe_X2_begin, kIn_X2, kCo_X2_begin, by decide +kernel⟩
def F_X2_begin (σ : DS) (a1 : Int32) : Int32 := (F_X2_formula σ (rat 60 (σ.2 16) a1))
set_option maxRecDepth 100000 in
theorem sp_X2_begin {l : Launch} (hl : l.stackTraces = false) {g : Gy} {ad : Nat → Nat} {rst : va_W} {σ : DS} (a1 : Int32) : SpF l mX2_begin 3 0 0 mI g [.ref (ad 2), .int a1] ((dkh g ad rst) σ) (F_X2_begin σ a1) ((dkh g ad rst) σ) := by
  generalize H : F_X2_begin σ a1 = r0
  unfold F_X2_begin at H
  refine Sp.of hl (by decide) (Nat.le_of_ble_eq_true rfl) (fun p e s m args below meth c A C hr hx => ?_)
  refine J.lw (lv' := [(0, .ref (ad 2)), (1, .int a1)]) ⟨rfl, rfl, trivial⟩ ?_
  refine J.aload_n (i := 0) C dX2_begin_0 rfl rfl ?_
  refine J.aload_n (i := 0) C dX2_begin_1 rfl rfl ?_
  refine J.get C 2 9 dk_2 rfl (by decide) kFl_X2_41 inB_X2 rfl dX2_begin_2 ?_
  refine J.iload_n (i := 1) C dX2_begin_5 rfl rfl ?_
  refine J.callVI C (at_16 hl _) rfl kMl_X2_67 mdX3_at ⟨(Nat.le_of_ble_eq_true rfl), (Nat.le_of_ble_eq_true rfl)⟩ dk_38 rfl rfl (Nat.le_of_ble_eq_true rfl) dX2_begin_6 ⟨(Nat.le_of_ble_eq_true rfl), (Nat.le_of_ble_eq_true rfl)⟩ ?_
  refine J.callVI C (sp_X2_formula hl _) rfl kMl_X2_71 mdX2_formula ⟨(Nat.le_of_ble_eq_true rfl), (Nat.le_of_ble_eq_true rfl)⟩ dk_2 rfl rfl (Nat.le_of_ble_eq_true rfl) dX2_begin_9 ⟨(Nat.le_of_ble_eq_true rfl), (Nat.le_of_ble_eq_true rfl)⟩ ?_
  exact J.iretA C hr (Nat.le_refl _) (Nat.le_refl _) dX2_begin_12 H

/-! X2_result -/
abbrev mX2_result : MD := (yX2_result, cX2_result, 2, some .int)
theorem mdX2_result : MDv mX2_result RX2 1 := ⟨kIm_X2_result, kSe_X2_result, kIn_X2, kCo_X2_result, by decide +kernel⟩
def F_X2_result (σ : DS) (a1 : Int32) : Int32 := (F_X2_formula σ (rat 60 (σ.2 17) a1))
set_option maxRecDepth 100000 in
theorem sp_X2_result {l : Launch} (hl : l.stackTraces = false) {g : Gy} {ad : Nat → Nat} {rst : va_W} {σ : DS} (a1 : Int32) : SpF l mX2_result 3 0 0 mI g [.ref (ad 2), .int a1] ((dkh g ad rst) σ) (F_X2_result σ a1) ((dkh g ad rst) σ) := by
  generalize H : F_X2_result σ a1 = r0
  unfold F_X2_result at H
  refine Sp.of hl (by decide) (Nat.le_of_ble_eq_true rfl) (fun p e s m args below meth c A C hr hx => ?_)
  refine J.lw (lv' := [(0, .ref (ad 2)), (1, .int a1)]) ⟨rfl, rfl, trivial⟩ ?_
  refine J.aload_n (i := 0) C dX2_result_0 rfl rfl ?_
  refine J.aload_n (i := 0) C dX2_result_1 rfl rfl ?_
  refine J.get C 2 10 dk_2 rfl (by decide) kFl_X2_44 inB_X2 rfl dX2_result_2 ?_
  refine J.iload_n (i := 1) C dX2_result_5 rfl rfl ?_
  refine J.callVI C (at_17 hl _) rfl kMl_X2_67 mdX3_at ⟨(Nat.le_of_ble_eq_true rfl), (Nat.le_of_ble_eq_true rfl)⟩ dk_40 rfl rfl (Nat.le_of_ble_eq_true rfl) dX2_result_6 ⟨(Nat.le_of_ble_eq_true rfl), (Nat.le_of_ble_eq_true rfl)⟩ ?_
  refine J.callVI C (sp_X2_formula hl _) rfl kMl_X2_71 mdX2_formula ⟨(Nat.le_of_ble_eq_true rfl), (Nat.le_of_ble_eq_true rfl)⟩ dk_2 rfl rfl (Nat.le_of_ble_eq_true rfl) dX2_result_9 ⟨(Nat.le_of_ble_eq_true rfl), (Nat.le_of_ble_eq_true rfl)⟩ ?_
  exact J.iretA C hr (Nat.le_refl _) (Nat.le_refl _) dX2_result_12 H

/-! X2_enter -/
abbrev mX2_enter : MD := (yX2_enter, cX2_enter, 4, some .int)
theorem mdX2_enter : MDv mX2_enter RX2 2 := ⟨kIm_X2_enter, kSe_X2_enter, kIn_X2, kCo_X2_enter, by decide +kernel⟩
def P_X2_enter (σ : DS) (a1 : Int32) (a2 : Int32) : Res DS Int32 := (lt (σ.1 2) fun z4 => (lt (sR σ 8 (rput 60 (σ.2 8) z4 a1)) fun s11 => (lt (sR s11 9 (rput 60 (s11.2 9) z4 a2)) fun s20 => (lt (sR s20 10 (rput 60 (s20.2 10) z4 (s20.1 4))) fun s32 => (lt (sR s32 11 (rput 60 (s32.2 11) z4 (-1 : Int32))) fun s41 => (lt (sR s41 12 (rput 60 (s41.2 12) z4 (-1 : Int32))) fun s50 => (lt (sR s50 13 (rput 60 (s50.2 13) z4 (-1 : Int32))) fun s59 => (lt (sR s59 14 (rput 60 (s59.2 14) z4 (-1 : Int32))) fun s68 => (lt (sR s68 17 (rput 60 (s68.2 17) (s68.1 4) z4)) fun s80 => (lt (sI s80 2 ((s80.1 2) + (1 : Int32))) fun s90 => (some (.inl z4, s90))))))))))))
set_option maxRecDepth 100000 in
theorem sp_X2_enter {l : Launch} (hl : l.stackTraces = false) {g : Gy} {ad : Nat → Nat} {rst : va_W} {σ : DS} (a1 : Int32) (a2 : Int32) : SpR l mX2_enter 2 0 0 mI g [.ref (ad 2), .int a1, .int a2] (dkh g ad rst) σ (P_X2_enter σ a1 a2) := by
  refine SpR.of hl (by decide) (Nat.le_of_ble_eq_true rfl) (fun rr H p e s m args below meth c A C hr hx => ?_)
  unfold P_X2_enter at H
  refine J.lw (lv' := [(0, .ref (ad 2)), (1, .int a1), (2, .int a2)]) ⟨rfl, rfl, rfl, trivial⟩ ?_
  refine J.aload_n (i := 0) C dX2_enter_0 rfl rfl ?_
  refine J.get C 2 13 dk_2 rfl (by decide) kFl_X2_61 inB_X2 rfl dX2_enter_1 ?_
  refine J.istore_nL (i := 3) C dX2_enter_4 rfl (by decide) H (fun z4 H => ?_)
  refine J.aload_n (i := 0) C dX2_enter_5 rfl rfl ?_
  refine J.get C 2 1 dk_2 rfl (by decide) kFl_X2_14 inB_X2 rfl dX2_enter_6 ?_
  refine J.iload_n (i := 3) C dX2_enter_9 rfl rfl ?_
  refine J.iload_n (i := 1) C dX2_enter_10 rfl rfl ?_
  refine J.callVVL (hp := (dkh g ad rst)) C (put_8 hl _ _) rfl kMl_X2_74 mdX3_put ⟨(Nat.le_of_ble_eq_true rfl), (Nat.le_of_ble_eq_true rfl)⟩ dk_22 rfl rfl (Nat.le_of_ble_eq_true rfl) dX2_enter_11 ⟨(Nat.le_of_ble_eq_true rfl), (Nat.le_of_ble_eq_true rfl)⟩ H (fun s11 H => ?_)
  refine J.aload_n (i := 0) C dX2_enter_14 rfl rfl ?_
  refine J.get C 2 2 dk_2 rfl (by decide) kFl_X2_20 inB_X2 rfl dX2_enter_15 ?_
  refine J.iload_n (i := 3) C dX2_enter_18 rfl rfl ?_
  refine J.iload_n (i := 2) C dX2_enter_19 rfl rfl ?_
  refine J.callVVL (hp := (dkh g ad rst)) C (put_9 hl _ _) rfl kMl_X2_74 mdX3_put ⟨(Nat.le_of_ble_eq_true rfl), (Nat.le_of_ble_eq_true rfl)⟩ dk_24 rfl rfl (Nat.le_of_ble_eq_true rfl) dX2_enter_20 ⟨(Nat.le_of_ble_eq_true rfl), (Nat.le_of_ble_eq_true rfl)⟩ H (fun s20 H => ?_)
  refine J.aload_n (i := 0) C dX2_enter_23 rfl rfl ?_
  refine J.get C 2 3 dk_2 rfl (by decide) kFl_X2_23 inB_X2 rfl dX2_enter_24 ?_
  refine J.iload_n (i := 3) C dX2_enter_27 rfl rfl ?_
  refine J.aload_n (i := 0) C dX2_enter_28 rfl rfl ?_
  refine J.get C 2 15 dk_2 rfl (by decide) kFl_X2_53 inB_X2 rfl dX2_enter_29 ?_
  refine J.callVVL (hp := (dkh g ad rst)) C (put_10 hl _ _) rfl kMl_X2_74 mdX3_put ⟨(Nat.le_of_ble_eq_true rfl), (Nat.le_of_ble_eq_true rfl)⟩ dk_26 rfl rfl (Nat.le_of_ble_eq_true rfl) dX2_enter_32 ⟨(Nat.le_of_ble_eq_true rfl), (Nat.le_of_ble_eq_true rfl)⟩ H (fun s32 H => ?_)
  refine J.aload_n (i := 0) C dX2_enter_35 rfl rfl ?_
  refine J.get C 2 4 dk_2 rfl (by decide) kFl_X2_26 inB_X2 rfl dX2_enter_36 ?_
  refine J.iload_n (i := 3) C dX2_enter_39 rfl rfl ?_
  refine J.iconst C (-1) dX2_enter_40 (by decide) ?_
  refine J.callVVL (hp := (dkh g ad rst)) C (put_11 hl _ _) rfl kMl_X2_74 mdX3_put ⟨(Nat.le_of_ble_eq_true rfl), (Nat.le_of_ble_eq_true rfl)⟩ dk_28 rfl rfl (Nat.le_of_ble_eq_true rfl) dX2_enter_41 ⟨(Nat.le_of_ble_eq_true rfl), (Nat.le_of_ble_eq_true rfl)⟩ H (fun s41 H => ?_)
  refine J.aload_n (i := 0) C dX2_enter_44 rfl rfl ?_
  refine J.get C 2 5 dk_2 rfl (by decide) kFl_X2_29 inB_X2 rfl dX2_enter_45 ?_
  refine J.iload_n (i := 3) C dX2_enter_48 rfl rfl ?_
  refine J.iconst C (-1) dX2_enter_49 (by decide) ?_
  refine J.callVVL (hp := (dkh g ad rst)) C (put_12 hl _ _) rfl kMl_X2_74 mdX3_put ⟨(Nat.le_of_ble_eq_true rfl), (Nat.le_of_ble_eq_true rfl)⟩ dk_30 rfl rfl (Nat.le_of_ble_eq_true rfl) dX2_enter_50 ⟨(Nat.le_of_ble_eq_true rfl), (Nat.le_of_ble_eq_true rfl)⟩ H (fun s50 H => ?_)
  refine J.aload_n (i := 0) C dX2_enter_53 rfl rfl ?_
  refine J.get C 2 6 dk_2 rfl (by decide) kFl_X2_32 inB_X2 rfl dX2_enter_54 ?_
  refine J.iload_n (i := 3) C dX2_enter_57 rfl rfl ?_
  refine J.iconst C (-1) dX2_enter_58 (by decide) ?_
  refine J.callVVL (hp := (dkh g ad rst)) C (put_13 hl _ _) rfl kMl_X2_74 mdX3_put ⟨(Nat.le_of_ble_eq_true rfl), (Nat.le_of_ble_eq_true rfl)⟩ dk_32 rfl rfl (Nat.le_of_ble_eq_true rfl) dX2_enter_59 ⟨(Nat.le_of_ble_eq_true rfl), (Nat.le_of_ble_eq_true rfl)⟩ H (fun s59 H => ?_)
  refine J.aload_n (i := 0) C dX2_enter_62 rfl rfl ?_
  refine J.get C 2 7 dk_2 rfl (by decide) kFl_X2_35 inB_X2 rfl dX2_enter_63 ?_
  refine J.iload_n (i := 3) C dX2_enter_66 rfl rfl ?_
  refine J.iconst C (-1) dX2_enter_67 (by decide) ?_
  refine J.callVVL (hp := (dkh g ad rst)) C (put_14 hl _ _) rfl kMl_X2_74 mdX3_put ⟨(Nat.le_of_ble_eq_true rfl), (Nat.le_of_ble_eq_true rfl)⟩ dk_34 rfl rfl (Nat.le_of_ble_eq_true rfl) dX2_enter_68 ⟨(Nat.le_of_ble_eq_true rfl), (Nat.le_of_ble_eq_true rfl)⟩ H (fun s68 H => ?_)
  refine J.aload_n (i := 0) C dX2_enter_71 rfl rfl ?_
  refine J.get C 2 10 dk_2 rfl (by decide) kFl_X2_44 inB_X2 rfl dX2_enter_72 ?_
  refine J.aload_n (i := 0) C dX2_enter_75 rfl rfl ?_
  refine J.get C 2 15 dk_2 rfl (by decide) kFl_X2_53 inB_X2 rfl dX2_enter_76 ?_
  refine J.iload_n (i := 3) C dX2_enter_79 rfl rfl ?_
  refine J.callVVL (hp := (dkh g ad rst)) C (put_17 hl _ _) rfl kMl_X2_74 mdX3_put ⟨(Nat.le_of_ble_eq_true rfl), (Nat.le_of_ble_eq_true rfl)⟩ dk_40 rfl rfl (Nat.le_of_ble_eq_true rfl) dX2_enter_80 ⟨(Nat.le_of_ble_eq_true rfl), (Nat.le_of_ble_eq_true rfl)⟩ H (fun s80 H => ?_)
  refine J.aload_n (i := 0) C dX2_enter_83 rfl rfl ?_
  refine J.dup C dX2_enter_84 rfl ?_
  refine J.get C 2 13 dk_2 rfl (by decide) kFl_X2_61 inB_X2 rfl dX2_enter_85 ?_
  refine J.iconst C (1) dX2_enter_88 (by decide) ?_
  refine J.iadd C dX2_enter_89 ?_
  refine J.putL (hp := (dkh g ad rst)) C 2 13 dk_2 rfl (by decide) kFl_X2_61 inB_X2 tyX2 tyX2_ok nmX2 rfl rfl rfl rfl (Nat.le_of_ble_eq_true rfl) dX2_enter_90 (dkI_2 _) H (fun s90 H => ?_)
  refine J.iload_n (i := 3) C dX2_enter_93 rfl rfl ?_
  exact J.iretL C hr (Nat.le_of_ble_eq_true rfl) (Nat.le_of_ble_eq_true rfl) dX2_enter_94 H

/-! X2_enterCiting -/
abbrev mX2_enterCiting : MD := (yX2_enterCiting, cX2_enterCiting, 6, some .int)
theorem mdX2_enterCiting : MDv mX2_enterCiting RX2 4 := ⟨kIm_X2_enterCiting, kSe_X2_enterCiting, kIn_X2, kCo_X2_enterCiting, by decide +kernel⟩
def P_X2_enterCiting (σ : DS) (a1 : Int32) (a2 : Int32) (a3 : Int32) (a4 : Int32) : Res DS Int32 := (bd (P_X2_enter σ a1 a2) fun r3 s3 => (lt r3 fun z6 => (lt (sR s3 11 (rput 60 (s3.2 11) z6 a3)) fun s15 => (lt (sR s15 12 (rput 60 (s15.2 12) z6 a4)) fun s26 => (some (.inl z6, s26))))))
set_option maxRecDepth 100000 in
theorem sp_X2_enterCiting {l : Launch} (hl : l.stackTraces = false) {g : Gy} {ad : Nat → Nat} {rst : va_W} {σ : DS} (a1 : Int32) (a2 : Int32) (a3 : Int32) (a4 : Int32) : SpR l mX2_enterCiting 3 0 0 mI g [.ref (ad 2), .int a1, .int a2, .int a3, .int a4] (dkh g ad rst) σ (P_X2_enterCiting σ a1 a2 a3 a4) := by
  refine SpR.of hl (by decide) (Nat.le_of_ble_eq_true rfl) (fun rr H p e s m args below meth c A C hr hx => ?_)
  unfold P_X2_enterCiting at H
  refine J.lw (lv' := [(0, .ref (ad 2)), (1, .int a1), (2, .int a2), (3, .int a3), (4, .int a4)]) ⟨rfl, rfl, rfl, rfl, rfl, trivial⟩ ?_
  refine J.aload_n (i := 0) C dX2_enterCiting_0 rfl rfl ?_
  refine J.iload_n (i := 1) C dX2_enterCiting_1 rfl rfl ?_
  refine J.iload_n (i := 2) C dX2_enterCiting_2 rfl rfl ?_
  refine J.callVBI (hp := (dkh g ad rst)) C rfl (sp_X2_enter hl _ _) rfl kMl_X2_78 mdX2_enter ⟨(Nat.le_of_ble_eq_true rfl), (Nat.le_of_ble_eq_true rfl)⟩ dk_2 rfl rfl (Nat.le_of_ble_eq_true rfl) dX2_enterCiting_3 ⟨(Nat.le_of_ble_eq_true rfl), (Nat.le_of_ble_eq_true rfl)⟩ hx (Nat.le_of_ble_eq_true rfl) (Nat.le_of_ble_eq_true rfl) H (fun r3 s3 H => ?_)
  refine J.istoreL C dX2_enterCiting_6 (by decide) H (fun z6 H => ?_)
  refine J.aload_n (i := 0) C dX2_enterCiting_8 rfl rfl ?_
  refine J.get C 2 4 dk_2 rfl (by decide) kFl_X2_26 inB_X2 rfl dX2_enterCiting_9 ?_
  refine J.iload C dX2_enterCiting_12 rfl ?_
  refine J.iload_n (i := 3) C dX2_enterCiting_14 rfl rfl ?_
  refine J.callVVL (hp := (dkh g ad rst)) C (put_11 hl _ _) rfl kMl_X2_74 mdX3_put ⟨(Nat.le_of_ble_eq_true rfl), (Nat.le_of_ble_eq_true rfl)⟩ dk_28 rfl rfl (Nat.le_of_ble_eq_true rfl) dX2_enterCiting_15 ⟨(Nat.le_of_ble_eq_true rfl), (Nat.le_of_ble_eq_true rfl)⟩ H (fun s15 H => ?_)
  refine J.aload_n (i := 0) C dX2_enterCiting_18 rfl rfl ?_
  refine J.get C 2 5 dk_2 rfl (by decide) kFl_X2_29 inB_X2 rfl dX2_enterCiting_19 ?_
  refine J.iload C dX2_enterCiting_22 rfl ?_
  refine J.iload C dX2_enterCiting_24 rfl ?_
  refine J.callVVL (hp := (dkh g ad rst)) C (put_12 hl _ _) rfl kMl_X2_74 mdX3_put ⟨(Nat.le_of_ble_eq_true rfl), (Nat.le_of_ble_eq_true rfl)⟩ dk_30 rfl rfl (Nat.le_of_ble_eq_true rfl) dX2_enterCiting_26 ⟨(Nat.le_of_ble_eq_true rfl), (Nat.le_of_ble_eq_true rfl)⟩ H (fun s26 H => ?_)
  refine J.iload C dX2_enterCiting_29 rfl ?_
  exact J.iretL C hr (Nat.le_of_ble_eq_true rfl) (Nat.le_of_ble_eq_true rfl) dX2_enterCiting_31 H

/-! X2_citeBoxes -/
abbrev mX2_citeBoxes : MD := (yX2_citeBoxes, cX2_citeBoxes, 4, none)
theorem mdX2_citeBoxes : MDv mX2_citeBoxes RX2 3 := ⟨kIm_X2_citeBoxes, kSe_X2_citeBoxes, kIn_X2, kCo_X2_citeBoxes, by decide +kernel⟩
def P_X2_citeBoxes (σ : DS) (a1 : Int32) (a2 : Int32) (a3 : Int32) : Res DS Unit := (lt (sR σ 13 (rput 60 (σ.2 13) a1 a2)) fun s6 => (lt (sR s6 14 (rput 60 (s6.2 14) a1 a3)) fun s15 => (some (.inl (), s15))))
set_option maxRecDepth 100000 in
theorem sp_X2_citeBoxes {l : Launch} (hl : l.stackTraces = false) {g : Gy} {ad : Nat → Nat} {rst : va_W} {σ : DS} (a1 : Int32) (a2 : Int32) (a3 : Int32) : SpR l mX2_citeBoxes 2 0 0 mV g [.ref (ad 2), .int a1, .int a2, .int a3] (dkh g ad rst) σ (P_X2_citeBoxes σ a1 a2 a3) := by
  refine SpR.of hl (by decide) (Nat.le_of_ble_eq_true rfl) (fun rr H p e s m args below meth c A C hr hx => ?_)
  unfold P_X2_citeBoxes at H
  refine J.lw (lv' := [(0, .ref (ad 2)), (1, .int a1), (2, .int a2), (3, .int a3)]) ⟨rfl, rfl, rfl, rfl, trivial⟩ ?_
  refine J.aload_n (i := 0) C dX2_citeBoxes_0 rfl rfl ?_
  refine J.get C 2 6 dk_2 rfl (by decide) kFl_X2_32 inB_X2 rfl dX2_citeBoxes_1 ?_
  refine J.iload_n (i := 1) C dX2_citeBoxes_4 rfl rfl ?_
  refine J.iload_n (i := 2) C dX2_citeBoxes_5 rfl rfl ?_
  refine J.callVVL (hp := (dkh g ad rst)) C (put_13 hl _ _) rfl kMl_X2_74 mdX3_put ⟨(Nat.le_of_ble_eq_true rfl), (Nat.le_of_ble_eq_true rfl)⟩ dk_32 rfl rfl (Nat.le_of_ble_eq_true rfl) dX2_citeBoxes_6 ⟨(Nat.le_of_ble_eq_true rfl), (Nat.le_of_ble_eq_true rfl)⟩ H (fun s6 H => ?_)
  refine J.aload_n (i := 0) C dX2_citeBoxes_9 rfl rfl ?_
  refine J.get C 2 7 dk_2 rfl (by decide) kFl_X2_35 inB_X2 rfl dX2_citeBoxes_10 ?_
  refine J.iload_n (i := 1) C dX2_citeBoxes_13 rfl rfl ?_
  refine J.iload_n (i := 3) C dX2_citeBoxes_14 rfl rfl ?_
  refine J.callVVL (hp := (dkh g ad rst)) C (put_14 hl _ _) rfl kMl_X2_74 mdX3_put ⟨(Nat.le_of_ble_eq_true rfl), (Nat.le_of_ble_eq_true rfl)⟩ dk_34 rfl rfl (Nat.le_of_ble_eq_true rfl) dX2_citeBoxes_15 ⟨(Nat.le_of_ble_eq_true rfl), (Nat.le_of_ble_eq_true rfl)⟩ H (fun s15 H => ?_)
  exact J.vretL C hr (Nat.le_of_ble_eq_true rfl) (Nat.le_of_ble_eq_true rfl) dX2_citeBoxes_18 H

/-! X2_open -/
abbrev mX2_open : MD := (yX2_open, cX2_open, 3, some .int)
theorem mdX2_open : MDv mX2_open RX2 1 := ⟨kIm_X2_open, kSe_X2_open, kIn_X2, kCo_X2_open, by decide +kernel⟩
def P_X2_open (σ : DS) (a1 : Int32) : Res DS Int32 := (lt (σ.1 3) fun z4 => (lt (sR σ 18 (rput 60 (σ.2 18) z4 (σ.1 4))) fun s14 => (lt (sR s14 19 (rput 60 (s14.2 19) z4 (1 : Int32))) fun s23 => (lt (sR s23 16 (rput 60 (s23.2 16) z4 (s23.1 2))) fun s35 => (lt (sI s35 4 z4) fun s40 => (lt (sI s40 3 ((s40.1 3) + (1 : Int32))) fun s50 => (bd (P_X2_enter s50 a1 (72 : Int32)) fun r57 s57 => (some (.inl r57, s57)))))))))
set_option maxRecDepth 100000 in
theorem sp_X2_open {l : Launch} (hl : l.stackTraces = false) {g : Gy} {ad : Nat → Nat} {rst : va_W} {σ : DS} (a1 : Int32) : SpR l mX2_open 3 0 0 mI g [.ref (ad 2), .int a1] (dkh g ad rst) σ (P_X2_open σ a1) := by
  refine SpR.of hl (by decide) (Nat.le_of_ble_eq_true rfl) (fun rr H p e s m args below meth c A C hr hx => ?_)
  unfold P_X2_open at H
  refine J.lw (lv' := [(0, .ref (ad 2)), (1, .int a1)]) ⟨rfl, rfl, trivial⟩ ?_
  refine J.aload_n (i := 0) C dX2_open_0 rfl rfl ?_
  refine J.get C 2 14 dk_2 rfl (by decide) kFl_X2_64 inB_X2 rfl dX2_open_1 ?_
  refine J.istore_nL (i := 2) C dX2_open_4 rfl (by decide) H (fun z4 H => ?_)
  refine J.aload_n (i := 0) C dX2_open_5 rfl rfl ?_
  refine J.get C 2 11 dk_2 rfl (by decide) kFl_X2_47 inB_X2 rfl dX2_open_6 ?_
  refine J.iload_n (i := 2) C dX2_open_9 rfl rfl ?_
  refine J.aload_n (i := 0) C dX2_open_10 rfl rfl ?_
  refine J.get C 2 15 dk_2 rfl (by decide) kFl_X2_53 inB_X2 rfl dX2_open_11 ?_
  refine J.callVVL (hp := (dkh g ad rst)) C (put_18 hl _ _) rfl kMl_X2_74 mdX3_put ⟨(Nat.le_of_ble_eq_true rfl), (Nat.le_of_ble_eq_true rfl)⟩ dk_42 rfl rfl (Nat.le_of_ble_eq_true rfl) dX2_open_14 ⟨(Nat.le_of_ble_eq_true rfl), (Nat.le_of_ble_eq_true rfl)⟩ H (fun s14 H => ?_)
  refine J.aload_n (i := 0) C dX2_open_17 rfl rfl ?_
  refine J.get C 2 12 dk_2 rfl (by decide) kFl_X2_50 inB_X2 rfl dX2_open_18 ?_
  refine J.iload_n (i := 2) C dX2_open_21 rfl rfl ?_
  refine J.iconst C (1) dX2_open_22 (by decide) ?_
  refine J.callVVL (hp := (dkh g ad rst)) C (put_19 hl _ _) rfl kMl_X2_74 mdX3_put ⟨(Nat.le_of_ble_eq_true rfl), (Nat.le_of_ble_eq_true rfl)⟩ dk_44 rfl rfl (Nat.le_of_ble_eq_true rfl) dX2_open_23 ⟨(Nat.le_of_ble_eq_true rfl), (Nat.le_of_ble_eq_true rfl)⟩ H (fun s23 H => ?_)
  refine J.aload_n (i := 0) C dX2_open_26 rfl rfl ?_
  refine J.get C 2 9 dk_2 rfl (by decide) kFl_X2_41 inB_X2 rfl dX2_open_27 ?_
  refine J.iload_n (i := 2) C dX2_open_30 rfl rfl ?_
  refine J.aload_n (i := 0) C dX2_open_31 rfl rfl ?_
  refine J.get C 2 13 dk_2 rfl (by decide) kFl_X2_61 inB_X2 rfl dX2_open_32 ?_
  refine J.callVVL (hp := (dkh g ad rst)) C (put_16 hl _ _) rfl kMl_X2_74 mdX3_put ⟨(Nat.le_of_ble_eq_true rfl), (Nat.le_of_ble_eq_true rfl)⟩ dk_38 rfl rfl (Nat.le_of_ble_eq_true rfl) dX2_open_35 ⟨(Nat.le_of_ble_eq_true rfl), (Nat.le_of_ble_eq_true rfl)⟩ H (fun s35 H => ?_)
  refine J.aload_n (i := 0) C dX2_open_38 rfl rfl ?_
  refine J.iload_n (i := 2) C dX2_open_39 rfl rfl ?_
  refine J.putL (hp := (dkh g ad rst)) C 2 15 dk_2 rfl (by decide) kFl_X2_53 inB_X2 tyX2 tyX2_ok nmX2 rfl rfl rfl rfl (Nat.le_of_ble_eq_true rfl) dX2_open_40 (dkI_4 _) H (fun s40 H => ?_)
  refine J.aload_n (i := 0) C dX2_open_43 rfl rfl ?_
  refine J.dup C dX2_open_44 rfl ?_
  refine J.get C 2 14 dk_2 rfl (by decide) kFl_X2_64 inB_X2 rfl dX2_open_45 ?_
  refine J.iconst C (1) dX2_open_48 (by decide) ?_
  refine J.iadd C dX2_open_49 ?_
  refine J.putL (hp := (dkh g ad rst)) C 2 14 dk_2 rfl (by decide) kFl_X2_64 inB_X2 tyX2 tyX2_ok nmX2 rfl rfl rfl rfl (Nat.le_of_ble_eq_true rfl) dX2_open_50 (dkI_3 _) H (fun s50 H => ?_)
  refine J.aload_n (i := 0) C dX2_open_53 rfl rfl ?_
  refine J.iload_n (i := 1) C dX2_open_54 rfl rfl ?_
  refine J.bipush C (72) dX2_open_55 (by decide) ?_
  refine J.callVBI (hp := (dkh g ad rst)) C rfl (sp_X2_enter hl _ _) rfl kMl_X2_78 mdX2_enter ⟨(Nat.le_of_ble_eq_true rfl), (Nat.le_of_ble_eq_true rfl)⟩ dk_2 rfl rfl (Nat.le_of_ble_eq_true rfl) dX2_open_57 ⟨(Nat.le_of_ble_eq_true rfl), (Nat.le_of_ble_eq_true rfl)⟩ hx (Nat.le_of_ble_eq_true rfl) (Nat.le_of_ble_eq_true rfl) H (fun r57 s57 H => ?_)
  exact J.iretL C hr (Nat.le_of_ble_eq_true rfl) (Nat.le_of_ble_eq_true rfl) dX2_open_60 H

/-! X2_close -/
abbrev mX2_close : MD := (yX2_close, cX2_close, 2, some .int)
theorem mdX2_close : MDv mX2_close RX2 0 := ⟨kIm_X2_close, kSe_X2_close, kIn_X2, kCo_X2_close, by decide +kernel⟩
def P_X2_close (σ : DS)  : Res DS Int32 := (lt (σ.1 4) fun z4 => (lt (sR σ 19 (rput 60 (σ.2 19) z4 (0 : Int32))) fun s11 => (lt (sI s11 4 (rat 60 (s11.2 18) z4)) fun s23 => (some (.inl z4, s23)))))
set_option maxRecDepth 100000 in
theorem sp_X2_close {l : Launch} (hl : l.stackTraces = false) {g : Gy} {ad : Nat → Nat} {rst : va_W} {σ : DS}  : SpR l mX2_close 2 0 0 mI g [.ref (ad 2)] (dkh g ad rst) σ (P_X2_close σ ) := by
  refine SpR.of hl (by decide) (Nat.le_of_ble_eq_true rfl) (fun rr H p e s m args below meth c A C hr hx => ?_)
  unfold P_X2_close at H
  refine J.lw (lv' := [(0, .ref (ad 2))]) ⟨rfl, trivial⟩ ?_
  refine J.aload_n (i := 0) C dX2_close_0 rfl rfl ?_
  refine J.get C 2 15 dk_2 rfl (by decide) kFl_X2_53 inB_X2 rfl dX2_close_1 ?_
  refine J.istore_nL (i := 1) C dX2_close_4 rfl (by decide) H (fun z4 H => ?_)
  refine J.aload_n (i := 0) C dX2_close_5 rfl rfl ?_
  refine J.get C 2 12 dk_2 rfl (by decide) kFl_X2_50 inB_X2 rfl dX2_close_6 ?_
  refine J.iload_n (i := 1) C dX2_close_9 rfl rfl ?_
  refine J.iconst C (0) dX2_close_10 (by decide) ?_
  refine J.callVVL (hp := (dkh g ad rst)) C (put_19 hl _ _) rfl kMl_X2_74 mdX3_put ⟨(Nat.le_of_ble_eq_true rfl), (Nat.le_of_ble_eq_true rfl)⟩ dk_44 rfl rfl (Nat.le_of_ble_eq_true rfl) dX2_close_11 ⟨(Nat.le_of_ble_eq_true rfl), (Nat.le_of_ble_eq_true rfl)⟩ H (fun s11 H => ?_)
  refine J.aload_n (i := 0) C dX2_close_14 rfl rfl ?_
  refine J.aload_n (i := 0) C dX2_close_15 rfl rfl ?_
  refine J.get C 2 11 dk_2 rfl (by decide) kFl_X2_47 inB_X2 rfl dX2_close_16 ?_
  refine J.iload_n (i := 1) C dX2_close_19 rfl rfl ?_
  refine J.callVI C (at_18 hl _) rfl kMl_X2_67 mdX3_at ⟨(Nat.le_of_ble_eq_true rfl), (Nat.le_of_ble_eq_true rfl)⟩ dk_42 rfl rfl (Nat.le_of_ble_eq_true rfl) dX2_close_20 ⟨(Nat.le_of_ble_eq_true rfl), (Nat.le_of_ble_eq_true rfl)⟩ ?_
  refine J.putL (hp := (dkh g ad rst)) C 2 15 dk_2 rfl (by decide) kFl_X2_53 inB_X2 tyX2 tyX2_ok nmX2 rfl rfl rfl rfl (Nat.le_of_ble_eq_true rfl) dX2_close_23 (dkI_4 _) H (fun s23 H => ?_)
  refine J.iload_n (i := 1) C dX2_close_26 rfl rfl ?_
  exact J.iretL C hr (Nat.le_of_ble_eq_true rfl) (Nat.le_of_ble_eq_true rfl) dX2_close_27 H

/-! X2_depth -/
def B_X2_depth_8 (k_8 : DS → Int32 → Int32 → Res DS Int32) (σ : DS) (l2 : Int32) (l3 : Int32) : Res DS Int32 := (if l2 = (-1 : Int32) then (some (.inl l3, σ)) else (if (60 : Int32) ≤ l3 then (some (.inl l3, σ)) else (lt (rat 60 (σ.2 18) l2) fun z27 => (lt (l3 + (1 : Int32)) fun z28 => (k_8 σ z27 z28)))))
set_option maxRecDepth 100000 in
theorem bl_X2_depth_8 {l : Launch} (hl : l.stackTraces = false) {g : Gy} {ad : Nat → Nat} {rst : va_W} {p : Program} {e : Env} {s : State} {m : MethodId} {args : Array Value} {below : List Frame} {meth : Method} {c : Code} {A : Nat → Prop} (C : Cx p l s m args meth c g A yX2_depth.cls cX2_depth 4) (hr : meth.sig.returnType = some .int) (hx : ∀ x ∈ c.exceptionTable.toList, False) {rr : (Int32 ⊕ String) × DS} (k_8 : DS → Int32 → Int32 → Res DS Int32) (hk_8 : ∀ (σ : DS) (l2 : Int32) (l3 : Int32), k_8 σ l2 l3 = some rr → J p l e (rmOf 3 0 0) s m args below meth c g A 4 0 0 (QR mI g A (dkh g ad rst) rr below args s 0 0) 8 [(0, .ref (ad 2)), (2, .int l2), (3, .int l3)] [] ((dkh g ad rst) σ)) (σ : DS) (l2 : Int32) (l3 : Int32) (H : B_X2_depth_8 k_8 σ l2 l3 = some rr) : J p l e (rmOf 3 0 0) s m args below meth c g A 4 0 0 (QR mI g A (dkh g ad rst) rr below args s 0 0) 8 [(0, .ref (ad 2)), (2, .int l2), (3, .int l3)] [] ((dkh g ad rst) σ) := by
  unfold B_X2_depth_8 at H
  refine J.iload_n (i := 2) C dX2_depth_8 rfl rfl ?_
  refine J.iconst C (-1) dX2_depth_9 (by decide) ?_
  refine J.icmp_eqL (tgt := 34) C dX2_depth_10 (by decide) H (fun c_10 H => ?_) (fun c_10 H => ?_)
  · refine J.iload_n (i := 3) C dX2_depth_34 rfl rfl ?_
    exact J.iretL C hr (Nat.le_of_ble_eq_true rfl) (Nat.le_of_ble_eq_true rfl) dX2_depth_35 H
  · refine J.iload_n (i := 3) C dX2_depth_13 rfl rfl ?_
    refine J.bipush C (60) dX2_depth_14 (by decide) ?_
    refine J.icmp_geL (tgt := 34) C dX2_depth_16 (by decide) H (fun c_16 H => ?_) (fun c_16 H => ?_)
    · refine J.iload_n (i := 3) C dX2_depth_34 rfl rfl ?_
      exact J.iretL C hr (Nat.le_of_ble_eq_true rfl) (Nat.le_of_ble_eq_true rfl) dX2_depth_35 H
    · refine J.aload_n (i := 0) C dX2_depth_19 rfl rfl ?_
      refine J.get C 2 11 dk_2 rfl (by decide) kFl_X2_47 inB_X2 rfl dX2_depth_20 ?_
      refine J.iload_n (i := 2) C dX2_depth_23 rfl rfl ?_
      refine J.callVI C (at_18 hl _) rfl kMl_X2_67 mdX3_at ⟨(Nat.le_of_ble_eq_true rfl), (Nat.le_of_ble_eq_true rfl)⟩ dk_42 rfl rfl (Nat.le_of_ble_eq_true rfl) dX2_depth_24 ⟨(Nat.le_of_ble_eq_true rfl), (Nat.le_of_ble_eq_true rfl)⟩ ?_
      refine J.istore_nL (i := 2) C dX2_depth_27 rfl (by decide) H (fun z27 H => ?_)
      refine J.iincL C (l3 + (1 : Int32)) dX2_depth_28 rfl rfl (by decide) H (fun z28 H => ?_)
      refine J.goto (tgt := 8) C dX2_depth_31 (by decide) ?_
      refine J.widen (k := 0) (n := 0) (Nat.le_of_ble_eq_true rfl) (Nat.le_of_ble_eq_true rfl) ?_
      refine J.lw (lv' := [(0, .ref (ad 2)), (2, .int z27), (3, .int z28)]) ⟨rfl, rfl, rfl, trivial⟩ ?_
      exact hk_8 _ _ _  H
def L_X2_depth_8 : Nat → DS → Int32 → Int32 → Res DS Int32
  | 0, _, _, _ => none
  | n + 1, σ, l2, l3 => B_X2_depth_8 (L_X2_depth_8 n) σ l2 l3
set_option maxRecDepth 100000 in
theorem lp_X2_depth_8 {l : Launch} (hl : l.stackTraces = false) {g : Gy} {ad : Nat → Nat} {rst : va_W} {p : Program} {e : Env} {s : State} {m : MethodId} {args : Array Value} {below : List Frame} {meth : Method} {c : Code} {A : Nat → Prop} (C : Cx p l s m args meth c g A yX2_depth.cls cX2_depth 4) (hr : meth.sig.returnType = some .int) (hx : ∀ x ∈ c.exceptionTable.toList, False) {rr : (Int32 ⊕ String) × DS} : ∀ (n : Nat) (σ : DS) (l2 : Int32) (l3 : Int32), L_X2_depth_8 n σ l2 l3 = some rr → J p l e (rmOf 3 0 0) s m args below meth c g A 4 0 0 (QR mI g A (dkh g ad rst) rr below args s 0 0) 8 [(0, .ref (ad 2)), (2, .int l2), (3, .int l3)] [] ((dkh g ad rst) σ) := by
  intro n
  induction n with
  | zero => intro σ l2 l3 H; cases H
  | succ n ih => intro σ l2 l3 H; exact bl_X2_depth_8 hl C hr hx _ ih _ _ _ H
abbrev mX2_depth : MD := (yX2_depth, cX2_depth, 4, some .int)
theorem mdX2_depth : MDv mX2_depth RX2 1 := ⟨kIm_X2_depth, kSe_X2_depth, kIn_X2, kCo_X2_depth, by decide +kernel⟩
def P_X2_depth (σ : DS) (a1 : Int32) : Res DS Int32 := (lt (F_X2_innermostOf σ a1) fun z5 => (lt (0 : Int32) fun z7 => (L_X2_depth_8 FU σ z5 z7)))
set_option maxRecDepth 100000 in
theorem sp_X2_depth {l : Launch} (hl : l.stackTraces = false) {g : Gy} {ad : Nat → Nat} {rst : va_W} {σ : DS} (a1 : Int32) : SpR l mX2_depth 3 0 0 mI g [.ref (ad 2), .int a1] (dkh g ad rst) σ (P_X2_depth σ a1) := by
  refine SpR.of hl (by decide) (Nat.le_of_ble_eq_true rfl) (fun rr H p e s m args below meth c A C hr hx => ?_)
  unfold P_X2_depth at H
  refine J.lw (lv' := [(0, .ref (ad 2)), (1, .int a1)]) ⟨rfl, rfl, trivial⟩ ?_
  refine J.aload_n (i := 0) C dX2_depth_0 rfl rfl ?_
  refine J.iload_n (i := 1) C dX2_depth_1 rfl rfl ?_
  refine J.callVI C (sp_X2_innermostOf hl _) rfl kMl_X2_82 mdX2_innermostOf ⟨(Nat.le_of_ble_eq_true rfl), (Nat.le_of_ble_eq_true rfl)⟩ dk_2 rfl rfl (Nat.le_of_ble_eq_true rfl) dX2_depth_2 ⟨(Nat.le_of_ble_eq_true rfl), (Nat.le_of_ble_eq_true rfl)⟩ ?_
  refine J.istore_nL (i := 2) C dX2_depth_5 rfl (by decide) H (fun z5 H => ?_)
  refine J.iconst C (0) dX2_depth_6 (by decide) ?_
  refine J.istore_nL (i := 3) C dX2_depth_7 rfl (by decide) H (fun z7 H => ?_)
  refine J.widen (k := 0) (n := 0) (Nat.le_of_ble_eq_true rfl) (Nat.le_of_ble_eq_true rfl) ?_
  refine J.lw (lv' := [(0, .ref (ad 2)), (2, .int z5), (3, .int z7)]) ⟨rfl, rfl, rfl, trivial⟩ ?_
  exact lp_X2_depth_8 hl C hr hx  FU _ _ _  H

/-! X2_isOpenOrNone -/
abbrev mX2_isOpenOrNone : MD := (yX2_isOpenOrNone, cX2_isOpenOrNone, 2, some .boolean)
theorem mdX2_isOpenOrNone : MDv mX2_isOpenOrNone RX2 1 := ⟨kIm_X2_isOpenOrNone, kSe_X2_isOpenOrNone, kIn_X2, kCo_X2_isOpenOrNone, by decide +kernel⟩
def F_X2_isOpenOrNone (σ : DS) (a1 : Int32) : Int32 := (if a1 = (-1 : Int32) then (1 : Int32) else (if (rat 60 (σ.2 19) a1) = (1 : Int32) then (1 : Int32) else (0 : Int32)))
set_option maxRecDepth 100000 in
theorem sp_X2_isOpenOrNone {l : Launch} (hl : l.stackTraces = false) {g : Gy} {ad : Nat → Nat} {rst : va_W} {σ : DS} (a1 : Int32) : SpF l mX2_isOpenOrNone 2 0 0 mI g [.ref (ad 2), .int a1] ((dkh g ad rst) σ) (F_X2_isOpenOrNone σ a1) ((dkh g ad rst) σ) := by
  generalize H : F_X2_isOpenOrNone σ a1 = r0
  unfold F_X2_isOpenOrNone at H
  refine Sp.of hl (by decide) (Nat.le_of_ble_eq_true rfl) (fun p e s m args below meth c A C hr hx => ?_)
  refine J.lw (lv' := [(0, .ref (ad 2)), (1, .int a1)]) ⟨rfl, rfl, trivial⟩ ?_
  refine J.iload_n (i := 1) C dX2_isOpenOrNone_0 rfl rfl ?_
  refine J.iconst C (-1) dX2_isOpenOrNone_1 (by decide) ?_
  refine J.icmp_eqL (tgt := 17) C dX2_isOpenOrNone_2 (by decide) H (fun c_2 H => ?_) (fun c_2 H => ?_)
  · refine J.iconst C (1) dX2_isOpenOrNone_17 (by decide) ?_
    refine J.goto (tgt := 22) C dX2_isOpenOrNone_18 (by decide) ?_
    exact J.zretA C hr rfl (Nat.le_refl _) (Nat.le_refl _) dX2_isOpenOrNone_22 H
  · refine J.aload_n (i := 0) C dX2_isOpenOrNone_5 rfl rfl ?_
    refine J.get C 2 12 dk_2 rfl (by decide) kFl_X2_50 inB_X2 rfl dX2_isOpenOrNone_6 ?_
    refine J.iload_n (i := 1) C dX2_isOpenOrNone_9 rfl rfl ?_
    refine J.callVI C (at_19 hl _) rfl kMl_X2_67 mdX3_at ⟨(Nat.le_of_ble_eq_true rfl), (Nat.le_of_ble_eq_true rfl)⟩ dk_44 rfl rfl (Nat.le_of_ble_eq_true rfl) dX2_isOpenOrNone_10 ⟨(Nat.le_of_ble_eq_true rfl), (Nat.le_of_ble_eq_true rfl)⟩ ?_
    refine J.iconst C (1) dX2_isOpenOrNone_13 (by decide) ?_
    refine J.icmp_neL (tgt := 21) C dX2_isOpenOrNone_14 (by decide) H (fun c_14 H => ?_) (fun c_14 H => ?_)
    · refine J.iconst C (0) dX2_isOpenOrNone_21 (by decide) ?_
      exact J.zretA C hr rfl (Nat.le_refl _) (Nat.le_refl _) dX2_isOpenOrNone_22 H
    · refine J.iconst C (1) dX2_isOpenOrNone_17 (by decide) ?_
      refine J.goto (tgt := 22) C dX2_isOpenOrNone_18 (by decide) ?_
      exact J.zretA C hr rfl (Nat.le_refl _) (Nat.le_refl _) dX2_isOpenOrNone_22 H
theorem nr_X2_isOpenOrNone (σ : DS) (a1 : Int32) : narrow .boolean (.int (F_X2_isOpenOrNone σ a1)) = .int (F_X2_isOpenOrNone σ a1) := by
  unfold F_X2_isOpenOrNone
  try simp only [lt]
  repeat' split
  all_goals first | rfl | exact pk_nc _ | (first | rfl)

/-! X2_isCitable -/
abbrev mX2_isCitable : MD := (yX2_isCitable, cX2_isCitable, 2, some .boolean)
theorem mdX2_isCitable : MDv mX2_isCitable RX2 1 := ⟨kIm_X2_isCitable, kSe_X2_isCitable, kIn_X2, kCo_X2_isCitable, by decide +kernel⟩
def F_X2_isCitable (σ : DS) (a1 : Int32) : Int32 := (F_X2_isOpenOrNone σ (F_X2_innermostOf σ a1))
set_option maxRecDepth 100000 in
theorem sp_X2_isCitable {l : Launch} (hl : l.stackTraces = false) {g : Gy} {ad : Nat → Nat} {rst : va_W} {σ : DS} (a1 : Int32) : SpF l mX2_isCitable 3 0 0 mI g [.ref (ad 2), .int a1] ((dkh g ad rst) σ) (F_X2_isCitable σ a1) ((dkh g ad rst) σ) := by
  generalize H : F_X2_isCitable σ a1 = r0
  unfold F_X2_isCitable at H
  refine Sp.of hl (by decide) (Nat.le_of_ble_eq_true rfl) (fun p e s m args below meth c A C hr hx => ?_)
  refine J.lw (lv' := [(0, .ref (ad 2)), (1, .int a1)]) ⟨rfl, rfl, trivial⟩ ?_
  refine J.aload_n (i := 0) C dX2_isCitable_0 rfl rfl ?_
  refine J.aload_n (i := 0) C dX2_isCitable_1 rfl rfl ?_
  refine J.iload_n (i := 1) C dX2_isCitable_2 rfl rfl ?_
  refine J.callVI C (sp_X2_innermostOf hl _) rfl kMl_X2_82 mdX2_innermostOf ⟨(Nat.le_of_ble_eq_true rfl), (Nat.le_of_ble_eq_true rfl)⟩ dk_2 rfl rfl (Nat.le_of_ble_eq_true rfl) dX2_isCitable_3 ⟨(Nat.le_of_ble_eq_true rfl), (Nat.le_of_ble_eq_true rfl)⟩ ?_
  refine J.callVI C (sp_X2_isOpenOrNone hl _) rfl kMl_X2_85 mdX2_isOpenOrNone ⟨(Nat.le_of_ble_eq_true rfl), (Nat.le_of_ble_eq_true rfl)⟩ dk_2 rfl rfl (Nat.le_of_ble_eq_true rfl) dX2_isCitable_6 ⟨(Nat.le_of_ble_eq_true rfl), (Nat.le_of_ble_eq_true rfl)⟩ ?_
  exact J.zretA C hr (nr_X2_isOpenOrNone σ (F_X2_innermostOf σ a1)) (Nat.le_refl _) (Nat.le_refl _) dX2_isCitable_9 H
theorem nr_X2_isCitable (σ : DS) (a1 : Int32) : narrow .boolean (.int (F_X2_isCitable σ a1)) = .int (F_X2_isCitable σ a1) := by
  unfold F_X2_isCitable
  try simp only [lt]
  repeat' split
  all_goals first | rfl | exact pk_nc _ | (first | exact nr_X2_isOpenOrNone ..)

/-! X2_isCitableBox -/
abbrev mX2_isCitableBox : MD := (yX2_isCitableBox, cX2_isCitableBox, 2, some .boolean)
theorem mdX2_isCitableBox : MDv mX2_isCitableBox RX2 1 := ⟨kIm_X2_isCitableBox, kSe_X2_isCitableBox, kIn_X2, kCo_X2_isCitableBox, by decide +kernel⟩
def F_X2_isCitableBox (σ : DS) (a1 : Int32) : Int32 := (if (rat 60 (σ.2 19) a1) = 0 then (if (F_X2_isOpenOrNone σ (rat 60 (σ.2 18) a1)) = 0 then (0 : Int32) else (1 : Int32)) else (0 : Int32))
set_option maxRecDepth 100000 in
theorem sp_X2_isCitableBox {l : Launch} (hl : l.stackTraces = false) {g : Gy} {ad : Nat → Nat} {rst : va_W} {σ : DS} (a1 : Int32) : SpF l mX2_isCitableBox 3 0 0 mI g [.ref (ad 2), .int a1] ((dkh g ad rst) σ) (F_X2_isCitableBox σ a1) ((dkh g ad rst) σ) := by
  generalize H : F_X2_isCitableBox σ a1 = r0
  unfold F_X2_isCitableBox at H
  refine Sp.of hl (by decide) (Nat.le_of_ble_eq_true rfl) (fun p e s m args below meth c A C hr hx => ?_)
  refine J.lw (lv' := [(0, .ref (ad 2)), (1, .int a1)]) ⟨rfl, rfl, trivial⟩ ?_
  refine J.aload_n (i := 0) C dX2_isCitableBox_0 rfl rfl ?_
  refine J.get C 2 12 dk_2 rfl (by decide) kFl_X2_50 inB_X2 rfl dX2_isCitableBox_1 ?_
  refine J.iload_n (i := 1) C dX2_isCitableBox_4 rfl rfl ?_
  refine J.callVI C (at_19 hl _) rfl kMl_X2_67 mdX3_at ⟨(Nat.le_of_ble_eq_true rfl), (Nat.le_of_ble_eq_true rfl)⟩ dk_44 rfl rfl (Nat.le_of_ble_eq_true rfl) dX2_isCitableBox_5 ⟨(Nat.le_of_ble_eq_true rfl), (Nat.le_of_ble_eq_true rfl)⟩ ?_
  refine J.if_neL (tgt := 30) C dX2_isCitableBox_8 (by decide) H (fun c_8 H => ?_) (fun c_8 H => ?_)
  · refine J.iconst C (0) dX2_isCitableBox_30 (by decide) ?_
    exact J.zretA C hr rfl (Nat.le_refl _) (Nat.le_refl _) dX2_isCitableBox_31 H
  · refine J.aload_n (i := 0) C dX2_isCitableBox_11 rfl rfl ?_
    refine J.aload_n (i := 0) C dX2_isCitableBox_12 rfl rfl ?_
    refine J.get C 2 11 dk_2 rfl (by decide) kFl_X2_47 inB_X2 rfl dX2_isCitableBox_13 ?_
    refine J.iload_n (i := 1) C dX2_isCitableBox_16 rfl rfl ?_
    refine J.callVI C (at_18 hl _) rfl kMl_X2_67 mdX3_at ⟨(Nat.le_of_ble_eq_true rfl), (Nat.le_of_ble_eq_true rfl)⟩ dk_42 rfl rfl (Nat.le_of_ble_eq_true rfl) dX2_isCitableBox_17 ⟨(Nat.le_of_ble_eq_true rfl), (Nat.le_of_ble_eq_true rfl)⟩ ?_
    refine J.callVI C (sp_X2_isOpenOrNone hl _) rfl kMl_X2_85 mdX2_isOpenOrNone ⟨(Nat.le_of_ble_eq_true rfl), (Nat.le_of_ble_eq_true rfl)⟩ dk_2 rfl rfl (Nat.le_of_ble_eq_true rfl) dX2_isCitableBox_20 ⟨(Nat.le_of_ble_eq_true rfl), (Nat.le_of_ble_eq_true rfl)⟩ ?_
    refine J.if_eqL (tgt := 30) C dX2_isCitableBox_23 (by decide) H (fun c_23 H => ?_) (fun c_23 H => ?_)
    · refine J.iconst C (0) dX2_isCitableBox_30 (by decide) ?_
      exact J.zretA C hr rfl (Nat.le_refl _) (Nat.le_refl _) dX2_isCitableBox_31 H
    · refine J.iconst C (1) dX2_isCitableBox_26 (by decide) ?_
      refine J.goto (tgt := 31) C dX2_isCitableBox_27 (by decide) ?_
      exact J.zretA C hr rfl (Nat.le_refl _) (Nat.le_refl _) dX2_isCitableBox_31 H
theorem nr_X2_isCitableBox (σ : DS) (a1 : Int32) : narrow .boolean (.int (F_X2_isCitableBox σ a1)) = .int (F_X2_isCitableBox σ a1) := by
  unfold F_X2_isCitableBox
  try simp only [lt]
  repeat' split
  all_goals first | rfl | exact pk_nc _ | (first | exact nr_X2_isOpenOrNone ..)

/-! X2_premiseCount -/
def B_X2_premiseCount_4 (k_4 : DS → Int32 → Int32 → Res DS Int32) (σ : DS) (l1 : Int32) (l2 : Int32) : Res DS Int32 := (if (σ.1 2) ≤ l2 then (some (.inl l1, σ)) else (if (F_X2_isPremise σ l2) = 0 then (lt (l2 + (1 : Int32)) fun z23 => (k_4 σ l1 z23)) else (lt (l1 + (1 : Int32)) fun z20 => (lt (l2 + (1 : Int32)) fun z23 => (k_4 σ z20 z23)))))
set_option maxRecDepth 100000 in
theorem bl_X2_premiseCount_4 {l : Launch} (hl : l.stackTraces = false) {g : Gy} {ad : Nat → Nat} {rst : va_W} {p : Program} {e : Env} {s : State} {m : MethodId} {args : Array Value} {below : List Frame} {meth : Method} {c : Code} {A : Nat → Prop} (C : Cx p l s m args meth c g A yX2_premiseCount.cls cX2_premiseCount 3) (hr : meth.sig.returnType = some .int) (hx : ∀ x ∈ c.exceptionTable.toList, False) {rr : (Int32 ⊕ String) × DS} (k_4 : DS → Int32 → Int32 → Res DS Int32) (hk_4 : ∀ (σ : DS) (l1 : Int32) (l2 : Int32), k_4 σ l1 l2 = some rr → J p l e (rmOf 4 0 0) s m args below meth c g A 3 0 0 (QR mI g A (dkh g ad rst) rr below args s 0 0) 4 [(0, .ref (ad 2)), (1, .int l1), (2, .int l2)] [] ((dkh g ad rst) σ)) (σ : DS) (l1 : Int32) (l2 : Int32) (H : B_X2_premiseCount_4 k_4 σ l1 l2 = some rr) : J p l e (rmOf 4 0 0) s m args below meth c g A 3 0 0 (QR mI g A (dkh g ad rst) rr below args s 0 0) 4 [(0, .ref (ad 2)), (1, .int l1), (2, .int l2)] [] ((dkh g ad rst) σ) := by
  unfold B_X2_premiseCount_4 at H
  refine J.iload_n (i := 2) C dX2_premiseCount_4 rfl rfl ?_
  refine J.aload_n (i := 0) C dX2_premiseCount_5 rfl rfl ?_
  refine J.get C 2 13 dk_2 rfl (by decide) kFl_X2_61 inB_X2 rfl dX2_premiseCount_6 ?_
  refine J.icmp_geL (tgt := 29) C dX2_premiseCount_9 (by decide) H (fun c_9 H => ?_) (fun c_9 H => ?_)
  · refine J.iload_n (i := 1) C dX2_premiseCount_29 rfl rfl ?_
    exact J.iretL C hr (Nat.le_of_ble_eq_true rfl) (Nat.le_of_ble_eq_true rfl) dX2_premiseCount_30 H
  · refine J.aload_n (i := 0) C dX2_premiseCount_12 rfl rfl ?_
    refine J.iload_n (i := 2) C dX2_premiseCount_13 rfl rfl ?_
    refine J.callVI C (sp_X2_isPremise hl _) rfl kMl_X2_93 mdX2_isPremise ⟨(Nat.le_of_ble_eq_true rfl), (Nat.le_of_ble_eq_true rfl)⟩ dk_2 rfl rfl (Nat.le_of_ble_eq_true rfl) dX2_premiseCount_14 ⟨(Nat.le_of_ble_eq_true rfl), (Nat.le_of_ble_eq_true rfl)⟩ ?_
    refine J.if_eqL (tgt := 23) C dX2_premiseCount_17 (by decide) H (fun c_17 H => ?_) (fun c_17 H => ?_)
    · refine J.iincL C (l2 + (1 : Int32)) dX2_premiseCount_23 rfl rfl (by decide) H (fun z23 H => ?_)
      refine J.goto (tgt := 4) C dX2_premiseCount_26 (by decide) ?_
      refine J.widen (k := 0) (n := 0) (Nat.le_of_ble_eq_true rfl) (Nat.le_of_ble_eq_true rfl) ?_
      refine J.lw (lv' := [(0, .ref (ad 2)), (1, .int l1), (2, .int z23)]) ⟨rfl, rfl, rfl, trivial⟩ ?_
      exact hk_4 _ _ _  H
    · refine J.iincL C (l1 + (1 : Int32)) dX2_premiseCount_20 rfl rfl (by decide) H (fun z20 H => ?_)
      refine J.iincL C (l2 + (1 : Int32)) dX2_premiseCount_23 rfl rfl (by decide) H (fun z23 H => ?_)
      refine J.goto (tgt := 4) C dX2_premiseCount_26 (by decide) ?_
      refine J.widen (k := 0) (n := 0) (Nat.le_of_ble_eq_true rfl) (Nat.le_of_ble_eq_true rfl) ?_
      refine J.lw (lv' := [(0, .ref (ad 2)), (1, .int z20), (2, .int z23)]) ⟨rfl, rfl, rfl, trivial⟩ ?_
      exact hk_4 _ _ _  H
def L_X2_premiseCount_4 : Nat → DS → Int32 → Int32 → Res DS Int32
  | 0, _, _, _ => none
  | n + 1, σ, l1, l2 => B_X2_premiseCount_4 (L_X2_premiseCount_4 n) σ l1 l2
set_option maxRecDepth 100000 in
theorem lp_X2_premiseCount_4 {l : Launch} (hl : l.stackTraces = false) {g : Gy} {ad : Nat → Nat} {rst : va_W} {p : Program} {e : Env} {s : State} {m : MethodId} {args : Array Value} {below : List Frame} {meth : Method} {c : Code} {A : Nat → Prop} (C : Cx p l s m args meth c g A yX2_premiseCount.cls cX2_premiseCount 3) (hr : meth.sig.returnType = some .int) (hx : ∀ x ∈ c.exceptionTable.toList, False) {rr : (Int32 ⊕ String) × DS} : ∀ (n : Nat) (σ : DS) (l1 : Int32) (l2 : Int32), L_X2_premiseCount_4 n σ l1 l2 = some rr → J p l e (rmOf 4 0 0) s m args below meth c g A 3 0 0 (QR mI g A (dkh g ad rst) rr below args s 0 0) 4 [(0, .ref (ad 2)), (1, .int l1), (2, .int l2)] [] ((dkh g ad rst) σ) := by
  intro n
  induction n with
  | zero => intro σ l1 l2 H; cases H
  | succ n ih => intro σ l1 l2 H; exact bl_X2_premiseCount_4 hl C hr hx _ ih _ _ _ H
abbrev mX2_premiseCount : MD := (yX2_premiseCount, cX2_premiseCount, 3, some .int)
theorem mdX2_premiseCount : MDv mX2_premiseCount RX2 0 := ⟨kIm_X2_premiseCount, kSe_X2_premiseCount, kIn_X2, kCo_X2_premiseCount, by decide +kernel⟩
def P_X2_premiseCount (σ : DS)  : Res DS Int32 := (lt (0 : Int32) fun z1 => (lt (0 : Int32) fun z3 => (L_X2_premiseCount_4 FU σ z1 z3)))
set_option maxRecDepth 100000 in
theorem sp_X2_premiseCount {l : Launch} (hl : l.stackTraces = false) {g : Gy} {ad : Nat → Nat} {rst : va_W} {σ : DS}  : SpR l mX2_premiseCount 4 0 0 mI g [.ref (ad 2)] (dkh g ad rst) σ (P_X2_premiseCount σ ) := by
  refine SpR.of hl (by decide) (Nat.le_of_ble_eq_true rfl) (fun rr H p e s m args below meth c A C hr hx => ?_)
  unfold P_X2_premiseCount at H
  refine J.lw (lv' := [(0, .ref (ad 2))]) ⟨rfl, trivial⟩ ?_
  refine J.iconst C (0) dX2_premiseCount_0 (by decide) ?_
  refine J.istore_nL (i := 1) C dX2_premiseCount_1 rfl (by decide) H (fun z1 H => ?_)
  refine J.iconst C (0) dX2_premiseCount_2 (by decide) ?_
  refine J.istore_nL (i := 2) C dX2_premiseCount_3 rfl (by decide) H (fun z3 H => ?_)
  refine J.widen (k := 0) (n := 0) (Nat.le_of_ble_eq_true rfl) (Nat.le_of_ble_eq_true rfl) ?_
  refine J.lw (lv' := [(0, .ref (ad 2)), (1, .int z1), (2, .int z3)]) ⟨rfl, rfl, rfl, trivial⟩ ?_
  exact lp_X2_premiseCount_4 hl C hr hx  FU _ _ _  H

/-! X2_markEnds -/
abbrev mX2_markEnds : MD := (yX2_markEnds, cX2_markEnds, 2, none)
theorem mdX2_markEnds : MDv mX2_markEnds RX2 1 := ⟨kIm_X2_markEnds, kSe_X2_markEnds, kIn_X2, kCo_X2_markEnds, by decide +kernel⟩
def P_X2_markEnds (σ : DS) (a1 : Int32) : Res DS Unit := (lt (sR σ 15 (rput 60 (σ.2 15) (rat 60 (σ.2 16) a1) (1 : Int32))) fun s13 => (lt (sR s13 15 (rput 60 (s13.2 15) (rat 60 (s13.2 17) a1) (1 : Int32))) fun s29 => (some (.inl (), s29))))
set_option maxRecDepth 100000 in
theorem sp_X2_markEnds {l : Launch} (hl : l.stackTraces = false) {g : Gy} {ad : Nat → Nat} {rst : va_W} {σ : DS} (a1 : Int32) : SpR l mX2_markEnds 2 0 0 mV g [.ref (ad 2), .int a1] (dkh g ad rst) σ (P_X2_markEnds σ a1) := by
  refine SpR.of hl (by decide) (Nat.le_of_ble_eq_true rfl) (fun rr H p e s m args below meth c A C hr hx => ?_)
  unfold P_X2_markEnds at H
  refine J.lw (lv' := [(0, .ref (ad 2)), (1, .int a1)]) ⟨rfl, rfl, trivial⟩ ?_
  refine J.aload_n (i := 0) C dX2_markEnds_0 rfl rfl ?_
  refine J.get C 2 8 dk_2 rfl (by decide) kFl_X2_38 inB_X2 rfl dX2_markEnds_1 ?_
  refine J.aload_n (i := 0) C dX2_markEnds_4 rfl rfl ?_
  refine J.get C 2 9 dk_2 rfl (by decide) kFl_X2_41 inB_X2 rfl dX2_markEnds_5 ?_
  refine J.iload_n (i := 1) C dX2_markEnds_8 rfl rfl ?_
  refine J.callVI C (at_16 hl _) rfl kMl_X2_67 mdX3_at ⟨(Nat.le_of_ble_eq_true rfl), (Nat.le_of_ble_eq_true rfl)⟩ dk_38 rfl rfl (Nat.le_of_ble_eq_true rfl) dX2_markEnds_9 ⟨(Nat.le_of_ble_eq_true rfl), (Nat.le_of_ble_eq_true rfl)⟩ ?_
  refine J.iconst C (1) dX2_markEnds_12 (by decide) ?_
  refine J.callVVL (hp := (dkh g ad rst)) C (put_15 hl _ _) rfl kMl_X2_74 mdX3_put ⟨(Nat.le_of_ble_eq_true rfl), (Nat.le_of_ble_eq_true rfl)⟩ dk_36 rfl rfl (Nat.le_of_ble_eq_true rfl) dX2_markEnds_13 ⟨(Nat.le_of_ble_eq_true rfl), (Nat.le_of_ble_eq_true rfl)⟩ H (fun s13 H => ?_)
  refine J.aload_n (i := 0) C dX2_markEnds_16 rfl rfl ?_
  refine J.get C 2 8 dk_2 rfl (by decide) kFl_X2_38 inB_X2 rfl dX2_markEnds_17 ?_
  refine J.aload_n (i := 0) C dX2_markEnds_20 rfl rfl ?_
  refine J.get C 2 10 dk_2 rfl (by decide) kFl_X2_44 inB_X2 rfl dX2_markEnds_21 ?_
  refine J.iload_n (i := 1) C dX2_markEnds_24 rfl rfl ?_
  refine J.callVI C (at_17 hl _) rfl kMl_X2_67 mdX3_at ⟨(Nat.le_of_ble_eq_true rfl), (Nat.le_of_ble_eq_true rfl)⟩ dk_40 rfl rfl (Nat.le_of_ble_eq_true rfl) dX2_markEnds_25 ⟨(Nat.le_of_ble_eq_true rfl), (Nat.le_of_ble_eq_true rfl)⟩ ?_
  refine J.iconst C (1) dX2_markEnds_28 (by decide) ?_
  refine J.callVVL (hp := (dkh g ad rst)) C (put_15 hl _ _) rfl kMl_X2_74 mdX3_put ⟨(Nat.le_of_ble_eq_true rfl), (Nat.le_of_ble_eq_true rfl)⟩ dk_36 rfl rfl (Nat.le_of_ble_eq_true rfl) dX2_markEnds_29 ⟨(Nat.le_of_ble_eq_true rfl), (Nat.le_of_ble_eq_true rfl)⟩ H (fun s29 H => ?_)
  exact J.vretL C hr (Nat.le_of_ble_eq_true rfl) (Nat.le_of_ble_eq_true rfl) dX2_markEnds_32 H

/-! X2_countNeeded -/
def B_X2_countNeeded_31 (k_31 : DS → Int32 → Int32 → Res DS Int32) (σ : DS) (l1 : Int32) (l2 : Int32) : Res DS Int32 := (if l2 < 0 then (some (.inl l1, σ)) else (if (rat 60 (σ.2 15) l2) = (1 : Int32) then (lt (l1 + (1 : Int32)) fun z47 => (lt (sR σ 15 (rput 60 (σ.2 15) (rat 60 (σ.2 11) l2) (1 : Int32))) fun s63 => (lt (sR s63 15 (rput 60 (s63.2 15) (rat 60 (s63.2 12) l2) (1 : Int32))) fun s79 => (bd (P_X2_markEnds s79 (rat 60 (s79.2 13) l2)) fun _ s91 => (bd (P_X2_markEnds s91 (rat 60 (s91.2 14) l2)) fun _ s103 => (lt (l2 + (-1 : Int32)) fun z106 => (k_31 s103 z47 z106))))))) else (lt (l2 + (-1 : Int32)) fun z106 => (k_31 σ l1 z106))))
set_option maxRecDepth 100000 in
theorem bl_X2_countNeeded_31 {l : Launch} (hl : l.stackTraces = false) {g : Gy} {ad : Nat → Nat} {rst : va_W} {p : Program} {e : Env} {s : State} {m : MethodId} {args : Array Value} {below : List Frame} {meth : Method} {c : Code} {A : Nat → Prop} (C : Cx p l s m args meth c g A yX2_countNeeded.cls cX2_countNeeded 3) (hr : meth.sig.returnType = some .int) (hx : ∀ x ∈ c.exceptionTable.toList, False) {rr : (Int32 ⊕ String) × DS} (k_31 : DS → Int32 → Int32 → Res DS Int32) (hk_31 : ∀ (σ : DS) (l1 : Int32) (l2 : Int32), k_31 σ l1 l2 = some rr → J p l e (rmOf 3 0 0) s m args below meth c g A 3 0 0 (QR mI g A (dkh g ad rst) rr below args s 0 0) 31 [(0, .ref (ad 2)), (1, .int l1), (2, .int l2)] [] ((dkh g ad rst) σ)) (σ : DS) (l1 : Int32) (l2 : Int32) (H : B_X2_countNeeded_31 k_31 σ l1 l2 = some rr) : J p l e (rmOf 3 0 0) s m args below meth c g A 3 0 0 (QR mI g A (dkh g ad rst) rr below args s 0 0) 31 [(0, .ref (ad 2)), (1, .int l1), (2, .int l2)] [] ((dkh g ad rst) σ) := by
  unfold B_X2_countNeeded_31 at H
  refine J.iload_n (i := 2) C dX2_countNeeded_31 rfl rfl ?_
  refine J.if_ltL (tgt := 112) C dX2_countNeeded_32 (by decide) H (fun c_32 H => ?_) (fun c_32 H => ?_)
  · refine J.iload_n (i := 1) C dX2_countNeeded_112 rfl rfl ?_
    exact J.iretL C hr (Nat.le_of_ble_eq_true rfl) (Nat.le_of_ble_eq_true rfl) dX2_countNeeded_113 H
  · refine J.aload_n (i := 0) C dX2_countNeeded_35 rfl rfl ?_
    refine J.get C 2 8 dk_2 rfl (by decide) kFl_X2_38 inB_X2 rfl dX2_countNeeded_36 ?_
    refine J.iload_n (i := 2) C dX2_countNeeded_39 rfl rfl ?_
    refine J.callVI C (at_15 hl _) rfl kMl_X2_67 mdX3_at ⟨(Nat.le_of_ble_eq_true rfl), (Nat.le_of_ble_eq_true rfl)⟩ dk_36 rfl rfl (Nat.le_of_ble_eq_true rfl) dX2_countNeeded_40 ⟨(Nat.le_of_ble_eq_true rfl), (Nat.le_of_ble_eq_true rfl)⟩ ?_
    refine J.iconst C (1) dX2_countNeeded_43 (by decide) ?_
    refine J.icmp_neL (tgt := 106) C dX2_countNeeded_44 (by decide) H (fun c_44 H => ?_) (fun c_44 H => ?_)
    · refine J.iincL C (l2 + (-1 : Int32)) dX2_countNeeded_106 rfl rfl (by decide) H (fun z106 H => ?_)
      refine J.goto (tgt := 31) C dX2_countNeeded_109 (by decide) ?_
      refine J.widen (k := 0) (n := 0) (Nat.le_of_ble_eq_true rfl) (Nat.le_of_ble_eq_true rfl) ?_
      refine J.lw (lv' := [(0, .ref (ad 2)), (1, .int l1), (2, .int z106)]) ⟨rfl, rfl, rfl, trivial⟩ ?_
      exact hk_31 _ _ _  H
    · refine J.iincL C (l1 + (1 : Int32)) dX2_countNeeded_47 rfl rfl (by decide) H (fun z47 H => ?_)
      refine J.aload_n (i := 0) C dX2_countNeeded_50 rfl rfl ?_
      refine J.get C 2 8 dk_2 rfl (by decide) kFl_X2_38 inB_X2 rfl dX2_countNeeded_51 ?_
      refine J.aload_n (i := 0) C dX2_countNeeded_54 rfl rfl ?_
      refine J.get C 2 4 dk_2 rfl (by decide) kFl_X2_26 inB_X2 rfl dX2_countNeeded_55 ?_
      refine J.iload_n (i := 2) C dX2_countNeeded_58 rfl rfl ?_
      refine J.callVI C (at_11 hl _) rfl kMl_X2_67 mdX3_at ⟨(Nat.le_of_ble_eq_true rfl), (Nat.le_of_ble_eq_true rfl)⟩ dk_28 rfl rfl (Nat.le_of_ble_eq_true rfl) dX2_countNeeded_59 ⟨(Nat.le_of_ble_eq_true rfl), (Nat.le_of_ble_eq_true rfl)⟩ ?_
      refine J.iconst C (1) dX2_countNeeded_62 (by decide) ?_
      refine J.callVVL (hp := (dkh g ad rst)) C (put_15 hl _ _) rfl kMl_X2_74 mdX3_put ⟨(Nat.le_of_ble_eq_true rfl), (Nat.le_of_ble_eq_true rfl)⟩ dk_36 rfl rfl (Nat.le_of_ble_eq_true rfl) dX2_countNeeded_63 ⟨(Nat.le_of_ble_eq_true rfl), (Nat.le_of_ble_eq_true rfl)⟩ H (fun s63 H => ?_)
      refine J.aload_n (i := 0) C dX2_countNeeded_66 rfl rfl ?_
      refine J.get C 2 8 dk_2 rfl (by decide) kFl_X2_38 inB_X2 rfl dX2_countNeeded_67 ?_
      refine J.aload_n (i := 0) C dX2_countNeeded_70 rfl rfl ?_
      refine J.get C 2 5 dk_2 rfl (by decide) kFl_X2_29 inB_X2 rfl dX2_countNeeded_71 ?_
      refine J.iload_n (i := 2) C dX2_countNeeded_74 rfl rfl ?_
      refine J.callVI C (at_12 hl _) rfl kMl_X2_67 mdX3_at ⟨(Nat.le_of_ble_eq_true rfl), (Nat.le_of_ble_eq_true rfl)⟩ dk_30 rfl rfl (Nat.le_of_ble_eq_true rfl) dX2_countNeeded_75 ⟨(Nat.le_of_ble_eq_true rfl), (Nat.le_of_ble_eq_true rfl)⟩ ?_
      refine J.iconst C (1) dX2_countNeeded_78 (by decide) ?_
      refine J.callVVL (hp := (dkh g ad rst)) C (put_15 hl _ _) rfl kMl_X2_74 mdX3_put ⟨(Nat.le_of_ble_eq_true rfl), (Nat.le_of_ble_eq_true rfl)⟩ dk_36 rfl rfl (Nat.le_of_ble_eq_true rfl) dX2_countNeeded_79 ⟨(Nat.le_of_ble_eq_true rfl), (Nat.le_of_ble_eq_true rfl)⟩ H (fun s79 H => ?_)
      refine J.aload_n (i := 0) C dX2_countNeeded_82 rfl rfl ?_
      refine J.aload_n (i := 0) C dX2_countNeeded_83 rfl rfl ?_
      refine J.get C 2 6 dk_2 rfl (by decide) kFl_X2_32 inB_X2 rfl dX2_countNeeded_84 ?_
      refine J.iload_n (i := 2) C dX2_countNeeded_87 rfl rfl ?_
      refine J.callVI C (at_13 hl _) rfl kMl_X2_67 mdX3_at ⟨(Nat.le_of_ble_eq_true rfl), (Nat.le_of_ble_eq_true rfl)⟩ dk_32 rfl rfl (Nat.le_of_ble_eq_true rfl) dX2_countNeeded_88 ⟨(Nat.le_of_ble_eq_true rfl), (Nat.le_of_ble_eq_true rfl)⟩ ?_
      refine J.callVBV (hp := (dkh g ad rst)) C rfl (sp_X2_markEnds hl _) rfl kMl_X2_99 mdX2_markEnds ⟨(Nat.le_of_ble_eq_true rfl), (Nat.le_of_ble_eq_true rfl)⟩ dk_2 rfl rfl (Nat.le_of_ble_eq_true rfl) dX2_countNeeded_91 ⟨(Nat.le_of_ble_eq_true rfl), (Nat.le_of_ble_eq_true rfl)⟩ hx (Nat.le_of_ble_eq_true rfl) (Nat.le_of_ble_eq_true rfl) H (fun _ s91 H => ?_)
      refine J.aload_n (i := 0) C dX2_countNeeded_94 rfl rfl ?_
      refine J.aload_n (i := 0) C dX2_countNeeded_95 rfl rfl ?_
      refine J.get C 2 7 dk_2 rfl (by decide) kFl_X2_35 inB_X2 rfl dX2_countNeeded_96 ?_
      refine J.iload_n (i := 2) C dX2_countNeeded_99 rfl rfl ?_
      refine J.callVI C (at_14 hl _) rfl kMl_X2_67 mdX3_at ⟨(Nat.le_of_ble_eq_true rfl), (Nat.le_of_ble_eq_true rfl)⟩ dk_34 rfl rfl (Nat.le_of_ble_eq_true rfl) dX2_countNeeded_100 ⟨(Nat.le_of_ble_eq_true rfl), (Nat.le_of_ble_eq_true rfl)⟩ ?_
      refine J.callVBV (hp := (dkh g ad rst)) C rfl (sp_X2_markEnds hl _) rfl kMl_X2_99 mdX2_markEnds ⟨(Nat.le_of_ble_eq_true rfl), (Nat.le_of_ble_eq_true rfl)⟩ dk_2 rfl rfl (Nat.le_of_ble_eq_true rfl) dX2_countNeeded_103 ⟨(Nat.le_of_ble_eq_true rfl), (Nat.le_of_ble_eq_true rfl)⟩ hx (Nat.le_of_ble_eq_true rfl) (Nat.le_of_ble_eq_true rfl) H (fun _ s103 H => ?_)
      refine J.iincL C (l2 + (-1 : Int32)) dX2_countNeeded_106 rfl rfl (by decide) H (fun z106 H => ?_)
      refine J.goto (tgt := 31) C dX2_countNeeded_109 (by decide) ?_
      refine J.widen (k := 0) (n := 0) (Nat.le_of_ble_eq_true rfl) (Nat.le_of_ble_eq_true rfl) ?_
      refine J.lw (lv' := [(0, .ref (ad 2)), (1, .int z47), (2, .int z106)]) ⟨rfl, rfl, rfl, trivial⟩ ?_
      exact hk_31 _ _ _  H
def L_X2_countNeeded_31 : Nat → DS → Int32 → Int32 → Res DS Int32
  | 0, _, _, _ => none
  | n + 1, σ, l1, l2 => B_X2_countNeeded_31 (L_X2_countNeeded_31 n) σ l1 l2
set_option maxRecDepth 100000 in
theorem lp_X2_countNeeded_31 {l : Launch} (hl : l.stackTraces = false) {g : Gy} {ad : Nat → Nat} {rst : va_W} {p : Program} {e : Env} {s : State} {m : MethodId} {args : Array Value} {below : List Frame} {meth : Method} {c : Code} {A : Nat → Prop} (C : Cx p l s m args meth c g A yX2_countNeeded.cls cX2_countNeeded 3) (hr : meth.sig.returnType = some .int) (hx : ∀ x ∈ c.exceptionTable.toList, False) {rr : (Int32 ⊕ String) × DS} : ∀ (n : Nat) (σ : DS) (l1 : Int32) (l2 : Int32), L_X2_countNeeded_31 n σ l1 l2 = some rr → J p l e (rmOf 3 0 0) s m args below meth c g A 3 0 0 (QR mI g A (dkh g ad rst) rr below args s 0 0) 31 [(0, .ref (ad 2)), (1, .int l1), (2, .int l2)] [] ((dkh g ad rst) σ) := by
  intro n
  induction n with
  | zero => intro σ l1 l2 H; cases H
  | succ n ih => intro σ l1 l2 H; exact bl_X2_countNeeded_31 hl C hr hx _ ih _ _ _ H
abbrev mX2_countNeeded : MD := (yX2_countNeeded, cX2_countNeeded, 3, some .int)
theorem mdX2_countNeeded : MDv mX2_countNeeded RX2 0 := ⟨kIm_X2_countNeeded, kSe_X2_countNeeded, kIn_X2, kCo_X2_countNeeded, by decide +kernel⟩
def P_X2_countNeeded (σ : DS)  : Res DS Int32 := (lt (sR σ 15 (rfill 60 (σ.2 15) (0 : Int32))) fun s5 => (lt (sR s5 15 (rput 60 (s5.2 15) ((s5.1 2) - (1 : Int32)) (1 : Int32))) fun s19 => (lt (0 : Int32) fun z23 => (lt ((s19.1 2) - (1 : Int32)) fun z30 => (L_X2_countNeeded_31 FU s19 z23 z30)))))
set_option maxRecDepth 100000 in
theorem sp_X2_countNeeded {l : Launch} (hl : l.stackTraces = false) {g : Gy} {ad : Nat → Nat} {rst : va_W} {σ : DS}  : SpR l mX2_countNeeded 3 0 0 mI g [.ref (ad 2)] (dkh g ad rst) σ (P_X2_countNeeded σ ) := by
  refine SpR.of hl (by decide) (Nat.le_of_ble_eq_true rfl) (fun rr H p e s m args below meth c A C hr hx => ?_)
  unfold P_X2_countNeeded at H
  refine J.lw (lv' := [(0, .ref (ad 2))]) ⟨rfl, trivial⟩ ?_
  refine J.aload_n (i := 0) C dX2_countNeeded_0 rfl rfl ?_
  refine J.get C 2 8 dk_2 rfl (by decide) kFl_X2_38 inB_X2 rfl dX2_countNeeded_1 ?_
  refine J.iconst C (0) dX2_countNeeded_4 (by decide) ?_
  refine J.callVVL (hp := (dkh g ad rst)) C (fill_15 hl _) rfl kMl_X2_96 mdX3_fill ⟨(Nat.le_of_ble_eq_true rfl), (Nat.le_of_ble_eq_true rfl)⟩ dk_36 rfl rfl (Nat.le_of_ble_eq_true rfl) dX2_countNeeded_5 ⟨(Nat.le_of_ble_eq_true rfl), (Nat.le_of_ble_eq_true rfl)⟩ H (fun s5 H => ?_)
  refine J.aload_n (i := 0) C dX2_countNeeded_8 rfl rfl ?_
  refine J.get C 2 8 dk_2 rfl (by decide) kFl_X2_38 inB_X2 rfl dX2_countNeeded_9 ?_
  refine J.aload_n (i := 0) C dX2_countNeeded_12 rfl rfl ?_
  refine J.get C 2 13 dk_2 rfl (by decide) kFl_X2_61 inB_X2 rfl dX2_countNeeded_13 ?_
  refine J.iconst C (1) dX2_countNeeded_16 (by decide) ?_
  refine J.isub C dX2_countNeeded_17 ?_
  refine J.iconst C (1) dX2_countNeeded_18 (by decide) ?_
  refine J.callVVL (hp := (dkh g ad rst)) C (put_15 hl _ _) rfl kMl_X2_74 mdX3_put ⟨(Nat.le_of_ble_eq_true rfl), (Nat.le_of_ble_eq_true rfl)⟩ dk_36 rfl rfl (Nat.le_of_ble_eq_true rfl) dX2_countNeeded_19 ⟨(Nat.le_of_ble_eq_true rfl), (Nat.le_of_ble_eq_true rfl)⟩ H (fun s19 H => ?_)
  refine J.iconst C (0) dX2_countNeeded_22 (by decide) ?_
  refine J.istore_nL (i := 1) C dX2_countNeeded_23 rfl (by decide) H (fun z23 H => ?_)
  refine J.aload_n (i := 0) C dX2_countNeeded_24 rfl rfl ?_
  refine J.get C 2 13 dk_2 rfl (by decide) kFl_X2_61 inB_X2 rfl dX2_countNeeded_25 ?_
  refine J.iconst C (1) dX2_countNeeded_28 (by decide) ?_
  refine J.isub C dX2_countNeeded_29 ?_
  refine J.istore_nL (i := 2) C dX2_countNeeded_30 rfl (by decide) H (fun z30 H => ?_)
  refine J.widen (k := 0) (n := 0) (Nat.le_of_ble_eq_true rfl) (Nat.le_of_ble_eq_true rfl) ?_
  refine J.lw (lv' := [(0, .ref (ad 2)), (1, .int z23), (2, .int z30)]) ⟨rfl, rfl, rfl, trivial⟩ ?_
  exact lp_X2_countNeeded_31 hl C hr hx  FU _ _ _  H

/-! X2_sizeSum -/
def B_X2_sizeSum_4 (k_4 : DS → Int32 → Int32 → Res DS Int32) (σ : DS) (l1 : Int32) (l2 : Int32) : Res DS Int32 := (if (σ.1 2) ≤ l2 then (some (.inl l1, σ)) else (lt (l1 + (F_X0_size σ (F_X2_formula σ l2))) fun z26 => (lt (l2 + (1 : Int32)) fun z27 => (k_4 σ z26 z27))))
set_option maxRecDepth 100000 in
theorem bl_X2_sizeSum_4 {l : Launch} (hl : l.stackTraces = false) {g : Gy} {ad : Nat → Nat} {rst : va_W} {p : Program} {e : Env} {s : State} {m : MethodId} {args : Array Value} {below : List Frame} {meth : Method} {c : Code} {A : Nat → Prop} (C : Cx p l s m args meth c g A yX2_sizeSum.cls cX2_sizeSum 3) (hr : meth.sig.returnType = some .int) (hx : ∀ x ∈ c.exceptionTable.toList, False) {rr : (Int32 ⊕ String) × DS} (k_4 : DS → Int32 → Int32 → Res DS Int32) (hk_4 : ∀ (σ : DS) (l1 : Int32) (l2 : Int32), k_4 σ l1 l2 = some rr → J p l e (rmOf 3 0 0) s m args below meth c g A 3 0 0 (QR mI g A (dkh g ad rst) rr below args s 0 0) 4 [(0, .ref (ad 2)), (1, .int l1), (2, .int l2)] [] ((dkh g ad rst) σ)) (σ : DS) (l1 : Int32) (l2 : Int32) (H : B_X2_sizeSum_4 k_4 σ l1 l2 = some rr) : J p l e (rmOf 3 0 0) s m args below meth c g A 3 0 0 (QR mI g A (dkh g ad rst) rr below args s 0 0) 4 [(0, .ref (ad 2)), (1, .int l1), (2, .int l2)] [] ((dkh g ad rst) σ) := by
  unfold B_X2_sizeSum_4 at H
  refine J.iload_n (i := 2) C dX2_sizeSum_4 rfl rfl ?_
  refine J.aload_n (i := 0) C dX2_sizeSum_5 rfl rfl ?_
  refine J.get C 2 13 dk_2 rfl (by decide) kFl_X2_61 inB_X2 rfl dX2_sizeSum_6 ?_
  refine J.icmp_geL (tgt := 33) C dX2_sizeSum_9 (by decide) H (fun c_9 H => ?_) (fun c_9 H => ?_)
  · refine J.iload_n (i := 1) C dX2_sizeSum_33 rfl rfl ?_
    exact J.iretL C hr (Nat.le_of_ble_eq_true rfl) (Nat.le_of_ble_eq_true rfl) dX2_sizeSum_34 H
  · refine J.iload_n (i := 1) C dX2_sizeSum_12 rfl rfl ?_
    refine J.aload_n (i := 0) C dX2_sizeSum_13 rfl rfl ?_
    refine J.get C 2 0 dk_2 rfl (by decide) kFl_X2_57 inB_X2 rfl dX2_sizeSum_14 ?_
    refine J.aload_n (i := 0) C dX2_sizeSum_17 rfl rfl ?_
    refine J.iload_n (i := 2) C dX2_sizeSum_18 rfl rfl ?_
    refine J.callVI C (sp_X2_formula hl _) rfl kMl_X2_71 mdX2_formula ⟨(Nat.le_of_ble_eq_true rfl), (Nat.le_of_ble_eq_true rfl)⟩ dk_2 rfl rfl (Nat.le_of_ble_eq_true rfl) dX2_sizeSum_19 ⟨(Nat.le_of_ble_eq_true rfl), (Nat.le_of_ble_eq_true rfl)⟩ ?_
    refine J.callVI C (sp_X0_size hl _) rfl kMl_X2_102 mdX0_size ⟨(Nat.le_of_ble_eq_true rfl), (Nat.le_of_ble_eq_true rfl)⟩ dk_1 rfl rfl (Nat.le_of_ble_eq_true rfl) dX2_sizeSum_22 ⟨(Nat.le_of_ble_eq_true rfl), (Nat.le_of_ble_eq_true rfl)⟩ ?_
    refine J.iadd C dX2_sizeSum_25 ?_
    refine J.istore_nL (i := 1) C dX2_sizeSum_26 rfl (by decide) H (fun z26 H => ?_)
    refine J.iincL C (l2 + (1 : Int32)) dX2_sizeSum_27 rfl rfl (by decide) H (fun z27 H => ?_)
    refine J.goto (tgt := 4) C dX2_sizeSum_30 (by decide) ?_
    refine J.widen (k := 0) (n := 0) (Nat.le_of_ble_eq_true rfl) (Nat.le_of_ble_eq_true rfl) ?_
    refine J.lw (lv' := [(0, .ref (ad 2)), (1, .int z26), (2, .int z27)]) ⟨rfl, rfl, rfl, trivial⟩ ?_
    exact hk_4 _ _ _  H
def L_X2_sizeSum_4 : Nat → DS → Int32 → Int32 → Res DS Int32
  | 0, _, _, _ => none
  | n + 1, σ, l1, l2 => B_X2_sizeSum_4 (L_X2_sizeSum_4 n) σ l1 l2
set_option maxRecDepth 100000 in
theorem lp_X2_sizeSum_4 {l : Launch} (hl : l.stackTraces = false) {g : Gy} {ad : Nat → Nat} {rst : va_W} {p : Program} {e : Env} {s : State} {m : MethodId} {args : Array Value} {below : List Frame} {meth : Method} {c : Code} {A : Nat → Prop} (C : Cx p l s m args meth c g A yX2_sizeSum.cls cX2_sizeSum 3) (hr : meth.sig.returnType = some .int) (hx : ∀ x ∈ c.exceptionTable.toList, False) {rr : (Int32 ⊕ String) × DS} : ∀ (n : Nat) (σ : DS) (l1 : Int32) (l2 : Int32), L_X2_sizeSum_4 n σ l1 l2 = some rr → J p l e (rmOf 3 0 0) s m args below meth c g A 3 0 0 (QR mI g A (dkh g ad rst) rr below args s 0 0) 4 [(0, .ref (ad 2)), (1, .int l1), (2, .int l2)] [] ((dkh g ad rst) σ) := by
  intro n
  induction n with
  | zero => intro σ l1 l2 H; cases H
  | succ n ih => intro σ l1 l2 H; exact bl_X2_sizeSum_4 hl C hr hx _ ih _ _ _ H
abbrev mX2_sizeSum : MD := (yX2_sizeSum, cX2_sizeSum, 3, some .int)
theorem mdX2_sizeSum : MDv mX2_sizeSum RX2 0 := ⟨kIm_X2_sizeSum, kSe_X2_sizeSum, kIn_X2, kCo_X2_sizeSum, by decide +kernel⟩
def P_X2_sizeSum (σ : DS)  : Res DS Int32 := (lt (0 : Int32) fun z1 => (lt (0 : Int32) fun z3 => (L_X2_sizeSum_4 FU σ z1 z3)))
set_option maxRecDepth 100000 in
theorem sp_X2_sizeSum {l : Launch} (hl : l.stackTraces = false) {g : Gy} {ad : Nat → Nat} {rst : va_W} {σ : DS}  : SpR l mX2_sizeSum 3 0 0 mI g [.ref (ad 2)] (dkh g ad rst) σ (P_X2_sizeSum σ ) := by
  refine SpR.of hl (by decide) (Nat.le_of_ble_eq_true rfl) (fun rr H p e s m args below meth c A C hr hx => ?_)
  unfold P_X2_sizeSum at H
  refine J.lw (lv' := [(0, .ref (ad 2))]) ⟨rfl, trivial⟩ ?_
  refine J.iconst C (0) dX2_sizeSum_0 (by decide) ?_
  refine J.istore_nL (i := 1) C dX2_sizeSum_1 rfl (by decide) H (fun z1 H => ?_)
  refine J.iconst C (0) dX2_sizeSum_2 (by decide) ?_
  refine J.istore_nL (i := 2) C dX2_sizeSum_3 rfl (by decide) H (fun z3 H => ?_)
  refine J.widen (k := 0) (n := 0) (Nat.le_of_ble_eq_true rfl) (Nat.le_of_ble_eq_true rfl) ?_
  refine J.lw (lv' := [(0, .ref (ad 2)), (1, .int z1), (2, .int z3)]) ⟨rfl, rfl, rfl, trivial⟩ ?_
  exact lp_X2_sizeSum_4 hl C hr hx  FU _ _ _  H

/-! X2_citableTable -/
def B_X2_citableTable_4 (k_4 : DS → Int32 → Int32 → Res DS Int32) (σ : DS) (l1 : Int32) (l2 : Int32) : Res DS Int32 := (if (σ.1 2) ≤ l2 then (some (.inl l1, σ)) else (if (F_X2_isCitable σ l2) = 0 then (lt (l2 + (1 : Int32)) fun z35 => (k_4 σ l1 z35)) else (lt (l1 &&& (F_X0_table σ (F_X2_formula σ l2))) fun z34 => (lt (l2 + (1 : Int32)) fun z35 => (k_4 σ z34 z35)))))
set_option maxRecDepth 100000 in
theorem bl_X2_citableTable_4 {l : Launch} (hl : l.stackTraces = false) {g : Gy} {ad : Nat → Nat} {rst : va_W} {p : Program} {e : Env} {s : State} {m : MethodId} {args : Array Value} {below : List Frame} {meth : Method} {c : Code} {A : Nat → Prop} (C : Cx p l s m args meth c g A yX2_citableTable.cls cX2_citableTable 3) (hr : meth.sig.returnType = some .int) (hx : ∀ x ∈ c.exceptionTable.toList, False) {rr : (Int32 ⊕ String) × DS} (k_4 : DS → Int32 → Int32 → Res DS Int32) (hk_4 : ∀ (σ : DS) (l1 : Int32) (l2 : Int32), k_4 σ l1 l2 = some rr → J p l e (rmOf 4 0 0) s m args below meth c g A 3 0 0 (QR mI g A (dkh g ad rst) rr below args s 0 0) 4 [(0, .ref (ad 2)), (1, .int l1), (2, .int l2)] [] ((dkh g ad rst) σ)) (σ : DS) (l1 : Int32) (l2 : Int32) (H : B_X2_citableTable_4 k_4 σ l1 l2 = some rr) : J p l e (rmOf 4 0 0) s m args below meth c g A 3 0 0 (QR mI g A (dkh g ad rst) rr below args s 0 0) 4 [(0, .ref (ad 2)), (1, .int l1), (2, .int l2)] [] ((dkh g ad rst) σ) := by
  unfold B_X2_citableTable_4 at H
  refine J.iload_n (i := 2) C dX2_citableTable_4 rfl rfl ?_
  refine J.aload_n (i := 0) C dX2_citableTable_5 rfl rfl ?_
  refine J.get C 2 13 dk_2 rfl (by decide) kFl_X2_61 inB_X2 rfl dX2_citableTable_6 ?_
  refine J.icmp_geL (tgt := 41) C dX2_citableTable_9 (by decide) H (fun c_9 H => ?_) (fun c_9 H => ?_)
  · refine J.iload_n (i := 1) C dX2_citableTable_41 rfl rfl ?_
    exact J.iretL C hr (Nat.le_of_ble_eq_true rfl) (Nat.le_of_ble_eq_true rfl) dX2_citableTable_42 H
  · refine J.aload_n (i := 0) C dX2_citableTable_12 rfl rfl ?_
    refine J.iload_n (i := 2) C dX2_citableTable_13 rfl rfl ?_
    refine J.callVI C (sp_X2_isCitable hl _) rfl kMl_X2_107 mdX2_isCitable ⟨(Nat.le_of_ble_eq_true rfl), (Nat.le_of_ble_eq_true rfl)⟩ dk_2 rfl rfl (Nat.le_of_ble_eq_true rfl) dX2_citableTable_14 ⟨(Nat.le_of_ble_eq_true rfl), (Nat.le_of_ble_eq_true rfl)⟩ ?_
    refine J.if_eqL (tgt := 35) C dX2_citableTable_17 (by decide) H (fun c_17 H => ?_) (fun c_17 H => ?_)
    · refine J.iincL C (l2 + (1 : Int32)) dX2_citableTable_35 rfl rfl (by decide) H (fun z35 H => ?_)
      refine J.goto (tgt := 4) C dX2_citableTable_38 (by decide) ?_
      refine J.widen (k := 0) (n := 0) (Nat.le_of_ble_eq_true rfl) (Nat.le_of_ble_eq_true rfl) ?_
      refine J.lw (lv' := [(0, .ref (ad 2)), (1, .int l1), (2, .int z35)]) ⟨rfl, rfl, rfl, trivial⟩ ?_
      exact hk_4 _ _ _  H
    · refine J.iload_n (i := 1) C dX2_citableTable_20 rfl rfl ?_
      refine J.aload_n (i := 0) C dX2_citableTable_21 rfl rfl ?_
      refine J.get C 2 0 dk_2 rfl (by decide) kFl_X2_57 inB_X2 rfl dX2_citableTable_22 ?_
      refine J.aload_n (i := 0) C dX2_citableTable_25 rfl rfl ?_
      refine J.iload_n (i := 2) C dX2_citableTable_26 rfl rfl ?_
      refine J.callVI C (sp_X2_formula hl _) rfl kMl_X2_71 mdX2_formula ⟨(Nat.le_of_ble_eq_true rfl), (Nat.le_of_ble_eq_true rfl)⟩ dk_2 rfl rfl (Nat.le_of_ble_eq_true rfl) dX2_citableTable_27 ⟨(Nat.le_of_ble_eq_true rfl), (Nat.le_of_ble_eq_true rfl)⟩ ?_
      refine J.callVI C (sp_X0_table hl _) rfl kMl_X2_110 mdX0_table ⟨(Nat.le_of_ble_eq_true rfl), (Nat.le_of_ble_eq_true rfl)⟩ dk_1 rfl rfl (Nat.le_of_ble_eq_true rfl) dX2_citableTable_30 ⟨(Nat.le_of_ble_eq_true rfl), (Nat.le_of_ble_eq_true rfl)⟩ ?_
      refine J.iand C dX2_citableTable_33 ?_
      refine J.istore_nL (i := 1) C dX2_citableTable_34 rfl (by decide) H (fun z34 H => ?_)
      refine J.iincL C (l2 + (1 : Int32)) dX2_citableTable_35 rfl rfl (by decide) H (fun z35 H => ?_)
      refine J.goto (tgt := 4) C dX2_citableTable_38 (by decide) ?_
      refine J.widen (k := 0) (n := 0) (Nat.le_of_ble_eq_true rfl) (Nat.le_of_ble_eq_true rfl) ?_
      refine J.lw (lv' := [(0, .ref (ad 2)), (1, .int z34), (2, .int z35)]) ⟨rfl, rfl, rfl, trivial⟩ ?_
      exact hk_4 _ _ _  H
def L_X2_citableTable_4 : Nat → DS → Int32 → Int32 → Res DS Int32
  | 0, _, _, _ => none
  | n + 1, σ, l1, l2 => B_X2_citableTable_4 (L_X2_citableTable_4 n) σ l1 l2
set_option maxRecDepth 100000 in
theorem lp_X2_citableTable_4 {l : Launch} (hl : l.stackTraces = false) {g : Gy} {ad : Nat → Nat} {rst : va_W} {p : Program} {e : Env} {s : State} {m : MethodId} {args : Array Value} {below : List Frame} {meth : Method} {c : Code} {A : Nat → Prop} (C : Cx p l s m args meth c g A yX2_citableTable.cls cX2_citableTable 3) (hr : meth.sig.returnType = some .int) (hx : ∀ x ∈ c.exceptionTable.toList, False) {rr : (Int32 ⊕ String) × DS} : ∀ (n : Nat) (σ : DS) (l1 : Int32) (l2 : Int32), L_X2_citableTable_4 n σ l1 l2 = some rr → J p l e (rmOf 4 0 0) s m args below meth c g A 3 0 0 (QR mI g A (dkh g ad rst) rr below args s 0 0) 4 [(0, .ref (ad 2)), (1, .int l1), (2, .int l2)] [] ((dkh g ad rst) σ) := by
  intro n
  induction n with
  | zero => intro σ l1 l2 H; cases H
  | succ n ih => intro σ l1 l2 H; exact bl_X2_citableTable_4 hl C hr hx _ ih _ _ _ H
abbrev mX2_citableTable : MD := (yX2_citableTable, cX2_citableTable, 3, some .int)
theorem mdX2_citableTable : MDv mX2_citableTable RX2 0 := ⟨kIm_X2_citableTable, kSe_X2_citableTable, kIn_X2, kCo_X2_citableTable, by decide +kernel⟩
def P_X2_citableTable (σ : DS)  : Res DS Int32 := (lt (-1 : Int32) fun z1 => (lt (0 : Int32) fun z3 => (L_X2_citableTable_4 FU σ z1 z3)))
set_option maxRecDepth 100000 in
theorem sp_X2_citableTable {l : Launch} (hl : l.stackTraces = false) {g : Gy} {ad : Nat → Nat} {rst : va_W} {σ : DS}  : SpR l mX2_citableTable 4 0 0 mI g [.ref (ad 2)] (dkh g ad rst) σ (P_X2_citableTable σ ) := by
  refine SpR.of hl (by decide) (Nat.le_of_ble_eq_true rfl) (fun rr H p e s m args below meth c A C hr hx => ?_)
  unfold P_X2_citableTable at H
  refine J.lw (lv' := [(0, .ref (ad 2))]) ⟨rfl, trivial⟩ ?_
  refine J.iconst C (-1) dX2_citableTable_0 (by decide) ?_
  refine J.istore_nL (i := 1) C dX2_citableTable_1 rfl (by decide) H (fun z1 H => ?_)
  refine J.iconst C (0) dX2_citableTable_2 (by decide) ?_
  refine J.istore_nL (i := 2) C dX2_citableTable_3 rfl (by decide) H (fun z3 H => ?_)
  refine J.widen (k := 0) (n := 0) (Nat.le_of_ble_eq_true rfl) (Nat.le_of_ble_eq_true rfl) ?_
  refine J.lw (lv' := [(0, .ref (ad 2)), (1, .int z1), (2, .int z3)]) ⟨rfl, rfl, rfl, trivial⟩ ?_
  exact lp_X2_citableTable_4 hl C hr hx  FU _ _ _  H

/-! X2_premiseTable -/
def B_X2_premiseTable_4 (k_4 : DS → Int32 → Int32 → Res DS Int32) (σ : DS) (l1 : Int32) (l2 : Int32) : Res DS Int32 := (if (σ.1 2) ≤ l2 then (some (.inl l1, σ)) else (if (F_X2_isPremise σ l2) = 0 then (lt (l2 + (1 : Int32)) fun z35 => (k_4 σ l1 z35)) else (lt (l1 &&& (F_X0_table σ (F_X2_formula σ l2))) fun z34 => (lt (l2 + (1 : Int32)) fun z35 => (k_4 σ z34 z35)))))
set_option maxRecDepth 100000 in
theorem bl_X2_premiseTable_4 {l : Launch} (hl : l.stackTraces = false) {g : Gy} {ad : Nat → Nat} {rst : va_W} {p : Program} {e : Env} {s : State} {m : MethodId} {args : Array Value} {below : List Frame} {meth : Method} {c : Code} {A : Nat → Prop} (C : Cx p l s m args meth c g A yX2_premiseTable.cls cX2_premiseTable 3) (hr : meth.sig.returnType = some .int) (hx : ∀ x ∈ c.exceptionTable.toList, False) {rr : (Int32 ⊕ String) × DS} (k_4 : DS → Int32 → Int32 → Res DS Int32) (hk_4 : ∀ (σ : DS) (l1 : Int32) (l2 : Int32), k_4 σ l1 l2 = some rr → J p l e (rmOf 4 0 0) s m args below meth c g A 3 0 0 (QR mI g A (dkh g ad rst) rr below args s 0 0) 4 [(0, .ref (ad 2)), (1, .int l1), (2, .int l2)] [] ((dkh g ad rst) σ)) (σ : DS) (l1 : Int32) (l2 : Int32) (H : B_X2_premiseTable_4 k_4 σ l1 l2 = some rr) : J p l e (rmOf 4 0 0) s m args below meth c g A 3 0 0 (QR mI g A (dkh g ad rst) rr below args s 0 0) 4 [(0, .ref (ad 2)), (1, .int l1), (2, .int l2)] [] ((dkh g ad rst) σ) := by
  unfold B_X2_premiseTable_4 at H
  refine J.iload_n (i := 2) C dX2_premiseTable_4 rfl rfl ?_
  refine J.aload_n (i := 0) C dX2_premiseTable_5 rfl rfl ?_
  refine J.get C 2 13 dk_2 rfl (by decide) kFl_X2_61 inB_X2 rfl dX2_premiseTable_6 ?_
  refine J.icmp_geL (tgt := 41) C dX2_premiseTable_9 (by decide) H (fun c_9 H => ?_) (fun c_9 H => ?_)
  · refine J.iload_n (i := 1) C dX2_premiseTable_41 rfl rfl ?_
    exact J.iretL C hr (Nat.le_of_ble_eq_true rfl) (Nat.le_of_ble_eq_true rfl) dX2_premiseTable_42 H
  · refine J.aload_n (i := 0) C dX2_premiseTable_12 rfl rfl ?_
    refine J.iload_n (i := 2) C dX2_premiseTable_13 rfl rfl ?_
    refine J.callVI C (sp_X2_isPremise hl _) rfl kMl_X2_93 mdX2_isPremise ⟨(Nat.le_of_ble_eq_true rfl), (Nat.le_of_ble_eq_true rfl)⟩ dk_2 rfl rfl (Nat.le_of_ble_eq_true rfl) dX2_premiseTable_14 ⟨(Nat.le_of_ble_eq_true rfl), (Nat.le_of_ble_eq_true rfl)⟩ ?_
    refine J.if_eqL (tgt := 35) C dX2_premiseTable_17 (by decide) H (fun c_17 H => ?_) (fun c_17 H => ?_)
    · refine J.iincL C (l2 + (1 : Int32)) dX2_premiseTable_35 rfl rfl (by decide) H (fun z35 H => ?_)
      refine J.goto (tgt := 4) C dX2_premiseTable_38 (by decide) ?_
      refine J.widen (k := 0) (n := 0) (Nat.le_of_ble_eq_true rfl) (Nat.le_of_ble_eq_true rfl) ?_
      refine J.lw (lv' := [(0, .ref (ad 2)), (1, .int l1), (2, .int z35)]) ⟨rfl, rfl, rfl, trivial⟩ ?_
      exact hk_4 _ _ _  H
    · refine J.iload_n (i := 1) C dX2_premiseTable_20 rfl rfl ?_
      refine J.aload_n (i := 0) C dX2_premiseTable_21 rfl rfl ?_
      refine J.get C 2 0 dk_2 rfl (by decide) kFl_X2_57 inB_X2 rfl dX2_premiseTable_22 ?_
      refine J.aload_n (i := 0) C dX2_premiseTable_25 rfl rfl ?_
      refine J.iload_n (i := 2) C dX2_premiseTable_26 rfl rfl ?_
      refine J.callVI C (sp_X2_formula hl _) rfl kMl_X2_71 mdX2_formula ⟨(Nat.le_of_ble_eq_true rfl), (Nat.le_of_ble_eq_true rfl)⟩ dk_2 rfl rfl (Nat.le_of_ble_eq_true rfl) dX2_premiseTable_27 ⟨(Nat.le_of_ble_eq_true rfl), (Nat.le_of_ble_eq_true rfl)⟩ ?_
      refine J.callVI C (sp_X0_table hl _) rfl kMl_X2_110 mdX0_table ⟨(Nat.le_of_ble_eq_true rfl), (Nat.le_of_ble_eq_true rfl)⟩ dk_1 rfl rfl (Nat.le_of_ble_eq_true rfl) dX2_premiseTable_30 ⟨(Nat.le_of_ble_eq_true rfl), (Nat.le_of_ble_eq_true rfl)⟩ ?_
      refine J.iand C dX2_premiseTable_33 ?_
      refine J.istore_nL (i := 1) C dX2_premiseTable_34 rfl (by decide) H (fun z34 H => ?_)
      refine J.iincL C (l2 + (1 : Int32)) dX2_premiseTable_35 rfl rfl (by decide) H (fun z35 H => ?_)
      refine J.goto (tgt := 4) C dX2_premiseTable_38 (by decide) ?_
      refine J.widen (k := 0) (n := 0) (Nat.le_of_ble_eq_true rfl) (Nat.le_of_ble_eq_true rfl) ?_
      refine J.lw (lv' := [(0, .ref (ad 2)), (1, .int z34), (2, .int z35)]) ⟨rfl, rfl, rfl, trivial⟩ ?_
      exact hk_4 _ _ _  H
def L_X2_premiseTable_4 : Nat → DS → Int32 → Int32 → Res DS Int32
  | 0, _, _, _ => none
  | n + 1, σ, l1, l2 => B_X2_premiseTable_4 (L_X2_premiseTable_4 n) σ l1 l2
set_option maxRecDepth 100000 in
theorem lp_X2_premiseTable_4 {l : Launch} (hl : l.stackTraces = false) {g : Gy} {ad : Nat → Nat} {rst : va_W} {p : Program} {e : Env} {s : State} {m : MethodId} {args : Array Value} {below : List Frame} {meth : Method} {c : Code} {A : Nat → Prop} (C : Cx p l s m args meth c g A yX2_premiseTable.cls cX2_premiseTable 3) (hr : meth.sig.returnType = some .int) (hx : ∀ x ∈ c.exceptionTable.toList, False) {rr : (Int32 ⊕ String) × DS} : ∀ (n : Nat) (σ : DS) (l1 : Int32) (l2 : Int32), L_X2_premiseTable_4 n σ l1 l2 = some rr → J p l e (rmOf 4 0 0) s m args below meth c g A 3 0 0 (QR mI g A (dkh g ad rst) rr below args s 0 0) 4 [(0, .ref (ad 2)), (1, .int l1), (2, .int l2)] [] ((dkh g ad rst) σ) := by
  intro n
  induction n with
  | zero => intro σ l1 l2 H; cases H
  | succ n ih => intro σ l1 l2 H; exact bl_X2_premiseTable_4 hl C hr hx _ ih _ _ _ H
abbrev mX2_premiseTable : MD := (yX2_premiseTable, cX2_premiseTable, 3, some .int)
theorem mdX2_premiseTable : MDv mX2_premiseTable RX2 0 := ⟨kIm_X2_premiseTable, kSe_X2_premiseTable, kIn_X2, kCo_X2_premiseTable, by decide +kernel⟩
def P_X2_premiseTable (σ : DS)  : Res DS Int32 := (lt (-1 : Int32) fun z1 => (lt (0 : Int32) fun z3 => (L_X2_premiseTable_4 FU σ z1 z3)))
set_option maxRecDepth 100000 in
theorem sp_X2_premiseTable {l : Launch} (hl : l.stackTraces = false) {g : Gy} {ad : Nat → Nat} {rst : va_W} {σ : DS}  : SpR l mX2_premiseTable 4 0 0 mI g [.ref (ad 2)] (dkh g ad rst) σ (P_X2_premiseTable σ ) := by
  refine SpR.of hl (by decide) (Nat.le_of_ble_eq_true rfl) (fun rr H p e s m args below meth c A C hr hx => ?_)
  unfold P_X2_premiseTable at H
  refine J.lw (lv' := [(0, .ref (ad 2))]) ⟨rfl, trivial⟩ ?_
  refine J.iconst C (-1) dX2_premiseTable_0 (by decide) ?_
  refine J.istore_nL (i := 1) C dX2_premiseTable_1 rfl (by decide) H (fun z1 H => ?_)
  refine J.iconst C (0) dX2_premiseTable_2 (by decide) ?_
  refine J.istore_nL (i := 2) C dX2_premiseTable_3 rfl (by decide) H (fun z3 H => ?_)
  refine J.widen (k := 0) (n := 0) (Nat.le_of_ble_eq_true rfl) (Nat.le_of_ble_eq_true rfl) ?_
  refine J.lw (lv' := [(0, .ref (ad 2)), (1, .int z1), (2, .int z3)]) ⟨rfl, rfl, rfl, trivial⟩ ?_
  exact lp_X2_premiseTable_4 hl C hr hx  FU _ _ _  H

/-! X2_assumptionTable -/
def B_X2_assumptionTable_11 (k_11 : DS → Int32 → Int32 → Int32 → Res DS Int32) (σ : DS) (l2 : Int32) (l3 : Int32) (l4 : Int32) : Res DS Int32 := (if l3 = (-1 : Int32) then (some (.inl l2, σ)) else (if (60 : Int32) ≤ l4 then (some (.inl l2, σ)) else (lt (l2 &&& (F_X0_table σ (F_X2_begin σ l3))) fun z37 => (lt (rat 60 (σ.2 18) l3) fun z46 => (lt (l4 + (1 : Int32)) fun z47 => (k_11 σ z37 z46 z47))))))
set_option maxRecDepth 100000 in
theorem bl_X2_assumptionTable_11 {l : Launch} (hl : l.stackTraces = false) {g : Gy} {ad : Nat → Nat} {rst : va_W} {p : Program} {e : Env} {s : State} {m : MethodId} {args : Array Value} {below : List Frame} {meth : Method} {c : Code} {A : Nat → Prop} (C : Cx p l s m args meth c g A yX2_assumptionTable.cls cX2_assumptionTable 5) (hr : meth.sig.returnType = some .int) (hx : ∀ x ∈ c.exceptionTable.toList, False) {rr : (Int32 ⊕ String) × DS} (k_11 : DS → Int32 → Int32 → Int32 → Res DS Int32) (hk_11 : ∀ (σ : DS) (l2 : Int32) (l3 : Int32) (l4 : Int32), k_11 σ l2 l3 l4 = some rr → J p l e (rmOf 4 0 0) s m args below meth c g A 5 0 0 (QR mI g A (dkh g ad rst) rr below args s 0 0) 11 [(0, .ref (ad 2)), (2, .int l2), (3, .int l3), (4, .int l4)] [] ((dkh g ad rst) σ)) (σ : DS) (l2 : Int32) (l3 : Int32) (l4 : Int32) (H : B_X2_assumptionTable_11 k_11 σ l2 l3 l4 = some rr) : J p l e (rmOf 4 0 0) s m args below meth c g A 5 0 0 (QR mI g A (dkh g ad rst) rr below args s 0 0) 11 [(0, .ref (ad 2)), (2, .int l2), (3, .int l3), (4, .int l4)] [] ((dkh g ad rst) σ) := by
  unfold B_X2_assumptionTable_11 at H
  refine J.iload_n (i := 3) C dX2_assumptionTable_11 rfl rfl ?_
  refine J.iconst C (-1) dX2_assumptionTable_12 (by decide) ?_
  refine J.icmp_eqL (tgt := 53) C dX2_assumptionTable_13 (by decide) H (fun c_13 H => ?_) (fun c_13 H => ?_)
  · refine J.iload_n (i := 2) C dX2_assumptionTable_53 rfl rfl ?_
    exact J.iretL C hr (Nat.le_of_ble_eq_true rfl) (Nat.le_of_ble_eq_true rfl) dX2_assumptionTable_54 H
  · refine J.iload C dX2_assumptionTable_16 rfl ?_
    refine J.bipush C (60) dX2_assumptionTable_18 (by decide) ?_
    refine J.icmp_geL (tgt := 53) C dX2_assumptionTable_20 (by decide) H (fun c_20 H => ?_) (fun c_20 H => ?_)
    · refine J.iload_n (i := 2) C dX2_assumptionTable_53 rfl rfl ?_
      exact J.iretL C hr (Nat.le_of_ble_eq_true rfl) (Nat.le_of_ble_eq_true rfl) dX2_assumptionTable_54 H
    · refine J.iload_n (i := 2) C dX2_assumptionTable_23 rfl rfl ?_
      refine J.aload_n (i := 0) C dX2_assumptionTable_24 rfl rfl ?_
      refine J.get C 2 0 dk_2 rfl (by decide) kFl_X2_57 inB_X2 rfl dX2_assumptionTable_25 ?_
      refine J.aload_n (i := 0) C dX2_assumptionTable_28 rfl rfl ?_
      refine J.iload_n (i := 3) C dX2_assumptionTable_29 rfl rfl ?_
      refine J.callVI C (sp_X2_begin hl _) rfl kMl_X2_113 mdX2_begin ⟨(Nat.le_of_ble_eq_true rfl), (Nat.le_of_ble_eq_true rfl)⟩ dk_2 rfl rfl (Nat.le_of_ble_eq_true rfl) dX2_assumptionTable_30 ⟨(Nat.le_of_ble_eq_true rfl), (Nat.le_of_ble_eq_true rfl)⟩ ?_
      refine J.callVI C (sp_X0_table hl _) rfl kMl_X2_110 mdX0_table ⟨(Nat.le_of_ble_eq_true rfl), (Nat.le_of_ble_eq_true rfl)⟩ dk_1 rfl rfl (Nat.le_of_ble_eq_true rfl) dX2_assumptionTable_33 ⟨(Nat.le_of_ble_eq_true rfl), (Nat.le_of_ble_eq_true rfl)⟩ ?_
      refine J.iand C dX2_assumptionTable_36 ?_
      refine J.istore_nL (i := 2) C dX2_assumptionTable_37 rfl (by decide) H (fun z37 H => ?_)
      refine J.aload_n (i := 0) C dX2_assumptionTable_38 rfl rfl ?_
      refine J.get C 2 11 dk_2 rfl (by decide) kFl_X2_47 inB_X2 rfl dX2_assumptionTable_39 ?_
      refine J.iload_n (i := 3) C dX2_assumptionTable_42 rfl rfl ?_
      refine J.callVI C (at_18 hl _) rfl kMl_X2_67 mdX3_at ⟨(Nat.le_of_ble_eq_true rfl), (Nat.le_of_ble_eq_true rfl)⟩ dk_42 rfl rfl (Nat.le_of_ble_eq_true rfl) dX2_assumptionTable_43 ⟨(Nat.le_of_ble_eq_true rfl), (Nat.le_of_ble_eq_true rfl)⟩ ?_
      refine J.istore_nL (i := 3) C dX2_assumptionTable_46 rfl (by decide) H (fun z46 H => ?_)
      refine J.iincL C (l4 + (1 : Int32)) dX2_assumptionTable_47 rfl rfl (by decide) H (fun z47 H => ?_)
      refine J.goto (tgt := 11) C dX2_assumptionTable_50 (by decide) ?_
      refine J.widen (k := 0) (n := 0) (Nat.le_of_ble_eq_true rfl) (Nat.le_of_ble_eq_true rfl) ?_
      refine J.lw (lv' := [(0, .ref (ad 2)), (2, .int z37), (3, .int z46), (4, .int z47)]) ⟨rfl, rfl, rfl, rfl, trivial⟩ ?_
      exact hk_11 _ _ _ _  H
def L_X2_assumptionTable_11 : Nat → DS → Int32 → Int32 → Int32 → Res DS Int32
  | 0, _, _, _, _ => none
  | n + 1, σ, l2, l3, l4 => B_X2_assumptionTable_11 (L_X2_assumptionTable_11 n) σ l2 l3 l4
set_option maxRecDepth 100000 in
theorem lp_X2_assumptionTable_11 {l : Launch} (hl : l.stackTraces = false) {g : Gy} {ad : Nat → Nat} {rst : va_W} {p : Program} {e : Env} {s : State} {m : MethodId} {args : Array Value} {below : List Frame} {meth : Method} {c : Code} {A : Nat → Prop} (C : Cx p l s m args meth c g A yX2_assumptionTable.cls cX2_assumptionTable 5) (hr : meth.sig.returnType = some .int) (hx : ∀ x ∈ c.exceptionTable.toList, False) {rr : (Int32 ⊕ String) × DS} : ∀ (n : Nat) (σ : DS) (l2 : Int32) (l3 : Int32) (l4 : Int32), L_X2_assumptionTable_11 n σ l2 l3 l4 = some rr → J p l e (rmOf 4 0 0) s m args below meth c g A 5 0 0 (QR mI g A (dkh g ad rst) rr below args s 0 0) 11 [(0, .ref (ad 2)), (2, .int l2), (3, .int l3), (4, .int l4)] [] ((dkh g ad rst) σ) := by
  intro n
  induction n with
  | zero => intro σ l2 l3 l4 H; cases H
  | succ n ih => intro σ l2 l3 l4 H; exact bl_X2_assumptionTable_11 hl C hr hx _ ih _ _ _ _ H
abbrev mX2_assumptionTable : MD := (yX2_assumptionTable, cX2_assumptionTable, 5, some .int)
theorem mdX2_assumptionTable : MDv mX2_assumptionTable RX2 1 := ⟨kIm_X2_assumptionTable, kSe_X2_assumptionTable, kIn_X2, kCo_X2_assumptionTable, by decide +kernel⟩
def P_X2_assumptionTable (σ : DS) (a1 : Int32) : Res DS Int32 := (lt (-1 : Int32) fun z1 => (lt (F_X2_innermostOf σ a1) fun z7 => (lt (0 : Int32) fun z9 => (L_X2_assumptionTable_11 FU σ z1 z7 z9))))
set_option maxRecDepth 100000 in
theorem sp_X2_assumptionTable {l : Launch} (hl : l.stackTraces = false) {g : Gy} {ad : Nat → Nat} {rst : va_W} {σ : DS} (a1 : Int32) : SpR l mX2_assumptionTable 4 0 0 mI g [.ref (ad 2), .int a1] (dkh g ad rst) σ (P_X2_assumptionTable σ a1) := by
  refine SpR.of hl (by decide) (Nat.le_of_ble_eq_true rfl) (fun rr H p e s m args below meth c A C hr hx => ?_)
  unfold P_X2_assumptionTable at H
  refine J.lw (lv' := [(0, .ref (ad 2)), (1, .int a1)]) ⟨rfl, rfl, trivial⟩ ?_
  refine J.iconst C (-1) dX2_assumptionTable_0 (by decide) ?_
  refine J.istore_nL (i := 2) C dX2_assumptionTable_1 rfl (by decide) H (fun z1 H => ?_)
  refine J.aload_n (i := 0) C dX2_assumptionTable_2 rfl rfl ?_
  refine J.iload_n (i := 1) C dX2_assumptionTable_3 rfl rfl ?_
  refine J.callVI C (sp_X2_innermostOf hl _) rfl kMl_X2_82 mdX2_innermostOf ⟨(Nat.le_of_ble_eq_true rfl), (Nat.le_of_ble_eq_true rfl)⟩ dk_2 rfl rfl (Nat.le_of_ble_eq_true rfl) dX2_assumptionTable_4 ⟨(Nat.le_of_ble_eq_true rfl), (Nat.le_of_ble_eq_true rfl)⟩ ?_
  refine J.istore_nL (i := 3) C dX2_assumptionTable_7 rfl (by decide) H (fun z7 H => ?_)
  refine J.iconst C (0) dX2_assumptionTable_8 (by decide) ?_
  refine J.istoreL C dX2_assumptionTable_9 (by decide) H (fun z9 H => ?_)
  refine J.widen (k := 0) (n := 0) (Nat.le_of_ble_eq_true rfl) (Nat.le_of_ble_eq_true rfl) ?_
  refine J.lw (lv' := [(0, .ref (ad 2)), (2, .int z1), (3, .int z7), (4, .int z9)]) ⟨rfl, rfl, rfl, rfl, trivial⟩ ?_
  exact lp_X2_assumptionTable_11 hl C hr hx  FU _ _ _ _  H

