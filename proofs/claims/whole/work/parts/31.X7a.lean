/-! X7_thrown -/
abbrev mX7_thrown : MD := (yX7_thrown, cX7_thrown, 1, some .int)
theorem mdX7_thrown : MDv mX7_thrown RX7 0 := ⟨kIm_X7_thrown, kSe_X7_thrown, kIn_X7, kCo_X7_thrown, by decide +kernel⟩
def F_X7_thrown (σ : MS)  : Int32 := (σ.1 5)
set_option maxRecDepth 100000 in
theorem sp_X7_thrown {l : Launch} (hl : l.stackTraces = false) {g : Gy} {bd : Nat → Nat} {pre rst : va_W} {σ : MS}  : SpF l mX7_thrown 1 0 0 mI g [.ref (bd 0)] ((mkh g bd pre rst) σ) (F_X7_thrown σ ) ((mkh g bd pre rst) σ) := by
  generalize H : F_X7_thrown σ  = r0
  unfold F_X7_thrown at H
  refine Sp.of hl (by decide) (Nat.le_of_ble_eq_true rfl) (fun p e s m args below meth c A C hr hx => ?_)
  refine J.lw (lv' := [(0, .ref (bd 0))]) ⟨rfl, trivial⟩ ?_
  refine J.aload_n (i := 0) C dX7_thrown_0 rfl rfl ?_
  refine J.get C (pre.length + 0) 22 mk_0 rfl (by decide) kFl_X7_84 inB_X7 rfl dX7_thrown_1 ?_
  exact J.iretA C hr (Nat.le_refl _) (Nat.le_refl _) dX7_thrown_4 H

/-! X7_raises -/
abbrev mX7_raises : MD := (yX7_raises, cX7_raises, 2, some .int)
theorem mdX7_raises : MDv mX7_raises RX7 1 := ⟨kIm_X7_raises, kSe_X7_raises, kIn_X7, kCo_X7_raises, by decide +kernel⟩
def P_X7_raises (σ : MS) (a1 : Int32) : Res MS Int32 := (lt (tI σ 5 a1) fun s2 => (some (.inl (0 : Int32), s2)))
set_option maxRecDepth 100000 in
theorem sp_X7_raises {l : Launch} (hl : l.stackTraces = false) {g : Gy} {bd : Nat → Nat} {pre rst : va_W} {σ : MS} (a1 : Int32) : SpR l mX7_raises 1 0 0 mI g [.ref (bd 0), .int a1] (mkh g bd pre rst) σ (P_X7_raises σ a1) := by
  refine SpR.of hl (by decide) (Nat.le_of_ble_eq_true rfl) (fun rr H p e s m args below meth c A C hr hx => ?_)
  unfold P_X7_raises at H
  refine J.lw (lv' := [(0, .ref (bd 0)), (1, .int a1)]) ⟨rfl, rfl, trivial⟩ ?_
  refine J.aload_n (i := 0) C dX7_raises_0 rfl rfl ?_
  refine J.iload_n (i := 1) C dX7_raises_1 rfl rfl ?_
  refine J.putL (hp := (mkh g bd pre rst)) C (pre.length + 0) 22 mk_0 rfl (by decide) kFl_X7_84 inB_X7 tyX7 tyX7_ok nmX7 rfl rfl rfl rfl (Nat.le_of_ble_eq_true rfl) dX7_raises_2 (mkI_5 _) H (fun s2 H => ?_)
  refine J.iconst C (0) dX7_raises_5 (by decide) ?_
  exact J.iretL C hr (Nat.le_of_ble_eq_true rfl) (Nat.le_of_ble_eq_true rfl) dX7_raises_6 H

/-! X7_in -/
abbrev mX7_in : MD := (yX7_in, cX7_in, 3, some .boolean)
theorem mdX7_in : MDs mX7_in 3 := ⟨kSt_X7_in, kIn_X7, kCo_X7_in, by decide +kernel⟩
def F_X7_in (σ : MS) (a0 : Int32) (a1 : Int32) (a2 : Int32) : Int32 := (if a0 < a1 then (0 : Int32) else (if a2 < a0 then (0 : Int32) else (1 : Int32)))
set_option maxRecDepth 100000 in
theorem sp_X7_in {l : Launch} (hl : l.stackTraces = false) {g : Gy} {bd : Nat → Nat} {pre rst : va_W} {σ : MS} (a0 : Int32) (a1 : Int32) (a2 : Int32) : SpF l mX7_in 1 0 0 mI g [.int a0, .int a1, .int a2] ((mkh g bd pre rst) σ) (F_X7_in σ a0 a1 a2) ((mkh g bd pre rst) σ) := by
  generalize H : F_X7_in σ a0 a1 a2 = r0
  unfold F_X7_in at H
  refine Sp.of hl (by decide) (Nat.le_of_ble_eq_true rfl) (fun p e s m args below meth c A C hr hx => ?_)
  refine J.lw (lv' := [(0, .int a0), (1, .int a1), (2, .int a2)]) ⟨rfl, rfl, rfl, trivial⟩ ?_
  refine J.iload_n (i := 0) C dX7_in_0 rfl rfl ?_
  refine J.iload_n (i := 1) C dX7_in_1 rfl rfl ?_
  refine J.icmp_ltL (tgt := 14) C dX7_in_2 (by decide) H (fun c_2 H => ?_) (fun c_2 H => ?_)
  · refine J.iconst C (0) dX7_in_14 (by decide) ?_
    exact J.zretA C hr rfl (Nat.le_refl _) (Nat.le_refl _) dX7_in_15 H
  · refine J.iload_n (i := 0) C dX7_in_5 rfl rfl ?_
    refine J.iload_n (i := 2) C dX7_in_6 rfl rfl ?_
    refine J.icmp_gtL (tgt := 14) C dX7_in_7 (by decide) H (fun c_7 H => ?_) (fun c_7 H => ?_)
    · refine J.iconst C (0) dX7_in_14 (by decide) ?_
      exact J.zretA C hr rfl (Nat.le_refl _) (Nat.le_refl _) dX7_in_15 H
    · refine J.iconst C (1) dX7_in_10 (by decide) ?_
      refine J.goto (tgt := 15) C dX7_in_11 (by decide) ?_
      exact J.zretA C hr rfl (Nat.le_refl _) (Nat.le_refl _) dX7_in_15 H
theorem nr_X7_in (σ : MS) (a0 : Int32) (a1 : Int32) (a2 : Int32) : narrow .boolean (.int (F_X7_in σ a0 a1 a2)) = .int (F_X7_in σ a0 a1 a2) := by
  unfold F_X7_in
  try simp only [lt]
  repeat' split
  all_goals first | rfl | exact pk_nc _ | (first | rfl)

/-! X7_isFormula -/
abbrev mX7_isFormula : MD := (yX7_isFormula, cX7_isFormula, 2, some .boolean)
theorem mdX7_isFormula : MDv mX7_isFormula RX7 1 := ⟨kIm_X7_isFormula, kSe_X7_isFormula, kIn_X7, kCo_X7_isFormula, by decide +kernel⟩
def F_X7_isFormula (σ : MS) (a1 : Int32) : Int32 := (F_X7_in σ a1 (0 : Int32) ((σ.1 0) - (1 : Int32)))
set_option maxRecDepth 100000 in
theorem sp_X7_isFormula {l : Launch} (hl : l.stackTraces = false) {g : Gy} {bd : Nat → Nat} {pre rst : va_W} {σ : MS} (a1 : Int32) : SpF l mX7_isFormula 2 0 0 mI g [.ref (bd 0), .int a1] ((mkh g bd pre rst) σ) (F_X7_isFormula σ a1) ((mkh g bd pre rst) σ) := by
  generalize H : F_X7_isFormula σ a1 = r0
  unfold F_X7_isFormula at H
  refine Sp.of hl (by decide) (Nat.le_of_ble_eq_true rfl) (fun p e s m args below meth c A C hr hx => ?_)
  refine J.lw (lv' := [(0, .ref (bd 0)), (1, .int a1)]) ⟨rfl, rfl, trivial⟩ ?_
  refine J.iload_n (i := 1) C dX7_isFormula_0 rfl rfl ?_
  refine J.iconst C (0) dX7_isFormula_1 (by decide) ?_
  refine J.aload_n (i := 0) C dX7_isFormula_2 rfl rfl ?_
  refine J.get C (pre.length + 0) 5 mk_0 rfl (by decide) kFl_X7_87 inB_X7 rfl dX7_isFormula_3 ?_
  refine J.iconst C (1) dX7_isFormula_6 (by decide) ?_
  refine J.isub C dX7_isFormula_7 ?_
  refine J.callSI C (sp_X7_in hl _ _ _) rfl kMl_X7_90 mdX7_in ⟨(Nat.le_of_ble_eq_true rfl), (Nat.le_of_ble_eq_true rfl)⟩ rfl (Nat.le_of_ble_eq_true rfl) dX7_isFormula_8 ⟨(Nat.le_of_ble_eq_true rfl), (Nat.le_of_ble_eq_true rfl)⟩ ?_
  exact J.zretA C hr (nr_X7_in σ a1 (0 : Int32) ((σ.1 0) - (1 : Int32))) (Nat.le_refl _) (Nat.le_refl _) dX7_isFormula_11 H
theorem nr_X7_isFormula (σ : MS) (a1 : Int32) : narrow .boolean (.int (F_X7_isFormula σ a1)) = .int (F_X7_isFormula σ a1) := by
  unfold F_X7_isFormula
  try simp only [lt]
  repeat' split
  all_goals first | rfl | exact pk_nc _ | (first | exact nr_X7_in ..)

/-! X7_isLine -/
abbrev mX7_isLine : MD := (yX7_isLine, cX7_isLine, 2, some .boolean)
theorem mdX7_isLine : MDv mX7_isLine RX7 1 := ⟨kIm_X7_isLine, kSe_X7_isLine, kIn_X7, kCo_X7_isLine, by decide +kernel⟩
def F_X7_isLine (σ : MS) (a1 : Int32) : Int32 := (F_X7_in σ a1 (0 : Int32) ((σ.1 1) - (1 : Int32)))
set_option maxRecDepth 100000 in
theorem sp_X7_isLine {l : Launch} (hl : l.stackTraces = false) {g : Gy} {bd : Nat → Nat} {pre rst : va_W} {σ : MS} (a1 : Int32) : SpF l mX7_isLine 2 0 0 mI g [.ref (bd 0), .int a1] ((mkh g bd pre rst) σ) (F_X7_isLine σ a1) ((mkh g bd pre rst) σ) := by
  generalize H : F_X7_isLine σ a1 = r0
  unfold F_X7_isLine at H
  refine Sp.of hl (by decide) (Nat.le_of_ble_eq_true rfl) (fun p e s m args below meth c A C hr hx => ?_)
  refine J.lw (lv' := [(0, .ref (bd 0)), (1, .int a1)]) ⟨rfl, rfl, trivial⟩ ?_
  refine J.iload_n (i := 1) C dX7_isLine_0 rfl rfl ?_
  refine J.iconst C (0) dX7_isLine_1 (by decide) ?_
  refine J.aload_n (i := 0) C dX7_isLine_2 rfl rfl ?_
  refine J.get C (pre.length + 0) 11 mk_0 rfl (by decide) kFl_X7_94 inB_X7 rfl dX7_isLine_3 ?_
  refine J.iconst C (1) dX7_isLine_6 (by decide) ?_
  refine J.isub C dX7_isLine_7 ?_
  refine J.callSI C (sp_X7_in hl _ _ _) rfl kMl_X7_90 mdX7_in ⟨(Nat.le_of_ble_eq_true rfl), (Nat.le_of_ble_eq_true rfl)⟩ rfl (Nat.le_of_ble_eq_true rfl) dX7_isLine_8 ⟨(Nat.le_of_ble_eq_true rfl), (Nat.le_of_ble_eq_true rfl)⟩ ?_
  exact J.zretA C hr (nr_X7_in σ a1 (0 : Int32) ((σ.1 1) - (1 : Int32))) (Nat.le_refl _) (Nat.le_refl _) dX7_isLine_11 H
theorem nr_X7_isLine (σ : MS) (a1 : Int32) : narrow .boolean (.int (F_X7_isLine σ a1)) = .int (F_X7_isLine σ a1) := by
  unfold F_X7_isLine
  try simp only [lt]
  repeat' split
  all_goals first | rfl | exact pk_nc _ | (first | exact nr_X7_in ..)

/-! X7_isBox -/
abbrev mX7_isBox : MD := (yX7_isBox, cX7_isBox, 2, some .boolean)
theorem mdX7_isBox : MDv mX7_isBox RX7 1 := ⟨kIm_X7_isBox, kSe_X7_isBox, kIn_X7, kCo_X7_isBox, by decide +kernel⟩
def F_X7_isBox (σ : MS) (a1 : Int32) : Int32 := (F_X7_in σ a1 (0 : Int32) ((σ.1 2) - (1 : Int32)))
set_option maxRecDepth 100000 in
theorem sp_X7_isBox {l : Launch} (hl : l.stackTraces = false) {g : Gy} {bd : Nat → Nat} {pre rst : va_W} {σ : MS} (a1 : Int32) : SpF l mX7_isBox 2 0 0 mI g [.ref (bd 0), .int a1] ((mkh g bd pre rst) σ) (F_X7_isBox σ a1) ((mkh g bd pre rst) σ) := by
  generalize H : F_X7_isBox σ a1 = r0
  unfold F_X7_isBox at H
  refine Sp.of hl (by decide) (Nat.le_of_ble_eq_true rfl) (fun p e s m args below meth c A C hr hx => ?_)
  refine J.lw (lv' := [(0, .ref (bd 0)), (1, .int a1)]) ⟨rfl, rfl, trivial⟩ ?_
  refine J.iload_n (i := 1) C dX7_isBox_0 rfl rfl ?_
  refine J.iconst C (0) dX7_isBox_1 (by decide) ?_
  refine J.aload_n (i := 0) C dX7_isBox_2 rfl rfl ?_
  refine J.get C (pre.length + 0) 16 mk_0 rfl (by decide) kFl_X7_97 inB_X7 rfl dX7_isBox_3 ?_
  refine J.iconst C (1) dX7_isBox_6 (by decide) ?_
  refine J.isub C dX7_isBox_7 ?_
  refine J.callSI C (sp_X7_in hl _ _ _) rfl kMl_X7_90 mdX7_in ⟨(Nat.le_of_ble_eq_true rfl), (Nat.le_of_ble_eq_true rfl)⟩ rfl (Nat.le_of_ble_eq_true rfl) dX7_isBox_8 ⟨(Nat.le_of_ble_eq_true rfl), (Nat.le_of_ble_eq_true rfl)⟩ ?_
  exact J.zretA C hr (nr_X7_in σ a1 (0 : Int32) ((σ.1 2) - (1 : Int32))) (Nat.le_refl _) (Nat.le_refl _) dX7_isBox_11 H
theorem nr_X7_isBox (σ : MS) (a1 : Int32) : narrow .boolean (.int (F_X7_isBox σ a1)) = .int (F_X7_isBox σ a1) := by
  unfold F_X7_isBox
  try simp only [lt]
  repeat' split
  all_goals first | rfl | exact pk_nc _ | (first | exact nr_X7_in ..)

/-! X7_letterTable -/
def B_X7_letterTable_4 (k_4 : MS → Int32 → Int32 → Int32 → Res MS Int32) (σ : MS) (l0 : Int32) (l1 : Int32) (l2 : Int32) : Res MS Int32 := (if (32 : Int32) ≤ l2 then (some (.inl l1, σ)) else (lt (l1 ||| (((l2 >>> (l0 &&& 31)) &&& (1 : Int32)) <<< (l2 &&& 31))) fun z19 => (lt (l2 + (1 : Int32)) fun z20 => (k_4 σ l0 z19 z20))))
set_option maxRecDepth 100000 in
theorem bl_X7_letterTable_4 {l : Launch} (hl : l.stackTraces = false) {g : Gy} {bd : Nat → Nat} {pre rst : va_W} {p : Program} {e : Env} {s : State} {m : MethodId} {args : Array Value} {below : List Frame} {meth : Method} {c : Code} {A : Nat → Prop} (C : Cx p l s m args meth c g A yX7_letterTable.cls cX7_letterTable 3) (hr : meth.sig.returnType = some .int) (hx : ∀ x ∈ c.exceptionTable.toList, False) {rr : (Int32 ⊕ String) × MS} (k_4 : MS → Int32 → Int32 → Int32 → Res MS Int32) (hk_4 : ∀ (σ : MS) (l0 : Int32) (l1 : Int32) (l2 : Int32), k_4 σ l0 l1 l2 = some rr → J p l e (rmOf 1 0 0) s m args below meth c g A 3 0 0 (QR mI g A (mkh g bd pre rst) rr below args s 0 0) 4 [(0, .int l0), (1, .int l1), (2, .int l2)] [] ((mkh g bd pre rst) σ)) (σ : MS) (l0 : Int32) (l1 : Int32) (l2 : Int32) (H : B_X7_letterTable_4 k_4 σ l0 l1 l2 = some rr) : J p l e (rmOf 1 0 0) s m args below meth c g A 3 0 0 (QR mI g A (mkh g bd pre rst) rr below args s 0 0) 4 [(0, .int l0), (1, .int l1), (2, .int l2)] [] ((mkh g bd pre rst) σ) := by
  unfold B_X7_letterTable_4 at H
  refine J.iload_n (i := 2) C dX7_letterTable_4 rfl rfl ?_
  refine J.bipush C (32) dX7_letterTable_5 (by decide) ?_
  refine J.icmp_geL (tgt := 26) C dX7_letterTable_7 (by decide) H (fun c_7 H => ?_) (fun c_7 H => ?_)
  · refine J.iload_n (i := 1) C dX7_letterTable_26 rfl rfl ?_
    exact J.iretL C hr (Nat.le_of_ble_eq_true rfl) (Nat.le_of_ble_eq_true rfl) dX7_letterTable_27 H
  · refine J.iload_n (i := 1) C dX7_letterTable_10 rfl rfl ?_
    refine J.iload_n (i := 2) C dX7_letterTable_11 rfl rfl ?_
    refine J.iload_n (i := 0) C dX7_letterTable_12 rfl rfl ?_
    refine J.ishr C dX7_letterTable_13 ?_
    refine J.iconst C (1) dX7_letterTable_14 (by decide) ?_
    refine J.iand C dX7_letterTable_15 ?_
    refine J.iload_n (i := 2) C dX7_letterTable_16 rfl rfl ?_
    refine J.ishl C dX7_letterTable_17 ?_
    refine J.ior C dX7_letterTable_18 ?_
    refine J.istore_nL (i := 1) C dX7_letterTable_19 rfl (by decide) H (fun z19 H => ?_)
    refine J.iincL C (l2 + (1 : Int32)) dX7_letterTable_20 rfl rfl (by decide) H (fun z20 H => ?_)
    refine J.goto (tgt := 4) C dX7_letterTable_23 (by decide) ?_
    refine J.widen (k := 0) (n := 0) (Nat.le_of_ble_eq_true rfl) (Nat.le_of_ble_eq_true rfl) ?_
    refine J.lw (lv' := [(0, .int l0), (1, .int z19), (2, .int z20)]) ⟨rfl, rfl, rfl, trivial⟩ ?_
    exact hk_4 _ _ _ _  H
def L_X7_letterTable_4 : Nat → MS → Int32 → Int32 → Int32 → Res MS Int32
  | 0, _, _, _, _ => none
  | n + 1, σ, l0, l1, l2 => B_X7_letterTable_4 (L_X7_letterTable_4 n) σ l0 l1 l2
set_option maxRecDepth 100000 in
theorem lp_X7_letterTable_4 {l : Launch} (hl : l.stackTraces = false) {g : Gy} {bd : Nat → Nat} {pre rst : va_W} {p : Program} {e : Env} {s : State} {m : MethodId} {args : Array Value} {below : List Frame} {meth : Method} {c : Code} {A : Nat → Prop} (C : Cx p l s m args meth c g A yX7_letterTable.cls cX7_letterTable 3) (hr : meth.sig.returnType = some .int) (hx : ∀ x ∈ c.exceptionTable.toList, False) {rr : (Int32 ⊕ String) × MS} : ∀ (n : Nat) (σ : MS) (l0 : Int32) (l1 : Int32) (l2 : Int32), L_X7_letterTable_4 n σ l0 l1 l2 = some rr → J p l e (rmOf 1 0 0) s m args below meth c g A 3 0 0 (QR mI g A (mkh g bd pre rst) rr below args s 0 0) 4 [(0, .int l0), (1, .int l1), (2, .int l2)] [] ((mkh g bd pre rst) σ) := by
  intro n
  induction n with
  | zero => intro σ l0 l1 l2 H; cases H
  | succ n ih => intro σ l0 l1 l2 H; exact bl_X7_letterTable_4 hl C hr hx _ ih _ _ _ _ H
abbrev mX7_letterTable : MD := (yX7_letterTable, cX7_letterTable, 3, some .int)
theorem mdX7_letterTable : MDs mX7_letterTable 1 := ⟨kSt_X7_letterTable, kIn_X7, kCo_X7_letterTable, by decide +kernel⟩
def P_X7_letterTable (σ : MS) (a0 : Int32) : Res MS Int32 := (lt (0 : Int32) fun z1 => (lt (0 : Int32) fun z3 => (L_X7_letterTable_4 FU σ a0 z1 z3)))
set_option maxRecDepth 100000 in
theorem sp_X7_letterTable {l : Launch} (hl : l.stackTraces = false) {g : Gy} {bd : Nat → Nat} {pre rst : va_W} {σ : MS} (a0 : Int32) : SpR l mX7_letterTable 1 0 0 mI g [.int a0] (mkh g bd pre rst) σ (P_X7_letterTable σ a0) := by
  refine SpR.of hl (by decide) (Nat.le_of_ble_eq_true rfl) (fun rr H p e s m args below meth c A C hr hx => ?_)
  unfold P_X7_letterTable at H
  refine J.lw (lv' := [(0, .int a0)]) ⟨rfl, trivial⟩ ?_
  refine J.iconst C (0) dX7_letterTable_0 (by decide) ?_
  refine J.istore_nL (i := 1) C dX7_letterTable_1 rfl (by decide) H (fun z1 H => ?_)
  refine J.iconst C (0) dX7_letterTable_2 (by decide) ?_
  refine J.istore_nL (i := 2) C dX7_letterTable_3 rfl (by decide) H (fun z3 H => ?_)
  refine J.widen (k := 0) (n := 0) (Nat.le_of_ble_eq_true rfl) (Nat.le_of_ble_eq_true rfl) ?_
  refine J.lw (lv' := [(0, .int a0), (1, .int z1), (2, .int z3)]) ⟨rfl, rfl, rfl, trivial⟩ ?_
  exact lp_X7_letterTable_4 hl C hr hx  FU _ _ _ _  H

/-! X7_truth -/
abbrev mX7_truth : MD := (yX7_truth, cX7_truth, 4, some .int)
theorem mdX7_truth : MDv mX7_truth RX7 3 := ⟨kIm_X7_truth, kSe_X7_truth, kIn_X7, kCo_X7_truth, by decide +kernel⟩
def P_X7_truth (σ : MS) (a1 : Int32) (a2 : Int32) (a3 : Int32) : Res MS Int32 := (if a1 = (65 : Int32) then (gd a2 150 (gd a3 150 (some (.inl ((σ.2.1 4 a2.toNatClampNeg) ||| (σ.2.1 4 a3.toNatClampNeg)), σ)))) else (if a1 = (67 : Int32) then (gd a2 150 (gd a3 150 (some (.inl (((σ.2.1 4 a2.toNatClampNeg) ^^^ (-1 : Int32)) ||| (σ.2.1 4 a3.toNatClampNeg)), σ)))) else (if a1 = (70 : Int32) then (some (.inl (0 : Int32), σ)) else (if a1 = (75 : Int32) then (gd a2 150 (gd a3 150 (some (.inl ((σ.2.1 4 a2.toNatClampNeg) &&& (σ.2.1 4 a3.toNatClampNeg)), σ)))) else (if a1 = (78 : Int32) then (gd a2 150 (some (.inl ((σ.2.1 4 a2.toNatClampNeg) ^^^ (-1 : Int32)), σ))) else (bd (P_X7_letterTable σ (a1 - (97 : Int32))) fun r131 s131 => (some (.inl r131, s131))))))))
set_option maxRecDepth 100000 in
theorem sp_X7_truth {l : Launch} (hl : l.stackTraces = false) {g : Gy} {bd : Nat → Nat} {pre rst : va_W} {σ : MS} (a1 : Int32) (a2 : Int32) (a3 : Int32) : SpR l mX7_truth 2 0 0 mI g [.ref (bd 0), .int a1, .int a2, .int a3] (mkh g bd pre rst) σ (P_X7_truth σ a1 a2 a3) := by
  refine SpR.of hl (by decide) (Nat.le_of_ble_eq_true rfl) (fun rr H p e s m args below meth c A C hr hx => ?_)
  unfold P_X7_truth at H
  refine J.lw (lv' := [(0, .ref (bd 0)), (1, .int a1), (2, .int a2), (3, .int a3)]) ⟨rfl, rfl, rfl, rfl, trivial⟩ ?_
  refine J.iload_n (i := 1) C dX7_truth_0 rfl rfl ?_
  by_cases sw_65 : a1 = (65 : Int32)
  · rw [if_pos sw_65] at H
    refine J.tabV (off := 96) (tgt := 97) C (65 : Int32) sw_65 dX7_truth_1 (by decide) ?_
    refine J.aload_n (i := 0) C dX7_truth_97 rfl rfl ?_
    refine J.get C (pre.length + 0) 4 mk_0 rfl (by decide) kFl_X7_23 inB_X7 rfl dX7_truth_98 ?_
    refine J.iload_n (i := 2) C dX7_truth_101 rfl rfl ?_
    refine J.ialdL C (pre.length + 5) mk_5 dX7_truth_102 H (fun H => ?_)
    refine J.aload_n (i := 0) C dX7_truth_103 rfl rfl ?_
    refine J.get C (pre.length + 0) 4 mk_0 rfl (by decide) kFl_X7_23 inB_X7 rfl dX7_truth_104 ?_
    refine J.iload_n (i := 3) C dX7_truth_107 rfl rfl ?_
    refine J.ialdL C (pre.length + 5) mk_5 dX7_truth_108 H (fun H => ?_)
    refine J.ior C dX7_truth_109 ?_
    exact J.iretL C hr (Nat.le_of_ble_eq_true rfl) (Nat.le_of_ble_eq_true rfl) dX7_truth_110 H
  rw [if_neg sw_65] at H
  by_cases sw_67 : a1 = (67 : Int32)
  · rw [if_pos sw_67] at H
    refine J.tabV (off := 110) (tgt := 111) C (67 : Int32) sw_67 dX7_truth_1 (by decide) ?_
    refine J.aload_n (i := 0) C dX7_truth_111 rfl rfl ?_
    refine J.get C (pre.length + 0) 4 mk_0 rfl (by decide) kFl_X7_23 inB_X7 rfl dX7_truth_112 ?_
    refine J.iload_n (i := 2) C dX7_truth_115 rfl rfl ?_
    refine J.ialdL C (pre.length + 5) mk_5 dX7_truth_116 H (fun H => ?_)
    refine J.iconst C (-1) dX7_truth_117 (by decide) ?_
    refine J.ixor C dX7_truth_118 ?_
    refine J.aload_n (i := 0) C dX7_truth_119 rfl rfl ?_
    refine J.get C (pre.length + 0) 4 mk_0 rfl (by decide) kFl_X7_23 inB_X7 rfl dX7_truth_120 ?_
    refine J.iload_n (i := 3) C dX7_truth_123 rfl rfl ?_
    refine J.ialdL C (pre.length + 5) mk_5 dX7_truth_124 H (fun H => ?_)
    refine J.ior C dX7_truth_125 ?_
    exact J.iretL C hr (Nat.le_of_ble_eq_true rfl) (Nat.le_of_ble_eq_true rfl) dX7_truth_126 H
  rw [if_neg sw_67] at H
  by_cases sw_70 : a1 = (70 : Int32)
  · rw [if_pos sw_70] at H
    refine J.tabV (off := 71) (tgt := 72) C (70 : Int32) sw_70 dX7_truth_1 (by decide) ?_
    refine J.iconst C (0) dX7_truth_72 (by decide) ?_
    exact J.iretL C hr (Nat.le_of_ble_eq_true rfl) (Nat.le_of_ble_eq_true rfl) dX7_truth_73 H
  rw [if_neg sw_70] at H
  by_cases sw_75 : a1 = (75 : Int32)
  · rw [if_pos sw_75] at H
    refine J.tabV (off := 82) (tgt := 83) C (75 : Int32) sw_75 dX7_truth_1 (by decide) ?_
    refine J.aload_n (i := 0) C dX7_truth_83 rfl rfl ?_
    refine J.get C (pre.length + 0) 4 mk_0 rfl (by decide) kFl_X7_23 inB_X7 rfl dX7_truth_84 ?_
    refine J.iload_n (i := 2) C dX7_truth_87 rfl rfl ?_
    refine J.ialdL C (pre.length + 5) mk_5 dX7_truth_88 H (fun H => ?_)
    refine J.aload_n (i := 0) C dX7_truth_89 rfl rfl ?_
    refine J.get C (pre.length + 0) 4 mk_0 rfl (by decide) kFl_X7_23 inB_X7 rfl dX7_truth_90 ?_
    refine J.iload_n (i := 3) C dX7_truth_93 rfl rfl ?_
    refine J.ialdL C (pre.length + 5) mk_5 dX7_truth_94 H (fun H => ?_)
    refine J.iand C dX7_truth_95 ?_
    exact J.iretL C hr (Nat.le_of_ble_eq_true rfl) (Nat.le_of_ble_eq_true rfl) dX7_truth_96 H
  rw [if_neg sw_75] at H
  by_cases sw_78 : a1 = (78 : Int32)
  · rw [if_pos sw_78] at H
    refine J.tabV (off := 73) (tgt := 74) C (78 : Int32) sw_78 dX7_truth_1 (by decide) ?_
    refine J.aload_n (i := 0) C dX7_truth_74 rfl rfl ?_
    refine J.get C (pre.length + 0) 4 mk_0 rfl (by decide) kFl_X7_23 inB_X7 rfl dX7_truth_75 ?_
    refine J.iload_n (i := 2) C dX7_truth_78 rfl rfl ?_
    refine J.ialdL C (pre.length + 5) mk_5 dX7_truth_79 H (fun H => ?_)
    refine J.iconst C (-1) dX7_truth_80 (by decide) ?_
    refine J.ixor C dX7_truth_81 ?_
    exact J.iretL C hr (Nat.le_of_ble_eq_true rfl) (Nat.le_of_ble_eq_true rfl) dX7_truth_82 H
  rw [if_neg sw_78] at H
  refine J.tabD (tgt := 127) C [65, 67, 70, 75, 78] 14 (by intro v hv; simp only [List.mem_cons, List.not_mem_nil, or_false] at hv; rcases hv with rfl | rfl | rfl | rfl | rfl <;> assumption) dX7_truth_1 (by decide) (by decide) (by decide) ?_
  refine J.iload_n (i := 1) C dX7_truth_127 rfl rfl ?_
  refine J.bipush C (97) dX7_truth_128 (by decide) ?_
  refine J.isub C dX7_truth_130 ?_
  refine J.callSBI (hp := (mkh g bd pre rst)) C rfl (sp_X7_letterTable hl _) rfl kMl_X7_100 mdX7_letterTable ⟨(Nat.le_of_ble_eq_true rfl), (Nat.le_of_ble_eq_true rfl)⟩ rfl (Nat.le_of_ble_eq_true rfl) dX7_truth_131 ⟨(Nat.le_of_ble_eq_true rfl), (Nat.le_of_ble_eq_true rfl)⟩ hx (Nat.le_of_ble_eq_true rfl) (Nat.le_of_ble_eq_true rfl) H (fun r131 s131 H => ?_)
  exact J.iretL C hr (Nat.le_of_ble_eq_true rfl) (Nat.le_of_ble_eq_true rfl) dX7_truth_134 H

/-! X7_known -/
def B_X7_known_3 (k_3 : MS → Int32 → Int32 → Int32 → Int32 → Res MS Int32) (σ : MS) (l1 : Int32) (l2 : Int32) (l3 : Int32) (l4 : Int32) : Res MS Int32 := (if (σ.1 0) ≤ l4 then (some (.inl (-1 : Int32), σ)) else (gd l4 150 (if (σ.2.1 0 l4.toNatClampNeg) = l1 then (gd l4 150 (if (σ.2.1 1 l4.toNatClampNeg) = l2 then (gd l4 150 (if (σ.2.1 2 l4.toNatClampNeg) = l3 then (some (.inl l4, σ)) else (lt (l4 + (1 : Int32)) fun z48 => (k_3 σ l1 l2 l3 z48)))) else (lt (l4 + (1 : Int32)) fun z48 => (k_3 σ l1 l2 l3 z48)))) else (lt (l4 + (1 : Int32)) fun z48 => (k_3 σ l1 l2 l3 z48)))))
set_option maxRecDepth 100000 in
theorem bl_X7_known_3 {l : Launch} (hl : l.stackTraces = false) {g : Gy} {bd : Nat → Nat} {pre rst : va_W} {p : Program} {e : Env} {s : State} {m : MethodId} {args : Array Value} {below : List Frame} {meth : Method} {c : Code} {A : Nat → Prop} (C : Cx p l s m args meth c g A yX7_known.cls cX7_known 5) (hr : meth.sig.returnType = some .int) (hx : ∀ x ∈ c.exceptionTable.toList, False) {rr : (Int32 ⊕ String) × MS} (k_3 : MS → Int32 → Int32 → Int32 → Int32 → Res MS Int32) (hk_3 : ∀ (σ : MS) (l1 : Int32) (l2 : Int32) (l3 : Int32) (l4 : Int32), k_3 σ l1 l2 l3 l4 = some rr → J p l e (rmOf 1 0 0) s m args below meth c g A 5 0 0 (QR mI g A (mkh g bd pre rst) rr below args s 0 0) 3 [(0, .ref (bd 0)), (1, .int l1), (2, .int l2), (3, .int l3), (4, .int l4)] [] ((mkh g bd pre rst) σ)) (σ : MS) (l1 : Int32) (l2 : Int32) (l3 : Int32) (l4 : Int32) (H : B_X7_known_3 k_3 σ l1 l2 l3 l4 = some rr) : J p l e (rmOf 1 0 0) s m args below meth c g A 5 0 0 (QR mI g A (mkh g bd pre rst) rr below args s 0 0) 3 [(0, .ref (bd 0)), (1, .int l1), (2, .int l2), (3, .int l3), (4, .int l4)] [] ((mkh g bd pre rst) σ) := by
  unfold B_X7_known_3 at H
  refine J.iload C dX7_known_3 rfl ?_
  refine J.aload_n (i := 0) C dX7_known_5 rfl rfl ?_
  refine J.get C (pre.length + 0) 5 mk_0 rfl (by decide) kFl_X7_87 inB_X7 rfl dX7_known_6 ?_
  refine J.icmp_geL (tgt := 54) C dX7_known_9 (by decide) H (fun c_9 H => ?_) (fun c_9 H => ?_)
  · refine J.iconst C (-1) dX7_known_54 (by decide) ?_
    exact J.iretL C hr (Nat.le_of_ble_eq_true rfl) (Nat.le_of_ble_eq_true rfl) dX7_known_55 H
  · refine J.aload_n (i := 0) C dX7_known_12 rfl rfl ?_
    refine J.get C (pre.length + 0) 0 mk_0 rfl (by decide) kFl_X7_9 inB_X7 rfl dX7_known_13 ?_
    refine J.iload C dX7_known_16 rfl ?_
    refine J.caldL C (pre.length + 1) mk_1 dX7_known_18 H (fun H => ?_)
    refine J.iload_n (i := 1) C dX7_known_19 rfl rfl ?_
    refine J.icmp_neL (tgt := 48) C dX7_known_20 (by decide) H (fun c_20 H => ?_) (fun c_20 H => ?_)
    · refine J.iincL C (l4 + (1 : Int32)) dX7_known_48 rfl rfl (by decide) H (fun z48 H => ?_)
      refine J.goto (tgt := 3) C dX7_known_51 (by decide) ?_
      refine J.widen (k := 0) (n := 0) (Nat.le_of_ble_eq_true rfl) (Nat.le_of_ble_eq_true rfl) ?_
      refine J.lw (lv' := [(0, .ref (bd 0)), (1, .int l1), (2, .int l2), (3, .int l3), (4, .int z48)]) ⟨rfl, rfl, rfl, rfl, rfl, trivial⟩ ?_
      exact hk_3 _ _ _ _ _  H
    · refine J.aload_n (i := 0) C dX7_known_23 rfl rfl ?_
      refine J.get C (pre.length + 0) 1 mk_0 rfl (by decide) kFl_X7_13 inB_X7 rfl dX7_known_24 ?_
      refine J.iload C dX7_known_27 rfl ?_
      refine J.ialdL C (pre.length + 2) mk_2 dX7_known_29 H (fun H => ?_)
      refine J.iload_n (i := 2) C dX7_known_30 rfl rfl ?_
      refine J.icmp_neL (tgt := 48) C dX7_known_31 (by decide) H (fun c_31 H => ?_) (fun c_31 H => ?_)
      · refine J.iincL C (l4 + (1 : Int32)) dX7_known_48 rfl rfl (by decide) H (fun z48 H => ?_)
        refine J.goto (tgt := 3) C dX7_known_51 (by decide) ?_
        refine J.widen (k := 0) (n := 0) (Nat.le_of_ble_eq_true rfl) (Nat.le_of_ble_eq_true rfl) ?_
        refine J.lw (lv' := [(0, .ref (bd 0)), (1, .int l1), (2, .int l2), (3, .int l3), (4, .int z48)]) ⟨rfl, rfl, rfl, rfl, rfl, trivial⟩ ?_
        exact hk_3 _ _ _ _ _  H
      · refine J.aload_n (i := 0) C dX7_known_34 rfl rfl ?_
        refine J.get C (pre.length + 0) 2 mk_0 rfl (by decide) kFl_X7_17 inB_X7 rfl dX7_known_35 ?_
        refine J.iload C dX7_known_38 rfl ?_
        refine J.ialdL C (pre.length + 3) mk_3 dX7_known_40 H (fun H => ?_)
        refine J.iload_n (i := 3) C dX7_known_41 rfl rfl ?_
        refine J.icmp_neL (tgt := 48) C dX7_known_42 (by decide) H (fun c_42 H => ?_) (fun c_42 H => ?_)
        · refine J.iincL C (l4 + (1 : Int32)) dX7_known_48 rfl rfl (by decide) H (fun z48 H => ?_)
          refine J.goto (tgt := 3) C dX7_known_51 (by decide) ?_
          refine J.widen (k := 0) (n := 0) (Nat.le_of_ble_eq_true rfl) (Nat.le_of_ble_eq_true rfl) ?_
          refine J.lw (lv' := [(0, .ref (bd 0)), (1, .int l1), (2, .int l2), (3, .int l3), (4, .int z48)]) ⟨rfl, rfl, rfl, rfl, rfl, trivial⟩ ?_
          exact hk_3 _ _ _ _ _  H
        · refine J.iload C dX7_known_45 rfl ?_
          exact J.iretL C hr (Nat.le_of_ble_eq_true rfl) (Nat.le_of_ble_eq_true rfl) dX7_known_47 H
def L_X7_known_3 : Nat → MS → Int32 → Int32 → Int32 → Int32 → Res MS Int32
  | 0, _, _, _, _, _ => none
  | n + 1, σ, l1, l2, l3, l4 => B_X7_known_3 (L_X7_known_3 n) σ l1 l2 l3 l4
set_option maxRecDepth 100000 in
theorem lp_X7_known_3 {l : Launch} (hl : l.stackTraces = false) {g : Gy} {bd : Nat → Nat} {pre rst : va_W} {p : Program} {e : Env} {s : State} {m : MethodId} {args : Array Value} {below : List Frame} {meth : Method} {c : Code} {A : Nat → Prop} (C : Cx p l s m args meth c g A yX7_known.cls cX7_known 5) (hr : meth.sig.returnType = some .int) (hx : ∀ x ∈ c.exceptionTable.toList, False) {rr : (Int32 ⊕ String) × MS} : ∀ (n : Nat) (σ : MS) (l1 : Int32) (l2 : Int32) (l3 : Int32) (l4 : Int32), L_X7_known_3 n σ l1 l2 l3 l4 = some rr → J p l e (rmOf 1 0 0) s m args below meth c g A 5 0 0 (QR mI g A (mkh g bd pre rst) rr below args s 0 0) 3 [(0, .ref (bd 0)), (1, .int l1), (2, .int l2), (3, .int l3), (4, .int l4)] [] ((mkh g bd pre rst) σ) := by
  intro n
  induction n with
  | zero => intro σ l1 l2 l3 l4 H; cases H
  | succ n ih => intro σ l1 l2 l3 l4 H; exact bl_X7_known_3 hl C hr hx _ ih _ _ _ _ _ H
abbrev mX7_known : MD := (yX7_known, cX7_known, 5, some .int)
theorem mdX7_known : MDv mX7_known RX7 3 := ⟨kIm_X7_known, kSe_X7_known, kIn_X7, kCo_X7_known, by decide +kernel⟩
def P_X7_known (σ : MS) (a1 : Int32) (a2 : Int32) (a3 : Int32) : Res MS Int32 := (lt (0 : Int32) fun z1 => (L_X7_known_3 FU σ a1 a2 a3 z1))
set_option maxRecDepth 100000 in
theorem sp_X7_known {l : Launch} (hl : l.stackTraces = false) {g : Gy} {bd : Nat → Nat} {pre rst : va_W} {σ : MS} (a1 : Int32) (a2 : Int32) (a3 : Int32) : SpR l mX7_known 1 0 0 mI g [.ref (bd 0), .int a1, .int a2, .int a3] (mkh g bd pre rst) σ (P_X7_known σ a1 a2 a3) := by
  refine SpR.of hl (by decide) (Nat.le_of_ble_eq_true rfl) (fun rr H p e s m args below meth c A C hr hx => ?_)
  unfold P_X7_known at H
  refine J.lw (lv' := [(0, .ref (bd 0)), (1, .int a1), (2, .int a2), (3, .int a3)]) ⟨rfl, rfl, rfl, rfl, trivial⟩ ?_
  refine J.iconst C (0) dX7_known_0 (by decide) ?_
  refine J.istoreL C dX7_known_1 (by decide) H (fun z1 H => ?_)
  refine J.widen (k := 0) (n := 0) (Nat.le_of_ble_eq_true rfl) (Nat.le_of_ble_eq_true rfl) ?_
  refine J.lw (lv' := [(0, .ref (bd 0)), (1, .int a1), (2, .int a2), (3, .int a3), (4, .int z1)]) ⟨rfl, rfl, rfl, rfl, rfl, trivial⟩ ?_
  exact lp_X7_known_3 hl C hr hx  FU _ _ _ _ _  H

/-! X7_made -/
def B_X7_made_69 (σ : MS) (l1 : Int32) (l2 : Int32) (l3 : Int32) (l4 : Int32) (l5 : Int32) : Res MS Int32 := (if l5 = (-1 : Int32) then (lt (σ.1 0) fun z79 => (gd z79 150 (lt (tA σ 0 (upd (σ.2.1 0) z79.toNatClampNeg (vp_nar .char l1))) fun s88 => (gd z79 150 (lt (tA s88 1 (upd (s88.2.1 1) z79.toNatClampNeg l2)) fun s96 => (gd z79 150 (lt (tA s96 2 (upd (s96.2.1 2) z79.toNatClampNeg l3)) fun s104 => (gd z79 150 (lt (tA s104 3 (upd (s104.2.1 3) z79.toNatClampNeg l4)) fun s113 => (bd (P_X7_truth s113 l1 l2 l3) fun r124 s124 => (gd z79 150 (lt (tA s124 4 (upd (s124.2.1 4) z79.toNatClampNeg r124)) fun s127 => (lt (tI s127 0 ((s127.1 0) + (1 : Int32))) fun s135 => (some (.inl z79, s135))))))))))))))) else (some (.inl l5, σ)))
set_option maxRecDepth 100000 in
theorem bl_X7_made_69 {l : Launch} (hl : l.stackTraces = false) {g : Gy} {bd : Nat → Nat} {pre rst : va_W} {p : Program} {e : Env} {s : State} {m : MethodId} {args : Array Value} {below : List Frame} {meth : Method} {c : Code} {A : Nat → Prop} (C : Cx p l s m args meth c g A yX7_made.cls cX7_made 6) (hr : meth.sig.returnType = some .int) (hx : ∀ x ∈ c.exceptionTable.toList, False) {rr : (Int32 ⊕ String) × MS} (σ : MS) (l1 : Int32) (l2 : Int32) (l3 : Int32) (l4 : Int32) (l5 : Int32) (H : B_X7_made_69 σ l1 l2 l3 l4 l5 = some rr) : J p l e (rmOf 3 0 0) s m args below meth c g A 6 0 0 (QR mI g A (mkh g bd pre rst) rr below args s 0 0) 69 [(0, .ref (bd 0)), (1, .int l1), (2, .int l2), (3, .int l3), (4, .int l4), (5, .int l5)] [] ((mkh g bd pre rst) σ) := by
  unfold B_X7_made_69 at H
  refine J.iload C dX7_made_69 rfl ?_
  refine J.iconst C (-1) dX7_made_71 (by decide) ?_
  refine J.icmp_neL (tgt := 138) C dX7_made_72 (by decide) H (fun c_72 H => ?_) (fun c_72 H => ?_)
  · refine J.iload C dX7_made_138 rfl ?_
    exact J.iretL C hr (Nat.le_of_ble_eq_true rfl) (Nat.le_of_ble_eq_true rfl) dX7_made_140 H
  · refine J.aload_n (i := 0) C dX7_made_75 rfl rfl ?_
    refine J.get C (pre.length + 0) 5 mk_0 rfl (by decide) kFl_X7_87 inB_X7 rfl dX7_made_76 ?_
    refine J.istoreL C dX7_made_79 (by decide) H (fun z79 H => ?_)
    refine J.aload_n (i := 0) C dX7_made_81 rfl rfl ?_
    refine J.get C (pre.length + 0) 0 mk_0 rfl (by decide) kFl_X7_9 inB_X7 rfl dX7_made_82 ?_
    refine J.iload C dX7_made_85 rfl ?_
    refine J.iload_n (i := 1) C dX7_made_87 rfl rfl ?_
    refine J.castL (hp := (mkh g bd pre rst)) C (pre.length + 1) mk_1 dX7_made_88 (mkA_0 _) H (fun s88 H => ?_)
    refine J.aload_n (i := 0) C dX7_made_89 rfl rfl ?_
    refine J.get C (pre.length + 0) 1 mk_0 rfl (by decide) kFl_X7_13 inB_X7 rfl dX7_made_90 ?_
    refine J.iload C dX7_made_93 rfl ?_
    refine J.iload_n (i := 2) C dX7_made_95 rfl rfl ?_
    refine J.iastL (hp := (mkh g bd pre rst)) C (pre.length + 2) mk_2 dX7_made_96 (mkA_1 _) H (fun s96 H => ?_)
    refine J.aload_n (i := 0) C dX7_made_97 rfl rfl ?_
    refine J.get C (pre.length + 0) 2 mk_0 rfl (by decide) kFl_X7_17 inB_X7 rfl dX7_made_98 ?_
    refine J.iload C dX7_made_101 rfl ?_
    refine J.iload_n (i := 3) C dX7_made_103 rfl rfl ?_
    refine J.iastL (hp := (mkh g bd pre rst)) C (pre.length + 3) mk_3 dX7_made_104 (mkA_2 _) H (fun s104 H => ?_)
    refine J.aload_n (i := 0) C dX7_made_105 rfl rfl ?_
    refine J.get C (pre.length + 0) 3 mk_0 rfl (by decide) kFl_X7_20 inB_X7 rfl dX7_made_106 ?_
    refine J.iload C dX7_made_109 rfl ?_
    refine J.iload C dX7_made_111 rfl ?_
    refine J.iastL (hp := (mkh g bd pre rst)) C (pre.length + 4) mk_4 dX7_made_113 (mkA_3 _) H (fun s113 H => ?_)
    refine J.aload_n (i := 0) C dX7_made_114 rfl rfl ?_
    refine J.get C (pre.length + 0) 4 mk_0 rfl (by decide) kFl_X7_23 inB_X7 rfl dX7_made_115 ?_
    refine J.iload C dX7_made_118 rfl ?_
    refine J.aload_n (i := 0) C dX7_made_120 rfl rfl ?_
    refine J.iload_n (i := 1) C dX7_made_121 rfl rfl ?_
    refine J.iload_n (i := 2) C dX7_made_122 rfl rfl ?_
    refine J.iload_n (i := 3) C dX7_made_123 rfl rfl ?_
    refine J.callVBI (hp := (mkh g bd pre rst)) C rfl (sp_X7_truth hl _ _ _) rfl kMl_X7_108 mdX7_truth ⟨(Nat.le_of_ble_eq_true rfl), (Nat.le_of_ble_eq_true rfl)⟩ mk_0 rfl rfl (Nat.le_of_ble_eq_true rfl) dX7_made_124 ⟨(Nat.le_of_ble_eq_true rfl), (Nat.le_of_ble_eq_true rfl)⟩ hx (Nat.le_of_ble_eq_true rfl) (Nat.le_of_ble_eq_true rfl) H (fun r124 s124 H => ?_)
    refine J.iastL (hp := (mkh g bd pre rst)) C (pre.length + 5) mk_5 dX7_made_127 (mkA_4 _) H (fun s127 H => ?_)
    refine J.aload_n (i := 0) C dX7_made_128 rfl rfl ?_
    refine J.dup C dX7_made_129 rfl ?_
    refine J.get C (pre.length + 0) 5 mk_0 rfl (by decide) kFl_X7_87 inB_X7 rfl dX7_made_130 ?_
    refine J.iconst C (1) dX7_made_133 (by decide) ?_
    refine J.iadd C dX7_made_134 ?_
    refine J.putL (hp := (mkh g bd pre rst)) C (pre.length + 0) 5 mk_0 rfl (by decide) kFl_X7_87 inB_X7 tyX7 tyX7_ok nmX7 rfl rfl rfl rfl (Nat.le_of_ble_eq_true rfl) dX7_made_135 (mkI_0 _) H (fun s135 H => ?_)
    refine J.iload C dX7_made_138 rfl ?_
    exact J.iretL C hr (Nat.le_of_ble_eq_true rfl) (Nat.le_of_ble_eq_true rfl) dX7_made_140 H
def B_X7_made_32 (σ : MS) (l1 : Int32) (l2 : Int32) (l3 : Int32) (t0 : Int32) (t1 : Int32) : Res MS Int32 := (lt (t1 + t0) fun z33 => (bd (P_X7_known σ l1 l2 l3) fun r39 s39 => (lt r39 fun z42 => (if (30 : Int32) < z33 then (some (.inl (-1 : Int32), s39)) else (if z42 = (-1 : Int32) then (if (s39.1 0) = (150 : Int32) then (some (.inl (-1 : Int32), s39)) else (B_X7_made_69 s39 l1 l2 l3 z33 z42)) else (B_X7_made_69 s39 l1 l2 l3 z33 z42))))))
set_option maxRecDepth 100000 in
theorem bl_X7_made_32 {l : Launch} (hl : l.stackTraces = false) {g : Gy} {bd : Nat → Nat} {pre rst : va_W} {p : Program} {e : Env} {s : State} {m : MethodId} {args : Array Value} {below : List Frame} {meth : Method} {c : Code} {A : Nat → Prop} (C : Cx p l s m args meth c g A yX7_made.cls cX7_made 6) (hr : meth.sig.returnType = some .int) (hx : ∀ x ∈ c.exceptionTable.toList, False) {rr : (Int32 ⊕ String) × MS} (σ : MS) (l1 : Int32) (l2 : Int32) (l3 : Int32) (t0 : Int32) (t1 : Int32) (H : B_X7_made_32 σ l1 l2 l3 t0 t1 = some rr) : J p l e (rmOf 3 0 0) s m args below meth c g A 6 0 0 (QR mI g A (mkh g bd pre rst) rr below args s 0 0) 32 [(0, .ref (bd 0)), (1, .int l1), (2, .int l2), (3, .int l3)] [.int t0, .int t1] ((mkh g bd pre rst) σ) := by
  unfold B_X7_made_32 at H
  refine J.iadd C dX7_made_32 ?_
  refine J.istoreL C dX7_made_33 (by decide) H (fun z33 H => ?_)
  refine J.aload_n (i := 0) C dX7_made_35 rfl rfl ?_
  refine J.iload_n (i := 1) C dX7_made_36 rfl rfl ?_
  refine J.iload_n (i := 2) C dX7_made_37 rfl rfl ?_
  refine J.iload_n (i := 3) C dX7_made_38 rfl rfl ?_
  refine J.callVBI (hp := (mkh g bd pre rst)) C rfl (sp_X7_known hl _ _ _) rfl kMl_X7_104 mdX7_known ⟨(Nat.le_of_ble_eq_true rfl), (Nat.le_of_ble_eq_true rfl)⟩ mk_0 rfl rfl (Nat.le_of_ble_eq_true rfl) dX7_made_39 ⟨(Nat.le_of_ble_eq_true rfl), (Nat.le_of_ble_eq_true rfl)⟩ hx (Nat.le_of_ble_eq_true rfl) (Nat.le_of_ble_eq_true rfl) H (fun r39 s39 H => ?_)
  refine J.istoreL C dX7_made_42 (by decide) H (fun z42 H => ?_)
  refine J.iload C dX7_made_44 rfl ?_
  refine J.bipush C (30) dX7_made_46 (by decide) ?_
  refine J.icmp_gtL (tgt := 67) C dX7_made_48 (by decide) H (fun c_48 H => ?_) (fun c_48 H => ?_)
  · refine J.iconst C (-1) dX7_made_67 (by decide) ?_
    exact J.iretL C hr (Nat.le_of_ble_eq_true rfl) (Nat.le_of_ble_eq_true rfl) dX7_made_68 H
  · refine J.iload C dX7_made_51 rfl ?_
    refine J.iconst C (-1) dX7_made_53 (by decide) ?_
    refine J.icmp_neL (tgt := 69) C dX7_made_54 (by decide) H (fun c_54 H => ?_) (fun c_54 H => ?_)
    · refine J.widen (k := 0) (n := 0) (Nat.le_of_ble_eq_true rfl) (Nat.le_of_ble_eq_true rfl) ?_
      refine J.lw (lv' := [(0, .ref (bd 0)), (1, .int l1), (2, .int l2), (3, .int l3), (4, .int z33), (5, .int z42)]) ⟨rfl, rfl, rfl, rfl, rfl, rfl, trivial⟩ ?_
      exact bl_X7_made_69 hl C hr hx  _ _ _ _ _ _  H
    · refine J.aload_n (i := 0) C dX7_made_57 rfl rfl ?_
      refine J.get C (pre.length + 0) 5 mk_0 rfl (by decide) kFl_X7_87 inB_X7 rfl dX7_made_58 ?_
      refine J.sipush C (150) dX7_made_61 (by decide) ?_
      refine J.icmp_neL (tgt := 69) C dX7_made_64 (by decide) H (fun c_64 H => ?_) (fun c_64 H => ?_)
      · refine J.widen (k := 0) (n := 0) (Nat.le_of_ble_eq_true rfl) (Nat.le_of_ble_eq_true rfl) ?_
        refine J.lw (lv' := [(0, .ref (bd 0)), (1, .int l1), (2, .int l2), (3, .int l3), (4, .int z33), (5, .int z42)]) ⟨rfl, rfl, rfl, rfl, rfl, rfl, trivial⟩ ?_
        exact bl_X7_made_69 hl C hr hx  _ _ _ _ _ _  H
      · refine J.iconst C (-1) dX7_made_67 (by decide) ?_
        exact J.iretL C hr (Nat.le_of_ble_eq_true rfl) (Nat.le_of_ble_eq_true rfl) dX7_made_68 H
def B_X7_made_16 (σ : MS) (l1 : Int32) (l2 : Int32) (l3 : Int32) (t0 : Int32) (t1 : Int32) : Res MS Int32 := (if l3 = (-1 : Int32) then (B_X7_made_32 σ l1 l2 l3 (0 : Int32) (t1 + t0)) else (gd l3 150 (B_X7_made_32 σ l1 l2 l3 (σ.2.1 3 l3.toNatClampNeg) (t1 + t0))))
set_option maxRecDepth 100000 in
theorem bl_X7_made_16 {l : Launch} (hl : l.stackTraces = false) {g : Gy} {bd : Nat → Nat} {pre rst : va_W} {p : Program} {e : Env} {s : State} {m : MethodId} {args : Array Value} {below : List Frame} {meth : Method} {c : Code} {A : Nat → Prop} (C : Cx p l s m args meth c g A yX7_made.cls cX7_made 6) (hr : meth.sig.returnType = some .int) (hx : ∀ x ∈ c.exceptionTable.toList, False) {rr : (Int32 ⊕ String) × MS} (σ : MS) (l1 : Int32) (l2 : Int32) (l3 : Int32) (t0 : Int32) (t1 : Int32) (H : B_X7_made_16 σ l1 l2 l3 t0 t1 = some rr) : J p l e (rmOf 3 0 0) s m args below meth c g A 6 0 0 (QR mI g A (mkh g bd pre rst) rr below args s 0 0) 16 [(0, .ref (bd 0)), (1, .int l1), (2, .int l2), (3, .int l3)] [.int t0, .int t1] ((mkh g bd pre rst) σ) := by
  unfold B_X7_made_16 at H
  refine J.iadd C dX7_made_16 ?_
  refine J.iload_n (i := 3) C dX7_made_17 rfl rfl ?_
  refine J.iconst C (-1) dX7_made_18 (by decide) ?_
  refine J.icmp_neL (tgt := 26) C dX7_made_19 (by decide) H (fun c_19 H => ?_) (fun c_19 H => ?_)
  · refine J.aload_n (i := 0) C dX7_made_26 rfl rfl ?_
    refine J.get C (pre.length + 0) 3 mk_0 rfl (by decide) kFl_X7_20 inB_X7 rfl dX7_made_27 ?_
    refine J.iload_n (i := 3) C dX7_made_30 rfl rfl ?_
    refine J.ialdL C (pre.length + 4) mk_4 dX7_made_31 H (fun H => ?_)
    refine J.widen (k := 0) (n := 0) (Nat.le_of_ble_eq_true rfl) (Nat.le_of_ble_eq_true rfl) ?_
    refine J.lw (lv' := [(0, .ref (bd 0)), (1, .int l1), (2, .int l2), (3, .int l3)]) ⟨rfl, rfl, rfl, rfl, trivial⟩ ?_
    exact bl_X7_made_32 hl C hr hx  _ _ _ _ _ _  H
  · refine J.iconst C (0) dX7_made_22 (by decide) ?_
    refine J.goto (tgt := 32) C dX7_made_23 (by decide) ?_
    refine J.widen (k := 0) (n := 0) (Nat.le_of_ble_eq_true rfl) (Nat.le_of_ble_eq_true rfl) ?_
    refine J.lw (lv' := [(0, .ref (bd 0)), (1, .int l1), (2, .int l2), (3, .int l3)]) ⟨rfl, rfl, rfl, rfl, trivial⟩ ?_
    exact bl_X7_made_32 hl C hr hx  _ _ _ _ _ _  H
abbrev mX7_made : MD := (yX7_made, cX7_made, 6, some .int)
theorem mdX7_made : MDv mX7_made RX7 3 := ⟨kIm_X7_made, kSe_X7_made, kIn_X7, kCo_X7_made, by decide +kernel⟩
def P_X7_made (σ : MS) (a1 : Int32) (a2 : Int32) (a3 : Int32) : Res MS Int32 := (if a2 = (-1 : Int32) then (B_X7_made_16 σ a1 a2 a3 (0 : Int32) (1 : Int32)) else (gd a2 150 (B_X7_made_16 σ a1 a2 a3 (σ.2.1 3 a2.toNatClampNeg) (1 : Int32))))
set_option maxRecDepth 100000 in
theorem sp_X7_made {l : Launch} (hl : l.stackTraces = false) {g : Gy} {bd : Nat → Nat} {pre rst : va_W} {σ : MS} (a1 : Int32) (a2 : Int32) (a3 : Int32) : SpR l mX7_made 3 0 0 mI g [.ref (bd 0), .int a1, .int a2, .int a3] (mkh g bd pre rst) σ (P_X7_made σ a1 a2 a3) := by
  refine SpR.of hl (by decide) (Nat.le_of_ble_eq_true rfl) (fun rr H p e s m args below meth c A C hr hx => ?_)
  unfold P_X7_made at H
  refine J.lw (lv' := [(0, .ref (bd 0)), (1, .int a1), (2, .int a2), (3, .int a3)]) ⟨rfl, rfl, rfl, rfl, trivial⟩ ?_
  refine J.iconst C (1) dX7_made_0 (by decide) ?_
  refine J.iload_n (i := 2) C dX7_made_1 rfl rfl ?_
  refine J.iconst C (-1) dX7_made_2 (by decide) ?_
  refine J.icmp_neL (tgt := 10) C dX7_made_3 (by decide) H (fun c_3 H => ?_) (fun c_3 H => ?_)
  · refine J.aload_n (i := 0) C dX7_made_10 rfl rfl ?_
    refine J.get C (pre.length + 0) 3 mk_0 rfl (by decide) kFl_X7_20 inB_X7 rfl dX7_made_11 ?_
    refine J.iload_n (i := 2) C dX7_made_14 rfl rfl ?_
    refine J.ialdL C (pre.length + 4) mk_4 dX7_made_15 H (fun H => ?_)
    refine J.widen (k := 0) (n := 0) (Nat.le_of_ble_eq_true rfl) (Nat.le_of_ble_eq_true rfl) ?_
    refine J.lw (lv' := [(0, .ref (bd 0)), (1, .int a1), (2, .int a2), (3, .int a3)]) ⟨rfl, rfl, rfl, rfl, trivial⟩ ?_
    exact bl_X7_made_16 hl C hr hx  _ _ _ _ _ _  H
  · refine J.iconst C (0) dX7_made_6 (by decide) ?_
    refine J.goto (tgt := 16) C dX7_made_7 (by decide) ?_
    refine J.widen (k := 0) (n := 0) (Nat.le_of_ble_eq_true rfl) (Nat.le_of_ble_eq_true rfl) ?_
    refine J.lw (lv' := [(0, .ref (bd 0)), (1, .int a1), (2, .int a2), (3, .int a3)]) ⟨rfl, rfl, rfl, rfl, trivial⟩ ?_
    exact bl_X7_made_16 hl C hr hx  _ _ _ _ _ _  H

/-! X7_makes -/
abbrev mX7_makes : MD := (yX7_makes, cX7_makes, 6, some .int)
theorem mdX7_makes : MDv mX7_makes RX7 4 := ⟨kIm_X7_makes, kSe_X7_makes, kIn_X7, kCo_X7_makes, by decide +kernel⟩
def P_X7_makes (σ : MS) (a1 : Int32) (a2 : Int32) (a3 : Int32) (a4 : Int32) : Res MS Int32 := (bd (P_X7_made σ a1 a2 a3) fun r4 s4 => (lt r4 fun z7 => (if z7 = (-1 : Int32) then (lt (tI s4 5 a4) fun s22 => (if z7 = (-1 : Int32) then (some (.inl (0 : Int32), s22)) else (some (.inl z7, s22)))) else (lt (tI s4 5 (0 : Int32)) fun s22 => (if z7 = (-1 : Int32) then (some (.inl (0 : Int32), s22)) else (some (.inl z7, s22)))))))
set_option maxRecDepth 100000 in
theorem sp_X7_makes {l : Launch} (hl : l.stackTraces = false) {g : Gy} {bd : Nat → Nat} {pre rst : va_W} {σ : MS} (a1 : Int32) (a2 : Int32) (a3 : Int32) (a4 : Int32) : SpR l mX7_makes 4 0 0 mI g [.ref (bd 0), .int a1, .int a2, .int a3, .int a4] (mkh g bd pre rst) σ (P_X7_makes σ a1 a2 a3 a4) := by
  refine SpR.of hl (by decide) (Nat.le_of_ble_eq_true rfl) (fun rr H p e s m args below meth c A C hr hx => ?_)
  unfold P_X7_makes at H
  refine J.lw (lv' := [(0, .ref (bd 0)), (1, .int a1), (2, .int a2), (3, .int a3), (4, .int a4)]) ⟨rfl, rfl, rfl, rfl, rfl, trivial⟩ ?_
  refine J.aload_n (i := 0) C dX7_makes_0 rfl rfl ?_
  refine J.iload_n (i := 1) C dX7_makes_1 rfl rfl ?_
  refine J.iload_n (i := 2) C dX7_makes_2 rfl rfl ?_
  refine J.iload_n (i := 3) C dX7_makes_3 rfl rfl ?_
  refine J.callVBI (hp := (mkh g bd pre rst)) C rfl (sp_X7_made hl _ _ _) rfl kMl_X7_111 mdX7_made ⟨(Nat.le_of_ble_eq_true rfl), (Nat.le_of_ble_eq_true rfl)⟩ mk_0 rfl rfl (Nat.le_of_ble_eq_true rfl) dX7_makes_4 ⟨(Nat.le_of_ble_eq_true rfl), (Nat.le_of_ble_eq_true rfl)⟩ hx (Nat.le_of_ble_eq_true rfl) (Nat.le_of_ble_eq_true rfl) H (fun r4 s4 H => ?_)
  refine J.istoreL C dX7_makes_7 (by decide) H (fun z7 H => ?_)
  refine J.aload_n (i := 0) C dX7_makes_9 rfl rfl ?_
  refine J.iload C dX7_makes_10 rfl ?_
  refine J.iconst C (-1) dX7_makes_12 (by decide) ?_
  refine J.icmp_neL (tgt := 21) C dX7_makes_13 (by decide) H (fun c_13 H => ?_) (fun c_13 H => ?_)
  · refine J.iconst C (0) dX7_makes_21 (by decide) ?_
    refine J.putL (hp := (mkh g bd pre rst)) C (pre.length + 0) 22 mk_0 rfl (by decide) kFl_X7_84 inB_X7 tyX7 tyX7_ok nmX7 rfl rfl rfl rfl (Nat.le_of_ble_eq_true rfl) dX7_makes_22 (mkI_5 _) H (fun s22 H => ?_)
    refine J.iload C dX7_makes_25 rfl ?_
    refine J.iconst C (-1) dX7_makes_27 (by decide) ?_
    refine J.icmp_neL (tgt := 35) C dX7_makes_28 (by decide) H (fun c_28 H => ?_) (fun c_28 H => ?_)
    · refine J.iload C dX7_makes_35 rfl ?_
      exact J.iretL C hr (Nat.le_of_ble_eq_true rfl) (Nat.le_of_ble_eq_true rfl) dX7_makes_37 H
    · refine J.iconst C (0) dX7_makes_31 (by decide) ?_
      refine J.goto (tgt := 37) C dX7_makes_32 (by decide) ?_
      exact J.iretL C hr (Nat.le_of_ble_eq_true rfl) (Nat.le_of_ble_eq_true rfl) dX7_makes_37 H
  · refine J.iload C dX7_makes_16 rfl ?_
    refine J.goto (tgt := 22) C dX7_makes_18 (by decide) ?_
    refine J.putL (hp := (mkh g bd pre rst)) C (pre.length + 0) 22 mk_0 rfl (by decide) kFl_X7_84 inB_X7 tyX7 tyX7_ok nmX7 rfl rfl rfl rfl (Nat.le_of_ble_eq_true rfl) dX7_makes_22 (mkI_5 _) H (fun s22 H => ?_)
    refine J.iload C dX7_makes_25 rfl ?_
    refine J.iconst C (-1) dX7_makes_27 (by decide) ?_
    refine J.icmp_neL (tgt := 35) C dX7_makes_28 (by decide) H (fun c_28 H => ?_) (fun c_28 H => ?_)
    · refine J.iload C dX7_makes_35 rfl ?_
      exact J.iretL C hr (Nat.le_of_ble_eq_true rfl) (Nat.le_of_ble_eq_true rfl) dX7_makes_37 H
    · refine J.iconst C (0) dX7_makes_31 (by decide) ?_
      refine J.goto (tgt := 37) C dX7_makes_32 (by decide) ?_
      exact J.iretL C hr (Nat.le_of_ble_eq_true rfl) (Nat.le_of_ble_eq_true rfl) dX7_makes_37 H

/-! X7_writes -/
abbrev mX7_writes : MD := (yX7_writes, cX7_writes, 2, none)
theorem mdX7_writes : MDv mX7_writes RX7 1 := ⟨kIm_X7_writes, kSe_X7_writes, kIn_X7, kCo_X7_writes, by decide +kernel⟩
def D_X7_writes (self : MS → Int32 → Res MS Unit) (σ : MS) (a1 : Int32) : Res MS Unit := (gd a1 150 (gd (σ.1 6) 1000 (lt (tA σ 15 (upd (σ.2.1 15) (σ.1 6).toNatClampNeg (vp_nar .char (σ.2.1 0 a1.toNatClampNeg)))) fun s14 => (lt (tI s14 6 ((s14.1 6) + (1 : Int32))) fun s22 => (gd a1 150 (if (s22.2.1 1 a1.toNatClampNeg) = (-1 : Int32) then (gd a1 150 (if (s22.2.1 2 a1.toNatClampNeg) = (-1 : Int32) then (some (.inl (), s22)) else (gd a1 150 (bd (self s22 (s22.2.1 2 a1.toNatClampNeg)) fun _ s62 => (some (.inl (), s62)))))) else (gd a1 150 (bd (self s22 (s22.2.1 1 a1.toNatClampNeg)) fun _ s42 => (gd a1 150 (if (s42.2.1 2 a1.toNatClampNeg) = (-1 : Int32) then (some (.inl (), s42)) else (gd a1 150 (bd (self s42 (s42.2.1 2 a1.toNatClampNeg)) fun _ s62 => (some (.inl (), s62))))))))))))))
def P_X7_writes : Nat → MS → Int32 → Res MS Unit
  | 0, _, _ => none
  | n + 1, σ, a1 => D_X7_writes (P_X7_writes n) σ a1
set_option maxRecDepth 100000 in
theorem sp_X7_writes {l : Launch} (hl : l.stackTraces = false) {g : Gy} {bd : Nat → Nat} {pre rst : va_W} : ∀ (n : Nat) (σ : MS) (a1 : Int32), SpR l mX7_writes (1 + n) 0 0 mV g [.ref (bd 0), .int a1] (mkh g bd pre rst) σ (P_X7_writes n σ a1) := by
  intro n
  induction n with
  | zero => intro σ a1 rr H; cases H
  | succ n ih =>
    intro σ a1
    refine SpR.of hl (by decide) (Nat.le_of_ble_eq_true rfl) (fun rr H p e s m args below meth c A C hr hx => ?_)
    generalize hself : P_X7_writes n = self at ih
    have H : D_X7_writes self σ a1 = some rr := by rw [← hself]; exact H
    unfold D_X7_writes at H
    refine J.lw (lv' := [(0, .ref (bd 0)), (1, .int a1)]) ⟨rfl, rfl, trivial⟩ ?_
    refine J.aload_n (i := 0) C dX7_writes_0 rfl rfl ?_
    refine J.get C (pre.length + 0) 23 mk_0 rfl (by decide) kFl_X7_69 inB_X7 rfl dX7_writes_1 ?_
    refine J.aload_n (i := 0) C dX7_writes_4 rfl rfl ?_
    refine J.get C (pre.length + 0) 24 mk_0 rfl (by decide) kFl_X7_114 inB_X7 rfl dX7_writes_5 ?_
    refine J.aload_n (i := 0) C dX7_writes_8 rfl rfl ?_
    refine J.get C (pre.length + 0) 0 mk_0 rfl (by decide) kFl_X7_9 inB_X7 rfl dX7_writes_9 ?_
    refine J.iload_n (i := 1) C dX7_writes_12 rfl rfl ?_
    refine J.caldL C (pre.length + 1) mk_1 dX7_writes_13 H (fun H => ?_)
    refine J.castL (hp := (mkh g bd pre rst)) C (pre.length + 16) mk_16 dX7_writes_14 (mkA_15 _) H (fun s14 H => ?_)
    refine J.aload_n (i := 0) C dX7_writes_15 rfl rfl ?_
    refine J.dup C dX7_writes_16 rfl ?_
    refine J.get C (pre.length + 0) 24 mk_0 rfl (by decide) kFl_X7_114 inB_X7 rfl dX7_writes_17 ?_
    refine J.iconst C (1) dX7_writes_20 (by decide) ?_
    refine J.iadd C dX7_writes_21 ?_
    refine J.putL (hp := (mkh g bd pre rst)) C (pre.length + 0) 24 mk_0 rfl (by decide) kFl_X7_114 inB_X7 tyX7 tyX7_ok nmX7 rfl rfl rfl rfl (Nat.le_of_ble_eq_true rfl) dX7_writes_22 (mkI_6 _) H (fun s22 H => ?_)
    refine J.aload_n (i := 0) C dX7_writes_25 rfl rfl ?_
    refine J.get C (pre.length + 0) 1 mk_0 rfl (by decide) kFl_X7_13 inB_X7 rfl dX7_writes_26 ?_
    refine J.iload_n (i := 1) C dX7_writes_29 rfl rfl ?_
    refine J.ialdL C (pre.length + 2) mk_2 dX7_writes_30 H (fun H => ?_)
    refine J.iconst C (-1) dX7_writes_31 (by decide) ?_
    refine J.icmp_eqL (tgt := 45) C dX7_writes_32 (by decide) H (fun c_32 H => ?_) (fun c_32 H => ?_)
    · refine J.aload_n (i := 0) C dX7_writes_45 rfl rfl ?_
      refine J.get C (pre.length + 0) 2 mk_0 rfl (by decide) kFl_X7_17 inB_X7 rfl dX7_writes_46 ?_
      refine J.iload_n (i := 1) C dX7_writes_49 rfl rfl ?_
      refine J.ialdL C (pre.length + 3) mk_3 dX7_writes_50 H (fun H => ?_)
      refine J.iconst C (-1) dX7_writes_51 (by decide) ?_
      refine J.icmp_eqL (tgt := 65) C dX7_writes_52 (by decide) H (fun c_52 H => ?_) (fun c_52 H => ?_)
      · exact J.vretL C hr (Nat.le_of_ble_eq_true rfl) (Nat.le_of_ble_eq_true rfl) dX7_writes_65 H
      · refine J.aload_n (i := 0) C dX7_writes_55 rfl rfl ?_
        refine J.aload_n (i := 0) C dX7_writes_56 rfl rfl ?_
        refine J.get C (pre.length + 0) 2 mk_0 rfl (by decide) kFl_X7_17 inB_X7 rfl dX7_writes_57 ?_
        refine J.iload_n (i := 1) C dX7_writes_60 rfl rfl ?_
        refine J.ialdL C (pre.length + 3) mk_3 dX7_writes_61 H (fun H => ?_)
        refine J.callVBV (hp := (mkh g bd pre rst)) C rfl (ih _ _) rfl kMl_X7_117 mdX7_writes (rm_ok (Nat.le_of_ble_eq_true rfl)) mk_0 rfl rfl (Nat.le_of_ble_eq_true rfl) dX7_writes_62 ⟨(Nat.le_of_ble_eq_true rfl), (Nat.le_of_ble_eq_true rfl)⟩ hx (Nat.le_of_ble_eq_true rfl) (Nat.le_of_ble_eq_true rfl) H (fun _ s62 H => ?_)
        exact J.vretL C hr (Nat.le_of_ble_eq_true rfl) (Nat.le_of_ble_eq_true rfl) dX7_writes_65 H
    · refine J.aload_n (i := 0) C dX7_writes_35 rfl rfl ?_
      refine J.aload_n (i := 0) C dX7_writes_36 rfl rfl ?_
      refine J.get C (pre.length + 0) 1 mk_0 rfl (by decide) kFl_X7_13 inB_X7 rfl dX7_writes_37 ?_
      refine J.iload_n (i := 1) C dX7_writes_40 rfl rfl ?_
      refine J.ialdL C (pre.length + 2) mk_2 dX7_writes_41 H (fun H => ?_)
      refine J.callVBV (hp := (mkh g bd pre rst)) C rfl (ih _ _) rfl kMl_X7_117 mdX7_writes (rm_ok (Nat.le_of_ble_eq_true rfl)) mk_0 rfl rfl (Nat.le_of_ble_eq_true rfl) dX7_writes_42 ⟨(Nat.le_of_ble_eq_true rfl), (Nat.le_of_ble_eq_true rfl)⟩ hx (Nat.le_of_ble_eq_true rfl) (Nat.le_of_ble_eq_true rfl) H (fun _ s42 H => ?_)
      refine J.aload_n (i := 0) C dX7_writes_45 rfl rfl ?_
      refine J.get C (pre.length + 0) 2 mk_0 rfl (by decide) kFl_X7_17 inB_X7 rfl dX7_writes_46 ?_
      refine J.iload_n (i := 1) C dX7_writes_49 rfl rfl ?_
      refine J.ialdL C (pre.length + 3) mk_3 dX7_writes_50 H (fun H => ?_)
      refine J.iconst C (-1) dX7_writes_51 (by decide) ?_
      refine J.icmp_eqL (tgt := 65) C dX7_writes_52 (by decide) H (fun c_52 H => ?_) (fun c_52 H => ?_)
      · exact J.vretL C hr (Nat.le_of_ble_eq_true rfl) (Nat.le_of_ble_eq_true rfl) dX7_writes_65 H
      · refine J.aload_n (i := 0) C dX7_writes_55 rfl rfl ?_
        refine J.aload_n (i := 0) C dX7_writes_56 rfl rfl ?_
        refine J.get C (pre.length + 0) 2 mk_0 rfl (by decide) kFl_X7_17 inB_X7 rfl dX7_writes_57 ?_
        refine J.iload_n (i := 1) C dX7_writes_60 rfl rfl ?_
        refine J.ialdL C (pre.length + 3) mk_3 dX7_writes_61 H (fun H => ?_)
        refine J.callVBV (hp := (mkh g bd pre rst)) C rfl (ih _ _) rfl kMl_X7_117 mdX7_writes (rm_ok (Nat.le_of_ble_eq_true rfl)) mk_0 rfl rfl (Nat.le_of_ble_eq_true rfl) dX7_writes_62 ⟨(Nat.le_of_ble_eq_true rfl), (Nat.le_of_ble_eq_true rfl)⟩ hx (Nat.le_of_ble_eq_true rfl) (Nat.le_of_ble_eq_true rfl) H (fun _ s62 H => ?_)
        exact J.vretL C hr (Nat.le_of_ble_eq_true rfl) (Nat.le_of_ble_eq_true rfl) dX7_writes_65 H

/-! X7_reads -/
abbrev mX7_reads : MD := (yX7_reads, cX7_reads, 4, some .int)
theorem mdX7_reads : MDv mX7_reads RX7 0 := ⟨kIm_X7_reads, kSe_X7_reads, kIn_X7, kCo_X7_reads, by decide +kernel⟩
def D_X7_reads (self : MS → Res MS Int32) (σ : MS)  : Res MS Int32 := (gd (σ.1 7) 1000 (lt (σ.2.1 15 (σ.1 7).toNatClampNeg) fun z9 => (lt (tI σ 7 ((σ.1 7) + (1 : Int32))) fun s17 => (lt (-1 : Int32) fun z21 => (lt (-1 : Int32) fun z23 => (if z9 < (65 : Int32) then (bd (P_X7_made s17 z9 z21 z23) fun r76 s76 => (some (.inl r76, s76))) else (if z9 = (70 : Int32) then (bd (P_X7_made s17 z9 z21 z23) fun r76 s76 => (some (.inl r76, s76))) else (if (97 : Int32) ≤ z9 then (bd (P_X7_made s17 z9 z21 z23) fun r76 s76 => (some (.inl r76, s76))) else (bd (self s17 ) fun r43 s43 => (lt r43 fun z46 => (if z46 = (-1 : Int32) then (some (.inl (-1 : Int32), s43)) else (if z9 = (78 : Int32) then (bd (P_X7_made s43 z9 z46 z23) fun r76 s76 => (some (.inl r76, s76))) else (bd (self s43 ) fun r61 s61 => (lt r61 fun z64 => (if z64 = (-1 : Int32) then (some (.inl (-1 : Int32), s61)) else (bd (P_X7_made s61 z9 z46 z64) fun r76 s76 => (some (.inl r76, s76))))))))))))))))))
def P_X7_reads : Nat → MS → Res MS Int32
  | 0, _ => none
  | n + 1, σ => D_X7_reads (P_X7_reads n) σ
set_option maxRecDepth 100000 in
theorem sp_X7_reads {l : Launch} (hl : l.stackTraces = false) {g : Gy} {bd : Nat → Nat} {pre rst : va_W} : ∀ (n : Nat) (σ : MS) , SpR l mX7_reads (4 + n) 0 0 mI g [.ref (bd 0)] (mkh g bd pre rst) σ (P_X7_reads n σ ) := by
  intro n
  induction n with
  | zero => intro σ  rr H; cases H
  | succ n ih =>
    intro σ 
    refine SpR.of hl (by decide) (Nat.le_of_ble_eq_true rfl) (fun rr H p e s m args below meth c A C hr hx => ?_)
    generalize hself : P_X7_reads n = self at ih
    have H : D_X7_reads self σ  = some rr := by rw [← hself]; exact H
    unfold D_X7_reads at H
    refine J.lw (lv' := [(0, .ref (bd 0))]) ⟨rfl, trivial⟩ ?_
    refine J.aload_n (i := 0) C dX7_reads_0 rfl rfl ?_
    refine J.get C (pre.length + 0) 23 mk_0 rfl (by decide) kFl_X7_69 inB_X7 rfl dX7_reads_1 ?_
    refine J.aload_n (i := 0) C dX7_reads_4 rfl rfl ?_
    refine J.get C (pre.length + 0) 25 mk_0 rfl (by decide) kFl_X7_121 inB_X7 rfl dX7_reads_5 ?_
    refine J.caldL C (pre.length + 16) mk_16 dX7_reads_8 H (fun H => ?_)
    refine J.istore_nL (i := 1) C dX7_reads_9 rfl (by decide) H (fun z9 H => ?_)
    refine J.aload_n (i := 0) C dX7_reads_10 rfl rfl ?_
    refine J.dup C dX7_reads_11 rfl ?_
    refine J.get C (pre.length + 0) 25 mk_0 rfl (by decide) kFl_X7_121 inB_X7 rfl dX7_reads_12 ?_
    refine J.iconst C (1) dX7_reads_15 (by decide) ?_
    refine J.iadd C dX7_reads_16 ?_
    refine J.putL (hp := (mkh g bd pre rst)) C (pre.length + 0) 25 mk_0 rfl (by decide) kFl_X7_121 inB_X7 tyX7 tyX7_ok nmX7 rfl rfl rfl rfl (Nat.le_of_ble_eq_true rfl) dX7_reads_17 (mkI_7 _) H (fun s17 H => ?_)
    refine J.iconst C (-1) dX7_reads_20 (by decide) ?_
    refine J.istore_nL (i := 2) C dX7_reads_21 rfl (by decide) H (fun z21 H => ?_)
    refine J.iconst C (-1) dX7_reads_22 (by decide) ?_
    refine J.istore_nL (i := 3) C dX7_reads_23 rfl (by decide) H (fun z23 H => ?_)
    refine J.iload_n (i := 1) C dX7_reads_24 rfl rfl ?_
    refine J.bipush C (65) dX7_reads_25 (by decide) ?_
    refine J.icmp_ltL (tgt := 72) C dX7_reads_27 (by decide) H (fun c_27 H => ?_) (fun c_27 H => ?_)
    · refine J.aload_n (i := 0) C dX7_reads_72 rfl rfl ?_
      refine J.iload_n (i := 1) C dX7_reads_73 rfl rfl ?_
      refine J.iload_n (i := 2) C dX7_reads_74 rfl rfl ?_
      refine J.iload_n (i := 3) C dX7_reads_75 rfl rfl ?_
      refine J.callVBI (hp := (mkh g bd pre rst)) C rfl (sp_X7_made hl _ _ _) rfl kMl_X7_111 mdX7_made (rm_lo (Nat.le_of_ble_eq_true rfl) (Nat.le_of_ble_eq_true rfl)) mk_0 rfl rfl (Nat.le_of_ble_eq_true rfl) dX7_reads_76 ⟨(Nat.le_of_ble_eq_true rfl), (Nat.le_of_ble_eq_true rfl)⟩ hx (Nat.le_of_ble_eq_true rfl) (Nat.le_of_ble_eq_true rfl) H (fun r76 s76 H => ?_)
      exact J.iretL C hr (Nat.le_of_ble_eq_true rfl) (Nat.le_of_ble_eq_true rfl) dX7_reads_79 H
    · refine J.iload_n (i := 1) C dX7_reads_30 rfl rfl ?_
      refine J.bipush C (70) dX7_reads_31 (by decide) ?_
      refine J.icmp_eqL (tgt := 72) C dX7_reads_33 (by decide) H (fun c_33 H => ?_) (fun c_33 H => ?_)
      · refine J.aload_n (i := 0) C dX7_reads_72 rfl rfl ?_
        refine J.iload_n (i := 1) C dX7_reads_73 rfl rfl ?_
        refine J.iload_n (i := 2) C dX7_reads_74 rfl rfl ?_
        refine J.iload_n (i := 3) C dX7_reads_75 rfl rfl ?_
        refine J.callVBI (hp := (mkh g bd pre rst)) C rfl (sp_X7_made hl _ _ _) rfl kMl_X7_111 mdX7_made (rm_lo (Nat.le_of_ble_eq_true rfl) (Nat.le_of_ble_eq_true rfl)) mk_0 rfl rfl (Nat.le_of_ble_eq_true rfl) dX7_reads_76 ⟨(Nat.le_of_ble_eq_true rfl), (Nat.le_of_ble_eq_true rfl)⟩ hx (Nat.le_of_ble_eq_true rfl) (Nat.le_of_ble_eq_true rfl) H (fun r76 s76 H => ?_)
        exact J.iretL C hr (Nat.le_of_ble_eq_true rfl) (Nat.le_of_ble_eq_true rfl) dX7_reads_79 H
      · refine J.iload_n (i := 1) C dX7_reads_36 rfl rfl ?_
        refine J.bipush C (97) dX7_reads_37 (by decide) ?_
        refine J.icmp_geL (tgt := 72) C dX7_reads_39 (by decide) H (fun c_39 H => ?_) (fun c_39 H => ?_)
        · refine J.aload_n (i := 0) C dX7_reads_72 rfl rfl ?_
          refine J.iload_n (i := 1) C dX7_reads_73 rfl rfl ?_
          refine J.iload_n (i := 2) C dX7_reads_74 rfl rfl ?_
          refine J.iload_n (i := 3) C dX7_reads_75 rfl rfl ?_
          refine J.callVBI (hp := (mkh g bd pre rst)) C rfl (sp_X7_made hl _ _ _) rfl kMl_X7_111 mdX7_made (rm_lo (Nat.le_of_ble_eq_true rfl) (Nat.le_of_ble_eq_true rfl)) mk_0 rfl rfl (Nat.le_of_ble_eq_true rfl) dX7_reads_76 ⟨(Nat.le_of_ble_eq_true rfl), (Nat.le_of_ble_eq_true rfl)⟩ hx (Nat.le_of_ble_eq_true rfl) (Nat.le_of_ble_eq_true rfl) H (fun r76 s76 H => ?_)
          exact J.iretL C hr (Nat.le_of_ble_eq_true rfl) (Nat.le_of_ble_eq_true rfl) dX7_reads_79 H
        · refine J.aload_n (i := 0) C dX7_reads_42 rfl rfl ?_
          refine J.callVBI (hp := (mkh g bd pre rst)) C rfl (ih _ ) rfl kMl_X7_124 mdX7_reads (rm_ok (Nat.le_of_ble_eq_true rfl)) mk_0 rfl rfl (Nat.le_of_ble_eq_true rfl) dX7_reads_43 ⟨(Nat.le_of_ble_eq_true rfl), (Nat.le_of_ble_eq_true rfl)⟩ hx (Nat.le_of_ble_eq_true rfl) (Nat.le_of_ble_eq_true rfl) H (fun r43 s43 H => ?_)
          refine J.istore_nL (i := 2) C dX7_reads_46 rfl (by decide) H (fun z46 H => ?_)
          refine J.iload_n (i := 2) C dX7_reads_47 rfl rfl ?_
          refine J.iconst C (-1) dX7_reads_48 (by decide) ?_
          refine J.icmp_neL (tgt := 54) C dX7_reads_49 (by decide) H (fun c_49 H => ?_) (fun c_49 H => ?_)
          · refine J.iload_n (i := 1) C dX7_reads_54 rfl rfl ?_
            refine J.bipush C (78) dX7_reads_55 (by decide) ?_
            refine J.icmp_eqL (tgt := 72) C dX7_reads_57 (by decide) H (fun c_57 H => ?_) (fun c_57 H => ?_)
            · refine J.aload_n (i := 0) C dX7_reads_72 rfl rfl ?_
              refine J.iload_n (i := 1) C dX7_reads_73 rfl rfl ?_
              refine J.iload_n (i := 2) C dX7_reads_74 rfl rfl ?_
              refine J.iload_n (i := 3) C dX7_reads_75 rfl rfl ?_
              refine J.callVBI (hp := (mkh g bd pre rst)) C rfl (sp_X7_made hl _ _ _) rfl kMl_X7_111 mdX7_made (rm_lo (Nat.le_of_ble_eq_true rfl) (Nat.le_of_ble_eq_true rfl)) mk_0 rfl rfl (Nat.le_of_ble_eq_true rfl) dX7_reads_76 ⟨(Nat.le_of_ble_eq_true rfl), (Nat.le_of_ble_eq_true rfl)⟩ hx (Nat.le_of_ble_eq_true rfl) (Nat.le_of_ble_eq_true rfl) H (fun r76 s76 H => ?_)
              exact J.iretL C hr (Nat.le_of_ble_eq_true rfl) (Nat.le_of_ble_eq_true rfl) dX7_reads_79 H
            · refine J.aload_n (i := 0) C dX7_reads_60 rfl rfl ?_
              refine J.callVBI (hp := (mkh g bd pre rst)) C rfl (ih _ ) rfl kMl_X7_124 mdX7_reads (rm_ok (Nat.le_of_ble_eq_true rfl)) mk_0 rfl rfl (Nat.le_of_ble_eq_true rfl) dX7_reads_61 ⟨(Nat.le_of_ble_eq_true rfl), (Nat.le_of_ble_eq_true rfl)⟩ hx (Nat.le_of_ble_eq_true rfl) (Nat.le_of_ble_eq_true rfl) H (fun r61 s61 H => ?_)
              refine J.istore_nL (i := 3) C dX7_reads_64 rfl (by decide) H (fun z64 H => ?_)
              refine J.iload_n (i := 3) C dX7_reads_65 rfl rfl ?_
              refine J.iconst C (-1) dX7_reads_66 (by decide) ?_
              refine J.icmp_neL (tgt := 72) C dX7_reads_67 (by decide) H (fun c_67 H => ?_) (fun c_67 H => ?_)
              · refine J.aload_n (i := 0) C dX7_reads_72 rfl rfl ?_
                refine J.iload_n (i := 1) C dX7_reads_73 rfl rfl ?_
                refine J.iload_n (i := 2) C dX7_reads_74 rfl rfl ?_
                refine J.iload_n (i := 3) C dX7_reads_75 rfl rfl ?_
                refine J.callVBI (hp := (mkh g bd pre rst)) C rfl (sp_X7_made hl _ _ _) rfl kMl_X7_111 mdX7_made (rm_lo (Nat.le_of_ble_eq_true rfl) (Nat.le_of_ble_eq_true rfl)) mk_0 rfl rfl (Nat.le_of_ble_eq_true rfl) dX7_reads_76 ⟨(Nat.le_of_ble_eq_true rfl), (Nat.le_of_ble_eq_true rfl)⟩ hx (Nat.le_of_ble_eq_true rfl) (Nat.le_of_ble_eq_true rfl) H (fun r76 s76 H => ?_)
                exact J.iretL C hr (Nat.le_of_ble_eq_true rfl) (Nat.le_of_ble_eq_true rfl) dX7_reads_79 H
              · refine J.iconst C (-1) dX7_reads_70 (by decide) ?_
                exact J.iretL C hr (Nat.le_of_ble_eq_true rfl) (Nat.le_of_ble_eq_true rfl) dX7_reads_71 H
          · refine J.iconst C (-1) dX7_reads_52 (by decide) ?_
            exact J.iretL C hr (Nat.le_of_ble_eq_true rfl) (Nat.le_of_ble_eq_true rfl) dX7_reads_53 H

/-! X7_makesWork -/
def B_X7_makesWork_27 (σ : MS) (l1 : Int32) (t0 : Int32) : Res MS Int32 := (lt t0 fun z27 => (if z27 = (-1 : Int32) then (lt (tI σ 0 l1) fun s42 => (some (.inl z27, s42))) else (lt (tI σ 0 (σ.1 0)) fun s42 => (some (.inl z27, s42)))))
set_option maxRecDepth 100000 in
theorem bl_X7_makesWork_27 {l : Launch} (hl : l.stackTraces = false) {g : Gy} {bd : Nat → Nat} {pre rst : va_W} {p : Program} {e : Env} {s : State} {m : MethodId} {args : Array Value} {below : List Frame} {meth : Method} {c : Code} {A : Nat → Prop} (C : Cx p l s m args meth c g A yX7_makesWork.cls cX7_makesWork 3) (hr : meth.sig.returnType = some .int) (hx : ∀ x ∈ c.exceptionTable.toList, False) {rr : (Int32 ⊕ String) × MS} (σ : MS) (l1 : Int32) (t0 : Int32) (H : B_X7_makesWork_27 σ l1 t0 = some rr) : J p l e (rmOf 45 0 0) s m args below meth c g A 3 0 0 (QR mI g A (mkh g bd pre rst) rr below args s 0 0) 27 [(0, .ref (bd 0)), (1, .int l1)] [.int t0] ((mkh g bd pre rst) σ) := by
  unfold B_X7_makesWork_27 at H
  refine J.istore_nL (i := 2) C dX7_makesWork_27 rfl (by decide) H (fun z27 H => ?_)
  refine J.aload_n (i := 0) C dX7_makesWork_28 rfl rfl ?_
  refine J.iload_n (i := 2) C dX7_makesWork_29 rfl rfl ?_
  refine J.iconst C (-1) dX7_makesWork_30 (by decide) ?_
  refine J.icmp_neL (tgt := 38) C dX7_makesWork_31 (by decide) H (fun c_31 H => ?_) (fun c_31 H => ?_)
  · refine J.aload_n (i := 0) C dX7_makesWork_38 rfl rfl ?_
    refine J.get C (pre.length + 0) 5 mk_0 rfl (by decide) kFl_X7_87 inB_X7 rfl dX7_makesWork_39 ?_
    refine J.putL (hp := (mkh g bd pre rst)) C (pre.length + 0) 5 mk_0 rfl (by decide) kFl_X7_87 inB_X7 tyX7 tyX7_ok nmX7 rfl rfl rfl rfl (Nat.le_of_ble_eq_true rfl) dX7_makesWork_42 (mkI_0 _) H (fun s42 H => ?_)
    refine J.iload_n (i := 2) C dX7_makesWork_45 rfl rfl ?_
    exact J.iretL C hr (Nat.le_of_ble_eq_true rfl) (Nat.le_of_ble_eq_true rfl) dX7_makesWork_46 H
  · refine J.iload_n (i := 1) C dX7_makesWork_34 rfl rfl ?_
    refine J.goto (tgt := 42) C dX7_makesWork_35 (by decide) ?_
    refine J.putL (hp := (mkh g bd pre rst)) C (pre.length + 0) 5 mk_0 rfl (by decide) kFl_X7_87 inB_X7 tyX7 tyX7_ok nmX7 rfl rfl rfl rfl (Nat.le_of_ble_eq_true rfl) dX7_makesWork_42 (mkI_0 _) H (fun s42 H => ?_)
    refine J.iload_n (i := 2) C dX7_makesWork_45 rfl rfl ?_
    exact J.iretL C hr (Nat.le_of_ble_eq_true rfl) (Nat.le_of_ble_eq_true rfl) dX7_makesWork_46 H
abbrev mX7_makesWork : MD := (yX7_makesWork, cX7_makesWork, 3, some .int)
theorem mdX7_makesWork : MDv mX7_makesWork RX7 0 := ⟨kIm_X7_makesWork, kSe_X7_makesWork, kIn_X7, kCo_X7_makesWork, by decide +kernel⟩
def P_X7_makesWork (σ : MS)  : Res MS Int32 := (lt (σ.1 0) fun z4 => (lt (tI σ 7 (0 : Int32)) fun s7 => (if (s7.1 6) ≤ (30 : Int32) then (bd (P_X7_reads 40 s7 ) fun r24 s24 => (B_X7_makesWork_27 s24 z4 r24)) else (B_X7_makesWork_27 s7 z4 (-1 : Int32)))))
set_option maxRecDepth 100000 in
theorem sp_X7_makesWork {l : Launch} (hl : l.stackTraces = false) {g : Gy} {bd : Nat → Nat} {pre rst : va_W} {σ : MS}  : SpR l mX7_makesWork 45 0 0 mI g [.ref (bd 0)] (mkh g bd pre rst) σ (P_X7_makesWork σ ) := by
  refine SpR.of hl (by decide) (Nat.le_of_ble_eq_true rfl) (fun rr H p e s m args below meth c A C hr hx => ?_)
  unfold P_X7_makesWork at H
  refine J.lw (lv' := [(0, .ref (bd 0))]) ⟨rfl, trivial⟩ ?_
  refine J.aload_n (i := 0) C dX7_makesWork_0 rfl rfl ?_
  refine J.get C (pre.length + 0) 5 mk_0 rfl (by decide) kFl_X7_87 inB_X7 rfl dX7_makesWork_1 ?_
  refine J.istore_nL (i := 1) C dX7_makesWork_4 rfl (by decide) H (fun z4 H => ?_)
  refine J.aload_n (i := 0) C dX7_makesWork_5 rfl rfl ?_
  refine J.iconst C (0) dX7_makesWork_6 (by decide) ?_
  refine J.putL (hp := (mkh g bd pre rst)) C (pre.length + 0) 25 mk_0 rfl (by decide) kFl_X7_121 inB_X7 tyX7 tyX7_ok nmX7 rfl rfl rfl rfl (Nat.le_of_ble_eq_true rfl) dX7_makesWork_7 (mkI_7 _) H (fun s7 H => ?_)
  refine J.aload_n (i := 0) C dX7_makesWork_10 rfl rfl ?_
  refine J.get C (pre.length + 0) 24 mk_0 rfl (by decide) kFl_X7_114 inB_X7 rfl dX7_makesWork_11 ?_
  refine J.bipush C (30) dX7_makesWork_14 (by decide) ?_
  refine J.icmp_leL (tgt := 23) C dX7_makesWork_16 (by decide) H (fun c_16 H => ?_) (fun c_16 H => ?_)
  · refine J.aload_n (i := 0) C dX7_makesWork_23 rfl rfl ?_
    refine J.callVBI (hp := (mkh g bd pre rst)) C rfl (sp_X7_reads hl 40 _ ) rfl kMl_X7_124 mdX7_reads ⟨(Nat.le_of_ble_eq_true rfl), (Nat.le_of_ble_eq_true rfl)⟩ mk_0 rfl rfl (Nat.le_of_ble_eq_true rfl) dX7_makesWork_24 ⟨(Nat.le_of_ble_eq_true rfl), (Nat.le_of_ble_eq_true rfl)⟩ hx (Nat.le_of_ble_eq_true rfl) (Nat.le_of_ble_eq_true rfl) H (fun r24 s24 H => ?_)
    refine J.widen (k := 0) (n := 0) (Nat.le_of_ble_eq_true rfl) (Nat.le_of_ble_eq_true rfl) ?_
    refine J.lw (lv' := [(0, .ref (bd 0)), (1, .int z4)]) ⟨rfl, rfl, trivial⟩ ?_
    exact bl_X7_makesWork_27 hl C hr hx  _ _ _  H
  · refine J.iconst C (-1) dX7_makesWork_19 (by decide) ?_
    refine J.goto (tgt := 27) C dX7_makesWork_20 (by decide) ?_
    refine J.widen (k := 0) (n := 0) (Nat.le_of_ble_eq_true rfl) (Nat.le_of_ble_eq_true rfl) ?_
    refine J.lw (lv' := [(0, .ref (bd 0)), (1, .int z4)]) ⟨rfl, rfl, trivial⟩ ?_
    exact bl_X7_makesWork_27 hl C hr hx  _ _ _  H

/-! X7_letter -/
abbrev mX7_letter : MD := (yX7_letter, cX7_letter, 2, some .int)
theorem mdX7_letter : MDv mX7_letter RX7 1 := ⟨kIm_X7_letter, kSe_X7_letter, kIn_X7, kCo_X7_letter, by decide +kernel⟩
def P_X7_letter (σ : MS) (a1 : Int32) : Res MS Int32 := (if (F_X7_in σ a1 (0 : Int32) (4 : Int32)) = 0 then (bd (P_X7_raises σ (1 : Int32)) fun r26 s26 => (some (.inl r26, s26))) else (bd (P_X7_makes σ ((((97 : Int32) + a1)).toUInt32 % 65536).toInt32 (-1 : Int32) (-1 : Int32) (2 : Int32)) fun r18 s18 => (some (.inl r18, s18))))
set_option maxRecDepth 100000 in
theorem sp_X7_letter {l : Launch} (hl : l.stackTraces = false) {g : Gy} {bd : Nat → Nat} {pre rst : va_W} {σ : MS} (a1 : Int32) : SpR l mX7_letter 5 0 0 mI g [.ref (bd 0), .int a1] (mkh g bd pre rst) σ (P_X7_letter σ a1) := by
  refine SpR.of hl (by decide) (Nat.le_of_ble_eq_true rfl) (fun rr H p e s m args below meth c A C hr hx => ?_)
  unfold P_X7_letter at H
  refine J.lw (lv' := [(0, .ref (bd 0)), (1, .int a1)]) ⟨rfl, rfl, trivial⟩ ?_
  refine J.iload_n (i := 1) C dX7_letter_0 rfl rfl ?_
  refine J.iconst C (0) dX7_letter_1 (by decide) ?_
  refine J.iconst C (4) dX7_letter_2 (by decide) ?_
  refine J.callSI C (sp_X7_in hl _ _ _) rfl kMl_X7_90 mdX7_in ⟨(Nat.le_of_ble_eq_true rfl), (Nat.le_of_ble_eq_true rfl)⟩ rfl (Nat.le_of_ble_eq_true rfl) dX7_letter_3 ⟨(Nat.le_of_ble_eq_true rfl), (Nat.le_of_ble_eq_true rfl)⟩ ?_
  refine J.if_eqL (tgt := 24) C dX7_letter_6 (by decide) H (fun c_6 H => ?_) (fun c_6 H => ?_)
  · refine J.aload_n (i := 0) C dX7_letter_24 rfl rfl ?_
    refine J.iconst C (1) dX7_letter_25 (by decide) ?_
    refine J.callVBI (hp := (mkh g bd pre rst)) C rfl (sp_X7_raises hl _) rfl kMl_X7_132 mdX7_raises ⟨(Nat.le_of_ble_eq_true rfl), (Nat.le_of_ble_eq_true rfl)⟩ mk_0 rfl rfl (Nat.le_of_ble_eq_true rfl) dX7_letter_26 ⟨(Nat.le_of_ble_eq_true rfl), (Nat.le_of_ble_eq_true rfl)⟩ hx (Nat.le_of_ble_eq_true rfl) (Nat.le_of_ble_eq_true rfl) H (fun r26 s26 H => ?_)
    exact J.iretL C hr (Nat.le_of_ble_eq_true rfl) (Nat.le_of_ble_eq_true rfl) dX7_letter_29 H
  · refine J.aload_n (i := 0) C dX7_letter_9 rfl rfl ?_
    refine J.bipush C (97) dX7_letter_10 (by decide) ?_
    refine J.iload_n (i := 1) C dX7_letter_12 rfl rfl ?_
    refine J.iadd C dX7_letter_13 ?_
    refine J.i2c C _ dX7_letter_14 rfl ?_
    refine J.iconst C (-1) dX7_letter_15 (by decide) ?_
    refine J.iconst C (-1) dX7_letter_16 (by decide) ?_
    refine J.iconst C (2) dX7_letter_17 (by decide) ?_
    refine J.callVBI (hp := (mkh g bd pre rst)) C rfl (sp_X7_makes hl _ _ _ _) rfl kMl_X7_128 mdX7_makes ⟨(Nat.le_of_ble_eq_true rfl), (Nat.le_of_ble_eq_true rfl)⟩ mk_0 rfl rfl (Nat.le_of_ble_eq_true rfl) dX7_letter_18 ⟨(Nat.le_of_ble_eq_true rfl), (Nat.le_of_ble_eq_true rfl)⟩ hx (Nat.le_of_ble_eq_true rfl) (Nat.le_of_ble_eq_true rfl) H (fun r18 s18 H => ?_)
    refine J.goto (tgt := 29) C dX7_letter_21 (by decide) ?_
    exact J.iretL C hr (Nat.le_of_ble_eq_true rfl) (Nat.le_of_ble_eq_true rfl) dX7_letter_29 H

/-! X7_falsum -/
abbrev mX7_falsum : MD := (yX7_falsum, cX7_falsum, 1, some .int)
theorem mdX7_falsum : MDv mX7_falsum RX7 0 := ⟨kIm_X7_falsum, kSe_X7_falsum, kIn_X7, kCo_X7_falsum, by decide +kernel⟩
def P_X7_falsum (σ : MS)  : Res MS Int32 := (bd (P_X7_makes σ (70 : Int32) (-1 : Int32) (-1 : Int32) (1 : Int32)) fun r6 s6 => (some (.inl r6, s6)))
set_option maxRecDepth 100000 in
theorem sp_X7_falsum {l : Launch} (hl : l.stackTraces = false) {g : Gy} {bd : Nat → Nat} {pre rst : va_W} {σ : MS}  : SpR l mX7_falsum 5 0 0 mI g [.ref (bd 0)] (mkh g bd pre rst) σ (P_X7_falsum σ ) := by
  refine SpR.of hl (by decide) (Nat.le_of_ble_eq_true rfl) (fun rr H p e s m args below meth c A C hr hx => ?_)
  unfold P_X7_falsum at H
  refine J.lw (lv' := [(0, .ref (bd 0))]) ⟨rfl, trivial⟩ ?_
  refine J.aload_n (i := 0) C dX7_falsum_0 rfl rfl ?_
  refine J.bipush C (70) dX7_falsum_1 (by decide) ?_
  refine J.iconst C (-1) dX7_falsum_3 (by decide) ?_
  refine J.iconst C (-1) dX7_falsum_4 (by decide) ?_
  refine J.iconst C (1) dX7_falsum_5 (by decide) ?_
  refine J.callVBI (hp := (mkh g bd pre rst)) C rfl (sp_X7_makes hl _ _ _ _) rfl kMl_X7_128 mdX7_makes ⟨(Nat.le_of_ble_eq_true rfl), (Nat.le_of_ble_eq_true rfl)⟩ mk_0 rfl rfl (Nat.le_of_ble_eq_true rfl) dX7_falsum_6 ⟨(Nat.le_of_ble_eq_true rfl), (Nat.le_of_ble_eq_true rfl)⟩ hx (Nat.le_of_ble_eq_true rfl) (Nat.le_of_ble_eq_true rfl) H (fun r6 s6 H => ?_)
  exact J.iretL C hr (Nat.le_of_ble_eq_true rfl) (Nat.le_of_ble_eq_true rfl) dX7_falsum_9 H

/-! X7_negation -/
abbrev mX7_negation : MD := (yX7_negation, cX7_negation, 2, some .int)
theorem mdX7_negation : MDv mX7_negation RX7 1 := ⟨kIm_X7_negation, kSe_X7_negation, kIn_X7, kCo_X7_negation, by decide +kernel⟩
def P_X7_negation (σ : MS) (a1 : Int32) : Res MS Int32 := (if (F_X7_isFormula σ a1) = 0 then (bd (P_X7_raises σ (1 : Int32)) fun r22 s22 => (some (.inl r22, s22))) else (bd (P_X7_makes σ (78 : Int32) a1 (-1 : Int32) (2 : Int32)) fun r14 s14 => (some (.inl r14, s14))))
set_option maxRecDepth 100000 in
theorem sp_X7_negation {l : Launch} (hl : l.stackTraces = false) {g : Gy} {bd : Nat → Nat} {pre rst : va_W} {σ : MS} (a1 : Int32) : SpR l mX7_negation 5 0 0 mI g [.ref (bd 0), .int a1] (mkh g bd pre rst) σ (P_X7_negation σ a1) := by
  refine SpR.of hl (by decide) (Nat.le_of_ble_eq_true rfl) (fun rr H p e s m args below meth c A C hr hx => ?_)
  unfold P_X7_negation at H
  refine J.lw (lv' := [(0, .ref (bd 0)), (1, .int a1)]) ⟨rfl, rfl, trivial⟩ ?_
  refine J.aload_n (i := 0) C dX7_negation_0 rfl rfl ?_
  refine J.iload_n (i := 1) C dX7_negation_1 rfl rfl ?_
  refine J.callVI C (sp_X7_isFormula hl _) rfl kMl_X7_135 mdX7_isFormula ⟨(Nat.le_of_ble_eq_true rfl), (Nat.le_of_ble_eq_true rfl)⟩ mk_0 rfl rfl (Nat.le_of_ble_eq_true rfl) dX7_negation_2 ⟨(Nat.le_of_ble_eq_true rfl), (Nat.le_of_ble_eq_true rfl)⟩ ?_
  refine J.if_eqL (tgt := 20) C dX7_negation_5 (by decide) H (fun c_5 H => ?_) (fun c_5 H => ?_)
  · refine J.aload_n (i := 0) C dX7_negation_20 rfl rfl ?_
    refine J.iconst C (1) dX7_negation_21 (by decide) ?_
    refine J.callVBI (hp := (mkh g bd pre rst)) C rfl (sp_X7_raises hl _) rfl kMl_X7_132 mdX7_raises ⟨(Nat.le_of_ble_eq_true rfl), (Nat.le_of_ble_eq_true rfl)⟩ mk_0 rfl rfl (Nat.le_of_ble_eq_true rfl) dX7_negation_22 ⟨(Nat.le_of_ble_eq_true rfl), (Nat.le_of_ble_eq_true rfl)⟩ hx (Nat.le_of_ble_eq_true rfl) (Nat.le_of_ble_eq_true rfl) H (fun r22 s22 H => ?_)
    exact J.iretL C hr (Nat.le_of_ble_eq_true rfl) (Nat.le_of_ble_eq_true rfl) dX7_negation_25 H
  · refine J.aload_n (i := 0) C dX7_negation_8 rfl rfl ?_
    refine J.bipush C (78) dX7_negation_9 (by decide) ?_
    refine J.iload_n (i := 1) C dX7_negation_11 rfl rfl ?_
    refine J.iconst C (-1) dX7_negation_12 (by decide) ?_
    refine J.iconst C (2) dX7_negation_13 (by decide) ?_
    refine J.callVBI (hp := (mkh g bd pre rst)) C rfl (sp_X7_makes hl _ _ _ _) rfl kMl_X7_128 mdX7_makes ⟨(Nat.le_of_ble_eq_true rfl), (Nat.le_of_ble_eq_true rfl)⟩ mk_0 rfl rfl (Nat.le_of_ble_eq_true rfl) dX7_negation_14 ⟨(Nat.le_of_ble_eq_true rfl), (Nat.le_of_ble_eq_true rfl)⟩ hx (Nat.le_of_ble_eq_true rfl) (Nat.le_of_ble_eq_true rfl) H (fun r14 s14 H => ?_)
    refine J.goto (tgt := 25) C dX7_negation_17 (by decide) ?_
    exact J.iretL C hr (Nat.le_of_ble_eq_true rfl) (Nat.le_of_ble_eq_true rfl) dX7_negation_25 H

/-! X7_makesTwo -/
abbrev mX7_makesTwo : MD := (yX7_makesTwo, cX7_makesTwo, 4, some .int)
theorem mdX7_makesTwo : MDv mX7_makesTwo RX7 3 := ⟨kIm_X7_makesTwo, kSe_X7_makesTwo, kIn_X7, kCo_X7_makesTwo, by decide +kernel⟩
def P_X7_makesTwo (σ : MS) (a1 : Int32) (a2 : Int32) (a3 : Int32) : Res MS Int32 := (if (F_X7_isFormula σ a2) = 0 then (bd (P_X7_raises σ (1 : Int32)) fun r29 s29 => (some (.inl r29, s29))) else (if (F_X7_isFormula σ a3) = 0 then (bd (P_X7_raises σ (1 : Int32)) fun r29 s29 => (some (.inl r29, s29))) else (bd (P_X7_makes σ a1 a2 a3 (2 : Int32)) fun r21 s21 => (some (.inl r21, s21)))))
set_option maxRecDepth 100000 in
theorem sp_X7_makesTwo {l : Launch} (hl : l.stackTraces = false) {g : Gy} {bd : Nat → Nat} {pre rst : va_W} {σ : MS} (a1 : Int32) (a2 : Int32) (a3 : Int32) : SpR l mX7_makesTwo 5 0 0 mI g [.ref (bd 0), .int a1, .int a2, .int a3] (mkh g bd pre rst) σ (P_X7_makesTwo σ a1 a2 a3) := by
  refine SpR.of hl (by decide) (Nat.le_of_ble_eq_true rfl) (fun rr H p e s m args below meth c A C hr hx => ?_)
  unfold P_X7_makesTwo at H
  refine J.lw (lv' := [(0, .ref (bd 0)), (1, .int a1), (2, .int a2), (3, .int a3)]) ⟨rfl, rfl, rfl, rfl, trivial⟩ ?_
  refine J.aload_n (i := 0) C dX7_makesTwo_0 rfl rfl ?_
  refine J.iload_n (i := 2) C dX7_makesTwo_1 rfl rfl ?_
  refine J.callVI C (sp_X7_isFormula hl _) rfl kMl_X7_135 mdX7_isFormula ⟨(Nat.le_of_ble_eq_true rfl), (Nat.le_of_ble_eq_true rfl)⟩ mk_0 rfl rfl (Nat.le_of_ble_eq_true rfl) dX7_makesTwo_2 ⟨(Nat.le_of_ble_eq_true rfl), (Nat.le_of_ble_eq_true rfl)⟩ ?_
  refine J.if_eqL (tgt := 27) C dX7_makesTwo_5 (by decide) H (fun c_5 H => ?_) (fun c_5 H => ?_)
  · refine J.aload_n (i := 0) C dX7_makesTwo_27 rfl rfl ?_
    refine J.iconst C (1) dX7_makesTwo_28 (by decide) ?_
    refine J.callVBI (hp := (mkh g bd pre rst)) C rfl (sp_X7_raises hl _) rfl kMl_X7_132 mdX7_raises ⟨(Nat.le_of_ble_eq_true rfl), (Nat.le_of_ble_eq_true rfl)⟩ mk_0 rfl rfl (Nat.le_of_ble_eq_true rfl) dX7_makesTwo_29 ⟨(Nat.le_of_ble_eq_true rfl), (Nat.le_of_ble_eq_true rfl)⟩ hx (Nat.le_of_ble_eq_true rfl) (Nat.le_of_ble_eq_true rfl) H (fun r29 s29 H => ?_)
    exact J.iretL C hr (Nat.le_of_ble_eq_true rfl) (Nat.le_of_ble_eq_true rfl) dX7_makesTwo_32 H
  · refine J.aload_n (i := 0) C dX7_makesTwo_8 rfl rfl ?_
    refine J.iload_n (i := 3) C dX7_makesTwo_9 rfl rfl ?_
    refine J.callVI C (sp_X7_isFormula hl _) rfl kMl_X7_135 mdX7_isFormula ⟨(Nat.le_of_ble_eq_true rfl), (Nat.le_of_ble_eq_true rfl)⟩ mk_0 rfl rfl (Nat.le_of_ble_eq_true rfl) dX7_makesTwo_10 ⟨(Nat.le_of_ble_eq_true rfl), (Nat.le_of_ble_eq_true rfl)⟩ ?_
    refine J.if_eqL (tgt := 27) C dX7_makesTwo_13 (by decide) H (fun c_13 H => ?_) (fun c_13 H => ?_)
    · refine J.aload_n (i := 0) C dX7_makesTwo_27 rfl rfl ?_
      refine J.iconst C (1) dX7_makesTwo_28 (by decide) ?_
      refine J.callVBI (hp := (mkh g bd pre rst)) C rfl (sp_X7_raises hl _) rfl kMl_X7_132 mdX7_raises ⟨(Nat.le_of_ble_eq_true rfl), (Nat.le_of_ble_eq_true rfl)⟩ mk_0 rfl rfl (Nat.le_of_ble_eq_true rfl) dX7_makesTwo_29 ⟨(Nat.le_of_ble_eq_true rfl), (Nat.le_of_ble_eq_true rfl)⟩ hx (Nat.le_of_ble_eq_true rfl) (Nat.le_of_ble_eq_true rfl) H (fun r29 s29 H => ?_)
      exact J.iretL C hr (Nat.le_of_ble_eq_true rfl) (Nat.le_of_ble_eq_true rfl) dX7_makesTwo_32 H
    · refine J.aload_n (i := 0) C dX7_makesTwo_16 rfl rfl ?_
      refine J.iload_n (i := 1) C dX7_makesTwo_17 rfl rfl ?_
      refine J.iload_n (i := 2) C dX7_makesTwo_18 rfl rfl ?_
      refine J.iload_n (i := 3) C dX7_makesTwo_19 rfl rfl ?_
      refine J.iconst C (2) dX7_makesTwo_20 (by decide) ?_
      refine J.callVBI (hp := (mkh g bd pre rst)) C rfl (sp_X7_makes hl _ _ _ _) rfl kMl_X7_128 mdX7_makes ⟨(Nat.le_of_ble_eq_true rfl), (Nat.le_of_ble_eq_true rfl)⟩ mk_0 rfl rfl (Nat.le_of_ble_eq_true rfl) dX7_makesTwo_21 ⟨(Nat.le_of_ble_eq_true rfl), (Nat.le_of_ble_eq_true rfl)⟩ hx (Nat.le_of_ble_eq_true rfl) (Nat.le_of_ble_eq_true rfl) H (fun r21 s21 H => ?_)
      refine J.goto (tgt := 32) C dX7_makesTwo_24 (by decide) ?_
      exact J.iretL C hr (Nat.le_of_ble_eq_true rfl) (Nat.le_of_ble_eq_true rfl) dX7_makesTwo_32 H

/-! X7_conjunction -/
abbrev mX7_conjunction : MD := (yX7_conjunction, cX7_conjunction, 3, some .int)
theorem mdX7_conjunction : MDv mX7_conjunction RX7 2 := ⟨kIm_X7_conjunction, kSe_X7_conjunction, kIn_X7, kCo_X7_conjunction, by decide +kernel⟩
def P_X7_conjunction (σ : MS) (a1 : Int32) (a2 : Int32) : Res MS Int32 := (bd (P_X7_makesTwo σ (75 : Int32) a1 a2) fun r5 s5 => (some (.inl r5, s5)))
set_option maxRecDepth 100000 in
theorem sp_X7_conjunction {l : Launch} (hl : l.stackTraces = false) {g : Gy} {bd : Nat → Nat} {pre rst : va_W} {σ : MS} (a1 : Int32) (a2 : Int32) : SpR l mX7_conjunction 6 0 0 mI g [.ref (bd 0), .int a1, .int a2] (mkh g bd pre rst) σ (P_X7_conjunction σ a1 a2) := by
  refine SpR.of hl (by decide) (Nat.le_of_ble_eq_true rfl) (fun rr H p e s m args below meth c A C hr hx => ?_)
  unfold P_X7_conjunction at H
  refine J.lw (lv' := [(0, .ref (bd 0)), (1, .int a1), (2, .int a2)]) ⟨rfl, rfl, rfl, trivial⟩ ?_
  refine J.aload_n (i := 0) C dX7_conjunction_0 rfl rfl ?_
  refine J.bipush C (75) dX7_conjunction_1 (by decide) ?_
  refine J.iload_n (i := 1) C dX7_conjunction_3 rfl rfl ?_
  refine J.iload_n (i := 2) C dX7_conjunction_4 rfl rfl ?_
  refine J.callVBI (hp := (mkh g bd pre rst)) C rfl (sp_X7_makesTwo hl _ _ _) rfl kMl_X7_139 mdX7_makesTwo ⟨(Nat.le_of_ble_eq_true rfl), (Nat.le_of_ble_eq_true rfl)⟩ mk_0 rfl rfl (Nat.le_of_ble_eq_true rfl) dX7_conjunction_5 ⟨(Nat.le_of_ble_eq_true rfl), (Nat.le_of_ble_eq_true rfl)⟩ hx (Nat.le_of_ble_eq_true rfl) (Nat.le_of_ble_eq_true rfl) H (fun r5 s5 H => ?_)
  exact J.iretL C hr (Nat.le_of_ble_eq_true rfl) (Nat.le_of_ble_eq_true rfl) dX7_conjunction_8 H

/-! X7_disjunction -/
abbrev mX7_disjunction : MD := (yX7_disjunction, cX7_disjunction, 3, some .int)
theorem mdX7_disjunction : MDv mX7_disjunction RX7 2 := ⟨kIm_X7_disjunction, kSe_X7_disjunction, kIn_X7, kCo_X7_disjunction, by decide +kernel⟩
def P_X7_disjunction (σ : MS) (a1 : Int32) (a2 : Int32) : Res MS Int32 := (bd (P_X7_makesTwo σ (65 : Int32) a1 a2) fun r5 s5 => (some (.inl r5, s5)))
set_option maxRecDepth 100000 in
theorem sp_X7_disjunction {l : Launch} (hl : l.stackTraces = false) {g : Gy} {bd : Nat → Nat} {pre rst : va_W} {σ : MS} (a1 : Int32) (a2 : Int32) : SpR l mX7_disjunction 6 0 0 mI g [.ref (bd 0), .int a1, .int a2] (mkh g bd pre rst) σ (P_X7_disjunction σ a1 a2) := by
  refine SpR.of hl (by decide) (Nat.le_of_ble_eq_true rfl) (fun rr H p e s m args below meth c A C hr hx => ?_)
  unfold P_X7_disjunction at H
  refine J.lw (lv' := [(0, .ref (bd 0)), (1, .int a1), (2, .int a2)]) ⟨rfl, rfl, rfl, trivial⟩ ?_
  refine J.aload_n (i := 0) C dX7_disjunction_0 rfl rfl ?_
  refine J.bipush C (65) dX7_disjunction_1 (by decide) ?_
  refine J.iload_n (i := 1) C dX7_disjunction_3 rfl rfl ?_
  refine J.iload_n (i := 2) C dX7_disjunction_4 rfl rfl ?_
  refine J.callVBI (hp := (mkh g bd pre rst)) C rfl (sp_X7_makesTwo hl _ _ _) rfl kMl_X7_139 mdX7_makesTwo ⟨(Nat.le_of_ble_eq_true rfl), (Nat.le_of_ble_eq_true rfl)⟩ mk_0 rfl rfl (Nat.le_of_ble_eq_true rfl) dX7_disjunction_5 ⟨(Nat.le_of_ble_eq_true rfl), (Nat.le_of_ble_eq_true rfl)⟩ hx (Nat.le_of_ble_eq_true rfl) (Nat.le_of_ble_eq_true rfl) H (fun r5 s5 H => ?_)
  exact J.iretL C hr (Nat.le_of_ble_eq_true rfl) (Nat.le_of_ble_eq_true rfl) dX7_disjunction_8 H

/-! X7_implication -/
abbrev mX7_implication : MD := (yX7_implication, cX7_implication, 3, some .int)
theorem mdX7_implication : MDv mX7_implication RX7 2 := ⟨kIm_X7_implication, kSe_X7_implication, kIn_X7, kCo_X7_implication, by decide +kernel⟩
def P_X7_implication (σ : MS) (a1 : Int32) (a2 : Int32) : Res MS Int32 := (bd (P_X7_makesTwo σ (67 : Int32) a1 a2) fun r5 s5 => (some (.inl r5, s5)))
set_option maxRecDepth 100000 in
theorem sp_X7_implication {l : Launch} (hl : l.stackTraces = false) {g : Gy} {bd : Nat → Nat} {pre rst : va_W} {σ : MS} (a1 : Int32) (a2 : Int32) : SpR l mX7_implication 6 0 0 mI g [.ref (bd 0), .int a1, .int a2] (mkh g bd pre rst) σ (P_X7_implication σ a1 a2) := by
  refine SpR.of hl (by decide) (Nat.le_of_ble_eq_true rfl) (fun rr H p e s m args below meth c A C hr hx => ?_)
  unfold P_X7_implication at H
  refine J.lw (lv' := [(0, .ref (bd 0)), (1, .int a1), (2, .int a2)]) ⟨rfl, rfl, rfl, trivial⟩ ?_
  refine J.aload_n (i := 0) C dX7_implication_0 rfl rfl ?_
  refine J.bipush C (67) dX7_implication_1 (by decide) ?_
  refine J.iload_n (i := 1) C dX7_implication_3 rfl rfl ?_
  refine J.iload_n (i := 2) C dX7_implication_4 rfl rfl ?_
  refine J.callVBI (hp := (mkh g bd pre rst)) C rfl (sp_X7_makesTwo hl _ _ _) rfl kMl_X7_139 mdX7_makesTwo ⟨(Nat.le_of_ble_eq_true rfl), (Nat.le_of_ble_eq_true rfl)⟩ mk_0 rfl rfl (Nat.le_of_ble_eq_true rfl) dX7_implication_5 ⟨(Nat.le_of_ble_eq_true rfl), (Nat.le_of_ble_eq_true rfl)⟩ hx (Nat.le_of_ble_eq_true rfl) (Nat.le_of_ble_eq_true rfl) H (fun r5 s5 H => ?_)
  exact J.iretL C hr (Nat.le_of_ble_eq_true rfl) (Nat.le_of_ble_eq_true rfl) dX7_implication_8 H

/-! X7_formulas -/
abbrev mX7_formulas : MD := (yX7_formulas, cX7_formulas, 1, some .int)
theorem mdX7_formulas : MDv mX7_formulas RX7 0 := ⟨kIm_X7_formulas, kSe_X7_formulas, kIn_X7, kCo_X7_formulas, by decide +kernel⟩
def P_X7_formulas (σ : MS)  : Res MS Int32 := (lt (tI σ 5 (0 : Int32)) fun s2 => (some (.inl (s2.1 0), s2)))
set_option maxRecDepth 100000 in
theorem sp_X7_formulas {l : Launch} (hl : l.stackTraces = false) {g : Gy} {bd : Nat → Nat} {pre rst : va_W} {σ : MS}  : SpR l mX7_formulas 1 0 0 mI g [.ref (bd 0)] (mkh g bd pre rst) σ (P_X7_formulas σ ) := by
  refine SpR.of hl (by decide) (Nat.le_of_ble_eq_true rfl) (fun rr H p e s m args below meth c A C hr hx => ?_)
  unfold P_X7_formulas at H
  refine J.lw (lv' := [(0, .ref (bd 0))]) ⟨rfl, trivial⟩ ?_
  refine J.aload_n (i := 0) C dX7_formulas_0 rfl rfl ?_
  refine J.iconst C (0) dX7_formulas_1 (by decide) ?_
  refine J.putL (hp := (mkh g bd pre rst)) C (pre.length + 0) 22 mk_0 rfl (by decide) kFl_X7_84 inB_X7 tyX7 tyX7_ok nmX7 rfl rfl rfl rfl (Nat.le_of_ble_eq_true rfl) dX7_formulas_2 (mkI_5 _) H (fun s2 H => ?_)
  refine J.aload_n (i := 0) C dX7_formulas_5 rfl rfl ?_
  refine J.get C (pre.length + 0) 5 mk_0 rfl (by decide) kFl_X7_87 inB_X7 rfl dX7_formulas_6 ?_
  exact J.iretL C hr (Nat.le_of_ble_eq_true rfl) (Nat.le_of_ble_eq_true rfl) dX7_formulas_9 H

/-! X7_lacks -/
abbrev mX7_lacks : MD := (yX7_lacks, cX7_lacks, 2, some .boolean)
theorem mdX7_lacks : MDv mX7_lacks RX7 1 := ⟨kIm_X7_lacks, kSe_X7_lacks, kIn_X7, kCo_X7_lacks, by decide +kernel⟩
def P_X7_lacks (σ : MS) (a1 : Int32) : Res MS Int32 := (if (F_X7_isFormula σ a1) = 0 then (lt (tI σ 5 (1 : Int32)) fun s14 => (if (s14.1 5) ≤ 0 then (some (.inl (0 : Int32), s14)) else (some (.inl (1 : Int32), s14)))) else (lt (tI σ 5 (0 : Int32)) fun s14 => (if (s14.1 5) ≤ 0 then (some (.inl (0 : Int32), s14)) else (some (.inl (1 : Int32), s14)))))
set_option maxRecDepth 100000 in
theorem sp_X7_lacks {l : Launch} (hl : l.stackTraces = false) {g : Gy} {bd : Nat → Nat} {pre rst : va_W} {σ : MS} (a1 : Int32) : SpR l mX7_lacks 3 0 0 mI g [.ref (bd 0), .int a1] (mkh g bd pre rst) σ (P_X7_lacks σ a1) := by
  refine SpR.of hl (by decide) (Nat.le_of_ble_eq_true rfl) (fun rr H p e s m args below meth c A C hr hx => ?_)
  unfold P_X7_lacks at H
  refine J.lw (lv' := [(0, .ref (bd 0)), (1, .int a1)]) ⟨rfl, rfl, trivial⟩ ?_
  refine J.aload_n (i := 0) C dX7_lacks_0 rfl rfl ?_
  refine J.aload_n (i := 0) C dX7_lacks_1 rfl rfl ?_
  refine J.iload_n (i := 1) C dX7_lacks_2 rfl rfl ?_
  refine J.callVI C (sp_X7_isFormula hl _) rfl kMl_X7_135 mdX7_isFormula ⟨(Nat.le_of_ble_eq_true rfl), (Nat.le_of_ble_eq_true rfl)⟩ mk_0 rfl rfl (Nat.le_of_ble_eq_true rfl) dX7_lacks_3 ⟨(Nat.le_of_ble_eq_true rfl), (Nat.le_of_ble_eq_true rfl)⟩ ?_
  refine J.if_eqL (tgt := 13) C dX7_lacks_6 (by decide) H (fun c_6 H => ?_) (fun c_6 H => ?_)
  · refine J.iconst C (1) dX7_lacks_13 (by decide) ?_
    refine J.putL (hp := (mkh g bd pre rst)) C (pre.length + 0) 22 mk_0 rfl (by decide) kFl_X7_84 inB_X7 tyX7 tyX7_ok nmX7 rfl rfl rfl rfl (Nat.le_of_ble_eq_true rfl) dX7_lacks_14 (mkI_5 _) H (fun s14 H => ?_)
    refine J.aload_n (i := 0) C dX7_lacks_17 rfl rfl ?_
    refine J.get C (pre.length + 0) 22 mk_0 rfl (by decide) kFl_X7_84 inB_X7 rfl dX7_lacks_18 ?_
    refine J.if_leL (tgt := 28) C dX7_lacks_21 (by decide) H (fun c_21 H => ?_) (fun c_21 H => ?_)
    · refine J.iconst C (0) dX7_lacks_28 (by decide) ?_
      exact J.zretL C hr rfl (Nat.le_of_ble_eq_true rfl) (Nat.le_of_ble_eq_true rfl) dX7_lacks_29 H
    · refine J.iconst C (1) dX7_lacks_24 (by decide) ?_
      refine J.goto (tgt := 29) C dX7_lacks_25 (by decide) ?_
      exact J.zretL C hr rfl (Nat.le_of_ble_eq_true rfl) (Nat.le_of_ble_eq_true rfl) dX7_lacks_29 H
  · refine J.iconst C (0) dX7_lacks_9 (by decide) ?_
    refine J.goto (tgt := 14) C dX7_lacks_10 (by decide) ?_
    refine J.putL (hp := (mkh g bd pre rst)) C (pre.length + 0) 22 mk_0 rfl (by decide) kFl_X7_84 inB_X7 tyX7 tyX7_ok nmX7 rfl rfl rfl rfl (Nat.le_of_ble_eq_true rfl) dX7_lacks_14 (mkI_5 _) H (fun s14 H => ?_)
    refine J.aload_n (i := 0) C dX7_lacks_17 rfl rfl ?_
    refine J.get C (pre.length + 0) 22 mk_0 rfl (by decide) kFl_X7_84 inB_X7 rfl dX7_lacks_18 ?_
    refine J.if_leL (tgt := 28) C dX7_lacks_21 (by decide) H (fun c_21 H => ?_) (fun c_21 H => ?_)
    · refine J.iconst C (0) dX7_lacks_28 (by decide) ?_
      exact J.zretL C hr rfl (Nat.le_of_ble_eq_true rfl) (Nat.le_of_ble_eq_true rfl) dX7_lacks_29 H
    · refine J.iconst C (1) dX7_lacks_24 (by decide) ?_
      refine J.goto (tgt := 29) C dX7_lacks_25 (by decide) ?_
      exact J.zretL C hr rfl (Nat.le_of_ble_eq_true rfl) (Nat.le_of_ble_eq_true rfl) dX7_lacks_29 H

/-! X7_sizeOf -/
abbrev mX7_sizeOf : MD := (yX7_sizeOf, cX7_sizeOf, 2, some .int)
theorem mdX7_sizeOf : MDv mX7_sizeOf RX7 1 := ⟨kIm_X7_sizeOf, kSe_X7_sizeOf, kIn_X7, kCo_X7_sizeOf, by decide +kernel⟩
def P_X7_sizeOf (σ : MS) (a1 : Int32) : Res MS Int32 := (bd (P_X7_lacks σ a1) fun r2 s2 => (if r2 = 0 then (gd a1 150 (some (.inl (s2.2.1 3 a1.toNatClampNeg), s2))) else (some (.inl (0 : Int32), s2))))
set_option maxRecDepth 100000 in
theorem sp_X7_sizeOf {l : Launch} (hl : l.stackTraces = false) {g : Gy} {bd : Nat → Nat} {pre rst : va_W} {σ : MS} (a1 : Int32) : SpR l mX7_sizeOf 4 0 0 mI g [.ref (bd 0), .int a1] (mkh g bd pre rst) σ (P_X7_sizeOf σ a1) := by
  refine SpR.of hl (by decide) (Nat.le_of_ble_eq_true rfl) (fun rr H p e s m args below meth c A C hr hx => ?_)
  unfold P_X7_sizeOf at H
  refine J.lw (lv' := [(0, .ref (bd 0)), (1, .int a1)]) ⟨rfl, rfl, trivial⟩ ?_
  refine J.aload_n (i := 0) C dX7_sizeOf_0 rfl rfl ?_
  refine J.iload_n (i := 1) C dX7_sizeOf_1 rfl rfl ?_
  refine J.callVBI (hp := (mkh g bd pre rst)) C rfl (sp_X7_lacks hl _) rfl kMl_X7_142 mdX7_lacks ⟨(Nat.le_of_ble_eq_true rfl), (Nat.le_of_ble_eq_true rfl)⟩ mk_0 rfl rfl (Nat.le_of_ble_eq_true rfl) dX7_sizeOf_2 ⟨(Nat.le_of_ble_eq_true rfl), (Nat.le_of_ble_eq_true rfl)⟩ hx (Nat.le_of_ble_eq_true rfl) (Nat.le_of_ble_eq_true rfl) H (fun r2 s2 H => ?_)
  refine J.if_eqL (tgt := 12) C dX7_sizeOf_5 (by decide) H (fun c_5 H => ?_) (fun c_5 H => ?_)
  · refine J.aload_n (i := 0) C dX7_sizeOf_12 rfl rfl ?_
    refine J.get C (pre.length + 0) 3 mk_0 rfl (by decide) kFl_X7_20 inB_X7 rfl dX7_sizeOf_13 ?_
    refine J.iload_n (i := 1) C dX7_sizeOf_16 rfl rfl ?_
    refine J.ialdL C (pre.length + 4) mk_4 dX7_sizeOf_17 H (fun H => ?_)
    exact J.iretL C hr (Nat.le_of_ble_eq_true rfl) (Nat.le_of_ble_eq_true rfl) dX7_sizeOf_18 H
  · refine J.iconst C (0) dX7_sizeOf_8 (by decide) ?_
    refine J.goto (tgt := 18) C dX7_sizeOf_9 (by decide) ?_
    exact J.iretL C hr (Nat.le_of_ble_eq_true rfl) (Nat.le_of_ble_eq_true rfl) dX7_sizeOf_18 H

/-! X7_symbolAt -/
def B_X7_symbolAt_41 (σ : MS) (l2 : Int32) (t0 : Int32) : Res MS Int32 := (lt (tI σ 5 t0) fun s41 => (if (s41.1 5) ≤ 0 then (gd l2 1000 (gc ((((s41.2.1 15 l2.toNatClampNeg)).toUInt32 % 65536).toInt32 = (s41.2.1 15 l2.toNatClampNeg)) (some (.inl (s41.2.1 15 l2.toNatClampNeg), s41)))) else (some (.inl (32 : Int32), s41))))
set_option maxRecDepth 100000 in
theorem bl_X7_symbolAt_41 {l : Launch} (hl : l.stackTraces = false) {g : Gy} {bd : Nat → Nat} {pre rst : va_W} {p : Program} {e : Env} {s : State} {m : MethodId} {args : Array Value} {below : List Frame} {meth : Method} {c : Code} {A : Nat → Prop} (C : Cx p l s m args meth c g A yX7_symbolAt.cls cX7_symbolAt 3) (hr : meth.sig.returnType = some .char) (hx : ∀ x ∈ c.exceptionTable.toList, False) {rr : (Int32 ⊕ String) × MS} (σ : MS) (l2 : Int32) (t0 : Int32) (H : B_X7_symbolAt_41 σ l2 t0 = some rr) : J p l e (rmOf 42 0 0) s m args below meth c g A 3 0 0 (QR mI g A (mkh g bd pre rst) rr below args s 0 0) 41 [(0, .ref (bd 0)), (2, .int l2)] [.int t0, .ref (bd 0)] ((mkh g bd pre rst) σ) := by
  unfold B_X7_symbolAt_41 at H
  refine J.putL (hp := (mkh g bd pre rst)) C (pre.length + 0) 22 mk_0 rfl (by decide) kFl_X7_84 inB_X7 tyX7 tyX7_ok nmX7 rfl rfl rfl rfl (Nat.le_of_ble_eq_true rfl) dX7_symbolAt_41 (mkI_5 _) H (fun s41 H => ?_)
  refine J.aload_n (i := 0) C dX7_symbolAt_44 rfl rfl ?_
  refine J.get C (pre.length + 0) 22 mk_0 rfl (by decide) kFl_X7_84 inB_X7 rfl dX7_symbolAt_45 ?_
  refine J.if_leL (tgt := 56) C dX7_symbolAt_48 (by decide) H (fun c_48 H => ?_) (fun c_48 H => ?_)
  · refine J.aload_n (i := 0) C dX7_symbolAt_56 rfl rfl ?_
    refine J.get C (pre.length + 0) 23 mk_0 rfl (by decide) kFl_X7_69 inB_X7 rfl dX7_symbolAt_57 ?_
    refine J.iload_n (i := 2) C dX7_symbolAt_60 rfl rfl ?_
    refine J.caldL C (pre.length + 16) mk_16 dX7_symbolAt_61 H (fun H => ?_)
    obtain ⟨hz, H⟩ := gc_some H
    exact J.zretL C hr (ncb hz) (Nat.le_of_ble_eq_true rfl) (Nat.le_of_ble_eq_true rfl) dX7_symbolAt_62 H
  · refine J.bipush C (32) dX7_symbolAt_51 (by decide) ?_
    refine J.goto (tgt := 62) C dX7_symbolAt_53 (by decide) ?_
    exact J.zretL C hr rfl (Nat.le_of_ble_eq_true rfl) (Nat.le_of_ble_eq_true rfl) dX7_symbolAt_62 H
abbrev mX7_symbolAt : MD := (yX7_symbolAt, cX7_symbolAt, 3, some .char)
theorem mdX7_symbolAt : MDv mX7_symbolAt RX7 2 := ⟨kIm_X7_symbolAt, kSe_X7_symbolAt, kIn_X7, kCo_X7_symbolAt, by decide +kernel⟩
def P_X7_symbolAt (σ : MS) (a1 : Int32) (a2 : Int32) : Res MS Int32 := (bd (P_X7_lacks σ a1) fun r2 s2 => (if r2 = 0 then (lt (tI s2 6 (0 : Int32)) fun s13 => (bd (P_X7_writes 40 s13 a1) fun _ s18 => (if (F_X7_in s18 a2 (0 : Int32) ((s18.1 6) - (1 : Int32))) = 0 then (B_X7_symbolAt_41 s18 a2 (2 : Int32)) else (B_X7_symbolAt_41 s18 a2 (0 : Int32))))) else (some (.inl (32 : Int32), s2))))
set_option maxRecDepth 100000 in
theorem sp_X7_symbolAt {l : Launch} (hl : l.stackTraces = false) {g : Gy} {bd : Nat → Nat} {pre rst : va_W} {σ : MS} (a1 : Int32) (a2 : Int32) : SpR l mX7_symbolAt 42 0 0 mI g [.ref (bd 0), .int a1, .int a2] (mkh g bd pre rst) σ (P_X7_symbolAt σ a1 a2) := by
  refine SpR.of hl (by decide) (Nat.le_of_ble_eq_true rfl) (fun rr H p e s m args below meth c A C hr hx => ?_)
  unfold P_X7_symbolAt at H
  refine J.lw (lv' := [(0, .ref (bd 0)), (1, .int a1), (2, .int a2)]) ⟨rfl, rfl, rfl, trivial⟩ ?_
  refine J.aload_n (i := 0) C dX7_symbolAt_0 rfl rfl ?_
  refine J.iload_n (i := 1) C dX7_symbolAt_1 rfl rfl ?_
  refine J.callVBI (hp := (mkh g bd pre rst)) C rfl (sp_X7_lacks hl _) rfl kMl_X7_142 mdX7_lacks ⟨(Nat.le_of_ble_eq_true rfl), (Nat.le_of_ble_eq_true rfl)⟩ mk_0 rfl rfl (Nat.le_of_ble_eq_true rfl) dX7_symbolAt_2 ⟨(Nat.le_of_ble_eq_true rfl), (Nat.le_of_ble_eq_true rfl)⟩ hx (Nat.le_of_ble_eq_true rfl) (Nat.le_of_ble_eq_true rfl) H (fun r2 s2 H => ?_)
  refine J.if_eqL (tgt := 11) C dX7_symbolAt_5 (by decide) H (fun c_5 H => ?_) (fun c_5 H => ?_)
  · refine J.aload_n (i := 0) C dX7_symbolAt_11 rfl rfl ?_
    refine J.iconst C (0) dX7_symbolAt_12 (by decide) ?_
    refine J.putL (hp := (mkh g bd pre rst)) C (pre.length + 0) 24 mk_0 rfl (by decide) kFl_X7_114 inB_X7 tyX7 tyX7_ok nmX7 rfl rfl rfl rfl (Nat.le_of_ble_eq_true rfl) dX7_symbolAt_13 (mkI_6 _) H (fun s13 H => ?_)
    refine J.aload_n (i := 0) C dX7_symbolAt_16 rfl rfl ?_
    refine J.iload_n (i := 1) C dX7_symbolAt_17 rfl rfl ?_
    refine J.callVBV (hp := (mkh g bd pre rst)) C rfl (sp_X7_writes hl 40 _ _) rfl kMl_X7_117 mdX7_writes ⟨(Nat.le_of_ble_eq_true rfl), (Nat.le_of_ble_eq_true rfl)⟩ mk_0 rfl rfl (Nat.le_of_ble_eq_true rfl) dX7_symbolAt_18 ⟨(Nat.le_of_ble_eq_true rfl), (Nat.le_of_ble_eq_true rfl)⟩ hx (Nat.le_of_ble_eq_true rfl) (Nat.le_of_ble_eq_true rfl) H (fun _ s18 H => ?_)
    refine J.aload_n (i := 0) C dX7_symbolAt_21 rfl rfl ?_
    refine J.iload_n (i := 2) C dX7_symbolAt_22 rfl rfl ?_
    refine J.iconst C (0) dX7_symbolAt_23 (by decide) ?_
    refine J.aload_n (i := 0) C dX7_symbolAt_24 rfl rfl ?_
    refine J.get C (pre.length + 0) 24 mk_0 rfl (by decide) kFl_X7_114 inB_X7 rfl dX7_symbolAt_25 ?_
    refine J.iconst C (1) dX7_symbolAt_28 (by decide) ?_
    refine J.isub C dX7_symbolAt_29 ?_
    refine J.callSI C (sp_X7_in hl _ _ _) rfl kMl_X7_90 mdX7_in ⟨(Nat.le_of_ble_eq_true rfl), (Nat.le_of_ble_eq_true rfl)⟩ rfl (Nat.le_of_ble_eq_true rfl) dX7_symbolAt_30 ⟨(Nat.le_of_ble_eq_true rfl), (Nat.le_of_ble_eq_true rfl)⟩ ?_
    refine J.if_eqL (tgt := 40) C dX7_symbolAt_33 (by decide) H (fun c_33 H => ?_) (fun c_33 H => ?_)
    · refine J.iconst C (2) dX7_symbolAt_40 (by decide) ?_
      refine J.widen (k := 0) (n := 0) (Nat.le_of_ble_eq_true rfl) (Nat.le_of_ble_eq_true rfl) ?_
      refine J.lw (lv' := [(0, .ref (bd 0)), (2, .int a2)]) ⟨rfl, rfl, trivial⟩ ?_
      exact bl_X7_symbolAt_41 hl C hr hx  _ _ _  H
    · refine J.iconst C (0) dX7_symbolAt_36 (by decide) ?_
      refine J.goto (tgt := 41) C dX7_symbolAt_37 (by decide) ?_
      refine J.widen (k := 0) (n := 0) (Nat.le_of_ble_eq_true rfl) (Nat.le_of_ble_eq_true rfl) ?_
      refine J.lw (lv' := [(0, .ref (bd 0)), (2, .int a2)]) ⟨rfl, rfl, trivial⟩ ?_
      exact bl_X7_symbolAt_41 hl C hr hx  _ _ _  H
  · refine J.bipush C (32) dX7_symbolAt_8 (by decide) ?_
    exact J.zretL C hr rfl (Nat.le_of_ble_eq_true rfl) (Nat.le_of_ble_eq_true rfl) dX7_symbolAt_10 H

/-! X7_bind -/
def B_X7_bind_27 (σ : MS) (l1 : Int32) (l2 : Int32) (t0 : Int32) : Res MS Int32 := (lt (tI σ 5 t0) fun s27 => (if (s27.1 5) ≤ 0 then (gd l1 5 (lt (s27.2.1 5 l1.toNatClampNeg) fun z45 => (gd l1 5 (lt (tA s27 5 (upd (s27.2.1 5) l1.toNatClampNeg l2)) fun s52 => (some (.inl z45, s52)))))) else (some (.inl (0 : Int32), s27))))
set_option maxRecDepth 100000 in
theorem bl_X7_bind_27 {l : Launch} (hl : l.stackTraces = false) {g : Gy} {bd : Nat → Nat} {pre rst : va_W} {p : Program} {e : Env} {s : State} {m : MethodId} {args : Array Value} {below : List Frame} {meth : Method} {c : Code} {A : Nat → Prop} (C : Cx p l s m args meth c g A yX7_bind.cls cX7_bind 4) (hr : meth.sig.returnType = some .int) (hx : ∀ x ∈ c.exceptionTable.toList, False) {rr : (Int32 ⊕ String) × MS} (σ : MS) (l1 : Int32) (l2 : Int32) (t0 : Int32) (H : B_X7_bind_27 σ l1 l2 t0 = some rr) : J p l e (rmOf 3 0 0) s m args below meth c g A 4 0 0 (QR mI g A (mkh g bd pre rst) rr below args s 0 0) 27 [(0, .ref (bd 0)), (1, .int l1), (2, .int l2)] [.int t0, .ref (bd 0)] ((mkh g bd pre rst) σ) := by
  unfold B_X7_bind_27 at H
  refine J.putL (hp := (mkh g bd pre rst)) C (pre.length + 0) 22 mk_0 rfl (by decide) kFl_X7_84 inB_X7 tyX7 tyX7_ok nmX7 rfl rfl rfl rfl (Nat.le_of_ble_eq_true rfl) dX7_bind_27 (mkI_5 _) H (fun s27 H => ?_)
  refine J.aload_n (i := 0) C dX7_bind_30 rfl rfl ?_
  refine J.get C (pre.length + 0) 22 mk_0 rfl (by decide) kFl_X7_84 inB_X7 rfl dX7_bind_31 ?_
  refine J.if_leL (tgt := 39) C dX7_bind_34 (by decide) H (fun c_34 H => ?_) (fun c_34 H => ?_)
  · refine J.aload_n (i := 0) C dX7_bind_39 rfl rfl ?_
    refine J.get C (pre.length + 0) 6 mk_0 rfl (by decide) kFl_X7_26 inB_X7 rfl dX7_bind_40 ?_
    refine J.iload_n (i := 1) C dX7_bind_43 rfl rfl ?_
    refine J.ialdL C (pre.length + 6) mk_6 dX7_bind_44 H (fun H => ?_)
    refine J.istore_nL (i := 3) C dX7_bind_45 rfl (by decide) H (fun z45 H => ?_)
    refine J.aload_n (i := 0) C dX7_bind_46 rfl rfl ?_
    refine J.get C (pre.length + 0) 6 mk_0 rfl (by decide) kFl_X7_26 inB_X7 rfl dX7_bind_47 ?_
    refine J.iload_n (i := 1) C dX7_bind_50 rfl rfl ?_
    refine J.iload_n (i := 2) C dX7_bind_51 rfl rfl ?_
    refine J.iastL (hp := (mkh g bd pre rst)) C (pre.length + 6) mk_6 dX7_bind_52 (mkA_5 _) H (fun s52 H => ?_)
    refine J.iload_n (i := 3) C dX7_bind_53 rfl rfl ?_
    exact J.iretL C hr (Nat.le_of_ble_eq_true rfl) (Nat.le_of_ble_eq_true rfl) dX7_bind_54 H
  · refine J.iconst C (0) dX7_bind_37 (by decide) ?_
    exact J.iretL C hr (Nat.le_of_ble_eq_true rfl) (Nat.le_of_ble_eq_true rfl) dX7_bind_38 H
abbrev mX7_bind : MD := (yX7_bind, cX7_bind, 4, some .int)
theorem mdX7_bind : MDv mX7_bind RX7 2 := ⟨kIm_X7_bind, kSe_X7_bind, kIn_X7, kCo_X7_bind, by decide +kernel⟩
def P_X7_bind (σ : MS) (a1 : Int32) (a2 : Int32) : Res MS Int32 := (if (F_X7_in σ a1 (0 : Int32) (4 : Int32)) = 0 then (B_X7_bind_27 σ a1 a2 (1 : Int32)) else (if (F_X7_isFormula σ a2) = 0 then (B_X7_bind_27 σ a1 a2 (2 : Int32)) else (B_X7_bind_27 σ a1 a2 (0 : Int32))))
set_option maxRecDepth 100000 in
theorem sp_X7_bind {l : Launch} (hl : l.stackTraces = false) {g : Gy} {bd : Nat → Nat} {pre rst : va_W} {σ : MS} (a1 : Int32) (a2 : Int32) : SpR l mX7_bind 3 0 0 mI g [.ref (bd 0), .int a1, .int a2] (mkh g bd pre rst) σ (P_X7_bind σ a1 a2) := by
  refine SpR.of hl (by decide) (Nat.le_of_ble_eq_true rfl) (fun rr H p e s m args below meth c A C hr hx => ?_)
  unfold P_X7_bind at H
  refine J.lw (lv' := [(0, .ref (bd 0)), (1, .int a1), (2, .int a2)]) ⟨rfl, rfl, rfl, trivial⟩ ?_
  refine J.aload_n (i := 0) C dX7_bind_0 rfl rfl ?_
  refine J.iload_n (i := 1) C dX7_bind_1 rfl rfl ?_
  refine J.iconst C (0) dX7_bind_2 (by decide) ?_
  refine J.iconst C (4) dX7_bind_3 (by decide) ?_
  refine J.callSI C (sp_X7_in hl _ _ _) rfl kMl_X7_90 mdX7_in ⟨(Nat.le_of_ble_eq_true rfl), (Nat.le_of_ble_eq_true rfl)⟩ rfl (Nat.le_of_ble_eq_true rfl) dX7_bind_4 ⟨(Nat.le_of_ble_eq_true rfl), (Nat.le_of_ble_eq_true rfl)⟩ ?_
  refine J.if_neL (tgt := 14) C dX7_bind_7 (by decide) H (fun c_7 H => ?_) (fun c_7 H => ?_)
  · refine J.aload_n (i := 0) C dX7_bind_14 rfl rfl ?_
    refine J.iload_n (i := 2) C dX7_bind_15 rfl rfl ?_
    refine J.callVI C (sp_X7_isFormula hl _) rfl kMl_X7_135 mdX7_isFormula ⟨(Nat.le_of_ble_eq_true rfl), (Nat.le_of_ble_eq_true rfl)⟩ mk_0 rfl rfl (Nat.le_of_ble_eq_true rfl) dX7_bind_16 ⟨(Nat.le_of_ble_eq_true rfl), (Nat.le_of_ble_eq_true rfl)⟩ ?_
    refine J.if_neL (tgt := 26) C dX7_bind_19 (by decide) H (fun c_19 H => ?_) (fun c_19 H => ?_)
    · refine J.iconst C (0) dX7_bind_26 (by decide) ?_
      refine J.widen (k := 0) (n := 0) (Nat.le_of_ble_eq_true rfl) (Nat.le_of_ble_eq_true rfl) ?_
      refine J.lw (lv' := [(0, .ref (bd 0)), (1, .int a1), (2, .int a2)]) ⟨rfl, rfl, rfl, trivial⟩ ?_
      exact bl_X7_bind_27 hl C hr hx  _ _ _ _  H
    · refine J.iconst C (2) dX7_bind_22 (by decide) ?_
      refine J.goto (tgt := 27) C dX7_bind_23 (by decide) ?_
      refine J.widen (k := 0) (n := 0) (Nat.le_of_ble_eq_true rfl) (Nat.le_of_ble_eq_true rfl) ?_
      refine J.lw (lv' := [(0, .ref (bd 0)), (1, .int a1), (2, .int a2)]) ⟨rfl, rfl, rfl, trivial⟩ ?_
      exact bl_X7_bind_27 hl C hr hx  _ _ _ _  H
  · refine J.iconst C (1) dX7_bind_10 (by decide) ?_
    refine J.goto (tgt := 27) C dX7_bind_11 (by decide) ?_
    refine J.widen (k := 0) (n := 0) (Nat.le_of_ble_eq_true rfl) (Nat.le_of_ble_eq_true rfl) ?_
    refine J.lw (lv' := [(0, .ref (bd 0)), (1, .int a1), (2, .int a2)]) ⟨rfl, rfl, rfl, trivial⟩ ?_
    exact bl_X7_bind_27 hl C hr hx  _ _ _ _  H

/-! X7_mayCite -/
abbrev mX7_mayCite : MD := (yX7_mayCite, cX7_mayCite, 2, some .boolean)
theorem mdX7_mayCite : MDv mX7_mayCite RX7 1 := ⟨kIm_X7_mayCite, kSe_X7_mayCite, kIn_X7, kCo_X7_mayCite, by decide +kernel⟩
def P_X7_mayCite (σ : MS) (a1 : Int32) : Res MS Int32 := (gd a1 60 (if (σ.2.1 8 a1.toNatClampNeg) = (-1 : Int32) then (some (.inl (1 : Int32), σ)) else (gd a1 60 (gd (σ.2.1 8 a1.toNatClampNeg) 60 (if (σ.2.1 10 (σ.2.1 8 a1.toNatClampNeg).toNatClampNeg) = 0 then (some (.inl (0 : Int32), σ)) else (some (.inl (1 : Int32), σ)))))))
set_option maxRecDepth 100000 in
theorem sp_X7_mayCite {l : Launch} (hl : l.stackTraces = false) {g : Gy} {bd : Nat → Nat} {pre rst : va_W} {σ : MS} (a1 : Int32) : SpR l mX7_mayCite 1 0 0 mI g [.ref (bd 0), .int a1] (mkh g bd pre rst) σ (P_X7_mayCite σ a1) := by
  refine SpR.of hl (by decide) (Nat.le_of_ble_eq_true rfl) (fun rr H p e s m args below meth c A C hr hx => ?_)
  unfold P_X7_mayCite at H
  refine J.lw (lv' := [(0, .ref (bd 0)), (1, .int a1)]) ⟨rfl, rfl, trivial⟩ ?_
  refine J.aload_n (i := 0) C dX7_mayCite_0 rfl rfl ?_
  refine J.get C (pre.length + 0) 9 mk_0 rfl (by decide) kFl_X7_35 inB_X7 rfl dX7_mayCite_1 ?_
  refine J.iload_n (i := 1) C dX7_mayCite_4 rfl rfl ?_
  refine J.ialdL C (pre.length + 9) mk_9 dX7_mayCite_5 H (fun H => ?_)
  refine J.iconst C (-1) dX7_mayCite_6 (by decide) ?_
  refine J.icmp_eqL (tgt := 24) C dX7_mayCite_7 (by decide) H (fun c_7 H => ?_) (fun c_7 H => ?_)
  · refine J.iconst C (1) dX7_mayCite_24 (by decide) ?_
    refine J.goto (tgt := 29) C dX7_mayCite_25 (by decide) ?_
    exact J.zretL C hr rfl (Nat.le_of_ble_eq_true rfl) (Nat.le_of_ble_eq_true rfl) dX7_mayCite_29 H
  · refine J.aload_n (i := 0) C dX7_mayCite_10 rfl rfl ?_
    refine J.get C (pre.length + 0) 13 mk_0 rfl (by decide) kFl_X7_46 inB_X7 rfl dX7_mayCite_11 ?_
    refine J.aload_n (i := 0) C dX7_mayCite_14 rfl rfl ?_
    refine J.get C (pre.length + 0) 9 mk_0 rfl (by decide) kFl_X7_35 inB_X7 rfl dX7_mayCite_15 ?_
    refine J.iload_n (i := 1) C dX7_mayCite_18 rfl rfl ?_
    refine J.ialdL C (pre.length + 9) mk_9 dX7_mayCite_19 H (fun H => ?_)
    refine J.zaldL C (pre.length + 11) mk_11 dX7_mayCite_20 H (fun H => ?_)
    refine J.if_eqL (tgt := 28) C dX7_mayCite_21 (by decide) H (fun c_21 H => ?_) (fun c_21 H => ?_)
    · refine J.iconst C (0) dX7_mayCite_28 (by decide) ?_
      exact J.zretL C hr rfl (Nat.le_of_ble_eq_true rfl) (Nat.le_of_ble_eq_true rfl) dX7_mayCite_29 H
    · refine J.iconst C (1) dX7_mayCite_24 (by decide) ?_
      refine J.goto (tgt := 29) C dX7_mayCite_25 (by decide) ?_
      exact J.zretL C hr rfl (Nat.le_of_ble_eq_true rfl) (Nat.le_of_ble_eq_true rfl) dX7_mayCite_29 H

/-! X7_mayCiteBox -/
abbrev mX7_mayCiteBox : MD := (yX7_mayCiteBox, cX7_mayCiteBox, 2, some .boolean)
theorem mdX7_mayCiteBox : MDv mX7_mayCiteBox RX7 1 := ⟨kIm_X7_mayCiteBox, kSe_X7_mayCiteBox, kIn_X7, kCo_X7_mayCiteBox, by decide +kernel⟩
def P_X7_mayCiteBox (σ : MS) (a1 : Int32) : Res MS Int32 := (gd a1 60 (if (σ.2.1 10 a1.toNatClampNeg) = 0 then (gd a1 60 (if (σ.2.1 9 a1.toNatClampNeg) = (-1 : Int32) then (some (.inl (1 : Int32), σ)) else (gd a1 60 (gd (σ.2.1 9 a1.toNatClampNeg) 60 (if (σ.2.1 10 (σ.2.1 9 a1.toNatClampNeg).toNatClampNeg) = 0 then (some (.inl (0 : Int32), σ)) else (some (.inl (1 : Int32), σ))))))) else (some (.inl (0 : Int32), σ))))
set_option maxRecDepth 100000 in
theorem sp_X7_mayCiteBox {l : Launch} (hl : l.stackTraces = false) {g : Gy} {bd : Nat → Nat} {pre rst : va_W} {σ : MS} (a1 : Int32) : SpR l mX7_mayCiteBox 1 0 0 mI g [.ref (bd 0), .int a1] (mkh g bd pre rst) σ (P_X7_mayCiteBox σ a1) := by
  refine SpR.of hl (by decide) (Nat.le_of_ble_eq_true rfl) (fun rr H p e s m args below meth c A C hr hx => ?_)
  unfold P_X7_mayCiteBox at H
  refine J.lw (lv' := [(0, .ref (bd 0)), (1, .int a1)]) ⟨rfl, rfl, trivial⟩ ?_
  refine J.aload_n (i := 0) C dX7_mayCiteBox_0 rfl rfl ?_
  refine J.get C (pre.length + 0) 13 mk_0 rfl (by decide) kFl_X7_46 inB_X7 rfl dX7_mayCiteBox_1 ?_
  refine J.iload_n (i := 1) C dX7_mayCiteBox_4 rfl rfl ?_
  refine J.zaldL C (pre.length + 11) mk_11 dX7_mayCiteBox_5 H (fun H => ?_)
  refine J.if_neL (tgt := 37) C dX7_mayCiteBox_6 (by decide) H (fun c_6 H => ?_) (fun c_6 H => ?_)
  · refine J.iconst C (0) dX7_mayCiteBox_37 (by decide) ?_
    exact J.zretL C hr rfl (Nat.le_of_ble_eq_true rfl) (Nat.le_of_ble_eq_true rfl) dX7_mayCiteBox_38 H
  · refine J.aload_n (i := 0) C dX7_mayCiteBox_9 rfl rfl ?_
    refine J.get C (pre.length + 0) 12 mk_0 rfl (by decide) kFl_X7_43 inB_X7 rfl dX7_mayCiteBox_10 ?_
    refine J.iload_n (i := 1) C dX7_mayCiteBox_13 rfl rfl ?_
    refine J.ialdL C (pre.length + 10) mk_10 dX7_mayCiteBox_14 H (fun H => ?_)
    refine J.iconst C (-1) dX7_mayCiteBox_15 (by decide) ?_
    refine J.icmp_eqL (tgt := 33) C dX7_mayCiteBox_16 (by decide) H (fun c_16 H => ?_) (fun c_16 H => ?_)
    · refine J.iconst C (1) dX7_mayCiteBox_33 (by decide) ?_
      refine J.goto (tgt := 38) C dX7_mayCiteBox_34 (by decide) ?_
      exact J.zretL C hr rfl (Nat.le_of_ble_eq_true rfl) (Nat.le_of_ble_eq_true rfl) dX7_mayCiteBox_38 H
    · refine J.aload_n (i := 0) C dX7_mayCiteBox_19 rfl rfl ?_
      refine J.get C (pre.length + 0) 13 mk_0 rfl (by decide) kFl_X7_46 inB_X7 rfl dX7_mayCiteBox_20 ?_
      refine J.aload_n (i := 0) C dX7_mayCiteBox_23 rfl rfl ?_
      refine J.get C (pre.length + 0) 12 mk_0 rfl (by decide) kFl_X7_43 inB_X7 rfl dX7_mayCiteBox_24 ?_
      refine J.iload_n (i := 1) C dX7_mayCiteBox_27 rfl rfl ?_
      refine J.ialdL C (pre.length + 10) mk_10 dX7_mayCiteBox_28 H (fun H => ?_)
      refine J.zaldL C (pre.length + 11) mk_11 dX7_mayCiteBox_29 H (fun H => ?_)
      refine J.if_eqL (tgt := 37) C dX7_mayCiteBox_30 (by decide) H (fun c_30 H => ?_) (fun c_30 H => ?_)
      · refine J.iconst C (0) dX7_mayCiteBox_37 (by decide) ?_
        exact J.zretL C hr rfl (Nat.le_of_ble_eq_true rfl) (Nat.le_of_ble_eq_true rfl) dX7_mayCiteBox_38 H
      · refine J.iconst C (1) dX7_mayCiteBox_33 (by decide) ?_
        refine J.goto (tgt := 38) C dX7_mayCiteBox_34 (by decide) ?_
        exact J.zretL C hr rfl (Nat.le_of_ble_eq_true rfl) (Nat.le_of_ble_eq_true rfl) dX7_mayCiteBox_38 H

/-! X7_enters -/
def B_X7_enters_110 (σ : MS) : Res MS Int32 := (lt (tI σ 1 ((σ.1 1) + (1 : Int32))) fun s117 => (some (.inl ((s117.1 1) - (1 : Int32)), s117)))
set_option maxRecDepth 100000 in
theorem bl_X7_enters_110 {l : Launch} (hl : l.stackTraces = false) {g : Gy} {bd : Nat → Nat} {pre rst : va_W} {p : Program} {e : Env} {s : State} {m : MethodId} {args : Array Value} {below : List Frame} {meth : Method} {c : Code} {A : Nat → Prop} (C : Cx p l s m args meth c g A yX7_enters.cls cX7_enters 7) (hr : meth.sig.returnType = some .int) (hx : ∀ x ∈ c.exceptionTable.toList, False) {rr : (Int32 ⊕ String) × MS} (σ : MS) (H : B_X7_enters_110 σ = some rr) : J p l e (rmOf 1 0 0) s m args below meth c g A 7 0 0 (QR mI g A (mkh g bd pre rst) rr below args s 0 0) 110 [(0, .ref (bd 0))] [] ((mkh g bd pre rst) σ) := by
  unfold B_X7_enters_110 at H
  refine J.aload_n (i := 0) C dX7_enters_110 rfl rfl ?_
  refine J.dup C dX7_enters_111 rfl ?_
  refine J.get C (pre.length + 0) 11 mk_0 rfl (by decide) kFl_X7_94 inB_X7 rfl dX7_enters_112 ?_
  refine J.iconst C (1) dX7_enters_115 (by decide) ?_
  refine J.iadd C dX7_enters_116 ?_
  refine J.putL (hp := (mkh g bd pre rst)) C (pre.length + 0) 11 mk_0 rfl (by decide) kFl_X7_94 inB_X7 tyX7 tyX7_ok nmX7 rfl rfl rfl rfl (Nat.le_of_ble_eq_true rfl) dX7_enters_117 (mkI_1 _) H (fun s117 H => ?_)
  refine J.aload_n (i := 0) C dX7_enters_120 rfl rfl ?_
  refine J.get C (pre.length + 0) 11 mk_0 rfl (by decide) kFl_X7_94 inB_X7 rfl dX7_enters_121 ?_
  refine J.iconst C (1) dX7_enters_124 (by decide) ?_
  refine J.isub C dX7_enters_125 ?_
  exact J.iretL C hr (Nat.le_of_ble_eq_true rfl) (Nat.le_of_ble_eq_true rfl) dX7_enters_126 H
abbrev mX7_enters : MD := (yX7_enters, cX7_enters, 7, some .int)
theorem mdX7_enters : MDv mX7_enters RX7 6 := ⟨kIm_X7_enters, kSe_X7_enters, kIn_X7, kCo_X7_enters, by decide +kernel⟩
def P_X7_enters (σ : MS) (a1 : Int32) (a2 : Int32) (a3 : Int32) (a4 : Int32) (a5 : Int32) (a6 : Int32) : Res MS Int32 := (lt (tI σ 5 (0 : Int32)) fun s2 => (gd (s2.1 1) 60 (lt (tA s2 6 (upd (s2.2.1 6) (s2.1 1).toNatClampNeg a1)) fun s14 => (gd (s14.1 1) 60 (lt (tA s14 7 (upd (s14.2.1 7) (s14.1 1).toNatClampNeg (vp_nar .char a2))) fun s24 => (gd (s24.1 1) 60 (lt (tA s24 8 (upd (s24.2.1 8) (s24.1 1).toNatClampNeg (s24.1 3))) fun s37 => (gd (s37.1 1) 60 (gd (0 : Int32) 4 (lt (tC s37 (s37.1 1).toNatClampNeg (upd (s37.2.2.1 (s37.1 1).toNatClampNeg) (0 : Int32).toNatClampNeg a3)) fun s49 => (gd (s49.1 1) 60 (gd (1 : Int32) 4 (lt (tC s49 (s49.1 1).toNatClampNeg (upd (s49.2.2.1 (s49.1 1).toNatClampNeg) (1 : Int32).toNatClampNeg a4)) fun s62 => (gd (s62.1 1) 60 (gd (2 : Int32) 4 (lt (tC s62 (s62.1 1).toNatClampNeg (upd (s62.2.2.1 (s62.1 1).toNatClampNeg) (2 : Int32).toNatClampNeg a5)) fun s75 => (gd (s75.1 1) 60 (gd (3 : Int32) 4 (lt (tC s75 (s75.1 1).toNatClampNeg (upd (s75.2.2.1 (s75.1 1).toNatClampNeg) (3 : Int32).toNatClampNeg a6)) fun s88 => (if (s88.1 3) = (-1 : Int32) then (B_X7_enters_110 s88) else (gd (s88.1 3) 60 (lt (tA s88 12 (upd (s88.2.1 12) (s88.1 3).toNatClampNeg (s88.1 1))) fun s109 => (B_X7_enters_110 s109)))))))))))))))))))))))
set_option maxRecDepth 100000 in
theorem sp_X7_enters {l : Launch} (hl : l.stackTraces = false) {g : Gy} {bd : Nat → Nat} {pre rst : va_W} {σ : MS} (a1 : Int32) (a2 : Int32) (a3 : Int32) (a4 : Int32) (a5 : Int32) (a6 : Int32) : SpR l mX7_enters 1 0 0 mI g [.ref (bd 0), .int a1, .int a2, .int a3, .int a4, .int a5, .int a6] (mkh g bd pre rst) σ (P_X7_enters σ a1 a2 a3 a4 a5 a6) := by
  refine SpR.of hl (by decide) (Nat.le_of_ble_eq_true rfl) (fun rr H p e s m args below meth c A C hr hx => ?_)
  unfold P_X7_enters at H
  refine J.lw (lv' := [(0, .ref (bd 0)), (1, .int a1), (2, .int a2), (3, .int a3), (4, .int a4), (5, .int a5), (6, .int a6)]) ⟨rfl, rfl, rfl, rfl, rfl, rfl, rfl, trivial⟩ ?_
  refine J.aload_n (i := 0) C dX7_enters_0 rfl rfl ?_
  refine J.iconst C (0) dX7_enters_1 (by decide) ?_
  refine J.putL (hp := (mkh g bd pre rst)) C (pre.length + 0) 22 mk_0 rfl (by decide) kFl_X7_84 inB_X7 tyX7 tyX7_ok nmX7 rfl rfl rfl rfl (Nat.le_of_ble_eq_true rfl) dX7_enters_2 (mkI_5 _) H (fun s2 H => ?_)
  refine J.aload_n (i := 0) C dX7_enters_5 rfl rfl ?_
  refine J.get C (pre.length + 0) 7 mk_0 rfl (by decide) kFl_X7_29 inB_X7 rfl dX7_enters_6 ?_
  refine J.aload_n (i := 0) C dX7_enters_9 rfl rfl ?_
  refine J.get C (pre.length + 0) 11 mk_0 rfl (by decide) kFl_X7_94 inB_X7 rfl dX7_enters_10 ?_
  refine J.iload_n (i := 1) C dX7_enters_13 rfl rfl ?_
  refine J.iastL (hp := (mkh g bd pre rst)) C (pre.length + 7) mk_7 dX7_enters_14 (mkA_6 _) H (fun s14 H => ?_)
  refine J.aload_n (i := 0) C dX7_enters_15 rfl rfl ?_
  refine J.get C (pre.length + 0) 8 mk_0 rfl (by decide) kFl_X7_32 inB_X7 rfl dX7_enters_16 ?_
  refine J.aload_n (i := 0) C dX7_enters_19 rfl rfl ?_
  refine J.get C (pre.length + 0) 11 mk_0 rfl (by decide) kFl_X7_94 inB_X7 rfl dX7_enters_20 ?_
  refine J.iload_n (i := 2) C dX7_enters_23 rfl rfl ?_
  refine J.castL (hp := (mkh g bd pre rst)) C (pre.length + 8) mk_8 dX7_enters_24 (mkA_7 _) H (fun s24 H => ?_)
  refine J.aload_n (i := 0) C dX7_enters_25 rfl rfl ?_
  refine J.get C (pre.length + 0) 9 mk_0 rfl (by decide) kFl_X7_35 inB_X7 rfl dX7_enters_26 ?_
  refine J.aload_n (i := 0) C dX7_enters_29 rfl rfl ?_
  refine J.get C (pre.length + 0) 11 mk_0 rfl (by decide) kFl_X7_94 inB_X7 rfl dX7_enters_30 ?_
  refine J.aload_n (i := 0) C dX7_enters_33 rfl rfl ?_
  refine J.get C (pre.length + 0) 17 mk_0 rfl (by decide) kFl_X7_56 inB_X7 rfl dX7_enters_34 ?_
  refine J.iastL (hp := (mkh g bd pre rst)) C (pre.length + 9) mk_9 dX7_enters_37 (mkA_8 _) H (fun s37 H => ?_)
  refine J.aload_n (i := 0) C dX7_enters_38 rfl rfl ?_
  refine J.get C (pre.length + 0) 10 mk_0 rfl (by decide) kFl_X7_40 inB_X7 rfl dX7_enters_39 ?_
  refine J.aload_n (i := 0) C dX7_enters_42 rfl rfl ?_
  refine J.get C (pre.length + 0) 11 mk_0 rfl (by decide) kFl_X7_94 inB_X7 rfl dX7_enters_43 ?_
  refine J.aaldR C (pre.length + 21) mk_21 (fun j hj => if_pos hj) dX7_enters_46 H (fun hi_46_26 H => ?_)
  refine J.iconst C (0) dX7_enters_47 (by decide) ?_
  refine J.iload_n (i := 3) C dX7_enters_48 rfl rfl ?_
  refine J.iastL (hp := (mkh g bd pre rst)) C (pre.length + (23 + (s37.1 1).toNatClampNeg)) (gC_get (vp_lt hi_46_26)) dX7_enters_49 (gC_set (vp_lt hi_46_26) _) H (fun s49 H => ?_)
  refine J.aload_n (i := 0) C dX7_enters_50 rfl rfl ?_
  refine J.get C (pre.length + 0) 10 mk_0 rfl (by decide) kFl_X7_40 inB_X7 rfl dX7_enters_51 ?_
  refine J.aload_n (i := 0) C dX7_enters_54 rfl rfl ?_
  refine J.get C (pre.length + 0) 11 mk_0 rfl (by decide) kFl_X7_94 inB_X7 rfl dX7_enters_55 ?_
  refine J.aaldR C (pre.length + 21) mk_21 (fun j hj => if_pos hj) dX7_enters_58 H (fun hi_58_34 H => ?_)
  refine J.iconst C (1) dX7_enters_59 (by decide) ?_
  refine J.iload C dX7_enters_60 rfl ?_
  refine J.iastL (hp := (mkh g bd pre rst)) C (pre.length + (23 + (s49.1 1).toNatClampNeg)) (gC_get (vp_lt hi_58_34)) dX7_enters_62 (gC_set (vp_lt hi_58_34) _) H (fun s62 H => ?_)
  refine J.aload_n (i := 0) C dX7_enters_63 rfl rfl ?_
  refine J.get C (pre.length + 0) 10 mk_0 rfl (by decide) kFl_X7_40 inB_X7 rfl dX7_enters_64 ?_
  refine J.aload_n (i := 0) C dX7_enters_67 rfl rfl ?_
  refine J.get C (pre.length + 0) 11 mk_0 rfl (by decide) kFl_X7_94 inB_X7 rfl dX7_enters_68 ?_
  refine J.aaldR C (pre.length + 21) mk_21 (fun j hj => if_pos hj) dX7_enters_71 H (fun hi_71_42 H => ?_)
  refine J.iconst C (2) dX7_enters_72 (by decide) ?_
  refine J.iload C dX7_enters_73 rfl ?_
  refine J.iastL (hp := (mkh g bd pre rst)) C (pre.length + (23 + (s62.1 1).toNatClampNeg)) (gC_get (vp_lt hi_71_42)) dX7_enters_75 (gC_set (vp_lt hi_71_42) _) H (fun s75 H => ?_)
  refine J.aload_n (i := 0) C dX7_enters_76 rfl rfl ?_
  refine J.get C (pre.length + 0) 10 mk_0 rfl (by decide) kFl_X7_40 inB_X7 rfl dX7_enters_77 ?_
  refine J.aload_n (i := 0) C dX7_enters_80 rfl rfl ?_
  refine J.get C (pre.length + 0) 11 mk_0 rfl (by decide) kFl_X7_94 inB_X7 rfl dX7_enters_81 ?_
  refine J.aaldR C (pre.length + 21) mk_21 (fun j hj => if_pos hj) dX7_enters_84 H (fun hi_84_50 H => ?_)
  refine J.iconst C (3) dX7_enters_85 (by decide) ?_
  refine J.iload C dX7_enters_86 rfl ?_
  refine J.iastL (hp := (mkh g bd pre rst)) C (pre.length + (23 + (s75.1 1).toNatClampNeg)) (gC_get (vp_lt hi_84_50)) dX7_enters_88 (gC_set (vp_lt hi_84_50) _) H (fun s88 H => ?_)
  refine J.aload_n (i := 0) C dX7_enters_89 rfl rfl ?_
  refine J.get C (pre.length + 0) 17 mk_0 rfl (by decide) kFl_X7_56 inB_X7 rfl dX7_enters_90 ?_
  refine J.iconst C (-1) dX7_enters_93 (by decide) ?_
  refine J.icmp_eqL (tgt := 110) C dX7_enters_94 (by decide) H (fun c_94 H => ?_) (fun c_94 H => ?_)
  · refine J.widen (k := 0) (n := 0) (Nat.le_of_ble_eq_true rfl) (Nat.le_of_ble_eq_true rfl) ?_
    refine J.lw (lv' := [(0, .ref (bd 0))]) ⟨rfl, trivial⟩ ?_
    exact bl_X7_enters_110 hl C hr hx  _  H
  · refine J.aload_n (i := 0) C dX7_enters_97 rfl rfl ?_
    refine J.get C (pre.length + 0) 15 mk_0 rfl (by decide) kFl_X7_53 inB_X7 rfl dX7_enters_98 ?_
    refine J.aload_n (i := 0) C dX7_enters_101 rfl rfl ?_
    refine J.get C (pre.length + 0) 17 mk_0 rfl (by decide) kFl_X7_56 inB_X7 rfl dX7_enters_102 ?_
    refine J.aload_n (i := 0) C dX7_enters_105 rfl rfl ?_
    refine J.get C (pre.length + 0) 11 mk_0 rfl (by decide) kFl_X7_94 inB_X7 rfl dX7_enters_106 ?_
    refine J.iastL (hp := (mkh g bd pre rst)) C (pre.length + 13) mk_13 dX7_enters_109 (mkA_12 _) H (fun s109 H => ?_)
    refine J.widen (k := 0) (n := 0) (Nat.le_of_ble_eq_true rfl) (Nat.le_of_ble_eq_true rfl) ?_
    refine J.lw (lv' := [(0, .ref (bd 0))]) ⟨rfl, trivial⟩ ?_
    exact bl_X7_enters_110 hl C hr hx  _  H

/-! X7_entersMade -/
abbrev mX7_entersMade : MD := (yX7_entersMade, cX7_entersMade, 10, some .int)
theorem mdX7_entersMade : MDv mX7_entersMade RX7 8 := ⟨kIm_X7_entersMade, kSe_X7_entersMade, kIn_X7, kCo_X7_entersMade, by decide +kernel⟩
def P_X7_entersMade (σ : MS) (a1 : Int32) (a2 : Int32) (a3 : Int32) (a4 : Int32) (a5 : Int32) (a6 : Int32) (a7 : Int32) (a8 : Int32) : Res MS Int32 := (if (σ.1 1) = (60 : Int32) then (bd (P_X7_raises σ a4) fun r12 s12 => (some (.inl r12, s12))) else (bd (P_X7_made σ a1 a2 a3) fun r20 s20 => (lt r20 fun z23 => (if z23 = (-1 : Int32) then (bd (P_X7_raises s20 a4) fun r34 s34 => (some (.inl r34, s34))) else (bd (P_X7_enters s20 z23 a5 a6 a7 a8 (-1 : Int32)) fun r52 s52 => (some (.inl r52, s52)))))))
set_option maxRecDepth 100000 in
theorem sp_X7_entersMade {l : Launch} (hl : l.stackTraces = false) {g : Gy} {bd : Nat → Nat} {pre rst : va_W} {σ : MS} (a1 : Int32) (a2 : Int32) (a3 : Int32) (a4 : Int32) (a5 : Int32) (a6 : Int32) (a7 : Int32) (a8 : Int32) : SpR l mX7_entersMade 4 0 0 mI g [.ref (bd 0), .int a1, .int a2, .int a3, .int a4, .int a5, .int a6, .int a7, .int a8] (mkh g bd pre rst) σ (P_X7_entersMade σ a1 a2 a3 a4 a5 a6 a7 a8) := by
  refine SpR.of hl (by decide) (Nat.le_of_ble_eq_true rfl) (fun rr H p e s m args below meth c A C hr hx => ?_)
  unfold P_X7_entersMade at H
  refine J.lw (lv' := [(0, .ref (bd 0)), (1, .int a1), (2, .int a2), (3, .int a3), (4, .int a4), (5, .int a5), (6, .int a6), (7, .int a7), (8, .int a8)]) ⟨rfl, rfl, rfl, rfl, rfl, rfl, rfl, rfl, rfl, trivial⟩ ?_
  refine J.aload_n (i := 0) C dX7_entersMade_0 rfl rfl ?_
  refine J.get C (pre.length + 0) 11 mk_0 rfl (by decide) kFl_X7_94 inB_X7 rfl dX7_entersMade_1 ?_
  refine J.bipush C (60) dX7_entersMade_4 (by decide) ?_
  refine J.icmp_neL (tgt := 16) C dX7_entersMade_6 (by decide) H (fun c_6 H => ?_) (fun c_6 H => ?_)
  · refine J.aload_n (i := 0) C dX7_entersMade_16 rfl rfl ?_
    refine J.iload_n (i := 1) C dX7_entersMade_17 rfl rfl ?_
    refine J.iload_n (i := 2) C dX7_entersMade_18 rfl rfl ?_
    refine J.iload_n (i := 3) C dX7_entersMade_19 rfl rfl ?_
    refine J.callVBI (hp := (mkh g bd pre rst)) C rfl (sp_X7_made hl _ _ _) rfl kMl_X7_111 mdX7_made ⟨(Nat.le_of_ble_eq_true rfl), (Nat.le_of_ble_eq_true rfl)⟩ mk_0 rfl rfl (Nat.le_of_ble_eq_true rfl) dX7_entersMade_20 ⟨(Nat.le_of_ble_eq_true rfl), (Nat.le_of_ble_eq_true rfl)⟩ hx (Nat.le_of_ble_eq_true rfl) (Nat.le_of_ble_eq_true rfl) H (fun r20 s20 H => ?_)
    refine J.istoreL C dX7_entersMade_23 (by decide) H (fun z23 H => ?_)
    refine J.iload C dX7_entersMade_25 rfl ?_
    refine J.iconst C (-1) dX7_entersMade_27 (by decide) ?_
    refine J.icmp_neL (tgt := 40) C dX7_entersMade_28 (by decide) H (fun c_28 H => ?_) (fun c_28 H => ?_)
    · refine J.aload_n (i := 0) C dX7_entersMade_40 rfl rfl ?_
      refine J.iload C dX7_entersMade_41 rfl ?_
      refine J.iload C dX7_entersMade_43 rfl ?_
      refine J.iload C dX7_entersMade_45 rfl ?_
      refine J.iload C dX7_entersMade_47 rfl ?_
      refine J.iload C dX7_entersMade_49 rfl ?_
      refine J.iconst C (-1) dX7_entersMade_51 (by decide) ?_
      refine J.callVBI (hp := (mkh g bd pre rst)) C rfl (sp_X7_enters hl _ _ _ _ _ _) rfl kMl_X7_145 mdX7_enters ⟨(Nat.le_of_ble_eq_true rfl), (Nat.le_of_ble_eq_true rfl)⟩ mk_0 rfl rfl (Nat.le_of_ble_eq_true rfl) dX7_entersMade_52 ⟨(Nat.le_of_ble_eq_true rfl), (Nat.le_of_ble_eq_true rfl)⟩ hx (Nat.le_of_ble_eq_true rfl) (Nat.le_of_ble_eq_true rfl) H (fun r52 s52 H => ?_)
      exact J.iretL C hr (Nat.le_of_ble_eq_true rfl) (Nat.le_of_ble_eq_true rfl) dX7_entersMade_55 H
    · refine J.aload_n (i := 0) C dX7_entersMade_31 rfl rfl ?_
      refine J.iload C dX7_entersMade_32 rfl ?_
      refine J.callVBI (hp := (mkh g bd pre rst)) C rfl (sp_X7_raises hl _) rfl kMl_X7_132 mdX7_raises ⟨(Nat.le_of_ble_eq_true rfl), (Nat.le_of_ble_eq_true rfl)⟩ mk_0 rfl rfl (Nat.le_of_ble_eq_true rfl) dX7_entersMade_34 ⟨(Nat.le_of_ble_eq_true rfl), (Nat.le_of_ble_eq_true rfl)⟩ hx (Nat.le_of_ble_eq_true rfl) (Nat.le_of_ble_eq_true rfl) H (fun r34 s34 H => ?_)
      refine J.goto (tgt := 55) C dX7_entersMade_37 (by decide) ?_
      exact J.iretL C hr (Nat.le_of_ble_eq_true rfl) (Nat.le_of_ble_eq_true rfl) dX7_entersMade_55 H
  · refine J.aload_n (i := 0) C dX7_entersMade_9 rfl rfl ?_
    refine J.iload C dX7_entersMade_10 rfl ?_
    refine J.callVBI (hp := (mkh g bd pre rst)) C rfl (sp_X7_raises hl _) rfl kMl_X7_132 mdX7_raises ⟨(Nat.le_of_ble_eq_true rfl), (Nat.le_of_ble_eq_true rfl)⟩ mk_0 rfl rfl (Nat.le_of_ble_eq_true rfl) dX7_entersMade_12 ⟨(Nat.le_of_ble_eq_true rfl), (Nat.le_of_ble_eq_true rfl)⟩ hx (Nat.le_of_ble_eq_true rfl) (Nat.le_of_ble_eq_true rfl) H (fun r12 s12 H => ?_)
    exact J.iretL C hr (Nat.le_of_ble_eq_true rfl) (Nat.le_of_ble_eq_true rfl) dX7_entersMade_15 H

/-! X7_premise -/
def B_X7_premise_39 (σ : MS) (l1 : Int32) (t0 : Int32) : Res MS Int32 := (lt (tI σ 5 t0) fun s39 => (if (s39.1 5) ≤ 0 then (bd (P_X7_enters s39 l1 (80 : Int32) (-1 : Int32) (-1 : Int32) (-1 : Int32) (-1 : Int32)) fun r61 s61 => (some (.inl r61, s61))) else (some (.inl (0 : Int32), s39))))
set_option maxRecDepth 100000 in
theorem bl_X7_premise_39 {l : Launch} (hl : l.stackTraces = false) {g : Gy} {bd : Nat → Nat} {pre rst : va_W} {p : Program} {e : Env} {s : State} {m : MethodId} {args : Array Value} {below : List Frame} {meth : Method} {c : Code} {A : Nat → Prop} (C : Cx p l s m args meth c g A yX7_premise.cls cX7_premise 2) (hr : meth.sig.returnType = some .int) (hx : ∀ x ∈ c.exceptionTable.toList, False) {rr : (Int32 ⊕ String) × MS} (σ : MS) (l1 : Int32) (t0 : Int32) (H : B_X7_premise_39 σ l1 t0 = some rr) : J p l e (rmOf 3 0 0) s m args below meth c g A 2 0 0 (QR mI g A (mkh g bd pre rst) rr below args s 0 0) 39 [(0, .ref (bd 0)), (1, .int l1)] [.int t0, .ref (bd 0)] ((mkh g bd pre rst) σ) := by
  unfold B_X7_premise_39 at H
  refine J.putL (hp := (mkh g bd pre rst)) C (pre.length + 0) 22 mk_0 rfl (by decide) kFl_X7_84 inB_X7 tyX7 tyX7_ok nmX7 rfl rfl rfl rfl (Nat.le_of_ble_eq_true rfl) dX7_premise_39 (mkI_5 _) H (fun s39 H => ?_)
  refine J.aload_n (i := 0) C dX7_premise_42 rfl rfl ?_
  refine J.get C (pre.length + 0) 22 mk_0 rfl (by decide) kFl_X7_84 inB_X7 rfl dX7_premise_43 ?_
  refine J.if_leL (tgt := 53) C dX7_premise_46 (by decide) H (fun c_46 H => ?_) (fun c_46 H => ?_)
  · refine J.aload_n (i := 0) C dX7_premise_53 rfl rfl ?_
    refine J.iload_n (i := 1) C dX7_premise_54 rfl rfl ?_
    refine J.bipush C (80) dX7_premise_55 (by decide) ?_
    refine J.iconst C (-1) dX7_premise_57 (by decide) ?_
    refine J.iconst C (-1) dX7_premise_58 (by decide) ?_
    refine J.iconst C (-1) dX7_premise_59 (by decide) ?_
    refine J.iconst C (-1) dX7_premise_60 (by decide) ?_
    refine J.callVBI (hp := (mkh g bd pre rst)) C rfl (sp_X7_enters hl _ _ _ _ _ _) rfl kMl_X7_145 mdX7_enters ⟨(Nat.le_of_ble_eq_true rfl), (Nat.le_of_ble_eq_true rfl)⟩ mk_0 rfl rfl (Nat.le_of_ble_eq_true rfl) dX7_premise_61 ⟨(Nat.le_of_ble_eq_true rfl), (Nat.le_of_ble_eq_true rfl)⟩ hx (Nat.le_of_ble_eq_true rfl) (Nat.le_of_ble_eq_true rfl) H (fun r61 s61 H => ?_)
    exact J.iretL C hr (Nat.le_of_ble_eq_true rfl) (Nat.le_of_ble_eq_true rfl) dX7_premise_64 H
  · refine J.iconst C (0) dX7_premise_49 (by decide) ?_
    refine J.goto (tgt := 64) C dX7_premise_50 (by decide) ?_
    exact J.iretL C hr (Nat.le_of_ble_eq_true rfl) (Nat.le_of_ble_eq_true rfl) dX7_premise_64 H
abbrev mX7_premise : MD := (yX7_premise, cX7_premise, 2, some .int)
theorem mdX7_premise : MDv mX7_premise RX7 1 := ⟨kIm_X7_premise, kSe_X7_premise, kIn_X7, kCo_X7_premise, by decide +kernel⟩
def P_X7_premise (σ : MS) (a1 : Int32) : Res MS Int32 := (if (F_X7_isFormula σ a1) = 0 then (B_X7_premise_39 σ a1 (1 : Int32)) else (if (σ.1 3) = (-1 : Int32) then (if (σ.1 1) = (60 : Int32) then (B_X7_premise_39 σ a1 (3 : Int32)) else (B_X7_premise_39 σ a1 (0 : Int32))) else (B_X7_premise_39 σ a1 (2 : Int32))))
set_option maxRecDepth 100000 in
theorem sp_X7_premise {l : Launch} (hl : l.stackTraces = false) {g : Gy} {bd : Nat → Nat} {pre rst : va_W} {σ : MS} (a1 : Int32) : SpR l mX7_premise 3 0 0 mI g [.ref (bd 0), .int a1] (mkh g bd pre rst) σ (P_X7_premise σ a1) := by
  refine SpR.of hl (by decide) (Nat.le_of_ble_eq_true rfl) (fun rr H p e s m args below meth c A C hr hx => ?_)
  unfold P_X7_premise at H
  refine J.lw (lv' := [(0, .ref (bd 0)), (1, .int a1)]) ⟨rfl, rfl, trivial⟩ ?_
  refine J.aload_n (i := 0) C dX7_premise_0 rfl rfl ?_
  refine J.aload_n (i := 0) C dX7_premise_1 rfl rfl ?_
  refine J.iload_n (i := 1) C dX7_premise_2 rfl rfl ?_
  refine J.callVI C (sp_X7_isFormula hl _) rfl kMl_X7_135 mdX7_isFormula ⟨(Nat.le_of_ble_eq_true rfl), (Nat.le_of_ble_eq_true rfl)⟩ mk_0 rfl rfl (Nat.le_of_ble_eq_true rfl) dX7_premise_3 ⟨(Nat.le_of_ble_eq_true rfl), (Nat.le_of_ble_eq_true rfl)⟩ ?_
  refine J.if_neL (tgt := 13) C dX7_premise_6 (by decide) H (fun c_6 H => ?_) (fun c_6 H => ?_)
  · refine J.aload_n (i := 0) C dX7_premise_13 rfl rfl ?_
    refine J.get C (pre.length + 0) 17 mk_0 rfl (by decide) kFl_X7_56 inB_X7 rfl dX7_premise_14 ?_
    refine J.iconst C (-1) dX7_premise_17 (by decide) ?_
    refine J.icmp_eqL (tgt := 25) C dX7_premise_18 (by decide) H (fun c_18 H => ?_) (fun c_18 H => ?_)
    · refine J.aload_n (i := 0) C dX7_premise_25 rfl rfl ?_
      refine J.get C (pre.length + 0) 11 mk_0 rfl (by decide) kFl_X7_94 inB_X7 rfl dX7_premise_26 ?_
      refine J.bipush C (60) dX7_premise_29 (by decide) ?_
      refine J.icmp_neL (tgt := 38) C dX7_premise_31 (by decide) H (fun c_31 H => ?_) (fun c_31 H => ?_)
      · refine J.iconst C (0) dX7_premise_38 (by decide) ?_
        refine J.widen (k := 0) (n := 0) (Nat.le_of_ble_eq_true rfl) (Nat.le_of_ble_eq_true rfl) ?_
        refine J.lw (lv' := [(0, .ref (bd 0)), (1, .int a1)]) ⟨rfl, rfl, trivial⟩ ?_
        exact bl_X7_premise_39 hl C hr hx  _ _ _  H
      · refine J.iconst C (3) dX7_premise_34 (by decide) ?_
        refine J.goto (tgt := 39) C dX7_premise_35 (by decide) ?_
        refine J.widen (k := 0) (n := 0) (Nat.le_of_ble_eq_true rfl) (Nat.le_of_ble_eq_true rfl) ?_
        refine J.lw (lv' := [(0, .ref (bd 0)), (1, .int a1)]) ⟨rfl, rfl, trivial⟩ ?_
        exact bl_X7_premise_39 hl C hr hx  _ _ _  H
    · refine J.iconst C (2) dX7_premise_21 (by decide) ?_
      refine J.goto (tgt := 39) C dX7_premise_22 (by decide) ?_
      refine J.widen (k := 0) (n := 0) (Nat.le_of_ble_eq_true rfl) (Nat.le_of_ble_eq_true rfl) ?_
      refine J.lw (lv' := [(0, .ref (bd 0)), (1, .int a1)]) ⟨rfl, rfl, trivial⟩ ?_
      exact bl_X7_premise_39 hl C hr hx  _ _ _  H
  · refine J.iconst C (1) dX7_premise_9 (by decide) ?_
    refine J.goto (tgt := 39) C dX7_premise_10 (by decide) ?_
    refine J.widen (k := 0) (n := 0) (Nat.le_of_ble_eq_true rfl) (Nat.le_of_ble_eq_true rfl) ?_
    refine J.lw (lv' := [(0, .ref (bd 0)), (1, .int a1)]) ⟨rfl, rfl, trivial⟩ ?_
    exact bl_X7_premise_39 hl C hr hx  _ _ _  H

/-! X7_assume -/
def B_X7_assume_27 (σ : MS) (l1 : Int32) (t0 : Int32) : Res MS Int32 := (lt (tI σ 5 t0) fun s27 => (if (s27.1 5) ≤ 0 then (gd (s27.1 2) 60 (lt (tA s27 9 (upd (s27.2.1 9) (s27.1 2).toNatClampNeg (s27.1 3))) fun s51 => (gd (s51.1 2) 60 (lt (tA s51 10 (upd (s51.2.1 10) (s51.1 2).toNatClampNeg (vp_nar .boolean (1 : Int32)))) fun s61 => (gd (s61.1 2) 60 (lt (tA s61 11 (upd (s61.2.1 11) (s61.1 2).toNatClampNeg (s61.1 1))) fun s74 => (lt (tI s74 3 (s74.1 2)) fun s80 => (lt (tI s80 2 ((s80.1 2) + (1 : Int32))) fun s90 => (bd (P_X7_enters s90 l1 (72 : Int32) (-1 : Int32) (-1 : Int32) (-1 : Int32) (-1 : Int32)) fun r101 s101 => (some (.inl r101, s101))))))))))) else (some (.inl (0 : Int32), s27))))
set_option maxRecDepth 100000 in
theorem bl_X7_assume_27 {l : Launch} (hl : l.stackTraces = false) {g : Gy} {bd : Nat → Nat} {pre rst : va_W} {p : Program} {e : Env} {s : State} {m : MethodId} {args : Array Value} {below : List Frame} {meth : Method} {c : Code} {A : Nat → Prop} (C : Cx p l s m args meth c g A yX7_assume.cls cX7_assume 2) (hr : meth.sig.returnType = some .int) (hx : ∀ x ∈ c.exceptionTable.toList, False) {rr : (Int32 ⊕ String) × MS} (σ : MS) (l1 : Int32) (t0 : Int32) (H : B_X7_assume_27 σ l1 t0 = some rr) : J p l e (rmOf 3 0 0) s m args below meth c g A 2 0 0 (QR mI g A (mkh g bd pre rst) rr below args s 0 0) 27 [(0, .ref (bd 0)), (1, .int l1)] [.int t0, .ref (bd 0)] ((mkh g bd pre rst) σ) := by
  unfold B_X7_assume_27 at H
  refine J.putL (hp := (mkh g bd pre rst)) C (pre.length + 0) 22 mk_0 rfl (by decide) kFl_X7_84 inB_X7 tyX7 tyX7_ok nmX7 rfl rfl rfl rfl (Nat.le_of_ble_eq_true rfl) dX7_assume_27 (mkI_5 _) H (fun s27 H => ?_)
  refine J.aload_n (i := 0) C dX7_assume_30 rfl rfl ?_
  refine J.get C (pre.length + 0) 22 mk_0 rfl (by decide) kFl_X7_84 inB_X7 rfl dX7_assume_31 ?_
  refine J.if_leL (tgt := 39) C dX7_assume_34 (by decide) H (fun c_34 H => ?_) (fun c_34 H => ?_)
  · refine J.aload_n (i := 0) C dX7_assume_39 rfl rfl ?_
    refine J.get C (pre.length + 0) 12 mk_0 rfl (by decide) kFl_X7_43 inB_X7 rfl dX7_assume_40 ?_
    refine J.aload_n (i := 0) C dX7_assume_43 rfl rfl ?_
    refine J.get C (pre.length + 0) 16 mk_0 rfl (by decide) kFl_X7_97 inB_X7 rfl dX7_assume_44 ?_
    refine J.aload_n (i := 0) C dX7_assume_47 rfl rfl ?_
    refine J.get C (pre.length + 0) 17 mk_0 rfl (by decide) kFl_X7_56 inB_X7 rfl dX7_assume_48 ?_
    refine J.iastL (hp := (mkh g bd pre rst)) C (pre.length + 10) mk_10 dX7_assume_51 (mkA_9 _) H (fun s51 H => ?_)
    refine J.aload_n (i := 0) C dX7_assume_52 rfl rfl ?_
    refine J.get C (pre.length + 0) 13 mk_0 rfl (by decide) kFl_X7_46 inB_X7 rfl dX7_assume_53 ?_
    refine J.aload_n (i := 0) C dX7_assume_56 rfl rfl ?_
    refine J.get C (pre.length + 0) 16 mk_0 rfl (by decide) kFl_X7_97 inB_X7 rfl dX7_assume_57 ?_
    refine J.iconst C (1) dX7_assume_60 (by decide) ?_
    refine J.zastL (hp := (mkh g bd pre rst)) C (pre.length + 11) mk_11 dX7_assume_61 (mkA_10 _) H (fun s61 H => ?_)
    refine J.aload_n (i := 0) C dX7_assume_62 rfl rfl ?_
    refine J.get C (pre.length + 0) 14 mk_0 rfl (by decide) kFl_X7_50 inB_X7 rfl dX7_assume_63 ?_
    refine J.aload_n (i := 0) C dX7_assume_66 rfl rfl ?_
    refine J.get C (pre.length + 0) 16 mk_0 rfl (by decide) kFl_X7_97 inB_X7 rfl dX7_assume_67 ?_
    refine J.aload_n (i := 0) C dX7_assume_70 rfl rfl ?_
    refine J.get C (pre.length + 0) 11 mk_0 rfl (by decide) kFl_X7_94 inB_X7 rfl dX7_assume_71 ?_
    refine J.iastL (hp := (mkh g bd pre rst)) C (pre.length + 12) mk_12 dX7_assume_74 (mkA_11 _) H (fun s74 H => ?_)
    refine J.aload_n (i := 0) C dX7_assume_75 rfl rfl ?_
    refine J.aload_n (i := 0) C dX7_assume_76 rfl rfl ?_
    refine J.get C (pre.length + 0) 16 mk_0 rfl (by decide) kFl_X7_97 inB_X7 rfl dX7_assume_77 ?_
    refine J.putL (hp := (mkh g bd pre rst)) C (pre.length + 0) 17 mk_0 rfl (by decide) kFl_X7_56 inB_X7 tyX7 tyX7_ok nmX7 rfl rfl rfl rfl (Nat.le_of_ble_eq_true rfl) dX7_assume_80 (mkI_3 _) H (fun s80 H => ?_)
    refine J.aload_n (i := 0) C dX7_assume_83 rfl rfl ?_
    refine J.dup C dX7_assume_84 rfl ?_
    refine J.get C (pre.length + 0) 16 mk_0 rfl (by decide) kFl_X7_97 inB_X7 rfl dX7_assume_85 ?_
    refine J.iconst C (1) dX7_assume_88 (by decide) ?_
    refine J.iadd C dX7_assume_89 ?_
    refine J.putL (hp := (mkh g bd pre rst)) C (pre.length + 0) 16 mk_0 rfl (by decide) kFl_X7_97 inB_X7 tyX7 tyX7_ok nmX7 rfl rfl rfl rfl (Nat.le_of_ble_eq_true rfl) dX7_assume_90 (mkI_2 _) H (fun s90 H => ?_)
    refine J.aload_n (i := 0) C dX7_assume_93 rfl rfl ?_
    refine J.iload_n (i := 1) C dX7_assume_94 rfl rfl ?_
    refine J.bipush C (72) dX7_assume_95 (by decide) ?_
    refine J.iconst C (-1) dX7_assume_97 (by decide) ?_
    refine J.iconst C (-1) dX7_assume_98 (by decide) ?_
    refine J.iconst C (-1) dX7_assume_99 (by decide) ?_
    refine J.iconst C (-1) dX7_assume_100 (by decide) ?_
    refine J.callVBI (hp := (mkh g bd pre rst)) C rfl (sp_X7_enters hl _ _ _ _ _ _) rfl kMl_X7_145 mdX7_enters ⟨(Nat.le_of_ble_eq_true rfl), (Nat.le_of_ble_eq_true rfl)⟩ mk_0 rfl rfl (Nat.le_of_ble_eq_true rfl) dX7_assume_101 ⟨(Nat.le_of_ble_eq_true rfl), (Nat.le_of_ble_eq_true rfl)⟩ hx (Nat.le_of_ble_eq_true rfl) (Nat.le_of_ble_eq_true rfl) H (fun r101 s101 H => ?_)
    exact J.iretL C hr (Nat.le_of_ble_eq_true rfl) (Nat.le_of_ble_eq_true rfl) dX7_assume_104 H
  · refine J.iconst C (0) dX7_assume_37 (by decide) ?_
    exact J.iretL C hr (Nat.le_of_ble_eq_true rfl) (Nat.le_of_ble_eq_true rfl) dX7_assume_38 H
abbrev mX7_assume : MD := (yX7_assume, cX7_assume, 2, some .int)
theorem mdX7_assume : MDv mX7_assume RX7 1 := ⟨kIm_X7_assume, kSe_X7_assume, kIn_X7, kCo_X7_assume, by decide +kernel⟩
def P_X7_assume (σ : MS) (a1 : Int32) : Res MS Int32 := (if (F_X7_isFormula σ a1) = 0 then (B_X7_assume_27 σ a1 (1 : Int32)) else (if (σ.1 1) = (60 : Int32) then (B_X7_assume_27 σ a1 (2 : Int32)) else (B_X7_assume_27 σ a1 (0 : Int32))))
set_option maxRecDepth 100000 in
theorem sp_X7_assume {l : Launch} (hl : l.stackTraces = false) {g : Gy} {bd : Nat → Nat} {pre rst : va_W} {σ : MS} (a1 : Int32) : SpR l mX7_assume 3 0 0 mI g [.ref (bd 0), .int a1] (mkh g bd pre rst) σ (P_X7_assume σ a1) := by
  refine SpR.of hl (by decide) (Nat.le_of_ble_eq_true rfl) (fun rr H p e s m args below meth c A C hr hx => ?_)
  unfold P_X7_assume at H
  refine J.lw (lv' := [(0, .ref (bd 0)), (1, .int a1)]) ⟨rfl, rfl, trivial⟩ ?_
  refine J.aload_n (i := 0) C dX7_assume_0 rfl rfl ?_
  refine J.aload_n (i := 0) C dX7_assume_1 rfl rfl ?_
  refine J.iload_n (i := 1) C dX7_assume_2 rfl rfl ?_
  refine J.callVI C (sp_X7_isFormula hl _) rfl kMl_X7_135 mdX7_isFormula ⟨(Nat.le_of_ble_eq_true rfl), (Nat.le_of_ble_eq_true rfl)⟩ mk_0 rfl rfl (Nat.le_of_ble_eq_true rfl) dX7_assume_3 ⟨(Nat.le_of_ble_eq_true rfl), (Nat.le_of_ble_eq_true rfl)⟩ ?_
  refine J.if_neL (tgt := 13) C dX7_assume_6 (by decide) H (fun c_6 H => ?_) (fun c_6 H => ?_)
  · refine J.aload_n (i := 0) C dX7_assume_13 rfl rfl ?_
    refine J.get C (pre.length + 0) 11 mk_0 rfl (by decide) kFl_X7_94 inB_X7 rfl dX7_assume_14 ?_
    refine J.bipush C (60) dX7_assume_17 (by decide) ?_
    refine J.icmp_neL (tgt := 26) C dX7_assume_19 (by decide) H (fun c_19 H => ?_) (fun c_19 H => ?_)
    · refine J.iconst C (0) dX7_assume_26 (by decide) ?_
      refine J.widen (k := 0) (n := 0) (Nat.le_of_ble_eq_true rfl) (Nat.le_of_ble_eq_true rfl) ?_
      refine J.lw (lv' := [(0, .ref (bd 0)), (1, .int a1)]) ⟨rfl, rfl, trivial⟩ ?_
      exact bl_X7_assume_27 hl C hr hx  _ _ _  H
    · refine J.iconst C (2) dX7_assume_22 (by decide) ?_
      refine J.goto (tgt := 27) C dX7_assume_23 (by decide) ?_
      refine J.widen (k := 0) (n := 0) (Nat.le_of_ble_eq_true rfl) (Nat.le_of_ble_eq_true rfl) ?_
      refine J.lw (lv' := [(0, .ref (bd 0)), (1, .int a1)]) ⟨rfl, rfl, trivial⟩ ?_
      exact bl_X7_assume_27 hl C hr hx  _ _ _  H
  · refine J.iconst C (1) dX7_assume_9 (by decide) ?_
    refine J.goto (tgt := 27) C dX7_assume_10 (by decide) ?_
    refine J.widen (k := 0) (n := 0) (Nat.le_of_ble_eq_true rfl) (Nat.le_of_ble_eq_true rfl) ?_
    refine J.lw (lv' := [(0, .ref (bd 0)), (1, .int a1)]) ⟨rfl, rfl, trivial⟩ ?_
    exact bl_X7_assume_27 hl C hr hx  _ _ _  H

/-! X7_closeBox -/
def B_X7_closeBox_14 (σ : MS) (t0 : Int32) : Res MS Int32 := (lt (tI σ 5 t0) fun s14 => (if (s14.1 5) ≤ 0 then (lt (s14.1 3) fun z30 => (gd z30 60 (lt (tA s14 10 (upd (s14.2.1 10) z30.toNatClampNeg (vp_nar .boolean (0 : Int32)))) fun s37 => (gd z30 60 (lt (tI s37 3 (s37.2.1 9 z30.toNatClampNeg)) fun s45 => (some (.inl z30, s45))))))) else (some (.inl (0 : Int32), s14))))
set_option maxRecDepth 100000 in
theorem bl_X7_closeBox_14 {l : Launch} (hl : l.stackTraces = false) {g : Gy} {bd : Nat → Nat} {pre rst : va_W} {p : Program} {e : Env} {s : State} {m : MethodId} {args : Array Value} {below : List Frame} {meth : Method} {c : Code} {A : Nat → Prop} (C : Cx p l s m args meth c g A yX7_closeBox.cls cX7_closeBox 2) (hr : meth.sig.returnType = some .int) (hx : ∀ x ∈ c.exceptionTable.toList, False) {rr : (Int32 ⊕ String) × MS} (σ : MS) (t0 : Int32) (H : B_X7_closeBox_14 σ t0 = some rr) : J p l e (rmOf 1 0 0) s m args below meth c g A 2 0 0 (QR mI g A (mkh g bd pre rst) rr below args s 0 0) 14 [(0, .ref (bd 0))] [.int t0, .ref (bd 0)] ((mkh g bd pre rst) σ) := by
  unfold B_X7_closeBox_14 at H
  refine J.putL (hp := (mkh g bd pre rst)) C (pre.length + 0) 22 mk_0 rfl (by decide) kFl_X7_84 inB_X7 tyX7 tyX7_ok nmX7 rfl rfl rfl rfl (Nat.le_of_ble_eq_true rfl) dX7_closeBox_14 (mkI_5 _) H (fun s14 H => ?_)
  refine J.aload_n (i := 0) C dX7_closeBox_17 rfl rfl ?_
  refine J.get C (pre.length + 0) 22 mk_0 rfl (by decide) kFl_X7_84 inB_X7 rfl dX7_closeBox_18 ?_
  refine J.if_leL (tgt := 26) C dX7_closeBox_21 (by decide) H (fun c_21 H => ?_) (fun c_21 H => ?_)
  · refine J.aload_n (i := 0) C dX7_closeBox_26 rfl rfl ?_
    refine J.get C (pre.length + 0) 17 mk_0 rfl (by decide) kFl_X7_56 inB_X7 rfl dX7_closeBox_27 ?_
    refine J.istore_nL (i := 1) C dX7_closeBox_30 rfl (by decide) H (fun z30 H => ?_)
    refine J.aload_n (i := 0) C dX7_closeBox_31 rfl rfl ?_
    refine J.get C (pre.length + 0) 13 mk_0 rfl (by decide) kFl_X7_46 inB_X7 rfl dX7_closeBox_32 ?_
    refine J.iload_n (i := 1) C dX7_closeBox_35 rfl rfl ?_
    refine J.iconst C (0) dX7_closeBox_36 (by decide) ?_
    refine J.zastL (hp := (mkh g bd pre rst)) C (pre.length + 11) mk_11 dX7_closeBox_37 (mkA_10 _) H (fun s37 H => ?_)
    refine J.aload_n (i := 0) C dX7_closeBox_38 rfl rfl ?_
    refine J.aload_n (i := 0) C dX7_closeBox_39 rfl rfl ?_
    refine J.get C (pre.length + 0) 12 mk_0 rfl (by decide) kFl_X7_43 inB_X7 rfl dX7_closeBox_40 ?_
    refine J.iload_n (i := 1) C dX7_closeBox_43 rfl rfl ?_
    refine J.ialdL C (pre.length + 10) mk_10 dX7_closeBox_44 H (fun H => ?_)
    refine J.putL (hp := (mkh g bd pre rst)) C (pre.length + 0) 17 mk_0 rfl (by decide) kFl_X7_56 inB_X7 tyX7 tyX7_ok nmX7 rfl rfl rfl rfl (Nat.le_of_ble_eq_true rfl) dX7_closeBox_45 (mkI_3 _) H (fun s45 H => ?_)
    refine J.iload_n (i := 1) C dX7_closeBox_48 rfl rfl ?_
    exact J.iretL C hr (Nat.le_of_ble_eq_true rfl) (Nat.le_of_ble_eq_true rfl) dX7_closeBox_49 H
  · refine J.iconst C (0) dX7_closeBox_24 (by decide) ?_
    exact J.iretL C hr (Nat.le_of_ble_eq_true rfl) (Nat.le_of_ble_eq_true rfl) dX7_closeBox_25 H
abbrev mX7_closeBox : MD := (yX7_closeBox, cX7_closeBox, 2, some .int)
theorem mdX7_closeBox : MDv mX7_closeBox RX7 0 := ⟨kIm_X7_closeBox, kSe_X7_closeBox, kIn_X7, kCo_X7_closeBox, by decide +kernel⟩
def P_X7_closeBox (σ : MS)  : Res MS Int32 := (if (σ.1 3) = (-1 : Int32) then (B_X7_closeBox_14 σ (1 : Int32)) else (B_X7_closeBox_14 σ (0 : Int32)))
set_option maxRecDepth 100000 in
theorem sp_X7_closeBox {l : Launch} (hl : l.stackTraces = false) {g : Gy} {bd : Nat → Nat} {pre rst : va_W} {σ : MS}  : SpR l mX7_closeBox 1 0 0 mI g [.ref (bd 0)] (mkh g bd pre rst) σ (P_X7_closeBox σ ) := by
  refine SpR.of hl (by decide) (Nat.le_of_ble_eq_true rfl) (fun rr H p e s m args below meth c A C hr hx => ?_)
  unfold P_X7_closeBox at H
  refine J.lw (lv' := [(0, .ref (bd 0))]) ⟨rfl, trivial⟩ ?_
  refine J.aload_n (i := 0) C dX7_closeBox_0 rfl rfl ?_
  refine J.aload_n (i := 0) C dX7_closeBox_1 rfl rfl ?_
  refine J.get C (pre.length + 0) 17 mk_0 rfl (by decide) kFl_X7_56 inB_X7 rfl dX7_closeBox_2 ?_
  refine J.iconst C (-1) dX7_closeBox_5 (by decide) ?_
  refine J.icmp_neL (tgt := 13) C dX7_closeBox_6 (by decide) H (fun c_6 H => ?_) (fun c_6 H => ?_)
  · refine J.iconst C (0) dX7_closeBox_13 (by decide) ?_
    refine J.widen (k := 0) (n := 0) (Nat.le_of_ble_eq_true rfl) (Nat.le_of_ble_eq_true rfl) ?_
    refine J.lw (lv' := [(0, .ref (bd 0))]) ⟨rfl, trivial⟩ ?_
    exact bl_X7_closeBox_14 hl C hr hx  _ _  H
  · refine J.iconst C (1) dX7_closeBox_9 (by decide) ?_
    refine J.goto (tgt := 14) C dX7_closeBox_10 (by decide) ?_
    refine J.widen (k := 0) (n := 0) (Nat.le_of_ble_eq_true rfl) (Nat.le_of_ble_eq_true rfl) ?_
    refine J.lw (lv' := [(0, .ref (bd 0))]) ⟨rfl, trivial⟩ ?_
    exact bl_X7_closeBox_14 hl C hr hx  _ _  H

/-! X7_cannotCite -/
abbrev mX7_cannotCite : MD := (yX7_cannotCite, cX7_cannotCite, 2, some .boolean)
theorem mdX7_cannotCite : MDv mX7_cannotCite RX7 1 := ⟨kIm_X7_cannotCite, kSe_X7_cannotCite, kIn_X7, kCo_X7_cannotCite, by decide +kernel⟩
def P_X7_cannotCite (σ : MS) (a1 : Int32) : Res MS Int32 := (if (F_X7_isLine σ a1) = 0 then (lt (tI σ 5 (1 : Int32)) fun s26 => (if (s26.1 5) ≤ 0 then (some (.inl (0 : Int32), s26)) else (some (.inl (1 : Int32), s26)))) else (bd (P_X7_mayCite σ a1) fun r15 s15 => (if r15 = 0 then (lt (tI s15 5 (2 : Int32)) fun s26 => (if (s26.1 5) ≤ 0 then (some (.inl (0 : Int32), s26)) else (some (.inl (1 : Int32), s26)))) else (lt (tI s15 5 (0 : Int32)) fun s26 => (if (s26.1 5) ≤ 0 then (some (.inl (0 : Int32), s26)) else (some (.inl (1 : Int32), s26)))))))
set_option maxRecDepth 100000 in
theorem sp_X7_cannotCite {l : Launch} (hl : l.stackTraces = false) {g : Gy} {bd : Nat → Nat} {pre rst : va_W} {σ : MS} (a1 : Int32) : SpR l mX7_cannotCite 3 0 0 mI g [.ref (bd 0), .int a1] (mkh g bd pre rst) σ (P_X7_cannotCite σ a1) := by
  refine SpR.of hl (by decide) (Nat.le_of_ble_eq_true rfl) (fun rr H p e s m args below meth c A C hr hx => ?_)
  unfold P_X7_cannotCite at H
  refine J.lw (lv' := [(0, .ref (bd 0)), (1, .int a1)]) ⟨rfl, rfl, trivial⟩ ?_
  refine J.aload_n (i := 0) C dX7_cannotCite_0 rfl rfl ?_
  refine J.aload_n (i := 0) C dX7_cannotCite_1 rfl rfl ?_
  refine J.iload_n (i := 1) C dX7_cannotCite_2 rfl rfl ?_
  refine J.callVI C (sp_X7_isLine hl _) rfl kMl_X7_149 mdX7_isLine ⟨(Nat.le_of_ble_eq_true rfl), (Nat.le_of_ble_eq_true rfl)⟩ mk_0 rfl rfl (Nat.le_of_ble_eq_true rfl) dX7_cannotCite_3 ⟨(Nat.le_of_ble_eq_true rfl), (Nat.le_of_ble_eq_true rfl)⟩ ?_
  refine J.if_neL (tgt := 13) C dX7_cannotCite_6 (by decide) H (fun c_6 H => ?_) (fun c_6 H => ?_)
  · refine J.aload_n (i := 0) C dX7_cannotCite_13 rfl rfl ?_
    refine J.iload_n (i := 1) C dX7_cannotCite_14 rfl rfl ?_
    refine J.callVBI (hp := (mkh g bd pre rst)) C rfl (sp_X7_mayCite hl _) rfl kMl_X7_152 mdX7_mayCite ⟨(Nat.le_of_ble_eq_true rfl), (Nat.le_of_ble_eq_true rfl)⟩ mk_0 rfl rfl (Nat.le_of_ble_eq_true rfl) dX7_cannotCite_15 ⟨(Nat.le_of_ble_eq_true rfl), (Nat.le_of_ble_eq_true rfl)⟩ hx (Nat.le_of_ble_eq_true rfl) (Nat.le_of_ble_eq_true rfl) H (fun r15 s15 H => ?_)
    refine J.if_neL (tgt := 25) C dX7_cannotCite_18 (by decide) H (fun c_18 H => ?_) (fun c_18 H => ?_)
    · refine J.iconst C (0) dX7_cannotCite_25 (by decide) ?_
      refine J.putL (hp := (mkh g bd pre rst)) C (pre.length + 0) 22 mk_0 rfl (by decide) kFl_X7_84 inB_X7 tyX7 tyX7_ok nmX7 rfl rfl rfl rfl (Nat.le_of_ble_eq_true rfl) dX7_cannotCite_26 (mkI_5 _) H (fun s26 H => ?_)
      refine J.aload_n (i := 0) C dX7_cannotCite_29 rfl rfl ?_
      refine J.get C (pre.length + 0) 22 mk_0 rfl (by decide) kFl_X7_84 inB_X7 rfl dX7_cannotCite_30 ?_
      refine J.if_leL (tgt := 40) C dX7_cannotCite_33 (by decide) H (fun c_33 H => ?_) (fun c_33 H => ?_)
      · refine J.iconst C (0) dX7_cannotCite_40 (by decide) ?_
        exact J.zretL C hr rfl (Nat.le_of_ble_eq_true rfl) (Nat.le_of_ble_eq_true rfl) dX7_cannotCite_41 H
      · refine J.iconst C (1) dX7_cannotCite_36 (by decide) ?_
        refine J.goto (tgt := 41) C dX7_cannotCite_37 (by decide) ?_
        exact J.zretL C hr rfl (Nat.le_of_ble_eq_true rfl) (Nat.le_of_ble_eq_true rfl) dX7_cannotCite_41 H
    · refine J.iconst C (2) dX7_cannotCite_21 (by decide) ?_
      refine J.goto (tgt := 26) C dX7_cannotCite_22 (by decide) ?_
      refine J.putL (hp := (mkh g bd pre rst)) C (pre.length + 0) 22 mk_0 rfl (by decide) kFl_X7_84 inB_X7 tyX7 tyX7_ok nmX7 rfl rfl rfl rfl (Nat.le_of_ble_eq_true rfl) dX7_cannotCite_26 (mkI_5 _) H (fun s26 H => ?_)
      refine J.aload_n (i := 0) C dX7_cannotCite_29 rfl rfl ?_
      refine J.get C (pre.length + 0) 22 mk_0 rfl (by decide) kFl_X7_84 inB_X7 rfl dX7_cannotCite_30 ?_
      refine J.if_leL (tgt := 40) C dX7_cannotCite_33 (by decide) H (fun c_33 H => ?_) (fun c_33 H => ?_)
      · refine J.iconst C (0) dX7_cannotCite_40 (by decide) ?_
        exact J.zretL C hr rfl (Nat.le_of_ble_eq_true rfl) (Nat.le_of_ble_eq_true rfl) dX7_cannotCite_41 H
      · refine J.iconst C (1) dX7_cannotCite_36 (by decide) ?_
        refine J.goto (tgt := 41) C dX7_cannotCite_37 (by decide) ?_
        exact J.zretL C hr rfl (Nat.le_of_ble_eq_true rfl) (Nat.le_of_ble_eq_true rfl) dX7_cannotCite_41 H
  · refine J.iconst C (1) dX7_cannotCite_9 (by decide) ?_
    refine J.goto (tgt := 26) C dX7_cannotCite_10 (by decide) ?_
    refine J.putL (hp := (mkh g bd pre rst)) C (pre.length + 0) 22 mk_0 rfl (by decide) kFl_X7_84 inB_X7 tyX7 tyX7_ok nmX7 rfl rfl rfl rfl (Nat.le_of_ble_eq_true rfl) dX7_cannotCite_26 (mkI_5 _) H (fun s26 H => ?_)
    refine J.aload_n (i := 0) C dX7_cannotCite_29 rfl rfl ?_
    refine J.get C (pre.length + 0) 22 mk_0 rfl (by decide) kFl_X7_84 inB_X7 rfl dX7_cannotCite_30 ?_
    refine J.if_leL (tgt := 40) C dX7_cannotCite_33 (by decide) H (fun c_33 H => ?_) (fun c_33 H => ?_)
    · refine J.iconst C (0) dX7_cannotCite_40 (by decide) ?_
      exact J.zretL C hr rfl (Nat.le_of_ble_eq_true rfl) (Nat.le_of_ble_eq_true rfl) dX7_cannotCite_41 H
    · refine J.iconst C (1) dX7_cannotCite_36 (by decide) ?_
      refine J.goto (tgt := 41) C dX7_cannotCite_37 (by decide) ?_
      exact J.zretL C hr rfl (Nat.le_of_ble_eq_true rfl) (Nat.le_of_ble_eq_true rfl) dX7_cannotCite_41 H

/-! X7_cannotCite_ -/
def B_X7_cannotCite__17 (σ : MS) : Res MS Int32 := (lt (tI σ 5 (1 : Int32)) fun s42 => (if (s42.1 5) ≤ 0 then (some (.inl (0 : Int32), s42)) else (some (.inl (1 : Int32), s42))))
set_option maxRecDepth 100000 in
theorem bl_X7_cannotCite__17 {l : Launch} (hl : l.stackTraces = false) {g : Gy} {bd : Nat → Nat} {pre rst : va_W} {p : Program} {e : Env} {s : State} {m : MethodId} {args : Array Value} {below : List Frame} {meth : Method} {c : Code} {A : Nat → Prop} (C : Cx p l s m args meth c g A yX7_cannotCite_.cls cX7_cannotCite_ 3) (hr : meth.sig.returnType = some .boolean) (hx : ∀ x ∈ c.exceptionTable.toList, False) {rr : (Int32 ⊕ String) × MS} (σ : MS) (H : B_X7_cannotCite__17 σ = some rr) : J p l e (rmOf 3 0 0) s m args below meth c g A 3 0 0 (QR mI g A (mkh g bd pre rst) rr below args s 0 0) 17 [(0, .ref (bd 0))] [.ref (bd 0)] ((mkh g bd pre rst) σ) := by
  unfold B_X7_cannotCite__17 at H
  refine J.iconst C (1) dX7_cannotCite__17 (by decide) ?_
  refine J.goto (tgt := 42) C dX7_cannotCite__18 (by decide) ?_
  refine J.putL (hp := (mkh g bd pre rst)) C (pre.length + 0) 22 mk_0 rfl (by decide) kFl_X7_84 inB_X7 tyX7 tyX7_ok nmX7 rfl rfl rfl rfl (Nat.le_of_ble_eq_true rfl) dX7_cannotCite__42 (mkI_5 _) H (fun s42 H => ?_)
  refine J.aload_n (i := 0) C dX7_cannotCite__45 rfl rfl ?_
  refine J.get C (pre.length + 0) 22 mk_0 rfl (by decide) kFl_X7_84 inB_X7 rfl dX7_cannotCite__46 ?_
  refine J.if_leL (tgt := 56) C dX7_cannotCite__49 (by decide) H (fun c_49 H => ?_) (fun c_49 H => ?_)
  · refine J.iconst C (0) dX7_cannotCite__56 (by decide) ?_
    exact J.zretL C hr rfl (Nat.le_of_ble_eq_true rfl) (Nat.le_of_ble_eq_true rfl) dX7_cannotCite__57 H
  · refine J.iconst C (1) dX7_cannotCite__52 (by decide) ?_
    refine J.goto (tgt := 57) C dX7_cannotCite__53 (by decide) ?_
    exact J.zretL C hr rfl (Nat.le_of_ble_eq_true rfl) (Nat.le_of_ble_eq_true rfl) dX7_cannotCite__57 H
def B_X7_cannotCite__37 (σ : MS) : Res MS Int32 := (lt (tI σ 5 (2 : Int32)) fun s42 => (if (s42.1 5) ≤ 0 then (some (.inl (0 : Int32), s42)) else (some (.inl (1 : Int32), s42))))
set_option maxRecDepth 100000 in
theorem bl_X7_cannotCite__37 {l : Launch} (hl : l.stackTraces = false) {g : Gy} {bd : Nat → Nat} {pre rst : va_W} {p : Program} {e : Env} {s : State} {m : MethodId} {args : Array Value} {below : List Frame} {meth : Method} {c : Code} {A : Nat → Prop} (C : Cx p l s m args meth c g A yX7_cannotCite_.cls cX7_cannotCite_ 3) (hr : meth.sig.returnType = some .boolean) (hx : ∀ x ∈ c.exceptionTable.toList, False) {rr : (Int32 ⊕ String) × MS} (σ : MS) (H : B_X7_cannotCite__37 σ = some rr) : J p l e (rmOf 3 0 0) s m args below meth c g A 3 0 0 (QR mI g A (mkh g bd pre rst) rr below args s 0 0) 37 [(0, .ref (bd 0))] [.ref (bd 0)] ((mkh g bd pre rst) σ) := by
  unfold B_X7_cannotCite__37 at H
  refine J.iconst C (2) dX7_cannotCite__37 (by decide) ?_
  refine J.goto (tgt := 42) C dX7_cannotCite__38 (by decide) ?_
  refine J.putL (hp := (mkh g bd pre rst)) C (pre.length + 0) 22 mk_0 rfl (by decide) kFl_X7_84 inB_X7 tyX7 tyX7_ok nmX7 rfl rfl rfl rfl (Nat.le_of_ble_eq_true rfl) dX7_cannotCite__42 (mkI_5 _) H (fun s42 H => ?_)
  refine J.aload_n (i := 0) C dX7_cannotCite__45 rfl rfl ?_
  refine J.get C (pre.length + 0) 22 mk_0 rfl (by decide) kFl_X7_84 inB_X7 rfl dX7_cannotCite__46 ?_
  refine J.if_leL (tgt := 56) C dX7_cannotCite__49 (by decide) H (fun c_49 H => ?_) (fun c_49 H => ?_)
  · refine J.iconst C (0) dX7_cannotCite__56 (by decide) ?_
    exact J.zretL C hr rfl (Nat.le_of_ble_eq_true rfl) (Nat.le_of_ble_eq_true rfl) dX7_cannotCite__57 H
  · refine J.iconst C (1) dX7_cannotCite__52 (by decide) ?_
    refine J.goto (tgt := 57) C dX7_cannotCite__53 (by decide) ?_
    exact J.zretL C hr rfl (Nat.le_of_ble_eq_true rfl) (Nat.le_of_ble_eq_true rfl) dX7_cannotCite__57 H
abbrev mX7_cannotCite_ : MD := (yX7_cannotCite_, cX7_cannotCite_, 3, some .boolean)
theorem mdX7_cannotCite_ : MDv mX7_cannotCite_ RX7 2 := ⟨kIm_X7_cannotCite_, kSe_X7_cannotCite_, kIn_X7, kCo_X7_cannotCite_, by decide +kernel⟩
def P_X7_cannotCite_ (σ : MS) (a1 : Int32) (a2 : Int32) : Res MS Int32 := (if (F_X7_isLine σ a1) = 0 then (B_X7_cannotCite__17 σ) else (if (F_X7_isLine σ a2) = 0 then (B_X7_cannotCite__17 σ) else (bd (P_X7_mayCite σ a1) fun r23 s23 => (if r23 = 0 then (B_X7_cannotCite__37 s23) else (bd (P_X7_mayCite s23 a2) fun r31 s31 => (if r31 = 0 then (B_X7_cannotCite__37 s31) else (lt (tI s31 5 (0 : Int32)) fun s42 => (if (s42.1 5) ≤ 0 then (some (.inl (0 : Int32), s42)) else (some (.inl (1 : Int32), s42))))))))))
set_option maxRecDepth 100000 in
theorem sp_X7_cannotCite_ {l : Launch} (hl : l.stackTraces = false) {g : Gy} {bd : Nat → Nat} {pre rst : va_W} {σ : MS} (a1 : Int32) (a2 : Int32) : SpR l mX7_cannotCite_ 3 0 0 mI g [.ref (bd 0), .int a1, .int a2] (mkh g bd pre rst) σ (P_X7_cannotCite_ σ a1 a2) := by
  refine SpR.of hl (by decide) (Nat.le_of_ble_eq_true rfl) (fun rr H p e s m args below meth c A C hr hx => ?_)
  unfold P_X7_cannotCite_ at H
  refine J.lw (lv' := [(0, .ref (bd 0)), (1, .int a1), (2, .int a2)]) ⟨rfl, rfl, rfl, trivial⟩ ?_
  refine J.aload_n (i := 0) C dX7_cannotCite__0 rfl rfl ?_
  refine J.aload_n (i := 0) C dX7_cannotCite__1 rfl rfl ?_
  refine J.iload_n (i := 1) C dX7_cannotCite__2 rfl rfl ?_
  refine J.callVI C (sp_X7_isLine hl _) rfl kMl_X7_149 mdX7_isLine ⟨(Nat.le_of_ble_eq_true rfl), (Nat.le_of_ble_eq_true rfl)⟩ mk_0 rfl rfl (Nat.le_of_ble_eq_true rfl) dX7_cannotCite__3 ⟨(Nat.le_of_ble_eq_true rfl), (Nat.le_of_ble_eq_true rfl)⟩ ?_
  refine J.if_eqL (tgt := 17) C dX7_cannotCite__6 (by decide) H (fun c_6 H => ?_) (fun c_6 H => ?_)
  · refine J.widen (k := 0) (n := 0) (Nat.le_of_ble_eq_true rfl) (Nat.le_of_ble_eq_true rfl) ?_
    refine J.lw (lv' := [(0, .ref (bd 0))]) ⟨rfl, trivial⟩ ?_
    exact bl_X7_cannotCite__17 hl C hr hx  _  H
  · refine J.aload_n (i := 0) C dX7_cannotCite__9 rfl rfl ?_
    refine J.iload_n (i := 2) C dX7_cannotCite__10 rfl rfl ?_
    refine J.callVI C (sp_X7_isLine hl _) rfl kMl_X7_149 mdX7_isLine ⟨(Nat.le_of_ble_eq_true rfl), (Nat.le_of_ble_eq_true rfl)⟩ mk_0 rfl rfl (Nat.le_of_ble_eq_true rfl) dX7_cannotCite__11 ⟨(Nat.le_of_ble_eq_true rfl), (Nat.le_of_ble_eq_true rfl)⟩ ?_
    refine J.if_neL (tgt := 21) C dX7_cannotCite__14 (by decide) H (fun c_14 H => ?_) (fun c_14 H => ?_)
    · refine J.aload_n (i := 0) C dX7_cannotCite__21 rfl rfl ?_
      refine J.iload_n (i := 1) C dX7_cannotCite__22 rfl rfl ?_
      refine J.callVBI (hp := (mkh g bd pre rst)) C rfl (sp_X7_mayCite hl _) rfl kMl_X7_152 mdX7_mayCite ⟨(Nat.le_of_ble_eq_true rfl), (Nat.le_of_ble_eq_true rfl)⟩ mk_0 rfl rfl (Nat.le_of_ble_eq_true rfl) dX7_cannotCite__23 ⟨(Nat.le_of_ble_eq_true rfl), (Nat.le_of_ble_eq_true rfl)⟩ hx (Nat.le_of_ble_eq_true rfl) (Nat.le_of_ble_eq_true rfl) H (fun r23 s23 H => ?_)
      refine J.if_eqL (tgt := 37) C dX7_cannotCite__26 (by decide) H (fun c_26 H => ?_) (fun c_26 H => ?_)
      · refine J.widen (k := 0) (n := 0) (Nat.le_of_ble_eq_true rfl) (Nat.le_of_ble_eq_true rfl) ?_
        refine J.lw (lv' := [(0, .ref (bd 0))]) ⟨rfl, trivial⟩ ?_
        exact bl_X7_cannotCite__37 hl C hr hx  _  H
      · refine J.aload_n (i := 0) C dX7_cannotCite__29 rfl rfl ?_
        refine J.iload_n (i := 2) C dX7_cannotCite__30 rfl rfl ?_
        refine J.callVBI (hp := (mkh g bd pre rst)) C rfl (sp_X7_mayCite hl _) rfl kMl_X7_152 mdX7_mayCite ⟨(Nat.le_of_ble_eq_true rfl), (Nat.le_of_ble_eq_true rfl)⟩ mk_0 rfl rfl (Nat.le_of_ble_eq_true rfl) dX7_cannotCite__31 ⟨(Nat.le_of_ble_eq_true rfl), (Nat.le_of_ble_eq_true rfl)⟩ hx (Nat.le_of_ble_eq_true rfl) (Nat.le_of_ble_eq_true rfl) H (fun r31 s31 H => ?_)
        refine J.if_neL (tgt := 41) C dX7_cannotCite__34 (by decide) H (fun c_34 H => ?_) (fun c_34 H => ?_)
        · refine J.iconst C (0) dX7_cannotCite__41 (by decide) ?_
          refine J.putL (hp := (mkh g bd pre rst)) C (pre.length + 0) 22 mk_0 rfl (by decide) kFl_X7_84 inB_X7 tyX7 tyX7_ok nmX7 rfl rfl rfl rfl (Nat.le_of_ble_eq_true rfl) dX7_cannotCite__42 (mkI_5 _) H (fun s42 H => ?_)
          refine J.aload_n (i := 0) C dX7_cannotCite__45 rfl rfl ?_
          refine J.get C (pre.length + 0) 22 mk_0 rfl (by decide) kFl_X7_84 inB_X7 rfl dX7_cannotCite__46 ?_
          refine J.if_leL (tgt := 56) C dX7_cannotCite__49 (by decide) H (fun c_49 H => ?_) (fun c_49 H => ?_)
          · refine J.iconst C (0) dX7_cannotCite__56 (by decide) ?_
            exact J.zretL C hr rfl (Nat.le_of_ble_eq_true rfl) (Nat.le_of_ble_eq_true rfl) dX7_cannotCite__57 H
          · refine J.iconst C (1) dX7_cannotCite__52 (by decide) ?_
            refine J.goto (tgt := 57) C dX7_cannotCite__53 (by decide) ?_
            exact J.zretL C hr rfl (Nat.le_of_ble_eq_true rfl) (Nat.le_of_ble_eq_true rfl) dX7_cannotCite__57 H
        · refine J.widen (k := 0) (n := 0) (Nat.le_of_ble_eq_true rfl) (Nat.le_of_ble_eq_true rfl) ?_
          refine J.lw (lv' := [(0, .ref (bd 0))]) ⟨rfl, trivial⟩ ?_
          exact bl_X7_cannotCite__37 hl C hr hx  _  H
    · refine J.widen (k := 0) (n := 0) (Nat.le_of_ble_eq_true rfl) (Nat.le_of_ble_eq_true rfl) ?_
      refine J.lw (lv' := [(0, .ref (bd 0))]) ⟨rfl, trivial⟩ ?_
      exact bl_X7_cannotCite__17 hl C hr hx  _  H

/-! X7_cannotCiteBox -/
abbrev mX7_cannotCiteBox : MD := (yX7_cannotCiteBox, cX7_cannotCiteBox, 2, some .boolean)
theorem mdX7_cannotCiteBox : MDv mX7_cannotCiteBox RX7 1 := ⟨kIm_X7_cannotCiteBox, kSe_X7_cannotCiteBox, kIn_X7, kCo_X7_cannotCiteBox, by decide +kernel⟩
def P_X7_cannotCiteBox (σ : MS) (a1 : Int32) : Res MS Int32 := (if (F_X7_isBox σ a1) = 0 then (lt (tI σ 5 (1 : Int32)) fun s26 => (if (s26.1 5) ≤ 0 then (some (.inl (0 : Int32), s26)) else (some (.inl (1 : Int32), s26)))) else (bd (P_X7_mayCiteBox σ a1) fun r15 s15 => (if r15 = 0 then (lt (tI s15 5 (2 : Int32)) fun s26 => (if (s26.1 5) ≤ 0 then (some (.inl (0 : Int32), s26)) else (some (.inl (1 : Int32), s26)))) else (lt (tI s15 5 (0 : Int32)) fun s26 => (if (s26.1 5) ≤ 0 then (some (.inl (0 : Int32), s26)) else (some (.inl (1 : Int32), s26)))))))
set_option maxRecDepth 100000 in
theorem sp_X7_cannotCiteBox {l : Launch} (hl : l.stackTraces = false) {g : Gy} {bd : Nat → Nat} {pre rst : va_W} {σ : MS} (a1 : Int32) : SpR l mX7_cannotCiteBox 3 0 0 mI g [.ref (bd 0), .int a1] (mkh g bd pre rst) σ (P_X7_cannotCiteBox σ a1) := by
  refine SpR.of hl (by decide) (Nat.le_of_ble_eq_true rfl) (fun rr H p e s m args below meth c A C hr hx => ?_)
  unfold P_X7_cannotCiteBox at H
  refine J.lw (lv' := [(0, .ref (bd 0)), (1, .int a1)]) ⟨rfl, rfl, trivial⟩ ?_
  refine J.aload_n (i := 0) C dX7_cannotCiteBox_0 rfl rfl ?_
  refine J.aload_n (i := 0) C dX7_cannotCiteBox_1 rfl rfl ?_
  refine J.iload_n (i := 1) C dX7_cannotCiteBox_2 rfl rfl ?_
  refine J.callVI C (sp_X7_isBox hl _) rfl kMl_X7_155 mdX7_isBox ⟨(Nat.le_of_ble_eq_true rfl), (Nat.le_of_ble_eq_true rfl)⟩ mk_0 rfl rfl (Nat.le_of_ble_eq_true rfl) dX7_cannotCiteBox_3 ⟨(Nat.le_of_ble_eq_true rfl), (Nat.le_of_ble_eq_true rfl)⟩ ?_
  refine J.if_neL (tgt := 13) C dX7_cannotCiteBox_6 (by decide) H (fun c_6 H => ?_) (fun c_6 H => ?_)
  · refine J.aload_n (i := 0) C dX7_cannotCiteBox_13 rfl rfl ?_
    refine J.iload_n (i := 1) C dX7_cannotCiteBox_14 rfl rfl ?_
    refine J.callVBI (hp := (mkh g bd pre rst)) C rfl (sp_X7_mayCiteBox hl _) rfl kMl_X7_158 mdX7_mayCiteBox ⟨(Nat.le_of_ble_eq_true rfl), (Nat.le_of_ble_eq_true rfl)⟩ mk_0 rfl rfl (Nat.le_of_ble_eq_true rfl) dX7_cannotCiteBox_15 ⟨(Nat.le_of_ble_eq_true rfl), (Nat.le_of_ble_eq_true rfl)⟩ hx (Nat.le_of_ble_eq_true rfl) (Nat.le_of_ble_eq_true rfl) H (fun r15 s15 H => ?_)
    refine J.if_neL (tgt := 25) C dX7_cannotCiteBox_18 (by decide) H (fun c_18 H => ?_) (fun c_18 H => ?_)
    · refine J.iconst C (0) dX7_cannotCiteBox_25 (by decide) ?_
      refine J.putL (hp := (mkh g bd pre rst)) C (pre.length + 0) 22 mk_0 rfl (by decide) kFl_X7_84 inB_X7 tyX7 tyX7_ok nmX7 rfl rfl rfl rfl (Nat.le_of_ble_eq_true rfl) dX7_cannotCiteBox_26 (mkI_5 _) H (fun s26 H => ?_)
      refine J.aload_n (i := 0) C dX7_cannotCiteBox_29 rfl rfl ?_
      refine J.get C (pre.length + 0) 22 mk_0 rfl (by decide) kFl_X7_84 inB_X7 rfl dX7_cannotCiteBox_30 ?_
      refine J.if_leL (tgt := 40) C dX7_cannotCiteBox_33 (by decide) H (fun c_33 H => ?_) (fun c_33 H => ?_)
      · refine J.iconst C (0) dX7_cannotCiteBox_40 (by decide) ?_
        exact J.zretL C hr rfl (Nat.le_of_ble_eq_true rfl) (Nat.le_of_ble_eq_true rfl) dX7_cannotCiteBox_41 H
      · refine J.iconst C (1) dX7_cannotCiteBox_36 (by decide) ?_
        refine J.goto (tgt := 41) C dX7_cannotCiteBox_37 (by decide) ?_
        exact J.zretL C hr rfl (Nat.le_of_ble_eq_true rfl) (Nat.le_of_ble_eq_true rfl) dX7_cannotCiteBox_41 H
    · refine J.iconst C (2) dX7_cannotCiteBox_21 (by decide) ?_
      refine J.goto (tgt := 26) C dX7_cannotCiteBox_22 (by decide) ?_
      refine J.putL (hp := (mkh g bd pre rst)) C (pre.length + 0) 22 mk_0 rfl (by decide) kFl_X7_84 inB_X7 tyX7 tyX7_ok nmX7 rfl rfl rfl rfl (Nat.le_of_ble_eq_true rfl) dX7_cannotCiteBox_26 (mkI_5 _) H (fun s26 H => ?_)
      refine J.aload_n (i := 0) C dX7_cannotCiteBox_29 rfl rfl ?_
      refine J.get C (pre.length + 0) 22 mk_0 rfl (by decide) kFl_X7_84 inB_X7 rfl dX7_cannotCiteBox_30 ?_
      refine J.if_leL (tgt := 40) C dX7_cannotCiteBox_33 (by decide) H (fun c_33 H => ?_) (fun c_33 H => ?_)
      · refine J.iconst C (0) dX7_cannotCiteBox_40 (by decide) ?_
        exact J.zretL C hr rfl (Nat.le_of_ble_eq_true rfl) (Nat.le_of_ble_eq_true rfl) dX7_cannotCiteBox_41 H
      · refine J.iconst C (1) dX7_cannotCiteBox_36 (by decide) ?_
        refine J.goto (tgt := 41) C dX7_cannotCiteBox_37 (by decide) ?_
        exact J.zretL C hr rfl (Nat.le_of_ble_eq_true rfl) (Nat.le_of_ble_eq_true rfl) dX7_cannotCiteBox_41 H
  · refine J.iconst C (1) dX7_cannotCiteBox_9 (by decide) ?_
    refine J.goto (tgt := 26) C dX7_cannotCiteBox_10 (by decide) ?_
    refine J.putL (hp := (mkh g bd pre rst)) C (pre.length + 0) 22 mk_0 rfl (by decide) kFl_X7_84 inB_X7 tyX7 tyX7_ok nmX7 rfl rfl rfl rfl (Nat.le_of_ble_eq_true rfl) dX7_cannotCiteBox_26 (mkI_5 _) H (fun s26 H => ?_)
    refine J.aload_n (i := 0) C dX7_cannotCiteBox_29 rfl rfl ?_
    refine J.get C (pre.length + 0) 22 mk_0 rfl (by decide) kFl_X7_84 inB_X7 rfl dX7_cannotCiteBox_30 ?_
    refine J.if_leL (tgt := 40) C dX7_cannotCiteBox_33 (by decide) H (fun c_33 H => ?_) (fun c_33 H => ?_)
    · refine J.iconst C (0) dX7_cannotCiteBox_40 (by decide) ?_
      exact J.zretL C hr rfl (Nat.le_of_ble_eq_true rfl) (Nat.le_of_ble_eq_true rfl) dX7_cannotCiteBox_41 H
    · refine J.iconst C (1) dX7_cannotCiteBox_36 (by decide) ?_
      refine J.goto (tgt := 41) C dX7_cannotCiteBox_37 (by decide) ?_
      exact J.zretL C hr rfl (Nat.le_of_ble_eq_true rfl) (Nat.le_of_ble_eq_true rfl) dX7_cannotCiteBox_41 H

/-! X7_repeat -/
abbrev mX7_repeat : MD := (yX7_repeat, cX7_repeat, 2, some .int)
theorem mdX7_repeat : MDv mX7_repeat RX7 1 := ⟨kIm_X7_repeat, kSe_X7_repeat, kIn_X7, kCo_X7_repeat, by decide +kernel⟩
def P_X7_repeat (σ : MS) (a1 : Int32) : Res MS Int32 := (bd (P_X7_cannotCite σ a1) fun r2 s2 => (if r2 = 0 then (if (s2.1 1) = (60 : Int32) then (bd (P_X7_raises s2 (3 : Int32)) fun r21 s21 => (some (.inl r21, s21))) else (gd a1 60 (bd (P_X7_enters s2 (s2.2.1 6 a1.toNatClampNeg) (82 : Int32) a1 (-1 : Int32) (-1 : Int32) (-1 : Int32)) fun r40 s40 => (some (.inl r40, s40))))) else (some (.inl (0 : Int32), s2))))
set_option maxRecDepth 100000 in
theorem sp_X7_repeat {l : Launch} (hl : l.stackTraces = false) {g : Gy} {bd : Nat → Nat} {pre rst : va_W} {σ : MS} (a1 : Int32) : SpR l mX7_repeat 4 0 0 mI g [.ref (bd 0), .int a1] (mkh g bd pre rst) σ (P_X7_repeat σ a1) := by
  refine SpR.of hl (by decide) (Nat.le_of_ble_eq_true rfl) (fun rr H p e s m args below meth c A C hr hx => ?_)
  unfold P_X7_repeat at H
  refine J.lw (lv' := [(0, .ref (bd 0)), (1, .int a1)]) ⟨rfl, rfl, trivial⟩ ?_
  refine J.aload_n (i := 0) C dX7_repeat_0 rfl rfl ?_
  refine J.iload_n (i := 1) C dX7_repeat_1 rfl rfl ?_
  refine J.callVBI (hp := (mkh g bd pre rst)) C rfl (sp_X7_cannotCite hl _) rfl kMl_X7_161 mdX7_cannotCite ⟨(Nat.le_of_ble_eq_true rfl), (Nat.le_of_ble_eq_true rfl)⟩ mk_0 rfl rfl (Nat.le_of_ble_eq_true rfl) dX7_repeat_2 ⟨(Nat.le_of_ble_eq_true rfl), (Nat.le_of_ble_eq_true rfl)⟩ hx (Nat.le_of_ble_eq_true rfl) (Nat.le_of_ble_eq_true rfl) H (fun r2 s2 H => ?_)
  refine J.if_eqL (tgt := 10) C dX7_repeat_5 (by decide) H (fun c_5 H => ?_) (fun c_5 H => ?_)
  · refine J.aload_n (i := 0) C dX7_repeat_10 rfl rfl ?_
    refine J.get C (pre.length + 0) 11 mk_0 rfl (by decide) kFl_X7_94 inB_X7 rfl dX7_repeat_11 ?_
    refine J.bipush C (60) dX7_repeat_14 (by decide) ?_
    refine J.icmp_neL (tgt := 27) C dX7_repeat_16 (by decide) H (fun c_16 H => ?_) (fun c_16 H => ?_)
    · refine J.aload_n (i := 0) C dX7_repeat_27 rfl rfl ?_
      refine J.aload_n (i := 0) C dX7_repeat_28 rfl rfl ?_
      refine J.get C (pre.length + 0) 7 mk_0 rfl (by decide) kFl_X7_29 inB_X7 rfl dX7_repeat_29 ?_
      refine J.iload_n (i := 1) C dX7_repeat_32 rfl rfl ?_
      refine J.ialdL C (pre.length + 7) mk_7 dX7_repeat_33 H (fun H => ?_)
      refine J.bipush C (82) dX7_repeat_34 (by decide) ?_
      refine J.iload_n (i := 1) C dX7_repeat_36 rfl rfl ?_
      refine J.iconst C (-1) dX7_repeat_37 (by decide) ?_
      refine J.iconst C (-1) dX7_repeat_38 (by decide) ?_
      refine J.iconst C (-1) dX7_repeat_39 (by decide) ?_
      refine J.callVBI (hp := (mkh g bd pre rst)) C rfl (sp_X7_enters hl _ _ _ _ _ _) rfl kMl_X7_145 mdX7_enters ⟨(Nat.le_of_ble_eq_true rfl), (Nat.le_of_ble_eq_true rfl)⟩ mk_0 rfl rfl (Nat.le_of_ble_eq_true rfl) dX7_repeat_40 ⟨(Nat.le_of_ble_eq_true rfl), (Nat.le_of_ble_eq_true rfl)⟩ hx (Nat.le_of_ble_eq_true rfl) (Nat.le_of_ble_eq_true rfl) H (fun r40 s40 H => ?_)
      exact J.iretL C hr (Nat.le_of_ble_eq_true rfl) (Nat.le_of_ble_eq_true rfl) dX7_repeat_43 H
    · refine J.aload_n (i := 0) C dX7_repeat_19 rfl rfl ?_
      refine J.iconst C (3) dX7_repeat_20 (by decide) ?_
      refine J.callVBI (hp := (mkh g bd pre rst)) C rfl (sp_X7_raises hl _) rfl kMl_X7_132 mdX7_raises ⟨(Nat.le_of_ble_eq_true rfl), (Nat.le_of_ble_eq_true rfl)⟩ mk_0 rfl rfl (Nat.le_of_ble_eq_true rfl) dX7_repeat_21 ⟨(Nat.le_of_ble_eq_true rfl), (Nat.le_of_ble_eq_true rfl)⟩ hx (Nat.le_of_ble_eq_true rfl) (Nat.le_of_ble_eq_true rfl) H (fun r21 s21 H => ?_)
      refine J.goto (tgt := 43) C dX7_repeat_24 (by decide) ?_
      exact J.iretL C hr (Nat.le_of_ble_eq_true rfl) (Nat.le_of_ble_eq_true rfl) dX7_repeat_43 H
  · refine J.iconst C (0) dX7_repeat_8 (by decide) ?_
    exact J.iretL C hr (Nat.le_of_ble_eq_true rfl) (Nat.le_of_ble_eq_true rfl) dX7_repeat_9 H

/-! X7_makeConjunction -/
abbrev mX7_makeConjunction : MD := (yX7_makeConjunction, cX7_makeConjunction, 3, some .int)
theorem mdX7_makeConjunction : MDv mX7_makeConjunction RX7 2 := ⟨kIm_X7_makeConjunction, kSe_X7_makeConjunction, kIn_X7, kCo_X7_makeConjunction, by decide +kernel⟩
def P_X7_makeConjunction (σ : MS) (a1 : Int32) (a2 : Int32) : Res MS Int32 := (bd (P_X7_cannotCite_ σ a1 a2) fun r3 s3 => (if r3 = 0 then (gd a1 60 (gd a2 60 (bd (P_X7_entersMade s3 (75 : Int32) (s3.2.1 6 a1.toNatClampNeg) (s3.2.1 6 a2.toNatClampNeg) (3 : Int32) (107 : Int32) a1 a2 (-1 : Int32)) fun r34 s34 => (some (.inl r34, s34))))) else (some (.inl (0 : Int32), s3))))
set_option maxRecDepth 100000 in
theorem sp_X7_makeConjunction {l : Launch} (hl : l.stackTraces = false) {g : Gy} {bd : Nat → Nat} {pre rst : va_W} {σ : MS} (a1 : Int32) (a2 : Int32) : SpR l mX7_makeConjunction 5 0 0 mI g [.ref (bd 0), .int a1, .int a2] (mkh g bd pre rst) σ (P_X7_makeConjunction σ a1 a2) := by
  refine SpR.of hl (by decide) (Nat.le_of_ble_eq_true rfl) (fun rr H p e s m args below meth c A C hr hx => ?_)
  unfold P_X7_makeConjunction at H
  refine J.lw (lv' := [(0, .ref (bd 0)), (1, .int a1), (2, .int a2)]) ⟨rfl, rfl, rfl, trivial⟩ ?_
  refine J.aload_n (i := 0) C dX7_makeConjunction_0 rfl rfl ?_
  refine J.iload_n (i := 1) C dX7_makeConjunction_1 rfl rfl ?_
  refine J.iload_n (i := 2) C dX7_makeConjunction_2 rfl rfl ?_
  refine J.callVBI (hp := (mkh g bd pre rst)) C rfl (sp_X7_cannotCite_ hl _ _) rfl kMl_X7_164 mdX7_cannotCite_ ⟨(Nat.le_of_ble_eq_true rfl), (Nat.le_of_ble_eq_true rfl)⟩ mk_0 rfl rfl (Nat.le_of_ble_eq_true rfl) dX7_makeConjunction_3 ⟨(Nat.le_of_ble_eq_true rfl), (Nat.le_of_ble_eq_true rfl)⟩ hx (Nat.le_of_ble_eq_true rfl) (Nat.le_of_ble_eq_true rfl) H (fun r3 s3 H => ?_)
  refine J.if_eqL (tgt := 13) C dX7_makeConjunction_6 (by decide) H (fun c_6 H => ?_) (fun c_6 H => ?_)
  · refine J.aload_n (i := 0) C dX7_makeConjunction_13 rfl rfl ?_
    refine J.bipush C (75) dX7_makeConjunction_14 (by decide) ?_
    refine J.aload_n (i := 0) C dX7_makeConjunction_16 rfl rfl ?_
    refine J.get C (pre.length + 0) 7 mk_0 rfl (by decide) kFl_X7_29 inB_X7 rfl dX7_makeConjunction_17 ?_
    refine J.iload_n (i := 1) C dX7_makeConjunction_20 rfl rfl ?_
    refine J.ialdL C (pre.length + 7) mk_7 dX7_makeConjunction_21 H (fun H => ?_)
    refine J.aload_n (i := 0) C dX7_makeConjunction_22 rfl rfl ?_
    refine J.get C (pre.length + 0) 7 mk_0 rfl (by decide) kFl_X7_29 inB_X7 rfl dX7_makeConjunction_23 ?_
    refine J.iload_n (i := 2) C dX7_makeConjunction_26 rfl rfl ?_
    refine J.ialdL C (pre.length + 7) mk_7 dX7_makeConjunction_27 H (fun H => ?_)
    refine J.iconst C (3) dX7_makeConjunction_28 (by decide) ?_
    refine J.bipush C (107) dX7_makeConjunction_29 (by decide) ?_
    refine J.iload_n (i := 1) C dX7_makeConjunction_31 rfl rfl ?_
    refine J.iload_n (i := 2) C dX7_makeConjunction_32 rfl rfl ?_
    refine J.iconst C (-1) dX7_makeConjunction_33 (by decide) ?_
    refine J.callVBI (hp := (mkh g bd pre rst)) C rfl (sp_X7_entersMade hl _ _ _ _ _ _ _ _) rfl kMl_X7_167 mdX7_entersMade ⟨(Nat.le_of_ble_eq_true rfl), (Nat.le_of_ble_eq_true rfl)⟩ mk_0 rfl rfl (Nat.le_of_ble_eq_true rfl) dX7_makeConjunction_34 ⟨(Nat.le_of_ble_eq_true rfl), (Nat.le_of_ble_eq_true rfl)⟩ hx (Nat.le_of_ble_eq_true rfl) (Nat.le_of_ble_eq_true rfl) H (fun r34 s34 H => ?_)
    exact J.iretL C hr (Nat.le_of_ble_eq_true rfl) (Nat.le_of_ble_eq_true rfl) dX7_makeConjunction_37 H
  · refine J.iconst C (0) dX7_makeConjunction_9 (by decide) ?_
    refine J.goto (tgt := 37) C dX7_makeConjunction_10 (by decide) ?_
    exact J.iretL C hr (Nat.le_of_ble_eq_true rfl) (Nat.le_of_ble_eq_true rfl) dX7_makeConjunction_37 H

/-! X7_useConjunction -/
def B_X7_useConjunction_37 (σ : MS) (l3 : Int32) : Res MS Int32 := (gd l3 150 (if (σ.2.1 0 l3.toNatClampNeg) = (75 : Int32) then (bd (P_X7_raises σ (4 : Int32)) fun r54 s54 => (some (.inl r54, s54))) else (bd (P_X7_raises σ (3 : Int32)) fun r54 s54 => (some (.inl r54, s54)))))
set_option maxRecDepth 100000 in
theorem bl_X7_useConjunction_37 {l : Launch} (hl : l.stackTraces = false) {g : Gy} {bd : Nat → Nat} {pre rst : va_W} {p : Program} {e : Env} {s : State} {m : MethodId} {args : Array Value} {below : List Frame} {meth : Method} {c : Code} {A : Nat → Prop} (C : Cx p l s m args meth c g A yX7_useConjunction.cls cX7_useConjunction 4) (hr : meth.sig.returnType = some .int) (hx : ∀ x ∈ c.exceptionTable.toList, False) {rr : (Int32 ⊕ String) × MS} (σ : MS) (l3 : Int32) (H : B_X7_useConjunction_37 σ l3 = some rr) : J p l e (rmOf 4 0 0) s m args below meth c g A 4 0 0 (QR mI g A (mkh g bd pre rst) rr below args s 0 0) 37 [(0, .ref (bd 0)), (3, .int l3)] [] ((mkh g bd pre rst) σ) := by
  unfold B_X7_useConjunction_37 at H
  refine J.aload_n (i := 0) C dX7_useConjunction_37 rfl rfl ?_
  refine J.aload_n (i := 0) C dX7_useConjunction_38 rfl rfl ?_
  refine J.get C (pre.length + 0) 0 mk_0 rfl (by decide) kFl_X7_9 inB_X7 rfl dX7_useConjunction_39 ?_
  refine J.iload_n (i := 3) C dX7_useConjunction_42 rfl rfl ?_
  refine J.caldL C (pre.length + 1) mk_1 dX7_useConjunction_43 H (fun H => ?_)
  refine J.bipush C (75) dX7_useConjunction_44 (by decide) ?_
  refine J.icmp_eqL (tgt := 53) C dX7_useConjunction_46 (by decide) H (fun c_46 H => ?_) (fun c_46 H => ?_)
  · refine J.iconst C (4) dX7_useConjunction_53 (by decide) ?_
    refine J.callVBI (hp := (mkh g bd pre rst)) C rfl (sp_X7_raises hl _) rfl kMl_X7_132 mdX7_raises ⟨(Nat.le_of_ble_eq_true rfl), (Nat.le_of_ble_eq_true rfl)⟩ mk_0 rfl rfl (Nat.le_of_ble_eq_true rfl) dX7_useConjunction_54 ⟨(Nat.le_of_ble_eq_true rfl), (Nat.le_of_ble_eq_true rfl)⟩ hx (Nat.le_of_ble_eq_true rfl) (Nat.le_of_ble_eq_true rfl) H (fun r54 s54 H => ?_)
    exact J.iretL C hr (Nat.le_of_ble_eq_true rfl) (Nat.le_of_ble_eq_true rfl) dX7_useConjunction_57 H
  · refine J.iconst C (3) dX7_useConjunction_49 (by decide) ?_
    refine J.goto (tgt := 54) C dX7_useConjunction_50 (by decide) ?_
    refine J.callVBI (hp := (mkh g bd pre rst)) C rfl (sp_X7_raises hl _) rfl kMl_X7_132 mdX7_raises ⟨(Nat.le_of_ble_eq_true rfl), (Nat.le_of_ble_eq_true rfl)⟩ mk_0 rfl rfl (Nat.le_of_ble_eq_true rfl) dX7_useConjunction_54 ⟨(Nat.le_of_ble_eq_true rfl), (Nat.le_of_ble_eq_true rfl)⟩ hx (Nat.le_of_ble_eq_true rfl) (Nat.le_of_ble_eq_true rfl) H (fun r54 s54 H => ?_)
    exact J.iretL C hr (Nat.le_of_ble_eq_true rfl) (Nat.le_of_ble_eq_true rfl) dX7_useConjunction_57 H
def B_X7_useConjunction_78 (σ : MS) (l1 : Int32) (l2 : Int32) (t0 : Int32) : Res MS Int32 := (if l2 = 0 then (bd (P_X7_enters σ t0 (108 : Int32) l1 (-1 : Int32) (-1 : Int32) (-1 : Int32)) fun r93 s93 => (some (.inl r93, s93))) else (bd (P_X7_enters σ t0 (114 : Int32) l1 (-1 : Int32) (-1 : Int32) (-1 : Int32)) fun r93 s93 => (some (.inl r93, s93))))
set_option maxRecDepth 100000 in
theorem bl_X7_useConjunction_78 {l : Launch} (hl : l.stackTraces = false) {g : Gy} {bd : Nat → Nat} {pre rst : va_W} {p : Program} {e : Env} {s : State} {m : MethodId} {args : Array Value} {below : List Frame} {meth : Method} {c : Code} {A : Nat → Prop} (C : Cx p l s m args meth c g A yX7_useConjunction.cls cX7_useConjunction 4) (hr : meth.sig.returnType = some .int) (hx : ∀ x ∈ c.exceptionTable.toList, False) {rr : (Int32 ⊕ String) × MS} (σ : MS) (l1 : Int32) (l2 : Int32) (t0 : Int32) (H : B_X7_useConjunction_78 σ l1 l2 t0 = some rr) : J p l e (rmOf 4 0 0) s m args below meth c g A 4 0 0 (QR mI g A (mkh g bd pre rst) rr below args s 0 0) 78 [(1, .int l1), (2, .int l2)] [.int t0, .ref (bd 0)] ((mkh g bd pre rst) σ) := by
  unfold B_X7_useConjunction_78 at H
  refine J.iload_n (i := 2) C dX7_useConjunction_78 rfl rfl ?_
  refine J.if_eqL (tgt := 87) C dX7_useConjunction_79 (by decide) H (fun c_79 H => ?_) (fun c_79 H => ?_)
  · refine J.bipush C (108) dX7_useConjunction_87 (by decide) ?_
    refine J.iload_n (i := 1) C dX7_useConjunction_89 rfl rfl ?_
    refine J.iconst C (-1) dX7_useConjunction_90 (by decide) ?_
    refine J.iconst C (-1) dX7_useConjunction_91 (by decide) ?_
    refine J.iconst C (-1) dX7_useConjunction_92 (by decide) ?_
    refine J.callVBI (hp := (mkh g bd pre rst)) C rfl (sp_X7_enters hl _ _ _ _ _ _) rfl kMl_X7_145 mdX7_enters ⟨(Nat.le_of_ble_eq_true rfl), (Nat.le_of_ble_eq_true rfl)⟩ mk_0 rfl rfl (Nat.le_of_ble_eq_true rfl) dX7_useConjunction_93 ⟨(Nat.le_of_ble_eq_true rfl), (Nat.le_of_ble_eq_true rfl)⟩ hx (Nat.le_of_ble_eq_true rfl) (Nat.le_of_ble_eq_true rfl) H (fun r93 s93 H => ?_)
    exact J.iretL C hr (Nat.le_of_ble_eq_true rfl) (Nat.le_of_ble_eq_true rfl) dX7_useConjunction_96 H
  · refine J.bipush C (114) dX7_useConjunction_82 (by decide) ?_
    refine J.goto (tgt := 89) C dX7_useConjunction_84 (by decide) ?_
    refine J.iload_n (i := 1) C dX7_useConjunction_89 rfl rfl ?_
    refine J.iconst C (-1) dX7_useConjunction_90 (by decide) ?_
    refine J.iconst C (-1) dX7_useConjunction_91 (by decide) ?_
    refine J.iconst C (-1) dX7_useConjunction_92 (by decide) ?_
    refine J.callVBI (hp := (mkh g bd pre rst)) C rfl (sp_X7_enters hl _ _ _ _ _ _) rfl kMl_X7_145 mdX7_enters ⟨(Nat.le_of_ble_eq_true rfl), (Nat.le_of_ble_eq_true rfl)⟩ mk_0 rfl rfl (Nat.le_of_ble_eq_true rfl) dX7_useConjunction_93 ⟨(Nat.le_of_ble_eq_true rfl), (Nat.le_of_ble_eq_true rfl)⟩ hx (Nat.le_of_ble_eq_true rfl) (Nat.le_of_ble_eq_true rfl) H (fun r93 s93 H => ?_)
    exact J.iretL C hr (Nat.le_of_ble_eq_true rfl) (Nat.le_of_ble_eq_true rfl) dX7_useConjunction_96 H
abbrev mX7_useConjunction : MD := (yX7_useConjunction, cX7_useConjunction, 4, some .int)
theorem mdX7_useConjunction : MDv mX7_useConjunction RX7 2 := ⟨kIm_X7_useConjunction, kSe_X7_useConjunction, kIn_X7, kCo_X7_useConjunction, by decide +kernel⟩
def P_X7_useConjunction (σ : MS) (a1 : Int32) (a2 : Int32) : Res MS Int32 := (bd (P_X7_cannotCite σ a1) fun r2 s2 => (if r2 = 0 then (gd a1 60 (lt (s2.2.1 6 a1.toNatClampNeg) fun z16 => (gd z16 150 (if (s2.2.1 0 z16.toNatClampNeg) = (75 : Int32) then (if (s2.1 1) = (60 : Int32) then (B_X7_useConjunction_37 s2 z16) else (if a2 = 0 then (gd z16 150 (B_X7_useConjunction_78 s2 a1 a2 (s2.2.1 1 z16.toNatClampNeg))) else (gd z16 150 (B_X7_useConjunction_78 s2 a1 a2 (s2.2.1 2 z16.toNatClampNeg))))) else (B_X7_useConjunction_37 s2 z16))))) else (some (.inl (0 : Int32), s2))))
set_option maxRecDepth 100000 in
theorem sp_X7_useConjunction {l : Launch} (hl : l.stackTraces = false) {g : Gy} {bd : Nat → Nat} {pre rst : va_W} {σ : MS} (a1 : Int32) (a2 : Int32) : SpR l mX7_useConjunction 4 0 0 mI g [.ref (bd 0), .int a1, .int a2] (mkh g bd pre rst) σ (P_X7_useConjunction σ a1 a2) := by
  refine SpR.of hl (by decide) (Nat.le_of_ble_eq_true rfl) (fun rr H p e s m args below meth c A C hr hx => ?_)
  unfold P_X7_useConjunction at H
  refine J.lw (lv' := [(0, .ref (bd 0)), (1, .int a1), (2, .int a2)]) ⟨rfl, rfl, rfl, trivial⟩ ?_
  refine J.aload_n (i := 0) C dX7_useConjunction_0 rfl rfl ?_
  refine J.iload_n (i := 1) C dX7_useConjunction_1 rfl rfl ?_
  refine J.callVBI (hp := (mkh g bd pre rst)) C rfl (sp_X7_cannotCite hl _) rfl kMl_X7_161 mdX7_cannotCite ⟨(Nat.le_of_ble_eq_true rfl), (Nat.le_of_ble_eq_true rfl)⟩ mk_0 rfl rfl (Nat.le_of_ble_eq_true rfl) dX7_useConjunction_2 ⟨(Nat.le_of_ble_eq_true rfl), (Nat.le_of_ble_eq_true rfl)⟩ hx (Nat.le_of_ble_eq_true rfl) (Nat.le_of_ble_eq_true rfl) H (fun r2 s2 H => ?_)
  refine J.if_eqL (tgt := 10) C dX7_useConjunction_5 (by decide) H (fun c_5 H => ?_) (fun c_5 H => ?_)
  · refine J.aload_n (i := 0) C dX7_useConjunction_10 rfl rfl ?_
    refine J.get C (pre.length + 0) 7 mk_0 rfl (by decide) kFl_X7_29 inB_X7 rfl dX7_useConjunction_11 ?_
    refine J.iload_n (i := 1) C dX7_useConjunction_14 rfl rfl ?_
    refine J.ialdL C (pre.length + 7) mk_7 dX7_useConjunction_15 H (fun H => ?_)
    refine J.istore_nL (i := 3) C dX7_useConjunction_16 rfl (by decide) H (fun z16 H => ?_)
    refine J.aload_n (i := 0) C dX7_useConjunction_17 rfl rfl ?_
    refine J.get C (pre.length + 0) 0 mk_0 rfl (by decide) kFl_X7_9 inB_X7 rfl dX7_useConjunction_18 ?_
    refine J.iload_n (i := 3) C dX7_useConjunction_21 rfl rfl ?_
    refine J.caldL C (pre.length + 1) mk_1 dX7_useConjunction_22 H (fun H => ?_)
    refine J.bipush C (75) dX7_useConjunction_23 (by decide) ?_
    refine J.icmp_neL (tgt := 37) C dX7_useConjunction_25 (by decide) H (fun c_25 H => ?_) (fun c_25 H => ?_)
    · refine J.widen (k := 0) (n := 0) (Nat.le_of_ble_eq_true rfl) (Nat.le_of_ble_eq_true rfl) ?_
      refine J.lw (lv' := [(0, .ref (bd 0)), (3, .int z16)]) ⟨rfl, rfl, trivial⟩ ?_
      exact bl_X7_useConjunction_37 hl C hr hx  _ _  H
    · refine J.aload_n (i := 0) C dX7_useConjunction_28 rfl rfl ?_
      refine J.get C (pre.length + 0) 11 mk_0 rfl (by decide) kFl_X7_94 inB_X7 rfl dX7_useConjunction_29 ?_
      refine J.bipush C (60) dX7_useConjunction_32 (by decide) ?_
      refine J.icmp_neL (tgt := 58) C dX7_useConjunction_34 (by decide) H (fun c_34 H => ?_) (fun c_34 H => ?_)
      · refine J.aload_n (i := 0) C dX7_useConjunction_58 rfl rfl ?_
        refine J.iload_n (i := 2) C dX7_useConjunction_59 rfl rfl ?_
        refine J.if_eqL (tgt := 72) C dX7_useConjunction_60 (by decide) H (fun c_60 H => ?_) (fun c_60 H => ?_)
        · refine J.aload_n (i := 0) C dX7_useConjunction_72 rfl rfl ?_
          refine J.get C (pre.length + 0) 1 mk_0 rfl (by decide) kFl_X7_13 inB_X7 rfl dX7_useConjunction_73 ?_
          refine J.iload_n (i := 3) C dX7_useConjunction_76 rfl rfl ?_
          refine J.ialdL C (pre.length + 2) mk_2 dX7_useConjunction_77 H (fun H => ?_)
          refine J.widen (k := 0) (n := 0) (Nat.le_of_ble_eq_true rfl) (Nat.le_of_ble_eq_true rfl) ?_
          refine J.lw (lv' := [(1, .int a1), (2, .int a2)]) ⟨rfl, rfl, trivial⟩ ?_
          exact bl_X7_useConjunction_78 hl C hr hx  _ _ _ _  H
        · refine J.aload_n (i := 0) C dX7_useConjunction_63 rfl rfl ?_
          refine J.get C (pre.length + 0) 2 mk_0 rfl (by decide) kFl_X7_17 inB_X7 rfl dX7_useConjunction_64 ?_
          refine J.iload_n (i := 3) C dX7_useConjunction_67 rfl rfl ?_
          refine J.ialdL C (pre.length + 3) mk_3 dX7_useConjunction_68 H (fun H => ?_)
          refine J.goto (tgt := 78) C dX7_useConjunction_69 (by decide) ?_
          refine J.widen (k := 0) (n := 0) (Nat.le_of_ble_eq_true rfl) (Nat.le_of_ble_eq_true rfl) ?_
          refine J.lw (lv' := [(1, .int a1), (2, .int a2)]) ⟨rfl, rfl, trivial⟩ ?_
          exact bl_X7_useConjunction_78 hl C hr hx  _ _ _ _  H
      · refine J.widen (k := 0) (n := 0) (Nat.le_of_ble_eq_true rfl) (Nat.le_of_ble_eq_true rfl) ?_
        refine J.lw (lv' := [(0, .ref (bd 0)), (3, .int z16)]) ⟨rfl, rfl, trivial⟩ ?_
        exact bl_X7_useConjunction_37 hl C hr hx  _ _  H
  · refine J.iconst C (0) dX7_useConjunction_8 (by decide) ?_
    exact J.iretL C hr (Nat.le_of_ble_eq_true rfl) (Nat.le_of_ble_eq_true rfl) dX7_useConjunction_9 H

/-! X7_makeDisjunction -/
def B_X7_makeDisjunction_77 (σ : MS) (l1 : Int32) (l3 : Int32) (t0 : Int32) (t1 : Int32) (t2 : Int32) : Res MS Int32 := (if l3 = 0 then (bd (P_X7_entersMade σ t2 t1 t0 (3 : Int32) (97 : Int32) l1 (-1 : Int32) (-1 : Int32)) fun r92 s92 => (some (.inl r92, s92))) else (bd (P_X7_entersMade σ t2 t1 t0 (3 : Int32) (98 : Int32) l1 (-1 : Int32) (-1 : Int32)) fun r92 s92 => (some (.inl r92, s92))))
set_option maxRecDepth 100000 in
theorem bl_X7_makeDisjunction_77 {l : Launch} (hl : l.stackTraces = false) {g : Gy} {bd : Nat → Nat} {pre rst : va_W} {p : Program} {e : Env} {s : State} {m : MethodId} {args : Array Value} {below : List Frame} {meth : Method} {c : Code} {A : Nat → Prop} (C : Cx p l s m args meth c g A yX7_makeDisjunction.cls cX7_makeDisjunction 5) (hr : meth.sig.returnType = some .int) (hx : ∀ x ∈ c.exceptionTable.toList, False) {rr : (Int32 ⊕ String) × MS} (σ : MS) (l1 : Int32) (l3 : Int32) (t0 : Int32) (t1 : Int32) (t2 : Int32) (H : B_X7_makeDisjunction_77 σ l1 l3 t0 t1 t2 = some rr) : J p l e (rmOf 5 0 0) s m args below meth c g A 5 0 0 (QR mI g A (mkh g bd pre rst) rr below args s 0 0) 77 [(1, .int l1), (3, .int l3)] [.int t0, .int t1, .int t2, .ref (bd 0)] ((mkh g bd pre rst) σ) := by
  unfold B_X7_makeDisjunction_77 at H
  refine J.iconst C (3) dX7_makeDisjunction_77 (by decide) ?_
  refine J.iload_n (i := 3) C dX7_makeDisjunction_78 rfl rfl ?_
  refine J.if_eqL (tgt := 87) C dX7_makeDisjunction_79 (by decide) H (fun c_79 H => ?_) (fun c_79 H => ?_)
  · refine J.bipush C (97) dX7_makeDisjunction_87 (by decide) ?_
    refine J.iload_n (i := 1) C dX7_makeDisjunction_89 rfl rfl ?_
    refine J.iconst C (-1) dX7_makeDisjunction_90 (by decide) ?_
    refine J.iconst C (-1) dX7_makeDisjunction_91 (by decide) ?_
    refine J.callVBI (hp := (mkh g bd pre rst)) C rfl (sp_X7_entersMade hl _ _ _ _ _ _ _ _) rfl kMl_X7_167 mdX7_entersMade ⟨(Nat.le_of_ble_eq_true rfl), (Nat.le_of_ble_eq_true rfl)⟩ mk_0 rfl rfl (Nat.le_of_ble_eq_true rfl) dX7_makeDisjunction_92 ⟨(Nat.le_of_ble_eq_true rfl), (Nat.le_of_ble_eq_true rfl)⟩ hx (Nat.le_of_ble_eq_true rfl) (Nat.le_of_ble_eq_true rfl) H (fun r92 s92 H => ?_)
    exact J.iretL C hr (Nat.le_of_ble_eq_true rfl) (Nat.le_of_ble_eq_true rfl) dX7_makeDisjunction_95 H
  · refine J.bipush C (98) dX7_makeDisjunction_82 (by decide) ?_
    refine J.goto (tgt := 89) C dX7_makeDisjunction_84 (by decide) ?_
    refine J.iload_n (i := 1) C dX7_makeDisjunction_89 rfl rfl ?_
    refine J.iconst C (-1) dX7_makeDisjunction_90 (by decide) ?_
    refine J.iconst C (-1) dX7_makeDisjunction_91 (by decide) ?_
    refine J.callVBI (hp := (mkh g bd pre rst)) C rfl (sp_X7_entersMade hl _ _ _ _ _ _ _ _) rfl kMl_X7_167 mdX7_entersMade ⟨(Nat.le_of_ble_eq_true rfl), (Nat.le_of_ble_eq_true rfl)⟩ mk_0 rfl rfl (Nat.le_of_ble_eq_true rfl) dX7_makeDisjunction_92 ⟨(Nat.le_of_ble_eq_true rfl), (Nat.le_of_ble_eq_true rfl)⟩ hx (Nat.le_of_ble_eq_true rfl) (Nat.le_of_ble_eq_true rfl) H (fun r92 s92 H => ?_)
    exact J.iretL C hr (Nat.le_of_ble_eq_true rfl) (Nat.le_of_ble_eq_true rfl) dX7_makeDisjunction_95 H
def B_X7_makeDisjunction_67 (σ : MS) (l1 : Int32) (l2 : Int32) (l3 : Int32) (l4 : Int32) (t0 : Int32) (t1 : Int32) : Res MS Int32 := (if l3 = 0 then (B_X7_makeDisjunction_77 σ l1 l3 l2 t0 t1) else (B_X7_makeDisjunction_77 σ l1 l3 l4 t0 t1))
set_option maxRecDepth 100000 in
theorem bl_X7_makeDisjunction_67 {l : Launch} (hl : l.stackTraces = false) {g : Gy} {bd : Nat → Nat} {pre rst : va_W} {p : Program} {e : Env} {s : State} {m : MethodId} {args : Array Value} {below : List Frame} {meth : Method} {c : Code} {A : Nat → Prop} (C : Cx p l s m args meth c g A yX7_makeDisjunction.cls cX7_makeDisjunction 5) (hr : meth.sig.returnType = some .int) (hx : ∀ x ∈ c.exceptionTable.toList, False) {rr : (Int32 ⊕ String) × MS} (σ : MS) (l1 : Int32) (l2 : Int32) (l3 : Int32) (l4 : Int32) (t0 : Int32) (t1 : Int32) (H : B_X7_makeDisjunction_67 σ l1 l2 l3 l4 t0 t1 = some rr) : J p l e (rmOf 5 0 0) s m args below meth c g A 5 0 0 (QR mI g A (mkh g bd pre rst) rr below args s 0 0) 67 [(1, .int l1), (2, .int l2), (3, .int l3), (4, .int l4)] [.int t0, .int t1, .ref (bd 0)] ((mkh g bd pre rst) σ) := by
  unfold B_X7_makeDisjunction_67 at H
  refine J.iload_n (i := 3) C dX7_makeDisjunction_67 rfl rfl ?_
  refine J.if_eqL (tgt := 76) C dX7_makeDisjunction_68 (by decide) H (fun c_68 H => ?_) (fun c_68 H => ?_)
  · refine J.iload_n (i := 2) C dX7_makeDisjunction_76 rfl rfl ?_
    refine J.widen (k := 0) (n := 0) (Nat.le_of_ble_eq_true rfl) (Nat.le_of_ble_eq_true rfl) ?_
    refine J.lw (lv' := [(1, .int l1), (3, .int l3)]) ⟨rfl, rfl, trivial⟩ ?_
    exact bl_X7_makeDisjunction_77 hl C hr hx  _ _ _ _ _ _  H
  · refine J.iload C dX7_makeDisjunction_71 rfl ?_
    refine J.goto (tgt := 77) C dX7_makeDisjunction_73 (by decide) ?_
    refine J.widen (k := 0) (n := 0) (Nat.le_of_ble_eq_true rfl) (Nat.le_of_ble_eq_true rfl) ?_
    refine J.lw (lv' := [(1, .int l1), (3, .int l3)]) ⟨rfl, rfl, trivial⟩ ?_
    exact bl_X7_makeDisjunction_77 hl C hr hx  _ _ _ _ _ _  H
def B_X7_makeDisjunction_34 (σ : MS) (l1 : Int32) (l2 : Int32) (l3 : Int32) (t0 : Int32) : Res MS Int32 := (lt (tI σ 5 t0) fun s34 => (if (s34.1 5) ≤ 0 then (gd l1 60 (lt (s34.2.1 6 l1.toNatClampNeg) fun z52 => (if l3 = 0 then (B_X7_makeDisjunction_67 s34 l1 l2 l3 z52 z52 (65 : Int32)) else (B_X7_makeDisjunction_67 s34 l1 l2 l3 z52 l2 (65 : Int32))))) else (some (.inl (0 : Int32), s34))))
set_option maxRecDepth 100000 in
theorem bl_X7_makeDisjunction_34 {l : Launch} (hl : l.stackTraces = false) {g : Gy} {bd : Nat → Nat} {pre rst : va_W} {p : Program} {e : Env} {s : State} {m : MethodId} {args : Array Value} {below : List Frame} {meth : Method} {c : Code} {A : Nat → Prop} (C : Cx p l s m args meth c g A yX7_makeDisjunction.cls cX7_makeDisjunction 5) (hr : meth.sig.returnType = some .int) (hx : ∀ x ∈ c.exceptionTable.toList, False) {rr : (Int32 ⊕ String) × MS} (σ : MS) (l1 : Int32) (l2 : Int32) (l3 : Int32) (t0 : Int32) (H : B_X7_makeDisjunction_34 σ l1 l2 l3 t0 = some rr) : J p l e (rmOf 5 0 0) s m args below meth c g A 5 0 0 (QR mI g A (mkh g bd pre rst) rr below args s 0 0) 34 [(0, .ref (bd 0)), (1, .int l1), (2, .int l2), (3, .int l3)] [.int t0, .ref (bd 0)] ((mkh g bd pre rst) σ) := by
  unfold B_X7_makeDisjunction_34 at H
  refine J.putL (hp := (mkh g bd pre rst)) C (pre.length + 0) 22 mk_0 rfl (by decide) kFl_X7_84 inB_X7 tyX7 tyX7_ok nmX7 rfl rfl rfl rfl (Nat.le_of_ble_eq_true rfl) dX7_makeDisjunction_34 (mkI_5 _) H (fun s34 H => ?_)
  refine J.aload_n (i := 0) C dX7_makeDisjunction_37 rfl rfl ?_
  refine J.get C (pre.length + 0) 22 mk_0 rfl (by decide) kFl_X7_84 inB_X7 rfl dX7_makeDisjunction_38 ?_
  refine J.if_leL (tgt := 46) C dX7_makeDisjunction_41 (by decide) H (fun c_41 H => ?_) (fun c_41 H => ?_)
  · refine J.aload_n (i := 0) C dX7_makeDisjunction_46 rfl rfl ?_
    refine J.get C (pre.length + 0) 7 mk_0 rfl (by decide) kFl_X7_29 inB_X7 rfl dX7_makeDisjunction_47 ?_
    refine J.iload_n (i := 1) C dX7_makeDisjunction_50 rfl rfl ?_
    refine J.ialdL C (pre.length + 7) mk_7 dX7_makeDisjunction_51 H (fun H => ?_)
    refine J.istoreL C dX7_makeDisjunction_52 (by decide) H (fun z52 H => ?_)
    refine J.aload_n (i := 0) C dX7_makeDisjunction_54 rfl rfl ?_
    refine J.bipush C (65) dX7_makeDisjunction_55 (by decide) ?_
    refine J.iload_n (i := 3) C dX7_makeDisjunction_57 rfl rfl ?_
    refine J.if_eqL (tgt := 65) C dX7_makeDisjunction_58 (by decide) H (fun c_58 H => ?_) (fun c_58 H => ?_)
    · refine J.iload C dX7_makeDisjunction_65 rfl ?_
      refine J.widen (k := 0) (n := 0) (Nat.le_of_ble_eq_true rfl) (Nat.le_of_ble_eq_true rfl) ?_
      refine J.lw (lv' := [(1, .int l1), (2, .int l2), (3, .int l3), (4, .int z52)]) ⟨rfl, rfl, rfl, rfl, trivial⟩ ?_
      exact bl_X7_makeDisjunction_67 hl C hr hx  _ _ _ _ _ _ _  H
    · refine J.iload_n (i := 2) C dX7_makeDisjunction_61 rfl rfl ?_
      refine J.goto (tgt := 67) C dX7_makeDisjunction_62 (by decide) ?_
      refine J.widen (k := 0) (n := 0) (Nat.le_of_ble_eq_true rfl) (Nat.le_of_ble_eq_true rfl) ?_
      refine J.lw (lv' := [(1, .int l1), (2, .int l2), (3, .int l3), (4, .int z52)]) ⟨rfl, rfl, rfl, rfl, trivial⟩ ?_
      exact bl_X7_makeDisjunction_67 hl C hr hx  _ _ _ _ _ _ _  H
  · refine J.iconst C (0) dX7_makeDisjunction_44 (by decide) ?_
    exact J.iretL C hr (Nat.le_of_ble_eq_true rfl) (Nat.le_of_ble_eq_true rfl) dX7_makeDisjunction_45 H
def B_X7_makeDisjunction_17 (σ : MS) (l1 : Int32) (l2 : Int32) (l3 : Int32) : Res MS Int32 := (B_X7_makeDisjunction_34 σ l1 l2 l3 (1 : Int32))
set_option maxRecDepth 100000 in
theorem bl_X7_makeDisjunction_17 {l : Launch} (hl : l.stackTraces = false) {g : Gy} {bd : Nat → Nat} {pre rst : va_W} {p : Program} {e : Env} {s : State} {m : MethodId} {args : Array Value} {below : List Frame} {meth : Method} {c : Code} {A : Nat → Prop} (C : Cx p l s m args meth c g A yX7_makeDisjunction.cls cX7_makeDisjunction 5) (hr : meth.sig.returnType = some .int) (hx : ∀ x ∈ c.exceptionTable.toList, False) {rr : (Int32 ⊕ String) × MS} (σ : MS) (l1 : Int32) (l2 : Int32) (l3 : Int32) (H : B_X7_makeDisjunction_17 σ l1 l2 l3 = some rr) : J p l e (rmOf 5 0 0) s m args below meth c g A 5 0 0 (QR mI g A (mkh g bd pre rst) rr below args s 0 0) 17 [(0, .ref (bd 0)), (1, .int l1), (2, .int l2), (3, .int l3)] [.ref (bd 0)] ((mkh g bd pre rst) σ) := by
  unfold B_X7_makeDisjunction_17 at H
  refine J.iconst C (1) dX7_makeDisjunction_17 (by decide) ?_
  refine J.goto (tgt := 34) C dX7_makeDisjunction_18 (by decide) ?_
  refine J.widen (k := 0) (n := 0) (Nat.le_of_ble_eq_true rfl) (Nat.le_of_ble_eq_true rfl) ?_
  refine J.lw (lv' := [(0, .ref (bd 0)), (1, .int l1), (2, .int l2), (3, .int l3)]) ⟨rfl, rfl, rfl, rfl, trivial⟩ ?_
  exact bl_X7_makeDisjunction_34 hl C hr hx  _ _ _ _ _  H
abbrev mX7_makeDisjunction : MD := (yX7_makeDisjunction, cX7_makeDisjunction, 5, some .int)
theorem mdX7_makeDisjunction : MDv mX7_makeDisjunction RX7 3 := ⟨kIm_X7_makeDisjunction, kSe_X7_makeDisjunction, kIn_X7, kCo_X7_makeDisjunction, by decide +kernel⟩
def P_X7_makeDisjunction (σ : MS) (a1 : Int32) (a2 : Int32) (a3 : Int32) : Res MS Int32 := (if (F_X7_isLine σ a1) = 0 then (B_X7_makeDisjunction_17 σ a1 a2 a3) else (if (F_X7_isFormula σ a2) = 0 then (B_X7_makeDisjunction_17 σ a1 a2 a3) else (bd (P_X7_mayCite σ a1) fun r23 s23 => (if r23 = 0 then (B_X7_makeDisjunction_34 s23 a1 a2 a3 (2 : Int32)) else (B_X7_makeDisjunction_34 s23 a1 a2 a3 (0 : Int32))))))
set_option maxRecDepth 100000 in
theorem sp_X7_makeDisjunction {l : Launch} (hl : l.stackTraces = false) {g : Gy} {bd : Nat → Nat} {pre rst : va_W} {σ : MS} (a1 : Int32) (a2 : Int32) (a3 : Int32) : SpR l mX7_makeDisjunction 5 0 0 mI g [.ref (bd 0), .int a1, .int a2, .int a3] (mkh g bd pre rst) σ (P_X7_makeDisjunction σ a1 a2 a3) := by
  refine SpR.of hl (by decide) (Nat.le_of_ble_eq_true rfl) (fun rr H p e s m args below meth c A C hr hx => ?_)
  unfold P_X7_makeDisjunction at H
  refine J.lw (lv' := [(0, .ref (bd 0)), (1, .int a1), (2, .int a2), (3, .int a3)]) ⟨rfl, rfl, rfl, rfl, trivial⟩ ?_
  refine J.aload_n (i := 0) C dX7_makeDisjunction_0 rfl rfl ?_
  refine J.aload_n (i := 0) C dX7_makeDisjunction_1 rfl rfl ?_
  refine J.iload_n (i := 1) C dX7_makeDisjunction_2 rfl rfl ?_
  refine J.callVI C (sp_X7_isLine hl _) rfl kMl_X7_149 mdX7_isLine ⟨(Nat.le_of_ble_eq_true rfl), (Nat.le_of_ble_eq_true rfl)⟩ mk_0 rfl rfl (Nat.le_of_ble_eq_true rfl) dX7_makeDisjunction_3 ⟨(Nat.le_of_ble_eq_true rfl), (Nat.le_of_ble_eq_true rfl)⟩ ?_
  refine J.if_eqL (tgt := 17) C dX7_makeDisjunction_6 (by decide) H (fun c_6 H => ?_) (fun c_6 H => ?_)
  · refine J.widen (k := 0) (n := 0) (Nat.le_of_ble_eq_true rfl) (Nat.le_of_ble_eq_true rfl) ?_
    refine J.lw (lv' := [(0, .ref (bd 0)), (1, .int a1), (2, .int a2), (3, .int a3)]) ⟨rfl, rfl, rfl, rfl, trivial⟩ ?_
    exact bl_X7_makeDisjunction_17 hl C hr hx  _ _ _ _  H
  · refine J.aload_n (i := 0) C dX7_makeDisjunction_9 rfl rfl ?_
    refine J.iload_n (i := 2) C dX7_makeDisjunction_10 rfl rfl ?_
    refine J.callVI C (sp_X7_isFormula hl _) rfl kMl_X7_135 mdX7_isFormula ⟨(Nat.le_of_ble_eq_true rfl), (Nat.le_of_ble_eq_true rfl)⟩ mk_0 rfl rfl (Nat.le_of_ble_eq_true rfl) dX7_makeDisjunction_11 ⟨(Nat.le_of_ble_eq_true rfl), (Nat.le_of_ble_eq_true rfl)⟩ ?_
    refine J.if_neL (tgt := 21) C dX7_makeDisjunction_14 (by decide) H (fun c_14 H => ?_) (fun c_14 H => ?_)
    · refine J.aload_n (i := 0) C dX7_makeDisjunction_21 rfl rfl ?_
      refine J.iload_n (i := 1) C dX7_makeDisjunction_22 rfl rfl ?_
      refine J.callVBI (hp := (mkh g bd pre rst)) C rfl (sp_X7_mayCite hl _) rfl kMl_X7_152 mdX7_mayCite ⟨(Nat.le_of_ble_eq_true rfl), (Nat.le_of_ble_eq_true rfl)⟩ mk_0 rfl rfl (Nat.le_of_ble_eq_true rfl) dX7_makeDisjunction_23 ⟨(Nat.le_of_ble_eq_true rfl), (Nat.le_of_ble_eq_true rfl)⟩ hx (Nat.le_of_ble_eq_true rfl) (Nat.le_of_ble_eq_true rfl) H (fun r23 s23 H => ?_)
      refine J.if_neL (tgt := 33) C dX7_makeDisjunction_26 (by decide) H (fun c_26 H => ?_) (fun c_26 H => ?_)
      · refine J.iconst C (0) dX7_makeDisjunction_33 (by decide) ?_
        refine J.widen (k := 0) (n := 0) (Nat.le_of_ble_eq_true rfl) (Nat.le_of_ble_eq_true rfl) ?_
        refine J.lw (lv' := [(0, .ref (bd 0)), (1, .int a1), (2, .int a2), (3, .int a3)]) ⟨rfl, rfl, rfl, rfl, trivial⟩ ?_
        exact bl_X7_makeDisjunction_34 hl C hr hx  _ _ _ _ _  H
      · refine J.iconst C (2) dX7_makeDisjunction_29 (by decide) ?_
        refine J.goto (tgt := 34) C dX7_makeDisjunction_30 (by decide) ?_
        refine J.widen (k := 0) (n := 0) (Nat.le_of_ble_eq_true rfl) (Nat.le_of_ble_eq_true rfl) ?_
        refine J.lw (lv' := [(0, .ref (bd 0)), (1, .int a1), (2, .int a2), (3, .int a3)]) ⟨rfl, rfl, rfl, rfl, trivial⟩ ?_
        exact bl_X7_makeDisjunction_34 hl C hr hx  _ _ _ _ _  H
    · refine J.widen (k := 0) (n := 0) (Nat.le_of_ble_eq_true rfl) (Nat.le_of_ble_eq_true rfl) ?_
      refine J.lw (lv' := [(0, .ref (bd 0)), (1, .int a1), (2, .int a2), (3, .int a3)]) ⟨rfl, rfl, rfl, rfl, trivial⟩ ?_
      exact bl_X7_makeDisjunction_17 hl C hr hx  _ _ _ _  H

/-! X7_result -/
abbrev mX7_result : MD := (yX7_result, cX7_result, 2, some .int)
theorem mdX7_result : MDv mX7_result RX7 1 := ⟨kIm_X7_result, kSe_X7_result, kIn_X7, kCo_X7_result, by decide +kernel⟩
def P_X7_result (σ : MS) (a1 : Int32) : Res MS Int32 := (gd a1 60 (gd (σ.2.1 12 a1.toNatClampNeg) 60 (some (.inl (σ.2.1 6 (σ.2.1 12 a1.toNatClampNeg).toNatClampNeg), σ))))
set_option maxRecDepth 100000 in
theorem sp_X7_result {l : Launch} (hl : l.stackTraces = false) {g : Gy} {bd : Nat → Nat} {pre rst : va_W} {σ : MS} (a1 : Int32) : SpR l mX7_result 1 0 0 mI g [.ref (bd 0), .int a1] (mkh g bd pre rst) σ (P_X7_result σ a1) := by
  refine SpR.of hl (by decide) (Nat.le_of_ble_eq_true rfl) (fun rr H p e s m args below meth c A C hr hx => ?_)
  unfold P_X7_result at H
  refine J.lw (lv' := [(0, .ref (bd 0)), (1, .int a1)]) ⟨rfl, rfl, trivial⟩ ?_
  refine J.aload_n (i := 0) C dX7_result_0 rfl rfl ?_
  refine J.get C (pre.length + 0) 7 mk_0 rfl (by decide) kFl_X7_29 inB_X7 rfl dX7_result_1 ?_
  refine J.aload_n (i := 0) C dX7_result_4 rfl rfl ?_
  refine J.get C (pre.length + 0) 15 mk_0 rfl (by decide) kFl_X7_53 inB_X7 rfl dX7_result_5 ?_
  refine J.iload_n (i := 1) C dX7_result_8 rfl rfl ?_
  refine J.ialdL C (pre.length + 13) mk_13 dX7_result_9 H (fun H => ?_)
  refine J.ialdL C (pre.length + 7) mk_7 dX7_result_10 H (fun H => ?_)
  exact J.iretL C hr (Nat.le_of_ble_eq_true rfl) (Nat.le_of_ble_eq_true rfl) dX7_result_11 H

/-! X7_useDisjunction -/
def B_X7_useDisjunction_150 (σ : MS) (l1 : Int32) (l2 : Int32) (l3 : Int32) (t0 : Int32) : Res MS Int32 := (lt t0 fun z150 => (if z150 = 0 then (if z150 = 0 then (bd (P_X7_raises σ (3 : Int32)) fun r177 s177 => (some (.inl r177, s177))) else (bd (P_X7_raises σ (4 : Int32)) fun r177 s177 => (some (.inl r177, s177)))) else (if (σ.1 1) = (60 : Int32) then (if z150 = 0 then (bd (P_X7_raises σ (3 : Int32)) fun r177 s177 => (some (.inl r177, s177))) else (bd (P_X7_raises σ (4 : Int32)) fun r177 s177 => (some (.inl r177, s177)))) else (bd (P_X7_result σ l2) fun r184 s184 => (bd (P_X7_enters s184 r184 (118 : Int32) l1 (-1 : Int32) l2 l3) fun r193 s193 => (some (.inl r193, s193)))))))
set_option maxRecDepth 100000 in
theorem bl_X7_useDisjunction_150 {l : Launch} (hl : l.stackTraces = false) {g : Gy} {bd : Nat → Nat} {pre rst : va_W} {p : Program} {e : Env} {s : State} {m : MethodId} {args : Array Value} {below : List Frame} {meth : Method} {c : Code} {A : Nat → Prop} (C : Cx p l s m args meth c g A yX7_useDisjunction.cls cX7_useDisjunction 6) (hr : meth.sig.returnType = some .int) (hx : ∀ x ∈ c.exceptionTable.toList, False) {rr : (Int32 ⊕ String) × MS} (σ : MS) (l1 : Int32) (l2 : Int32) (l3 : Int32) (t0 : Int32) (H : B_X7_useDisjunction_150 σ l1 l2 l3 t0 = some rr) : J p l e (rmOf 3 0 0) s m args below meth c g A 6 0 0 (QR mI g A (mkh g bd pre rst) rr below args s 0 0) 150 [(0, .ref (bd 0)), (1, .int l1), (2, .int l2), (3, .int l3)] [.int t0] ((mkh g bd pre rst) σ) := by
  unfold B_X7_useDisjunction_150 at H
  refine J.istoreL C dX7_useDisjunction_150 (by decide) H (fun z150 H => ?_)
  refine J.iload C dX7_useDisjunction_152 rfl ?_
  refine J.if_eqL (tgt := 166) C dX7_useDisjunction_154 (by decide) H (fun c_154 H => ?_) (fun c_154 H => ?_)
  · refine J.aload_n (i := 0) C dX7_useDisjunction_166 rfl rfl ?_
    refine J.iload C dX7_useDisjunction_167 rfl ?_
    refine J.if_eqL (tgt := 176) C dX7_useDisjunction_169 (by decide) H (fun c_169 H => ?_) (fun c_169 H => ?_)
    · refine J.iconst C (3) dX7_useDisjunction_176 (by decide) ?_
      refine J.callVBI (hp := (mkh g bd pre rst)) C rfl (sp_X7_raises hl _) rfl kMl_X7_132 mdX7_raises ⟨(Nat.le_of_ble_eq_true rfl), (Nat.le_of_ble_eq_true rfl)⟩ mk_0 rfl rfl (Nat.le_of_ble_eq_true rfl) dX7_useDisjunction_177 ⟨(Nat.le_of_ble_eq_true rfl), (Nat.le_of_ble_eq_true rfl)⟩ hx (Nat.le_of_ble_eq_true rfl) (Nat.le_of_ble_eq_true rfl) H (fun r177 s177 H => ?_)
      exact J.iretL C hr (Nat.le_of_ble_eq_true rfl) (Nat.le_of_ble_eq_true rfl) dX7_useDisjunction_180 H
    · refine J.iconst C (4) dX7_useDisjunction_172 (by decide) ?_
      refine J.goto (tgt := 177) C dX7_useDisjunction_173 (by decide) ?_
      refine J.callVBI (hp := (mkh g bd pre rst)) C rfl (sp_X7_raises hl _) rfl kMl_X7_132 mdX7_raises ⟨(Nat.le_of_ble_eq_true rfl), (Nat.le_of_ble_eq_true rfl)⟩ mk_0 rfl rfl (Nat.le_of_ble_eq_true rfl) dX7_useDisjunction_177 ⟨(Nat.le_of_ble_eq_true rfl), (Nat.le_of_ble_eq_true rfl)⟩ hx (Nat.le_of_ble_eq_true rfl) (Nat.le_of_ble_eq_true rfl) H (fun r177 s177 H => ?_)
      exact J.iretL C hr (Nat.le_of_ble_eq_true rfl) (Nat.le_of_ble_eq_true rfl) dX7_useDisjunction_180 H
  · refine J.aload_n (i := 0) C dX7_useDisjunction_157 rfl rfl ?_
    refine J.get C (pre.length + 0) 11 mk_0 rfl (by decide) kFl_X7_94 inB_X7 rfl dX7_useDisjunction_158 ?_
    refine J.bipush C (60) dX7_useDisjunction_161 (by decide) ?_
    refine J.icmp_neL (tgt := 181) C dX7_useDisjunction_163 (by decide) H (fun c_163 H => ?_) (fun c_163 H => ?_)
    · refine J.aload_n (i := 0) C dX7_useDisjunction_181 rfl rfl ?_
      refine J.aload_n (i := 0) C dX7_useDisjunction_182 rfl rfl ?_
      refine J.iload_n (i := 2) C dX7_useDisjunction_183 rfl rfl ?_
      refine J.callVBI (hp := (mkh g bd pre rst)) C rfl (sp_X7_result hl _) rfl kMl_X7_171 mdX7_result ⟨(Nat.le_of_ble_eq_true rfl), (Nat.le_of_ble_eq_true rfl)⟩ mk_0 rfl rfl (Nat.le_of_ble_eq_true rfl) dX7_useDisjunction_184 ⟨(Nat.le_of_ble_eq_true rfl), (Nat.le_of_ble_eq_true rfl)⟩ hx (Nat.le_of_ble_eq_true rfl) (Nat.le_of_ble_eq_true rfl) H (fun r184 s184 H => ?_)
      refine J.bipush C (118) dX7_useDisjunction_187 (by decide) ?_
      refine J.iload_n (i := 1) C dX7_useDisjunction_189 rfl rfl ?_
      refine J.iconst C (-1) dX7_useDisjunction_190 (by decide) ?_
      refine J.iload_n (i := 2) C dX7_useDisjunction_191 rfl rfl ?_
      refine J.iload_n (i := 3) C dX7_useDisjunction_192 rfl rfl ?_
      refine J.callVBI (hp := (mkh g bd pre rst)) C rfl (sp_X7_enters hl _ _ _ _ _ _) rfl kMl_X7_145 mdX7_enters ⟨(Nat.le_of_ble_eq_true rfl), (Nat.le_of_ble_eq_true rfl)⟩ mk_0 rfl rfl (Nat.le_of_ble_eq_true rfl) dX7_useDisjunction_193 ⟨(Nat.le_of_ble_eq_true rfl), (Nat.le_of_ble_eq_true rfl)⟩ hx (Nat.le_of_ble_eq_true rfl) (Nat.le_of_ble_eq_true rfl) H (fun r193 s193 H => ?_)
      exact J.iretL C hr (Nat.le_of_ble_eq_true rfl) (Nat.le_of_ble_eq_true rfl) dX7_useDisjunction_196 H
    · refine J.aload_n (i := 0) C dX7_useDisjunction_166 rfl rfl ?_
      refine J.iload C dX7_useDisjunction_167 rfl ?_
      refine J.if_eqL (tgt := 176) C dX7_useDisjunction_169 (by decide) H (fun c_169 H => ?_) (fun c_169 H => ?_)
      · refine J.iconst C (3) dX7_useDisjunction_176 (by decide) ?_
        refine J.callVBI (hp := (mkh g bd pre rst)) C rfl (sp_X7_raises hl _) rfl kMl_X7_132 mdX7_raises ⟨(Nat.le_of_ble_eq_true rfl), (Nat.le_of_ble_eq_true rfl)⟩ mk_0 rfl rfl (Nat.le_of_ble_eq_true rfl) dX7_useDisjunction_177 ⟨(Nat.le_of_ble_eq_true rfl), (Nat.le_of_ble_eq_true rfl)⟩ hx (Nat.le_of_ble_eq_true rfl) (Nat.le_of_ble_eq_true rfl) H (fun r177 s177 H => ?_)
        exact J.iretL C hr (Nat.le_of_ble_eq_true rfl) (Nat.le_of_ble_eq_true rfl) dX7_useDisjunction_180 H
      · refine J.iconst C (4) dX7_useDisjunction_172 (by decide) ?_
        refine J.goto (tgt := 177) C dX7_useDisjunction_173 (by decide) ?_
        refine J.callVBI (hp := (mkh g bd pre rst)) C rfl (sp_X7_raises hl _) rfl kMl_X7_132 mdX7_raises ⟨(Nat.le_of_ble_eq_true rfl), (Nat.le_of_ble_eq_true rfl)⟩ mk_0 rfl rfl (Nat.le_of_ble_eq_true rfl) dX7_useDisjunction_177 ⟨(Nat.le_of_ble_eq_true rfl), (Nat.le_of_ble_eq_true rfl)⟩ hx (Nat.le_of_ble_eq_true rfl) (Nat.le_of_ble_eq_true rfl) H (fun r177 s177 H => ?_)
        exact J.iretL C hr (Nat.le_of_ble_eq_true rfl) (Nat.le_of_ble_eq_true rfl) dX7_useDisjunction_180 H
def B_X7_useDisjunction_149 (σ : MS) (l1 : Int32) (l2 : Int32) (l3 : Int32) : Res MS Int32 := (B_X7_useDisjunction_150 σ l1 l2 l3 (0 : Int32))
set_option maxRecDepth 100000 in
theorem bl_X7_useDisjunction_149 {l : Launch} (hl : l.stackTraces = false) {g : Gy} {bd : Nat → Nat} {pre rst : va_W} {p : Program} {e : Env} {s : State} {m : MethodId} {args : Array Value} {below : List Frame} {meth : Method} {c : Code} {A : Nat → Prop} (C : Cx p l s m args meth c g A yX7_useDisjunction.cls cX7_useDisjunction 6) (hr : meth.sig.returnType = some .int) (hx : ∀ x ∈ c.exceptionTable.toList, False) {rr : (Int32 ⊕ String) × MS} (σ : MS) (l1 : Int32) (l2 : Int32) (l3 : Int32) (H : B_X7_useDisjunction_149 σ l1 l2 l3 = some rr) : J p l e (rmOf 3 0 0) s m args below meth c g A 6 0 0 (QR mI g A (mkh g bd pre rst) rr below args s 0 0) 149 [(0, .ref (bd 0)), (1, .int l1), (2, .int l2), (3, .int l3)] [] ((mkh g bd pre rst) σ) := by
  unfold B_X7_useDisjunction_149 at H
  refine J.iconst C (0) dX7_useDisjunction_149 (by decide) ?_
  refine J.widen (k := 0) (n := 0) (Nat.le_of_ble_eq_true rfl) (Nat.le_of_ble_eq_true rfl) ?_
  refine J.lw (lv' := [(0, .ref (bd 0)), (1, .int l1), (2, .int l2), (3, .int l3)]) ⟨rfl, rfl, rfl, rfl, trivial⟩ ?_
  exact bl_X7_useDisjunction_150 hl C hr hx  _ _ _ _ _  H
def B_X7_useDisjunction_58 (σ : MS) (l1 : Int32) (l2 : Int32) (l3 : Int32) (t0 : Int32) : Res MS Int32 := (lt (tI σ 5 t0) fun s58 => (if (s58.1 5) ≤ 0 then (gd l1 60 (lt (s58.2.1 6 l1.toNatClampNeg) fun z76 => (gd z76 150 (if (s58.2.1 0 z76.toNatClampNeg) = (65 : Int32) then (gd l2 60 (gd (s58.2.1 11 l2.toNatClampNeg) 60 (gd z76 150 (if (s58.2.1 6 (s58.2.1 11 l2.toNatClampNeg).toNatClampNeg) = (s58.2.1 1 z76.toNatClampNeg) then (gd l3 60 (gd (s58.2.1 11 l3.toNatClampNeg) 60 (gd z76 150 (if (s58.2.1 6 (s58.2.1 11 l3.toNatClampNeg).toNatClampNeg) = (s58.2.1 2 z76.toNatClampNeg) then (bd (P_X7_result s58 l2) fun r134 s134 => (bd (P_X7_result s134 l3) fun r139 s139 => (if r134 = r139 then (B_X7_useDisjunction_150 s139 l1 l2 l3 (1 : Int32)) else (B_X7_useDisjunction_149 s139 l1 l2 l3)))) else (B_X7_useDisjunction_149 s58 l1 l2 l3))))) else (B_X7_useDisjunction_149 s58 l1 l2 l3))))) else (B_X7_useDisjunction_149 s58 l1 l2 l3))))) else (some (.inl (0 : Int32), s58))))
set_option maxRecDepth 100000 in
theorem bl_X7_useDisjunction_58 {l : Launch} (hl : l.stackTraces = false) {g : Gy} {bd : Nat → Nat} {pre rst : va_W} {p : Program} {e : Env} {s : State} {m : MethodId} {args : Array Value} {below : List Frame} {meth : Method} {c : Code} {A : Nat → Prop} (C : Cx p l s m args meth c g A yX7_useDisjunction.cls cX7_useDisjunction 6) (hr : meth.sig.returnType = some .int) (hx : ∀ x ∈ c.exceptionTable.toList, False) {rr : (Int32 ⊕ String) × MS} (σ : MS) (l1 : Int32) (l2 : Int32) (l3 : Int32) (t0 : Int32) (H : B_X7_useDisjunction_58 σ l1 l2 l3 t0 = some rr) : J p l e (rmOf 3 0 0) s m args below meth c g A 6 0 0 (QR mI g A (mkh g bd pre rst) rr below args s 0 0) 58 [(0, .ref (bd 0)), (1, .int l1), (2, .int l2), (3, .int l3)] [.int t0, .ref (bd 0)] ((mkh g bd pre rst) σ) := by
  unfold B_X7_useDisjunction_58 at H
  refine J.putL (hp := (mkh g bd pre rst)) C (pre.length + 0) 22 mk_0 rfl (by decide) kFl_X7_84 inB_X7 tyX7 tyX7_ok nmX7 rfl rfl rfl rfl (Nat.le_of_ble_eq_true rfl) dX7_useDisjunction_58 (mkI_5 _) H (fun s58 H => ?_)
  refine J.aload_n (i := 0) C dX7_useDisjunction_61 rfl rfl ?_
  refine J.get C (pre.length + 0) 22 mk_0 rfl (by decide) kFl_X7_84 inB_X7 rfl dX7_useDisjunction_62 ?_
  refine J.if_leL (tgt := 70) C dX7_useDisjunction_65 (by decide) H (fun c_65 H => ?_) (fun c_65 H => ?_)
  · refine J.aload_n (i := 0) C dX7_useDisjunction_70 rfl rfl ?_
    refine J.get C (pre.length + 0) 7 mk_0 rfl (by decide) kFl_X7_29 inB_X7 rfl dX7_useDisjunction_71 ?_
    refine J.iload_n (i := 1) C dX7_useDisjunction_74 rfl rfl ?_
    refine J.ialdL C (pre.length + 7) mk_7 dX7_useDisjunction_75 H (fun H => ?_)
    refine J.istoreL C dX7_useDisjunction_76 (by decide) H (fun z76 H => ?_)
    refine J.aload_n (i := 0) C dX7_useDisjunction_78 rfl rfl ?_
    refine J.get C (pre.length + 0) 0 mk_0 rfl (by decide) kFl_X7_9 inB_X7 rfl dX7_useDisjunction_79 ?_
    refine J.iload C dX7_useDisjunction_82 rfl ?_
    refine J.caldL C (pre.length + 1) mk_1 dX7_useDisjunction_84 H (fun H => ?_)
    refine J.bipush C (65) dX7_useDisjunction_85 (by decide) ?_
    refine J.icmp_neL (tgt := 149) C dX7_useDisjunction_87 (by decide) H (fun c_87 H => ?_) (fun c_87 H => ?_)
    · refine J.widen (k := 0) (n := 0) (Nat.le_of_ble_eq_true rfl) (Nat.le_of_ble_eq_true rfl) ?_
      refine J.lw (lv' := [(0, .ref (bd 0)), (1, .int l1), (2, .int l2), (3, .int l3)]) ⟨rfl, rfl, rfl, rfl, trivial⟩ ?_
      exact bl_X7_useDisjunction_149 hl C hr hx  _ _ _ _  H
    · refine J.aload_n (i := 0) C dX7_useDisjunction_90 rfl rfl ?_
      refine J.get C (pre.length + 0) 7 mk_0 rfl (by decide) kFl_X7_29 inB_X7 rfl dX7_useDisjunction_91 ?_
      refine J.aload_n (i := 0) C dX7_useDisjunction_94 rfl rfl ?_
      refine J.get C (pre.length + 0) 14 mk_0 rfl (by decide) kFl_X7_50 inB_X7 rfl dX7_useDisjunction_95 ?_
      refine J.iload_n (i := 2) C dX7_useDisjunction_98 rfl rfl ?_
      refine J.ialdL C (pre.length + 12) mk_12 dX7_useDisjunction_99 H (fun H => ?_)
      refine J.ialdL C (pre.length + 7) mk_7 dX7_useDisjunction_100 H (fun H => ?_)
      refine J.aload_n (i := 0) C dX7_useDisjunction_101 rfl rfl ?_
      refine J.get C (pre.length + 0) 1 mk_0 rfl (by decide) kFl_X7_13 inB_X7 rfl dX7_useDisjunction_102 ?_
      refine J.iload C dX7_useDisjunction_105 rfl ?_
      refine J.ialdL C (pre.length + 2) mk_2 dX7_useDisjunction_107 H (fun H => ?_)
      refine J.icmp_neL (tgt := 149) C dX7_useDisjunction_108 (by decide) H (fun c_108 H => ?_) (fun c_108 H => ?_)
      · refine J.widen (k := 0) (n := 0) (Nat.le_of_ble_eq_true rfl) (Nat.le_of_ble_eq_true rfl) ?_
        refine J.lw (lv' := [(0, .ref (bd 0)), (1, .int l1), (2, .int l2), (3, .int l3)]) ⟨rfl, rfl, rfl, rfl, trivial⟩ ?_
        exact bl_X7_useDisjunction_149 hl C hr hx  _ _ _ _  H
      · refine J.aload_n (i := 0) C dX7_useDisjunction_111 rfl rfl ?_
        refine J.get C (pre.length + 0) 7 mk_0 rfl (by decide) kFl_X7_29 inB_X7 rfl dX7_useDisjunction_112 ?_
        refine J.aload_n (i := 0) C dX7_useDisjunction_115 rfl rfl ?_
        refine J.get C (pre.length + 0) 14 mk_0 rfl (by decide) kFl_X7_50 inB_X7 rfl dX7_useDisjunction_116 ?_
        refine J.iload_n (i := 3) C dX7_useDisjunction_119 rfl rfl ?_
        refine J.ialdL C (pre.length + 12) mk_12 dX7_useDisjunction_120 H (fun H => ?_)
        refine J.ialdL C (pre.length + 7) mk_7 dX7_useDisjunction_121 H (fun H => ?_)
        refine J.aload_n (i := 0) C dX7_useDisjunction_122 rfl rfl ?_
        refine J.get C (pre.length + 0) 2 mk_0 rfl (by decide) kFl_X7_17 inB_X7 rfl dX7_useDisjunction_123 ?_
        refine J.iload C dX7_useDisjunction_126 rfl ?_
        refine J.ialdL C (pre.length + 3) mk_3 dX7_useDisjunction_128 H (fun H => ?_)
        refine J.icmp_neL (tgt := 149) C dX7_useDisjunction_129 (by decide) H (fun c_129 H => ?_) (fun c_129 H => ?_)
        · refine J.widen (k := 0) (n := 0) (Nat.le_of_ble_eq_true rfl) (Nat.le_of_ble_eq_true rfl) ?_
          refine J.lw (lv' := [(0, .ref (bd 0)), (1, .int l1), (2, .int l2), (3, .int l3)]) ⟨rfl, rfl, rfl, rfl, trivial⟩ ?_
          exact bl_X7_useDisjunction_149 hl C hr hx  _ _ _ _  H
        · refine J.aload_n (i := 0) C dX7_useDisjunction_132 rfl rfl ?_
          refine J.iload_n (i := 2) C dX7_useDisjunction_133 rfl rfl ?_
          refine J.callVBI (hp := (mkh g bd pre rst)) C rfl (sp_X7_result hl _) rfl kMl_X7_171 mdX7_result ⟨(Nat.le_of_ble_eq_true rfl), (Nat.le_of_ble_eq_true rfl)⟩ mk_0 rfl rfl (Nat.le_of_ble_eq_true rfl) dX7_useDisjunction_134 ⟨(Nat.le_of_ble_eq_true rfl), (Nat.le_of_ble_eq_true rfl)⟩ hx (Nat.le_of_ble_eq_true rfl) (Nat.le_of_ble_eq_true rfl) H (fun r134 s134 H => ?_)
          refine J.aload_n (i := 0) C dX7_useDisjunction_137 rfl rfl ?_
          refine J.iload_n (i := 3) C dX7_useDisjunction_138 rfl rfl ?_
          refine J.callVBI (hp := (mkh g bd pre rst)) C rfl (sp_X7_result hl _) rfl kMl_X7_171 mdX7_result ⟨(Nat.le_of_ble_eq_true rfl), (Nat.le_of_ble_eq_true rfl)⟩ mk_0 rfl rfl (Nat.le_of_ble_eq_true rfl) dX7_useDisjunction_139 ⟨(Nat.le_of_ble_eq_true rfl), (Nat.le_of_ble_eq_true rfl)⟩ hx (Nat.le_of_ble_eq_true rfl) (Nat.le_of_ble_eq_true rfl) H (fun r139 s139 H => ?_)
          refine J.icmp_neL (tgt := 149) C dX7_useDisjunction_142 (by decide) H (fun c_142 H => ?_) (fun c_142 H => ?_)
          · refine J.widen (k := 0) (n := 0) (Nat.le_of_ble_eq_true rfl) (Nat.le_of_ble_eq_true rfl) ?_
            refine J.lw (lv' := [(0, .ref (bd 0)), (1, .int l1), (2, .int l2), (3, .int l3)]) ⟨rfl, rfl, rfl, rfl, trivial⟩ ?_
            exact bl_X7_useDisjunction_149 hl C hr hx  _ _ _ _  H
          · refine J.iconst C (1) dX7_useDisjunction_145 (by decide) ?_
            refine J.goto (tgt := 150) C dX7_useDisjunction_146 (by decide) ?_
            refine J.widen (k := 0) (n := 0) (Nat.le_of_ble_eq_true rfl) (Nat.le_of_ble_eq_true rfl) ?_
            refine J.lw (lv' := [(0, .ref (bd 0)), (1, .int l1), (2, .int l2), (3, .int l3)]) ⟨rfl, rfl, rfl, rfl, trivial⟩ ?_
            exact bl_X7_useDisjunction_150 hl C hr hx  _ _ _ _ _  H
  · refine J.iconst C (0) dX7_useDisjunction_68 (by decide) ?_
    exact J.iretL C hr (Nat.le_of_ble_eq_true rfl) (Nat.le_of_ble_eq_true rfl) dX7_useDisjunction_69 H
def B_X7_useDisjunction_25 (σ : MS) (l1 : Int32) (l2 : Int32) (l3 : Int32) : Res MS Int32 := (B_X7_useDisjunction_58 σ l1 l2 l3 (1 : Int32))
set_option maxRecDepth 100000 in
theorem bl_X7_useDisjunction_25 {l : Launch} (hl : l.stackTraces = false) {g : Gy} {bd : Nat → Nat} {pre rst : va_W} {p : Program} {e : Env} {s : State} {m : MethodId} {args : Array Value} {below : List Frame} {meth : Method} {c : Code} {A : Nat → Prop} (C : Cx p l s m args meth c g A yX7_useDisjunction.cls cX7_useDisjunction 6) (hr : meth.sig.returnType = some .int) (hx : ∀ x ∈ c.exceptionTable.toList, False) {rr : (Int32 ⊕ String) × MS} (σ : MS) (l1 : Int32) (l2 : Int32) (l3 : Int32) (H : B_X7_useDisjunction_25 σ l1 l2 l3 = some rr) : J p l e (rmOf 3 0 0) s m args below meth c g A 6 0 0 (QR mI g A (mkh g bd pre rst) rr below args s 0 0) 25 [(0, .ref (bd 0)), (1, .int l1), (2, .int l2), (3, .int l3)] [.ref (bd 0)] ((mkh g bd pre rst) σ) := by
  unfold B_X7_useDisjunction_25 at H
  refine J.iconst C (1) dX7_useDisjunction_25 (by decide) ?_
  refine J.goto (tgt := 58) C dX7_useDisjunction_26 (by decide) ?_
  refine J.widen (k := 0) (n := 0) (Nat.le_of_ble_eq_true rfl) (Nat.le_of_ble_eq_true rfl) ?_
  refine J.lw (lv' := [(0, .ref (bd 0)), (1, .int l1), (2, .int l2), (3, .int l3)]) ⟨rfl, rfl, rfl, rfl, trivial⟩ ?_
  exact bl_X7_useDisjunction_58 hl C hr hx  _ _ _ _ _  H
def B_X7_useDisjunction_53 (σ : MS) (l1 : Int32) (l2 : Int32) (l3 : Int32) : Res MS Int32 := (B_X7_useDisjunction_58 σ l1 l2 l3 (2 : Int32))
set_option maxRecDepth 100000 in
theorem bl_X7_useDisjunction_53 {l : Launch} (hl : l.stackTraces = false) {g : Gy} {bd : Nat → Nat} {pre rst : va_W} {p : Program} {e : Env} {s : State} {m : MethodId} {args : Array Value} {below : List Frame} {meth : Method} {c : Code} {A : Nat → Prop} (C : Cx p l s m args meth c g A yX7_useDisjunction.cls cX7_useDisjunction 6) (hr : meth.sig.returnType = some .int) (hx : ∀ x ∈ c.exceptionTable.toList, False) {rr : (Int32 ⊕ String) × MS} (σ : MS) (l1 : Int32) (l2 : Int32) (l3 : Int32) (H : B_X7_useDisjunction_53 σ l1 l2 l3 = some rr) : J p l e (rmOf 3 0 0) s m args below meth c g A 6 0 0 (QR mI g A (mkh g bd pre rst) rr below args s 0 0) 53 [(0, .ref (bd 0)), (1, .int l1), (2, .int l2), (3, .int l3)] [.ref (bd 0)] ((mkh g bd pre rst) σ) := by
  unfold B_X7_useDisjunction_53 at H
  refine J.iconst C (2) dX7_useDisjunction_53 (by decide) ?_
  refine J.goto (tgt := 58) C dX7_useDisjunction_54 (by decide) ?_
  refine J.widen (k := 0) (n := 0) (Nat.le_of_ble_eq_true rfl) (Nat.le_of_ble_eq_true rfl) ?_
  refine J.lw (lv' := [(0, .ref (bd 0)), (1, .int l1), (2, .int l2), (3, .int l3)]) ⟨rfl, rfl, rfl, rfl, trivial⟩ ?_
  exact bl_X7_useDisjunction_58 hl C hr hx  _ _ _ _ _  H
abbrev mX7_useDisjunction : MD := (yX7_useDisjunction, cX7_useDisjunction, 6, some .int)
theorem mdX7_useDisjunction : MDv mX7_useDisjunction RX7 3 := ⟨kIm_X7_useDisjunction, kSe_X7_useDisjunction, kIn_X7, kCo_X7_useDisjunction, by decide +kernel⟩
def P_X7_useDisjunction (σ : MS) (a1 : Int32) (a2 : Int32) (a3 : Int32) : Res MS Int32 := (if (F_X7_isLine σ a1) = 0 then (B_X7_useDisjunction_25 σ a1 a2 a3) else (if (F_X7_isBox σ a2) = 0 then (B_X7_useDisjunction_25 σ a1 a2 a3) else (if (F_X7_isBox σ a3) = 0 then (B_X7_useDisjunction_25 σ a1 a2 a3) else (bd (P_X7_mayCite σ a1) fun r31 s31 => (if r31 = 0 then (B_X7_useDisjunction_53 s31 a1 a2 a3) else (bd (P_X7_mayCiteBox s31 a2) fun r39 s39 => (if r39 = 0 then (B_X7_useDisjunction_53 s39 a1 a2 a3) else (bd (P_X7_mayCiteBox s39 a3) fun r47 s47 => (if r47 = 0 then (B_X7_useDisjunction_53 s47 a1 a2 a3) else (B_X7_useDisjunction_58 s47 a1 a2 a3 (0 : Int32)))))))))))
set_option maxRecDepth 100000 in
theorem sp_X7_useDisjunction {l : Launch} (hl : l.stackTraces = false) {g : Gy} {bd : Nat → Nat} {pre rst : va_W} {σ : MS} (a1 : Int32) (a2 : Int32) (a3 : Int32) : SpR l mX7_useDisjunction 3 0 0 mI g [.ref (bd 0), .int a1, .int a2, .int a3] (mkh g bd pre rst) σ (P_X7_useDisjunction σ a1 a2 a3) := by
  refine SpR.of hl (by decide) (Nat.le_of_ble_eq_true rfl) (fun rr H p e s m args below meth c A C hr hx => ?_)
  unfold P_X7_useDisjunction at H
  refine J.lw (lv' := [(0, .ref (bd 0)), (1, .int a1), (2, .int a2), (3, .int a3)]) ⟨rfl, rfl, rfl, rfl, trivial⟩ ?_
  refine J.aload_n (i := 0) C dX7_useDisjunction_0 rfl rfl ?_
  refine J.aload_n (i := 0) C dX7_useDisjunction_1 rfl rfl ?_
  refine J.iload_n (i := 1) C dX7_useDisjunction_2 rfl rfl ?_
  refine J.callVI C (sp_X7_isLine hl _) rfl kMl_X7_149 mdX7_isLine ⟨(Nat.le_of_ble_eq_true rfl), (Nat.le_of_ble_eq_true rfl)⟩ mk_0 rfl rfl (Nat.le_of_ble_eq_true rfl) dX7_useDisjunction_3 ⟨(Nat.le_of_ble_eq_true rfl), (Nat.le_of_ble_eq_true rfl)⟩ ?_
  refine J.if_eqL (tgt := 25) C dX7_useDisjunction_6 (by decide) H (fun c_6 H => ?_) (fun c_6 H => ?_)
  · refine J.widen (k := 0) (n := 0) (Nat.le_of_ble_eq_true rfl) (Nat.le_of_ble_eq_true rfl) ?_
    refine J.lw (lv' := [(0, .ref (bd 0)), (1, .int a1), (2, .int a2), (3, .int a3)]) ⟨rfl, rfl, rfl, rfl, trivial⟩ ?_
    exact bl_X7_useDisjunction_25 hl C hr hx  _ _ _ _  H
  · refine J.aload_n (i := 0) C dX7_useDisjunction_9 rfl rfl ?_
    refine J.iload_n (i := 2) C dX7_useDisjunction_10 rfl rfl ?_
    refine J.callVI C (sp_X7_isBox hl _) rfl kMl_X7_155 mdX7_isBox ⟨(Nat.le_of_ble_eq_true rfl), (Nat.le_of_ble_eq_true rfl)⟩ mk_0 rfl rfl (Nat.le_of_ble_eq_true rfl) dX7_useDisjunction_11 ⟨(Nat.le_of_ble_eq_true rfl), (Nat.le_of_ble_eq_true rfl)⟩ ?_
    refine J.if_eqL (tgt := 25) C dX7_useDisjunction_14 (by decide) H (fun c_14 H => ?_) (fun c_14 H => ?_)
    · refine J.widen (k := 0) (n := 0) (Nat.le_of_ble_eq_true rfl) (Nat.le_of_ble_eq_true rfl) ?_
      refine J.lw (lv' := [(0, .ref (bd 0)), (1, .int a1), (2, .int a2), (3, .int a3)]) ⟨rfl, rfl, rfl, rfl, trivial⟩ ?_
      exact bl_X7_useDisjunction_25 hl C hr hx  _ _ _ _  H
    · refine J.aload_n (i := 0) C dX7_useDisjunction_17 rfl rfl ?_
      refine J.iload_n (i := 3) C dX7_useDisjunction_18 rfl rfl ?_
      refine J.callVI C (sp_X7_isBox hl _) rfl kMl_X7_155 mdX7_isBox ⟨(Nat.le_of_ble_eq_true rfl), (Nat.le_of_ble_eq_true rfl)⟩ mk_0 rfl rfl (Nat.le_of_ble_eq_true rfl) dX7_useDisjunction_19 ⟨(Nat.le_of_ble_eq_true rfl), (Nat.le_of_ble_eq_true rfl)⟩ ?_
      refine J.if_neL (tgt := 29) C dX7_useDisjunction_22 (by decide) H (fun c_22 H => ?_) (fun c_22 H => ?_)
      · refine J.aload_n (i := 0) C dX7_useDisjunction_29 rfl rfl ?_
        refine J.iload_n (i := 1) C dX7_useDisjunction_30 rfl rfl ?_
        refine J.callVBI (hp := (mkh g bd pre rst)) C rfl (sp_X7_mayCite hl _) rfl kMl_X7_152 mdX7_mayCite ⟨(Nat.le_of_ble_eq_true rfl), (Nat.le_of_ble_eq_true rfl)⟩ mk_0 rfl rfl (Nat.le_of_ble_eq_true rfl) dX7_useDisjunction_31 ⟨(Nat.le_of_ble_eq_true rfl), (Nat.le_of_ble_eq_true rfl)⟩ hx (Nat.le_of_ble_eq_true rfl) (Nat.le_of_ble_eq_true rfl) H (fun r31 s31 H => ?_)
        refine J.if_eqL (tgt := 53) C dX7_useDisjunction_34 (by decide) H (fun c_34 H => ?_) (fun c_34 H => ?_)
        · refine J.widen (k := 0) (n := 0) (Nat.le_of_ble_eq_true rfl) (Nat.le_of_ble_eq_true rfl) ?_
          refine J.lw (lv' := [(0, .ref (bd 0)), (1, .int a1), (2, .int a2), (3, .int a3)]) ⟨rfl, rfl, rfl, rfl, trivial⟩ ?_
          exact bl_X7_useDisjunction_53 hl C hr hx  _ _ _ _  H
        · refine J.aload_n (i := 0) C dX7_useDisjunction_37 rfl rfl ?_
          refine J.iload_n (i := 2) C dX7_useDisjunction_38 rfl rfl ?_
          refine J.callVBI (hp := (mkh g bd pre rst)) C rfl (sp_X7_mayCiteBox hl _) rfl kMl_X7_158 mdX7_mayCiteBox ⟨(Nat.le_of_ble_eq_true rfl), (Nat.le_of_ble_eq_true rfl)⟩ mk_0 rfl rfl (Nat.le_of_ble_eq_true rfl) dX7_useDisjunction_39 ⟨(Nat.le_of_ble_eq_true rfl), (Nat.le_of_ble_eq_true rfl)⟩ hx (Nat.le_of_ble_eq_true rfl) (Nat.le_of_ble_eq_true rfl) H (fun r39 s39 H => ?_)
          refine J.if_eqL (tgt := 53) C dX7_useDisjunction_42 (by decide) H (fun c_42 H => ?_) (fun c_42 H => ?_)
          · refine J.widen (k := 0) (n := 0) (Nat.le_of_ble_eq_true rfl) (Nat.le_of_ble_eq_true rfl) ?_
            refine J.lw (lv' := [(0, .ref (bd 0)), (1, .int a1), (2, .int a2), (3, .int a3)]) ⟨rfl, rfl, rfl, rfl, trivial⟩ ?_
            exact bl_X7_useDisjunction_53 hl C hr hx  _ _ _ _  H
          · refine J.aload_n (i := 0) C dX7_useDisjunction_45 rfl rfl ?_
            refine J.iload_n (i := 3) C dX7_useDisjunction_46 rfl rfl ?_
            refine J.callVBI (hp := (mkh g bd pre rst)) C rfl (sp_X7_mayCiteBox hl _) rfl kMl_X7_158 mdX7_mayCiteBox ⟨(Nat.le_of_ble_eq_true rfl), (Nat.le_of_ble_eq_true rfl)⟩ mk_0 rfl rfl (Nat.le_of_ble_eq_true rfl) dX7_useDisjunction_47 ⟨(Nat.le_of_ble_eq_true rfl), (Nat.le_of_ble_eq_true rfl)⟩ hx (Nat.le_of_ble_eq_true rfl) (Nat.le_of_ble_eq_true rfl) H (fun r47 s47 H => ?_)
            refine J.if_neL (tgt := 57) C dX7_useDisjunction_50 (by decide) H (fun c_50 H => ?_) (fun c_50 H => ?_)
            · refine J.iconst C (0) dX7_useDisjunction_57 (by decide) ?_
              refine J.widen (k := 0) (n := 0) (Nat.le_of_ble_eq_true rfl) (Nat.le_of_ble_eq_true rfl) ?_
              refine J.lw (lv' := [(0, .ref (bd 0)), (1, .int a1), (2, .int a2), (3, .int a3)]) ⟨rfl, rfl, rfl, rfl, trivial⟩ ?_
              exact bl_X7_useDisjunction_58 hl C hr hx  _ _ _ _ _  H
            · refine J.widen (k := 0) (n := 0) (Nat.le_of_ble_eq_true rfl) (Nat.le_of_ble_eq_true rfl) ?_
              refine J.lw (lv' := [(0, .ref (bd 0)), (1, .int a1), (2, .int a2), (3, .int a3)]) ⟨rfl, rfl, rfl, rfl, trivial⟩ ?_
              exact bl_X7_useDisjunction_53 hl C hr hx  _ _ _ _  H
      · refine J.widen (k := 0) (n := 0) (Nat.le_of_ble_eq_true rfl) (Nat.le_of_ble_eq_true rfl) ?_
        refine J.lw (lv' := [(0, .ref (bd 0)), (1, .int a1), (2, .int a2), (3, .int a3)]) ⟨rfl, rfl, rfl, rfl, trivial⟩ ?_
        exact bl_X7_useDisjunction_25 hl C hr hx  _ _ _ _  H

/-! X7_makeImplication -/
abbrev mX7_makeImplication : MD := (yX7_makeImplication, cX7_makeImplication, 2, some .int)
theorem mdX7_makeImplication : MDv mX7_makeImplication RX7 1 := ⟨kIm_X7_makeImplication, kSe_X7_makeImplication, kIn_X7, kCo_X7_makeImplication, by decide +kernel⟩
def P_X7_makeImplication (σ : MS) (a1 : Int32) : Res MS Int32 := (bd (P_X7_cannotCiteBox σ a1) fun r2 s2 => (if r2 = 0 then (gd a1 60 (gd (s2.2.1 11 a1.toNatClampNeg) 60 (bd (P_X7_result s2 a1) fun r28 s28 => (bd (P_X7_entersMade s28 (67 : Int32) (s2.2.1 6 (s2.2.1 11 a1.toNatClampNeg).toNatClampNeg) r28 (3 : Int32) (99 : Int32) (-1 : Int32) (-1 : Int32) a1) fun r37 s37 => (some (.inl r37, s37)))))) else (some (.inl (0 : Int32), s2))))
set_option maxRecDepth 100000 in
theorem sp_X7_makeImplication {l : Launch} (hl : l.stackTraces = false) {g : Gy} {bd : Nat → Nat} {pre rst : va_W} {σ : MS} (a1 : Int32) : SpR l mX7_makeImplication 5 0 0 mI g [.ref (bd 0), .int a1] (mkh g bd pre rst) σ (P_X7_makeImplication σ a1) := by
  refine SpR.of hl (by decide) (Nat.le_of_ble_eq_true rfl) (fun rr H p e s m args below meth c A C hr hx => ?_)
  unfold P_X7_makeImplication at H
  refine J.lw (lv' := [(0, .ref (bd 0)), (1, .int a1)]) ⟨rfl, rfl, trivial⟩ ?_
  refine J.aload_n (i := 0) C dX7_makeImplication_0 rfl rfl ?_
  refine J.iload_n (i := 1) C dX7_makeImplication_1 rfl rfl ?_
  refine J.callVBI (hp := (mkh g bd pre rst)) C rfl (sp_X7_cannotCiteBox hl _) rfl kMl_X7_174 mdX7_cannotCiteBox ⟨(Nat.le_of_ble_eq_true rfl), (Nat.le_of_ble_eq_true rfl)⟩ mk_0 rfl rfl (Nat.le_of_ble_eq_true rfl) dX7_makeImplication_2 ⟨(Nat.le_of_ble_eq_true rfl), (Nat.le_of_ble_eq_true rfl)⟩ hx (Nat.le_of_ble_eq_true rfl) (Nat.le_of_ble_eq_true rfl) H (fun r2 s2 H => ?_)
  refine J.if_eqL (tgt := 12) C dX7_makeImplication_5 (by decide) H (fun c_5 H => ?_) (fun c_5 H => ?_)
  · refine J.aload_n (i := 0) C dX7_makeImplication_12 rfl rfl ?_
    refine J.bipush C (67) dX7_makeImplication_13 (by decide) ?_
    refine J.aload_n (i := 0) C dX7_makeImplication_15 rfl rfl ?_
    refine J.get C (pre.length + 0) 7 mk_0 rfl (by decide) kFl_X7_29 inB_X7 rfl dX7_makeImplication_16 ?_
    refine J.aload_n (i := 0) C dX7_makeImplication_19 rfl rfl ?_
    refine J.get C (pre.length + 0) 14 mk_0 rfl (by decide) kFl_X7_50 inB_X7 rfl dX7_makeImplication_20 ?_
    refine J.iload_n (i := 1) C dX7_makeImplication_23 rfl rfl ?_
    refine J.ialdL C (pre.length + 12) mk_12 dX7_makeImplication_24 H (fun H => ?_)
    refine J.ialdL C (pre.length + 7) mk_7 dX7_makeImplication_25 H (fun H => ?_)
    refine J.aload_n (i := 0) C dX7_makeImplication_26 rfl rfl ?_
    refine J.iload_n (i := 1) C dX7_makeImplication_27 rfl rfl ?_
    refine J.callVBI (hp := (mkh g bd pre rst)) C rfl (sp_X7_result hl _) rfl kMl_X7_171 mdX7_result ⟨(Nat.le_of_ble_eq_true rfl), (Nat.le_of_ble_eq_true rfl)⟩ mk_0 rfl rfl (Nat.le_of_ble_eq_true rfl) dX7_makeImplication_28 ⟨(Nat.le_of_ble_eq_true rfl), (Nat.le_of_ble_eq_true rfl)⟩ hx (Nat.le_of_ble_eq_true rfl) (Nat.le_of_ble_eq_true rfl) H (fun r28 s28 H => ?_)
    refine J.iconst C (3) dX7_makeImplication_31 (by decide) ?_
    refine J.bipush C (99) dX7_makeImplication_32 (by decide) ?_
    refine J.iconst C (-1) dX7_makeImplication_34 (by decide) ?_
    refine J.iconst C (-1) dX7_makeImplication_35 (by decide) ?_
    refine J.iload_n (i := 1) C dX7_makeImplication_36 rfl rfl ?_
    refine J.callVBI (hp := (mkh g bd pre rst)) C rfl (sp_X7_entersMade hl _ _ _ _ _ _ _ _) rfl kMl_X7_167 mdX7_entersMade ⟨(Nat.le_of_ble_eq_true rfl), (Nat.le_of_ble_eq_true rfl)⟩ mk_0 rfl rfl (Nat.le_of_ble_eq_true rfl) dX7_makeImplication_37 ⟨(Nat.le_of_ble_eq_true rfl), (Nat.le_of_ble_eq_true rfl)⟩ hx (Nat.le_of_ble_eq_true rfl) (Nat.le_of_ble_eq_true rfl) H (fun r37 s37 H => ?_)
    exact J.iretL C hr (Nat.le_of_ble_eq_true rfl) (Nat.le_of_ble_eq_true rfl) dX7_makeImplication_40 H
  · refine J.iconst C (0) dX7_makeImplication_8 (by decide) ?_
    refine J.goto (tgt := 40) C dX7_makeImplication_9 (by decide) ?_
    exact J.iretL C hr (Nat.le_of_ble_eq_true rfl) (Nat.le_of_ble_eq_true rfl) dX7_makeImplication_40 H

/-! X7_useImplication -/
def B_X7_useImplication_65 (σ : MS) (l4 : Int32) : Res MS Int32 := (if l4 = 0 then (bd (P_X7_raises σ (3 : Int32)) fun r76 s76 => (some (.inl r76, s76))) else (bd (P_X7_raises σ (4 : Int32)) fun r76 s76 => (some (.inl r76, s76))))
set_option maxRecDepth 100000 in
theorem bl_X7_useImplication_65 {l : Launch} (hl : l.stackTraces = false) {g : Gy} {bd : Nat → Nat} {pre rst : va_W} {p : Program} {e : Env} {s : State} {m : MethodId} {args : Array Value} {below : List Frame} {meth : Method} {c : Code} {A : Nat → Prop} (C : Cx p l s m args meth c g A yX7_useImplication.cls cX7_useImplication 5) (hr : meth.sig.returnType = some .int) (hx : ∀ x ∈ c.exceptionTable.toList, False) {rr : (Int32 ⊕ String) × MS} (σ : MS) (l4 : Int32) (H : B_X7_useImplication_65 σ l4 = some rr) : J p l e (rmOf 4 0 0) s m args below meth c g A 5 0 0 (QR mI g A (mkh g bd pre rst) rr below args s 0 0) 65 [(0, .ref (bd 0)), (4, .int l4)] [] ((mkh g bd pre rst) σ) := by
  unfold B_X7_useImplication_65 at H
  refine J.aload_n (i := 0) C dX7_useImplication_65 rfl rfl ?_
  refine J.iload C dX7_useImplication_66 rfl ?_
  refine J.if_eqL (tgt := 75) C dX7_useImplication_68 (by decide) H (fun c_68 H => ?_) (fun c_68 H => ?_)
  · refine J.iconst C (3) dX7_useImplication_75 (by decide) ?_
    refine J.callVBI (hp := (mkh g bd pre rst)) C rfl (sp_X7_raises hl _) rfl kMl_X7_132 mdX7_raises ⟨(Nat.le_of_ble_eq_true rfl), (Nat.le_of_ble_eq_true rfl)⟩ mk_0 rfl rfl (Nat.le_of_ble_eq_true rfl) dX7_useImplication_76 ⟨(Nat.le_of_ble_eq_true rfl), (Nat.le_of_ble_eq_true rfl)⟩ hx (Nat.le_of_ble_eq_true rfl) (Nat.le_of_ble_eq_true rfl) H (fun r76 s76 H => ?_)
    refine J.goto (tgt := 98) C dX7_useImplication_79 (by decide) ?_
    exact J.iretL C hr (Nat.le_of_ble_eq_true rfl) (Nat.le_of_ble_eq_true rfl) dX7_useImplication_98 H
  · refine J.iconst C (4) dX7_useImplication_71 (by decide) ?_
    refine J.goto (tgt := 76) C dX7_useImplication_72 (by decide) ?_
    refine J.callVBI (hp := (mkh g bd pre rst)) C rfl (sp_X7_raises hl _) rfl kMl_X7_132 mdX7_raises ⟨(Nat.le_of_ble_eq_true rfl), (Nat.le_of_ble_eq_true rfl)⟩ mk_0 rfl rfl (Nat.le_of_ble_eq_true rfl) dX7_useImplication_76 ⟨(Nat.le_of_ble_eq_true rfl), (Nat.le_of_ble_eq_true rfl)⟩ hx (Nat.le_of_ble_eq_true rfl) (Nat.le_of_ble_eq_true rfl) H (fun r76 s76 H => ?_)
    refine J.goto (tgt := 98) C dX7_useImplication_79 (by decide) ?_
    exact J.iretL C hr (Nat.le_of_ble_eq_true rfl) (Nat.le_of_ble_eq_true rfl) dX7_useImplication_98 H
def B_X7_useImplication_49 (σ : MS) (l1 : Int32) (l2 : Int32) (l3 : Int32) (t0 : Int32) : Res MS Int32 := (lt t0 fun z49 => (if z49 = 0 then (B_X7_useImplication_65 σ z49) else (if (σ.1 1) = (60 : Int32) then (B_X7_useImplication_65 σ z49) else (gd l3 150 (bd (P_X7_enters σ (σ.2.1 2 l3.toNatClampNeg) (109 : Int32) l1 l2 (-1 : Int32) (-1 : Int32)) fun r95 s95 => (some (.inl r95, s95)))))))
set_option maxRecDepth 100000 in
theorem bl_X7_useImplication_49 {l : Launch} (hl : l.stackTraces = false) {g : Gy} {bd : Nat → Nat} {pre rst : va_W} {p : Program} {e : Env} {s : State} {m : MethodId} {args : Array Value} {below : List Frame} {meth : Method} {c : Code} {A : Nat → Prop} (C : Cx p l s m args meth c g A yX7_useImplication.cls cX7_useImplication 5) (hr : meth.sig.returnType = some .int) (hx : ∀ x ∈ c.exceptionTable.toList, False) {rr : (Int32 ⊕ String) × MS} (σ : MS) (l1 : Int32) (l2 : Int32) (l3 : Int32) (t0 : Int32) (H : B_X7_useImplication_49 σ l1 l2 l3 t0 = some rr) : J p l e (rmOf 4 0 0) s m args below meth c g A 5 0 0 (QR mI g A (mkh g bd pre rst) rr below args s 0 0) 49 [(0, .ref (bd 0)), (1, .int l1), (2, .int l2), (3, .int l3)] [.int t0] ((mkh g bd pre rst) σ) := by
  unfold B_X7_useImplication_49 at H
  refine J.istoreL C dX7_useImplication_49 (by decide) H (fun z49 H => ?_)
  refine J.iload C dX7_useImplication_51 rfl ?_
  refine J.if_eqL (tgt := 65) C dX7_useImplication_53 (by decide) H (fun c_53 H => ?_) (fun c_53 H => ?_)
  · refine J.widen (k := 0) (n := 0) (Nat.le_of_ble_eq_true rfl) (Nat.le_of_ble_eq_true rfl) ?_
    refine J.lw (lv' := [(0, .ref (bd 0)), (4, .int z49)]) ⟨rfl, rfl, trivial⟩ ?_
    exact bl_X7_useImplication_65 hl C hr hx  _ _  H
  · refine J.aload_n (i := 0) C dX7_useImplication_56 rfl rfl ?_
    refine J.get C (pre.length + 0) 11 mk_0 rfl (by decide) kFl_X7_94 inB_X7 rfl dX7_useImplication_57 ?_
    refine J.bipush C (60) dX7_useImplication_60 (by decide) ?_
    refine J.icmp_neL (tgt := 82) C dX7_useImplication_62 (by decide) H (fun c_62 H => ?_) (fun c_62 H => ?_)
    · refine J.aload_n (i := 0) C dX7_useImplication_82 rfl rfl ?_
      refine J.aload_n (i := 0) C dX7_useImplication_83 rfl rfl ?_
      refine J.get C (pre.length + 0) 2 mk_0 rfl (by decide) kFl_X7_17 inB_X7 rfl dX7_useImplication_84 ?_
      refine J.iload_n (i := 3) C dX7_useImplication_87 rfl rfl ?_
      refine J.ialdL C (pre.length + 3) mk_3 dX7_useImplication_88 H (fun H => ?_)
      refine J.bipush C (109) dX7_useImplication_89 (by decide) ?_
      refine J.iload_n (i := 1) C dX7_useImplication_91 rfl rfl ?_
      refine J.iload_n (i := 2) C dX7_useImplication_92 rfl rfl ?_
      refine J.iconst C (-1) dX7_useImplication_93 (by decide) ?_
      refine J.iconst C (-1) dX7_useImplication_94 (by decide) ?_
      refine J.callVBI (hp := (mkh g bd pre rst)) C rfl (sp_X7_enters hl _ _ _ _ _ _) rfl kMl_X7_145 mdX7_enters ⟨(Nat.le_of_ble_eq_true rfl), (Nat.le_of_ble_eq_true rfl)⟩ mk_0 rfl rfl (Nat.le_of_ble_eq_true rfl) dX7_useImplication_95 ⟨(Nat.le_of_ble_eq_true rfl), (Nat.le_of_ble_eq_true rfl)⟩ hx (Nat.le_of_ble_eq_true rfl) (Nat.le_of_ble_eq_true rfl) H (fun r95 s95 H => ?_)
      exact J.iretL C hr (Nat.le_of_ble_eq_true rfl) (Nat.le_of_ble_eq_true rfl) dX7_useImplication_98 H
    · refine J.widen (k := 0) (n := 0) (Nat.le_of_ble_eq_true rfl) (Nat.le_of_ble_eq_true rfl) ?_
      refine J.lw (lv' := [(0, .ref (bd 0)), (4, .int z49)]) ⟨rfl, rfl, trivial⟩ ?_
      exact bl_X7_useImplication_65 hl C hr hx  _ _  H
def B_X7_useImplication_48 (σ : MS) (l1 : Int32) (l2 : Int32) (l3 : Int32) : Res MS Int32 := (B_X7_useImplication_49 σ l1 l2 l3 (0 : Int32))
set_option maxRecDepth 100000 in
theorem bl_X7_useImplication_48 {l : Launch} (hl : l.stackTraces = false) {g : Gy} {bd : Nat → Nat} {pre rst : va_W} {p : Program} {e : Env} {s : State} {m : MethodId} {args : Array Value} {below : List Frame} {meth : Method} {c : Code} {A : Nat → Prop} (C : Cx p l s m args meth c g A yX7_useImplication.cls cX7_useImplication 5) (hr : meth.sig.returnType = some .int) (hx : ∀ x ∈ c.exceptionTable.toList, False) {rr : (Int32 ⊕ String) × MS} (σ : MS) (l1 : Int32) (l2 : Int32) (l3 : Int32) (H : B_X7_useImplication_48 σ l1 l2 l3 = some rr) : J p l e (rmOf 4 0 0) s m args below meth c g A 5 0 0 (QR mI g A (mkh g bd pre rst) rr below args s 0 0) 48 [(0, .ref (bd 0)), (1, .int l1), (2, .int l2), (3, .int l3)] [] ((mkh g bd pre rst) σ) := by
  unfold B_X7_useImplication_48 at H
  refine J.iconst C (0) dX7_useImplication_48 (by decide) ?_
  refine J.widen (k := 0) (n := 0) (Nat.le_of_ble_eq_true rfl) (Nat.le_of_ble_eq_true rfl) ?_
  refine J.lw (lv' := [(0, .ref (bd 0)), (1, .int l1), (2, .int l2), (3, .int l3)]) ⟨rfl, rfl, rfl, rfl, trivial⟩ ?_
  exact bl_X7_useImplication_49 hl C hr hx  _ _ _ _ _  H
abbrev mX7_useImplication : MD := (yX7_useImplication, cX7_useImplication, 5, some .int)
theorem mdX7_useImplication : MDv mX7_useImplication RX7 2 := ⟨kIm_X7_useImplication, kSe_X7_useImplication, kIn_X7, kCo_X7_useImplication, by decide +kernel⟩
def P_X7_useImplication (σ : MS) (a1 : Int32) (a2 : Int32) : Res MS Int32 := (bd (P_X7_cannotCite_ σ a1 a2) fun r3 s3 => (if r3 = 0 then (gd a1 60 (lt (s3.2.1 6 a1.toNatClampNeg) fun z17 => (gd z17 150 (if (s3.2.1 0 z17.toNatClampNeg) = (67 : Int32) then (gd z17 150 (gd a2 60 (if (s3.2.1 1 z17.toNatClampNeg) = (s3.2.1 6 a2.toNatClampNeg) then (B_X7_useImplication_49 s3 a1 a2 z17 (1 : Int32)) else (B_X7_useImplication_48 s3 a1 a2 z17)))) else (B_X7_useImplication_48 s3 a1 a2 z17))))) else (some (.inl (0 : Int32), s3))))
set_option maxRecDepth 100000 in
theorem sp_X7_useImplication {l : Launch} (hl : l.stackTraces = false) {g : Gy} {bd : Nat → Nat} {pre rst : va_W} {σ : MS} (a1 : Int32) (a2 : Int32) : SpR l mX7_useImplication 4 0 0 mI g [.ref (bd 0), .int a1, .int a2] (mkh g bd pre rst) σ (P_X7_useImplication σ a1 a2) := by
  refine SpR.of hl (by decide) (Nat.le_of_ble_eq_true rfl) (fun rr H p e s m args below meth c A C hr hx => ?_)
  unfold P_X7_useImplication at H
  refine J.lw (lv' := [(0, .ref (bd 0)), (1, .int a1), (2, .int a2)]) ⟨rfl, rfl, rfl, trivial⟩ ?_
  refine J.aload_n (i := 0) C dX7_useImplication_0 rfl rfl ?_
  refine J.iload_n (i := 1) C dX7_useImplication_1 rfl rfl ?_
  refine J.iload_n (i := 2) C dX7_useImplication_2 rfl rfl ?_
  refine J.callVBI (hp := (mkh g bd pre rst)) C rfl (sp_X7_cannotCite_ hl _ _) rfl kMl_X7_164 mdX7_cannotCite_ ⟨(Nat.le_of_ble_eq_true rfl), (Nat.le_of_ble_eq_true rfl)⟩ mk_0 rfl rfl (Nat.le_of_ble_eq_true rfl) dX7_useImplication_3 ⟨(Nat.le_of_ble_eq_true rfl), (Nat.le_of_ble_eq_true rfl)⟩ hx (Nat.le_of_ble_eq_true rfl) (Nat.le_of_ble_eq_true rfl) H (fun r3 s3 H => ?_)
  refine J.if_eqL (tgt := 11) C dX7_useImplication_6 (by decide) H (fun c_6 H => ?_) (fun c_6 H => ?_)
  · refine J.aload_n (i := 0) C dX7_useImplication_11 rfl rfl ?_
    refine J.get C (pre.length + 0) 7 mk_0 rfl (by decide) kFl_X7_29 inB_X7 rfl dX7_useImplication_12 ?_
    refine J.iload_n (i := 1) C dX7_useImplication_15 rfl rfl ?_
    refine J.ialdL C (pre.length + 7) mk_7 dX7_useImplication_16 H (fun H => ?_)
    refine J.istore_nL (i := 3) C dX7_useImplication_17 rfl (by decide) H (fun z17 H => ?_)
    refine J.aload_n (i := 0) C dX7_useImplication_18 rfl rfl ?_
    refine J.get C (pre.length + 0) 0 mk_0 rfl (by decide) kFl_X7_9 inB_X7 rfl dX7_useImplication_19 ?_
    refine J.iload_n (i := 3) C dX7_useImplication_22 rfl rfl ?_
    refine J.caldL C (pre.length + 1) mk_1 dX7_useImplication_23 H (fun H => ?_)
    refine J.bipush C (67) dX7_useImplication_24 (by decide) ?_
    refine J.icmp_neL (tgt := 48) C dX7_useImplication_26 (by decide) H (fun c_26 H => ?_) (fun c_26 H => ?_)
    · refine J.widen (k := 0) (n := 0) (Nat.le_of_ble_eq_true rfl) (Nat.le_of_ble_eq_true rfl) ?_
      refine J.lw (lv' := [(0, .ref (bd 0)), (1, .int a1), (2, .int a2), (3, .int z17)]) ⟨rfl, rfl, rfl, rfl, trivial⟩ ?_
      exact bl_X7_useImplication_48 hl C hr hx  _ _ _ _  H
    · refine J.aload_n (i := 0) C dX7_useImplication_29 rfl rfl ?_
      refine J.get C (pre.length + 0) 1 mk_0 rfl (by decide) kFl_X7_13 inB_X7 rfl dX7_useImplication_30 ?_
      refine J.iload_n (i := 3) C dX7_useImplication_33 rfl rfl ?_
      refine J.ialdL C (pre.length + 2) mk_2 dX7_useImplication_34 H (fun H => ?_)
      refine J.aload_n (i := 0) C dX7_useImplication_35 rfl rfl ?_
      refine J.get C (pre.length + 0) 7 mk_0 rfl (by decide) kFl_X7_29 inB_X7 rfl dX7_useImplication_36 ?_
      refine J.iload_n (i := 2) C dX7_useImplication_39 rfl rfl ?_
      refine J.ialdL C (pre.length + 7) mk_7 dX7_useImplication_40 H (fun H => ?_)
      refine J.icmp_neL (tgt := 48) C dX7_useImplication_41 (by decide) H (fun c_41 H => ?_) (fun c_41 H => ?_)
      · refine J.widen (k := 0) (n := 0) (Nat.le_of_ble_eq_true rfl) (Nat.le_of_ble_eq_true rfl) ?_
        refine J.lw (lv' := [(0, .ref (bd 0)), (1, .int a1), (2, .int a2), (3, .int z17)]) ⟨rfl, rfl, rfl, rfl, trivial⟩ ?_
        exact bl_X7_useImplication_48 hl C hr hx  _ _ _ _  H
      · refine J.iconst C (1) dX7_useImplication_44 (by decide) ?_
        refine J.goto (tgt := 49) C dX7_useImplication_45 (by decide) ?_
        refine J.widen (k := 0) (n := 0) (Nat.le_of_ble_eq_true rfl) (Nat.le_of_ble_eq_true rfl) ?_
        refine J.lw (lv' := [(0, .ref (bd 0)), (1, .int a1), (2, .int a2), (3, .int z17)]) ⟨rfl, rfl, rfl, rfl, trivial⟩ ?_
        exact bl_X7_useImplication_49 hl C hr hx  _ _ _ _ _  H
  · refine J.iconst C (0) dX7_useImplication_9 (by decide) ?_
    exact J.iretL C hr (Nat.le_of_ble_eq_true rfl) (Nat.le_of_ble_eq_true rfl) dX7_useImplication_10 H

/-! X7_makeNegation -/
abbrev mX7_makeNegation : MD := (yX7_makeNegation, cX7_makeNegation, 2, some .int)
theorem mdX7_makeNegation : MDv mX7_makeNegation RX7 1 := ⟨kIm_X7_makeNegation, kSe_X7_makeNegation, kIn_X7, kCo_X7_makeNegation, by decide +kernel⟩
def P_X7_makeNegation (σ : MS) (a1 : Int32) : Res MS Int32 := (bd (P_X7_cannotCiteBox σ a1) fun r2 s2 => (if r2 = 0 then (bd (P_X7_result s2 a1) fun r16 s16 => (gd r16 150 (if (s16.2.1 0 r16.toNatClampNeg) = (70 : Int32) then (gd a1 60 (gd (s16.2.1 11 a1.toNatClampNeg) 60 (bd (P_X7_entersMade s16 (78 : Int32) (s16.2.1 6 (s16.2.1 11 a1.toNatClampNeg).toNatClampNeg) (-1 : Int32) (4 : Int32) (105 : Int32) (-1 : Int32) (-1 : Int32) a1) fun r54 s54 => (some (.inl r54, s54))))) else (bd (P_X7_raises s16 (3 : Int32)) fun r27 s27 => (some (.inl r27, s27)))))) else (some (.inl (0 : Int32), s2))))
set_option maxRecDepth 100000 in
theorem sp_X7_makeNegation {l : Launch} (hl : l.stackTraces = false) {g : Gy} {bd : Nat → Nat} {pre rst : va_W} {σ : MS} (a1 : Int32) : SpR l mX7_makeNegation 5 0 0 mI g [.ref (bd 0), .int a1] (mkh g bd pre rst) σ (P_X7_makeNegation σ a1) := by
  refine SpR.of hl (by decide) (Nat.le_of_ble_eq_true rfl) (fun rr H p e s m args below meth c A C hr hx => ?_)
  unfold P_X7_makeNegation at H
  refine J.lw (lv' := [(0, .ref (bd 0)), (1, .int a1)]) ⟨rfl, rfl, trivial⟩ ?_
  refine J.aload_n (i := 0) C dX7_makeNegation_0 rfl rfl ?_
  refine J.iload_n (i := 1) C dX7_makeNegation_1 rfl rfl ?_
  refine J.callVBI (hp := (mkh g bd pre rst)) C rfl (sp_X7_cannotCiteBox hl _) rfl kMl_X7_174 mdX7_cannotCiteBox ⟨(Nat.le_of_ble_eq_true rfl), (Nat.le_of_ble_eq_true rfl)⟩ mk_0 rfl rfl (Nat.le_of_ble_eq_true rfl) dX7_makeNegation_2 ⟨(Nat.le_of_ble_eq_true rfl), (Nat.le_of_ble_eq_true rfl)⟩ hx (Nat.le_of_ble_eq_true rfl) (Nat.le_of_ble_eq_true rfl) H (fun r2 s2 H => ?_)
  refine J.if_eqL (tgt := 10) C dX7_makeNegation_5 (by decide) H (fun c_5 H => ?_) (fun c_5 H => ?_)
  · refine J.aload_n (i := 0) C dX7_makeNegation_10 rfl rfl ?_
    refine J.get C (pre.length + 0) 0 mk_0 rfl (by decide) kFl_X7_9 inB_X7 rfl dX7_makeNegation_11 ?_
    refine J.aload_n (i := 0) C dX7_makeNegation_14 rfl rfl ?_
    refine J.iload_n (i := 1) C dX7_makeNegation_15 rfl rfl ?_
    refine J.callVBI (hp := (mkh g bd pre rst)) C rfl (sp_X7_result hl _) rfl kMl_X7_171 mdX7_result ⟨(Nat.le_of_ble_eq_true rfl), (Nat.le_of_ble_eq_true rfl)⟩ mk_0 rfl rfl (Nat.le_of_ble_eq_true rfl) dX7_makeNegation_16 ⟨(Nat.le_of_ble_eq_true rfl), (Nat.le_of_ble_eq_true rfl)⟩ hx (Nat.le_of_ble_eq_true rfl) (Nat.le_of_ble_eq_true rfl) H (fun r16 s16 H => ?_)
    refine J.caldL C (pre.length + 1) mk_1 dX7_makeNegation_19 H (fun H => ?_)
    refine J.bipush C (70) dX7_makeNegation_20 (by decide) ?_
    refine J.icmp_eqL (tgt := 33) C dX7_makeNegation_22 (by decide) H (fun c_22 H => ?_) (fun c_22 H => ?_)
    · refine J.aload_n (i := 0) C dX7_makeNegation_33 rfl rfl ?_
      refine J.bipush C (78) dX7_makeNegation_34 (by decide) ?_
      refine J.aload_n (i := 0) C dX7_makeNegation_36 rfl rfl ?_
      refine J.get C (pre.length + 0) 7 mk_0 rfl (by decide) kFl_X7_29 inB_X7 rfl dX7_makeNegation_37 ?_
      refine J.aload_n (i := 0) C dX7_makeNegation_40 rfl rfl ?_
      refine J.get C (pre.length + 0) 14 mk_0 rfl (by decide) kFl_X7_50 inB_X7 rfl dX7_makeNegation_41 ?_
      refine J.iload_n (i := 1) C dX7_makeNegation_44 rfl rfl ?_
      refine J.ialdL C (pre.length + 12) mk_12 dX7_makeNegation_45 H (fun H => ?_)
      refine J.ialdL C (pre.length + 7) mk_7 dX7_makeNegation_46 H (fun H => ?_)
      refine J.iconst C (-1) dX7_makeNegation_47 (by decide) ?_
      refine J.iconst C (4) dX7_makeNegation_48 (by decide) ?_
      refine J.bipush C (105) dX7_makeNegation_49 (by decide) ?_
      refine J.iconst C (-1) dX7_makeNegation_51 (by decide) ?_
      refine J.iconst C (-1) dX7_makeNegation_52 (by decide) ?_
      refine J.iload_n (i := 1) C dX7_makeNegation_53 rfl rfl ?_
      refine J.callVBI (hp := (mkh g bd pre rst)) C rfl (sp_X7_entersMade hl _ _ _ _ _ _ _ _) rfl kMl_X7_167 mdX7_entersMade ⟨(Nat.le_of_ble_eq_true rfl), (Nat.le_of_ble_eq_true rfl)⟩ mk_0 rfl rfl (Nat.le_of_ble_eq_true rfl) dX7_makeNegation_54 ⟨(Nat.le_of_ble_eq_true rfl), (Nat.le_of_ble_eq_true rfl)⟩ hx (Nat.le_of_ble_eq_true rfl) (Nat.le_of_ble_eq_true rfl) H (fun r54 s54 H => ?_)
      exact J.iretL C hr (Nat.le_of_ble_eq_true rfl) (Nat.le_of_ble_eq_true rfl) dX7_makeNegation_57 H
    · refine J.aload_n (i := 0) C dX7_makeNegation_25 rfl rfl ?_
      refine J.iconst C (3) dX7_makeNegation_26 (by decide) ?_
      refine J.callVBI (hp := (mkh g bd pre rst)) C rfl (sp_X7_raises hl _) rfl kMl_X7_132 mdX7_raises ⟨(Nat.le_of_ble_eq_true rfl), (Nat.le_of_ble_eq_true rfl)⟩ mk_0 rfl rfl (Nat.le_of_ble_eq_true rfl) dX7_makeNegation_27 ⟨(Nat.le_of_ble_eq_true rfl), (Nat.le_of_ble_eq_true rfl)⟩ hx (Nat.le_of_ble_eq_true rfl) (Nat.le_of_ble_eq_true rfl) H (fun r27 s27 H => ?_)
      refine J.goto (tgt := 57) C dX7_makeNegation_30 (by decide) ?_
      exact J.iretL C hr (Nat.le_of_ble_eq_true rfl) (Nat.le_of_ble_eq_true rfl) dX7_makeNegation_57 H
  · refine J.iconst C (0) dX7_makeNegation_8 (by decide) ?_
    exact J.iretL C hr (Nat.le_of_ble_eq_true rfl) (Nat.le_of_ble_eq_true rfl) dX7_makeNegation_9 H

/-! X7_useNegation -/
def B_X7_useNegation_49 (σ : MS) (l1 : Int32) (l2 : Int32) (t0 : Int32) : Res MS Int32 := (lt t0 fun z49 => (if z49 = 0 then (bd (P_X7_raises σ (3 : Int32)) fun r58 s58 => (some (.inl r58, s58))) else (bd (P_X7_entersMade σ (70 : Int32) (-1 : Int32) (-1 : Int32) (4 : Int32) (110 : Int32) l1 l2 (-1 : Int32)) fun r75 s75 => (some (.inl r75, s75)))))
set_option maxRecDepth 100000 in
theorem bl_X7_useNegation_49 {l : Launch} (hl : l.stackTraces = false) {g : Gy} {bd : Nat → Nat} {pre rst : va_W} {p : Program} {e : Env} {s : State} {m : MethodId} {args : Array Value} {below : List Frame} {meth : Method} {c : Code} {A : Nat → Prop} (C : Cx p l s m args meth c g A yX7_useNegation.cls cX7_useNegation 5) (hr : meth.sig.returnType = some .int) (hx : ∀ x ∈ c.exceptionTable.toList, False) {rr : (Int32 ⊕ String) × MS} (σ : MS) (l1 : Int32) (l2 : Int32) (t0 : Int32) (H : B_X7_useNegation_49 σ l1 l2 t0 = some rr) : J p l e (rmOf 5 0 0) s m args below meth c g A 5 0 0 (QR mI g A (mkh g bd pre rst) rr below args s 0 0) 49 [(0, .ref (bd 0)), (1, .int l1), (2, .int l2)] [.int t0] ((mkh g bd pre rst) σ) := by
  unfold B_X7_useNegation_49 at H
  refine J.istoreL C dX7_useNegation_49 (by decide) H (fun z49 H => ?_)
  refine J.iload C dX7_useNegation_51 rfl ?_
  refine J.if_neL (tgt := 64) C dX7_useNegation_53 (by decide) H (fun c_53 H => ?_) (fun c_53 H => ?_)
  · refine J.aload_n (i := 0) C dX7_useNegation_64 rfl rfl ?_
    refine J.bipush C (70) dX7_useNegation_65 (by decide) ?_
    refine J.iconst C (-1) dX7_useNegation_67 (by decide) ?_
    refine J.iconst C (-1) dX7_useNegation_68 (by decide) ?_
    refine J.iconst C (4) dX7_useNegation_69 (by decide) ?_
    refine J.bipush C (110) dX7_useNegation_70 (by decide) ?_
    refine J.iload_n (i := 1) C dX7_useNegation_72 rfl rfl ?_
    refine J.iload_n (i := 2) C dX7_useNegation_73 rfl rfl ?_
    refine J.iconst C (-1) dX7_useNegation_74 (by decide) ?_
    refine J.callVBI (hp := (mkh g bd pre rst)) C rfl (sp_X7_entersMade hl _ _ _ _ _ _ _ _) rfl kMl_X7_167 mdX7_entersMade ⟨(Nat.le_of_ble_eq_true rfl), (Nat.le_of_ble_eq_true rfl)⟩ mk_0 rfl rfl (Nat.le_of_ble_eq_true rfl) dX7_useNegation_75 ⟨(Nat.le_of_ble_eq_true rfl), (Nat.le_of_ble_eq_true rfl)⟩ hx (Nat.le_of_ble_eq_true rfl) (Nat.le_of_ble_eq_true rfl) H (fun r75 s75 H => ?_)
    exact J.iretL C hr (Nat.le_of_ble_eq_true rfl) (Nat.le_of_ble_eq_true rfl) dX7_useNegation_78 H
  · refine J.aload_n (i := 0) C dX7_useNegation_56 rfl rfl ?_
    refine J.iconst C (3) dX7_useNegation_57 (by decide) ?_
    refine J.callVBI (hp := (mkh g bd pre rst)) C rfl (sp_X7_raises hl _) rfl kMl_X7_132 mdX7_raises ⟨(Nat.le_of_ble_eq_true rfl), (Nat.le_of_ble_eq_true rfl)⟩ mk_0 rfl rfl (Nat.le_of_ble_eq_true rfl) dX7_useNegation_58 ⟨(Nat.le_of_ble_eq_true rfl), (Nat.le_of_ble_eq_true rfl)⟩ hx (Nat.le_of_ble_eq_true rfl) (Nat.le_of_ble_eq_true rfl) H (fun r58 s58 H => ?_)
    refine J.goto (tgt := 78) C dX7_useNegation_61 (by decide) ?_
    exact J.iretL C hr (Nat.le_of_ble_eq_true rfl) (Nat.le_of_ble_eq_true rfl) dX7_useNegation_78 H
def B_X7_useNegation_48 (σ : MS) (l1 : Int32) (l2 : Int32) : Res MS Int32 := (B_X7_useNegation_49 σ l1 l2 (0 : Int32))
set_option maxRecDepth 100000 in
theorem bl_X7_useNegation_48 {l : Launch} (hl : l.stackTraces = false) {g : Gy} {bd : Nat → Nat} {pre rst : va_W} {p : Program} {e : Env} {s : State} {m : MethodId} {args : Array Value} {below : List Frame} {meth : Method} {c : Code} {A : Nat → Prop} (C : Cx p l s m args meth c g A yX7_useNegation.cls cX7_useNegation 5) (hr : meth.sig.returnType = some .int) (hx : ∀ x ∈ c.exceptionTable.toList, False) {rr : (Int32 ⊕ String) × MS} (σ : MS) (l1 : Int32) (l2 : Int32) (H : B_X7_useNegation_48 σ l1 l2 = some rr) : J p l e (rmOf 5 0 0) s m args below meth c g A 5 0 0 (QR mI g A (mkh g bd pre rst) rr below args s 0 0) 48 [(0, .ref (bd 0)), (1, .int l1), (2, .int l2)] [] ((mkh g bd pre rst) σ) := by
  unfold B_X7_useNegation_48 at H
  refine J.iconst C (0) dX7_useNegation_48 (by decide) ?_
  refine J.widen (k := 0) (n := 0) (Nat.le_of_ble_eq_true rfl) (Nat.le_of_ble_eq_true rfl) ?_
  refine J.lw (lv' := [(0, .ref (bd 0)), (1, .int l1), (2, .int l2)]) ⟨rfl, rfl, rfl, trivial⟩ ?_
  exact bl_X7_useNegation_49 hl C hr hx  _ _ _ _  H
abbrev mX7_useNegation : MD := (yX7_useNegation, cX7_useNegation, 5, some .int)
theorem mdX7_useNegation : MDv mX7_useNegation RX7 2 := ⟨kIm_X7_useNegation, kSe_X7_useNegation, kIn_X7, kCo_X7_useNegation, by decide +kernel⟩
def P_X7_useNegation (σ : MS) (a1 : Int32) (a2 : Int32) : Res MS Int32 := (bd (P_X7_cannotCite_ σ a1 a2) fun r3 s3 => (if r3 = 0 then (gd a1 60 (lt (s3.2.1 6 a1.toNatClampNeg) fun z17 => (gd z17 150 (if (s3.2.1 0 z17.toNatClampNeg) = (78 : Int32) then (gd z17 150 (gd a2 60 (if (s3.2.1 1 z17.toNatClampNeg) = (s3.2.1 6 a2.toNatClampNeg) then (B_X7_useNegation_49 s3 a1 a2 (1 : Int32)) else (B_X7_useNegation_48 s3 a1 a2)))) else (B_X7_useNegation_48 s3 a1 a2))))) else (some (.inl (0 : Int32), s3))))
set_option maxRecDepth 100000 in
theorem sp_X7_useNegation {l : Launch} (hl : l.stackTraces = false) {g : Gy} {bd : Nat → Nat} {pre rst : va_W} {σ : MS} (a1 : Int32) (a2 : Int32) : SpR l mX7_useNegation 5 0 0 mI g [.ref (bd 0), .int a1, .int a2] (mkh g bd pre rst) σ (P_X7_useNegation σ a1 a2) := by
  refine SpR.of hl (by decide) (Nat.le_of_ble_eq_true rfl) (fun rr H p e s m args below meth c A C hr hx => ?_)
  unfold P_X7_useNegation at H
  refine J.lw (lv' := [(0, .ref (bd 0)), (1, .int a1), (2, .int a2)]) ⟨rfl, rfl, rfl, trivial⟩ ?_
  refine J.aload_n (i := 0) C dX7_useNegation_0 rfl rfl ?_
  refine J.iload_n (i := 1) C dX7_useNegation_1 rfl rfl ?_
  refine J.iload_n (i := 2) C dX7_useNegation_2 rfl rfl ?_
  refine J.callVBI (hp := (mkh g bd pre rst)) C rfl (sp_X7_cannotCite_ hl _ _) rfl kMl_X7_164 mdX7_cannotCite_ ⟨(Nat.le_of_ble_eq_true rfl), (Nat.le_of_ble_eq_true rfl)⟩ mk_0 rfl rfl (Nat.le_of_ble_eq_true rfl) dX7_useNegation_3 ⟨(Nat.le_of_ble_eq_true rfl), (Nat.le_of_ble_eq_true rfl)⟩ hx (Nat.le_of_ble_eq_true rfl) (Nat.le_of_ble_eq_true rfl) H (fun r3 s3 H => ?_)
  refine J.if_eqL (tgt := 11) C dX7_useNegation_6 (by decide) H (fun c_6 H => ?_) (fun c_6 H => ?_)
  · refine J.aload_n (i := 0) C dX7_useNegation_11 rfl rfl ?_
    refine J.get C (pre.length + 0) 7 mk_0 rfl (by decide) kFl_X7_29 inB_X7 rfl dX7_useNegation_12 ?_
    refine J.iload_n (i := 1) C dX7_useNegation_15 rfl rfl ?_
    refine J.ialdL C (pre.length + 7) mk_7 dX7_useNegation_16 H (fun H => ?_)
    refine J.istore_nL (i := 3) C dX7_useNegation_17 rfl (by decide) H (fun z17 H => ?_)
    refine J.aload_n (i := 0) C dX7_useNegation_18 rfl rfl ?_
    refine J.get C (pre.length + 0) 0 mk_0 rfl (by decide) kFl_X7_9 inB_X7 rfl dX7_useNegation_19 ?_
    refine J.iload_n (i := 3) C dX7_useNegation_22 rfl rfl ?_
    refine J.caldL C (pre.length + 1) mk_1 dX7_useNegation_23 H (fun H => ?_)
    refine J.bipush C (78) dX7_useNegation_24 (by decide) ?_
    refine J.icmp_neL (tgt := 48) C dX7_useNegation_26 (by decide) H (fun c_26 H => ?_) (fun c_26 H => ?_)
    · refine J.widen (k := 0) (n := 0) (Nat.le_of_ble_eq_true rfl) (Nat.le_of_ble_eq_true rfl) ?_
      refine J.lw (lv' := [(0, .ref (bd 0)), (1, .int a1), (2, .int a2)]) ⟨rfl, rfl, rfl, trivial⟩ ?_
      exact bl_X7_useNegation_48 hl C hr hx  _ _ _  H
    · refine J.aload_n (i := 0) C dX7_useNegation_29 rfl rfl ?_
      refine J.get C (pre.length + 0) 1 mk_0 rfl (by decide) kFl_X7_13 inB_X7 rfl dX7_useNegation_30 ?_
      refine J.iload_n (i := 3) C dX7_useNegation_33 rfl rfl ?_
      refine J.ialdL C (pre.length + 2) mk_2 dX7_useNegation_34 H (fun H => ?_)
      refine J.aload_n (i := 0) C dX7_useNegation_35 rfl rfl ?_
      refine J.get C (pre.length + 0) 7 mk_0 rfl (by decide) kFl_X7_29 inB_X7 rfl dX7_useNegation_36 ?_
      refine J.iload_n (i := 2) C dX7_useNegation_39 rfl rfl ?_
      refine J.ialdL C (pre.length + 7) mk_7 dX7_useNegation_40 H (fun H => ?_)
      refine J.icmp_neL (tgt := 48) C dX7_useNegation_41 (by decide) H (fun c_41 H => ?_) (fun c_41 H => ?_)
      · refine J.widen (k := 0) (n := 0) (Nat.le_of_ble_eq_true rfl) (Nat.le_of_ble_eq_true rfl) ?_
        refine J.lw (lv' := [(0, .ref (bd 0)), (1, .int a1), (2, .int a2)]) ⟨rfl, rfl, rfl, trivial⟩ ?_
        exact bl_X7_useNegation_48 hl C hr hx  _ _ _  H
      · refine J.iconst C (1) dX7_useNegation_44 (by decide) ?_
        refine J.goto (tgt := 49) C dX7_useNegation_45 (by decide) ?_
        refine J.widen (k := 0) (n := 0) (Nat.le_of_ble_eq_true rfl) (Nat.le_of_ble_eq_true rfl) ?_
        refine J.lw (lv' := [(0, .ref (bd 0)), (1, .int a1), (2, .int a2)]) ⟨rfl, rfl, rfl, trivial⟩ ?_
        exact bl_X7_useNegation_49 hl C hr hx  _ _ _ _  H
  · refine J.iconst C (0) dX7_useNegation_9 (by decide) ?_
    exact J.iretL C hr (Nat.le_of_ble_eq_true rfl) (Nat.le_of_ble_eq_true rfl) dX7_useNegation_10 H

/-! X7_fromFalsum -/
def B_X7_fromFalsum_67 (σ : MS) (l1 : Int32) (l2 : Int32) (t0 : Int32) : Res MS Int32 := (lt (tI σ 5 t0) fun s67 => (if (s67.1 5) ≤ 0 then (bd (P_X7_enters s67 l2 (120 : Int32) l1 (-1 : Int32) (-1 : Int32) (-1 : Int32)) fun r89 s89 => (some (.inl r89, s89))) else (some (.inl (0 : Int32), s67))))
set_option maxRecDepth 100000 in
theorem bl_X7_fromFalsum_67 {l : Launch} (hl : l.stackTraces = false) {g : Gy} {bd : Nat → Nat} {pre rst : va_W} {p : Program} {e : Env} {s : State} {m : MethodId} {args : Array Value} {below : List Frame} {meth : Method} {c : Code} {A : Nat → Prop} (C : Cx p l s m args meth c g A yX7_fromFalsum.cls cX7_fromFalsum 3) (hr : meth.sig.returnType = some .int) (hx : ∀ x ∈ c.exceptionTable.toList, False) {rr : (Int32 ⊕ String) × MS} (σ : MS) (l1 : Int32) (l2 : Int32) (t0 : Int32) (H : B_X7_fromFalsum_67 σ l1 l2 t0 = some rr) : J p l e (rmOf 3 0 0) s m args below meth c g A 3 0 0 (QR mI g A (mkh g bd pre rst) rr below args s 0 0) 67 [(0, .ref (bd 0)), (1, .int l1), (2, .int l2)] [.int t0, .ref (bd 0)] ((mkh g bd pre rst) σ) := by
  unfold B_X7_fromFalsum_67 at H
  refine J.putL (hp := (mkh g bd pre rst)) C (pre.length + 0) 22 mk_0 rfl (by decide) kFl_X7_84 inB_X7 tyX7 tyX7_ok nmX7 rfl rfl rfl rfl (Nat.le_of_ble_eq_true rfl) dX7_fromFalsum_67 (mkI_5 _) H (fun s67 H => ?_)
  refine J.aload_n (i := 0) C dX7_fromFalsum_70 rfl rfl ?_
  refine J.get C (pre.length + 0) 22 mk_0 rfl (by decide) kFl_X7_84 inB_X7 rfl dX7_fromFalsum_71 ?_
  refine J.if_leL (tgt := 81) C dX7_fromFalsum_74 (by decide) H (fun c_74 H => ?_) (fun c_74 H => ?_)
  · refine J.aload_n (i := 0) C dX7_fromFalsum_81 rfl rfl ?_
    refine J.iload_n (i := 2) C dX7_fromFalsum_82 rfl rfl ?_
    refine J.bipush C (120) dX7_fromFalsum_83 (by decide) ?_
    refine J.iload_n (i := 1) C dX7_fromFalsum_85 rfl rfl ?_
    refine J.iconst C (-1) dX7_fromFalsum_86 (by decide) ?_
    refine J.iconst C (-1) dX7_fromFalsum_87 (by decide) ?_
    refine J.iconst C (-1) dX7_fromFalsum_88 (by decide) ?_
    refine J.callVBI (hp := (mkh g bd pre rst)) C rfl (sp_X7_enters hl _ _ _ _ _ _) rfl kMl_X7_145 mdX7_enters ⟨(Nat.le_of_ble_eq_true rfl), (Nat.le_of_ble_eq_true rfl)⟩ mk_0 rfl rfl (Nat.le_of_ble_eq_true rfl) dX7_fromFalsum_89 ⟨(Nat.le_of_ble_eq_true rfl), (Nat.le_of_ble_eq_true rfl)⟩ hx (Nat.le_of_ble_eq_true rfl) (Nat.le_of_ble_eq_true rfl) H (fun r89 s89 H => ?_)
    exact J.iretL C hr (Nat.le_of_ble_eq_true rfl) (Nat.le_of_ble_eq_true rfl) dX7_fromFalsum_92 H
  · refine J.iconst C (0) dX7_fromFalsum_77 (by decide) ?_
    refine J.goto (tgt := 92) C dX7_fromFalsum_78 (by decide) ?_
    exact J.iretL C hr (Nat.le_of_ble_eq_true rfl) (Nat.le_of_ble_eq_true rfl) dX7_fromFalsum_92 H
def B_X7_fromFalsum_17 (σ : MS) (l1 : Int32) (l2 : Int32) : Res MS Int32 := (B_X7_fromFalsum_67 σ l1 l2 (1 : Int32))
set_option maxRecDepth 100000 in
theorem bl_X7_fromFalsum_17 {l : Launch} (hl : l.stackTraces = false) {g : Gy} {bd : Nat → Nat} {pre rst : va_W} {p : Program} {e : Env} {s : State} {m : MethodId} {args : Array Value} {below : List Frame} {meth : Method} {c : Code} {A : Nat → Prop} (C : Cx p l s m args meth c g A yX7_fromFalsum.cls cX7_fromFalsum 3) (hr : meth.sig.returnType = some .int) (hx : ∀ x ∈ c.exceptionTable.toList, False) {rr : (Int32 ⊕ String) × MS} (σ : MS) (l1 : Int32) (l2 : Int32) (H : B_X7_fromFalsum_17 σ l1 l2 = some rr) : J p l e (rmOf 3 0 0) s m args below meth c g A 3 0 0 (QR mI g A (mkh g bd pre rst) rr below args s 0 0) 17 [(0, .ref (bd 0)), (1, .int l1), (2, .int l2)] [.ref (bd 0)] ((mkh g bd pre rst) σ) := by
  unfold B_X7_fromFalsum_17 at H
  refine J.iconst C (1) dX7_fromFalsum_17 (by decide) ?_
  refine J.goto (tgt := 67) C dX7_fromFalsum_18 (by decide) ?_
  refine J.widen (k := 0) (n := 0) (Nat.le_of_ble_eq_true rfl) (Nat.le_of_ble_eq_true rfl) ?_
  refine J.lw (lv' := [(0, .ref (bd 0)), (1, .int l1), (2, .int l2)]) ⟨rfl, rfl, rfl, trivial⟩ ?_
  exact bl_X7_fromFalsum_67 hl C hr hx  _ _ _ _  H
abbrev mX7_fromFalsum : MD := (yX7_fromFalsum, cX7_fromFalsum, 3, some .int)
theorem mdX7_fromFalsum : MDv mX7_fromFalsum RX7 2 := ⟨kIm_X7_fromFalsum, kSe_X7_fromFalsum, kIn_X7, kCo_X7_fromFalsum, by decide +kernel⟩
def P_X7_fromFalsum (σ : MS) (a1 : Int32) (a2 : Int32) : Res MS Int32 := (if (F_X7_isLine σ a1) = 0 then (B_X7_fromFalsum_17 σ a1 a2) else (if (F_X7_isFormula σ a2) = 0 then (B_X7_fromFalsum_17 σ a1 a2) else (bd (P_X7_mayCite σ a1) fun r23 s23 => (if r23 = 0 then (B_X7_fromFalsum_67 s23 a1 a2 (2 : Int32)) else (gd a1 60 (gd (s23.2.1 6 a1.toNatClampNeg) 150 (if (s23.2.1 0 (s23.2.1 6 a1.toNatClampNeg).toNatClampNeg) = (70 : Int32) then (if (s23.1 1) = (60 : Int32) then (B_X7_fromFalsum_67 s23 a1 a2 (4 : Int32)) else (B_X7_fromFalsum_67 s23 a1 a2 (0 : Int32))) else (B_X7_fromFalsum_67 s23 a1 a2 (3 : Int32)))))))))
set_option maxRecDepth 100000 in
theorem sp_X7_fromFalsum {l : Launch} (hl : l.stackTraces = false) {g : Gy} {bd : Nat → Nat} {pre rst : va_W} {σ : MS} (a1 : Int32) (a2 : Int32) : SpR l mX7_fromFalsum 3 0 0 mI g [.ref (bd 0), .int a1, .int a2] (mkh g bd pre rst) σ (P_X7_fromFalsum σ a1 a2) := by
  refine SpR.of hl (by decide) (Nat.le_of_ble_eq_true rfl) (fun rr H p e s m args below meth c A C hr hx => ?_)
  unfold P_X7_fromFalsum at H
  refine J.lw (lv' := [(0, .ref (bd 0)), (1, .int a1), (2, .int a2)]) ⟨rfl, rfl, rfl, trivial⟩ ?_
  refine J.aload_n (i := 0) C dX7_fromFalsum_0 rfl rfl ?_
  refine J.aload_n (i := 0) C dX7_fromFalsum_1 rfl rfl ?_
  refine J.iload_n (i := 1) C dX7_fromFalsum_2 rfl rfl ?_
  refine J.callVI C (sp_X7_isLine hl _) rfl kMl_X7_149 mdX7_isLine ⟨(Nat.le_of_ble_eq_true rfl), (Nat.le_of_ble_eq_true rfl)⟩ mk_0 rfl rfl (Nat.le_of_ble_eq_true rfl) dX7_fromFalsum_3 ⟨(Nat.le_of_ble_eq_true rfl), (Nat.le_of_ble_eq_true rfl)⟩ ?_
  refine J.if_eqL (tgt := 17) C dX7_fromFalsum_6 (by decide) H (fun c_6 H => ?_) (fun c_6 H => ?_)
  · refine J.widen (k := 0) (n := 0) (Nat.le_of_ble_eq_true rfl) (Nat.le_of_ble_eq_true rfl) ?_
    refine J.lw (lv' := [(0, .ref (bd 0)), (1, .int a1), (2, .int a2)]) ⟨rfl, rfl, rfl, trivial⟩ ?_
    exact bl_X7_fromFalsum_17 hl C hr hx  _ _ _  H
  · refine J.aload_n (i := 0) C dX7_fromFalsum_9 rfl rfl ?_
    refine J.iload_n (i := 2) C dX7_fromFalsum_10 rfl rfl ?_
    refine J.callVI C (sp_X7_isFormula hl _) rfl kMl_X7_135 mdX7_isFormula ⟨(Nat.le_of_ble_eq_true rfl), (Nat.le_of_ble_eq_true rfl)⟩ mk_0 rfl rfl (Nat.le_of_ble_eq_true rfl) dX7_fromFalsum_11 ⟨(Nat.le_of_ble_eq_true rfl), (Nat.le_of_ble_eq_true rfl)⟩ ?_
    refine J.if_neL (tgt := 21) C dX7_fromFalsum_14 (by decide) H (fun c_14 H => ?_) (fun c_14 H => ?_)
    · refine J.aload_n (i := 0) C dX7_fromFalsum_21 rfl rfl ?_
      refine J.iload_n (i := 1) C dX7_fromFalsum_22 rfl rfl ?_
      refine J.callVBI (hp := (mkh g bd pre rst)) C rfl (sp_X7_mayCite hl _) rfl kMl_X7_152 mdX7_mayCite ⟨(Nat.le_of_ble_eq_true rfl), (Nat.le_of_ble_eq_true rfl)⟩ mk_0 rfl rfl (Nat.le_of_ble_eq_true rfl) dX7_fromFalsum_23 ⟨(Nat.le_of_ble_eq_true rfl), (Nat.le_of_ble_eq_true rfl)⟩ hx (Nat.le_of_ble_eq_true rfl) (Nat.le_of_ble_eq_true rfl) H (fun r23 s23 H => ?_)
      refine J.if_neL (tgt := 33) C dX7_fromFalsum_26 (by decide) H (fun c_26 H => ?_) (fun c_26 H => ?_)
      · refine J.aload_n (i := 0) C dX7_fromFalsum_33 rfl rfl ?_
        refine J.get C (pre.length + 0) 0 mk_0 rfl (by decide) kFl_X7_9 inB_X7 rfl dX7_fromFalsum_34 ?_
        refine J.aload_n (i := 0) C dX7_fromFalsum_37 rfl rfl ?_
        refine J.get C (pre.length + 0) 7 mk_0 rfl (by decide) kFl_X7_29 inB_X7 rfl dX7_fromFalsum_38 ?_
        refine J.iload_n (i := 1) C dX7_fromFalsum_41 rfl rfl ?_
        refine J.ialdL C (pre.length + 7) mk_7 dX7_fromFalsum_42 H (fun H => ?_)
        refine J.caldL C (pre.length + 1) mk_1 dX7_fromFalsum_43 H (fun H => ?_)
        refine J.bipush C (70) dX7_fromFalsum_44 (by decide) ?_
        refine J.icmp_eqL (tgt := 53) C dX7_fromFalsum_46 (by decide) H (fun c_46 H => ?_) (fun c_46 H => ?_)
        · refine J.aload_n (i := 0) C dX7_fromFalsum_53 rfl rfl ?_
          refine J.get C (pre.length + 0) 11 mk_0 rfl (by decide) kFl_X7_94 inB_X7 rfl dX7_fromFalsum_54 ?_
          refine J.bipush C (60) dX7_fromFalsum_57 (by decide) ?_
          refine J.icmp_neL (tgt := 66) C dX7_fromFalsum_59 (by decide) H (fun c_59 H => ?_) (fun c_59 H => ?_)
          · refine J.iconst C (0) dX7_fromFalsum_66 (by decide) ?_
            refine J.widen (k := 0) (n := 0) (Nat.le_of_ble_eq_true rfl) (Nat.le_of_ble_eq_true rfl) ?_
            refine J.lw (lv' := [(0, .ref (bd 0)), (1, .int a1), (2, .int a2)]) ⟨rfl, rfl, rfl, trivial⟩ ?_
            exact bl_X7_fromFalsum_67 hl C hr hx  _ _ _ _  H
          · refine J.iconst C (4) dX7_fromFalsum_62 (by decide) ?_
            refine J.goto (tgt := 67) C dX7_fromFalsum_63 (by decide) ?_
            refine J.widen (k := 0) (n := 0) (Nat.le_of_ble_eq_true rfl) (Nat.le_of_ble_eq_true rfl) ?_
            refine J.lw (lv' := [(0, .ref (bd 0)), (1, .int a1), (2, .int a2)]) ⟨rfl, rfl, rfl, trivial⟩ ?_
            exact bl_X7_fromFalsum_67 hl C hr hx  _ _ _ _  H
        · refine J.iconst C (3) dX7_fromFalsum_49 (by decide) ?_
          refine J.goto (tgt := 67) C dX7_fromFalsum_50 (by decide) ?_
          refine J.widen (k := 0) (n := 0) (Nat.le_of_ble_eq_true rfl) (Nat.le_of_ble_eq_true rfl) ?_
          refine J.lw (lv' := [(0, .ref (bd 0)), (1, .int a1), (2, .int a2)]) ⟨rfl, rfl, rfl, trivial⟩ ?_
          exact bl_X7_fromFalsum_67 hl C hr hx  _ _ _ _  H
      · refine J.iconst C (2) dX7_fromFalsum_29 (by decide) ?_
        refine J.goto (tgt := 67) C dX7_fromFalsum_30 (by decide) ?_
        refine J.widen (k := 0) (n := 0) (Nat.le_of_ble_eq_true rfl) (Nat.le_of_ble_eq_true rfl) ?_
        refine J.lw (lv' := [(0, .ref (bd 0)), (1, .int a1), (2, .int a2)]) ⟨rfl, rfl, rfl, trivial⟩ ?_
        exact bl_X7_fromFalsum_67 hl C hr hx  _ _ _ _  H
    · refine J.widen (k := 0) (n := 0) (Nat.le_of_ble_eq_true rfl) (Nat.le_of_ble_eq_true rfl) ?_
      refine J.lw (lv' := [(0, .ref (bd 0)), (1, .int a1), (2, .int a2)]) ⟨rfl, rfl, rfl, trivial⟩ ?_
      exact bl_X7_fromFalsum_17 hl C hr hx  _ _ _  H

/-! X7_doubleNegation -/
def B_X7_doubleNegation_63 (σ : MS) (l3 : Int32) : Res MS Int32 := (if l3 = 0 then (bd (P_X7_raises σ (3 : Int32)) fun r73 s73 => (some (.inl r73, s73))) else (bd (P_X7_raises σ (4 : Int32)) fun r73 s73 => (some (.inl r73, s73))))
set_option maxRecDepth 100000 in
theorem bl_X7_doubleNegation_63 {l : Launch} (hl : l.stackTraces = false) {g : Gy} {bd : Nat → Nat} {pre rst : va_W} {p : Program} {e : Env} {s : State} {m : MethodId} {args : Array Value} {below : List Frame} {meth : Method} {c : Code} {A : Nat → Prop} (C : Cx p l s m args meth c g A yX7_doubleNegation.cls cX7_doubleNegation 4) (hr : meth.sig.returnType = some .int) (hx : ∀ x ∈ c.exceptionTable.toList, False) {rr : (Int32 ⊕ String) × MS} (σ : MS) (l3 : Int32) (H : B_X7_doubleNegation_63 σ l3 = some rr) : J p l e (rmOf 4 0 0) s m args below meth c g A 4 0 0 (QR mI g A (mkh g bd pre rst) rr below args s 0 0) 63 [(0, .ref (bd 0)), (3, .int l3)] [] ((mkh g bd pre rst) σ) := by
  unfold B_X7_doubleNegation_63 at H
  refine J.aload_n (i := 0) C dX7_doubleNegation_63 rfl rfl ?_
  refine J.iload_n (i := 3) C dX7_doubleNegation_64 rfl rfl ?_
  refine J.if_eqL (tgt := 72) C dX7_doubleNegation_65 (by decide) H (fun c_65 H => ?_) (fun c_65 H => ?_)
  · refine J.iconst C (3) dX7_doubleNegation_72 (by decide) ?_
    refine J.callVBI (hp := (mkh g bd pre rst)) C rfl (sp_X7_raises hl _) rfl kMl_X7_132 mdX7_raises ⟨(Nat.le_of_ble_eq_true rfl), (Nat.le_of_ble_eq_true rfl)⟩ mk_0 rfl rfl (Nat.le_of_ble_eq_true rfl) dX7_doubleNegation_73 ⟨(Nat.le_of_ble_eq_true rfl), (Nat.le_of_ble_eq_true rfl)⟩ hx (Nat.le_of_ble_eq_true rfl) (Nat.le_of_ble_eq_true rfl) H (fun r73 s73 H => ?_)
    refine J.goto (tgt := 100) C dX7_doubleNegation_76 (by decide) ?_
    exact J.iretL C hr (Nat.le_of_ble_eq_true rfl) (Nat.le_of_ble_eq_true rfl) dX7_doubleNegation_100 H
  · refine J.iconst C (4) dX7_doubleNegation_68 (by decide) ?_
    refine J.goto (tgt := 73) C dX7_doubleNegation_69 (by decide) ?_
    refine J.callVBI (hp := (mkh g bd pre rst)) C rfl (sp_X7_raises hl _) rfl kMl_X7_132 mdX7_raises ⟨(Nat.le_of_ble_eq_true rfl), (Nat.le_of_ble_eq_true rfl)⟩ mk_0 rfl rfl (Nat.le_of_ble_eq_true rfl) dX7_doubleNegation_73 ⟨(Nat.le_of_ble_eq_true rfl), (Nat.le_of_ble_eq_true rfl)⟩ hx (Nat.le_of_ble_eq_true rfl) (Nat.le_of_ble_eq_true rfl) H (fun r73 s73 H => ?_)
    refine J.goto (tgt := 100) C dX7_doubleNegation_76 (by decide) ?_
    exact J.iretL C hr (Nat.le_of_ble_eq_true rfl) (Nat.le_of_ble_eq_true rfl) dX7_doubleNegation_100 H
def B_X7_doubleNegation_49 (σ : MS) (l1 : Int32) (l2 : Int32) (t0 : Int32) : Res MS Int32 := (lt t0 fun z49 => (if z49 = 0 then (B_X7_doubleNegation_63 σ z49) else (if (σ.1 1) = (60 : Int32) then (B_X7_doubleNegation_63 σ z49) else (gd l2 150 (gd (σ.2.1 1 l2.toNatClampNeg) 150 (bd (P_X7_enters σ (σ.2.1 1 (σ.2.1 1 l2.toNatClampNeg).toNatClampNeg) (100 : Int32) l1 (-1 : Int32) (-1 : Int32) (-1 : Int32)) fun r97 s97 => (some (.inl r97, s97))))))))
set_option maxRecDepth 100000 in
theorem bl_X7_doubleNegation_49 {l : Launch} (hl : l.stackTraces = false) {g : Gy} {bd : Nat → Nat} {pre rst : va_W} {p : Program} {e : Env} {s : State} {m : MethodId} {args : Array Value} {below : List Frame} {meth : Method} {c : Code} {A : Nat → Prop} (C : Cx p l s m args meth c g A yX7_doubleNegation.cls cX7_doubleNegation 4) (hr : meth.sig.returnType = some .int) (hx : ∀ x ∈ c.exceptionTable.toList, False) {rr : (Int32 ⊕ String) × MS} (σ : MS) (l1 : Int32) (l2 : Int32) (t0 : Int32) (H : B_X7_doubleNegation_49 σ l1 l2 t0 = some rr) : J p l e (rmOf 4 0 0) s m args below meth c g A 4 0 0 (QR mI g A (mkh g bd pre rst) rr below args s 0 0) 49 [(0, .ref (bd 0)), (1, .int l1), (2, .int l2)] [.int t0] ((mkh g bd pre rst) σ) := by
  unfold B_X7_doubleNegation_49 at H
  refine J.istore_nL (i := 3) C dX7_doubleNegation_49 rfl (by decide) H (fun z49 H => ?_)
  refine J.iload_n (i := 3) C dX7_doubleNegation_50 rfl rfl ?_
  refine J.if_eqL (tgt := 63) C dX7_doubleNegation_51 (by decide) H (fun c_51 H => ?_) (fun c_51 H => ?_)
  · refine J.widen (k := 0) (n := 0) (Nat.le_of_ble_eq_true rfl) (Nat.le_of_ble_eq_true rfl) ?_
    refine J.lw (lv' := [(0, .ref (bd 0)), (3, .int z49)]) ⟨rfl, rfl, trivial⟩ ?_
    exact bl_X7_doubleNegation_63 hl C hr hx  _ _  H
  · refine J.aload_n (i := 0) C dX7_doubleNegation_54 rfl rfl ?_
    refine J.get C (pre.length + 0) 11 mk_0 rfl (by decide) kFl_X7_94 inB_X7 rfl dX7_doubleNegation_55 ?_
    refine J.bipush C (60) dX7_doubleNegation_58 (by decide) ?_
    refine J.icmp_neL (tgt := 79) C dX7_doubleNegation_60 (by decide) H (fun c_60 H => ?_) (fun c_60 H => ?_)
    · refine J.aload_n (i := 0) C dX7_doubleNegation_79 rfl rfl ?_
      refine J.aload_n (i := 0) C dX7_doubleNegation_80 rfl rfl ?_
      refine J.get C (pre.length + 0) 1 mk_0 rfl (by decide) kFl_X7_13 inB_X7 rfl dX7_doubleNegation_81 ?_
      refine J.aload_n (i := 0) C dX7_doubleNegation_84 rfl rfl ?_
      refine J.get C (pre.length + 0) 1 mk_0 rfl (by decide) kFl_X7_13 inB_X7 rfl dX7_doubleNegation_85 ?_
      refine J.iload_n (i := 2) C dX7_doubleNegation_88 rfl rfl ?_
      refine J.ialdL C (pre.length + 2) mk_2 dX7_doubleNegation_89 H (fun H => ?_)
      refine J.ialdL C (pre.length + 2) mk_2 dX7_doubleNegation_90 H (fun H => ?_)
      refine J.bipush C (100) dX7_doubleNegation_91 (by decide) ?_
      refine J.iload_n (i := 1) C dX7_doubleNegation_93 rfl rfl ?_
      refine J.iconst C (-1) dX7_doubleNegation_94 (by decide) ?_
      refine J.iconst C (-1) dX7_doubleNegation_95 (by decide) ?_
      refine J.iconst C (-1) dX7_doubleNegation_96 (by decide) ?_
      refine J.callVBI (hp := (mkh g bd pre rst)) C rfl (sp_X7_enters hl _ _ _ _ _ _) rfl kMl_X7_145 mdX7_enters ⟨(Nat.le_of_ble_eq_true rfl), (Nat.le_of_ble_eq_true rfl)⟩ mk_0 rfl rfl (Nat.le_of_ble_eq_true rfl) dX7_doubleNegation_97 ⟨(Nat.le_of_ble_eq_true rfl), (Nat.le_of_ble_eq_true rfl)⟩ hx (Nat.le_of_ble_eq_true rfl) (Nat.le_of_ble_eq_true rfl) H (fun r97 s97 H => ?_)
      exact J.iretL C hr (Nat.le_of_ble_eq_true rfl) (Nat.le_of_ble_eq_true rfl) dX7_doubleNegation_100 H
    · refine J.widen (k := 0) (n := 0) (Nat.le_of_ble_eq_true rfl) (Nat.le_of_ble_eq_true rfl) ?_
      refine J.lw (lv' := [(0, .ref (bd 0)), (3, .int z49)]) ⟨rfl, rfl, trivial⟩ ?_
      exact bl_X7_doubleNegation_63 hl C hr hx  _ _  H
def B_X7_doubleNegation_48 (σ : MS) (l1 : Int32) (l2 : Int32) : Res MS Int32 := (B_X7_doubleNegation_49 σ l1 l2 (0 : Int32))
set_option maxRecDepth 100000 in
theorem bl_X7_doubleNegation_48 {l : Launch} (hl : l.stackTraces = false) {g : Gy} {bd : Nat → Nat} {pre rst : va_W} {p : Program} {e : Env} {s : State} {m : MethodId} {args : Array Value} {below : List Frame} {meth : Method} {c : Code} {A : Nat → Prop} (C : Cx p l s m args meth c g A yX7_doubleNegation.cls cX7_doubleNegation 4) (hr : meth.sig.returnType = some .int) (hx : ∀ x ∈ c.exceptionTable.toList, False) {rr : (Int32 ⊕ String) × MS} (σ : MS) (l1 : Int32) (l2 : Int32) (H : B_X7_doubleNegation_48 σ l1 l2 = some rr) : J p l e (rmOf 4 0 0) s m args below meth c g A 4 0 0 (QR mI g A (mkh g bd pre rst) rr below args s 0 0) 48 [(0, .ref (bd 0)), (1, .int l1), (2, .int l2)] [] ((mkh g bd pre rst) σ) := by
  unfold B_X7_doubleNegation_48 at H
  refine J.iconst C (0) dX7_doubleNegation_48 (by decide) ?_
  refine J.widen (k := 0) (n := 0) (Nat.le_of_ble_eq_true rfl) (Nat.le_of_ble_eq_true rfl) ?_
  refine J.lw (lv' := [(0, .ref (bd 0)), (1, .int l1), (2, .int l2)]) ⟨rfl, rfl, rfl, trivial⟩ ?_
  exact bl_X7_doubleNegation_49 hl C hr hx  _ _ _ _  H
abbrev mX7_doubleNegation : MD := (yX7_doubleNegation, cX7_doubleNegation, 4, some .int)
theorem mdX7_doubleNegation : MDv mX7_doubleNegation RX7 1 := ⟨kIm_X7_doubleNegation, kSe_X7_doubleNegation, kIn_X7, kCo_X7_doubleNegation, by decide +kernel⟩
def P_X7_doubleNegation (σ : MS) (a1 : Int32) : Res MS Int32 := (bd (P_X7_cannotCite σ a1) fun r2 s2 => (if r2 = 0 then (gd a1 60 (lt (s2.2.1 6 a1.toNatClampNeg) fun z16 => (gd z16 150 (if (s2.2.1 0 z16.toNatClampNeg) = (78 : Int32) then (gd z16 150 (gd (s2.2.1 1 z16.toNatClampNeg) 150 (if (s2.2.1 0 (s2.2.1 1 z16.toNatClampNeg).toNatClampNeg) = (78 : Int32) then (B_X7_doubleNegation_49 s2 a1 z16 (1 : Int32)) else (B_X7_doubleNegation_48 s2 a1 z16)))) else (B_X7_doubleNegation_48 s2 a1 z16))))) else (some (.inl (0 : Int32), s2))))
set_option maxRecDepth 100000 in
theorem sp_X7_doubleNegation {l : Launch} (hl : l.stackTraces = false) {g : Gy} {bd : Nat → Nat} {pre rst : va_W} {σ : MS} (a1 : Int32) : SpR l mX7_doubleNegation 4 0 0 mI g [.ref (bd 0), .int a1] (mkh g bd pre rst) σ (P_X7_doubleNegation σ a1) := by
  refine SpR.of hl (by decide) (Nat.le_of_ble_eq_true rfl) (fun rr H p e s m args below meth c A C hr hx => ?_)
  unfold P_X7_doubleNegation at H
  refine J.lw (lv' := [(0, .ref (bd 0)), (1, .int a1)]) ⟨rfl, rfl, trivial⟩ ?_
  refine J.aload_n (i := 0) C dX7_doubleNegation_0 rfl rfl ?_
  refine J.iload_n (i := 1) C dX7_doubleNegation_1 rfl rfl ?_
  refine J.callVBI (hp := (mkh g bd pre rst)) C rfl (sp_X7_cannotCite hl _) rfl kMl_X7_161 mdX7_cannotCite ⟨(Nat.le_of_ble_eq_true rfl), (Nat.le_of_ble_eq_true rfl)⟩ mk_0 rfl rfl (Nat.le_of_ble_eq_true rfl) dX7_doubleNegation_2 ⟨(Nat.le_of_ble_eq_true rfl), (Nat.le_of_ble_eq_true rfl)⟩ hx (Nat.le_of_ble_eq_true rfl) (Nat.le_of_ble_eq_true rfl) H (fun r2 s2 H => ?_)
  refine J.if_eqL (tgt := 10) C dX7_doubleNegation_5 (by decide) H (fun c_5 H => ?_) (fun c_5 H => ?_)
  · refine J.aload_n (i := 0) C dX7_doubleNegation_10 rfl rfl ?_
    refine J.get C (pre.length + 0) 7 mk_0 rfl (by decide) kFl_X7_29 inB_X7 rfl dX7_doubleNegation_11 ?_
    refine J.iload_n (i := 1) C dX7_doubleNegation_14 rfl rfl ?_
    refine J.ialdL C (pre.length + 7) mk_7 dX7_doubleNegation_15 H (fun H => ?_)
    refine J.istore_nL (i := 2) C dX7_doubleNegation_16 rfl (by decide) H (fun z16 H => ?_)
    refine J.aload_n (i := 0) C dX7_doubleNegation_17 rfl rfl ?_
    refine J.get C (pre.length + 0) 0 mk_0 rfl (by decide) kFl_X7_9 inB_X7 rfl dX7_doubleNegation_18 ?_
    refine J.iload_n (i := 2) C dX7_doubleNegation_21 rfl rfl ?_
    refine J.caldL C (pre.length + 1) mk_1 dX7_doubleNegation_22 H (fun H => ?_)
    refine J.bipush C (78) dX7_doubleNegation_23 (by decide) ?_
    refine J.icmp_neL (tgt := 48) C dX7_doubleNegation_25 (by decide) H (fun c_25 H => ?_) (fun c_25 H => ?_)
    · refine J.widen (k := 0) (n := 0) (Nat.le_of_ble_eq_true rfl) (Nat.le_of_ble_eq_true rfl) ?_
      refine J.lw (lv' := [(0, .ref (bd 0)), (1, .int a1), (2, .int z16)]) ⟨rfl, rfl, rfl, trivial⟩ ?_
      exact bl_X7_doubleNegation_48 hl C hr hx  _ _ _  H
    · refine J.aload_n (i := 0) C dX7_doubleNegation_28 rfl rfl ?_
      refine J.get C (pre.length + 0) 0 mk_0 rfl (by decide) kFl_X7_9 inB_X7 rfl dX7_doubleNegation_29 ?_
      refine J.aload_n (i := 0) C dX7_doubleNegation_32 rfl rfl ?_
      refine J.get C (pre.length + 0) 1 mk_0 rfl (by decide) kFl_X7_13 inB_X7 rfl dX7_doubleNegation_33 ?_
      refine J.iload_n (i := 2) C dX7_doubleNegation_36 rfl rfl ?_
      refine J.ialdL C (pre.length + 2) mk_2 dX7_doubleNegation_37 H (fun H => ?_)
      refine J.caldL C (pre.length + 1) mk_1 dX7_doubleNegation_38 H (fun H => ?_)
      refine J.bipush C (78) dX7_doubleNegation_39 (by decide) ?_
      refine J.icmp_neL (tgt := 48) C dX7_doubleNegation_41 (by decide) H (fun c_41 H => ?_) (fun c_41 H => ?_)
      · refine J.widen (k := 0) (n := 0) (Nat.le_of_ble_eq_true rfl) (Nat.le_of_ble_eq_true rfl) ?_
        refine J.lw (lv' := [(0, .ref (bd 0)), (1, .int a1), (2, .int z16)]) ⟨rfl, rfl, rfl, trivial⟩ ?_
        exact bl_X7_doubleNegation_48 hl C hr hx  _ _ _  H
      · refine J.iconst C (1) dX7_doubleNegation_44 (by decide) ?_
        refine J.goto (tgt := 49) C dX7_doubleNegation_45 (by decide) ?_
        refine J.widen (k := 0) (n := 0) (Nat.le_of_ble_eq_true rfl) (Nat.le_of_ble_eq_true rfl) ?_
        refine J.lw (lv' := [(0, .ref (bd 0)), (1, .int a1), (2, .int z16)]) ⟨rfl, rfl, rfl, trivial⟩ ?_
        exact bl_X7_doubleNegation_49 hl C hr hx  _ _ _ _  H
  · refine J.iconst C (0) dX7_doubleNegation_8 (by decide) ?_
    exact J.iretL C hr (Nat.le_of_ble_eq_true rfl) (Nat.le_of_ble_eq_true rfl) dX7_doubleNegation_9 H

/-! X7_newProof -/
abbrev mX7_newProof : MD := (yX7_newProof, cX7_newProof, 2, some .int)
theorem mdX7_newProof : MDv mX7_newProof RX7 0 := ⟨kIm_X7_newProof, kSe_X7_newProof, kIn_X7, kCo_X7_newProof, by decide +kernel⟩
def P_X7_newProof (σ : MS)  : Res MS Int32 := (lt (tI σ 5 (0 : Int32)) fun s2 => (lt (s2.1 1) fun z9 => (lt (tI s2 1 (0 : Int32)) fun s12 => (lt (tI s12 2 (0 : Int32)) fun s17 => (lt (tI s17 3 (-1 : Int32)) fun s22 => (some (.inl z9, s22)))))))
set_option maxRecDepth 100000 in
theorem sp_X7_newProof {l : Launch} (hl : l.stackTraces = false) {g : Gy} {bd : Nat → Nat} {pre rst : va_W} {σ : MS}  : SpR l mX7_newProof 1 0 0 mI g [.ref (bd 0)] (mkh g bd pre rst) σ (P_X7_newProof σ ) := by
  refine SpR.of hl (by decide) (Nat.le_of_ble_eq_true rfl) (fun rr H p e s m args below meth c A C hr hx => ?_)
  unfold P_X7_newProof at H
  refine J.lw (lv' := [(0, .ref (bd 0))]) ⟨rfl, trivial⟩ ?_
  refine J.aload_n (i := 0) C dX7_newProof_0 rfl rfl ?_
  refine J.iconst C (0) dX7_newProof_1 (by decide) ?_
  refine J.putL (hp := (mkh g bd pre rst)) C (pre.length + 0) 22 mk_0 rfl (by decide) kFl_X7_84 inB_X7 tyX7 tyX7_ok nmX7 rfl rfl rfl rfl (Nat.le_of_ble_eq_true rfl) dX7_newProof_2 (mkI_5 _) H (fun s2 H => ?_)
  refine J.aload_n (i := 0) C dX7_newProof_5 rfl rfl ?_
  refine J.get C (pre.length + 0) 11 mk_0 rfl (by decide) kFl_X7_94 inB_X7 rfl dX7_newProof_6 ?_
  refine J.istore_nL (i := 1) C dX7_newProof_9 rfl (by decide) H (fun z9 H => ?_)
  refine J.aload_n (i := 0) C dX7_newProof_10 rfl rfl ?_
  refine J.iconst C (0) dX7_newProof_11 (by decide) ?_
  refine J.putL (hp := (mkh g bd pre rst)) C (pre.length + 0) 11 mk_0 rfl (by decide) kFl_X7_94 inB_X7 tyX7 tyX7_ok nmX7 rfl rfl rfl rfl (Nat.le_of_ble_eq_true rfl) dX7_newProof_12 (mkI_1 _) H (fun s12 H => ?_)
  refine J.aload_n (i := 0) C dX7_newProof_15 rfl rfl ?_
  refine J.iconst C (0) dX7_newProof_16 (by decide) ?_
  refine J.putL (hp := (mkh g bd pre rst)) C (pre.length + 0) 16 mk_0 rfl (by decide) kFl_X7_97 inB_X7 tyX7 tyX7_ok nmX7 rfl rfl rfl rfl (Nat.le_of_ble_eq_true rfl) dX7_newProof_17 (mkI_2 _) H (fun s17 H => ?_)
  refine J.aload_n (i := 0) C dX7_newProof_20 rfl rfl ?_
  refine J.iconst C (-1) dX7_newProof_21 (by decide) ?_
  refine J.putL (hp := (mkh g bd pre rst)) C (pre.length + 0) 17 mk_0 rfl (by decide) kFl_X7_56 inB_X7 tyX7 tyX7_ok nmX7 rfl rfl rfl rfl (Nat.le_of_ble_eq_true rfl) dX7_newProof_22 (mkI_3 _) H (fun s22 H => ?_)
  refine J.iload_n (i := 1) C dX7_newProof_25 rfl rfl ?_
  exact J.iretL C hr (Nat.le_of_ble_eq_true rfl) (Nat.le_of_ble_eq_true rfl) dX7_newProof_26 H

