/-! X6_requireLetter -/
abbrev mX6_requireLetter : MD := (yX6_requireLetter, cX6_requireLetter, 2, none)
theorem mdX6_requireLetter : MDv mX6_requireLetter RX6 1 := ⟨kIm_X6_requireLetter, kSe_X6_requireLetter, kIn_X6, kCo_X6_requireLetter, by decide +kernel⟩
def P_X6_requireLetter (σ : DS) (a1 : Int32) : Res DS Unit := (if a1 < 0 then (some (.inr "java/lang/IllegalArgumentException", σ)) else (if a1 < (5 : Int32) then (some (.inl (), σ)) else (some (.inr "java/lang/IllegalArgumentException", σ))))
set_option maxRecDepth 100000 in
theorem sp_X6_requireLetter {l : Launch} (hl : l.stackTraces = false) {g : Gy} {ad : Nat → Nat} {rst : va_W} {σ : DS} (a1 : Int32) : SpR l mX6_requireLetter 7 1 6 mV g [.ref (ad 0), .int a1] (dkh g ad rst) σ (P_X6_requireLetter σ a1) := by
  refine SpR.of hl (by decide) (Nat.le_of_ble_eq_true rfl) (fun rr H p e s m args below meth c A C hr hx => ?_)
  unfold P_X6_requireLetter at H
  refine J.lw (lv' := [(0, .ref (ad 0)), (1, .int a1)]) ⟨rfl, rfl, trivial⟩ ?_
  refine J.iload_n (i := 1) C dX6_requireLetter_0 rfl rfl ?_
  refine J.if_ltL (tgt := 9) C dX6_requireLetter_1 (by decide) H (fun c_1 H => ?_) (fun c_1 H => ?_)
  · exact J.throwSWL (hp := (dkh g ad rst)) C th_IllegalArgumentException_284 str_282 dX6_requireLetter_9 dX6_requireLetter_12 dX6_requireLetter_13 dX6_requireLetter_16 dX6_requireLetter_19 hx ⟨(Nat.le_of_ble_eq_true rfl), (Nat.le_of_ble_eq_true rfl), (Nat.le_of_ble_eq_true rfl), (Nat.le_of_ble_eq_true rfl)⟩ (Nat.le_of_ble_eq_true rfl) (Nat.le_of_ble_eq_true rfl) H
  · refine J.iload_n (i := 1) C dX6_requireLetter_4 rfl rfl ?_
    refine J.iconst C (5) dX6_requireLetter_5 (by decide) ?_
    refine J.icmp_ltL (tgt := 20) C dX6_requireLetter_6 (by decide) H (fun c_6 H => ?_) (fun c_6 H => ?_)
    · exact J.vretL C hr (Nat.le_of_ble_eq_true rfl) (Nat.le_of_ble_eq_true rfl) dX6_requireLetter_20 H
    · exact J.throwSWL (hp := (dkh g ad rst)) C th_IllegalArgumentException_284 str_282 dX6_requireLetter_9 dX6_requireLetter_12 dX6_requireLetter_13 dX6_requireLetter_16 dX6_requireLetter_19 hx ⟨(Nat.le_of_ble_eq_true rfl), (Nat.le_of_ble_eq_true rfl), (Nat.le_of_ble_eq_true rfl), (Nat.le_of_ble_eq_true rfl)⟩ (Nat.le_of_ble_eq_true rfl) (Nat.le_of_ble_eq_true rfl) H

/-! X6_made -/
abbrev mX6_made : MD := (yX6_made, cX6_made, 1, some .int)
theorem mdX6_made : MDs mX6_made 1 := ⟨kSt_X6_made, kIn_X6, kCo_X6_made, by decide +kernel⟩
def P_X6_made (σ : DS) (a0 : Int32) : Res DS Int32 := (if a0 = (-1 : Int32) then (some (.inr "java/lang/IllegalStateException", σ)) else (some (.inl a0, σ)))
set_option maxRecDepth 100000 in
theorem sp_X6_made {l : Launch} (hl : l.stackTraces = false) {g : Gy} {ad : Nat → Nat} {rst : va_W} {σ : DS} (a0 : Int32) : SpR l mX6_made 7 1 6 mI g [.int a0] (dkh g ad rst) σ (P_X6_made σ a0) := by
  refine SpR.of hl (by decide) (Nat.le_of_ble_eq_true rfl) (fun rr H p e s m args below meth c A C hr hx => ?_)
  unfold P_X6_made at H
  refine J.lw (lv' := [(0, .int a0)]) ⟨rfl, trivial⟩ ?_
  refine J.iload_n (i := 0) C dX6_made_0 rfl rfl ?_
  refine J.iconst C (-1) dX6_made_1 (by decide) ?_
  refine J.icmp_neL (tgt := 16) C dX6_made_2 (by decide) H (fun c_2 H => ?_) (fun c_2 H => ?_)
  · refine J.iload_n (i := 0) C dX6_made_16 rfl rfl ?_
    exact J.iretL C hr (Nat.le_of_ble_eq_true rfl) (Nat.le_of_ble_eq_true rfl) dX6_made_17 H
  · exact J.throwSWL (hp := (dkh g ad rst)) C th_IllegalStateException_117 str_317 dX6_made_5 dX6_made_8 dX6_made_9 dX6_made_12 dX6_made_15 hx ⟨(Nat.le_of_ble_eq_true rfl), (Nat.le_of_ble_eq_true rfl), (Nat.le_of_ble_eq_true rfl), (Nat.le_of_ble_eq_true rfl)⟩ (Nat.le_of_ble_eq_true rfl) (Nat.le_of_ble_eq_true rfl) H

/-! X6_letter -/
abbrev mX6_letter : MD := (yX6_letter, cX6_letter, 2, some .int)
theorem mdX6_letter : MDv mX6_letter RX6 1 := ⟨kIm_X6_letter, kSe_X6_letter, kIn_X6, kCo_X6_letter, by decide +kernel⟩
def P_X6_letter (σ : DS) (a1 : Int32) : Res DS Int32 := (bd (P_X6_requireLetter σ a1) fun _ s2 => (bd (P_X0_enter s2 ((((97 : Int32) + a1)).toUInt32 % 65536).toInt32 (-1 : Int32) (-1 : Int32)) fun r16 s16 => (bd (P_X6_made s16 r16) fun r19 s19 => (some (.inl r19, s19)))))
set_option maxRecDepth 100000 in
theorem sp_X6_letter {l : Launch} (hl : l.stackTraces = false) {g : Gy} {ad : Nat → Nat} {rst : va_W} {σ : DS} (a1 : Int32) : SpR l mX6_letter 8 2 12 mI g [.ref (ad 0), .int a1] (dkh g ad rst) σ (P_X6_letter σ a1) := by
  refine SpR.of hl (by decide) (Nat.le_of_ble_eq_true rfl) (fun rr H p e s m args below meth c A C hr hx => ?_)
  unfold P_X6_letter at H
  refine J.lw (lv' := [(0, .ref (ad 0)), (1, .int a1)]) ⟨rfl, rfl, trivial⟩ ?_
  refine J.aload_n (i := 0) C dX6_letter_0 rfl rfl ?_
  refine J.iload_n (i := 1) C dX6_letter_1 rfl rfl ?_
  refine J.callVBV (hp := (dkh g ad rst)) C rfl (sp_X6_requireLetter hl _) rfl kMl_X6_48 mdX6_requireLetter ⟨(Nat.le_of_ble_eq_true rfl), (Nat.le_of_ble_eq_true rfl)⟩ dk_0 rfl rfl (Nat.le_of_ble_eq_true rfl) dX6_letter_2 ⟨(Nat.le_of_ble_eq_true rfl), (Nat.le_of_ble_eq_true rfl)⟩ hx (Nat.le_of_ble_eq_true rfl) (Nat.le_of_ble_eq_true rfl) H (fun _ s2 H => ?_)
  refine J.aload_n (i := 0) C dX6_letter_5 rfl rfl ?_
  refine J.get C 0 0 dk_0 rfl (by decide) kFl_X6_15 inB_X6 rfl dX6_letter_6 ?_
  refine J.bipush C (97) dX6_letter_9 (by decide) ?_
  refine J.iload_n (i := 1) C dX6_letter_11 rfl rfl ?_
  refine J.iadd C dX6_letter_12 ?_
  refine J.i2c C _ dX6_letter_13 rfl ?_
  refine J.iconst C (-1) dX6_letter_14 (by decide) ?_
  refine J.iconst C (-1) dX6_letter_15 (by decide) ?_
  refine J.callVBI (hp := (dkh g ad rst)) C rfl (sp_X0_enter hl _ _ _) rfl kMl_X6_52 mdX0_enter ⟨(Nat.le_of_ble_eq_true rfl), (Nat.le_of_ble_eq_true rfl)⟩ dk_1 rfl rfl (Nat.le_of_ble_eq_true rfl) dX6_letter_16 ⟨(Nat.le_of_ble_eq_true rfl), (Nat.le_of_ble_eq_true rfl)⟩ hx (Nat.le_of_ble_eq_true rfl) (Nat.le_of_ble_eq_true rfl) H (fun r16 s16 H => ?_)
  refine J.callSBI (hp := (dkh g ad rst)) C rfl (sp_X6_made hl _) rfl kMl_X6_56 mdX6_made ⟨(Nat.le_of_ble_eq_true rfl), (Nat.le_of_ble_eq_true rfl)⟩ rfl (Nat.le_of_ble_eq_true rfl) dX6_letter_19 ⟨(Nat.le_of_ble_eq_true rfl), (Nat.le_of_ble_eq_true rfl)⟩ hx (Nat.le_of_ble_eq_true rfl) (Nat.le_of_ble_eq_true rfl) H (fun r19 s19 H => ?_)
  exact J.iretL C hr (Nat.le_of_ble_eq_true rfl) (Nat.le_of_ble_eq_true rfl) dX6_letter_22 H

/-! X6_falsum -/
abbrev mX6_falsum : MD := (yX6_falsum, cX6_falsum, 1, some .int)
theorem mdX6_falsum : MDv mX6_falsum RX6 0 := ⟨kIm_X6_falsum, kSe_X6_falsum, kIn_X6, kCo_X6_falsum, by decide +kernel⟩
def P_X6_falsum (σ : DS)  : Res DS Int32 := (bd (P_X0_enter σ (70 : Int32) (-1 : Int32) (-1 : Int32)) fun r8 s8 => (bd (P_X6_made s8 r8) fun r11 s11 => (some (.inl r11, s11))))
set_option maxRecDepth 100000 in
theorem sp_X6_falsum {l : Launch} (hl : l.stackTraces = false) {g : Gy} {ad : Nat → Nat} {rst : va_W} {σ : DS}  : SpR l mX6_falsum 8 1 6 mI g [.ref (ad 0)] (dkh g ad rst) σ (P_X6_falsum σ ) := by
  refine SpR.of hl (by decide) (Nat.le_of_ble_eq_true rfl) (fun rr H p e s m args below meth c A C hr hx => ?_)
  unfold P_X6_falsum at H
  refine J.lw (lv' := [(0, .ref (ad 0))]) ⟨rfl, trivial⟩ ?_
  refine J.aload_n (i := 0) C dX6_falsum_0 rfl rfl ?_
  refine J.get C 0 0 dk_0 rfl (by decide) kFl_X6_15 inB_X6 rfl dX6_falsum_1 ?_
  refine J.bipush C (70) dX6_falsum_4 (by decide) ?_
  refine J.iconst C (-1) dX6_falsum_6 (by decide) ?_
  refine J.iconst C (-1) dX6_falsum_7 (by decide) ?_
  refine J.callVBI (hp := (dkh g ad rst)) C rfl (sp_X0_enter hl _ _ _) rfl kMl_X6_52 mdX0_enter ⟨(Nat.le_of_ble_eq_true rfl), (Nat.le_of_ble_eq_true rfl)⟩ dk_1 rfl rfl (Nat.le_of_ble_eq_true rfl) dX6_falsum_8 ⟨(Nat.le_of_ble_eq_true rfl), (Nat.le_of_ble_eq_true rfl)⟩ hx (Nat.le_of_ble_eq_true rfl) (Nat.le_of_ble_eq_true rfl) H (fun r8 s8 H => ?_)
  refine J.callSBI (hp := (dkh g ad rst)) C rfl (sp_X6_made hl _) rfl kMl_X6_56 mdX6_made ⟨(Nat.le_of_ble_eq_true rfl), (Nat.le_of_ble_eq_true rfl)⟩ rfl (Nat.le_of_ble_eq_true rfl) dX6_falsum_11 ⟨(Nat.le_of_ble_eq_true rfl), (Nat.le_of_ble_eq_true rfl)⟩ hx (Nat.le_of_ble_eq_true rfl) (Nat.le_of_ble_eq_true rfl) H (fun r11 s11 H => ?_)
  exact J.iretL C hr (Nat.le_of_ble_eq_true rfl) (Nat.le_of_ble_eq_true rfl) dX6_falsum_14 H

/-! X6_requireFormula -/
abbrev mX6_requireFormula : MD := (yX6_requireFormula, cX6_requireFormula, 2, none)
theorem mdX6_requireFormula : MDv mX6_requireFormula RX6 1 := ⟨kIm_X6_requireFormula, kSe_X6_requireFormula, kIn_X6, kCo_X6_requireFormula, by decide +kernel⟩
def P_X6_requireFormula (σ : DS) (a1 : Int32) : Res DS Unit := (if (F_X0_has σ a1) = 0 then (some (.inr "java/lang/IndexOutOfBoundsException", σ)) else (some (.inl (), σ)))
set_option maxRecDepth 100000 in
theorem sp_X6_requireFormula {l : Launch} (hl : l.stackTraces = false) {g : Gy} {ad : Nat → Nat} {rst : va_W} {σ : DS} (a1 : Int32) : SpR l mX6_requireFormula 7 1 6 mV g [.ref (ad 0), .int a1] (dkh g ad rst) σ (P_X6_requireFormula σ a1) := by
  refine SpR.of hl (by decide) (Nat.le_of_ble_eq_true rfl) (fun rr H p e s m args below meth c A C hr hx => ?_)
  unfold P_X6_requireFormula at H
  refine J.lw (lv' := [(0, .ref (ad 0)), (1, .int a1)]) ⟨rfl, rfl, trivial⟩ ?_
  refine J.aload_n (i := 0) C dX6_requireFormula_0 rfl rfl ?_
  refine J.get C 0 0 dk_0 rfl (by decide) kFl_X6_15 inB_X6 rfl dX6_requireFormula_1 ?_
  refine J.iload_n (i := 1) C dX6_requireFormula_4 rfl rfl ?_
  refine J.callVI C (sp_X0_has hl _) rfl kMl_X6_285 mdX0_has ⟨(Nat.le_of_ble_eq_true rfl), (Nat.le_of_ble_eq_true rfl)⟩ dk_1 rfl rfl (Nat.le_of_ble_eq_true rfl) dX6_requireFormula_5 ⟨(Nat.le_of_ble_eq_true rfl), (Nat.le_of_ble_eq_true rfl)⟩ ?_
  refine J.if_neL (tgt := 22) C dX6_requireFormula_8 (by decide) H (fun c_8 H => ?_) (fun c_8 H => ?_)
  · exact J.vretL C hr (Nat.le_of_ble_eq_true rfl) (Nat.le_of_ble_eq_true rfl) dX6_requireFormula_22 H
  · exact J.throwSWL (hp := (dkh g ad rst)) C th_IndexOutOfBoundsException_292 str_290 dX6_requireFormula_11 dX6_requireFormula_14 dX6_requireFormula_15 dX6_requireFormula_18 dX6_requireFormula_21 hx ⟨(Nat.le_of_ble_eq_true rfl), (Nat.le_of_ble_eq_true rfl), (Nat.le_of_ble_eq_true rfl), (Nat.le_of_ble_eq_true rfl)⟩ (Nat.le_of_ble_eq_true rfl) (Nat.le_of_ble_eq_true rfl) H

/-! X6_negation -/
abbrev mX6_negation : MD := (yX6_negation, cX6_negation, 2, some .int)
theorem mdX6_negation : MDv mX6_negation RX6 1 := ⟨kIm_X6_negation, kSe_X6_negation, kIn_X6, kCo_X6_negation, by decide +kernel⟩
def P_X6_negation (σ : DS) (a1 : Int32) : Res DS Int32 := (bd (P_X6_requireFormula σ a1) fun _ s2 => (bd (P_X0_enter s2 (78 : Int32) a1 (-1 : Int32)) fun r13 s13 => (bd (P_X6_made s13 r13) fun r16 s16 => (some (.inl r16, s16)))))
set_option maxRecDepth 100000 in
theorem sp_X6_negation {l : Launch} (hl : l.stackTraces = false) {g : Gy} {ad : Nat → Nat} {rst : va_W} {σ : DS} (a1 : Int32) : SpR l mX6_negation 8 2 12 mI g [.ref (ad 0), .int a1] (dkh g ad rst) σ (P_X6_negation σ a1) := by
  refine SpR.of hl (by decide) (Nat.le_of_ble_eq_true rfl) (fun rr H p e s m args below meth c A C hr hx => ?_)
  unfold P_X6_negation at H
  refine J.lw (lv' := [(0, .ref (ad 0)), (1, .int a1)]) ⟨rfl, rfl, trivial⟩ ?_
  refine J.aload_n (i := 0) C dX6_negation_0 rfl rfl ?_
  refine J.iload_n (i := 1) C dX6_negation_1 rfl rfl ?_
  refine J.callVBV (hp := (dkh g ad rst)) C rfl (sp_X6_requireFormula hl _) rfl kMl_X6_60 mdX6_requireFormula ⟨(Nat.le_of_ble_eq_true rfl), (Nat.le_of_ble_eq_true rfl)⟩ dk_0 rfl rfl (Nat.le_of_ble_eq_true rfl) dX6_negation_2 ⟨(Nat.le_of_ble_eq_true rfl), (Nat.le_of_ble_eq_true rfl)⟩ hx (Nat.le_of_ble_eq_true rfl) (Nat.le_of_ble_eq_true rfl) H (fun _ s2 H => ?_)
  refine J.aload_n (i := 0) C dX6_negation_5 rfl rfl ?_
  refine J.get C 0 0 dk_0 rfl (by decide) kFl_X6_15 inB_X6 rfl dX6_negation_6 ?_
  refine J.bipush C (78) dX6_negation_9 (by decide) ?_
  refine J.iload_n (i := 1) C dX6_negation_11 rfl rfl ?_
  refine J.iconst C (-1) dX6_negation_12 (by decide) ?_
  refine J.callVBI (hp := (dkh g ad rst)) C rfl (sp_X0_enter hl _ _ _) rfl kMl_X6_52 mdX0_enter ⟨(Nat.le_of_ble_eq_true rfl), (Nat.le_of_ble_eq_true rfl)⟩ dk_1 rfl rfl (Nat.le_of_ble_eq_true rfl) dX6_negation_13 ⟨(Nat.le_of_ble_eq_true rfl), (Nat.le_of_ble_eq_true rfl)⟩ hx (Nat.le_of_ble_eq_true rfl) (Nat.le_of_ble_eq_true rfl) H (fun r13 s13 H => ?_)
  refine J.callSBI (hp := (dkh g ad rst)) C rfl (sp_X6_made hl _) rfl kMl_X6_56 mdX6_made ⟨(Nat.le_of_ble_eq_true rfl), (Nat.le_of_ble_eq_true rfl)⟩ rfl (Nat.le_of_ble_eq_true rfl) dX6_negation_16 ⟨(Nat.le_of_ble_eq_true rfl), (Nat.le_of_ble_eq_true rfl)⟩ hx (Nat.le_of_ble_eq_true rfl) (Nat.le_of_ble_eq_true rfl) H (fun r16 s16 H => ?_)
  exact J.iretL C hr (Nat.le_of_ble_eq_true rfl) (Nat.le_of_ble_eq_true rfl) dX6_negation_19 H

/-! X6_connected -/
abbrev mX6_connected : MD := (yX6_connected, cX6_connected, 4, some .int)
theorem mdX6_connected : MDv mX6_connected RX6 3 := ⟨kIm_X6_connected, kSe_X6_connected, kIn_X6, kCo_X6_connected, by decide +kernel⟩
def P_X6_connected (σ : DS) (a1 : Int32) (a2 : Int32) (a3 : Int32) : Res DS Int32 := (bd (P_X6_requireFormula σ a2) fun _ s2 => (bd (P_X6_requireFormula s2 a3) fun _ s7 => (bd (P_X0_enter s7 a1 a2 a3) fun r17 s17 => (bd (P_X6_made s17 r17) fun r20 s20 => (some (.inl r20, s20))))))
set_option maxRecDepth 100000 in
theorem sp_X6_connected {l : Launch} (hl : l.stackTraces = false) {g : Gy} {ad : Nat → Nat} {rst : va_W} {σ : DS} (a1 : Int32) (a2 : Int32) (a3 : Int32) : SpR l mX6_connected 8 3 18 mI g [.ref (ad 0), .int a1, .int a2, .int a3] (dkh g ad rst) σ (P_X6_connected σ a1 a2 a3) := by
  refine SpR.of hl (by decide) (Nat.le_of_ble_eq_true rfl) (fun rr H p e s m args below meth c A C hr hx => ?_)
  unfold P_X6_connected at H
  refine J.lw (lv' := [(0, .ref (ad 0)), (1, .int a1), (2, .int a2), (3, .int a3)]) ⟨rfl, rfl, rfl, rfl, trivial⟩ ?_
  refine J.aload_n (i := 0) C dX6_connected_0 rfl rfl ?_
  refine J.iload_n (i := 2) C dX6_connected_1 rfl rfl ?_
  refine J.callVBV (hp := (dkh g ad rst)) C rfl (sp_X6_requireFormula hl _) rfl kMl_X6_60 mdX6_requireFormula ⟨(Nat.le_of_ble_eq_true rfl), (Nat.le_of_ble_eq_true rfl)⟩ dk_0 rfl rfl (Nat.le_of_ble_eq_true rfl) dX6_connected_2 ⟨(Nat.le_of_ble_eq_true rfl), (Nat.le_of_ble_eq_true rfl)⟩ hx (Nat.le_of_ble_eq_true rfl) (Nat.le_of_ble_eq_true rfl) H (fun _ s2 H => ?_)
  refine J.aload_n (i := 0) C dX6_connected_5 rfl rfl ?_
  refine J.iload_n (i := 3) C dX6_connected_6 rfl rfl ?_
  refine J.callVBV (hp := (dkh g ad rst)) C rfl (sp_X6_requireFormula hl _) rfl kMl_X6_60 mdX6_requireFormula ⟨(Nat.le_of_ble_eq_true rfl), (Nat.le_of_ble_eq_true rfl)⟩ dk_0 rfl rfl (Nat.le_of_ble_eq_true rfl) dX6_connected_7 ⟨(Nat.le_of_ble_eq_true rfl), (Nat.le_of_ble_eq_true rfl)⟩ hx (Nat.le_of_ble_eq_true rfl) (Nat.le_of_ble_eq_true rfl) H (fun _ s7 H => ?_)
  refine J.aload_n (i := 0) C dX6_connected_10 rfl rfl ?_
  refine J.get C 0 0 dk_0 rfl (by decide) kFl_X6_15 inB_X6 rfl dX6_connected_11 ?_
  refine J.iload_n (i := 1) C dX6_connected_14 rfl rfl ?_
  refine J.iload_n (i := 2) C dX6_connected_15 rfl rfl ?_
  refine J.iload_n (i := 3) C dX6_connected_16 rfl rfl ?_
  refine J.callVBI (hp := (dkh g ad rst)) C rfl (sp_X0_enter hl _ _ _) rfl kMl_X6_52 mdX0_enter ⟨(Nat.le_of_ble_eq_true rfl), (Nat.le_of_ble_eq_true rfl)⟩ dk_1 rfl rfl (Nat.le_of_ble_eq_true rfl) dX6_connected_17 ⟨(Nat.le_of_ble_eq_true rfl), (Nat.le_of_ble_eq_true rfl)⟩ hx (Nat.le_of_ble_eq_true rfl) (Nat.le_of_ble_eq_true rfl) H (fun r17 s17 H => ?_)
  refine J.callSBI (hp := (dkh g ad rst)) C rfl (sp_X6_made hl _) rfl kMl_X6_56 mdX6_made ⟨(Nat.le_of_ble_eq_true rfl), (Nat.le_of_ble_eq_true rfl)⟩ rfl (Nat.le_of_ble_eq_true rfl) dX6_connected_20 ⟨(Nat.le_of_ble_eq_true rfl), (Nat.le_of_ble_eq_true rfl)⟩ hx (Nat.le_of_ble_eq_true rfl) (Nat.le_of_ble_eq_true rfl) H (fun r20 s20 H => ?_)
  exact J.iretL C hr (Nat.le_of_ble_eq_true rfl) (Nat.le_of_ble_eq_true rfl) dX6_connected_23 H

/-! X6_conjunction -/
abbrev mX6_conjunction : MD := (yX6_conjunction, cX6_conjunction, 3, some .int)
theorem mdX6_conjunction : MDv mX6_conjunction RX6 2 := ⟨kIm_X6_conjunction, kSe_X6_conjunction, kIn_X6, kCo_X6_conjunction, by decide +kernel⟩
def P_X6_conjunction (σ : DS) (a1 : Int32) (a2 : Int32) : Res DS Int32 := (bd (P_X6_connected σ (75 : Int32) a1 a2) fun r5 s5 => (some (.inl r5, s5)))
set_option maxRecDepth 100000 in
theorem sp_X6_conjunction {l : Launch} (hl : l.stackTraces = false) {g : Gy} {ad : Nat → Nat} {rst : va_W} {σ : DS} (a1 : Int32) (a2 : Int32) : SpR l mX6_conjunction 9 3 18 mI g [.ref (ad 0), .int a1, .int a2] (dkh g ad rst) σ (P_X6_conjunction σ a1 a2) := by
  refine SpR.of hl (by decide) (Nat.le_of_ble_eq_true rfl) (fun rr H p e s m args below meth c A C hr hx => ?_)
  unfold P_X6_conjunction at H
  refine J.lw (lv' := [(0, .ref (ad 0)), (1, .int a1), (2, .int a2)]) ⟨rfl, rfl, rfl, trivial⟩ ?_
  refine J.aload_n (i := 0) C dX6_conjunction_0 rfl rfl ?_
  refine J.bipush C (75) dX6_conjunction_1 (by decide) ?_
  refine J.iload_n (i := 1) C dX6_conjunction_3 rfl rfl ?_
  refine J.iload_n (i := 2) C dX6_conjunction_4 rfl rfl ?_
  refine J.callVBI (hp := (dkh g ad rst)) C rfl (sp_X6_connected hl _ _ _) rfl kMl_X6_63 mdX6_connected ⟨(Nat.le_of_ble_eq_true rfl), (Nat.le_of_ble_eq_true rfl)⟩ dk_0 rfl rfl (Nat.le_of_ble_eq_true rfl) dX6_conjunction_5 ⟨(Nat.le_of_ble_eq_true rfl), (Nat.le_of_ble_eq_true rfl)⟩ hx (Nat.le_of_ble_eq_true rfl) (Nat.le_of_ble_eq_true rfl) H (fun r5 s5 H => ?_)
  exact J.iretL C hr (Nat.le_of_ble_eq_true rfl) (Nat.le_of_ble_eq_true rfl) dX6_conjunction_8 H

/-! X6_disjunction -/
abbrev mX6_disjunction : MD := (yX6_disjunction, cX6_disjunction, 3, some .int)
theorem mdX6_disjunction : MDv mX6_disjunction RX6 2 := ⟨kIm_X6_disjunction, kSe_X6_disjunction, kIn_X6, kCo_X6_disjunction, by decide +kernel⟩
def P_X6_disjunction (σ : DS) (a1 : Int32) (a2 : Int32) : Res DS Int32 := (bd (P_X6_connected σ (65 : Int32) a1 a2) fun r5 s5 => (some (.inl r5, s5)))
set_option maxRecDepth 100000 in
theorem sp_X6_disjunction {l : Launch} (hl : l.stackTraces = false) {g : Gy} {ad : Nat → Nat} {rst : va_W} {σ : DS} (a1 : Int32) (a2 : Int32) : SpR l mX6_disjunction 9 3 18 mI g [.ref (ad 0), .int a1, .int a2] (dkh g ad rst) σ (P_X6_disjunction σ a1 a2) := by
  refine SpR.of hl (by decide) (Nat.le_of_ble_eq_true rfl) (fun rr H p e s m args below meth c A C hr hx => ?_)
  unfold P_X6_disjunction at H
  refine J.lw (lv' := [(0, .ref (ad 0)), (1, .int a1), (2, .int a2)]) ⟨rfl, rfl, rfl, trivial⟩ ?_
  refine J.aload_n (i := 0) C dX6_disjunction_0 rfl rfl ?_
  refine J.bipush C (65) dX6_disjunction_1 (by decide) ?_
  refine J.iload_n (i := 1) C dX6_disjunction_3 rfl rfl ?_
  refine J.iload_n (i := 2) C dX6_disjunction_4 rfl rfl ?_
  refine J.callVBI (hp := (dkh g ad rst)) C rfl (sp_X6_connected hl _ _ _) rfl kMl_X6_63 mdX6_connected ⟨(Nat.le_of_ble_eq_true rfl), (Nat.le_of_ble_eq_true rfl)⟩ dk_0 rfl rfl (Nat.le_of_ble_eq_true rfl) dX6_disjunction_5 ⟨(Nat.le_of_ble_eq_true rfl), (Nat.le_of_ble_eq_true rfl)⟩ hx (Nat.le_of_ble_eq_true rfl) (Nat.le_of_ble_eq_true rfl) H (fun r5 s5 H => ?_)
  exact J.iretL C hr (Nat.le_of_ble_eq_true rfl) (Nat.le_of_ble_eq_true rfl) dX6_disjunction_8 H

/-! X6_implication -/
abbrev mX6_implication : MD := (yX6_implication, cX6_implication, 3, some .int)
theorem mdX6_implication : MDv mX6_implication RX6 2 := ⟨kIm_X6_implication, kSe_X6_implication, kIn_X6, kCo_X6_implication, by decide +kernel⟩
def P_X6_implication (σ : DS) (a1 : Int32) (a2 : Int32) : Res DS Int32 := (bd (P_X6_connected σ (67 : Int32) a1 a2) fun r5 s5 => (some (.inl r5, s5)))
set_option maxRecDepth 100000 in
theorem sp_X6_implication {l : Launch} (hl : l.stackTraces = false) {g : Gy} {ad : Nat → Nat} {rst : va_W} {σ : DS} (a1 : Int32) (a2 : Int32) : SpR l mX6_implication 9 3 18 mI g [.ref (ad 0), .int a1, .int a2] (dkh g ad rst) σ (P_X6_implication σ a1 a2) := by
  refine SpR.of hl (by decide) (Nat.le_of_ble_eq_true rfl) (fun rr H p e s m args below meth c A C hr hx => ?_)
  unfold P_X6_implication at H
  refine J.lw (lv' := [(0, .ref (ad 0)), (1, .int a1), (2, .int a2)]) ⟨rfl, rfl, rfl, trivial⟩ ?_
  refine J.aload_n (i := 0) C dX6_implication_0 rfl rfl ?_
  refine J.bipush C (67) dX6_implication_1 (by decide) ?_
  refine J.iload_n (i := 1) C dX6_implication_3 rfl rfl ?_
  refine J.iload_n (i := 2) C dX6_implication_4 rfl rfl ?_
  refine J.callVBI (hp := (dkh g ad rst)) C rfl (sp_X6_connected hl _ _ _) rfl kMl_X6_63 mdX6_connected ⟨(Nat.le_of_ble_eq_true rfl), (Nat.le_of_ble_eq_true rfl)⟩ dk_0 rfl rfl (Nat.le_of_ble_eq_true rfl) dX6_implication_5 ⟨(Nat.le_of_ble_eq_true rfl), (Nat.le_of_ble_eq_true rfl)⟩ hx (Nat.le_of_ble_eq_true rfl) (Nat.le_of_ble_eq_true rfl) H (fun r5 s5 H => ?_)
  exact J.iretL C hr (Nat.le_of_ble_eq_true rfl) (Nat.le_of_ble_eq_true rfl) dX6_implication_8 H

/-! X6_formulas -/
abbrev mX6_formulas : MD := (yX6_formulas, cX6_formulas, 1, some .int)
theorem mdX6_formulas : MDv mX6_formulas RX6 0 := ⟨kIm_X6_formulas, kSe_X6_formulas, kIn_X6, kCo_X6_formulas, by decide +kernel⟩
def F_X6_formulas (σ : DS)  : Int32 := (σ.1 1)
set_option maxRecDepth 100000 in
theorem sp_X6_formulas {l : Launch} (hl : l.stackTraces = false) {g : Gy} {ad : Nat → Nat} {rst : va_W} {σ : DS}  : SpF l mX6_formulas 1 0 0 mI g [.ref (ad 0)] ((dkh g ad rst) σ) (F_X6_formulas σ ) ((dkh g ad rst) σ) := by
  generalize H : F_X6_formulas σ  = r0
  unfold F_X6_formulas at H
  refine Sp.of hl (by decide) (Nat.le_of_ble_eq_true rfl) (fun p e s m args below meth c A C hr hx => ?_)
  refine J.lw (lv' := [(0, .ref (ad 0))]) ⟨rfl, trivial⟩ ?_
  refine J.aload_n (i := 0) C dX6_formulas_0 rfl rfl ?_
  refine J.get C 0 0 dk_0 rfl (by decide) kFl_X6_15 inB_X6 rfl dX6_formulas_1 ?_
  refine J.getN C 1 9 dk_1 rfl (by decide) nest_X6_66 inB_X0 rfl dX6_formulas_4 ?_
  exact J.iretA C hr (Nat.le_refl _) (Nat.le_refl _) dX6_formulas_7 H

/-! X6_sizeOf -/
abbrev mX6_sizeOf : MD := (yX6_sizeOf, cX6_sizeOf, 2, some .int)
theorem mdX6_sizeOf : MDv mX6_sizeOf RX6 1 := ⟨kIm_X6_sizeOf, kSe_X6_sizeOf, kIn_X6, kCo_X6_sizeOf, by decide +kernel⟩
def P_X6_sizeOf (σ : DS) (a1 : Int32) : Res DS Int32 := (bd (P_X6_requireFormula σ a1) fun _ s2 => (some (.inl (F_X0_size s2 a1), s2)))
set_option maxRecDepth 100000 in
theorem sp_X6_sizeOf {l : Launch} (hl : l.stackTraces = false) {g : Gy} {ad : Nat → Nat} {rst : va_W} {σ : DS} (a1 : Int32) : SpR l mX6_sizeOf 8 1 6 mI g [.ref (ad 0), .int a1] (dkh g ad rst) σ (P_X6_sizeOf σ a1) := by
  refine SpR.of hl (by decide) (Nat.le_of_ble_eq_true rfl) (fun rr H p e s m args below meth c A C hr hx => ?_)
  unfold P_X6_sizeOf at H
  refine J.lw (lv' := [(0, .ref (ad 0)), (1, .int a1)]) ⟨rfl, rfl, trivial⟩ ?_
  refine J.aload_n (i := 0) C dX6_sizeOf_0 rfl rfl ?_
  refine J.iload_n (i := 1) C dX6_sizeOf_1 rfl rfl ?_
  refine J.callVBV (hp := (dkh g ad rst)) C rfl (sp_X6_requireFormula hl _) rfl kMl_X6_60 mdX6_requireFormula ⟨(Nat.le_of_ble_eq_true rfl), (Nat.le_of_ble_eq_true rfl)⟩ dk_0 rfl rfl (Nat.le_of_ble_eq_true rfl) dX6_sizeOf_2 ⟨(Nat.le_of_ble_eq_true rfl), (Nat.le_of_ble_eq_true rfl)⟩ hx (Nat.le_of_ble_eq_true rfl) (Nat.le_of_ble_eq_true rfl) H (fun _ s2 H => ?_)
  refine J.aload_n (i := 0) C dX6_sizeOf_5 rfl rfl ?_
  refine J.get C 0 0 dk_0 rfl (by decide) kFl_X6_15 inB_X6 rfl dX6_sizeOf_6 ?_
  refine J.iload_n (i := 1) C dX6_sizeOf_9 rfl rfl ?_
  refine J.callVI C (sp_X0_size hl _) rfl kMl_X6_70 mdX0_size ⟨(Nat.le_of_ble_eq_true rfl), (Nat.le_of_ble_eq_true rfl)⟩ dk_1 rfl rfl (Nat.le_of_ble_eq_true rfl) dX6_sizeOf_10 ⟨(Nat.le_of_ble_eq_true rfl), (Nat.le_of_ble_eq_true rfl)⟩ ?_
  exact J.iretL C hr (Nat.le_of_ble_eq_true rfl) (Nat.le_of_ble_eq_true rfl) dX6_sizeOf_13 H

/-! X6_symbolAt -/
abbrev mX6_symbolAt : MD := (yX6_symbolAt, cX6_symbolAt, 3, some .char)
theorem mdX6_symbolAt : MDv mX6_symbolAt RX6 2 := ⟨kIm_X6_symbolAt, kSe_X6_symbolAt, kIn_X6, kCo_X6_symbolAt, by decide +kernel⟩
def P_X6_symbolAt (σ : DS) (a1 : Int32) (a2 : Int32) : Res DS Int32 := (bd (P_X6_requireFormula σ a1) fun _ s2 => (if a2 < 0 then (some (.inr "java/util/NoSuchElementException", s2)) else (if a2 < (F_X0_size s2 a1) then (some (.inl (F_X0_symbol s2 a1 a2), s2)) else (some (.inr "java/util/NoSuchElementException", s2)))))
set_option maxRecDepth 100000 in
theorem sp_X6_symbolAt {l : Launch} (hl : l.stackTraces = false) {g : Gy} {ad : Nat → Nat} {rst : va_W} {σ : DS} (a1 : Int32) (a2 : Int32) : SpR l mX6_symbolAt 8 2 12 mI g [.ref (ad 0), .int a1, .int a2] (dkh g ad rst) σ (P_X6_symbolAt σ a1 a2) := by
  refine SpR.of hl (by decide) (Nat.le_of_ble_eq_true rfl) (fun rr H p e s m args below meth c A C hr hx => ?_)
  unfold P_X6_symbolAt at H
  refine J.lw (lv' := [(0, .ref (ad 0)), (1, .int a1), (2, .int a2)]) ⟨rfl, rfl, rfl, trivial⟩ ?_
  refine J.aload_n (i := 0) C dX6_symbolAt_0 rfl rfl ?_
  refine J.iload_n (i := 1) C dX6_symbolAt_1 rfl rfl ?_
  refine J.callVBV (hp := (dkh g ad rst)) C rfl (sp_X6_requireFormula hl _) rfl kMl_X6_60 mdX6_requireFormula ⟨(Nat.le_of_ble_eq_true rfl), (Nat.le_of_ble_eq_true rfl)⟩ dk_0 rfl rfl (Nat.le_of_ble_eq_true rfl) dX6_symbolAt_2 ⟨(Nat.le_of_ble_eq_true rfl), (Nat.le_of_ble_eq_true rfl)⟩ hx (Nat.le_of_ble_eq_true rfl) (Nat.le_of_ble_eq_true rfl) H (fun _ s2 H => ?_)
  refine J.iload_n (i := 2) C dX6_symbolAt_5 rfl rfl ?_
  refine J.if_ltL (tgt := 21) C dX6_symbolAt_6 (by decide) H (fun c_6 H => ?_) (fun c_6 H => ?_)
  · exact J.throwNL (hp := (dkh g ad rst)) C th_NoSuchElementException_77 str_75 dX6_symbolAt_21 dX6_symbolAt_24 dX6_symbolAt_25 dX6_symbolAt_27 dX6_symbolAt_30 hx ⟨(Nat.le_of_ble_eq_true rfl), (Nat.le_of_ble_eq_true rfl), (Nat.le_of_ble_eq_true rfl), (Nat.le_of_ble_eq_true rfl)⟩ (Nat.le_of_ble_eq_true rfl) (Nat.le_of_ble_eq_true rfl) H
  · refine J.iload_n (i := 2) C dX6_symbolAt_9 rfl rfl ?_
    refine J.aload_n (i := 0) C dX6_symbolAt_10 rfl rfl ?_
    refine J.get C 0 0 dk_0 rfl (by decide) kFl_X6_15 inB_X6 rfl dX6_symbolAt_11 ?_
    refine J.iload_n (i := 1) C dX6_symbolAt_14 rfl rfl ?_
    refine J.callVI C (sp_X0_size hl _) rfl kMl_X6_70 mdX0_size ⟨(Nat.le_of_ble_eq_true rfl), (Nat.le_of_ble_eq_true rfl)⟩ dk_1 rfl rfl (Nat.le_of_ble_eq_true rfl) dX6_symbolAt_15 ⟨(Nat.le_of_ble_eq_true rfl), (Nat.le_of_ble_eq_true rfl)⟩ ?_
    refine J.icmp_ltL (tgt := 31) C dX6_symbolAt_18 (by decide) H (fun c_18 H => ?_) (fun c_18 H => ?_)
    · refine J.aload_n (i := 0) C dX6_symbolAt_31 rfl rfl ?_
      refine J.get C 0 0 dk_0 rfl (by decide) kFl_X6_15 inB_X6 rfl dX6_symbolAt_32 ?_
      refine J.iload_n (i := 1) C dX6_symbolAt_35 rfl rfl ?_
      refine J.iload_n (i := 2) C dX6_symbolAt_36 rfl rfl ?_
      refine J.callVI C (sp_X0_symbol hl _ _) rfl kMl_X6_80 mdX0_symbol ⟨(Nat.le_of_ble_eq_true rfl), (Nat.le_of_ble_eq_true rfl)⟩ dk_1 rfl rfl (Nat.le_of_ble_eq_true rfl) dX6_symbolAt_37 ⟨(Nat.le_of_ble_eq_true rfl), (Nat.le_of_ble_eq_true rfl)⟩ ?_
      exact J.zretL C hr (nr_X0_symbol s2 a1 a2) (Nat.le_of_ble_eq_true rfl) (Nat.le_of_ble_eq_true rfl) dX6_symbolAt_40 H
    · exact J.throwNL (hp := (dkh g ad rst)) C th_NoSuchElementException_77 str_75 dX6_symbolAt_21 dX6_symbolAt_24 dX6_symbolAt_25 dX6_symbolAt_27 dX6_symbolAt_30 hx ⟨(Nat.le_of_ble_eq_true rfl), (Nat.le_of_ble_eq_true rfl), (Nat.le_of_ble_eq_true rfl), (Nat.le_of_ble_eq_true rfl)⟩ (Nat.le_of_ble_eq_true rfl) (Nat.le_of_ble_eq_true rfl) H

/-! X6_bind -/
abbrev mX6_bind : MD := (yX6_bind, cX6_bind, 4, some .int)
theorem mdX6_bind : MDv mX6_bind RX6 2 := ⟨kIm_X6_bind, kSe_X6_bind, kIn_X6, kCo_X6_bind, by decide +kernel⟩
def P_X6_bind (σ : DS) (a1 : Int32) (a2 : Int32) : Res DS Int32 := (bd (P_X6_requireLetter σ a1) fun _ s2 => (bd (P_X6_requireFormula s2 a2) fun _ s7 => (lt (rat 5 (s7.2 24) a1) fun z21 => (lt (sR s7 24 (rput 5 (s7.2 24) a1 a2)) fun s31 => (some (.inl z21, s31))))))
set_option maxRecDepth 100000 in
theorem sp_X6_bind {l : Launch} (hl : l.stackTraces = false) {g : Gy} {ad : Nat → Nat} {rst : va_W} {σ : DS} (a1 : Int32) (a2 : Int32) : SpR l mX6_bind 8 2 12 mI g [.ref (ad 0), .int a1, .int a2] (dkh g ad rst) σ (P_X6_bind σ a1 a2) := by
  refine SpR.of hl (by decide) (Nat.le_of_ble_eq_true rfl) (fun rr H p e s m args below meth c A C hr hx => ?_)
  unfold P_X6_bind at H
  refine J.lw (lv' := [(0, .ref (ad 0)), (1, .int a1), (2, .int a2)]) ⟨rfl, rfl, rfl, trivial⟩ ?_
  refine J.aload_n (i := 0) C dX6_bind_0 rfl rfl ?_
  refine J.iload_n (i := 1) C dX6_bind_1 rfl rfl ?_
  refine J.callVBV (hp := (dkh g ad rst)) C rfl (sp_X6_requireLetter hl _) rfl kMl_X6_48 mdX6_requireLetter ⟨(Nat.le_of_ble_eq_true rfl), (Nat.le_of_ble_eq_true rfl)⟩ dk_0 rfl rfl (Nat.le_of_ble_eq_true rfl) dX6_bind_2 ⟨(Nat.le_of_ble_eq_true rfl), (Nat.le_of_ble_eq_true rfl)⟩ hx (Nat.le_of_ble_eq_true rfl) (Nat.le_of_ble_eq_true rfl) H (fun _ s2 H => ?_)
  refine J.aload_n (i := 0) C dX6_bind_5 rfl rfl ?_
  refine J.iload_n (i := 2) C dX6_bind_6 rfl rfl ?_
  refine J.callVBV (hp := (dkh g ad rst)) C rfl (sp_X6_requireFormula hl _) rfl kMl_X6_60 mdX6_requireFormula ⟨(Nat.le_of_ble_eq_true rfl), (Nat.le_of_ble_eq_true rfl)⟩ dk_0 rfl rfl (Nat.le_of_ble_eq_true rfl) dX6_bind_7 ⟨(Nat.le_of_ble_eq_true rfl), (Nat.le_of_ble_eq_true rfl)⟩ hx (Nat.le_of_ble_eq_true rfl) (Nat.le_of_ble_eq_true rfl) H (fun _ s7 H => ?_)
  refine J.aload_n (i := 0) C dX6_bind_10 rfl rfl ?_
  refine J.get C 0 2 dk_0 rfl (by decide) kFl_X6_28 inB_X6 rfl dX6_bind_11 ?_
  refine J.getN C 3 5 dk_3 rfl (by decide) nest_X6_84 inB_X1 rfl dX6_bind_14 ?_
  refine J.iload_n (i := 1) C dX6_bind_17 rfl rfl ?_
  refine J.callVI C (at_24 hl _) rfl kMl_X6_88 mdX3_at ⟨(Nat.le_of_ble_eq_true rfl), (Nat.le_of_ble_eq_true rfl)⟩ dk_54 rfl rfl (Nat.le_of_ble_eq_true rfl) dX6_bind_18 ⟨(Nat.le_of_ble_eq_true rfl), (Nat.le_of_ble_eq_true rfl)⟩ ?_
  refine J.istore_nL (i := 3) C dX6_bind_21 rfl (by decide) H (fun z21 H => ?_)
  refine J.aload_n (i := 0) C dX6_bind_22 rfl rfl ?_
  refine J.get C 0 2 dk_0 rfl (by decide) kFl_X6_28 inB_X6 rfl dX6_bind_23 ?_
  refine J.getN C 3 5 dk_3 rfl (by decide) nest_X6_84 inB_X1 rfl dX6_bind_26 ?_
  refine J.iload_n (i := 1) C dX6_bind_29 rfl rfl ?_
  refine J.iload_n (i := 2) C dX6_bind_30 rfl rfl ?_
  refine J.callVVL (hp := (dkh g ad rst)) C (put_24 hl _ _) rfl kMl_X6_93 mdX3_put ⟨(Nat.le_of_ble_eq_true rfl), (Nat.le_of_ble_eq_true rfl)⟩ dk_54 rfl rfl (Nat.le_of_ble_eq_true rfl) dX6_bind_31 ⟨(Nat.le_of_ble_eq_true rfl), (Nat.le_of_ble_eq_true rfl)⟩ H (fun s31 H => ?_)
  refine J.iload_n (i := 3) C dX6_bind_34 rfl rfl ?_
  exact J.iretL C hr (Nat.le_of_ble_eq_true rfl) (Nat.le_of_ble_eq_true rfl) dX6_bind_35 H

/-! X6_requireShape -/
abbrev mX6_requireShape : MD := (yX6_requireShape, cX6_requireShape, 2, none)
theorem mdX6_requireShape : MDv mX6_requireShape RX6 1 := ⟨kIm_X6_requireShape, kSe_X6_requireShape, kIn_X6, kCo_X6_requireShape, by decide +kernel⟩
def P_X6_requireShape (σ : DS) (a1 : Int32) : Res DS Unit := (if a1 = 0 then (some (.inr "java/lang/UnsupportedOperationException", σ)) else (some (.inl (), σ)))
set_option maxRecDepth 100000 in
theorem sp_X6_requireShape {l : Launch} (hl : l.stackTraces = false) {g : Gy} {ad : Nat → Nat} {rst : va_W} {σ : DS} (a1 : Int32) : SpR l mX6_requireShape 7 1 6 mV g [.ref (ad 0), .int a1] (dkh g ad rst) σ (P_X6_requireShape σ a1) := by
  refine SpR.of hl (by decide) (Nat.le_of_ble_eq_true rfl) (fun rr H p e s m args below meth c A C hr hx => ?_)
  unfold P_X6_requireShape at H
  refine J.lw (lv' := [(0, .ref (ad 0)), (1, .int a1)]) ⟨rfl, rfl, trivial⟩ ?_
  refine J.iload_n (i := 1) C dX6_requireShape_0 rfl rfl ?_
  refine J.if_neL (tgt := 15) C dX6_requireShape_1 (by decide) H (fun c_1 H => ?_) (fun c_1 H => ?_)
  · exact J.vretL C hr (Nat.le_of_ble_eq_true rfl) (Nat.le_of_ble_eq_true rfl) dX6_requireShape_15 H
  · exact J.throwSWL (hp := (dkh g ad rst)) C th_UnsupportedOperationException_314 str_312 dX6_requireShape_4 dX6_requireShape_7 dX6_requireShape_8 dX6_requireShape_11 dX6_requireShape_14 hx ⟨(Nat.le_of_ble_eq_true rfl), (Nat.le_of_ble_eq_true rfl), (Nat.le_of_ble_eq_true rfl), (Nat.le_of_ble_eq_true rfl)⟩ (Nat.le_of_ble_eq_true rfl) (Nat.le_of_ble_eq_true rfl) H

/-! X6_requireRoom -/
abbrev mX6_requireRoom : MD := (yX6_requireRoom, cX6_requireRoom, 1, none)
theorem mdX6_requireRoom : MDv mX6_requireRoom RX6 0 := ⟨kIm_X6_requireRoom, kSe_X6_requireRoom, kIn_X6, kCo_X6_requireRoom, by decide +kernel⟩
def P_X6_requireRoom (σ : DS)  : Res DS Unit := (if (σ.1 2) < (60 : Int32) then (some (.inl (), σ)) else (some (.inr "java/lang/IllegalStateException", σ)))
set_option maxRecDepth 100000 in
theorem sp_X6_requireRoom {l : Launch} (hl : l.stackTraces = false) {g : Gy} {ad : Nat → Nat} {rst : va_W} {σ : DS}  : SpR l mX6_requireRoom 7 1 6 mV g [.ref (ad 0)] (dkh g ad rst) σ (P_X6_requireRoom σ ) := by
  refine SpR.of hl (by decide) (Nat.le_of_ble_eq_true rfl) (fun rr H p e s m args below meth c A C hr hx => ?_)
  unfold P_X6_requireRoom at H
  refine J.lw (lv' := [(0, .ref (ad 0))]) ⟨rfl, trivial⟩ ?_
  refine J.aload_n (i := 0) C dX6_requireRoom_0 rfl rfl ?_
  refine J.get C 0 1 dk_0 rfl (by decide) kFl_X6_21 inB_X6 rfl dX6_requireRoom_1 ?_
  refine J.getN C 2 13 dk_2 rfl (by decide) nest_X6_164 inB_X2 rfl dX6_requireRoom_4 ?_
  refine J.bipush C (60) dX6_requireRoom_7 (by decide) ?_
  refine J.icmp_ltL (tgt := 23) C dX6_requireRoom_9 (by decide) H (fun c_9 H => ?_) (fun c_9 H => ?_)
  · exact J.vretL C hr (Nat.le_of_ble_eq_true rfl) (Nat.le_of_ble_eq_true rfl) dX6_requireRoom_23 H
  · exact J.throwSWL (hp := (dkh g ad rst)) C th_IllegalStateException_117 str_315 dX6_requireRoom_12 dX6_requireRoom_15 dX6_requireRoom_16 dX6_requireRoom_19 dX6_requireRoom_22 hx ⟨(Nat.le_of_ble_eq_true rfl), (Nat.le_of_ble_eq_true rfl), (Nat.le_of_ble_eq_true rfl), (Nat.le_of_ble_eq_true rfl)⟩ (Nat.le_of_ble_eq_true rfl) (Nat.le_of_ble_eq_true rfl) H

/-! X6_premise -/
def B_X6_premise_22 (σ : DS) (l1 : Int32) (t0 : Int32) : Res DS Int32 := (bd (P_X6_requireShape σ t0) fun _ s22 => (bd (P_X6_requireRoom s22 ) fun _ s26 => (bd (P_X2_enter s26 l1 (80 : Int32)) fun r36 s36 => (some (.inl r36, s36)))))
set_option maxRecDepth 100000 in
theorem bl_X6_premise_22 {l : Launch} (hl : l.stackTraces = false) {g : Gy} {ad : Nat → Nat} {rst : va_W} {p : Program} {e : Env} {s : State} {m : MethodId} {args : Array Value} {below : List Frame} {meth : Method} {c : Code} {A : Nat → Prop} (C : Cx p l s m args meth c g A yX6_premise.cls cX6_premise 2) (hr : meth.sig.returnType = some .int) (hx : ∀ x ∈ c.exceptionTable.toList, False) {rr : (Int32 ⊕ String) × DS} (σ : DS) (l1 : Int32) (t0 : Int32) (H : B_X6_premise_22 σ l1 t0 = some rr) : J p l e (rmOf 8 3 18) s m args below meth c g A 2 1 6 (QR mI g A (dkh g ad rst) rr below args s 3 18) 22 [(0, .ref (ad 0)), (1, .int l1)] [.int t0, .ref (ad 0)] ((dkh g ad rst) σ) := by
  unfold B_X6_premise_22 at H
  refine J.callVBV (hp := (dkh g ad rst)) C rfl (sp_X6_requireShape hl _) rfl kMl_X6_100 mdX6_requireShape ⟨(Nat.le_of_ble_eq_true rfl), (Nat.le_of_ble_eq_true rfl)⟩ dk_0 rfl rfl (Nat.le_of_ble_eq_true rfl) dX6_premise_22 ⟨(Nat.le_of_ble_eq_true rfl), (Nat.le_of_ble_eq_true rfl)⟩ hx (Nat.le_of_ble_eq_true rfl) (Nat.le_of_ble_eq_true rfl) H (fun _ s22 H => ?_)
  refine J.aload_n (i := 0) C dX6_premise_25 rfl rfl ?_
  refine J.callVBV (hp := (dkh g ad rst)) C rfl (sp_X6_requireRoom hl ) rfl kMl_X6_104 mdX6_requireRoom ⟨(Nat.le_of_ble_eq_true rfl), (Nat.le_of_ble_eq_true rfl)⟩ dk_0 rfl rfl (Nat.le_of_ble_eq_true rfl) dX6_premise_26 ⟨(Nat.le_of_ble_eq_true rfl), (Nat.le_of_ble_eq_true rfl)⟩ hx (Nat.le_of_ble_eq_true rfl) (Nat.le_of_ble_eq_true rfl) H (fun _ s26 H => ?_)
  refine J.aload_n (i := 0) C dX6_premise_29 rfl rfl ?_
  refine J.get C 0 1 dk_0 rfl (by decide) kFl_X6_21 inB_X6 rfl dX6_premise_30 ?_
  refine J.iload_n (i := 1) C dX6_premise_33 rfl rfl ?_
  refine J.bipush C (80) dX6_premise_34 (by decide) ?_
  refine J.callVBI (hp := (dkh g ad rst)) C rfl (sp_X2_enter hl _ _) rfl kMl_X6_107 mdX2_enter ⟨(Nat.le_of_ble_eq_true rfl), (Nat.le_of_ble_eq_true rfl)⟩ dk_2 rfl rfl (Nat.le_of_ble_eq_true rfl) dX6_premise_36 ⟨(Nat.le_of_ble_eq_true rfl), (Nat.le_of_ble_eq_true rfl)⟩ hx (Nat.le_of_ble_eq_true rfl) (Nat.le_of_ble_eq_true rfl) H (fun r36 s36 H => ?_)
  exact J.iretL C hr (Nat.le_of_ble_eq_true rfl) (Nat.le_of_ble_eq_true rfl) dX6_premise_39 H
abbrev mX6_premise : MD := (yX6_premise, cX6_premise, 2, some .int)
theorem mdX6_premise : MDv mX6_premise RX6 1 := ⟨kIm_X6_premise, kSe_X6_premise, kIn_X6, kCo_X6_premise, by decide +kernel⟩
def P_X6_premise (σ : DS) (a1 : Int32) : Res DS Int32 := (bd (P_X6_requireFormula σ a1) fun _ s2 => (if (s2.1 4) = (-1 : Int32) then (B_X6_premise_22 s2 a1 (1 : Int32)) else (B_X6_premise_22 s2 a1 (0 : Int32))))
set_option maxRecDepth 100000 in
theorem sp_X6_premise {l : Launch} (hl : l.stackTraces = false) {g : Gy} {ad : Nat → Nat} {rst : va_W} {σ : DS} (a1 : Int32) : SpR l mX6_premise 8 3 18 mI g [.ref (ad 0), .int a1] (dkh g ad rst) σ (P_X6_premise σ a1) := by
  refine SpR.of hl (by decide) (Nat.le_of_ble_eq_true rfl) (fun rr H p e s m args below meth c A C hr hx => ?_)
  unfold P_X6_premise at H
  refine J.lw (lv' := [(0, .ref (ad 0)), (1, .int a1)]) ⟨rfl, rfl, trivial⟩ ?_
  refine J.aload_n (i := 0) C dX6_premise_0 rfl rfl ?_
  refine J.iload_n (i := 1) C dX6_premise_1 rfl rfl ?_
  refine J.callVBV (hp := (dkh g ad rst)) C rfl (sp_X6_requireFormula hl _) rfl kMl_X6_60 mdX6_requireFormula ⟨(Nat.le_of_ble_eq_true rfl), (Nat.le_of_ble_eq_true rfl)⟩ dk_0 rfl rfl (Nat.le_of_ble_eq_true rfl) dX6_premise_2 ⟨(Nat.le_of_ble_eq_true rfl), (Nat.le_of_ble_eq_true rfl)⟩ hx (Nat.le_of_ble_eq_true rfl) (Nat.le_of_ble_eq_true rfl) H (fun _ s2 H => ?_)
  refine J.aload_n (i := 0) C dX6_premise_5 rfl rfl ?_
  refine J.aload_n (i := 0) C dX6_premise_6 rfl rfl ?_
  refine J.get C 0 1 dk_0 rfl (by decide) kFl_X6_21 inB_X6 rfl dX6_premise_7 ?_
  refine J.getN C 2 15 dk_2 rfl (by decide) nest_X6_97 inB_X2 rfl dX6_premise_10 ?_
  refine J.iconst C (-1) dX6_premise_13 (by decide) ?_
  refine J.icmp_neL (tgt := 21) C dX6_premise_14 (by decide) H (fun c_14 H => ?_) (fun c_14 H => ?_)
  · refine J.iconst C (0) dX6_premise_21 (by decide) ?_
    refine J.widen (k := 1) (n := 6) (Nat.le_of_ble_eq_true rfl) (Nat.le_of_ble_eq_true rfl) ?_
    refine J.lw (lv' := [(0, .ref (ad 0)), (1, .int a1)]) ⟨rfl, rfl, trivial⟩ ?_
    exact bl_X6_premise_22 hl C hr hx  _ _ _  H
  · refine J.iconst C (1) dX6_premise_17 (by decide) ?_
    refine J.goto (tgt := 22) C dX6_premise_18 (by decide) ?_
    refine J.widen (k := 1) (n := 6) (Nat.le_of_ble_eq_true rfl) (Nat.le_of_ble_eq_true rfl) ?_
    refine J.lw (lv' := [(0, .ref (ad 0)), (1, .int a1)]) ⟨rfl, rfl, trivial⟩ ?_
    exact bl_X6_premise_22 hl C hr hx  _ _ _  H

/-! X6_assume -/
abbrev mX6_assume : MD := (yX6_assume, cX6_assume, 2, some .int)
theorem mdX6_assume : MDv mX6_assume RX6 1 := ⟨kIm_X6_assume, kSe_X6_assume, kIn_X6, kCo_X6_assume, by decide +kernel⟩
def P_X6_assume (σ : DS) (a1 : Int32) : Res DS Int32 := (bd (P_X6_requireFormula σ a1) fun _ s2 => (bd (P_X6_requireRoom s2 ) fun _ s6 => (bd (P_X2_open s6 a1) fun r14 s14 => (some (.inl r14, s14)))))
set_option maxRecDepth 100000 in
theorem sp_X6_assume {l : Launch} (hl : l.stackTraces = false) {g : Gy} {ad : Nat → Nat} {rst : va_W} {σ : DS} (a1 : Int32) : SpR l mX6_assume 8 2 12 mI g [.ref (ad 0), .int a1] (dkh g ad rst) σ (P_X6_assume σ a1) := by
  refine SpR.of hl (by decide) (Nat.le_of_ble_eq_true rfl) (fun rr H p e s m args below meth c A C hr hx => ?_)
  unfold P_X6_assume at H
  refine J.lw (lv' := [(0, .ref (ad 0)), (1, .int a1)]) ⟨rfl, rfl, trivial⟩ ?_
  refine J.aload_n (i := 0) C dX6_assume_0 rfl rfl ?_
  refine J.iload_n (i := 1) C dX6_assume_1 rfl rfl ?_
  refine J.callVBV (hp := (dkh g ad rst)) C rfl (sp_X6_requireFormula hl _) rfl kMl_X6_60 mdX6_requireFormula ⟨(Nat.le_of_ble_eq_true rfl), (Nat.le_of_ble_eq_true rfl)⟩ dk_0 rfl rfl (Nat.le_of_ble_eq_true rfl) dX6_assume_2 ⟨(Nat.le_of_ble_eq_true rfl), (Nat.le_of_ble_eq_true rfl)⟩ hx (Nat.le_of_ble_eq_true rfl) (Nat.le_of_ble_eq_true rfl) H (fun _ s2 H => ?_)
  refine J.aload_n (i := 0) C dX6_assume_5 rfl rfl ?_
  refine J.callVBV (hp := (dkh g ad rst)) C rfl (sp_X6_requireRoom hl ) rfl kMl_X6_104 mdX6_requireRoom ⟨(Nat.le_of_ble_eq_true rfl), (Nat.le_of_ble_eq_true rfl)⟩ dk_0 rfl rfl (Nat.le_of_ble_eq_true rfl) dX6_assume_6 ⟨(Nat.le_of_ble_eq_true rfl), (Nat.le_of_ble_eq_true rfl)⟩ hx (Nat.le_of_ble_eq_true rfl) (Nat.le_of_ble_eq_true rfl) H (fun _ s6 H => ?_)
  refine J.aload_n (i := 0) C dX6_assume_9 rfl rfl ?_
  refine J.get C 0 1 dk_0 rfl (by decide) kFl_X6_21 inB_X6 rfl dX6_assume_10 ?_
  refine J.iload_n (i := 1) C dX6_assume_13 rfl rfl ?_
  refine J.callVBI (hp := (dkh g ad rst)) C rfl (sp_X2_open hl _) rfl kMl_X6_110 mdX2_open ⟨(Nat.le_of_ble_eq_true rfl), (Nat.le_of_ble_eq_true rfl)⟩ dk_2 rfl rfl (Nat.le_of_ble_eq_true rfl) dX6_assume_14 ⟨(Nat.le_of_ble_eq_true rfl), (Nat.le_of_ble_eq_true rfl)⟩ hx (Nat.le_of_ble_eq_true rfl) (Nat.le_of_ble_eq_true rfl) H (fun r14 s14 H => ?_)
  exact J.iretL C hr (Nat.le_of_ble_eq_true rfl) (Nat.le_of_ble_eq_true rfl) dX6_assume_17 H

/-! X6_closeBox -/
abbrev mX6_closeBox : MD := (yX6_closeBox, cX6_closeBox, 1, some .int)
theorem mdX6_closeBox : MDv mX6_closeBox RX6 0 := ⟨kIm_X6_closeBox, kSe_X6_closeBox, kIn_X6, kCo_X6_closeBox, by decide +kernel⟩
def P_X6_closeBox (σ : DS)  : Res DS Int32 := (if (σ.1 4) = (-1 : Int32) then (some (.inr "java/lang/IllegalStateException", σ)) else (bd (P_X2_close σ ) fun r25 s25 => (some (.inl r25, s25))))
set_option maxRecDepth 100000 in
theorem sp_X6_closeBox {l : Launch} (hl : l.stackTraces = false) {g : Gy} {ad : Nat → Nat} {rst : va_W} {σ : DS}  : SpR l mX6_closeBox 7 1 6 mI g [.ref (ad 0)] (dkh g ad rst) σ (P_X6_closeBox σ ) := by
  refine SpR.of hl (by decide) (Nat.le_of_ble_eq_true rfl) (fun rr H p e s m args below meth c A C hr hx => ?_)
  unfold P_X6_closeBox at H
  refine J.lw (lv' := [(0, .ref (ad 0))]) ⟨rfl, trivial⟩ ?_
  refine J.aload_n (i := 0) C dX6_closeBox_0 rfl rfl ?_
  refine J.get C 0 1 dk_0 rfl (by decide) kFl_X6_21 inB_X6 rfl dX6_closeBox_1 ?_
  refine J.getN C 2 15 dk_2 rfl (by decide) nest_X6_97 inB_X2 rfl dX6_closeBox_4 ?_
  refine J.iconst C (-1) dX6_closeBox_7 (by decide) ?_
  refine J.icmp_neL (tgt := 21) C dX6_closeBox_8 (by decide) H (fun c_8 H => ?_) (fun c_8 H => ?_)
  · refine J.aload_n (i := 0) C dX6_closeBox_21 rfl rfl ?_
    refine J.get C 0 1 dk_0 rfl (by decide) kFl_X6_21 inB_X6 rfl dX6_closeBox_22 ?_
    refine J.callVBI (hp := (dkh g ad rst)) C rfl (sp_X2_close hl ) rfl kMl_X6_118 mdX2_close ⟨(Nat.le_of_ble_eq_true rfl), (Nat.le_of_ble_eq_true rfl)⟩ dk_2 rfl rfl (Nat.le_of_ble_eq_true rfl) dX6_closeBox_25 ⟨(Nat.le_of_ble_eq_true rfl), (Nat.le_of_ble_eq_true rfl)⟩ hx (Nat.le_of_ble_eq_true rfl) (Nat.le_of_ble_eq_true rfl) H (fun r25 s25 H => ?_)
    exact J.iretL C hr (Nat.le_of_ble_eq_true rfl) (Nat.le_of_ble_eq_true rfl) dX6_closeBox_28 H
  · exact J.throwSL (hp := (dkh g ad rst)) C th_IllegalStateException_117 str_115 dX6_closeBox_11 dX6_closeBox_14 dX6_closeBox_15 dX6_closeBox_17 dX6_closeBox_20 hx ⟨(Nat.le_of_ble_eq_true rfl), (Nat.le_of_ble_eq_true rfl), (Nat.le_of_ble_eq_true rfl), (Nat.le_of_ble_eq_true rfl)⟩ (Nat.le_of_ble_eq_true rfl) (Nat.le_of_ble_eq_true rfl) H

/-! X6_requireLine -/
abbrev mX6_requireLine : MD := (yX6_requireLine, cX6_requireLine, 2, none)
theorem mdX6_requireLine : MDv mX6_requireLine RX6 1 := ⟨kIm_X6_requireLine, kSe_X6_requireLine, kIn_X6, kCo_X6_requireLine, by decide +kernel⟩
def P_X6_requireLine (σ : DS) (a1 : Int32) : Res DS Unit := (if (F_X2_hasLine σ a1) = 0 then (some (.inr "java/lang/IndexOutOfBoundsException", σ)) else (some (.inl (), σ)))
set_option maxRecDepth 100000 in
theorem sp_X6_requireLine {l : Launch} (hl : l.stackTraces = false) {g : Gy} {ad : Nat → Nat} {rst : va_W} {σ : DS} (a1 : Int32) : SpR l mX6_requireLine 7 1 6 mV g [.ref (ad 0), .int a1] (dkh g ad rst) σ (P_X6_requireLine σ a1) := by
  refine SpR.of hl (by decide) (Nat.le_of_ble_eq_true rfl) (fun rr H p e s m args below meth c A C hr hx => ?_)
  unfold P_X6_requireLine at H
  refine J.lw (lv' := [(0, .ref (ad 0)), (1, .int a1)]) ⟨rfl, rfl, trivial⟩ ?_
  refine J.aload_n (i := 0) C dX6_requireLine_0 rfl rfl ?_
  refine J.get C 0 1 dk_0 rfl (by decide) kFl_X6_21 inB_X6 rfl dX6_requireLine_1 ?_
  refine J.iload_n (i := 1) C dX6_requireLine_4 rfl rfl ?_
  refine J.callVI C (sp_X2_hasLine hl _) rfl kMl_X6_293 mdX2_hasLine ⟨(Nat.le_of_ble_eq_true rfl), (Nat.le_of_ble_eq_true rfl)⟩ dk_2 rfl rfl (Nat.le_of_ble_eq_true rfl) dX6_requireLine_5 ⟨(Nat.le_of_ble_eq_true rfl), (Nat.le_of_ble_eq_true rfl)⟩ ?_
  refine J.if_neL (tgt := 22) C dX6_requireLine_8 (by decide) H (fun c_8 H => ?_) (fun c_8 H => ?_)
  · exact J.vretL C hr (Nat.le_of_ble_eq_true rfl) (Nat.le_of_ble_eq_true rfl) dX6_requireLine_22 H
  · exact J.throwSWL (hp := (dkh g ad rst)) C th_IndexOutOfBoundsException_292 str_296 dX6_requireLine_11 dX6_requireLine_14 dX6_requireLine_15 dX6_requireLine_18 dX6_requireLine_21 hx ⟨(Nat.le_of_ble_eq_true rfl), (Nat.le_of_ble_eq_true rfl), (Nat.le_of_ble_eq_true rfl), (Nat.le_of_ble_eq_true rfl)⟩ (Nat.le_of_ble_eq_true rfl) (Nat.le_of_ble_eq_true rfl) H

/-! X6_requireCitable -/
abbrev mX6_requireCitable : MD := (yX6_requireCitable, cX6_requireCitable, 2, none)
theorem mdX6_requireCitable : MDv mX6_requireCitable RX6 1 := ⟨kIm_X6_requireCitable, kSe_X6_requireCitable, kIn_X6, kCo_X6_requireCitable, by decide +kernel⟩
def P_X6_requireCitable (σ : DS) (a1 : Int32) : Res DS Unit := (if (F_X2_isCitable σ a1) = 0 then (some (.inr "java/util/NoSuchElementException", σ)) else (some (.inl (), σ)))
set_option maxRecDepth 100000 in
theorem sp_X6_requireCitable {l : Launch} (hl : l.stackTraces = false) {g : Gy} {ad : Nat → Nat} {rst : va_W} {σ : DS} (a1 : Int32) : SpR l mX6_requireCitable 7 1 6 mV g [.ref (ad 0), .int a1] (dkh g ad rst) σ (P_X6_requireCitable σ a1) := by
  refine SpR.of hl (by decide) (Nat.le_of_ble_eq_true rfl) (fun rr H p e s m args below meth c A C hr hx => ?_)
  unfold P_X6_requireCitable at H
  refine J.lw (lv' := [(0, .ref (ad 0)), (1, .int a1)]) ⟨rfl, rfl, trivial⟩ ?_
  refine J.aload_n (i := 0) C dX6_requireCitable_0 rfl rfl ?_
  refine J.get C 0 1 dk_0 rfl (by decide) kFl_X6_21 inB_X6 rfl dX6_requireCitable_1 ?_
  refine J.iload_n (i := 1) C dX6_requireCitable_4 rfl rfl ?_
  refine J.callVI C (sp_X2_isCitable hl _) rfl kMl_X6_212 mdX2_isCitable ⟨(Nat.le_of_ble_eq_true rfl), (Nat.le_of_ble_eq_true rfl)⟩ dk_2 rfl rfl (Nat.le_of_ble_eq_true rfl) dX6_requireCitable_5 ⟨(Nat.le_of_ble_eq_true rfl), (Nat.le_of_ble_eq_true rfl)⟩ ?_
  refine J.if_neL (tgt := 22) C dX6_requireCitable_8 (by decide) H (fun c_8 H => ?_) (fun c_8 H => ?_)
  · exact J.vretL C hr (Nat.le_of_ble_eq_true rfl) (Nat.le_of_ble_eq_true rfl) dX6_requireCitable_22 H
  · exact J.throwNWL (hp := (dkh g ad rst)) C th_NoSuchElementException_77 str_306 dX6_requireCitable_11 dX6_requireCitable_14 dX6_requireCitable_15 dX6_requireCitable_18 dX6_requireCitable_21 hx ⟨(Nat.le_of_ble_eq_true rfl), (Nat.le_of_ble_eq_true rfl), (Nat.le_of_ble_eq_true rfl), (Nat.le_of_ble_eq_true rfl)⟩ (Nat.le_of_ble_eq_true rfl) (Nat.le_of_ble_eq_true rfl) H

/-! X6_repeat -/
abbrev mX6_repeat : MD := (yX6_repeat, cX6_repeat, 2, some .int)
theorem mdX6_repeat : MDv mX6_repeat RX6 1 := ⟨kIm_X6_repeat, kSe_X6_repeat, kIn_X6, kCo_X6_repeat, by decide +kernel⟩
def P_X6_repeat (σ : DS) (a1 : Int32) : Res DS Int32 := (bd (P_X6_requireLine σ a1) fun _ s2 => (bd (P_X6_requireCitable s2 a1) fun _ s7 => (bd (P_X6_requireRoom s7 ) fun _ s11 => (bd (P_X2_enterCiting s11 (F_X2_formula s11 a1) (82 : Int32) a1 (-1 : Int32)) fun r30 s30 => (some (.inl r30, s30))))))
set_option maxRecDepth 100000 in
theorem sp_X6_repeat {l : Launch} (hl : l.stackTraces = false) {g : Gy} {ad : Nat → Nat} {rst : va_W} {σ : DS} (a1 : Int32) : SpR l mX6_repeat 8 3 18 mI g [.ref (ad 0), .int a1] (dkh g ad rst) σ (P_X6_repeat σ a1) := by
  refine SpR.of hl (by decide) (Nat.le_of_ble_eq_true rfl) (fun rr H p e s m args below meth c A C hr hx => ?_)
  unfold P_X6_repeat at H
  refine J.lw (lv' := [(0, .ref (ad 0)), (1, .int a1)]) ⟨rfl, rfl, trivial⟩ ?_
  refine J.aload_n (i := 0) C dX6_repeat_0 rfl rfl ?_
  refine J.iload_n (i := 1) C dX6_repeat_1 rfl rfl ?_
  refine J.callVBV (hp := (dkh g ad rst)) C rfl (sp_X6_requireLine hl _) rfl kMl_X6_122 mdX6_requireLine ⟨(Nat.le_of_ble_eq_true rfl), (Nat.le_of_ble_eq_true rfl)⟩ dk_0 rfl rfl (Nat.le_of_ble_eq_true rfl) dX6_repeat_2 ⟨(Nat.le_of_ble_eq_true rfl), (Nat.le_of_ble_eq_true rfl)⟩ hx (Nat.le_of_ble_eq_true rfl) (Nat.le_of_ble_eq_true rfl) H (fun _ s2 H => ?_)
  refine J.aload_n (i := 0) C dX6_repeat_5 rfl rfl ?_
  refine J.iload_n (i := 1) C dX6_repeat_6 rfl rfl ?_
  refine J.callVBV (hp := (dkh g ad rst)) C rfl (sp_X6_requireCitable hl _) rfl kMl_X6_125 mdX6_requireCitable ⟨(Nat.le_of_ble_eq_true rfl), (Nat.le_of_ble_eq_true rfl)⟩ dk_0 rfl rfl (Nat.le_of_ble_eq_true rfl) dX6_repeat_7 ⟨(Nat.le_of_ble_eq_true rfl), (Nat.le_of_ble_eq_true rfl)⟩ hx (Nat.le_of_ble_eq_true rfl) (Nat.le_of_ble_eq_true rfl) H (fun _ s7 H => ?_)
  refine J.aload_n (i := 0) C dX6_repeat_10 rfl rfl ?_
  refine J.callVBV (hp := (dkh g ad rst)) C rfl (sp_X6_requireRoom hl ) rfl kMl_X6_104 mdX6_requireRoom ⟨(Nat.le_of_ble_eq_true rfl), (Nat.le_of_ble_eq_true rfl)⟩ dk_0 rfl rfl (Nat.le_of_ble_eq_true rfl) dX6_repeat_11 ⟨(Nat.le_of_ble_eq_true rfl), (Nat.le_of_ble_eq_true rfl)⟩ hx (Nat.le_of_ble_eq_true rfl) (Nat.le_of_ble_eq_true rfl) H (fun _ s11 H => ?_)
  refine J.aload_n (i := 0) C dX6_repeat_14 rfl rfl ?_
  refine J.get C 0 1 dk_0 rfl (by decide) kFl_X6_21 inB_X6 rfl dX6_repeat_15 ?_
  refine J.aload_n (i := 0) C dX6_repeat_18 rfl rfl ?_
  refine J.get C 0 1 dk_0 rfl (by decide) kFl_X6_21 inB_X6 rfl dX6_repeat_19 ?_
  refine J.iload_n (i := 1) C dX6_repeat_22 rfl rfl ?_
  refine J.callVI C (sp_X2_formula hl _) rfl kMl_X6_128 mdX2_formula ⟨(Nat.le_of_ble_eq_true rfl), (Nat.le_of_ble_eq_true rfl)⟩ dk_2 rfl rfl (Nat.le_of_ble_eq_true rfl) dX6_repeat_23 ⟨(Nat.le_of_ble_eq_true rfl), (Nat.le_of_ble_eq_true rfl)⟩ ?_
  refine J.bipush C (82) dX6_repeat_26 (by decide) ?_
  refine J.iload_n (i := 1) C dX6_repeat_28 rfl rfl ?_
  refine J.iconst C (-1) dX6_repeat_29 (by decide) ?_
  refine J.callVBI (hp := (dkh g ad rst)) C rfl (sp_X2_enterCiting hl _ _ _ _) rfl kMl_X6_131 mdX2_enterCiting ⟨(Nat.le_of_ble_eq_true rfl), (Nat.le_of_ble_eq_true rfl)⟩ dk_2 rfl rfl (Nat.le_of_ble_eq_true rfl) dX6_repeat_30 ⟨(Nat.le_of_ble_eq_true rfl), (Nat.le_of_ble_eq_true rfl)⟩ hx (Nat.le_of_ble_eq_true rfl) (Nat.le_of_ble_eq_true rfl) H (fun r30 s30 H => ?_)
  exact J.iretL C hr (Nat.le_of_ble_eq_true rfl) (Nat.le_of_ble_eq_true rfl) dX6_repeat_33 H

/-! X6_requireTwoLines -/
abbrev mX6_requireTwoLines : MD := (yX6_requireTwoLines, cX6_requireTwoLines, 3, none)
theorem mdX6_requireTwoLines : MDv mX6_requireTwoLines RX6 2 := ⟨kIm_X6_requireTwoLines, kSe_X6_requireTwoLines, kIn_X6, kCo_X6_requireTwoLines, by decide +kernel⟩
def P_X6_requireTwoLines (σ : DS) (a1 : Int32) (a2 : Int32) : Res DS Unit := (bd (P_X6_requireLine σ a1) fun _ s2 => (bd (P_X6_requireLine s2 a2) fun _ s7 => (bd (P_X6_requireCitable s7 a1) fun _ s12 => (bd (P_X6_requireCitable s12 a2) fun _ s17 => (some (.inl (), s17))))))
set_option maxRecDepth 100000 in
theorem sp_X6_requireTwoLines {l : Launch} (hl : l.stackTraces = false) {g : Gy} {ad : Nat → Nat} {rst : va_W} {σ : DS} (a1 : Int32) (a2 : Int32) : SpR l mX6_requireTwoLines 8 4 24 mV g [.ref (ad 0), .int a1, .int a2] (dkh g ad rst) σ (P_X6_requireTwoLines σ a1 a2) := by
  refine SpR.of hl (by decide) (Nat.le_of_ble_eq_true rfl) (fun rr H p e s m args below meth c A C hr hx => ?_)
  unfold P_X6_requireTwoLines at H
  refine J.lw (lv' := [(0, .ref (ad 0)), (1, .int a1), (2, .int a2)]) ⟨rfl, rfl, rfl, trivial⟩ ?_
  refine J.aload_n (i := 0) C dX6_requireTwoLines_0 rfl rfl ?_
  refine J.iload_n (i := 1) C dX6_requireTwoLines_1 rfl rfl ?_
  refine J.callVBV (hp := (dkh g ad rst)) C rfl (sp_X6_requireLine hl _) rfl kMl_X6_122 mdX6_requireLine ⟨(Nat.le_of_ble_eq_true rfl), (Nat.le_of_ble_eq_true rfl)⟩ dk_0 rfl rfl (Nat.le_of_ble_eq_true rfl) dX6_requireTwoLines_2 ⟨(Nat.le_of_ble_eq_true rfl), (Nat.le_of_ble_eq_true rfl)⟩ hx (Nat.le_of_ble_eq_true rfl) (Nat.le_of_ble_eq_true rfl) H (fun _ s2 H => ?_)
  refine J.aload_n (i := 0) C dX6_requireTwoLines_5 rfl rfl ?_
  refine J.iload_n (i := 2) C dX6_requireTwoLines_6 rfl rfl ?_
  refine J.callVBV (hp := (dkh g ad rst)) C rfl (sp_X6_requireLine hl _) rfl kMl_X6_122 mdX6_requireLine ⟨(Nat.le_of_ble_eq_true rfl), (Nat.le_of_ble_eq_true rfl)⟩ dk_0 rfl rfl (Nat.le_of_ble_eq_true rfl) dX6_requireTwoLines_7 ⟨(Nat.le_of_ble_eq_true rfl), (Nat.le_of_ble_eq_true rfl)⟩ hx (Nat.le_of_ble_eq_true rfl) (Nat.le_of_ble_eq_true rfl) H (fun _ s7 H => ?_)
  refine J.aload_n (i := 0) C dX6_requireTwoLines_10 rfl rfl ?_
  refine J.iload_n (i := 1) C dX6_requireTwoLines_11 rfl rfl ?_
  refine J.callVBV (hp := (dkh g ad rst)) C rfl (sp_X6_requireCitable hl _) rfl kMl_X6_125 mdX6_requireCitable ⟨(Nat.le_of_ble_eq_true rfl), (Nat.le_of_ble_eq_true rfl)⟩ dk_0 rfl rfl (Nat.le_of_ble_eq_true rfl) dX6_requireTwoLines_12 ⟨(Nat.le_of_ble_eq_true rfl), (Nat.le_of_ble_eq_true rfl)⟩ hx (Nat.le_of_ble_eq_true rfl) (Nat.le_of_ble_eq_true rfl) H (fun _ s12 H => ?_)
  refine J.aload_n (i := 0) C dX6_requireTwoLines_15 rfl rfl ?_
  refine J.iload_n (i := 2) C dX6_requireTwoLines_16 rfl rfl ?_
  refine J.callVBV (hp := (dkh g ad rst)) C rfl (sp_X6_requireCitable hl _) rfl kMl_X6_125 mdX6_requireCitable ⟨(Nat.le_of_ble_eq_true rfl), (Nat.le_of_ble_eq_true rfl)⟩ dk_0 rfl rfl (Nat.le_of_ble_eq_true rfl) dX6_requireTwoLines_17 ⟨(Nat.le_of_ble_eq_true rfl), (Nat.le_of_ble_eq_true rfl)⟩ hx (Nat.le_of_ble_eq_true rfl) (Nat.le_of_ble_eq_true rfl) H (fun _ s17 H => ?_)
  exact J.vretL C hr (Nat.le_of_ble_eq_true rfl) (Nat.le_of_ble_eq_true rfl) dX6_requireTwoLines_20 H

