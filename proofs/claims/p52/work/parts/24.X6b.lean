/-! X6_makeConjunction -/
abbrev mX6_makeConjunction : MD := (yX6_makeConjunction, cX6_makeConjunction, 4, some .int)
theorem mdX6_makeConjunction : MDv mX6_makeConjunction RX6 2 := ⟨kIm_X6_makeConjunction, kSe_X6_makeConjunction, kIn_X6, kCo_X6_makeConjunction, by decide +kernel⟩
def P_X6_makeConjunction (σ : DS) (a1 : Int32) (a2 : Int32) : Res DS Int32 := (bd (P_X6_requireTwoLines σ a1 a2) fun _ s3 => (bd (P_X6_requireRoom s3 ) fun _ s7 => (bd (P_X0_enter s7 (75 : Int32) (F_X2_formula s7 a1) (F_X2_formula s7 a2)) fun r32 s32 => (bd (P_X6_made s32 r32) fun r35 s35 => (lt r35 fun z38 => (bd (P_X2_enterCiting s35 z38 (107 : Int32) a1 a2) fun r48 s48 => (some (.inl r48, s48))))))))
set_option maxRecDepth 100000 in
theorem sp_X6_makeConjunction {l : Launch} (hl : l.stackTraces = false) {g : Gy} {ad : Nat → Nat} {rst : va_W} {σ : DS} (a1 : Int32) (a2 : Int32) : SpR l mX6_makeConjunction 9 6 36 mI g [.ref (ad 0), .int a1, .int a2] (dkh g ad rst) σ (P_X6_makeConjunction σ a1 a2) := by
  refine SpR.of hl (by decide) (Nat.le_of_ble_eq_true rfl) (fun rr H p e s m args below meth c A C hr hx => ?_)
  unfold P_X6_makeConjunction at H
  refine J.lw (lv' := [(0, .ref (ad 0)), (1, .int a1), (2, .int a2)]) ⟨rfl, rfl, rfl, trivial⟩ ?_
  refine J.aload_n (i := 0) C dX6_makeConjunction_0 rfl rfl ?_
  refine J.iload_n (i := 1) C dX6_makeConjunction_1 rfl rfl ?_
  refine J.iload_n (i := 2) C dX6_makeConjunction_2 rfl rfl ?_
  refine J.callVBV (hp := (dkh g ad rst)) C rfl (sp_X6_requireTwoLines hl _ _) rfl kMl_X6_135 mdX6_requireTwoLines ⟨(Nat.le_of_ble_eq_true rfl), (Nat.le_of_ble_eq_true rfl)⟩ dk_0 rfl rfl (Nat.le_of_ble_eq_true rfl) dX6_makeConjunction_3 ⟨(Nat.le_of_ble_eq_true rfl), (Nat.le_of_ble_eq_true rfl)⟩ hx (Nat.le_of_ble_eq_true rfl) (Nat.le_of_ble_eq_true rfl) H (fun _ s3 H => ?_)
  refine J.aload_n (i := 0) C dX6_makeConjunction_6 rfl rfl ?_
  refine J.callVBV (hp := (dkh g ad rst)) C rfl (sp_X6_requireRoom hl ) rfl kMl_X6_104 mdX6_requireRoom ⟨(Nat.le_of_ble_eq_true rfl), (Nat.le_of_ble_eq_true rfl)⟩ dk_0 rfl rfl (Nat.le_of_ble_eq_true rfl) dX6_makeConjunction_7 ⟨(Nat.le_of_ble_eq_true rfl), (Nat.le_of_ble_eq_true rfl)⟩ hx (Nat.le_of_ble_eq_true rfl) (Nat.le_of_ble_eq_true rfl) H (fun _ s7 H => ?_)
  refine J.aload_n (i := 0) C dX6_makeConjunction_10 rfl rfl ?_
  refine J.get C 0 0 dk_0 rfl (by decide) kFl_X6_15 inB_X6 rfl dX6_makeConjunction_11 ?_
  refine J.bipush C (75) dX6_makeConjunction_14 (by decide) ?_
  refine J.aload_n (i := 0) C dX6_makeConjunction_16 rfl rfl ?_
  refine J.get C 0 1 dk_0 rfl (by decide) kFl_X6_21 inB_X6 rfl dX6_makeConjunction_17 ?_
  refine J.iload_n (i := 1) C dX6_makeConjunction_20 rfl rfl ?_
  refine J.callVI C (sp_X2_formula hl _) rfl kMl_X6_128 mdX2_formula ⟨(Nat.le_of_ble_eq_true rfl), (Nat.le_of_ble_eq_true rfl)⟩ dk_2 rfl rfl (Nat.le_of_ble_eq_true rfl) dX6_makeConjunction_21 ⟨(Nat.le_of_ble_eq_true rfl), (Nat.le_of_ble_eq_true rfl)⟩ ?_
  refine J.aload_n (i := 0) C dX6_makeConjunction_24 rfl rfl ?_
  refine J.get C 0 1 dk_0 rfl (by decide) kFl_X6_21 inB_X6 rfl dX6_makeConjunction_25 ?_
  refine J.iload_n (i := 2) C dX6_makeConjunction_28 rfl rfl ?_
  refine J.callVI C (sp_X2_formula hl _) rfl kMl_X6_128 mdX2_formula ⟨(Nat.le_of_ble_eq_true rfl), (Nat.le_of_ble_eq_true rfl)⟩ dk_2 rfl rfl (Nat.le_of_ble_eq_true rfl) dX6_makeConjunction_29 ⟨(Nat.le_of_ble_eq_true rfl), (Nat.le_of_ble_eq_true rfl)⟩ ?_
  refine J.callVBI (hp := (dkh g ad rst)) C rfl (sp_X0_enter hl _ _ _) rfl kMl_X6_52 mdX0_enter ⟨(Nat.le_of_ble_eq_true rfl), (Nat.le_of_ble_eq_true rfl)⟩ dk_1 rfl rfl (Nat.le_of_ble_eq_true rfl) dX6_makeConjunction_32 ⟨(Nat.le_of_ble_eq_true rfl), (Nat.le_of_ble_eq_true rfl)⟩ hx (Nat.le_of_ble_eq_true rfl) (Nat.le_of_ble_eq_true rfl) H (fun r32 s32 H => ?_)
  refine J.callSBI (hp := (dkh g ad rst)) C rfl (sp_X6_made hl _) rfl kMl_X6_56 mdX6_made ⟨(Nat.le_of_ble_eq_true rfl), (Nat.le_of_ble_eq_true rfl)⟩ rfl (Nat.le_of_ble_eq_true rfl) dX6_makeConjunction_35 ⟨(Nat.le_of_ble_eq_true rfl), (Nat.le_of_ble_eq_true rfl)⟩ hx (Nat.le_of_ble_eq_true rfl) (Nat.le_of_ble_eq_true rfl) H (fun r35 s35 H => ?_)
  refine J.istore_nL (i := 3) C dX6_makeConjunction_38 rfl (by decide) H (fun z38 H => ?_)
  refine J.aload_n (i := 0) C dX6_makeConjunction_39 rfl rfl ?_
  refine J.get C 0 1 dk_0 rfl (by decide) kFl_X6_21 inB_X6 rfl dX6_makeConjunction_40 ?_
  refine J.iload_n (i := 3) C dX6_makeConjunction_43 rfl rfl ?_
  refine J.bipush C (107) dX6_makeConjunction_44 (by decide) ?_
  refine J.iload_n (i := 1) C dX6_makeConjunction_46 rfl rfl ?_
  refine J.iload_n (i := 2) C dX6_makeConjunction_47 rfl rfl ?_
  refine J.callVBI (hp := (dkh g ad rst)) C rfl (sp_X2_enterCiting hl _ _ _ _) rfl kMl_X6_131 mdX2_enterCiting ⟨(Nat.le_of_ble_eq_true rfl), (Nat.le_of_ble_eq_true rfl)⟩ dk_2 rfl rfl (Nat.le_of_ble_eq_true rfl) dX6_makeConjunction_48 ⟨(Nat.le_of_ble_eq_true rfl), (Nat.le_of_ble_eq_true rfl)⟩ hx (Nat.le_of_ble_eq_true rfl) (Nat.le_of_ble_eq_true rfl) H (fun r48 s48 H => ?_)
  exact J.iretL C hr (Nat.le_of_ble_eq_true rfl) (Nat.le_of_ble_eq_true rfl) dX6_makeConjunction_51 H

/-! X6_useConjunction -/
def B_X6_useConjunction_38 (σ : DS) (l1 : Int32) (l2 : Int32) (l3 : Int32) (t0 : Int32) : Res DS Int32 := (bd (P_X6_requireShape σ t0) fun _ s38 => (bd (P_X6_requireRoom s38 ) fun _ s42 => (if l2 = 0 then (bd (P_X2_enterCiting s42 (F_X0_left s42 l3) (108 : Int32) l1 (-1 : Int32)) fun r87 s87 => (some (.inl r87, s87))) else (bd (P_X2_enterCiting s42 (F_X0_right s42 l3) (114 : Int32) l1 (-1 : Int32)) fun r65 s65 => (some (.inl r65, s65))))))
set_option maxRecDepth 100000 in
theorem bl_X6_useConjunction_38 {l : Launch} (hl : l.stackTraces = false) {g : Gy} {ad : Nat → Nat} {rst : va_W} {p : Program} {e : Env} {s : State} {m : MethodId} {args : Array Value} {below : List Frame} {meth : Method} {c : Code} {A : Nat → Prop} (C : Cx p l s m args meth c g A yX6_useConjunction.cls cX6_useConjunction 4) (hr : meth.sig.returnType = some .int) (hx : ∀ x ∈ c.exceptionTable.toList, False) {rr : (Int32 ⊕ String) × DS} (σ : DS) (l1 : Int32) (l2 : Int32) (l3 : Int32) (t0 : Int32) (H : B_X6_useConjunction_38 σ l1 l2 l3 t0 = some rr) : J p l e (rmOf 8 4 24) s m args below meth c g A 4 2 12 (QR mI g A (dkh g ad rst) rr below args s 4 24) 38 [(0, .ref (ad 0)), (1, .int l1), (2, .int l2), (3, .int l3)] [.int t0, .ref (ad 0)] ((dkh g ad rst) σ) := by
  unfold B_X6_useConjunction_38 at H
  refine J.callVBV (hp := (dkh g ad rst)) C rfl (sp_X6_requireShape hl _) rfl kMl_X6_100 mdX6_requireShape ⟨(Nat.le_of_ble_eq_true rfl), (Nat.le_of_ble_eq_true rfl)⟩ dk_0 rfl rfl (Nat.le_of_ble_eq_true rfl) dX6_useConjunction_38 ⟨(Nat.le_of_ble_eq_true rfl), (Nat.le_of_ble_eq_true rfl)⟩ hx (Nat.le_of_ble_eq_true rfl) (Nat.le_of_ble_eq_true rfl) H (fun _ s38 H => ?_)
  refine J.aload_n (i := 0) C dX6_useConjunction_41 rfl rfl ?_
  refine J.callVBV (hp := (dkh g ad rst)) C rfl (sp_X6_requireRoom hl ) rfl kMl_X6_104 mdX6_requireRoom ⟨(Nat.le_of_ble_eq_true rfl), (Nat.le_of_ble_eq_true rfl)⟩ dk_0 rfl rfl (Nat.le_of_ble_eq_true rfl) dX6_useConjunction_42 ⟨(Nat.le_of_ble_eq_true rfl), (Nat.le_of_ble_eq_true rfl)⟩ hx (Nat.le_of_ble_eq_true rfl) (Nat.le_of_ble_eq_true rfl) H (fun _ s42 H => ?_)
  refine J.iload_n (i := 2) C dX6_useConjunction_45 rfl rfl ?_
  refine J.if_eqL (tgt := 71) C dX6_useConjunction_46 (by decide) H (fun c_46 H => ?_) (fun c_46 H => ?_)
  · refine J.aload_n (i := 0) C dX6_useConjunction_71 rfl rfl ?_
    refine J.get C 0 1 dk_0 rfl (by decide) kFl_X6_21 inB_X6 rfl dX6_useConjunction_72 ?_
    refine J.aload_n (i := 0) C dX6_useConjunction_75 rfl rfl ?_
    refine J.get C 0 0 dk_0 rfl (by decide) kFl_X6_15 inB_X6 rfl dX6_useConjunction_76 ?_
    refine J.iload_n (i := 3) C dX6_useConjunction_79 rfl rfl ?_
    refine J.callVI C (sp_X0_left hl _) rfl kMl_X6_145 mdX0_left ⟨(Nat.le_of_ble_eq_true rfl), (Nat.le_of_ble_eq_true rfl)⟩ dk_1 rfl rfl (Nat.le_of_ble_eq_true rfl) dX6_useConjunction_80 ⟨(Nat.le_of_ble_eq_true rfl), (Nat.le_of_ble_eq_true rfl)⟩ ?_
    refine J.bipush C (108) dX6_useConjunction_83 (by decide) ?_
    refine J.iload_n (i := 1) C dX6_useConjunction_85 rfl rfl ?_
    refine J.iconst C (-1) dX6_useConjunction_86 (by decide) ?_
    refine J.callVBI (hp := (dkh g ad rst)) C rfl (sp_X2_enterCiting hl _ _ _ _) rfl kMl_X6_131 mdX2_enterCiting ⟨(Nat.le_of_ble_eq_true rfl), (Nat.le_of_ble_eq_true rfl)⟩ dk_2 rfl rfl (Nat.le_of_ble_eq_true rfl) dX6_useConjunction_87 ⟨(Nat.le_of_ble_eq_true rfl), (Nat.le_of_ble_eq_true rfl)⟩ hx (Nat.le_of_ble_eq_true rfl) (Nat.le_of_ble_eq_true rfl) H (fun r87 s87 H => ?_)
    exact J.iretL C hr (Nat.le_of_ble_eq_true rfl) (Nat.le_of_ble_eq_true rfl) dX6_useConjunction_90 H
  · refine J.aload_n (i := 0) C dX6_useConjunction_49 rfl rfl ?_
    refine J.get C 0 1 dk_0 rfl (by decide) kFl_X6_21 inB_X6 rfl dX6_useConjunction_50 ?_
    refine J.aload_n (i := 0) C dX6_useConjunction_53 rfl rfl ?_
    refine J.get C 0 0 dk_0 rfl (by decide) kFl_X6_15 inB_X6 rfl dX6_useConjunction_54 ?_
    refine J.iload_n (i := 3) C dX6_useConjunction_57 rfl rfl ?_
    refine J.callVI C (sp_X0_right hl _) rfl kMl_X6_142 mdX0_right ⟨(Nat.le_of_ble_eq_true rfl), (Nat.le_of_ble_eq_true rfl)⟩ dk_1 rfl rfl (Nat.le_of_ble_eq_true rfl) dX6_useConjunction_58 ⟨(Nat.le_of_ble_eq_true rfl), (Nat.le_of_ble_eq_true rfl)⟩ ?_
    refine J.bipush C (114) dX6_useConjunction_61 (by decide) ?_
    refine J.iload_n (i := 1) C dX6_useConjunction_63 rfl rfl ?_
    refine J.iconst C (-1) dX6_useConjunction_64 (by decide) ?_
    refine J.callVBI (hp := (dkh g ad rst)) C rfl (sp_X2_enterCiting hl _ _ _ _) rfl kMl_X6_131 mdX2_enterCiting ⟨(Nat.le_of_ble_eq_true rfl), (Nat.le_of_ble_eq_true rfl)⟩ dk_2 rfl rfl (Nat.le_of_ble_eq_true rfl) dX6_useConjunction_65 ⟨(Nat.le_of_ble_eq_true rfl), (Nat.le_of_ble_eq_true rfl)⟩ hx (Nat.le_of_ble_eq_true rfl) (Nat.le_of_ble_eq_true rfl) H (fun r65 s65 H => ?_)
    refine J.goto (tgt := 90) C dX6_useConjunction_68 (by decide) ?_
    exact J.iretL C hr (Nat.le_of_ble_eq_true rfl) (Nat.le_of_ble_eq_true rfl) dX6_useConjunction_90 H
abbrev mX6_useConjunction : MD := (yX6_useConjunction, cX6_useConjunction, 4, some .int)
theorem mdX6_useConjunction : MDv mX6_useConjunction RX6 2 := ⟨kIm_X6_useConjunction, kSe_X6_useConjunction, kIn_X6, kCo_X6_useConjunction, by decide +kernel⟩
def P_X6_useConjunction (σ : DS) (a1 : Int32) (a2 : Int32) : Res DS Int32 := (bd (P_X6_requireLine σ a1) fun _ s2 => (bd (P_X6_requireCitable s2 a1) fun _ s7 => (lt (F_X2_formula s7 a1) fun z18 => (if (F_X0_kind s7 z18) = (75 : Int32) then (B_X6_useConjunction_38 s7 a1 a2 z18 (1 : Int32)) else (B_X6_useConjunction_38 s7 a1 a2 z18 (0 : Int32))))))
set_option maxRecDepth 100000 in
theorem sp_X6_useConjunction {l : Launch} (hl : l.stackTraces = false) {g : Gy} {ad : Nat → Nat} {rst : va_W} {σ : DS} (a1 : Int32) (a2 : Int32) : SpR l mX6_useConjunction 8 4 24 mI g [.ref (ad 0), .int a1, .int a2] (dkh g ad rst) σ (P_X6_useConjunction σ a1 a2) := by
  refine SpR.of hl (by decide) (Nat.le_of_ble_eq_true rfl) (fun rr H p e s m args below meth c A C hr hx => ?_)
  unfold P_X6_useConjunction at H
  refine J.lw (lv' := [(0, .ref (ad 0)), (1, .int a1), (2, .int a2)]) ⟨rfl, rfl, rfl, trivial⟩ ?_
  refine J.aload_n (i := 0) C dX6_useConjunction_0 rfl rfl ?_
  refine J.iload_n (i := 1) C dX6_useConjunction_1 rfl rfl ?_
  refine J.callVBV (hp := (dkh g ad rst)) C rfl (sp_X6_requireLine hl _) rfl kMl_X6_122 mdX6_requireLine ⟨(Nat.le_of_ble_eq_true rfl), (Nat.le_of_ble_eq_true rfl)⟩ dk_0 rfl rfl (Nat.le_of_ble_eq_true rfl) dX6_useConjunction_2 ⟨(Nat.le_of_ble_eq_true rfl), (Nat.le_of_ble_eq_true rfl)⟩ hx (Nat.le_of_ble_eq_true rfl) (Nat.le_of_ble_eq_true rfl) H (fun _ s2 H => ?_)
  refine J.aload_n (i := 0) C dX6_useConjunction_5 rfl rfl ?_
  refine J.iload_n (i := 1) C dX6_useConjunction_6 rfl rfl ?_
  refine J.callVBV (hp := (dkh g ad rst)) C rfl (sp_X6_requireCitable hl _) rfl kMl_X6_125 mdX6_requireCitable ⟨(Nat.le_of_ble_eq_true rfl), (Nat.le_of_ble_eq_true rfl)⟩ dk_0 rfl rfl (Nat.le_of_ble_eq_true rfl) dX6_useConjunction_7 ⟨(Nat.le_of_ble_eq_true rfl), (Nat.le_of_ble_eq_true rfl)⟩ hx (Nat.le_of_ble_eq_true rfl) (Nat.le_of_ble_eq_true rfl) H (fun _ s7 H => ?_)
  refine J.aload_n (i := 0) C dX6_useConjunction_10 rfl rfl ?_
  refine J.get C 0 1 dk_0 rfl (by decide) kFl_X6_21 inB_X6 rfl dX6_useConjunction_11 ?_
  refine J.iload_n (i := 1) C dX6_useConjunction_14 rfl rfl ?_
  refine J.callVI C (sp_X2_formula hl _) rfl kMl_X6_128 mdX2_formula ⟨(Nat.le_of_ble_eq_true rfl), (Nat.le_of_ble_eq_true rfl)⟩ dk_2 rfl rfl (Nat.le_of_ble_eq_true rfl) dX6_useConjunction_15 ⟨(Nat.le_of_ble_eq_true rfl), (Nat.le_of_ble_eq_true rfl)⟩ ?_
  refine J.istore_nL (i := 3) C dX6_useConjunction_18 rfl (by decide) H (fun z18 H => ?_)
  refine J.aload_n (i := 0) C dX6_useConjunction_19 rfl rfl ?_
  refine J.aload_n (i := 0) C dX6_useConjunction_20 rfl rfl ?_
  refine J.get C 0 0 dk_0 rfl (by decide) kFl_X6_15 inB_X6 rfl dX6_useConjunction_21 ?_
  refine J.iload_n (i := 3) C dX6_useConjunction_24 rfl rfl ?_
  refine J.callVI C (sp_X0_kind hl _) rfl kMl_X6_138 mdX0_kind ⟨(Nat.le_of_ble_eq_true rfl), (Nat.le_of_ble_eq_true rfl)⟩ dk_1 rfl rfl (Nat.le_of_ble_eq_true rfl) dX6_useConjunction_25 ⟨(Nat.le_of_ble_eq_true rfl), (Nat.le_of_ble_eq_true rfl)⟩ ?_
  refine J.bipush C (75) dX6_useConjunction_28 (by decide) ?_
  refine J.icmp_neL (tgt := 37) C dX6_useConjunction_30 (by decide) H (fun c_30 H => ?_) (fun c_30 H => ?_)
  · refine J.iconst C (0) dX6_useConjunction_37 (by decide) ?_
    refine J.widen (k := 2) (n := 12) (Nat.le_of_ble_eq_true rfl) (Nat.le_of_ble_eq_true rfl) ?_
    refine J.lw (lv' := [(0, .ref (ad 0)), (1, .int a1), (2, .int a2), (3, .int z18)]) ⟨rfl, rfl, rfl, rfl, trivial⟩ ?_
    exact bl_X6_useConjunction_38 hl C hr hx  _ _ _ _ _  H
  · refine J.iconst C (1) dX6_useConjunction_33 (by decide) ?_
    refine J.goto (tgt := 38) C dX6_useConjunction_34 (by decide) ?_
    refine J.widen (k := 2) (n := 12) (Nat.le_of_ble_eq_true rfl) (Nat.le_of_ble_eq_true rfl) ?_
    refine J.lw (lv' := [(0, .ref (ad 0)), (1, .int a1), (2, .int a2), (3, .int z18)]) ⟨rfl, rfl, rfl, rfl, trivial⟩ ?_
    exact bl_X6_useConjunction_38 hl C hr hx  _ _ _ _ _  H

/-! X6_makeDisjunction -/
def B_X6_makeDisjunction_60 (σ : DS) (l1 : Int32) (l3 : Int32) (t0 : Int32) : Res DS Int32 := (bd (P_X6_made σ t0) fun r60 s60 => (lt r60 fun z63 => (if l3 = 0 then (bd (P_X2_enterCiting s60 z63 (97 : Int32) l1 (-1 : Int32)) fun r84 s84 => (some (.inl r84, s84))) else (bd (P_X2_enterCiting s60 z63 (98 : Int32) l1 (-1 : Int32)) fun r84 s84 => (some (.inl r84, s84))))))
set_option maxRecDepth 100000 in
theorem bl_X6_makeDisjunction_60 {l : Launch} (hl : l.stackTraces = false) {g : Gy} {ad : Nat → Nat} {rst : va_W} {p : Program} {e : Env} {s : State} {m : MethodId} {args : Array Value} {below : List Frame} {meth : Method} {c : Code} {A : Nat → Prop} (C : Cx p l s m args meth c g A yX6_makeDisjunction.cls cX6_makeDisjunction 6) (hr : meth.sig.returnType = some .int) (hx : ∀ x ∈ c.exceptionTable.toList, False) {rr : (Int32 ⊕ String) × DS} (σ : DS) (l1 : Int32) (l3 : Int32) (t0 : Int32) (H : B_X6_makeDisjunction_60 σ l1 l3 t0 = some rr) : J p l e (rmOf 8 5 30) s m args below meth c g A 6 4 24 (QR mI g A (dkh g ad rst) rr below args s 5 30) 60 [(0, .ref (ad 0)), (1, .int l1), (3, .int l3)] [.int t0] ((dkh g ad rst) σ) := by
  unfold B_X6_makeDisjunction_60 at H
  refine J.callSBI (hp := (dkh g ad rst)) C rfl (sp_X6_made hl _) rfl kMl_X6_56 mdX6_made ⟨(Nat.le_of_ble_eq_true rfl), (Nat.le_of_ble_eq_true rfl)⟩ rfl (Nat.le_of_ble_eq_true rfl) dX6_makeDisjunction_60 ⟨(Nat.le_of_ble_eq_true rfl), (Nat.le_of_ble_eq_true rfl)⟩ hx (Nat.le_of_ble_eq_true rfl) (Nat.le_of_ble_eq_true rfl) H (fun r60 s60 H => ?_)
  refine J.istoreL C dX6_makeDisjunction_63 (by decide) H (fun z63 H => ?_)
  refine J.aload_n (i := 0) C dX6_makeDisjunction_65 rfl rfl ?_
  refine J.get C 0 1 dk_0 rfl (by decide) kFl_X6_21 inB_X6 rfl dX6_makeDisjunction_66 ?_
  refine J.iload C dX6_makeDisjunction_69 rfl ?_
  refine J.iload_n (i := 3) C dX6_makeDisjunction_71 rfl rfl ?_
  refine J.if_eqL (tgt := 80) C dX6_makeDisjunction_72 (by decide) H (fun c_72 H => ?_) (fun c_72 H => ?_)
  · refine J.bipush C (97) dX6_makeDisjunction_80 (by decide) ?_
    refine J.iload_n (i := 1) C dX6_makeDisjunction_82 rfl rfl ?_
    refine J.iconst C (-1) dX6_makeDisjunction_83 (by decide) ?_
    refine J.callVBI (hp := (dkh g ad rst)) C rfl (sp_X2_enterCiting hl _ _ _ _) rfl kMl_X6_131 mdX2_enterCiting ⟨(Nat.le_of_ble_eq_true rfl), (Nat.le_of_ble_eq_true rfl)⟩ dk_2 rfl rfl (Nat.le_of_ble_eq_true rfl) dX6_makeDisjunction_84 ⟨(Nat.le_of_ble_eq_true rfl), (Nat.le_of_ble_eq_true rfl)⟩ hx (Nat.le_of_ble_eq_true rfl) (Nat.le_of_ble_eq_true rfl) H (fun r84 s84 H => ?_)
    exact J.iretL C hr (Nat.le_of_ble_eq_true rfl) (Nat.le_of_ble_eq_true rfl) dX6_makeDisjunction_87 H
  · refine J.bipush C (98) dX6_makeDisjunction_75 (by decide) ?_
    refine J.goto (tgt := 82) C dX6_makeDisjunction_77 (by decide) ?_
    refine J.iload_n (i := 1) C dX6_makeDisjunction_82 rfl rfl ?_
    refine J.iconst C (-1) dX6_makeDisjunction_83 (by decide) ?_
    refine J.callVBI (hp := (dkh g ad rst)) C rfl (sp_X2_enterCiting hl _ _ _ _) rfl kMl_X6_131 mdX2_enterCiting ⟨(Nat.le_of_ble_eq_true rfl), (Nat.le_of_ble_eq_true rfl)⟩ dk_2 rfl rfl (Nat.le_of_ble_eq_true rfl) dX6_makeDisjunction_84 ⟨(Nat.le_of_ble_eq_true rfl), (Nat.le_of_ble_eq_true rfl)⟩ hx (Nat.le_of_ble_eq_true rfl) (Nat.le_of_ble_eq_true rfl) H (fun r84 s84 H => ?_)
    exact J.iretL C hr (Nat.le_of_ble_eq_true rfl) (Nat.le_of_ble_eq_true rfl) dX6_makeDisjunction_87 H
abbrev mX6_makeDisjunction : MD := (yX6_makeDisjunction, cX6_makeDisjunction, 6, some .int)
theorem mdX6_makeDisjunction : MDv mX6_makeDisjunction RX6 3 := ⟨kIm_X6_makeDisjunction, kSe_X6_makeDisjunction, kIn_X6, kCo_X6_makeDisjunction, by decide +kernel⟩
def P_X6_makeDisjunction (σ : DS) (a1 : Int32) (a2 : Int32) (a3 : Int32) : Res DS Int32 := (bd (P_X6_requireLine σ a1) fun _ s2 => (bd (P_X6_requireFormula s2 a2) fun _ s7 => (bd (P_X6_requireCitable s7 a1) fun _ s12 => (bd (P_X6_requireRoom s12 ) fun _ s16 => (lt (F_X2_formula s16 a1) fun z27 => (if a3 = 0 then (bd (P_X0_enter s16 (65 : Int32) z27 a2) fun r57 s57 => (B_X6_makeDisjunction_60 s57 a1 a3 r57)) else (bd (P_X0_enter s16 (65 : Int32) a2 z27) fun r42 s42 => (B_X6_makeDisjunction_60 s42 a1 a3 r42))))))))
set_option maxRecDepth 100000 in
theorem sp_X6_makeDisjunction {l : Launch} (hl : l.stackTraces = false) {g : Gy} {ad : Nat → Nat} {rst : va_W} {σ : DS} (a1 : Int32) (a2 : Int32) (a3 : Int32) : SpR l mX6_makeDisjunction 8 5 30 mI g [.ref (ad 0), .int a1, .int a2, .int a3] (dkh g ad rst) σ (P_X6_makeDisjunction σ a1 a2 a3) := by
  refine SpR.of hl (by decide) (Nat.le_of_ble_eq_true rfl) (fun rr H p e s m args below meth c A C hr hx => ?_)
  unfold P_X6_makeDisjunction at H
  refine J.lw (lv' := [(0, .ref (ad 0)), (1, .int a1), (2, .int a2), (3, .int a3)]) ⟨rfl, rfl, rfl, rfl, trivial⟩ ?_
  refine J.aload_n (i := 0) C dX6_makeDisjunction_0 rfl rfl ?_
  refine J.iload_n (i := 1) C dX6_makeDisjunction_1 rfl rfl ?_
  refine J.callVBV (hp := (dkh g ad rst)) C rfl (sp_X6_requireLine hl _) rfl kMl_X6_122 mdX6_requireLine ⟨(Nat.le_of_ble_eq_true rfl), (Nat.le_of_ble_eq_true rfl)⟩ dk_0 rfl rfl (Nat.le_of_ble_eq_true rfl) dX6_makeDisjunction_2 ⟨(Nat.le_of_ble_eq_true rfl), (Nat.le_of_ble_eq_true rfl)⟩ hx (Nat.le_of_ble_eq_true rfl) (Nat.le_of_ble_eq_true rfl) H (fun _ s2 H => ?_)
  refine J.aload_n (i := 0) C dX6_makeDisjunction_5 rfl rfl ?_
  refine J.iload_n (i := 2) C dX6_makeDisjunction_6 rfl rfl ?_
  refine J.callVBV (hp := (dkh g ad rst)) C rfl (sp_X6_requireFormula hl _) rfl kMl_X6_60 mdX6_requireFormula ⟨(Nat.le_of_ble_eq_true rfl), (Nat.le_of_ble_eq_true rfl)⟩ dk_0 rfl rfl (Nat.le_of_ble_eq_true rfl) dX6_makeDisjunction_7 ⟨(Nat.le_of_ble_eq_true rfl), (Nat.le_of_ble_eq_true rfl)⟩ hx (Nat.le_of_ble_eq_true rfl) (Nat.le_of_ble_eq_true rfl) H (fun _ s7 H => ?_)
  refine J.aload_n (i := 0) C dX6_makeDisjunction_10 rfl rfl ?_
  refine J.iload_n (i := 1) C dX6_makeDisjunction_11 rfl rfl ?_
  refine J.callVBV (hp := (dkh g ad rst)) C rfl (sp_X6_requireCitable hl _) rfl kMl_X6_125 mdX6_requireCitable ⟨(Nat.le_of_ble_eq_true rfl), (Nat.le_of_ble_eq_true rfl)⟩ dk_0 rfl rfl (Nat.le_of_ble_eq_true rfl) dX6_makeDisjunction_12 ⟨(Nat.le_of_ble_eq_true rfl), (Nat.le_of_ble_eq_true rfl)⟩ hx (Nat.le_of_ble_eq_true rfl) (Nat.le_of_ble_eq_true rfl) H (fun _ s12 H => ?_)
  refine J.aload_n (i := 0) C dX6_makeDisjunction_15 rfl rfl ?_
  refine J.callVBV (hp := (dkh g ad rst)) C rfl (sp_X6_requireRoom hl ) rfl kMl_X6_104 mdX6_requireRoom ⟨(Nat.le_of_ble_eq_true rfl), (Nat.le_of_ble_eq_true rfl)⟩ dk_0 rfl rfl (Nat.le_of_ble_eq_true rfl) dX6_makeDisjunction_16 ⟨(Nat.le_of_ble_eq_true rfl), (Nat.le_of_ble_eq_true rfl)⟩ hx (Nat.le_of_ble_eq_true rfl) (Nat.le_of_ble_eq_true rfl) H (fun _ s16 H => ?_)
  refine J.aload_n (i := 0) C dX6_makeDisjunction_19 rfl rfl ?_
  refine J.get C 0 1 dk_0 rfl (by decide) kFl_X6_21 inB_X6 rfl dX6_makeDisjunction_20 ?_
  refine J.iload_n (i := 1) C dX6_makeDisjunction_23 rfl rfl ?_
  refine J.callVI C (sp_X2_formula hl _) rfl kMl_X6_128 mdX2_formula ⟨(Nat.le_of_ble_eq_true rfl), (Nat.le_of_ble_eq_true rfl)⟩ dk_2 rfl rfl (Nat.le_of_ble_eq_true rfl) dX6_makeDisjunction_24 ⟨(Nat.le_of_ble_eq_true rfl), (Nat.le_of_ble_eq_true rfl)⟩ ?_
  refine J.istoreL C dX6_makeDisjunction_27 (by decide) H (fun z27 H => ?_)
  refine J.iload_n (i := 3) C dX6_makeDisjunction_29 rfl rfl ?_
  refine J.if_eqL (tgt := 48) C dX6_makeDisjunction_30 (by decide) H (fun c_30 H => ?_) (fun c_30 H => ?_)
  · refine J.aload_n (i := 0) C dX6_makeDisjunction_48 rfl rfl ?_
    refine J.get C 0 0 dk_0 rfl (by decide) kFl_X6_15 inB_X6 rfl dX6_makeDisjunction_49 ?_
    refine J.bipush C (65) dX6_makeDisjunction_52 (by decide) ?_
    refine J.iload C dX6_makeDisjunction_54 rfl ?_
    refine J.iload_n (i := 2) C dX6_makeDisjunction_56 rfl rfl ?_
    refine J.callVBI (hp := (dkh g ad rst)) C rfl (sp_X0_enter hl _ _ _) rfl kMl_X6_52 mdX0_enter ⟨(Nat.le_of_ble_eq_true rfl), (Nat.le_of_ble_eq_true rfl)⟩ dk_1 rfl rfl (Nat.le_of_ble_eq_true rfl) dX6_makeDisjunction_57 ⟨(Nat.le_of_ble_eq_true rfl), (Nat.le_of_ble_eq_true rfl)⟩ hx (Nat.le_of_ble_eq_true rfl) (Nat.le_of_ble_eq_true rfl) H (fun r57 s57 H => ?_)
    refine J.widen (k := 4) (n := 24) (Nat.le_of_ble_eq_true rfl) (Nat.le_of_ble_eq_true rfl) ?_
    refine J.lw (lv' := [(0, .ref (ad 0)), (1, .int a1), (3, .int a3)]) ⟨rfl, rfl, rfl, trivial⟩ ?_
    exact bl_X6_makeDisjunction_60 hl C hr hx  _ _ _ _  H
  · refine J.aload_n (i := 0) C dX6_makeDisjunction_33 rfl rfl ?_
    refine J.get C 0 0 dk_0 rfl (by decide) kFl_X6_15 inB_X6 rfl dX6_makeDisjunction_34 ?_
    refine J.bipush C (65) dX6_makeDisjunction_37 (by decide) ?_
    refine J.iload_n (i := 2) C dX6_makeDisjunction_39 rfl rfl ?_
    refine J.iload C dX6_makeDisjunction_40 rfl ?_
    refine J.callVBI (hp := (dkh g ad rst)) C rfl (sp_X0_enter hl _ _ _) rfl kMl_X6_52 mdX0_enter ⟨(Nat.le_of_ble_eq_true rfl), (Nat.le_of_ble_eq_true rfl)⟩ dk_1 rfl rfl (Nat.le_of_ble_eq_true rfl) dX6_makeDisjunction_42 ⟨(Nat.le_of_ble_eq_true rfl), (Nat.le_of_ble_eq_true rfl)⟩ hx (Nat.le_of_ble_eq_true rfl) (Nat.le_of_ble_eq_true rfl) H (fun r42 s42 H => ?_)
    refine J.goto (tgt := 60) C dX6_makeDisjunction_45 (by decide) ?_
    refine J.widen (k := 4) (n := 24) (Nat.le_of_ble_eq_true rfl) (Nat.le_of_ble_eq_true rfl) ?_
    refine J.lw (lv' := [(0, .ref (ad 0)), (1, .int a1), (3, .int a3)]) ⟨rfl, rfl, rfl, trivial⟩ ?_
    exact bl_X6_makeDisjunction_60 hl C hr hx  _ _ _ _  H

/-! X6_requireBox -/
abbrev mX6_requireBox : MD := (yX6_requireBox, cX6_requireBox, 2, none)
theorem mdX6_requireBox : MDv mX6_requireBox RX6 1 := ⟨kIm_X6_requireBox, kSe_X6_requireBox, kIn_X6, kCo_X6_requireBox, by decide +kernel⟩
def P_X6_requireBox (σ : DS) (a1 : Int32) : Res DS Unit := (if (F_X2_hasBox σ a1) = 0 then (some (.inr "java/lang/IndexOutOfBoundsException", σ)) else (some (.inl (), σ)))
set_option maxRecDepth 100000 in
theorem sp_X6_requireBox {l : Launch} (hl : l.stackTraces = false) {g : Gy} {ad : Nat → Nat} {rst : va_W} {σ : DS} (a1 : Int32) : SpR l mX6_requireBox 7 1 6 mV g [.ref (ad 0), .int a1] (dkh g ad rst) σ (P_X6_requireBox σ a1) := by
  refine SpR.of hl (by decide) (Nat.le_of_ble_eq_true rfl) (fun rr H p e s m args below meth c A C hr hx => ?_)
  unfold P_X6_requireBox at H
  refine J.lw (lv' := [(0, .ref (ad 0)), (1, .int a1)]) ⟨rfl, rfl, trivial⟩ ?_
  refine J.aload_n (i := 0) C dX6_requireBox_0 rfl rfl ?_
  refine J.get C 0 1 dk_0 rfl (by decide) kFl_X6_21 inB_X6 rfl dX6_requireBox_1 ?_
  refine J.iload_n (i := 1) C dX6_requireBox_4 rfl rfl ?_
  refine J.callVI C (sp_X2_hasBox hl _) rfl kMl_X6_298 mdX2_hasBox ⟨(Nat.le_of_ble_eq_true rfl), (Nat.le_of_ble_eq_true rfl)⟩ dk_2 rfl rfl (Nat.le_of_ble_eq_true rfl) dX6_requireBox_5 ⟨(Nat.le_of_ble_eq_true rfl), (Nat.le_of_ble_eq_true rfl)⟩ ?_
  refine J.if_neL (tgt := 22) C dX6_requireBox_8 (by decide) H (fun c_8 H => ?_) (fun c_8 H => ?_)
  · exact J.vretL C hr (Nat.le_of_ble_eq_true rfl) (Nat.le_of_ble_eq_true rfl) dX6_requireBox_22 H
  · exact J.throwSWL (hp := (dkh g ad rst)) C th_IndexOutOfBoundsException_292 str_301 dX6_requireBox_11 dX6_requireBox_14 dX6_requireBox_15 dX6_requireBox_18 dX6_requireBox_21 hx ⟨(Nat.le_of_ble_eq_true rfl), (Nat.le_of_ble_eq_true rfl), (Nat.le_of_ble_eq_true rfl), (Nat.le_of_ble_eq_true rfl)⟩ (Nat.le_of_ble_eq_true rfl) (Nat.le_of_ble_eq_true rfl) H

/-! X6_requireCitableBox -/
abbrev mX6_requireCitableBox : MD := (yX6_requireCitableBox, cX6_requireCitableBox, 2, none)
theorem mdX6_requireCitableBox : MDv mX6_requireCitableBox RX6 1 := ⟨kIm_X6_requireCitableBox, kSe_X6_requireCitableBox, kIn_X6, kCo_X6_requireCitableBox, by decide +kernel⟩
def P_X6_requireCitableBox (σ : DS) (a1 : Int32) : Res DS Unit := (if (F_X2_isCitableBox σ a1) = 0 then (some (.inr "java/util/NoSuchElementException", σ)) else (some (.inl (), σ)))
set_option maxRecDepth 100000 in
theorem sp_X6_requireCitableBox {l : Launch} (hl : l.stackTraces = false) {g : Gy} {ad : Nat → Nat} {rst : va_W} {σ : DS} (a1 : Int32) : SpR l mX6_requireCitableBox 7 1 6 mV g [.ref (ad 0), .int a1] (dkh g ad rst) σ (P_X6_requireCitableBox σ a1) := by
  refine SpR.of hl (by decide) (Nat.le_of_ble_eq_true rfl) (fun rr H p e s m args below meth c A C hr hx => ?_)
  unfold P_X6_requireCitableBox at H
  refine J.lw (lv' := [(0, .ref (ad 0)), (1, .int a1)]) ⟨rfl, rfl, trivial⟩ ?_
  refine J.aload_n (i := 0) C dX6_requireCitableBox_0 rfl rfl ?_
  refine J.get C 0 1 dk_0 rfl (by decide) kFl_X6_21 inB_X6 rfl dX6_requireCitableBox_1 ?_
  refine J.iload_n (i := 1) C dX6_requireCitableBox_4 rfl rfl ?_
  refine J.callVI C (sp_X2_isCitableBox hl _) rfl kMl_X6_219 mdX2_isCitableBox ⟨(Nat.le_of_ble_eq_true rfl), (Nat.le_of_ble_eq_true rfl)⟩ dk_2 rfl rfl (Nat.le_of_ble_eq_true rfl) dX6_requireCitableBox_5 ⟨(Nat.le_of_ble_eq_true rfl), (Nat.le_of_ble_eq_true rfl)⟩ ?_
  refine J.if_neL (tgt := 22) C dX6_requireCitableBox_8 (by decide) H (fun c_8 H => ?_) (fun c_8 H => ?_)
  · exact J.vretL C hr (Nat.le_of_ble_eq_true rfl) (Nat.le_of_ble_eq_true rfl) dX6_requireCitableBox_22 H
  · exact J.throwNWL (hp := (dkh g ad rst)) C th_NoSuchElementException_77 str_308 dX6_requireCitableBox_11 dX6_requireCitableBox_14 dX6_requireCitableBox_15 dX6_requireCitableBox_18 dX6_requireCitableBox_21 hx ⟨(Nat.le_of_ble_eq_true rfl), (Nat.le_of_ble_eq_true rfl), (Nat.le_of_ble_eq_true rfl), (Nat.le_of_ble_eq_true rfl)⟩ (Nat.le_of_ble_eq_true rfl) (Nat.le_of_ble_eq_true rfl) H

/-! X6_useDisjunction -/
def B_X6_useDisjunction_137 (σ : DS) (l1 : Int32) (l2 : Int32) (l3 : Int32) (t0 : Int32) : Res DS Int32 := (bd (P_X6_requireShape σ t0) fun _ s137 => (bd (P_X6_requireRoom s137 ) fun _ s141 => (bd (P_X2_enterCiting s141 (F_X2_result s141 l2) (118 : Int32) l1 (-1 : Int32)) fun r160 s160 => (lt r160 fun z163 => (bd (P_X2_citeBoxes s160 z163 l2 l3) fun _ s173 => (some (.inl z163, s173)))))))
set_option maxRecDepth 100000 in
theorem bl_X6_useDisjunction_137 {l : Launch} (hl : l.stackTraces = false) {g : Gy} {ad : Nat → Nat} {rst : va_W} {p : Program} {e : Env} {s : State} {m : MethodId} {args : Array Value} {below : List Frame} {meth : Method} {c : Code} {A : Nat → Prop} (C : Cx p l s m args meth c g A yX6_useDisjunction.cls cX6_useDisjunction 6) (hr : meth.sig.returnType = some .int) (hx : ∀ x ∈ c.exceptionTable.toList, False) {rr : (Int32 ⊕ String) × DS} (σ : DS) (l1 : Int32) (l2 : Int32) (l3 : Int32) (t0 : Int32) (H : B_X6_useDisjunction_137 σ l1 l2 l3 t0 = some rr) : J p l e (rmOf 8 10 60) s m args below meth c g A 6 8 48 (QR mI g A (dkh g ad rst) rr below args s 10 60) 137 [(0, .ref (ad 0)), (1, .int l1), (2, .int l2), (3, .int l3)] [.int t0, .ref (ad 0)] ((dkh g ad rst) σ) := by
  unfold B_X6_useDisjunction_137 at H
  refine J.callVBV (hp := (dkh g ad rst)) C rfl (sp_X6_requireShape hl _) rfl kMl_X6_100 mdX6_requireShape ⟨(Nat.le_of_ble_eq_true rfl), (Nat.le_of_ble_eq_true rfl)⟩ dk_0 rfl rfl (Nat.le_of_ble_eq_true rfl) dX6_useDisjunction_137 ⟨(Nat.le_of_ble_eq_true rfl), (Nat.le_of_ble_eq_true rfl)⟩ hx (Nat.le_of_ble_eq_true rfl) (Nat.le_of_ble_eq_true rfl) H (fun _ s137 H => ?_)
  refine J.aload_n (i := 0) C dX6_useDisjunction_140 rfl rfl ?_
  refine J.callVBV (hp := (dkh g ad rst)) C rfl (sp_X6_requireRoom hl ) rfl kMl_X6_104 mdX6_requireRoom ⟨(Nat.le_of_ble_eq_true rfl), (Nat.le_of_ble_eq_true rfl)⟩ dk_0 rfl rfl (Nat.le_of_ble_eq_true rfl) dX6_useDisjunction_141 ⟨(Nat.le_of_ble_eq_true rfl), (Nat.le_of_ble_eq_true rfl)⟩ hx (Nat.le_of_ble_eq_true rfl) (Nat.le_of_ble_eq_true rfl) H (fun _ s141 H => ?_)
  refine J.aload_n (i := 0) C dX6_useDisjunction_144 rfl rfl ?_
  refine J.get C 0 1 dk_0 rfl (by decide) kFl_X6_21 inB_X6 rfl dX6_useDisjunction_145 ?_
  refine J.aload_n (i := 0) C dX6_useDisjunction_148 rfl rfl ?_
  refine J.get C 0 1 dk_0 rfl (by decide) kFl_X6_21 inB_X6 rfl dX6_useDisjunction_149 ?_
  refine J.iload_n (i := 2) C dX6_useDisjunction_152 rfl rfl ?_
  refine J.callVI C (sp_X2_result hl _) rfl kMl_X6_157 mdX2_result ⟨(Nat.le_of_ble_eq_true rfl), (Nat.le_of_ble_eq_true rfl)⟩ dk_2 rfl rfl (Nat.le_of_ble_eq_true rfl) dX6_useDisjunction_153 ⟨(Nat.le_of_ble_eq_true rfl), (Nat.le_of_ble_eq_true rfl)⟩ ?_
  refine J.bipush C (118) dX6_useDisjunction_156 (by decide) ?_
  refine J.iload_n (i := 1) C dX6_useDisjunction_158 rfl rfl ?_
  refine J.iconst C (-1) dX6_useDisjunction_159 (by decide) ?_
  refine J.callVBI (hp := (dkh g ad rst)) C rfl (sp_X2_enterCiting hl _ _ _ _) rfl kMl_X6_131 mdX2_enterCiting ⟨(Nat.le_of_ble_eq_true rfl), (Nat.le_of_ble_eq_true rfl)⟩ dk_2 rfl rfl (Nat.le_of_ble_eq_true rfl) dX6_useDisjunction_160 ⟨(Nat.le_of_ble_eq_true rfl), (Nat.le_of_ble_eq_true rfl)⟩ hx (Nat.le_of_ble_eq_true rfl) (Nat.le_of_ble_eq_true rfl) H (fun r160 s160 H => ?_)
  refine J.istoreL C dX6_useDisjunction_163 (by decide) H (fun z163 H => ?_)
  refine J.aload_n (i := 0) C dX6_useDisjunction_165 rfl rfl ?_
  refine J.get C 0 1 dk_0 rfl (by decide) kFl_X6_21 inB_X6 rfl dX6_useDisjunction_166 ?_
  refine J.iload C dX6_useDisjunction_169 rfl ?_
  refine J.iload_n (i := 2) C dX6_useDisjunction_171 rfl rfl ?_
  refine J.iload_n (i := 3) C dX6_useDisjunction_172 rfl rfl ?_
  refine J.callVBV (hp := (dkh g ad rst)) C rfl (sp_X2_citeBoxes hl _ _ _) rfl kMl_X6_160 mdX2_citeBoxes ⟨(Nat.le_of_ble_eq_true rfl), (Nat.le_of_ble_eq_true rfl)⟩ dk_2 rfl rfl (Nat.le_of_ble_eq_true rfl) dX6_useDisjunction_173 ⟨(Nat.le_of_ble_eq_true rfl), (Nat.le_of_ble_eq_true rfl)⟩ hx (Nat.le_of_ble_eq_true rfl) (Nat.le_of_ble_eq_true rfl) H (fun _ s173 H => ?_)
  refine J.iload C dX6_useDisjunction_176 rfl ?_
  exact J.iretL C hr (Nat.le_of_ble_eq_true rfl) (Nat.le_of_ble_eq_true rfl) dX6_useDisjunction_178 H
def B_X6_useDisjunction_109 (σ : DS) (l1 : Int32) (l2 : Int32) (l3 : Int32) (t0 : Int32) : Res DS Int32 := (bd (P_X6_requireShape σ t0) fun _ s109 => (if (F_X2_result s109 l2) = (F_X2_result s109 l3) then (B_X6_useDisjunction_137 s109 l1 l2 l3 (1 : Int32)) else (B_X6_useDisjunction_137 s109 l1 l2 l3 (0 : Int32))))
set_option maxRecDepth 100000 in
theorem bl_X6_useDisjunction_109 {l : Launch} (hl : l.stackTraces = false) {g : Gy} {ad : Nat → Nat} {rst : va_W} {p : Program} {e : Env} {s : State} {m : MethodId} {args : Array Value} {below : List Frame} {meth : Method} {c : Code} {A : Nat → Prop} (C : Cx p l s m args meth c g A yX6_useDisjunction.cls cX6_useDisjunction 6) (hr : meth.sig.returnType = some .int) (hx : ∀ x ∈ c.exceptionTable.toList, False) {rr : (Int32 ⊕ String) × DS} (σ : DS) (l1 : Int32) (l2 : Int32) (l3 : Int32) (t0 : Int32) (H : B_X6_useDisjunction_109 σ l1 l2 l3 t0 = some rr) : J p l e (rmOf 8 10 60) s m args below meth c g A 6 7 42 (QR mI g A (dkh g ad rst) rr below args s 10 60) 109 [(0, .ref (ad 0)), (1, .int l1), (2, .int l2), (3, .int l3)] [.int t0, .ref (ad 0)] ((dkh g ad rst) σ) := by
  unfold B_X6_useDisjunction_109 at H
  refine J.callVBV (hp := (dkh g ad rst)) C rfl (sp_X6_requireShape hl _) rfl kMl_X6_100 mdX6_requireShape ⟨(Nat.le_of_ble_eq_true rfl), (Nat.le_of_ble_eq_true rfl)⟩ dk_0 rfl rfl (Nat.le_of_ble_eq_true rfl) dX6_useDisjunction_109 ⟨(Nat.le_of_ble_eq_true rfl), (Nat.le_of_ble_eq_true rfl)⟩ hx (Nat.le_of_ble_eq_true rfl) (Nat.le_of_ble_eq_true rfl) H (fun _ s109 H => ?_)
  refine J.aload_n (i := 0) C dX6_useDisjunction_112 rfl rfl ?_
  refine J.aload_n (i := 0) C dX6_useDisjunction_113 rfl rfl ?_
  refine J.get C 0 1 dk_0 rfl (by decide) kFl_X6_21 inB_X6 rfl dX6_useDisjunction_114 ?_
  refine J.iload_n (i := 2) C dX6_useDisjunction_117 rfl rfl ?_
  refine J.callVI C (sp_X2_result hl _) rfl kMl_X6_157 mdX2_result ⟨(Nat.le_of_ble_eq_true rfl), (Nat.le_of_ble_eq_true rfl)⟩ dk_2 rfl rfl (Nat.le_of_ble_eq_true rfl) dX6_useDisjunction_118 ⟨(Nat.le_of_ble_eq_true rfl), (Nat.le_of_ble_eq_true rfl)⟩ ?_
  refine J.aload_n (i := 0) C dX6_useDisjunction_121 rfl rfl ?_
  refine J.get C 0 1 dk_0 rfl (by decide) kFl_X6_21 inB_X6 rfl dX6_useDisjunction_122 ?_
  refine J.iload_n (i := 3) C dX6_useDisjunction_125 rfl rfl ?_
  refine J.callVI C (sp_X2_result hl _) rfl kMl_X6_157 mdX2_result ⟨(Nat.le_of_ble_eq_true rfl), (Nat.le_of_ble_eq_true rfl)⟩ dk_2 rfl rfl (Nat.le_of_ble_eq_true rfl) dX6_useDisjunction_126 ⟨(Nat.le_of_ble_eq_true rfl), (Nat.le_of_ble_eq_true rfl)⟩ ?_
  refine J.icmp_neL (tgt := 136) C dX6_useDisjunction_129 (by decide) H (fun c_129 H => ?_) (fun c_129 H => ?_)
  · refine J.iconst C (0) dX6_useDisjunction_136 (by decide) ?_
    refine J.widen (k := 8) (n := 48) (Nat.le_of_ble_eq_true rfl) (Nat.le_of_ble_eq_true rfl) ?_
    refine J.lw (lv' := [(0, .ref (ad 0)), (1, .int l1), (2, .int l2), (3, .int l3)]) ⟨rfl, rfl, rfl, rfl, trivial⟩ ?_
    exact bl_X6_useDisjunction_137 hl C hr hx  _ _ _ _ _  H
  · refine J.iconst C (1) dX6_useDisjunction_132 (by decide) ?_
    refine J.goto (tgt := 137) C dX6_useDisjunction_133 (by decide) ?_
    refine J.widen (k := 8) (n := 48) (Nat.le_of_ble_eq_true rfl) (Nat.le_of_ble_eq_true rfl) ?_
    refine J.lw (lv' := [(0, .ref (ad 0)), (1, .int l1), (2, .int l2), (3, .int l3)]) ⟨rfl, rfl, rfl, rfl, trivial⟩ ?_
    exact bl_X6_useDisjunction_137 hl C hr hx  _ _ _ _ _  H
def B_X6_useDisjunction_108 (σ : DS) (l1 : Int32) (l2 : Int32) (l3 : Int32) : Res DS Int32 := (B_X6_useDisjunction_109 σ l1 l2 l3 (0 : Int32))
set_option maxRecDepth 100000 in
theorem bl_X6_useDisjunction_108 {l : Launch} (hl : l.stackTraces = false) {g : Gy} {ad : Nat → Nat} {rst : va_W} {p : Program} {e : Env} {s : State} {m : MethodId} {args : Array Value} {below : List Frame} {meth : Method} {c : Code} {A : Nat → Prop} (C : Cx p l s m args meth c g A yX6_useDisjunction.cls cX6_useDisjunction 6) (hr : meth.sig.returnType = some .int) (hx : ∀ x ∈ c.exceptionTable.toList, False) {rr : (Int32 ⊕ String) × DS} (σ : DS) (l1 : Int32) (l2 : Int32) (l3 : Int32) (H : B_X6_useDisjunction_108 σ l1 l2 l3 = some rr) : J p l e (rmOf 8 10 60) s m args below meth c g A 6 7 42 (QR mI g A (dkh g ad rst) rr below args s 10 60) 108 [(0, .ref (ad 0)), (1, .int l1), (2, .int l2), (3, .int l3)] [.ref (ad 0)] ((dkh g ad rst) σ) := by
  unfold B_X6_useDisjunction_108 at H
  refine J.iconst C (0) dX6_useDisjunction_108 (by decide) ?_
  refine J.widen (k := 7) (n := 42) (Nat.le_of_ble_eq_true rfl) (Nat.le_of_ble_eq_true rfl) ?_
  refine J.lw (lv' := [(0, .ref (ad 0)), (1, .int l1), (2, .int l2), (3, .int l3)]) ⟨rfl, rfl, rfl, rfl, trivial⟩ ?_
  exact bl_X6_useDisjunction_109 hl C hr hx  _ _ _ _ _  H
def B_X6_useDisjunction_60 (σ : DS) (l1 : Int32) (l2 : Int32) (l3 : Int32) (l4 : Int32) (t0 : Int32) : Res DS Int32 := (bd (P_X6_requireShape σ t0) fun _ s60 => (if (F_X2_begin s60 l2) = (F_X0_left s60 l4) then (if (F_X2_begin s60 l3) = (F_X0_right s60 l4) then (B_X6_useDisjunction_109 s60 l1 l2 l3 (1 : Int32)) else (B_X6_useDisjunction_108 s60 l1 l2 l3)) else (B_X6_useDisjunction_108 s60 l1 l2 l3)))
set_option maxRecDepth 100000 in
theorem bl_X6_useDisjunction_60 {l : Launch} (hl : l.stackTraces = false) {g : Gy} {ad : Nat → Nat} {rst : va_W} {p : Program} {e : Env} {s : State} {m : MethodId} {args : Array Value} {below : List Frame} {meth : Method} {c : Code} {A : Nat → Prop} (C : Cx p l s m args meth c g A yX6_useDisjunction.cls cX6_useDisjunction 6) (hr : meth.sig.returnType = some .int) (hx : ∀ x ∈ c.exceptionTable.toList, False) {rr : (Int32 ⊕ String) × DS} (σ : DS) (l1 : Int32) (l2 : Int32) (l3 : Int32) (l4 : Int32) (t0 : Int32) (H : B_X6_useDisjunction_60 σ l1 l2 l3 l4 t0 = some rr) : J p l e (rmOf 8 10 60) s m args below meth c g A 6 6 36 (QR mI g A (dkh g ad rst) rr below args s 10 60) 60 [(0, .ref (ad 0)), (1, .int l1), (2, .int l2), (3, .int l3), (4, .int l4)] [.int t0, .ref (ad 0)] ((dkh g ad rst) σ) := by
  unfold B_X6_useDisjunction_60 at H
  refine J.callVBV (hp := (dkh g ad rst)) C rfl (sp_X6_requireShape hl _) rfl kMl_X6_100 mdX6_requireShape ⟨(Nat.le_of_ble_eq_true rfl), (Nat.le_of_ble_eq_true rfl)⟩ dk_0 rfl rfl (Nat.le_of_ble_eq_true rfl) dX6_useDisjunction_60 ⟨(Nat.le_of_ble_eq_true rfl), (Nat.le_of_ble_eq_true rfl)⟩ hx (Nat.le_of_ble_eq_true rfl) (Nat.le_of_ble_eq_true rfl) H (fun _ s60 H => ?_)
  refine J.aload_n (i := 0) C dX6_useDisjunction_63 rfl rfl ?_
  refine J.aload_n (i := 0) C dX6_useDisjunction_64 rfl rfl ?_
  refine J.get C 0 1 dk_0 rfl (by decide) kFl_X6_21 inB_X6 rfl dX6_useDisjunction_65 ?_
  refine J.iload_n (i := 2) C dX6_useDisjunction_68 rfl rfl ?_
  refine J.callVI C (sp_X2_begin hl _) rfl kMl_X6_154 mdX2_begin ⟨(Nat.le_of_ble_eq_true rfl), (Nat.le_of_ble_eq_true rfl)⟩ dk_2 rfl rfl (Nat.le_of_ble_eq_true rfl) dX6_useDisjunction_69 ⟨(Nat.le_of_ble_eq_true rfl), (Nat.le_of_ble_eq_true rfl)⟩ ?_
  refine J.aload_n (i := 0) C dX6_useDisjunction_72 rfl rfl ?_
  refine J.get C 0 0 dk_0 rfl (by decide) kFl_X6_15 inB_X6 rfl dX6_useDisjunction_73 ?_
  refine J.iload C dX6_useDisjunction_76 rfl ?_
  refine J.callVI C (sp_X0_left hl _) rfl kMl_X6_145 mdX0_left ⟨(Nat.le_of_ble_eq_true rfl), (Nat.le_of_ble_eq_true rfl)⟩ dk_1 rfl rfl (Nat.le_of_ble_eq_true rfl) dX6_useDisjunction_78 ⟨(Nat.le_of_ble_eq_true rfl), (Nat.le_of_ble_eq_true rfl)⟩ ?_
  refine J.icmp_neL (tgt := 108) C dX6_useDisjunction_81 (by decide) H (fun c_81 H => ?_) (fun c_81 H => ?_)
  · refine J.widen (k := 7) (n := 42) (Nat.le_of_ble_eq_true rfl) (Nat.le_of_ble_eq_true rfl) ?_
    refine J.lw (lv' := [(0, .ref (ad 0)), (1, .int l1), (2, .int l2), (3, .int l3)]) ⟨rfl, rfl, rfl, rfl, trivial⟩ ?_
    exact bl_X6_useDisjunction_108 hl C hr hx  _ _ _ _  H
  · refine J.aload_n (i := 0) C dX6_useDisjunction_84 rfl rfl ?_
    refine J.get C 0 1 dk_0 rfl (by decide) kFl_X6_21 inB_X6 rfl dX6_useDisjunction_85 ?_
    refine J.iload_n (i := 3) C dX6_useDisjunction_88 rfl rfl ?_
    refine J.callVI C (sp_X2_begin hl _) rfl kMl_X6_154 mdX2_begin ⟨(Nat.le_of_ble_eq_true rfl), (Nat.le_of_ble_eq_true rfl)⟩ dk_2 rfl rfl (Nat.le_of_ble_eq_true rfl) dX6_useDisjunction_89 ⟨(Nat.le_of_ble_eq_true rfl), (Nat.le_of_ble_eq_true rfl)⟩ ?_
    refine J.aload_n (i := 0) C dX6_useDisjunction_92 rfl rfl ?_
    refine J.get C 0 0 dk_0 rfl (by decide) kFl_X6_15 inB_X6 rfl dX6_useDisjunction_93 ?_
    refine J.iload C dX6_useDisjunction_96 rfl ?_
    refine J.callVI C (sp_X0_right hl _) rfl kMl_X6_142 mdX0_right ⟨(Nat.le_of_ble_eq_true rfl), (Nat.le_of_ble_eq_true rfl)⟩ dk_1 rfl rfl (Nat.le_of_ble_eq_true rfl) dX6_useDisjunction_98 ⟨(Nat.le_of_ble_eq_true rfl), (Nat.le_of_ble_eq_true rfl)⟩ ?_
    refine J.icmp_neL (tgt := 108) C dX6_useDisjunction_101 (by decide) H (fun c_101 H => ?_) (fun c_101 H => ?_)
    · refine J.widen (k := 7) (n := 42) (Nat.le_of_ble_eq_true rfl) (Nat.le_of_ble_eq_true rfl) ?_
      refine J.lw (lv' := [(0, .ref (ad 0)), (1, .int l1), (2, .int l2), (3, .int l3)]) ⟨rfl, rfl, rfl, rfl, trivial⟩ ?_
      exact bl_X6_useDisjunction_108 hl C hr hx  _ _ _ _  H
    · refine J.iconst C (1) dX6_useDisjunction_104 (by decide) ?_
      refine J.goto (tgt := 109) C dX6_useDisjunction_105 (by decide) ?_
      refine J.widen (k := 7) (n := 42) (Nat.le_of_ble_eq_true rfl) (Nat.le_of_ble_eq_true rfl) ?_
      refine J.lw (lv' := [(0, .ref (ad 0)), (1, .int l1), (2, .int l2), (3, .int l3)]) ⟨rfl, rfl, rfl, rfl, trivial⟩ ?_
      exact bl_X6_useDisjunction_109 hl C hr hx  _ _ _ _ _  H
abbrev mX6_useDisjunction : MD := (yX6_useDisjunction, cX6_useDisjunction, 6, some .int)
theorem mdX6_useDisjunction : MDv mX6_useDisjunction RX6 3 := ⟨kIm_X6_useDisjunction, kSe_X6_useDisjunction, kIn_X6, kCo_X6_useDisjunction, by decide +kernel⟩
def P_X6_useDisjunction (σ : DS) (a1 : Int32) (a2 : Int32) (a3 : Int32) : Res DS Int32 := (bd (P_X6_requireLine σ a1) fun _ s2 => (bd (P_X6_requireBox s2 a2) fun _ s7 => (bd (P_X6_requireBox s7 a3) fun _ s12 => (bd (P_X6_requireCitable s12 a1) fun _ s17 => (bd (P_X6_requireCitableBox s17 a2) fun _ s22 => (bd (P_X6_requireCitableBox s22 a3) fun _ s27 => (lt (F_X2_formula s27 a1) fun z38 => (if (F_X0_kind s27 z38) = (65 : Int32) then (B_X6_useDisjunction_60 s27 a1 a2 a3 z38 (1 : Int32)) else (B_X6_useDisjunction_60 s27 a1 a2 a3 z38 (0 : Int32))))))))))
set_option maxRecDepth 100000 in
theorem sp_X6_useDisjunction {l : Launch} (hl : l.stackTraces = false) {g : Gy} {ad : Nat → Nat} {rst : va_W} {σ : DS} (a1 : Int32) (a2 : Int32) (a3 : Int32) : SpR l mX6_useDisjunction 8 10 60 mI g [.ref (ad 0), .int a1, .int a2, .int a3] (dkh g ad rst) σ (P_X6_useDisjunction σ a1 a2 a3) := by
  refine SpR.of hl (by decide) (Nat.le_of_ble_eq_true rfl) (fun rr H p e s m args below meth c A C hr hx => ?_)
  unfold P_X6_useDisjunction at H
  refine J.lw (lv' := [(0, .ref (ad 0)), (1, .int a1), (2, .int a2), (3, .int a3)]) ⟨rfl, rfl, rfl, rfl, trivial⟩ ?_
  refine J.aload_n (i := 0) C dX6_useDisjunction_0 rfl rfl ?_
  refine J.iload_n (i := 1) C dX6_useDisjunction_1 rfl rfl ?_
  refine J.callVBV (hp := (dkh g ad rst)) C rfl (sp_X6_requireLine hl _) rfl kMl_X6_122 mdX6_requireLine ⟨(Nat.le_of_ble_eq_true rfl), (Nat.le_of_ble_eq_true rfl)⟩ dk_0 rfl rfl (Nat.le_of_ble_eq_true rfl) dX6_useDisjunction_2 ⟨(Nat.le_of_ble_eq_true rfl), (Nat.le_of_ble_eq_true rfl)⟩ hx (Nat.le_of_ble_eq_true rfl) (Nat.le_of_ble_eq_true rfl) H (fun _ s2 H => ?_)
  refine J.aload_n (i := 0) C dX6_useDisjunction_5 rfl rfl ?_
  refine J.iload_n (i := 2) C dX6_useDisjunction_6 rfl rfl ?_
  refine J.callVBV (hp := (dkh g ad rst)) C rfl (sp_X6_requireBox hl _) rfl kMl_X6_148 mdX6_requireBox ⟨(Nat.le_of_ble_eq_true rfl), (Nat.le_of_ble_eq_true rfl)⟩ dk_0 rfl rfl (Nat.le_of_ble_eq_true rfl) dX6_useDisjunction_7 ⟨(Nat.le_of_ble_eq_true rfl), (Nat.le_of_ble_eq_true rfl)⟩ hx (Nat.le_of_ble_eq_true rfl) (Nat.le_of_ble_eq_true rfl) H (fun _ s7 H => ?_)
  refine J.aload_n (i := 0) C dX6_useDisjunction_10 rfl rfl ?_
  refine J.iload_n (i := 3) C dX6_useDisjunction_11 rfl rfl ?_
  refine J.callVBV (hp := (dkh g ad rst)) C rfl (sp_X6_requireBox hl _) rfl kMl_X6_148 mdX6_requireBox ⟨(Nat.le_of_ble_eq_true rfl), (Nat.le_of_ble_eq_true rfl)⟩ dk_0 rfl rfl (Nat.le_of_ble_eq_true rfl) dX6_useDisjunction_12 ⟨(Nat.le_of_ble_eq_true rfl), (Nat.le_of_ble_eq_true rfl)⟩ hx (Nat.le_of_ble_eq_true rfl) (Nat.le_of_ble_eq_true rfl) H (fun _ s12 H => ?_)
  refine J.aload_n (i := 0) C dX6_useDisjunction_15 rfl rfl ?_
  refine J.iload_n (i := 1) C dX6_useDisjunction_16 rfl rfl ?_
  refine J.callVBV (hp := (dkh g ad rst)) C rfl (sp_X6_requireCitable hl _) rfl kMl_X6_125 mdX6_requireCitable ⟨(Nat.le_of_ble_eq_true rfl), (Nat.le_of_ble_eq_true rfl)⟩ dk_0 rfl rfl (Nat.le_of_ble_eq_true rfl) dX6_useDisjunction_17 ⟨(Nat.le_of_ble_eq_true rfl), (Nat.le_of_ble_eq_true rfl)⟩ hx (Nat.le_of_ble_eq_true rfl) (Nat.le_of_ble_eq_true rfl) H (fun _ s17 H => ?_)
  refine J.aload_n (i := 0) C dX6_useDisjunction_20 rfl rfl ?_
  refine J.iload_n (i := 2) C dX6_useDisjunction_21 rfl rfl ?_
  refine J.callVBV (hp := (dkh g ad rst)) C rfl (sp_X6_requireCitableBox hl _) rfl kMl_X6_151 mdX6_requireCitableBox ⟨(Nat.le_of_ble_eq_true rfl), (Nat.le_of_ble_eq_true rfl)⟩ dk_0 rfl rfl (Nat.le_of_ble_eq_true rfl) dX6_useDisjunction_22 ⟨(Nat.le_of_ble_eq_true rfl), (Nat.le_of_ble_eq_true rfl)⟩ hx (Nat.le_of_ble_eq_true rfl) (Nat.le_of_ble_eq_true rfl) H (fun _ s22 H => ?_)
  refine J.aload_n (i := 0) C dX6_useDisjunction_25 rfl rfl ?_
  refine J.iload_n (i := 3) C dX6_useDisjunction_26 rfl rfl ?_
  refine J.callVBV (hp := (dkh g ad rst)) C rfl (sp_X6_requireCitableBox hl _) rfl kMl_X6_151 mdX6_requireCitableBox ⟨(Nat.le_of_ble_eq_true rfl), (Nat.le_of_ble_eq_true rfl)⟩ dk_0 rfl rfl (Nat.le_of_ble_eq_true rfl) dX6_useDisjunction_27 ⟨(Nat.le_of_ble_eq_true rfl), (Nat.le_of_ble_eq_true rfl)⟩ hx (Nat.le_of_ble_eq_true rfl) (Nat.le_of_ble_eq_true rfl) H (fun _ s27 H => ?_)
  refine J.aload_n (i := 0) C dX6_useDisjunction_30 rfl rfl ?_
  refine J.get C 0 1 dk_0 rfl (by decide) kFl_X6_21 inB_X6 rfl dX6_useDisjunction_31 ?_
  refine J.iload_n (i := 1) C dX6_useDisjunction_34 rfl rfl ?_
  refine J.callVI C (sp_X2_formula hl _) rfl kMl_X6_128 mdX2_formula ⟨(Nat.le_of_ble_eq_true rfl), (Nat.le_of_ble_eq_true rfl)⟩ dk_2 rfl rfl (Nat.le_of_ble_eq_true rfl) dX6_useDisjunction_35 ⟨(Nat.le_of_ble_eq_true rfl), (Nat.le_of_ble_eq_true rfl)⟩ ?_
  refine J.istoreL C dX6_useDisjunction_38 (by decide) H (fun z38 H => ?_)
  refine J.aload_n (i := 0) C dX6_useDisjunction_40 rfl rfl ?_
  refine J.aload_n (i := 0) C dX6_useDisjunction_41 rfl rfl ?_
  refine J.get C 0 0 dk_0 rfl (by decide) kFl_X6_15 inB_X6 rfl dX6_useDisjunction_42 ?_
  refine J.iload C dX6_useDisjunction_45 rfl ?_
  refine J.callVI C (sp_X0_kind hl _) rfl kMl_X6_138 mdX0_kind ⟨(Nat.le_of_ble_eq_true rfl), (Nat.le_of_ble_eq_true rfl)⟩ dk_1 rfl rfl (Nat.le_of_ble_eq_true rfl) dX6_useDisjunction_47 ⟨(Nat.le_of_ble_eq_true rfl), (Nat.le_of_ble_eq_true rfl)⟩ ?_
  refine J.bipush C (65) dX6_useDisjunction_50 (by decide) ?_
  refine J.icmp_neL (tgt := 59) C dX6_useDisjunction_52 (by decide) H (fun c_52 H => ?_) (fun c_52 H => ?_)
  · refine J.iconst C (0) dX6_useDisjunction_59 (by decide) ?_
    refine J.widen (k := 6) (n := 36) (Nat.le_of_ble_eq_true rfl) (Nat.le_of_ble_eq_true rfl) ?_
    refine J.lw (lv' := [(0, .ref (ad 0)), (1, .int a1), (2, .int a2), (3, .int a3), (4, .int z38)]) ⟨rfl, rfl, rfl, rfl, rfl, trivial⟩ ?_
    exact bl_X6_useDisjunction_60 hl C hr hx  _ _ _ _ _ _  H
  · refine J.iconst C (1) dX6_useDisjunction_55 (by decide) ?_
    refine J.goto (tgt := 60) C dX6_useDisjunction_56 (by decide) ?_
    refine J.widen (k := 6) (n := 36) (Nat.le_of_ble_eq_true rfl) (Nat.le_of_ble_eq_true rfl) ?_
    refine J.lw (lv' := [(0, .ref (ad 0)), (1, .int a1), (2, .int a2), (3, .int a3), (4, .int z38)]) ⟨rfl, rfl, rfl, rfl, rfl, trivial⟩ ?_
    exact bl_X6_useDisjunction_60 hl C hr hx  _ _ _ _ _ _  H

/-! X6_makeImplication -/
abbrev mX6_makeImplication : MD := (yX6_makeImplication, cX6_makeImplication, 4, some .int)
theorem mdX6_makeImplication : MDv mX6_makeImplication RX6 1 := ⟨kIm_X6_makeImplication, kSe_X6_makeImplication, kIn_X6, kCo_X6_makeImplication, by decide +kernel⟩
def P_X6_makeImplication (σ : DS) (a1 : Int32) : Res DS Int32 := (bd (P_X6_requireBox σ a1) fun _ s2 => (bd (P_X6_requireCitableBox s2 a1) fun _ s7 => (bd (P_X6_requireRoom s7 ) fun _ s11 => (bd (P_X0_enter s11 (67 : Int32) (F_X2_begin s11 a1) (F_X2_result s11 a1)) fun r36 s36 => (bd (P_X6_made s36 r36) fun r39 s39 => (lt r39 fun z42 => (bd (P_X2_enter s39 z42 (99 : Int32)) fun r50 s50 => (lt r50 fun z53 => (bd (P_X2_citeBoxes s50 z53 a1 (-1 : Int32)) fun _ s61 => (some (.inl z53, s61)))))))))))
set_option maxRecDepth 100000 in
theorem sp_X6_makeImplication {l : Launch} (hl : l.stackTraces = false) {g : Gy} {ad : Nat → Nat} {rst : va_W} {σ : DS} (a1 : Int32) : SpR l mX6_makeImplication 8 4 24 mI g [.ref (ad 0), .int a1] (dkh g ad rst) σ (P_X6_makeImplication σ a1) := by
  refine SpR.of hl (by decide) (Nat.le_of_ble_eq_true rfl) (fun rr H p e s m args below meth c A C hr hx => ?_)
  unfold P_X6_makeImplication at H
  refine J.lw (lv' := [(0, .ref (ad 0)), (1, .int a1)]) ⟨rfl, rfl, trivial⟩ ?_
  refine J.aload_n (i := 0) C dX6_makeImplication_0 rfl rfl ?_
  refine J.iload_n (i := 1) C dX6_makeImplication_1 rfl rfl ?_
  refine J.callVBV (hp := (dkh g ad rst)) C rfl (sp_X6_requireBox hl _) rfl kMl_X6_148 mdX6_requireBox ⟨(Nat.le_of_ble_eq_true rfl), (Nat.le_of_ble_eq_true rfl)⟩ dk_0 rfl rfl (Nat.le_of_ble_eq_true rfl) dX6_makeImplication_2 ⟨(Nat.le_of_ble_eq_true rfl), (Nat.le_of_ble_eq_true rfl)⟩ hx (Nat.le_of_ble_eq_true rfl) (Nat.le_of_ble_eq_true rfl) H (fun _ s2 H => ?_)
  refine J.aload_n (i := 0) C dX6_makeImplication_5 rfl rfl ?_
  refine J.iload_n (i := 1) C dX6_makeImplication_6 rfl rfl ?_
  refine J.callVBV (hp := (dkh g ad rst)) C rfl (sp_X6_requireCitableBox hl _) rfl kMl_X6_151 mdX6_requireCitableBox ⟨(Nat.le_of_ble_eq_true rfl), (Nat.le_of_ble_eq_true rfl)⟩ dk_0 rfl rfl (Nat.le_of_ble_eq_true rfl) dX6_makeImplication_7 ⟨(Nat.le_of_ble_eq_true rfl), (Nat.le_of_ble_eq_true rfl)⟩ hx (Nat.le_of_ble_eq_true rfl) (Nat.le_of_ble_eq_true rfl) H (fun _ s7 H => ?_)
  refine J.aload_n (i := 0) C dX6_makeImplication_10 rfl rfl ?_
  refine J.callVBV (hp := (dkh g ad rst)) C rfl (sp_X6_requireRoom hl ) rfl kMl_X6_104 mdX6_requireRoom ⟨(Nat.le_of_ble_eq_true rfl), (Nat.le_of_ble_eq_true rfl)⟩ dk_0 rfl rfl (Nat.le_of_ble_eq_true rfl) dX6_makeImplication_11 ⟨(Nat.le_of_ble_eq_true rfl), (Nat.le_of_ble_eq_true rfl)⟩ hx (Nat.le_of_ble_eq_true rfl) (Nat.le_of_ble_eq_true rfl) H (fun _ s11 H => ?_)
  refine J.aload_n (i := 0) C dX6_makeImplication_14 rfl rfl ?_
  refine J.get C 0 0 dk_0 rfl (by decide) kFl_X6_15 inB_X6 rfl dX6_makeImplication_15 ?_
  refine J.bipush C (67) dX6_makeImplication_18 (by decide) ?_
  refine J.aload_n (i := 0) C dX6_makeImplication_20 rfl rfl ?_
  refine J.get C 0 1 dk_0 rfl (by decide) kFl_X6_21 inB_X6 rfl dX6_makeImplication_21 ?_
  refine J.iload_n (i := 1) C dX6_makeImplication_24 rfl rfl ?_
  refine J.callVI C (sp_X2_begin hl _) rfl kMl_X6_154 mdX2_begin ⟨(Nat.le_of_ble_eq_true rfl), (Nat.le_of_ble_eq_true rfl)⟩ dk_2 rfl rfl (Nat.le_of_ble_eq_true rfl) dX6_makeImplication_25 ⟨(Nat.le_of_ble_eq_true rfl), (Nat.le_of_ble_eq_true rfl)⟩ ?_
  refine J.aload_n (i := 0) C dX6_makeImplication_28 rfl rfl ?_
  refine J.get C 0 1 dk_0 rfl (by decide) kFl_X6_21 inB_X6 rfl dX6_makeImplication_29 ?_
  refine J.iload_n (i := 1) C dX6_makeImplication_32 rfl rfl ?_
  refine J.callVI C (sp_X2_result hl _) rfl kMl_X6_157 mdX2_result ⟨(Nat.le_of_ble_eq_true rfl), (Nat.le_of_ble_eq_true rfl)⟩ dk_2 rfl rfl (Nat.le_of_ble_eq_true rfl) dX6_makeImplication_33 ⟨(Nat.le_of_ble_eq_true rfl), (Nat.le_of_ble_eq_true rfl)⟩ ?_
  refine J.callVBI (hp := (dkh g ad rst)) C rfl (sp_X0_enter hl _ _ _) rfl kMl_X6_52 mdX0_enter ⟨(Nat.le_of_ble_eq_true rfl), (Nat.le_of_ble_eq_true rfl)⟩ dk_1 rfl rfl (Nat.le_of_ble_eq_true rfl) dX6_makeImplication_36 ⟨(Nat.le_of_ble_eq_true rfl), (Nat.le_of_ble_eq_true rfl)⟩ hx (Nat.le_of_ble_eq_true rfl) (Nat.le_of_ble_eq_true rfl) H (fun r36 s36 H => ?_)
  refine J.callSBI (hp := (dkh g ad rst)) C rfl (sp_X6_made hl _) rfl kMl_X6_56 mdX6_made ⟨(Nat.le_of_ble_eq_true rfl), (Nat.le_of_ble_eq_true rfl)⟩ rfl (Nat.le_of_ble_eq_true rfl) dX6_makeImplication_39 ⟨(Nat.le_of_ble_eq_true rfl), (Nat.le_of_ble_eq_true rfl)⟩ hx (Nat.le_of_ble_eq_true rfl) (Nat.le_of_ble_eq_true rfl) H (fun r39 s39 H => ?_)
  refine J.istore_nL (i := 2) C dX6_makeImplication_42 rfl (by decide) H (fun z42 H => ?_)
  refine J.aload_n (i := 0) C dX6_makeImplication_43 rfl rfl ?_
  refine J.get C 0 1 dk_0 rfl (by decide) kFl_X6_21 inB_X6 rfl dX6_makeImplication_44 ?_
  refine J.iload_n (i := 2) C dX6_makeImplication_47 rfl rfl ?_
  refine J.bipush C (99) dX6_makeImplication_48 (by decide) ?_
  refine J.callVBI (hp := (dkh g ad rst)) C rfl (sp_X2_enter hl _ _) rfl kMl_X6_107 mdX2_enter ⟨(Nat.le_of_ble_eq_true rfl), (Nat.le_of_ble_eq_true rfl)⟩ dk_2 rfl rfl (Nat.le_of_ble_eq_true rfl) dX6_makeImplication_50 ⟨(Nat.le_of_ble_eq_true rfl), (Nat.le_of_ble_eq_true rfl)⟩ hx (Nat.le_of_ble_eq_true rfl) (Nat.le_of_ble_eq_true rfl) H (fun r50 s50 H => ?_)
  refine J.istore_nL (i := 3) C dX6_makeImplication_53 rfl (by decide) H (fun z53 H => ?_)
  refine J.aload_n (i := 0) C dX6_makeImplication_54 rfl rfl ?_
  refine J.get C 0 1 dk_0 rfl (by decide) kFl_X6_21 inB_X6 rfl dX6_makeImplication_55 ?_
  refine J.iload_n (i := 3) C dX6_makeImplication_58 rfl rfl ?_
  refine J.iload_n (i := 1) C dX6_makeImplication_59 rfl rfl ?_
  refine J.iconst C (-1) dX6_makeImplication_60 (by decide) ?_
  refine J.callVBV (hp := (dkh g ad rst)) C rfl (sp_X2_citeBoxes hl _ _ _) rfl kMl_X6_160 mdX2_citeBoxes ⟨(Nat.le_of_ble_eq_true rfl), (Nat.le_of_ble_eq_true rfl)⟩ dk_2 rfl rfl (Nat.le_of_ble_eq_true rfl) dX6_makeImplication_61 ⟨(Nat.le_of_ble_eq_true rfl), (Nat.le_of_ble_eq_true rfl)⟩ hx (Nat.le_of_ble_eq_true rfl) (Nat.le_of_ble_eq_true rfl) H (fun _ s61 H => ?_)
  refine J.iload_n (i := 3) C dX6_makeImplication_64 rfl rfl ?_
  exact J.iretL C hr (Nat.le_of_ble_eq_true rfl) (Nat.le_of_ble_eq_true rfl) dX6_makeImplication_65 H

/-! X6_useImplication -/
def B_X6_useImplication_53 (σ : DS) (l1 : Int32) (l2 : Int32) (l3 : Int32) (t0 : Int32) : Res DS Int32 := (bd (P_X6_requireShape σ t0) fun _ s53 => (bd (P_X6_requireRoom s53 ) fun _ s57 => (bd (P_X2_enterCiting s57 (F_X0_right s57 l3) (109 : Int32) l1 l2) fun r76 s76 => (some (.inl r76, s76)))))
set_option maxRecDepth 100000 in
theorem bl_X6_useImplication_53 {l : Launch} (hl : l.stackTraces = false) {g : Gy} {ad : Nat → Nat} {rst : va_W} {p : Program} {e : Env} {s : State} {m : MethodId} {args : Array Value} {below : List Frame} {meth : Method} {c : Code} {A : Nat → Prop} (C : Cx p l s m args meth c g A yX6_useImplication.cls cX6_useImplication 4) (hr : meth.sig.returnType = some .int) (hx : ∀ x ∈ c.exceptionTable.toList, False) {rr : (Int32 ⊕ String) × DS} (σ : DS) (l1 : Int32) (l2 : Int32) (l3 : Int32) (t0 : Int32) (H : B_X6_useImplication_53 σ l1 l2 l3 t0 = some rr) : J p l e (rmOf 9 6 36) s m args below meth c g A 4 4 24 (QR mI g A (dkh g ad rst) rr below args s 6 36) 53 [(0, .ref (ad 0)), (1, .int l1), (2, .int l2), (3, .int l3)] [.int t0, .ref (ad 0)] ((dkh g ad rst) σ) := by
  unfold B_X6_useImplication_53 at H
  refine J.callVBV (hp := (dkh g ad rst)) C rfl (sp_X6_requireShape hl _) rfl kMl_X6_100 mdX6_requireShape ⟨(Nat.le_of_ble_eq_true rfl), (Nat.le_of_ble_eq_true rfl)⟩ dk_0 rfl rfl (Nat.le_of_ble_eq_true rfl) dX6_useImplication_53 ⟨(Nat.le_of_ble_eq_true rfl), (Nat.le_of_ble_eq_true rfl)⟩ hx (Nat.le_of_ble_eq_true rfl) (Nat.le_of_ble_eq_true rfl) H (fun _ s53 H => ?_)
  refine J.aload_n (i := 0) C dX6_useImplication_56 rfl rfl ?_
  refine J.callVBV (hp := (dkh g ad rst)) C rfl (sp_X6_requireRoom hl ) rfl kMl_X6_104 mdX6_requireRoom ⟨(Nat.le_of_ble_eq_true rfl), (Nat.le_of_ble_eq_true rfl)⟩ dk_0 rfl rfl (Nat.le_of_ble_eq_true rfl) dX6_useImplication_57 ⟨(Nat.le_of_ble_eq_true rfl), (Nat.le_of_ble_eq_true rfl)⟩ hx (Nat.le_of_ble_eq_true rfl) (Nat.le_of_ble_eq_true rfl) H (fun _ s57 H => ?_)
  refine J.aload_n (i := 0) C dX6_useImplication_60 rfl rfl ?_
  refine J.get C 0 1 dk_0 rfl (by decide) kFl_X6_21 inB_X6 rfl dX6_useImplication_61 ?_
  refine J.aload_n (i := 0) C dX6_useImplication_64 rfl rfl ?_
  refine J.get C 0 0 dk_0 rfl (by decide) kFl_X6_15 inB_X6 rfl dX6_useImplication_65 ?_
  refine J.iload_n (i := 3) C dX6_useImplication_68 rfl rfl ?_
  refine J.callVI C (sp_X0_right hl _) rfl kMl_X6_142 mdX0_right ⟨(Nat.le_of_ble_eq_true rfl), (Nat.le_of_ble_eq_true rfl)⟩ dk_1 rfl rfl (Nat.le_of_ble_eq_true rfl) dX6_useImplication_69 ⟨(Nat.le_of_ble_eq_true rfl), (Nat.le_of_ble_eq_true rfl)⟩ ?_
  refine J.bipush C (109) dX6_useImplication_72 (by decide) ?_
  refine J.iload_n (i := 1) C dX6_useImplication_74 rfl rfl ?_
  refine J.iload_n (i := 2) C dX6_useImplication_75 rfl rfl ?_
  refine J.callVBI (hp := (dkh g ad rst)) C rfl (sp_X2_enterCiting hl _ _ _ _) rfl kMl_X6_131 mdX2_enterCiting ⟨(Nat.le_of_ble_eq_true rfl), (Nat.le_of_ble_eq_true rfl)⟩ dk_2 rfl rfl (Nat.le_of_ble_eq_true rfl) dX6_useImplication_76 ⟨(Nat.le_of_ble_eq_true rfl), (Nat.le_of_ble_eq_true rfl)⟩ hx (Nat.le_of_ble_eq_true rfl) (Nat.le_of_ble_eq_true rfl) H (fun r76 s76 H => ?_)
  exact J.iretL C hr (Nat.le_of_ble_eq_true rfl) (Nat.le_of_ble_eq_true rfl) dX6_useImplication_79 H
def B_X6_useImplication_52 (σ : DS) (l1 : Int32) (l2 : Int32) (l3 : Int32) : Res DS Int32 := (B_X6_useImplication_53 σ l1 l2 l3 (0 : Int32))
set_option maxRecDepth 100000 in
theorem bl_X6_useImplication_52 {l : Launch} (hl : l.stackTraces = false) {g : Gy} {ad : Nat → Nat} {rst : va_W} {p : Program} {e : Env} {s : State} {m : MethodId} {args : Array Value} {below : List Frame} {meth : Method} {c : Code} {A : Nat → Prop} (C : Cx p l s m args meth c g A yX6_useImplication.cls cX6_useImplication 4) (hr : meth.sig.returnType = some .int) (hx : ∀ x ∈ c.exceptionTable.toList, False) {rr : (Int32 ⊕ String) × DS} (σ : DS) (l1 : Int32) (l2 : Int32) (l3 : Int32) (H : B_X6_useImplication_52 σ l1 l2 l3 = some rr) : J p l e (rmOf 9 6 36) s m args below meth c g A 4 4 24 (QR mI g A (dkh g ad rst) rr below args s 6 36) 52 [(0, .ref (ad 0)), (1, .int l1), (2, .int l2), (3, .int l3)] [.ref (ad 0)] ((dkh g ad rst) σ) := by
  unfold B_X6_useImplication_52 at H
  refine J.iconst C (0) dX6_useImplication_52 (by decide) ?_
  refine J.widen (k := 4) (n := 24) (Nat.le_of_ble_eq_true rfl) (Nat.le_of_ble_eq_true rfl) ?_
  refine J.lw (lv' := [(0, .ref (ad 0)), (1, .int l1), (2, .int l2), (3, .int l3)]) ⟨rfl, rfl, rfl, rfl, trivial⟩ ?_
  exact bl_X6_useImplication_53 hl C hr hx  _ _ _ _ _  H
abbrev mX6_useImplication : MD := (yX6_useImplication, cX6_useImplication, 4, some .int)
theorem mdX6_useImplication : MDv mX6_useImplication RX6 2 := ⟨kIm_X6_useImplication, kSe_X6_useImplication, kIn_X6, kCo_X6_useImplication, by decide +kernel⟩
def P_X6_useImplication (σ : DS) (a1 : Int32) (a2 : Int32) : Res DS Int32 := (bd (P_X6_requireTwoLines σ a1 a2) fun _ s3 => (lt (F_X2_formula s3 a1) fun z14 => (if (F_X0_kind s3 z14) = (67 : Int32) then (if (F_X2_formula s3 a2) = (F_X0_left s3 z14) then (B_X6_useImplication_53 s3 a1 a2 z14 (1 : Int32)) else (B_X6_useImplication_52 s3 a1 a2 z14)) else (B_X6_useImplication_52 s3 a1 a2 z14))))
set_option maxRecDepth 100000 in
theorem sp_X6_useImplication {l : Launch} (hl : l.stackTraces = false) {g : Gy} {ad : Nat → Nat} {rst : va_W} {σ : DS} (a1 : Int32) (a2 : Int32) : SpR l mX6_useImplication 9 6 36 mI g [.ref (ad 0), .int a1, .int a2] (dkh g ad rst) σ (P_X6_useImplication σ a1 a2) := by
  refine SpR.of hl (by decide) (Nat.le_of_ble_eq_true rfl) (fun rr H p e s m args below meth c A C hr hx => ?_)
  unfold P_X6_useImplication at H
  refine J.lw (lv' := [(0, .ref (ad 0)), (1, .int a1), (2, .int a2)]) ⟨rfl, rfl, rfl, trivial⟩ ?_
  refine J.aload_n (i := 0) C dX6_useImplication_0 rfl rfl ?_
  refine J.iload_n (i := 1) C dX6_useImplication_1 rfl rfl ?_
  refine J.iload_n (i := 2) C dX6_useImplication_2 rfl rfl ?_
  refine J.callVBV (hp := (dkh g ad rst)) C rfl (sp_X6_requireTwoLines hl _ _) rfl kMl_X6_135 mdX6_requireTwoLines ⟨(Nat.le_of_ble_eq_true rfl), (Nat.le_of_ble_eq_true rfl)⟩ dk_0 rfl rfl (Nat.le_of_ble_eq_true rfl) dX6_useImplication_3 ⟨(Nat.le_of_ble_eq_true rfl), (Nat.le_of_ble_eq_true rfl)⟩ hx (Nat.le_of_ble_eq_true rfl) (Nat.le_of_ble_eq_true rfl) H (fun _ s3 H => ?_)
  refine J.aload_n (i := 0) C dX6_useImplication_6 rfl rfl ?_
  refine J.get C 0 1 dk_0 rfl (by decide) kFl_X6_21 inB_X6 rfl dX6_useImplication_7 ?_
  refine J.iload_n (i := 1) C dX6_useImplication_10 rfl rfl ?_
  refine J.callVI C (sp_X2_formula hl _) rfl kMl_X6_128 mdX2_formula ⟨(Nat.le_of_ble_eq_true rfl), (Nat.le_of_ble_eq_true rfl)⟩ dk_2 rfl rfl (Nat.le_of_ble_eq_true rfl) dX6_useImplication_11 ⟨(Nat.le_of_ble_eq_true rfl), (Nat.le_of_ble_eq_true rfl)⟩ ?_
  refine J.istore_nL (i := 3) C dX6_useImplication_14 rfl (by decide) H (fun z14 H => ?_)
  refine J.aload_n (i := 0) C dX6_useImplication_15 rfl rfl ?_
  refine J.aload_n (i := 0) C dX6_useImplication_16 rfl rfl ?_
  refine J.get C 0 0 dk_0 rfl (by decide) kFl_X6_15 inB_X6 rfl dX6_useImplication_17 ?_
  refine J.iload_n (i := 3) C dX6_useImplication_20 rfl rfl ?_
  refine J.callVI C (sp_X0_kind hl _) rfl kMl_X6_138 mdX0_kind ⟨(Nat.le_of_ble_eq_true rfl), (Nat.le_of_ble_eq_true rfl)⟩ dk_1 rfl rfl (Nat.le_of_ble_eq_true rfl) dX6_useImplication_21 ⟨(Nat.le_of_ble_eq_true rfl), (Nat.le_of_ble_eq_true rfl)⟩ ?_
  refine J.bipush C (67) dX6_useImplication_24 (by decide) ?_
  refine J.icmp_neL (tgt := 52) C dX6_useImplication_26 (by decide) H (fun c_26 H => ?_) (fun c_26 H => ?_)
  · refine J.widen (k := 4) (n := 24) (Nat.le_of_ble_eq_true rfl) (Nat.le_of_ble_eq_true rfl) ?_
    refine J.lw (lv' := [(0, .ref (ad 0)), (1, .int a1), (2, .int a2), (3, .int z14)]) ⟨rfl, rfl, rfl, rfl, trivial⟩ ?_
    exact bl_X6_useImplication_52 hl C hr hx  _ _ _ _  H
  · refine J.aload_n (i := 0) C dX6_useImplication_29 rfl rfl ?_
    refine J.get C 0 1 dk_0 rfl (by decide) kFl_X6_21 inB_X6 rfl dX6_useImplication_30 ?_
    refine J.iload_n (i := 2) C dX6_useImplication_33 rfl rfl ?_
    refine J.callVI C (sp_X2_formula hl _) rfl kMl_X6_128 mdX2_formula ⟨(Nat.le_of_ble_eq_true rfl), (Nat.le_of_ble_eq_true rfl)⟩ dk_2 rfl rfl (Nat.le_of_ble_eq_true rfl) dX6_useImplication_34 ⟨(Nat.le_of_ble_eq_true rfl), (Nat.le_of_ble_eq_true rfl)⟩ ?_
    refine J.aload_n (i := 0) C dX6_useImplication_37 rfl rfl ?_
    refine J.get C 0 0 dk_0 rfl (by decide) kFl_X6_15 inB_X6 rfl dX6_useImplication_38 ?_
    refine J.iload_n (i := 3) C dX6_useImplication_41 rfl rfl ?_
    refine J.callVI C (sp_X0_left hl _) rfl kMl_X6_145 mdX0_left ⟨(Nat.le_of_ble_eq_true rfl), (Nat.le_of_ble_eq_true rfl)⟩ dk_1 rfl rfl (Nat.le_of_ble_eq_true rfl) dX6_useImplication_42 ⟨(Nat.le_of_ble_eq_true rfl), (Nat.le_of_ble_eq_true rfl)⟩ ?_
    refine J.icmp_neL (tgt := 52) C dX6_useImplication_45 (by decide) H (fun c_45 H => ?_) (fun c_45 H => ?_)
    · refine J.widen (k := 4) (n := 24) (Nat.le_of_ble_eq_true rfl) (Nat.le_of_ble_eq_true rfl) ?_
      refine J.lw (lv' := [(0, .ref (ad 0)), (1, .int a1), (2, .int a2), (3, .int z14)]) ⟨rfl, rfl, rfl, rfl, trivial⟩ ?_
      exact bl_X6_useImplication_52 hl C hr hx  _ _ _ _  H
    · refine J.iconst C (1) dX6_useImplication_48 (by decide) ?_
      refine J.goto (tgt := 53) C dX6_useImplication_49 (by decide) ?_
      refine J.widen (k := 4) (n := 24) (Nat.le_of_ble_eq_true rfl) (Nat.le_of_ble_eq_true rfl) ?_
      refine J.lw (lv' := [(0, .ref (ad 0)), (1, .int a1), (2, .int a2), (3, .int z14)]) ⟨rfl, rfl, rfl, rfl, trivial⟩ ?_
      exact bl_X6_useImplication_53 hl C hr hx  _ _ _ _ _  H

/-! X6_makeNegation -/
def B_X6_makeNegation_36 (σ : DS) (l1 : Int32) (t0 : Int32) : Res DS Int32 := (bd (P_X6_requireShape σ t0) fun _ s36 => (bd (P_X6_requireRoom s36 ) fun _ s40 => (bd (P_X0_enter s40 (78 : Int32) (F_X2_begin s40 l1) (-1 : Int32)) fun r58 s58 => (bd (P_X6_made s58 r58) fun r61 s61 => (lt r61 fun z64 => (bd (P_X2_enter s61 z64 (105 : Int32)) fun r72 s72 => (lt r72 fun z75 => (bd (P_X2_citeBoxes s72 z75 l1 (-1 : Int32)) fun _ s83 => (some (.inl z75, s83))))))))))
set_option maxRecDepth 100000 in
theorem bl_X6_makeNegation_36 {l : Launch} (hl : l.stackTraces = false) {g : Gy} {ad : Nat → Nat} {rst : va_W} {p : Program} {e : Env} {s : State} {m : MethodId} {args : Array Value} {below : List Frame} {meth : Method} {c : Code} {A : Nat → Prop} (C : Cx p l s m args meth c g A yX6_makeNegation.cls cX6_makeNegation 4) (hr : meth.sig.returnType = some .int) (hx : ∀ x ∈ c.exceptionTable.toList, False) {rr : (Int32 ⊕ String) × DS} (σ : DS) (l1 : Int32) (t0 : Int32) (H : B_X6_makeNegation_36 σ l1 t0 = some rr) : J p l e (rmOf 8 5 30) s m args below meth c g A 4 2 12 (QR mI g A (dkh g ad rst) rr below args s 5 30) 36 [(0, .ref (ad 0)), (1, .int l1)] [.int t0, .ref (ad 0)] ((dkh g ad rst) σ) := by
  unfold B_X6_makeNegation_36 at H
  refine J.callVBV (hp := (dkh g ad rst)) C rfl (sp_X6_requireShape hl _) rfl kMl_X6_100 mdX6_requireShape ⟨(Nat.le_of_ble_eq_true rfl), (Nat.le_of_ble_eq_true rfl)⟩ dk_0 rfl rfl (Nat.le_of_ble_eq_true rfl) dX6_makeNegation_36 ⟨(Nat.le_of_ble_eq_true rfl), (Nat.le_of_ble_eq_true rfl)⟩ hx (Nat.le_of_ble_eq_true rfl) (Nat.le_of_ble_eq_true rfl) H (fun _ s36 H => ?_)
  refine J.aload_n (i := 0) C dX6_makeNegation_39 rfl rfl ?_
  refine J.callVBV (hp := (dkh g ad rst)) C rfl (sp_X6_requireRoom hl ) rfl kMl_X6_104 mdX6_requireRoom ⟨(Nat.le_of_ble_eq_true rfl), (Nat.le_of_ble_eq_true rfl)⟩ dk_0 rfl rfl (Nat.le_of_ble_eq_true rfl) dX6_makeNegation_40 ⟨(Nat.le_of_ble_eq_true rfl), (Nat.le_of_ble_eq_true rfl)⟩ hx (Nat.le_of_ble_eq_true rfl) (Nat.le_of_ble_eq_true rfl) H (fun _ s40 H => ?_)
  refine J.aload_n (i := 0) C dX6_makeNegation_43 rfl rfl ?_
  refine J.get C 0 0 dk_0 rfl (by decide) kFl_X6_15 inB_X6 rfl dX6_makeNegation_44 ?_
  refine J.bipush C (78) dX6_makeNegation_47 (by decide) ?_
  refine J.aload_n (i := 0) C dX6_makeNegation_49 rfl rfl ?_
  refine J.get C 0 1 dk_0 rfl (by decide) kFl_X6_21 inB_X6 rfl dX6_makeNegation_50 ?_
  refine J.iload_n (i := 1) C dX6_makeNegation_53 rfl rfl ?_
  refine J.callVI C (sp_X2_begin hl _) rfl kMl_X6_154 mdX2_begin ⟨(Nat.le_of_ble_eq_true rfl), (Nat.le_of_ble_eq_true rfl)⟩ dk_2 rfl rfl (Nat.le_of_ble_eq_true rfl) dX6_makeNegation_54 ⟨(Nat.le_of_ble_eq_true rfl), (Nat.le_of_ble_eq_true rfl)⟩ ?_
  refine J.iconst C (-1) dX6_makeNegation_57 (by decide) ?_
  refine J.callVBI (hp := (dkh g ad rst)) C rfl (sp_X0_enter hl _ _ _) rfl kMl_X6_52 mdX0_enter ⟨(Nat.le_of_ble_eq_true rfl), (Nat.le_of_ble_eq_true rfl)⟩ dk_1 rfl rfl (Nat.le_of_ble_eq_true rfl) dX6_makeNegation_58 ⟨(Nat.le_of_ble_eq_true rfl), (Nat.le_of_ble_eq_true rfl)⟩ hx (Nat.le_of_ble_eq_true rfl) (Nat.le_of_ble_eq_true rfl) H (fun r58 s58 H => ?_)
  refine J.callSBI (hp := (dkh g ad rst)) C rfl (sp_X6_made hl _) rfl kMl_X6_56 mdX6_made ⟨(Nat.le_of_ble_eq_true rfl), (Nat.le_of_ble_eq_true rfl)⟩ rfl (Nat.le_of_ble_eq_true rfl) dX6_makeNegation_61 ⟨(Nat.le_of_ble_eq_true rfl), (Nat.le_of_ble_eq_true rfl)⟩ hx (Nat.le_of_ble_eq_true rfl) (Nat.le_of_ble_eq_true rfl) H (fun r61 s61 H => ?_)
  refine J.istore_nL (i := 2) C dX6_makeNegation_64 rfl (by decide) H (fun z64 H => ?_)
  refine J.aload_n (i := 0) C dX6_makeNegation_65 rfl rfl ?_
  refine J.get C 0 1 dk_0 rfl (by decide) kFl_X6_21 inB_X6 rfl dX6_makeNegation_66 ?_
  refine J.iload_n (i := 2) C dX6_makeNegation_69 rfl rfl ?_
  refine J.bipush C (105) dX6_makeNegation_70 (by decide) ?_
  refine J.callVBI (hp := (dkh g ad rst)) C rfl (sp_X2_enter hl _ _) rfl kMl_X6_107 mdX2_enter ⟨(Nat.le_of_ble_eq_true rfl), (Nat.le_of_ble_eq_true rfl)⟩ dk_2 rfl rfl (Nat.le_of_ble_eq_true rfl) dX6_makeNegation_72 ⟨(Nat.le_of_ble_eq_true rfl), (Nat.le_of_ble_eq_true rfl)⟩ hx (Nat.le_of_ble_eq_true rfl) (Nat.le_of_ble_eq_true rfl) H (fun r72 s72 H => ?_)
  refine J.istore_nL (i := 3) C dX6_makeNegation_75 rfl (by decide) H (fun z75 H => ?_)
  refine J.aload_n (i := 0) C dX6_makeNegation_76 rfl rfl ?_
  refine J.get C 0 1 dk_0 rfl (by decide) kFl_X6_21 inB_X6 rfl dX6_makeNegation_77 ?_
  refine J.iload_n (i := 3) C dX6_makeNegation_80 rfl rfl ?_
  refine J.iload_n (i := 1) C dX6_makeNegation_81 rfl rfl ?_
  refine J.iconst C (-1) dX6_makeNegation_82 (by decide) ?_
  refine J.callVBV (hp := (dkh g ad rst)) C rfl (sp_X2_citeBoxes hl _ _ _) rfl kMl_X6_160 mdX2_citeBoxes ⟨(Nat.le_of_ble_eq_true rfl), (Nat.le_of_ble_eq_true rfl)⟩ dk_2 rfl rfl (Nat.le_of_ble_eq_true rfl) dX6_makeNegation_83 ⟨(Nat.le_of_ble_eq_true rfl), (Nat.le_of_ble_eq_true rfl)⟩ hx (Nat.le_of_ble_eq_true rfl) (Nat.le_of_ble_eq_true rfl) H (fun _ s83 H => ?_)
  refine J.iload_n (i := 3) C dX6_makeNegation_86 rfl rfl ?_
  exact J.iretL C hr (Nat.le_of_ble_eq_true rfl) (Nat.le_of_ble_eq_true rfl) dX6_makeNegation_87 H
abbrev mX6_makeNegation : MD := (yX6_makeNegation, cX6_makeNegation, 4, some .int)
theorem mdX6_makeNegation : MDv mX6_makeNegation RX6 1 := ⟨kIm_X6_makeNegation, kSe_X6_makeNegation, kIn_X6, kCo_X6_makeNegation, by decide +kernel⟩
def P_X6_makeNegation (σ : DS) (a1 : Int32) : Res DS Int32 := (bd (P_X6_requireBox σ a1) fun _ s2 => (bd (P_X6_requireCitableBox s2 a1) fun _ s7 => (if (F_X0_kind s7 (F_X2_result s7 a1)) = (70 : Int32) then (B_X6_makeNegation_36 s7 a1 (1 : Int32)) else (B_X6_makeNegation_36 s7 a1 (0 : Int32)))))
set_option maxRecDepth 100000 in
theorem sp_X6_makeNegation {l : Launch} (hl : l.stackTraces = false) {g : Gy} {ad : Nat → Nat} {rst : va_W} {σ : DS} (a1 : Int32) : SpR l mX6_makeNegation 8 5 30 mI g [.ref (ad 0), .int a1] (dkh g ad rst) σ (P_X6_makeNegation σ a1) := by
  refine SpR.of hl (by decide) (Nat.le_of_ble_eq_true rfl) (fun rr H p e s m args below meth c A C hr hx => ?_)
  unfold P_X6_makeNegation at H
  refine J.lw (lv' := [(0, .ref (ad 0)), (1, .int a1)]) ⟨rfl, rfl, trivial⟩ ?_
  refine J.aload_n (i := 0) C dX6_makeNegation_0 rfl rfl ?_
  refine J.iload_n (i := 1) C dX6_makeNegation_1 rfl rfl ?_
  refine J.callVBV (hp := (dkh g ad rst)) C rfl (sp_X6_requireBox hl _) rfl kMl_X6_148 mdX6_requireBox ⟨(Nat.le_of_ble_eq_true rfl), (Nat.le_of_ble_eq_true rfl)⟩ dk_0 rfl rfl (Nat.le_of_ble_eq_true rfl) dX6_makeNegation_2 ⟨(Nat.le_of_ble_eq_true rfl), (Nat.le_of_ble_eq_true rfl)⟩ hx (Nat.le_of_ble_eq_true rfl) (Nat.le_of_ble_eq_true rfl) H (fun _ s2 H => ?_)
  refine J.aload_n (i := 0) C dX6_makeNegation_5 rfl rfl ?_
  refine J.iload_n (i := 1) C dX6_makeNegation_6 rfl rfl ?_
  refine J.callVBV (hp := (dkh g ad rst)) C rfl (sp_X6_requireCitableBox hl _) rfl kMl_X6_151 mdX6_requireCitableBox ⟨(Nat.le_of_ble_eq_true rfl), (Nat.le_of_ble_eq_true rfl)⟩ dk_0 rfl rfl (Nat.le_of_ble_eq_true rfl) dX6_makeNegation_7 ⟨(Nat.le_of_ble_eq_true rfl), (Nat.le_of_ble_eq_true rfl)⟩ hx (Nat.le_of_ble_eq_true rfl) (Nat.le_of_ble_eq_true rfl) H (fun _ s7 H => ?_)
  refine J.aload_n (i := 0) C dX6_makeNegation_10 rfl rfl ?_
  refine J.aload_n (i := 0) C dX6_makeNegation_11 rfl rfl ?_
  refine J.get C 0 0 dk_0 rfl (by decide) kFl_X6_15 inB_X6 rfl dX6_makeNegation_12 ?_
  refine J.aload_n (i := 0) C dX6_makeNegation_15 rfl rfl ?_
  refine J.get C 0 1 dk_0 rfl (by decide) kFl_X6_21 inB_X6 rfl dX6_makeNegation_16 ?_
  refine J.iload_n (i := 1) C dX6_makeNegation_19 rfl rfl ?_
  refine J.callVI C (sp_X2_result hl _) rfl kMl_X6_157 mdX2_result ⟨(Nat.le_of_ble_eq_true rfl), (Nat.le_of_ble_eq_true rfl)⟩ dk_2 rfl rfl (Nat.le_of_ble_eq_true rfl) dX6_makeNegation_20 ⟨(Nat.le_of_ble_eq_true rfl), (Nat.le_of_ble_eq_true rfl)⟩ ?_
  refine J.callVI C (sp_X0_kind hl _) rfl kMl_X6_138 mdX0_kind ⟨(Nat.le_of_ble_eq_true rfl), (Nat.le_of_ble_eq_true rfl)⟩ dk_1 rfl rfl (Nat.le_of_ble_eq_true rfl) dX6_makeNegation_23 ⟨(Nat.le_of_ble_eq_true rfl), (Nat.le_of_ble_eq_true rfl)⟩ ?_
  refine J.bipush C (70) dX6_makeNegation_26 (by decide) ?_
  refine J.icmp_neL (tgt := 35) C dX6_makeNegation_28 (by decide) H (fun c_28 H => ?_) (fun c_28 H => ?_)
  · refine J.iconst C (0) dX6_makeNegation_35 (by decide) ?_
    refine J.widen (k := 2) (n := 12) (Nat.le_of_ble_eq_true rfl) (Nat.le_of_ble_eq_true rfl) ?_
    refine J.lw (lv' := [(0, .ref (ad 0)), (1, .int a1)]) ⟨rfl, rfl, trivial⟩ ?_
    exact bl_X6_makeNegation_36 hl C hr hx  _ _ _  H
  · refine J.iconst C (1) dX6_makeNegation_31 (by decide) ?_
    refine J.goto (tgt := 36) C dX6_makeNegation_32 (by decide) ?_
    refine J.widen (k := 2) (n := 12) (Nat.le_of_ble_eq_true rfl) (Nat.le_of_ble_eq_true rfl) ?_
    refine J.lw (lv' := [(0, .ref (ad 0)), (1, .int a1)]) ⟨rfl, rfl, trivial⟩ ?_
    exact bl_X6_makeNegation_36 hl C hr hx  _ _ _  H

/-! X6_useNegation -/
def B_X6_useNegation_53 (σ : DS) (l1 : Int32) (l2 : Int32) (t0 : Int32) : Res DS Int32 := (bd (P_X6_requireShape σ t0) fun _ s53 => (bd (P_X6_requireRoom s53 ) fun _ s57 => (bd (P_X0_enter s57 (70 : Int32) (-1 : Int32) (-1 : Int32)) fun r68 s68 => (bd (P_X6_made s68 r68) fun r71 s71 => (lt r71 fun z74 => (bd (P_X2_enterCiting s71 z74 (110 : Int32) l1 l2) fun r86 s86 => (some (.inl r86, s86))))))))
set_option maxRecDepth 100000 in
theorem bl_X6_useNegation_53 {l : Launch} (hl : l.stackTraces = false) {g : Gy} {ad : Nat → Nat} {rst : va_W} {p : Program} {e : Env} {s : State} {m : MethodId} {args : Array Value} {below : List Frame} {meth : Method} {c : Code} {A : Nat → Prop} (C : Cx p l s m args meth c g A yX6_useNegation.cls cX6_useNegation 5) (hr : meth.sig.returnType = some .int) (hx : ∀ x ∈ c.exceptionTable.toList, False) {rr : (Int32 ⊕ String) × DS} (σ : DS) (l1 : Int32) (l2 : Int32) (t0 : Int32) (H : B_X6_useNegation_53 σ l1 l2 t0 = some rr) : J p l e (rmOf 9 7 42) s m args below meth c g A 5 4 24 (QR mI g A (dkh g ad rst) rr below args s 7 42) 53 [(0, .ref (ad 0)), (1, .int l1), (2, .int l2)] [.int t0, .ref (ad 0)] ((dkh g ad rst) σ) := by
  unfold B_X6_useNegation_53 at H
  refine J.callVBV (hp := (dkh g ad rst)) C rfl (sp_X6_requireShape hl _) rfl kMl_X6_100 mdX6_requireShape ⟨(Nat.le_of_ble_eq_true rfl), (Nat.le_of_ble_eq_true rfl)⟩ dk_0 rfl rfl (Nat.le_of_ble_eq_true rfl) dX6_useNegation_53 ⟨(Nat.le_of_ble_eq_true rfl), (Nat.le_of_ble_eq_true rfl)⟩ hx (Nat.le_of_ble_eq_true rfl) (Nat.le_of_ble_eq_true rfl) H (fun _ s53 H => ?_)
  refine J.aload_n (i := 0) C dX6_useNegation_56 rfl rfl ?_
  refine J.callVBV (hp := (dkh g ad rst)) C rfl (sp_X6_requireRoom hl ) rfl kMl_X6_104 mdX6_requireRoom ⟨(Nat.le_of_ble_eq_true rfl), (Nat.le_of_ble_eq_true rfl)⟩ dk_0 rfl rfl (Nat.le_of_ble_eq_true rfl) dX6_useNegation_57 ⟨(Nat.le_of_ble_eq_true rfl), (Nat.le_of_ble_eq_true rfl)⟩ hx (Nat.le_of_ble_eq_true rfl) (Nat.le_of_ble_eq_true rfl) H (fun _ s57 H => ?_)
  refine J.aload_n (i := 0) C dX6_useNegation_60 rfl rfl ?_
  refine J.get C 0 0 dk_0 rfl (by decide) kFl_X6_15 inB_X6 rfl dX6_useNegation_61 ?_
  refine J.bipush C (70) dX6_useNegation_64 (by decide) ?_
  refine J.iconst C (-1) dX6_useNegation_66 (by decide) ?_
  refine J.iconst C (-1) dX6_useNegation_67 (by decide) ?_
  refine J.callVBI (hp := (dkh g ad rst)) C rfl (sp_X0_enter hl _ _ _) rfl kMl_X6_52 mdX0_enter ⟨(Nat.le_of_ble_eq_true rfl), (Nat.le_of_ble_eq_true rfl)⟩ dk_1 rfl rfl (Nat.le_of_ble_eq_true rfl) dX6_useNegation_68 ⟨(Nat.le_of_ble_eq_true rfl), (Nat.le_of_ble_eq_true rfl)⟩ hx (Nat.le_of_ble_eq_true rfl) (Nat.le_of_ble_eq_true rfl) H (fun r68 s68 H => ?_)
  refine J.callSBI (hp := (dkh g ad rst)) C rfl (sp_X6_made hl _) rfl kMl_X6_56 mdX6_made ⟨(Nat.le_of_ble_eq_true rfl), (Nat.le_of_ble_eq_true rfl)⟩ rfl (Nat.le_of_ble_eq_true rfl) dX6_useNegation_71 ⟨(Nat.le_of_ble_eq_true rfl), (Nat.le_of_ble_eq_true rfl)⟩ hx (Nat.le_of_ble_eq_true rfl) (Nat.le_of_ble_eq_true rfl) H (fun r71 s71 H => ?_)
  refine J.istoreL C dX6_useNegation_74 (by decide) H (fun z74 H => ?_)
  refine J.aload_n (i := 0) C dX6_useNegation_76 rfl rfl ?_
  refine J.get C 0 1 dk_0 rfl (by decide) kFl_X6_21 inB_X6 rfl dX6_useNegation_77 ?_
  refine J.iload C dX6_useNegation_80 rfl ?_
  refine J.bipush C (110) dX6_useNegation_82 (by decide) ?_
  refine J.iload_n (i := 1) C dX6_useNegation_84 rfl rfl ?_
  refine J.iload_n (i := 2) C dX6_useNegation_85 rfl rfl ?_
  refine J.callVBI (hp := (dkh g ad rst)) C rfl (sp_X2_enterCiting hl _ _ _ _) rfl kMl_X6_131 mdX2_enterCiting ⟨(Nat.le_of_ble_eq_true rfl), (Nat.le_of_ble_eq_true rfl)⟩ dk_2 rfl rfl (Nat.le_of_ble_eq_true rfl) dX6_useNegation_86 ⟨(Nat.le_of_ble_eq_true rfl), (Nat.le_of_ble_eq_true rfl)⟩ hx (Nat.le_of_ble_eq_true rfl) (Nat.le_of_ble_eq_true rfl) H (fun r86 s86 H => ?_)
  exact J.iretL C hr (Nat.le_of_ble_eq_true rfl) (Nat.le_of_ble_eq_true rfl) dX6_useNegation_89 H
def B_X6_useNegation_52 (σ : DS) (l1 : Int32) (l2 : Int32) : Res DS Int32 := (B_X6_useNegation_53 σ l1 l2 (0 : Int32))
set_option maxRecDepth 100000 in
theorem bl_X6_useNegation_52 {l : Launch} (hl : l.stackTraces = false) {g : Gy} {ad : Nat → Nat} {rst : va_W} {p : Program} {e : Env} {s : State} {m : MethodId} {args : Array Value} {below : List Frame} {meth : Method} {c : Code} {A : Nat → Prop} (C : Cx p l s m args meth c g A yX6_useNegation.cls cX6_useNegation 5) (hr : meth.sig.returnType = some .int) (hx : ∀ x ∈ c.exceptionTable.toList, False) {rr : (Int32 ⊕ String) × DS} (σ : DS) (l1 : Int32) (l2 : Int32) (H : B_X6_useNegation_52 σ l1 l2 = some rr) : J p l e (rmOf 9 7 42) s m args below meth c g A 5 4 24 (QR mI g A (dkh g ad rst) rr below args s 7 42) 52 [(0, .ref (ad 0)), (1, .int l1), (2, .int l2)] [.ref (ad 0)] ((dkh g ad rst) σ) := by
  unfold B_X6_useNegation_52 at H
  refine J.iconst C (0) dX6_useNegation_52 (by decide) ?_
  refine J.widen (k := 4) (n := 24) (Nat.le_of_ble_eq_true rfl) (Nat.le_of_ble_eq_true rfl) ?_
  refine J.lw (lv' := [(0, .ref (ad 0)), (1, .int l1), (2, .int l2)]) ⟨rfl, rfl, rfl, trivial⟩ ?_
  exact bl_X6_useNegation_53 hl C hr hx  _ _ _ _  H
abbrev mX6_useNegation : MD := (yX6_useNegation, cX6_useNegation, 5, some .int)
theorem mdX6_useNegation : MDv mX6_useNegation RX6 2 := ⟨kIm_X6_useNegation, kSe_X6_useNegation, kIn_X6, kCo_X6_useNegation, by decide +kernel⟩
def P_X6_useNegation (σ : DS) (a1 : Int32) (a2 : Int32) : Res DS Int32 := (bd (P_X6_requireTwoLines σ a1 a2) fun _ s3 => (lt (F_X2_formula s3 a1) fun z14 => (if (F_X0_kind s3 z14) = (78 : Int32) then (if (F_X2_formula s3 a2) = (F_X0_left s3 z14) then (B_X6_useNegation_53 s3 a1 a2 (1 : Int32)) else (B_X6_useNegation_52 s3 a1 a2)) else (B_X6_useNegation_52 s3 a1 a2))))
set_option maxRecDepth 100000 in
theorem sp_X6_useNegation {l : Launch} (hl : l.stackTraces = false) {g : Gy} {ad : Nat → Nat} {rst : va_W} {σ : DS} (a1 : Int32) (a2 : Int32) : SpR l mX6_useNegation 9 7 42 mI g [.ref (ad 0), .int a1, .int a2] (dkh g ad rst) σ (P_X6_useNegation σ a1 a2) := by
  refine SpR.of hl (by decide) (Nat.le_of_ble_eq_true rfl) (fun rr H p e s m args below meth c A C hr hx => ?_)
  unfold P_X6_useNegation at H
  refine J.lw (lv' := [(0, .ref (ad 0)), (1, .int a1), (2, .int a2)]) ⟨rfl, rfl, rfl, trivial⟩ ?_
  refine J.aload_n (i := 0) C dX6_useNegation_0 rfl rfl ?_
  refine J.iload_n (i := 1) C dX6_useNegation_1 rfl rfl ?_
  refine J.iload_n (i := 2) C dX6_useNegation_2 rfl rfl ?_
  refine J.callVBV (hp := (dkh g ad rst)) C rfl (sp_X6_requireTwoLines hl _ _) rfl kMl_X6_135 mdX6_requireTwoLines ⟨(Nat.le_of_ble_eq_true rfl), (Nat.le_of_ble_eq_true rfl)⟩ dk_0 rfl rfl (Nat.le_of_ble_eq_true rfl) dX6_useNegation_3 ⟨(Nat.le_of_ble_eq_true rfl), (Nat.le_of_ble_eq_true rfl)⟩ hx (Nat.le_of_ble_eq_true rfl) (Nat.le_of_ble_eq_true rfl) H (fun _ s3 H => ?_)
  refine J.aload_n (i := 0) C dX6_useNegation_6 rfl rfl ?_
  refine J.get C 0 1 dk_0 rfl (by decide) kFl_X6_21 inB_X6 rfl dX6_useNegation_7 ?_
  refine J.iload_n (i := 1) C dX6_useNegation_10 rfl rfl ?_
  refine J.callVI C (sp_X2_formula hl _) rfl kMl_X6_128 mdX2_formula ⟨(Nat.le_of_ble_eq_true rfl), (Nat.le_of_ble_eq_true rfl)⟩ dk_2 rfl rfl (Nat.le_of_ble_eq_true rfl) dX6_useNegation_11 ⟨(Nat.le_of_ble_eq_true rfl), (Nat.le_of_ble_eq_true rfl)⟩ ?_
  refine J.istore_nL (i := 3) C dX6_useNegation_14 rfl (by decide) H (fun z14 H => ?_)
  refine J.aload_n (i := 0) C dX6_useNegation_15 rfl rfl ?_
  refine J.aload_n (i := 0) C dX6_useNegation_16 rfl rfl ?_
  refine J.get C 0 0 dk_0 rfl (by decide) kFl_X6_15 inB_X6 rfl dX6_useNegation_17 ?_
  refine J.iload_n (i := 3) C dX6_useNegation_20 rfl rfl ?_
  refine J.callVI C (sp_X0_kind hl _) rfl kMl_X6_138 mdX0_kind ⟨(Nat.le_of_ble_eq_true rfl), (Nat.le_of_ble_eq_true rfl)⟩ dk_1 rfl rfl (Nat.le_of_ble_eq_true rfl) dX6_useNegation_21 ⟨(Nat.le_of_ble_eq_true rfl), (Nat.le_of_ble_eq_true rfl)⟩ ?_
  refine J.bipush C (78) dX6_useNegation_24 (by decide) ?_
  refine J.icmp_neL (tgt := 52) C dX6_useNegation_26 (by decide) H (fun c_26 H => ?_) (fun c_26 H => ?_)
  · refine J.widen (k := 4) (n := 24) (Nat.le_of_ble_eq_true rfl) (Nat.le_of_ble_eq_true rfl) ?_
    refine J.lw (lv' := [(0, .ref (ad 0)), (1, .int a1), (2, .int a2)]) ⟨rfl, rfl, rfl, trivial⟩ ?_
    exact bl_X6_useNegation_52 hl C hr hx  _ _ _  H
  · refine J.aload_n (i := 0) C dX6_useNegation_29 rfl rfl ?_
    refine J.get C 0 1 dk_0 rfl (by decide) kFl_X6_21 inB_X6 rfl dX6_useNegation_30 ?_
    refine J.iload_n (i := 2) C dX6_useNegation_33 rfl rfl ?_
    refine J.callVI C (sp_X2_formula hl _) rfl kMl_X6_128 mdX2_formula ⟨(Nat.le_of_ble_eq_true rfl), (Nat.le_of_ble_eq_true rfl)⟩ dk_2 rfl rfl (Nat.le_of_ble_eq_true rfl) dX6_useNegation_34 ⟨(Nat.le_of_ble_eq_true rfl), (Nat.le_of_ble_eq_true rfl)⟩ ?_
    refine J.aload_n (i := 0) C dX6_useNegation_37 rfl rfl ?_
    refine J.get C 0 0 dk_0 rfl (by decide) kFl_X6_15 inB_X6 rfl dX6_useNegation_38 ?_
    refine J.iload_n (i := 3) C dX6_useNegation_41 rfl rfl ?_
    refine J.callVI C (sp_X0_left hl _) rfl kMl_X6_145 mdX0_left ⟨(Nat.le_of_ble_eq_true rfl), (Nat.le_of_ble_eq_true rfl)⟩ dk_1 rfl rfl (Nat.le_of_ble_eq_true rfl) dX6_useNegation_42 ⟨(Nat.le_of_ble_eq_true rfl), (Nat.le_of_ble_eq_true rfl)⟩ ?_
    refine J.icmp_neL (tgt := 52) C dX6_useNegation_45 (by decide) H (fun c_45 H => ?_) (fun c_45 H => ?_)
    · refine J.widen (k := 4) (n := 24) (Nat.le_of_ble_eq_true rfl) (Nat.le_of_ble_eq_true rfl) ?_
      refine J.lw (lv' := [(0, .ref (ad 0)), (1, .int a1), (2, .int a2)]) ⟨rfl, rfl, rfl, trivial⟩ ?_
      exact bl_X6_useNegation_52 hl C hr hx  _ _ _  H
    · refine J.iconst C (1) dX6_useNegation_48 (by decide) ?_
      refine J.goto (tgt := 53) C dX6_useNegation_49 (by decide) ?_
      refine J.widen (k := 4) (n := 24) (Nat.le_of_ble_eq_true rfl) (Nat.le_of_ble_eq_true rfl) ?_
      refine J.lw (lv' := [(0, .ref (ad 0)), (1, .int a1), (2, .int a2)]) ⟨rfl, rfl, rfl, trivial⟩ ?_
      exact bl_X6_useNegation_53 hl C hr hx  _ _ _ _  H

/-! X6_fromFalsum -/
def B_X6_fromFalsum_41 (σ : DS) (l1 : Int32) (l2 : Int32) (t0 : Int32) : Res DS Int32 := (bd (P_X6_requireShape σ t0) fun _ s41 => (bd (P_X6_requireRoom s41 ) fun _ s45 => (bd (P_X2_enterCiting s45 l2 (120 : Int32) l1 (-1 : Int32)) fun r57 s57 => (some (.inl r57, s57)))))
set_option maxRecDepth 100000 in
theorem bl_X6_fromFalsum_41 {l : Launch} (hl : l.stackTraces = false) {g : Gy} {ad : Nat → Nat} {rst : va_W} {p : Program} {e : Env} {s : State} {m : MethodId} {args : Array Value} {below : List Frame} {meth : Method} {c : Code} {A : Nat → Prop} (C : Cx p l s m args meth c g A yX6_fromFalsum.cls cX6_fromFalsum 3) (hr : meth.sig.returnType = some .int) (hx : ∀ x ∈ c.exceptionTable.toList, False) {rr : (Int32 ⊕ String) × DS} (σ : DS) (l1 : Int32) (l2 : Int32) (t0 : Int32) (H : B_X6_fromFalsum_41 σ l1 l2 t0 = some rr) : J p l e (rmOf 8 5 30) s m args below meth c g A 3 3 18 (QR mI g A (dkh g ad rst) rr below args s 5 30) 41 [(0, .ref (ad 0)), (1, .int l1), (2, .int l2)] [.int t0, .ref (ad 0)] ((dkh g ad rst) σ) := by
  unfold B_X6_fromFalsum_41 at H
  refine J.callVBV (hp := (dkh g ad rst)) C rfl (sp_X6_requireShape hl _) rfl kMl_X6_100 mdX6_requireShape ⟨(Nat.le_of_ble_eq_true rfl), (Nat.le_of_ble_eq_true rfl)⟩ dk_0 rfl rfl (Nat.le_of_ble_eq_true rfl) dX6_fromFalsum_41 ⟨(Nat.le_of_ble_eq_true rfl), (Nat.le_of_ble_eq_true rfl)⟩ hx (Nat.le_of_ble_eq_true rfl) (Nat.le_of_ble_eq_true rfl) H (fun _ s41 H => ?_)
  refine J.aload_n (i := 0) C dX6_fromFalsum_44 rfl rfl ?_
  refine J.callVBV (hp := (dkh g ad rst)) C rfl (sp_X6_requireRoom hl ) rfl kMl_X6_104 mdX6_requireRoom ⟨(Nat.le_of_ble_eq_true rfl), (Nat.le_of_ble_eq_true rfl)⟩ dk_0 rfl rfl (Nat.le_of_ble_eq_true rfl) dX6_fromFalsum_45 ⟨(Nat.le_of_ble_eq_true rfl), (Nat.le_of_ble_eq_true rfl)⟩ hx (Nat.le_of_ble_eq_true rfl) (Nat.le_of_ble_eq_true rfl) H (fun _ s45 H => ?_)
  refine J.aload_n (i := 0) C dX6_fromFalsum_48 rfl rfl ?_
  refine J.get C 0 1 dk_0 rfl (by decide) kFl_X6_21 inB_X6 rfl dX6_fromFalsum_49 ?_
  refine J.iload_n (i := 2) C dX6_fromFalsum_52 rfl rfl ?_
  refine J.bipush C (120) dX6_fromFalsum_53 (by decide) ?_
  refine J.iload_n (i := 1) C dX6_fromFalsum_55 rfl rfl ?_
  refine J.iconst C (-1) dX6_fromFalsum_56 (by decide) ?_
  refine J.callVBI (hp := (dkh g ad rst)) C rfl (sp_X2_enterCiting hl _ _ _ _) rfl kMl_X6_131 mdX2_enterCiting ⟨(Nat.le_of_ble_eq_true rfl), (Nat.le_of_ble_eq_true rfl)⟩ dk_2 rfl rfl (Nat.le_of_ble_eq_true rfl) dX6_fromFalsum_57 ⟨(Nat.le_of_ble_eq_true rfl), (Nat.le_of_ble_eq_true rfl)⟩ hx (Nat.le_of_ble_eq_true rfl) (Nat.le_of_ble_eq_true rfl) H (fun r57 s57 H => ?_)
  exact J.iretL C hr (Nat.le_of_ble_eq_true rfl) (Nat.le_of_ble_eq_true rfl) dX6_fromFalsum_60 H
abbrev mX6_fromFalsum : MD := (yX6_fromFalsum, cX6_fromFalsum, 3, some .int)
theorem mdX6_fromFalsum : MDv mX6_fromFalsum RX6 2 := ⟨kIm_X6_fromFalsum, kSe_X6_fromFalsum, kIn_X6, kCo_X6_fromFalsum, by decide +kernel⟩
def P_X6_fromFalsum (σ : DS) (a1 : Int32) (a2 : Int32) : Res DS Int32 := (bd (P_X6_requireLine σ a1) fun _ s2 => (bd (P_X6_requireFormula s2 a2) fun _ s7 => (bd (P_X6_requireCitable s7 a1) fun _ s12 => (if (F_X0_kind s12 (F_X2_formula s12 a1)) = (70 : Int32) then (B_X6_fromFalsum_41 s12 a1 a2 (1 : Int32)) else (B_X6_fromFalsum_41 s12 a1 a2 (0 : Int32))))))
set_option maxRecDepth 100000 in
theorem sp_X6_fromFalsum {l : Launch} (hl : l.stackTraces = false) {g : Gy} {ad : Nat → Nat} {rst : va_W} {σ : DS} (a1 : Int32) (a2 : Int32) : SpR l mX6_fromFalsum 8 5 30 mI g [.ref (ad 0), .int a1, .int a2] (dkh g ad rst) σ (P_X6_fromFalsum σ a1 a2) := by
  refine SpR.of hl (by decide) (Nat.le_of_ble_eq_true rfl) (fun rr H p e s m args below meth c A C hr hx => ?_)
  unfold P_X6_fromFalsum at H
  refine J.lw (lv' := [(0, .ref (ad 0)), (1, .int a1), (2, .int a2)]) ⟨rfl, rfl, rfl, trivial⟩ ?_
  refine J.aload_n (i := 0) C dX6_fromFalsum_0 rfl rfl ?_
  refine J.iload_n (i := 1) C dX6_fromFalsum_1 rfl rfl ?_
  refine J.callVBV (hp := (dkh g ad rst)) C rfl (sp_X6_requireLine hl _) rfl kMl_X6_122 mdX6_requireLine ⟨(Nat.le_of_ble_eq_true rfl), (Nat.le_of_ble_eq_true rfl)⟩ dk_0 rfl rfl (Nat.le_of_ble_eq_true rfl) dX6_fromFalsum_2 ⟨(Nat.le_of_ble_eq_true rfl), (Nat.le_of_ble_eq_true rfl)⟩ hx (Nat.le_of_ble_eq_true rfl) (Nat.le_of_ble_eq_true rfl) H (fun _ s2 H => ?_)
  refine J.aload_n (i := 0) C dX6_fromFalsum_5 rfl rfl ?_
  refine J.iload_n (i := 2) C dX6_fromFalsum_6 rfl rfl ?_
  refine J.callVBV (hp := (dkh g ad rst)) C rfl (sp_X6_requireFormula hl _) rfl kMl_X6_60 mdX6_requireFormula ⟨(Nat.le_of_ble_eq_true rfl), (Nat.le_of_ble_eq_true rfl)⟩ dk_0 rfl rfl (Nat.le_of_ble_eq_true rfl) dX6_fromFalsum_7 ⟨(Nat.le_of_ble_eq_true rfl), (Nat.le_of_ble_eq_true rfl)⟩ hx (Nat.le_of_ble_eq_true rfl) (Nat.le_of_ble_eq_true rfl) H (fun _ s7 H => ?_)
  refine J.aload_n (i := 0) C dX6_fromFalsum_10 rfl rfl ?_
  refine J.iload_n (i := 1) C dX6_fromFalsum_11 rfl rfl ?_
  refine J.callVBV (hp := (dkh g ad rst)) C rfl (sp_X6_requireCitable hl _) rfl kMl_X6_125 mdX6_requireCitable ⟨(Nat.le_of_ble_eq_true rfl), (Nat.le_of_ble_eq_true rfl)⟩ dk_0 rfl rfl (Nat.le_of_ble_eq_true rfl) dX6_fromFalsum_12 ⟨(Nat.le_of_ble_eq_true rfl), (Nat.le_of_ble_eq_true rfl)⟩ hx (Nat.le_of_ble_eq_true rfl) (Nat.le_of_ble_eq_true rfl) H (fun _ s12 H => ?_)
  refine J.aload_n (i := 0) C dX6_fromFalsum_15 rfl rfl ?_
  refine J.aload_n (i := 0) C dX6_fromFalsum_16 rfl rfl ?_
  refine J.get C 0 0 dk_0 rfl (by decide) kFl_X6_15 inB_X6 rfl dX6_fromFalsum_17 ?_
  refine J.aload_n (i := 0) C dX6_fromFalsum_20 rfl rfl ?_
  refine J.get C 0 1 dk_0 rfl (by decide) kFl_X6_21 inB_X6 rfl dX6_fromFalsum_21 ?_
  refine J.iload_n (i := 1) C dX6_fromFalsum_24 rfl rfl ?_
  refine J.callVI C (sp_X2_formula hl _) rfl kMl_X6_128 mdX2_formula ⟨(Nat.le_of_ble_eq_true rfl), (Nat.le_of_ble_eq_true rfl)⟩ dk_2 rfl rfl (Nat.le_of_ble_eq_true rfl) dX6_fromFalsum_25 ⟨(Nat.le_of_ble_eq_true rfl), (Nat.le_of_ble_eq_true rfl)⟩ ?_
  refine J.callVI C (sp_X0_kind hl _) rfl kMl_X6_138 mdX0_kind ⟨(Nat.le_of_ble_eq_true rfl), (Nat.le_of_ble_eq_true rfl)⟩ dk_1 rfl rfl (Nat.le_of_ble_eq_true rfl) dX6_fromFalsum_28 ⟨(Nat.le_of_ble_eq_true rfl), (Nat.le_of_ble_eq_true rfl)⟩ ?_
  refine J.bipush C (70) dX6_fromFalsum_31 (by decide) ?_
  refine J.icmp_neL (tgt := 40) C dX6_fromFalsum_33 (by decide) H (fun c_33 H => ?_) (fun c_33 H => ?_)
  · refine J.iconst C (0) dX6_fromFalsum_40 (by decide) ?_
    refine J.widen (k := 3) (n := 18) (Nat.le_of_ble_eq_true rfl) (Nat.le_of_ble_eq_true rfl) ?_
    refine J.lw (lv' := [(0, .ref (ad 0)), (1, .int a1), (2, .int a2)]) ⟨rfl, rfl, rfl, trivial⟩ ?_
    exact bl_X6_fromFalsum_41 hl C hr hx  _ _ _ _  H
  · refine J.iconst C (1) dX6_fromFalsum_36 (by decide) ?_
    refine J.goto (tgt := 41) C dX6_fromFalsum_37 (by decide) ?_
    refine J.widen (k := 3) (n := 18) (Nat.le_of_ble_eq_true rfl) (Nat.le_of_ble_eq_true rfl) ?_
    refine J.lw (lv' := [(0, .ref (ad 0)), (1, .int a1), (2, .int a2)]) ⟨rfl, rfl, rfl, trivial⟩ ?_
    exact bl_X6_fromFalsum_41 hl C hr hx  _ _ _ _  H

/-! X6_doubleNegation -/
def B_X6_doubleNegation_60 (σ : DS) (l1 : Int32) (l3 : Int32) (t0 : Int32) : Res DS Int32 := (bd (P_X6_requireShape σ t0) fun _ s60 => (bd (P_X6_requireRoom s60 ) fun _ s64 => (bd (P_X2_enterCiting s64 (F_X0_left s64 l3) (100 : Int32) l1 (-1 : Int32)) fun r83 s83 => (some (.inl r83, s83)))))
set_option maxRecDepth 100000 in
theorem bl_X6_doubleNegation_60 {l : Launch} (hl : l.stackTraces = false) {g : Gy} {ad : Nat → Nat} {rst : va_W} {p : Program} {e : Env} {s : State} {m : MethodId} {args : Array Value} {below : List Frame} {meth : Method} {c : Code} {A : Nat → Prop} (C : Cx p l s m args meth c g A yX6_doubleNegation.cls cX6_doubleNegation 4) (hr : meth.sig.returnType = some .int) (hx : ∀ x ∈ c.exceptionTable.toList, False) {rr : (Int32 ⊕ String) × DS} (σ : DS) (l1 : Int32) (l3 : Int32) (t0 : Int32) (H : B_X6_doubleNegation_60 σ l1 l3 t0 = some rr) : J p l e (rmOf 8 4 24) s m args below meth c g A 4 2 12 (QR mI g A (dkh g ad rst) rr below args s 4 24) 60 [(0, .ref (ad 0)), (1, .int l1), (3, .int l3)] [.int t0, .ref (ad 0)] ((dkh g ad rst) σ) := by
  unfold B_X6_doubleNegation_60 at H
  refine J.callVBV (hp := (dkh g ad rst)) C rfl (sp_X6_requireShape hl _) rfl kMl_X6_100 mdX6_requireShape ⟨(Nat.le_of_ble_eq_true rfl), (Nat.le_of_ble_eq_true rfl)⟩ dk_0 rfl rfl (Nat.le_of_ble_eq_true rfl) dX6_doubleNegation_60 ⟨(Nat.le_of_ble_eq_true rfl), (Nat.le_of_ble_eq_true rfl)⟩ hx (Nat.le_of_ble_eq_true rfl) (Nat.le_of_ble_eq_true rfl) H (fun _ s60 H => ?_)
  refine J.aload_n (i := 0) C dX6_doubleNegation_63 rfl rfl ?_
  refine J.callVBV (hp := (dkh g ad rst)) C rfl (sp_X6_requireRoom hl ) rfl kMl_X6_104 mdX6_requireRoom ⟨(Nat.le_of_ble_eq_true rfl), (Nat.le_of_ble_eq_true rfl)⟩ dk_0 rfl rfl (Nat.le_of_ble_eq_true rfl) dX6_doubleNegation_64 ⟨(Nat.le_of_ble_eq_true rfl), (Nat.le_of_ble_eq_true rfl)⟩ hx (Nat.le_of_ble_eq_true rfl) (Nat.le_of_ble_eq_true rfl) H (fun _ s64 H => ?_)
  refine J.aload_n (i := 0) C dX6_doubleNegation_67 rfl rfl ?_
  refine J.get C 0 1 dk_0 rfl (by decide) kFl_X6_21 inB_X6 rfl dX6_doubleNegation_68 ?_
  refine J.aload_n (i := 0) C dX6_doubleNegation_71 rfl rfl ?_
  refine J.get C 0 0 dk_0 rfl (by decide) kFl_X6_15 inB_X6 rfl dX6_doubleNegation_72 ?_
  refine J.iload_n (i := 3) C dX6_doubleNegation_75 rfl rfl ?_
  refine J.callVI C (sp_X0_left hl _) rfl kMl_X6_145 mdX0_left ⟨(Nat.le_of_ble_eq_true rfl), (Nat.le_of_ble_eq_true rfl)⟩ dk_1 rfl rfl (Nat.le_of_ble_eq_true rfl) dX6_doubleNegation_76 ⟨(Nat.le_of_ble_eq_true rfl), (Nat.le_of_ble_eq_true rfl)⟩ ?_
  refine J.bipush C (100) dX6_doubleNegation_79 (by decide) ?_
  refine J.iload_n (i := 1) C dX6_doubleNegation_81 rfl rfl ?_
  refine J.iconst C (-1) dX6_doubleNegation_82 (by decide) ?_
  refine J.callVBI (hp := (dkh g ad rst)) C rfl (sp_X2_enterCiting hl _ _ _ _) rfl kMl_X6_131 mdX2_enterCiting ⟨(Nat.le_of_ble_eq_true rfl), (Nat.le_of_ble_eq_true rfl)⟩ dk_2 rfl rfl (Nat.le_of_ble_eq_true rfl) dX6_doubleNegation_83 ⟨(Nat.le_of_ble_eq_true rfl), (Nat.le_of_ble_eq_true rfl)⟩ hx (Nat.le_of_ble_eq_true rfl) (Nat.le_of_ble_eq_true rfl) H (fun r83 s83 H => ?_)
  exact J.iretL C hr (Nat.le_of_ble_eq_true rfl) (Nat.le_of_ble_eq_true rfl) dX6_doubleNegation_86 H
def B_X6_doubleNegation_59 (σ : DS) (l1 : Int32) (l3 : Int32) : Res DS Int32 := (B_X6_doubleNegation_60 σ l1 l3 (0 : Int32))
set_option maxRecDepth 100000 in
theorem bl_X6_doubleNegation_59 {l : Launch} (hl : l.stackTraces = false) {g : Gy} {ad : Nat → Nat} {rst : va_W} {p : Program} {e : Env} {s : State} {m : MethodId} {args : Array Value} {below : List Frame} {meth : Method} {c : Code} {A : Nat → Prop} (C : Cx p l s m args meth c g A yX6_doubleNegation.cls cX6_doubleNegation 4) (hr : meth.sig.returnType = some .int) (hx : ∀ x ∈ c.exceptionTable.toList, False) {rr : (Int32 ⊕ String) × DS} (σ : DS) (l1 : Int32) (l3 : Int32) (H : B_X6_doubleNegation_59 σ l1 l3 = some rr) : J p l e (rmOf 8 4 24) s m args below meth c g A 4 2 12 (QR mI g A (dkh g ad rst) rr below args s 4 24) 59 [(0, .ref (ad 0)), (1, .int l1), (3, .int l3)] [.ref (ad 0)] ((dkh g ad rst) σ) := by
  unfold B_X6_doubleNegation_59 at H
  refine J.iconst C (0) dX6_doubleNegation_59 (by decide) ?_
  refine J.widen (k := 2) (n := 12) (Nat.le_of_ble_eq_true rfl) (Nat.le_of_ble_eq_true rfl) ?_
  refine J.lw (lv' := [(0, .ref (ad 0)), (1, .int l1), (3, .int l3)]) ⟨rfl, rfl, rfl, trivial⟩ ?_
  exact bl_X6_doubleNegation_60 hl C hr hx  _ _ _ _  H
abbrev mX6_doubleNegation : MD := (yX6_doubleNegation, cX6_doubleNegation, 4, some .int)
theorem mdX6_doubleNegation : MDv mX6_doubleNegation RX6 1 := ⟨kIm_X6_doubleNegation, kSe_X6_doubleNegation, kIn_X6, kCo_X6_doubleNegation, by decide +kernel⟩
def P_X6_doubleNegation (σ : DS) (a1 : Int32) : Res DS Int32 := (bd (P_X6_requireLine σ a1) fun _ s2 => (bd (P_X6_requireCitable s2 a1) fun _ s7 => (lt (F_X2_formula s7 a1) fun z18 => (lt (F_X0_left s7 z18) fun z27 => (if (F_X0_kind s7 z18) = (78 : Int32) then (if (F_X0_kind s7 z27) = (78 : Int32) then (B_X6_doubleNegation_60 s7 a1 z27 (1 : Int32)) else (B_X6_doubleNegation_59 s7 a1 z27)) else (B_X6_doubleNegation_59 s7 a1 z27))))))
set_option maxRecDepth 100000 in
theorem sp_X6_doubleNegation {l : Launch} (hl : l.stackTraces = false) {g : Gy} {ad : Nat → Nat} {rst : va_W} {σ : DS} (a1 : Int32) : SpR l mX6_doubleNegation 8 4 24 mI g [.ref (ad 0), .int a1] (dkh g ad rst) σ (P_X6_doubleNegation σ a1) := by
  refine SpR.of hl (by decide) (Nat.le_of_ble_eq_true rfl) (fun rr H p e s m args below meth c A C hr hx => ?_)
  unfold P_X6_doubleNegation at H
  refine J.lw (lv' := [(0, .ref (ad 0)), (1, .int a1)]) ⟨rfl, rfl, trivial⟩ ?_
  refine J.aload_n (i := 0) C dX6_doubleNegation_0 rfl rfl ?_
  refine J.iload_n (i := 1) C dX6_doubleNegation_1 rfl rfl ?_
  refine J.callVBV (hp := (dkh g ad rst)) C rfl (sp_X6_requireLine hl _) rfl kMl_X6_122 mdX6_requireLine ⟨(Nat.le_of_ble_eq_true rfl), (Nat.le_of_ble_eq_true rfl)⟩ dk_0 rfl rfl (Nat.le_of_ble_eq_true rfl) dX6_doubleNegation_2 ⟨(Nat.le_of_ble_eq_true rfl), (Nat.le_of_ble_eq_true rfl)⟩ hx (Nat.le_of_ble_eq_true rfl) (Nat.le_of_ble_eq_true rfl) H (fun _ s2 H => ?_)
  refine J.aload_n (i := 0) C dX6_doubleNegation_5 rfl rfl ?_
  refine J.iload_n (i := 1) C dX6_doubleNegation_6 rfl rfl ?_
  refine J.callVBV (hp := (dkh g ad rst)) C rfl (sp_X6_requireCitable hl _) rfl kMl_X6_125 mdX6_requireCitable ⟨(Nat.le_of_ble_eq_true rfl), (Nat.le_of_ble_eq_true rfl)⟩ dk_0 rfl rfl (Nat.le_of_ble_eq_true rfl) dX6_doubleNegation_7 ⟨(Nat.le_of_ble_eq_true rfl), (Nat.le_of_ble_eq_true rfl)⟩ hx (Nat.le_of_ble_eq_true rfl) (Nat.le_of_ble_eq_true rfl) H (fun _ s7 H => ?_)
  refine J.aload_n (i := 0) C dX6_doubleNegation_10 rfl rfl ?_
  refine J.get C 0 1 dk_0 rfl (by decide) kFl_X6_21 inB_X6 rfl dX6_doubleNegation_11 ?_
  refine J.iload_n (i := 1) C dX6_doubleNegation_14 rfl rfl ?_
  refine J.callVI C (sp_X2_formula hl _) rfl kMl_X6_128 mdX2_formula ⟨(Nat.le_of_ble_eq_true rfl), (Nat.le_of_ble_eq_true rfl)⟩ dk_2 rfl rfl (Nat.le_of_ble_eq_true rfl) dX6_doubleNegation_15 ⟨(Nat.le_of_ble_eq_true rfl), (Nat.le_of_ble_eq_true rfl)⟩ ?_
  refine J.istore_nL (i := 2) C dX6_doubleNegation_18 rfl (by decide) H (fun z18 H => ?_)
  refine J.aload_n (i := 0) C dX6_doubleNegation_19 rfl rfl ?_
  refine J.get C 0 0 dk_0 rfl (by decide) kFl_X6_15 inB_X6 rfl dX6_doubleNegation_20 ?_
  refine J.iload_n (i := 2) C dX6_doubleNegation_23 rfl rfl ?_
  refine J.callVI C (sp_X0_left hl _) rfl kMl_X6_145 mdX0_left ⟨(Nat.le_of_ble_eq_true rfl), (Nat.le_of_ble_eq_true rfl)⟩ dk_1 rfl rfl (Nat.le_of_ble_eq_true rfl) dX6_doubleNegation_24 ⟨(Nat.le_of_ble_eq_true rfl), (Nat.le_of_ble_eq_true rfl)⟩ ?_
  refine J.istore_nL (i := 3) C dX6_doubleNegation_27 rfl (by decide) H (fun z27 H => ?_)
  refine J.aload_n (i := 0) C dX6_doubleNegation_28 rfl rfl ?_
  refine J.aload_n (i := 0) C dX6_doubleNegation_29 rfl rfl ?_
  refine J.get C 0 0 dk_0 rfl (by decide) kFl_X6_15 inB_X6 rfl dX6_doubleNegation_30 ?_
  refine J.iload_n (i := 2) C dX6_doubleNegation_33 rfl rfl ?_
  refine J.callVI C (sp_X0_kind hl _) rfl kMl_X6_138 mdX0_kind ⟨(Nat.le_of_ble_eq_true rfl), (Nat.le_of_ble_eq_true rfl)⟩ dk_1 rfl rfl (Nat.le_of_ble_eq_true rfl) dX6_doubleNegation_34 ⟨(Nat.le_of_ble_eq_true rfl), (Nat.le_of_ble_eq_true rfl)⟩ ?_
  refine J.bipush C (78) dX6_doubleNegation_37 (by decide) ?_
  refine J.icmp_neL (tgt := 59) C dX6_doubleNegation_39 (by decide) H (fun c_39 H => ?_) (fun c_39 H => ?_)
  · refine J.widen (k := 2) (n := 12) (Nat.le_of_ble_eq_true rfl) (Nat.le_of_ble_eq_true rfl) ?_
    refine J.lw (lv' := [(0, .ref (ad 0)), (1, .int a1), (3, .int z27)]) ⟨rfl, rfl, rfl, trivial⟩ ?_
    exact bl_X6_doubleNegation_59 hl C hr hx  _ _ _  H
  · refine J.aload_n (i := 0) C dX6_doubleNegation_42 rfl rfl ?_
    refine J.get C 0 0 dk_0 rfl (by decide) kFl_X6_15 inB_X6 rfl dX6_doubleNegation_43 ?_
    refine J.iload_n (i := 3) C dX6_doubleNegation_46 rfl rfl ?_
    refine J.callVI C (sp_X0_kind hl _) rfl kMl_X6_138 mdX0_kind ⟨(Nat.le_of_ble_eq_true rfl), (Nat.le_of_ble_eq_true rfl)⟩ dk_1 rfl rfl (Nat.le_of_ble_eq_true rfl) dX6_doubleNegation_47 ⟨(Nat.le_of_ble_eq_true rfl), (Nat.le_of_ble_eq_true rfl)⟩ ?_
    refine J.bipush C (78) dX6_doubleNegation_50 (by decide) ?_
    refine J.icmp_neL (tgt := 59) C dX6_doubleNegation_52 (by decide) H (fun c_52 H => ?_) (fun c_52 H => ?_)
    · refine J.widen (k := 2) (n := 12) (Nat.le_of_ble_eq_true rfl) (Nat.le_of_ble_eq_true rfl) ?_
      refine J.lw (lv' := [(0, .ref (ad 0)), (1, .int a1), (3, .int z27)]) ⟨rfl, rfl, rfl, trivial⟩ ?_
      exact bl_X6_doubleNegation_59 hl C hr hx  _ _ _  H
    · refine J.iconst C (1) dX6_doubleNegation_55 (by decide) ?_
      refine J.goto (tgt := 60) C dX6_doubleNegation_56 (by decide) ?_
      refine J.widen (k := 2) (n := 12) (Nat.le_of_ble_eq_true rfl) (Nat.le_of_ble_eq_true rfl) ?_
      refine J.lw (lv' := [(0, .ref (ad 0)), (1, .int a1), (3, .int z27)]) ⟨rfl, rfl, rfl, trivial⟩ ?_
      exact bl_X6_doubleNegation_60 hl C hr hx  _ _ _ _  H

/-! X6_newProof -/
abbrev mX6_newProof : MD := (yX6_newProof, cX6_newProof, 2, some .int)
theorem mdX6_newProof : MDv mX6_newProof RX6 0 := ⟨kIm_X6_newProof, kSe_X6_newProof, kIn_X6, kCo_X6_newProof, by decide +kernel⟩
def P_X6_newProof (σ : DS)  : Res DS Int32 := (lt (σ.1 2) fun z7 => (bd (P_X2_clear σ ) fun _ s12 => (some (.inl z7, s12))))
set_option maxRecDepth 100000 in
theorem sp_X6_newProof {l : Launch} (hl : l.stackTraces = false) {g : Gy} {ad : Nat → Nat} {rst : va_W} {σ : DS}  : SpR l mX6_newProof 2 0 0 mI g [.ref (ad 0)] (dkh g ad rst) σ (P_X6_newProof σ ) := by
  refine SpR.of hl (by decide) (Nat.le_of_ble_eq_true rfl) (fun rr H p e s m args below meth c A C hr hx => ?_)
  unfold P_X6_newProof at H
  refine J.lw (lv' := [(0, .ref (ad 0))]) ⟨rfl, trivial⟩ ?_
  refine J.aload_n (i := 0) C dX6_newProof_0 rfl rfl ?_
  refine J.get C 0 1 dk_0 rfl (by decide) kFl_X6_21 inB_X6 rfl dX6_newProof_1 ?_
  refine J.getN C 2 13 dk_2 rfl (by decide) nest_X6_164 inB_X2 rfl dX6_newProof_4 ?_
  refine J.istore_nL (i := 1) C dX6_newProof_7 rfl (by decide) H (fun z7 H => ?_)
  refine J.aload_n (i := 0) C dX6_newProof_8 rfl rfl ?_
  refine J.get C 0 1 dk_0 rfl (by decide) kFl_X6_21 inB_X6 rfl dX6_newProof_9 ?_
  refine J.callVBV (hp := (dkh g ad rst)) C rfl (sp_X2_clear hl ) rfl kMl_X6_167 mdX2_clear ⟨(Nat.le_of_ble_eq_true rfl), (Nat.le_of_ble_eq_true rfl)⟩ dk_2 rfl rfl (Nat.le_of_ble_eq_true rfl) dX6_newProof_12 ⟨(Nat.le_of_ble_eq_true rfl), (Nat.le_of_ble_eq_true rfl)⟩ hx (Nat.le_of_ble_eq_true rfl) (Nat.le_of_ble_eq_true rfl) H (fun _ s12 H => ?_)
  refine J.iload_n (i := 1) C dX6_newProof_15 rfl rfl ?_
  exact J.iretL C hr (Nat.le_of_ble_eq_true rfl) (Nat.le_of_ble_eq_true rfl) dX6_newProof_16 H

/-! X6_requireLines -/
abbrev mX6_requireLines : MD := (yX6_requireLines, cX6_requireLines, 1, none)
theorem mdX6_requireLines : MDv mX6_requireLines RX6 0 := ⟨kIm_X6_requireLines, kSe_X6_requireLines, kIn_X6, kCo_X6_requireLines, by decide +kernel⟩
def P_X6_requireLines (σ : DS)  : Res DS Unit := (if (σ.1 2) = 0 then (some (.inr "java/util/NoSuchElementException", σ)) else (some (.inl (), σ)))
set_option maxRecDepth 100000 in
theorem sp_X6_requireLines {l : Launch} (hl : l.stackTraces = false) {g : Gy} {ad : Nat → Nat} {rst : va_W} {σ : DS}  : SpR l mX6_requireLines 7 1 6 mV g [.ref (ad 0)] (dkh g ad rst) σ (P_X6_requireLines σ ) := by
  refine SpR.of hl (by decide) (Nat.le_of_ble_eq_true rfl) (fun rr H p e s m args below meth c A C hr hx => ?_)
  unfold P_X6_requireLines at H
  refine J.lw (lv' := [(0, .ref (ad 0))]) ⟨rfl, trivial⟩ ?_
  refine J.aload_n (i := 0) C dX6_requireLines_0 rfl rfl ?_
  refine J.get C 0 1 dk_0 rfl (by decide) kFl_X6_21 inB_X6 rfl dX6_requireLines_1 ?_
  refine J.getN C 2 13 dk_2 rfl (by decide) nest_X6_164 inB_X2 rfl dX6_requireLines_4 ?_
  refine J.if_neL (tgt := 21) C dX6_requireLines_7 (by decide) H (fun c_7 H => ?_) (fun c_7 H => ?_)
  · exact J.vretL C hr (Nat.le_of_ble_eq_true rfl) (Nat.le_of_ble_eq_true rfl) dX6_requireLines_21 H
  · exact J.throwNWL (hp := (dkh g ad rst)) C th_NoSuchElementException_77 str_274 dX6_requireLines_10 dX6_requireLines_13 dX6_requireLines_14 dX6_requireLines_17 dX6_requireLines_20 hx ⟨(Nat.le_of_ble_eq_true rfl), (Nat.le_of_ble_eq_true rfl), (Nat.le_of_ble_eq_true rfl), (Nat.le_of_ble_eq_true rfl)⟩ (Nat.le_of_ble_eq_true rfl) (Nat.le_of_ble_eq_true rfl) H

/-! X6_keepLemma -/
def B_X6_keepLemma_50 (σ : DS) (t0 : Int32) : Res DS Int32 := (bd (P_X6_requireShape σ t0) fun _ s50 => (if (s50.1 5) < (8 : Int32) then (bd (P_X1_keep s50 ) fun r83 s83 => (some (.inl r83, s83))) else (some (.inr "java/lang/IllegalStateException", s50))))
set_option maxRecDepth 100000 in
theorem bl_X6_keepLemma_50 {l : Launch} (hl : l.stackTraces = false) {g : Gy} {ad : Nat → Nat} {rst : va_W} {p : Program} {e : Env} {s : State} {m : MethodId} {args : Array Value} {below : List Frame} {meth : Method} {c : Code} {A : Nat → Prop} (C : Cx p l s m args meth c g A yX6_keepLemma.cls cX6_keepLemma 1) (hr : meth.sig.returnType = some .int) (hx : ∀ x ∈ c.exceptionTable.toList, False) {rr : (Int32 ⊕ String) × DS} (σ : DS) (t0 : Int32) (H : B_X6_keepLemma_50 σ t0 = some rr) : J p l e (rmOf 8 4 24) s m args below meth c g A 1 2 12 (QR mI g A (dkh g ad rst) rr below args s 4 24) 50 [(0, .ref (ad 0))] [.int t0, .ref (ad 0)] ((dkh g ad rst) σ) := by
  unfold B_X6_keepLemma_50 at H
  refine J.callVBV (hp := (dkh g ad rst)) C rfl (sp_X6_requireShape hl _) rfl kMl_X6_100 mdX6_requireShape ⟨(Nat.le_of_ble_eq_true rfl), (Nat.le_of_ble_eq_true rfl)⟩ dk_0 rfl rfl (Nat.le_of_ble_eq_true rfl) dX6_keepLemma_50 ⟨(Nat.le_of_ble_eq_true rfl), (Nat.le_of_ble_eq_true rfl)⟩ hx (Nat.le_of_ble_eq_true rfl) (Nat.le_of_ble_eq_true rfl) H (fun _ s50 H => ?_)
  refine J.aload_n (i := 0) C dX6_keepLemma_53 rfl rfl ?_
  refine J.get C 0 2 dk_0 rfl (by decide) kFl_X6_28 inB_X6 rfl dX6_keepLemma_54 ?_
  refine J.getN C 3 7 dk_3 rfl (by decide) nest_X6_179 inB_X1 rfl dX6_keepLemma_57 ?_
  refine J.bipush C (8) dX6_keepLemma_60 (by decide) ?_
  refine J.icmp_ltL (tgt := 75) C dX6_keepLemma_62 (by decide) H (fun c_62 H => ?_) (fun c_62 H => ?_)
  · refine J.aload_n (i := 0) C dX6_keepLemma_75 rfl rfl ?_
    refine J.get C 0 2 dk_0 rfl (by decide) kFl_X6_28 inB_X6 rfl dX6_keepLemma_76 ?_
    refine J.aload_n (i := 0) C dX6_keepLemma_79 rfl rfl ?_
    refine J.get C 0 1 dk_0 rfl (by decide) kFl_X6_21 inB_X6 rfl dX6_keepLemma_80 ?_
    refine J.callVBI (hp := (dkh g ad rst)) C rfl (sp_X1_keep hl ) rfl kMl_X6_182 mdX1_keep ⟨(Nat.le_of_ble_eq_true rfl), (Nat.le_of_ble_eq_true rfl)⟩ dk_3 rfl rfl (Nat.le_of_ble_eq_true rfl) dX6_keepLemma_83 ⟨(Nat.le_of_ble_eq_true rfl), (Nat.le_of_ble_eq_true rfl)⟩ hx (Nat.le_of_ble_eq_true rfl) (Nat.le_of_ble_eq_true rfl) H (fun r83 s83 H => ?_)
    exact J.iretL C hr (Nat.le_of_ble_eq_true rfl) (Nat.le_of_ble_eq_true rfl) dX6_keepLemma_86 H
  · exact J.throwSL (hp := (dkh g ad rst)) C th_IllegalStateException_117 str_180 dX6_keepLemma_65 dX6_keepLemma_68 dX6_keepLemma_69 dX6_keepLemma_71 dX6_keepLemma_74 hx ⟨(Nat.le_of_ble_eq_true rfl), (Nat.le_of_ble_eq_true rfl), (Nat.le_of_ble_eq_true rfl), (Nat.le_of_ble_eq_true rfl)⟩ (Nat.le_of_ble_eq_true rfl) (Nat.le_of_ble_eq_true rfl) H
def B_X6_keepLemma_30 (σ : DS) (t0 : Int32) : Res DS Int32 := (bd (P_X6_requireShape σ t0) fun _ s30 => (bd (P_X2_premiseCount s30 ) fun r38 s38 => (if (2 : Int32) < r38 then (B_X6_keepLemma_50 s38 (0 : Int32)) else (B_X6_keepLemma_50 s38 (1 : Int32)))))
set_option maxRecDepth 100000 in
theorem bl_X6_keepLemma_30 {l : Launch} (hl : l.stackTraces = false) {g : Gy} {ad : Nat → Nat} {rst : va_W} {p : Program} {e : Env} {s : State} {m : MethodId} {args : Array Value} {below : List Frame} {meth : Method} {c : Code} {A : Nat → Prop} (C : Cx p l s m args meth c g A yX6_keepLemma.cls cX6_keepLemma 1) (hr : meth.sig.returnType = some .int) (hx : ∀ x ∈ c.exceptionTable.toList, False) {rr : (Int32 ⊕ String) × DS} (σ : DS) (t0 : Int32) (H : B_X6_keepLemma_30 σ t0 = some rr) : J p l e (rmOf 8 4 24) s m args below meth c g A 1 1 6 (QR mI g A (dkh g ad rst) rr below args s 4 24) 30 [(0, .ref (ad 0))] [.int t0, .ref (ad 0)] ((dkh g ad rst) σ) := by
  unfold B_X6_keepLemma_30 at H
  refine J.callVBV (hp := (dkh g ad rst)) C rfl (sp_X6_requireShape hl _) rfl kMl_X6_100 mdX6_requireShape ⟨(Nat.le_of_ble_eq_true rfl), (Nat.le_of_ble_eq_true rfl)⟩ dk_0 rfl rfl (Nat.le_of_ble_eq_true rfl) dX6_keepLemma_30 ⟨(Nat.le_of_ble_eq_true rfl), (Nat.le_of_ble_eq_true rfl)⟩ hx (Nat.le_of_ble_eq_true rfl) (Nat.le_of_ble_eq_true rfl) H (fun _ s30 H => ?_)
  refine J.aload_n (i := 0) C dX6_keepLemma_33 rfl rfl ?_
  refine J.aload_n (i := 0) C dX6_keepLemma_34 rfl rfl ?_
  refine J.get C 0 1 dk_0 rfl (by decide) kFl_X6_21 inB_X6 rfl dX6_keepLemma_35 ?_
  refine J.callVBI (hp := (dkh g ad rst)) C rfl (sp_X2_premiseCount hl ) rfl kMl_X6_176 mdX2_premiseCount ⟨(Nat.le_of_ble_eq_true rfl), (Nat.le_of_ble_eq_true rfl)⟩ dk_2 rfl rfl (Nat.le_of_ble_eq_true rfl) dX6_keepLemma_38 ⟨(Nat.le_of_ble_eq_true rfl), (Nat.le_of_ble_eq_true rfl)⟩ hx (Nat.le_of_ble_eq_true rfl) (Nat.le_of_ble_eq_true rfl) H (fun r38 s38 H => ?_)
  refine J.iconst C (2) dX6_keepLemma_41 (by decide) ?_
  refine J.icmp_gtL (tgt := 49) C dX6_keepLemma_42 (by decide) H (fun c_42 H => ?_) (fun c_42 H => ?_)
  · refine J.iconst C (0) dX6_keepLemma_49 (by decide) ?_
    refine J.widen (k := 2) (n := 12) (Nat.le_of_ble_eq_true rfl) (Nat.le_of_ble_eq_true rfl) ?_
    refine J.lw (lv' := [(0, .ref (ad 0))]) ⟨rfl, trivial⟩ ?_
    exact bl_X6_keepLemma_50 hl C hr hx  _ _  H
  · refine J.iconst C (1) dX6_keepLemma_45 (by decide) ?_
    refine J.goto (tgt := 50) C dX6_keepLemma_46 (by decide) ?_
    refine J.widen (k := 2) (n := 12) (Nat.le_of_ble_eq_true rfl) (Nat.le_of_ble_eq_true rfl) ?_
    refine J.lw (lv' := [(0, .ref (ad 0))]) ⟨rfl, trivial⟩ ?_
    exact bl_X6_keepLemma_50 hl C hr hx  _ _  H
abbrev mX6_keepLemma : MD := (yX6_keepLemma, cX6_keepLemma, 1, some .int)
theorem mdX6_keepLemma : MDv mX6_keepLemma RX6 0 := ⟨kIm_X6_keepLemma, kSe_X6_keepLemma, kIn_X6, kCo_X6_keepLemma, by decide +kernel⟩
def P_X6_keepLemma (σ : DS)  : Res DS Int32 := (bd (P_X6_requireLines σ ) fun _ s1 => (if (F_X2_innermostOf s1 ((s1.1 2) - (1 : Int32))) = (-1 : Int32) then (B_X6_keepLemma_30 s1 (1 : Int32)) else (B_X6_keepLemma_30 s1 (0 : Int32))))
set_option maxRecDepth 100000 in
theorem sp_X6_keepLemma {l : Launch} (hl : l.stackTraces = false) {g : Gy} {ad : Nat → Nat} {rst : va_W} {σ : DS}  : SpR l mX6_keepLemma 8 4 24 mI g [.ref (ad 0)] (dkh g ad rst) σ (P_X6_keepLemma σ ) := by
  refine SpR.of hl (by decide) (Nat.le_of_ble_eq_true rfl) (fun rr H p e s m args below meth c A C hr hx => ?_)
  unfold P_X6_keepLemma at H
  refine J.lw (lv' := [(0, .ref (ad 0))]) ⟨rfl, trivial⟩ ?_
  refine J.aload_n (i := 0) C dX6_keepLemma_0 rfl rfl ?_
  refine J.callVBV (hp := (dkh g ad rst)) C rfl (sp_X6_requireLines hl ) rfl kMl_X6_170 mdX6_requireLines ⟨(Nat.le_of_ble_eq_true rfl), (Nat.le_of_ble_eq_true rfl)⟩ dk_0 rfl rfl (Nat.le_of_ble_eq_true rfl) dX6_keepLemma_1 ⟨(Nat.le_of_ble_eq_true rfl), (Nat.le_of_ble_eq_true rfl)⟩ hx (Nat.le_of_ble_eq_true rfl) (Nat.le_of_ble_eq_true rfl) H (fun _ s1 H => ?_)
  refine J.aload_n (i := 0) C dX6_keepLemma_4 rfl rfl ?_
  refine J.aload_n (i := 0) C dX6_keepLemma_5 rfl rfl ?_
  refine J.get C 0 1 dk_0 rfl (by decide) kFl_X6_21 inB_X6 rfl dX6_keepLemma_6 ?_
  refine J.aload_n (i := 0) C dX6_keepLemma_9 rfl rfl ?_
  refine J.get C 0 1 dk_0 rfl (by decide) kFl_X6_21 inB_X6 rfl dX6_keepLemma_10 ?_
  refine J.getN C 2 13 dk_2 rfl (by decide) nest_X6_164 inB_X2 rfl dX6_keepLemma_13 ?_
  refine J.iconst C (1) dX6_keepLemma_16 (by decide) ?_
  refine J.isub C dX6_keepLemma_17 ?_
  refine J.callVI C (sp_X2_innermostOf hl _) rfl kMl_X6_173 mdX2_innermostOf ⟨(Nat.le_of_ble_eq_true rfl), (Nat.le_of_ble_eq_true rfl)⟩ dk_2 rfl rfl (Nat.le_of_ble_eq_true rfl) dX6_keepLemma_18 ⟨(Nat.le_of_ble_eq_true rfl), (Nat.le_of_ble_eq_true rfl)⟩ ?_
  refine J.iconst C (-1) dX6_keepLemma_21 (by decide) ?_
  refine J.icmp_neL (tgt := 29) C dX6_keepLemma_22 (by decide) H (fun c_22 H => ?_) (fun c_22 H => ?_)
  · refine J.iconst C (0) dX6_keepLemma_29 (by decide) ?_
    refine J.widen (k := 1) (n := 6) (Nat.le_of_ble_eq_true rfl) (Nat.le_of_ble_eq_true rfl) ?_
    refine J.lw (lv' := [(0, .ref (ad 0))]) ⟨rfl, trivial⟩ ?_
    exact bl_X6_keepLemma_30 hl C hr hx  _ _  H
  · refine J.iconst C (1) dX6_keepLemma_25 (by decide) ?_
    refine J.goto (tgt := 30) C dX6_keepLemma_26 (by decide) ?_
    refine J.widen (k := 1) (n := 6) (Nat.le_of_ble_eq_true rfl) (Nat.le_of_ble_eq_true rfl) ?_
    refine J.lw (lv' := [(0, .ref (ad 0))]) ⟨rfl, trivial⟩ ?_
    exact bl_X6_keepLemma_30 hl C hr hx  _ _  H

/-! X6_requireLemma -/
abbrev mX6_requireLemma : MD := (yX6_requireLemma, cX6_requireLemma, 2, none)
theorem mdX6_requireLemma : MDv mX6_requireLemma RX6 1 := ⟨kIm_X6_requireLemma, kSe_X6_requireLemma, kIn_X6, kCo_X6_requireLemma, by decide +kernel⟩
def P_X6_requireLemma (σ : DS) (a1 : Int32) : Res DS Unit := (if (F_X1_has σ a1) = 0 then (some (.inr "java/lang/IndexOutOfBoundsException", σ)) else (some (.inl (), σ)))
set_option maxRecDepth 100000 in
theorem sp_X6_requireLemma {l : Launch} (hl : l.stackTraces = false) {g : Gy} {ad : Nat → Nat} {rst : va_W} {σ : DS} (a1 : Int32) : SpR l mX6_requireLemma 7 1 6 mV g [.ref (ad 0), .int a1] (dkh g ad rst) σ (P_X6_requireLemma σ a1) := by
  refine SpR.of hl (by decide) (Nat.le_of_ble_eq_true rfl) (fun rr H p e s m args below meth c A C hr hx => ?_)
  unfold P_X6_requireLemma at H
  refine J.lw (lv' := [(0, .ref (ad 0)), (1, .int a1)]) ⟨rfl, rfl, trivial⟩ ?_
  refine J.aload_n (i := 0) C dX6_requireLemma_0 rfl rfl ?_
  refine J.get C 0 2 dk_0 rfl (by decide) kFl_X6_28 inB_X6 rfl dX6_requireLemma_1 ?_
  refine J.iload_n (i := 1) C dX6_requireLemma_4 rfl rfl ?_
  refine J.callVI C (sp_X1_has hl _) rfl kMl_X6_303 mdX1_has ⟨(Nat.le_of_ble_eq_true rfl), (Nat.le_of_ble_eq_true rfl)⟩ dk_3 rfl rfl (Nat.le_of_ble_eq_true rfl) dX6_requireLemma_5 ⟨(Nat.le_of_ble_eq_true rfl), (Nat.le_of_ble_eq_true rfl)⟩ ?_
  refine J.if_neL (tgt := 22) C dX6_requireLemma_8 (by decide) H (fun c_8 H => ?_) (fun c_8 H => ?_)
  · exact J.vretL C hr (Nat.le_of_ble_eq_true rfl) (Nat.le_of_ble_eq_true rfl) dX6_requireLemma_22 H
  · exact J.throwSWL (hp := (dkh g ad rst)) C th_IndexOutOfBoundsException_292 str_304 dX6_requireLemma_11 dX6_requireLemma_14 dX6_requireLemma_15 dX6_requireLemma_18 dX6_requireLemma_21 hx ⟨(Nat.le_of_ble_eq_true rfl), (Nat.le_of_ble_eq_true rfl), (Nat.le_of_ble_eq_true rfl), (Nat.le_of_ble_eq_true rfl)⟩ (Nat.le_of_ble_eq_true rfl) (Nat.le_of_ble_eq_true rfl) H

/-! X6_useLemma -/
def B_X6_useLemma_104 (σ : DS) (l1 : Int32) (l6 : Int32) (t0 : Int32) : Res DS Int32 := (lt t0 fun z104 => (bd (P_X1_matches σ l1 (F_X2_formula σ l6) (F_X2_formula σ z104)) fun r130 s130 => (bd (P_X6_requireShape s130 r130) fun _ s133 => (bd (P_X6_requireRoom s133 ) fun _ s137 => (bd (P_X1_writeConclusion s137 l1) fun _ s149 => (bd (P_X0_read s149 ) fun r164 s164 => (bd (P_X6_made s164 r164) fun r167 s167 => (bd (P_X2_enterCiting s167 r167 (76 : Int32) l6 z104) fun r176 s176 => (some (.inl r176, s176))))))))))
set_option maxRecDepth 100000 in
theorem bl_X6_useLemma_104 {l : Launch} (hl : l.stackTraces = false) {g : Gy} {ad : Nat → Nat} {rst : va_W} {p : Program} {e : Env} {s : State} {m : MethodId} {args : Array Value} {below : List Frame} {meth : Method} {c : Code} {A : Nat → Prop} (C : Cx p l s m args meth c g A yX6_useLemma.cls cX6_useLemma 8) (hr : meth.sig.returnType = some .int) (hx : ∀ x ∈ c.exceptionTable.toList, False) {rr : (Int32 ⊕ String) × DS} (σ : DS) (l1 : Int32) (l6 : Int32) (t0 : Int32) (H : B_X6_useLemma_104 σ l1 l6 t0 = some rr) : J p l e (rmOf 8 8 48) s m args below meth c g A 8 5 30 (QR mI g A (dkh g ad rst) rr below args s 8 48) 104 [(0, .ref (ad 0)), (1, .int l1), (6, .int l6)] [.int t0] ((dkh g ad rst) σ) := by
  unfold B_X6_useLemma_104 at H
  refine J.istoreL C dX6_useLemma_104 (by decide) H (fun z104 H => ?_)
  refine J.aload_n (i := 0) C dX6_useLemma_106 rfl rfl ?_
  refine J.aload_n (i := 0) C dX6_useLemma_107 rfl rfl ?_
  refine J.get C 0 2 dk_0 rfl (by decide) kFl_X6_28 inB_X6 rfl dX6_useLemma_108 ?_
  refine J.iload_n (i := 1) C dX6_useLemma_111 rfl rfl ?_
  refine J.aload_n (i := 0) C dX6_useLemma_112 rfl rfl ?_
  refine J.get C 0 1 dk_0 rfl (by decide) kFl_X6_21 inB_X6 rfl dX6_useLemma_113 ?_
  refine J.iload C dX6_useLemma_116 rfl ?_
  refine J.callVI C (sp_X2_formula hl _) rfl kMl_X6_128 mdX2_formula ⟨(Nat.le_of_ble_eq_true rfl), (Nat.le_of_ble_eq_true rfl)⟩ dk_2 rfl rfl (Nat.le_of_ble_eq_true rfl) dX6_useLemma_118 ⟨(Nat.le_of_ble_eq_true rfl), (Nat.le_of_ble_eq_true rfl)⟩ ?_
  refine J.aload_n (i := 0) C dX6_useLemma_121 rfl rfl ?_
  refine J.get C 0 1 dk_0 rfl (by decide) kFl_X6_21 inB_X6 rfl dX6_useLemma_122 ?_
  refine J.iload C dX6_useLemma_125 rfl ?_
  refine J.callVI C (sp_X2_formula hl _) rfl kMl_X6_128 mdX2_formula ⟨(Nat.le_of_ble_eq_true rfl), (Nat.le_of_ble_eq_true rfl)⟩ dk_2 rfl rfl (Nat.le_of_ble_eq_true rfl) dX6_useLemma_127 ⟨(Nat.le_of_ble_eq_true rfl), (Nat.le_of_ble_eq_true rfl)⟩ ?_
  refine J.callVBI (hp := (dkh g ad rst)) C rfl (sp_X1_matches hl _ _ _) rfl kMl_X6_191 mdX1_matches ⟨(Nat.le_of_ble_eq_true rfl), (Nat.le_of_ble_eq_true rfl)⟩ dk_3 rfl rfl (Nat.le_of_ble_eq_true rfl) dX6_useLemma_130 ⟨(Nat.le_of_ble_eq_true rfl), (Nat.le_of_ble_eq_true rfl)⟩ hx (Nat.le_of_ble_eq_true rfl) (Nat.le_of_ble_eq_true rfl) H (fun r130 s130 H => ?_)
  refine J.callVBV (hp := (dkh g ad rst)) C rfl (sp_X6_requireShape hl _) rfl kMl_X6_100 mdX6_requireShape ⟨(Nat.le_of_ble_eq_true rfl), (Nat.le_of_ble_eq_true rfl)⟩ dk_0 rfl rfl (Nat.le_of_ble_eq_true rfl) dX6_useLemma_133 ⟨(Nat.le_of_ble_eq_true rfl), (Nat.le_of_ble_eq_true rfl)⟩ hx (Nat.le_of_ble_eq_true rfl) (Nat.le_of_ble_eq_true rfl) H (fun _ s133 H => ?_)
  refine J.aload_n (i := 0) C dX6_useLemma_136 rfl rfl ?_
  refine J.callVBV (hp := (dkh g ad rst)) C rfl (sp_X6_requireRoom hl ) rfl kMl_X6_104 mdX6_requireRoom ⟨(Nat.le_of_ble_eq_true rfl), (Nat.le_of_ble_eq_true rfl)⟩ dk_0 rfl rfl (Nat.le_of_ble_eq_true rfl) dX6_useLemma_137 ⟨(Nat.le_of_ble_eq_true rfl), (Nat.le_of_ble_eq_true rfl)⟩ hx (Nat.le_of_ble_eq_true rfl) (Nat.le_of_ble_eq_true rfl) H (fun _ s137 H => ?_)
  refine J.aload_n (i := 0) C dX6_useLemma_140 rfl rfl ?_
  refine J.get C 0 2 dk_0 rfl (by decide) kFl_X6_28 inB_X6 rfl dX6_useLemma_141 ?_
  refine J.iload_n (i := 1) C dX6_useLemma_144 rfl rfl ?_
  refine J.aload_n (i := 0) C dX6_useLemma_145 rfl rfl ?_
  refine J.get C 0 4 dk_0 rfl (by decide) kFl_X6_44 inB_X6 rfl dX6_useLemma_146 ?_
  refine J.callVBV (hp := (dkh g ad rst)) C rfl (sp_X1_writeConclusion hl _) rfl kMl_X6_195 mdX1_writeConclusion ⟨(Nat.le_of_ble_eq_true rfl), (Nat.le_of_ble_eq_true rfl)⟩ dk_3 rfl rfl (Nat.le_of_ble_eq_true rfl) dX6_useLemma_149 ⟨(Nat.le_of_ble_eq_true rfl), (Nat.le_of_ble_eq_true rfl)⟩ hx (Nat.le_of_ble_eq_true rfl) (Nat.le_of_ble_eq_true rfl) H (fun _ s149 H => ?_)
  refine J.aload_n (i := 0) C dX6_useLemma_152 rfl rfl ?_
  refine J.get C 0 1 dk_0 rfl (by decide) kFl_X6_21 inB_X6 rfl dX6_useLemma_153 ?_
  refine J.aload_n (i := 0) C dX6_useLemma_156 rfl rfl ?_
  refine J.get C 0 0 dk_0 rfl (by decide) kFl_X6_15 inB_X6 rfl dX6_useLemma_157 ?_
  refine J.aload_n (i := 0) C dX6_useLemma_160 rfl rfl ?_
  refine J.get C 0 4 dk_0 rfl (by decide) kFl_X6_44 inB_X6 rfl dX6_useLemma_161 ?_
  refine J.callVBI (hp := (dkh g ad rst)) C rfl (sp_X0_read hl ) rfl kMl_X6_199 mdX0_read ⟨(Nat.le_of_ble_eq_true rfl), (Nat.le_of_ble_eq_true rfl)⟩ dk_1 rfl rfl (Nat.le_of_ble_eq_true rfl) dX6_useLemma_164 ⟨(Nat.le_of_ble_eq_true rfl), (Nat.le_of_ble_eq_true rfl)⟩ hx (Nat.le_of_ble_eq_true rfl) (Nat.le_of_ble_eq_true rfl) H (fun r164 s164 H => ?_)
  refine J.callSBI (hp := (dkh g ad rst)) C rfl (sp_X6_made hl _) rfl kMl_X6_56 mdX6_made ⟨(Nat.le_of_ble_eq_true rfl), (Nat.le_of_ble_eq_true rfl)⟩ rfl (Nat.le_of_ble_eq_true rfl) dX6_useLemma_167 ⟨(Nat.le_of_ble_eq_true rfl), (Nat.le_of_ble_eq_true rfl)⟩ hx (Nat.le_of_ble_eq_true rfl) (Nat.le_of_ble_eq_true rfl) H (fun r167 s167 H => ?_)
  refine J.bipush C (76) dX6_useLemma_170 (by decide) ?_
  refine J.iload C dX6_useLemma_172 rfl ?_
  refine J.iload C dX6_useLemma_174 rfl ?_
  refine J.callVBI (hp := (dkh g ad rst)) C rfl (sp_X2_enterCiting hl _ _ _ _) rfl kMl_X6_131 mdX2_enterCiting ⟨(Nat.le_of_ble_eq_true rfl), (Nat.le_of_ble_eq_true rfl)⟩ dk_2 rfl rfl (Nat.le_of_ble_eq_true rfl) dX6_useLemma_176 ⟨(Nat.le_of_ble_eq_true rfl), (Nat.le_of_ble_eq_true rfl)⟩ hx (Nat.le_of_ble_eq_true rfl) (Nat.le_of_ble_eq_true rfl) H (fun r176 s176 H => ?_)
  exact J.iretL C hr (Nat.le_of_ble_eq_true rfl) (Nat.le_of_ble_eq_true rfl) dX6_useLemma_179 H
def B_X6_useLemma_92 (σ : DS) (l1 : Int32) (l3 : Int32) (l5 : Int32) (t0 : Int32) : Res DS Int32 := (lt t0 fun z92 => (if l5 = 0 then (B_X6_useLemma_104 σ l1 z92 (-1 : Int32)) else (B_X6_useLemma_104 σ l1 z92 l3)))
set_option maxRecDepth 100000 in
theorem bl_X6_useLemma_92 {l : Launch} (hl : l.stackTraces = false) {g : Gy} {ad : Nat → Nat} {rst : va_W} {p : Program} {e : Env} {s : State} {m : MethodId} {args : Array Value} {below : List Frame} {meth : Method} {c : Code} {A : Nat → Prop} (C : Cx p l s m args meth c g A yX6_useLemma.cls cX6_useLemma 8) (hr : meth.sig.returnType = some .int) (hx : ∀ x ∈ c.exceptionTable.toList, False) {rr : (Int32 ⊕ String) × DS} (σ : DS) (l1 : Int32) (l3 : Int32) (l5 : Int32) (t0 : Int32) (H : B_X6_useLemma_92 σ l1 l3 l5 t0 = some rr) : J p l e (rmOf 8 8 48) s m args below meth c g A 8 5 30 (QR mI g A (dkh g ad rst) rr below args s 8 48) 92 [(0, .ref (ad 0)), (1, .int l1), (3, .int l3), (5, .int l5)] [.int t0] ((dkh g ad rst) σ) := by
  unfold B_X6_useLemma_92 at H
  refine J.istoreL C dX6_useLemma_92 (by decide) H (fun z92 H => ?_)
  refine J.iload C dX6_useLemma_94 rfl ?_
  refine J.if_eqL (tgt := 103) C dX6_useLemma_96 (by decide) H (fun c_96 H => ?_) (fun c_96 H => ?_)
  · refine J.iconst C (-1) dX6_useLemma_103 (by decide) ?_
    refine J.widen (k := 5) (n := 30) (Nat.le_of_ble_eq_true rfl) (Nat.le_of_ble_eq_true rfl) ?_
    refine J.lw (lv' := [(0, .ref (ad 0)), (1, .int l1), (6, .int z92)]) ⟨rfl, rfl, rfl, trivial⟩ ?_
    exact bl_X6_useLemma_104 hl C hr hx  _ _ _ _  H
  · refine J.iload_n (i := 3) C dX6_useLemma_99 rfl rfl ?_
    refine J.goto (tgt := 104) C dX6_useLemma_100 (by decide) ?_
    refine J.widen (k := 5) (n := 30) (Nat.le_of_ble_eq_true rfl) (Nat.le_of_ble_eq_true rfl) ?_
    refine J.lw (lv' := [(0, .ref (ad 0)), (1, .int l1), (6, .int z92)]) ⟨rfl, rfl, rfl, trivial⟩ ?_
    exact bl_X6_useLemma_104 hl C hr hx  _ _ _ _  H
def B_X6_useLemma_82 (σ : DS) (l1 : Int32) (l2 : Int32) (l3 : Int32) (l4 : Int32) (l5 : Int32) : Res DS Int32 := (if l4 = 0 then (B_X6_useLemma_92 σ l1 l3 l5 (-1 : Int32)) else (B_X6_useLemma_92 σ l1 l3 l5 l2))
set_option maxRecDepth 100000 in
theorem bl_X6_useLemma_82 {l : Launch} (hl : l.stackTraces = false) {g : Gy} {ad : Nat → Nat} {rst : va_W} {p : Program} {e : Env} {s : State} {m : MethodId} {args : Array Value} {below : List Frame} {meth : Method} {c : Code} {A : Nat → Prop} (C : Cx p l s m args meth c g A yX6_useLemma.cls cX6_useLemma 8) (hr : meth.sig.returnType = some .int) (hx : ∀ x ∈ c.exceptionTable.toList, False) {rr : (Int32 ⊕ String) × DS} (σ : DS) (l1 : Int32) (l2 : Int32) (l3 : Int32) (l4 : Int32) (l5 : Int32) (H : B_X6_useLemma_82 σ l1 l2 l3 l4 l5 = some rr) : J p l e (rmOf 8 8 48) s m args below meth c g A 8 5 30 (QR mI g A (dkh g ad rst) rr below args s 8 48) 82 [(0, .ref (ad 0)), (1, .int l1), (2, .int l2), (3, .int l3), (4, .int l4), (5, .int l5)] [] ((dkh g ad rst) σ) := by
  unfold B_X6_useLemma_82 at H
  refine J.iload C dX6_useLemma_82 rfl ?_
  refine J.if_eqL (tgt := 91) C dX6_useLemma_84 (by decide) H (fun c_84 H => ?_) (fun c_84 H => ?_)
  · refine J.iconst C (-1) dX6_useLemma_91 (by decide) ?_
    refine J.widen (k := 5) (n := 30) (Nat.le_of_ble_eq_true rfl) (Nat.le_of_ble_eq_true rfl) ?_
    refine J.lw (lv' := [(0, .ref (ad 0)), (1, .int l1), (3, .int l3), (5, .int l5)]) ⟨rfl, rfl, rfl, rfl, trivial⟩ ?_
    exact bl_X6_useLemma_92 hl C hr hx  _ _ _ _ _  H
  · refine J.iload_n (i := 2) C dX6_useLemma_87 rfl rfl ?_
    refine J.goto (tgt := 92) C dX6_useLemma_88 (by decide) ?_
    refine J.widen (k := 5) (n := 30) (Nat.le_of_ble_eq_true rfl) (Nat.le_of_ble_eq_true rfl) ?_
    refine J.lw (lv' := [(0, .ref (ad 0)), (1, .int l1), (3, .int l3), (5, .int l5)]) ⟨rfl, rfl, rfl, rfl, trivial⟩ ?_
    exact bl_X6_useLemma_92 hl C hr hx  _ _ _ _ _  H
def B_X6_useLemma_72 (σ : DS) (l1 : Int32) (l2 : Int32) (l3 : Int32) (l4 : Int32) (l5 : Int32) : Res DS Int32 := (if l5 = 0 then (B_X6_useLemma_82 σ l1 l2 l3 l4 l5) else (bd (P_X6_requireCitable σ l3) fun _ s79 => (B_X6_useLemma_82 s79 l1 l2 l3 l4 l5)))
set_option maxRecDepth 100000 in
theorem bl_X6_useLemma_72 {l : Launch} (hl : l.stackTraces = false) {g : Gy} {ad : Nat → Nat} {rst : va_W} {p : Program} {e : Env} {s : State} {m : MethodId} {args : Array Value} {below : List Frame} {meth : Method} {c : Code} {A : Nat → Prop} (C : Cx p l s m args meth c g A yX6_useLemma.cls cX6_useLemma 8) (hr : meth.sig.returnType = some .int) (hx : ∀ x ∈ c.exceptionTable.toList, False) {rr : (Int32 ⊕ String) × DS} (σ : DS) (l1 : Int32) (l2 : Int32) (l3 : Int32) (l4 : Int32) (l5 : Int32) (H : B_X6_useLemma_72 σ l1 l2 l3 l4 l5 = some rr) : J p l e (rmOf 8 8 48) s m args below meth c g A 8 4 24 (QR mI g A (dkh g ad rst) rr below args s 8 48) 72 [(0, .ref (ad 0)), (1, .int l1), (2, .int l2), (3, .int l3), (4, .int l4), (5, .int l5)] [] ((dkh g ad rst) σ) := by
  unfold B_X6_useLemma_72 at H
  refine J.iload C dX6_useLemma_72 rfl ?_
  refine J.if_eqL (tgt := 82) C dX6_useLemma_74 (by decide) H (fun c_74 H => ?_) (fun c_74 H => ?_)
  · refine J.widen (k := 5) (n := 30) (Nat.le_of_ble_eq_true rfl) (Nat.le_of_ble_eq_true rfl) ?_
    refine J.lw (lv' := [(0, .ref (ad 0)), (1, .int l1), (2, .int l2), (3, .int l3), (4, .int l4), (5, .int l5)]) ⟨rfl, rfl, rfl, rfl, rfl, rfl, trivial⟩ ?_
    exact bl_X6_useLemma_82 hl C hr hx  _ _ _ _ _ _  H
  · refine J.aload_n (i := 0) C dX6_useLemma_77 rfl rfl ?_
    refine J.iload_n (i := 3) C dX6_useLemma_78 rfl rfl ?_
    refine J.callVBV (hp := (dkh g ad rst)) C rfl (sp_X6_requireCitable hl _) rfl kMl_X6_125 mdX6_requireCitable ⟨(Nat.le_of_ble_eq_true rfl), (Nat.le_of_ble_eq_true rfl)⟩ dk_0 rfl rfl (Nat.le_of_ble_eq_true rfl) dX6_useLemma_79 ⟨(Nat.le_of_ble_eq_true rfl), (Nat.le_of_ble_eq_true rfl)⟩ hx (Nat.le_of_ble_eq_true rfl) (Nat.le_of_ble_eq_true rfl) H (fun _ s79 H => ?_)
    refine J.widen (k := 5) (n := 30) (Nat.le_of_ble_eq_true rfl) (Nat.le_of_ble_eq_true rfl) ?_
    refine J.lw (lv' := [(0, .ref (ad 0)), (1, .int l1), (2, .int l2), (3, .int l3), (4, .int l4), (5, .int l5)]) ⟨rfl, rfl, rfl, rfl, rfl, rfl, trivial⟩ ?_
    exact bl_X6_useLemma_82 hl C hr hx  _ _ _ _ _ _  H
def B_X6_useLemma_62 (σ : DS) (l1 : Int32) (l2 : Int32) (l3 : Int32) (l4 : Int32) (l5 : Int32) : Res DS Int32 := (if l4 = 0 then (B_X6_useLemma_72 σ l1 l2 l3 l4 l5) else (bd (P_X6_requireCitable σ l2) fun _ s69 => (B_X6_useLemma_72 s69 l1 l2 l3 l4 l5)))
set_option maxRecDepth 100000 in
theorem bl_X6_useLemma_62 {l : Launch} (hl : l.stackTraces = false) {g : Gy} {ad : Nat → Nat} {rst : va_W} {p : Program} {e : Env} {s : State} {m : MethodId} {args : Array Value} {below : List Frame} {meth : Method} {c : Code} {A : Nat → Prop} (C : Cx p l s m args meth c g A yX6_useLemma.cls cX6_useLemma 8) (hr : meth.sig.returnType = some .int) (hx : ∀ x ∈ c.exceptionTable.toList, False) {rr : (Int32 ⊕ String) × DS} (σ : DS) (l1 : Int32) (l2 : Int32) (l3 : Int32) (l4 : Int32) (l5 : Int32) (H : B_X6_useLemma_62 σ l1 l2 l3 l4 l5 = some rr) : J p l e (rmOf 8 8 48) s m args below meth c g A 8 3 18 (QR mI g A (dkh g ad rst) rr below args s 8 48) 62 [(0, .ref (ad 0)), (1, .int l1), (2, .int l2), (3, .int l3), (4, .int l4), (5, .int l5)] [] ((dkh g ad rst) σ) := by
  unfold B_X6_useLemma_62 at H
  refine J.iload C dX6_useLemma_62 rfl ?_
  refine J.if_eqL (tgt := 72) C dX6_useLemma_64 (by decide) H (fun c_64 H => ?_) (fun c_64 H => ?_)
  · refine J.widen (k := 4) (n := 24) (Nat.le_of_ble_eq_true rfl) (Nat.le_of_ble_eq_true rfl) ?_
    refine J.lw (lv' := [(0, .ref (ad 0)), (1, .int l1), (2, .int l2), (3, .int l3), (4, .int l4), (5, .int l5)]) ⟨rfl, rfl, rfl, rfl, rfl, rfl, trivial⟩ ?_
    exact bl_X6_useLemma_72 hl C hr hx  _ _ _ _ _ _  H
  · refine J.aload_n (i := 0) C dX6_useLemma_67 rfl rfl ?_
    refine J.iload_n (i := 2) C dX6_useLemma_68 rfl rfl ?_
    refine J.callVBV (hp := (dkh g ad rst)) C rfl (sp_X6_requireCitable hl _) rfl kMl_X6_125 mdX6_requireCitable ⟨(Nat.le_of_ble_eq_true rfl), (Nat.le_of_ble_eq_true rfl)⟩ dk_0 rfl rfl (Nat.le_of_ble_eq_true rfl) dX6_useLemma_69 ⟨(Nat.le_of_ble_eq_true rfl), (Nat.le_of_ble_eq_true rfl)⟩ hx (Nat.le_of_ble_eq_true rfl) (Nat.le_of_ble_eq_true rfl) H (fun _ s69 H => ?_)
    refine J.widen (k := 4) (n := 24) (Nat.le_of_ble_eq_true rfl) (Nat.le_of_ble_eq_true rfl) ?_
    refine J.lw (lv' := [(0, .ref (ad 0)), (1, .int l1), (2, .int l2), (3, .int l3), (4, .int l4), (5, .int l5)]) ⟨rfl, rfl, rfl, rfl, rfl, rfl, trivial⟩ ?_
    exact bl_X6_useLemma_72 hl C hr hx  _ _ _ _ _ _  H
def B_X6_useLemma_52 (σ : DS) (l1 : Int32) (l2 : Int32) (l3 : Int32) (l4 : Int32) (l5 : Int32) : Res DS Int32 := (if l5 = 0 then (B_X6_useLemma_62 σ l1 l2 l3 l4 l5) else (bd (P_X6_requireLine σ l3) fun _ s59 => (B_X6_useLemma_62 s59 l1 l2 l3 l4 l5)))
set_option maxRecDepth 100000 in
theorem bl_X6_useLemma_52 {l : Launch} (hl : l.stackTraces = false) {g : Gy} {ad : Nat → Nat} {rst : va_W} {p : Program} {e : Env} {s : State} {m : MethodId} {args : Array Value} {below : List Frame} {meth : Method} {c : Code} {A : Nat → Prop} (C : Cx p l s m args meth c g A yX6_useLemma.cls cX6_useLemma 8) (hr : meth.sig.returnType = some .int) (hx : ∀ x ∈ c.exceptionTable.toList, False) {rr : (Int32 ⊕ String) × DS} (σ : DS) (l1 : Int32) (l2 : Int32) (l3 : Int32) (l4 : Int32) (l5 : Int32) (H : B_X6_useLemma_52 σ l1 l2 l3 l4 l5 = some rr) : J p l e (rmOf 8 8 48) s m args below meth c g A 8 2 12 (QR mI g A (dkh g ad rst) rr below args s 8 48) 52 [(0, .ref (ad 0)), (1, .int l1), (2, .int l2), (3, .int l3), (4, .int l4), (5, .int l5)] [] ((dkh g ad rst) σ) := by
  unfold B_X6_useLemma_52 at H
  refine J.iload C dX6_useLemma_52 rfl ?_
  refine J.if_eqL (tgt := 62) C dX6_useLemma_54 (by decide) H (fun c_54 H => ?_) (fun c_54 H => ?_)
  · refine J.widen (k := 3) (n := 18) (Nat.le_of_ble_eq_true rfl) (Nat.le_of_ble_eq_true rfl) ?_
    refine J.lw (lv' := [(0, .ref (ad 0)), (1, .int l1), (2, .int l2), (3, .int l3), (4, .int l4), (5, .int l5)]) ⟨rfl, rfl, rfl, rfl, rfl, rfl, trivial⟩ ?_
    exact bl_X6_useLemma_62 hl C hr hx  _ _ _ _ _ _  H
  · refine J.aload_n (i := 0) C dX6_useLemma_57 rfl rfl ?_
    refine J.iload_n (i := 3) C dX6_useLemma_58 rfl rfl ?_
    refine J.callVBV (hp := (dkh g ad rst)) C rfl (sp_X6_requireLine hl _) rfl kMl_X6_122 mdX6_requireLine ⟨(Nat.le_of_ble_eq_true rfl), (Nat.le_of_ble_eq_true rfl)⟩ dk_0 rfl rfl (Nat.le_of_ble_eq_true rfl) dX6_useLemma_59 ⟨(Nat.le_of_ble_eq_true rfl), (Nat.le_of_ble_eq_true rfl)⟩ hx (Nat.le_of_ble_eq_true rfl) (Nat.le_of_ble_eq_true rfl) H (fun _ s59 H => ?_)
    refine J.widen (k := 3) (n := 18) (Nat.le_of_ble_eq_true rfl) (Nat.le_of_ble_eq_true rfl) ?_
    refine J.lw (lv' := [(0, .ref (ad 0)), (1, .int l1), (2, .int l2), (3, .int l3), (4, .int l4), (5, .int l5)]) ⟨rfl, rfl, rfl, rfl, rfl, rfl, trivial⟩ ?_
    exact bl_X6_useLemma_62 hl C hr hx  _ _ _ _ _ _  H
def B_X6_useLemma_40 (σ : DS) (l1 : Int32) (l2 : Int32) (l3 : Int32) (l4 : Int32) (t0 : Int32) : Res DS Int32 := (lt t0 fun z40 => (if l4 = 0 then (B_X6_useLemma_52 σ l1 l2 l3 l4 z40) else (bd (P_X6_requireLine σ l2) fun _ s49 => (B_X6_useLemma_52 s49 l1 l2 l3 l4 z40))))
set_option maxRecDepth 100000 in
theorem bl_X6_useLemma_40 {l : Launch} (hl : l.stackTraces = false) {g : Gy} {ad : Nat → Nat} {rst : va_W} {p : Program} {e : Env} {s : State} {m : MethodId} {args : Array Value} {below : List Frame} {meth : Method} {c : Code} {A : Nat → Prop} (C : Cx p l s m args meth c g A yX6_useLemma.cls cX6_useLemma 8) (hr : meth.sig.returnType = some .int) (hx : ∀ x ∈ c.exceptionTable.toList, False) {rr : (Int32 ⊕ String) × DS} (σ : DS) (l1 : Int32) (l2 : Int32) (l3 : Int32) (l4 : Int32) (t0 : Int32) (H : B_X6_useLemma_40 σ l1 l2 l3 l4 t0 = some rr) : J p l e (rmOf 8 8 48) s m args below meth c g A 8 1 6 (QR mI g A (dkh g ad rst) rr below args s 8 48) 40 [(0, .ref (ad 0)), (1, .int l1), (2, .int l2), (3, .int l3), (4, .int l4)] [.int t0] ((dkh g ad rst) σ) := by
  unfold B_X6_useLemma_40 at H
  refine J.istoreL C dX6_useLemma_40 (by decide) H (fun z40 H => ?_)
  refine J.iload C dX6_useLemma_42 rfl ?_
  refine J.if_eqL (tgt := 52) C dX6_useLemma_44 (by decide) H (fun c_44 H => ?_) (fun c_44 H => ?_)
  · refine J.widen (k := 2) (n := 12) (Nat.le_of_ble_eq_true rfl) (Nat.le_of_ble_eq_true rfl) ?_
    refine J.lw (lv' := [(0, .ref (ad 0)), (1, .int l1), (2, .int l2), (3, .int l3), (4, .int l4), (5, .int z40)]) ⟨rfl, rfl, rfl, rfl, rfl, rfl, trivial⟩ ?_
    exact bl_X6_useLemma_52 hl C hr hx  _ _ _ _ _ _  H
  · refine J.aload_n (i := 0) C dX6_useLemma_47 rfl rfl ?_
    refine J.iload_n (i := 2) C dX6_useLemma_48 rfl rfl ?_
    refine J.callVBV (hp := (dkh g ad rst)) C rfl (sp_X6_requireLine hl _) rfl kMl_X6_122 mdX6_requireLine ⟨(Nat.le_of_ble_eq_true rfl), (Nat.le_of_ble_eq_true rfl)⟩ dk_0 rfl rfl (Nat.le_of_ble_eq_true rfl) dX6_useLemma_49 ⟨(Nat.le_of_ble_eq_true rfl), (Nat.le_of_ble_eq_true rfl)⟩ hx (Nat.le_of_ble_eq_true rfl) (Nat.le_of_ble_eq_true rfl) H (fun _ s49 H => ?_)
    refine J.widen (k := 2) (n := 12) (Nat.le_of_ble_eq_true rfl) (Nat.le_of_ble_eq_true rfl) ?_
    refine J.lw (lv' := [(0, .ref (ad 0)), (1, .int l1), (2, .int l2), (3, .int l3), (4, .int l4), (5, .int z40)]) ⟨rfl, rfl, rfl, rfl, rfl, rfl, trivial⟩ ?_
    exact bl_X6_useLemma_52 hl C hr hx  _ _ _ _ _ _  H
def B_X6_useLemma_21 (σ : DS) (l1 : Int32) (l2 : Int32) (l3 : Int32) (t0 : Int32) : Res DS Int32 := (lt t0 fun z21 => (if (F_X1_premiseCount σ l1) ≤ (1 : Int32) then (B_X6_useLemma_40 σ l1 l2 l3 z21 (0 : Int32)) else (B_X6_useLemma_40 σ l1 l2 l3 z21 (1 : Int32))))
set_option maxRecDepth 100000 in
theorem bl_X6_useLemma_21 {l : Launch} (hl : l.stackTraces = false) {g : Gy} {ad : Nat → Nat} {rst : va_W} {p : Program} {e : Env} {s : State} {m : MethodId} {args : Array Value} {below : List Frame} {meth : Method} {c : Code} {A : Nat → Prop} (C : Cx p l s m args meth c g A yX6_useLemma.cls cX6_useLemma 8) (hr : meth.sig.returnType = some .int) (hx : ∀ x ∈ c.exceptionTable.toList, False) {rr : (Int32 ⊕ String) × DS} (σ : DS) (l1 : Int32) (l2 : Int32) (l3 : Int32) (t0 : Int32) (H : B_X6_useLemma_21 σ l1 l2 l3 t0 = some rr) : J p l e (rmOf 8 8 48) s m args below meth c g A 8 1 6 (QR mI g A (dkh g ad rst) rr below args s 8 48) 21 [(0, .ref (ad 0)), (1, .int l1), (2, .int l2), (3, .int l3)] [.int t0] ((dkh g ad rst) σ) := by
  unfold B_X6_useLemma_21 at H
  refine J.istoreL C dX6_useLemma_21 (by decide) H (fun z21 H => ?_)
  refine J.aload_n (i := 0) C dX6_useLemma_23 rfl rfl ?_
  refine J.get C 0 2 dk_0 rfl (by decide) kFl_X6_28 inB_X6 rfl dX6_useLemma_24 ?_
  refine J.iload_n (i := 1) C dX6_useLemma_27 rfl rfl ?_
  refine J.callVI C (sp_X1_premiseCount hl _) rfl kMl_X6_189 mdX1_premiseCount ⟨(Nat.le_of_ble_eq_true rfl), (Nat.le_of_ble_eq_true rfl)⟩ dk_3 rfl rfl (Nat.le_of_ble_eq_true rfl) dX6_useLemma_28 ⟨(Nat.le_of_ble_eq_true rfl), (Nat.le_of_ble_eq_true rfl)⟩ ?_
  refine J.iconst C (1) dX6_useLemma_31 (by decide) ?_
  refine J.icmp_leL (tgt := 39) C dX6_useLemma_32 (by decide) H (fun c_32 H => ?_) (fun c_32 H => ?_)
  · refine J.iconst C (0) dX6_useLemma_39 (by decide) ?_
    refine J.widen (k := 1) (n := 6) (Nat.le_of_ble_eq_true rfl) (Nat.le_of_ble_eq_true rfl) ?_
    refine J.lw (lv' := [(0, .ref (ad 0)), (1, .int l1), (2, .int l2), (3, .int l3), (4, .int z21)]) ⟨rfl, rfl, rfl, rfl, rfl, trivial⟩ ?_
    exact bl_X6_useLemma_40 hl C hr hx  _ _ _ _ _ _  H
  · refine J.iconst C (1) dX6_useLemma_35 (by decide) ?_
    refine J.goto (tgt := 40) C dX6_useLemma_36 (by decide) ?_
    refine J.widen (k := 1) (n := 6) (Nat.le_of_ble_eq_true rfl) (Nat.le_of_ble_eq_true rfl) ?_
    refine J.lw (lv' := [(0, .ref (ad 0)), (1, .int l1), (2, .int l2), (3, .int l3), (4, .int z21)]) ⟨rfl, rfl, rfl, rfl, rfl, trivial⟩ ?_
    exact bl_X6_useLemma_40 hl C hr hx  _ _ _ _ _ _  H
abbrev mX6_useLemma : MD := (yX6_useLemma, cX6_useLemma, 8, some .int)
theorem mdX6_useLemma : MDv mX6_useLemma RX6 3 := ⟨kIm_X6_useLemma, kSe_X6_useLemma, kIn_X6, kCo_X6_useLemma, by decide +kernel⟩
def P_X6_useLemma (σ : DS) (a1 : Int32) (a2 : Int32) (a3 : Int32) : Res DS Int32 := (bd (P_X6_requireLemma σ a1) fun _ s2 => (if (F_X1_premiseCount s2 a1) ≤ 0 then (B_X6_useLemma_21 s2 a1 a2 a3 (0 : Int32)) else (B_X6_useLemma_21 s2 a1 a2 a3 (1 : Int32))))
set_option maxRecDepth 100000 in
theorem sp_X6_useLemma {l : Launch} (hl : l.stackTraces = false) {g : Gy} {ad : Nat → Nat} {rst : va_W} {σ : DS} (a1 : Int32) (a2 : Int32) (a3 : Int32) : SpR l mX6_useLemma 8 8 48 mI g [.ref (ad 0), .int a1, .int a2, .int a3] (dkh g ad rst) σ (P_X6_useLemma σ a1 a2 a3) := by
  refine SpR.of hl (by decide) (Nat.le_of_ble_eq_true rfl) (fun rr H p e s m args below meth c A C hr hx => ?_)
  unfold P_X6_useLemma at H
  refine J.lw (lv' := [(0, .ref (ad 0)), (1, .int a1), (2, .int a2), (3, .int a3)]) ⟨rfl, rfl, rfl, rfl, trivial⟩ ?_
  refine J.aload_n (i := 0) C dX6_useLemma_0 rfl rfl ?_
  refine J.iload_n (i := 1) C dX6_useLemma_1 rfl rfl ?_
  refine J.callVBV (hp := (dkh g ad rst)) C rfl (sp_X6_requireLemma hl _) rfl kMl_X6_186 mdX6_requireLemma ⟨(Nat.le_of_ble_eq_true rfl), (Nat.le_of_ble_eq_true rfl)⟩ dk_0 rfl rfl (Nat.le_of_ble_eq_true rfl) dX6_useLemma_2 ⟨(Nat.le_of_ble_eq_true rfl), (Nat.le_of_ble_eq_true rfl)⟩ hx (Nat.le_of_ble_eq_true rfl) (Nat.le_of_ble_eq_true rfl) H (fun _ s2 H => ?_)
  refine J.aload_n (i := 0) C dX6_useLemma_5 rfl rfl ?_
  refine J.get C 0 2 dk_0 rfl (by decide) kFl_X6_28 inB_X6 rfl dX6_useLemma_6 ?_
  refine J.iload_n (i := 1) C dX6_useLemma_9 rfl rfl ?_
  refine J.callVI C (sp_X1_premiseCount hl _) rfl kMl_X6_189 mdX1_premiseCount ⟨(Nat.le_of_ble_eq_true rfl), (Nat.le_of_ble_eq_true rfl)⟩ dk_3 rfl rfl (Nat.le_of_ble_eq_true rfl) dX6_useLemma_10 ⟨(Nat.le_of_ble_eq_true rfl), (Nat.le_of_ble_eq_true rfl)⟩ ?_
  refine J.if_leL (tgt := 20) C dX6_useLemma_13 (by decide) H (fun c_13 H => ?_) (fun c_13 H => ?_)
  · refine J.iconst C (0) dX6_useLemma_20 (by decide) ?_
    refine J.widen (k := 1) (n := 6) (Nat.le_of_ble_eq_true rfl) (Nat.le_of_ble_eq_true rfl) ?_
    refine J.lw (lv' := [(0, .ref (ad 0)), (1, .int a1), (2, .int a2), (3, .int a3)]) ⟨rfl, rfl, rfl, rfl, trivial⟩ ?_
    exact bl_X6_useLemma_21 hl C hr hx  _ _ _ _ _  H
  · refine J.iconst C (1) dX6_useLemma_16 (by decide) ?_
    refine J.goto (tgt := 21) C dX6_useLemma_17 (by decide) ?_
    refine J.widen (k := 1) (n := 6) (Nat.le_of_ble_eq_true rfl) (Nat.le_of_ble_eq_true rfl) ?_
    refine J.lw (lv' := [(0, .ref (ad 0)), (1, .int a1), (2, .int a2), (3, .int a3)]) ⟨rfl, rfl, rfl, rfl, trivial⟩ ?_
    exact bl_X6_useLemma_21 hl C hr hx  _ _ _ _ _  H

/-! X6_lemmas -/
abbrev mX6_lemmas : MD := (yX6_lemmas, cX6_lemmas, 1, some .int)
theorem mdX6_lemmas : MDv mX6_lemmas RX6 0 := ⟨kIm_X6_lemmas, kSe_X6_lemmas, kIn_X6, kCo_X6_lemmas, by decide +kernel⟩
def F_X6_lemmas (σ : DS)  : Int32 := (σ.1 5)
set_option maxRecDepth 100000 in
theorem sp_X6_lemmas {l : Launch} (hl : l.stackTraces = false) {g : Gy} {ad : Nat → Nat} {rst : va_W} {σ : DS}  : SpF l mX6_lemmas 1 0 0 mI g [.ref (ad 0)] ((dkh g ad rst) σ) (F_X6_lemmas σ ) ((dkh g ad rst) σ) := by
  generalize H : F_X6_lemmas σ  = r0
  unfold F_X6_lemmas at H
  refine Sp.of hl (by decide) (Nat.le_of_ble_eq_true rfl) (fun p e s m args below meth c A C hr hx => ?_)
  refine J.lw (lv' := [(0, .ref (ad 0))]) ⟨rfl, trivial⟩ ?_
  refine J.aload_n (i := 0) C dX6_lemmas_0 rfl rfl ?_
  refine J.get C 0 2 dk_0 rfl (by decide) kFl_X6_28 inB_X6 rfl dX6_lemmas_1 ?_
  refine J.getN C 3 7 dk_3 rfl (by decide) nest_X6_179 inB_X1 rfl dX6_lemmas_4 ?_
  exact J.iretA C hr (Nat.le_refl _) (Nat.le_refl _) dX6_lemmas_7 H

/-! X6_lines -/
abbrev mX6_lines : MD := (yX6_lines, cX6_lines, 1, some .int)
theorem mdX6_lines : MDv mX6_lines RX6 0 := ⟨kIm_X6_lines, kSe_X6_lines, kIn_X6, kCo_X6_lines, by decide +kernel⟩
def F_X6_lines (σ : DS)  : Int32 := (σ.1 2)
set_option maxRecDepth 100000 in
theorem sp_X6_lines {l : Launch} (hl : l.stackTraces = false) {g : Gy} {ad : Nat → Nat} {rst : va_W} {σ : DS}  : SpF l mX6_lines 1 0 0 mI g [.ref (ad 0)] ((dkh g ad rst) σ) (F_X6_lines σ ) ((dkh g ad rst) σ) := by
  generalize H : F_X6_lines σ  = r0
  unfold F_X6_lines at H
  refine Sp.of hl (by decide) (Nat.le_of_ble_eq_true rfl) (fun p e s m args below meth c A C hr hx => ?_)
  refine J.lw (lv' := [(0, .ref (ad 0))]) ⟨rfl, trivial⟩ ?_
  refine J.aload_n (i := 0) C dX6_lines_0 rfl rfl ?_
  refine J.get C 0 1 dk_0 rfl (by decide) kFl_X6_21 inB_X6 rfl dX6_lines_1 ?_
  refine J.getN C 2 13 dk_2 rfl (by decide) nest_X6_164 inB_X2 rfl dX6_lines_4 ?_
  exact J.iretA C hr (Nat.le_refl _) (Nat.le_refl _) dX6_lines_7 H

/-! X6_formulaOf -/
abbrev mX6_formulaOf : MD := (yX6_formulaOf, cX6_formulaOf, 2, some .int)
theorem mdX6_formulaOf : MDv mX6_formulaOf RX6 1 := ⟨kIm_X6_formulaOf, kSe_X6_formulaOf, kIn_X6, kCo_X6_formulaOf, by decide +kernel⟩
def P_X6_formulaOf (σ : DS) (a1 : Int32) : Res DS Int32 := (bd (P_X6_requireLine σ a1) fun _ s2 => (some (.inl (F_X2_formula s2 a1), s2)))
set_option maxRecDepth 100000 in
theorem sp_X6_formulaOf {l : Launch} (hl : l.stackTraces = false) {g : Gy} {ad : Nat → Nat} {rst : va_W} {σ : DS} (a1 : Int32) : SpR l mX6_formulaOf 8 1 6 mI g [.ref (ad 0), .int a1] (dkh g ad rst) σ (P_X6_formulaOf σ a1) := by
  refine SpR.of hl (by decide) (Nat.le_of_ble_eq_true rfl) (fun rr H p e s m args below meth c A C hr hx => ?_)
  unfold P_X6_formulaOf at H
  refine J.lw (lv' := [(0, .ref (ad 0)), (1, .int a1)]) ⟨rfl, rfl, trivial⟩ ?_
  refine J.aload_n (i := 0) C dX6_formulaOf_0 rfl rfl ?_
  refine J.iload_n (i := 1) C dX6_formulaOf_1 rfl rfl ?_
  refine J.callVBV (hp := (dkh g ad rst)) C rfl (sp_X6_requireLine hl _) rfl kMl_X6_122 mdX6_requireLine ⟨(Nat.le_of_ble_eq_true rfl), (Nat.le_of_ble_eq_true rfl)⟩ dk_0 rfl rfl (Nat.le_of_ble_eq_true rfl) dX6_formulaOf_2 ⟨(Nat.le_of_ble_eq_true rfl), (Nat.le_of_ble_eq_true rfl)⟩ hx (Nat.le_of_ble_eq_true rfl) (Nat.le_of_ble_eq_true rfl) H (fun _ s2 H => ?_)
  refine J.aload_n (i := 0) C dX6_formulaOf_5 rfl rfl ?_
  refine J.get C 0 1 dk_0 rfl (by decide) kFl_X6_21 inB_X6 rfl dX6_formulaOf_6 ?_
  refine J.iload_n (i := 1) C dX6_formulaOf_9 rfl rfl ?_
  refine J.callVI C (sp_X2_formula hl _) rfl kMl_X6_128 mdX2_formula ⟨(Nat.le_of_ble_eq_true rfl), (Nat.le_of_ble_eq_true rfl)⟩ dk_2 rfl rfl (Nat.le_of_ble_eq_true rfl) dX6_formulaOf_10 ⟨(Nat.le_of_ble_eq_true rfl), (Nat.le_of_ble_eq_true rfl)⟩ ?_
  exact J.iretL C hr (Nat.le_of_ble_eq_true rfl) (Nat.le_of_ble_eq_true rfl) dX6_formulaOf_13 H

/-! X6_ruleOf -/
abbrev mX6_ruleOf : MD := (yX6_ruleOf, cX6_ruleOf, 2, some .char)
theorem mdX6_ruleOf : MDv mX6_ruleOf RX6 1 := ⟨kIm_X6_ruleOf, kSe_X6_ruleOf, kIn_X6, kCo_X6_ruleOf, by decide +kernel⟩
def P_X6_ruleOf (σ : DS) (a1 : Int32) : Res DS Int32 := (bd (P_X6_requireLine σ a1) fun _ s2 => (some (.inl (F_X2_rule s2 a1), s2)))
set_option maxRecDepth 100000 in
theorem sp_X6_ruleOf {l : Launch} (hl : l.stackTraces = false) {g : Gy} {ad : Nat → Nat} {rst : va_W} {σ : DS} (a1 : Int32) : SpR l mX6_ruleOf 8 1 6 mI g [.ref (ad 0), .int a1] (dkh g ad rst) σ (P_X6_ruleOf σ a1) := by
  refine SpR.of hl (by decide) (Nat.le_of_ble_eq_true rfl) (fun rr H p e s m args below meth c A C hr hx => ?_)
  unfold P_X6_ruleOf at H
  refine J.lw (lv' := [(0, .ref (ad 0)), (1, .int a1)]) ⟨rfl, rfl, trivial⟩ ?_
  refine J.aload_n (i := 0) C dX6_ruleOf_0 rfl rfl ?_
  refine J.iload_n (i := 1) C dX6_ruleOf_1 rfl rfl ?_
  refine J.callVBV (hp := (dkh g ad rst)) C rfl (sp_X6_requireLine hl _) rfl kMl_X6_122 mdX6_requireLine ⟨(Nat.le_of_ble_eq_true rfl), (Nat.le_of_ble_eq_true rfl)⟩ dk_0 rfl rfl (Nat.le_of_ble_eq_true rfl) dX6_ruleOf_2 ⟨(Nat.le_of_ble_eq_true rfl), (Nat.le_of_ble_eq_true rfl)⟩ hx (Nat.le_of_ble_eq_true rfl) (Nat.le_of_ble_eq_true rfl) H (fun _ s2 H => ?_)
  refine J.aload_n (i := 0) C dX6_ruleOf_5 rfl rfl ?_
  refine J.get C 0 1 dk_0 rfl (by decide) kFl_X6_21 inB_X6 rfl dX6_ruleOf_6 ?_
  refine J.iload_n (i := 1) C dX6_ruleOf_9 rfl rfl ?_
  refine J.callVI C (sp_X2_rule hl _) rfl kMl_X6_206 mdX2_rule ⟨(Nat.le_of_ble_eq_true rfl), (Nat.le_of_ble_eq_true rfl)⟩ dk_2 rfl rfl (Nat.le_of_ble_eq_true rfl) dX6_ruleOf_10 ⟨(Nat.le_of_ble_eq_true rfl), (Nat.le_of_ble_eq_true rfl)⟩ ?_
  exact J.zretL C hr (nr_X2_rule s2 a1) (Nat.le_of_ble_eq_true rfl) (Nat.le_of_ble_eq_true rfl) dX6_ruleOf_13 H

/-! X6_depthOf -/
abbrev mX6_depthOf : MD := (yX6_depthOf, cX6_depthOf, 2, some .int)
theorem mdX6_depthOf : MDv mX6_depthOf RX6 1 := ⟨kIm_X6_depthOf, kSe_X6_depthOf, kIn_X6, kCo_X6_depthOf, by decide +kernel⟩
def P_X6_depthOf (σ : DS) (a1 : Int32) : Res DS Int32 := (bd (P_X6_requireLine σ a1) fun _ s2 => (bd (P_X2_depth s2 a1) fun r10 s10 => (some (.inl r10, s10))))
set_option maxRecDepth 100000 in
theorem sp_X6_depthOf {l : Launch} (hl : l.stackTraces = false) {g : Gy} {ad : Nat → Nat} {rst : va_W} {σ : DS} (a1 : Int32) : SpR l mX6_depthOf 8 1 6 mI g [.ref (ad 0), .int a1] (dkh g ad rst) σ (P_X6_depthOf σ a1) := by
  refine SpR.of hl (by decide) (Nat.le_of_ble_eq_true rfl) (fun rr H p e s m args below meth c A C hr hx => ?_)
  unfold P_X6_depthOf at H
  refine J.lw (lv' := [(0, .ref (ad 0)), (1, .int a1)]) ⟨rfl, rfl, trivial⟩ ?_
  refine J.aload_n (i := 0) C dX6_depthOf_0 rfl rfl ?_
  refine J.iload_n (i := 1) C dX6_depthOf_1 rfl rfl ?_
  refine J.callVBV (hp := (dkh g ad rst)) C rfl (sp_X6_requireLine hl _) rfl kMl_X6_122 mdX6_requireLine ⟨(Nat.le_of_ble_eq_true rfl), (Nat.le_of_ble_eq_true rfl)⟩ dk_0 rfl rfl (Nat.le_of_ble_eq_true rfl) dX6_depthOf_2 ⟨(Nat.le_of_ble_eq_true rfl), (Nat.le_of_ble_eq_true rfl)⟩ hx (Nat.le_of_ble_eq_true rfl) (Nat.le_of_ble_eq_true rfl) H (fun _ s2 H => ?_)
  refine J.aload_n (i := 0) C dX6_depthOf_5 rfl rfl ?_
  refine J.get C 0 1 dk_0 rfl (by decide) kFl_X6_21 inB_X6 rfl dX6_depthOf_6 ?_
  refine J.iload_n (i := 1) C dX6_depthOf_9 rfl rfl ?_
  refine J.callVBI (hp := (dkh g ad rst)) C rfl (sp_X2_depth hl _) rfl kMl_X6_209 mdX2_depth ⟨(Nat.le_of_ble_eq_true rfl), (Nat.le_of_ble_eq_true rfl)⟩ dk_2 rfl rfl (Nat.le_of_ble_eq_true rfl) dX6_depthOf_10 ⟨(Nat.le_of_ble_eq_true rfl), (Nat.le_of_ble_eq_true rfl)⟩ hx (Nat.le_of_ble_eq_true rfl) (Nat.le_of_ble_eq_true rfl) H (fun r10 s10 H => ?_)
  exact J.iretL C hr (Nat.le_of_ble_eq_true rfl) (Nat.le_of_ble_eq_true rfl) dX6_depthOf_13 H

/-! X6_canCite -/
abbrev mX6_canCite : MD := (yX6_canCite, cX6_canCite, 2, some .boolean)
theorem mdX6_canCite : MDv mX6_canCite RX6 1 := ⟨kIm_X6_canCite, kSe_X6_canCite, kIn_X6, kCo_X6_canCite, by decide +kernel⟩
def P_X6_canCite (σ : DS) (a1 : Int32) : Res DS Int32 := (bd (P_X6_requireLine σ a1) fun _ s2 => (some (.inl (F_X2_isCitable s2 a1), s2)))
set_option maxRecDepth 100000 in
theorem sp_X6_canCite {l : Launch} (hl : l.stackTraces = false) {g : Gy} {ad : Nat → Nat} {rst : va_W} {σ : DS} (a1 : Int32) : SpR l mX6_canCite 8 1 6 mI g [.ref (ad 0), .int a1] (dkh g ad rst) σ (P_X6_canCite σ a1) := by
  refine SpR.of hl (by decide) (Nat.le_of_ble_eq_true rfl) (fun rr H p e s m args below meth c A C hr hx => ?_)
  unfold P_X6_canCite at H
  refine J.lw (lv' := [(0, .ref (ad 0)), (1, .int a1)]) ⟨rfl, rfl, trivial⟩ ?_
  refine J.aload_n (i := 0) C dX6_canCite_0 rfl rfl ?_
  refine J.iload_n (i := 1) C dX6_canCite_1 rfl rfl ?_
  refine J.callVBV (hp := (dkh g ad rst)) C rfl (sp_X6_requireLine hl _) rfl kMl_X6_122 mdX6_requireLine ⟨(Nat.le_of_ble_eq_true rfl), (Nat.le_of_ble_eq_true rfl)⟩ dk_0 rfl rfl (Nat.le_of_ble_eq_true rfl) dX6_canCite_2 ⟨(Nat.le_of_ble_eq_true rfl), (Nat.le_of_ble_eq_true rfl)⟩ hx (Nat.le_of_ble_eq_true rfl) (Nat.le_of_ble_eq_true rfl) H (fun _ s2 H => ?_)
  refine J.aload_n (i := 0) C dX6_canCite_5 rfl rfl ?_
  refine J.get C 0 1 dk_0 rfl (by decide) kFl_X6_21 inB_X6 rfl dX6_canCite_6 ?_
  refine J.iload_n (i := 1) C dX6_canCite_9 rfl rfl ?_
  refine J.callVI C (sp_X2_isCitable hl _) rfl kMl_X6_212 mdX2_isCitable ⟨(Nat.le_of_ble_eq_true rfl), (Nat.le_of_ble_eq_true rfl)⟩ dk_2 rfl rfl (Nat.le_of_ble_eq_true rfl) dX6_canCite_10 ⟨(Nat.le_of_ble_eq_true rfl), (Nat.le_of_ble_eq_true rfl)⟩ ?_
  exact J.zretL C hr (nr_X2_isCitable s2 a1) (Nat.le_of_ble_eq_true rfl) (Nat.le_of_ble_eq_true rfl) dX6_canCite_13 H

/-! X6_boxes -/
abbrev mX6_boxes : MD := (yX6_boxes, cX6_boxes, 1, some .int)
theorem mdX6_boxes : MDv mX6_boxes RX6 0 := ⟨kIm_X6_boxes, kSe_X6_boxes, kIn_X6, kCo_X6_boxes, by decide +kernel⟩
def F_X6_boxes (σ : DS)  : Int32 := (σ.1 3)
set_option maxRecDepth 100000 in
theorem sp_X6_boxes {l : Launch} (hl : l.stackTraces = false) {g : Gy} {ad : Nat → Nat} {rst : va_W} {σ : DS}  : SpF l mX6_boxes 1 0 0 mI g [.ref (ad 0)] ((dkh g ad rst) σ) (F_X6_boxes σ ) ((dkh g ad rst) σ) := by
  generalize H : F_X6_boxes σ  = r0
  unfold F_X6_boxes at H
  refine Sp.of hl (by decide) (Nat.le_of_ble_eq_true rfl) (fun p e s m args below meth c A C hr hx => ?_)
  refine J.lw (lv' := [(0, .ref (ad 0))]) ⟨rfl, trivial⟩ ?_
  refine J.aload_n (i := 0) C dX6_boxes_0 rfl rfl ?_
  refine J.get C 0 1 dk_0 rfl (by decide) kFl_X6_21 inB_X6 rfl dX6_boxes_1 ?_
  refine J.getN C 2 14 dk_2 rfl (by decide) nest_X6_216 inB_X2 rfl dX6_boxes_4 ?_
  exact J.iretA C hr (Nat.le_refl _) (Nat.le_refl _) dX6_boxes_7 H

/-! X6_canCiteBox -/
abbrev mX6_canCiteBox : MD := (yX6_canCiteBox, cX6_canCiteBox, 2, some .boolean)
theorem mdX6_canCiteBox : MDv mX6_canCiteBox RX6 1 := ⟨kIm_X6_canCiteBox, kSe_X6_canCiteBox, kIn_X6, kCo_X6_canCiteBox, by decide +kernel⟩
def P_X6_canCiteBox (σ : DS) (a1 : Int32) : Res DS Int32 := (bd (P_X6_requireBox σ a1) fun _ s2 => (some (.inl (F_X2_isCitableBox s2 a1), s2)))
set_option maxRecDepth 100000 in
theorem sp_X6_canCiteBox {l : Launch} (hl : l.stackTraces = false) {g : Gy} {ad : Nat → Nat} {rst : va_W} {σ : DS} (a1 : Int32) : SpR l mX6_canCiteBox 8 1 6 mI g [.ref (ad 0), .int a1] (dkh g ad rst) σ (P_X6_canCiteBox σ a1) := by
  refine SpR.of hl (by decide) (Nat.le_of_ble_eq_true rfl) (fun rr H p e s m args below meth c A C hr hx => ?_)
  unfold P_X6_canCiteBox at H
  refine J.lw (lv' := [(0, .ref (ad 0)), (1, .int a1)]) ⟨rfl, rfl, trivial⟩ ?_
  refine J.aload_n (i := 0) C dX6_canCiteBox_0 rfl rfl ?_
  refine J.iload_n (i := 1) C dX6_canCiteBox_1 rfl rfl ?_
  refine J.callVBV (hp := (dkh g ad rst)) C rfl (sp_X6_requireBox hl _) rfl kMl_X6_148 mdX6_requireBox ⟨(Nat.le_of_ble_eq_true rfl), (Nat.le_of_ble_eq_true rfl)⟩ dk_0 rfl rfl (Nat.le_of_ble_eq_true rfl) dX6_canCiteBox_2 ⟨(Nat.le_of_ble_eq_true rfl), (Nat.le_of_ble_eq_true rfl)⟩ hx (Nat.le_of_ble_eq_true rfl) (Nat.le_of_ble_eq_true rfl) H (fun _ s2 H => ?_)
  refine J.aload_n (i := 0) C dX6_canCiteBox_5 rfl rfl ?_
  refine J.get C 0 1 dk_0 rfl (by decide) kFl_X6_21 inB_X6 rfl dX6_canCiteBox_6 ?_
  refine J.iload_n (i := 1) C dX6_canCiteBox_9 rfl rfl ?_
  refine J.callVI C (sp_X2_isCitableBox hl _) rfl kMl_X6_219 mdX2_isCitableBox ⟨(Nat.le_of_ble_eq_true rfl), (Nat.le_of_ble_eq_true rfl)⟩ dk_2 rfl rfl (Nat.le_of_ble_eq_true rfl) dX6_canCiteBox_10 ⟨(Nat.le_of_ble_eq_true rfl), (Nat.le_of_ble_eq_true rfl)⟩ ?_
  exact J.zretL C hr (nr_X2_isCitableBox s2 a1) (Nat.le_of_ble_eq_true rfl) (Nat.le_of_ble_eq_true rfl) dX6_canCiteBox_13 H

/-! X6_resultOf -/
abbrev mX6_resultOf : MD := (yX6_resultOf, cX6_resultOf, 2, some .int)
theorem mdX6_resultOf : MDv mX6_resultOf RX6 1 := ⟨kIm_X6_resultOf, kSe_X6_resultOf, kIn_X6, kCo_X6_resultOf, by decide +kernel⟩
def P_X6_resultOf (σ : DS) (a1 : Int32) : Res DS Int32 := (bd (P_X6_requireBox σ a1) fun _ s2 => (some (.inl (F_X2_result s2 a1), s2)))
set_option maxRecDepth 100000 in
theorem sp_X6_resultOf {l : Launch} (hl : l.stackTraces = false) {g : Gy} {ad : Nat → Nat} {rst : va_W} {σ : DS} (a1 : Int32) : SpR l mX6_resultOf 8 1 6 mI g [.ref (ad 0), .int a1] (dkh g ad rst) σ (P_X6_resultOf σ a1) := by
  refine SpR.of hl (by decide) (Nat.le_of_ble_eq_true rfl) (fun rr H p e s m args below meth c A C hr hx => ?_)
  unfold P_X6_resultOf at H
  refine J.lw (lv' := [(0, .ref (ad 0)), (1, .int a1)]) ⟨rfl, rfl, trivial⟩ ?_
  refine J.aload_n (i := 0) C dX6_resultOf_0 rfl rfl ?_
  refine J.iload_n (i := 1) C dX6_resultOf_1 rfl rfl ?_
  refine J.callVBV (hp := (dkh g ad rst)) C rfl (sp_X6_requireBox hl _) rfl kMl_X6_148 mdX6_requireBox ⟨(Nat.le_of_ble_eq_true rfl), (Nat.le_of_ble_eq_true rfl)⟩ dk_0 rfl rfl (Nat.le_of_ble_eq_true rfl) dX6_resultOf_2 ⟨(Nat.le_of_ble_eq_true rfl), (Nat.le_of_ble_eq_true rfl)⟩ hx (Nat.le_of_ble_eq_true rfl) (Nat.le_of_ble_eq_true rfl) H (fun _ s2 H => ?_)
  refine J.aload_n (i := 0) C dX6_resultOf_5 rfl rfl ?_
  refine J.get C 0 1 dk_0 rfl (by decide) kFl_X6_21 inB_X6 rfl dX6_resultOf_6 ?_
  refine J.iload_n (i := 1) C dX6_resultOf_9 rfl rfl ?_
  refine J.callVI C (sp_X2_result hl _) rfl kMl_X6_157 mdX2_result ⟨(Nat.le_of_ble_eq_true rfl), (Nat.le_of_ble_eq_true rfl)⟩ dk_2 rfl rfl (Nat.le_of_ble_eq_true rfl) dX6_resultOf_10 ⟨(Nat.le_of_ble_eq_true rfl), (Nat.le_of_ble_eq_true rfl)⟩ ?_
  exact J.iretL C hr (Nat.le_of_ble_eq_true rfl) (Nat.le_of_ble_eq_true rfl) dX6_resultOf_13 H

/-! X6_needed -/
abbrev mX6_needed : MD := (yX6_needed, cX6_needed, 1, some .int)
theorem mdX6_needed : MDv mX6_needed RX6 0 := ⟨kIm_X6_needed, kSe_X6_needed, kIn_X6, kCo_X6_needed, by decide +kernel⟩
def P_X6_needed (σ : DS)  : Res DS Int32 := (bd (P_X6_requireLines σ ) fun _ s1 => (bd (P_X2_countNeeded s1 ) fun r8 s8 => (some (.inl r8, s8))))
set_option maxRecDepth 100000 in
theorem sp_X6_needed {l : Launch} (hl : l.stackTraces = false) {g : Gy} {ad : Nat → Nat} {rst : va_W} {σ : DS}  : SpR l mX6_needed 8 1 6 mI g [.ref (ad 0)] (dkh g ad rst) σ (P_X6_needed σ ) := by
  refine SpR.of hl (by decide) (Nat.le_of_ble_eq_true rfl) (fun rr H p e s m args below meth c A C hr hx => ?_)
  unfold P_X6_needed at H
  refine J.lw (lv' := [(0, .ref (ad 0))]) ⟨rfl, trivial⟩ ?_
  refine J.aload_n (i := 0) C dX6_needed_0 rfl rfl ?_
  refine J.callVBV (hp := (dkh g ad rst)) C rfl (sp_X6_requireLines hl ) rfl kMl_X6_170 mdX6_requireLines ⟨(Nat.le_of_ble_eq_true rfl), (Nat.le_of_ble_eq_true rfl)⟩ dk_0 rfl rfl (Nat.le_of_ble_eq_true rfl) dX6_needed_1 ⟨(Nat.le_of_ble_eq_true rfl), (Nat.le_of_ble_eq_true rfl)⟩ hx (Nat.le_of_ble_eq_true rfl) (Nat.le_of_ble_eq_true rfl) H (fun _ s1 H => ?_)
  refine J.aload_n (i := 0) C dX6_needed_4 rfl rfl ?_
  refine J.get C 0 1 dk_0 rfl (by decide) kFl_X6_21 inB_X6 rfl dX6_needed_5 ?_
  refine J.callVBI (hp := (dkh g ad rst)) C rfl (sp_X2_countNeeded hl ) rfl kMl_X6_222 mdX2_countNeeded ⟨(Nat.le_of_ble_eq_true rfl), (Nat.le_of_ble_eq_true rfl)⟩ dk_2 rfl rfl (Nat.le_of_ble_eq_true rfl) dX6_needed_8 ⟨(Nat.le_of_ble_eq_true rfl), (Nat.le_of_ble_eq_true rfl)⟩ hx (Nat.le_of_ble_eq_true rfl) (Nat.le_of_ble_eq_true rfl) H (fun r8 s8 H => ?_)
  exact J.iretL C hr (Nat.le_of_ble_eq_true rfl) (Nat.le_of_ble_eq_true rfl) dX6_needed_11 H

/-! X6_found -/
abbrev mX6_found : MD := (yX6_found, cX6_found, 1, some .int)
theorem mdX6_found : MDs mX6_found 1 := ⟨kSt_X6_found, kIn_X6, kCo_X6_found, by decide +kernel⟩
def P_X6_found (σ : DS) (a0 : Int32) : Res DS Int32 := (if a0 = (-1 : Int32) then (some (.inr "java/util/NoSuchElementException", σ)) else (some (.inl a0, σ)))
set_option maxRecDepth 100000 in
theorem sp_X6_found {l : Launch} (hl : l.stackTraces = false) {g : Gy} {ad : Nat → Nat} {rst : va_W} {σ : DS} (a0 : Int32) : SpR l mX6_found 7 1 6 mI g [.int a0] (dkh g ad rst) σ (P_X6_found σ a0) := by
  refine SpR.of hl (by decide) (Nat.le_of_ble_eq_true rfl) (fun rr H p e s m args below meth c A C hr hx => ?_)
  unfold P_X6_found at H
  refine J.lw (lv' := [(0, .int a0)]) ⟨rfl, trivial⟩ ?_
  refine J.iload_n (i := 0) C dX6_found_0 rfl rfl ?_
  refine J.iconst C (-1) dX6_found_1 (by decide) ?_
  refine J.icmp_neL (tgt := 16) C dX6_found_2 (by decide) H (fun c_2 H => ?_) (fun c_2 H => ?_)
  · refine J.iload_n (i := 0) C dX6_found_16 rfl rfl ?_
    exact J.iretL C hr (Nat.le_of_ble_eq_true rfl) (Nat.le_of_ble_eq_true rfl) dX6_found_17 H
  · exact J.throwNWL (hp := (dkh g ad rst)) C th_NoSuchElementException_77 str_319 dX6_found_5 dX6_found_8 dX6_found_9 dX6_found_12 dX6_found_15 hx ⟨(Nat.le_of_ble_eq_true rfl), (Nat.le_of_ble_eq_true rfl), (Nat.le_of_ble_eq_true rfl), (Nat.le_of_ble_eq_true rfl)⟩ (Nat.le_of_ble_eq_true rfl) (Nat.le_of_ble_eq_true rfl) H

/-! X6_distance -/
abbrev mX6_distance : MD := (yX6_distance, cX6_distance, 2, some .int)
theorem mdX6_distance : MDv mX6_distance RX6 1 := ⟨kIm_X6_distance, kSe_X6_distance, kIn_X6, kCo_X6_distance, by decide +kernel⟩
def P_X6_distance (σ : DS) (a1 : Int32) : Res DS Int32 := (bd (P_X6_requireFormula σ a1) fun _ s2 => (bd (P_X4_byQueue s2 a1) fun r10 s10 => (bd (P_X6_found s10 r10) fun r13 s13 => (some (.inl r13, s13)))))
set_option maxRecDepth 100000 in
theorem sp_X6_distance {l : Launch} (hl : l.stackTraces = false) {g : Gy} {ad : Nat → Nat} {rst : va_W} {σ : DS} (a1 : Int32) : SpR l mX6_distance 8 2 12 mI g [.ref (ad 0), .int a1] (dkh g ad rst) σ (P_X6_distance σ a1) := by
  refine SpR.of hl (by decide) (Nat.le_of_ble_eq_true rfl) (fun rr H p e s m args below meth c A C hr hx => ?_)
  unfold P_X6_distance at H
  refine J.lw (lv' := [(0, .ref (ad 0)), (1, .int a1)]) ⟨rfl, rfl, trivial⟩ ?_
  refine J.aload_n (i := 0) C dX6_distance_0 rfl rfl ?_
  refine J.iload_n (i := 1) C dX6_distance_1 rfl rfl ?_
  refine J.callVBV (hp := (dkh g ad rst)) C rfl (sp_X6_requireFormula hl _) rfl kMl_X6_60 mdX6_requireFormula ⟨(Nat.le_of_ble_eq_true rfl), (Nat.le_of_ble_eq_true rfl)⟩ dk_0 rfl rfl (Nat.le_of_ble_eq_true rfl) dX6_distance_2 ⟨(Nat.le_of_ble_eq_true rfl), (Nat.le_of_ble_eq_true rfl)⟩ hx (Nat.le_of_ble_eq_true rfl) (Nat.le_of_ble_eq_true rfl) H (fun _ s2 H => ?_)
  refine J.aload_n (i := 0) C dX6_distance_5 rfl rfl ?_
  refine J.get C 0 3 dk_0 rfl (by decide) kFl_X6_37 inB_X6 rfl dX6_distance_6 ?_
  refine J.iload_n (i := 1) C dX6_distance_9 rfl rfl ?_
  refine J.callVBI (hp := (dkh g ad rst)) C rfl (sp_X4_byQueue hl _) rfl kMl_X6_225 mdX4_byQueue ⟨(Nat.le_of_ble_eq_true rfl), (Nat.le_of_ble_eq_true rfl)⟩ dk_4 rfl rfl (Nat.le_of_ble_eq_true rfl) dX6_distance_10 ⟨(Nat.le_of_ble_eq_true rfl), (Nat.le_of_ble_eq_true rfl)⟩ hx (Nat.le_of_ble_eq_true rfl) (Nat.le_of_ble_eq_true rfl) H (fun r10 s10 H => ?_)
  refine J.callSBI (hp := (dkh g ad rst)) C rfl (sp_X6_found hl _) rfl kMl_X6_228 mdX6_found ⟨(Nat.le_of_ble_eq_true rfl), (Nat.le_of_ble_eq_true rfl)⟩ rfl (Nat.le_of_ble_eq_true rfl) dX6_distance_13 ⟨(Nat.le_of_ble_eq_true rfl), (Nat.le_of_ble_eq_true rfl)⟩ hx (Nat.le_of_ble_eq_true rfl) (Nat.le_of_ble_eq_true rfl) H (fun r13 s13 H => ?_)
  exact J.iretL C hr (Nat.le_of_ble_eq_true rfl) (Nat.le_of_ble_eq_true rfl) dX6_distance_16 H

/-! X6_distanceByRounds -/
abbrev mX6_distanceByRounds : MD := (yX6_distanceByRounds, cX6_distanceByRounds, 2, some .int)
theorem mdX6_distanceByRounds : MDv mX6_distanceByRounds RX6 1 := ⟨kIm_X6_distanceByRounds, kSe_X6_distanceByRounds, kIn_X6, kCo_X6_distanceByRounds, by decide +kernel⟩
def P_X6_distanceByRounds (σ : DS) (a1 : Int32) : Res DS Int32 := (bd (P_X6_requireFormula σ a1) fun _ s2 => (bd (P_X4_byRounds s2 a1) fun r10 s10 => (bd (P_X6_found s10 r10) fun r13 s13 => (some (.inl r13, s13)))))
set_option maxRecDepth 100000 in
theorem sp_X6_distanceByRounds {l : Launch} (hl : l.stackTraces = false) {g : Gy} {ad : Nat → Nat} {rst : va_W} {σ : DS} (a1 : Int32) : SpR l mX6_distanceByRounds 8 2 12 mI g [.ref (ad 0), .int a1] (dkh g ad rst) σ (P_X6_distanceByRounds σ a1) := by
  refine SpR.of hl (by decide) (Nat.le_of_ble_eq_true rfl) (fun rr H p e s m args below meth c A C hr hx => ?_)
  unfold P_X6_distanceByRounds at H
  refine J.lw (lv' := [(0, .ref (ad 0)), (1, .int a1)]) ⟨rfl, rfl, trivial⟩ ?_
  refine J.aload_n (i := 0) C dX6_distanceByRounds_0 rfl rfl ?_
  refine J.iload_n (i := 1) C dX6_distanceByRounds_1 rfl rfl ?_
  refine J.callVBV (hp := (dkh g ad rst)) C rfl (sp_X6_requireFormula hl _) rfl kMl_X6_60 mdX6_requireFormula ⟨(Nat.le_of_ble_eq_true rfl), (Nat.le_of_ble_eq_true rfl)⟩ dk_0 rfl rfl (Nat.le_of_ble_eq_true rfl) dX6_distanceByRounds_2 ⟨(Nat.le_of_ble_eq_true rfl), (Nat.le_of_ble_eq_true rfl)⟩ hx (Nat.le_of_ble_eq_true rfl) (Nat.le_of_ble_eq_true rfl) H (fun _ s2 H => ?_)
  refine J.aload_n (i := 0) C dX6_distanceByRounds_5 rfl rfl ?_
  refine J.get C 0 3 dk_0 rfl (by decide) kFl_X6_37 inB_X6 rfl dX6_distanceByRounds_6 ?_
  refine J.iload_n (i := 1) C dX6_distanceByRounds_9 rfl rfl ?_
  refine J.callVBI (hp := (dkh g ad rst)) C rfl (sp_X4_byRounds hl _) rfl kMl_X6_231 mdX4_byRounds ⟨(Nat.le_of_ble_eq_true rfl), (Nat.le_of_ble_eq_true rfl)⟩ dk_4 rfl rfl (Nat.le_of_ble_eq_true rfl) dX6_distanceByRounds_10 ⟨(Nat.le_of_ble_eq_true rfl), (Nat.le_of_ble_eq_true rfl)⟩ hx (Nat.le_of_ble_eq_true rfl) (Nat.le_of_ble_eq_true rfl) H (fun r10 s10 H => ?_)
  refine J.callSBI (hp := (dkh g ad rst)) C rfl (sp_X6_found hl _) rfl kMl_X6_228 mdX6_found ⟨(Nat.le_of_ble_eq_true rfl), (Nat.le_of_ble_eq_true rfl)⟩ rfl (Nat.le_of_ble_eq_true rfl) dX6_distanceByRounds_13 ⟨(Nat.le_of_ble_eq_true rfl), (Nat.le_of_ble_eq_true rfl)⟩ hx (Nat.le_of_ble_eq_true rfl) (Nat.le_of_ble_eq_true rfl) H (fun r13 s13 H => ?_)
  exact J.iretL C hr (Nat.le_of_ble_eq_true rfl) (Nat.le_of_ble_eq_true rfl) dX6_distanceByRounds_16 H

/-! X6_normalStep -/
abbrev mX6_normalStep : MD := (yX6_normalStep, cX6_normalStep, 2, some .int)
theorem mdX6_normalStep : MDv mX6_normalStep RX6 1 := ⟨kIm_X6_normalStep, kSe_X6_normalStep, kIn_X6, kCo_X6_normalStep, by decide +kernel⟩
def P_X6_normalStep (σ : DS) (a1 : Int32) : Res DS Int32 := (bd (P_X6_requireFormula σ a1) fun _ s2 => (bd (P_X5_copy s2 a1) fun _ s14 => (bd (P_X5_step s14 ) fun r21 s21 => (if r21 = 0 then (some (.inr "java/util/NoSuchElementException", s21)) else (bd (P_X0_read s21 ) fun r45 s45 => (bd (P_X6_made s45 r45) fun r48 s48 => (some (.inl r48, s48))))))))
set_option maxRecDepth 100000 in
theorem sp_X6_normalStep {l : Launch} (hl : l.stackTraces = false) {g : Gy} {ad : Nat → Nat} {rst : va_W} {σ : DS} (a1 : Int32) : SpR l mX6_normalStep 8 2 12 mI g [.ref (ad 0), .int a1] (dkh g ad rst) σ (P_X6_normalStep σ a1) := by
  refine SpR.of hl (by decide) (Nat.le_of_ble_eq_true rfl) (fun rr H p e s m args below meth c A C hr hx => ?_)
  unfold P_X6_normalStep at H
  refine J.lw (lv' := [(0, .ref (ad 0)), (1, .int a1)]) ⟨rfl, rfl, trivial⟩ ?_
  refine J.aload_n (i := 0) C dX6_normalStep_0 rfl rfl ?_
  refine J.iload_n (i := 1) C dX6_normalStep_1 rfl rfl ?_
  refine J.callVBV (hp := (dkh g ad rst)) C rfl (sp_X6_requireFormula hl _) rfl kMl_X6_60 mdX6_requireFormula ⟨(Nat.le_of_ble_eq_true rfl), (Nat.le_of_ble_eq_true rfl)⟩ dk_0 rfl rfl (Nat.le_of_ble_eq_true rfl) dX6_normalStep_2 ⟨(Nat.le_of_ble_eq_true rfl), (Nat.le_of_ble_eq_true rfl)⟩ hx (Nat.le_of_ble_eq_true rfl) (Nat.le_of_ble_eq_true rfl) H (fun _ s2 H => ?_)
  refine J.aload_n (i := 0) C dX6_normalStep_5 rfl rfl ?_
  refine J.get C 0 4 dk_0 rfl (by decide) kFl_X6_44 inB_X6 rfl dX6_normalStep_6 ?_
  refine J.aload_n (i := 0) C dX6_normalStep_9 rfl rfl ?_
  refine J.get C 0 0 dk_0 rfl (by decide) kFl_X6_15 inB_X6 rfl dX6_normalStep_10 ?_
  refine J.iload_n (i := 1) C dX6_normalStep_13 rfl rfl ?_
  refine J.callVBV (hp := (dkh g ad rst)) C rfl (sp_X5_copy hl _) rfl kMl_X6_234 mdX5_copy ⟨(Nat.le_of_ble_eq_true rfl), (Nat.le_of_ble_eq_true rfl)⟩ dk_5 rfl rfl (Nat.le_of_ble_eq_true rfl) dX6_normalStep_14 ⟨(Nat.le_of_ble_eq_true rfl), (Nat.le_of_ble_eq_true rfl)⟩ hx (Nat.le_of_ble_eq_true rfl) (Nat.le_of_ble_eq_true rfl) H (fun _ s14 H => ?_)
  refine J.aload_n (i := 0) C dX6_normalStep_17 rfl rfl ?_
  refine J.get C 0 4 dk_0 rfl (by decide) kFl_X6_44 inB_X6 rfl dX6_normalStep_18 ?_
  refine J.callVBI (hp := (dkh g ad rst)) C rfl (sp_X5_step hl ) rfl kMl_X6_238 mdX5_step ⟨(Nat.le_of_ble_eq_true rfl), (Nat.le_of_ble_eq_true rfl)⟩ dk_5 rfl rfl (Nat.le_of_ble_eq_true rfl) dX6_normalStep_21 ⟨(Nat.le_of_ble_eq_true rfl), (Nat.le_of_ble_eq_true rfl)⟩ hx (Nat.le_of_ble_eq_true rfl) (Nat.le_of_ble_eq_true rfl) H (fun r21 s21 H => ?_)
  refine J.if_neL (tgt := 37) C dX6_normalStep_24 (by decide) H (fun c_24 H => ?_) (fun c_24 H => ?_)
  · refine J.aload_n (i := 0) C dX6_normalStep_37 rfl rfl ?_
    refine J.get C 0 0 dk_0 rfl (by decide) kFl_X6_15 inB_X6 rfl dX6_normalStep_38 ?_
    refine J.aload_n (i := 0) C dX6_normalStep_41 rfl rfl ?_
    refine J.get C 0 4 dk_0 rfl (by decide) kFl_X6_44 inB_X6 rfl dX6_normalStep_42 ?_
    refine J.callVBI (hp := (dkh g ad rst)) C rfl (sp_X0_read hl ) rfl kMl_X6_199 mdX0_read ⟨(Nat.le_of_ble_eq_true rfl), (Nat.le_of_ble_eq_true rfl)⟩ dk_1 rfl rfl (Nat.le_of_ble_eq_true rfl) dX6_normalStep_45 ⟨(Nat.le_of_ble_eq_true rfl), (Nat.le_of_ble_eq_true rfl)⟩ hx (Nat.le_of_ble_eq_true rfl) (Nat.le_of_ble_eq_true rfl) H (fun r45 s45 H => ?_)
    refine J.callSBI (hp := (dkh g ad rst)) C rfl (sp_X6_made hl _) rfl kMl_X6_56 mdX6_made ⟨(Nat.le_of_ble_eq_true rfl), (Nat.le_of_ble_eq_true rfl)⟩ rfl (Nat.le_of_ble_eq_true rfl) dX6_normalStep_48 ⟨(Nat.le_of_ble_eq_true rfl), (Nat.le_of_ble_eq_true rfl)⟩ hx (Nat.le_of_ble_eq_true rfl) (Nat.le_of_ble_eq_true rfl) H (fun r48 s48 H => ?_)
    exact J.iretL C hr (Nat.le_of_ble_eq_true rfl) (Nat.le_of_ble_eq_true rfl) dX6_normalStep_51 H
  · exact J.throwNL (hp := (dkh g ad rst)) C th_NoSuchElementException_77 str_242 dX6_normalStep_27 dX6_normalStep_30 dX6_normalStep_31 dX6_normalStep_33 dX6_normalStep_36 hx ⟨(Nat.le_of_ble_eq_true rfl), (Nat.le_of_ble_eq_true rfl), (Nat.le_of_ble_eq_true rfl), (Nat.le_of_ble_eq_true rfl)⟩ (Nat.le_of_ble_eq_true rfl) (Nat.le_of_ble_eq_true rfl) H

/-! X6_normalSteps -/
abbrev mX6_normalSteps : MD := (yX6_normalSteps, cX6_normalSteps, 2, some .int)
theorem mdX6_normalSteps : MDv mX6_normalSteps RX6 1 := ⟨kIm_X6_normalSteps, kSe_X6_normalSteps, kIn_X6, kCo_X6_normalSteps, by decide +kernel⟩
def P_X6_normalSteps (σ : DS) (a1 : Int32) : Res DS Int32 := (bd (P_X6_requireFormula σ a1) fun _ s2 => (bd (P_X5_copy s2 a1) fun _ s14 => (bd (P_X5_stepToEnd s14 ) fun r21 s21 => (some (.inl r21, s21)))))
set_option maxRecDepth 100000 in
theorem sp_X6_normalSteps {l : Launch} (hl : l.stackTraces = false) {g : Gy} {ad : Nat → Nat} {rst : va_W} {σ : DS} (a1 : Int32) : SpR l mX6_normalSteps 8 1 6 mI g [.ref (ad 0), .int a1] (dkh g ad rst) σ (P_X6_normalSteps σ a1) := by
  refine SpR.of hl (by decide) (Nat.le_of_ble_eq_true rfl) (fun rr H p e s m args below meth c A C hr hx => ?_)
  unfold P_X6_normalSteps at H
  refine J.lw (lv' := [(0, .ref (ad 0)), (1, .int a1)]) ⟨rfl, rfl, trivial⟩ ?_
  refine J.aload_n (i := 0) C dX6_normalSteps_0 rfl rfl ?_
  refine J.iload_n (i := 1) C dX6_normalSteps_1 rfl rfl ?_
  refine J.callVBV (hp := (dkh g ad rst)) C rfl (sp_X6_requireFormula hl _) rfl kMl_X6_60 mdX6_requireFormula ⟨(Nat.le_of_ble_eq_true rfl), (Nat.le_of_ble_eq_true rfl)⟩ dk_0 rfl rfl (Nat.le_of_ble_eq_true rfl) dX6_normalSteps_2 ⟨(Nat.le_of_ble_eq_true rfl), (Nat.le_of_ble_eq_true rfl)⟩ hx (Nat.le_of_ble_eq_true rfl) (Nat.le_of_ble_eq_true rfl) H (fun _ s2 H => ?_)
  refine J.aload_n (i := 0) C dX6_normalSteps_5 rfl rfl ?_
  refine J.get C 0 4 dk_0 rfl (by decide) kFl_X6_44 inB_X6 rfl dX6_normalSteps_6 ?_
  refine J.aload_n (i := 0) C dX6_normalSteps_9 rfl rfl ?_
  refine J.get C 0 0 dk_0 rfl (by decide) kFl_X6_15 inB_X6 rfl dX6_normalSteps_10 ?_
  refine J.iload_n (i := 1) C dX6_normalSteps_13 rfl rfl ?_
  refine J.callVBV (hp := (dkh g ad rst)) C rfl (sp_X5_copy hl _) rfl kMl_X6_234 mdX5_copy ⟨(Nat.le_of_ble_eq_true rfl), (Nat.le_of_ble_eq_true rfl)⟩ dk_5 rfl rfl (Nat.le_of_ble_eq_true rfl) dX6_normalSteps_14 ⟨(Nat.le_of_ble_eq_true rfl), (Nat.le_of_ble_eq_true rfl)⟩ hx (Nat.le_of_ble_eq_true rfl) (Nat.le_of_ble_eq_true rfl) H (fun _ s14 H => ?_)
  refine J.aload_n (i := 0) C dX6_normalSteps_17 rfl rfl ?_
  refine J.get C 0 4 dk_0 rfl (by decide) kFl_X6_44 inB_X6 rfl dX6_normalSteps_18 ?_
  refine J.callVBI (hp := (dkh g ad rst)) C rfl (sp_X5_stepToEnd hl ) rfl kMl_X6_244 mdX5_stepToEnd ⟨(Nat.le_of_ble_eq_true rfl), (Nat.le_of_ble_eq_true rfl)⟩ dk_5 rfl rfl (Nat.le_of_ble_eq_true rfl) dX6_normalSteps_21 ⟨(Nat.le_of_ble_eq_true rfl), (Nat.le_of_ble_eq_true rfl)⟩ hx (Nat.le_of_ble_eq_true rfl) (Nat.le_of_ble_eq_true rfl) H (fun r21 s21 H => ?_)
  exact J.iretL C hr (Nat.le_of_ble_eq_true rfl) (Nat.le_of_ble_eq_true rfl) dX6_normalSteps_24 H

/-! X6_normalForm -/
abbrev mX6_normalForm : MD := (yX6_normalForm, cX6_normalForm, 2, some .int)
theorem mdX6_normalForm : MDv mX6_normalForm RX6 1 := ⟨kIm_X6_normalForm, kSe_X6_normalForm, kIn_X6, kCo_X6_normalForm, by decide +kernel⟩
def P_X6_normalForm (σ : DS) (a1 : Int32) : Res DS Int32 := (bd (P_X6_requireFormula σ a1) fun _ s2 => (bd (P_X5_copy s2 a1) fun _ s14 => (bd (P_X5_stepToEnd s14 ) fun r21 s21 => (bd (P_X0_read s21 ) fun r33 s33 => (bd (P_X6_made s33 r33) fun r36 s36 => (some (.inl r36, s36)))))))
set_option maxRecDepth 100000 in
theorem sp_X6_normalForm {l : Launch} (hl : l.stackTraces = false) {g : Gy} {ad : Nat → Nat} {rst : va_W} {σ : DS} (a1 : Int32) : SpR l mX6_normalForm 8 2 12 mI g [.ref (ad 0), .int a1] (dkh g ad rst) σ (P_X6_normalForm σ a1) := by
  refine SpR.of hl (by decide) (Nat.le_of_ble_eq_true rfl) (fun rr H p e s m args below meth c A C hr hx => ?_)
  unfold P_X6_normalForm at H
  refine J.lw (lv' := [(0, .ref (ad 0)), (1, .int a1)]) ⟨rfl, rfl, trivial⟩ ?_
  refine J.aload_n (i := 0) C dX6_normalForm_0 rfl rfl ?_
  refine J.iload_n (i := 1) C dX6_normalForm_1 rfl rfl ?_
  refine J.callVBV (hp := (dkh g ad rst)) C rfl (sp_X6_requireFormula hl _) rfl kMl_X6_60 mdX6_requireFormula ⟨(Nat.le_of_ble_eq_true rfl), (Nat.le_of_ble_eq_true rfl)⟩ dk_0 rfl rfl (Nat.le_of_ble_eq_true rfl) dX6_normalForm_2 ⟨(Nat.le_of_ble_eq_true rfl), (Nat.le_of_ble_eq_true rfl)⟩ hx (Nat.le_of_ble_eq_true rfl) (Nat.le_of_ble_eq_true rfl) H (fun _ s2 H => ?_)
  refine J.aload_n (i := 0) C dX6_normalForm_5 rfl rfl ?_
  refine J.get C 0 4 dk_0 rfl (by decide) kFl_X6_44 inB_X6 rfl dX6_normalForm_6 ?_
  refine J.aload_n (i := 0) C dX6_normalForm_9 rfl rfl ?_
  refine J.get C 0 0 dk_0 rfl (by decide) kFl_X6_15 inB_X6 rfl dX6_normalForm_10 ?_
  refine J.iload_n (i := 1) C dX6_normalForm_13 rfl rfl ?_
  refine J.callVBV (hp := (dkh g ad rst)) C rfl (sp_X5_copy hl _) rfl kMl_X6_234 mdX5_copy ⟨(Nat.le_of_ble_eq_true rfl), (Nat.le_of_ble_eq_true rfl)⟩ dk_5 rfl rfl (Nat.le_of_ble_eq_true rfl) dX6_normalForm_14 ⟨(Nat.le_of_ble_eq_true rfl), (Nat.le_of_ble_eq_true rfl)⟩ hx (Nat.le_of_ble_eq_true rfl) (Nat.le_of_ble_eq_true rfl) H (fun _ s14 H => ?_)
  refine J.aload_n (i := 0) C dX6_normalForm_17 rfl rfl ?_
  refine J.get C 0 4 dk_0 rfl (by decide) kFl_X6_44 inB_X6 rfl dX6_normalForm_18 ?_
  refine J.callVBI (hp := (dkh g ad rst)) C rfl (sp_X5_stepToEnd hl ) rfl kMl_X6_244 mdX5_stepToEnd ⟨(Nat.le_of_ble_eq_true rfl), (Nat.le_of_ble_eq_true rfl)⟩ dk_5 rfl rfl (Nat.le_of_ble_eq_true rfl) dX6_normalForm_21 ⟨(Nat.le_of_ble_eq_true rfl), (Nat.le_of_ble_eq_true rfl)⟩ hx (Nat.le_of_ble_eq_true rfl) (Nat.le_of_ble_eq_true rfl) H (fun r21 s21 H => ?_)
  refine J.pop C dX6_normalForm_24 rfl ?_
  refine J.aload_n (i := 0) C dX6_normalForm_25 rfl rfl ?_
  refine J.get C 0 0 dk_0 rfl (by decide) kFl_X6_15 inB_X6 rfl dX6_normalForm_26 ?_
  refine J.aload_n (i := 0) C dX6_normalForm_29 rfl rfl ?_
  refine J.get C 0 4 dk_0 rfl (by decide) kFl_X6_44 inB_X6 rfl dX6_normalForm_30 ?_
  refine J.callVBI (hp := (dkh g ad rst)) C rfl (sp_X0_read hl ) rfl kMl_X6_199 mdX0_read ⟨(Nat.le_of_ble_eq_true rfl), (Nat.le_of_ble_eq_true rfl)⟩ dk_1 rfl rfl (Nat.le_of_ble_eq_true rfl) dX6_normalForm_33 ⟨(Nat.le_of_ble_eq_true rfl), (Nat.le_of_ble_eq_true rfl)⟩ hx (Nat.le_of_ble_eq_true rfl) (Nat.le_of_ble_eq_true rfl) H (fun r33 s33 H => ?_)
  refine J.callSBI (hp := (dkh g ad rst)) C rfl (sp_X6_made hl _) rfl kMl_X6_56 mdX6_made ⟨(Nat.le_of_ble_eq_true rfl), (Nat.le_of_ble_eq_true rfl)⟩ rfl (Nat.le_of_ble_eq_true rfl) dX6_normalForm_36 ⟨(Nat.le_of_ble_eq_true rfl), (Nat.le_of_ble_eq_true rfl)⟩ hx (Nat.le_of_ble_eq_true rfl) (Nat.le_of_ble_eq_true rfl) H (fun r36 s36 H => ?_)
  exact J.iretL C hr (Nat.le_of_ble_eq_true rfl) (Nat.le_of_ble_eq_true rfl) dX6_normalForm_39 H

/-! X6_models -/
abbrev mX6_models : MD := (yX6_models, cX6_models, 2, some .int)
theorem mdX6_models : MDv mX6_models RX6 1 := ⟨kIm_X6_models, kSe_X6_models, kIn_X6, kCo_X6_models, by decide +kernel⟩
def P_X6_models (σ : DS) (a1 : Int32) : Res DS Int32 := (bd (P_X6_requireFormula σ a1) fun _ s2 => (some (.inl (F_J6_bitCount_0f7a4 (F_X0_table s2 a1)), s2)))
set_option maxRecDepth 100000 in
theorem sp_X6_models {l : Launch} (hl : l.stackTraces = false) {g : Gy} {ad : Nat → Nat} {rst : va_W} {σ : DS} (a1 : Int32) : SpR l mX6_models 8 1 6 mI g [.ref (ad 0), .int a1] (dkh g ad rst) σ (P_X6_models σ a1) := by
  refine SpR.of hl (by decide) (Nat.le_of_ble_eq_true rfl) (fun rr H p e s m args below meth c A C hr hx => ?_)
  unfold P_X6_models at H
  refine J.lw (lv' := [(0, .ref (ad 0)), (1, .int a1)]) ⟨rfl, rfl, trivial⟩ ?_
  refine J.aload_n (i := 0) C dX6_models_0 rfl rfl ?_
  refine J.iload_n (i := 1) C dX6_models_1 rfl rfl ?_
  refine J.callVBV (hp := (dkh g ad rst)) C rfl (sp_X6_requireFormula hl _) rfl kMl_X6_60 mdX6_requireFormula ⟨(Nat.le_of_ble_eq_true rfl), (Nat.le_of_ble_eq_true rfl)⟩ dk_0 rfl rfl (Nat.le_of_ble_eq_true rfl) dX6_models_2 ⟨(Nat.le_of_ble_eq_true rfl), (Nat.le_of_ble_eq_true rfl)⟩ hx (Nat.le_of_ble_eq_true rfl) (Nat.le_of_ble_eq_true rfl) H (fun _ s2 H => ?_)
  refine J.aload_n (i := 0) C dX6_models_5 rfl rfl ?_
  refine J.get C 0 0 dk_0 rfl (by decide) kFl_X6_15 inB_X6 rfl dX6_models_6 ?_
  refine J.iload_n (i := 1) C dX6_models_9 rfl rfl ?_
  refine J.callVI C (sp_X0_table hl _) rfl kMl_X6_247 mdX0_table ⟨(Nat.le_of_ble_eq_true rfl), (Nat.le_of_ble_eq_true rfl)⟩ dk_1 rfl rfl (Nat.le_of_ble_eq_true rfl) dX6_models_10 ⟨(Nat.le_of_ble_eq_true rfl), (Nat.le_of_ble_eq_true rfl)⟩ ?_
  refine J.callSI C (sp_J6_bitCount_0f7a4 hl _) rfl kMl_X6_250 mdJ6_bitCount_0f7a4 ⟨(Nat.le_of_ble_eq_true rfl), (Nat.le_of_ble_eq_true rfl)⟩ rfl (Nat.le_of_ble_eq_true rfl) dX6_models_13 ⟨(Nat.le_of_ble_eq_true rfl), (Nat.le_of_ble_eq_true rfl)⟩ ?_
  exact J.iretL C hr (Nat.le_of_ble_eq_true rfl) (Nat.le_of_ble_eq_true rfl) dX6_models_16 H

/-! X6_modelsByRows -/
def B_X6_modelsByRows_9 (k_9 : DS → Int32 → Int32 → Int32 → Res DS Int32) (σ : DS) (l1 : Int32) (l2 : Int32) (l3 : Int32) : Res DS Int32 := (if (32 : Int32) ≤ l3 then (some (.inl l2, σ)) else (bd (P_X0_isTrue σ l1 l3) fun r21 s21 => (if r21 = 0 then (lt (l3 + (1 : Int32)) fun z30 => (k_9 s21 l1 l2 z30)) else (lt (l2 + (1 : Int32)) fun z27 => (lt (l3 + (1 : Int32)) fun z30 => (k_9 s21 l1 z27 z30))))))
set_option maxRecDepth 100000 in
theorem bl_X6_modelsByRows_9 {l : Launch} (hl : l.stackTraces = false) {g : Gy} {ad : Nat → Nat} {rst : va_W} {p : Program} {e : Env} {s : State} {m : MethodId} {args : Array Value} {below : List Frame} {meth : Method} {c : Code} {A : Nat → Prop} (C : Cx p l s m args meth c g A yX6_modelsByRows.cls cX6_modelsByRows 4) (hr : meth.sig.returnType = some .int) (hx : ∀ x ∈ c.exceptionTable.toList, False) {rr : (Int32 ⊕ String) × DS} (k_9 : DS → Int32 → Int32 → Int32 → Res DS Int32) (hk_9 : ∀ (σ : DS) (l1 : Int32) (l2 : Int32) (l3 : Int32), k_9 σ l1 l2 l3 = some rr → J p l e (rmOf 8 1 6) s m args below meth c g A 4 1 6 (QR mI g A (dkh g ad rst) rr below args s 1 6) 9 [(0, .ref (ad 0)), (1, .int l1), (2, .int l2), (3, .int l3)] [] ((dkh g ad rst) σ)) (σ : DS) (l1 : Int32) (l2 : Int32) (l3 : Int32) (H : B_X6_modelsByRows_9 k_9 σ l1 l2 l3 = some rr) : J p l e (rmOf 8 1 6) s m args below meth c g A 4 1 6 (QR mI g A (dkh g ad rst) rr below args s 1 6) 9 [(0, .ref (ad 0)), (1, .int l1), (2, .int l2), (3, .int l3)] [] ((dkh g ad rst) σ) := by
  unfold B_X6_modelsByRows_9 at H
  refine J.iload_n (i := 3) C dX6_modelsByRows_9 rfl rfl ?_
  refine J.bipush C (32) dX6_modelsByRows_10 (by decide) ?_
  refine J.icmp_geL (tgt := 36) C dX6_modelsByRows_12 (by decide) H (fun c_12 H => ?_) (fun c_12 H => ?_)
  · refine J.iload_n (i := 2) C dX6_modelsByRows_36 rfl rfl ?_
    exact J.iretL C hr (Nat.le_of_ble_eq_true rfl) (Nat.le_of_ble_eq_true rfl) dX6_modelsByRows_37 H
  · refine J.aload_n (i := 0) C dX6_modelsByRows_15 rfl rfl ?_
    refine J.get C 0 0 dk_0 rfl (by decide) kFl_X6_15 inB_X6 rfl dX6_modelsByRows_16 ?_
    refine J.iload_n (i := 1) C dX6_modelsByRows_19 rfl rfl ?_
    refine J.iload_n (i := 3) C dX6_modelsByRows_20 rfl rfl ?_
    refine J.callVBI (hp := (dkh g ad rst)) C rfl (sp_X0_isTrue hl _ _) rfl kMl_X6_255 mdX0_isTrue ⟨(Nat.le_of_ble_eq_true rfl), (Nat.le_of_ble_eq_true rfl)⟩ dk_1 rfl rfl (Nat.le_of_ble_eq_true rfl) dX6_modelsByRows_21 ⟨(Nat.le_of_ble_eq_true rfl), (Nat.le_of_ble_eq_true rfl)⟩ hx (Nat.le_of_ble_eq_true rfl) (Nat.le_of_ble_eq_true rfl) H (fun r21 s21 H => ?_)
    refine J.if_eqL (tgt := 30) C dX6_modelsByRows_24 (by decide) H (fun c_24 H => ?_) (fun c_24 H => ?_)
    · refine J.iincL C (l3 + (1 : Int32)) dX6_modelsByRows_30 rfl rfl (by decide) H (fun z30 H => ?_)
      refine J.goto (tgt := 9) C dX6_modelsByRows_33 (by decide) ?_
      refine J.widen (k := 1) (n := 6) (Nat.le_of_ble_eq_true rfl) (Nat.le_of_ble_eq_true rfl) ?_
      refine J.lw (lv' := [(0, .ref (ad 0)), (1, .int l1), (2, .int l2), (3, .int z30)]) ⟨rfl, rfl, rfl, rfl, trivial⟩ ?_
      exact hk_9 _ _ _ _  H
    · refine J.iincL C (l2 + (1 : Int32)) dX6_modelsByRows_27 rfl rfl (by decide) H (fun z27 H => ?_)
      refine J.iincL C (l3 + (1 : Int32)) dX6_modelsByRows_30 rfl rfl (by decide) H (fun z30 H => ?_)
      refine J.goto (tgt := 9) C dX6_modelsByRows_33 (by decide) ?_
      refine J.widen (k := 1) (n := 6) (Nat.le_of_ble_eq_true rfl) (Nat.le_of_ble_eq_true rfl) ?_
      refine J.lw (lv' := [(0, .ref (ad 0)), (1, .int l1), (2, .int z27), (3, .int z30)]) ⟨rfl, rfl, rfl, rfl, trivial⟩ ?_
      exact hk_9 _ _ _ _  H
def L_X6_modelsByRows_9 : Nat → DS → Int32 → Int32 → Int32 → Res DS Int32
  | 0, _, _, _, _ => none
  | n + 1, σ, l1, l2, l3 => B_X6_modelsByRows_9 (L_X6_modelsByRows_9 n) σ l1 l2 l3
set_option maxRecDepth 100000 in
theorem lp_X6_modelsByRows_9 {l : Launch} (hl : l.stackTraces = false) {g : Gy} {ad : Nat → Nat} {rst : va_W} {p : Program} {e : Env} {s : State} {m : MethodId} {args : Array Value} {below : List Frame} {meth : Method} {c : Code} {A : Nat → Prop} (C : Cx p l s m args meth c g A yX6_modelsByRows.cls cX6_modelsByRows 4) (hr : meth.sig.returnType = some .int) (hx : ∀ x ∈ c.exceptionTable.toList, False) {rr : (Int32 ⊕ String) × DS} : ∀ (n : Nat) (σ : DS) (l1 : Int32) (l2 : Int32) (l3 : Int32), L_X6_modelsByRows_9 n σ l1 l2 l3 = some rr → J p l e (rmOf 8 1 6) s m args below meth c g A 4 1 6 (QR mI g A (dkh g ad rst) rr below args s 1 6) 9 [(0, .ref (ad 0)), (1, .int l1), (2, .int l2), (3, .int l3)] [] ((dkh g ad rst) σ) := by
  intro n
  induction n with
  | zero => intro σ l1 l2 l3 H; cases H
  | succ n ih => intro σ l1 l2 l3 H; exact bl_X6_modelsByRows_9 hl C hr hx _ ih _ _ _ _ H
abbrev mX6_modelsByRows : MD := (yX6_modelsByRows, cX6_modelsByRows, 4, some .int)
theorem mdX6_modelsByRows : MDv mX6_modelsByRows RX6 1 := ⟨kIm_X6_modelsByRows, kSe_X6_modelsByRows, kIn_X6, kCo_X6_modelsByRows, by decide +kernel⟩
def P_X6_modelsByRows (σ : DS) (a1 : Int32) : Res DS Int32 := (bd (P_X6_requireFormula σ a1) fun _ s2 => (lt (0 : Int32) fun z6 => (lt (0 : Int32) fun z8 => (L_X6_modelsByRows_9 FU s2 a1 z6 z8))))
set_option maxRecDepth 100000 in
theorem sp_X6_modelsByRows {l : Launch} (hl : l.stackTraces = false) {g : Gy} {ad : Nat → Nat} {rst : va_W} {σ : DS} (a1 : Int32) : SpR l mX6_modelsByRows 8 1 6 mI g [.ref (ad 0), .int a1] (dkh g ad rst) σ (P_X6_modelsByRows σ a1) := by
  refine SpR.of hl (by decide) (Nat.le_of_ble_eq_true rfl) (fun rr H p e s m args below meth c A C hr hx => ?_)
  unfold P_X6_modelsByRows at H
  refine J.lw (lv' := [(0, .ref (ad 0)), (1, .int a1)]) ⟨rfl, rfl, trivial⟩ ?_
  refine J.aload_n (i := 0) C dX6_modelsByRows_0 rfl rfl ?_
  refine J.iload_n (i := 1) C dX6_modelsByRows_1 rfl rfl ?_
  refine J.callVBV (hp := (dkh g ad rst)) C rfl (sp_X6_requireFormula hl _) rfl kMl_X6_60 mdX6_requireFormula ⟨(Nat.le_of_ble_eq_true rfl), (Nat.le_of_ble_eq_true rfl)⟩ dk_0 rfl rfl (Nat.le_of_ble_eq_true rfl) dX6_modelsByRows_2 ⟨(Nat.le_of_ble_eq_true rfl), (Nat.le_of_ble_eq_true rfl)⟩ hx (Nat.le_of_ble_eq_true rfl) (Nat.le_of_ble_eq_true rfl) H (fun _ s2 H => ?_)
  refine J.iconst C (0) dX6_modelsByRows_5 (by decide) ?_
  refine J.istore_nL (i := 2) C dX6_modelsByRows_6 rfl (by decide) H (fun z6 H => ?_)
  refine J.iconst C (0) dX6_modelsByRows_7 (by decide) ?_
  refine J.istore_nL (i := 3) C dX6_modelsByRows_8 rfl (by decide) H (fun z8 H => ?_)
  refine J.widen (k := 1) (n := 6) (Nat.le_of_ble_eq_true rfl) (Nat.le_of_ble_eq_true rfl) ?_
  refine J.lw (lv' := [(0, .ref (ad 0)), (1, .int a1), (2, .int z6), (3, .int z8)]) ⟨rfl, rfl, rfl, rfl, trivial⟩ ?_
  exact lp_X6_modelsByRows_9 hl C hr hx  FU _ _ _ _  H

/-! X6_isCovered -/
abbrev mX6_isCovered : MD := (yX6_isCovered, cX6_isCovered, 3, some .boolean)
theorem mdX6_isCovered : MDv mX6_isCovered RX6 2 := ⟨kIm_X6_isCovered, kSe_X6_isCovered, kIn_X6, kCo_X6_isCovered, by decide +kernel⟩
def F_X6_isCovered (σ : DS) (a1 : Int32) (a2 : Int32) : Int32 := (if (a1 &&& ((F_X0_table σ a2) ^^^ (-1 : Int32))) = 0 then (1 : Int32) else (0 : Int32))
set_option maxRecDepth 100000 in
theorem sp_X6_isCovered {l : Launch} (hl : l.stackTraces = false) {g : Gy} {ad : Nat → Nat} {rst : va_W} {σ : DS} (a1 : Int32) (a2 : Int32) : SpF l mX6_isCovered 3 0 0 mI g [.ref (ad 0), .int a1, .int a2] ((dkh g ad rst) σ) (F_X6_isCovered σ a1 a2) ((dkh g ad rst) σ) := by
  generalize H : F_X6_isCovered σ a1 a2 = r0
  unfold F_X6_isCovered at H
  refine Sp.of hl (by decide) (Nat.le_of_ble_eq_true rfl) (fun p e s m args below meth c A C hr hx => ?_)
  refine J.lw (lv' := [(0, .ref (ad 0)), (1, .int a1), (2, .int a2)]) ⟨rfl, rfl, rfl, trivial⟩ ?_
  refine J.iload_n (i := 1) C dX6_isCovered_0 rfl rfl ?_
  refine J.aload_n (i := 0) C dX6_isCovered_1 rfl rfl ?_
  refine J.get C 0 0 dk_0 rfl (by decide) kFl_X6_15 inB_X6 rfl dX6_isCovered_2 ?_
  refine J.iload_n (i := 2) C dX6_isCovered_5 rfl rfl ?_
  refine J.callVI C (sp_X0_table hl _) rfl kMl_X6_247 mdX0_table ⟨(Nat.le_of_ble_eq_true rfl), (Nat.le_of_ble_eq_true rfl)⟩ dk_1 rfl rfl (Nat.le_of_ble_eq_true rfl) dX6_isCovered_6 ⟨(Nat.le_of_ble_eq_true rfl), (Nat.le_of_ble_eq_true rfl)⟩ ?_
  refine J.iconst C (-1) dX6_isCovered_9 (by decide) ?_
  refine J.ixor C dX6_isCovered_10 ?_
  refine J.iand C dX6_isCovered_11 ?_
  refine J.if_neL (tgt := 19) C dX6_isCovered_12 (by decide) H (fun c_12 H => ?_) (fun c_12 H => ?_)
  · refine J.iconst C (0) dX6_isCovered_19 (by decide) ?_
    exact J.zretA C hr rfl (Nat.le_refl _) (Nat.le_refl _) dX6_isCovered_20 H
  · refine J.iconst C (1) dX6_isCovered_15 (by decide) ?_
    refine J.goto (tgt := 20) C dX6_isCovered_16 (by decide) ?_
    exact J.zretA C hr rfl (Nat.le_refl _) (Nat.le_refl _) dX6_isCovered_20 H
theorem nr_X6_isCovered (σ : DS) (a1 : Int32) (a2 : Int32) : narrow .boolean (.int (F_X6_isCovered σ a1 a2)) = .int (F_X6_isCovered σ a1 a2) := by
  unfold F_X6_isCovered
  try simp only [lt]
  repeat' split
  all_goals first | rfl | exact pk_nc _ | (first | rfl)

/-! X6_follows -/
abbrev mX6_follows : MD := (yX6_follows, cX6_follows, 2, some .boolean)
theorem mdX6_follows : MDv mX6_follows RX6 1 := ⟨kIm_X6_follows, kSe_X6_follows, kIn_X6, kCo_X6_follows, by decide +kernel⟩
def P_X6_follows (σ : DS) (a1 : Int32) : Res DS Int32 := (bd (P_X6_requireFormula σ a1) fun _ s2 => (bd (P_X2_citableTable s2 ) fun r10 s10 => (some (.inl (F_X6_isCovered s10 r10 a1), s10))))
set_option maxRecDepth 100000 in
theorem sp_X6_follows {l : Launch} (hl : l.stackTraces = false) {g : Gy} {ad : Nat → Nat} {rst : va_W} {σ : DS} (a1 : Int32) : SpR l mX6_follows 8 1 6 mI g [.ref (ad 0), .int a1] (dkh g ad rst) σ (P_X6_follows σ a1) := by
  refine SpR.of hl (by decide) (Nat.le_of_ble_eq_true rfl) (fun rr H p e s m args below meth c A C hr hx => ?_)
  unfold P_X6_follows at H
  refine J.lw (lv' := [(0, .ref (ad 0)), (1, .int a1)]) ⟨rfl, rfl, trivial⟩ ?_
  refine J.aload_n (i := 0) C dX6_follows_0 rfl rfl ?_
  refine J.iload_n (i := 1) C dX6_follows_1 rfl rfl ?_
  refine J.callVBV (hp := (dkh g ad rst)) C rfl (sp_X6_requireFormula hl _) rfl kMl_X6_60 mdX6_requireFormula ⟨(Nat.le_of_ble_eq_true rfl), (Nat.le_of_ble_eq_true rfl)⟩ dk_0 rfl rfl (Nat.le_of_ble_eq_true rfl) dX6_follows_2 ⟨(Nat.le_of_ble_eq_true rfl), (Nat.le_of_ble_eq_true rfl)⟩ hx (Nat.le_of_ble_eq_true rfl) (Nat.le_of_ble_eq_true rfl) H (fun _ s2 H => ?_)
  refine J.aload_n (i := 0) C dX6_follows_5 rfl rfl ?_
  refine J.aload_n (i := 0) C dX6_follows_6 rfl rfl ?_
  refine J.get C 0 1 dk_0 rfl (by decide) kFl_X6_21 inB_X6 rfl dX6_follows_7 ?_
  refine J.callVBI (hp := (dkh g ad rst)) C rfl (sp_X2_citableTable hl ) rfl kMl_X6_259 mdX2_citableTable ⟨(Nat.le_of_ble_eq_true rfl), (Nat.le_of_ble_eq_true rfl)⟩ dk_2 rfl rfl (Nat.le_of_ble_eq_true rfl) dX6_follows_10 ⟨(Nat.le_of_ble_eq_true rfl), (Nat.le_of_ble_eq_true rfl)⟩ hx (Nat.le_of_ble_eq_true rfl) (Nat.le_of_ble_eq_true rfl) H (fun r10 s10 H => ?_)
  refine J.iload_n (i := 1) C dX6_follows_13 rfl rfl ?_
  refine J.callVI C (sp_X6_isCovered hl _ _) rfl kMl_X6_262 mdX6_isCovered ⟨(Nat.le_of_ble_eq_true rfl), (Nat.le_of_ble_eq_true rfl)⟩ dk_0 rfl rfl (Nat.le_of_ble_eq_true rfl) dX6_follows_14 ⟨(Nat.le_of_ble_eq_true rfl), (Nat.le_of_ble_eq_true rfl)⟩ ?_
  exact J.zretL C hr (nr_X6_isCovered s10 r10 a1) (Nat.le_of_ble_eq_true rfl) (Nat.le_of_ble_eq_true rfl) dX6_follows_17 H

/-! X6_isSound -/
abbrev mX6_isSound : MD := (yX6_isSound, cX6_isSound, 2, some .boolean)
theorem mdX6_isSound : MDv mX6_isSound RX6 1 := ⟨kIm_X6_isSound, kSe_X6_isSound, kIn_X6, kCo_X6_isSound, by decide +kernel⟩
def P_X6_isSound (σ : DS) (a1 : Int32) : Res DS Int32 := (bd (P_X6_requireLine σ a1) fun _ s2 => (bd (P_X2_premiseTable s2 ) fun r10 s10 => (bd (P_X2_assumptionTable s10 a1) fun r18 s18 => (some (.inl (F_X6_isCovered s18 (r10 &&& r18) (F_X2_formula s18 a1)), s18)))))
set_option maxRecDepth 100000 in
theorem sp_X6_isSound {l : Launch} (hl : l.stackTraces = false) {g : Gy} {ad : Nat → Nat} {rst : va_W} {σ : DS} (a1 : Int32) : SpR l mX6_isSound 8 1 6 mI g [.ref (ad 0), .int a1] (dkh g ad rst) σ (P_X6_isSound σ a1) := by
  refine SpR.of hl (by decide) (Nat.le_of_ble_eq_true rfl) (fun rr H p e s m args below meth c A C hr hx => ?_)
  unfold P_X6_isSound at H
  refine J.lw (lv' := [(0, .ref (ad 0)), (1, .int a1)]) ⟨rfl, rfl, trivial⟩ ?_
  refine J.aload_n (i := 0) C dX6_isSound_0 rfl rfl ?_
  refine J.iload_n (i := 1) C dX6_isSound_1 rfl rfl ?_
  refine J.callVBV (hp := (dkh g ad rst)) C rfl (sp_X6_requireLine hl _) rfl kMl_X6_122 mdX6_requireLine ⟨(Nat.le_of_ble_eq_true rfl), (Nat.le_of_ble_eq_true rfl)⟩ dk_0 rfl rfl (Nat.le_of_ble_eq_true rfl) dX6_isSound_2 ⟨(Nat.le_of_ble_eq_true rfl), (Nat.le_of_ble_eq_true rfl)⟩ hx (Nat.le_of_ble_eq_true rfl) (Nat.le_of_ble_eq_true rfl) H (fun _ s2 H => ?_)
  refine J.aload_n (i := 0) C dX6_isSound_5 rfl rfl ?_
  refine J.aload_n (i := 0) C dX6_isSound_6 rfl rfl ?_
  refine J.get C 0 1 dk_0 rfl (by decide) kFl_X6_21 inB_X6 rfl dX6_isSound_7 ?_
  refine J.callVBI (hp := (dkh g ad rst)) C rfl (sp_X2_premiseTable hl ) rfl kMl_X6_265 mdX2_premiseTable ⟨(Nat.le_of_ble_eq_true rfl), (Nat.le_of_ble_eq_true rfl)⟩ dk_2 rfl rfl (Nat.le_of_ble_eq_true rfl) dX6_isSound_10 ⟨(Nat.le_of_ble_eq_true rfl), (Nat.le_of_ble_eq_true rfl)⟩ hx (Nat.le_of_ble_eq_true rfl) (Nat.le_of_ble_eq_true rfl) H (fun r10 s10 H => ?_)
  refine J.aload_n (i := 0) C dX6_isSound_13 rfl rfl ?_
  refine J.get C 0 1 dk_0 rfl (by decide) kFl_X6_21 inB_X6 rfl dX6_isSound_14 ?_
  refine J.iload_n (i := 1) C dX6_isSound_17 rfl rfl ?_
  refine J.callVBI (hp := (dkh g ad rst)) C rfl (sp_X2_assumptionTable hl _) rfl kMl_X6_268 mdX2_assumptionTable ⟨(Nat.le_of_ble_eq_true rfl), (Nat.le_of_ble_eq_true rfl)⟩ dk_2 rfl rfl (Nat.le_of_ble_eq_true rfl) dX6_isSound_18 ⟨(Nat.le_of_ble_eq_true rfl), (Nat.le_of_ble_eq_true rfl)⟩ hx (Nat.le_of_ble_eq_true rfl) (Nat.le_of_ble_eq_true rfl) H (fun r18 s18 H => ?_)
  refine J.iand C dX6_isSound_21 ?_
  refine J.aload_n (i := 0) C dX6_isSound_22 rfl rfl ?_
  refine J.get C 0 1 dk_0 rfl (by decide) kFl_X6_21 inB_X6 rfl dX6_isSound_23 ?_
  refine J.iload_n (i := 1) C dX6_isSound_26 rfl rfl ?_
  refine J.callVI C (sp_X2_formula hl _) rfl kMl_X6_128 mdX2_formula ⟨(Nat.le_of_ble_eq_true rfl), (Nat.le_of_ble_eq_true rfl)⟩ dk_2 rfl rfl (Nat.le_of_ble_eq_true rfl) dX6_isSound_27 ⟨(Nat.le_of_ble_eq_true rfl), (Nat.le_of_ble_eq_true rfl)⟩ ?_
  refine J.callVI C (sp_X6_isCovered hl _ _) rfl kMl_X6_262 mdX6_isCovered ⟨(Nat.le_of_ble_eq_true rfl), (Nat.le_of_ble_eq_true rfl)⟩ dk_0 rfl rfl (Nat.le_of_ble_eq_true rfl) dX6_isSound_30 ⟨(Nat.le_of_ble_eq_true rfl), (Nat.le_of_ble_eq_true rfl)⟩ ?_
  exact J.zretL C hr (nr_X6_isCovered s18 (r10 &&& r18) (F_X2_formula s18 a1)) (Nat.le_of_ble_eq_true rfl) (Nat.le_of_ble_eq_true rfl) dX6_isSound_33 H

/-! X6_share -/
abbrev mX6_share : MD := (yX6_share, cX6_share, 2, some .float)
theorem mdX6_share : MDv mX6_share RX6 1 := ⟨kIm_X6_share, kSe_X6_share, kIn_X6, kCo_X6_share, by decide +kernel⟩
def P_X6_share (σ : DS) (a1 : Int32) : Res DS UInt32 := (bd (P_X6_requireFormula σ a1) fun _ s2 => (gc ((FP.fdiv (FP.i2f (F_J6_bitCount_0f7a4 (F_X0_table s2 a1))) (1107296256 : UInt32)) &&& 0x7fffffff ≤ (0x7f800000 : UInt32)) (some (.inl (FP.fdiv (FP.i2f (F_J6_bitCount_0f7a4 (F_X0_table s2 a1))) (1107296256 : UInt32)), s2))))
set_option maxRecDepth 100000 in
theorem sp_X6_share {l : Launch} (hl : l.stackTraces = false) {g : Gy} {ad : Nat → Nat} {rst : va_W} {σ : DS} (a1 : Int32) : SpR l mX6_share 8 1 6 mF g [.ref (ad 0), .int a1] (dkh g ad rst) σ (P_X6_share σ a1) := by
  refine SpR.of hl (by decide) (Nat.le_of_ble_eq_true rfl) (fun rr H p e s m args below meth c A C hr hx => ?_)
  unfold P_X6_share at H
  refine J.lw (lv' := [(0, .ref (ad 0)), (1, .int a1)]) ⟨rfl, rfl, trivial⟩ ?_
  refine J.aload_n (i := 0) C dX6_share_0 rfl rfl ?_
  refine J.iload_n (i := 1) C dX6_share_1 rfl rfl ?_
  refine J.callVBV (hp := (dkh g ad rst)) C rfl (sp_X6_requireFormula hl _) rfl kMl_X6_60 mdX6_requireFormula ⟨(Nat.le_of_ble_eq_true rfl), (Nat.le_of_ble_eq_true rfl)⟩ dk_0 rfl rfl (Nat.le_of_ble_eq_true rfl) dX6_share_2 ⟨(Nat.le_of_ble_eq_true rfl), (Nat.le_of_ble_eq_true rfl)⟩ hx (Nat.le_of_ble_eq_true rfl) (Nat.le_of_ble_eq_true rfl) H (fun _ s2 H => ?_)
  refine J.aload_n (i := 0) C dX6_share_5 rfl rfl ?_
  refine J.get C 0 0 dk_0 rfl (by decide) kFl_X6_15 inB_X6 rfl dX6_share_6 ?_
  refine J.iload_n (i := 1) C dX6_share_9 rfl rfl ?_
  refine J.callVI C (sp_X0_table hl _) rfl kMl_X6_247 mdX0_table ⟨(Nat.le_of_ble_eq_true rfl), (Nat.le_of_ble_eq_true rfl)⟩ dk_1 rfl rfl (Nat.le_of_ble_eq_true rfl) dX6_share_10 ⟨(Nat.le_of_ble_eq_true rfl), (Nat.le_of_ble_eq_true rfl)⟩ ?_
  refine J.callSI C (sp_J6_bitCount_0f7a4 hl _) rfl kMl_X6_250 mdJ6_bitCount_0f7a4 ⟨(Nat.le_of_ble_eq_true rfl), (Nat.le_of_ble_eq_true rfl)⟩ rfl (Nat.le_of_ble_eq_true rfl) dX6_share_13 ⟨(Nat.le_of_ble_eq_true rfl), (Nat.le_of_ble_eq_true rfl)⟩ ?_
  refine J.i2f C dX6_share_16 ?_
  refine J.ldcfw C kCn_X6_271 dX6_share_17 ?_
  obtain ⟨hz_20, H⟩ := gc_some H
  refine J.fdiv C dX6_share_20 hz_20 ?_
  exact J.fretL C hr (Nat.le_of_ble_eq_true rfl) (Nat.le_of_ble_eq_true rfl) dX6_share_21 H

/-! X6_meanSize -/
abbrev mX6_meanSize : MD := (yX6_meanSize, cX6_meanSize, 1, some .double)
theorem mdX6_meanSize : MDv mX6_meanSize RX6 0 := ⟨kIm_X6_meanSize, kSe_X6_meanSize, kIn_X6, kCo_X6_meanSize, by decide +kernel⟩
def P_X6_meanSize (σ : DS)  : Res DS UInt64 := (if (σ.1 2) = 0 then (some (.inr "java/lang/ArithmeticException", σ)) else (bd (P_X2_sizeSum σ ) fun r25 s25 => (gc ((FP.ddiv (FP.i2d r25) (FP.i2d (s25.1 2))) &&& 0x7fffffffffffffff ≤ (0x7ff0000000000000 : UInt64)) (some (.inl (FP.ddiv (FP.i2d r25) (FP.i2d (s25.1 2))), s25)))))
set_option maxRecDepth 100000 in
theorem sp_X6_meanSize {l : Launch} (hl : l.stackTraces = false) {g : Gy} {ad : Nat → Nat} {rst : va_W} {σ : DS}  : SpR l mX6_meanSize 7 1 6 mD g [.ref (ad 0)] (dkh g ad rst) σ (P_X6_meanSize σ ) := by
  refine SpR.of hl (by decide) (Nat.le_of_ble_eq_true rfl) (fun rr H p e s m args below meth c A C hr hx => ?_)
  unfold P_X6_meanSize at H
  refine J.lw (lv' := [(0, .ref (ad 0))]) ⟨rfl, trivial⟩ ?_
  refine J.aload_n (i := 0) C dX6_meanSize_0 rfl rfl ?_
  refine J.get C 0 1 dk_0 rfl (by decide) kFl_X6_21 inB_X6 rfl dX6_meanSize_1 ?_
  refine J.getN C 2 13 dk_2 rfl (by decide) nest_X6_164 inB_X2 rfl dX6_meanSize_4 ?_
  refine J.if_neL (tgt := 21) C dX6_meanSize_7 (by decide) H (fun c_7 H => ?_) (fun c_7 H => ?_)
  · refine J.aload_n (i := 0) C dX6_meanSize_21 rfl rfl ?_
    refine J.get C 0 1 dk_0 rfl (by decide) kFl_X6_21 inB_X6 rfl dX6_meanSize_22 ?_
    refine J.callVBI (hp := (dkh g ad rst)) C rfl (sp_X2_sizeSum hl ) rfl kMl_X6_277 mdX2_sizeSum ⟨(Nat.le_of_ble_eq_true rfl), (Nat.le_of_ble_eq_true rfl)⟩ dk_2 rfl rfl (Nat.le_of_ble_eq_true rfl) dX6_meanSize_25 ⟨(Nat.le_of_ble_eq_true rfl), (Nat.le_of_ble_eq_true rfl)⟩ hx (Nat.le_of_ble_eq_true rfl) (Nat.le_of_ble_eq_true rfl) H (fun r25 s25 H => ?_)
    refine J.i2d C dX6_meanSize_28 ?_
    refine J.aload_n (i := 0) C dX6_meanSize_29 rfl rfl ?_
    refine J.get C 0 1 dk_0 rfl (by decide) kFl_X6_21 inB_X6 rfl dX6_meanSize_30 ?_
    refine J.getN C 2 13 dk_2 rfl (by decide) nest_X6_164 inB_X2 rfl dX6_meanSize_33 ?_
    refine J.i2d C dX6_meanSize_36 ?_
    obtain ⟨hz_37, H⟩ := gc_some H
    refine J.ddiv C dX6_meanSize_37 hz_37 ?_
    exact J.dretL C hr (Nat.le_of_ble_eq_true rfl) (Nat.le_of_ble_eq_true rfl) dX6_meanSize_38 H
  · exact J.throwSWL (hp := (dkh g ad rst)) C th_ArithmeticException_276 str_274 dX6_meanSize_10 dX6_meanSize_13 dX6_meanSize_14 dX6_meanSize_17 dX6_meanSize_20 hx ⟨(Nat.le_of_ble_eq_true rfl), (Nat.le_of_ble_eq_true rfl), (Nat.le_of_ble_eq_true rfl), (Nat.le_of_ble_eq_true rfl)⟩ (Nat.le_of_ble_eq_true rfl) (Nat.le_of_ble_eq_true rfl) H

