/-! X4_placeInQueue -/
def B_X4_placeInQueue_5 (k_5 : DS → Int32 → Int32 → Res DS Int32) (σ : DS) (l1 : Int32) (l2 : Int32) : Res DS Int32 := (if (σ.1 7) ≤ l2 then (some (.inl l2, σ)) else (if (rat 151 (σ.2 28) l2) = l1 then (some (.inl l2, σ)) else (lt (l2 + (1 : Int32)) fun z25 => (k_5 σ l1 z25))))
set_option maxRecDepth 100000 in
theorem bl_X4_placeInQueue_5 {l : Launch} (hl : l.stackTraces = false) {g : Gy} {ad : Nat → Nat} {rst : va_W} {p : Program} {e : Env} {s : State} {m : MethodId} {args : Array Value} {below : List Frame} {meth : Method} {c : Code} {A : Nat → Prop} (C : Cx p l s m args meth c g A yX4_placeInQueue.cls cX4_placeInQueue 3) (hr : meth.sig.returnType = some .int) (hx : ∀ x ∈ c.exceptionTable.toList, False) {rr : (Int32 ⊕ String) × DS} (k_5 : DS → Int32 → Int32 → Res DS Int32) (hk_5 : ∀ (σ : DS) (l1 : Int32) (l2 : Int32), k_5 σ l1 l2 = some rr → J p l e (rmOf 2 0 0) s m args below meth c g A 3 0 0 (QR mI g A (dkh g ad rst) rr below args s 0 0) 5 [(0, .ref (ad 4)), (1, .int l1), (2, .int l2)] [] ((dkh g ad rst) σ)) (σ : DS) (l1 : Int32) (l2 : Int32) (H : B_X4_placeInQueue_5 k_5 σ l1 l2 = some rr) : J p l e (rmOf 2 0 0) s m args below meth c g A 3 0 0 (QR mI g A (dkh g ad rst) rr below args s 0 0) 5 [(0, .ref (ad 4)), (1, .int l1), (2, .int l2)] [] ((dkh g ad rst) σ) := by
  unfold B_X4_placeInQueue_5 at H
  refine J.iload_n (i := 2) C dX4_placeInQueue_5 rfl rfl ?_
  refine J.aload_n (i := 0) C dX4_placeInQueue_6 rfl rfl ?_
  refine J.get C 4 6 dk_4 rfl (by decide) kFl_X4_42 inB_X4 rfl dX4_placeInQueue_7 ?_
  refine J.icmp_geL (tgt := 31) C dX4_placeInQueue_10 (by decide) H (fun c_10 H => ?_) (fun c_10 H => ?_)
  · refine J.iload_n (i := 2) C dX4_placeInQueue_31 rfl rfl ?_
    exact J.iretL C hr (Nat.le_of_ble_eq_true rfl) (Nat.le_of_ble_eq_true rfl) dX4_placeInQueue_32 H
  · refine J.aload_n (i := 0) C dX4_placeInQueue_13 rfl rfl ?_
    refine J.get C 4 4 dk_4 rfl (by decide) kFl_X4_23 inB_X4 rfl dX4_placeInQueue_14 ?_
    refine J.iload_n (i := 2) C dX4_placeInQueue_17 rfl rfl ?_
    refine J.callVI C (at_28 hl _) rfl kMl_X4_45 mdX3_at ⟨(Nat.le_of_ble_eq_true rfl), (Nat.le_of_ble_eq_true rfl)⟩ dk_62 rfl rfl (Nat.le_of_ble_eq_true rfl) dX4_placeInQueue_18 ⟨(Nat.le_of_ble_eq_true rfl), (Nat.le_of_ble_eq_true rfl)⟩ ?_
    refine J.iload_n (i := 1) C dX4_placeInQueue_21 rfl rfl ?_
    refine J.icmp_eqL (tgt := 31) C dX4_placeInQueue_22 (by decide) H (fun c_22 H => ?_) (fun c_22 H => ?_)
    · refine J.iload_n (i := 2) C dX4_placeInQueue_31 rfl rfl ?_
      exact J.iretL C hr (Nat.le_of_ble_eq_true rfl) (Nat.le_of_ble_eq_true rfl) dX4_placeInQueue_32 H
    · refine J.iincL C (l2 + (1 : Int32)) dX4_placeInQueue_25 rfl rfl (by decide) H (fun z25 H => ?_)
      refine J.goto (tgt := 5) C dX4_placeInQueue_28 (by decide) ?_
      refine J.widen (k := 0) (n := 0) (Nat.le_of_ble_eq_true rfl) (Nat.le_of_ble_eq_true rfl) ?_
      refine J.lw (lv' := [(0, .ref (ad 4)), (1, .int l1), (2, .int z25)]) ⟨rfl, rfl, rfl, trivial⟩ ?_
      exact hk_5 _ _ _  H
def L_X4_placeInQueue_5 : Nat → DS → Int32 → Int32 → Res DS Int32
  | 0, _, _, _ => none
  | n + 1, σ, l1, l2 => B_X4_placeInQueue_5 (L_X4_placeInQueue_5 n) σ l1 l2
set_option maxRecDepth 100000 in
theorem lp_X4_placeInQueue_5 {l : Launch} (hl : l.stackTraces = false) {g : Gy} {ad : Nat → Nat} {rst : va_W} {p : Program} {e : Env} {s : State} {m : MethodId} {args : Array Value} {below : List Frame} {meth : Method} {c : Code} {A : Nat → Prop} (C : Cx p l s m args meth c g A yX4_placeInQueue.cls cX4_placeInQueue 3) (hr : meth.sig.returnType = some .int) (hx : ∀ x ∈ c.exceptionTable.toList, False) {rr : (Int32 ⊕ String) × DS} : ∀ (n : Nat) (σ : DS) (l1 : Int32) (l2 : Int32), L_X4_placeInQueue_5 n σ l1 l2 = some rr → J p l e (rmOf 2 0 0) s m args below meth c g A 3 0 0 (QR mI g A (dkh g ad rst) rr below args s 0 0) 5 [(0, .ref (ad 4)), (1, .int l1), (2, .int l2)] [] ((dkh g ad rst) σ) := by
  intro n
  induction n with
  | zero => intro σ l1 l2 H; cases H
  | succ n ih => intro σ l1 l2 H; exact bl_X4_placeInQueue_5 hl C hr hx _ ih _ _ _ H
abbrev mX4_placeInQueue : MD := (yX4_placeInQueue, cX4_placeInQueue, 3, some .int)
theorem mdX4_placeInQueue : MDv mX4_placeInQueue RX4 1 := ⟨kIm_X4_placeInQueue, kSe_X4_placeInQueue, kIn_X4, kCo_X4_placeInQueue, by decide +kernel⟩
def P_X4_placeInQueue (σ : DS) (a1 : Int32) : Res DS Int32 := (lt (σ.1 6) fun z4 => (L_X4_placeInQueue_5 FU σ a1 z4))
set_option maxRecDepth 100000 in
theorem sp_X4_placeInQueue {l : Launch} (hl : l.stackTraces = false) {g : Gy} {ad : Nat → Nat} {rst : va_W} {σ : DS} (a1 : Int32) : SpR l mX4_placeInQueue 2 0 0 mI g [.ref (ad 4), .int a1] (dkh g ad rst) σ (P_X4_placeInQueue σ a1) := by
  refine SpR.of hl (by decide) (Nat.le_of_ble_eq_true rfl) (fun rr H p e s m args below meth c A C hr hx => ?_)
  unfold P_X4_placeInQueue at H
  refine J.lw (lv' := [(0, .ref (ad 4)), (1, .int a1)]) ⟨rfl, rfl, trivial⟩ ?_
  refine J.aload_n (i := 0) C dX4_placeInQueue_0 rfl rfl ?_
  refine J.get C 4 5 dk_4 rfl (by decide) kFl_X4_38 inB_X4 rfl dX4_placeInQueue_1 ?_
  refine J.istore_nL (i := 2) C dX4_placeInQueue_4 rfl (by decide) H (fun z4 H => ?_)
  refine J.widen (k := 0) (n := 0) (Nat.le_of_ble_eq_true rfl) (Nat.le_of_ble_eq_true rfl) ?_
  refine J.lw (lv' := [(0, .ref (ad 4)), (1, .int a1), (2, .int z4)]) ⟨rfl, rfl, rfl, trivial⟩ ?_
  exact lp_X4_placeInQueue_5 hl C hr hx  FU _ _ _  H

/-! X4_moveForward -/
def B_X4_moveForward_28 (k_28 : DS → Int32 → Int32 → Res DS Unit) (σ : DS) (l1 : Int32) (l3 : Int32) : Res DS Unit := (if l3 ≤ (σ.1 6) then (lt (sR σ 28 (rput 151 (σ.2 28) l3 l1)) fun s94 => (some (.inl (), s94))) else (if (rat 151 (σ.2 27) (rat 151 (σ.2 28) (l3 - (1 : Int32)))) ≤ (rat 151 (σ.2 27) l1) then (lt (sR σ 28 (rput 151 (σ.2 28) l3 l1)) fun s94 => (some (.inl (), s94))) else (lt (sR σ 28 (rput 151 (σ.2 28) l3 (rat 151 (σ.2 28) (l3 - (1 : Int32))))) fun s79 => (lt (l3 + (-1 : Int32)) fun z82 => (k_28 s79 l1 z82)))))
set_option maxRecDepth 100000 in
theorem bl_X4_moveForward_28 {l : Launch} (hl : l.stackTraces = false) {g : Gy} {ad : Nat → Nat} {rst : va_W} {p : Program} {e : Env} {s : State} {m : MethodId} {args : Array Value} {below : List Frame} {meth : Method} {c : Code} {A : Nat → Prop} (C : Cx p l s m args meth c g A yX4_moveForward.cls cX4_moveForward 4) (hr : meth.sig.returnType = none) (hx : ∀ x ∈ c.exceptionTable.toList, False) {rr : (Unit ⊕ String) × DS} (k_28 : DS → Int32 → Int32 → Res DS Unit) (hk_28 : ∀ (σ : DS) (l1 : Int32) (l3 : Int32), k_28 σ l1 l3 = some rr → J p l e (rmOf 3 0 0) s m args below meth c g A 4 0 0 (QR mV g A (dkh g ad rst) rr below args s 0 0) 28 [(0, .ref (ad 4)), (1, .int l1), (3, .int l3)] [] ((dkh g ad rst) σ)) (σ : DS) (l1 : Int32) (l3 : Int32) (H : B_X4_moveForward_28 k_28 σ l1 l3 = some rr) : J p l e (rmOf 3 0 0) s m args below meth c g A 4 0 0 (QR mV g A (dkh g ad rst) rr below args s 0 0) 28 [(0, .ref (ad 4)), (1, .int l1), (3, .int l3)] [] ((dkh g ad rst) σ) := by
  unfold B_X4_moveForward_28 at H
  refine J.iload_n (i := 3) C dX4_moveForward_28 rfl rfl ?_
  refine J.aload_n (i := 0) C dX4_moveForward_29 rfl rfl ?_
  refine J.get C 4 5 dk_4 rfl (by decide) kFl_X4_38 inB_X4 rfl dX4_moveForward_30 ?_
  refine J.icmp_leL (tgt := 88) C dX4_moveForward_33 (by decide) H (fun c_33 H => ?_) (fun c_33 H => ?_)
  · refine J.aload_n (i := 0) C dX4_moveForward_88 rfl rfl ?_
    refine J.get C 4 4 dk_4 rfl (by decide) kFl_X4_23 inB_X4 rfl dX4_moveForward_89 ?_
    refine J.iload_n (i := 3) C dX4_moveForward_92 rfl rfl ?_
    refine J.iload_n (i := 1) C dX4_moveForward_93 rfl rfl ?_
    refine J.callVVL (hp := (dkh g ad rst)) C (put_28 hl _ _) rfl kMl_X4_75 mdX3_put ⟨(Nat.le_of_ble_eq_true rfl), (Nat.le_of_ble_eq_true rfl)⟩ dk_62 rfl rfl (Nat.le_of_ble_eq_true rfl) dX4_moveForward_94 ⟨(Nat.le_of_ble_eq_true rfl), (Nat.le_of_ble_eq_true rfl)⟩ H (fun s94 H => ?_)
    exact J.vretL C hr (Nat.le_of_ble_eq_true rfl) (Nat.le_of_ble_eq_true rfl) dX4_moveForward_97 H
  · refine J.aload_n (i := 0) C dX4_moveForward_36 rfl rfl ?_
    refine J.get C 4 3 dk_4 rfl (by decide) kFl_X4_20 inB_X4 rfl dX4_moveForward_37 ?_
    refine J.aload_n (i := 0) C dX4_moveForward_40 rfl rfl ?_
    refine J.get C 4 4 dk_4 rfl (by decide) kFl_X4_23 inB_X4 rfl dX4_moveForward_41 ?_
    refine J.iload_n (i := 3) C dX4_moveForward_44 rfl rfl ?_
    refine J.iconst C (1) dX4_moveForward_45 (by decide) ?_
    refine J.isub C dX4_moveForward_46 ?_
    refine J.callVI C (at_28 hl _) rfl kMl_X4_45 mdX3_at ⟨(Nat.le_of_ble_eq_true rfl), (Nat.le_of_ble_eq_true rfl)⟩ dk_62 rfl rfl (Nat.le_of_ble_eq_true rfl) dX4_moveForward_47 ⟨(Nat.le_of_ble_eq_true rfl), (Nat.le_of_ble_eq_true rfl)⟩ ?_
    refine J.callVI C (at_27 hl _) rfl kMl_X4_45 mdX3_at ⟨(Nat.le_of_ble_eq_true rfl), (Nat.le_of_ble_eq_true rfl)⟩ dk_60 rfl rfl (Nat.le_of_ble_eq_true rfl) dX4_moveForward_50 ⟨(Nat.le_of_ble_eq_true rfl), (Nat.le_of_ble_eq_true rfl)⟩ ?_
    refine J.aload_n (i := 0) C dX4_moveForward_53 rfl rfl ?_
    refine J.get C 4 3 dk_4 rfl (by decide) kFl_X4_20 inB_X4 rfl dX4_moveForward_54 ?_
    refine J.iload_n (i := 1) C dX4_moveForward_57 rfl rfl ?_
    refine J.callVI C (at_27 hl _) rfl kMl_X4_45 mdX3_at ⟨(Nat.le_of_ble_eq_true rfl), (Nat.le_of_ble_eq_true rfl)⟩ dk_60 rfl rfl (Nat.le_of_ble_eq_true rfl) dX4_moveForward_58 ⟨(Nat.le_of_ble_eq_true rfl), (Nat.le_of_ble_eq_true rfl)⟩ ?_
    refine J.icmp_leL (tgt := 88) C dX4_moveForward_61 (by decide) H (fun c_61 H => ?_) (fun c_61 H => ?_)
    · refine J.aload_n (i := 0) C dX4_moveForward_88 rfl rfl ?_
      refine J.get C 4 4 dk_4 rfl (by decide) kFl_X4_23 inB_X4 rfl dX4_moveForward_89 ?_
      refine J.iload_n (i := 3) C dX4_moveForward_92 rfl rfl ?_
      refine J.iload_n (i := 1) C dX4_moveForward_93 rfl rfl ?_
      refine J.callVVL (hp := (dkh g ad rst)) C (put_28 hl _ _) rfl kMl_X4_75 mdX3_put ⟨(Nat.le_of_ble_eq_true rfl), (Nat.le_of_ble_eq_true rfl)⟩ dk_62 rfl rfl (Nat.le_of_ble_eq_true rfl) dX4_moveForward_94 ⟨(Nat.le_of_ble_eq_true rfl), (Nat.le_of_ble_eq_true rfl)⟩ H (fun s94 H => ?_)
      exact J.vretL C hr (Nat.le_of_ble_eq_true rfl) (Nat.le_of_ble_eq_true rfl) dX4_moveForward_97 H
    · refine J.aload_n (i := 0) C dX4_moveForward_64 rfl rfl ?_
      refine J.get C 4 4 dk_4 rfl (by decide) kFl_X4_23 inB_X4 rfl dX4_moveForward_65 ?_
      refine J.iload_n (i := 3) C dX4_moveForward_68 rfl rfl ?_
      refine J.aload_n (i := 0) C dX4_moveForward_69 rfl rfl ?_
      refine J.get C 4 4 dk_4 rfl (by decide) kFl_X4_23 inB_X4 rfl dX4_moveForward_70 ?_
      refine J.iload_n (i := 3) C dX4_moveForward_73 rfl rfl ?_
      refine J.iconst C (1) dX4_moveForward_74 (by decide) ?_
      refine J.isub C dX4_moveForward_75 ?_
      refine J.callVI C (at_28 hl _) rfl kMl_X4_45 mdX3_at ⟨(Nat.le_of_ble_eq_true rfl), (Nat.le_of_ble_eq_true rfl)⟩ dk_62 rfl rfl (Nat.le_of_ble_eq_true rfl) dX4_moveForward_76 ⟨(Nat.le_of_ble_eq_true rfl), (Nat.le_of_ble_eq_true rfl)⟩ ?_
      refine J.callVVL (hp := (dkh g ad rst)) C (put_28 hl _ _) rfl kMl_X4_75 mdX3_put ⟨(Nat.le_of_ble_eq_true rfl), (Nat.le_of_ble_eq_true rfl)⟩ dk_62 rfl rfl (Nat.le_of_ble_eq_true rfl) dX4_moveForward_79 ⟨(Nat.le_of_ble_eq_true rfl), (Nat.le_of_ble_eq_true rfl)⟩ H (fun s79 H => ?_)
      refine J.iincL C (l3 + (-1 : Int32)) dX4_moveForward_82 rfl rfl (by decide) H (fun z82 H => ?_)
      refine J.goto (tgt := 28) C dX4_moveForward_85 (by decide) ?_
      refine J.widen (k := 0) (n := 0) (Nat.le_of_ble_eq_true rfl) (Nat.le_of_ble_eq_true rfl) ?_
      refine J.lw (lv' := [(0, .ref (ad 4)), (1, .int l1), (3, .int z82)]) ⟨rfl, rfl, rfl, trivial⟩ ?_
      exact hk_28 _ _ _  H
def L_X4_moveForward_28 : Nat → DS → Int32 → Int32 → Res DS Unit
  | 0, _, _, _ => none
  | n + 1, σ, l1, l3 => B_X4_moveForward_28 (L_X4_moveForward_28 n) σ l1 l3
set_option maxRecDepth 100000 in
theorem lp_X4_moveForward_28 {l : Launch} (hl : l.stackTraces = false) {g : Gy} {ad : Nat → Nat} {rst : va_W} {p : Program} {e : Env} {s : State} {m : MethodId} {args : Array Value} {below : List Frame} {meth : Method} {c : Code} {A : Nat → Prop} (C : Cx p l s m args meth c g A yX4_moveForward.cls cX4_moveForward 4) (hr : meth.sig.returnType = none) (hx : ∀ x ∈ c.exceptionTable.toList, False) {rr : (Unit ⊕ String) × DS} : ∀ (n : Nat) (σ : DS) (l1 : Int32) (l3 : Int32), L_X4_moveForward_28 n σ l1 l3 = some rr → J p l e (rmOf 3 0 0) s m args below meth c g A 4 0 0 (QR mV g A (dkh g ad rst) rr below args s 0 0) 28 [(0, .ref (ad 4)), (1, .int l1), (3, .int l3)] [] ((dkh g ad rst) σ) := by
  intro n
  induction n with
  | zero => intro σ l1 l3 H; cases H
  | succ n ih => intro σ l1 l3 H; exact bl_X4_moveForward_28 hl C hr hx _ ih _ _ _ H
abbrev mX4_moveForward : MD := (yX4_moveForward, cX4_moveForward, 4, none)
theorem mdX4_moveForward : MDv mX4_moveForward RX4 2 := ⟨kIm_X4_moveForward, kSe_X4_moveForward, kIn_X4, kCo_X4_moveForward, by decide +kernel⟩
def P_X4_moveForward (σ : DS) (a1 : Int32) (a2 : Int32) : Res DS Unit := (lt (σ.1 7) fun z4 => (if a2 = 0 then (bd (P_X4_placeInQueue σ a1) fun r24 s24 => (lt r24 fun z27 => (L_X4_moveForward_28 FU s24 a1 z27))) else (lt (sI σ 7 ((σ.1 7) + (1 : Int32))) fun s16 => (L_X4_moveForward_28 FU s16 a1 z4))))
set_option maxRecDepth 100000 in
theorem sp_X4_moveForward {l : Launch} (hl : l.stackTraces = false) {g : Gy} {ad : Nat → Nat} {rst : va_W} {σ : DS} (a1 : Int32) (a2 : Int32) : SpR l mX4_moveForward 3 0 0 mV g [.ref (ad 4), .int a1, .int a2] (dkh g ad rst) σ (P_X4_moveForward σ a1 a2) := by
  refine SpR.of hl (by decide) (Nat.le_of_ble_eq_true rfl) (fun rr H p e s m args below meth c A C hr hx => ?_)
  unfold P_X4_moveForward at H
  refine J.lw (lv' := [(0, .ref (ad 4)), (1, .int a1), (2, .int a2)]) ⟨rfl, rfl, rfl, trivial⟩ ?_
  refine J.aload_n (i := 0) C dX4_moveForward_0 rfl rfl ?_
  refine J.get C 4 6 dk_4 rfl (by decide) kFl_X4_42 inB_X4 rfl dX4_moveForward_1 ?_
  refine J.istore_nL (i := 3) C dX4_moveForward_4 rfl (by decide) H (fun z4 H => ?_)
  refine J.iload_n (i := 2) C dX4_moveForward_5 rfl rfl ?_
  refine J.if_eqL (tgt := 22) C dX4_moveForward_6 (by decide) H (fun c_6 H => ?_) (fun c_6 H => ?_)
  · refine J.aload_n (i := 0) C dX4_moveForward_22 rfl rfl ?_
    refine J.iload_n (i := 1) C dX4_moveForward_23 rfl rfl ?_
    refine J.callVBI (hp := (dkh g ad rst)) C rfl (sp_X4_placeInQueue hl _) rfl kMl_X4_120 mdX4_placeInQueue ⟨(Nat.le_of_ble_eq_true rfl), (Nat.le_of_ble_eq_true rfl)⟩ dk_4 rfl rfl (Nat.le_of_ble_eq_true rfl) dX4_moveForward_24 ⟨(Nat.le_of_ble_eq_true rfl), (Nat.le_of_ble_eq_true rfl)⟩ hx (Nat.le_of_ble_eq_true rfl) (Nat.le_of_ble_eq_true rfl) H (fun r24 s24 H => ?_)
    refine J.istore_nL (i := 3) C dX4_moveForward_27 rfl (by decide) H (fun z27 H => ?_)
    refine J.widen (k := 0) (n := 0) (Nat.le_of_ble_eq_true rfl) (Nat.le_of_ble_eq_true rfl) ?_
    refine J.lw (lv' := [(0, .ref (ad 4)), (1, .int a1), (3, .int z27)]) ⟨rfl, rfl, rfl, trivial⟩ ?_
    exact lp_X4_moveForward_28 hl C hr hx  FU _ _ _  H
  · refine J.aload_n (i := 0) C dX4_moveForward_9 rfl rfl ?_
    refine J.dup C dX4_moveForward_10 rfl ?_
    refine J.get C 4 6 dk_4 rfl (by decide) kFl_X4_42 inB_X4 rfl dX4_moveForward_11 ?_
    refine J.iconst C (1) dX4_moveForward_14 (by decide) ?_
    refine J.iadd C dX4_moveForward_15 ?_
    refine J.putL (hp := (dkh g ad rst)) C 4 6 dk_4 rfl (by decide) kFl_X4_42 inB_X4 tyX4 tyX4_ok nmX4 rfl rfl rfl rfl (Nat.le_of_ble_eq_true rfl) dX4_moveForward_16 (dkI_7 _) H (fun s16 H => ?_)
    refine J.goto (tgt := 28) C dX4_moveForward_19 (by decide) ?_
    refine J.widen (k := 0) (n := 0) (Nat.le_of_ble_eq_true rfl) (Nat.le_of_ble_eq_true rfl) ?_
    refine J.lw (lv' := [(0, .ref (ad 4)), (1, .int a1), (3, .int z4)]) ⟨rfl, rfl, rfl, trivial⟩ ?_
    exact lp_X4_moveForward_28 hl C hr hx  FU _ _ _  H

/-! X4_offer -/
def B_X4_offer_24 (σ : DS) (l1 : Int32) (l2 : Int32) (l3 : Int32) : Res DS Unit := (lt (sR σ 27 (rput 151 (σ.2 27) l1 l2)) fun s30 => (lt (sI s30 10 ((s30.1 10) + (1 : Int32))) fun s40 => (if (s40.1 8) = 0 then (some (.inl (), s40)) else (if l3 = (-1 : Int32) then (bd (P_X4_moveForward s40 l1 (1 : Int32)) fun _ s62 => (some (.inl (), s62))) else (bd (P_X4_moveForward s40 l1 (0 : Int32)) fun _ s62 => (some (.inl (), s62)))))))
set_option maxRecDepth 100000 in
theorem bl_X4_offer_24 {l : Launch} (hl : l.stackTraces = false) {g : Gy} {ad : Nat → Nat} {rst : va_W} {p : Program} {e : Env} {s : State} {m : MethodId} {args : Array Value} {below : List Frame} {meth : Method} {c : Code} {A : Nat → Prop} (C : Cx p l s m args meth c g A yX4_offer.cls cX4_offer 4) (hr : meth.sig.returnType = none) (hx : ∀ x ∈ c.exceptionTable.toList, False) {rr : (Unit ⊕ String) × DS} (σ : DS) (l1 : Int32) (l2 : Int32) (l3 : Int32) (H : B_X4_offer_24 σ l1 l2 l3 = some rr) : J p l e (rmOf 4 0 0) s m args below meth c g A 4 0 0 (QR mV g A (dkh g ad rst) rr below args s 0 0) 24 [(0, .ref (ad 4)), (1, .int l1), (2, .int l2), (3, .int l3)] [] ((dkh g ad rst) σ) := by
  unfold B_X4_offer_24 at H
  refine J.aload_n (i := 0) C dX4_offer_24 rfl rfl ?_
  refine J.get C 4 3 dk_4 rfl (by decide) kFl_X4_20 inB_X4 rfl dX4_offer_25 ?_
  refine J.iload_n (i := 1) C dX4_offer_28 rfl rfl ?_
  refine J.iload_n (i := 2) C dX4_offer_29 rfl rfl ?_
  refine J.callVVL (hp := (dkh g ad rst)) C (put_27 hl _ _) rfl kMl_X4_75 mdX3_put ⟨(Nat.le_of_ble_eq_true rfl), (Nat.le_of_ble_eq_true rfl)⟩ dk_60 rfl rfl (Nat.le_of_ble_eq_true rfl) dX4_offer_30 ⟨(Nat.le_of_ble_eq_true rfl), (Nat.le_of_ble_eq_true rfl)⟩ H (fun s30 H => ?_)
  refine J.aload_n (i := 0) C dX4_offer_33 rfl rfl ?_
  refine J.dup C dX4_offer_34 rfl ?_
  refine J.get C 4 9 dk_4 rfl (by decide) kFl_X4_56 inB_X4 rfl dX4_offer_35 ?_
  refine J.iconst C (1) dX4_offer_38 (by decide) ?_
  refine J.iadd C dX4_offer_39 ?_
  refine J.putL (hp := (dkh g ad rst)) C 4 9 dk_4 rfl (by decide) kFl_X4_56 inB_X4 tyX4 tyX4_ok nmX4 rfl rfl rfl rfl (Nat.le_of_ble_eq_true rfl) dX4_offer_40 (dkI_10 _) H (fun s40 H => ?_)
  refine J.aload_n (i := 0) C dX4_offer_43 rfl rfl ?_
  refine J.get C 4 7 dk_4 rfl (by decide) kFl_X4_68 inB_X4 rfl dX4_offer_44 ?_
  refine J.if_eqL (tgt := 65) C dX4_offer_47 (by decide) H (fun c_47 H => ?_) (fun c_47 H => ?_)
  · exact J.vretL C hr (Nat.le_of_ble_eq_true rfl) (Nat.le_of_ble_eq_true rfl) dX4_offer_65 H
  · refine J.aload_n (i := 0) C dX4_offer_50 rfl rfl ?_
    refine J.iload_n (i := 1) C dX4_offer_51 rfl rfl ?_
    refine J.iload_n (i := 3) C dX4_offer_52 rfl rfl ?_
    refine J.iconst C (-1) dX4_offer_53 (by decide) ?_
    refine J.icmp_neL (tgt := 61) C dX4_offer_54 (by decide) H (fun c_54 H => ?_) (fun c_54 H => ?_)
    · refine J.iconst C (0) dX4_offer_61 (by decide) ?_
      refine J.callVBV (hp := (dkh g ad rst)) C rfl (sp_X4_moveForward hl _ _) rfl kMl_X4_117 mdX4_moveForward ⟨(Nat.le_of_ble_eq_true rfl), (Nat.le_of_ble_eq_true rfl)⟩ dk_4 rfl rfl (Nat.le_of_ble_eq_true rfl) dX4_offer_62 ⟨(Nat.le_of_ble_eq_true rfl), (Nat.le_of_ble_eq_true rfl)⟩ hx (Nat.le_of_ble_eq_true rfl) (Nat.le_of_ble_eq_true rfl) H (fun _ s62 H => ?_)
      exact J.vretL C hr (Nat.le_of_ble_eq_true rfl) (Nat.le_of_ble_eq_true rfl) dX4_offer_65 H
    · refine J.iconst C (1) dX4_offer_57 (by decide) ?_
      refine J.goto (tgt := 62) C dX4_offer_58 (by decide) ?_
      refine J.callVBV (hp := (dkh g ad rst)) C rfl (sp_X4_moveForward hl _ _) rfl kMl_X4_117 mdX4_moveForward ⟨(Nat.le_of_ble_eq_true rfl), (Nat.le_of_ble_eq_true rfl)⟩ dk_4 rfl rfl (Nat.le_of_ble_eq_true rfl) dX4_offer_62 ⟨(Nat.le_of_ble_eq_true rfl), (Nat.le_of_ble_eq_true rfl)⟩ hx (Nat.le_of_ble_eq_true rfl) (Nat.le_of_ble_eq_true rfl) H (fun _ s62 H => ?_)
      exact J.vretL C hr (Nat.le_of_ble_eq_true rfl) (Nat.le_of_ble_eq_true rfl) dX4_offer_65 H
abbrev mX4_offer : MD := (yX4_offer, cX4_offer, 4, none)
theorem mdX4_offer : MDv mX4_offer RX4 2 := ⟨kIm_X4_offer, kSe_X4_offer, kIn_X4, kCo_X4_offer, by decide +kernel⟩
def P_X4_offer (σ : DS) (a1 : Int32) (a2 : Int32) : Res DS Unit := (lt (rat 151 (σ.2 27) a1) fun z8 => (if a2 = (-1 : Int32) then (some (.inl (), σ)) else (if z8 = (-1 : Int32) then (B_X4_offer_24 σ a1 a2 z8) else (if z8 ≤ a2 then (some (.inl (), σ)) else (B_X4_offer_24 σ a1 a2 z8)))))
set_option maxRecDepth 100000 in
theorem sp_X4_offer {l : Launch} (hl : l.stackTraces = false) {g : Gy} {ad : Nat → Nat} {rst : va_W} {σ : DS} (a1 : Int32) (a2 : Int32) : SpR l mX4_offer 4 0 0 mV g [.ref (ad 4), .int a1, .int a2] (dkh g ad rst) σ (P_X4_offer σ a1 a2) := by
  refine SpR.of hl (by decide) (Nat.le_of_ble_eq_true rfl) (fun rr H p e s m args below meth c A C hr hx => ?_)
  unfold P_X4_offer at H
  refine J.lw (lv' := [(0, .ref (ad 4)), (1, .int a1), (2, .int a2)]) ⟨rfl, rfl, rfl, trivial⟩ ?_
  refine J.aload_n (i := 0) C dX4_offer_0 rfl rfl ?_
  refine J.get C 4 3 dk_4 rfl (by decide) kFl_X4_20 inB_X4 rfl dX4_offer_1 ?_
  refine J.iload_n (i := 1) C dX4_offer_4 rfl rfl ?_
  refine J.callVI C (at_27 hl _) rfl kMl_X4_45 mdX3_at ⟨(Nat.le_of_ble_eq_true rfl), (Nat.le_of_ble_eq_true rfl)⟩ dk_60 rfl rfl (Nat.le_of_ble_eq_true rfl) dX4_offer_5 ⟨(Nat.le_of_ble_eq_true rfl), (Nat.le_of_ble_eq_true rfl)⟩ ?_
  refine J.istore_nL (i := 3) C dX4_offer_8 rfl (by decide) H (fun z8 H => ?_)
  refine J.iload_n (i := 2) C dX4_offer_9 rfl rfl ?_
  refine J.iconst C (-1) dX4_offer_10 (by decide) ?_
  refine J.icmp_eqL (tgt := 65) C dX4_offer_11 (by decide) H (fun c_11 H => ?_) (fun c_11 H => ?_)
  · exact J.vretL C hr (Nat.le_of_ble_eq_true rfl) (Nat.le_of_ble_eq_true rfl) dX4_offer_65 H
  · refine J.iload_n (i := 3) C dX4_offer_14 rfl rfl ?_
    refine J.iconst C (-1) dX4_offer_15 (by decide) ?_
    refine J.icmp_eqL (tgt := 24) C dX4_offer_16 (by decide) H (fun c_16 H => ?_) (fun c_16 H => ?_)
    · refine J.widen (k := 0) (n := 0) (Nat.le_of_ble_eq_true rfl) (Nat.le_of_ble_eq_true rfl) ?_
      refine J.lw (lv' := [(0, .ref (ad 4)), (1, .int a1), (2, .int a2), (3, .int z8)]) ⟨rfl, rfl, rfl, rfl, trivial⟩ ?_
      exact bl_X4_offer_24 hl C hr hx  _ _ _ _  H
    · refine J.iload_n (i := 2) C dX4_offer_19 rfl rfl ?_
      refine J.iload_n (i := 3) C dX4_offer_20 rfl rfl ?_
      refine J.icmp_geL (tgt := 65) C dX4_offer_21 (by decide) H (fun c_21 H => ?_) (fun c_21 H => ?_)
      · exact J.vretL C hr (Nat.le_of_ble_eq_true rfl) (Nat.le_of_ble_eq_true rfl) dX4_offer_65 H
      · refine J.widen (k := 0) (n := 0) (Nat.le_of_ble_eq_true rfl) (Nat.le_of_ble_eq_true rfl) ?_
        refine J.lw (lv' := [(0, .ref (ad 4)), (1, .int a1), (2, .int a2), (3, .int z8)]) ⟨rfl, rfl, rfl, rfl, trivial⟩ ?_
        exact bl_X4_offer_24 hl C hr hx  _ _ _ _  H

/-! X4_begin -/
def B_X4_begin_160 (k_160 : DS → Int32 → Res DS Unit) (σ : DS) (l4 : Int32) : Res DS Unit := (if l4 < 0 then (some (.inl (), σ)) else (if (rat 151 (σ.2 26) l4) = (1 : Int32) then (lt (sR σ 26 (rput 151 (σ.2 26) (F_X0_left σ l4) (1 : Int32))) fun s192 => (lt (sR s192 26 (rput 151 (s192.2 26) (F_X0_right s192 l4) (1 : Int32))) fun s209 => (lt (l4 + (-1 : Int32)) fun z212 => (k_160 s209 z212)))) else (lt (l4 + (-1 : Int32)) fun z212 => (k_160 σ z212))))
set_option maxRecDepth 100000 in
theorem bl_X4_begin_160 {l : Launch} (hl : l.stackTraces = false) {g : Gy} {ad : Nat → Nat} {rst : va_W} {p : Program} {e : Env} {s : State} {m : MethodId} {args : Array Value} {below : List Frame} {meth : Method} {c : Code} {A : Nat → Prop} (C : Cx p l s m args meth c g A yX4_begin.cls cX4_begin 5) (hr : meth.sig.returnType = none) (hx : ∀ x ∈ c.exceptionTable.toList, False) {rr : (Unit ⊕ String) × DS} (k_160 : DS → Int32 → Res DS Unit) (hk_160 : ∀ (σ : DS) (l4 : Int32), k_160 σ l4 = some rr → J p l e (rmOf 5 0 0) s m args below meth c g A 5 0 0 (QR mV g A (dkh g ad rst) rr below args s 0 0) 160 [(0, .ref (ad 4)), (4, .int l4)] [] ((dkh g ad rst) σ)) (σ : DS) (l4 : Int32) (H : B_X4_begin_160 k_160 σ l4 = some rr) : J p l e (rmOf 5 0 0) s m args below meth c g A 5 0 0 (QR mV g A (dkh g ad rst) rr below args s 0 0) 160 [(0, .ref (ad 4)), (4, .int l4)] [] ((dkh g ad rst) σ) := by
  unfold B_X4_begin_160 at H
  refine J.iload C dX4_begin_160 rfl ?_
  refine J.if_ltL (tgt := 218) C dX4_begin_162 (by decide) H (fun c_162 H => ?_) (fun c_162 H => ?_)
  · exact J.vretL C hr (Nat.le_of_ble_eq_true rfl) (Nat.le_of_ble_eq_true rfl) dX4_begin_218 H
  · refine J.aload_n (i := 0) C dX4_begin_165 rfl rfl ?_
    refine J.get C 4 2 dk_4 rfl (by decide) kFl_X4_16 inB_X4 rfl dX4_begin_166 ?_
    refine J.iload C dX4_begin_169 rfl ?_
    refine J.callVI C (at_26 hl _) rfl kMl_X4_45 mdX3_at ⟨(Nat.le_of_ble_eq_true rfl), (Nat.le_of_ble_eq_true rfl)⟩ dk_58 rfl rfl (Nat.le_of_ble_eq_true rfl) dX4_begin_171 ⟨(Nat.le_of_ble_eq_true rfl), (Nat.le_of_ble_eq_true rfl)⟩ ?_
    refine J.iconst C (1) dX4_begin_174 (by decide) ?_
    refine J.icmp_neL (tgt := 212) C dX4_begin_175 (by decide) H (fun c_175 H => ?_) (fun c_175 H => ?_)
    · refine J.iincL C (l4 + (-1 : Int32)) dX4_begin_212 rfl rfl (by decide) H (fun z212 H => ?_)
      refine J.goto (tgt := 160) C dX4_begin_215 (by decide) ?_
      refine J.widen (k := 0) (n := 0) (Nat.le_of_ble_eq_true rfl) (Nat.le_of_ble_eq_true rfl) ?_
      refine J.lw (lv' := [(0, .ref (ad 4)), (4, .int z212)]) ⟨rfl, rfl, trivial⟩ ?_
      exact hk_160 _ _  H
    · refine J.aload_n (i := 0) C dX4_begin_178 rfl rfl ?_
      refine J.get C 4 2 dk_4 rfl (by decide) kFl_X4_16 inB_X4 rfl dX4_begin_179 ?_
      refine J.aload_n (i := 0) C dX4_begin_182 rfl rfl ?_
      refine J.get C 4 0 dk_4 rfl (by decide) kFl_X4_26 inB_X4 rfl dX4_begin_183 ?_
      refine J.iload C dX4_begin_186 rfl ?_
      refine J.callVI C (sp_X0_left hl _) rfl kMl_X4_97 mdX0_left ⟨(Nat.le_of_ble_eq_true rfl), (Nat.le_of_ble_eq_true rfl)⟩ dk_1 rfl rfl (Nat.le_of_ble_eq_true rfl) dX4_begin_188 ⟨(Nat.le_of_ble_eq_true rfl), (Nat.le_of_ble_eq_true rfl)⟩ ?_
      refine J.iconst C (1) dX4_begin_191 (by decide) ?_
      refine J.callVVL (hp := (dkh g ad rst)) C (put_26 hl _ _) rfl kMl_X4_75 mdX3_put ⟨(Nat.le_of_ble_eq_true rfl), (Nat.le_of_ble_eq_true rfl)⟩ dk_58 rfl rfl (Nat.le_of_ble_eq_true rfl) dX4_begin_192 ⟨(Nat.le_of_ble_eq_true rfl), (Nat.le_of_ble_eq_true rfl)⟩ H (fun s192 H => ?_)
      refine J.aload_n (i := 0) C dX4_begin_195 rfl rfl ?_
      refine J.get C 4 2 dk_4 rfl (by decide) kFl_X4_16 inB_X4 rfl dX4_begin_196 ?_
      refine J.aload_n (i := 0) C dX4_begin_199 rfl rfl ?_
      refine J.get C 4 0 dk_4 rfl (by decide) kFl_X4_26 inB_X4 rfl dX4_begin_200 ?_
      refine J.iload C dX4_begin_203 rfl ?_
      refine J.callVI C (sp_X0_right hl _) rfl kMl_X4_100 mdX0_right ⟨(Nat.le_of_ble_eq_true rfl), (Nat.le_of_ble_eq_true rfl)⟩ dk_1 rfl rfl (Nat.le_of_ble_eq_true rfl) dX4_begin_205 ⟨(Nat.le_of_ble_eq_true rfl), (Nat.le_of_ble_eq_true rfl)⟩ ?_
      refine J.iconst C (1) dX4_begin_208 (by decide) ?_
      refine J.callVVL (hp := (dkh g ad rst)) C (put_26 hl _ _) rfl kMl_X4_75 mdX3_put ⟨(Nat.le_of_ble_eq_true rfl), (Nat.le_of_ble_eq_true rfl)⟩ dk_58 rfl rfl (Nat.le_of_ble_eq_true rfl) dX4_begin_209 ⟨(Nat.le_of_ble_eq_true rfl), (Nat.le_of_ble_eq_true rfl)⟩ H (fun s209 H => ?_)
      refine J.iincL C (l4 + (-1 : Int32)) dX4_begin_212 rfl rfl (by decide) H (fun z212 H => ?_)
      refine J.goto (tgt := 160) C dX4_begin_215 (by decide) ?_
      refine J.widen (k := 0) (n := 0) (Nat.le_of_ble_eq_true rfl) (Nat.le_of_ble_eq_true rfl) ?_
      refine J.lw (lv' := [(0, .ref (ad 4)), (4, .int z212)]) ⟨rfl, rfl, trivial⟩ ?_
      exact hk_160 _ _  H
def L_X4_begin_160 : Nat → DS → Int32 → Res DS Unit
  | 0, _, _ => none
  | n + 1, σ, l4 => B_X4_begin_160 (L_X4_begin_160 n) σ l4
set_option maxRecDepth 100000 in
theorem lp_X4_begin_160 {l : Launch} (hl : l.stackTraces = false) {g : Gy} {ad : Nat → Nat} {rst : va_W} {p : Program} {e : Env} {s : State} {m : MethodId} {args : Array Value} {below : List Frame} {meth : Method} {c : Code} {A : Nat → Prop} (C : Cx p l s m args meth c g A yX4_begin.cls cX4_begin 5) (hr : meth.sig.returnType = none) (hx : ∀ x ∈ c.exceptionTable.toList, False) {rr : (Unit ⊕ String) × DS} : ∀ (n : Nat) (σ : DS) (l4 : Int32), L_X4_begin_160 n σ l4 = some rr → J p l e (rmOf 5 0 0) s m args below meth c g A 5 0 0 (QR mV g A (dkh g ad rst) rr below args s 0 0) 160 [(0, .ref (ad 4)), (4, .int l4)] [] ((dkh g ad rst) σ) := by
  intro n
  induction n with
  | zero => intro σ l4 H; cases H
  | succ n ih => intro σ l4 H; exact bl_X4_begin_160 hl C hr hx _ ih _ _ H
def B_X4_begin_88 (k_88 : DS → Int32 → Res DS Unit) (σ : DS) (l4 : Int32) : Res DS Unit := (if (σ.1 2) ≤ l4 then (lt ((σ.1 1) - (1 : Int32)) fun z158 => (L_X4_begin_160 FU σ z158)) else (if (F_X2_isCitable σ l4) = 0 then (lt (l4 + (1 : Int32)) fun z143 => (k_88 σ z143)) else (lt (sR σ 26 (rput 151 (σ.2 26) (F_X2_formula σ l4) (1 : Int32))) fun s126 => (bd (P_X4_offer s126 (F_X2_formula s126 l4) (0 : Int32)) fun _ s140 => (lt (l4 + (1 : Int32)) fun z143 => (k_88 s140 z143))))))
set_option maxRecDepth 100000 in
theorem bl_X4_begin_88 {l : Launch} (hl : l.stackTraces = false) {g : Gy} {ad : Nat → Nat} {rst : va_W} {p : Program} {e : Env} {s : State} {m : MethodId} {args : Array Value} {below : List Frame} {meth : Method} {c : Code} {A : Nat → Prop} (C : Cx p l s m args meth c g A yX4_begin.cls cX4_begin 5) (hr : meth.sig.returnType = none) (hx : ∀ x ∈ c.exceptionTable.toList, False) {rr : (Unit ⊕ String) × DS} (k_88 : DS → Int32 → Res DS Unit) (hk_88 : ∀ (σ : DS) (l4 : Int32), k_88 σ l4 = some rr → J p l e (rmOf 5 0 0) s m args below meth c g A 5 0 0 (QR mV g A (dkh g ad rst) rr below args s 0 0) 88 [(0, .ref (ad 4)), (4, .int l4)] [] ((dkh g ad rst) σ)) (σ : DS) (l4 : Int32) (H : B_X4_begin_88 k_88 σ l4 = some rr) : J p l e (rmOf 5 0 0) s m args below meth c g A 5 0 0 (QR mV g A (dkh g ad rst) rr below args s 0 0) 88 [(0, .ref (ad 4)), (4, .int l4)] [] ((dkh g ad rst) σ) := by
  unfold B_X4_begin_88 at H
  refine J.iload C dX4_begin_88 rfl ?_
  refine J.aload_n (i := 0) C dX4_begin_90 rfl rfl ?_
  refine J.get C 4 1 dk_4 rfl (by decide) kFl_X4_30 inB_X4 rfl dX4_begin_91 ?_
  refine J.getN C 2 13 dk_2 rfl (by decide) nest_X4_79 inB_X2 rfl dX4_begin_94 ?_
  refine J.icmp_geL (tgt := 149) C dX4_begin_97 (by decide) H (fun c_97 H => ?_) (fun c_97 H => ?_)
  · refine J.aload_n (i := 0) C dX4_begin_149 rfl rfl ?_
    refine J.get C 4 0 dk_4 rfl (by decide) kFl_X4_26 inB_X4 rfl dX4_begin_150 ?_
    refine J.getN C 1 9 dk_1 rfl (by decide) nest_X4_94 inB_X0 rfl dX4_begin_153 ?_
    refine J.iconst C (1) dX4_begin_156 (by decide) ?_
    refine J.isub C dX4_begin_157 ?_
    refine J.istoreL C dX4_begin_158 (by decide) H (fun z158 H => ?_)
    refine J.widen (k := 0) (n := 0) (Nat.le_of_ble_eq_true rfl) (Nat.le_of_ble_eq_true rfl) ?_
    refine J.lw (lv' := [(0, .ref (ad 4)), (4, .int z158)]) ⟨rfl, rfl, trivial⟩ ?_
    exact lp_X4_begin_160 hl C hr hx  FU _ _  H
  · refine J.aload_n (i := 0) C dX4_begin_100 rfl rfl ?_
    refine J.get C 4 1 dk_4 rfl (by decide) kFl_X4_30 inB_X4 rfl dX4_begin_101 ?_
    refine J.iload C dX4_begin_104 rfl ?_
    refine J.callVI C (sp_X2_isCitable hl _) rfl kMl_X4_84 mdX2_isCitable ⟨(Nat.le_of_ble_eq_true rfl), (Nat.le_of_ble_eq_true rfl)⟩ dk_2 rfl rfl (Nat.le_of_ble_eq_true rfl) dX4_begin_106 ⟨(Nat.le_of_ble_eq_true rfl), (Nat.le_of_ble_eq_true rfl)⟩ ?_
    refine J.if_eqL (tgt := 143) C dX4_begin_109 (by decide) H (fun c_109 H => ?_) (fun c_109 H => ?_)
    · refine J.iincL C (l4 + (1 : Int32)) dX4_begin_143 rfl rfl (by decide) H (fun z143 H => ?_)
      refine J.goto (tgt := 88) C dX4_begin_146 (by decide) ?_
      refine J.widen (k := 0) (n := 0) (Nat.le_of_ble_eq_true rfl) (Nat.le_of_ble_eq_true rfl) ?_
      refine J.lw (lv' := [(0, .ref (ad 4)), (4, .int z143)]) ⟨rfl, rfl, trivial⟩ ?_
      exact hk_88 _ _  H
    · refine J.aload_n (i := 0) C dX4_begin_112 rfl rfl ?_
      refine J.get C 4 2 dk_4 rfl (by decide) kFl_X4_16 inB_X4 rfl dX4_begin_113 ?_
      refine J.aload_n (i := 0) C dX4_begin_116 rfl rfl ?_
      refine J.get C 4 1 dk_4 rfl (by decide) kFl_X4_30 inB_X4 rfl dX4_begin_117 ?_
      refine J.iload C dX4_begin_120 rfl ?_
      refine J.callVI C (sp_X2_formula hl _) rfl kMl_X4_88 mdX2_formula ⟨(Nat.le_of_ble_eq_true rfl), (Nat.le_of_ble_eq_true rfl)⟩ dk_2 rfl rfl (Nat.le_of_ble_eq_true rfl) dX4_begin_122 ⟨(Nat.le_of_ble_eq_true rfl), (Nat.le_of_ble_eq_true rfl)⟩ ?_
      refine J.iconst C (1) dX4_begin_125 (by decide) ?_
      refine J.callVVL (hp := (dkh g ad rst)) C (put_26 hl _ _) rfl kMl_X4_75 mdX3_put ⟨(Nat.le_of_ble_eq_true rfl), (Nat.le_of_ble_eq_true rfl)⟩ dk_58 rfl rfl (Nat.le_of_ble_eq_true rfl) dX4_begin_126 ⟨(Nat.le_of_ble_eq_true rfl), (Nat.le_of_ble_eq_true rfl)⟩ H (fun s126 H => ?_)
      refine J.aload_n (i := 0) C dX4_begin_129 rfl rfl ?_
      refine J.aload_n (i := 0) C dX4_begin_130 rfl rfl ?_
      refine J.get C 4 1 dk_4 rfl (by decide) kFl_X4_30 inB_X4 rfl dX4_begin_131 ?_
      refine J.iload C dX4_begin_134 rfl ?_
      refine J.callVI C (sp_X2_formula hl _) rfl kMl_X4_88 mdX2_formula ⟨(Nat.le_of_ble_eq_true rfl), (Nat.le_of_ble_eq_true rfl)⟩ dk_2 rfl rfl (Nat.le_of_ble_eq_true rfl) dX4_begin_136 ⟨(Nat.le_of_ble_eq_true rfl), (Nat.le_of_ble_eq_true rfl)⟩ ?_
      refine J.iconst C (0) dX4_begin_139 (by decide) ?_
      refine J.callVBV (hp := (dkh g ad rst)) C rfl (sp_X4_offer hl _ _) rfl kMl_X4_91 mdX4_offer ⟨(Nat.le_of_ble_eq_true rfl), (Nat.le_of_ble_eq_true rfl)⟩ dk_4 rfl rfl (Nat.le_of_ble_eq_true rfl) dX4_begin_140 ⟨(Nat.le_of_ble_eq_true rfl), (Nat.le_of_ble_eq_true rfl)⟩ hx (Nat.le_of_ble_eq_true rfl) (Nat.le_of_ble_eq_true rfl) H (fun _ s140 H => ?_)
      refine J.iincL C (l4 + (1 : Int32)) dX4_begin_143 rfl rfl (by decide) H (fun z143 H => ?_)
      refine J.goto (tgt := 88) C dX4_begin_146 (by decide) ?_
      refine J.widen (k := 0) (n := 0) (Nat.le_of_ble_eq_true rfl) (Nat.le_of_ble_eq_true rfl) ?_
      refine J.lw (lv' := [(0, .ref (ad 4)), (4, .int z143)]) ⟨rfl, rfl, trivial⟩ ?_
      exact hk_88 _ _  H
def L_X4_begin_88 : Nat → DS → Int32 → Res DS Unit
  | 0, _, _ => none
  | n + 1, σ, l4 => B_X4_begin_88 (L_X4_begin_88 n) σ l4
set_option maxRecDepth 100000 in
theorem lp_X4_begin_88 {l : Launch} (hl : l.stackTraces = false) {g : Gy} {ad : Nat → Nat} {rst : va_W} {p : Program} {e : Env} {s : State} {m : MethodId} {args : Array Value} {below : List Frame} {meth : Method} {c : Code} {A : Nat → Prop} (C : Cx p l s m args meth c g A yX4_begin.cls cX4_begin 5) (hr : meth.sig.returnType = none) (hx : ∀ x ∈ c.exceptionTable.toList, False) {rr : (Unit ⊕ String) × DS} : ∀ (n : Nat) (σ : DS) (l4 : Int32), L_X4_begin_88 n σ l4 = some rr → J p l e (rmOf 5 0 0) s m args below meth c g A 5 0 0 (QR mV g A (dkh g ad rst) rr below args s 0 0) 88 [(0, .ref (ad 4)), (4, .int l4)] [] ((dkh g ad rst) σ) := by
  intro n
  induction n with
  | zero => intro σ l4 H; cases H
  | succ n ih => intro σ l4 H; exact bl_X4_begin_88 hl C hr hx _ ih _ _ H
def B_X4_begin_25 (σ : DS) (l1 : Int32) (l2 : Int32) (t0 : Int32) : Res DS Unit := (lt (sI σ 9 t0) fun s25 => (gc (l2 = 0 ∨ l2 = 1) (lt (sI s25 8 l2) fun s30 => (lt (sI s30 6 (0 : Int32)) fun s35 => (lt (sI s35 7 (0 : Int32)) fun s40 => (lt (sI s40 10 (0 : Int32)) fun s45 => (lt (sR s45 26 (rfill 151 (s45.2 26) (0 : Int32))) fun s53 => (lt (sR s53 27 (rfill 151 (s53.2 27) (-1 : Int32))) fun s61 => (lt (sR s61 26 (rput 151 (s61.2 26) l1 (1 : Int32))) fun s70 => (lt (sR s70 26 (rput 151 (s70.2 26) (s70.1 9) (1 : Int32))) fun s82 => (lt (0 : Int32) fun z86 => (L_X4_begin_88 FU s82 z86))))))))))))
set_option maxRecDepth 100000 in
theorem bl_X4_begin_25 {l : Launch} (hl : l.stackTraces = false) {g : Gy} {ad : Nat → Nat} {rst : va_W} {p : Program} {e : Env} {s : State} {m : MethodId} {args : Array Value} {below : List Frame} {meth : Method} {c : Code} {A : Nat → Prop} (C : Cx p l s m args meth c g A yX4_begin.cls cX4_begin 5) (hr : meth.sig.returnType = none) (hx : ∀ x ∈ c.exceptionTable.toList, False) {rr : (Unit ⊕ String) × DS} (σ : DS) (l1 : Int32) (l2 : Int32) (t0 : Int32) (H : B_X4_begin_25 σ l1 l2 t0 = some rr) : J p l e (rmOf 5 0 0) s m args below meth c g A 5 0 0 (QR mV g A (dkh g ad rst) rr below args s 0 0) 25 [(0, .ref (ad 4)), (1, .int l1), (2, .int l2)] [.int t0, .ref (ad 4)] ((dkh g ad rst) σ) := by
  unfold B_X4_begin_25 at H
  refine J.putL (hp := (dkh g ad rst)) C 4 8 dk_4 rfl (by decide) kFl_X4_65 inB_X4 tyX4 tyX4_ok nmX4 rfl rfl rfl rfl (Nat.le_of_ble_eq_true rfl) dX4_begin_25 (dkI_9 _) H (fun s25 H => ?_)
  refine J.aload_n (i := 0) C dX4_begin_28 rfl rfl ?_
  refine J.iload_n (i := 2) C dX4_begin_29 rfl rfl ?_
  obtain ⟨hz_30, H⟩ := gc_some H
  refine J.putL (hp := (dkh g ad rst)) C 4 7 dk_4 rfl (by decide) kFl_X4_68 inB_X4 tyX4 tyX4_ok nmX4 rfl rfl (nzb hz_30) (fzb hz_30) (Nat.le_of_ble_eq_true rfl) dX4_begin_30 (dkI_8 _) H (fun s30 H => ?_)
  refine J.aload_n (i := 0) C dX4_begin_33 rfl rfl ?_
  refine J.iconst C (0) dX4_begin_34 (by decide) ?_
  refine J.putL (hp := (dkh g ad rst)) C 4 5 dk_4 rfl (by decide) kFl_X4_38 inB_X4 tyX4 tyX4_ok nmX4 rfl rfl rfl rfl (Nat.le_of_ble_eq_true rfl) dX4_begin_35 (dkI_6 _) H (fun s35 H => ?_)
  refine J.aload_n (i := 0) C dX4_begin_38 rfl rfl ?_
  refine J.iconst C (0) dX4_begin_39 (by decide) ?_
  refine J.putL (hp := (dkh g ad rst)) C 4 6 dk_4 rfl (by decide) kFl_X4_42 inB_X4 tyX4 tyX4_ok nmX4 rfl rfl rfl rfl (Nat.le_of_ble_eq_true rfl) dX4_begin_40 (dkI_7 _) H (fun s40 H => ?_)
  refine J.aload_n (i := 0) C dX4_begin_43 rfl rfl ?_
  refine J.iconst C (0) dX4_begin_44 (by decide) ?_
  refine J.putL (hp := (dkh g ad rst)) C 4 9 dk_4 rfl (by decide) kFl_X4_56 inB_X4 tyX4 tyX4_ok nmX4 rfl rfl rfl rfl (Nat.le_of_ble_eq_true rfl) dX4_begin_45 (dkI_10 _) H (fun s45 H => ?_)
  refine J.aload_n (i := 0) C dX4_begin_48 rfl rfl ?_
  refine J.get C 4 2 dk_4 rfl (by decide) kFl_X4_16 inB_X4 rfl dX4_begin_49 ?_
  refine J.iconst C (0) dX4_begin_52 (by decide) ?_
  refine J.callVVL (hp := (dkh g ad rst)) C (fill_26 hl _) rfl kMl_X4_72 mdX3_fill ⟨(Nat.le_of_ble_eq_true rfl), (Nat.le_of_ble_eq_true rfl)⟩ dk_58 rfl rfl (Nat.le_of_ble_eq_true rfl) dX4_begin_53 ⟨(Nat.le_of_ble_eq_true rfl), (Nat.le_of_ble_eq_true rfl)⟩ H (fun s53 H => ?_)
  refine J.aload_n (i := 0) C dX4_begin_56 rfl rfl ?_
  refine J.get C 4 3 dk_4 rfl (by decide) kFl_X4_20 inB_X4 rfl dX4_begin_57 ?_
  refine J.iconst C (-1) dX4_begin_60 (by decide) ?_
  refine J.callVVL (hp := (dkh g ad rst)) C (fill_27 hl _) rfl kMl_X4_72 mdX3_fill ⟨(Nat.le_of_ble_eq_true rfl), (Nat.le_of_ble_eq_true rfl)⟩ dk_60 rfl rfl (Nat.le_of_ble_eq_true rfl) dX4_begin_61 ⟨(Nat.le_of_ble_eq_true rfl), (Nat.le_of_ble_eq_true rfl)⟩ H (fun s61 H => ?_)
  refine J.aload_n (i := 0) C dX4_begin_64 rfl rfl ?_
  refine J.get C 4 2 dk_4 rfl (by decide) kFl_X4_16 inB_X4 rfl dX4_begin_65 ?_
  refine J.iload_n (i := 1) C dX4_begin_68 rfl rfl ?_
  refine J.iconst C (1) dX4_begin_69 (by decide) ?_
  refine J.callVVL (hp := (dkh g ad rst)) C (put_26 hl _ _) rfl kMl_X4_75 mdX3_put ⟨(Nat.le_of_ble_eq_true rfl), (Nat.le_of_ble_eq_true rfl)⟩ dk_58 rfl rfl (Nat.le_of_ble_eq_true rfl) dX4_begin_70 ⟨(Nat.le_of_ble_eq_true rfl), (Nat.le_of_ble_eq_true rfl)⟩ H (fun s70 H => ?_)
  refine J.aload_n (i := 0) C dX4_begin_73 rfl rfl ?_
  refine J.get C 4 2 dk_4 rfl (by decide) kFl_X4_16 inB_X4 rfl dX4_begin_74 ?_
  refine J.aload_n (i := 0) C dX4_begin_77 rfl rfl ?_
  refine J.get C 4 8 dk_4 rfl (by decide) kFl_X4_65 inB_X4 rfl dX4_begin_78 ?_
  refine J.iconst C (1) dX4_begin_81 (by decide) ?_
  refine J.callVVL (hp := (dkh g ad rst)) C (put_26 hl _ _) rfl kMl_X4_75 mdX3_put ⟨(Nat.le_of_ble_eq_true rfl), (Nat.le_of_ble_eq_true rfl)⟩ dk_58 rfl rfl (Nat.le_of_ble_eq_true rfl) dX4_begin_82 ⟨(Nat.le_of_ble_eq_true rfl), (Nat.le_of_ble_eq_true rfl)⟩ H (fun s82 H => ?_)
  refine J.iconst C (0) dX4_begin_85 (by decide) ?_
  refine J.istoreL C dX4_begin_86 (by decide) H (fun z86 H => ?_)
  refine J.widen (k := 0) (n := 0) (Nat.le_of_ble_eq_true rfl) (Nat.le_of_ble_eq_true rfl) ?_
  refine J.lw (lv' := [(0, .ref (ad 4)), (4, .int z86)]) ⟨rfl, rfl, trivial⟩ ?_
  exact lp_X4_begin_88 hl C hr hx  FU _ _  H
abbrev mX4_begin : MD := (yX4_begin, cX4_begin, 5, none)
theorem mdX4_begin : MDv mX4_begin RX4 2 := ⟨kIm_X4_begin, kSe_X4_begin, kIn_X4, kCo_X4_begin, by decide +kernel⟩
def P_X4_begin (σ : DS) (a1 : Int32) (a2 : Int32) : Res DS Unit := (bd (P_X0_find σ (70 : Int32) (-1 : Int32) (-1 : Int32)) fun r8 s8 => (lt r8 fun z11 => (if z11 = (-1 : Int32) then (B_X4_begin_25 s8 a1 a2 (150 : Int32)) else (B_X4_begin_25 s8 a1 a2 z11))))
set_option maxRecDepth 100000 in
theorem sp_X4_begin {l : Launch} (hl : l.stackTraces = false) {g : Gy} {ad : Nat → Nat} {rst : va_W} {σ : DS} (a1 : Int32) (a2 : Int32) : SpR l mX4_begin 5 0 0 mV g [.ref (ad 4), .int a1, .int a2] (dkh g ad rst) σ (P_X4_begin σ a1 a2) := by
  refine SpR.of hl (by decide) (Nat.le_of_ble_eq_true rfl) (fun rr H p e s m args below meth c A C hr hx => ?_)
  unfold P_X4_begin at H
  refine J.lw (lv' := [(0, .ref (ad 4)), (1, .int a1), (2, .int a2)]) ⟨rfl, rfl, rfl, trivial⟩ ?_
  refine J.aload_n (i := 0) C dX4_begin_0 rfl rfl ?_
  refine J.get C 4 0 dk_4 rfl (by decide) kFl_X4_26 inB_X4 rfl dX4_begin_1 ?_
  refine J.bipush C (70) dX4_begin_4 (by decide) ?_
  refine J.iconst C (-1) dX4_begin_6 (by decide) ?_
  refine J.iconst C (-1) dX4_begin_7 (by decide) ?_
  refine J.callVBI (hp := (dkh g ad rst)) C rfl (sp_X0_find hl _ _ _) rfl kMl_X4_59 mdX0_find ⟨(Nat.le_of_ble_eq_true rfl), (Nat.le_of_ble_eq_true rfl)⟩ dk_1 rfl rfl (Nat.le_of_ble_eq_true rfl) dX4_begin_8 ⟨(Nat.le_of_ble_eq_true rfl), (Nat.le_of_ble_eq_true rfl)⟩ hx (Nat.le_of_ble_eq_true rfl) (Nat.le_of_ble_eq_true rfl) H (fun r8 s8 H => ?_)
  refine J.istore_nL (i := 3) C dX4_begin_11 rfl (by decide) H (fun z11 H => ?_)
  refine J.aload_n (i := 0) C dX4_begin_12 rfl rfl ?_
  refine J.iload_n (i := 3) C dX4_begin_13 rfl rfl ?_
  refine J.iconst C (-1) dX4_begin_14 (by decide) ?_
  refine J.icmp_eqL (tgt := 22) C dX4_begin_15 (by decide) H (fun c_15 H => ?_) (fun c_15 H => ?_)
  · refine J.sipush C (150) dX4_begin_22 (by decide) ?_
    refine J.widen (k := 0) (n := 0) (Nat.le_of_ble_eq_true rfl) (Nat.le_of_ble_eq_true rfl) ?_
    refine J.lw (lv' := [(0, .ref (ad 4)), (1, .int a1), (2, .int a2)]) ⟨rfl, rfl, rfl, trivial⟩ ?_
    exact bl_X4_begin_25 hl C hr hx  _ _ _ _  H
  · refine J.iload_n (i := 3) C dX4_begin_18 rfl rfl ?_
    refine J.goto (tgt := 25) C dX4_begin_19 (by decide) ?_
    refine J.widen (k := 0) (n := 0) (Nat.le_of_ble_eq_true rfl) (Nat.le_of_ble_eq_true rfl) ?_
    refine J.lw (lv' := [(0, .ref (ad 4)), (1, .int a1), (2, .int a2)]) ⟨rfl, rfl, rfl, trivial⟩ ?_
    exact bl_X4_begin_25 hl C hr hx  _ _ _ _  H

/-! X4_concerns -/
abbrev mX4_concerns : MD := (yX4_concerns, cX4_concerns, 3, some .boolean)
theorem mdX4_concerns : MDv mX4_concerns RX4 2 := ⟨kIm_X4_concerns, kSe_X4_concerns, kIn_X4, kCo_X4_concerns, by decide +kernel⟩
def F_X4_concerns (σ : DS) (a1 : Int32) (a2 : Int32) : Int32 := (if a1 = a2 then (1 : Int32) else (if a1 = (σ.1 9) then (1 : Int32) else (if a1 = (F_X0_left σ a2) then (1 : Int32) else (if a1 = (F_X0_right σ a2) then (1 : Int32) else (0 : Int32)))))
set_option maxRecDepth 100000 in
theorem sp_X4_concerns {l : Launch} (hl : l.stackTraces = false) {g : Gy} {ad : Nat → Nat} {rst : va_W} {σ : DS} (a1 : Int32) (a2 : Int32) : SpF l mX4_concerns 3 0 0 mI g [.ref (ad 4), .int a1, .int a2] ((dkh g ad rst) σ) (F_X4_concerns σ a1 a2) ((dkh g ad rst) σ) := by
  generalize H : F_X4_concerns σ a1 a2 = r0
  unfold F_X4_concerns at H
  refine Sp.of hl (by decide) (Nat.le_of_ble_eq_true rfl) (fun p e s m args below meth c A C hr hx => ?_)
  refine J.lw (lv' := [(0, .ref (ad 4)), (1, .int a1), (2, .int a2)]) ⟨rfl, rfl, rfl, trivial⟩ ?_
  refine J.iload_n (i := 1) C dX4_concerns_0 rfl rfl ?_
  refine J.iload_n (i := 2) C dX4_concerns_1 rfl rfl ?_
  refine J.icmp_eqL (tgt := 37) C dX4_concerns_2 (by decide) H (fun c_2 H => ?_) (fun c_2 H => ?_)
  · refine J.iconst C (1) dX4_concerns_37 (by decide) ?_
    refine J.goto (tgt := 42) C dX4_concerns_38 (by decide) ?_
    exact J.zretA C hr rfl (Nat.le_refl _) (Nat.le_refl _) dX4_concerns_42 H
  · refine J.iload_n (i := 1) C dX4_concerns_5 rfl rfl ?_
    refine J.aload_n (i := 0) C dX4_concerns_6 rfl rfl ?_
    refine J.get C 4 8 dk_4 rfl (by decide) kFl_X4_65 inB_X4 rfl dX4_concerns_7 ?_
    refine J.icmp_eqL (tgt := 37) C dX4_concerns_10 (by decide) H (fun c_10 H => ?_) (fun c_10 H => ?_)
    · refine J.iconst C (1) dX4_concerns_37 (by decide) ?_
      refine J.goto (tgt := 42) C dX4_concerns_38 (by decide) ?_
      exact J.zretA C hr rfl (Nat.le_refl _) (Nat.le_refl _) dX4_concerns_42 H
    · refine J.iload_n (i := 1) C dX4_concerns_13 rfl rfl ?_
      refine J.aload_n (i := 0) C dX4_concerns_14 rfl rfl ?_
      refine J.get C 4 0 dk_4 rfl (by decide) kFl_X4_26 inB_X4 rfl dX4_concerns_15 ?_
      refine J.iload_n (i := 2) C dX4_concerns_18 rfl rfl ?_
      refine J.callVI C (sp_X0_left hl _) rfl kMl_X4_97 mdX0_left ⟨(Nat.le_of_ble_eq_true rfl), (Nat.le_of_ble_eq_true rfl)⟩ dk_1 rfl rfl (Nat.le_of_ble_eq_true rfl) dX4_concerns_19 ⟨(Nat.le_of_ble_eq_true rfl), (Nat.le_of_ble_eq_true rfl)⟩ ?_
      refine J.icmp_eqL (tgt := 37) C dX4_concerns_22 (by decide) H (fun c_22 H => ?_) (fun c_22 H => ?_)
      · refine J.iconst C (1) dX4_concerns_37 (by decide) ?_
        refine J.goto (tgt := 42) C dX4_concerns_38 (by decide) ?_
        exact J.zretA C hr rfl (Nat.le_refl _) (Nat.le_refl _) dX4_concerns_42 H
      · refine J.iload_n (i := 1) C dX4_concerns_25 rfl rfl ?_
        refine J.aload_n (i := 0) C dX4_concerns_26 rfl rfl ?_
        refine J.get C 4 0 dk_4 rfl (by decide) kFl_X4_26 inB_X4 rfl dX4_concerns_27 ?_
        refine J.iload_n (i := 2) C dX4_concerns_30 rfl rfl ?_
        refine J.callVI C (sp_X0_right hl _) rfl kMl_X4_100 mdX0_right ⟨(Nat.le_of_ble_eq_true rfl), (Nat.le_of_ble_eq_true rfl)⟩ dk_1 rfl rfl (Nat.le_of_ble_eq_true rfl) dX4_concerns_31 ⟨(Nat.le_of_ble_eq_true rfl), (Nat.le_of_ble_eq_true rfl)⟩ ?_
        refine J.icmp_neL (tgt := 41) C dX4_concerns_34 (by decide) H (fun c_34 H => ?_) (fun c_34 H => ?_)
        · refine J.iconst C (0) dX4_concerns_41 (by decide) ?_
          exact J.zretA C hr rfl (Nat.le_refl _) (Nat.le_refl _) dX4_concerns_42 H
        · refine J.iconst C (1) dX4_concerns_37 (by decide) ?_
          refine J.goto (tgt := 42) C dX4_concerns_38 (by decide) ?_
          exact J.zretA C hr rfl (Nat.le_refl _) (Nat.le_refl _) dX4_concerns_42 H
theorem nr_X4_concerns (σ : DS) (a1 : Int32) (a2 : Int32) : narrow .boolean (.int (F_X4_concerns σ a1 a2)) = .int (F_X4_concerns σ a1 a2) := by
  unfold F_X4_concerns
  try simp only [lt]
  repeat' split
  all_goals first | rfl | exact pk_nc _ | (first | rfl)

/-! X4_counting -/
abbrev mX4_counting : MD := (yX4_counting, cX4_counting, 1, some .int)
theorem mdX4_counting : MDs mX4_counting 1 := ⟨kSt_X4_counting, kIn_X4, kCo_X4_counting, by decide +kernel⟩
def F_X4_counting (σ : DS) (a0 : Int32) : Int32 := (if a0 ≤ (9999 : Int32) then a0 else (-1 : Int32))
set_option maxRecDepth 100000 in
theorem sp_X4_counting {l : Launch} (hl : l.stackTraces = false) {g : Gy} {ad : Nat → Nat} {rst : va_W} {σ : DS} (a0 : Int32) : SpF l mX4_counting 1 0 0 mI g [.int a0] ((dkh g ad rst) σ) (F_X4_counting σ a0) ((dkh g ad rst) σ) := by
  generalize H : F_X4_counting σ a0 = r0
  unfold F_X4_counting at H
  refine Sp.of hl (by decide) (Nat.le_of_ble_eq_true rfl) (fun p e s m args below meth c A C hr hx => ?_)
  refine J.lw (lv' := [(0, .int a0)]) ⟨rfl, trivial⟩ ?_
  refine J.iload_n (i := 0) C dX4_counting_0 rfl rfl ?_
  refine J.sipush C (9999) dX4_counting_1 (by decide) ?_
  refine J.icmp_leL (tgt := 11) C dX4_counting_4 (by decide) H (fun c_4 H => ?_) (fun c_4 H => ?_)
  · refine J.iload_n (i := 0) C dX4_counting_11 rfl rfl ?_
    exact J.iretA C hr (Nat.le_refl _) (Nat.le_refl _) dX4_counting_12 H
  · refine J.iconst C (-1) dX4_counting_7 (by decide) ?_
    refine J.goto (tgt := 12) C dX4_counting_8 (by decide) ?_
    exact J.iretA C hr (Nat.le_refl _) (Nat.le_refl _) dX4_counting_12 H

/-! X4_beyond -/
abbrev mX4_beyond : MD := (yX4_beyond, cX4_beyond, 3, some .int)
theorem mdX4_beyond : MDv mX4_beyond RX4 1 := ⟨kIm_X4_beyond, kSe_X4_beyond, kIn_X4, kCo_X4_beyond, by decide +kernel⟩
def F_X4_beyond (σ : DS) (a1 : Int32) : Int32 := (lt (rat 151 (σ.2 27) a1) fun z8 => (if z8 = (-1 : Int32) then (-1 : Int32) else (F_X4_counting σ ((1 : Int32) + z8))))
set_option maxRecDepth 100000 in
theorem sp_X4_beyond {l : Launch} (hl : l.stackTraces = false) {g : Gy} {ad : Nat → Nat} {rst : va_W} {σ : DS} (a1 : Int32) : SpF l mX4_beyond 2 0 0 mI g [.ref (ad 4), .int a1] ((dkh g ad rst) σ) (F_X4_beyond σ a1) ((dkh g ad rst) σ) := by
  generalize H : F_X4_beyond σ a1 = r0
  unfold F_X4_beyond at H
  refine Sp.of hl (by decide) (Nat.le_of_ble_eq_true rfl) (fun p e s m args below meth c A C hr hx => ?_)
  refine J.lw (lv' := [(0, .ref (ad 4)), (1, .int a1)]) ⟨rfl, rfl, trivial⟩ ?_
  refine J.aload_n (i := 0) C dX4_beyond_0 rfl rfl ?_
  refine J.get C 4 3 dk_4 rfl (by decide) kFl_X4_20 inB_X4 rfl dX4_beyond_1 ?_
  refine J.iload_n (i := 1) C dX4_beyond_4 rfl rfl ?_
  refine J.callVI C (at_27 hl _) rfl kMl_X4_45 mdX3_at ⟨(Nat.le_of_ble_eq_true rfl), (Nat.le_of_ble_eq_true rfl)⟩ dk_60 rfl rfl (Nat.le_of_ble_eq_true rfl) dX4_beyond_5 ⟨(Nat.le_of_ble_eq_true rfl), (Nat.le_of_ble_eq_true rfl)⟩ ?_
  refine J.istore_nL (i := 2) C dX4_beyond_8 rfl (by decide) H (fun z8 H => ?_)
  refine J.iload_n (i := 2) C dX4_beyond_9 rfl rfl ?_
  refine J.iconst C (-1) dX4_beyond_10 (by decide) ?_
  refine J.icmp_neL (tgt := 18) C dX4_beyond_11 (by decide) H (fun c_11 H => ?_) (fun c_11 H => ?_)
  · refine J.iconst C (1) dX4_beyond_18 (by decide) ?_
    refine J.iload_n (i := 2) C dX4_beyond_19 rfl rfl ?_
    refine J.iadd C dX4_beyond_20 ?_
    refine J.callSI C (sp_X4_counting hl _) rfl kMl_X4_114 mdX4_counting ⟨(Nat.le_of_ble_eq_true rfl), (Nat.le_of_ble_eq_true rfl)⟩ rfl (Nat.le_of_ble_eq_true rfl) dX4_beyond_21 ⟨(Nat.le_of_ble_eq_true rfl), (Nat.le_of_ble_eq_true rfl)⟩ ?_
    exact J.iretA C hr (Nat.le_refl _) (Nat.le_refl _) dX4_beyond_24 H
  · refine J.iconst C (-1) dX4_beyond_14 (by decide) ?_
    refine J.goto (tgt := 24) C dX4_beyond_15 (by decide) ?_
    exact J.iretA C hr (Nat.le_refl _) (Nat.le_refl _) dX4_beyond_24 H

/-! X4_beyondBoth -/
abbrev mX4_beyondBoth : MD := (yX4_beyondBoth, cX4_beyondBoth, 5, some .int)
theorem mdX4_beyondBoth : MDv mX4_beyondBoth RX4 2 := ⟨kIm_X4_beyondBoth, kSe_X4_beyondBoth, kIn_X4, kCo_X4_beyondBoth, by decide +kernel⟩
def F_X4_beyondBoth (σ : DS) (a1 : Int32) (a2 : Int32) : Int32 := (lt (rat 151 (σ.2 27) a1) fun z8 => (lt (rat 151 (σ.2 27) a2) fun z17 => (if z8 = (-1 : Int32) then (-1 : Int32) else (if z17 = (-1 : Int32) then (-1 : Int32) else (F_X4_counting σ (((1 : Int32) + z8) + z17))))))
set_option maxRecDepth 100000 in
theorem sp_X4_beyondBoth {l : Launch} (hl : l.stackTraces = false) {g : Gy} {ad : Nat → Nat} {rst : va_W} {σ : DS} (a1 : Int32) (a2 : Int32) : SpF l mX4_beyondBoth 2 0 0 mI g [.ref (ad 4), .int a1, .int a2] ((dkh g ad rst) σ) (F_X4_beyondBoth σ a1 a2) ((dkh g ad rst) σ) := by
  generalize H : F_X4_beyondBoth σ a1 a2 = r0
  unfold F_X4_beyondBoth at H
  refine Sp.of hl (by decide) (Nat.le_of_ble_eq_true rfl) (fun p e s m args below meth c A C hr hx => ?_)
  refine J.lw (lv' := [(0, .ref (ad 4)), (1, .int a1), (2, .int a2)]) ⟨rfl, rfl, rfl, trivial⟩ ?_
  refine J.aload_n (i := 0) C dX4_beyondBoth_0 rfl rfl ?_
  refine J.get C 4 3 dk_4 rfl (by decide) kFl_X4_20 inB_X4 rfl dX4_beyondBoth_1 ?_
  refine J.iload_n (i := 1) C dX4_beyondBoth_4 rfl rfl ?_
  refine J.callVI C (at_27 hl _) rfl kMl_X4_45 mdX3_at ⟨(Nat.le_of_ble_eq_true rfl), (Nat.le_of_ble_eq_true rfl)⟩ dk_60 rfl rfl (Nat.le_of_ble_eq_true rfl) dX4_beyondBoth_5 ⟨(Nat.le_of_ble_eq_true rfl), (Nat.le_of_ble_eq_true rfl)⟩ ?_
  refine J.istore_nL (i := 3) C dX4_beyondBoth_8 rfl (by decide) H (fun z8 H => ?_)
  refine J.aload_n (i := 0) C dX4_beyondBoth_9 rfl rfl ?_
  refine J.get C 4 3 dk_4 rfl (by decide) kFl_X4_20 inB_X4 rfl dX4_beyondBoth_10 ?_
  refine J.iload_n (i := 2) C dX4_beyondBoth_13 rfl rfl ?_
  refine J.callVI C (at_27 hl _) rfl kMl_X4_45 mdX3_at ⟨(Nat.le_of_ble_eq_true rfl), (Nat.le_of_ble_eq_true rfl)⟩ dk_60 rfl rfl (Nat.le_of_ble_eq_true rfl) dX4_beyondBoth_14 ⟨(Nat.le_of_ble_eq_true rfl), (Nat.le_of_ble_eq_true rfl)⟩ ?_
  refine J.istoreL C dX4_beyondBoth_17 (by decide) H (fun z17 H => ?_)
  refine J.iload_n (i := 3) C dX4_beyondBoth_19 rfl rfl ?_
  refine J.iconst C (-1) dX4_beyondBoth_20 (by decide) ?_
  refine J.icmp_eqL (tgt := 30) C dX4_beyondBoth_21 (by decide) H (fun c_21 H => ?_) (fun c_21 H => ?_)
  · refine J.iconst C (-1) dX4_beyondBoth_30 (by decide) ?_
    refine J.goto (tgt := 43) C dX4_beyondBoth_31 (by decide) ?_
    exact J.iretA C hr (Nat.le_refl _) (Nat.le_refl _) dX4_beyondBoth_43 H
  · refine J.iload C dX4_beyondBoth_24 rfl ?_
    refine J.iconst C (-1) dX4_beyondBoth_26 (by decide) ?_
    refine J.icmp_neL (tgt := 34) C dX4_beyondBoth_27 (by decide) H (fun c_27 H => ?_) (fun c_27 H => ?_)
    · refine J.iconst C (1) dX4_beyondBoth_34 (by decide) ?_
      refine J.iload_n (i := 3) C dX4_beyondBoth_35 rfl rfl ?_
      refine J.iadd C dX4_beyondBoth_36 ?_
      refine J.iload C dX4_beyondBoth_37 rfl ?_
      refine J.iadd C dX4_beyondBoth_39 ?_
      refine J.callSI C (sp_X4_counting hl _) rfl kMl_X4_114 mdX4_counting ⟨(Nat.le_of_ble_eq_true rfl), (Nat.le_of_ble_eq_true rfl)⟩ rfl (Nat.le_of_ble_eq_true rfl) dX4_beyondBoth_40 ⟨(Nat.le_of_ble_eq_true rfl), (Nat.le_of_ble_eq_true rfl)⟩ ?_
      exact J.iretA C hr (Nat.le_refl _) (Nat.le_refl _) dX4_beyondBoth_43 H
    · refine J.iconst C (-1) dX4_beyondBoth_30 (by decide) ?_
      refine J.goto (tgt := 43) C dX4_beyondBoth_31 (by decide) ?_
      exact J.iretA C hr (Nat.le_refl _) (Nat.le_refl _) dX4_beyondBoth_43 H

/-! X4_applyRules -/
abbrev mX4_applyRules : MD := (yX4_applyRules, cX4_applyRules, 5, none)
theorem mdX4_applyRules : MDv mX4_applyRules RX4 1 := ⟨kIm_X4_applyRules, kSe_X4_applyRules, kIn_X4, kCo_X4_applyRules, by decide +kernel⟩
def P_X4_applyRules (σ : DS) (a1 : Int32) : Res DS Unit := (lt (F_X0_left σ a1) fun z8 => (lt (F_X0_right σ a1) fun z17 => (lt (F_X0_kind σ a1) fun z26 => (bd (P_X4_offer σ a1 (F_X4_beyond σ (σ.1 9))) fun _ s38 => (if z26 = (75 : Int32) then (bd (P_X4_offer s38 a1 (F_X4_beyondBoth s38 z8 z17)) fun _ s56 => (bd (P_X4_offer s56 z8 (F_X4_beyond s56 a1)) fun _ s66 => (bd (P_X4_offer s66 z17 (F_X4_beyond s66 a1)) fun _ s76 => (some (.inl (), s76))))) else (if z26 = (65 : Int32) then (bd (P_X4_offer s38 a1 (F_X4_beyond s38 z8)) fun _ s96 => (bd (P_X4_offer s96 a1 (F_X4_beyond s96 z17)) fun _ s106 => (some (.inl (), s106)))) else (if z26 = (67 : Int32) then (bd (P_X4_offer s38 z17 (F_X4_beyondBoth s38 a1 z8)) fun _ s127 => (some (.inl (), s127))) else (if z26 = (78 : Int32) then (bd (P_X4_offer s38 (s38.1 9) (F_X4_beyondBoth s38 a1 z8)) fun _ s151 => (if (F_X0_kind s151 z8) = (78 : Int32) then (bd (P_X4_offer s151 (F_X0_left s151 z8) (F_X4_beyond s151 a1)) fun _ s181 => (some (.inl (), s181))) else (some (.inl (), s151)))) else (some (.inl (), s38))))))))))
set_option maxRecDepth 100000 in
theorem sp_X4_applyRules {l : Launch} (hl : l.stackTraces = false) {g : Gy} {ad : Nat → Nat} {rst : va_W} {σ : DS} (a1 : Int32) : SpR l mX4_applyRules 5 0 0 mV g [.ref (ad 4), .int a1] (dkh g ad rst) σ (P_X4_applyRules σ a1) := by
  refine SpR.of hl (by decide) (Nat.le_of_ble_eq_true rfl) (fun rr H p e s m args below meth c A C hr hx => ?_)
  unfold P_X4_applyRules at H
  refine J.lw (lv' := [(0, .ref (ad 4)), (1, .int a1)]) ⟨rfl, rfl, trivial⟩ ?_
  refine J.aload_n (i := 0) C dX4_applyRules_0 rfl rfl ?_
  refine J.get C 4 0 dk_4 rfl (by decide) kFl_X4_26 inB_X4 rfl dX4_applyRules_1 ?_
  refine J.iload_n (i := 1) C dX4_applyRules_4 rfl rfl ?_
  refine J.callVI C (sp_X0_left hl _) rfl kMl_X4_97 mdX0_left ⟨(Nat.le_of_ble_eq_true rfl), (Nat.le_of_ble_eq_true rfl)⟩ dk_1 rfl rfl (Nat.le_of_ble_eq_true rfl) dX4_applyRules_5 ⟨(Nat.le_of_ble_eq_true rfl), (Nat.le_of_ble_eq_true rfl)⟩ ?_
  refine J.istore_nL (i := 2) C dX4_applyRules_8 rfl (by decide) H (fun z8 H => ?_)
  refine J.aload_n (i := 0) C dX4_applyRules_9 rfl rfl ?_
  refine J.get C 4 0 dk_4 rfl (by decide) kFl_X4_26 inB_X4 rfl dX4_applyRules_10 ?_
  refine J.iload_n (i := 1) C dX4_applyRules_13 rfl rfl ?_
  refine J.callVI C (sp_X0_right hl _) rfl kMl_X4_100 mdX0_right ⟨(Nat.le_of_ble_eq_true rfl), (Nat.le_of_ble_eq_true rfl)⟩ dk_1 rfl rfl (Nat.le_of_ble_eq_true rfl) dX4_applyRules_14 ⟨(Nat.le_of_ble_eq_true rfl), (Nat.le_of_ble_eq_true rfl)⟩ ?_
  refine J.istore_nL (i := 3) C dX4_applyRules_17 rfl (by decide) H (fun z17 H => ?_)
  refine J.aload_n (i := 0) C dX4_applyRules_18 rfl rfl ?_
  refine J.get C 4 0 dk_4 rfl (by decide) kFl_X4_26 inB_X4 rfl dX4_applyRules_19 ?_
  refine J.iload_n (i := 1) C dX4_applyRules_22 rfl rfl ?_
  refine J.callVI C (sp_X0_kind hl _) rfl kMl_X4_103 mdX0_kind ⟨(Nat.le_of_ble_eq_true rfl), (Nat.le_of_ble_eq_true rfl)⟩ dk_1 rfl rfl (Nat.le_of_ble_eq_true rfl) dX4_applyRules_23 ⟨(Nat.le_of_ble_eq_true rfl), (Nat.le_of_ble_eq_true rfl)⟩ ?_
  refine J.istoreL C dX4_applyRules_26 (by decide) H (fun z26 H => ?_)
  refine J.aload_n (i := 0) C dX4_applyRules_28 rfl rfl ?_
  refine J.iload_n (i := 1) C dX4_applyRules_29 rfl rfl ?_
  refine J.aload_n (i := 0) C dX4_applyRules_30 rfl rfl ?_
  refine J.aload_n (i := 0) C dX4_applyRules_31 rfl rfl ?_
  refine J.get C 4 8 dk_4 rfl (by decide) kFl_X4_65 inB_X4 rfl dX4_applyRules_32 ?_
  refine J.callVI C (sp_X4_beyond hl _) rfl kMl_X4_107 mdX4_beyond ⟨(Nat.le_of_ble_eq_true rfl), (Nat.le_of_ble_eq_true rfl)⟩ dk_4 rfl rfl (Nat.le_of_ble_eq_true rfl) dX4_applyRules_35 ⟨(Nat.le_of_ble_eq_true rfl), (Nat.le_of_ble_eq_true rfl)⟩ ?_
  refine J.callVBV (hp := (dkh g ad rst)) C rfl (sp_X4_offer hl _ _) rfl kMl_X4_91 mdX4_offer ⟨(Nat.le_of_ble_eq_true rfl), (Nat.le_of_ble_eq_true rfl)⟩ dk_4 rfl rfl (Nat.le_of_ble_eq_true rfl) dX4_applyRules_38 ⟨(Nat.le_of_ble_eq_true rfl), (Nat.le_of_ble_eq_true rfl)⟩ hx (Nat.le_of_ble_eq_true rfl) (Nat.le_of_ble_eq_true rfl) H (fun _ s38 H => ?_)
  refine J.iload C dX4_applyRules_41 rfl ?_
  refine J.bipush C (75) dX4_applyRules_43 (by decide) ?_
  refine J.icmp_neL (tgt := 82) C dX4_applyRules_45 (by decide) H (fun c_45 H => ?_) (fun c_45 H => ?_)
  · refine J.iload C dX4_applyRules_82 rfl ?_
    refine J.bipush C (65) dX4_applyRules_84 (by decide) ?_
    refine J.icmp_neL (tgt := 112) C dX4_applyRules_86 (by decide) H (fun c_86 H => ?_) (fun c_86 H => ?_)
    · refine J.iload C dX4_applyRules_112 rfl ?_
      refine J.bipush C (67) dX4_applyRules_114 (by decide) ?_
      refine J.icmp_neL (tgt := 133) C dX4_applyRules_116 (by decide) H (fun c_116 H => ?_) (fun c_116 H => ?_)
      · refine J.iload C dX4_applyRules_133 rfl ?_
        refine J.bipush C (78) dX4_applyRules_135 (by decide) ?_
        refine J.icmp_neL (tgt := 184) C dX4_applyRules_137 (by decide) H (fun c_137 H => ?_) (fun c_137 H => ?_)
        · exact J.vretL C hr (Nat.le_of_ble_eq_true rfl) (Nat.le_of_ble_eq_true rfl) dX4_applyRules_184 H
        · refine J.aload_n (i := 0) C dX4_applyRules_140 rfl rfl ?_
          refine J.aload_n (i := 0) C dX4_applyRules_141 rfl rfl ?_
          refine J.get C 4 8 dk_4 rfl (by decide) kFl_X4_65 inB_X4 rfl dX4_applyRules_142 ?_
          refine J.aload_n (i := 0) C dX4_applyRules_145 rfl rfl ?_
          refine J.iload_n (i := 1) C dX4_applyRules_146 rfl rfl ?_
          refine J.iload_n (i := 2) C dX4_applyRules_147 rfl rfl ?_
          refine J.callVI C (sp_X4_beyondBoth hl _ _) rfl kMl_X4_110 mdX4_beyondBoth ⟨(Nat.le_of_ble_eq_true rfl), (Nat.le_of_ble_eq_true rfl)⟩ dk_4 rfl rfl (Nat.le_of_ble_eq_true rfl) dX4_applyRules_148 ⟨(Nat.le_of_ble_eq_true rfl), (Nat.le_of_ble_eq_true rfl)⟩ ?_
          refine J.callVBV (hp := (dkh g ad rst)) C rfl (sp_X4_offer hl _ _) rfl kMl_X4_91 mdX4_offer ⟨(Nat.le_of_ble_eq_true rfl), (Nat.le_of_ble_eq_true rfl)⟩ dk_4 rfl rfl (Nat.le_of_ble_eq_true rfl) dX4_applyRules_151 ⟨(Nat.le_of_ble_eq_true rfl), (Nat.le_of_ble_eq_true rfl)⟩ hx (Nat.le_of_ble_eq_true rfl) (Nat.le_of_ble_eq_true rfl) H (fun _ s151 H => ?_)
          refine J.aload_n (i := 0) C dX4_applyRules_154 rfl rfl ?_
          refine J.get C 4 0 dk_4 rfl (by decide) kFl_X4_26 inB_X4 rfl dX4_applyRules_155 ?_
          refine J.iload_n (i := 2) C dX4_applyRules_158 rfl rfl ?_
          refine J.callVI C (sp_X0_kind hl _) rfl kMl_X4_103 mdX0_kind ⟨(Nat.le_of_ble_eq_true rfl), (Nat.le_of_ble_eq_true rfl)⟩ dk_1 rfl rfl (Nat.le_of_ble_eq_true rfl) dX4_applyRules_159 ⟨(Nat.le_of_ble_eq_true rfl), (Nat.le_of_ble_eq_true rfl)⟩ ?_
          refine J.bipush C (78) dX4_applyRules_162 (by decide) ?_
          refine J.icmp_neL (tgt := 184) C dX4_applyRules_164 (by decide) H (fun c_164 H => ?_) (fun c_164 H => ?_)
          · exact J.vretL C hr (Nat.le_of_ble_eq_true rfl) (Nat.le_of_ble_eq_true rfl) dX4_applyRules_184 H
          · refine J.aload_n (i := 0) C dX4_applyRules_167 rfl rfl ?_
            refine J.aload_n (i := 0) C dX4_applyRules_168 rfl rfl ?_
            refine J.get C 4 0 dk_4 rfl (by decide) kFl_X4_26 inB_X4 rfl dX4_applyRules_169 ?_
            refine J.iload_n (i := 2) C dX4_applyRules_172 rfl rfl ?_
            refine J.callVI C (sp_X0_left hl _) rfl kMl_X4_97 mdX0_left ⟨(Nat.le_of_ble_eq_true rfl), (Nat.le_of_ble_eq_true rfl)⟩ dk_1 rfl rfl (Nat.le_of_ble_eq_true rfl) dX4_applyRules_173 ⟨(Nat.le_of_ble_eq_true rfl), (Nat.le_of_ble_eq_true rfl)⟩ ?_
            refine J.aload_n (i := 0) C dX4_applyRules_176 rfl rfl ?_
            refine J.iload_n (i := 1) C dX4_applyRules_177 rfl rfl ?_
            refine J.callVI C (sp_X4_beyond hl _) rfl kMl_X4_107 mdX4_beyond ⟨(Nat.le_of_ble_eq_true rfl), (Nat.le_of_ble_eq_true rfl)⟩ dk_4 rfl rfl (Nat.le_of_ble_eq_true rfl) dX4_applyRules_178 ⟨(Nat.le_of_ble_eq_true rfl), (Nat.le_of_ble_eq_true rfl)⟩ ?_
            refine J.callVBV (hp := (dkh g ad rst)) C rfl (sp_X4_offer hl _ _) rfl kMl_X4_91 mdX4_offer ⟨(Nat.le_of_ble_eq_true rfl), (Nat.le_of_ble_eq_true rfl)⟩ dk_4 rfl rfl (Nat.le_of_ble_eq_true rfl) dX4_applyRules_181 ⟨(Nat.le_of_ble_eq_true rfl), (Nat.le_of_ble_eq_true rfl)⟩ hx (Nat.le_of_ble_eq_true rfl) (Nat.le_of_ble_eq_true rfl) H (fun _ s181 H => ?_)
            exact J.vretL C hr (Nat.le_of_ble_eq_true rfl) (Nat.le_of_ble_eq_true rfl) dX4_applyRules_184 H
      · refine J.aload_n (i := 0) C dX4_applyRules_119 rfl rfl ?_
        refine J.iload_n (i := 3) C dX4_applyRules_120 rfl rfl ?_
        refine J.aload_n (i := 0) C dX4_applyRules_121 rfl rfl ?_
        refine J.iload_n (i := 1) C dX4_applyRules_122 rfl rfl ?_
        refine J.iload_n (i := 2) C dX4_applyRules_123 rfl rfl ?_
        refine J.callVI C (sp_X4_beyondBoth hl _ _) rfl kMl_X4_110 mdX4_beyondBoth ⟨(Nat.le_of_ble_eq_true rfl), (Nat.le_of_ble_eq_true rfl)⟩ dk_4 rfl rfl (Nat.le_of_ble_eq_true rfl) dX4_applyRules_124 ⟨(Nat.le_of_ble_eq_true rfl), (Nat.le_of_ble_eq_true rfl)⟩ ?_
        refine J.callVBV (hp := (dkh g ad rst)) C rfl (sp_X4_offer hl _ _) rfl kMl_X4_91 mdX4_offer ⟨(Nat.le_of_ble_eq_true rfl), (Nat.le_of_ble_eq_true rfl)⟩ dk_4 rfl rfl (Nat.le_of_ble_eq_true rfl) dX4_applyRules_127 ⟨(Nat.le_of_ble_eq_true rfl), (Nat.le_of_ble_eq_true rfl)⟩ hx (Nat.le_of_ble_eq_true rfl) (Nat.le_of_ble_eq_true rfl) H (fun _ s127 H => ?_)
        refine J.goto (tgt := 184) C dX4_applyRules_130 (by decide) ?_
        exact J.vretL C hr (Nat.le_of_ble_eq_true rfl) (Nat.le_of_ble_eq_true rfl) dX4_applyRules_184 H
    · refine J.aload_n (i := 0) C dX4_applyRules_89 rfl rfl ?_
      refine J.iload_n (i := 1) C dX4_applyRules_90 rfl rfl ?_
      refine J.aload_n (i := 0) C dX4_applyRules_91 rfl rfl ?_
      refine J.iload_n (i := 2) C dX4_applyRules_92 rfl rfl ?_
      refine J.callVI C (sp_X4_beyond hl _) rfl kMl_X4_107 mdX4_beyond ⟨(Nat.le_of_ble_eq_true rfl), (Nat.le_of_ble_eq_true rfl)⟩ dk_4 rfl rfl (Nat.le_of_ble_eq_true rfl) dX4_applyRules_93 ⟨(Nat.le_of_ble_eq_true rfl), (Nat.le_of_ble_eq_true rfl)⟩ ?_
      refine J.callVBV (hp := (dkh g ad rst)) C rfl (sp_X4_offer hl _ _) rfl kMl_X4_91 mdX4_offer ⟨(Nat.le_of_ble_eq_true rfl), (Nat.le_of_ble_eq_true rfl)⟩ dk_4 rfl rfl (Nat.le_of_ble_eq_true rfl) dX4_applyRules_96 ⟨(Nat.le_of_ble_eq_true rfl), (Nat.le_of_ble_eq_true rfl)⟩ hx (Nat.le_of_ble_eq_true rfl) (Nat.le_of_ble_eq_true rfl) H (fun _ s96 H => ?_)
      refine J.aload_n (i := 0) C dX4_applyRules_99 rfl rfl ?_
      refine J.iload_n (i := 1) C dX4_applyRules_100 rfl rfl ?_
      refine J.aload_n (i := 0) C dX4_applyRules_101 rfl rfl ?_
      refine J.iload_n (i := 3) C dX4_applyRules_102 rfl rfl ?_
      refine J.callVI C (sp_X4_beyond hl _) rfl kMl_X4_107 mdX4_beyond ⟨(Nat.le_of_ble_eq_true rfl), (Nat.le_of_ble_eq_true rfl)⟩ dk_4 rfl rfl (Nat.le_of_ble_eq_true rfl) dX4_applyRules_103 ⟨(Nat.le_of_ble_eq_true rfl), (Nat.le_of_ble_eq_true rfl)⟩ ?_
      refine J.callVBV (hp := (dkh g ad rst)) C rfl (sp_X4_offer hl _ _) rfl kMl_X4_91 mdX4_offer ⟨(Nat.le_of_ble_eq_true rfl), (Nat.le_of_ble_eq_true rfl)⟩ dk_4 rfl rfl (Nat.le_of_ble_eq_true rfl) dX4_applyRules_106 ⟨(Nat.le_of_ble_eq_true rfl), (Nat.le_of_ble_eq_true rfl)⟩ hx (Nat.le_of_ble_eq_true rfl) (Nat.le_of_ble_eq_true rfl) H (fun _ s106 H => ?_)
      refine J.goto (tgt := 184) C dX4_applyRules_109 (by decide) ?_
      exact J.vretL C hr (Nat.le_of_ble_eq_true rfl) (Nat.le_of_ble_eq_true rfl) dX4_applyRules_184 H
  · refine J.aload_n (i := 0) C dX4_applyRules_48 rfl rfl ?_
    refine J.iload_n (i := 1) C dX4_applyRules_49 rfl rfl ?_
    refine J.aload_n (i := 0) C dX4_applyRules_50 rfl rfl ?_
    refine J.iload_n (i := 2) C dX4_applyRules_51 rfl rfl ?_
    refine J.iload_n (i := 3) C dX4_applyRules_52 rfl rfl ?_
    refine J.callVI C (sp_X4_beyondBoth hl _ _) rfl kMl_X4_110 mdX4_beyondBoth ⟨(Nat.le_of_ble_eq_true rfl), (Nat.le_of_ble_eq_true rfl)⟩ dk_4 rfl rfl (Nat.le_of_ble_eq_true rfl) dX4_applyRules_53 ⟨(Nat.le_of_ble_eq_true rfl), (Nat.le_of_ble_eq_true rfl)⟩ ?_
    refine J.callVBV (hp := (dkh g ad rst)) C rfl (sp_X4_offer hl _ _) rfl kMl_X4_91 mdX4_offer ⟨(Nat.le_of_ble_eq_true rfl), (Nat.le_of_ble_eq_true rfl)⟩ dk_4 rfl rfl (Nat.le_of_ble_eq_true rfl) dX4_applyRules_56 ⟨(Nat.le_of_ble_eq_true rfl), (Nat.le_of_ble_eq_true rfl)⟩ hx (Nat.le_of_ble_eq_true rfl) (Nat.le_of_ble_eq_true rfl) H (fun _ s56 H => ?_)
    refine J.aload_n (i := 0) C dX4_applyRules_59 rfl rfl ?_
    refine J.iload_n (i := 2) C dX4_applyRules_60 rfl rfl ?_
    refine J.aload_n (i := 0) C dX4_applyRules_61 rfl rfl ?_
    refine J.iload_n (i := 1) C dX4_applyRules_62 rfl rfl ?_
    refine J.callVI C (sp_X4_beyond hl _) rfl kMl_X4_107 mdX4_beyond ⟨(Nat.le_of_ble_eq_true rfl), (Nat.le_of_ble_eq_true rfl)⟩ dk_4 rfl rfl (Nat.le_of_ble_eq_true rfl) dX4_applyRules_63 ⟨(Nat.le_of_ble_eq_true rfl), (Nat.le_of_ble_eq_true rfl)⟩ ?_
    refine J.callVBV (hp := (dkh g ad rst)) C rfl (sp_X4_offer hl _ _) rfl kMl_X4_91 mdX4_offer ⟨(Nat.le_of_ble_eq_true rfl), (Nat.le_of_ble_eq_true rfl)⟩ dk_4 rfl rfl (Nat.le_of_ble_eq_true rfl) dX4_applyRules_66 ⟨(Nat.le_of_ble_eq_true rfl), (Nat.le_of_ble_eq_true rfl)⟩ hx (Nat.le_of_ble_eq_true rfl) (Nat.le_of_ble_eq_true rfl) H (fun _ s66 H => ?_)
    refine J.aload_n (i := 0) C dX4_applyRules_69 rfl rfl ?_
    refine J.iload_n (i := 3) C dX4_applyRules_70 rfl rfl ?_
    refine J.aload_n (i := 0) C dX4_applyRules_71 rfl rfl ?_
    refine J.iload_n (i := 1) C dX4_applyRules_72 rfl rfl ?_
    refine J.callVI C (sp_X4_beyond hl _) rfl kMl_X4_107 mdX4_beyond ⟨(Nat.le_of_ble_eq_true rfl), (Nat.le_of_ble_eq_true rfl)⟩ dk_4 rfl rfl (Nat.le_of_ble_eq_true rfl) dX4_applyRules_73 ⟨(Nat.le_of_ble_eq_true rfl), (Nat.le_of_ble_eq_true rfl)⟩ ?_
    refine J.callVBV (hp := (dkh g ad rst)) C rfl (sp_X4_offer hl _ _) rfl kMl_X4_91 mdX4_offer ⟨(Nat.le_of_ble_eq_true rfl), (Nat.le_of_ble_eq_true rfl)⟩ dk_4 rfl rfl (Nat.le_of_ble_eq_true rfl) dX4_applyRules_76 ⟨(Nat.le_of_ble_eq_true rfl), (Nat.le_of_ble_eq_true rfl)⟩ hx (Nat.le_of_ble_eq_true rfl) (Nat.le_of_ble_eq_true rfl) H (fun _ s76 H => ?_)
    refine J.goto (tgt := 184) C dX4_applyRules_79 (by decide) ?_
    exact J.vretL C hr (Nat.le_of_ble_eq_true rfl) (Nat.le_of_ble_eq_true rfl) dX4_applyRules_184 H

/-! X4_byQueue -/
def B_X4_byQueue_65 (k_8 : DS → Int32 → Int32 → Res DS Int32) (k_65 : DS → Int32 → Int32 → Int32 → Int32 → Res DS Int32) (σ : DS) (l1 : Int32) (l2 : Int32) (l3 : Int32) (l4 : Int32) : Res DS Int32 := (if (151 : Int32) ≤ l4 then (lt (l2 + (1 : Int32)) fun z108 => (k_8 σ l1 z108)) else (if (rat 151 (σ.2 26) l4) = (1 : Int32) then (if (F_X4_concerns σ l3 l4) = 0 then (lt (l4 + (1 : Int32)) fun z102 => (k_65 σ l1 l2 l3 z102)) else (bd (P_X4_applyRules σ l4) fun _ s99 => (lt (l4 + (1 : Int32)) fun z102 => (k_65 s99 l1 l2 l3 z102)))) else (lt (l4 + (1 : Int32)) fun z102 => (k_65 σ l1 l2 l3 z102))))
set_option maxRecDepth 100000 in
theorem bl_X4_byQueue_65 {l : Launch} (hl : l.stackTraces = false) {g : Gy} {ad : Nat → Nat} {rst : va_W} {p : Program} {e : Env} {s : State} {m : MethodId} {args : Array Value} {below : List Frame} {meth : Method} {c : Code} {A : Nat → Prop} (C : Cx p l s m args meth c g A yX4_byQueue.cls cX4_byQueue 5) (hr : meth.sig.returnType = some .int) (hx : ∀ x ∈ c.exceptionTable.toList, False) {rr : (Int32 ⊕ String) × DS} (k_8 : DS → Int32 → Int32 → Res DS Int32) (hk_8 : ∀ (σ : DS) (l1 : Int32) (l2 : Int32), k_8 σ l1 l2 = some rr → J p l e (rmOf 6 0 0) s m args below meth c g A 5 0 0 (QR mI g A (dkh g ad rst) rr below args s 0 0) 8 [(0, .ref (ad 4)), (1, .int l1), (2, .int l2)] [] ((dkh g ad rst) σ)) (k_65 : DS → Int32 → Int32 → Int32 → Int32 → Res DS Int32) (hk_65 : ∀ (σ : DS) (l1 : Int32) (l2 : Int32) (l3 : Int32) (l4 : Int32), k_65 σ l1 l2 l3 l4 = some rr → J p l e (rmOf 6 0 0) s m args below meth c g A 5 0 0 (QR mI g A (dkh g ad rst) rr below args s 0 0) 65 [(0, .ref (ad 4)), (1, .int l1), (2, .int l2), (3, .int l3), (4, .int l4)] [] ((dkh g ad rst) σ)) (σ : DS) (l1 : Int32) (l2 : Int32) (l3 : Int32) (l4 : Int32) (H : B_X4_byQueue_65 k_8 k_65 σ l1 l2 l3 l4 = some rr) : J p l e (rmOf 6 0 0) s m args below meth c g A 5 0 0 (QR mI g A (dkh g ad rst) rr below args s 0 0) 65 [(0, .ref (ad 4)), (1, .int l1), (2, .int l2), (3, .int l3), (4, .int l4)] [] ((dkh g ad rst) σ) := by
  unfold B_X4_byQueue_65 at H
  refine J.iload C dX4_byQueue_65 rfl ?_
  refine J.sipush C (151) dX4_byQueue_67 (by decide) ?_
  refine J.icmp_geL (tgt := 108) C dX4_byQueue_70 (by decide) H (fun c_70 H => ?_) (fun c_70 H => ?_)
  · refine J.iincL C (l2 + (1 : Int32)) dX4_byQueue_108 rfl rfl (by decide) H (fun z108 H => ?_)
    refine J.goto (tgt := 8) C dX4_byQueue_111 (by decide) ?_
    refine J.widen (k := 0) (n := 0) (Nat.le_of_ble_eq_true rfl) (Nat.le_of_ble_eq_true rfl) ?_
    refine J.lw (lv' := [(0, .ref (ad 4)), (1, .int l1), (2, .int z108)]) ⟨rfl, rfl, rfl, trivial⟩ ?_
    exact hk_8 _ _ _  H
  · refine J.aload_n (i := 0) C dX4_byQueue_73 rfl rfl ?_
    refine J.get C 4 2 dk_4 rfl (by decide) kFl_X4_16 inB_X4 rfl dX4_byQueue_74 ?_
    refine J.iload C dX4_byQueue_77 rfl ?_
    refine J.callVI C (at_26 hl _) rfl kMl_X4_45 mdX3_at ⟨(Nat.le_of_ble_eq_true rfl), (Nat.le_of_ble_eq_true rfl)⟩ dk_58 rfl rfl (Nat.le_of_ble_eq_true rfl) dX4_byQueue_79 ⟨(Nat.le_of_ble_eq_true rfl), (Nat.le_of_ble_eq_true rfl)⟩ ?_
    refine J.iconst C (1) dX4_byQueue_82 (by decide) ?_
    refine J.icmp_neL (tgt := 102) C dX4_byQueue_83 (by decide) H (fun c_83 H => ?_) (fun c_83 H => ?_)
    · refine J.iincL C (l4 + (1 : Int32)) dX4_byQueue_102 rfl rfl (by decide) H (fun z102 H => ?_)
      refine J.goto (tgt := 65) C dX4_byQueue_105 (by decide) ?_
      refine J.widen (k := 0) (n := 0) (Nat.le_of_ble_eq_true rfl) (Nat.le_of_ble_eq_true rfl) ?_
      refine J.lw (lv' := [(0, .ref (ad 4)), (1, .int l1), (2, .int l2), (3, .int l3), (4, .int z102)]) ⟨rfl, rfl, rfl, rfl, rfl, trivial⟩ ?_
      exact hk_65 _ _ _ _ _  H
    · refine J.aload_n (i := 0) C dX4_byQueue_86 rfl rfl ?_
      refine J.iload_n (i := 3) C dX4_byQueue_87 rfl rfl ?_
      refine J.iload C dX4_byQueue_88 rfl ?_
      refine J.callVI C (sp_X4_concerns hl _ _) rfl kMl_X4_49 mdX4_concerns ⟨(Nat.le_of_ble_eq_true rfl), (Nat.le_of_ble_eq_true rfl)⟩ dk_4 rfl rfl (Nat.le_of_ble_eq_true rfl) dX4_byQueue_90 ⟨(Nat.le_of_ble_eq_true rfl), (Nat.le_of_ble_eq_true rfl)⟩ ?_
      refine J.if_eqL (tgt := 102) C dX4_byQueue_93 (by decide) H (fun c_93 H => ?_) (fun c_93 H => ?_)
      · refine J.iincL C (l4 + (1 : Int32)) dX4_byQueue_102 rfl rfl (by decide) H (fun z102 H => ?_)
        refine J.goto (tgt := 65) C dX4_byQueue_105 (by decide) ?_
        refine J.widen (k := 0) (n := 0) (Nat.le_of_ble_eq_true rfl) (Nat.le_of_ble_eq_true rfl) ?_
        refine J.lw (lv' := [(0, .ref (ad 4)), (1, .int l1), (2, .int l2), (3, .int l3), (4, .int z102)]) ⟨rfl, rfl, rfl, rfl, rfl, trivial⟩ ?_
        exact hk_65 _ _ _ _ _  H
      · refine J.aload_n (i := 0) C dX4_byQueue_96 rfl rfl ?_
        refine J.iload C dX4_byQueue_97 rfl ?_
        refine J.callVBV (hp := (dkh g ad rst)) C rfl (sp_X4_applyRules hl _) rfl kMl_X4_53 mdX4_applyRules ⟨(Nat.le_of_ble_eq_true rfl), (Nat.le_of_ble_eq_true rfl)⟩ dk_4 rfl rfl (Nat.le_of_ble_eq_true rfl) dX4_byQueue_99 ⟨(Nat.le_of_ble_eq_true rfl), (Nat.le_of_ble_eq_true rfl)⟩ hx (Nat.le_of_ble_eq_true rfl) (Nat.le_of_ble_eq_true rfl) H (fun _ s99 H => ?_)
        refine J.iincL C (l4 + (1 : Int32)) dX4_byQueue_102 rfl rfl (by decide) H (fun z102 H => ?_)
        refine J.goto (tgt := 65) C dX4_byQueue_105 (by decide) ?_
        refine J.widen (k := 0) (n := 0) (Nat.le_of_ble_eq_true rfl) (Nat.le_of_ble_eq_true rfl) ?_
        refine J.lw (lv' := [(0, .ref (ad 4)), (1, .int l1), (2, .int l2), (3, .int l3), (4, .int z102)]) ⟨rfl, rfl, rfl, rfl, rfl, trivial⟩ ?_
        exact hk_65 _ _ _ _ _  H
def L_X4_byQueue_65 (k_8 : DS → Int32 → Int32 → Res DS Int32) : Nat → DS → Int32 → Int32 → Int32 → Int32 → Res DS Int32
  | 0, _, _, _, _, _ => none
  | n + 1, σ, l1, l2, l3, l4 => B_X4_byQueue_65 k_8 (L_X4_byQueue_65 k_8 n) σ l1 l2 l3 l4
set_option maxRecDepth 100000 in
theorem lp_X4_byQueue_65 {l : Launch} (hl : l.stackTraces = false) {g : Gy} {ad : Nat → Nat} {rst : va_W} {p : Program} {e : Env} {s : State} {m : MethodId} {args : Array Value} {below : List Frame} {meth : Method} {c : Code} {A : Nat → Prop} (C : Cx p l s m args meth c g A yX4_byQueue.cls cX4_byQueue 5) (hr : meth.sig.returnType = some .int) (hx : ∀ x ∈ c.exceptionTable.toList, False) {rr : (Int32 ⊕ String) × DS} (k_8 : DS → Int32 → Int32 → Res DS Int32) (hk_8 : ∀ (σ : DS) (l1 : Int32) (l2 : Int32), k_8 σ l1 l2 = some rr → J p l e (rmOf 6 0 0) s m args below meth c g A 5 0 0 (QR mI g A (dkh g ad rst) rr below args s 0 0) 8 [(0, .ref (ad 4)), (1, .int l1), (2, .int l2)] [] ((dkh g ad rst) σ)) : ∀ (n : Nat) (σ : DS) (l1 : Int32) (l2 : Int32) (l3 : Int32) (l4 : Int32), L_X4_byQueue_65 k_8 n σ l1 l2 l3 l4 = some rr → J p l e (rmOf 6 0 0) s m args below meth c g A 5 0 0 (QR mI g A (dkh g ad rst) rr below args s 0 0) 65 [(0, .ref (ad 4)), (1, .int l1), (2, .int l2), (3, .int l3), (4, .int l4)] [] ((dkh g ad rst) σ) := by
  intro n
  induction n with
  | zero => intro σ l1 l2 l3 l4 H; cases H
  | succ n ih => intro σ l1 l2 l3 l4 H; exact bl_X4_byQueue_65 hl C hr hx k_8 hk_8 _ ih _ _ _ _ _ H
def B_X4_byQueue_8 (k_8 : DS → Int32 → Int32 → Res DS Int32) (σ : DS) (l1 : Int32) (l2 : Int32) : Res DS Int32 := (if (151 : Int32) ≤ l2 then (some (.inl (rat 151 (σ.2 27) l1), σ)) else (if (σ.1 7) ≤ (σ.1 6) then (some (.inl (rat 151 (σ.2 27) l1), σ)) else (lt (rat 151 (σ.2 28) (σ.1 6)) fun z37 => (lt (sI σ 6 ((σ.1 6) + (1 : Int32))) fun s45 => (if z37 = l1 then (some (.inl (rat 151 (s45.2 27) l1), s45)) else (lt (0 : Int32) fun z63 => (L_X4_byQueue_65 k_8 FU s45 l1 l2 z37 z63)))))))
set_option maxRecDepth 100000 in
theorem bl_X4_byQueue_8 {l : Launch} (hl : l.stackTraces = false) {g : Gy} {ad : Nat → Nat} {rst : va_W} {p : Program} {e : Env} {s : State} {m : MethodId} {args : Array Value} {below : List Frame} {meth : Method} {c : Code} {A : Nat → Prop} (C : Cx p l s m args meth c g A yX4_byQueue.cls cX4_byQueue 5) (hr : meth.sig.returnType = some .int) (hx : ∀ x ∈ c.exceptionTable.toList, False) {rr : (Int32 ⊕ String) × DS} (k_8 : DS → Int32 → Int32 → Res DS Int32) (hk_8 : ∀ (σ : DS) (l1 : Int32) (l2 : Int32), k_8 σ l1 l2 = some rr → J p l e (rmOf 6 0 0) s m args below meth c g A 5 0 0 (QR mI g A (dkh g ad rst) rr below args s 0 0) 8 [(0, .ref (ad 4)), (1, .int l1), (2, .int l2)] [] ((dkh g ad rst) σ)) (σ : DS) (l1 : Int32) (l2 : Int32) (H : B_X4_byQueue_8 k_8 σ l1 l2 = some rr) : J p l e (rmOf 6 0 0) s m args below meth c g A 5 0 0 (QR mI g A (dkh g ad rst) rr below args s 0 0) 8 [(0, .ref (ad 4)), (1, .int l1), (2, .int l2)] [] ((dkh g ad rst) σ) := by
  unfold B_X4_byQueue_8 at H
  refine J.iload_n (i := 2) C dX4_byQueue_8 rfl rfl ?_
  refine J.sipush C (151) dX4_byQueue_9 (by decide) ?_
  refine J.icmp_geL (tgt := 114) C dX4_byQueue_12 (by decide) H (fun c_12 H => ?_) (fun c_12 H => ?_)
  · refine J.aload_n (i := 0) C dX4_byQueue_114 rfl rfl ?_
    refine J.get C 4 3 dk_4 rfl (by decide) kFl_X4_20 inB_X4 rfl dX4_byQueue_115 ?_
    refine J.iload_n (i := 1) C dX4_byQueue_118 rfl rfl ?_
    refine J.callVI C (at_27 hl _) rfl kMl_X4_45 mdX3_at ⟨(Nat.le_of_ble_eq_true rfl), (Nat.le_of_ble_eq_true rfl)⟩ dk_60 rfl rfl (Nat.le_of_ble_eq_true rfl) dX4_byQueue_119 ⟨(Nat.le_of_ble_eq_true rfl), (Nat.le_of_ble_eq_true rfl)⟩ ?_
    exact J.iretL C hr (Nat.le_of_ble_eq_true rfl) (Nat.le_of_ble_eq_true rfl) dX4_byQueue_122 H
  · refine J.aload_n (i := 0) C dX4_byQueue_15 rfl rfl ?_
    refine J.get C 4 5 dk_4 rfl (by decide) kFl_X4_38 inB_X4 rfl dX4_byQueue_16 ?_
    refine J.aload_n (i := 0) C dX4_byQueue_19 rfl rfl ?_
    refine J.get C 4 6 dk_4 rfl (by decide) kFl_X4_42 inB_X4 rfl dX4_byQueue_20 ?_
    refine J.icmp_geL (tgt := 114) C dX4_byQueue_23 (by decide) H (fun c_23 H => ?_) (fun c_23 H => ?_)
    · refine J.aload_n (i := 0) C dX4_byQueue_114 rfl rfl ?_
      refine J.get C 4 3 dk_4 rfl (by decide) kFl_X4_20 inB_X4 rfl dX4_byQueue_115 ?_
      refine J.iload_n (i := 1) C dX4_byQueue_118 rfl rfl ?_
      refine J.callVI C (at_27 hl _) rfl kMl_X4_45 mdX3_at ⟨(Nat.le_of_ble_eq_true rfl), (Nat.le_of_ble_eq_true rfl)⟩ dk_60 rfl rfl (Nat.le_of_ble_eq_true rfl) dX4_byQueue_119 ⟨(Nat.le_of_ble_eq_true rfl), (Nat.le_of_ble_eq_true rfl)⟩ ?_
      exact J.iretL C hr (Nat.le_of_ble_eq_true rfl) (Nat.le_of_ble_eq_true rfl) dX4_byQueue_122 H
    · refine J.aload_n (i := 0) C dX4_byQueue_26 rfl rfl ?_
      refine J.get C 4 4 dk_4 rfl (by decide) kFl_X4_23 inB_X4 rfl dX4_byQueue_27 ?_
      refine J.aload_n (i := 0) C dX4_byQueue_30 rfl rfl ?_
      refine J.get C 4 5 dk_4 rfl (by decide) kFl_X4_38 inB_X4 rfl dX4_byQueue_31 ?_
      refine J.callVI C (at_28 hl _) rfl kMl_X4_45 mdX3_at ⟨(Nat.le_of_ble_eq_true rfl), (Nat.le_of_ble_eq_true rfl)⟩ dk_62 rfl rfl (Nat.le_of_ble_eq_true rfl) dX4_byQueue_34 ⟨(Nat.le_of_ble_eq_true rfl), (Nat.le_of_ble_eq_true rfl)⟩ ?_
      refine J.istore_nL (i := 3) C dX4_byQueue_37 rfl (by decide) H (fun z37 H => ?_)
      refine J.aload_n (i := 0) C dX4_byQueue_38 rfl rfl ?_
      refine J.dup C dX4_byQueue_39 rfl ?_
      refine J.get C 4 5 dk_4 rfl (by decide) kFl_X4_38 inB_X4 rfl dX4_byQueue_40 ?_
      refine J.iconst C (1) dX4_byQueue_43 (by decide) ?_
      refine J.iadd C dX4_byQueue_44 ?_
      refine J.putL (hp := (dkh g ad rst)) C 4 5 dk_4 rfl (by decide) kFl_X4_38 inB_X4 tyX4 tyX4_ok nmX4 rfl rfl rfl rfl (Nat.le_of_ble_eq_true rfl) dX4_byQueue_45 (dkI_6 _) H (fun s45 H => ?_)
      refine J.iload_n (i := 3) C dX4_byQueue_48 rfl rfl ?_
      refine J.iload_n (i := 1) C dX4_byQueue_49 rfl rfl ?_
      refine J.icmp_neL (tgt := 62) C dX4_byQueue_50 (by decide) H (fun c_50 H => ?_) (fun c_50 H => ?_)
      · refine J.iconst C (0) dX4_byQueue_62 (by decide) ?_
        refine J.istoreL C dX4_byQueue_63 (by decide) H (fun z63 H => ?_)
        refine J.widen (k := 0) (n := 0) (Nat.le_of_ble_eq_true rfl) (Nat.le_of_ble_eq_true rfl) ?_
        refine J.lw (lv' := [(0, .ref (ad 4)), (1, .int l1), (2, .int l2), (3, .int z37), (4, .int z63)]) ⟨rfl, rfl, rfl, rfl, rfl, trivial⟩ ?_
        exact lp_X4_byQueue_65 hl C hr hx k_8 hk_8 FU _ _ _ _ _  H
      · refine J.aload_n (i := 0) C dX4_byQueue_53 rfl rfl ?_
        refine J.get C 4 3 dk_4 rfl (by decide) kFl_X4_20 inB_X4 rfl dX4_byQueue_54 ?_
        refine J.iload_n (i := 1) C dX4_byQueue_57 rfl rfl ?_
        refine J.callVI C (at_27 hl _) rfl kMl_X4_45 mdX3_at ⟨(Nat.le_of_ble_eq_true rfl), (Nat.le_of_ble_eq_true rfl)⟩ dk_60 rfl rfl (Nat.le_of_ble_eq_true rfl) dX4_byQueue_58 ⟨(Nat.le_of_ble_eq_true rfl), (Nat.le_of_ble_eq_true rfl)⟩ ?_
        exact J.iretL C hr (Nat.le_of_ble_eq_true rfl) (Nat.le_of_ble_eq_true rfl) dX4_byQueue_61 H
def L_X4_byQueue_8 : Nat → DS → Int32 → Int32 → Res DS Int32
  | 0, _, _, _ => none
  | n + 1, σ, l1, l2 => B_X4_byQueue_8 (L_X4_byQueue_8 n) σ l1 l2
set_option maxRecDepth 100000 in
theorem lp_X4_byQueue_8 {l : Launch} (hl : l.stackTraces = false) {g : Gy} {ad : Nat → Nat} {rst : va_W} {p : Program} {e : Env} {s : State} {m : MethodId} {args : Array Value} {below : List Frame} {meth : Method} {c : Code} {A : Nat → Prop} (C : Cx p l s m args meth c g A yX4_byQueue.cls cX4_byQueue 5) (hr : meth.sig.returnType = some .int) (hx : ∀ x ∈ c.exceptionTable.toList, False) {rr : (Int32 ⊕ String) × DS} : ∀ (n : Nat) (σ : DS) (l1 : Int32) (l2 : Int32), L_X4_byQueue_8 n σ l1 l2 = some rr → J p l e (rmOf 6 0 0) s m args below meth c g A 5 0 0 (QR mI g A (dkh g ad rst) rr below args s 0 0) 8 [(0, .ref (ad 4)), (1, .int l1), (2, .int l2)] [] ((dkh g ad rst) σ) := by
  intro n
  induction n with
  | zero => intro σ l1 l2 H; cases H
  | succ n ih => intro σ l1 l2 H; exact bl_X4_byQueue_8 hl C hr hx _ ih _ _ _ H
abbrev mX4_byQueue : MD := (yX4_byQueue, cX4_byQueue, 5, some .int)
theorem mdX4_byQueue : MDv mX4_byQueue RX4 1 := ⟨kIm_X4_byQueue, kSe_X4_byQueue, kIn_X4, kCo_X4_byQueue, by decide +kernel⟩
def P_X4_byQueue (σ : DS) (a1 : Int32) : Res DS Int32 := (bd (P_X4_begin σ a1 (1 : Int32)) fun _ s3 => (lt (0 : Int32) fun z7 => (L_X4_byQueue_8 FU s3 a1 z7)))
set_option maxRecDepth 100000 in
theorem sp_X4_byQueue {l : Launch} (hl : l.stackTraces = false) {g : Gy} {ad : Nat → Nat} {rst : va_W} {σ : DS} (a1 : Int32) : SpR l mX4_byQueue 6 0 0 mI g [.ref (ad 4), .int a1] (dkh g ad rst) σ (P_X4_byQueue σ a1) := by
  refine SpR.of hl (by decide) (Nat.le_of_ble_eq_true rfl) (fun rr H p e s m args below meth c A C hr hx => ?_)
  unfold P_X4_byQueue at H
  refine J.lw (lv' := [(0, .ref (ad 4)), (1, .int a1)]) ⟨rfl, rfl, trivial⟩ ?_
  refine J.aload_n (i := 0) C dX4_byQueue_0 rfl rfl ?_
  refine J.iload_n (i := 1) C dX4_byQueue_1 rfl rfl ?_
  refine J.iconst C (1) dX4_byQueue_2 (by decide) ?_
  refine J.callVBV (hp := (dkh g ad rst)) C rfl (sp_X4_begin hl _ _) rfl kMl_X4_34 mdX4_begin ⟨(Nat.le_of_ble_eq_true rfl), (Nat.le_of_ble_eq_true rfl)⟩ dk_4 rfl rfl (Nat.le_of_ble_eq_true rfl) dX4_byQueue_3 ⟨(Nat.le_of_ble_eq_true rfl), (Nat.le_of_ble_eq_true rfl)⟩ hx (Nat.le_of_ble_eq_true rfl) (Nat.le_of_ble_eq_true rfl) H (fun _ s3 H => ?_)
  refine J.iconst C (0) dX4_byQueue_6 (by decide) ?_
  refine J.istore_nL (i := 2) C dX4_byQueue_7 rfl (by decide) H (fun z7 H => ?_)
  refine J.widen (k := 0) (n := 0) (Nat.le_of_ble_eq_true rfl) (Nat.le_of_ble_eq_true rfl) ?_
  refine J.lw (lv' := [(0, .ref (ad 4)), (1, .int a1), (2, .int z7)]) ⟨rfl, rfl, rfl, trivial⟩ ?_
  exact lp_X4_byQueue_8 hl C hr hx  FU _ _ _  H

/-! X4_byRounds -/
def B_X4_byRounds_33 (k_10 : DS → Int32 → Int32 → Int32 → Res DS Int32) (k_33 : DS → Int32 → Int32 → Int32 → Int32 → Res DS Int32) (σ : DS) (l1 : Int32) (l2 : Int32) (l3 : Int32) (l4 : Int32) : Res DS Int32 := (if (151 : Int32) ≤ l4 then (lt (l3 + (1 : Int32)) fun z66 => (k_10 σ l1 l2 z66)) else (if (rat 151 (σ.2 26) l4) = (1 : Int32) then (bd (P_X4_applyRules σ l4) fun _ s57 => (lt (l4 + (1 : Int32)) fun z60 => (k_33 s57 l1 l2 l3 z60))) else (lt (l4 + (1 : Int32)) fun z60 => (k_33 σ l1 l2 l3 z60))))
set_option maxRecDepth 100000 in
theorem bl_X4_byRounds_33 {l : Launch} (hl : l.stackTraces = false) {g : Gy} {ad : Nat → Nat} {rst : va_W} {p : Program} {e : Env} {s : State} {m : MethodId} {args : Array Value} {below : List Frame} {meth : Method} {c : Code} {A : Nat → Prop} (C : Cx p l s m args meth c g A yX4_byRounds.cls cX4_byRounds 5) (hr : meth.sig.returnType = some .int) (hx : ∀ x ∈ c.exceptionTable.toList, False) {rr : (Int32 ⊕ String) × DS} (k_10 : DS → Int32 → Int32 → Int32 → Res DS Int32) (hk_10 : ∀ (σ : DS) (l1 : Int32) (l2 : Int32) (l3 : Int32), k_10 σ l1 l2 l3 = some rr → J p l e (rmOf 6 0 0) s m args below meth c g A 5 0 0 (QR mI g A (dkh g ad rst) rr below args s 0 0) 10 [(0, .ref (ad 4)), (1, .int l1), (2, .int l2), (3, .int l3)] [] ((dkh g ad rst) σ)) (k_33 : DS → Int32 → Int32 → Int32 → Int32 → Res DS Int32) (hk_33 : ∀ (σ : DS) (l1 : Int32) (l2 : Int32) (l3 : Int32) (l4 : Int32), k_33 σ l1 l2 l3 l4 = some rr → J p l e (rmOf 6 0 0) s m args below meth c g A 5 0 0 (QR mI g A (dkh g ad rst) rr below args s 0 0) 33 [(0, .ref (ad 4)), (1, .int l1), (2, .int l2), (3, .int l3), (4, .int l4)] [] ((dkh g ad rst) σ)) (σ : DS) (l1 : Int32) (l2 : Int32) (l3 : Int32) (l4 : Int32) (H : B_X4_byRounds_33 k_10 k_33 σ l1 l2 l3 l4 = some rr) : J p l e (rmOf 6 0 0) s m args below meth c g A 5 0 0 (QR mI g A (dkh g ad rst) rr below args s 0 0) 33 [(0, .ref (ad 4)), (1, .int l1), (2, .int l2), (3, .int l3), (4, .int l4)] [] ((dkh g ad rst) σ) := by
  unfold B_X4_byRounds_33 at H
  refine J.iload C dX4_byRounds_33 rfl ?_
  refine J.sipush C (151) dX4_byRounds_35 (by decide) ?_
  refine J.icmp_geL (tgt := 66) C dX4_byRounds_38 (by decide) H (fun c_38 H => ?_) (fun c_38 H => ?_)
  · refine J.iincL C (l3 + (1 : Int32)) dX4_byRounds_66 rfl rfl (by decide) H (fun z66 H => ?_)
    refine J.goto (tgt := 10) C dX4_byRounds_69 (by decide) ?_
    refine J.widen (k := 0) (n := 0) (Nat.le_of_ble_eq_true rfl) (Nat.le_of_ble_eq_true rfl) ?_
    refine J.lw (lv' := [(0, .ref (ad 4)), (1, .int l1), (2, .int l2), (3, .int z66)]) ⟨rfl, rfl, rfl, rfl, trivial⟩ ?_
    exact hk_10 _ _ _ _  H
  · refine J.aload_n (i := 0) C dX4_byRounds_41 rfl rfl ?_
    refine J.get C 4 2 dk_4 rfl (by decide) kFl_X4_16 inB_X4 rfl dX4_byRounds_42 ?_
    refine J.iload C dX4_byRounds_45 rfl ?_
    refine J.callVI C (at_26 hl _) rfl kMl_X4_45 mdX3_at ⟨(Nat.le_of_ble_eq_true rfl), (Nat.le_of_ble_eq_true rfl)⟩ dk_58 rfl rfl (Nat.le_of_ble_eq_true rfl) dX4_byRounds_47 ⟨(Nat.le_of_ble_eq_true rfl), (Nat.le_of_ble_eq_true rfl)⟩ ?_
    refine J.iconst C (1) dX4_byRounds_50 (by decide) ?_
    refine J.icmp_neL (tgt := 60) C dX4_byRounds_51 (by decide) H (fun c_51 H => ?_) (fun c_51 H => ?_)
    · refine J.iincL C (l4 + (1 : Int32)) dX4_byRounds_60 rfl rfl (by decide) H (fun z60 H => ?_)
      refine J.goto (tgt := 33) C dX4_byRounds_63 (by decide) ?_
      refine J.widen (k := 0) (n := 0) (Nat.le_of_ble_eq_true rfl) (Nat.le_of_ble_eq_true rfl) ?_
      refine J.lw (lv' := [(0, .ref (ad 4)), (1, .int l1), (2, .int l2), (3, .int l3), (4, .int z60)]) ⟨rfl, rfl, rfl, rfl, rfl, trivial⟩ ?_
      exact hk_33 _ _ _ _ _  H
    · refine J.aload_n (i := 0) C dX4_byRounds_54 rfl rfl ?_
      refine J.iload C dX4_byRounds_55 rfl ?_
      refine J.callVBV (hp := (dkh g ad rst)) C rfl (sp_X4_applyRules hl _) rfl kMl_X4_53 mdX4_applyRules ⟨(Nat.le_of_ble_eq_true rfl), (Nat.le_of_ble_eq_true rfl)⟩ dk_4 rfl rfl (Nat.le_of_ble_eq_true rfl) dX4_byRounds_57 ⟨(Nat.le_of_ble_eq_true rfl), (Nat.le_of_ble_eq_true rfl)⟩ hx (Nat.le_of_ble_eq_true rfl) (Nat.le_of_ble_eq_true rfl) H (fun _ s57 H => ?_)
      refine J.iincL C (l4 + (1 : Int32)) dX4_byRounds_60 rfl rfl (by decide) H (fun z60 H => ?_)
      refine J.goto (tgt := 33) C dX4_byRounds_63 (by decide) ?_
      refine J.widen (k := 0) (n := 0) (Nat.le_of_ble_eq_true rfl) (Nat.le_of_ble_eq_true rfl) ?_
      refine J.lw (lv' := [(0, .ref (ad 4)), (1, .int l1), (2, .int l2), (3, .int l3), (4, .int z60)]) ⟨rfl, rfl, rfl, rfl, rfl, trivial⟩ ?_
      exact hk_33 _ _ _ _ _  H
def L_X4_byRounds_33 (k_10 : DS → Int32 → Int32 → Int32 → Res DS Int32) : Nat → DS → Int32 → Int32 → Int32 → Int32 → Res DS Int32
  | 0, _, _, _, _, _ => none
  | n + 1, σ, l1, l2, l3, l4 => B_X4_byRounds_33 k_10 (L_X4_byRounds_33 k_10 n) σ l1 l2 l3 l4
set_option maxRecDepth 100000 in
theorem lp_X4_byRounds_33 {l : Launch} (hl : l.stackTraces = false) {g : Gy} {ad : Nat → Nat} {rst : va_W} {p : Program} {e : Env} {s : State} {m : MethodId} {args : Array Value} {below : List Frame} {meth : Method} {c : Code} {A : Nat → Prop} (C : Cx p l s m args meth c g A yX4_byRounds.cls cX4_byRounds 5) (hr : meth.sig.returnType = some .int) (hx : ∀ x ∈ c.exceptionTable.toList, False) {rr : (Int32 ⊕ String) × DS} (k_10 : DS → Int32 → Int32 → Int32 → Res DS Int32) (hk_10 : ∀ (σ : DS) (l1 : Int32) (l2 : Int32) (l3 : Int32), k_10 σ l1 l2 l3 = some rr → J p l e (rmOf 6 0 0) s m args below meth c g A 5 0 0 (QR mI g A (dkh g ad rst) rr below args s 0 0) 10 [(0, .ref (ad 4)), (1, .int l1), (2, .int l2), (3, .int l3)] [] ((dkh g ad rst) σ)) : ∀ (n : Nat) (σ : DS) (l1 : Int32) (l2 : Int32) (l3 : Int32) (l4 : Int32), L_X4_byRounds_33 k_10 n σ l1 l2 l3 l4 = some rr → J p l e (rmOf 6 0 0) s m args below meth c g A 5 0 0 (QR mI g A (dkh g ad rst) rr below args s 0 0) 33 [(0, .ref (ad 4)), (1, .int l1), (2, .int l2), (3, .int l3), (4, .int l4)] [] ((dkh g ad rst) σ) := by
  intro n
  induction n with
  | zero => intro σ l1 l2 l3 l4 H; cases H
  | succ n ih => intro σ l1 l2 l3 l4 H; exact bl_X4_byRounds_33 hl C hr hx k_10 hk_10 _ ih _ _ _ _ _ H
def B_X4_byRounds_10 (k_10 : DS → Int32 → Int32 → Int32 → Res DS Int32) (σ : DS) (l1 : Int32) (l2 : Int32) (l3 : Int32) : Res DS Int32 := (if (151 : Int32) < l3 then (some (.inl (rat 151 (σ.2 27) l1), σ)) else (if (σ.1 10) = l2 then (some (.inl (rat 151 (σ.2 27) l1), σ)) else (lt (σ.1 10) fun z29 => (lt (0 : Int32) fun z31 => (L_X4_byRounds_33 k_10 FU σ l1 z29 l3 z31)))))
set_option maxRecDepth 100000 in
theorem bl_X4_byRounds_10 {l : Launch} (hl : l.stackTraces = false) {g : Gy} {ad : Nat → Nat} {rst : va_W} {p : Program} {e : Env} {s : State} {m : MethodId} {args : Array Value} {below : List Frame} {meth : Method} {c : Code} {A : Nat → Prop} (C : Cx p l s m args meth c g A yX4_byRounds.cls cX4_byRounds 5) (hr : meth.sig.returnType = some .int) (hx : ∀ x ∈ c.exceptionTable.toList, False) {rr : (Int32 ⊕ String) × DS} (k_10 : DS → Int32 → Int32 → Int32 → Res DS Int32) (hk_10 : ∀ (σ : DS) (l1 : Int32) (l2 : Int32) (l3 : Int32), k_10 σ l1 l2 l3 = some rr → J p l e (rmOf 6 0 0) s m args below meth c g A 5 0 0 (QR mI g A (dkh g ad rst) rr below args s 0 0) 10 [(0, .ref (ad 4)), (1, .int l1), (2, .int l2), (3, .int l3)] [] ((dkh g ad rst) σ)) (σ : DS) (l1 : Int32) (l2 : Int32) (l3 : Int32) (H : B_X4_byRounds_10 k_10 σ l1 l2 l3 = some rr) : J p l e (rmOf 6 0 0) s m args below meth c g A 5 0 0 (QR mI g A (dkh g ad rst) rr below args s 0 0) 10 [(0, .ref (ad 4)), (1, .int l1), (2, .int l2), (3, .int l3)] [] ((dkh g ad rst) σ) := by
  unfold B_X4_byRounds_10 at H
  refine J.iload_n (i := 3) C dX4_byRounds_10 rfl rfl ?_
  refine J.sipush C (151) dX4_byRounds_11 (by decide) ?_
  refine J.icmp_gtL (tgt := 72) C dX4_byRounds_14 (by decide) H (fun c_14 H => ?_) (fun c_14 H => ?_)
  · refine J.aload_n (i := 0) C dX4_byRounds_72 rfl rfl ?_
    refine J.get C 4 3 dk_4 rfl (by decide) kFl_X4_20 inB_X4 rfl dX4_byRounds_73 ?_
    refine J.iload_n (i := 1) C dX4_byRounds_76 rfl rfl ?_
    refine J.callVI C (at_27 hl _) rfl kMl_X4_45 mdX3_at ⟨(Nat.le_of_ble_eq_true rfl), (Nat.le_of_ble_eq_true rfl)⟩ dk_60 rfl rfl (Nat.le_of_ble_eq_true rfl) dX4_byRounds_77 ⟨(Nat.le_of_ble_eq_true rfl), (Nat.le_of_ble_eq_true rfl)⟩ ?_
    exact J.iretL C hr (Nat.le_of_ble_eq_true rfl) (Nat.le_of_ble_eq_true rfl) dX4_byRounds_80 H
  · refine J.aload_n (i := 0) C dX4_byRounds_17 rfl rfl ?_
    refine J.get C 4 9 dk_4 rfl (by decide) kFl_X4_56 inB_X4 rfl dX4_byRounds_18 ?_
    refine J.iload_n (i := 2) C dX4_byRounds_21 rfl rfl ?_
    refine J.icmp_eqL (tgt := 72) C dX4_byRounds_22 (by decide) H (fun c_22 H => ?_) (fun c_22 H => ?_)
    · refine J.aload_n (i := 0) C dX4_byRounds_72 rfl rfl ?_
      refine J.get C 4 3 dk_4 rfl (by decide) kFl_X4_20 inB_X4 rfl dX4_byRounds_73 ?_
      refine J.iload_n (i := 1) C dX4_byRounds_76 rfl rfl ?_
      refine J.callVI C (at_27 hl _) rfl kMl_X4_45 mdX3_at ⟨(Nat.le_of_ble_eq_true rfl), (Nat.le_of_ble_eq_true rfl)⟩ dk_60 rfl rfl (Nat.le_of_ble_eq_true rfl) dX4_byRounds_77 ⟨(Nat.le_of_ble_eq_true rfl), (Nat.le_of_ble_eq_true rfl)⟩ ?_
      exact J.iretL C hr (Nat.le_of_ble_eq_true rfl) (Nat.le_of_ble_eq_true rfl) dX4_byRounds_80 H
    · refine J.aload_n (i := 0) C dX4_byRounds_25 rfl rfl ?_
      refine J.get C 4 9 dk_4 rfl (by decide) kFl_X4_56 inB_X4 rfl dX4_byRounds_26 ?_
      refine J.istore_nL (i := 2) C dX4_byRounds_29 rfl (by decide) H (fun z29 H => ?_)
      refine J.iconst C (0) dX4_byRounds_30 (by decide) ?_
      refine J.istoreL C dX4_byRounds_31 (by decide) H (fun z31 H => ?_)
      refine J.widen (k := 0) (n := 0) (Nat.le_of_ble_eq_true rfl) (Nat.le_of_ble_eq_true rfl) ?_
      refine J.lw (lv' := [(0, .ref (ad 4)), (1, .int l1), (2, .int z29), (3, .int l3), (4, .int z31)]) ⟨rfl, rfl, rfl, rfl, rfl, trivial⟩ ?_
      exact lp_X4_byRounds_33 hl C hr hx k_10 hk_10 FU _ _ _ _ _  H
def L_X4_byRounds_10 : Nat → DS → Int32 → Int32 → Int32 → Res DS Int32
  | 0, _, _, _, _ => none
  | n + 1, σ, l1, l2, l3 => B_X4_byRounds_10 (L_X4_byRounds_10 n) σ l1 l2 l3
set_option maxRecDepth 100000 in
theorem lp_X4_byRounds_10 {l : Launch} (hl : l.stackTraces = false) {g : Gy} {ad : Nat → Nat} {rst : va_W} {p : Program} {e : Env} {s : State} {m : MethodId} {args : Array Value} {below : List Frame} {meth : Method} {c : Code} {A : Nat → Prop} (C : Cx p l s m args meth c g A yX4_byRounds.cls cX4_byRounds 5) (hr : meth.sig.returnType = some .int) (hx : ∀ x ∈ c.exceptionTable.toList, False) {rr : (Int32 ⊕ String) × DS} : ∀ (n : Nat) (σ : DS) (l1 : Int32) (l2 : Int32) (l3 : Int32), L_X4_byRounds_10 n σ l1 l2 l3 = some rr → J p l e (rmOf 6 0 0) s m args below meth c g A 5 0 0 (QR mI g A (dkh g ad rst) rr below args s 0 0) 10 [(0, .ref (ad 4)), (1, .int l1), (2, .int l2), (3, .int l3)] [] ((dkh g ad rst) σ) := by
  intro n
  induction n with
  | zero => intro σ l1 l2 l3 H; cases H
  | succ n ih => intro σ l1 l2 l3 H; exact bl_X4_byRounds_10 hl C hr hx _ ih _ _ _ _ H
abbrev mX4_byRounds : MD := (yX4_byRounds, cX4_byRounds, 5, some .int)
theorem mdX4_byRounds : MDv mX4_byRounds RX4 1 := ⟨kIm_X4_byRounds, kSe_X4_byRounds, kIn_X4, kCo_X4_byRounds, by decide +kernel⟩
def P_X4_byRounds (σ : DS) (a1 : Int32) : Res DS Int32 := (bd (P_X4_begin σ a1 (0 : Int32)) fun _ s3 => (lt (-1 : Int32) fun z7 => (lt (0 : Int32) fun z9 => (L_X4_byRounds_10 FU s3 a1 z7 z9))))
set_option maxRecDepth 100000 in
theorem sp_X4_byRounds {l : Launch} (hl : l.stackTraces = false) {g : Gy} {ad : Nat → Nat} {rst : va_W} {σ : DS} (a1 : Int32) : SpR l mX4_byRounds 6 0 0 mI g [.ref (ad 4), .int a1] (dkh g ad rst) σ (P_X4_byRounds σ a1) := by
  refine SpR.of hl (by decide) (Nat.le_of_ble_eq_true rfl) (fun rr H p e s m args below meth c A C hr hx => ?_)
  unfold P_X4_byRounds at H
  refine J.lw (lv' := [(0, .ref (ad 4)), (1, .int a1)]) ⟨rfl, rfl, trivial⟩ ?_
  refine J.aload_n (i := 0) C dX4_byRounds_0 rfl rfl ?_
  refine J.iload_n (i := 1) C dX4_byRounds_1 rfl rfl ?_
  refine J.iconst C (0) dX4_byRounds_2 (by decide) ?_
  refine J.callVBV (hp := (dkh g ad rst)) C rfl (sp_X4_begin hl _ _) rfl kMl_X4_34 mdX4_begin ⟨(Nat.le_of_ble_eq_true rfl), (Nat.le_of_ble_eq_true rfl)⟩ dk_4 rfl rfl (Nat.le_of_ble_eq_true rfl) dX4_byRounds_3 ⟨(Nat.le_of_ble_eq_true rfl), (Nat.le_of_ble_eq_true rfl)⟩ hx (Nat.le_of_ble_eq_true rfl) (Nat.le_of_ble_eq_true rfl) H (fun _ s3 H => ?_)
  refine J.iconst C (-1) dX4_byRounds_6 (by decide) ?_
  refine J.istore_nL (i := 2) C dX4_byRounds_7 rfl (by decide) H (fun z7 H => ?_)
  refine J.iconst C (0) dX4_byRounds_8 (by decide) ?_
  refine J.istore_nL (i := 3) C dX4_byRounds_9 rfl (by decide) H (fun z9 H => ?_)
  refine J.widen (k := 0) (n := 0) (Nat.le_of_ble_eq_true rfl) (Nat.le_of_ble_eq_true rfl) ?_
  refine J.lw (lv' := [(0, .ref (ad 4)), (1, .int a1), (2, .int z7), (3, .int z9)]) ⟨rfl, rfl, rfl, rfl, trivial⟩ ?_
  exact lp_X4_byRounds_10 hl C hr hx  FU _ _ _ _  H

