/-! L_some -/
abbrev mL_some : MD := (yL_some, cL_some, 3, some .int)
theorem mdL_some : MDs mL_some 2 := ⟨kSt_L_some, kIn_L, kCo_L_some, by decide +kernel⟩
def P_L_some (σ : DS) (a0 : Int32) (a1 : Int32) : Res DS Int32 := (gc (¬ a1 = 0) (lt (irm a0 a1) fun z3 => (if 0 ≤ z3 then (some (.inl z3, σ)) else (some (.inl (z3 + a1), σ)))))
set_option maxRecDepth 100000 in
theorem sp_L_some {l : Launch} (hl : l.stackTraces = false) {g : Gy} {ad : Nat → Nat} {rst : va_W} {σ : DS} (a0 : Int32) (a1 : Int32) : SpR l mL_some 1 0 0 mI g [.int a0, .int a1] (dkh g ad rst) σ (P_L_some σ a0 a1) := by
  refine SpR.of hl (by decide) (Nat.le_of_ble_eq_true rfl) (fun rr H p e s m args below meth c A C hr hx => ?_)
  unfold P_L_some at H
  refine J.lw (lv' := [(0, .int a0), (1, .int a1)]) ⟨rfl, rfl, trivial⟩ ?_
  refine J.iload_n (i := 0) C dL_some_0 rfl rfl ?_
  refine J.iload_n (i := 1) C dL_some_1 rfl rfl ?_
  refine J.iremL C dL_some_2 H (fun H => ?_)
  refine J.istore_nL (i := 2) C dL_some_3 rfl (by decide) H (fun z3 H => ?_)
  refine J.iload_n (i := 2) C dL_some_4 rfl rfl ?_
  refine J.if_geL (tgt := 14) C dL_some_5 (by decide) H (fun c_5 H => ?_) (fun c_5 H => ?_)
  · refine J.iload_n (i := 2) C dL_some_14 rfl rfl ?_
    exact J.iretL C hr (by omega) (by omega) dL_some_15 H
  · refine J.iload_n (i := 2) C dL_some_8 rfl rfl ?_
    refine J.iload_n (i := 1) C dL_some_9 rfl rfl ?_
    refine J.iadd C dL_some_10 ?_
    refine J.goto (tgt := 15) C dL_some_11 (by decide) ?_
    exact J.iretL C hr (by omega) (by omega) dL_some_15 H

/-! L_letter -/
abbrev mL_letter : MD := (yL_letter, cL_letter, 3, some .int)
abbrev hL_letter : HH := [(0, 5, 6, 13), (0, 5, 11, 15)]
theorem mdL_letter : MDh mL_letter hL_letter 2 := ⟨kSt_L_letter, kIn_L, kCw_L_letter, by decide +kernel⟩
def P_L_letter (σ : DS) (a1 : Int32) : Res DS Int32 := (hdl [("java/lang/IllegalArgumentException", (-1001 : Int32)), ("java/lang/IllegalStateException", (-1002 : Int32))] (P_X6_letter σ a1) fun r2 s2 => (some (.inl r2, s2)))
set_option maxRecDepth 100000 in
theorem sp_L_letter {l : Launch} (hl : l.stackTraces = false) {g : Gy} {ad : Nat → Nat} {rst : va_W} {σ : DS} (a1 : Int32) : SpHR l mL_letter hL_letter 9 2 12 mI g [.ref (ad 0), .int a1] (dkh g ad rst) σ (P_L_letter σ a1) := by
  refine SpHR.of hl (by decide) (Nat.le_of_ble_eq_true rfl) (fun rr H p e s m args below meth c A C hr ht => ?_)
  unfold P_L_letter at H
  refine J.lw (lv' := [(0, .ref (ad 0)), (1, .int a1)]) ⟨rfl, rfl, trivial⟩ ?_
  refine J.aload_n (i := 0) C dL_letter_0 rfl rfl ?_
  refine J.iload_n (i := 1) C dL_letter_1 rfl rfl ?_
  refine J.callHV (hp := (dkh g ad rst)) C rfl (sp_X6_letter hl _) rfl kMl_L_7 mdX6_letter ⟨(Nat.le_of_ble_eq_true rfl), (Nat.le_of_ble_eq_true rfl)⟩ dk_0 rfl rfl (Nat.le_of_ble_eq_true rfl) dL_letter_2 ⟨by show _ ≤ (2 : Nat); omega, by show _ ≤ (12 : Nat); omega⟩ H (fun E v σ1 hk hrr => ?_) (fun r2 s2 H => ?_)
  · rcases hlookup_cons hk with ⟨rfl, rfl⟩ | ⟨ne0, hk⟩
    · refine J.catch C ht [] [(0, 5, 11, 15)] { startPc := 0, endPc := 5, handlerPc := 6, catchType := 13 } rfl (by decide) (fun _ hz => absurd hz List.not_mem_nil) rfl (by decide) kCl_L_13 cast_IllegalArgumentException (fun q => ?_)
      refine J.astore_n (i := 2) C dL_letter_6 rfl (by decide) ?_
      refine J.sipush C (-1001) dL_letter_7 (by decide) ?_
      exact J.iretL C hr (by omega) (by omega) dL_letter_10 hrr
    rcases hlookup_cons hk with ⟨rfl, rfl⟩ | ⟨ne1, hk⟩
    · refine J.catch C ht [(0, 5, 6, 13)] [] { startPc := 0, endPc := 5, handlerPc := 11, catchType := 15 } rfl (by decide) (List.forall_mem_cons.mpr ⟨Or.inr ⟨by decide, _, kCl_L_13, by decide, by decide⟩, fun _ hz => absurd hz List.not_mem_nil⟩) rfl (by decide) kCl_L_15 cast_IllegalStateException (fun q => ?_)
      refine J.astore_n (i := 2) C dL_letter_11 rfl (by decide) ?_
      refine J.sipush C (-1002) dL_letter_12 (by decide) ?_
      exact J.iretL C hr (by omega) (by omega) dL_letter_15 hrr
    exact (hlookup_nil hk).elim
  exact J.iretL C hr (by omega) (by omega) dL_letter_5 H

/-! L_falsum -/
abbrev mL_falsum : MD := (yL_falsum, cL_falsum, 2, some .int)
abbrev hL_falsum : HH := [(0, 4, 5, 15)]
theorem mdL_falsum : MDh mL_falsum hL_falsum 1 := ⟨kSt_L_falsum, kIn_L, kCw_L_falsum, by decide +kernel⟩
def P_L_falsum (σ : DS)  : Res DS Int32 := (hdl [("java/lang/IllegalStateException", (-1001 : Int32))] (P_X6_falsum σ ) fun r1 s1 => (some (.inl r1, s1)))
set_option maxRecDepth 100000 in
theorem sp_L_falsum {l : Launch} (hl : l.stackTraces = false) {g : Gy} {ad : Nat → Nat} {rst : va_W} {σ : DS}  : SpHR l mL_falsum hL_falsum 9 1 6 mI g [.ref (ad 0)] (dkh g ad rst) σ (P_L_falsum σ ) := by
  refine SpHR.of hl (by decide) (Nat.le_of_ble_eq_true rfl) (fun rr H p e s m args below meth c A C hr ht => ?_)
  unfold P_L_falsum at H
  refine J.lw (lv' := [(0, .ref (ad 0))]) ⟨rfl, trivial⟩ ?_
  refine J.aload_n (i := 0) C dL_falsum_0 rfl rfl ?_
  refine J.callHV (hp := (dkh g ad rst)) C rfl (sp_X6_falsum hl ) rfl kMl_L_17 mdX6_falsum ⟨(Nat.le_of_ble_eq_true rfl), (Nat.le_of_ble_eq_true rfl)⟩ dk_0 rfl rfl (Nat.le_of_ble_eq_true rfl) dL_falsum_1 ⟨by show _ ≤ (1 : Nat); omega, by show _ ≤ (6 : Nat); omega⟩ H (fun E v σ1 hk hrr => ?_) (fun r1 s1 H => ?_)
  · rcases hlookup_cons hk with ⟨rfl, rfl⟩ | ⟨ne0, hk⟩
    · refine J.catch C ht [] [] { startPc := 0, endPc := 4, handlerPc := 5, catchType := 15 } rfl (by decide) (fun _ hz => absurd hz List.not_mem_nil) rfl (by decide) kCl_L_15 cast_IllegalStateException (fun q => ?_)
      refine J.astore_n (i := 1) C dL_falsum_5 rfl (by decide) ?_
      refine J.sipush C (-1001) dL_falsum_6 (by decide) ?_
      exact J.iretL C hr (by omega) (by omega) dL_falsum_9 hrr
    exact (hlookup_nil hk).elim
  exact J.iretL C hr (by omega) (by omega) dL_falsum_4 H

/-! L_joins -/
abbrev mL_joins : MD := (yL_joins, cL_joins, 5, some .int)
abbrev hL_joins : HH := [(0, 50, 51, 34), (0, 50, 57, 15)]
theorem mdL_joins : MDh mL_joins hL_joins 4 := ⟨kSt_L_joins, kIn_L, kCw_L_joins, by decide +kernel⟩
def P_L_joins (σ : DS) (a1 : Int32) (a2 : Int32) (a3 : Int32) : Res DS Int32 := (if a1 = (78 : Int32) then (hdl [("java/lang/IndexOutOfBoundsException", (-1001 : Int32)), ("java/lang/IllegalStateException", (-1002 : Int32))] (P_X6_negation σ a2) fun r8 s8 => (some (.inl r8, s8))) else (if a1 = (75 : Int32) then (hdl [("java/lang/IndexOutOfBoundsException", (-1001 : Int32)), ("java/lang/IllegalStateException", (-1002 : Int32))] (P_X6_conjunction σ a2 a3) fun r23 s23 => (some (.inl r23, s23))) else (if a1 = (65 : Int32) then (hdl [("java/lang/IndexOutOfBoundsException", (-1001 : Int32)), ("java/lang/IllegalStateException", (-1002 : Int32))] (P_X6_disjunction σ a2 a3) fun r38 s38 => (some (.inl r38, s38))) else (hdl [("java/lang/IndexOutOfBoundsException", (-1001 : Int32)), ("java/lang/IllegalStateException", (-1002 : Int32))] (P_X6_implication σ a2 a3) fun r47 s47 => (some (.inl r47, s47))))))
set_option maxRecDepth 100000 in
theorem sp_L_joins {l : Launch} (hl : l.stackTraces = false) {g : Gy} {ad : Nat → Nat} {rst : va_W} {σ : DS} (a1 : Int32) (a2 : Int32) (a3 : Int32) : SpHR l mL_joins hL_joins 10 3 18 mI g [.ref (ad 0), .int a1, .int a2, .int a3] (dkh g ad rst) σ (P_L_joins σ a1 a2 a3) := by
  refine SpHR.of hl (by decide) (Nat.le_of_ble_eq_true rfl) (fun rr H p e s m args below meth c A C hr ht => ?_)
  unfold P_L_joins at H
  refine J.lw (lv' := [(0, .ref (ad 0)), (1, .int a1), (2, .int a2), (3, .int a3)]) ⟨rfl, rfl, rfl, rfl, trivial⟩ ?_
  refine J.iload_n (i := 1) C dL_joins_0 rfl rfl ?_
  refine J.bipush C (78) dL_joins_1 (by decide) ?_
  refine J.icmp_neL (tgt := 14) C dL_joins_3 (by decide) H (fun c_3 H => ?_) (fun c_3 H => ?_)
  · refine J.iload_n (i := 1) C dL_joins_14 rfl rfl ?_
    refine J.bipush C (75) dL_joins_15 (by decide) ?_
    refine J.icmp_neL (tgt := 29) C dL_joins_17 (by decide) H (fun c_17 H => ?_) (fun c_17 H => ?_)
    · refine J.iload_n (i := 1) C dL_joins_29 rfl rfl ?_
      refine J.bipush C (65) dL_joins_30 (by decide) ?_
      refine J.icmp_neL (tgt := 44) C dL_joins_32 (by decide) H (fun c_32 H => ?_) (fun c_32 H => ?_)
      · refine J.aload_n (i := 0) C dL_joins_44 rfl rfl ?_
        refine J.iload_n (i := 2) C dL_joins_45 rfl rfl ?_
        refine J.iload_n (i := 3) C dL_joins_46 rfl rfl ?_
        refine J.callHV (hp := (dkh g ad rst)) C rfl (sp_X6_implication hl _ _) rfl kMl_L_31 mdX6_implication ⟨(Nat.le_of_ble_eq_true rfl), (Nat.le_of_ble_eq_true rfl)⟩ dk_0 rfl rfl (Nat.le_of_ble_eq_true rfl) dL_joins_47 ⟨by show _ ≤ (3 : Nat); omega, by show _ ≤ (18 : Nat); omega⟩ H (fun E v σ1 hk hrr => ?_) (fun r47 s47 H => ?_)
        · rcases hlookup_cons hk with ⟨rfl, rfl⟩ | ⟨ne0, hk⟩
          · refine J.catch C ht [] [(0, 50, 57, 15)] { startPc := 0, endPc := 50, handlerPc := 51, catchType := 34 } rfl (by decide) (fun _ hz => absurd hz List.not_mem_nil) rfl (by decide) kCl_L_34 cast_IndexOutOfBoundsException (fun q => ?_)
            refine J.astore C dL_joins_51 (by decide) ?_
            refine J.sipush C (-1001) dL_joins_53 (by decide) ?_
            exact J.iretL C hr (by omega) (by omega) dL_joins_56 hrr
          rcases hlookup_cons hk with ⟨rfl, rfl⟩ | ⟨ne1, hk⟩
          · refine J.catch C ht [(0, 50, 51, 34)] [] { startPc := 0, endPc := 50, handlerPc := 57, catchType := 15 } rfl (by decide) (List.forall_mem_cons.mpr ⟨Or.inr ⟨by decide, _, kCl_L_34, by decide, by decide⟩, fun _ hz => absurd hz List.not_mem_nil⟩) rfl (by decide) kCl_L_15 cast_IllegalStateException (fun q => ?_)
            refine J.astore C dL_joins_57 (by decide) ?_
            refine J.sipush C (-1002) dL_joins_59 (by decide) ?_
            exact J.iretL C hr (by omega) (by omega) dL_joins_62 hrr
          exact (hlookup_nil hk).elim
        exact J.iretL C hr (by omega) (by omega) dL_joins_50 H
      · refine J.aload_n (i := 0) C dL_joins_35 rfl rfl ?_
        refine J.iload_n (i := 2) C dL_joins_36 rfl rfl ?_
        refine J.iload_n (i := 3) C dL_joins_37 rfl rfl ?_
        refine J.callHV (hp := (dkh g ad rst)) C rfl (sp_X6_disjunction hl _ _) rfl kMl_L_28 mdX6_disjunction ⟨(Nat.le_of_ble_eq_true rfl), (Nat.le_of_ble_eq_true rfl)⟩ dk_0 rfl rfl (Nat.le_of_ble_eq_true rfl) dL_joins_38 ⟨by show _ ≤ (3 : Nat); omega, by show _ ≤ (18 : Nat); omega⟩ H (fun E v σ1 hk hrr => ?_) (fun r38 s38 H => ?_)
        · rcases hlookup_cons hk with ⟨rfl, rfl⟩ | ⟨ne0, hk⟩
          · refine J.catch C ht [] [(0, 50, 57, 15)] { startPc := 0, endPc := 50, handlerPc := 51, catchType := 34 } rfl (by decide) (fun _ hz => absurd hz List.not_mem_nil) rfl (by decide) kCl_L_34 cast_IndexOutOfBoundsException (fun q => ?_)
            refine J.astore C dL_joins_51 (by decide) ?_
            refine J.sipush C (-1001) dL_joins_53 (by decide) ?_
            exact J.iretL C hr (by omega) (by omega) dL_joins_56 hrr
          rcases hlookup_cons hk with ⟨rfl, rfl⟩ | ⟨ne1, hk⟩
          · refine J.catch C ht [(0, 50, 51, 34)] [] { startPc := 0, endPc := 50, handlerPc := 57, catchType := 15 } rfl (by decide) (List.forall_mem_cons.mpr ⟨Or.inr ⟨by decide, _, kCl_L_34, by decide, by decide⟩, fun _ hz => absurd hz List.not_mem_nil⟩) rfl (by decide) kCl_L_15 cast_IllegalStateException (fun q => ?_)
            refine J.astore C dL_joins_57 (by decide) ?_
            refine J.sipush C (-1002) dL_joins_59 (by decide) ?_
            exact J.iretL C hr (by omega) (by omega) dL_joins_62 hrr
          exact (hlookup_nil hk).elim
        refine J.goto (tgt := 50) C dL_joins_41 (by decide) ?_
        exact J.iretL C hr (by omega) (by omega) dL_joins_50 H
    · refine J.aload_n (i := 0) C dL_joins_20 rfl rfl ?_
      refine J.iload_n (i := 2) C dL_joins_21 rfl rfl ?_
      refine J.iload_n (i := 3) C dL_joins_22 rfl rfl ?_
      refine J.callHV (hp := (dkh g ad rst)) C rfl (sp_X6_conjunction hl _ _) rfl kMl_L_24 mdX6_conjunction ⟨(Nat.le_of_ble_eq_true rfl), (Nat.le_of_ble_eq_true rfl)⟩ dk_0 rfl rfl (Nat.le_of_ble_eq_true rfl) dL_joins_23 ⟨by show _ ≤ (3 : Nat); omega, by show _ ≤ (18 : Nat); omega⟩ H (fun E v σ1 hk hrr => ?_) (fun r23 s23 H => ?_)
      · rcases hlookup_cons hk with ⟨rfl, rfl⟩ | ⟨ne0, hk⟩
        · refine J.catch C ht [] [(0, 50, 57, 15)] { startPc := 0, endPc := 50, handlerPc := 51, catchType := 34 } rfl (by decide) (fun _ hz => absurd hz List.not_mem_nil) rfl (by decide) kCl_L_34 cast_IndexOutOfBoundsException (fun q => ?_)
          refine J.astore C dL_joins_51 (by decide) ?_
          refine J.sipush C (-1001) dL_joins_53 (by decide) ?_
          exact J.iretL C hr (by omega) (by omega) dL_joins_56 hrr
        rcases hlookup_cons hk with ⟨rfl, rfl⟩ | ⟨ne1, hk⟩
        · refine J.catch C ht [(0, 50, 51, 34)] [] { startPc := 0, endPc := 50, handlerPc := 57, catchType := 15 } rfl (by decide) (List.forall_mem_cons.mpr ⟨Or.inr ⟨by decide, _, kCl_L_34, by decide, by decide⟩, fun _ hz => absurd hz List.not_mem_nil⟩) rfl (by decide) kCl_L_15 cast_IllegalStateException (fun q => ?_)
          refine J.astore C dL_joins_57 (by decide) ?_
          refine J.sipush C (-1002) dL_joins_59 (by decide) ?_
          exact J.iretL C hr (by omega) (by omega) dL_joins_62 hrr
        exact (hlookup_nil hk).elim
      refine J.goto (tgt := 50) C dL_joins_26 (by decide) ?_
      exact J.iretL C hr (by omega) (by omega) dL_joins_50 H
  · refine J.aload_n (i := 0) C dL_joins_6 rfl rfl ?_
    refine J.iload_n (i := 2) C dL_joins_7 rfl rfl ?_
    refine J.callHV (hp := (dkh g ad rst)) C rfl (sp_X6_negation hl _) rfl kMl_L_21 mdX6_negation ⟨(Nat.le_of_ble_eq_true rfl), (Nat.le_of_ble_eq_true rfl)⟩ dk_0 rfl rfl (Nat.le_of_ble_eq_true rfl) dL_joins_8 ⟨by show _ ≤ (3 : Nat); omega, by show _ ≤ (18 : Nat); omega⟩ H (fun E v σ1 hk hrr => ?_) (fun r8 s8 H => ?_)
    · rcases hlookup_cons hk with ⟨rfl, rfl⟩ | ⟨ne0, hk⟩
      · refine J.catch C ht [] [(0, 50, 57, 15)] { startPc := 0, endPc := 50, handlerPc := 51, catchType := 34 } rfl (by decide) (fun _ hz => absurd hz List.not_mem_nil) rfl (by decide) kCl_L_34 cast_IndexOutOfBoundsException (fun q => ?_)
        refine J.astore C dL_joins_51 (by decide) ?_
        refine J.sipush C (-1001) dL_joins_53 (by decide) ?_
        exact J.iretL C hr (by omega) (by omega) dL_joins_56 hrr
      rcases hlookup_cons hk with ⟨rfl, rfl⟩ | ⟨ne1, hk⟩
      · refine J.catch C ht [(0, 50, 51, 34)] [] { startPc := 0, endPc := 50, handlerPc := 57, catchType := 15 } rfl (by decide) (List.forall_mem_cons.mpr ⟨Or.inr ⟨by decide, _, kCl_L_34, by decide, by decide⟩, fun _ hz => absurd hz List.not_mem_nil⟩) rfl (by decide) kCl_L_15 cast_IllegalStateException (fun q => ?_)
        refine J.astore C dL_joins_57 (by decide) ?_
        refine J.sipush C (-1002) dL_joins_59 (by decide) ?_
        exact J.iretL C hr (by omega) (by omega) dL_joins_62 hrr
      exact (hlookup_nil hk).elim
    refine J.goto (tgt := 50) C dL_joins_11 (by decide) ?_
    exact J.iretL C hr (by omega) (by omega) dL_joins_50 H

/-! L_symbol -/
abbrev mL_symbol : MD := (yL_symbol, cL_symbol, 4, some .int)
abbrev hL_symbol : HH := [(0, 6, 7, 34), (0, 6, 12, 40)]
theorem mdL_symbol : MDh mL_symbol hL_symbol 3 := ⟨kSt_L_symbol, kIn_L, kCw_L_symbol, by decide +kernel⟩
def P_L_symbol (σ : DS) (a1 : Int32) (a2 : Int32) : Res DS Int32 := (hdl [("java/lang/IndexOutOfBoundsException", (-1001 : Int32)), ("java/util/NoSuchElementException", (-1002 : Int32))] (P_X6_symbolAt σ a1 a2) fun r3 s3 => (some (.inl r3, s3)))
set_option maxRecDepth 100000 in
theorem sp_L_symbol {l : Launch} (hl : l.stackTraces = false) {g : Gy} {ad : Nat → Nat} {rst : va_W} {σ : DS} (a1 : Int32) (a2 : Int32) : SpHR l mL_symbol hL_symbol 9 2 12 mI g [.ref (ad 0), .int a1, .int a2] (dkh g ad rst) σ (P_L_symbol σ a1 a2) := by
  refine SpHR.of hl (by decide) (Nat.le_of_ble_eq_true rfl) (fun rr H p e s m args below meth c A C hr ht => ?_)
  unfold P_L_symbol at H
  refine J.lw (lv' := [(0, .ref (ad 0)), (1, .int a1), (2, .int a2)]) ⟨rfl, rfl, rfl, trivial⟩ ?_
  refine J.aload_n (i := 0) C dL_symbol_0 rfl rfl ?_
  refine J.iload_n (i := 1) C dL_symbol_1 rfl rfl ?_
  refine J.iload_n (i := 2) C dL_symbol_2 rfl rfl ?_
  refine J.callHV (hp := (dkh g ad rst)) C rfl (sp_X6_symbolAt hl _ _) rfl kMl_L_36 mdX6_symbolAt ⟨(Nat.le_of_ble_eq_true rfl), (Nat.le_of_ble_eq_true rfl)⟩ dk_0 rfl rfl (Nat.le_of_ble_eq_true rfl) dL_symbol_3 ⟨by show _ ≤ (2 : Nat); omega, by show _ ≤ (12 : Nat); omega⟩ H (fun E v σ1 hk hrr => ?_) (fun r3 s3 H => ?_)
  · rcases hlookup_cons hk with ⟨rfl, rfl⟩ | ⟨ne0, hk⟩
    · refine J.catch C ht [] [(0, 6, 12, 40)] { startPc := 0, endPc := 6, handlerPc := 7, catchType := 34 } rfl (by decide) (fun _ hz => absurd hz List.not_mem_nil) rfl (by decide) kCl_L_34 cast_IndexOutOfBoundsException (fun q => ?_)
      refine J.astore_n (i := 3) C dL_symbol_7 rfl (by decide) ?_
      refine J.sipush C (-1001) dL_symbol_8 (by decide) ?_
      exact J.iretL C hr (by omega) (by omega) dL_symbol_11 hrr
    rcases hlookup_cons hk with ⟨rfl, rfl⟩ | ⟨ne1, hk⟩
    · refine J.catch C ht [(0, 6, 7, 34)] [] { startPc := 0, endPc := 6, handlerPc := 12, catchType := 40 } rfl (by decide) (List.forall_mem_cons.mpr ⟨Or.inr ⟨by decide, _, kCl_L_34, by decide, by decide⟩, fun _ hz => absurd hz List.not_mem_nil⟩) rfl (by decide) kCl_L_40 cast_NoSuchElementException (fun q => ?_)
      refine J.astore_n (i := 3) C dL_symbol_12 rfl (by decide) ?_
      refine J.sipush C (-1002) dL_symbol_13 (by decide) ?_
      exact J.iretL C hr (by omega) (by omega) dL_symbol_16 hrr
    exact (hlookup_nil hk).elim
  exact J.iretL C hr (by omega) (by omega) dL_symbol_6 H

/-! L_binds -/
abbrev mL_binds : MD := (yL_binds, cL_binds, 4, some .int)
abbrev hL_binds : HH := [(0, 6, 7, 34), (0, 6, 12, 13)]
theorem mdL_binds : MDh mL_binds hL_binds 3 := ⟨kSt_L_binds, kIn_L, kCw_L_binds, by decide +kernel⟩
def P_L_binds (σ : DS) (a1 : Int32) (a2 : Int32) : Res DS Int32 := (hdl [("java/lang/IndexOutOfBoundsException", (-1002 : Int32)), ("java/lang/IllegalArgumentException", (-1001 : Int32))] (P_X6_bind σ a1 a2) fun r3 s3 => (some (.inl r3, s3)))
set_option maxRecDepth 100000 in
theorem sp_L_binds {l : Launch} (hl : l.stackTraces = false) {g : Gy} {ad : Nat → Nat} {rst : va_W} {σ : DS} (a1 : Int32) (a2 : Int32) : SpHR l mL_binds hL_binds 9 2 12 mI g [.ref (ad 0), .int a1, .int a2] (dkh g ad rst) σ (P_L_binds σ a1 a2) := by
  refine SpHR.of hl (by decide) (Nat.le_of_ble_eq_true rfl) (fun rr H p e s m args below meth c A C hr ht => ?_)
  unfold P_L_binds at H
  refine J.lw (lv' := [(0, .ref (ad 0)), (1, .int a1), (2, .int a2)]) ⟨rfl, rfl, rfl, trivial⟩ ?_
  refine J.aload_n (i := 0) C dL_binds_0 rfl rfl ?_
  refine J.iload_n (i := 1) C dL_binds_1 rfl rfl ?_
  refine J.iload_n (i := 2) C dL_binds_2 rfl rfl ?_
  refine J.callHV (hp := (dkh g ad rst)) C rfl (sp_X6_bind hl _ _) rfl kMl_L_42 mdX6_bind ⟨(Nat.le_of_ble_eq_true rfl), (Nat.le_of_ble_eq_true rfl)⟩ dk_0 rfl rfl (Nat.le_of_ble_eq_true rfl) dL_binds_3 ⟨by show _ ≤ (2 : Nat); omega, by show _ ≤ (12 : Nat); omega⟩ H (fun E v σ1 hk hrr => ?_) (fun r3 s3 H => ?_)
  · rcases hlookup_cons hk with ⟨rfl, rfl⟩ | ⟨ne0, hk⟩
    · refine J.catch C ht [] [(0, 6, 12, 13)] { startPc := 0, endPc := 6, handlerPc := 7, catchType := 34 } rfl (by decide) (fun _ hz => absurd hz List.not_mem_nil) rfl (by decide) kCl_L_34 cast_IndexOutOfBoundsException (fun q => ?_)
      refine J.astore_n (i := 3) C dL_binds_7 rfl (by decide) ?_
      refine J.sipush C (-1002) dL_binds_8 (by decide) ?_
      exact J.iretL C hr (by omega) (by omega) dL_binds_11 hrr
    rcases hlookup_cons hk with ⟨rfl, rfl⟩ | ⟨ne1, hk⟩
    · refine J.catch C ht [(0, 6, 7, 34)] [] { startPc := 0, endPc := 6, handlerPc := 12, catchType := 13 } rfl (by decide) (List.forall_mem_cons.mpr ⟨Or.inr ⟨by decide, _, kCl_L_34, by decide, by decide⟩, fun _ hz => absurd hz List.not_mem_nil⟩) rfl (by decide) kCl_L_13 cast_IllegalArgumentException (fun q => ?_)
      refine J.astore_n (i := 3) C dL_binds_12 rfl (by decide) ?_
      refine J.sipush C (-1001) dL_binds_13 (by decide) ?_
      exact J.iretL C hr (by omega) (by omega) dL_binds_16 hrr
    exact (hlookup_nil hk).elim
  exact J.iretL C hr (by omega) (by omega) dL_binds_6 H

/-! L_step -/
abbrev mL_step : MD := (yL_step, cL_step, 3, some .int)
abbrev hL_step : HH := [(0, 5, 6, 34), (0, 5, 11, 40), (0, 5, 16, 15)]
theorem mdL_step : MDh mL_step hL_step 2 := ⟨kSt_L_step, kIn_L, kCw_L_step, by decide +kernel⟩
def P_L_step (σ : DS) (a1 : Int32) : Res DS Int32 := (hdl [("java/lang/IndexOutOfBoundsException", (-1001 : Int32)), ("java/util/NoSuchElementException", (-1002 : Int32)), ("java/lang/IllegalStateException", (-1003 : Int32))] (P_X6_normalStep σ a1) fun r2 s2 => (some (.inl r2, s2)))
set_option maxRecDepth 100000 in
theorem sp_L_step {l : Launch} (hl : l.stackTraces = false) {g : Gy} {ad : Nat → Nat} {rst : va_W} {σ : DS} (a1 : Int32) : SpHR l mL_step hL_step 9 2 12 mI g [.ref (ad 0), .int a1] (dkh g ad rst) σ (P_L_step σ a1) := by
  refine SpHR.of hl (by decide) (Nat.le_of_ble_eq_true rfl) (fun rr H p e s m args below meth c A C hr ht => ?_)
  unfold P_L_step at H
  refine J.lw (lv' := [(0, .ref (ad 0)), (1, .int a1)]) ⟨rfl, rfl, trivial⟩ ?_
  refine J.aload_n (i := 0) C dL_step_0 rfl rfl ?_
  refine J.iload_n (i := 1) C dL_step_1 rfl rfl ?_
  refine J.callHV (hp := (dkh g ad rst)) C rfl (sp_X6_normalStep hl _) rfl kMl_L_45 mdX6_normalStep ⟨(Nat.le_of_ble_eq_true rfl), (Nat.le_of_ble_eq_true rfl)⟩ dk_0 rfl rfl (Nat.le_of_ble_eq_true rfl) dL_step_2 ⟨by show _ ≤ (2 : Nat); omega, by show _ ≤ (12 : Nat); omega⟩ H (fun E v σ1 hk hrr => ?_) (fun r2 s2 H => ?_)
  · rcases hlookup_cons hk with ⟨rfl, rfl⟩ | ⟨ne0, hk⟩
    · refine J.catch C ht [] [(0, 5, 11, 40), (0, 5, 16, 15)] { startPc := 0, endPc := 5, handlerPc := 6, catchType := 34 } rfl (by decide) (fun _ hz => absurd hz List.not_mem_nil) rfl (by decide) kCl_L_34 cast_IndexOutOfBoundsException (fun q => ?_)
      refine J.astore_n (i := 2) C dL_step_6 rfl (by decide) ?_
      refine J.sipush C (-1001) dL_step_7 (by decide) ?_
      exact J.iretL C hr (by omega) (by omega) dL_step_10 hrr
    rcases hlookup_cons hk with ⟨rfl, rfl⟩ | ⟨ne1, hk⟩
    · refine J.catch C ht [(0, 5, 6, 34)] [(0, 5, 16, 15)] { startPc := 0, endPc := 5, handlerPc := 11, catchType := 40 } rfl (by decide) (List.forall_mem_cons.mpr ⟨Or.inr ⟨by decide, _, kCl_L_34, by decide, by decide⟩, fun _ hz => absurd hz List.not_mem_nil⟩) rfl (by decide) kCl_L_40 cast_NoSuchElementException (fun q => ?_)
      refine J.astore_n (i := 2) C dL_step_11 rfl (by decide) ?_
      refine J.sipush C (-1002) dL_step_12 (by decide) ?_
      exact J.iretL C hr (by omega) (by omega) dL_step_15 hrr
    rcases hlookup_cons hk with ⟨rfl, rfl⟩ | ⟨ne2, hk⟩
    · refine J.catch C ht [(0, 5, 6, 34), (0, 5, 11, 40)] [] { startPc := 0, endPc := 5, handlerPc := 16, catchType := 15 } rfl (by decide) (List.forall_mem_cons.mpr ⟨Or.inr ⟨by decide, _, kCl_L_34, by decide, by decide⟩, List.forall_mem_cons.mpr ⟨Or.inr ⟨by decide, _, kCl_L_40, by decide, by decide⟩, fun _ hz => absurd hz List.not_mem_nil⟩⟩) rfl (by decide) kCl_L_15 cast_IllegalStateException (fun q => ?_)
      refine J.astore_n (i := 2) C dL_step_16 rfl (by decide) ?_
      refine J.sipush C (-1003) dL_step_17 (by decide) ?_
      exact J.iretL C hr (by omega) (by omega) dL_step_20 hrr
    exact (hlookup_nil hk).elim
  exact J.iretL C hr (by omega) (by omega) dL_step_5 H

/-! L_form -/
abbrev mL_form : MD := (yL_form, cL_form, 3, some .int)
abbrev hL_form : HH := [(0, 5, 6, 34), (0, 5, 11, 15)]
theorem mdL_form : MDh mL_form hL_form 2 := ⟨kSt_L_form, kIn_L, kCw_L_form, by decide +kernel⟩
def P_L_form (σ : DS) (a1 : Int32) : Res DS Int32 := (hdl [("java/lang/IndexOutOfBoundsException", (-1001 : Int32)), ("java/lang/IllegalStateException", (-1002 : Int32))] (P_X6_normalForm σ a1) fun r2 s2 => (some (.inl r2, s2)))
set_option maxRecDepth 100000 in
theorem sp_L_form {l : Launch} (hl : l.stackTraces = false) {g : Gy} {ad : Nat → Nat} {rst : va_W} {σ : DS} (a1 : Int32) : SpHR l mL_form hL_form 9 2 12 mI g [.ref (ad 0), .int a1] (dkh g ad rst) σ (P_L_form σ a1) := by
  refine SpHR.of hl (by decide) (Nat.le_of_ble_eq_true rfl) (fun rr H p e s m args below meth c A C hr ht => ?_)
  unfold P_L_form at H
  refine J.lw (lv' := [(0, .ref (ad 0)), (1, .int a1)]) ⟨rfl, rfl, trivial⟩ ?_
  refine J.aload_n (i := 0) C dL_form_0 rfl rfl ?_
  refine J.iload_n (i := 1) C dL_form_1 rfl rfl ?_
  refine J.callHV (hp := (dkh g ad rst)) C rfl (sp_X6_normalForm hl _) rfl kMl_L_48 mdX6_normalForm ⟨(Nat.le_of_ble_eq_true rfl), (Nat.le_of_ble_eq_true rfl)⟩ dk_0 rfl rfl (Nat.le_of_ble_eq_true rfl) dL_form_2 ⟨by show _ ≤ (2 : Nat); omega, by show _ ≤ (12 : Nat); omega⟩ H (fun E v σ1 hk hrr => ?_) (fun r2 s2 H => ?_)
  · rcases hlookup_cons hk with ⟨rfl, rfl⟩ | ⟨ne0, hk⟩
    · refine J.catch C ht [] [(0, 5, 11, 15)] { startPc := 0, endPc := 5, handlerPc := 6, catchType := 34 } rfl (by decide) (fun _ hz => absurd hz List.not_mem_nil) rfl (by decide) kCl_L_34 cast_IndexOutOfBoundsException (fun q => ?_)
      refine J.astore_n (i := 2) C dL_form_6 rfl (by decide) ?_
      refine J.sipush C (-1001) dL_form_7 (by decide) ?_
      exact J.iretL C hr (by omega) (by omega) dL_form_10 hrr
    rcases hlookup_cons hk with ⟨rfl, rfl⟩ | ⟨ne1, hk⟩
    · refine J.catch C ht [(0, 5, 6, 34)] [] { startPc := 0, endPc := 5, handlerPc := 11, catchType := 15 } rfl (by decide) (List.forall_mem_cons.mpr ⟨Or.inr ⟨by decide, _, kCl_L_34, by decide, by decide⟩, fun _ hz => absurd hz List.not_mem_nil⟩) rfl (by decide) kCl_L_15 cast_IllegalStateException (fun q => ?_)
      refine J.astore_n (i := 2) C dL_form_11 rfl (by decide) ?_
      refine J.sipush C (-1002) dL_form_12 (by decide) ?_
      exact J.iretL C hr (by omega) (by omega) dL_form_15 hrr
    exact (hlookup_nil hk).elim
  exact J.iretL C hr (by omega) (by omega) dL_form_5 H

/-! L_tells -/
abbrev mL_tells : MD := (yL_tells, cL_tells, 4, some .int)
abbrev hL_tells : HH := [(0, 43, 44, 34)]
theorem mdL_tells : MDh mL_tells hL_tells 3 := ⟨kSt_L_tells, kIn_L, kCw_L_tells, by decide +kernel⟩
def P_L_tells (σ : DS) (a1 : Int32) (a2 : Int32) : Res DS Int32 := (if a2 = 0 then (hdl [("java/lang/IndexOutOfBoundsException", (-1001 : Int32))] (P_X6_sizeOf σ a1) fun r6 s6 => (some (.inl r6, s6))) else (if a2 = (1 : Int32) then (hdl [("java/lang/IndexOutOfBoundsException", (-1001 : Int32))] (P_X6_models σ a1) fun r19 s19 => (some (.inl r19, s19))) else (if a2 = (2 : Int32) then (hdl [("java/lang/IndexOutOfBoundsException", (-1001 : Int32))] (P_X6_modelsByRows σ a1) fun r32 s32 => (some (.inl r32, s32))) else (hdl [("java/lang/IndexOutOfBoundsException", (-1001 : Int32))] (P_X6_normalSteps σ a1) fun r40 s40 => (some (.inl r40, s40))))))
set_option maxRecDepth 100000 in
theorem sp_L_tells {l : Launch} (hl : l.stackTraces = false) {g : Gy} {ad : Nat → Nat} {rst : va_W} {σ : DS} (a1 : Int32) (a2 : Int32) : SpHR l mL_tells hL_tells 9 1 6 mI g [.ref (ad 0), .int a1, .int a2] (dkh g ad rst) σ (P_L_tells σ a1 a2) := by
  refine SpHR.of hl (by decide) (Nat.le_of_ble_eq_true rfl) (fun rr H p e s m args below meth c A C hr ht => ?_)
  unfold P_L_tells at H
  refine J.lw (lv' := [(0, .ref (ad 0)), (1, .int a1), (2, .int a2)]) ⟨rfl, rfl, rfl, trivial⟩ ?_
  refine J.iload_n (i := 2) C dL_tells_0 rfl rfl ?_
  refine J.if_neL (tgt := 12) C dL_tells_1 (by decide) H (fun c_1 H => ?_) (fun c_1 H => ?_)
  · refine J.iload_n (i := 2) C dL_tells_12 rfl rfl ?_
    refine J.iconst C (1) dL_tells_13 (by decide) ?_
    refine J.icmp_neL (tgt := 25) C dL_tells_14 (by decide) H (fun c_14 H => ?_) (fun c_14 H => ?_)
    · refine J.iload_n (i := 2) C dL_tells_25 rfl rfl ?_
      refine J.iconst C (2) dL_tells_26 (by decide) ?_
      refine J.icmp_neL (tgt := 38) C dL_tells_27 (by decide) H (fun c_27 H => ?_) (fun c_27 H => ?_)
      · refine J.aload_n (i := 0) C dL_tells_38 rfl rfl ?_
        refine J.iload_n (i := 1) C dL_tells_39 rfl rfl ?_
        refine J.callHV (hp := (dkh g ad rst)) C rfl (sp_X6_normalSteps hl _) rfl kMl_L_60 mdX6_normalSteps ⟨(Nat.le_of_ble_eq_true rfl), (Nat.le_of_ble_eq_true rfl)⟩ dk_0 rfl rfl (Nat.le_of_ble_eq_true rfl) dL_tells_40 ⟨by show _ ≤ (1 : Nat); omega, by show _ ≤ (6 : Nat); omega⟩ H (fun E v σ1 hk hrr => ?_) (fun r40 s40 H => ?_)
        · rcases hlookup_cons hk with ⟨rfl, rfl⟩ | ⟨ne0, hk⟩
          · refine J.catch C ht [] [] { startPc := 0, endPc := 43, handlerPc := 44, catchType := 34 } rfl (by decide) (fun _ hz => absurd hz List.not_mem_nil) rfl (by decide) kCl_L_34 cast_IndexOutOfBoundsException (fun q => ?_)
            refine J.astore_n (i := 3) C dL_tells_44 rfl (by decide) ?_
            refine J.sipush C (-1001) dL_tells_45 (by decide) ?_
            exact J.iretL C hr (by omega) (by omega) dL_tells_48 hrr
          exact (hlookup_nil hk).elim
        exact J.iretL C hr (by omega) (by omega) dL_tells_43 H
      · refine J.aload_n (i := 0) C dL_tells_30 rfl rfl ?_
        refine J.iload_n (i := 1) C dL_tells_31 rfl rfl ?_
        refine J.callHV (hp := (dkh g ad rst)) C rfl (sp_X6_modelsByRows hl _) rfl kMl_L_57 mdX6_modelsByRows ⟨(Nat.le_of_ble_eq_true rfl), (Nat.le_of_ble_eq_true rfl)⟩ dk_0 rfl rfl (Nat.le_of_ble_eq_true rfl) dL_tells_32 ⟨by show _ ≤ (1 : Nat); omega, by show _ ≤ (6 : Nat); omega⟩ H (fun E v σ1 hk hrr => ?_) (fun r32 s32 H => ?_)
        · rcases hlookup_cons hk with ⟨rfl, rfl⟩ | ⟨ne0, hk⟩
          · refine J.catch C ht [] [] { startPc := 0, endPc := 43, handlerPc := 44, catchType := 34 } rfl (by decide) (fun _ hz => absurd hz List.not_mem_nil) rfl (by decide) kCl_L_34 cast_IndexOutOfBoundsException (fun q => ?_)
            refine J.astore_n (i := 3) C dL_tells_44 rfl (by decide) ?_
            refine J.sipush C (-1001) dL_tells_45 (by decide) ?_
            exact J.iretL C hr (by omega) (by omega) dL_tells_48 hrr
          exact (hlookup_nil hk).elim
        refine J.goto (tgt := 43) C dL_tells_35 (by decide) ?_
        exact J.iretL C hr (by omega) (by omega) dL_tells_43 H
    · refine J.aload_n (i := 0) C dL_tells_17 rfl rfl ?_
      refine J.iload_n (i := 1) C dL_tells_18 rfl rfl ?_
      refine J.callHV (hp := (dkh g ad rst)) C rfl (sp_X6_models hl _) rfl kMl_L_54 mdX6_models ⟨(Nat.le_of_ble_eq_true rfl), (Nat.le_of_ble_eq_true rfl)⟩ dk_0 rfl rfl (Nat.le_of_ble_eq_true rfl) dL_tells_19 ⟨by show _ ≤ (1 : Nat); omega, by show _ ≤ (6 : Nat); omega⟩ H (fun E v σ1 hk hrr => ?_) (fun r19 s19 H => ?_)
      · rcases hlookup_cons hk with ⟨rfl, rfl⟩ | ⟨ne0, hk⟩
        · refine J.catch C ht [] [] { startPc := 0, endPc := 43, handlerPc := 44, catchType := 34 } rfl (by decide) (fun _ hz => absurd hz List.not_mem_nil) rfl (by decide) kCl_L_34 cast_IndexOutOfBoundsException (fun q => ?_)
          refine J.astore_n (i := 3) C dL_tells_44 rfl (by decide) ?_
          refine J.sipush C (-1001) dL_tells_45 (by decide) ?_
          exact J.iretL C hr (by omega) (by omega) dL_tells_48 hrr
        exact (hlookup_nil hk).elim
      refine J.goto (tgt := 43) C dL_tells_22 (by decide) ?_
      exact J.iretL C hr (by omega) (by omega) dL_tells_43 H
  · refine J.aload_n (i := 0) C dL_tells_4 rfl rfl ?_
    refine J.iload_n (i := 1) C dL_tells_5 rfl rfl ?_
    refine J.callHV (hp := (dkh g ad rst)) C rfl (sp_X6_sizeOf hl _) rfl kMl_L_51 mdX6_sizeOf ⟨(Nat.le_of_ble_eq_true rfl), (Nat.le_of_ble_eq_true rfl)⟩ dk_0 rfl rfl (Nat.le_of_ble_eq_true rfl) dL_tells_6 ⟨by show _ ≤ (1 : Nat); omega, by show _ ≤ (6 : Nat); omega⟩ H (fun E v σ1 hk hrr => ?_) (fun r6 s6 H => ?_)
    · rcases hlookup_cons hk with ⟨rfl, rfl⟩ | ⟨ne0, hk⟩
      · refine J.catch C ht [] [] { startPc := 0, endPc := 43, handlerPc := 44, catchType := 34 } rfl (by decide) (fun _ hz => absurd hz List.not_mem_nil) rfl (by decide) kCl_L_34 cast_IndexOutOfBoundsException (fun q => ?_)
        refine J.astore_n (i := 3) C dL_tells_44 rfl (by decide) ?_
        refine J.sipush C (-1001) dL_tells_45 (by decide) ?_
        exact J.iretL C hr (by omega) (by omega) dL_tells_48 hrr
      exact (hlookup_nil hk).elim
    refine J.goto (tgt := 43) C dL_tells_9 (by decide) ?_
    exact J.iretL C hr (by omega) (by omega) dL_tells_43 H

/-! L_distance -/
abbrev mL_distance : MD := (yL_distance, cL_distance, 4, some .int)
abbrev hL_distance : HH := [(0, 17, 18, 34), (0, 17, 23, 40)]
theorem mdL_distance : MDh mL_distance hL_distance 3 := ⟨kSt_L_distance, kIn_L, kCw_L_distance, by decide +kernel⟩
def P_L_distance (σ : DS) (a1 : Int32) (a2 : Int32) : Res DS Int32 := (if a2 = 0 then (hdl [("java/lang/IndexOutOfBoundsException", (-1001 : Int32)), ("java/util/NoSuchElementException", (-1002 : Int32))] (P_X6_distance σ a1) fun r14 s14 => (some (.inl r14, s14))) else (hdl [("java/lang/IndexOutOfBoundsException", (-1001 : Int32)), ("java/util/NoSuchElementException", (-1002 : Int32))] (P_X6_distanceByRounds σ a1) fun r6 s6 => (some (.inl r6, s6))))
set_option maxRecDepth 100000 in
theorem sp_L_distance {l : Launch} (hl : l.stackTraces = false) {g : Gy} {ad : Nat → Nat} {rst : va_W} {σ : DS} (a1 : Int32) (a2 : Int32) : SpHR l mL_distance hL_distance 9 2 12 mI g [.ref (ad 0), .int a1, .int a2] (dkh g ad rst) σ (P_L_distance σ a1 a2) := by
  refine SpHR.of hl (by decide) (Nat.le_of_ble_eq_true rfl) (fun rr H p e s m args below meth c A C hr ht => ?_)
  unfold P_L_distance at H
  refine J.lw (lv' := [(0, .ref (ad 0)), (1, .int a1), (2, .int a2)]) ⟨rfl, rfl, rfl, trivial⟩ ?_
  refine J.iload_n (i := 2) C dL_distance_0 rfl rfl ?_
  refine J.if_eqL (tgt := 12) C dL_distance_1 (by decide) H (fun c_1 H => ?_) (fun c_1 H => ?_)
  · refine J.aload_n (i := 0) C dL_distance_12 rfl rfl ?_
    refine J.iload_n (i := 1) C dL_distance_13 rfl rfl ?_
    refine J.callHV (hp := (dkh g ad rst)) C rfl (sp_X6_distance hl _) rfl kMl_L_119 mdX6_distance ⟨(Nat.le_of_ble_eq_true rfl), (Nat.le_of_ble_eq_true rfl)⟩ dk_0 rfl rfl (Nat.le_of_ble_eq_true rfl) dL_distance_14 ⟨by show _ ≤ (2 : Nat); omega, by show _ ≤ (12 : Nat); omega⟩ H (fun E v σ1 hk hrr => ?_) (fun r14 s14 H => ?_)
    · rcases hlookup_cons hk with ⟨rfl, rfl⟩ | ⟨ne0, hk⟩
      · refine J.catch C ht [] [(0, 17, 23, 40)] { startPc := 0, endPc := 17, handlerPc := 18, catchType := 34 } rfl (by decide) (fun _ hz => absurd hz List.not_mem_nil) rfl (by decide) kCl_L_34 cast_IndexOutOfBoundsException (fun q => ?_)
        refine J.astore_n (i := 3) C dL_distance_18 rfl (by decide) ?_
        refine J.sipush C (-1001) dL_distance_19 (by decide) ?_
        exact J.iretL C hr (by omega) (by omega) dL_distance_22 hrr
      rcases hlookup_cons hk with ⟨rfl, rfl⟩ | ⟨ne1, hk⟩
      · refine J.catch C ht [(0, 17, 18, 34)] [] { startPc := 0, endPc := 17, handlerPc := 23, catchType := 40 } rfl (by decide) (List.forall_mem_cons.mpr ⟨Or.inr ⟨by decide, _, kCl_L_34, by decide, by decide⟩, fun _ hz => absurd hz List.not_mem_nil⟩) rfl (by decide) kCl_L_40 cast_NoSuchElementException (fun q => ?_)
        refine J.astore_n (i := 3) C dL_distance_23 rfl (by decide) ?_
        refine J.sipush C (-1002) dL_distance_24 (by decide) ?_
        exact J.iretL C hr (by omega) (by omega) dL_distance_27 hrr
      exact (hlookup_nil hk).elim
    exact J.iretL C hr (by omega) (by omega) dL_distance_17 H
  · refine J.aload_n (i := 0) C dL_distance_4 rfl rfl ?_
    refine J.iload_n (i := 1) C dL_distance_5 rfl rfl ?_
    refine J.callHV (hp := (dkh g ad rst)) C rfl (sp_X6_distanceByRounds hl _) rfl kMl_L_116 mdX6_distanceByRounds ⟨(Nat.le_of_ble_eq_true rfl), (Nat.le_of_ble_eq_true rfl)⟩ dk_0 rfl rfl (Nat.le_of_ble_eq_true rfl) dL_distance_6 ⟨by show _ ≤ (2 : Nat); omega, by show _ ≤ (12 : Nat); omega⟩ H (fun E v σ1 hk hrr => ?_) (fun r6 s6 H => ?_)
    · rcases hlookup_cons hk with ⟨rfl, rfl⟩ | ⟨ne0, hk⟩
      · refine J.catch C ht [] [(0, 17, 23, 40)] { startPc := 0, endPc := 17, handlerPc := 18, catchType := 34 } rfl (by decide) (fun _ hz => absurd hz List.not_mem_nil) rfl (by decide) kCl_L_34 cast_IndexOutOfBoundsException (fun q => ?_)
        refine J.astore_n (i := 3) C dL_distance_18 rfl (by decide) ?_
        refine J.sipush C (-1001) dL_distance_19 (by decide) ?_
        exact J.iretL C hr (by omega) (by omega) dL_distance_22 hrr
      rcases hlookup_cons hk with ⟨rfl, rfl⟩ | ⟨ne1, hk⟩
      · refine J.catch C ht [(0, 17, 18, 34)] [] { startPc := 0, endPc := 17, handlerPc := 23, catchType := 40 } rfl (by decide) (List.forall_mem_cons.mpr ⟨Or.inr ⟨by decide, _, kCl_L_34, by decide, by decide⟩, fun _ hz => absurd hz List.not_mem_nil⟩) rfl (by decide) kCl_L_40 cast_NoSuchElementException (fun q => ?_)
        refine J.astore_n (i := 3) C dL_distance_23 rfl (by decide) ?_
        refine J.sipush C (-1002) dL_distance_24 (by decide) ?_
        exact J.iretL C hr (by omega) (by omega) dL_distance_27 hrr
      exact (hlookup_nil hk).elim
    refine J.goto (tgt := 17) C dL_distance_9 (by decide) ?_
    exact J.iretL C hr (by omega) (by omega) dL_distance_17 H

/-! L_needed -/
abbrev mL_needed : MD := (yL_needed, cL_needed, 2, some .int)
abbrev hL_needed : HH := [(0, 4, 5, 40)]
theorem mdL_needed : MDh mL_needed hL_needed 1 := ⟨kSt_L_needed, kIn_L, kCw_L_needed, by decide +kernel⟩
def P_L_needed (σ : DS)  : Res DS Int32 := (hdl [("java/util/NoSuchElementException", (-1001 : Int32))] (P_X6_needed σ ) fun r1 s1 => (some (.inl r1, s1)))
set_option maxRecDepth 100000 in
theorem sp_L_needed {l : Launch} (hl : l.stackTraces = false) {g : Gy} {ad : Nat → Nat} {rst : va_W} {σ : DS}  : SpHR l mL_needed hL_needed 9 1 6 mI g [.ref (ad 0)] (dkh g ad rst) σ (P_L_needed σ ) := by
  refine SpHR.of hl (by decide) (Nat.le_of_ble_eq_true rfl) (fun rr H p e s m args below meth c A C hr ht => ?_)
  unfold P_L_needed at H
  refine J.lw (lv' := [(0, .ref (ad 0))]) ⟨rfl, trivial⟩ ?_
  refine J.aload_n (i := 0) C dL_needed_0 rfl rfl ?_
  refine J.callHV (hp := (dkh g ad rst)) C rfl (sp_X6_needed hl ) rfl kMl_L_122 mdX6_needed ⟨(Nat.le_of_ble_eq_true rfl), (Nat.le_of_ble_eq_true rfl)⟩ dk_0 rfl rfl (Nat.le_of_ble_eq_true rfl) dL_needed_1 ⟨by show _ ≤ (1 : Nat); omega, by show _ ≤ (6 : Nat); omega⟩ H (fun E v σ1 hk hrr => ?_) (fun r1 s1 H => ?_)
  · rcases hlookup_cons hk with ⟨rfl, rfl⟩ | ⟨ne0, hk⟩
    · refine J.catch C ht [] [] { startPc := 0, endPc := 4, handlerPc := 5, catchType := 40 } rfl (by decide) (fun _ hz => absurd hz List.not_mem_nil) rfl (by decide) kCl_L_40 cast_NoSuchElementException (fun q => ?_)
      refine J.astore_n (i := 1) C dL_needed_5 rfl (by decide) ?_
      refine J.sipush C (-1001) dL_needed_6 (by decide) ?_
      exact J.iretL C hr (by omega) (by omega) dL_needed_9 hrr
    exact (hlookup_nil hk).elim
  exact J.iretL C hr (by omega) (by omega) dL_needed_4 H

/-! L_mean -/
abbrev mL_mean : MD := (yL_mean, cL_mean, 2, some .double)
abbrev hL_mean : HH := [(0, 4, 5, 129)]
theorem mdL_mean : MDh mL_mean hL_mean 1 := ⟨kSt_L_mean, kIn_L, kCw_L_mean, by decide +kernel⟩
def P_L_mean (σ : DS)  : Res DS UInt64 := (hdl [("java/lang/ArithmeticException", (13830554455654793216 : UInt64))] (P_X6_meanSize σ ) fun r1 s1 => (some (.inl r1, s1)))
set_option maxRecDepth 100000 in
theorem sp_L_mean {l : Launch} (hl : l.stackTraces = false) {g : Gy} {ad : Nat → Nat} {rst : va_W} {σ : DS}  : SpHR l mL_mean hL_mean 8 1 6 mD g [.ref (ad 0)] (dkh g ad rst) σ (P_L_mean σ ) := by
  refine SpHR.of hl (by decide) (Nat.le_of_ble_eq_true rfl) (fun rr H p e s m args below meth c A C hr ht => ?_)
  unfold P_L_mean at H
  refine J.lw (lv' := [(0, .ref (ad 0))]) ⟨rfl, trivial⟩ ?_
  refine J.aload_n (i := 0) C dL_mean_0 rfl rfl ?_
  refine J.callHV (hp := (dkh g ad rst)) C rfl (sp_X6_meanSize hl ) rfl kMl_L_125 mdX6_meanSize ⟨(Nat.le_of_ble_eq_true rfl), (Nat.le_of_ble_eq_true rfl)⟩ dk_0 rfl rfl (Nat.le_of_ble_eq_true rfl) dL_mean_1 ⟨by show _ ≤ (1 : Nat); omega, by show _ ≤ (6 : Nat); omega⟩ H (fun E v σ1 hk hrr => ?_) (fun r1 s1 H => ?_)
  · rcases hlookup_cons hk with ⟨rfl, rfl⟩ | ⟨ne0, hk⟩
    · refine J.catch C ht [] [] { startPc := 0, endPc := 4, handlerPc := 5, catchType := 129 } rfl (by decide) (fun _ hz => absurd hz List.not_mem_nil) rfl (by decide) kCl_L_129 cast_ArithmeticException (fun q => ?_)
      refine J.astore_n (i := 1) C dL_mean_5 rfl (by decide) ?_
      refine J.ldc2d C kCD_L_131 dL_mean_6 ?_
      exact J.dretL C hr (by omega) (by omega) dL_mean_9 hrr
    exact (hlookup_nil hk).elim
  exact J.dretL C hr (by omega) (by omega) dL_mean_4 H

/-! L_line -/
abbrev mL_line : MD := (yL_line, cL_line, 4, some .int)
abbrev hL_line : HH := [(0, 72, 73, 34)]
theorem mdL_line : MDh mL_line hL_line 3 := ⟨kSt_L_line, kIn_L, kCw_L_line, by decide +kernel⟩
def P_L_line (σ : DS) (a1 : Int32) (a2 : Int32) : Res DS Int32 := (if a2 = 0 then (hdl [("java/lang/IndexOutOfBoundsException", (-1001 : Int32))] (P_X6_formulaOf σ a1) fun r6 s6 => (some (.inl r6, s6))) else (if a2 = (1 : Int32) then (hdl [("java/lang/IndexOutOfBoundsException", (-1001 : Int32))] (P_X6_ruleOf σ a1) fun r19 s19 => (some (.inl r19, s19))) else (if a2 = (2 : Int32) then (hdl [("java/lang/IndexOutOfBoundsException", (-1001 : Int32))] (P_X6_depthOf σ a1) fun r32 s32 => (some (.inl r32, s32))) else (if a2 = (3 : Int32) then (hdl [("java/lang/IndexOutOfBoundsException", (-1001 : Int32))] (P_X6_canCite σ a1) fun r45 s45 => (if r45 = 0 then (some (.inl (0 : Int32), s45)) else (some (.inl (1 : Int32), s45)))) else (hdl [("java/lang/IndexOutOfBoundsException", (-1001 : Int32))] (P_X6_isSound σ a1) fun r61 s61 => (if r61 = 0 then (some (.inl (0 : Int32), s61)) else (some (.inl (1 : Int32), s61))))))))
set_option maxRecDepth 100000 in
theorem sp_L_line {l : Launch} (hl : l.stackTraces = false) {g : Gy} {ad : Nat → Nat} {rst : va_W} {σ : DS} (a1 : Int32) (a2 : Int32) : SpHR l mL_line hL_line 9 1 6 mI g [.ref (ad 0), .int a1, .int a2] (dkh g ad rst) σ (P_L_line σ a1 a2) := by
  refine SpHR.of hl (by decide) (Nat.le_of_ble_eq_true rfl) (fun rr H p e s m args below meth c A C hr ht => ?_)
  unfold P_L_line at H
  refine J.lw (lv' := [(0, .ref (ad 0)), (1, .int a1), (2, .int a2)]) ⟨rfl, rfl, rfl, trivial⟩ ?_
  refine J.iload_n (i := 2) C dL_line_0 rfl rfl ?_
  refine J.if_neL (tgt := 12) C dL_line_1 (by decide) H (fun c_1 H => ?_) (fun c_1 H => ?_)
  · refine J.iload_n (i := 2) C dL_line_12 rfl rfl ?_
    refine J.iconst C (1) dL_line_13 (by decide) ?_
    refine J.icmp_neL (tgt := 25) C dL_line_14 (by decide) H (fun c_14 H => ?_) (fun c_14 H => ?_)
    · refine J.iload_n (i := 2) C dL_line_25 rfl rfl ?_
      refine J.iconst C (2) dL_line_26 (by decide) ?_
      refine J.icmp_neL (tgt := 38) C dL_line_27 (by decide) H (fun c_27 H => ?_) (fun c_27 H => ?_)
      · refine J.iload_n (i := 2) C dL_line_38 rfl rfl ?_
        refine J.iconst C (3) dL_line_39 (by decide) ?_
        refine J.icmp_neL (tgt := 59) C dL_line_40 (by decide) H (fun c_40 H => ?_) (fun c_40 H => ?_)
        · refine J.aload_n (i := 0) C dL_line_59 rfl rfl ?_
          refine J.iload_n (i := 1) C dL_line_60 rfl rfl ?_
          refine J.callHV (hp := (dkh g ad rst)) C rfl (sp_X6_isSound hl _) rfl kMl_L_147 mdX6_isSound ⟨(Nat.le_of_ble_eq_true rfl), (Nat.le_of_ble_eq_true rfl)⟩ dk_0 rfl rfl (Nat.le_of_ble_eq_true rfl) dL_line_61 ⟨by show _ ≤ (1 : Nat); omega, by show _ ≤ (6 : Nat); omega⟩ H (fun E v σ1 hk hrr => ?_) (fun r61 s61 H => ?_)
          · rcases hlookup_cons hk with ⟨rfl, rfl⟩ | ⟨ne0, hk⟩
            · refine J.catch C ht [] [] { startPc := 0, endPc := 72, handlerPc := 73, catchType := 34 } rfl (by decide) (fun _ hz => absurd hz List.not_mem_nil) rfl (by decide) kCl_L_34 cast_IndexOutOfBoundsException (fun q => ?_)
              refine J.astore_n (i := 3) C dL_line_73 rfl (by decide) ?_
              refine J.sipush C (-1001) dL_line_74 (by decide) ?_
              exact J.iretL C hr (by omega) (by omega) dL_line_77 hrr
            exact (hlookup_nil hk).elim
          refine J.if_eqL (tgt := 71) C dL_line_64 (by decide) H (fun c_64 H => ?_) (fun c_64 H => ?_)
          · refine J.iconst C (0) dL_line_71 (by decide) ?_
            exact J.iretL C hr (by omega) (by omega) dL_line_72 H
          · refine J.iconst C (1) dL_line_67 (by decide) ?_
            refine J.goto (tgt := 72) C dL_line_68 (by decide) ?_
            exact J.iretL C hr (by omega) (by omega) dL_line_72 H
        · refine J.aload_n (i := 0) C dL_line_43 rfl rfl ?_
          refine J.iload_n (i := 1) C dL_line_44 rfl rfl ?_
          refine J.callHV (hp := (dkh g ad rst)) C rfl (sp_X6_canCite hl _) rfl kMl_L_143 mdX6_canCite ⟨(Nat.le_of_ble_eq_true rfl), (Nat.le_of_ble_eq_true rfl)⟩ dk_0 rfl rfl (Nat.le_of_ble_eq_true rfl) dL_line_45 ⟨by show _ ≤ (1 : Nat); omega, by show _ ≤ (6 : Nat); omega⟩ H (fun E v σ1 hk hrr => ?_) (fun r45 s45 H => ?_)
          · rcases hlookup_cons hk with ⟨rfl, rfl⟩ | ⟨ne0, hk⟩
            · refine J.catch C ht [] [] { startPc := 0, endPc := 72, handlerPc := 73, catchType := 34 } rfl (by decide) (fun _ hz => absurd hz List.not_mem_nil) rfl (by decide) kCl_L_34 cast_IndexOutOfBoundsException (fun q => ?_)
              refine J.astore_n (i := 3) C dL_line_73 rfl (by decide) ?_
              refine J.sipush C (-1001) dL_line_74 (by decide) ?_
              exact J.iretL C hr (by omega) (by omega) dL_line_77 hrr
            exact (hlookup_nil hk).elim
          refine J.if_eqL (tgt := 55) C dL_line_48 (by decide) H (fun c_48 H => ?_) (fun c_48 H => ?_)
          · refine J.iconst C (0) dL_line_55 (by decide) ?_
            refine J.goto (tgt := 72) C dL_line_56 (by decide) ?_
            exact J.iretL C hr (by omega) (by omega) dL_line_72 H
          · refine J.iconst C (1) dL_line_51 (by decide) ?_
            refine J.goto (tgt := 72) C dL_line_52 (by decide) ?_
            exact J.iretL C hr (by omega) (by omega) dL_line_72 H
      · refine J.aload_n (i := 0) C dL_line_30 rfl rfl ?_
        refine J.iload_n (i := 1) C dL_line_31 rfl rfl ?_
        refine J.callHV (hp := (dkh g ad rst)) C rfl (sp_X6_depthOf hl _) rfl kMl_L_140 mdX6_depthOf ⟨(Nat.le_of_ble_eq_true rfl), (Nat.le_of_ble_eq_true rfl)⟩ dk_0 rfl rfl (Nat.le_of_ble_eq_true rfl) dL_line_32 ⟨by show _ ≤ (1 : Nat); omega, by show _ ≤ (6 : Nat); omega⟩ H (fun E v σ1 hk hrr => ?_) (fun r32 s32 H => ?_)
        · rcases hlookup_cons hk with ⟨rfl, rfl⟩ | ⟨ne0, hk⟩
          · refine J.catch C ht [] [] { startPc := 0, endPc := 72, handlerPc := 73, catchType := 34 } rfl (by decide) (fun _ hz => absurd hz List.not_mem_nil) rfl (by decide) kCl_L_34 cast_IndexOutOfBoundsException (fun q => ?_)
            refine J.astore_n (i := 3) C dL_line_73 rfl (by decide) ?_
            refine J.sipush C (-1001) dL_line_74 (by decide) ?_
            exact J.iretL C hr (by omega) (by omega) dL_line_77 hrr
          exact (hlookup_nil hk).elim
        refine J.goto (tgt := 72) C dL_line_35 (by decide) ?_
        exact J.iretL C hr (by omega) (by omega) dL_line_72 H
    · refine J.aload_n (i := 0) C dL_line_17 rfl rfl ?_
      refine J.iload_n (i := 1) C dL_line_18 rfl rfl ?_
      refine J.callHV (hp := (dkh g ad rst)) C rfl (sp_X6_ruleOf hl _) rfl kMl_L_136 mdX6_ruleOf ⟨(Nat.le_of_ble_eq_true rfl), (Nat.le_of_ble_eq_true rfl)⟩ dk_0 rfl rfl (Nat.le_of_ble_eq_true rfl) dL_line_19 ⟨by show _ ≤ (1 : Nat); omega, by show _ ≤ (6 : Nat); omega⟩ H (fun E v σ1 hk hrr => ?_) (fun r19 s19 H => ?_)
      · rcases hlookup_cons hk with ⟨rfl, rfl⟩ | ⟨ne0, hk⟩
        · refine J.catch C ht [] [] { startPc := 0, endPc := 72, handlerPc := 73, catchType := 34 } rfl (by decide) (fun _ hz => absurd hz List.not_mem_nil) rfl (by decide) kCl_L_34 cast_IndexOutOfBoundsException (fun q => ?_)
          refine J.astore_n (i := 3) C dL_line_73 rfl (by decide) ?_
          refine J.sipush C (-1001) dL_line_74 (by decide) ?_
          exact J.iretL C hr (by omega) (by omega) dL_line_77 hrr
        exact (hlookup_nil hk).elim
      refine J.goto (tgt := 72) C dL_line_22 (by decide) ?_
      exact J.iretL C hr (by omega) (by omega) dL_line_72 H
  · refine J.aload_n (i := 0) C dL_line_4 rfl rfl ?_
    refine J.iload_n (i := 1) C dL_line_5 rfl rfl ?_
    refine J.callHV (hp := (dkh g ad rst)) C rfl (sp_X6_formulaOf hl _) rfl kMl_L_133 mdX6_formulaOf ⟨(Nat.le_of_ble_eq_true rfl), (Nat.le_of_ble_eq_true rfl)⟩ dk_0 rfl rfl (Nat.le_of_ble_eq_true rfl) dL_line_6 ⟨by show _ ≤ (1 : Nat); omega, by show _ ≤ (6 : Nat); omega⟩ H (fun E v σ1 hk hrr => ?_) (fun r6 s6 H => ?_)
    · rcases hlookup_cons hk with ⟨rfl, rfl⟩ | ⟨ne0, hk⟩
      · refine J.catch C ht [] [] { startPc := 0, endPc := 72, handlerPc := 73, catchType := 34 } rfl (by decide) (fun _ hz => absurd hz List.not_mem_nil) rfl (by decide) kCl_L_34 cast_IndexOutOfBoundsException (fun q => ?_)
        refine J.astore_n (i := 3) C dL_line_73 rfl (by decide) ?_
        refine J.sipush C (-1001) dL_line_74 (by decide) ?_
        exact J.iretL C hr (by omega) (by omega) dL_line_77 hrr
      exact (hlookup_nil hk).elim
    refine J.goto (tgt := 72) C dL_line_9 (by decide) ?_
    exact J.iretL C hr (by omega) (by omega) dL_line_72 H

/-! L_box -/
abbrev mL_box : MD := (yL_box, cL_box, 4, some .int)
abbrev hL_box : HH := [(0, 25, 26, 34)]
theorem mdL_box : MDh mL_box hL_box 3 := ⟨kSt_L_box, kIn_L, kCw_L_box, by decide +kernel⟩
def P_L_box (σ : DS) (a1 : Int32) (a2 : Int32) : Res DS Int32 := (if a2 = 0 then (hdl [("java/lang/IndexOutOfBoundsException", (-1001 : Int32))] (P_X6_canCiteBox σ a1) fun r14 s14 => (if r14 = 0 then (some (.inl (0 : Int32), s14)) else (some (.inl (1 : Int32), s14)))) else (hdl [("java/lang/IndexOutOfBoundsException", (-1001 : Int32))] (P_X6_resultOf σ a1) fun r6 s6 => (some (.inl r6, s6))))
set_option maxRecDepth 100000 in
theorem sp_L_box {l : Launch} (hl : l.stackTraces = false) {g : Gy} {ad : Nat → Nat} {rst : va_W} {σ : DS} (a1 : Int32) (a2 : Int32) : SpHR l mL_box hL_box 9 1 6 mI g [.ref (ad 0), .int a1, .int a2] (dkh g ad rst) σ (P_L_box σ a1 a2) := by
  refine SpHR.of hl (by decide) (Nat.le_of_ble_eq_true rfl) (fun rr H p e s m args below meth c A C hr ht => ?_)
  unfold P_L_box at H
  refine J.lw (lv' := [(0, .ref (ad 0)), (1, .int a1), (2, .int a2)]) ⟨rfl, rfl, rfl, trivial⟩ ?_
  refine J.iload_n (i := 2) C dL_box_0 rfl rfl ?_
  refine J.if_eqL (tgt := 12) C dL_box_1 (by decide) H (fun c_1 H => ?_) (fun c_1 H => ?_)
  · refine J.aload_n (i := 0) C dL_box_12 rfl rfl ?_
    refine J.iload_n (i := 1) C dL_box_13 rfl rfl ?_
    refine J.callHV (hp := (dkh g ad rst)) C rfl (sp_X6_canCiteBox hl _) rfl kMl_L_153 mdX6_canCiteBox ⟨(Nat.le_of_ble_eq_true rfl), (Nat.le_of_ble_eq_true rfl)⟩ dk_0 rfl rfl (Nat.le_of_ble_eq_true rfl) dL_box_14 ⟨by show _ ≤ (1 : Nat); omega, by show _ ≤ (6 : Nat); omega⟩ H (fun E v σ1 hk hrr => ?_) (fun r14 s14 H => ?_)
    · rcases hlookup_cons hk with ⟨rfl, rfl⟩ | ⟨ne0, hk⟩
      · refine J.catch C ht [] [] { startPc := 0, endPc := 25, handlerPc := 26, catchType := 34 } rfl (by decide) (fun _ hz => absurd hz List.not_mem_nil) rfl (by decide) kCl_L_34 cast_IndexOutOfBoundsException (fun q => ?_)
        refine J.astore_n (i := 3) C dL_box_26 rfl (by decide) ?_
        refine J.sipush C (-1001) dL_box_27 (by decide) ?_
        exact J.iretL C hr (by omega) (by omega) dL_box_30 hrr
      exact (hlookup_nil hk).elim
    refine J.if_eqL (tgt := 24) C dL_box_17 (by decide) H (fun c_17 H => ?_) (fun c_17 H => ?_)
    · refine J.iconst C (0) dL_box_24 (by decide) ?_
      exact J.iretL C hr (by omega) (by omega) dL_box_25 H
    · refine J.iconst C (1) dL_box_20 (by decide) ?_
      refine J.goto (tgt := 25) C dL_box_21 (by decide) ?_
      exact J.iretL C hr (by omega) (by omega) dL_box_25 H
  · refine J.aload_n (i := 0) C dL_box_4 rfl rfl ?_
    refine J.iload_n (i := 1) C dL_box_5 rfl rfl ?_
    refine J.callHV (hp := (dkh g ad rst)) C rfl (sp_X6_resultOf hl _) rfl kMl_L_150 mdX6_resultOf ⟨(Nat.le_of_ble_eq_true rfl), (Nat.le_of_ble_eq_true rfl)⟩ dk_0 rfl rfl (Nat.le_of_ble_eq_true rfl) dL_box_6 ⟨by show _ ≤ (1 : Nat); omega, by show _ ≤ (6 : Nat); omega⟩ H (fun E v σ1 hk hrr => ?_) (fun r6 s6 H => ?_)
    · rcases hlookup_cons hk with ⟨rfl, rfl⟩ | ⟨ne0, hk⟩
      · refine J.catch C ht [] [] { startPc := 0, endPc := 25, handlerPc := 26, catchType := 34 } rfl (by decide) (fun _ hz => absurd hz List.not_mem_nil) rfl (by decide) kCl_L_34 cast_IndexOutOfBoundsException (fun q => ?_)
        refine J.astore_n (i := 3) C dL_box_26 rfl (by decide) ?_
        refine J.sipush C (-1001) dL_box_27 (by decide) ?_
        exact J.iretL C hr (by omega) (by omega) dL_box_30 hrr
      exact (hlookup_nil hk).elim
    refine J.goto (tgt := 25) C dL_box_9 (by decide) ?_
    exact J.iretL C hr (by omega) (by omega) dL_box_25 H

