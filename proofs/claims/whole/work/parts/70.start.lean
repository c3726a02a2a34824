/-! THE LAW'S START: the classes, the arrays' classes, what stays of the world -/
theorem inW_J0 : ∀ w ∈ u_ws RJ0 TJ0 2, w ∈ lw_tbl := by
  have h : u_ws RJ0 TJ0 2 = ([529, 531] : List Nat).filterMap (fun i => lw_tbl[i]?) := by decide +kernel
  intro w hw
  rw [h] at hw
  obtain ⟨i, -, hi⟩ := List.mem_filterMap.mp hw
  exact List.mem_of_getElem? hi
theorem inW_Jx : ∀ w ∈ u_ws RJx00060 TJx00060 6, w ∈ lw_tbl := by
  have h : u_ws RJx00060 TJx00060 6 = ([517, 518, 519, 520, 521, 522] : List Nat).filterMap (fun i => lw_tbl[i]?) := by decide +kernel
  intro w hw
  rw [h] at hw
  obtain ⟨i, -, hi⟩ := List.mem_filterMap.mp hw
  exact List.mem_of_getElem? hi
theorem BIG_tbl {w : Cond} (h : w ∈ BIG) : w ∈ lw_tbl := (List.mem_filter.mp h).1
theorem tb_tbl {w : Cond} (h : w ∈ tables_1) : w ∈ lw_tbl := List.mem_append_right _ h
/-- the class of the arrays of a type that is no object -/
theorem arr_known {ty : FieldType} (hno : noObj ty = true) {args : Array Value} {s : State} (h : (Cond.arrayClass ty).before args s = true) : ∃ cA : ClassId, ArrOfT s cA ty ∧ va_RA s cA ty := by
  obtain ⟨c, k, comp, h1, h2, h3⟩ := Cond.arrayClass_spec h
  refine ⟨c, fun n z => ⟨fun k h => (by cases h), k, h2, comp, h3⟩, ?_⟩
  cases ty <;> first | exact h1 | exact absurd (show false = true from hno) Bool.false_ne_true
theorem arr2_known {args : Array Value} {s : State} (h : (Cond.arrayOver (.array .int)).before args s = true) : ∃ cA : ClassId, ArrOfT s cA (.array .int) ∧ va_RA s cA (.array .int) := by
  have h : ((s.vm.findClass (FieldType.array .int).toString).bind fun comp => (s.vm.classes.findIdx? fun (x : Class) => match x.kind with | .array component _ => component == comp | _ => false).bind fun c => (s.vm.classes[c]?).map (fun k => match k.kind with | .array _ ty => decide (ty = FieldType.array .int) && decide (s.vm.findClass ("[" ++ (FieldType.array .int).toString) = some c) | _ => false)) == some true := h
  cases h1 : s.vm.findClass (FieldType.array .int).toString with
  | none => rw [h1] at h; cases h
  | some comp =>
    rw [h1] at h
    simp only [Option.bind_some] at h
    cases h2 : s.vm.classes.findIdx? fun (x : Class) => match x.kind with | .array component _ => component == comp | _ => false with
    | none => rw [h2] at h; cases h
    | some c =>
      rw [h2] at h
      simp only [Option.bind_some] at h
      cases h3 : s.vm.classes[c]? with
      | none => rw [h3] at h; cases h
      | some k =>
        rw [h3] at h
        simp only [Option.map_some] at h
        cases h4 : k.kind with
        | array comp2 ty =>
          rw [h4] at h
          simp only [beq_iff_eq, Option.some.injEq, Bool.and_eq_true, decide_eq_true_eq] at h
          obtain ⟨rfl, h6⟩ := h
          exact ⟨c, fun n z => ⟨fun k h => (by cases h), k, h3, comp2, h4⟩, h6⟩
        | _ => rw [h4] at h; cases h
theorem start_WK {args : Array Value} {s : State} (hts : ∀ w ∈ lw_tbl, w.before args s = true) : ∃ g : Gy, WK g s := by
  have hb : ∀ w ∈ BIG, w.before args s = true := fun w hw => hts w (BIG_tbl hw)
  obtain ⟨c0, i0, h0⟩ := u_known (C := RJ0) (T := TJ0) (N := 2) (n := 4) hts inW_J0 (hb _ kIs_J0)
  obtain ⟨c1, i1, h1⟩ := u_known (C := RJx00060) (T := TJx00060) (N := 6) (n := 6) hts inW_Jx (hb _ kIs_Jx00060)
  obtain ⟨c2, i2, h2⟩ := u_known (C := RX0) (T := TX0) (N := 10) (n := 10) hb inB_X0 (hb _ kIs_X0)
  obtain ⟨c3, i3, h3⟩ := u_known (C := RX1) (T := TX1) (N := 8) (n := 8) hb inB_X1 (hb _ kIs_X1)
  obtain ⟨c4, i4, h4⟩ := u_known (C := RX2) (T := TX2) (N := 16) (n := 16) hb inB_X2 (hb _ kIs_X2)
  obtain ⟨c5, i5, h5⟩ := u_known (C := RX3) (T := TX3) (N := 1) (n := 1) hb inB_X3 (hb _ kIs_X3)
  obtain ⟨c6, i6, h6⟩ := u_known (C := RX4) (T := TX4) (N := 10) (n := 10) hb inB_X4 (hb _ kIs_X4)
  obtain ⟨c7, i7, h7⟩ := u_known (C := RX5) (T := TX5) (N := 2) (n := 2) hb inB_X5 (hb _ kIs_X5)
  obtain ⟨c8, i8, h8⟩ := u_known (C := RX6) (T := TX6) (N := 5) (n := 5) hb inB_X6 (hb _ kIs_X6)
  obtain ⟨c9, i9, h9⟩ := u_known (C := RX7) (T := TX7) (N := 30) (n := 30) hb inB_X7 (hb _ kIs_X7)
  obtain ⟨a0, b0⟩ := arr_known (ty := .int) rfl (hb _ kAc_int)
  obtain ⟨a1, b1⟩ := arr_known (ty := .char) rfl (hb _ kAc_char)
  obtain ⟨a2, b2⟩ := arr_known (ty := .boolean) rfl (hb _ kAc_boolean)
  obtain ⟨a3, b3⟩ := arr2_known (hts _ (tb_tbl kao))
  obtain ⟨a4, b4⟩ := arr_known (ty := .long) rfl (hb _ kAc_long)
  obtain ⟨a5, b5⟩ := arr_known (ty := .double) rfl (hb _ kAc_double)
  refine ⟨((fun k => [c0, c1, c2, c3, c4, c5, c6, c7, c8, c9].getD k 0, fun k => [i0, i1, i2, i3, i4, i5, i6, i7, i8, i9].getD k i0), fun k => [a0, a1, a2, a3, a4, a5].getD k 0), fun k q hq => ?_, fun k q hq => ?_⟩
  · match k, hq with
    | 0, hq => cases hq; exact h0
    | 1, hq => cases hq; exact h1
    | 2, hq => cases hq; exact h2
    | 3, hq => cases hq; exact h3
    | 4, hq => cases hq; exact h4
    | 5, hq => cases hq; exact h5
    | 6, hq => cases hq; exact h6
    | 7, hq => cases hq; exact h7
    | 8, hq => cases hq; exact h8
    | 9, hq => cases hq; exact h9
    | k + 10, hq => cases hq
  · match k, hq with
    | 0, hq => cases hq; exact b0
    | 1, hq => cases hq; exact b1
    | 2, hq => cases hq; exact b2
    | 3, hq => cases hq; exact b3
    | 4, hq => cases hq; exact b4
    | 5, hq => cases hq; exact b5
    | k + 6, hq => cases hq
/-- every text constant is the class's -/
def ownOk : Cond → Bool
  | .stringRef own _ _ => own == "DeductionDesk"
  | _ => true
theorem own_all : tables_1.all ownOk = true := by decide +kernel
theorem nwk_of {w : Cond} (hw : nwk w = true) {a : Array Value} {U : State} (h : w.before a U = true) : va_Nw w U := by
  cases w <;> first | exact va_Nw.of rfl h | (exact absurd (show false = true from hw) Bool.false_ne_true) | (rename_i ty; cases ty <;> first | exact absurd (show false = true from hw) Bool.false_ne_true | exact h)
set_option maxRecDepth 100000 in
theorem xc_pairs : ∀ E ∈ xcs, ∀ T ∈ xcs, E ≠ T → Cond.not (.castable E T) ∈ flatC (Jvm.Cond.and given_1 narrow_1) := by decide +kernel
theorem start_TW {b : Nat} {s : State} (hts : ∀ w ∈ lw_tbl, w.before #[Value.ref b] s = true) (hgv : (Jvm.Cond.and given_1 narrow_1).before #[Value.ref b] s = true) : TW (fun q => s.heap.size ≤ q) s s.heap := by
  have hs := flat_of_before _ hgv
  have hA : ∀ a : Nat, a < s.heap.size → ¬ s.heap.size ≤ a := fun a h => Nat.not_le.mpr h
  have hZ : (Cond.initialized Bundle.tN).before #[Value.ref b] s = true := hts _ (by decide +kernel)
  refine ⟨vx_Zqof (args := #[Value.ref b]) (hts _ (tb_tbl (List.mem_of_getElem? (i := 318) (by decide +kernel)))) hZ (hs _ (by decide +kernel)) hA, vx_Zqof (args := #[Value.ref b]) (hts _ (tb_tbl (List.mem_of_getElem? (i := 320) (by decide +kernel)))) hZ (hs _ (by decide +kernel)) hA, fun own k tx hm => ?_, fun w hm hk => nwk_of hk (hts w (tb_tbl hm)), fun E hE T hT hn => va_Nc.of (args := #[Value.ref b]) (hs _ (xc_pairs E hE T hT hn))⟩
  have ho := List.all_eq_true.mp own_all _ hm
  have ho : own = "DeductionDesk" := eq_of_beq ho
  subst ho
  obtain ⟨cC, kC, hfc, -⟩ := Cond.instantiable_spec (hts _ (BIG_tbl kIs_X6))
  have hst := hts _ (tb_tbl hm)
  obtain ⟨k9, cf, i, a, -, -, -, -, -, h6⟩ := Cond.stringRef_spec hfc hst
  exact ⟨a, vk_R.of hst h6⟩
theorem start_flags {l : Launch} (h : l.flags = flags0) : l.stackTraces = false := by
  unfold Launch.stackTraces
  rw [h]
  decide
