/-! THE LAW'S START: the classes, the arrays' classes, what stays of the world -/
theorem inW_J0 : ∀ w ∈ u_ws RJ0 TJ0 2, w ∈ lw_tbl := by
  have h : u_ws RJ0 TJ0 2 = ([504, 506] : List Nat).filterMap (fun i => lw_tbl[i]?) := by decide +kernel
  intro w hw
  rw [h] at hw
  obtain ⟨i, -, hi⟩ := List.mem_filterMap.mp hw
  exact List.mem_of_getElem? hi
theorem inW_Jx : ∀ w ∈ u_ws RJx00060 TJx00060 6, w ∈ lw_tbl := by
  have h : u_ws RJx00060 TJx00060 6 = ([492, 493, 494, 495, 496, 497] : List Nat).filterMap (fun i => lw_tbl[i]?) := by decide +kernel
  intro w hw
  rw [h] at hw
  obtain ⟨i, -, hi⟩ := List.mem_filterMap.mp hw
  exact List.mem_of_getElem? hi
theorem BIG_tbl {w : Cond} (h : w ∈ BIG) : w ∈ lw_tbl := (List.mem_filter.mp h).1
theorem tb_tbl {w : Cond} (h : w ∈ tables_1) : w ∈ lw_tbl := List.mem_append_right _ h
/-- the class of the arrays of a type that is no object -/
theorem arr_known {ty : FieldType} (hno : noObj ty = true) {args : Array Value} {s : State} (h : (Cond.arrayClass ty).before args s = true) : ∃ cA : ClassId, ArrOfT s cA ty ∧ va_RA s cA ty := by
  obtain ⟨c, k, comp, h1, h2, h3⟩ := Cond.arrayClass_spec h
  refine ⟨c, fun n z => ⟨fun k h => (by cases h), k, h2, comp, h3⟩, ?_⟩
  cases ty <;> first | exact h1 | exact absurd (show false = true from hno) Bool.false_ne_true
theorem start_WK {args : Array Value} {s : State} (hts : ∀ w ∈ lw_tbl, w.before args s = true) : ∃ g : Gy, WK g s := by
  have hb : ∀ w ∈ BIG, w.before args s = true := fun w hw => hts w (BIG_tbl hw)
  obtain ⟨c0, i0, h0⟩ := u_known (C := RJ0) (T := TJ0) (N := 2) (n := 4) hts inW_J0 (hb _ kIs_J0)
  obtain ⟨c1, i1, h1⟩ := u_known (C := RJx00060) (T := TJx00060) (N := 6) (n := 6) hts inW_Jx (hb _ kIs_Jx00060)
  obtain ⟨c2, i2, h2⟩ := u_known (C := RX0) (T := TX0) (N := 10) (n := 10) hb inB_X0 (hb _ kIs_X0)
  obtain ⟨c3, i3, h3⟩ := u_known (C := RX1) (T := TX1) (N := 8) (n := 8) hb inB_X1 (hb _ kIs_X1)
  obtain ⟨c4, i4, h4⟩ := u_known (C := RX2) (T := TX2) (N := 16) (n := 16) hb inB_X2 (hb _ kIs_X2)
  obtain ⟨c5, i5, h5⟩ := u_known (C := RX3) (T := TX3) (N := 1) (n := 1) hb inB_X3 (hb _ kIs_X3)
  obtain ⟨c6, i6, h6⟩ := u_known (C := RX4) (T := TX4) (N := 10) (n := 10) hb inB_X4 (hb _ kIs_X4)
  obtain ⟨c7, i7, h7⟩ := u_known (C := RX5) (T := TX5) (N := 2) (n := 2) hb inB_X5 (hb _ kIs_X5)
  obtain ⟨c8, i8, h8⟩ := u_known (C := RX6) (T := TX6) (N := 5) (n := 5) hb inB_X6 (hb _ kIs_X6)
  obtain ⟨a0, b0⟩ := arr_known (ty := .int) rfl (hb _ kAc_int)
  refine ⟨((fun k => [c0, c1, c2, c3, c4, c5, c6, c7, c8].getD k 0, fun k => [i0, i1, i2, i3, i4, i5, i6, i7, i8].getD k i0), fun k => [a0].getD k 0), fun k q hq => ?_, fun k q hq => ?_⟩
  · match k, hq with
    | 0, hq => cases hq; exact h0
    | 1, hq => cases hq; exact h1
    | 2, hq => cases hq; exact h2
    | 3, hq => cases hq; exact h3
    | 4, hq => cases hq; exact h4
    | 5, hq => cases hq; exact h5
    | 6, hq => cases hq; exact h6
    | 7, hq => cases hq; exact h7
    | 8, hq => cases hq; exact h8
    | k + 9, hq => cases hq
  · match k, hq with
    | 0, hq => cases hq; exact b0
    | k + 1, hq => cases hq
/-- every text constant is the class's -/
def ownOk : Cond → Bool
  | .stringRef own k tx => own == "DeductionDesk" || (own == "DeductionDeskLaw" && (k == 244 && tx == "NKAC"))
  | _ => true
theorem own_all : tables_1.all ownOk = true := by decide +kernel
theorem nwk_of {w : Cond} (hw : nwk w = true) {a : Array Value} {U : State} (h : w.before a U = true) : va_Nw w U := by
  cases w <;> first | exact va_Nw.of rfl h | (exact absurd (show false = true from hw) Bool.false_ne_true) | (rename_i ty; cases ty <;> first | exact absurd (show false = true from hw) Bool.false_ne_true | exact h)
set_option maxRecDepth 100000 in
theorem xc_pairs : ∀ E ∈ xcs, ∀ T ∈ xcs, E ≠ T → Cond.not (.castable E T) ∈ flatC (Jvm.Cond.and given_1 narrow_1) := by decide +kernel
theorem start_TS {b : Nat} {s : State} (hts : ∀ w ∈ lw_tbl, w.before #[Value.ref b] s = true) (hgv : (Jvm.Cond.and given_1 narrow_1).before #[Value.ref b] s = true) : ∃ tA : Nat, vk_R "DeductionDeskLaw" 244 "NKAC" tA s ∧ (∃ c : Nat, XT tA c (fun q => s.heap.size ≤ q) s s.heap) ∧ TS (fun q => s.heap.size ≤ q) s s.heap := by
  have hs := flat_of_before _ hgv
  have hA : ∀ a : Nat, a < s.heap.size → ¬ s.heap.size ≤ a := fun a h => Nat.not_le.mpr h
  obtain ⟨adK, adV, hS, hev⟩ := vk_Sof (args := #[Value.ref b]) (s := s) (N := 1) (tm := fun _ => Term.string "DeductionDeskLaw" 244) (len := [4]) (byt := [[78, 75, 65, 67]]) (A := fun q => s.heap.size ≤ q) (fun i hi => by
      have : i = 0 := by omega
      subst this; decide) (fun i hi => hs _ (by decide +kernel)) (fun i hi => hs _ (by decide +kernel)) (fun i hi => hs _ (by decide +kernel)) (fun i hi => by
      have : i = 0 := by omega
      subst this; exact hs _ (by decide +kernel)) (fun i hi j hj => by
      have : i = 0 := by omega
      subst this
      have hj : j < 4 := hj
      have hj : j = 0 ∨ j = 1 ∨ j = 2 ∨ j = 3 := by omega
      rcases hj with rfl | rfl | rfl | rfl <;> exact hs _ (by decide +kernel)) (fun i j hi hj hij => absurd (by omega) hij) hA
  obtain ⟨h1, h2, h3, h4⟩ := hS.1 0 (by decide)
  have hR : vk_R "DeductionDeskLaw" 244 "NKAC" (adK 0) s := vk_R.of (hts _ (tb_tbl (List.mem_of_getElem? (i := 1166) (by decide +kernel)))) (hev 0 (by decide))
  have hX : XT (adK 0) (adV 0) (fun q => s.heap.size ≤ q) s s.heap := ⟨h1, h2, h3, h4⟩
  have z1 : va_Z "java/lang/String" "COMPACT_STRINGS" "Z" (.int 1) (fun q => s.heap.size ≤ q) s s.heap := va_Zof (args := #[Value.ref b]) (hts _ (tb_tbl (List.mem_of_getElem? (i := 1134) (by decide +kernel)))) (hts _ (BIG_tbl kIn_J0)) (va_eqt (hs _ (by decide +kernel))) hA
  have z2 : vx_Zq "jdk/internal/util/Preconditions" "SIOOBE_FORMATTER" "Ljava/util/function/BiFunction;" (fun q => s.heap.size ≤ q) s s.heap := vx_Zqof (args := #[Value.ref b]) (hts _ (tb_tbl (List.mem_of_getElem? (i := 1142) (by decide +kernel)))) (hts _ (BIG_tbl kIn_J3)) (hs _ (by decide +kernel)) hA
  exact ⟨adK 0, hR, ⟨adV 0, hX⟩, z1, z2.1, adK 0, adV 0, hR, h1, h2, h3, h4⟩
theorem start_TW {b : Nat} {s : State} (hts : ∀ w ∈ lw_tbl, w.before #[Value.ref b] s = true) (hgv : (Jvm.Cond.and given_1 narrow_1).before #[Value.ref b] s = true) : TW (fun q => s.heap.size ≤ q) s s.heap := by
  have hs := flat_of_before _ hgv
  have hA : ∀ a : Nat, a < s.heap.size → ¬ s.heap.size ≤ a := fun a h => Nat.not_le.mpr h
  have hZ : (Cond.initialized Bundle.tN).before #[Value.ref b] s = true := hts _ (by decide +kernel)
  obtain ⟨tA, hR, -, hTS⟩ := start_TS hts hgv
  refine ⟨vx_Zqof (args := #[Value.ref b]) (hts _ (tb_tbl (List.mem_of_getElem? (i := 326) (by decide +kernel)))) hZ (hs _ (by decide +kernel)) hA, vx_Zqof (args := #[Value.ref b]) (hts _ (tb_tbl (List.mem_of_getElem? (i := 328) (by decide +kernel)))) hZ (hs _ (by decide +kernel)) hA, fun own k tx hm => ?_, fun w hm hk => nwk_of hk (hts w (tb_tbl hm)), fun E hE T hT hn => va_Nc.of (args := #[Value.ref b]) (hs _ (xc_pairs E hE T hT hn)), hTS⟩
  have ho := List.all_eq_true.mp own_all _ hm
  have ho : (own == "DeductionDesk" || (own == "DeductionDeskLaw" && (k == 244 && tx == "NKAC"))) = true := ho
  by_cases h9 : own = "DeductionDesk"
  · subst h9
    obtain ⟨cC, kC, hfc, -⟩ := Cond.instantiable_spec (hts _ (BIG_tbl kIs_X6))
    have hst := hts _ (tb_tbl hm)
    obtain ⟨k9, cf, i, a, -, -, -, -, -, h6⟩ := Cond.stringRef_spec hfc hst
    exact ⟨a, vk_R.of hst h6⟩
  · rw [show (own == "DeductionDesk") = false from beq_eq_false_iff_ne.mpr h9, Bool.false_or, Bool.and_eq_true, Bool.and_eq_true] at ho
    obtain ⟨o1, o2, o3⟩ := ho
    have o1 : own = "DeductionDeskLaw" := eq_of_beq o1
    have o2 : k = 244 := eq_of_beq o2
    have o3 : tx = "NKAC" := eq_of_beq o3
    subst o1; subst o2; subst o3
    exact ⟨tA, hR⟩
theorem start_flags {l : Launch} (h : l.flags = flags0) : l.stackTraces = false := by
  unfold Launch.stackTraces
  rw [h]
  decide
def ds0 : DS := (fun k => bif Nat.beq k 4 then (-1 : Int32) else 0, fun k => bif Nat.beq k 24 then rfill 5 (fun _ => 0) (-1) else fun _ => 0)
def ms0 : MS := (fun k => bif Nat.beq k 3 then (-1 : Int32) else 0, fun k => bif Nat.beq k 5 then upd (upd (upd (upd (upd (fun _ => 0) (0 : Int32).toNatClampNeg (-1)) (1 : Int32).toNatClampNeg (-1)) (2 : Int32).toNatClampNeg (-1)) (3 : Int32).toNatClampNeg (-1)) (4 : Int32).toNatClampNeg (-1) else fun _ => 0, fun _ _ => 0, fun _ _ => 0)
theorem va_P.perm {D : va_G} {cl : List vw_C} {w w' : va_W} {H : Heap} (hp : w.Perm w') (h : va_P D cl w H) : va_P D cl w' H := fun k q hk => by
  obtain ⟨i, hi⟩ := List.getElem?_of_mem (hp.mem_iff.mpr (List.mem_of_getElem? hk))
  exact h i q hi
theorem va_D_iff {A : Nat → Prop} {w : va_W} : va_D A w ↔ w.Pairwise (fun p q => p.1 ≠ q.1) ∧ ∀ q ∈ w, A q.1 := by
  constructor
  · intro h
    refine ⟨List.pairwise_iff_getElem.mpr (fun i j hi hj hij e => ?_), fun q hq => ?_⟩
    · have := h.1 i j w[i] w[j] (List.getElem?_eq_getElem hi) (List.getElem?_eq_getElem hj) e
      omega
    · obtain ⟨i, hi⟩ := List.getElem?_of_mem hq
      exact h.2 i q hi
  · intro h
    refine ⟨fun i j p q hi hj e => ?_, fun k q hk => h.2 q (List.mem_of_getElem? hk)⟩
    obtain ⟨hi1, rfl⟩ := List.getElem?_eq_some_iff.mp hi
    obtain ⟨hj1, rfl⟩ := List.getElem?_eq_some_iff.mp hj
    rcases Nat.lt_trichotomy i j with z | z | z
    · exact absurd e (List.pairwise_iff_getElem.mp h.1 i j hi1 hj1 z)
    · exact z
    · exact absurd e.symm (List.pairwise_iff_getElem.mp h.1 j i hj1 hi1 z)
theorem va_D.perm {A : Nat → Prop} {w w' : va_W} (hp : w.Perm w') (h : va_D A w) : va_D A w' := by
  rw [va_D_iff] at h ⊢
  exact ⟨(hp.pairwise_iff (fun h => Ne.symm h)).mp h.1, fun q hq => h.2 q (hp.mem_iff.mpr hq)⟩
section ST
variable {p : Program} {l : Launch} {e : Env} {R : Room} {s : State} {m : MethodId} {args : Array Value} {below : List Frame} {meth : Method} {c : Code} {g : Gy} {A : Nat → Prop} {own : String} {cc : ByteArray} {nL : Nat} {cells slots : Nat} {Q : State → Prop} {pc : Nat} {lv : List (Nat × Value)} {st : List Value} {h h' : va_W}
theorem J.perm (hp : h.Perm h') (k : J p l e R s m args below meth c g A nL cells slots Q pc lv st h') : J p l e R s m args below meth c g A nL cells slots Q pc lv st h := fun H locs ls hP hD hS hl => k H locs ls (hP.perm hp) (hD.perm hp) hS hl
end ST
theorem perm_of_idx {α : Type} (is : List Nat) (w w' : List α) {n : Nat} (hl : w.length = n) (hp : is.Perm (List.range n)) (h : is.map (fun i => w[i]?) = w'.map some) : w.Perm w' := by
  subst hl
  have h1 : (is.map (fun i => w[i]?)).Perm ((List.range w.length).map (fun i => w[i]?)) := hp.map _
  have h2 : (List.range w.length).map (fun i => w[i]?) = w.map some := by
    apply List.ext_getElem?
    intro j
    rw [List.getElem?_map, List.getElem?_map]
    by_cases hj : j < w.length
    · rw [List.getElem?_range hj, List.getElem?_eq_getElem hj]; simp [hj]
    · rw [List.getElem?_eq_none (by rw [List.length_range]; omega), List.getElem?_eq_none (by omega)]; rfl
  rw [h2, h] at h1
  have h3 : (w'.map some).filterMap id = w' := by simp [List.filterMap_map]
  have h4 : (w.map some).filterMap id = w := by simp [List.filterMap_map]
  have h5 := h1.filterMap id
  rw [h3, h4] at h5
  exact h5.symm
set_option maxRecDepth 100000 in
theorem st_6 (g : Gy) (b6 q4 q4_8 c4_8 q18_8 c18_8 q32_8 c32_8 q46_8 c46_8 q60_8 c60_8 q74_8 c74_8 q88_8 c88_8 q101_8 c101_8 q12 q4_17 c4_17 q17_17 c17_17 q30_17 c30_17 q43_17 c43_17 q56_17 c56_17 q69_17 c69_17 q82_17 c82_17 q95_17 c95_17 q108_17 c108_17 q121_17 c121_17 q134_17 c134_17 q147_17 c147_17 q32 q4_37 c4_37 q17_37 c17_37 q30_37 c30_37 q43_37 c43_37 q56_37 c56_37 q68_37 c68_37 q44 q4_50 c4_50 q18_50 c18_50 q32_50 c32_50 q57 q4_61 c4_61 : Nat) : (cl_X6 g b6 q4 q4_8 c4_8 q18_8 c18_8 q32_8 c32_8 q46_8 c46_8 q60_8 c60_8 q74_8 c74_8 q88_8 c88_8 q101_8 c101_8 q12 q4_17 c4_17 q17_17 c17_17 q30_17 c30_17 q43_17 c43_17 q56_17 c56_17 q69_17 c69_17 q82_17 c82_17 q95_17 c95_17 q108_17 c108_17 q121_17 c121_17 q134_17 c134_17 q147_17 c147_17 q32 q4_37 c4_37 q17_37 c17_37 q30_37 c30_37 q43_37 c43_37 q56_37 c56_37 q68_37 c68_37 q44 q4_50 c4_50 q18_50 c18_50 q32_50 c32_50 q57 q4_61 c4_61).Perm (dk g (fun k => [b6, q4, q12, q32, q44, q57, q4_8, c4_8, q18_8, c18_8, q32_8, c32_8, q46_8, c46_8, q60_8, c60_8, q74_8, c74_8, q88_8, c88_8, q101_8, c101_8, q4_17, c4_17, q17_17, c17_17, q30_17, c30_17, q43_17, c43_17, q56_17, c56_17, q69_17, c69_17, q82_17, c82_17, q95_17, c95_17, q108_17, c108_17, q121_17, c121_17, q134_17, c134_17, q147_17, c147_17, q4_37, c4_37, q17_37, c17_37, q30_37, c30_37, q43_37, c43_37, q56_37, c56_37, q68_37, c68_37, q4_50, c4_50, q18_50, c18_50, q32_50, c32_50, q4_61, c4_61].getD k 0) ds0) := by
  exact perm_of_idx [0, 1, 18, 43, 56, 63, 2, 3, 4, 5, 6, 7, 8, 9, 10, 11, 12, 13, 14, 15, 16, 17, 19, 20, 21, 22, 23, 24, 25, 26, 27, 28, 29, 30, 31, 32, 33, 34, 35, 36, 37, 38, 39, 40, 41, 42, 44, 45, 46, 47, 48, 49, 50, 51, 52, 53, 54, 55, 57, 58, 59, 60, 61, 62, 64, 65] (cl_X6 g b6 q4 q4_8 c4_8 q18_8 c18_8 q32_8 c32_8 q46_8 c46_8 q60_8 c60_8 q74_8 c74_8 q88_8 c88_8 q101_8 c101_8 q12 q4_17 c4_17 q17_17 c17_17 q30_17 c30_17 q43_17 c43_17 q56_17 c56_17 q69_17 c69_17 q82_17 c82_17 q95_17 c95_17 q108_17 c108_17 q121_17 c121_17 q134_17 c134_17 q147_17 c147_17 q32 q4_37 c4_37 q17_37 c17_37 q30_37 c30_37 q43_37 c43_37 q56_37 c56_37 q68_37 c68_37 q44 q4_50 c4_50 q18_50 c18_50 q32_50 c32_50 q57 q4_61 c4_61) _ (n := 66) rfl (by decide +kernel) rfl
def bd7 (l : List Nat) (r104 r152 : Nat → Nat) (k : Nat) : Nat := bif Nat.blt k 23 then l.getD k 0 else bif Nat.blt k 83 then r104 (k - 23) else r152 (k - 83)
set_option maxRecDepth 100000 in
/-- THE LAW, from its entry to the object's place, and from there by its pure text -/
theorem start_of52 {p : Program} {e : Env} {s : State} {m : MethodId} {below : List Frame} {meth : Method} {c : Code} (l : Launch) (hflags : l.flags = flags0) {b L : Nat} {xs : Nat → Int32} (hL : L ≤ 260) {σ9 : DS} (HP : P_L_law L xs ds0 = some (.inl 1, σ9)) (C0 : p.tables.exec = Jvm.exec ∧ c.code = code ∧ meth.sig.returnType = ret ∧ c.maxLocals = 16 ∧ s.vm.findClass RL = some m.cls ∧ (∀ w ∈ lw_tbl, w.before #[Value.ref b] s = true) ∧ va_X b L xs s s.heap ∧ b < s.heap.size ∧ meth.locks = false ∧ (Jvm.Cond.and given_1 narrow_1).before #[Value.ref b] s = true) {Q : State → Prop}
    (kend : ∀ (H : Heap) (locs : List Loc) (ls : Array Slot) (cells slots pc : Nat), decode cL_law pc = .ok (.ireturn, 1) → cells ≤ 640334 → slots ≤ 7169287 → (∀ q ∈ locs, s.heap.size ≤ q.base) → W p l e room_1 s m #[Value.ref b] below meth c H locs cells slots Q (F0 m pc ls [.int 1])) : W p l e room_1 s m #[Value.ref b] below meth c s.heap [] 0 0 Q (entryFrame m ([Value.ref b] : List Value).toArray 16) := by
  obtain ⟨hx, hb, hr, hml, hown, hts, hX, hbl, hlocks, hgv⟩ := C0
  have hl := start_flags hflags
  obtain ⟨g, hK⟩ := start_WK hts
  obtain ⟨tA, hR, hXT, -⟩ := start_TS hts hgv
  have C : Cx p l s m #[Value.ref b] meth c g (fun q => s.heap.size ≤ q) RL cL_law 16 := ⟨hx, hb, hml, hown, fun w hw => hts w (BIG_tbl hw), hlocks, hK, fun q hq => hq, start_TW hts hgv, hl⟩
  have hbA : ¬ (fun q : Nat => s.heap.size ≤ q) b := Nat.not_le.mpr hbl
  have key : J p l e room_1 s m #[Value.ref b] below meth c g (fun q => s.heap.size ≤ q) 16 0 0 Q 0 [(0, .ref b)] [] [] := by
    refine J.new C (ci := 8) (fs := [.null, .null, .null, .null, .null]) inB_X6 tyX6 tyX6_ok kCl_L_8 kIs_X6 kIn_X6 rfl (by decide +kernel) ⟨Nat.le_of_ble_eq_true rfl, Nat.le_of_ble_eq_true rfl⟩ dL_law_0 (fun b6 => ?_)
    refine J.dup C dL_law_3 rfl ?_
    refine J.callI (d := mX6_init) C (sp_X6_init hl _ b6) rfl kMl_L_222 mdX6_init ⟨Nat.le_of_ble_eq_true rfl, Nat.le_of_ble_eq_true rfl⟩ rfl (Nat.le_of_ble_eq_true rfl) dL_law_4 ⟨Nat.le_of_ble_eq_true rfl, Nat.le_of_ble_eq_true rfl⟩ (fun u hu => ?_)
    obtain ⟨q4, q4_8, c4_8, q18_8, c18_8, q32_8, c32_8, q46_8, c46_8, q60_8, c60_8, q74_8, c74_8, q88_8, c88_8, q101_8, c101_8, q12, q4_17, c4_17, q17_17, c17_17, q30_17, c30_17, q43_17, c43_17, q56_17, c56_17, q69_17, c69_17, q82_17, c82_17, q95_17, c95_17, q108_17, c108_17, q121_17, c121_17, q134_17, c134_17, q147_17, c147_17, q32, q4_37, c4_37, q17_37, c17_37, q30_37, c30_37, q43_37, c43_37, q56_37, c56_37, q68_37, c68_37, q44, q4_50, c4_50, q18_50, c18_50, q32_50, c32_50, q57, q4_61, c4_61, rfl⟩ := hu
    refine J.astore_n (i := 1) C dL_law_7 rfl (by decide) ?_
    refine J.perm (st_6 g b6 q4 q4_8 c4_8 q18_8 c18_8 q32_8 c32_8 q46_8 c46_8 q60_8 c60_8 q74_8 c74_8 q88_8 c88_8 q101_8 c101_8 q12 q4_17 c4_17 q17_17 c17_17 q30_17 c30_17 q43_17 c43_17 q56_17 c56_17 q69_17 c69_17 q82_17 c82_17 q95_17 c95_17 q108_17 c108_17 q121_17 c121_17 q134_17 c134_17 q147_17 c147_17 q32 q4_37 c4_37 q17_37 c17_37 q30_37 c30_37 q43_37 c43_37 q56_37 c56_37 q68_37 c68_37 q44 q4_50 c4_50 q18_50 c18_50 q32_50 c32_50 q57 q4_61 c4_61) ?_
    obtain ⟨ad, had, h0⟩ : ∃ ad : Nat → Nat, ad = (fun k => [b6, q4, q12, q32, q44, q57, q4_8, c4_8, q18_8, c18_8, q32_8, c32_8, q46_8, c46_8, q60_8, c60_8, q74_8, c74_8, q88_8, c88_8, q101_8, c101_8, q4_17, c4_17, q17_17, c17_17, q30_17, c30_17, q43_17, c43_17, q56_17, c56_17, q69_17, c69_17, q82_17, c82_17, q95_17, c95_17, q108_17, c108_17, q121_17, c121_17, q134_17, c134_17, q147_17, c147_17, q4_37, c4_37, q17_37, c17_37, q30_37, c30_37, q43_37, c43_37, q56_37, c56_37, q68_37, c68_37, q4_50, c4_50, q18_50, c18_50, q32_50, c32_50, q4_61, c4_61].getD k 0) ∧ ad 0 = b6 := ⟨_, rfl, rfl⟩
    rw [← had]
    refine J.lw (lv' := [(0, .ref b), (1, .ref (ad 0))]) ⟨rfl, by rw [h0]; rfl, trivial⟩ ?_
    clear had h0
    refine J.heq (h' := dkh g ad [] ds0) (by show dk g ad ds0 = dk g ad ds0 ++ []; rw [List.append_nil]) ?_
    refine law_8 hl C hL hX hbA ⟨hR, hXT⟩ (fun cells slots hc hs pc lv v σ hd9 H9 => ?_) _ _ (by decide +kernel) (by decide +kernel) ds0 HP
    have hv : v = 1 := by cases H9; rfl
    subst hv
    exact fun H locs ls hP hD hS hlv => kend H locs ls cells slots pc hd9 hc hs hS.2.2
  have hlv := lv_entry ([.ref b]) (n := 16) (Nat.le_of_ble_eq_true rfl)
  rw [lg_entry_eq]
  exact key s.heap [] _ (fun k q h => by simp at h) ⟨fun i j p q h => by simp at h, fun k q h => by simp at h⟩ va_S.rf hlv
