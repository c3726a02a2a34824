/-! THE LAW, FROM ITS ENTRY -/
def ds0 : DS := (fun k => bif Nat.beq k 4 then (-1 : Int32) else 0, fun k => bif Nat.beq k 24 then rfill 5 (fun _ => 0) (-1) else fun _ => 0)
def ms0 : MS := (fun k => bif Nat.beq k 3 then (-1 : Int32) else 0, fun k => bif Nat.beq k 5 then upd (upd (upd (upd (upd (fun _ => 0) (0 : Int32).toNatClampNeg (-1)) (1 : Int32).toNatClampNeg (-1)) (2 : Int32).toNatClampNeg (-1)) (3 : Int32).toNatClampNeg (-1)) (4 : Int32).toNatClampNeg (-1) else fun _ => 0, fun _ _ => 0, fun _ _ => 0)
def os0 : OS := (fun _ => 0, fun _ => 0)
theorem va_P.perm {D : va_G} {cl : List vw_C} {w w' : va_W} {H : Heap} (hp : w.Perm w') (h : va_P D cl w H) : va_P D cl w' H := fun k q hk => by
  obtain ⟨i, hi⟩ := List.getElem?_of_mem (hp.mem_iff.mpr (List.mem_of_getElem? hk))
  exact h i q hi
theorem va_D_iff {A : Nat → Prop} {w : va_W} : va_D A w ↔ w.Pairwise (fun p q => p.1 ≠ q.1) ∧ ∀ q ∈ w, A q.1 := by
  constructor
  · intro h
    refine ⟨List.pairwise_iff_getElem.mpr (fun i j hi hj hij e => ?_), fun q hq => ?_⟩
    · have := h.1 i j w[i] w[j] (List.getElem?_eq_getElem hi) (List.getElem?_eq_getElem hj) e
      omega
    · obtain ⟨i, hi⟩ := List.getElem?_of_mem hq
      exact h.2 i q hi
  · intro h
    refine ⟨fun i j p q hi hj e => ?_, fun k q hk => h.2 q (List.mem_of_getElem? hk)⟩
    obtain ⟨hi1, rfl⟩ := List.getElem?_eq_some_iff.mp hi
    obtain ⟨hj1, rfl⟩ := List.getElem?_eq_some_iff.mp hj
    rcases Nat.lt_trichotomy i j with z | z | z
    · exact absurd e (List.pairwise_iff_getElem.mp h.1 i j hi1 hj1 z)
    · exact z
    · exact absurd e.symm (List.pairwise_iff_getElem.mp h.1 j i hj1 hi1 z)
theorem va_D.perm {A : Nat → Prop} {w w' : va_W} (hp : w.Perm w') (h : va_D A w) : va_D A w' := by
  rw [va_D_iff] at h ⊢
  exact ⟨(hp.pairwise_iff (fun h => Ne.symm h)).mp h.1, fun q hq => h.2 q (hp.mem_iff.mpr hq)⟩
section ST
variable {p : Program} {l : Launch} {e : Env} {R : Room} {s : State} {m : MethodId} {args : Array Value} {below : List Frame} {meth : Method} {c : Code} {g : Gy} {A : Nat → Prop} {own : String} {cc : ByteArray} {nL : Nat} {cells slots : Nat} {Q : State → Prop} {pc : Nat} {lv : List (Nat × Value)} {st : List Value} {h h' : va_W}
theorem J.perm (hp : h.Perm h') (k : J p l e R s m args below meth c g A nL cells slots Q pc lv st h') : J p l e R s m args below meth c g A nL cells slots Q pc lv st h := fun H locs ls hP hD hS hl => k H locs ls (hP.perm hp) (hD.perm hp) hS hl
end ST
theorem perm7 {α : Type} (B1 C B2 P B3 : List α) (x y : α) : ((B1 ++ [x]) ++ (C ++ ((B2 ++ [y]) ++ (P ++ B3)))).Perm ((B1 ++ (B2 ++ (B3 ++ [x, y]))) ++ (C ++ P)) := by
  simp only [List.append_assoc]
  refine List.Perm.append_left B1 ?_
  show (x :: (C ++ (B2 ++ (y :: (P ++ B3))))).Perm (B2 ++ (B3 ++ (x :: y :: (C ++ P))))
  have h1 : (B2 ++ (B3 ++ (x :: y :: (C ++ P)))).Perm (x :: (B2 ++ (B3 ++ (y :: (C ++ P))))) := (List.Perm.append_left B2 List.perm_middle).trans List.perm_middle
  refine List.Perm.trans (List.Perm.cons x ?_) h1.symm
  have h2 : (B2 ++ (B3 ++ (y :: (C ++ P)))).Perm (y :: (B2 ++ (B3 ++ (C ++ P)))) := (List.Perm.append_left B2 List.perm_middle).trans List.perm_middle
  have h3 : (C ++ (B2 ++ (y :: (P ++ B3)))).Perm (y :: (C ++ (B2 ++ (P ++ B3)))) := (List.Perm.append_left C List.perm_middle).trans List.perm_middle
  refine h3.trans (List.Perm.trans (List.Perm.cons y ?_) h2.symm)
  have h4 : (C ++ (B2 ++ (P ++ B3))).Perm (B2 ++ (C ++ (P ++ B3))) := List.perm_append_comm_assoc ..
  refine h4.trans (List.Perm.append_left B2 ?_)
  have h5 : (B3 ++ (C ++ P)).Perm ((C ++ P) ++ B3) := List.perm_append_comm
  rw [← List.append_assoc]
  exact h5.symm
theorem perm_of_idx {α : Type} (is : List Nat) (w w' : List α) {n : Nat} (hl : w.length = n) (hp : is.Perm (List.range n)) (h : is.map (fun i => w[i]?) = w'.map some) : w.Perm w' := by
  subst hl
  have h1 : (is.map (fun i => w[i]?)).Perm ((List.range w.length).map (fun i => w[i]?)) := hp.map _
  have h2 : (List.range w.length).map (fun i => w[i]?) = w.map some := by
    apply List.ext_getElem?
    intro j
    rw [List.getElem?_map, List.getElem?_map]
    by_cases hj : j < w.length
    · rw [List.getElem?_range hj, List.getElem?_eq_getElem hj]; simp [hj]
    · rw [List.getElem?_eq_none (by rw [List.length_range]; omega), List.getElem?_eq_none (by omega)]; rfl
  rw [h2, h] at h1
  have h3 : (w'.map some).filterMap id = w' := by simp [List.filterMap_map]
  have h4 : (w.map some).filterMap id = w := by simp [List.filterMap_map]
  have h5 := h1.filterMap id
  rw [h3, h4] at h5
  exact h5.symm
set_option maxRecDepth 100000 in
theorem st_6 (g : Gy) (b6 q4 q4_8 c4_8 q18_8 c18_8 q32_8 c32_8 q46_8 c46_8 q60_8 c60_8 q74_8 c74_8 q88_8 c88_8 q101_8 c101_8 q12 q4_17 c4_17 q17_17 c17_17 q30_17 c30_17 q43_17 c43_17 q56_17 c56_17 q69_17 c69_17 q82_17 c82_17 q95_17 c95_17 q108_17 c108_17 q121_17 c121_17 q134_17 c134_17 q147_17 c147_17 q32 q4_37 c4_37 q17_37 c17_37 q30_37 c30_37 q43_37 c43_37 q56_37 c56_37 q68_37 c68_37 q44 q4_50 c4_50 q18_50 c18_50 q32_50 c32_50 q57 q4_61 c4_61 : Nat) : (cl_X6 g b6 q4 q4_8 c4_8 q18_8 c18_8 q32_8 c32_8 q46_8 c46_8 q60_8 c60_8 q74_8 c74_8 q88_8 c88_8 q101_8 c101_8 q12 q4_17 c4_17 q17_17 c17_17 q30_17 c30_17 q43_17 c43_17 q56_17 c56_17 q69_17 c69_17 q82_17 c82_17 q95_17 c95_17 q108_17 c108_17 q121_17 c121_17 q134_17 c134_17 q147_17 c147_17 q32 q4_37 c4_37 q17_37 c17_37 q30_37 c30_37 q43_37 c43_37 q56_37 c56_37 q68_37 c68_37 q44 q4_50 c4_50 q18_50 c18_50 q32_50 c32_50 q57 q4_61 c4_61).Perm (dk g (fun k => [b6, q4, q12, q32, q44, q57, q4_8, c4_8, q18_8, c18_8, q32_8, c32_8, q46_8, c46_8, q60_8, c60_8, q74_8, c74_8, q88_8, c88_8, q101_8, c101_8, q4_17, c4_17, q17_17, c17_17, q30_17, c30_17, q43_17, c43_17, q56_17, c56_17, q69_17, c69_17, q82_17, c82_17, q95_17, c95_17, q108_17, c108_17, q121_17, c121_17, q134_17, c134_17, q147_17, c147_17, q4_37, c4_37, q17_37, c17_37, q30_37, c30_37, q43_37, c43_37, q56_37, c56_37, q68_37, c68_37, q4_50, c4_50, q18_50, c18_50, q32_50, c32_50, q4_61, c4_61].getD k 0) ds0) := by
  exact perm_of_idx [0, 1, 18, 43, 56, 63, 2, 3, 4, 5, 6, 7, 8, 9, 10, 11, 12, 13, 14, 15, 16, 17, 19, 20, 21, 22, 23, 24, 25, 26, 27, 28, 29, 30, 31, 32, 33, 34, 35, 36, 37, 38, 39, 40, 41, 42, 44, 45, 46, 47, 48, 49, 50, 51, 52, 53, 54, 55, 57, 58, 59, 60, 61, 62, 64, 65] (cl_X6 g b6 q4 q4_8 c4_8 q18_8 c18_8 q32_8 c32_8 q46_8 c46_8 q60_8 c60_8 q74_8 c74_8 q88_8 c88_8 q101_8 c101_8 q12 q4_17 c4_17 q17_17 c17_17 q30_17 c30_17 q43_17 c43_17 q56_17 c56_17 q69_17 c69_17 q82_17 c82_17 q95_17 c95_17 q108_17 c108_17 q121_17 c121_17 q134_17 c134_17 q147_17 c147_17 q32 q4_37 c4_37 q17_37 c17_37 q30_37 c30_37 q43_37 c43_37 q56_37 c56_37 q68_37 c68_37 q44 q4_50 c4_50 q18_50 c18_50 q32_50 c32_50 q57 q4_61 c4_61) _ (n := 66) rfl (by decide +kernel) rfl
def bd7 (l : List Nat) (r104 r152 : Nat → Nat) (k : Nat) : Nat := bif Nat.blt k 23 then l.getD k 0 else bif Nat.blt k 83 then r104 (k - 23) else r152 (k - 83)
set_option maxRecDepth 100000 in
theorem st_7 (g : Gy) (b7 m4 m13 m22 m31 m40 m51 m76 m84 m92 m104 m111 m119 m127 m135 m152 m159 m167 m175 m184 m191 m200 m209 : Nat) (r104 r152 : Nat → Nat) : (cl_X7 g b7 m4 m13 m22 m31 m40 m51 m76 m84 m92 m104 m111 m119 m127 m135 m152 m159 m167 m175 m184 m191 m200 m209 r104 r152).Perm (R9 g (bd7 [b7, m4, m13, m22, m31, m40, m51, m76, m84, m92, m111, m119, m127, m135, m159, m167, m175, m184, m191, m200, m209, m104, m152] r104 r152) ms0) := by
  have hC : mkC g (bd7 [b7, m4, m13, m22, m31, m40, m51, m76, m84, m92, m111, m119, m127, m135, m159, m167, m175, m184, m191, m200, m209, m104, m152] r104 r152) ms0 = (List.range 60).map (fun i => ((r104 i, .inl (g.2 0, 4, .inl (fun _ => 0))) : Nat × va_E)) := List.map_congr_left (fun i hi => by
    have h := List.mem_range.mp hi
    have e : bd7 [b7, m4, m13, m22, m31, m40, m51, m76, m84, m92, m111, m119, m127, m135, m159, m167, m175, m184, m191, m200, m209, m104, m152] r104 r152 (23 + i) = r104 i := by
      unfold bd7
      rw [show Nat.blt (23 + i) 23 = false from Bool.eq_false_iff.mpr (fun q => by have := Nat.le_of_ble_eq_true q; omega), show Nat.blt (23 + i) 83 = true from Nat.ble_eq_true_of_le (by omega), Nat.add_sub_cancel_left]
      rfl
    rw [e]
    rfl)
  have hP : mkP g (bd7 [b7, m4, m13, m22, m31, m40, m51, m76, m84, m92, m111, m119, m127, m135, m159, m167, m175, m184, m191, m200, m209, m104, m152] r104 r152) ms0 = (List.range 8).map (fun i => ((r152 i, .inl (g.2 0, 2, .inl (fun _ => 0))) : Nat × va_E)) := List.map_congr_left (fun i hi => by
    have e : bd7 [b7, m4, m13, m22, m31, m40, m51, m76, m84, m92, m111, m119, m127, m135, m159, m167, m175, m184, m191, m200, m209, m104, m152] r104 r152 (83 + i) = r152 i := by
      unfold bd7
      rw [show Nat.blt (83 + i) 23 = false from Bool.eq_false_iff.mpr (fun q => by have := Nat.le_of_ble_eq_true q; omega), show Nat.blt (83 + i) 83 = false from Bool.eq_false_iff.mpr (fun q => by have := Nat.le_of_ble_eq_true q; omega), Nat.add_sub_cancel_left]
      rfl
    rw [e]
    rfl)
  show List.Perm _ (mkA g _ ms0 ++ (mkC g _ ms0 ++ mkP g _ ms0))
  rw [hC, hP]
  have e1 : (fun i => if i < 60 then some (bd7 [b7, m4, m13, m22, m31, m40, m51, m76, m84, m92, m111, m119, m127, m135, m159, m167, m175, m184, m191, m200, m209, m104, m152] r104 r152 (23 + i)) else none) = (fun i => if i < 60 then some (r104 i) else none) := funext fun i => by
    by_cases h : i < 60
    · rw [if_pos h, if_pos h]
      unfold bd7
      rw [show Nat.blt (23 + i) 23 = false from Bool.eq_false_iff.mpr (fun q => by have := Nat.le_of_ble_eq_true q; omega), show Nat.blt (23 + i) 83 = true from Nat.ble_eq_true_of_le (by omega), Nat.add_sub_cancel_left]
      rfl
    · rw [if_neg h, if_neg h]
  have e2 : (fun i => if i < 8 then some (bd7 [b7, m4, m13, m22, m31, m40, m51, m76, m84, m92, m111, m119, m127, m135, m159, m167, m175, m184, m191, m200, m209, m104, m152] r104 r152 (83 + i)) else none) = (fun i => if i < 8 then some (r152 i) else none) := funext fun i => by
    by_cases h : i < 8
    · rw [if_pos h, if_pos h]
      unfold bd7
      rw [show Nat.blt (83 + i) 23 = false from Bool.eq_false_iff.mpr (fun q => by have := Nat.le_of_ble_eq_true q; omega), show Nat.blt (83 + i) 83 = false from Bool.eq_false_iff.mpr (fun q => by have := Nat.le_of_ble_eq_true q; omega), Nat.add_sub_cancel_left]
      rfl
    · rw [if_neg h, if_neg h]
  unfold mkA
  rw [e1, e2]
  unfold cl_X7
  exact List.Perm.cons _ (perm7 [_, _, _, _, _, _, _, _, _] _ [_, _, _, _] _ [_, _, _, _, _, _, _] _ _)
set_option maxRecDepth 100000 in
/-- THE LAW, over what both sides answer alike -/
theorem start_of {Inv : DS → MS → Prop} (hA : AG Inv) (hI : Inv ds0 ms0) {p : Program} {e : Env} {s : State} {m : MethodId} {below : List Frame} {meth : Method} {c : Code} (l : Launch) (hflags : l.flags = flags0) {b L : Nat} {xs : Nat → Int32} (hL : L ≤ 2048) (C0 : p.tables.exec = Jvm.exec ∧ c.code = code ∧ meth.sig.returnType = ret ∧ c.maxLocals = 9 ∧ s.vm.findClass RL = some m.cls ∧ (∀ w ∈ lw_tbl, w.before #[Value.ref b] s = true) ∧ va_X b L xs s s.heap ∧ b < s.heap.size ∧ meth.locks = false ∧ (Jvm.Cond.and given_1 narrow_1).before #[Value.ref b] s = true) {Q : State → Prop}
    (kend : ∀ (H : Heap) (locs : List Loc) (ls : Array Slot) (cells slots : Nat), cells ≤ 603072 → slots ≤ 7198826 → (∀ q ∈ locs, s.heap.size ≤ q.base) → W p l e room_1 s m #[Value.ref b] below meth c H locs cells slots Q (F0 m 3027 ls [.int 1])) : W p l e room_1 s m #[Value.ref b] below meth c s.heap [] 0 0 Q (entryFrame m ([Value.ref b] : List Value).toArray 9) := by
  obtain ⟨hx, hb, hr, hml, hown, hts, hX, hbl, hlocks, hgv⟩ := C0
  have hl := start_flags hflags
  obtain ⟨g, hK⟩ := start_WK hts
  have C : Cx p l s m #[Value.ref b] meth c g (fun q => s.heap.size ≤ q) RL cL_law 9 := ⟨hx, hb, hml, hown, fun w hw => hts w (BIG_tbl hw), hlocks, hK, fun q hq => hq, start_TW hts hgv, hl⟩
  have hbA : ¬ (fun q : Nat => s.heap.size ≤ q) b := Nat.not_le.mpr hbl
  have key : J p l e room_1 s m #[Value.ref b] below meth c g (fun q => s.heap.size ≤ q) 9 0 0 Q 0 [(0, .ref b)] [] [] := by
    refine J.new C (ci := 8) (fs := [.null, .null, .null, .null, .null]) inB_X6 tyX6 tyX6_ok kCl_L_8 kIs_X6 kIn_X6 rfl (by decide +kernel) ⟨Nat.le_of_ble_eq_true rfl, Nat.le_of_ble_eq_true rfl⟩ dL_law_0 (fun b6 => ?_)
    refine J.dup C dL_law_3 rfl ?_
    refine J.callI (d := mX6_init) C (sp_X6_init hl _ b6) rfl kMl_L_164 mdX6_init ⟨Nat.le_of_ble_eq_true rfl, Nat.le_of_ble_eq_true rfl⟩ rfl (Nat.le_of_ble_eq_true rfl) dL_law_4 ⟨Nat.le_of_ble_eq_true rfl, Nat.le_of_ble_eq_true rfl⟩ (fun u hu => ?_)
    obtain ⟨q4, q4_8, c4_8, q18_8, c18_8, q32_8, c32_8, q46_8, c46_8, q60_8, c60_8, q74_8, c74_8, q88_8, c88_8, q101_8, c101_8, q12, q4_17, c4_17, q17_17, c17_17, q30_17, c30_17, q43_17, c43_17, q56_17, c56_17, q69_17, c69_17, q82_17, c82_17, q95_17, c95_17, q108_17, c108_17, q121_17, c121_17, q134_17, c134_17, q147_17, c147_17, q32, q4_37, c4_37, q17_37, c17_37, q30_37, c30_37, q43_37, c43_37, q56_37, c56_37, q68_37, c68_37, q44, q4_50, c4_50, q18_50, c18_50, q32_50, c32_50, q57, q4_61, c4_61, rfl⟩ := hu
    refine J.astore_n (i := 1) C dL_law_7 rfl (by decide) ?_
    refine J.perm (st_6 g b6 q4 q4_8 c4_8 q18_8 c18_8 q32_8 c32_8 q46_8 c46_8 q60_8 c60_8 q74_8 c74_8 q88_8 c88_8 q101_8 c101_8 q12 q4_17 c4_17 q17_17 c17_17 q30_17 c30_17 q43_17 c43_17 q56_17 c56_17 q69_17 c69_17 q82_17 c82_17 q95_17 c95_17 q108_17 c108_17 q121_17 c121_17 q134_17 c134_17 q147_17 c147_17 q32 q4_37 c4_37 q17_37 c17_37 q30_37 c30_37 q43_37 c43_37 q56_37 c56_37 q68_37 c68_37 q44 q4_50 c4_50 q18_50 c18_50 q32_50 c32_50 q57 q4_61 c4_61) ?_
    obtain ⟨ad, had, h0⟩ : ∃ ad : Nat → Nat, ad = (fun k => [b6, q4, q12, q32, q44, q57, q4_8, c4_8, q18_8, c18_8, q32_8, c32_8, q46_8, c46_8, q60_8, c60_8, q74_8, c74_8, q88_8, c88_8, q101_8, c101_8, q4_17, c4_17, q17_17, c17_17, q30_17, c30_17, q43_17, c43_17, q56_17, c56_17, q69_17, c69_17, q82_17, c82_17, q95_17, c95_17, q108_17, c108_17, q121_17, c121_17, q134_17, c134_17, q147_17, c147_17, q4_37, c4_37, q17_37, c17_37, q30_37, c30_37, q43_37, c43_37, q56_37, c56_37, q68_37, c68_37, q4_50, c4_50, q18_50, c18_50, q32_50, c32_50, q4_61, c4_61].getD k 0) ∧ ad 0 = b6 := ⟨_, rfl, rfl⟩
    rw [← had]
    refine J.lw (lv' := [(0, .ref b), (1, .ref (ad 0))]) ⟨rfl, by rw [h0]; rfl, trivial⟩ ?_
    clear had h0
    refine J.new C (ci := 9) (fs := [.null, .null, .null, .null, .null, .int 0, .null, .null, .null, .null, .null, .int 0, .null, .null, .null, .null, .int 0, .int 0, .null, .null, .null, .int 0, .int 0, .null, .int 0, .int 0, .null, .null, .null, .null]) inB_X7 tyX7 tyX7_ok kCl_L_165 kIs_X7 kIn_X7 rfl (by decide +kernel) ⟨Nat.le_of_ble_eq_true rfl, Nat.le_of_ble_eq_true rfl⟩ dL_law_8 (fun b7 => ?_)
    refine J.dup C dL_law_11 rfl ?_
    refine J.callI (d := mX7_init) C (sp_X7_init hl _ b7) rfl kMl_L_167 mdX7_init ⟨Nat.le_of_ble_eq_true rfl, Nat.le_of_ble_eq_true rfl⟩ rfl (Nat.le_of_ble_eq_true rfl) dL_law_12 ⟨Nat.le_of_ble_eq_true rfl, Nat.le_of_ble_eq_true rfl⟩ (fun u hu => ?_)
    obtain ⟨m4, m13, m22, m31, m40, m51, m76, m84, m92, m104, m111, m119, m127, m135, m152, m159, m167, m175, m184, m191, m200, m209, r104, r152, rfl⟩ := hu
    refine J.astore_n (i := 2) C dL_law_15 rfl (by decide) ?_
    refine J.perm ((st_7 g b7 m4 m13 m22 m31 m40 m51 m76 m84 m92 m104 m111 m119 m127 m135 m152 m159 m167 m175 m184 m191 m200 m209 r104 r152).append_left _) ?_
    obtain ⟨bd, hbd, h0⟩ : ∃ bd : Nat → Nat, bd = bd7 [b7, m4, m13, m22, m31, m40, m51, m76, m84, m92, m111, m119, m127, m135, m159, m167, m175, m184, m191, m200, m209, m104, m152] r104 r152 ∧ bd 0 = b7 := ⟨_, rfl, rfl⟩
    rw [← hbd]
    refine J.lw (lv' := [(0, .ref b), (1, .ref (ad 0)), (2, .ref (bd 0))]) ⟨rfl, rfl, by rw [h0]; rfl, trivial⟩ ?_
    clear hbd h0
    refine J.iconst C 1 dL_law_16 (by decide) ?_
    refine J.newa C 4 1 (1, .inr (.inl (fun _ => 0))) kAc_long rfl rfl rfl (fun _ => rfl) (by decide) (by decide) (Nat.le_of_ble_eq_true rfl) ⟨Nat.le_of_ble_eq_true rfl, Nat.le_of_ble_eq_true rfl⟩ dL_law_17 (fun o1 => ?_)
    refine J.astore_n (i := 3) C dL_law_19 rfl (by decide) ?_
    refine J.iconst C 1 dL_law_20 (by decide) ?_
    refine J.newa C 5 1 (1, .inr (.inr (.inr (.inl (fun _ => 0))))) kAc_double rfl rfl rfl (fun _ => rfl) (by decide) (by decide) (Nat.le_of_ble_eq_true rfl) ⟨Nat.le_of_ble_eq_true rfl, Nat.le_of_ble_eq_true rfl⟩ dL_law_21 (fun o2 => ?_)
    refine J.astore C dL_law_23 (by decide) ?_
    refine J.iconst C 0 dL_law_25 (by decide) ?_
    refine J.istore C dL_law_26 (by decide) ?_
    refine J.lw (lv' := lvL b ad bd o1 o2 (nI (4 * 0))) ⟨rfl, rfl, rfl, rfl, rfl, rfl, trivial⟩ ?_
    refine J.heq (h' := lz g ad bd o1 o2 ds0 ms0 os0) (by show ((dk g ad ds0 ++ R9 g bd ms0) ++ [_]) ++ [_] = dk g ad ds0 ++ (R9 g bd ms0 ++ [_, _]); rw [List.append_assoc, List.append_assoc]; rfl) ?_
    refine J.widen (k := 200 + 10 * 0) (n := 20000 + 60 * 0) (Nat.le_of_ble_eq_true rfl) (Nat.le_of_ble_eq_true rfl) ?_
    refine law_loop hl C hL hX hbl hbA hA (fun cells slots i h hc hs => ?_) (L + 1) 0 ds0 ms0 os0 (by omega) (by omega) hI
    refine J.iconst C 1 dL_law_3026 (by decide) ?_
    exact fun H locs ls hP hD hS hlv => kend H locs ls cells slots hc hs hS.2.2
  have hlv := lv_entry ([.ref b]) (n := 9) (Nat.le_of_ble_eq_true rfl)
  rw [lg_entry_eq]
  exact key s.heap [] _ (fun k q h => by simp at h) ⟨fun i j p q h => by simp at h, fun k q h => by simp at h⟩ va_S.rf hlv
