/-! WHAT THE GENERATED BODIES LEAN ON -/
/-- how often a loop is let go round -/
def FU : Nat := 4000000
theorem nzb {v : Int32} (h : v = 0 ∨ v = 1) : narrow .boolean (.int v) = .int v := by rcases h with rfl | rfl <;> rfl
theorem fzb {v : Int32} (h : v = 0 ∨ v = 1) : fits .boolean (.int v) = true := by rcases h with rfl | rfl <;> rfl
theorem ncb {v : Int32} (h : (v.toUInt32 % 65536).toInt32 = v) : narrow .char (.int v) = .int v := by
  have := pk_nc v
  rwa [h] at this
section EXTRA
variable {p : Program} {l : Launch} {e : Env} {R : Room} {s : State} {m : MethodId} {args : Array Value} {below : List Frame} {meth : Method} {c : Code} {g : Gy} {A : Nat → Prop} {own : String} {cc : ByteArray} {nL : Nat} {cells slots : Nat} {Q : State → Prop} {pc : Nat} {lv : List (Nat × Value)} {st rest : List Value} {h : va_W}
theorem J.ldcw (C : Cx p l s m args meth c g A own cc nL) {idx : Nat} {v : Int32} (hc : Cond.constant own idx v ∈ BIG) (d : decode cc pc = .ok (.ldc_w idx, 3)) (k : J p l e R s m args below meth c g A nL cells slots Q (pc + 3) lv (.int v :: rest) h) : J p l e R s m args below meth c g A nL cells slots Q pc lv rest h := fun H locs ls hP hD hS hl => lv_ldcw C.1 C.2.1 C.2.2.2.1 (C.2.2.2.2.1 _ hc) d (k H locs ls hP hD hS hl)
theorem J.ldcf (C : Cx p l s m args meth c g A own cc nL) {idx : Nat} {v : UInt32} (hc : Cond.constantFloat own idx v ∈ BIG) (d : decode cc pc = .ok (.ldc idx, 2)) (k : J p l e R s m args below meth c g A nL cells slots Q (pc + 2) lv (.float v :: rest) h) : J p l e R s m args below meth c g A nL cells slots Q pc lv rest h := fun H locs ls hP hD hS hl => lv_ldcf C.1 C.2.1 C.2.2.2.1 (C.2.2.2.2.1 _ hc) d (k H locs ls hP hD hS hl)
theorem J.ldcfw (C : Cx p l s m args meth c g A own cc nL) {idx : Nat} {v : UInt32} (hc : Cond.constantFloat own idx v ∈ BIG) (d : decode cc pc = .ok (.ldc_w idx, 3)) (k : J p l e R s m args below meth c g A nL cells slots Q (pc + 3) lv (.float v :: rest) h) : J p l e R s m args below meth c g A nL cells slots Q pc lv rest h := by
  intro H locs ls hP hD hS hl T hT X
  obtain ⟨t, a, b⟩ := k H locs ls hP hD hS hl T hT X
  refine ⟨t, ?_, b⟩
  obtain ⟨k9, cf, hk, hcf, hcp⟩ := Cond.constantFloat_spec C.2.2.2.1 (C.2.2.2.2.1 _ hc)
  obtain ⟨k', hk', he⟩ := X.warmed.alike.2.2 _ _ hk
  have d' : decode c.code pc = .ok (.ldc_w idx, 3) := by rw [C.2.1]; exact d
  jvm_step X.here [C.1, d', ldc_w.wp_float (s := T) (f := F0 m pc ls rest) X.here.top hk' (by rw [he]; exact hcf) hcp]
  exact a
theorem J.throwSL (C : Cx p l s m args meth c g A own cc nL) {S ρ : Type} {hp : S → va_W} {σ : S} {mk : ρ → Option Value} {mc ms ik is ic : Nat} {text : String} {rr : (ρ ⊕ String) × S} {cls : String} {names : List String} (ht : ThS own cls ic ik names) (hstr : Cond.stringRef own is text ∈ tables_1) (d0 : decode cc pc = .ok (.new ik, 3)) (d3 : decode cc (pc + 3) = .ok (.dup, 1)) (d4 : decode cc (pc + 4) = .ok (.ldc is, 2)) (d6 : decode cc (pc + 6) = .ok (.invokespecial ic, 3)) (d9 : decode cc (pc + 9) = .ok (.athrow, 1)) (hx : ∀ x ∈ c.exceptionTable.toList, False)
    (hR : names.length + 3 < R.frames ∧ (rest.map fun v => v.category).sum + (13 * (names.length + 1) + 43) ≤ R.locals ∧ cells + 1 ≤ R.cells ∧ slots + 6 ≤ R.slots) (hc : cells + 1 ≤ mc) (hs : slots + 6 ≤ ms) (H : some ((.inr cls, σ) : (ρ ⊕ String) × S) = some rr) :
    J p l e R s m args below meth c g A nL cells slots (QR mk g A hp rr below args s mc ms) pc lv rest (hp σ) := J.throwS C ht hstr d0 d3 d4 d6 d9 hx hR hc hs (by cases H; exact ⟨rfl, rfl⟩)
theorem J.throwSWL (C : Cx p l s m args meth c g A own cc nL) {S ρ : Type} {hp : S → va_W} {σ : S} {mk : ρ → Option Value} {mc ms ik is ic : Nat} {text : String} {rr : (ρ ⊕ String) × S} {cls : String} {names : List String} (ht : ThS own cls ic ik names) (hstr : Cond.stringRef own is text ∈ tables_1) (d0 : decode cc pc = .ok (.new ik, 3)) (d3 : decode cc (pc + 3) = .ok (.dup, 1)) (d4 : decode cc (pc + 4) = .ok (.ldc_w is, 3)) (d7 : decode cc (pc + 7) = .ok (.invokespecial ic, 3)) (d10 : decode cc (pc + 10) = .ok (.athrow, 1)) (hx : ∀ x ∈ c.exceptionTable.toList, False)
    (hR : names.length + 3 < R.frames ∧ (rest.map fun v => v.category).sum + (13 * (names.length + 1) + 43) ≤ R.locals ∧ cells + 1 ≤ R.cells ∧ slots + 6 ≤ R.slots) (hc : cells + 1 ≤ mc) (hs : slots + 6 ≤ ms) (H : some ((.inr cls, σ) : (ρ ⊕ String) × S) = some rr) :
    J p l e R s m args below meth c g A nL cells slots (QR mk g A hp rr below args s mc ms) pc lv rest (hp σ) := J.throwSW C ht hstr d0 d3 d4 d7 d10 hx hR hc hs (by cases H; exact ⟨rfl, rfl⟩)
theorem J.throwNL (C : Cx p l s m args meth c g A own cc nL) {S ρ : Type} {hp : S → va_W} {σ : S} {mk : ρ → Option Value} {mc ms ik is ic : Nat} {text : String} {rr : (ρ ⊕ String) × S} (ht : ThN own ic ik) (hstr : Cond.stringRef own is text ∈ tables_1) (d0 : decode cc pc = .ok (.new ik, 3)) (d3 : decode cc (pc + 3) = .ok (.dup, 1)) (d4 : decode cc (pc + 4) = .ok (.ldc is, 2)) (d6 : decode cc (pc + 6) = .ok (.invokespecial ic, 3)) (d9 : decode cc (pc + 9) = .ok (.athrow, 1)) (hx : ∀ x ∈ c.exceptionTable.toList, False)
    (hR : 2 + 3 < R.frames ∧ (rest.map fun v => v.category).sum + (13 * (2 + 1) + 43) ≤ R.locals ∧ cells + 1 ≤ R.cells ∧ slots + 6 ≤ R.slots) (hc : cells + 1 ≤ mc) (hs : slots + 6 ≤ ms) (H : some ((.inr nseN, σ) : (ρ ⊕ String) × S) = some rr) :
    J p l e R s m args below meth c g A nL cells slots (QR mk g A hp rr below args s mc ms) pc lv rest (hp σ) := J.throwN C ht hstr d0 d3 d4 d6 d9 hx hR hc hs (by cases H; exact ⟨rfl, rfl⟩)
theorem J.throwNWL (C : Cx p l s m args meth c g A own cc nL) {S ρ : Type} {hp : S → va_W} {σ : S} {mk : ρ → Option Value} {mc ms ik is ic : Nat} {text : String} {rr : (ρ ⊕ String) × S} (ht : ThN own ic ik) (hstr : Cond.stringRef own is text ∈ tables_1) (d0 : decode cc pc = .ok (.new ik, 3)) (d3 : decode cc (pc + 3) = .ok (.dup, 1)) (d4 : decode cc (pc + 4) = .ok (.ldc_w is, 3)) (d7 : decode cc (pc + 7) = .ok (.invokespecial ic, 3)) (d10 : decode cc (pc + 10) = .ok (.athrow, 1)) (hx : ∀ x ∈ c.exceptionTable.toList, False)
    (hR : 2 + 3 < R.frames ∧ (rest.map fun v => v.category).sum + (13 * (2 + 1) + 43) ≤ R.locals ∧ cells + 1 ≤ R.cells ∧ slots + 6 ≤ R.slots) (hc : cells + 1 ≤ mc) (hs : slots + 6 ≤ ms) (H : some ((.inr nseN, σ) : (ρ ⊕ String) × S) = some rr) :
    J p l e R s m args below meth c g A nL cells slots (QR mk g A hp rr below args s mc ms) pc lv rest (hp σ) := J.throwNW C ht hstr d0 d3 d4 d7 d10 hx hR hc hs (by cases H; exact ⟨rfl, rfl⟩)
end EXTRA
theorem thw_IllegalArgumentException_284 : ∀ w ∈ (vx_atS RX6 284 "java/lang/IllegalArgumentException" ["java/lang/RuntimeException", "java/lang/Exception"]).filter goodWord, w ∈ lw_tbl := by decide +kernel
theorem th_IllegalArgumentException_284 : ThS RX6 "java/lang/IllegalArgumentException" 284 280 ["java/lang/RuntimeException", "java/lang/Exception"] := ⟨by decide +kernel, by decide +kernel, kCl_X6_280, kIn_IllegalArgumentException, fun w h => List.mem_filter.mpr ⟨thw_IllegalArgumentException_284 w h, (List.mem_filter.mp h).2⟩, by decide +kernel, by decide +kernel⟩
theorem str_282 : Cond.stringRef "DeductionDesk" 282 "no such letter" ∈ tables_1 := List.mem_of_getElem? (i := 344) (by decide +kernel)
theorem thw_IllegalStateException_117 : ∀ w ∈ (vx_atS RX6 117 "java/lang/IllegalStateException" ["java/lang/RuntimeException", "java/lang/Exception"]).filter goodWord, w ∈ lw_tbl := by decide +kernel
theorem th_IllegalStateException_117 : ThS RX6 "java/lang/IllegalStateException" 117 113 ["java/lang/RuntimeException", "java/lang/Exception"] := ⟨by decide +kernel, by decide +kernel, kCl_X6_113, kIn_IllegalStateException, fun w h => List.mem_filter.mpr ⟨thw_IllegalStateException_117 w h, (List.mem_filter.mp h).2⟩, by decide +kernel, by decide +kernel⟩
theorem str_317 : Cond.stringRef "DeductionDesk" 317 "the formula cannot be made" ∈ tables_1 := List.mem_of_getElem? (i := 432) (by decide +kernel)
theorem thw_IndexOutOfBoundsException_292 : ∀ w ∈ (vx_atS RX6 292 "java/lang/IndexOutOfBoundsException" ["java/lang/RuntimeException", "java/lang/Exception"]).filter goodWord, w ∈ lw_tbl := by decide +kernel
theorem th_IndexOutOfBoundsException_292 : ThS RX6 "java/lang/IndexOutOfBoundsException" 292 288 ["java/lang/RuntimeException", "java/lang/Exception"] := ⟨by decide +kernel, by decide +kernel, kCl_X6_288, kIn_IndexOutOfBoundsException, fun w h => List.mem_filter.mpr ⟨thw_IndexOutOfBoundsException_292 w h, (List.mem_filter.mp h).2⟩, by decide +kernel, by decide +kernel⟩
theorem str_290 : Cond.stringRef "DeductionDesk" 290 "no such formula" ∈ tables_1 := List.mem_of_getElem? (i := 491) (by decide +kernel)
theorem thw_NoSuchElementException_77 : ∀ w ∈ ((nseAtoms RX6 77).filter vx_no).filter goodWord, w ∈ lw_tbl := by decide +kernel
theorem th_NoSuchElementException_77 : ThN RX6 77 73 := ⟨kCl_X6_73, kIn_NoSuchElementException, fun w h => List.mem_filter.mpr ⟨thw_NoSuchElementException_77 w h, (List.mem_filter.mp h).2⟩, by decide +kernel, by decide +kernel⟩
theorem str_75 : Cond.stringRef "DeductionDesk" 75 "no such symbol" ∈ tables_1 := List.mem_of_getElem? (i := 529) (by decide +kernel)
theorem thw_UnsupportedOperationException_314 : ∀ w ∈ (vx_atS RX6 314 "java/lang/UnsupportedOperationException" ["java/lang/RuntimeException", "java/lang/Exception"]).filter goodWord, w ∈ lw_tbl := by decide +kernel
theorem th_UnsupportedOperationException_314 : ThS RX6 "java/lang/UnsupportedOperationException" 314 310 ["java/lang/RuntimeException", "java/lang/Exception"] := ⟨by decide +kernel, by decide +kernel, kCl_X6_310, kIn_UnsupportedOperationException, fun w h => List.mem_filter.mpr ⟨thw_UnsupportedOperationException_314 w h, (List.mem_filter.mp h).2⟩, by decide +kernel, by decide +kernel⟩
theorem str_312 : Cond.stringRef "DeductionDesk" 312 "the rule does not fit" ∈ tables_1 := List.mem_of_getElem? (i := 685) (by decide +kernel)
theorem str_315 : Cond.stringRef "DeductionDesk" 315 "the proof has no room for another line" ∈ tables_1 := List.mem_of_getElem? (i := 696) (by decide +kernel)
theorem str_115 : Cond.stringRef "DeductionDesk" 115 "no box is open" ∈ tables_1 := List.mem_of_getElem? (i := 715) (by decide +kernel)
theorem str_296 : Cond.stringRef "DeductionDesk" 296 "no such line" ∈ tables_1 := List.mem_of_getElem? (i := 733) (by decide +kernel)
theorem str_306 : Cond.stringRef "DeductionDesk" 306 "the line cannot be cited" ∈ tables_1 := List.mem_of_getElem? (i := 750) (by decide +kernel)
theorem str_301 : Cond.stringRef "DeductionDesk" 301 "no such box" ∈ tables_1 := List.mem_of_getElem? (i := 796) (by decide +kernel)
theorem str_308 : Cond.stringRef "DeductionDesk" 308 "the box cannot be cited" ∈ tables_1 := List.mem_of_getElem? (i := 805) (by decide +kernel)
theorem str_274 : Cond.stringRef "DeductionDesk" 274 "the proof has no lines" ∈ tables_1 := List.mem_of_getElem? (i := 851) (by decide +kernel)
theorem str_180 : Cond.stringRef "DeductionDesk" 180 "no more lemmas can be kept" ∈ tables_1 := List.mem_of_getElem? (i := 865) (by decide +kernel)
theorem str_304 : Cond.stringRef "DeductionDesk" 304 "no such lemma" ∈ tables_1 := List.mem_of_getElem? (i := 885) (by decide +kernel)
theorem str_319 : Cond.stringRef "DeductionDesk" 319 "the formula has no distance" ∈ tables_1 := List.mem_of_getElem? (i := 980) (by decide +kernel)
theorem str_242 : Cond.stringRef "DeductionDesk" 242 "no step applies" ∈ tables_1 := List.mem_of_getElem? (i := 606) (by decide +kernel)
theorem thw_ArithmeticException_276 : ∀ w ∈ (vx_atS RX6 276 "java/lang/ArithmeticException" ["java/lang/RuntimeException", "java/lang/Exception"]).filter goodWord, w ∈ lw_tbl := by decide +kernel
theorem th_ArithmeticException_276 : ThS RX6 "java/lang/ArithmeticException" 276 272 ["java/lang/RuntimeException", "java/lang/Exception"] := ⟨by decide +kernel, by decide +kernel, kCl_X6_272, kIn_ArithmeticException, fun w h => List.mem_filter.mpr ⟨thw_ArithmeticException_276 w h, (List.mem_filter.mp h).2⟩, by decide +kernel, by decide +kernel⟩
abbrev mJ6_bitCount_0f7a4 : MD := (yJ6_bitCount_0f7a4, cJ6_bitCount_0f7a4, 1, some .int)
theorem mdJ6_bitCount_0f7a4 : MDs mJ6_bitCount_0f7a4 1 := ⟨kSt_J6_bitCount_0f7a4, kIn_J6, kCo_J6_bitCount_0f7a4, by decide +kernel⟩
def F_J6_bitCount_0f7a4 (a0 : Int32) : Int32 := (lt (a0 - (((a0).toUInt32 >>> (((1 : Int32)).toUInt32 &&& Int32.toUInt32 31)).toInt32 &&& (1431655765 : Int32))) fun z9 => (lt ((z9 &&& (858993459 : Int32)) + (((z9).toUInt32 >>> (((2 : Int32)).toUInt32 &&& Int32.toUInt32 31)).toInt32 &&& (858993459 : Int32))) fun z23 => (lt ((z23 + ((z23).toUInt32 >>> (((4 : Int32)).toUInt32 &&& Int32.toUInt32 31)).toInt32) &&& (252645135 : Int32)) fun z33 => (lt (z33 + ((z33).toUInt32 >>> (((8 : Int32)).toUInt32 &&& Int32.toUInt32 31)).toInt32) fun z40 => (lt (z40 + ((z40).toUInt32 >>> (((16 : Int32)).toUInt32 &&& Int32.toUInt32 31)).toInt32) fun z47 => (z47 &&& (63 : Int32)))))))
set_option maxRecDepth 100000 in
theorem sp_J6_bitCount_0f7a4 {l : Launch} (hl : l.stackTraces = false) {g : Gy} {h : va_W} (a0 : Int32) : SpF l mJ6_bitCount_0f7a4 1 0 0 mI g [.int a0] h (F_J6_bitCount_0f7a4 a0) h := by
  generalize H : F_J6_bitCount_0f7a4 a0 = r0
  unfold F_J6_bitCount_0f7a4 at H
  refine Sp.of hl (by decide) (Nat.le_of_ble_eq_true rfl) (fun p e s m args below meth c A C hr hx => ?_)
  refine J.lw (lv' := [(0, .int a0)]) ⟨rfl, trivial⟩ ?_
  refine J.iload_n (i := 0) C dJ6_bitCount_0f7a4_0 rfl rfl ?_
  refine J.iload_n (i := 0) C dJ6_bitCount_0f7a4_1 rfl rfl ?_
  refine J.iconst C (1) dJ6_bitCount_0f7a4_2 (by decide) ?_
  refine J.iushr C dJ6_bitCount_0f7a4_3 ?_
  refine J.ldcw C kCn_J6_265 dJ6_bitCount_0f7a4_4 ?_
  refine J.iand C dJ6_bitCount_0f7a4_7 ?_
  refine J.isub C dJ6_bitCount_0f7a4_8 ?_
  refine J.istore_nL (i := 0) C dJ6_bitCount_0f7a4_9 rfl (by decide) H (fun z9 H => ?_)
  refine J.iload_n (i := 0) C dJ6_bitCount_0f7a4_10 rfl rfl ?_
  refine J.ldcw C kCn_J6_266 dJ6_bitCount_0f7a4_11 ?_
  refine J.iand C dJ6_bitCount_0f7a4_14 ?_
  refine J.iload_n (i := 0) C dJ6_bitCount_0f7a4_15 rfl rfl ?_
  refine J.iconst C (2) dJ6_bitCount_0f7a4_16 (by decide) ?_
  refine J.iushr C dJ6_bitCount_0f7a4_17 ?_
  refine J.ldcw C kCn_J6_266 dJ6_bitCount_0f7a4_18 ?_
  refine J.iand C dJ6_bitCount_0f7a4_21 ?_
  refine J.iadd C dJ6_bitCount_0f7a4_22 ?_
  refine J.istore_nL (i := 0) C dJ6_bitCount_0f7a4_23 rfl (by decide) H (fun z23 H => ?_)
  refine J.iload_n (i := 0) C dJ6_bitCount_0f7a4_24 rfl rfl ?_
  refine J.iload_n (i := 0) C dJ6_bitCount_0f7a4_25 rfl rfl ?_
  refine J.iconst C (4) dJ6_bitCount_0f7a4_26 (by decide) ?_
  refine J.iushr C dJ6_bitCount_0f7a4_27 ?_
  refine J.iadd C dJ6_bitCount_0f7a4_28 ?_
  refine J.ldcw C kCn_J6_267 dJ6_bitCount_0f7a4_29 ?_
  refine J.iand C dJ6_bitCount_0f7a4_32 ?_
  refine J.istore_nL (i := 0) C dJ6_bitCount_0f7a4_33 rfl (by decide) H (fun z33 H => ?_)
  refine J.iload_n (i := 0) C dJ6_bitCount_0f7a4_34 rfl rfl ?_
  refine J.iload_n (i := 0) C dJ6_bitCount_0f7a4_35 rfl rfl ?_
  refine J.bipush C (8) dJ6_bitCount_0f7a4_36 (by decide) ?_
  refine J.iushr C dJ6_bitCount_0f7a4_38 ?_
  refine J.iadd C dJ6_bitCount_0f7a4_39 ?_
  refine J.istore_nL (i := 0) C dJ6_bitCount_0f7a4_40 rfl (by decide) H (fun z40 H => ?_)
  refine J.iload_n (i := 0) C dJ6_bitCount_0f7a4_41 rfl rfl ?_
  refine J.iload_n (i := 0) C dJ6_bitCount_0f7a4_42 rfl rfl ?_
  refine J.bipush C (16) dJ6_bitCount_0f7a4_43 (by decide) ?_
  refine J.iushr C dJ6_bitCount_0f7a4_45 ?_
  refine J.iadd C dJ6_bitCount_0f7a4_46 ?_
  refine J.istore_nL (i := 0) C dJ6_bitCount_0f7a4_47 rfl (by decide) H (fun z47 H => ?_)
  refine J.iload_n (i := 0) C dJ6_bitCount_0f7a4_48 rfl rfl ?_
  refine J.bipush C (63) dJ6_bitCount_0f7a4_49 (by decide) ?_
  refine J.iand C dJ6_bitCount_0f7a4_51 ?_
  exact J.iretA C hr (Nat.le_refl _) (Nat.le_refl _) dJ6_bitCount_0f7a4_52 H
