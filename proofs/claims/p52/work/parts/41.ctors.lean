/-! THE CONSTRUCTORS -/
theorem SpI.of {ρ : Type} {l : Launch} {d : MD} {lev mc ms : Nat} {mk : ρ → Option Value} {g : Gy} {as : List Value} {h : va_W} {post : ρ → va_W → Prop} {px : String → va_W → Prop}
    (hl : l.stackTraces = false) (hnm : d.1.name = "<init>") (hy : plainName d.1.cls = true) (hlen : (lg_sl as).length ≤ d.2.2.1)
    (body : ∀ (p : Program) (e : Env) (s : State) (m : MethodId) (args : Array Value) (below : List Frame) (meth : Method) (c : Code) (A : Nat → Prop), Cx p l s m args meth c g A d.1.cls d.2.1 d.2.2.1 → meth.sig.returnType = d.2.2.2 → meth.name = "<init>" →
      J p l e (rmOf lev mc ms) s m args below meth c g A d.2.2.1 0 0 (vx_MQ below (Qg mk post g A) (XQ px g A) args s mc ms A) 0 (lv_args 0 as) [] h) : Sp l d lev mc ms mk g as h post px := by
  intro sz
  refine vx_ofW hy (rfl : d.ws = _) ?_
  intro p e s m args below meth c s₁ B hml htab hv
  obtain ⟨rfl, hsz, hP, hK, hD0, hT⟩ := hv
  subst hsz
  have hts : ∀ w ∈ d.ws, w.before as.toArray s = true := atoms_spec (ws := d.ws) B.pre
  have hb9 := body p e s m as.toArray below meth c (va_A h s.heap.size) ⟨B.exec, B.bytes, hml, findClass_of_methodNamed B.named, fun w hw => hts w (List.mem_cons_of_mem _ hw), B.notSynchronized, hK, fun q hq => Or.inr hq, hT, hl⟩ B.returns ((name_of_methodNamed B.named B.method).1.trans hnm)
  rw [lg_entry_eq]
  exact hb9 s.heap [] _ hP (hD0.self (sz := s.heap.size)) va_S.rf (lv_entry as hlen)
abbrev mX3_init : MD := (yX3_init, cX3_init, 2, none)
theorem mdX3_init : MDi mX3_init 1 := ⟨kIm_X3_init, kIn_X3, kCo_X3_init, rfl, rfl, by decide +kernel⟩
set_option maxRecDepth 100000 in
theorem sp_X3_init {l : Launch} (hl : l.stackTraces = false) {g : Gy} (h : va_W) (b n : Nat) (hn : n ≤ 4500) : Sp l mX3_init 2 1 n mV g [.ref b, .int (nI n)] (h ++ [(b, .inr (5, [.null]))]) (fun _ u => ∃ c : Nat, u = h ++ [(b, .inr (5, [.ref c])), (c, .inl (g.2 0, n, .inl (fun _ => 0)))]) (fun _ _ => False) := by
  refine SpI.of hl rfl (by decide) (Nat.le_of_ble_eq_true rfl) (fun p e s m args below meth c A C hr hin => ?_)
  refine J.lw (lv' := [(0, .ref b), (1, .int (nI n))]) ⟨rfl, rfl, trivial⟩ ?_
  refine J.aload_n (i := 0) C dX3_init_0 rfl rfl ?_
  refine J.objInit C kobj_X3 kobj_inst kobj_code ⟨Nat.le_of_ble_eq_true rfl, Nat.le_of_ble_eq_true rfl⟩ dX3_init_1 ?_
  refine J.aload_n (i := 0) C dX3_init_4 rfl rfl ?_
  refine J.iload_n (i := 1) C dX3_init_5 rfl rfl ?_
  refine J.if_ge (tgt := 13) C dX3_init_6 (by decide) (fun c_6 => ?_) (fun c_6 => absurd (nI_pos' (by omega)) c_6)
  refine J.iload_n (i := 1) C dX3_init_13 rfl rfl ?_
  refine J.newa C 0 n (n, .inl (fun _ => 0)) kAc_int rfl rfl rfl (fun _ => rfl) (nI_pos (by omega)) (nI_clamp (by omega)) (by show n * 4 ≤ 536870912; omega) ⟨Nat.le_refl _, by show 0 + n ≤ n; omega⟩ dX3_init_14 (fun q => ?_)
  refine J.heq (h' := h ++ [(b, .inr (5, [.null])), (q, .inl (g.2 0, n, .inl (fun _ => 0)))]) (List.append_assoc _ _ _) ?_
  refine J.putF C (h.length + 0) 0 ((app_get _ _ _).trans rfl) rfl (by decide) kFl_X3_9 inB_X3 tyX3 tyX3_ok nmX3 rfl hin rfl rfl rfl rfl (Nat.le_of_ble_eq_true rfl) dX3_init_16 ?_
  refine J.heq (h' := h ++ [(b, .inr (5, [.ref q])), (q, .inl (g.2 0, n, .inl (fun _ => 0)))]) ((app_set _ _ _ _).trans rfl) ?_
  exact J.vret C hr (Nat.le_refl _) (by show 0 + n ≤ n; omega) dX3_init_19 ⟨q, rfl⟩
section STEPS
variable {p : Program} {l : Launch} {e : Env} {R : Room} {s : State} {m : MethodId} {args : Array Value} {below : List Frame} {meth : Method} {c : Code} {g : Gy} {A : Nat → Prop} {own : String} {cc : ByteArray} {nL : Nat} {cells slots : Nat} {Q : State → Prop} {pc : Nat} {lv : List (Nat × Value)} {st rest : List Value} {h : va_W}
theorem J.rowstep (C : Cx p l s m args meth c g A own cc nL) (hls : l.stackTraces = false) (hin : meth.name = "<init>") {b ci N idx i2 i3 n : Nat} {Cn : String} {T : u_T} {fs : List Value} {X : va_W} (L : Nat) (hb : lvg lv 0 = some (.ref b)) (hn4 : n ≤ 4500) (d0 : decode cc pc = .ok (.aload_n 0, 1)) (d1 : decode cc (pc + 1) = .ok (.new idx, 3)) (hcl : Cond.classLink own idx RX3 ∈ BIG) (d4 : decode cc (pc + 4) = .ok (.dup, 1))
    (hpush : ∀ (st' : List Value) (h' : va_W), J p l e R s m args below meth c g A nL (cells + 1) (slots + 1) Q (pc + 5 + L) lv (.int (nI n) :: st') h' → J p l e R s m args below meth c g A nL (cells + 1) (slots + 1) Q (pc + 5) lv st' h') (d5 : decode cc (pc + 5 + L) = .ok (.invokespecial i2, 3)) (hml : Cond.methodLink own i2 yX3_init ∈ BIG) (d8 : decode cc (pc + 5 + L + 3) = .ok (.putfield i3, 3)) (f : Nat) (hc : vwCl[ci]? = some (Cn, T, N)) (hf9 : f < N) (hl9 : Cond.fieldLink own i3 (T f).1 (T f).2.1 (T f).2.2.1 ∈ BIG) (hinB : ∀ w ∈ u_ws Cn T N, w ∈ BIG) (ty0 : Nat → FieldType) (hty : ∀ k, k < N → parseFieldDescriptor (T k).2.2.1 = some (ty0 k)) (hnm : ∀ a, a < N → ∀ b, b < N → a ≠ b → (T a).2.1 ≠ (T b).2.1) (hfin : (T f).2.2.2 = true) (hdc : (T f).1 = own) {ty : FieldType} (hd : parseFieldDescriptor (T f).2.2.1 = some ty) (hfit : ∀ r : Nat, narrow ty (.ref r) = .ref r ∧ fits ty (.ref r) = true) (hlen : f < fs.length)
    (hR : 3 ≤ R.frames ∧ 149 ≤ R.locals ∧ cells + 2 ≤ R.cells ∧ slots + 1 + n ≤ R.slots) (hst9 : (rest.map fun v => v.category).sum ≤ 5)
    (kk : ∀ (r c9 : Nat) (X' : va_W), X' = X ++ [(r, .inr (5, [.ref c9])), (c9, .inl (g.2 0, n, .inl (fun _ => 0)))] → J p l e R s m args below meth c g A nL (cells + 1 + 1) (slots + 1 + n) Q (pc + 5 + L + 3 + 3) lv rest (h ++ ((b, .inr (ci, fs.set f (.ref r))) :: X'))) : J p l e R s m args below meth c g A nL cells slots Q pc lv rest (h ++ ((b, .inr (ci, fs)) :: X)) := by
  refine J.aload_n (i := 0) C d0 rfl hb ?_
  refine J.new C (ci := 5) (fs := [.null]) inB_X3 tyX3 tyX3_ok hcl kIs_X3 kIn_X3 rfl (by decide +kernel) ⟨by omega, by omega⟩ d1 (fun r => ?_)
  refine J.dup C d4 rfl ?_
  refine hpush _ _ ?_
  refine J.callI (d := mX3_init) C (sp_X3_init hls _ r n hn4) rfl hml mdX3_init ⟨by omega, by show 8 + (2 + 11) + 64 * 2 ≤ R.locals; omega⟩ rfl (by show ((Value.ref r :: Value.ref b :: rest).map fun v => v.category).sum ≤ 8; simp only [List.map_cons, List.sum_cons]; show 1 + (1 + _) ≤ 8; omega) d5 ⟨by omega, by omega⟩ (fun u hu => ?_)
  obtain ⟨c9, rfl⟩ := hu
  refine J.heq (List.append_assoc _ _ _) ?_
  refine J.putF C (h.length + 0) f ((app_get _ _ _).trans rfl) hc hf9 hl9 hinB ty0 hty hnm hfin hin hdc hd (hfit r).1 (hfit r).2 hlen d8 ?_
  refine J.heq (app_set _ _ _ _) ?_
  exact kk r c9 _ rfl
theorem J.arrstep (C : Cx p l s m args meth c g A own cc nL) (hin : meth.name = "<init>") {b ci N i3 n : Nat} {Cn : String} {T : u_T} {fs : List Value} {X : va_W} {atype : ArrayType} {aty : FieldType} (L t0 : Nat) (a0 : vp_A) (hb : lvg lv 0 = some (.ref b)) (hn4 : n ≤ 4500) (d0 : decode cc pc = .ok (.aload_n 0, 1)) 
    (hpush : ∀ (st' : List Value) (h' : va_W), J p l e R s m args below meth c g A nL cells slots Q (pc + 1 + L) lv (.int (nI n) :: st') h' → J p l e R s m args below meth c g A nL cells slots Q (pc + 1) lv st' h') (d5 : decode cc (pc + 1 + L) = .ok (.newarray atype, 2)) (hac : Cond.arrayClass aty ∈ BIG) (htya : newarray.typeOf atype = aty) (hno : noObj aty = true) (ht : (tysOf g)[t0]? = some (g.2 t0, aty)) (ha : ∀ cA : ClassId, vp_cell cA a0 = arrV cA n (fun _ => defaultValue aty)) (hby : componentBytes aty ≤ 8) (d8 : decode cc (pc + 1 + L + 2) = .ok (.putfield i3, 3)) (f : Nat) (hc : vwCl[ci]? = some (Cn, T, N)) (hf9 : f < N) (hl9 : Cond.fieldLink own i3 (T f).1 (T f).2.1 (T f).2.2.1 ∈ BIG) (hinB : ∀ w ∈ u_ws Cn T N, w ∈ BIG) (ty0 : Nat → FieldType) (hty : ∀ k, k < N → parseFieldDescriptor (T k).2.2.1 = some (ty0 k)) (hnm : ∀ a, a < N → ∀ b, b < N → a ≠ b → (T a).2.1 ≠ (T b).2.1) (hfin : (T f).2.2.2 = true) (hdc : (T f).1 = own) {ty : FieldType} (hd : parseFieldDescriptor (T f).2.2.1 = some ty) (hfit : ∀ r : Nat, narrow ty (.ref r) = .ref r ∧ fits ty (.ref r) = true) (hlen : f < fs.length)
    (hR : cells + 1 ≤ R.cells ∧ slots + n ≤ R.slots)
    (kk : ∀ (r : Nat) (X' : va_W), X' = X ++ [(r, .inl (g.2 t0, a0))] → J p l e R s m args below meth c g A nL (cells + 1) (slots + n) Q (pc + 1 + L + 2 + 3) lv rest (h ++ ((b, .inr (ci, fs.set f (.ref r))) :: X'))) : J p l e R s m args below meth c g A nL cells slots Q pc lv rest (h ++ ((b, .inr (ci, fs)) :: X)) := by
  refine J.aload_n (i := 0) C d0 rfl hb ?_
  refine hpush _ _ ?_
  refine J.newa C t0 n a0 hac htya hno ht ha (nI_pos (by omega)) (nI_clamp (by omega)) (Nat.le_trans (Nat.mul_le_mul hn4 hby) (by decide)) hR d5 (fun r => ?_)
  refine J.heq (List.append_assoc _ _ _) ?_
  refine J.putF C (h.length + 0) f ((app_get _ _ _).trans rfl) hc hf9 hl9 hinB ty0 hty hnm hfin hin hdc hd (hfit r).1 (hfit r).2 hlen d8 ?_
  refine J.heq (app_set _ _ _ _) ?_
  exact kk r _ rfl
end STEPS
theorem ref_fit (C : String) : ∀ r : Nat, narrow (.object C) (.ref r) = .ref r ∧ fits (.object C) (.ref r) = true := fun _ => ⟨rfl, rfl⟩
theorem ref_fitA (t : FieldType) : ∀ r : Nat, narrow (.array t) (.ref r) = .ref r ∧ fits (.array t) (.ref r) = true := fun _ => ⟨rfl, rfl⟩
abbrev mX0_init : MD := (yX0_init, cX0_init, 1, none)
theorem mdX0_init : MDi mX0_init 0 := ⟨kIm_X0_init, kIn_X0, kCo_X0_init, rfl, rfl, by decide +kernel⟩
/-- what the constructor leaves: the object, and what it made -/
def cl_X0 (g : Gy) (b q4 c4 q18 c18 q32 c32 q46 c46 q60 c60 q74 c74 q88 c88 q101 c101 : Nat) : va_W := (b, .inr (2, [.ref q4, .ref q18, .ref q32, .ref q46, .ref q60, .ref q74, .ref q88, .ref q101, .int 0, .int 0])) :: [(q4, .inr (5, [.ref c4])), (c4, .inl (g.2 0, 150, .inl (fun _ => 0))), (q18, .inr (5, [.ref c18])), (c18, .inl (g.2 0, 150, .inl (fun _ => 0))), (q32, .inr (5, [.ref c32])), (c32, .inl (g.2 0, 150, .inl (fun _ => 0))), (q46, .inr (5, [.ref c46])), (c46, .inl (g.2 0, 150, .inl (fun _ => 0))), (q60, .inr (5, [.ref c60])), (c60, .inl (g.2 0, 4500, .inl (fun _ => 0))), (q74, .inr (5, [.ref c74])), (c74, .inl (g.2 0, 150, .inl (fun _ => 0))), (q88, .inr (5, [.ref c88])), (c88, .inl (g.2 0, 30, .inl (fun _ => 0))), (q101, .inr (5, [.ref c101])), (c101, .inl (g.2 0, 30, .inl (fun _ => 0)))]
set_option maxRecDepth 100000 in
set_option maxHeartbeats 4000000 in
theorem sp_X0_init {l : Launch} (hl : l.stackTraces = false) {g : Gy} (h : va_W) (b : Nat) : Sp l mX0_init 3 16 5318 mV g [.ref b] (h ++ [(b, .inr (2, [.null, .null, .null, .null, .null, .null, .null, .null, .int 0, .int 0]))]) (fun _ u => ∃ (q4 c4 q18 c18 q32 c32 q46 c46 q60 c60 q74 c74 q88 c88 q101 c101 : Nat), u = h ++ cl_X0 g b q4 c4 q18 c18 q32 c32 q46 c46 q60 c60 q74 c74 q88 c88 q101 c101 ) (fun _ _ => False) := by
  refine SpI.of hl rfl (by decide) (Nat.le_of_ble_eq_true rfl) (fun p e s m args below meth c A C hr hin => ?_)
  refine J.lw (lv' := [(0, .ref b)]) ⟨rfl, trivial⟩ ?_
  refine J.aload_n (i := 0) C dX0_init_0 rfl rfl ?_
  refine J.objInit C kobj_X0 kobj_inst kobj_code ⟨(Nat.le_of_ble_eq_true rfl), (Nat.le_of_ble_eq_true rfl)⟩ dX0_init_1 ?_
  refine J.rowstep (ci := 2) (n := 150) C hl hin 3 rfl (by decide) dX0_init_4 dX0_init_5 kCl_X0_9 dX0_init_8 (fun st' h' H => J.sipush C (150) dX0_init_9 (by decide) H) dX0_init_12 kMl_X0_11 dX0_init_15 0 rfl (by decide) kFl_X0_14 inB_X0 tyX0 tyX0_ok nmX0 rfl rfl rfl (ref_fit _) (Nat.le_of_ble_eq_true rfl) ⟨(Nat.le_of_ble_eq_true rfl), (Nat.le_of_ble_eq_true rfl), (Nat.le_of_ble_eq_true rfl), (Nat.le_of_ble_eq_true rfl)⟩ (Nat.le_of_ble_eq_true rfl) (fun q4 c4 X1 e1 => ?_)
  refine J.rowstep (ci := 2) (n := 150) C hl hin 3 rfl (by decide) dX0_init_18 dX0_init_19 kCl_X0_9 dX0_init_22 (fun st' h' H => J.sipush C (150) dX0_init_23 (by decide) H) dX0_init_26 kMl_X0_11 dX0_init_29 1 rfl (by decide) kFl_X0_20 inB_X0 tyX0 tyX0_ok nmX0 rfl rfl rfl (ref_fit _) (Nat.le_of_ble_eq_true rfl) ⟨(Nat.le_of_ble_eq_true rfl), (Nat.le_of_ble_eq_true rfl), (Nat.le_of_ble_eq_true rfl), (Nat.le_of_ble_eq_true rfl)⟩ (Nat.le_of_ble_eq_true rfl) (fun q18 c18 X2 e2 => ?_)
  refine J.rowstep (ci := 2) (n := 150) C hl hin 3 rfl (by decide) dX0_init_32 dX0_init_33 kCl_X0_9 dX0_init_36 (fun st' h' H => J.sipush C (150) dX0_init_37 (by decide) H) dX0_init_40 kMl_X0_11 dX0_init_43 2 rfl (by decide) kFl_X0_23 inB_X0 tyX0 tyX0_ok nmX0 rfl rfl rfl (ref_fit _) (Nat.le_of_ble_eq_true rfl) ⟨(Nat.le_of_ble_eq_true rfl), (Nat.le_of_ble_eq_true rfl), (Nat.le_of_ble_eq_true rfl), (Nat.le_of_ble_eq_true rfl)⟩ (Nat.le_of_ble_eq_true rfl) (fun q32 c32 X3 e3 => ?_)
  refine J.rowstep (ci := 2) (n := 150) C hl hin 3 rfl (by decide) dX0_init_46 dX0_init_47 kCl_X0_9 dX0_init_50 (fun st' h' H => J.sipush C (150) dX0_init_51 (by decide) H) dX0_init_54 kMl_X0_11 dX0_init_57 3 rfl (by decide) kFl_X0_26 inB_X0 tyX0 tyX0_ok nmX0 rfl rfl rfl (ref_fit _) (Nat.le_of_ble_eq_true rfl) ⟨(Nat.le_of_ble_eq_true rfl), (Nat.le_of_ble_eq_true rfl), (Nat.le_of_ble_eq_true rfl), (Nat.le_of_ble_eq_true rfl)⟩ (Nat.le_of_ble_eq_true rfl) (fun q46 c46 X4 e4 => ?_)
  refine J.rowstep (ci := 2) (n := 4500) C hl hin 3 rfl (by decide) dX0_init_60 dX0_init_61 kCl_X0_9 dX0_init_64 (fun st' h' H => J.sipush C (4500) dX0_init_65 (by decide) H) dX0_init_68 kMl_X0_11 dX0_init_71 4 rfl (by decide) kFl_X0_29 inB_X0 tyX0 tyX0_ok nmX0 rfl rfl rfl (ref_fit _) (Nat.le_of_ble_eq_true rfl) ⟨(Nat.le_of_ble_eq_true rfl), (Nat.le_of_ble_eq_true rfl), (Nat.le_of_ble_eq_true rfl), (Nat.le_of_ble_eq_true rfl)⟩ (Nat.le_of_ble_eq_true rfl) (fun q60 c60 X5 e5 => ?_)
  refine J.rowstep (ci := 2) (n := 150) C hl hin 3 rfl (by decide) dX0_init_74 dX0_init_75 kCl_X0_9 dX0_init_78 (fun st' h' H => J.sipush C (150) dX0_init_79 (by decide) H) dX0_init_82 kMl_X0_11 dX0_init_85 5 rfl (by decide) kFl_X0_32 inB_X0 tyX0 tyX0_ok nmX0 rfl rfl rfl (ref_fit _) (Nat.le_of_ble_eq_true rfl) ⟨(Nat.le_of_ble_eq_true rfl), (Nat.le_of_ble_eq_true rfl), (Nat.le_of_ble_eq_true rfl), (Nat.le_of_ble_eq_true rfl)⟩ (Nat.le_of_ble_eq_true rfl) (fun q74 c74 X6 e6 => ?_)
  refine J.rowstep (ci := 2) (n := 30) C hl hin 2 rfl (by decide) dX0_init_88 dX0_init_89 kCl_X0_9 dX0_init_92 (fun st' h' H => J.bipush C (30) dX0_init_93 (by decide) H) dX0_init_95 kMl_X0_11 dX0_init_98 6 rfl (by decide) kFl_X0_35 inB_X0 tyX0 tyX0_ok nmX0 rfl rfl rfl (ref_fit _) (Nat.le_of_ble_eq_true rfl) ⟨(Nat.le_of_ble_eq_true rfl), (Nat.le_of_ble_eq_true rfl), (Nat.le_of_ble_eq_true rfl), (Nat.le_of_ble_eq_true rfl)⟩ (Nat.le_of_ble_eq_true rfl) (fun q88 c88 X7 e7 => ?_)
  refine J.rowstep (ci := 2) (n := 30) C hl hin 2 rfl (by decide) dX0_init_101 dX0_init_102 kCl_X0_9 dX0_init_105 (fun st' h' H => J.bipush C (30) dX0_init_106 (by decide) H) dX0_init_108 kMl_X0_11 dX0_init_111 7 rfl (by decide) kFl_X0_38 inB_X0 tyX0 tyX0_ok nmX0 rfl rfl rfl (ref_fit _) (Nat.le_of_ble_eq_true rfl) ⟨(Nat.le_of_ble_eq_true rfl), (Nat.le_of_ble_eq_true rfl), (Nat.le_of_ble_eq_true rfl), (Nat.le_of_ble_eq_true rfl)⟩ (Nat.le_of_ble_eq_true rfl) (fun q101 c101 X8 e8 => ?_)
  refine J.vret C hr (Nat.le_of_ble_eq_true rfl) (Nat.le_of_ble_eq_true rfl) dX0_init_114 ⟨q4, c4, q18, c18, q32, c32, q46, c46, q60, c60, q74, c74, q88, c88, q101, c101, ?_⟩
  subst e8 e7 e6 e5 e4 e3 e2 e1
  refine congrArg (fun z => h ++ z) ?_
  simp only [cl_X0, List.append_assoc, List.nil_append, List.cons_append, List.set_cons_zero, List.set_cons_succ]
  try rfl
abbrev mX2_init : MD := (yX2_init, cX2_init, 2, none)
theorem mdX2_init : MDi mX2_init 1 := ⟨kIm_X2_init, kIn_X2, kCo_X2_init, rfl, rfl, by decide +kernel⟩
/-- what the constructor leaves: the object, and what it made -/
def cl_X2 (g : Gy) (b k1 q4 c4 q17 c17 q30 c30 q43 c43 q56 c56 q69 c69 q82 c82 q95 c95 q108 c108 q121 c121 q134 c134 q147 c147 : Nat) : va_W := (b, .inr (4, [.ref k1, .ref q4, .ref q17, .ref q30, .ref q43, .ref q56, .ref q69, .ref q82, .ref q95, .ref q108, .ref q121, .ref q134, .ref q147, .int 0, .int 0, .int (-1)])) :: [(q4, .inr (5, [.ref c4])), (c4, .inl (g.2 0, 60, .inl (fun _ => 0))), (q17, .inr (5, [.ref c17])), (c17, .inl (g.2 0, 60, .inl (fun _ => 0))), (q30, .inr (5, [.ref c30])), (c30, .inl (g.2 0, 60, .inl (fun _ => 0))), (q43, .inr (5, [.ref c43])), (c43, .inl (g.2 0, 60, .inl (fun _ => 0))), (q56, .inr (5, [.ref c56])), (c56, .inl (g.2 0, 60, .inl (fun _ => 0))), (q69, .inr (5, [.ref c69])), (c69, .inl (g.2 0, 60, .inl (fun _ => 0))), (q82, .inr (5, [.ref c82])), (c82, .inl (g.2 0, 60, .inl (fun _ => 0))), (q95, .inr (5, [.ref c95])), (c95, .inl (g.2 0, 60, .inl (fun _ => 0))), (q108, .inr (5, [.ref c108])), (c108, .inl (g.2 0, 60, .inl (fun _ => 0))), (q121, .inr (5, [.ref c121])), (c121, .inl (g.2 0, 60, .inl (fun _ => 0))), (q134, .inr (5, [.ref c134])), (c134, .inl (g.2 0, 60, .inl (fun _ => 0))), (q147, .inr (5, [.ref c147])), (c147, .inl (g.2 0, 60, .inl (fun _ => 0)))]
set_option maxRecDepth 100000 in
set_option maxHeartbeats 4000000 in
theorem sp_X2_init {l : Launch} (hl : l.stackTraces = false) {g : Gy} (h : va_W) (b k1 : Nat) : Sp l mX2_init 3 24 732 mV g [.ref b, .ref k1] (h ++ [(b, .inr (4, [.null, .null, .null, .null, .null, .null, .null, .null, .null, .null, .null, .null, .null, .int 0, .int 0, .int 0]))]) (fun _ u => ∃ (q4 c4 q17 c17 q30 c30 q43 c43 q56 c56 q69 c69 q82 c82 q95 c95 q108 c108 q121 c121 q134 c134 q147 c147 : Nat), u = h ++ cl_X2 g b k1 q4 c4 q17 c17 q30 c30 q43 c43 q56 c56 q69 c69 q82 c82 q95 c95 q108 c108 q121 c121 q134 c134 q147 c147 ) (fun _ _ => False) := by
  refine SpI.of hl rfl (by decide) (Nat.le_of_ble_eq_true rfl) (fun p e s m args below meth c A C hr hin => ?_)
  refine J.lw (lv' := [(0, .ref b), (1, .ref k1)]) ⟨rfl, rfl, trivial⟩ ?_
  refine J.aload_n (i := 0) C dX2_init_0 rfl rfl ?_
  refine J.objInit C kobj_X2 kobj_inst kobj_code ⟨(Nat.le_of_ble_eq_true rfl), (Nat.le_of_ble_eq_true rfl)⟩ dX2_init_1 ?_
  refine J.rowstep (ci := 4) (n := 60) C hl hin 2 rfl (by decide) dX2_init_4 dX2_init_5 kCl_X2_9 dX2_init_8 (fun st' h' H => J.bipush C (60) dX2_init_9 (by decide) H) dX2_init_11 kMl_X2_11 dX2_init_14 1 rfl (by decide) kFl_X2_14 inB_X2 tyX2 tyX2_ok nmX2 rfl rfl rfl (ref_fit _) (Nat.le_of_ble_eq_true rfl) ⟨(Nat.le_of_ble_eq_true rfl), (Nat.le_of_ble_eq_true rfl), (Nat.le_of_ble_eq_true rfl), (Nat.le_of_ble_eq_true rfl)⟩ (Nat.le_of_ble_eq_true rfl) (fun q4 c4 X1 e1 => ?_)
  refine J.rowstep (ci := 4) (n := 60) C hl hin 2 rfl (by decide) dX2_init_17 dX2_init_18 kCl_X2_9 dX2_init_21 (fun st' h' H => J.bipush C (60) dX2_init_22 (by decide) H) dX2_init_24 kMl_X2_11 dX2_init_27 2 rfl (by decide) kFl_X2_20 inB_X2 tyX2 tyX2_ok nmX2 rfl rfl rfl (ref_fit _) (Nat.le_of_ble_eq_true rfl) ⟨(Nat.le_of_ble_eq_true rfl), (Nat.le_of_ble_eq_true rfl), (Nat.le_of_ble_eq_true rfl), (Nat.le_of_ble_eq_true rfl)⟩ (Nat.le_of_ble_eq_true rfl) (fun q17 c17 X2 e2 => ?_)
  refine J.rowstep (ci := 4) (n := 60) C hl hin 2 rfl (by decide) dX2_init_30 dX2_init_31 kCl_X2_9 dX2_init_34 (fun st' h' H => J.bipush C (60) dX2_init_35 (by decide) H) dX2_init_37 kMl_X2_11 dX2_init_40 3 rfl (by decide) kFl_X2_23 inB_X2 tyX2 tyX2_ok nmX2 rfl rfl rfl (ref_fit _) (Nat.le_of_ble_eq_true rfl) ⟨(Nat.le_of_ble_eq_true rfl), (Nat.le_of_ble_eq_true rfl), (Nat.le_of_ble_eq_true rfl), (Nat.le_of_ble_eq_true rfl)⟩ (Nat.le_of_ble_eq_true rfl) (fun q30 c30 X3 e3 => ?_)
  refine J.rowstep (ci := 4) (n := 60) C hl hin 2 rfl (by decide) dX2_init_43 dX2_init_44 kCl_X2_9 dX2_init_47 (fun st' h' H => J.bipush C (60) dX2_init_48 (by decide) H) dX2_init_50 kMl_X2_11 dX2_init_53 4 rfl (by decide) kFl_X2_26 inB_X2 tyX2 tyX2_ok nmX2 rfl rfl rfl (ref_fit _) (Nat.le_of_ble_eq_true rfl) ⟨(Nat.le_of_ble_eq_true rfl), (Nat.le_of_ble_eq_true rfl), (Nat.le_of_ble_eq_true rfl), (Nat.le_of_ble_eq_true rfl)⟩ (Nat.le_of_ble_eq_true rfl) (fun q43 c43 X4 e4 => ?_)
  refine J.rowstep (ci := 4) (n := 60) C hl hin 2 rfl (by decide) dX2_init_56 dX2_init_57 kCl_X2_9 dX2_init_60 (fun st' h' H => J.bipush C (60) dX2_init_61 (by decide) H) dX2_init_63 kMl_X2_11 dX2_init_66 5 rfl (by decide) kFl_X2_29 inB_X2 tyX2 tyX2_ok nmX2 rfl rfl rfl (ref_fit _) (Nat.le_of_ble_eq_true rfl) ⟨(Nat.le_of_ble_eq_true rfl), (Nat.le_of_ble_eq_true rfl), (Nat.le_of_ble_eq_true rfl), (Nat.le_of_ble_eq_true rfl)⟩ (Nat.le_of_ble_eq_true rfl) (fun q56 c56 X5 e5 => ?_)
  refine J.rowstep (ci := 4) (n := 60) C hl hin 2 rfl (by decide) dX2_init_69 dX2_init_70 kCl_X2_9 dX2_init_73 (fun st' h' H => J.bipush C (60) dX2_init_74 (by decide) H) dX2_init_76 kMl_X2_11 dX2_init_79 6 rfl (by decide) kFl_X2_32 inB_X2 tyX2 tyX2_ok nmX2 rfl rfl rfl (ref_fit _) (Nat.le_of_ble_eq_true rfl) ⟨(Nat.le_of_ble_eq_true rfl), (Nat.le_of_ble_eq_true rfl), (Nat.le_of_ble_eq_true rfl), (Nat.le_of_ble_eq_true rfl)⟩ (Nat.le_of_ble_eq_true rfl) (fun q69 c69 X6 e6 => ?_)
  refine J.rowstep (ci := 4) (n := 60) C hl hin 2 rfl (by decide) dX2_init_82 dX2_init_83 kCl_X2_9 dX2_init_86 (fun st' h' H => J.bipush C (60) dX2_init_87 (by decide) H) dX2_init_89 kMl_X2_11 dX2_init_92 7 rfl (by decide) kFl_X2_35 inB_X2 tyX2 tyX2_ok nmX2 rfl rfl rfl (ref_fit _) (Nat.le_of_ble_eq_true rfl) ⟨(Nat.le_of_ble_eq_true rfl), (Nat.le_of_ble_eq_true rfl), (Nat.le_of_ble_eq_true rfl), (Nat.le_of_ble_eq_true rfl)⟩ (Nat.le_of_ble_eq_true rfl) (fun q82 c82 X7 e7 => ?_)
  refine J.rowstep (ci := 4) (n := 60) C hl hin 2 rfl (by decide) dX2_init_95 dX2_init_96 kCl_X2_9 dX2_init_99 (fun st' h' H => J.bipush C (60) dX2_init_100 (by decide) H) dX2_init_102 kMl_X2_11 dX2_init_105 8 rfl (by decide) kFl_X2_38 inB_X2 tyX2 tyX2_ok nmX2 rfl rfl rfl (ref_fit _) (Nat.le_of_ble_eq_true rfl) ⟨(Nat.le_of_ble_eq_true rfl), (Nat.le_of_ble_eq_true rfl), (Nat.le_of_ble_eq_true rfl), (Nat.le_of_ble_eq_true rfl)⟩ (Nat.le_of_ble_eq_true rfl) (fun q95 c95 X8 e8 => ?_)
  refine J.rowstep (ci := 4) (n := 60) C hl hin 2 rfl (by decide) dX2_init_108 dX2_init_109 kCl_X2_9 dX2_init_112 (fun st' h' H => J.bipush C (60) dX2_init_113 (by decide) H) dX2_init_115 kMl_X2_11 dX2_init_118 9 rfl (by decide) kFl_X2_41 inB_X2 tyX2 tyX2_ok nmX2 rfl rfl rfl (ref_fit _) (Nat.le_of_ble_eq_true rfl) ⟨(Nat.le_of_ble_eq_true rfl), (Nat.le_of_ble_eq_true rfl), (Nat.le_of_ble_eq_true rfl), (Nat.le_of_ble_eq_true rfl)⟩ (Nat.le_of_ble_eq_true rfl) (fun q108 c108 X9 e9 => ?_)
  refine J.rowstep (ci := 4) (n := 60) C hl hin 2 rfl (by decide) dX2_init_121 dX2_init_122 kCl_X2_9 dX2_init_125 (fun st' h' H => J.bipush C (60) dX2_init_126 (by decide) H) dX2_init_128 kMl_X2_11 dX2_init_131 10 rfl (by decide) kFl_X2_44 inB_X2 tyX2 tyX2_ok nmX2 rfl rfl rfl (ref_fit _) (Nat.le_of_ble_eq_true rfl) ⟨(Nat.le_of_ble_eq_true rfl), (Nat.le_of_ble_eq_true rfl), (Nat.le_of_ble_eq_true rfl), (Nat.le_of_ble_eq_true rfl)⟩ (Nat.le_of_ble_eq_true rfl) (fun q121 c121 X10 e10 => ?_)
  refine J.rowstep (ci := 4) (n := 60) C hl hin 2 rfl (by decide) dX2_init_134 dX2_init_135 kCl_X2_9 dX2_init_138 (fun st' h' H => J.bipush C (60) dX2_init_139 (by decide) H) dX2_init_141 kMl_X2_11 dX2_init_144 11 rfl (by decide) kFl_X2_47 inB_X2 tyX2 tyX2_ok nmX2 rfl rfl rfl (ref_fit _) (Nat.le_of_ble_eq_true rfl) ⟨(Nat.le_of_ble_eq_true rfl), (Nat.le_of_ble_eq_true rfl), (Nat.le_of_ble_eq_true rfl), (Nat.le_of_ble_eq_true rfl)⟩ (Nat.le_of_ble_eq_true rfl) (fun q134 c134 X11 e11 => ?_)
  refine J.rowstep (ci := 4) (n := 60) C hl hin 2 rfl (by decide) dX2_init_147 dX2_init_148 kCl_X2_9 dX2_init_151 (fun st' h' H => J.bipush C (60) dX2_init_152 (by decide) H) dX2_init_154 kMl_X2_11 dX2_init_157 12 rfl (by decide) kFl_X2_50 inB_X2 tyX2 tyX2_ok nmX2 rfl rfl rfl (ref_fit _) (Nat.le_of_ble_eq_true rfl) ⟨(Nat.le_of_ble_eq_true rfl), (Nat.le_of_ble_eq_true rfl), (Nat.le_of_ble_eq_true rfl), (Nat.le_of_ble_eq_true rfl)⟩ (Nat.le_of_ble_eq_true rfl) (fun q147 c147 X12 e12 => ?_)
  refine J.aload_n (i := 0) C dX2_init_160 rfl rfl ?_
  refine J.iconst C (-1) dX2_init_161 (by decide) ?_
  refine J.put C (h.length + 0) 15 ((app_get _ _ _).trans rfl) rfl (by decide) kFl_X2_53 inB_X2 tyX2 tyX2_ok nmX2 rfl rfl rfl rfl (Nat.le_of_ble_eq_true rfl) dX2_init_162 ?_
  refine J.heq (app_set _ _ _ _) ?_
  refine J.aload_n (i := 0) C dX2_init_165 rfl rfl ?_
  refine J.aload_n (i := 1) C dX2_init_166 rfl rfl ?_
  refine J.putF C (h.length + 0) 0 ((app_get _ _ _).trans rfl) rfl (by decide) kFl_X2_57 inB_X2 tyX2 tyX2_ok nmX2 rfl hin rfl rfl rfl rfl (Nat.le_of_ble_eq_true rfl) dX2_init_167 ?_
  refine J.heq (app_set _ _ _ _) ?_
  refine J.vret C hr (Nat.le_of_ble_eq_true rfl) (Nat.le_of_ble_eq_true rfl) dX2_init_170 ⟨q4, c4, q17, c17, q30, c30, q43, c43, q56, c56, q69, c69, q82, c82, q95, c95, q108, c108, q121, c121, q134, c134, q147, c147, ?_⟩
  subst e12 e11 e10 e9 e8 e7 e6 e5 e4 e3 e2 e1
  refine congrArg (fun z => h ++ z) ?_
  simp only [cl_X2, List.append_assoc, List.nil_append, List.cons_append, List.set_cons_zero, List.set_cons_succ]
  try rfl
abbrev mX1_init : MD := (yX1_init, cX1_init, 2, none)
theorem mdX1_init : MDi mX1_init 1 := ⟨kIm_X1_init, kIn_X1, kCo_X1_init, rfl, rfl, by decide +kernel⟩
/-- what the constructor leaves: the object, and what it made -/
def cl_X1 (g : Gy) (b k1 q4 c4 q17 c17 q30 c30 q43 c43 q56 c56 q68 c68 : Nat) : va_W := (b, .inr (3, [.ref k1, .ref q4, .ref q17, .ref q30, .ref q43, .ref q56, .ref q68, .int 0])) :: [(q4, .inr (5, [.ref c4])), (c4, .inl (g.2 0, 8, .inl (fun _ => 0))), (q17, .inr (5, [.ref c17])), (c17, .inl (g.2 0, 8, .inl (fun _ => 0))), (q30, .inr (5, [.ref c30])), (c30, .inl (g.2 0, 8, .inl (fun _ => 0))), (q43, .inr (5, [.ref c43])), (c43, .inl (g.2 0, 8, .inl (fun _ => 0))), (q56, .inr (5, [.ref c56])), (c56, .inl (g.2 0, 5, .inl (rfill 5 (fun _ => 0) (-1)))), (q68, .inr (5, [.ref c68])), (c68, .inl (g.2 0, 150, .inl (fun _ => 0)))]
set_option maxRecDepth 100000 in
set_option maxHeartbeats 4000000 in
theorem sp_X1_init {l : Launch} (hl : l.stackTraces = false) {g : Gy} (h : va_W) (b k1 : Nat) : Sp l mX1_init 3 12 193 mV g [.ref b, .ref k1] (h ++ [(b, .inr (3, [.null, .null, .null, .null, .null, .null, .null, .int 0]))]) (fun _ u => ∃ (q4 c4 q17 c17 q30 c30 q43 c43 q56 c56 q68 c68 : Nat), u = h ++ cl_X1 g b k1 q4 c4 q17 c17 q30 c30 q43 c43 q56 c56 q68 c68 ) (fun _ _ => False) := by
  refine SpI.of hl rfl (by decide) (Nat.le_of_ble_eq_true rfl) (fun p e s m args below meth c A C hr hin => ?_)
  refine J.lw (lv' := [(0, .ref b), (1, .ref k1)]) ⟨rfl, rfl, trivial⟩ ?_
  refine J.aload_n (i := 0) C dX1_init_0 rfl rfl ?_
  refine J.objInit C kobj_X1 kobj_inst kobj_code ⟨(Nat.le_of_ble_eq_true rfl), (Nat.le_of_ble_eq_true rfl)⟩ dX1_init_1 ?_
  refine J.rowstep (ci := 3) (n := 8) C hl hin 2 rfl (by decide) dX1_init_4 dX1_init_5 kCl_X1_9 dX1_init_8 (fun st' h' H => J.bipush C (8) dX1_init_9 (by decide) H) dX1_init_11 kMl_X1_11 dX1_init_14 1 rfl (by decide) kFl_X1_14 inB_X1 tyX1 tyX1_ok nmX1 rfl rfl rfl (ref_fit _) (Nat.le_of_ble_eq_true rfl) ⟨(Nat.le_of_ble_eq_true rfl), (Nat.le_of_ble_eq_true rfl), (Nat.le_of_ble_eq_true rfl), (Nat.le_of_ble_eq_true rfl)⟩ (Nat.le_of_ble_eq_true rfl) (fun q4 c4 X1 e1 => ?_)
  refine J.rowstep (ci := 3) (n := 8) C hl hin 2 rfl (by decide) dX1_init_17 dX1_init_18 kCl_X1_9 dX1_init_21 (fun st' h' H => J.bipush C (8) dX1_init_22 (by decide) H) dX1_init_24 kMl_X1_11 dX1_init_27 2 rfl (by decide) kFl_X1_20 inB_X1 tyX1 tyX1_ok nmX1 rfl rfl rfl (ref_fit _) (Nat.le_of_ble_eq_true rfl) ⟨(Nat.le_of_ble_eq_true rfl), (Nat.le_of_ble_eq_true rfl), (Nat.le_of_ble_eq_true rfl), (Nat.le_of_ble_eq_true rfl)⟩ (Nat.le_of_ble_eq_true rfl) (fun q17 c17 X2 e2 => ?_)
  refine J.rowstep (ci := 3) (n := 8) C hl hin 2 rfl (by decide) dX1_init_30 dX1_init_31 kCl_X1_9 dX1_init_34 (fun st' h' H => J.bipush C (8) dX1_init_35 (by decide) H) dX1_init_37 kMl_X1_11 dX1_init_40 3 rfl (by decide) kFl_X1_23 inB_X1 tyX1 tyX1_ok nmX1 rfl rfl rfl (ref_fit _) (Nat.le_of_ble_eq_true rfl) ⟨(Nat.le_of_ble_eq_true rfl), (Nat.le_of_ble_eq_true rfl), (Nat.le_of_ble_eq_true rfl), (Nat.le_of_ble_eq_true rfl)⟩ (Nat.le_of_ble_eq_true rfl) (fun q30 c30 X3 e3 => ?_)
  refine J.rowstep (ci := 3) (n := 8) C hl hin 2 rfl (by decide) dX1_init_43 dX1_init_44 kCl_X1_9 dX1_init_47 (fun st' h' H => J.bipush C (8) dX1_init_48 (by decide) H) dX1_init_50 kMl_X1_11 dX1_init_53 4 rfl (by decide) kFl_X1_26 inB_X1 tyX1 tyX1_ok nmX1 rfl rfl rfl (ref_fit _) (Nat.le_of_ble_eq_true rfl) ⟨(Nat.le_of_ble_eq_true rfl), (Nat.le_of_ble_eq_true rfl), (Nat.le_of_ble_eq_true rfl), (Nat.le_of_ble_eq_true rfl)⟩ (Nat.le_of_ble_eq_true rfl) (fun q43 c43 X4 e4 => ?_)
  refine J.rowstep (ci := 3) (n := 5) C hl hin 1 rfl (by decide) dX1_init_56 dX1_init_57 kCl_X1_9 dX1_init_60 (fun st' h' H => J.iconst C (5) dX1_init_61 (by decide) H) dX1_init_62 kMl_X1_11 dX1_init_65 5 rfl (by decide) kFl_X1_29 inB_X1 tyX1 tyX1_ok nmX1 rfl rfl rfl (ref_fit _) (Nat.le_of_ble_eq_true rfl) ⟨(Nat.le_of_ble_eq_true rfl), (Nat.le_of_ble_eq_true rfl), (Nat.le_of_ble_eq_true rfl), (Nat.le_of_ble_eq_true rfl)⟩ (Nat.le_of_ble_eq_true rfl) (fun q56 c56 X5 e5 => ?_)
  refine J.rowstep (ci := 3) (n := 150) C hl hin 3 rfl (by decide) dX1_init_68 dX1_init_69 kCl_X1_9 dX1_init_72 (fun st' h' H => J.sipush C (150) dX1_init_73 (by decide) H) dX1_init_76 kMl_X1_11 dX1_init_79 6 rfl (by decide) kFl_X1_32 inB_X1 tyX1 tyX1_ok nmX1 rfl rfl rfl (ref_fit _) (Nat.le_of_ble_eq_true rfl) ⟨(Nat.le_of_ble_eq_true rfl), (Nat.le_of_ble_eq_true rfl), (Nat.le_of_ble_eq_true rfl), (Nat.le_of_ble_eq_true rfl)⟩ (Nat.le_of_ble_eq_true rfl) (fun q68 c68 X6 e6 => ?_)
  refine J.aload_n (i := 0) C dX1_init_82 rfl rfl ?_
  refine J.aload_n (i := 1) C dX1_init_83 rfl rfl ?_
  refine J.putF C (h.length + 0) 0 ((app_get _ _ _).trans rfl) rfl (by decide) kFl_X1_35 inB_X1 tyX1 tyX1_ok nmX1 rfl hin rfl rfl rfl rfl (Nat.le_of_ble_eq_true rfl) dX1_init_84 ?_
  refine J.heq (app_set _ _ _ _) ?_
  refine J.aload_n (i := 0) C dX1_init_87 rfl rfl ?_
  refine J.get C (h.length + 0) 5 ((app_get _ _ _).trans rfl) rfl (by decide) kFl_X1_29 inB_X1 rfl dX1_init_88 ?_
  refine J.iconst C (-1) dX1_init_91 (by decide) ?_
  subst e6 e5 e4 e3 e2 e1
  refine J.heq (h' := h ++ ((b, .inr (3, [.ref k1, .ref q4, .ref q17, .ref q30, .ref q43, .ref q56, .ref q68, .int 0])) :: [(q4, .inr (5, [.ref c4])), (c4, .inl (g.2 0, 8, .inl (fun _ => 0))), (q17, .inr (5, [.ref c17])), (c17, .inl (g.2 0, 8, .inl (fun _ => 0))), (q30, .inr (5, [.ref c30])), (c30, .inl (g.2 0, 8, .inl (fun _ => 0))), (q43, .inr (5, [.ref c43])), (c43, .inl (g.2 0, 8, .inl (fun _ => 0))), (q56, .inr (5, [.ref c56])), (c56, .inl (g.2 0, 5, .inl (fun _ => 0))), (q68, .inr (5, [.ref c68])), (c68, .inl (g.2 0, 150, .inl (fun _ => 0)))])) rfl ?_
  refine J.callVV (ci := 5) (q0 := h.length + 9) C (sp_X3_fill hl (h.length + 9) (h.length + 10) ((app_get _ _ _).trans rfl) ((app_get _ _ _).trans rfl) (by decide) _) rfl kMl_X1_39 mdX3_fill ⟨(Nat.le_of_ble_eq_true rfl), (Nat.le_of_ble_eq_true rfl)⟩ ((app_get _ _ _).trans rfl) rfl rfl (Nat.le_of_ble_eq_true rfl) dX1_init_92 ⟨(Nat.le_of_ble_eq_true rfl), (Nat.le_of_ble_eq_true rfl)⟩ ?_
  refine J.heq (app_set _ _ _ _) ?_
  refine J.vret C hr (Nat.le_of_ble_eq_true rfl) (Nat.le_of_ble_eq_true rfl) dX1_init_95 ⟨q4, c4, q17, c17, q30, c30, q43, c43, q56, c56, q68, c68, ?_⟩
  refine congrArg (fun z => h ++ z) ?_
  simp only [cl_X1, List.append_assoc, List.nil_append, List.cons_append, List.set_cons_zero, List.set_cons_succ]
  try rfl
abbrev mX4_init : MD := (yX4_init, cX4_init, 3, none)
theorem mdX4_init : MDi mX4_init 2 := ⟨kIm_X4_init, kIn_X4, kCo_X4_init, rfl, rfl, by decide +kernel⟩
/-- what the constructor leaves: the object, and what it made -/
def cl_X4 (g : Gy) (b k1 k2 q4 c4 q18 c18 q32 c32 : Nat) : va_W := (b, .inr (6, [.ref k1, .ref k2, .ref q4, .ref q18, .ref q32, .int 0, .int 0, .int 0, .int 0, .int 0])) :: [(q4, .inr (5, [.ref c4])), (c4, .inl (g.2 0, 151, .inl (fun _ => 0))), (q18, .inr (5, [.ref c18])), (c18, .inl (g.2 0, 151, .inl (fun _ => 0))), (q32, .inr (5, [.ref c32])), (c32, .inl (g.2 0, 151, .inl (fun _ => 0)))]
set_option maxRecDepth 100000 in
set_option maxHeartbeats 4000000 in
theorem sp_X4_init {l : Launch} (hl : l.stackTraces = false) {g : Gy} (h : va_W) (b k1 k2 : Nat) : Sp l mX4_init 3 6 456 mV g [.ref b, .ref k1, .ref k2] (h ++ [(b, .inr (6, [.null, .null, .null, .null, .null, .int 0, .int 0, .int 0, .int 0, .int 0]))]) (fun _ u => ∃ (q4 c4 q18 c18 q32 c32 : Nat), u = h ++ cl_X4 g b k1 k2 q4 c4 q18 c18 q32 c32 ) (fun _ _ => False) := by
  refine SpI.of hl rfl (by decide) (Nat.le_of_ble_eq_true rfl) (fun p e s m args below meth c A C hr hin => ?_)
  refine J.lw (lv' := [(0, .ref b), (1, .ref k1), (2, .ref k2)]) ⟨rfl, rfl, rfl, trivial⟩ ?_
  refine J.aload_n (i := 0) C dX4_init_0 rfl rfl ?_
  refine J.objInit C kobj_X4 kobj_inst kobj_code ⟨(Nat.le_of_ble_eq_true rfl), (Nat.le_of_ble_eq_true rfl)⟩ dX4_init_1 ?_
  refine J.rowstep (ci := 6) (n := 151) C hl hin 3 rfl (by decide) dX4_init_4 dX4_init_5 kCl_X4_9 dX4_init_8 (fun st' h' H => J.sipush C (151) dX4_init_9 (by decide) H) dX4_init_12 kMl_X4_13 dX4_init_15 2 rfl (by decide) kFl_X4_16 inB_X4 tyX4 tyX4_ok nmX4 rfl rfl rfl (ref_fit _) (Nat.le_of_ble_eq_true rfl) ⟨(Nat.le_of_ble_eq_true rfl), (Nat.le_of_ble_eq_true rfl), (Nat.le_of_ble_eq_true rfl), (Nat.le_of_ble_eq_true rfl)⟩ (Nat.le_of_ble_eq_true rfl) (fun q4 c4 X1 e1 => ?_)
  refine J.rowstep (ci := 6) (n := 151) C hl hin 3 rfl (by decide) dX4_init_18 dX4_init_19 kCl_X4_9 dX4_init_22 (fun st' h' H => J.sipush C (151) dX4_init_23 (by decide) H) dX4_init_26 kMl_X4_13 dX4_init_29 3 rfl (by decide) kFl_X4_20 inB_X4 tyX4 tyX4_ok nmX4 rfl rfl rfl (ref_fit _) (Nat.le_of_ble_eq_true rfl) ⟨(Nat.le_of_ble_eq_true rfl), (Nat.le_of_ble_eq_true rfl), (Nat.le_of_ble_eq_true rfl), (Nat.le_of_ble_eq_true rfl)⟩ (Nat.le_of_ble_eq_true rfl) (fun q18 c18 X2 e2 => ?_)
  refine J.rowstep (ci := 6) (n := 151) C hl hin 3 rfl (by decide) dX4_init_32 dX4_init_33 kCl_X4_9 dX4_init_36 (fun st' h' H => J.sipush C (151) dX4_init_37 (by decide) H) dX4_init_40 kMl_X4_13 dX4_init_43 4 rfl (by decide) kFl_X4_23 inB_X4 tyX4 tyX4_ok nmX4 rfl rfl rfl (ref_fit _) (Nat.le_of_ble_eq_true rfl) ⟨(Nat.le_of_ble_eq_true rfl), (Nat.le_of_ble_eq_true rfl), (Nat.le_of_ble_eq_true rfl), (Nat.le_of_ble_eq_true rfl)⟩ (Nat.le_of_ble_eq_true rfl) (fun q32 c32 X3 e3 => ?_)
  refine J.aload_n (i := 0) C dX4_init_46 rfl rfl ?_
  refine J.aload_n (i := 1) C dX4_init_47 rfl rfl ?_
  refine J.putF C (h.length + 0) 0 ((app_get _ _ _).trans rfl) rfl (by decide) kFl_X4_26 inB_X4 tyX4 tyX4_ok nmX4 rfl hin rfl rfl rfl rfl (Nat.le_of_ble_eq_true rfl) dX4_init_48 ?_
  refine J.heq (app_set _ _ _ _) ?_
  refine J.aload_n (i := 0) C dX4_init_51 rfl rfl ?_
  refine J.aload_n (i := 2) C dX4_init_52 rfl rfl ?_
  refine J.putF C (h.length + 0) 1 ((app_get _ _ _).trans rfl) rfl (by decide) kFl_X4_30 inB_X4 tyX4 tyX4_ok nmX4 rfl hin rfl rfl rfl rfl (Nat.le_of_ble_eq_true rfl) dX4_init_53 ?_
  refine J.heq (app_set _ _ _ _) ?_
  refine J.vret C hr (Nat.le_of_ble_eq_true rfl) (Nat.le_of_ble_eq_true rfl) dX4_init_56 ⟨q4, c4, q18, c18, q32, c32, ?_⟩
  subst e3 e2 e1
  refine congrArg (fun z => h ++ z) ?_
  simp only [cl_X4, List.append_assoc, List.nil_append, List.cons_append, List.set_cons_zero, List.set_cons_succ]
  try rfl
abbrev mX5_init : MD := (yX5_init, cX5_init, 1, none)
theorem mdX5_init : MDi mX5_init 0 := ⟨kIm_X5_init, kIn_X5, kCo_X5_init, rfl, rfl, by decide +kernel⟩
/-- what the constructor leaves: the object, and what it made -/
def cl_X5 (g : Gy) (b q4 c4 : Nat) : va_W := (b, .inr (7, [.ref q4, .int 0])) :: [(q4, .inr (5, [.ref c4])), (c4, .inl (g.2 0, 64, .inl (fun _ => 0)))]
set_option maxRecDepth 100000 in
set_option maxHeartbeats 4000000 in
theorem sp_X5_init {l : Launch} (hl : l.stackTraces = false) {g : Gy} (h : va_W) (b : Nat) : Sp l mX5_init 3 2 65 mV g [.ref b] (h ++ [(b, .inr (7, [.null, .int 0]))]) (fun _ u => ∃ (q4 c4 : Nat), u = h ++ cl_X5 g b q4 c4 ) (fun _ _ => False) := by
  refine SpI.of hl rfl (by decide) (Nat.le_of_ble_eq_true rfl) (fun p e s m args below meth c A C hr hin => ?_)
  refine J.lw (lv' := [(0, .ref b)]) ⟨rfl, trivial⟩ ?_
  refine J.aload_n (i := 0) C dX5_init_0 rfl rfl ?_
  refine J.objInit C kobj_X5 kobj_inst kobj_code ⟨(Nat.le_of_ble_eq_true rfl), (Nat.le_of_ble_eq_true rfl)⟩ dX5_init_1 ?_
  refine J.rowstep (ci := 7) (n := 64) C hl hin 2 rfl (by decide) dX5_init_4 dX5_init_5 kCl_X5_9 dX5_init_8 (fun st' h' H => J.bipush C (64) dX5_init_9 (by decide) H) dX5_init_11 kMl_X5_13 dX5_init_14 0 rfl (by decide) kFl_X5_16 inB_X5 tyX5 tyX5_ok nmX5 rfl rfl rfl (ref_fit _) (Nat.le_of_ble_eq_true rfl) ⟨(Nat.le_of_ble_eq_true rfl), (Nat.le_of_ble_eq_true rfl), (Nat.le_of_ble_eq_true rfl), (Nat.le_of_ble_eq_true rfl)⟩ (Nat.le_of_ble_eq_true rfl) (fun q4 c4 X1 e1 => ?_)
  refine J.vret C hr (Nat.le_of_ble_eq_true rfl) (Nat.le_of_ble_eq_true rfl) dX5_init_17 ⟨q4, c4, ?_⟩
  subst e1
  refine congrArg (fun z => h ++ z) ?_
  simp only [cl_X5, List.append_assoc, List.nil_append, List.cons_append, List.set_cons_zero, List.set_cons_succ]
  try rfl
abbrev mX6_init : MD := (yX6_init, cX6_init, 3, none)
theorem mdX6_init : MDi mX6_init 0 := ⟨kIm_X6_init, kIn_X6, kCo_X6_init, rfl, rfl, by decide +kernel⟩
/-- what the constructor leaves: the object, and what it made -/
def cl_X6 (g : Gy) (b q4 q4_8 c4_8 q18_8 c18_8 q32_8 c32_8 q46_8 c46_8 q60_8 c60_8 q74_8 c74_8 q88_8 c88_8 q101_8 c101_8 q12 q4_17 c4_17 q17_17 c17_17 q30_17 c30_17 q43_17 c43_17 q56_17 c56_17 q69_17 c69_17 q82_17 c82_17 q95_17 c95_17 q108_17 c108_17 q121_17 c121_17 q134_17 c134_17 q147_17 c147_17 q32 q4_37 c4_37 q17_37 c17_37 q30_37 c30_37 q43_37 c43_37 q56_37 c56_37 q68_37 c68_37 q44 q4_50 c4_50 q18_50 c18_50 q32_50 c32_50 q57 q4_61 c4_61 : Nat) : va_W := (b, .inr (8, [.ref q4, .ref q12, .ref q32, .ref q44, .ref q57])) :: [(q4, .inr (2, [.ref q4_8, .ref q18_8, .ref q32_8, .ref q46_8, .ref q60_8, .ref q74_8, .ref q88_8, .ref q101_8, .int 0, .int 0])), (q4_8, .inr (5, [.ref c4_8])), (c4_8, .inl (g.2 0, 150, .inl (fun _ => 0))), (q18_8, .inr (5, [.ref c18_8])), (c18_8, .inl (g.2 0, 150, .inl (fun _ => 0))), (q32_8, .inr (5, [.ref c32_8])), (c32_8, .inl (g.2 0, 150, .inl (fun _ => 0))), (q46_8, .inr (5, [.ref c46_8])), (c46_8, .inl (g.2 0, 150, .inl (fun _ => 0))), (q60_8, .inr (5, [.ref c60_8])), (c60_8, .inl (g.2 0, 4500, .inl (fun _ => 0))), (q74_8, .inr (5, [.ref c74_8])), (c74_8, .inl (g.2 0, 150, .inl (fun _ => 0))), (q88_8, .inr (5, [.ref c88_8])), (c88_8, .inl (g.2 0, 30, .inl (fun _ => 0))), (q101_8, .inr (5, [.ref c101_8])), (c101_8, .inl (g.2 0, 30, .inl (fun _ => 0))), (q12, .inr (4, [.ref q4, .ref q4_17, .ref q17_17, .ref q30_17, .ref q43_17, .ref q56_17, .ref q69_17, .ref q82_17, .ref q95_17, .ref q108_17, .ref q121_17, .ref q134_17, .ref q147_17, .int 0, .int 0, .int (-1)])), (q4_17, .inr (5, [.ref c4_17])), (c4_17, .inl (g.2 0, 60, .inl (fun _ => 0))), (q17_17, .inr (5, [.ref c17_17])), (c17_17, .inl (g.2 0, 60, .inl (fun _ => 0))), (q30_17, .inr (5, [.ref c30_17])), (c30_17, .inl (g.2 0, 60, .inl (fun _ => 0))), (q43_17, .inr (5, [.ref c43_17])), (c43_17, .inl (g.2 0, 60, .inl (fun _ => 0))), (q56_17, .inr (5, [.ref c56_17])), (c56_17, .inl (g.2 0, 60, .inl (fun _ => 0))), (q69_17, .inr (5, [.ref c69_17])), (c69_17, .inl (g.2 0, 60, .inl (fun _ => 0))), (q82_17, .inr (5, [.ref c82_17])), (c82_17, .inl (g.2 0, 60, .inl (fun _ => 0))), (q95_17, .inr (5, [.ref c95_17])), (c95_17, .inl (g.2 0, 60, .inl (fun _ => 0))), (q108_17, .inr (5, [.ref c108_17])), (c108_17, .inl (g.2 0, 60, .inl (fun _ => 0))), (q121_17, .inr (5, [.ref c121_17])), (c121_17, .inl (g.2 0, 60, .inl (fun _ => 0))), (q134_17, .inr (5, [.ref c134_17])), (c134_17, .inl (g.2 0, 60, .inl (fun _ => 0))), (q147_17, .inr (5, [.ref c147_17])), (c147_17, .inl (g.2 0, 60, .inl (fun _ => 0))), (q32, .inr (3, [.ref q4, .ref q4_37, .ref q17_37, .ref q30_37, .ref q43_37, .ref q56_37, .ref q68_37, .int 0])), (q4_37, .inr (5, [.ref c4_37])), (c4_37, .inl (g.2 0, 8, .inl (fun _ => 0))), (q17_37, .inr (5, [.ref c17_37])), (c17_37, .inl (g.2 0, 8, .inl (fun _ => 0))), (q30_37, .inr (5, [.ref c30_37])), (c30_37, .inl (g.2 0, 8, .inl (fun _ => 0))), (q43_37, .inr (5, [.ref c43_37])), (c43_37, .inl (g.2 0, 8, .inl (fun _ => 0))), (q56_37, .inr (5, [.ref c56_37])), (c56_37, .inl (g.2 0, 5, .inl (rfill 5 (fun _ => 0) (-1)))), (q68_37, .inr (5, [.ref c68_37])), (c68_37, .inl (g.2 0, 150, .inl (fun _ => 0))), (q44, .inr (6, [.ref q4, .ref q12, .ref q4_50, .ref q18_50, .ref q32_50, .int 0, .int 0, .int 0, .int 0, .int 0])), (q4_50, .inr (5, [.ref c4_50])), (c4_50, .inl (g.2 0, 151, .inl (fun _ => 0))), (q18_50, .inr (5, [.ref c18_50])), (c18_50, .inl (g.2 0, 151, .inl (fun _ => 0))), (q32_50, .inr (5, [.ref c32_50])), (c32_50, .inl (g.2 0, 151, .inl (fun _ => 0))), (q57, .inr (7, [.ref q4_61, .int 0])), (q4_61, .inr (5, [.ref c4_61])), (c4_61, .inl (g.2 0, 64, .inl (fun _ => 0)))]
set_option maxRecDepth 100000 in
set_option maxHeartbeats 4000000 in
theorem sp_X6_init {l : Launch} (hl : l.stackTraces = false) {g : Gy} (h : va_W) (b : Nat) : Sp l mX6_init 4 65 6810 mV g [.ref b] (h ++ [(b, .inr (8, [.null, .null, .null, .null, .null]))]) (fun _ u => ∃ (q4 q4_8 c4_8 q18_8 c18_8 q32_8 c32_8 q46_8 c46_8 q60_8 c60_8 q74_8 c74_8 q88_8 c88_8 q101_8 c101_8 q12 q4_17 c4_17 q17_17 c17_17 q30_17 c30_17 q43_17 c43_17 q56_17 c56_17 q69_17 c69_17 q82_17 c82_17 q95_17 c95_17 q108_17 c108_17 q121_17 c121_17 q134_17 c134_17 q147_17 c147_17 q32 q4_37 c4_37 q17_37 c17_37 q30_37 c30_37 q43_37 c43_37 q56_37 c56_37 q68_37 c68_37 q44 q4_50 c4_50 q18_50 c18_50 q32_50 c32_50 q57 q4_61 c4_61 : Nat), u = h ++ cl_X6 g b q4 q4_8 c4_8 q18_8 c18_8 q32_8 c32_8 q46_8 c46_8 q60_8 c60_8 q74_8 c74_8 q88_8 c88_8 q101_8 c101_8 q12 q4_17 c4_17 q17_17 c17_17 q30_17 c30_17 q43_17 c43_17 q56_17 c56_17 q69_17 c69_17 q82_17 c82_17 q95_17 c95_17 q108_17 c108_17 q121_17 c121_17 q134_17 c134_17 q147_17 c147_17 q32 q4_37 c4_37 q17_37 c17_37 q30_37 c30_37 q43_37 c43_37 q56_37 c56_37 q68_37 c68_37 q44 q4_50 c4_50 q18_50 c18_50 q32_50 c32_50 q57 q4_61 c4_61 ) (fun _ _ => False) := by
  refine SpI.of hl rfl (by decide) (Nat.le_of_ble_eq_true rfl) (fun p e s m args below meth c A C hr hin => ?_)
  refine J.lw (lv' := [(0, .ref b)]) ⟨rfl, trivial⟩ ?_
  refine J.aload_n (i := 0) C dX6_init_0 rfl rfl ?_
  refine J.objInit C kobj_X6 kobj_inst kobj_code ⟨(Nat.le_of_ble_eq_true rfl), (Nat.le_of_ble_eq_true rfl)⟩ dX6_init_1 ?_
  refine J.new C (ci := 2) (fs := [.null, .null, .null, .null, .null, .null, .null, .null, .int 0, .int 0]) inB_X0 tyX0 tyX0_ok kCl_X6_7 kIs_X0 kIn_X0 rfl (by decide +kernel) ⟨(Nat.le_of_ble_eq_true rfl), (Nat.le_of_ble_eq_true rfl)⟩ dX6_init_4 (fun q4 => ?_)
  refine J.dup C dX6_init_7 rfl ?_
  refine J.callIN (d := mX0_init) C (sp_X0_init hl _ q4) rfl nestm_X0_init mdX0_init ⟨(Nat.le_of_ble_eq_true rfl), (Nat.le_of_ble_eq_true rfl)⟩ rfl (Nat.le_of_ble_eq_true rfl) dX6_init_8 ⟨(Nat.le_of_ble_eq_true rfl), (Nat.le_of_ble_eq_true rfl)⟩ (fun u hu => ?_)
  obtain ⟨q4_8, c4_8, q18_8, c18_8, q32_8, c32_8, q46_8, c46_8, q60_8, c60_8, q74_8, c74_8, q88_8, c88_8, q101_8, c101_8, rfl⟩ := hu
  refine J.heq (List.append_assoc _ _ _) ?_
  obtain ⟨X1, e1⟩ : ∃ X : va_W, X = [] ++ cl_X0 g q4 q4_8 c4_8 q18_8 c18_8 q32_8 c32_8 q46_8 c46_8 q60_8 c60_8 q74_8 c74_8 q88_8 c88_8 q101_8 c101_8 := ⟨_, rfl⟩
  refine J.heq (h' := h ++ ((b, .inr (8, [.null, .null, .null, .null, .null])) :: X1)) (by rw [e1]; rfl) ?_
  refine J.astore_n (i := 1) C dX6_init_11 rfl (by decide) ?_
  refine J.new C (ci := 4) (fs := [.null, .null, .null, .null, .null, .null, .null, .null, .null, .null, .null, .null, .null, .int 0, .int 0, .int 0]) inB_X2 tyX2 tyX2_ok kCl_X6_10 kIs_X2 kIn_X2 rfl (by decide +kernel) ⟨(Nat.le_of_ble_eq_true rfl), (Nat.le_of_ble_eq_true rfl)⟩ dX6_init_12 (fun q12 => ?_)
  refine J.dup C dX6_init_15 rfl ?_
  refine J.aload_n (i := 1) C dX6_init_16 rfl rfl ?_
  refine J.callI (d := mX2_init) C (sp_X2_init hl _ q12 q4) rfl kMl_X6_12 mdX2_init ⟨(Nat.le_of_ble_eq_true rfl), (Nat.le_of_ble_eq_true rfl)⟩ rfl (Nat.le_of_ble_eq_true rfl) dX6_init_17 ⟨(Nat.le_of_ble_eq_true rfl), (Nat.le_of_ble_eq_true rfl)⟩ (fun u hu => ?_)
  obtain ⟨q4_17, c4_17, q17_17, c17_17, q30_17, c30_17, q43_17, c43_17, q56_17, c56_17, q69_17, c69_17, q82_17, c82_17, q95_17, c95_17, q108_17, c108_17, q121_17, c121_17, q134_17, c134_17, q147_17, c147_17, rfl⟩ := hu
  refine J.heq (List.append_assoc _ _ _) ?_
  obtain ⟨X2, e2⟩ : ∃ X : va_W, X = X1 ++ cl_X2 g q12 q4 q4_17 c4_17 q17_17 c17_17 q30_17 c30_17 q43_17 c43_17 q56_17 c56_17 q69_17 c69_17 q82_17 c82_17 q95_17 c95_17 q108_17 c108_17 q121_17 c121_17 q134_17 c134_17 q147_17 c147_17 := ⟨_, rfl⟩
  refine J.heq (h' := h ++ ((b, .inr (8, [.null, .null, .null, .null, .null])) :: X2)) (by rw [e2]; rfl) ?_
  refine J.astore_n (i := 2) C dX6_init_20 rfl (by decide) ?_
  refine J.aload_n (i := 0) C dX6_init_21 rfl rfl ?_
  refine J.aload_n (i := 1) C dX6_init_22 rfl rfl ?_
  refine J.putF C (h.length + 0) 0 ((app_get _ _ _).trans rfl) rfl (by decide) kFl_X6_15 inB_X6 tyX6 tyX6_ok nmX6 rfl hin rfl rfl rfl rfl (Nat.le_of_ble_eq_true rfl) dX6_init_23 ?_
  refine J.heq (app_set _ _ _ _) ?_
  refine J.aload_n (i := 0) C dX6_init_26 rfl rfl ?_
  refine J.aload_n (i := 2) C dX6_init_27 rfl rfl ?_
  refine J.putF C (h.length + 0) 1 ((app_get _ _ _).trans rfl) rfl (by decide) kFl_X6_21 inB_X6 tyX6 tyX6_ok nmX6 rfl hin rfl rfl rfl rfl (Nat.le_of_ble_eq_true rfl) dX6_init_28 ?_
  refine J.heq (app_set _ _ _ _) ?_
  refine J.aload_n (i := 0) C dX6_init_31 rfl rfl ?_
  refine J.new C (ci := 3) (fs := [.null, .null, .null, .null, .null, .null, .null, .int 0]) inB_X1 tyX1 tyX1_ok kCl_X6_25 kIs_X1 kIn_X1 rfl (by decide +kernel) ⟨(Nat.le_of_ble_eq_true rfl), (Nat.le_of_ble_eq_true rfl)⟩ dX6_init_32 (fun q32 => ?_)
  refine J.dup C dX6_init_35 rfl ?_
  refine J.aload_n (i := 1) C dX6_init_36 rfl rfl ?_
  refine J.callI (d := mX1_init) C (sp_X1_init hl _ q32 q4) rfl kMl_X6_27 mdX1_init ⟨(Nat.le_of_ble_eq_true rfl), (Nat.le_of_ble_eq_true rfl)⟩ rfl (Nat.le_of_ble_eq_true rfl) dX6_init_37 ⟨(Nat.le_of_ble_eq_true rfl), (Nat.le_of_ble_eq_true rfl)⟩ (fun u hu => ?_)
  obtain ⟨q4_37, c4_37, q17_37, c17_37, q30_37, c30_37, q43_37, c43_37, q56_37, c56_37, q68_37, c68_37, rfl⟩ := hu
  refine J.heq (List.append_assoc _ _ _) ?_
  obtain ⟨X3, e3⟩ : ∃ X : va_W, X = X2 ++ cl_X1 g q32 q4 q4_37 c4_37 q17_37 c17_37 q30_37 c30_37 q43_37 c43_37 q56_37 c56_37 q68_37 c68_37 := ⟨_, rfl⟩
  refine J.heq (h' := h ++ ((b, .inr (8, [.ref q4, .ref q12, .null, .null, .null])) :: X3)) (by rw [e3]; rfl) ?_
  refine J.putF C (h.length + 0) 2 ((app_get _ _ _).trans rfl) rfl (by decide) kFl_X6_28 inB_X6 tyX6 tyX6_ok nmX6 rfl hin rfl rfl rfl rfl (Nat.le_of_ble_eq_true rfl) dX6_init_40 ?_
  refine J.heq (app_set _ _ _ _) ?_
  refine J.aload_n (i := 0) C dX6_init_43 rfl rfl ?_
  refine J.new C (ci := 6) (fs := [.null, .null, .null, .null, .null, .int 0, .int 0, .int 0, .int 0, .int 0]) inB_X4 tyX4 tyX4_ok kCl_X6_32 kIs_X4 kIn_X4 rfl (by decide +kernel) ⟨(Nat.le_of_ble_eq_true rfl), (Nat.le_of_ble_eq_true rfl)⟩ dX6_init_44 (fun q44 => ?_)
  refine J.dup C dX6_init_47 rfl ?_
  refine J.aload_n (i := 1) C dX6_init_48 rfl rfl ?_
  refine J.aload_n (i := 2) C dX6_init_49 rfl rfl ?_
  refine J.callI (d := mX4_init) C (sp_X4_init hl _ q44 q4 q12) rfl kMl_X6_34 mdX4_init ⟨(Nat.le_of_ble_eq_true rfl), (Nat.le_of_ble_eq_true rfl)⟩ rfl (Nat.le_of_ble_eq_true rfl) dX6_init_50 ⟨(Nat.le_of_ble_eq_true rfl), (Nat.le_of_ble_eq_true rfl)⟩ (fun u hu => ?_)
  obtain ⟨q4_50, c4_50, q18_50, c18_50, q32_50, c32_50, rfl⟩ := hu
  refine J.heq (List.append_assoc _ _ _) ?_
  obtain ⟨X4, e4⟩ : ∃ X : va_W, X = X3 ++ cl_X4 g q44 q4 q12 q4_50 c4_50 q18_50 c18_50 q32_50 c32_50 := ⟨_, rfl⟩
  refine J.heq (h' := h ++ ((b, .inr (8, [.ref q4, .ref q12, .ref q32, .null, .null])) :: X4)) (by rw [e4]; rfl) ?_
  refine J.putF C (h.length + 0) 3 ((app_get _ _ _).trans rfl) rfl (by decide) kFl_X6_37 inB_X6 tyX6 tyX6_ok nmX6 rfl hin rfl rfl rfl rfl (Nat.le_of_ble_eq_true rfl) dX6_init_53 ?_
  refine J.heq (app_set _ _ _ _) ?_
  refine J.aload_n (i := 0) C dX6_init_56 rfl rfl ?_
  refine J.new C (ci := 7) (fs := [.null, .int 0]) inB_X5 tyX5 tyX5_ok kCl_X6_41 kIs_X5 kIn_X5 rfl (by decide +kernel) ⟨(Nat.le_of_ble_eq_true rfl), (Nat.le_of_ble_eq_true rfl)⟩ dX6_init_57 (fun q57 => ?_)
  refine J.dup C dX6_init_60 rfl ?_
  refine J.callIN (d := mX5_init) C (sp_X5_init hl _ q57) rfl nestm_X5_init mdX5_init ⟨(Nat.le_of_ble_eq_true rfl), (Nat.le_of_ble_eq_true rfl)⟩ rfl (Nat.le_of_ble_eq_true rfl) dX6_init_61 ⟨(Nat.le_of_ble_eq_true rfl), (Nat.le_of_ble_eq_true rfl)⟩ (fun u hu => ?_)
  obtain ⟨q4_61, c4_61, rfl⟩ := hu
  refine J.heq (List.append_assoc _ _ _) ?_
  obtain ⟨X5, e5⟩ : ∃ X : va_W, X = X4 ++ cl_X5 g q57 q4_61 c4_61 := ⟨_, rfl⟩
  refine J.heq (h' := h ++ ((b, .inr (8, [.ref q4, .ref q12, .ref q32, .ref q44, .null])) :: X5)) (by rw [e5]; rfl) ?_
  refine J.putF C (h.length + 0) 4 ((app_get _ _ _).trans rfl) rfl (by decide) kFl_X6_44 inB_X6 tyX6 tyX6_ok nmX6 rfl hin rfl rfl rfl rfl (Nat.le_of_ble_eq_true rfl) dX6_init_64 ?_
  refine J.heq (app_set _ _ _ _) ?_
  refine J.vret C hr (Nat.le_of_ble_eq_true rfl) (Nat.le_of_ble_eq_true rfl) dX6_init_67 ⟨q4, q4_8, c4_8, q18_8, c18_8, q32_8, c32_8, q46_8, c46_8, q60_8, c60_8, q74_8, c74_8, q88_8, c88_8, q101_8, c101_8, q12, q4_17, c4_17, q17_17, c17_17, q30_17, c30_17, q43_17, c43_17, q56_17, c56_17, q69_17, c69_17, q82_17, c82_17, q95_17, c95_17, q108_17, c108_17, q121_17, c121_17, q134_17, c134_17, q147_17, c147_17, q32, q4_37, c4_37, q17_37, c17_37, q30_37, c30_37, q43_37, c43_37, q56_37, c56_37, q68_37, c68_37, q44, q4_50, c4_50, q18_50, c18_50, q32_50, c32_50, q57, q4_61, c4_61, ?_⟩
  subst e5 e4 e3 e2 e1
  refine congrArg (fun z => h ++ z) ?_
  simp only [cl_X6, cl_X0, cl_X2, cl_X1, cl_X4, cl_X5, List.append_assoc, List.nil_append, List.cons_append, List.set_cons_zero, List.set_cons_succ]
  try rfl
