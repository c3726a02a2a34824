/-! CONSTRUCTORS -/
section CTORR
variable {p : Program} {l : Launch} {e : Env} {R : Room} {s : State} {m : MethodId} {args : Array Value} {below : List Frame} {meth : Method} {c : Code} {g : Gy} {A : Nat → Prop} {own : String} {cc : ByteArray} {nL : Nat} {cells slots : Nat} {Q : State → Prop} {pc : Nat} {lv : List (Nat × Value)} {st rest : List Value} {h : va_W}
theorem J.heq {h' : va_W} (e9 : h = h') (k : J p l e R s m args below meth c g A nL cells slots Q pc lv rest h') : J p l e R s m args below meth c g A nL cells slots Q pc lv rest h := e9 ▸ k
theorem J.objInit (C : Cx p l s m args meth c g A own cc nL) {idx a : Nat} (hl9 : Cond.methodLink own idx Lib.objectInit ∈ BIG) (h2 : Cond.instanceMethod Lib.objectInit ∈ BIG) (h3 : Cond.code Lib.objectInit ⟨#[0xb1]⟩ 1 none ∈ BIG) (hR : 1 ≤ R.frames ∧ (rest.map fun v => v.category).sum + 12 ≤ R.locals) (d : decode cc pc = .ok (.invokespecial idx, 3)) (k : J p l e R s m args below meth c g A nL cells slots Q (pc + 3) lv rest h) : J p l e R s m args below meth c g A nL cells slots Q pc lv (.ref a :: rest) h := fun H locs ls hP hD hS hl =>
  W.objInit C.1 C.2.1 C.2.2.2.1 (C.2.2.2.2.1 _ hl9) (C.2.2.2.2.1 _ h2) (C.2.2.2.2.1 _ h3) rfl (hl.1.trans C.2.2.1.symm) rfl d hR.1 (by simpa using hR.2) (k H locs ls hP hD hS hl)
theorem J.new (C : Cx p l s m args meth c g A own cc nL) {Cn : String} {T : u_T} {N ci idx : Nat} {fs : List Value} (hin : ∀ w ∈ u_ws Cn T N, w ∈ BIG) (ty : Nat → FieldType) (hty : ∀ k, k < N → parseFieldDescriptor (T k).2.2.1 = some (ty k)) (h1 : Cond.classLink own idx Cn ∈ BIG) (h2 : Cond.instantiable Cn N ∈ BIG) (h3 : Cond.initialized Cn ∈ BIG) (hc : vwCl[ci]? = some (Cn, T, N)) (hfs : ∀ j, j < N → defaultValue (ty j) = vp_V fs j) (hf : cells + 1 ≤ R.cells ∧ slots + N ≤ R.slots) (d : decode cc pc = .ok (.new idx, 3))
    (kk : ∀ q : Nat, J p l e R s m args below meth c g A nL (cells + 1) (slots + N) Q (pc + 3) lv (.ref q :: rest) (h ++ [(q, .inr (ci, fs))])) : J p l e R s m args below meth c g A nL cells slots Q pc lv rest h := fun H locs ls hP hD hS hl =>
  va_new C.1 C.2.1 C.2.2.2.2.1 hin ty hty C.2.2.2.1 (C.2.2.2.2.1 _ h1) (C.2.2.2.2.1 _ h2) (C.2.2.2.2.1 _ h3) C.2.2.2.2.2.2.1 hP hD hS C.2.2.2.2.2.2.2.1 hc hfs hf.1 hf.2 d (fun q H1 hP hD hS => kk q H1 locs ls hP hD hS hl)
def noObj : FieldType → Bool
  | .object _ => false
  | _ => true
theorem ra_inj {U : State} {c1 c2 : ClassId} {ty : FieldType} (hn : noObj ty = true) (h1 : va_RA U c1 ty) (h2 : va_RA U c2 ty) : c1 = c2 := by
  cases ty <;> first | exact Option.some.inj (h1.symm.trans h2) | exact absurd (show false = true from hn) Bool.false_ne_true
theorem J.newa (C : Cx p l s m args meth c g A own cc nL) {atype : ArrayType} {ty : FieldType} (t0 : Nat) {n : Int32} (N' : Nat) (a0 : vp_A) (hac : Cond.arrayClass ty ∈ BIG) (hty : newarray.typeOf atype = ty) (hno : noObj ty = true) (ht : (tysOf g)[t0]? = some (g.2 t0, ty)) (ha : ∀ cA : ClassId, vp_cell cA a0 = arrV cA N' (fun _ => defaultValue ty)) (hn : ¬ n < 0) (hN : n.toNatClampNeg = N') (hbytes : N' * componentBytes ty ≤ 536870912) (hf : cells + 1 ≤ R.cells ∧ slots + N' ≤ R.slots) (d : decode cc pc = .ok (.newarray atype, 2))
    (kk : ∀ q : Nat, J p l e R s m args below meth c g A nL (cells + 1) (slots + N') Q (pc + 2) lv (.ref q :: rest) (h ++ [(q, .inl (g.2 t0, a0))])) : J p l e R s m args below meth c g A nL cells slots Q pc lv (.int n :: rest) h := fun H locs ls hP hD hS hl =>
  va_newa C.1 C.2.1 (by rw [hty]; exact C.2.2.2.2.1 _ hac) hty C.2.2.2.2.2.2.1 hP hD hS C.2.2.2.2.2.2.2.1 ha hn hN hbytes hf.1 hf.2 d (fun q cA H1 hK2 hP2 hD2 hS2 => by
    have e1 : cA = g.2 t0 := ra_inj hno (hK2.2 1 _ rfl).2 (C.2.2.2.2.2.2.1.2 t0 _ ht).2
    subst e1
    exact kk q H1 locs ls hP2 hD2 hS2 hl)
theorem Met.of_vx {l : Launch} {y : MethodName} {ws : List Cond} {rm : Room} {Pc : Array Value → State → Prop} {Qc : Array Value → State → Outcome → State → Prop} {XC : String → State → State → Prop} {mc ms : Nat} {free : Addr → Prop} (hX : ∀ E a b, ¬ XC E a b) (h : vx_Met l y ws rm Pc Qc XC mc ms free) : Met l y ws rm Pc Qc mc ms free :=
  MetFree.mono h (fun _ _ z => z) (fun _ _ _ _ _ z => z) (fun a st o t _ hq => by
    rcases hq with hq | ⟨q, -, E, ce, L, hx, -⟩
    · exact hq
    · exact (hX _ _ _ hx).elim)
/-- what the tables say of a constructor -/
def MDi (d : MD) (n : Nat) : Prop := Cond.instanceMethod d.1 ∈ BIG ∧ Cond.initialized d.1.cls ∈ BIG ∧ Cond.code d.1 d.2.1 d.2.2.1 d.2.2.2 ∈ BIG ∧ d.1.name = "<init>" ∧ d.2.2.2 = none ∧ (d.1.cls ≠ "java/lang/invoke/MethodHandle" ∧ d.1.cls ≠ "java/lang/invoke/VarHandle" ∧ (parseMethodDescriptor d.1.desc).map (fun d => d.parameters.length) = some n)
theorem MDi.good {d : MD} {n : Nat} (h : MDi d n) : GoodIn BIG d.ws := fun w hw => by
  refine ⟨?_, BIG_good w ?_⟩ <;>
  · rcases List.mem_cons.mp hw with rfl | hw
    · exact h.2.2.1
    · exact hw
theorem J.runM {post : Unit → va_W → Prop} {mc ms : Nat} {a : Array Value} (C : Cx p l s m args meth c g A own cc nL)
    (hr : ∀ (H : Heap) (locs : List Loc) (ls : Array Slot), va_P g.1 vwCl h H → va_D A h → va_S A s.heap H locs → lv_has ls nL lv → va_Run p l e R s m args below meth c H locs cells slots mc ms (F0 m pc ls st) rest (Qg mV post g (va_A h H.size) a) (va_A h H.size))
    (kk : ∀ u : va_W, post () u → J p l e R s m args below meth c g A nL (cells + mc) (slots + ms) Q (pc + 3) lv rest u) : J p l e R s m args below meth c g A nL cells slots Q pc lv st h := by
  intro H locs ls hP hD hS hl T hT X
  have hF : ∀ q, va_A h H.size q → A q := C.free hD hS
  obtain ⟨v, st₀, t, T', L, h0, X', hL, e1, e2, ⟨⟨r, u, hv, hp, hb⟩, hFr⟩, stp⟩ := hr H locs ls hP hD hS hl T hT X
  cases hv
  obtain ⟨k1, k2, k3⟩ := vx_keep h0 e1 hS (fun q _ h => hF q h) hF hL hFr
  obtain ⟨t2, a1, b1⟩ := kk u hp T'.heap (locs ++ L) ls (by rw [e1]; exact hb.1) (hb.2.weaken (fun _ _ _ h9 => hF _ h9)) k3 hl T' rfl X'
  exact ⟨t2, stp t2 a1, b1⟩
theorem J.callI {post : Unit → va_W → Prop} {d : MD} {lev mc ms n idx b0 : Nat} {as : List Value} (C : Cx p l s m args meth c g A own cc nL) (sp : Sp l d lev mc ms mV g (.ref b0 :: as) h post (fun _ _ => False)) (hst : st = as.reverse ++ .ref b0 :: rest) (hl : Cond.methodLink own idx d.1 ∈ BIG) (hd : MDi d n) (hR : lev + 1 ≤ R.frames ∧ 8 + (d.2.2.1 + 11) + 64 * lev ≤ R.locals) (hn : as.length = n) (hW : (rest.map fun v => v.category).sum ≤ 8) (hdg : decode cc pc = .ok (.invokespecial idx, 3)) (hf : cells + mc ≤ R.cells ∧ slots + ms ≤ R.slots)
    (kk : ∀ u : va_W, post () u → J p l e R s m args below meth c g A nL (cells + mc) (slots + ms) Q (pc + 3) lv rest u) : J p l e R s m args below meth c g A nL cells slots Q pc lv st h := by
  subst hst
  exact J.runM C (fun H locs ls hP hD hS hlv => va_runI ⟨C.1, C.2.1, C.2.2.1, C.2.2.2.1, C.2.2.2.2.1⟩ (Met.of_vx (fun E a b z => z.elim fun _ z => z.1) (sp H.size)) (cwI n C.2.2.2.2.1 hd.good (by show d.ws = _; unfold MD.ws; rw [hd.2.2.2.2.1]) rfl rfl (C.2.2.2.2.1 _ hd.2.1) (C.2.2.2.2.1 _ hl) (C.2.2.2.2.1 _ hd.1) hd.2.2.2.1 hd.2.2.2.2.2 hR) (C.start hP hD hS) rfl hn hlv.1 rfl (lv_room hW) hdg hf) kk
theorem J.callIN {post : Unit → va_W → Prop} {d : MD} {lev mc ms n idx b0 : Nat} {as : List Value} {host : String} (C : Cx p l s m args meth c g A own cc nL) (sp : Sp l d lev mc ms mV g (.ref b0 :: as) h post (fun _ _ => False)) (hst : st = as.reverse ++ .ref b0 :: rest) (hl : Cond.methodLinkNest own idx d.1 host ∈ tables_1) (hd : MDi d n) (hR : lev + 1 ≤ R.frames ∧ 8 + (d.2.2.1 + 11) + 64 * lev ≤ R.locals) (hn : as.length = n) (hW : (rest.map fun v => v.category).sum ≤ 8) (hdg : decode cc pc = .ok (.invokespecial idx, 3)) (hf : cells + mc ≤ R.cells ∧ slots + ms ≤ R.slots)
    (kk : ∀ u : va_W, post () u → J p l e R s m args below meth c g A nL (cells + mc) (slots + ms) Q (pc + 3) lv rest u) : J p l e R s m args below meth c g A nL cells slots Q pc lv st h := by
  subst hst
  exact J.runM C (fun H locs ls hP hD hS hlv => va_runIN ⟨C.1, C.2.1, C.2.2.1, C.2.2.2.1, C.2.2.2.2.1⟩ (Met.of_vx (fun E a b z => z.elim fun _ z => z.1) (sp H.size)) ⟨va_cnB n C.2.2.2.2.1 hd.good (by show d.ws = _; unfold MD.ws; rw [hd.2.2.2.2.1]) rfl rfl (C.2.2.2.2.2.2.2.2.1.2.2.2.1 _ hl rfl) (C.2.2.2.2.1 _ hd.2.1) hd.2.2.2.2.2 hR, hd.2.2.2.1, C.2.2.2.2.1 _ hd.1⟩ (C.start hP hD hS) rfl hn hlv.1 rfl (lv_room hW) hdg hf) kk
theorem J.sub (is : List Nat) {h' : va_W} (hs : is.filterMap (fun i => h[i]?) = h') (hs3 : is.map (fun i => h[i]?) = h'.map some) (hs2 : va_nd is = true) (k : J p l e R s m args below meth c g A nL cells slots Q pc lv rest h') : J p l e R s m args below meth c g A nL cells slots Q pc lv rest h := fun H locs ls hP hD hS hl => k H locs ls (hP.sub is hs) (hD.sub is hs2 hs3) hS hl
end CTORR
theorem kobj_code : Cond.code Lib.objectInit ⟨#[0xb1]⟩ 1 none ∈ BIG := bg 66 (by decide +kernel) (by decide +kernel)
theorem kobj_inst : Cond.instanceMethod Lib.objectInit ∈ BIG := bg 65 (by decide +kernel) (by decide +kernel)
theorem kobj_X6 : Cond.methodLink RX6 1 Lib.objectInit ∈ BIG := bg 64 (by decide +kernel) (by decide +kernel)
theorem kobj_X0 : Cond.methodLink RX0 3 Lib.objectInit ∈ BIG := bg 72 (by decide +kernel) (by decide +kernel)
theorem kobj_X3 : Cond.methodLink RX3 3 Lib.objectInit ∈ BIG := bg 78 (by decide +kernel) (by decide +kernel)
theorem kobj_X2 : Cond.methodLink RX2 3 Lib.objectInit ∈ BIG := bg 123 (by decide +kernel) (by decide +kernel)
theorem kobj_X1 : Cond.methodLink RX1 3 Lib.objectInit ∈ BIG := bg 185 (by decide +kernel) (by decide +kernel)
theorem kobj_X4 : Cond.methodLink RX4 3 Lib.objectInit ∈ BIG := bg 224 (by decide +kernel) (by decide +kernel)
theorem kobj_X5 : Cond.methodLink RX5 3 Lib.objectInit ∈ BIG := bg 263 (by decide +kernel) (by decide +kernel)
theorem nestm_X0_init : Cond.methodLinkNest RX6 9 yX0_init "DeductionDesk" ∈ tables_1 := List.mem_of_getElem? (i := 34) (by decide +kernel)
theorem nestm_X5_init : Cond.methodLinkNest RX6 43 yX5_init "DeductionDesk" ∈ tables_1 := List.mem_of_getElem? (i := 225) (by decide +kernel)
