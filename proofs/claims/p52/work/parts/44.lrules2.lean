/-! RULES FOR THE LAW'S OWN METHODS: longs, remainders, switches, handlers, static calls -/
def irm (x y : Int32) : Int32 := x - x / y * y
def imx (x y : Int32) : Int32 := if x < y then y else x
abbrev mL : Int64 → Option Value := fun r => some (.long r)
abbrev HH : Type := List (Nat × Nat × Nat × Nat)
def SpH {ρ : Type} (l : Launch) (d : MD) (hh : HH) (lev mc ms : Nat) (mk : ρ → Option Value) (g : Gy) (as : List Value) (h : va_W) (post : ρ → va_W → Prop) (px : String → va_W → Prop) : Prop :=
  ∀ sz : Nat, vx_Met l d.1 (Cond.codeWith d.1 d.2.1 d.2.2.1 d.2.2.2 hh :: BIG) (rmOf lev mc ms) (PcOf g as h sz) (Qg mk post g (va_A h sz)) (XQ px g (va_A h sz)) mc ms (va_A h sz)
theorem SpH.of {ρ : Type} {l : Launch} {d : MD} {hh : HH} {lev mc ms : Nat} {mk : ρ → Option Value} {g : Gy} {as : List Value} {h : va_W} {post : ρ → va_W → Prop} {px : String → va_W → Prop}
    (hl : l.stackTraces = false) (hy : plainName d.1.cls = true) (hlen : (lg_sl as).length ≤ d.2.2.1)
    (body : ∀ (p : Program) (e : Env) (s : State) (m : MethodId) (args : Array Value) (below : List Frame) (meth : Method) (c : Code) (A : Nat → Prop), Cx p l s m args meth c g A d.1.cls d.2.1 d.2.2.1 → meth.sig.returnType = d.2.2.2 → c.exceptionTable.toList = tableOf hh →
      J p l e (rmOf lev mc ms) s m args below meth c g A d.2.2.1 0 0 (vx_MQ below (Qg mk post g A) (XQ px g A) args s mc ms A) 0 (lv_args 0 as) [] h) : SpH l d hh lev mc ms mk g as h post px := by
  intro sz
  refine vx_ofWH hy rfl ?_
  intro p e s m args below meth c s₁ B hml hv
  obtain ⟨rfl, hsz, hP, hK, hD0, hT⟩ := hv
  subst hsz
  have hts : ∀ w ∈ (Cond.codeWith d.1 d.2.1 d.2.2.1 d.2.2.2 hh :: BIG), w.before as.toArray s = true := atoms_spec (ws := Cond.codeWith d.1 d.2.1 d.2.2.1 d.2.2.2 hh :: BIG) B.pre
  have hb9 := body p e s m as.toArray below meth c (va_A h s.heap.size) ⟨B.exec, B.bytes, hml, findClass_of_methodNamed B.named, fun w hw => hts w (List.mem_cons_of_mem _ hw), B.notSynchronized, hK, fun q hq => Or.inr hq, hT, hl⟩ B.returns (vx_table (x := d.1) (y := d.1) B (hts _ List.mem_cons_self))
  rw [lg_entry_eq]
  exact hb9 s.heap [] _ hP (hD0.self (sz := s.heap.size)) va_S.rf (lv_entry as hlen)
/-- a method with handlers does what its pure text comes to -/
def SpHR {S ρ : Type} (l : Launch) (d : MD) (hh : HH) (lev mc ms : Nat) (mk : ρ → Option Value) (g : Gy) (as : List Value) (hp : S → va_W) (σ : S) (x : Res S ρ) : Prop :=
  ∀ rr, x = some rr → SpH l d hh lev mc ms mk g as (hp σ) (fun r u => rr.1 = .inl r ∧ u = hp rr.2) (fun E u => rr.1 = .inr E ∧ u = hp rr.2)
theorem SpHR.of {S ρ : Type} {l : Launch} {d : MD} {hh : HH} {lev mc ms : Nat} {mk : ρ → Option Value} {g : Gy} {as : List Value} {hp : S → va_W} {σ : S} {x : Res S ρ} (hl : l.stackTraces = false) (hy : plainName d.1.cls = true) (hlen : (lg_sl as).length ≤ d.2.2.1)
    (body : ∀ rr, x = some rr → ∀ (p : Program) (e : Env) (s : State) (m : MethodId) (args : Array Value) (below : List Frame) (meth : Method) (c : Code) (A : Nat → Prop), Cx p l s m args meth c g A d.1.cls d.2.1 d.2.2.1 → meth.sig.returnType = d.2.2.2 → c.exceptionTable.toList = tableOf hh →
      J p l e (rmOf lev mc ms) s m args below meth c g A d.2.2.1 0 0 (QR mk g A hp rr below args s mc ms) 0 (lv_args 0 as) [] (hp σ)) : SpHR l d hh lev mc ms mk g as hp σ x := fun rr H => SpH.of hl hy hlen (body rr H)
/-- behind a call with handlers: an exception becomes an answer -/
def hdl {S ρ ρ' : Type} (cs : List (String × ρ')) (x : Res S ρ) (k : ρ → S → Res S ρ') : Res S ρ' := match x with
  | none => none
  | some (.inl r, s) => k r s
  | some (.inr E, s) => match cs.lookup E with
    | none => none
    | some v => some (.inl v, s)
theorem hlookup_cons {ρ : Type} {E a : String} {k v : ρ} {r : List (String × ρ)} (h : List.lookup E ((a, v) :: r) = some k) : (E = a ∧ k = v) ∨ (E ≠ a ∧ List.lookup E r = some k) := by
  rw [List.lookup_cons] at h
  by_cases e : E = a
  · subst e
    rw [show (E == E) = true from beq_self_eq_true E] at h
    exact Or.inl ⟨rfl, (Option.some.inj h).symm⟩
  · rw [show (E == a) = false from beq_eq_false_iff_ne.mpr e] at h
    exact Or.inr ⟨e, h⟩
theorem hlookup_nil {ρ : Type} {E : String} {k : ρ} (h : List.lookup E ([] : List (String × ρ)) = some k) : False := by cases h
def MDh (d : MD) (hh : HH) (n : Nat) : Prop := Cond.static d.1 ∈ BIG ∧ Cond.initialized d.1.cls ∈ BIG ∧ Cond.codeWith d.1 d.2.1 d.2.2.1 d.2.2.2 hh ∈ BIG ∧ (d.1.cls ≠ "java/lang/invoke/MethodHandle" ∧ d.1.cls ≠ "java/lang/invoke/VarHandle" ∧ (parseMethodDescriptor d.1.desc).map (fun d => d.parameters.length) = some n)
theorem MDh.good {d : MD} {hh : HH} {own : String} {n idx : Nat} (h : MDh d hh n) (hl : Cond.methodLink own idx d.1 ∈ BIG) : GoodIn BIG (va_wsS own idx d.1 (Cond.codeWith d.1 d.2.1 d.2.2.1 d.2.2.2 hh :: BIG)) := by
  intro w hw
  refine ⟨?_, BIG_good w ?_⟩ <;>
  · rcases List.mem_append.mp hw with hw | hw
    · simp only [List.mem_cons, List.not_mem_nil, or_false] at hw
      rcases hw with rfl | rfl | rfl
      · exact hl
      · exact h.1
      · exact h.2.1
    · rcases List.mem_cons.mp hw with rfl | hw
      · exact h.2.2.1
      · exact hw
section L2
variable {p : Program} {l : Launch} {e : Env} {R : Room} {s : State} {m : MethodId} {args : Array Value} {below : List Frame} {meth : Method} {c : Code} {g : Gy} {A : Nat → Prop} {own : String} {cc : ByteArray} {nL : Nat} {cells slots : Nat} {Q : State → Prop} {pc : Nat} {lv : List (Nat × Value)} {st rest : List Value} {h : va_W} {α : Type} {a b y : α}
theorem J.tabV (C : Cx p l s m args meth c g A own cc nL) {dflt lo hi : Int} {offs : Array Int} {len : Nat} {x : Int32} (v : Int32) {off : Int} {tgt : Nat} (hv : x = v) (d : decode cc pc = .ok (.tableswitch dflt lo hi offs, len)) (hk : ¬ v.toInt < lo ∧ ¬ hi < v.toInt ∧ offs[(v.toInt - lo).toNat]? = some off ∧ (pc : Int) + off = (tgt : Int)) (k : J p l e R s m args below meth c g A nL cells slots Q tgt lv rest h) : J p l e R s m args below meth c g A nL cells slots Q pc lv (.int x :: rest) h := fun H locs ls hP hD hS hl => by
  subst hv
  exact lv_tableIn C.1 C.2.1 d hk.1 hk.2.1 hk.2.2.1 hk.2.2.2 (k H locs ls hP hD hS hl)
theorem J.tabD (C : Cx p l s m args meth c g A own cc nL) {dflt lo hi : Int} {offs : Array Int} {len : Nat} {x : Int32} {tgt : Nat} (cs : List Int32) (n : Nat) (hne : ∀ v ∈ cs, ¬ x = v) (d : decode cc pc = .ok (.tableswitch dflt lo hi offs, len)) (ht : (pc : Int) + dflt = (tgt : Int)) (hn : lo + n = hi + 1) (hall : ∀ j, j < n → offs[j]? = some dflt ∨ (cs.any fun v => decide (v.toInt = lo + j)) = true) (k : J p l e R s m args below meth c g A nL cells slots Q tgt lv rest h) : J p l e R s m args below meth c g A nL cells slots Q pc lv (.int x :: rest) h := fun H locs ls hP hD hS hl => by
  by_cases h1 : x.toInt < lo ∨ hi < x.toInt
  · exact lv_tableOut C.1 C.2.1 d h1 ht (k H locs ls hP hD hS hl)
  · have h2 : ¬ x.toInt < lo := fun q => h1 (Or.inl q)
    have h3 : ¬ hi < x.toInt := fun q => h1 (Or.inr q)
    have hj : (x.toInt - lo).toNat < n := by omega
    rcases hall _ hj with q | q
    · exact lv_tableIn C.1 C.2.1 d h2 h3 q ht (k H locs ls hP hD hS hl)
    · obtain ⟨v, hv, hq⟩ := List.any_eq_true.mp q
      have hq := of_decide_eq_true hq
      refine absurd (Int32.toInt_inj.mp ?_) (hne v hv)
      rw [hq]
      omega
theorem J.ladd (C : Cx p l s m args meth c g A own cc nL) {x y : Int64} (d : decode cc pc = .ok (.ladd, 1)) (k : J p l e R s m args below meth c g A nL cells slots Q (pc + 1) lv (.long (x + y) :: rest) h) : J p l e R s m args below meth c g A nL cells slots Q pc lv (.long y :: .long x :: rest) h := fun H locs ls hP hD hS hl => lv_ladd C.1 C.2.1 d (k H locs ls hP hD hS hl)
theorem J.lmul (C : Cx p l s m args meth c g A own cc nL) {x y : Int64} (d : decode cc pc = .ok (.lmul, 1)) (k : J p l e R s m args below meth c g A nL cells slots Q (pc + 1) lv (.long (x * y) :: rest) h) : J p l e R s m args below meth c g A nL cells slots Q pc lv (.long y :: .long x :: rest) h := fun H locs ls hP hD hS hl => lv_lmul C.1 C.2.1 d (k H locs ls hP hD hS hl)
theorem J.fcmp (C : Cx p l s m args meth c g A own cc nL) {x y : UInt32} {op : CmpOp} (d : decode cc pc = .ok (.fcmp op, 1)) (k : J p l e R s m args below meth c g A nL cells slots Q (pc + 1) lv (.int (Op.cmpValue (FP.fcmp x y) op) :: rest) h) : J p l e R s m args below meth c g A nL cells slots Q pc lv (.float y :: .float x :: rest) h := fun H locs ls hP hD hS hl => lv_fcmp C.1 C.2.1 d (k H locs ls hP hD hS hl)
theorem J.irem (C : Cx p l s m args meth c g A own cc nL) {x y : Int32} (d : decode cc pc = .ok (.irem, 1)) (hne : ¬ y = 0) (k : J p l e R s m args below meth c g A nL cells slots Q (pc + 1) lv (.int (irm x y) :: rest) h) : J p l e R s m args below meth c g A nL cells slots Q pc lv (.int y :: .int x :: rest) h := fun H locs ls hP hD hS hl => lv_irem C.1 C.2.1 d hne (k H locs ls hP hD hS hl)
theorem J.idiv (C : Cx p l s m args meth c g A own cc nL) {x y : Int32} (d : decode cc pc = .ok (.idiv, 1)) (hne : ¬ y = 0) (k : J p l e R s m args below meth c g A nL cells slots Q (pc + 1) lv (.int (x / y) :: rest) h) : J p l e R s m args below meth c g A nL cells slots Q pc lv (.int y :: .int x :: rest) h := fun H locs ls hP hD hS hl => lv_idiv C.1 C.2.1 d hne (k H locs ls hP hD hS hl)
theorem J.iremL (C : Cx p l s m args meth c g A own cc nL) {β : Type} {x y : Int32} (d : decode cc pc = .ok (.irem, 1)) {k : Option β} {z : β} (H : gc (¬ y = 0) k = some z) (kk : k = some z → J p l e R s m args below meth c g A nL cells slots Q (pc + 1) lv (.int (irm x y) :: rest) h) : J p l e R s m args below meth c g A nL cells slots Q pc lv (.int y :: .int x :: rest) h := J.irem C d (gc_some H).1 (kk (gc_some H).2)
theorem J.dconst1 (C : Cx p l s m args meth c g A own cc nL)  (d : decode cc pc = .ok (.dconst 1, 1)) (k : J p l e R s m args below meth c g A nL cells slots Q (pc + 1) lv (.double FP.dconst1 :: rest) h) : J p l e R s m args below meth c g A nL cells slots Q pc lv rest h := fun H locs ls hP hD hS hl => lv_dconst1 C.1 C.2.1 d (k H locs ls hP hD hS hl)
theorem J.ldc2 (C : Cx p l s m args meth c g A own cc nL) {idx : Nat} {v : Int64} (hc : Cond.constantLong own idx v ∈ BIG) (d : decode cc pc = .ok (.ldc2_w idx, 3)) (k : J p l e R s m args below meth c g A nL cells slots Q (pc + 3) lv (.long v :: rest) h) : J p l e R s m args below meth c g A nL cells slots Q pc lv rest h := fun H locs ls hP hD hS hl => lv_ldc2 C.1 C.2.1 C.2.2.2.1 (C.2.2.2.2.1 _ hc) d (k H locs ls hP hD hS hl)
theorem J.ldc2d (C : Cx p l s m args meth c g A own cc nL) {idx : Nat} {v : UInt64} (hc : Cond.constantDouble own idx v ∈ BIG) (d : decode cc pc = .ok (.ldc2_w idx, 3)) (k : J p l e R s m args below meth c g A nL cells slots Q (pc + 3) lv (.double v :: rest) h) : J p l e R s m args below meth c g A nL cells slots Q pc lv rest h := fun H locs ls hP hD hS hl => lv_ldc2d C.1 C.2.1 C.2.2.2.1 (C.2.2.2.2.1 _ hc) d (k H locs ls hP hD hS hl)
theorem J.lload_n (C : Cx p l s m args meth c g A own cc nL) {q : Fin 4} {i : Nat} {x : Int64} (d : decode cc pc = .ok (.lload_n q, 1)) (hi : (q : Nat) = i) (hv : lvg lv i = some (.long x)) (k : J p l e R s m args below meth c g A nL cells slots Q (pc + 1) lv (.long x :: rest) h) : J p l e R s m args below meth c g A nL cells slots Q pc lv rest h := fun H locs ls hP hD hS hl => lv_lload_n C.1 C.2.1 d hi (lvg_has hl hv) (k H locs ls hP hD hS hl)
theorem J.lload (C : Cx p l s m args meth c g A own cc nL) {i : Nat} {x : Int64} (d : decode cc pc = .ok (.lload i, 2)) (hv : lvg lv i = some (.long x)) (k : J p l e R s m args below meth c g A nL cells slots Q (pc + 2) lv (.long x :: rest) h) : J p l e R s m args below meth c g A nL cells slots Q pc lv rest h := fun H locs ls hP hD hS hl => lv_lload C.1 C.2.1 d (lvg_has hl hv) (k H locs ls hP hD hS hl)
theorem J.ldci (C : Cx p l s m args meth c g A own cc nL) {idx : Nat} {v : Int32} (hc : Cond.constant own idx v ∈ BIG) (d : decode cc pc = .ok (.ldc idx, 2)) (k : J p l e R s m args below meth c g A nL cells slots Q (pc + 2) lv (.int v :: rest) h) : J p l e R s m args below meth c g A nL cells slots Q pc lv rest h := fun H locs ls hP hD hS hl => lv_ldc C.1 C.2.1 C.2.2.2.1 (C.2.2.2.2.1 _ hc) d (k H locs ls hP hD hS hl)
theorem J.lstore_nL (C : Cx p l s m args meth c g A own cc nL) {q : Fin 4} {i : Nat} {x : Int64} (d : decode cc pc = .ok (.lstore_n q, 1)) (hi : (q : Nat) = i) (hn : i + 1 < nL) {k : Int64 → α} (H : lt x k = y) (kk : ∀ z : Int64, k z = y → J p l e R s m args below meth c g A nL cells slots Q (pc + 1) ((i, Value.long z) :: lv.filter (fun q => !(q.1 == i) && (!(q.1 == i + 1) && !(q.1 + 1 == i && q.2.category == 2)))) rest h) : J p l e R s m args below meth c g A nL cells slots Q pc lv (.long x :: rest) h := fun Hp locs ls hP hD hS hl => lv_lstore_n C.1 C.2.1 d hi hl hn rfl (fun ls hl => kk x H Hp locs ls hP hD hS hl)
theorem J.lstoreL (C : Cx p l s m args meth c g A own cc nL) {i : Nat} {x : Int64} (d : decode cc pc = .ok (.lstore i, 2)) (hn : i + 1 < nL) {k : Int64 → α} (H : lt x k = y) (kk : ∀ z : Int64, k z = y → J p l e R s m args below meth c g A nL cells slots Q (pc + 2) ((i, Value.long z) :: lv.filter (fun q => !(q.1 == i) && (!(q.1 == i + 1) && !(q.1 + 1 == i && q.2.category == 2)))) rest h) : J p l e R s m args below meth c g A nL cells slots Q pc lv (.long x :: rest) h := fun Hp locs ls hP hD hS hl => lv_lstore C.1 C.2.1 d hl hn rfl (fun ls hl => kk x H Hp locs ls hP hD hS hl)
theorem J.lret (C : Cx p l s m args meth c g A own cc nL) {post : Int64 → va_W → Prop} {px : String → va_W → Prop} {mc ms : Nat} {v : Int64} (hr : meth.sig.returnType = some .long) (hc : cells ≤ mc) (hs : slots ≤ ms) (d : decode cc pc = .ok (.lreturn, 1)) (hp : post v h) : J p l e R s m args below meth c g A nL cells slots (vx_MQ below (Qg mL post g A) (XQ px g A) args s mc ms A) pc lv [.long v] h := fun H locs ls hP hD hS hl => vx_ret (W.widen hc hs (W.lret C.1 C.2.1 hr (fun t ht hW => ⟨⟨v, h, rfl, hp, by rw [ht]; exact hP, hD⟩, hS.F ht⟩) hS.2.2 d C.2.2.2.2.2.1))
theorem J.lretL (C : Cx p l s m args meth c g A own cc nL) {S : Type} {hp : S → va_W} {σ : S} {v : Int64} {mc ms : Nat} {rr : (Int64 ⊕ String) × S} (hr : meth.sig.returnType = some .long) (hc : cells ≤ mc) (hs : slots ≤ ms) (d : decode cc pc = .ok (.lreturn, 1)) (H : some ((.inl v, σ) : (Int64 ⊕ String) × S) = some rr) : J p l e R s m args below meth c g A nL cells slots (QR mL g A hp rr below args s mc ms) pc lv [.long v] (hp σ) := J.lret C hr hc hs d (by cases H; exact ⟨rfl, rfl⟩)
theorem J.outR (C : Cx p l s m args meth c g A own cc nL) {S ρ : Type} {hp : S → va_W} {σ : S} {mk : ρ → Option Value} {mc ms : Nat} {E : String} {rr : (ρ ⊕ String) × S} (hx : ∀ x ∈ c.exceptionTable.toList, False) (hc : cells ≤ mc) (hs : slots ≤ ms) (e9 : some rr = some (.inr E, σ)) : JX p l e R s m args below meth c g A nL cells slots (QR mk g A hp rr below args s mc ms) pc lv rest (hp σ) E := J.out C hx hc hs (by cases e9; exact ⟨rfl, rfl⟩)
/-- the handler at the place a.length of the table takes it; those ahead of it don't -/
theorem J.catch (C : Cx p l s m args meth c g A own cc nL) {hh : HH} (ht : c.exceptionTable.toList = tableOf hh) (a b : HH) {E : String} (x : ExceptionTableEntry) (hsp : tableOf hh = tableOf a ++ x :: tableOf b) (hE : E ∈ xcs) (hpass : ∀ z ∈ tableOf a, covers z pc = false ∨ (z.catchType ≠ 0 ∧ ∃ nm : String, Cond.classLink own z.catchType nm ∈ BIG ∧ nm ∈ xcs ∧ E ≠ nm)) (hx : covers x pc = true) (h0 : x.catchType ≠ 0) (hlink : Cond.classLink own x.catchType E ∈ BIG) (hcast : Cond.castable E E ∈ tables_1)
    (k : ∀ q : Nat, J p l e R s m args below meth c g A nL cells slots Q x.handlerPc lv [.ref q] h) : JX p l e R s m args below meth c g A nL cells slots Q pc lv rest h E := fun H locs ls q ce hP hD hS hl hq hv hcl =>
  vx_catch C.2.2.2.1 (tableOf a) x (tableOf b) (ht.trans hsp) (fun z hz => by
    rcases hpass z hz with z0 | ⟨z1, nm, z2, z3, z4⟩
    · exact Or.inl z0
    · exact Or.inr ⟨z1, nm, C.2.2.2.2.1 _ z2, C.2.2.2.2.2.2.2.2.1.2.2.2.2.1 E hE nm z3 z4⟩) hx h0 (C.2.2.2.2.1 _ hlink) (va_Nw.use rfl (C.2.2.2.2.2.2.2.2.1.2.2.2.1 _ hcast rfl)) hq hv hcl (k q H locs ls hP hD hS hl)
/-- a call of the class, in a method with handlers -/
theorem J.callHV {S ρ ρ' : Type} {mk : ρ → Option Value} {hp : S → va_W} {d : MD} {lev mc ms n idx ci q0 N b0 : Nat} {Cn : String} {T : u_T} {fs as : List Value} (C : Cx p l s m args meth c g A own cc nL) {σ : S} {x : Res S ρ} (hh : h = hp σ) (sp : SpR l d lev mc ms mk g (.ref b0 :: as) hp σ x) (hst : st = as.reverse ++ .ref b0 :: rest) (hl : Cond.methodLink own idx d.1 ∈ BIG) (hd : MDv d Cn n) (hR : lev + 1 ≤ R.frames ∧ 8 + (d.2.2.1 + 11) + 64 * lev ≤ R.locals) (he : h[q0]? = some (b0, .inr (ci, fs))) (hc : vwCl[ci]? = some (Cn, T, N)) (hn : as.length = n) (hW : (rest.map fun v => v.category).sum ≤ 8) (hdg : decode cc pc = .ok (.invokevirtual idx, 3)) (hf : cells + mc ≤ R.cells ∧ slots + ms ≤ R.slots) {cs : List (String × ρ')} {k : ρ → S → Res S ρ'} {rr : (ρ' ⊕ String) × S} (H : hdl cs x k = some rr)
    (kx : ∀ (E : String) (v : ρ') (z : S), cs.lookup E = some v → some (.inl v, z) = some rr → JX p l e R s m args below meth c g A nL (cells + mc) (slots + ms) Q pc lv rest (hp z) E)
    (kk : ∀ (r : ρ) (z : S), k r z = some rr → J p l e R s m args below meth c g A nL (cells + mc) (slots + ms) Q (pc + 3) lv ((mk r).toList ++ rest) (hp z)) : J p l e R s m args below meth c g A nL cells slots Q pc lv st h := by
  subst hh
  cases hxx : x with
  | none => rw [hxx] at H; cases H
  | some q =>
    obtain ⟨q1, q2⟩ := q
    rw [hxx] at H
    refine J.callV C (sp _ hxx) hst hl hd hR he hc hn hW hdg hf (fun E u hu => ?_) (fun r u hu => ?_)
    · obtain ⟨h1, h2⟩ := hu
      dsimp only at h1 h2
      subst h1
      subst h2
      have H : (match cs.lookup E with | none => none | some v => some (.inl v, q2) : Res S ρ') = some rr := H
      cases hk : cs.lookup E with
      | none => rw [hk] at H; cases H
      | some v => rw [hk] at H; exact kx E v q2 hk H
    · obtain ⟨h1, h2⟩ := hu
      dsimp only at h1 h2
      subst h1
      subst h2
      exact kk r q2 H
/-- a call of the class, in a method without handlers -/
theorem J.callV9 {S ρ ρ' : Type} {mk : ρ → Option Value} {hp : S → va_W} {d : MD} {lev mc ms n idx ci q0 N b0 : Nat} {Cn : String} {T : u_T} {fs as : List Value} (C : Cx p l s m args meth c g A own cc nL) {σ : S} {x : Res S ρ} (hh : h = hp σ) (sp : SpR l d lev mc ms mk g (.ref b0 :: as) hp σ x) (hst : st = as.reverse ++ .ref b0 :: rest) (hl : Cond.methodLink own idx d.1 ∈ BIG) (hd : MDv d Cn n) (hR : lev + 1 ≤ R.frames ∧ 8 + (d.2.2.1 + 11) + 64 * lev ≤ R.locals) (he : h[q0]? = some (b0, .inr (ci, fs))) (hc : vwCl[ci]? = some (Cn, T, N)) (hn : as.length = n) (hW : (rest.map fun v => v.category).sum ≤ 8) (hdg : decode cc pc = .ok (.invokevirtual idx, 3)) (hf : cells + mc ≤ R.cells ∧ slots + ms ≤ R.slots) {k : ρ → S → Res S ρ'} {rr : (ρ' ⊕ String) × S} (H : bd x k = some rr)
    (kx : ∀ (E : String) (z : S), some rr = some (.inr E, z) → JX p l e R s m args below meth c g A nL (cells + mc) (slots + ms) Q pc lv rest (hp z) E)
    (kk : ∀ (r : ρ) (z : S), k r z = some rr → J p l e R s m args below meth c g A nL (cells + mc) (slots + ms) Q (pc + 3) lv ((mk r).toList ++ rest) (hp z)) : J p l e R s m args below meth c g A nL cells slots Q pc lv st h := by
  subst hh
  cases hxx : x with
  | none => rw [hxx] at H; cases H
  | some q =>
    obtain ⟨q1, q2⟩ := q
    rw [hxx] at H
    refine J.callV C (sp _ hxx) hst hl hd hR he hc hn hW hdg hf (fun E u hu => ?_) (fun r u hu => ?_)
    · obtain ⟨h1, h2⟩ := hu
      dsimp only at h1 h2
      subst h1
      subst h2
      exact kx E q2 H.symm
    · obtain ⟨h1, h2⟩ := hu
      dsimp only at h1 h2
      subst h1
      subst h2
      exact kk r q2 H
theorem J.callS9 {S ρ ρ' : Type} {mk : ρ → Option Value} {hp : S → va_W} {d : MD} {lev mc ms n idx : Nat} {as : List Value} (C : Cx p l s m args meth c g A own cc nL) {σ : S} {x : Res S ρ} (hh : h = hp σ) (sp : SpR l d lev mc ms mk g as hp σ x) (hst : st = as.reverse ++ rest) (hl : Cond.methodLink own idx d.1 ∈ BIG) (hd : MDs d n) (hR : lev + 1 ≤ R.frames ∧ 8 + (d.2.2.1 + 11) + 64 * lev ≤ R.locals) (hn : as.length = n) (hW : (rest.map fun v => v.category).sum ≤ 8) (hdg : decode cc pc = .ok (.invokestatic idx, 3)) (hf : cells + mc ≤ R.cells ∧ slots + ms ≤ R.slots) {k : ρ → S → Res S ρ'} {rr : (ρ' ⊕ String) × S} (H : bd x k = some rr)
    (kx : ∀ (E : String) (z : S), some rr = some (.inr E, z) → JX p l e R s m args below meth c g A nL (cells + mc) (slots + ms) Q pc lv rest (hp z) E)
    (kk : ∀ (r : ρ) (z : S), k r z = some rr → J p l e R s m args below meth c g A nL (cells + mc) (slots + ms) Q (pc + 3) lv ((mk r).toList ++ rest) (hp z)) : J p l e R s m args below meth c g A nL cells slots Q pc lv st h := by
  subst hh
  cases hxx : x with
  | none => rw [hxx] at H; cases H
  | some q =>
    obtain ⟨q1, q2⟩ := q
    rw [hxx] at H
    refine J.callS C (sp _ hxx) hst hl hd hR hn hW hdg hf (fun E u hu => ?_) (fun r u hu => ?_)
    · obtain ⟨h1, h2⟩ := hu
      dsimp only at h1 h2
      subst h1
      subst h2
      exact kx E q2 H.symm
    · obtain ⟨h1, h2⟩ := hu
      dsimp only at h1 h2
      subst h1
      subst h2
      exact kk r q2 H
/-- a call of a static method with handlers -/
theorem J.callSHg {ρ : Type} {mk : ρ → Option Value} {post : ρ → va_W → Prop} {px : String → va_W → Prop} {d : MD} {hh9 : HH} {lev mc ms n idx : Nat} {as : List Value}
    (C : Cx p l s m args meth c g A own cc nL) (sp : SpH l d hh9 lev mc ms mk g as h post px) (hst : st = as.reverse ++ rest) (hl : Cond.methodLink own idx d.1 ∈ BIG) (hd : MDh d hh9 n) (hR : lev + 1 ≤ R.frames ∧ 8 + (d.2.2.1 + 11) + 64 * lev ≤ R.locals) (hn : as.length = n) (hW : (rest.map fun v => v.category).sum ≤ 8) (hdg : decode cc pc = .ok (.invokestatic idx, 3)) (hf : cells + mc ≤ R.cells ∧ slots + ms ≤ R.slots)
    (kx : ∀ (E : String) (u : va_W), px E u → JX p l e R s m args below meth c g A nL (cells + mc) (slots + ms) Q pc lv rest u E)
    (kk : ∀ (r : ρ) (u : va_W), post r u → J p l e R s m args below meth c g A nL (cells + mc) (slots + ms) Q (pc + 3) lv ((mk r).toList ++ rest) u) : J p l e R s m args below meth c g A nL cells slots Q pc lv st h := by
  subst hst
  exact J.run C (fun H locs ls hP hD hS hlv => vx_runSX (bytes := d.2.1) (maxL := d.2.2.1) (ret := d.2.2.2) ⟨C.1, C.2.1, C.2.2.1, C.2.2.2.1, C.2.2.2.2.1⟩ (sp H.size) (vx_cwSW n C.2.2.2.2.1 (hd.good hl) rfl rfl rfl hd.2.2.2 hR) (C.start hP hD hS) rfl hn hlv.1 rfl (lv_room hW) hdg hf) kx kk
theorem J.callH9 {S ρ ρ' : Type} {mk : ρ → Option Value} {hp : S → va_W} {d : MD} {lev mc ms n idx : Nat} {as : List Value} {hh9 : HH} (C : Cx p l s m args meth c g A own cc nL) {σ : S} {x : Res S ρ} (hh : h = hp σ) (sp : SpHR l d hh9 lev mc ms mk g as hp σ x) (hst : st = as.reverse ++ rest) (hl : Cond.methodLink own idx d.1 ∈ BIG) (hd : MDh d hh9 n) (hR : lev + 1 ≤ R.frames ∧ 8 + (d.2.2.1 + 11) + 64 * lev ≤ R.locals) (hn : as.length = n) (hW : (rest.map fun v => v.category).sum ≤ 8) (hdg : decode cc pc = .ok (.invokestatic idx, 3)) (hf : cells + mc ≤ R.cells ∧ slots + ms ≤ R.slots) {k : ρ → S → Res S ρ'} {rr : (ρ' ⊕ String) × S} (H : bd x k = some rr)
    (kx : ∀ (E : String) (z : S), some rr = some (.inr E, z) → JX p l e R s m args below meth c g A nL (cells + mc) (slots + ms) Q pc lv rest (hp z) E)
    (kk : ∀ (r : ρ) (z : S), k r z = some rr → J p l e R s m args below meth c g A nL (cells + mc) (slots + ms) Q (pc + 3) lv ((mk r).toList ++ rest) (hp z)) : J p l e R s m args below meth c g A nL cells slots Q pc lv st h := by
  subst hh
  cases hxx : x with
  | none => rw [hxx] at H; cases H
  | some q =>
    obtain ⟨q1, q2⟩ := q
    rw [hxx] at H
    refine J.callSHg C (sp _ hxx) hst hl hd hR hn hW hdg hf (fun E u hu => ?_) (fun r u hu => ?_)
    · obtain ⟨h1, h2⟩ := hu
      dsimp only at h1 h2
      subst h1
      subst h2
      exact kx E q2 H.symm
    · obtain ⟨h1, h2⟩ := hu
      dsimp only at h1 h2
      subst h1
      subst h2
      exact kk r q2 H
end L2
theorem kmax_code : Cond.code Lib.Math.max.name Lib.Math.max.code 2 (some .int) ∈ BIG := bg 1159 (by decide +kernel) (by decide +kernel)
theorem kmax_static : Cond.static Lib.Math.max.name ∈ BIG := bg 1158 (by decide +kernel) (by decide +kernel)
section MMAX
variable {p : Program} {l : Launch} {e : Env} {R : Room} {s : State} {m : MethodId} {args : Array Value} {below : List Frame} {meth : Method} {c : Code} {g : Gy} {A : Nat → Prop} {own : String} {cc : ByteArray} {nL : Nat} {cells slots : Nat} {Q : State → Prop} {pc : Nat} {lv : List (Nat × Value)} {st rest : List Value} {h : va_W}
theorem J.mmax (C : Cx p l s m args meth c g A own cc nL) {idx : Nat} {x y : Int32} (hl9 : Cond.methodLink own idx Lib.Math.max.name ∈ BIG) (hR : 1 ≤ R.frames ∧ (rest.map fun v => v.category).sum + 13 ≤ R.locals ∧ cells ≤ R.cells ∧ slots ≤ R.slots) (d : decode cc pc = .ok (.invokestatic idx, 3)) (k : J p l e R s m args below meth c g A nL cells slots Q (pc + 3) lv (.int (imx x y) :: rest) h) : J p l e R s m args below meth c g A nL cells slots Q pc lv (.int y :: .int x :: rest) h := fun H locs ls hP hD hS hl =>
  va_mmax C.1 C.2.1 (C.2.2.1.trans hl.1.symm) C.2.2.2.1 (C.2.2.2.2.1 _ hl9) (C.2.2.2.2.1 _ kmax_static) (C.2.2.2.2.1 _ kIn_J9) (C.2.2.2.2.1 _ kmax_code) hR.1 hR.2.1 hR.2.2.1 hR.2.2.2 d (k H locs ls hP hD hS hl)
end MMAX
/-! counting cells without a procedure: x so far, d behind it, N what the loop still has -/
theorem ceA {x d N c k M : Nat} (h : x + (N + c) ≤ M) (hd : Nat.ble (d + k) c = true) : x + d + k ≤ M := by
  have := Nat.le_of_ble_eq_true hd
  omega
theorem ceR {x d N c M : Nat} (h : x + (N + c) ≤ M) (hd : Nat.ble d c = true) : x + d ≤ M := by
  have := Nat.le_of_ble_eq_true hd
  omega
theorem ceB {x d N c k M : Nat} (h : x + (N + c) ≤ M) (hd : Nat.ble (d + k) c = true) : x + d + (N + k) ≤ M := by
  have := Nat.le_of_ble_eq_true hd
  omega
theorem ceA0 {x d c k M : Nat} (h : x + c ≤ M) (hd : Nat.ble (d + k) c = true) : x + d + k ≤ M := by
  have := Nat.le_of_ble_eq_true hd
  omega
theorem ceR0 {x d c M : Nat} (h : x + c ≤ M) (hd : Nat.ble d c = true) : x + d ≤ M := by
  have := Nat.le_of_ble_eq_true hd
  omega
theorem ceS {x n P c k M : Nat} (h : x + ((n + 1) * P + c) ≤ M) (hd : Nat.ble k (P + c) = true) : x + (n * P + k) ≤ M := by
  have := Nat.le_of_ble_eq_true hd
  rw [Nat.add_mul, Nat.one_mul] at h
  omega
theorem kCL_L_159 : Cond.constantLong RL 159 31 ∈ BIG := bg 1084 (by decide +kernel) (by decide +kernel)
theorem kCL_L_164 : Cond.constantLong RL 164 961 ∈ BIG := bg 1085 (by decide +kernel) (by decide +kernel)
theorem kCL_L_169 : Cond.constantLong RL 169 7 ∈ BIG := bg 1086 (by decide +kernel) (by decide +kernel)
theorem kCL_L_174 : Cond.constantLong RL 174 11 ∈ BIG := bg 1087 (by decide +kernel) (by decide +kernel)
theorem kCL_L_185 : Cond.constantLong RL 185 3 ∈ BIG := bg 1104 (by decide +kernel) (by decide +kernel)
theorem kCL_L_193 : Cond.constantLong RL 193 5 ∈ BIG := bg 1105 (by decide +kernel) (by decide +kernel)
theorem kCD_L_131 : Cond.constantDouble RL 131 13830554455654793216 ∈ BIG := bg 1152 (by decide +kernel) (by decide +kernel)
theorem kCD_L_213 : Cond.constantDouble RL 213 4629137466983448576 ∈ BIG := bg 1153 (by decide +kernel) (by decide +kernel)
theorem cast_IllegalArgumentException : Cond.castable "java/lang/IllegalArgumentException" "java/lang/IllegalArgumentException" ∈ tables_1 := List.mem_of_getElem? (i := 301) (by decide +kernel)
theorem cast_IllegalStateException : Cond.castable "java/lang/IllegalStateException" "java/lang/IllegalStateException" ∈ tables_1 := List.mem_of_getElem? (i := 425) (by decide +kernel)
theorem cast_IndexOutOfBoundsException : Cond.castable "java/lang/IndexOutOfBoundsException" "java/lang/IndexOutOfBoundsException" ∈ tables_1 := List.mem_of_getElem? (i := 484) (by decide +kernel)
theorem cast_NoSuchElementException : Cond.castable "java/util/NoSuchElementException" "java/util/NoSuchElementException" ∈ tables_1 := List.mem_of_getElem? (i := 522) (by decide +kernel)
theorem cast_UnsupportedOperationException : Cond.castable "java/lang/UnsupportedOperationException" "java/lang/UnsupportedOperationException" ∈ tables_1 := List.mem_of_getElem? (i := 678) (by decide +kernel)
theorem cast_ArithmeticException : Cond.castable "java/lang/ArithmeticException" "java/lang/ArithmeticException" ∈ tables_1 := List.mem_of_getElem? (i := 1104) (by decide +kernel)
