/-! MY OWN JUDGEMENT over the kit's rows: 'J' speaks of a whole heap as one list of cells (no cutting, no joining at a call), of the locals as a list, of a method by 'Sp': what it answers, what the list is behind it, what it may throw. -/
section BASE
/-- the classes and the places of their fields, and the classes of the arrays -/
abbrev Gy : Type := va_G × (Nat → ClassId)
def tysOf (g : Gy) : List (ClassId × FieldType) := [(g.2 0, .int)]
def WK (g : Gy) (U : State) : Prop := va_K g.1 vwCl (tysOf g) U
theorem WK.go {g : Gy} {u U : State} (h : WK g u) (ha : u.vm.Alike U.vm) : WK g U := va_K.moved ha h
theorem ao_bind {fc fc' : Option Nat} {ix ix' : Nat → Option Nat} {cl cl' : Nat → Option Class} {G G' : Nat → Class → Bool} (h1 : fc' = fc) (h2 : ∀ c, ix' c = ix c) (h3 : ∀ c k, cl c = some k → ∃ k', cl' c = some k' ∧ G' c k' = G c k) (h : ((fc.bind fun comp => (ix comp).bind fun c => (cl c).map (G c)) == some true) = true) : ((fc'.bind fun comp => (ix' comp).bind fun c => (cl' c).map (G' c)) == some true) = true := by
  subst h1
  cases fc' with
  | none => exact h
  | some comp =>
    simp only [Option.bind_some] at h ⊢
    rw [h2]
    cases hx : ix comp with
    | none => rw [hx] at h; exact h
    | some c =>
      rw [hx] at h
      simp only [Option.bind_some] at h ⊢
      cases hk : cl c with
      | none => rw [hk] at h; cases h
      | some k =>
        obtain ⟨k', e1, e2⟩ := h3 c k hk
        rw [hk] at h
        rw [e1]
        simp only [Option.map_some] at h ⊢
        rw [e2]
        exact h
theorem aoa_moved {t : FieldType} {u U : State} (hvm : u.vm.Alike U.vm) (h : va_Nw (.arrayOver (.array t)) u) : va_Nw (.arrayOver (.array t)) U := by
  have hb : U.vm.bare = u.vm.bare := by first | exact hvm.bare_eq | exact hvm.bare_eq.symm
  have hf : ∀ n : String, U.vm.findClass n = u.vm.findClass n := fun n => by rw [hvm.findClass]
  refine ao_bind (fc := u.vm.findClass (FieldType.array t).toString) (ix := fun comp => u.vm.classes.findIdx? fun (x : Class) => match x.kind with | .array component _ => component == comp | _ => false) (cl := fun c => u.vm.classes[c]?) (G := fun c k => match k.kind with | .array _ ty => decide (ty = FieldType.array t) && decide (u.vm.findClass ("[" ++ (FieldType.array t).toString) = some c) | _ => false) (fc' := U.vm.findClass (FieldType.array t).toString) (ix' := fun comp => U.vm.classes.findIdx? fun (x : Class) => match x.kind with | .array component _ => component == comp | _ => false) (cl' := fun c => U.vm.classes[c]?) (G' := fun c k => match k.kind with | .array _ ty => decide (ty = FieldType.array t) && decide (U.vm.findClass ("[" ++ (FieldType.array t).toString) = some c) | _ => false) (hf _) (fun c => ?_) (fun c k hk => ?_) h
  · have h9 := va_idx_bare U.vm c
    rw [hb] at h9
    exact h9.symm.trans (va_idx_bare u.vm c)
  · obtain ⟨k', hk', he⟩ := hvm.2.2 _ _ hk
    have hkk : k'.kind = k.kind := by rw [he]
    exact ⟨k', hk', by simp only [hf, hkk]⟩
/-- words that no contract may ask, but that stay: casts, private fields and constructors of nest mates -/
def nwk : Cond → Bool
  | .castable .. => true
  | .declares .. => true
  | .arrayOver (.array _) => true
  | .fieldLinkNest .. => true
  | .methodLinkNest .. => true
  | _ => false
theorem nwk_warm {w : Cond} (hw : nwk w = true) {s U : State} (hW : s.WarmedH U.vm) (h : va_Nw w s) : va_Nw w U := by
  cases w <;> first | exact va_Nw.warmC hW h | exact va_Nw.warmD hW h | exact va_Nw.warmF hW h | exact va_Nw.warmM hW h | (exact absurd (show false = true from hw) Bool.false_ne_true) | (rename_i ty; cases ty <;> first | exact aoa_moved hW.alike h | exact absurd (show false = true from hw) Bool.false_ne_true)
theorem nwk_same {w : Cond} (hw : nwk w = true) {u U : State} (hv : U.vm = u.vm) (h : va_Nw w u) : va_Nw w U := by
  cases w <;> first | exact va_Nw.same rfl hv.symm h | (exact absurd (show false = true from hw) Bool.false_ne_true) | (rename_i ty; cases ty <;> first | exact aoa_moved (by rw [hv]; exact Vm.Alike.refl _) h | exact absurd (show false = true from hw) Bool.false_ne_true)
theorem nwk_use {w : Cond} (hw : nwk w = true) {a : Array Value} {U : State} (h : va_Nw w U) : w.before a U = true := by
  cases w <;> first | exact va_Nw.use rfl h | (exact absurd (show false = true from hw) Bool.false_ne_true) | (rename_i ty; cases ty <;> first | exact absurd (show false = true from hw) Bool.false_ne_true | exact h)
/-- the classes that are thrown -/
def xcs : List String := ["java/lang/IllegalArgumentException", "java/lang/IllegalStateException", "java/lang/IndexOutOfBoundsException", "java/util/NoSuchElementException", "java/lang/UnsupportedOperationException", "java/lang/ArithmeticException"]
/-- the law's one text constant, "NKAC", and what reading it asks -/
def TS (A : Nat → Prop) (U : State) (H : Heap) : Prop := va_Z "java/lang/String" "COMPACT_STRINGS" "Z" (.int 1) A U H ∧ va_Zq "jdk/internal/util/Preconditions" "SIOOBE_FORMATTER" "Ljava/util/function/BiFunction;" A U H ∧ ∃ a b : Nat, vk_R "DeductionDeskLaw" 244 "NKAC" a U ∧ va_O "java/lang/String" a A U H ∧ va_OF "java/lang/String" "coder" "B" (.int 0) a A U H ∧ va_OF "java/lang/String" "value" "[B" (.ref b) a A U H ∧ va_T .byte b 4 (fun j => .int ([78, 75, 65, 67].getD j 0)) A U H
theorem TS.moved {A : Nat → Prop} {u U : State} {H : Heap} (hvm : u.vm.Alike U.vm) (hR : ∀ a, vk_R "DeductionDeskLaw" 244 "NKAC" a u → vk_R "DeductionDeskLaw" 244 "NKAC" a U) (h : TS A u H) : TS A U H := by
  obtain ⟨z1, z2, a, b, h1, h2, h3, h4, h5⟩ := h
  exact ⟨va_Z.moved hvm z1, va_Zq.moved hvm z2, a, b, hR a h1, va_O.moved hvm h2, va_OF.moved hvm h3, va_OF.moved hvm h4, va_T.moved hvm h5⟩
theorem TS.kept {A : Nat → Prop} {U : State} {H H1 : Heap} (hq : ∀ a : Nat, a < H.size → ¬ A a → H1[a]? = H[a]?) (h : TS A U H) : TS A U H1 := by
  obtain ⟨z1, z2, a, b, h1, h2, h3, h4, h5⟩ := h
  exact ⟨va_Z.kept z1 hq, va_Zq.kept z2 hq, a, b, h1, va_O.kept h2 hq, va_OF.kept h3 hq, va_OF.kept h4 hq, va_T.kept h5 hq⟩
theorem TS.narrow {A B : Nat → Prop} {U : State} {H : Heap} (hAB : ∀ q, B q → A q) (h : TS A U H) : TS B U H := by
  obtain ⟨z1, z2, a, b, h1, h2, h3, h4, h5⟩ := h
  exact ⟨va_Z.narrow z1 hAB, va_Zq.narrow z2 hAB, a, b, h1, va_O.narrow h2 hAB, va_OF.narrow h3 hAB, va_OF.narrow h4 hAB, va_T.narrow h5 hAB⟩
/-- what stays of the world beside the good words -/
def TW (A : Nat → Prop) (U : State) (H : Heap) : Prop :=
  vx_Zq Bundle.tN "UNASSIGNED_STACK" Bundle.steD A U H ∧ vx_Zq Bundle.tN "SUPPRESSED_SENTINEL" Bundle.listD A U H ∧ (∀ (own : String) (k : Nat) (tx : String), Cond.stringRef own k tx ∈ tables_1 → ∃ a : Nat, vk_R own k tx a U) ∧ (∀ w ∈ tables_1, nwk w = true → va_Nw w U) ∧ (∀ E ∈ xcs, ∀ T ∈ xcs, E ≠ T → va_Nc E T U) ∧ TS A U H
theorem TW.go {A B : Nat → Prop} {s U : State} {H H1 : Heap} (h : TW A s H) (hW : s.WarmedH U.vm) (hq : ∀ a : Nat, a < H.size → ¬ A a → H1[a]? = H[a]?) (hAB : ∀ q, B q → A q) : TW B U H1 :=
  ⟨vx_Zq.narrow (vx_Zq.moved hW.alike (h.1.kept hq)) hAB, vx_Zq.narrow (vx_Zq.moved hW.alike (h.2.1.kept hq)) hAB, fun own k tx hm => (h.2.2.1 own k tx hm).elim fun a ha => ⟨a, vk_R.warm hW ha⟩, fun w hm hk => nwk_warm hk hW (h.2.2.2.1 w hm hk), fun E hE T hT hn => (h.2.2.2.2.1 E hE T hT hn).moved hW.alike, TS.narrow hAB (TS.moved hW.alike (fun _ => vk_R.warm hW) (TS.kept hq h.2.2.2.2.2))⟩
theorem TW.same {A : Nat → Prop} {u U : State} {H : Heap} (h : TW A u H) (hv : U.vm = u.vm) : TW A U H :=
  ⟨vx_Zq.moved (by rw [hv]; exact Vm.Alike.refl _) h.1, vx_Zq.moved (by rw [hv]; exact Vm.Alike.refl _) h.2.1, fun own k tx hm => (h.2.2.1 own k tx hm).elim fun a ha => ⟨a, vk_R.same hv ha⟩, fun w hm hk => nwk_same hk hv (h.2.2.2.1 w hm hk), fun E hE T hT hn => (h.2.2.2.2.1 E hE T hT hn).moved (by rw [hv]; exact Vm.Alike.refl _), TS.moved (by rw [hv]; exact Vm.Alike.refl _) (fun _ => vk_R.same hv) h.2.2.2.2.2⟩
/-- a method: its name, its code, its locals, its type -/
abbrev MD : Type := MethodName × ByteArray × Nat × Option FieldType
def MD.ws (d : MD) : List Cond := Cond.code d.1 d.2.1 d.2.2.1 d.2.2.2 :: BIG
/-- what the tables say of an instance's method -/
def MDv (d : MD) (Cn : String) (n : Nat) : Prop := Cond.instanceMethod d.1 ∈ BIG ∧ Cond.selects Cn d.1 d.1 ∈ BIG ∧ Cond.initialized Cn ∈ BIG ∧ Cond.code d.1 d.2.1 d.2.2.1 d.2.2.2 ∈ BIG ∧ (d.1.cls = Cn ∧ d.1.cls ≠ "java/lang/invoke/MethodHandle" ∧ d.1.cls ≠ "java/lang/invoke/VarHandle" ∧ (parseMethodDescriptor d.1.desc).map (fun d => d.parameters.length) = some n)
/-- what they say of a static one -/
def MDs (d : MD) (n : Nat) : Prop := Cond.static d.1 ∈ BIG ∧ Cond.initialized d.1.cls ∈ BIG ∧ Cond.code d.1 d.2.1 d.2.2.1 d.2.2.2 ∈ BIG ∧ (d.1.cls ≠ "java/lang/invoke/MethodHandle" ∧ d.1.cls ≠ "java/lang/invoke/VarHandle" ∧ (parseMethodDescriptor d.1.desc).map (fun d => d.parameters.length) = some n)
theorem MDv.good {d : MD} {Cn own : String} {n idx : Nat} (h : MDv d Cn n) (hl : Cond.methodLink own idx d.1 ∈ BIG) : GoodIn BIG (wsV own idx Cn d.1 d.ws) := by
  intro w hw
  refine ⟨?_, BIG_good w ?_⟩ <;>
  · rcases List.mem_append.mp hw with hw | hw
    · simp only [List.mem_cons, List.not_mem_nil, or_false] at hw
      rcases hw with rfl | rfl | rfl | rfl
      · exact hl
      · exact h.1
      · exact h.2.1
      · exact h.2.2.1
    · rcases List.mem_cons.mp hw with rfl | hw
      · exact h.2.2.2.1
      · exact hw
theorem MDs.good {d : MD} {own : String} {n idx : Nat} (h : MDs d n) (hl : Cond.methodLink own idx d.1 ∈ BIG) : GoodIn BIG (va_wsS own idx d.1 d.ws) := by
  intro w hw
  refine ⟨?_, BIG_good w ?_⟩ <;>
  · rcases List.mem_append.mp hw with hw | hw
    · simp only [List.mem_cons, List.not_mem_nil, or_false] at hw
      rcases hw with rfl | rfl | rfl
      · exact hl
      · exact h.1
      · exact h.2.1
    · rcases List.mem_cons.mp hw with rfl | hw
      · exact h.2.2.1
      · exact hw
/-- a method's start: its arguments, the heap's cells, all that it knows -/
def PcOf (g : Gy) (as : List Value) (h : va_W) (sz : Nat) : Array Value → State → Prop :=
  va_Pc as (fun U => U.heap.size = sz ∧ va_P g.1 vwCl h U.heap ∧ WK g U ∧ va_D (fun _ => True) h ∧ TW (va_A h sz) U U.heap)
theorem PcOf.blind {g : Gy} {as : List Value} {h : va_W} {sz : Nat} : FrameBlind (PcOf g as h sz) := fun a U f mk q => by
  obtain ⟨q0, q1, qP, qK, qD, qT⟩ := q
  exact ⟨q0, q1, qP, va_K.moved (u := U) (U := U.calling f mk a) (Vm.Alike.refl U.vm) qK, qD, qT.same rfl⟩
def rmOf (lev mc ms : Nat) : Room := { frames := lev, cells := mc, slots := ms, locals := 64 * lev }
def BB (g : Gy) (A : Nat → Prop) (u : va_W) (t : State) : Prop := va_P g.1 vwCl u t.heap ∧ va_D A u
def Qg {ρ : Type} (mk : ρ → Option Value) (post : ρ → va_W → Prop) (g : Gy) (A : Nat → Prop) : Array Value → State → Outcome → State → Prop := fun _ st oc t => (∃ (r : ρ) (u : va_W), oc = .returned (mk r) ∧ post r u ∧ BB g A u t) ∧ va_F A st t
def XQ (px : String → va_W → Prop) (g : Gy) (A : Nat → Prop) : String → State → State → Prop := fun E st t => ∃ u : va_W, px E u ∧ BB g A u t ∧ va_F A st t
abbrev mI : Int32 → Option Value := fun r => some (.int r)
abbrev mV : Unit → Option Value := fun _ => none
abbrev mD : UInt64 → Option Value := fun r => some (.double r)
abbrev mF : UInt32 → Option Value := fun r => some (.float r)
/-- WHAT A METHOD DOES: with these arguments over this heap it returns r and leaves u with 'post r u', or throws E and leaves u with 'px E u' -/
def Sp {ρ : Type} (l : Launch) (d : MD) (lev mc ms : Nat) (mk : ρ → Option Value) (g : Gy) (as : List Value) (h : va_W) (post : ρ → va_W → Prop) (px : String → va_W → Prop) : Prop :=
  ∀ sz : Nat, vx_Met l d.1 d.ws (rmOf lev mc ms) (PcOf g as h sz) (Qg mk post g (va_A h sz)) (XQ px g (va_A h sz)) mc ms (va_A h sz)
/-- what stays over a walk of a method -/
def Cx (p : Program) (l : Launch) (s : State) (m : MethodId) (args : Array Value) (meth : Method) (c : Code) (g : Gy) (A : Nat → Prop) (own : String) (cc : ByteArray) (nL : Nat) : Prop :=
  p.tables.exec = Jvm.exec ∧ c.code = cc ∧ c.maxLocals = nL ∧ s.vm.findClass own = some m.cls ∧ (∀ w ∈ BIG, w.before args s = true) ∧ meth.locks = false ∧ WK g s ∧ (∀ q : Nat, s.heap.size ≤ q → A q) ∧ TW A s s.heap ∧ l.stackTraces = false
/-- THE JUDGEMENT: at pc, with these locals, this stack, these cells -/
def J (p : Program) (l : Launch) (e : Env) (R : Room) (s : State) (m : MethodId) (args : Array Value) (below : List Frame) (meth : Method) (c : Code) (g : Gy) (A : Nat → Prop) (nL cells slots : Nat) (Q : State → Prop) (pc : Nat) (lv : List (Nat × Value)) (st : List Value) (h : va_W) : Prop :=
  ∀ (H : Heap) (locs : List Loc) (ls : Array Slot), va_P g.1 vwCl h H → va_D A h → va_S A s.heap H locs → lv_has ls nL lv → W p l e R s m args below meth c H locs cells slots Q (F0 m pc ls st)
/-- the same, with an exception of class E thrown at pc -/
def JX (p : Program) (l : Launch) (e : Env) (R : Room) (s : State) (m : MethodId) (args : Array Value) (below : List Frame) (meth : Method) (c : Code) (g : Gy) (A : Nat → Prop) (nL cells slots : Nat) (Q : State → Prop) (pc : Nat) (lv : List (Nat × Value)) (st : List Value) (h : va_W) (E : String) : Prop :=
  ∀ (H : Heap) (locs : List Loc) (ls : Array Slot) (q : Addr) (ce : Cell), va_P g.1 vwCl h H → va_D A h → va_S A s.heap H locs → lv_has ls nL lv → H[q]? = some ce → ce.vm = .none → s.vm.findClass E = some ce.cls → vx_W p l e R s m args below meth c H locs cells slots Q (F0 m pc ls st) q
/-- a method that may throw is done when its body is -/
theorem Sp.of {ρ : Type} {l : Launch} {d : MD} {lev mc ms : Nat} {mk : ρ → Option Value} {g : Gy} {as : List Value} {h : va_W} {post : ρ → va_W → Prop} {px : String → va_W → Prop}
    (hl : l.stackTraces = false) (hy : plainName d.1.cls = true) (hlen : (lg_sl as).length ≤ d.2.2.1)
    (body : ∀ (p : Program) (e : Env) (s : State) (m : MethodId) (args : Array Value) (below : List Frame) (meth : Method) (c : Code) (A : Nat → Prop), Cx p l s m args meth c g A d.1.cls d.2.1 d.2.2.1 → meth.sig.returnType = d.2.2.2 → (∀ x ∈ c.exceptionTable.toList, False) →
      J p l e (rmOf lev mc ms) s m args below meth c g A d.2.2.1 0 0 (vx_MQ below (Qg mk post g A) (XQ px g A) args s mc ms A) 0 (lv_args 0 as) [] h) : Sp l d lev mc ms mk g as h post px := by
  intro sz
  refine vx_ofW hy (rfl : d.ws = _) ?_
  intro p e s m args below meth c s₁ B hml htab hv
  obtain ⟨rfl, hsz, hP, hK, hD0, hT⟩ := hv
  subst hsz
  have hts : ∀ w ∈ d.ws, w.before as.toArray s = true := atoms_spec (ws := d.ws) B.pre
  have hb9 := body p e s m as.toArray below meth c (va_A h s.heap.size) ⟨B.exec, B.bytes, hml, findClass_of_methodNamed B.named, fun w hw => hts w (List.mem_cons_of_mem _ hw), B.notSynchronized, hK, fun q hq => Or.inr hq, hT, hl⟩ B.returns htab
  rw [lg_entry_eq]
  exact hb9 s.heap [] _ hP (hD0.self (sz := s.heap.size)) va_S.rf (lv_entry as hlen)
section RUN
variable {p : Program} {l : Launch} {e : Env} {R : Room} {s : State} {m : MethodId} {args : Array Value} {below : List Frame} {meth : Method} {c : Code} {g : Gy} {A : Nat → Prop} {own : String} {cc : ByteArray} {nL : Nat} {cells slots : Nat} {Q : State → Prop} {pc : Nat} {lv lv' : List (Nat × Value)} {st rest : List Value} {h : va_W}
theorem Cx.free (C : Cx p l s m args meth c g A own cc nL) {H : Heap} {locs : List Loc} (hD : va_D A h) (hS : va_S A s.heap H locs) : ∀ q, va_A h H.size q → A q := fun q hq => by
  rcases hq with ⟨k, e9, hk⟩ | hq
  · exact hD.2 k _ hk
  · exact C.2.2.2.2.2.2.2.1 q (Nat.le_trans hS.1 hq)
/-- behind a call -/
theorem J.run {ρ : Type} {mk : ρ → Option Value} {post : ρ → va_W → Prop} {px : String → va_W → Prop} {mc ms : Nat} {a : Array Value} (C : Cx p l s m args meth c g A own cc nL)
    (hr : ∀ (H : Heap) (locs : List Loc) (ls : Array Slot), va_P g.1 vwCl h H → va_D A h → va_S A s.heap H locs → lv_has ls nL lv → vx_Run p l e R s m args below meth c H locs cells slots mc ms (F0 m pc ls st) rest (Qg mk post g (va_A h H.size) a) (XQ px g (va_A h H.size)) (va_A h H.size))
    (kx : ∀ (E : String) (u : va_W), px E u → JX p l e R s m args below meth c g A nL (cells + mc) (slots + ms) Q pc lv rest u E)
    (kk : ∀ (r : ρ) (u : va_W), post r u → J p l e R s m args below meth c g A nL (cells + mc) (slots + ms) Q (pc + 3) lv ((mk r).toList ++ rest) u) : J p l e R s m args below meth c g A nL cells slots Q pc lv st h := by
  intro H locs ls hP hD hS hl T hT X
  have hF : ∀ q, va_A h H.size q → A q := C.free hD hS
  rcases hr H locs ls hP hD hS hl T hT X with ⟨v, st₀, t, T', L, h0, X', hL, e1, e2, ⟨⟨r, u, hv, hp, hb⟩, hFr⟩, stp⟩ | ⟨q, st₀, t, T', L, E, ce, h0, X', hL, e1, e2, ⟨u, hp, hb, hFr⟩, hce, hcv, hcl, stp⟩
  · cases hv
    obtain ⟨k1, k2, k3⟩ := vx_keep h0 e1 hS (fun q _ h => hF q h) hF hL hFr
    obtain ⟨t2, a1, b1⟩ := kk r u hp T'.heap (locs ++ L) ls (by rw [e1]; exact hb.1) (hb.2.weaken (fun _ _ _ h9 => hF _ h9)) k3 hl T' rfl X'
    exact ⟨t2, stp t2 a1, b1⟩
  · obtain ⟨k1, k2, k3⟩ := vx_keep h0 e1 hS (fun q _ h => hF q h) hF hL hFr
    obtain ⟨t2, a1, b1⟩ := kx E u hp T'.heap (locs ++ L) ls q ce (by rw [e1]; exact hb.1) (hb.2.weaken (fun _ _ _ h9 => hF _ h9)) k3 hl (by rw [e1]; exact hce) hcv hcl T' rfl X'
    exact ⟨t2, stp.trans a1, b1⟩
/-- what a callee's start asks, at a call -/
theorem Cx.start (C : Cx p l s m args meth c g A own cc nL) {H : Heap} {locs : List Loc} {as : List Value} (hP : va_P g.1 vwCl h H) (hD : va_D A h) (hS : va_S A s.heap H locs) : PreS s H (PcOf g as h H.size) as :=
  ⟨PcOf.blind, fun U hU hW => ⟨rfl, by rw [hU], by rw [hU]; exact hP, WK.go C.2.2.2.2.2.2.1 hW.alike, hD.weaken (fun _ _ _ _ => trivial), by rw [hU]; exact C.2.2.2.2.2.2.2.2.1.go hW hS.2.1 (C.free hD hS)⟩⟩
/-- a call of an instance's method -/
theorem J.callV {ρ : Type} {mk : ρ → Option Value} {post : ρ → va_W → Prop} {px : String → va_W → Prop} {d : MD} {lev mc ms n idx ci q0 N b : Nat} {Cn : String} {T : u_T} {fs as : List Value}
    (C : Cx p l s m args meth c g A own cc nL) (sp : Sp l d lev mc ms mk g (.ref b :: as) h post px) (hst : st = as.reverse ++ .ref b :: rest) (hl : Cond.methodLink own idx d.1 ∈ BIG) (hd : MDv d Cn n) (hR : lev + 1 ≤ R.frames ∧ 8 + (d.2.2.1 + 11) + 64 * lev ≤ R.locals)
    (he : h[q0]? = some (b, .inr (ci, fs))) (hc : vwCl[ci]? = some (Cn, T, N)) (hn : as.length = n) (hW : (rest.map fun v => v.category).sum ≤ 8) (hdg : decode cc pc = .ok (.invokevirtual idx, 3)) (hf : cells + mc ≤ R.cells ∧ slots + ms ≤ R.slots)
    (kx : ∀ (E : String) (u : va_W), px E u → JX p l e R s m args below meth c g A nL (cells + mc) (slots + ms) Q pc lv rest u E)
    (kk : ∀ (r : ρ) (u : va_W), post r u → J p l e R s m args below meth c g A nL (cells + mc) (slots + ms) Q (pc + 3) lv ((mk r).toList ++ rest) u) : J p l e R s m args below meth c g A nL cells slots Q pc lv st h := by
  subst hst
  exact J.run C (fun H locs ls hP hD hS hlv => vx_runV ⟨C.1, C.2.1, C.2.2.1, C.2.2.2.1, C.2.2.2.2.1⟩ (sp H.size) (cwV n C.2.2.2.2.1 (hd.good hl) (rfl : d.ws = _) rfl rfl hd.2.2.2.2 hR) ⟨PcOf.blind, va_recv C.2.2.2.2.2.2.1 hP hc he, (C.start hP hD hS).2⟩ rfl hn hlv.1 rfl (lv_room hW) hdg hf) kx kk
/-- a call of a static method of any class -/
theorem J.callS {ρ : Type} {mk : ρ → Option Value} {post : ρ → va_W → Prop} {px : String → va_W → Prop} {d : MD} {lev mc ms n idx : Nat} {as : List Value}
    (C : Cx p l s m args meth c g A own cc nL) (sp : Sp l d lev mc ms mk g as h post px) (hst : st = as.reverse ++ rest) (hl : Cond.methodLink own idx d.1 ∈ BIG) (hd : MDs d n) (hR : lev + 1 ≤ R.frames ∧ 8 + (d.2.2.1 + 11) + 64 * lev ≤ R.locals)
    (hn : as.length = n) (hW : (rest.map fun v => v.category).sum ≤ 8) (hdg : decode cc pc = .ok (.invokestatic idx, 3)) (hf : cells + mc ≤ R.cells ∧ slots + ms ≤ R.slots)
    (kx : ∀ (E : String) (u : va_W), px E u → JX p l e R s m args below meth c g A nL (cells + mc) (slots + ms) Q pc lv rest u E)
    (kk : ∀ (r : ρ) (u : va_W), post r u → J p l e R s m args below meth c g A nL (cells + mc) (slots + ms) Q (pc + 3) lv ((mk r).toList ++ rest) u) : J p l e R s m args below meth c g A nL cells slots Q pc lv st h := by
  subst hst
  exact J.run C (fun H locs ls hP hD hS hlv => vx_runS ⟨C.1, C.2.1, C.2.2.1, C.2.2.2.1, C.2.2.2.2.1⟩ (sp H.size) (va_cwS n C.2.2.2.2.1 (hd.good hl) (rfl : d.ws = _) rfl rfl hd.2.2.2 hR) (C.start hP hD hS) rfl hn hlv.1 rfl (lv_room hW) hdg hf) kx kk
end RUN
end BASE
