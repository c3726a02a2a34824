/-! THE LAW'S OWN METHODS: each calls one method of the class, catches what it throws -/
abbrev OS : Type := (Nat → Int64) × (Nat → UInt64)
abbrev LWS : Type := DS × OS
def outs (g : Gy) (o1 o2 : Nat) (w : OS) : va_W := [(o1, .inl (g.2 4, 1, .inr (.inl w.1))), (o2, .inl (g.2 5, 1, .inr (.inr (.inr (.inl w.2)))))]
abbrev lwh (g : Gy) (ad : Nat → Nat) (R9 : va_W) (o1 o2 : Nat) (z : LWS) : va_W := dkh g ad (R9 ++ outs g o1 o2 z.2) z.1
theorem lw_0 {g : Gy} {ad : Nat → Nat} {R9 : va_W} {o1 o2 : Nat} {z : LWS} : (lwh g ad R9 o1 o2 z)[66 + (R9.length + 0)]? = some (o1, .inl (g.2 4, 1, .inr (.inl z.2.1))) := (app_get (dk g ad z.1) (R9 ++ outs g o1 o2 z.2) (R9.length + 0)).trans ((app_get R9 _ 0).trans rfl)
theorem lw_1 {g : Gy} {ad : Nat → Nat} {R9 : va_W} {o1 o2 : Nat} {z : LWS} : (lwh g ad R9 o1 o2 z)[66 + (R9.length + 1)]? = some (o2, .inl (g.2 5, 1, .inr (.inr (.inr (.inl z.2.2))))) := (app_get (dk g ad z.1) (R9 ++ outs g o1 o2 z.2) (R9.length + 1)).trans ((app_get R9 _ 1).trans rfl)
theorem lw_s0 {g : Gy} {ad : Nat → Nat} {R9 : va_W} {o1 o2 : Nat} {z : LWS} (f : Nat → Int64) : (lwh g ad R9 o1 o2 z).set (66 + (R9.length + 0)) (o1, .inl (g.2 4, 1, .inr (.inl f))) = lwh g ad R9 o1 o2 (z.1, (f, z.2.2)) := (app_set (dk g ad z.1) (R9 ++ outs g o1 o2 z.2) (R9.length + 0) _).trans (congrArg (fun x => dk g ad z.1 ++ x) ((app_set R9 _ 0 _).trans rfl))
theorem lw_s1 {g : Gy} {ad : Nat → Nat} {R9 : va_W} {o1 o2 : Nat} {z : LWS} (f : Nat → UInt64) : (lwh g ad R9 o1 o2 z).set (66 + (R9.length + 1)) (o2, .inl (g.2 5, 1, .inr (.inr (.inr (.inl f))))) = lwh g ad R9 o1 o2 (z.1, (z.2.1, f)) := (app_set (dk g ad z.1) (R9 ++ outs g o1 o2 z.2) (R9.length + 1) _).trans (congrArg (fun x => dk g ad z.1 ++ x) ((app_set R9 _ 1 _).trans rfl))
/-- a wrapper's text: what the class's method comes to, by number; the answer goes into the row -/
def wrT {ρ : Type} (cs : List (String × Int32)) (st : ρ → OS → Option OS) (x : Res DS ρ) (w : OS) : Res LWS Int32 := match x with
  | none => none
  | some (.inl r, s) => match st r w with
    | none => none
    | some w' => some (.inl 0, (s, w'))
  | some (.inr E, s) => match cs.lookup E with
    | none => none
    | some k => some (.inl k, (s, w))
def stI (r : Int32) (w : OS) : Option OS := some (vp_updL w.1 (0 : Int32).toNatClampNeg r.toInt64, w.2)
def stZ (r : Int32) (w : OS) : Option OS := some (vp_updL w.1 (0 : Int32).toNatClampNeg (if r = 0 then 0 else 1), w.2)
def stF (r : UInt32) (w : OS) : Option OS := if FP.f2d r &&& 0x7fffffffffffffff ≤ (0x7ff0000000000000 : UInt64) then some (w.1, vf_upd w.2 (0 : Int32).toNatClampNeg (FP.f2d r)) else none
def stD (r : UInt64) (w : OS) : Option OS := some (w.1, vf_upd w.2 (0 : Int32).toNatClampNeg r)
/-- a method with a table of handlers -/
abbrev HH : Type := List (Nat × Nat × Nat × Nat)
def SpH {ρ : Type} (l : Launch) (d : MD) (hh : HH) (lev mc ms : Nat) (mk : ρ → Option Value) (g : Gy) (as : List Value) (h : va_W) (post : ρ → va_W → Prop) (px : String → va_W → Prop) : Prop :=
  ∀ sz : Nat, vx_Met l d.1 (Cond.codeWith d.1 d.2.1 d.2.2.1 d.2.2.2 hh :: BIG) (rmOf lev mc ms) (PcOf g as h sz) (Qg mk post g (va_A h sz)) (XQ px g (va_A h sz)) mc ms (va_A h sz)
theorem SpH.of {ρ : Type} {l : Launch} {d : MD} {hh : HH} {lev mc ms : Nat} {mk : ρ → Option Value} {g : Gy} {as : List Value} {h : va_W} {post : ρ → va_W → Prop} {px : String → va_W → Prop}
    (hl : l.stackTraces = false) (hy : plainName d.1.cls = true) (hlen : (lg_sl as).length ≤ d.2.2.1)
    (body : ∀ (p : Program) (e : Env) (s : State) (m : MethodId) (args : Array Value) (below : List Frame) (meth : Method) (c : Code) (A : Nat → Prop), Cx p l s m args meth c g A d.1.cls d.2.1 d.2.2.1 → meth.sig.returnType = d.2.2.2 → c.exceptionTable.toList = tableOf hh →
      J p l e (rmOf lev mc ms) s m args below meth c g A d.2.2.1 0 0 (vx_MQ below (Qg mk post g A) (XQ px g A) args s mc ms A) 0 (lv_args 0 as) [] h) : SpH l d hh lev mc ms mk g as h post px := by
  intro sz
  refine vx_ofWH hy rfl ?_
  intro p e s m args below meth c s₁ B hml hv
  obtain ⟨rfl, hsz, hP, hK, hD0, hT⟩ := hv
  subst hsz
  have hts : ∀ w ∈ (Cond.codeWith d.1 d.2.1 d.2.2.1 d.2.2.2 hh :: BIG), w.before as.toArray s = true := atoms_spec (ws := Cond.codeWith d.1 d.2.1 d.2.2.1 d.2.2.2 hh :: BIG) B.pre
  have hb9 := body p e s m as.toArray below meth c (va_A h s.heap.size) ⟨B.exec, B.bytes, hml, findClass_of_methodNamed B.named, fun w hw => hts w (List.mem_cons_of_mem _ hw), B.notSynchronized, hK, fun q hq => Or.inr hq, hT, hl⟩ B.returns (vx_table (x := d.1) (y := d.1) B (hts _ List.mem_cons_self))
  rw [lg_entry_eq]
  exact hb9 s.heap [] _ hP (hD0.self (sz := s.heap.size)) va_S.rf (lv_entry as hlen)
section CATCH
variable {p : Program} {l : Launch} {e : Env} {R : Room} {s : State} {m : MethodId} {args : Array Value} {below : List Frame} {meth : Method} {c : Code} {g : Gy} {A : Nat → Prop} {own : String} {cc : ByteArray} {nL : Nat} {cells slots : Nat} {Q : State → Prop} {pc : Nat} {lv : List (Nat × Value)} {st rest : List Value} {h : va_W}
theorem J.lconst (C : Cx p l s m args meth c g A own cc nL) {n : Fin 2} (v : Int64) (d : decode cc pc = .ok (.lconst n, 1)) (hv : Int64.ofNat (n : Nat) = v) (k : J p l e R s m args below meth c g A nL cells slots Q (pc + 1) lv (.long v :: rest) h) : J p l e R s m args below meth c g A nL cells slots Q pc lv rest h := fun H locs ls hP hD hS hl => lv_lconst C.1 C.2.1 d hv (k H locs ls hP hD hS hl)
theorem tableOf_app (a b : HH) : tableOf (a ++ b) = tableOf a ++ tableOf b := by unfold tableOf; exact List.map_append
/-- the handler at the place q of the table takes it; those ahead of it don't -/
theorem J.catch (C : Cx p l s m args meth c g A own cc nL) {hh : HH} (ht : c.exceptionTable.toList = tableOf hh) (a b : HH) {E : String} (x : ExceptionTableEntry) (hsp : tableOf hh = tableOf a ++ x :: tableOf b) (hE : E ∈ xcs) (hpass : ∀ z ∈ tableOf a, z.catchType ≠ 0 ∧ ∃ nm : String, Cond.classLink own z.catchType nm ∈ BIG ∧ nm ∈ xcs ∧ E ≠ nm) (hx : covers x pc = true) (h0 : x.catchType ≠ 0) (hlink : Cond.classLink own x.catchType E ∈ BIG) (hcast : Cond.castable E E ∈ tables_1)
    (k : ∀ q : Nat, J p l e R s m args below meth c g A nL cells slots Q x.handlerPc lv [.ref q] h) : JX p l e R s m args below meth c g A nL cells slots Q pc lv rest h E := fun H locs ls q ce hP hD hS hl hq hv hcl =>
  vx_catch C.2.2.2.1 (tableOf a) x (tableOf b) (ht.trans hsp) (fun z hz => by
    obtain ⟨z1, nm, z2, z3, z4⟩ := hpass z hz
    exact Or.inr ⟨z1, nm, C.2.2.2.2.1 _ z2, C.2.2.2.2.2.2.2.2.1.2.2.2.2 E hE nm z3 z4⟩) hx h0 (C.2.2.2.2.1 _ hlink) (va_Nw.use rfl (C.2.2.2.2.2.2.2.2.1.2.2.2.1 _ hcast rfl)) hq hv hcl (k q H locs ls hP hD hS hl)
/-- a call of the class, with handlers behind it -/
theorem J.callH {ρ : Type} {mk : ρ → Option Value} {d : MD} {lev mc ms n idx ci q0 N b0 : Nat} {Cn : String} {T : u_T} {fs as : List Value} {ad : Nat → Nat} {R9 : va_W} {o1 o2 : Nat} {σ : DS} {w : OS} {x : Res DS ρ} (C : Cx p l s m args meth c g A own cc nL) (hh : h = lwh g ad R9 o1 o2 (σ, w)) (sp : SpR l d lev mc ms mk g (.ref b0 :: as) (dkh g ad (R9 ++ outs g o1 o2 w)) σ x)
    (hst : st = as.reverse ++ .ref b0 :: rest) (hl : Cond.methodLink own idx d.1 ∈ BIG) (hd : MDv d Cn n) (hR : lev + 1 ≤ R.frames ∧ 8 + (d.2.2.1 + 11) + 64 * lev ≤ R.locals) (he : h[q0]? = some (b0, .inr (ci, fs))) (hc : vwCl[ci]? = some (Cn, T, N)) (hn : as.length = n) (hW : (rest.map fun v => v.category).sum ≤ 8) (hdg : decode cc pc = .ok (.invokevirtual idx, 3)) (hf : cells + mc ≤ R.cells ∧ slots + ms ≤ R.slots)
    {cs : List (String × Int32)} {stt : ρ → OS → Option OS} {rr : (Int32 ⊕ String) × LWS} (H : wrT cs stt x w = some rr)
    (kx : ∀ (E : String) (k : Int32) (σ' : DS), cs.lookup E = some k → rr = (.inl k, (σ', w)) → JX p l e R s m args below meth c g A nL (cells + mc) (slots + ms) Q pc lv rest (lwh g ad R9 o1 o2 (σ', w)) E)
    (kk : ∀ (r : ρ) (σ' : DS) (w' : OS), stt r w = some w' → rr = (.inl 0, (σ', w')) → J p l e R s m args below meth c g A nL (cells + mc) (slots + ms) Q (pc + 3) lv ((mk r).toList ++ rest) (lwh g ad R9 o1 o2 (σ', w))) : J p l e R s m args below meth c g A nL cells slots Q pc lv st h := by
  subst hh
  cases hxx : x with
  | none => rw [hxx] at H; cases H
  | some q =>
    obtain ⟨q1, q2⟩ := q
    rw [hxx] at H
    refine J.callV C (sp _ hxx) hst hl hd hR he hc hn hW hdg hf (fun E u hu => ?_) (fun r u hu => ?_)
    · obtain ⟨h1, h2⟩ := hu
      dsimp only at h1 h2
      subst h1
      subst h2
      have H : (match cs.lookup E with | none => none | some k => some (.inl k, (q2, w)) : Res LWS Int32) = some rr := H
      cases hk : cs.lookup E with
      | none => rw [hk] at H; cases H
      | some k => rw [hk] at H; cases H; exact kx E k q2 hk rfl
    · obtain ⟨h1, h2⟩ := hu
      dsimp only at h1 h2
      subst h1
      subst h2
      have H : (match stt r w with | none => none | some w' => some (.inl 0, (q2, w')) : Res LWS Int32) = some rr := H
      cases hk : stt r w with
      | none => rw [hk] at H; cases H
      | some w' => rw [hk] at H; cases H; exact kk r q2 w' hk rfl
end CATCH
theorem lookup_cons {E a : String} {k v : Int32} {r : List (String × Int32)} (h : List.lookup E ((a, v) :: r) = some k) : (E = a ∧ k = v) ∨ (E ≠ a ∧ List.lookup E r = some k) := by
  rw [List.lookup_cons] at h
  by_cases e : E = a
  · subst e
    rw [show (E == E) = true from beq_self_eq_true E] at h
    exact Or.inl ⟨rfl, (Option.some.inj h).symm⟩
  · rw [show (E == a) = false from beq_eq_false_iff_ne.mpr e] at h
    exact Or.inr ⟨e, h⟩
theorem lookup_nil {E : String} {k : Int32} (h : List.lookup E ([] : List (String × Int32)) = some k) : False := by cases h
theorem cast_ArithmeticException : Cond.castable "java/lang/ArithmeticException" "java/lang/ArithmeticException" ∈ tables_1 := List.mem_of_getElem? (i := 1178) (by decide +kernel)
theorem cast_IllegalArgumentException : Cond.castable "java/lang/IllegalArgumentException" "java/lang/IllegalArgumentException" ∈ tables_1 := List.mem_of_getElem? (i := 293) (by decide +kernel)
theorem cast_IllegalStateException : Cond.castable "java/lang/IllegalStateException" "java/lang/IllegalStateException" ∈ tables_1 := List.mem_of_getElem? (i := 417) (by decide +kernel)
theorem cast_IndexOutOfBoundsException : Cond.castable "java/lang/IndexOutOfBoundsException" "java/lang/IndexOutOfBoundsException" ∈ tables_1 := List.mem_of_getElem? (i := 476) (by decide +kernel)
theorem cast_UnsupportedOperationException : Cond.castable "java/lang/UnsupportedOperationException" "java/lang/UnsupportedOperationException" ∈ tables_1 := List.mem_of_getElem? (i := 571) (by decide +kernel)
theorem cast_NoSuchElementException : Cond.castable "java/util/NoSuchElementException" "java/util/NoSuchElementException" ∈ tables_1 := List.mem_of_getElem? (i := 530) (by decide +kernel)
abbrev mL_letter : MD := (yL_letter, cL_letter, 4, some .int)
abbrev hL_letter : HH := [(0, 9, 12, 13), (0, 9, 15, 15)]
def W_L_letter (σ : DS) (w : OS) (a1 : Int32) : Res LWS Int32 := wrT [("java/lang/IllegalArgumentException", 1), ("java/lang/IllegalStateException", 2)] stI (P_X6_letter σ a1) w
set_option maxRecDepth 100000 in
theorem sp_L_letter {l : Launch} (hl : l.stackTraces = false) {g : Gy} {ad : Nat → Nat} {R9 : va_W} {o1 o2 : Nat} (σ : DS) (w : OS) (a1 : Int32) (rr : (Int32 ⊕ String) × LWS) (H : W_L_letter σ w a1 = some rr) : SpH l mL_letter hL_letter 9 2 12 mI g [.ref (ad 0), .int a1, .ref o1] (lwh g ad R9 o1 o2 (σ, w)) (fun r u => rr.1 = .inl r ∧ u = lwh g ad R9 o1 o2 rr.2) (fun _ _ => False) := by
  refine SpH.of hl (by decide) (Nat.le_of_ble_eq_true rfl) (fun p e s m args below meth c A C hr ht => ?_)
  unfold W_L_letter at H
  refine J.lw (lv' := [(0, .ref (ad 0)), (1, .int a1), (2, .ref o1)]) ⟨rfl, rfl, rfl, trivial⟩ ?_
  refine J.aload_n (i := 2) C dL_letter_0 rfl rfl ?_
  refine J.iconst C (0) dL_letter_1 (by decide) ?_
  refine J.aload_n (i := 0) C dL_letter_2 rfl rfl ?_
  refine J.iload_n (i := 1) C dL_letter_3 rfl rfl ?_
  refine J.callH C rfl (sp_X6_letter hl a1) rfl kMl_L_7 mdX6_letter ⟨(Nat.le_of_ble_eq_true rfl), (Nat.le_of_ble_eq_true rfl)⟩ dk_0 rfl rfl (Nat.le_of_ble_eq_true rfl) dL_letter_4 ⟨(Nat.le_of_ble_eq_true rfl), (Nat.le_of_ble_eq_true rfl)⟩ H (fun E k σ1 hk hrr => ?_) (fun r σ1 w1 hst hrr => ?_)
  · rcases lookup_cons hk with ⟨rfl, rfl⟩ | ⟨ne0, hk⟩
    · refine J.catch C ht [] [(0, 9, 15, 15)] { startPc := 0, endPc := 9, handlerPc := 12, catchType := 13 } rfl (by decide) (fun z hz => ?_) (by decide) (by decide) kCl_L_13 cast_IllegalArgumentException (fun q => ?_)
      · cases hz
      · refine J.astore_n (i := 3) C dL_letter_12 rfl (by decide) ?_
        refine J.iconst C (1) dL_letter_13 (by decide) ?_
        exact J.iret C hr (Nat.le_of_ble_eq_true rfl) (Nat.le_of_ble_eq_true rfl) dL_letter_14 ⟨by rw [hrr], by rw [hrr]⟩
    · rcases lookup_cons hk with ⟨rfl, rfl⟩ | ⟨ne1, hk⟩
      · refine J.catch C ht [(0, 9, 12, 13)] [] { startPc := 0, endPc := 9, handlerPc := 15, catchType := 15 } rfl (by decide) (fun z hz => ?_) (by decide) (by decide) kCl_L_15 cast_IllegalStateException (fun q => ?_)
        · have hz : z ∈ ([{ startPc := 0, endPc := 9, handlerPc := 12, catchType := 13 }] : List ExceptionTableEntry) := hz
          simp only [List.mem_cons, List.not_mem_nil, or_false] at hz
          rcases hz with rfl
          · exact ⟨by decide, _, kCl_L_13, by decide, by decide⟩
        · refine J.astore_n (i := 3) C dL_letter_15 rfl (by decide) ?_
          refine J.iconst C (2) dL_letter_16 (by decide) ?_
          exact J.iret C hr (Nat.le_of_ble_eq_true rfl) (Nat.le_of_ble_eq_true rfl) dL_letter_17 ⟨by rw [hrr], by rw [hrr]⟩
      · exact (lookup_nil hk).elim
  · cases hst
    refine J.i2l C dL_letter_7 ?_
    refine J.last C (66 + (R9.length + 0)) lw_0 (show vp_in 0 1 by unfold vp_in; decide) dL_letter_8 ?_
    refine J.heq (lw_s0 _) ?_
    refine J.goto (tgt := 18) C dL_letter_9 (by decide) ?_
    refine J.iconst C (0) dL_letter_18 (by decide) ?_
    exact J.iret C hr (Nat.le_of_ble_eq_true rfl) (Nat.le_of_ble_eq_true rfl) dL_letter_19 ⟨by rw [hrr], by rw [hrr]⟩
abbrev mL_falsum : MD := (yL_falsum, cL_falsum, 3, some .int)
abbrev hL_falsum : HH := [(0, 8, 11, 15)]
def W_L_falsum (σ : DS) (w : OS)  : Res LWS Int32 := wrT [("java/lang/IllegalStateException", 1)] stI (P_X6_falsum σ ) w
set_option maxRecDepth 100000 in
theorem sp_L_falsum {l : Launch} (hl : l.stackTraces = false) {g : Gy} {ad : Nat → Nat} {R9 : va_W} {o1 o2 : Nat} (σ : DS) (w : OS)  (rr : (Int32 ⊕ String) × LWS) (H : W_L_falsum σ w  = some rr) : SpH l mL_falsum hL_falsum 9 1 6 mI g [.ref (ad 0), .ref o1] (lwh g ad R9 o1 o2 (σ, w)) (fun r u => rr.1 = .inl r ∧ u = lwh g ad R9 o1 o2 rr.2) (fun _ _ => False) := by
  refine SpH.of hl (by decide) (Nat.le_of_ble_eq_true rfl) (fun p e s m args below meth c A C hr ht => ?_)
  unfold W_L_falsum at H
  refine J.lw (lv' := [(0, .ref (ad 0)), (1, .ref o1)]) ⟨rfl, rfl, trivial⟩ ?_
  refine J.aload_n (i := 1) C dL_falsum_0 rfl rfl ?_
  refine J.iconst C (0) dL_falsum_1 (by decide) ?_
  refine J.aload_n (i := 0) C dL_falsum_2 rfl rfl ?_
  refine J.callH C rfl (sp_X6_falsum hl ) rfl kMl_L_17 mdX6_falsum ⟨(Nat.le_of_ble_eq_true rfl), (Nat.le_of_ble_eq_true rfl)⟩ dk_0 rfl rfl (Nat.le_of_ble_eq_true rfl) dL_falsum_3 ⟨(Nat.le_of_ble_eq_true rfl), (Nat.le_of_ble_eq_true rfl)⟩ H (fun E k σ1 hk hrr => ?_) (fun r σ1 w1 hst hrr => ?_)
  · rcases lookup_cons hk with ⟨rfl, rfl⟩ | ⟨ne0, hk⟩
    · refine J.catch C ht [] [] { startPc := 0, endPc := 8, handlerPc := 11, catchType := 15 } rfl (by decide) (fun z hz => ?_) (by decide) (by decide) kCl_L_15 cast_IllegalStateException (fun q => ?_)
      · cases hz
      · refine J.astore_n (i := 2) C dL_falsum_11 rfl (by decide) ?_
        refine J.iconst C (1) dL_falsum_12 (by decide) ?_
        exact J.iret C hr (Nat.le_of_ble_eq_true rfl) (Nat.le_of_ble_eq_true rfl) dL_falsum_13 ⟨by rw [hrr], by rw [hrr]⟩
    · exact (lookup_nil hk).elim
  · cases hst
    refine J.i2l C dL_falsum_6 ?_
    refine J.last C (66 + (R9.length + 0)) lw_0 (show vp_in 0 1 by unfold vp_in; decide) dL_falsum_7 ?_
    refine J.heq (lw_s0 _) ?_
    refine J.goto (tgt := 14) C dL_falsum_8 (by decide) ?_
    refine J.iconst C (0) dL_falsum_14 (by decide) ?_
    exact J.iret C hr (Nat.le_of_ble_eq_true rfl) (Nat.le_of_ble_eq_true rfl) dL_falsum_15 ⟨by rw [hrr], by rw [hrr]⟩
abbrev mL_negation : MD := (yL_negation, cL_negation, 4, some .int)
abbrev hL_negation : HH := [(0, 9, 12, 24), (0, 9, 15, 15)]
def W_L_negation (σ : DS) (w : OS) (a1 : Int32) : Res LWS Int32 := wrT [("java/lang/IndexOutOfBoundsException", 1), ("java/lang/IllegalStateException", 2)] stI (P_X6_negation σ a1) w
set_option maxRecDepth 100000 in
theorem sp_L_negation {l : Launch} (hl : l.stackTraces = false) {g : Gy} {ad : Nat → Nat} {R9 : va_W} {o1 o2 : Nat} (σ : DS) (w : OS) (a1 : Int32) (rr : (Int32 ⊕ String) × LWS) (H : W_L_negation σ w a1 = some rr) : SpH l mL_negation hL_negation 9 2 12 mI g [.ref (ad 0), .int a1, .ref o1] (lwh g ad R9 o1 o2 (σ, w)) (fun r u => rr.1 = .inl r ∧ u = lwh g ad R9 o1 o2 rr.2) (fun _ _ => False) := by
  refine SpH.of hl (by decide) (Nat.le_of_ble_eq_true rfl) (fun p e s m args below meth c A C hr ht => ?_)
  unfold W_L_negation at H
  refine J.lw (lv' := [(0, .ref (ad 0)), (1, .int a1), (2, .ref o1)]) ⟨rfl, rfl, rfl, trivial⟩ ?_
  refine J.aload_n (i := 2) C dL_negation_0 rfl rfl ?_
  refine J.iconst C (0) dL_negation_1 (by decide) ?_
  refine J.aload_n (i := 0) C dL_negation_2 rfl rfl ?_
  refine J.iload_n (i := 1) C dL_negation_3 rfl rfl ?_
  refine J.callH C rfl (sp_X6_negation hl a1) rfl kMl_L_21 mdX6_negation ⟨(Nat.le_of_ble_eq_true rfl), (Nat.le_of_ble_eq_true rfl)⟩ dk_0 rfl rfl (Nat.le_of_ble_eq_true rfl) dL_negation_4 ⟨(Nat.le_of_ble_eq_true rfl), (Nat.le_of_ble_eq_true rfl)⟩ H (fun E k σ1 hk hrr => ?_) (fun r σ1 w1 hst hrr => ?_)
  · rcases lookup_cons hk with ⟨rfl, rfl⟩ | ⟨ne0, hk⟩
    · refine J.catch C ht [] [(0, 9, 15, 15)] { startPc := 0, endPc := 9, handlerPc := 12, catchType := 24 } rfl (by decide) (fun z hz => ?_) (by decide) (by decide) kCl_L_24 cast_IndexOutOfBoundsException (fun q => ?_)
      · cases hz
      · refine J.astore_n (i := 3) C dL_negation_12 rfl (by decide) ?_
        refine J.iconst C (1) dL_negation_13 (by decide) ?_
        exact J.iret C hr (Nat.le_of_ble_eq_true rfl) (Nat.le_of_ble_eq_true rfl) dL_negation_14 ⟨by rw [hrr], by rw [hrr]⟩
    · rcases lookup_cons hk with ⟨rfl, rfl⟩ | ⟨ne1, hk⟩
      · refine J.catch C ht [(0, 9, 12, 24)] [] { startPc := 0, endPc := 9, handlerPc := 15, catchType := 15 } rfl (by decide) (fun z hz => ?_) (by decide) (by decide) kCl_L_15 cast_IllegalStateException (fun q => ?_)
        · have hz : z ∈ ([{ startPc := 0, endPc := 9, handlerPc := 12, catchType := 24 }] : List ExceptionTableEntry) := hz
          simp only [List.mem_cons, List.not_mem_nil, or_false] at hz
          rcases hz with rfl
          · exact ⟨by decide, _, kCl_L_24, by decide, by decide⟩
        · refine J.astore_n (i := 3) C dL_negation_15 rfl (by decide) ?_
          refine J.iconst C (2) dL_negation_16 (by decide) ?_
          exact J.iret C hr (Nat.le_of_ble_eq_true rfl) (Nat.le_of_ble_eq_true rfl) dL_negation_17 ⟨by rw [hrr], by rw [hrr]⟩
      · exact (lookup_nil hk).elim
  · cases hst
    refine J.i2l C dL_negation_7 ?_
    refine J.last C (66 + (R9.length + 0)) lw_0 (show vp_in 0 1 by unfold vp_in; decide) dL_negation_8 ?_
    refine J.heq (lw_s0 _) ?_
    refine J.goto (tgt := 18) C dL_negation_9 (by decide) ?_
    refine J.iconst C (0) dL_negation_18 (by decide) ?_
    exact J.iret C hr (Nat.le_of_ble_eq_true rfl) (Nat.le_of_ble_eq_true rfl) dL_negation_19 ⟨by rw [hrr], by rw [hrr]⟩
abbrev mL_conjunction : MD := (yL_conjunction, cL_conjunction, 5, some .int)
abbrev hL_conjunction : HH := [(0, 10, 13, 24), (0, 10, 17, 15)]
def W_L_conjunction (σ : DS) (w : OS) (a1 : Int32) (a2 : Int32) : Res LWS Int32 := wrT [("java/lang/IndexOutOfBoundsException", 1), ("java/lang/IllegalStateException", 2)] stI (P_X6_conjunction σ a1 a2) w
set_option maxRecDepth 100000 in
theorem sp_L_conjunction {l : Launch} (hl : l.stackTraces = false) {g : Gy} {ad : Nat → Nat} {R9 : va_W} {o1 o2 : Nat} (σ : DS) (w : OS) (a1 : Int32) (a2 : Int32) (rr : (Int32 ⊕ String) × LWS) (H : W_L_conjunction σ w a1 a2 = some rr) : SpH l mL_conjunction hL_conjunction 10 3 18 mI g [.ref (ad 0), .int a1, .int a2, .ref o1] (lwh g ad R9 o1 o2 (σ, w)) (fun r u => rr.1 = .inl r ∧ u = lwh g ad R9 o1 o2 rr.2) (fun _ _ => False) := by
  refine SpH.of hl (by decide) (Nat.le_of_ble_eq_true rfl) (fun p e s m args below meth c A C hr ht => ?_)
  unfold W_L_conjunction at H
  refine J.lw (lv' := [(0, .ref (ad 0)), (1, .int a1), (2, .int a2), (3, .ref o1)]) ⟨rfl, rfl, rfl, rfl, trivial⟩ ?_
  refine J.aload_n (i := 3) C dL_conjunction_0 rfl rfl ?_
  refine J.iconst C (0) dL_conjunction_1 (by decide) ?_
  refine J.aload_n (i := 0) C dL_conjunction_2 rfl rfl ?_
  refine J.iload_n (i := 1) C dL_conjunction_3 rfl rfl ?_
  refine J.iload_n (i := 2) C dL_conjunction_4 rfl rfl ?_
  refine J.callH C rfl (sp_X6_conjunction hl a1 a2) rfl kMl_L_26 mdX6_conjunction ⟨(Nat.le_of_ble_eq_true rfl), (Nat.le_of_ble_eq_true rfl)⟩ dk_0 rfl rfl (Nat.le_of_ble_eq_true rfl) dL_conjunction_5 ⟨(Nat.le_of_ble_eq_true rfl), (Nat.le_of_ble_eq_true rfl)⟩ H (fun E k σ1 hk hrr => ?_) (fun r σ1 w1 hst hrr => ?_)
  · rcases lookup_cons hk with ⟨rfl, rfl⟩ | ⟨ne0, hk⟩
    · refine J.catch C ht [] [(0, 10, 17, 15)] { startPc := 0, endPc := 10, handlerPc := 13, catchType := 24 } rfl (by decide) (fun z hz => ?_) (by decide) (by decide) kCl_L_24 cast_IndexOutOfBoundsException (fun q => ?_)
      · cases hz
      · refine J.astore C dL_conjunction_13 (by decide) ?_
        refine J.iconst C (1) dL_conjunction_15 (by decide) ?_
        exact J.iret C hr (Nat.le_of_ble_eq_true rfl) (Nat.le_of_ble_eq_true rfl) dL_conjunction_16 ⟨by rw [hrr], by rw [hrr]⟩
    · rcases lookup_cons hk with ⟨rfl, rfl⟩ | ⟨ne1, hk⟩
      · refine J.catch C ht [(0, 10, 13, 24)] [] { startPc := 0, endPc := 10, handlerPc := 17, catchType := 15 } rfl (by decide) (fun z hz => ?_) (by decide) (by decide) kCl_L_15 cast_IllegalStateException (fun q => ?_)
        · have hz : z ∈ ([{ startPc := 0, endPc := 10, handlerPc := 13, catchType := 24 }] : List ExceptionTableEntry) := hz
          simp only [List.mem_cons, List.not_mem_nil, or_false] at hz
          rcases hz with rfl
          · exact ⟨by decide, _, kCl_L_24, by decide, by decide⟩
        · refine J.astore C dL_conjunction_17 (by decide) ?_
          refine J.iconst C (2) dL_conjunction_19 (by decide) ?_
          exact J.iret C hr (Nat.le_of_ble_eq_true rfl) (Nat.le_of_ble_eq_true rfl) dL_conjunction_20 ⟨by rw [hrr], by rw [hrr]⟩
      · exact (lookup_nil hk).elim
  · cases hst
    refine J.i2l C dL_conjunction_8 ?_
    refine J.last C (66 + (R9.length + 0)) lw_0 (show vp_in 0 1 by unfold vp_in; decide) dL_conjunction_9 ?_
    refine J.heq (lw_s0 _) ?_
    refine J.goto (tgt := 21) C dL_conjunction_10 (by decide) ?_
    refine J.iconst C (0) dL_conjunction_21 (by decide) ?_
    exact J.iret C hr (Nat.le_of_ble_eq_true rfl) (Nat.le_of_ble_eq_true rfl) dL_conjunction_22 ⟨by rw [hrr], by rw [hrr]⟩
abbrev mL_disjunction : MD := (yL_disjunction, cL_disjunction, 5, some .int)
abbrev hL_disjunction : HH := [(0, 10, 13, 24), (0, 10, 17, 15)]
def W_L_disjunction (σ : DS) (w : OS) (a1 : Int32) (a2 : Int32) : Res LWS Int32 := wrT [("java/lang/IndexOutOfBoundsException", 1), ("java/lang/IllegalStateException", 2)] stI (P_X6_disjunction σ a1 a2) w
set_option maxRecDepth 100000 in
theorem sp_L_disjunction {l : Launch} (hl : l.stackTraces = false) {g : Gy} {ad : Nat → Nat} {R9 : va_W} {o1 o2 : Nat} (σ : DS) (w : OS) (a1 : Int32) (a2 : Int32) (rr : (Int32 ⊕ String) × LWS) (H : W_L_disjunction σ w a1 a2 = some rr) : SpH l mL_disjunction hL_disjunction 10 3 18 mI g [.ref (ad 0), .int a1, .int a2, .ref o1] (lwh g ad R9 o1 o2 (σ, w)) (fun r u => rr.1 = .inl r ∧ u = lwh g ad R9 o1 o2 rr.2) (fun _ _ => False) := by
  refine SpH.of hl (by decide) (Nat.le_of_ble_eq_true rfl) (fun p e s m args below meth c A C hr ht => ?_)
  unfold W_L_disjunction at H
  refine J.lw (lv' := [(0, .ref (ad 0)), (1, .int a1), (2, .int a2), (3, .ref o1)]) ⟨rfl, rfl, rfl, rfl, trivial⟩ ?_
  refine J.aload_n (i := 3) C dL_disjunction_0 rfl rfl ?_
  refine J.iconst C (0) dL_disjunction_1 (by decide) ?_
  refine J.aload_n (i := 0) C dL_disjunction_2 rfl rfl ?_
  refine J.iload_n (i := 1) C dL_disjunction_3 rfl rfl ?_
  refine J.iload_n (i := 2) C dL_disjunction_4 rfl rfl ?_
  refine J.callH C rfl (sp_X6_disjunction hl a1 a2) rfl kMl_L_30 mdX6_disjunction ⟨(Nat.le_of_ble_eq_true rfl), (Nat.le_of_ble_eq_true rfl)⟩ dk_0 rfl rfl (Nat.le_of_ble_eq_true rfl) dL_disjunction_5 ⟨(Nat.le_of_ble_eq_true rfl), (Nat.le_of_ble_eq_true rfl)⟩ H (fun E k σ1 hk hrr => ?_) (fun r σ1 w1 hst hrr => ?_)
  · rcases lookup_cons hk with ⟨rfl, rfl⟩ | ⟨ne0, hk⟩
    · refine J.catch C ht [] [(0, 10, 17, 15)] { startPc := 0, endPc := 10, handlerPc := 13, catchType := 24 } rfl (by decide) (fun z hz => ?_) (by decide) (by decide) kCl_L_24 cast_IndexOutOfBoundsException (fun q => ?_)
      · cases hz
      · refine J.astore C dL_disjunction_13 (by decide) ?_
        refine J.iconst C (1) dL_disjunction_15 (by decide) ?_
        exact J.iret C hr (Nat.le_of_ble_eq_true rfl) (Nat.le_of_ble_eq_true rfl) dL_disjunction_16 ⟨by rw [hrr], by rw [hrr]⟩
    · rcases lookup_cons hk with ⟨rfl, rfl⟩ | ⟨ne1, hk⟩
      · refine J.catch C ht [(0, 10, 13, 24)] [] { startPc := 0, endPc := 10, handlerPc := 17, catchType := 15 } rfl (by decide) (fun z hz => ?_) (by decide) (by decide) kCl_L_15 cast_IllegalStateException (fun q => ?_)
        · have hz : z ∈ ([{ startPc := 0, endPc := 10, handlerPc := 13, catchType := 24 }] : List ExceptionTableEntry) := hz
          simp only [List.mem_cons, List.not_mem_nil, or_false] at hz
          rcases hz with rfl
          · exact ⟨by decide, _, kCl_L_24, by decide, by decide⟩
        · refine J.astore C dL_disjunction_17 (by decide) ?_
          refine J.iconst C (2) dL_disjunction_19 (by decide) ?_
          exact J.iret C hr (Nat.le_of_ble_eq_true rfl) (Nat.le_of_ble_eq_true rfl) dL_disjunction_20 ⟨by rw [hrr], by rw [hrr]⟩
      · exact (lookup_nil hk).elim
  · cases hst
    refine J.i2l C dL_disjunction_8 ?_
    refine J.last C (66 + (R9.length + 0)) lw_0 (show vp_in 0 1 by unfold vp_in; decide) dL_disjunction_9 ?_
    refine J.heq (lw_s0 _) ?_
    refine J.goto (tgt := 21) C dL_disjunction_10 (by decide) ?_
    refine J.iconst C (0) dL_disjunction_21 (by decide) ?_
    exact J.iret C hr (Nat.le_of_ble_eq_true rfl) (Nat.le_of_ble_eq_true rfl) dL_disjunction_22 ⟨by rw [hrr], by rw [hrr]⟩
abbrev mL_implication : MD := (yL_implication, cL_implication, 5, some .int)
abbrev hL_implication : HH := [(0, 10, 13, 24), (0, 10, 17, 15)]
def W_L_implication (σ : DS) (w : OS) (a1 : Int32) (a2 : Int32) : Res LWS Int32 := wrT [("java/lang/IndexOutOfBoundsException", 1), ("java/lang/IllegalStateException", 2)] stI (P_X6_implication σ a1 a2) w
set_option maxRecDepth 100000 in
theorem sp_L_implication {l : Launch} (hl : l.stackTraces = false) {g : Gy} {ad : Nat → Nat} {R9 : va_W} {o1 o2 : Nat} (σ : DS) (w : OS) (a1 : Int32) (a2 : Int32) (rr : (Int32 ⊕ String) × LWS) (H : W_L_implication σ w a1 a2 = some rr) : SpH l mL_implication hL_implication 10 3 18 mI g [.ref (ad 0), .int a1, .int a2, .ref o1] (lwh g ad R9 o1 o2 (σ, w)) (fun r u => rr.1 = .inl r ∧ u = lwh g ad R9 o1 o2 rr.2) (fun _ _ => False) := by
  refine SpH.of hl (by decide) (Nat.le_of_ble_eq_true rfl) (fun p e s m args below meth c A C hr ht => ?_)
  unfold W_L_implication at H
  refine J.lw (lv' := [(0, .ref (ad 0)), (1, .int a1), (2, .int a2), (3, .ref o1)]) ⟨rfl, rfl, rfl, rfl, trivial⟩ ?_
  refine J.aload_n (i := 3) C dL_implication_0 rfl rfl ?_
  refine J.iconst C (0) dL_implication_1 (by decide) ?_
  refine J.aload_n (i := 0) C dL_implication_2 rfl rfl ?_
  refine J.iload_n (i := 1) C dL_implication_3 rfl rfl ?_
  refine J.iload_n (i := 2) C dL_implication_4 rfl rfl ?_
  refine J.callH C rfl (sp_X6_implication hl a1 a2) rfl kMl_L_33 mdX6_implication ⟨(Nat.le_of_ble_eq_true rfl), (Nat.le_of_ble_eq_true rfl)⟩ dk_0 rfl rfl (Nat.le_of_ble_eq_true rfl) dL_implication_5 ⟨(Nat.le_of_ble_eq_true rfl), (Nat.le_of_ble_eq_true rfl)⟩ H (fun E k σ1 hk hrr => ?_) (fun r σ1 w1 hst hrr => ?_)
  · rcases lookup_cons hk with ⟨rfl, rfl⟩ | ⟨ne0, hk⟩
    · refine J.catch C ht [] [(0, 10, 17, 15)] { startPc := 0, endPc := 10, handlerPc := 13, catchType := 24 } rfl (by decide) (fun z hz => ?_) (by decide) (by decide) kCl_L_24 cast_IndexOutOfBoundsException (fun q => ?_)
      · cases hz
      · refine J.astore C dL_implication_13 (by decide) ?_
        refine J.iconst C (1) dL_implication_15 (by decide) ?_
        exact J.iret C hr (Nat.le_of_ble_eq_true rfl) (Nat.le_of_ble_eq_true rfl) dL_implication_16 ⟨by rw [hrr], by rw [hrr]⟩
    · rcases lookup_cons hk with ⟨rfl, rfl⟩ | ⟨ne1, hk⟩
      · refine J.catch C ht [(0, 10, 13, 24)] [] { startPc := 0, endPc := 10, handlerPc := 17, catchType := 15 } rfl (by decide) (fun z hz => ?_) (by decide) (by decide) kCl_L_15 cast_IllegalStateException (fun q => ?_)
        · have hz : z ∈ ([{ startPc := 0, endPc := 10, handlerPc := 13, catchType := 24 }] : List ExceptionTableEntry) := hz
          simp only [List.mem_cons, List.not_mem_nil, or_false] at hz
          rcases hz with rfl
          · exact ⟨by decide, _, kCl_L_24, by decide, by decide⟩
        · refine J.astore C dL_implication_17 (by decide) ?_
          refine J.iconst C (2) dL_implication_19 (by decide) ?_
          exact J.iret C hr (Nat.le_of_ble_eq_true rfl) (Nat.le_of_ble_eq_true rfl) dL_implication_20 ⟨by rw [hrr], by rw [hrr]⟩
      · exact (lookup_nil hk).elim
  · cases hst
    refine J.i2l C dL_implication_8 ?_
    refine J.last C (66 + (R9.length + 0)) lw_0 (show vp_in 0 1 by unfold vp_in; decide) dL_implication_9 ?_
    refine J.heq (lw_s0 _) ?_
    refine J.goto (tgt := 21) C dL_implication_10 (by decide) ?_
    refine J.iconst C (0) dL_implication_21 (by decide) ?_
    exact J.iret C hr (Nat.le_of_ble_eq_true rfl) (Nat.le_of_ble_eq_true rfl) dL_implication_22 ⟨by rw [hrr], by rw [hrr]⟩
abbrev mL_sizeOf : MD := (yL_sizeOf, cL_sizeOf, 4, some .int)
abbrev hL_sizeOf : HH := [(0, 9, 12, 24)]
def W_L_sizeOf (σ : DS) (w : OS) (a1 : Int32) : Res LWS Int32 := wrT [("java/lang/IndexOutOfBoundsException", 1)] stI (P_X6_sizeOf σ a1) w
set_option maxRecDepth 100000 in
theorem sp_L_sizeOf {l : Launch} (hl : l.stackTraces = false) {g : Gy} {ad : Nat → Nat} {R9 : va_W} {o1 o2 : Nat} (σ : DS) (w : OS) (a1 : Int32) (rr : (Int32 ⊕ String) × LWS) (H : W_L_sizeOf σ w a1 = some rr) : SpH l mL_sizeOf hL_sizeOf 9 1 6 mI g [.ref (ad 0), .int a1, .ref o1] (lwh g ad R9 o1 o2 (σ, w)) (fun r u => rr.1 = .inl r ∧ u = lwh g ad R9 o1 o2 rr.2) (fun _ _ => False) := by
  refine SpH.of hl (by decide) (Nat.le_of_ble_eq_true rfl) (fun p e s m args below meth c A C hr ht => ?_)
  unfold W_L_sizeOf at H
  refine J.lw (lv' := [(0, .ref (ad 0)), (1, .int a1), (2, .ref o1)]) ⟨rfl, rfl, rfl, trivial⟩ ?_
  refine J.aload_n (i := 2) C dL_sizeOf_0 rfl rfl ?_
  refine J.iconst C (0) dL_sizeOf_1 (by decide) ?_
  refine J.aload_n (i := 0) C dL_sizeOf_2 rfl rfl ?_
  refine J.iload_n (i := 1) C dL_sizeOf_3 rfl rfl ?_
  refine J.callH C rfl (sp_X6_sizeOf hl a1) rfl kMl_L_36 mdX6_sizeOf ⟨(Nat.le_of_ble_eq_true rfl), (Nat.le_of_ble_eq_true rfl)⟩ dk_0 rfl rfl (Nat.le_of_ble_eq_true rfl) dL_sizeOf_4 ⟨(Nat.le_of_ble_eq_true rfl), (Nat.le_of_ble_eq_true rfl)⟩ H (fun E k σ1 hk hrr => ?_) (fun r σ1 w1 hst hrr => ?_)
  · rcases lookup_cons hk with ⟨rfl, rfl⟩ | ⟨ne0, hk⟩
    · refine J.catch C ht [] [] { startPc := 0, endPc := 9, handlerPc := 12, catchType := 24 } rfl (by decide) (fun z hz => ?_) (by decide) (by decide) kCl_L_24 cast_IndexOutOfBoundsException (fun q => ?_)
      · cases hz
      · refine J.astore_n (i := 3) C dL_sizeOf_12 rfl (by decide) ?_
        refine J.iconst C (1) dL_sizeOf_13 (by decide) ?_
        exact J.iret C hr (Nat.le_of_ble_eq_true rfl) (Nat.le_of_ble_eq_true rfl) dL_sizeOf_14 ⟨by rw [hrr], by rw [hrr]⟩
    · exact (lookup_nil hk).elim
  · cases hst
    refine J.i2l C dL_sizeOf_7 ?_
    refine J.last C (66 + (R9.length + 0)) lw_0 (show vp_in 0 1 by unfold vp_in; decide) dL_sizeOf_8 ?_
    refine J.heq (lw_s0 _) ?_
    refine J.goto (tgt := 15) C dL_sizeOf_9 (by decide) ?_
    refine J.iconst C (0) dL_sizeOf_15 (by decide) ?_
    exact J.iret C hr (Nat.le_of_ble_eq_true rfl) (Nat.le_of_ble_eq_true rfl) dL_sizeOf_16 ⟨by rw [hrr], by rw [hrr]⟩
abbrev mL_symbolAt : MD := (yL_symbolAt, cL_symbolAt, 5, some .int)
abbrev hL_symbolAt : HH := [(0, 10, 13, 24), (0, 10, 17, 43)]
def W_L_symbolAt (σ : DS) (w : OS) (a1 : Int32) (a2 : Int32) : Res LWS Int32 := wrT [("java/lang/IndexOutOfBoundsException", 1), ("java/util/NoSuchElementException", 2)] stI (P_X6_symbolAt σ a1 a2) w
set_option maxRecDepth 100000 in
theorem sp_L_symbolAt {l : Launch} (hl : l.stackTraces = false) {g : Gy} {ad : Nat → Nat} {R9 : va_W} {o1 o2 : Nat} (σ : DS) (w : OS) (a1 : Int32) (a2 : Int32) (rr : (Int32 ⊕ String) × LWS) (H : W_L_symbolAt σ w a1 a2 = some rr) : SpH l mL_symbolAt hL_symbolAt 9 2 12 mI g [.ref (ad 0), .int a1, .int a2, .ref o1] (lwh g ad R9 o1 o2 (σ, w)) (fun r u => rr.1 = .inl r ∧ u = lwh g ad R9 o1 o2 rr.2) (fun _ _ => False) := by
  refine SpH.of hl (by decide) (Nat.le_of_ble_eq_true rfl) (fun p e s m args below meth c A C hr ht => ?_)
  unfold W_L_symbolAt at H
  refine J.lw (lv' := [(0, .ref (ad 0)), (1, .int a1), (2, .int a2), (3, .ref o1)]) ⟨rfl, rfl, rfl, rfl, trivial⟩ ?_
  refine J.aload_n (i := 3) C dL_symbolAt_0 rfl rfl ?_
  refine J.iconst C (0) dL_symbolAt_1 (by decide) ?_
  refine J.aload_n (i := 0) C dL_symbolAt_2 rfl rfl ?_
  refine J.iload_n (i := 1) C dL_symbolAt_3 rfl rfl ?_
  refine J.iload_n (i := 2) C dL_symbolAt_4 rfl rfl ?_
  refine J.callH C rfl (sp_X6_symbolAt hl a1 a2) rfl kMl_L_39 mdX6_symbolAt ⟨(Nat.le_of_ble_eq_true rfl), (Nat.le_of_ble_eq_true rfl)⟩ dk_0 rfl rfl (Nat.le_of_ble_eq_true rfl) dL_symbolAt_5 ⟨(Nat.le_of_ble_eq_true rfl), (Nat.le_of_ble_eq_true rfl)⟩ H (fun E k σ1 hk hrr => ?_) (fun r σ1 w1 hst hrr => ?_)
  · rcases lookup_cons hk with ⟨rfl, rfl⟩ | ⟨ne0, hk⟩
    · refine J.catch C ht [] [(0, 10, 17, 43)] { startPc := 0, endPc := 10, handlerPc := 13, catchType := 24 } rfl (by decide) (fun z hz => ?_) (by decide) (by decide) kCl_L_24 cast_IndexOutOfBoundsException (fun q => ?_)
      · cases hz
      · refine J.astore C dL_symbolAt_13 (by decide) ?_
        refine J.iconst C (1) dL_symbolAt_15 (by decide) ?_
        exact J.iret C hr (Nat.le_of_ble_eq_true rfl) (Nat.le_of_ble_eq_true rfl) dL_symbolAt_16 ⟨by rw [hrr], by rw [hrr]⟩
    · rcases lookup_cons hk with ⟨rfl, rfl⟩ | ⟨ne1, hk⟩
      · refine J.catch C ht [(0, 10, 13, 24)] [] { startPc := 0, endPc := 10, handlerPc := 17, catchType := 43 } rfl (by decide) (fun z hz => ?_) (by decide) (by decide) kCl_L_43 cast_NoSuchElementException (fun q => ?_)
        · have hz : z ∈ ([{ startPc := 0, endPc := 10, handlerPc := 13, catchType := 24 }] : List ExceptionTableEntry) := hz
          simp only [List.mem_cons, List.not_mem_nil, or_false] at hz
          rcases hz with rfl
          · exact ⟨by decide, _, kCl_L_24, by decide, by decide⟩
        · refine J.astore C dL_symbolAt_17 (by decide) ?_
          refine J.iconst C (2) dL_symbolAt_19 (by decide) ?_
          exact J.iret C hr (Nat.le_of_ble_eq_true rfl) (Nat.le_of_ble_eq_true rfl) dL_symbolAt_20 ⟨by rw [hrr], by rw [hrr]⟩
      · exact (lookup_nil hk).elim
  · cases hst
    refine J.i2l C dL_symbolAt_8 ?_
    refine J.last C (66 + (R9.length + 0)) lw_0 (show vp_in 0 1 by unfold vp_in; decide) dL_symbolAt_9 ?_
    refine J.heq (lw_s0 _) ?_
    refine J.goto (tgt := 21) C dL_symbolAt_10 (by decide) ?_
    refine J.iconst C (0) dL_symbolAt_21 (by decide) ?_
    exact J.iret C hr (Nat.le_of_ble_eq_true rfl) (Nat.le_of_ble_eq_true rfl) dL_symbolAt_22 ⟨by rw [hrr], by rw [hrr]⟩
abbrev mL_bind : MD := (yL_bind, cL_bind, 5, some .int)
abbrev hL_bind : HH := [(0, 10, 13, 13), (0, 10, 17, 24)]
def W_L_bind (σ : DS) (w : OS) (a1 : Int32) (a2 : Int32) : Res LWS Int32 := wrT [("java/lang/IllegalArgumentException", 1), ("java/lang/IndexOutOfBoundsException", 2)] stI (P_X6_bind σ a1 a2) w
set_option maxRecDepth 100000 in
theorem sp_L_bind {l : Launch} (hl : l.stackTraces = false) {g : Gy} {ad : Nat → Nat} {R9 : va_W} {o1 o2 : Nat} (σ : DS) (w : OS) (a1 : Int32) (a2 : Int32) (rr : (Int32 ⊕ String) × LWS) (H : W_L_bind σ w a1 a2 = some rr) : SpH l mL_bind hL_bind 9 2 12 mI g [.ref (ad 0), .int a1, .int a2, .ref o1] (lwh g ad R9 o1 o2 (σ, w)) (fun r u => rr.1 = .inl r ∧ u = lwh g ad R9 o1 o2 rr.2) (fun _ _ => False) := by
  refine SpH.of hl (by decide) (Nat.le_of_ble_eq_true rfl) (fun p e s m args below meth c A C hr ht => ?_)
  unfold W_L_bind at H
  refine J.lw (lv' := [(0, .ref (ad 0)), (1, .int a1), (2, .int a2), (3, .ref o1)]) ⟨rfl, rfl, rfl, rfl, trivial⟩ ?_
  refine J.aload_n (i := 3) C dL_bind_0 rfl rfl ?_
  refine J.iconst C (0) dL_bind_1 (by decide) ?_
  refine J.aload_n (i := 0) C dL_bind_2 rfl rfl ?_
  refine J.iload_n (i := 1) C dL_bind_3 rfl rfl ?_
  refine J.iload_n (i := 2) C dL_bind_4 rfl rfl ?_
  refine J.callH C rfl (sp_X6_bind hl a1 a2) rfl kMl_L_45 mdX6_bind ⟨(Nat.le_of_ble_eq_true rfl), (Nat.le_of_ble_eq_true rfl)⟩ dk_0 rfl rfl (Nat.le_of_ble_eq_true rfl) dL_bind_5 ⟨(Nat.le_of_ble_eq_true rfl), (Nat.le_of_ble_eq_true rfl)⟩ H (fun E k σ1 hk hrr => ?_) (fun r σ1 w1 hst hrr => ?_)
  · rcases lookup_cons hk with ⟨rfl, rfl⟩ | ⟨ne0, hk⟩
    · refine J.catch C ht [] [(0, 10, 17, 24)] { startPc := 0, endPc := 10, handlerPc := 13, catchType := 13 } rfl (by decide) (fun z hz => ?_) (by decide) (by decide) kCl_L_13 cast_IllegalArgumentException (fun q => ?_)
      · cases hz
      · refine J.astore C dL_bind_13 (by decide) ?_
        refine J.iconst C (1) dL_bind_15 (by decide) ?_
        exact J.iret C hr (Nat.le_of_ble_eq_true rfl) (Nat.le_of_ble_eq_true rfl) dL_bind_16 ⟨by rw [hrr], by rw [hrr]⟩
    · rcases lookup_cons hk with ⟨rfl, rfl⟩ | ⟨ne1, hk⟩
      · refine J.catch C ht [(0, 10, 13, 13)] [] { startPc := 0, endPc := 10, handlerPc := 17, catchType := 24 } rfl (by decide) (fun z hz => ?_) (by decide) (by decide) kCl_L_24 cast_IndexOutOfBoundsException (fun q => ?_)
        · have hz : z ∈ ([{ startPc := 0, endPc := 10, handlerPc := 13, catchType := 13 }] : List ExceptionTableEntry) := hz
          simp only [List.mem_cons, List.not_mem_nil, or_false] at hz
          rcases hz with rfl
          · exact ⟨by decide, _, kCl_L_13, by decide, by decide⟩
        · refine J.astore C dL_bind_17 (by decide) ?_
          refine J.iconst C (2) dL_bind_19 (by decide) ?_
          exact J.iret C hr (Nat.le_of_ble_eq_true rfl) (Nat.le_of_ble_eq_true rfl) dL_bind_20 ⟨by rw [hrr], by rw [hrr]⟩
      · exact (lookup_nil hk).elim
  · cases hst
    refine J.i2l C dL_bind_8 ?_
    refine J.last C (66 + (R9.length + 0)) lw_0 (show vp_in 0 1 by unfold vp_in; decide) dL_bind_9 ?_
    refine J.heq (lw_s0 _) ?_
    refine J.goto (tgt := 21) C dL_bind_10 (by decide) ?_
    refine J.iconst C (0) dL_bind_21 (by decide) ?_
    exact J.iret C hr (Nat.le_of_ble_eq_true rfl) (Nat.le_of_ble_eq_true rfl) dL_bind_22 ⟨by rw [hrr], by rw [hrr]⟩
abbrev mL_premise : MD := (yL_premise, cL_premise, 4, some .int)
abbrev hL_premise : HH := [(0, 9, 12, 24), (0, 9, 15, 51), (0, 9, 18, 15)]
def W_L_premise (σ : DS) (w : OS) (a1 : Int32) : Res LWS Int32 := wrT [("java/lang/IndexOutOfBoundsException", 1), ("java/lang/UnsupportedOperationException", 2), ("java/lang/IllegalStateException", 3)] stI (P_X6_premise σ a1) w
set_option maxRecDepth 100000 in
theorem sp_L_premise {l : Launch} (hl : l.stackTraces = false) {g : Gy} {ad : Nat → Nat} {R9 : va_W} {o1 o2 : Nat} (σ : DS) (w : OS) (a1 : Int32) (rr : (Int32 ⊕ String) × LWS) (H : W_L_premise σ w a1 = some rr) : SpH l mL_premise hL_premise 9 3 18 mI g [.ref (ad 0), .int a1, .ref o1] (lwh g ad R9 o1 o2 (σ, w)) (fun r u => rr.1 = .inl r ∧ u = lwh g ad R9 o1 o2 rr.2) (fun _ _ => False) := by
  refine SpH.of hl (by decide) (Nat.le_of_ble_eq_true rfl) (fun p e s m args below meth c A C hr ht => ?_)
  unfold W_L_premise at H
  refine J.lw (lv' := [(0, .ref (ad 0)), (1, .int a1), (2, .ref o1)]) ⟨rfl, rfl, rfl, trivial⟩ ?_
  refine J.aload_n (i := 2) C dL_premise_0 rfl rfl ?_
  refine J.iconst C (0) dL_premise_1 (by decide) ?_
  refine J.aload_n (i := 0) C dL_premise_2 rfl rfl ?_
  refine J.iload_n (i := 1) C dL_premise_3 rfl rfl ?_
  refine J.callH C rfl (sp_X6_premise hl a1) rfl kMl_L_48 mdX6_premise ⟨(Nat.le_of_ble_eq_true rfl), (Nat.le_of_ble_eq_true rfl)⟩ dk_0 rfl rfl (Nat.le_of_ble_eq_true rfl) dL_premise_4 ⟨(Nat.le_of_ble_eq_true rfl), (Nat.le_of_ble_eq_true rfl)⟩ H (fun E k σ1 hk hrr => ?_) (fun r σ1 w1 hst hrr => ?_)
  · rcases lookup_cons hk with ⟨rfl, rfl⟩ | ⟨ne0, hk⟩
    · refine J.catch C ht [] [(0, 9, 15, 51), (0, 9, 18, 15)] { startPc := 0, endPc := 9, handlerPc := 12, catchType := 24 } rfl (by decide) (fun z hz => ?_) (by decide) (by decide) kCl_L_24 cast_IndexOutOfBoundsException (fun q => ?_)
      · cases hz
      · refine J.astore_n (i := 3) C dL_premise_12 rfl (by decide) ?_
        refine J.iconst C (1) dL_premise_13 (by decide) ?_
        exact J.iret C hr (Nat.le_of_ble_eq_true rfl) (Nat.le_of_ble_eq_true rfl) dL_premise_14 ⟨by rw [hrr], by rw [hrr]⟩
    · rcases lookup_cons hk with ⟨rfl, rfl⟩ | ⟨ne1, hk⟩
      · refine J.catch C ht [(0, 9, 12, 24)] [(0, 9, 18, 15)] { startPc := 0, endPc := 9, handlerPc := 15, catchType := 51 } rfl (by decide) (fun z hz => ?_) (by decide) (by decide) kCl_L_51 cast_UnsupportedOperationException (fun q => ?_)
        · have hz : z ∈ ([{ startPc := 0, endPc := 9, handlerPc := 12, catchType := 24 }] : List ExceptionTableEntry) := hz
          simp only [List.mem_cons, List.not_mem_nil, or_false] at hz
          rcases hz with rfl
          · exact ⟨by decide, _, kCl_L_24, by decide, by decide⟩
        · refine J.astore_n (i := 3) C dL_premise_15 rfl (by decide) ?_
          refine J.iconst C (2) dL_premise_16 (by decide) ?_
          exact J.iret C hr (Nat.le_of_ble_eq_true rfl) (Nat.le_of_ble_eq_true rfl) dL_premise_17 ⟨by rw [hrr], by rw [hrr]⟩
      · rcases lookup_cons hk with ⟨rfl, rfl⟩ | ⟨ne2, hk⟩
        · refine J.catch C ht [(0, 9, 12, 24), (0, 9, 15, 51)] [] { startPc := 0, endPc := 9, handlerPc := 18, catchType := 15 } rfl (by decide) (fun z hz => ?_) (by decide) (by decide) kCl_L_15 cast_IllegalStateException (fun q => ?_)
          · have hz : z ∈ ([{ startPc := 0, endPc := 9, handlerPc := 12, catchType := 24 }, { startPc := 0, endPc := 9, handlerPc := 15, catchType := 51 }] : List ExceptionTableEntry) := hz
            simp only [List.mem_cons, List.not_mem_nil, or_false] at hz
            rcases hz with rfl | rfl
            · exact ⟨by decide, _, kCl_L_24, by decide, by decide⟩
            · exact ⟨by decide, _, kCl_L_51, by decide, by decide⟩
          · refine J.astore_n (i := 3) C dL_premise_18 rfl (by decide) ?_
            refine J.iconst C (3) dL_premise_19 (by decide) ?_
            exact J.iret C hr (Nat.le_of_ble_eq_true rfl) (Nat.le_of_ble_eq_true rfl) dL_premise_20 ⟨by rw [hrr], by rw [hrr]⟩
        · exact (lookup_nil hk).elim
  · cases hst
    refine J.i2l C dL_premise_7 ?_
    refine J.last C (66 + (R9.length + 0)) lw_0 (show vp_in 0 1 by unfold vp_in; decide) dL_premise_8 ?_
    refine J.heq (lw_s0 _) ?_
    refine J.goto (tgt := 21) C dL_premise_9 (by decide) ?_
    refine J.iconst C (0) dL_premise_21 (by decide) ?_
    exact J.iret C hr (Nat.le_of_ble_eq_true rfl) (Nat.le_of_ble_eq_true rfl) dL_premise_22 ⟨by rw [hrr], by rw [hrr]⟩
abbrev mL_assume : MD := (yL_assume, cL_assume, 4, some .int)
abbrev hL_assume : HH := [(0, 9, 12, 24), (0, 9, 15, 15)]
def W_L_assume (σ : DS) (w : OS) (a1 : Int32) : Res LWS Int32 := wrT [("java/lang/IndexOutOfBoundsException", 1), ("java/lang/IllegalStateException", 2)] stI (P_X6_assume σ a1) w
set_option maxRecDepth 100000 in
theorem sp_L_assume {l : Launch} (hl : l.stackTraces = false) {g : Gy} {ad : Nat → Nat} {R9 : va_W} {o1 o2 : Nat} (σ : DS) (w : OS) (a1 : Int32) (rr : (Int32 ⊕ String) × LWS) (H : W_L_assume σ w a1 = some rr) : SpH l mL_assume hL_assume 9 2 12 mI g [.ref (ad 0), .int a1, .ref o1] (lwh g ad R9 o1 o2 (σ, w)) (fun r u => rr.1 = .inl r ∧ u = lwh g ad R9 o1 o2 rr.2) (fun _ _ => False) := by
  refine SpH.of hl (by decide) (Nat.le_of_ble_eq_true rfl) (fun p e s m args below meth c A C hr ht => ?_)
  unfold W_L_assume at H
  refine J.lw (lv' := [(0, .ref (ad 0)), (1, .int a1), (2, .ref o1)]) ⟨rfl, rfl, rfl, trivial⟩ ?_
  refine J.aload_n (i := 2) C dL_assume_0 rfl rfl ?_
  refine J.iconst C (0) dL_assume_1 (by decide) ?_
  refine J.aload_n (i := 0) C dL_assume_2 rfl rfl ?_
  refine J.iload_n (i := 1) C dL_assume_3 rfl rfl ?_
  refine J.callH C rfl (sp_X6_assume hl a1) rfl kMl_L_53 mdX6_assume ⟨(Nat.le_of_ble_eq_true rfl), (Nat.le_of_ble_eq_true rfl)⟩ dk_0 rfl rfl (Nat.le_of_ble_eq_true rfl) dL_assume_4 ⟨(Nat.le_of_ble_eq_true rfl), (Nat.le_of_ble_eq_true rfl)⟩ H (fun E k σ1 hk hrr => ?_) (fun r σ1 w1 hst hrr => ?_)
  · rcases lookup_cons hk with ⟨rfl, rfl⟩ | ⟨ne0, hk⟩
    · refine J.catch C ht [] [(0, 9, 15, 15)] { startPc := 0, endPc := 9, handlerPc := 12, catchType := 24 } rfl (by decide) (fun z hz => ?_) (by decide) (by decide) kCl_L_24 cast_IndexOutOfBoundsException (fun q => ?_)
      · cases hz
      · refine J.astore_n (i := 3) C dL_assume_12 rfl (by decide) ?_
        refine J.iconst C (1) dL_assume_13 (by decide) ?_
        exact J.iret C hr (Nat.le_of_ble_eq_true rfl) (Nat.le_of_ble_eq_true rfl) dL_assume_14 ⟨by rw [hrr], by rw [hrr]⟩
    · rcases lookup_cons hk with ⟨rfl, rfl⟩ | ⟨ne1, hk⟩
      · refine J.catch C ht [(0, 9, 12, 24)] [] { startPc := 0, endPc := 9, handlerPc := 15, catchType := 15 } rfl (by decide) (fun z hz => ?_) (by decide) (by decide) kCl_L_15 cast_IllegalStateException (fun q => ?_)
        · have hz : z ∈ ([{ startPc := 0, endPc := 9, handlerPc := 12, catchType := 24 }] : List ExceptionTableEntry) := hz
          simp only [List.mem_cons, List.not_mem_nil, or_false] at hz
          rcases hz with rfl
          · exact ⟨by decide, _, kCl_L_24, by decide, by decide⟩
        · refine J.astore_n (i := 3) C dL_assume_15 rfl (by decide) ?_
          refine J.iconst C (2) dL_assume_16 (by decide) ?_
          exact J.iret C hr (Nat.le_of_ble_eq_true rfl) (Nat.le_of_ble_eq_true rfl) dL_assume_17 ⟨by rw [hrr], by rw [hrr]⟩
      · exact (lookup_nil hk).elim
  · cases hst
    refine J.i2l C dL_assume_7 ?_
    refine J.last C (66 + (R9.length + 0)) lw_0 (show vp_in 0 1 by unfold vp_in; decide) dL_assume_8 ?_
    refine J.heq (lw_s0 _) ?_
    refine J.goto (tgt := 18) C dL_assume_9 (by decide) ?_
    refine J.iconst C (0) dL_assume_18 (by decide) ?_
    exact J.iret C hr (Nat.le_of_ble_eq_true rfl) (Nat.le_of_ble_eq_true rfl) dL_assume_19 ⟨by rw [hrr], by rw [hrr]⟩
abbrev mL_closeBox : MD := (yL_closeBox, cL_closeBox, 3, some .int)
abbrev hL_closeBox : HH := [(0, 8, 11, 15)]
def W_L_closeBox (σ : DS) (w : OS)  : Res LWS Int32 := wrT [("java/lang/IllegalStateException", 1)] stI (P_X6_closeBox σ ) w
set_option maxRecDepth 100000 in
theorem sp_L_closeBox {l : Launch} (hl : l.stackTraces = false) {g : Gy} {ad : Nat → Nat} {R9 : va_W} {o1 o2 : Nat} (σ : DS) (w : OS)  (rr : (Int32 ⊕ String) × LWS) (H : W_L_closeBox σ w  = some rr) : SpH l mL_closeBox hL_closeBox 8 1 6 mI g [.ref (ad 0), .ref o1] (lwh g ad R9 o1 o2 (σ, w)) (fun r u => rr.1 = .inl r ∧ u = lwh g ad R9 o1 o2 rr.2) (fun _ _ => False) := by
  refine SpH.of hl (by decide) (Nat.le_of_ble_eq_true rfl) (fun p e s m args below meth c A C hr ht => ?_)
  unfold W_L_closeBox at H
  refine J.lw (lv' := [(0, .ref (ad 0)), (1, .ref o1)]) ⟨rfl, rfl, trivial⟩ ?_
  refine J.aload_n (i := 1) C dL_closeBox_0 rfl rfl ?_
  refine J.iconst C (0) dL_closeBox_1 (by decide) ?_
  refine J.aload_n (i := 0) C dL_closeBox_2 rfl rfl ?_
  refine J.callH C rfl (sp_X6_closeBox hl ) rfl kMl_L_56 mdX6_closeBox ⟨(Nat.le_of_ble_eq_true rfl), (Nat.le_of_ble_eq_true rfl)⟩ dk_0 rfl rfl (Nat.le_of_ble_eq_true rfl) dL_closeBox_3 ⟨(Nat.le_of_ble_eq_true rfl), (Nat.le_of_ble_eq_true rfl)⟩ H (fun E k σ1 hk hrr => ?_) (fun r σ1 w1 hst hrr => ?_)
  · rcases lookup_cons hk with ⟨rfl, rfl⟩ | ⟨ne0, hk⟩
    · refine J.catch C ht [] [] { startPc := 0, endPc := 8, handlerPc := 11, catchType := 15 } rfl (by decide) (fun z hz => ?_) (by decide) (by decide) kCl_L_15 cast_IllegalStateException (fun q => ?_)
      · cases hz
      · refine J.astore_n (i := 2) C dL_closeBox_11 rfl (by decide) ?_
        refine J.iconst C (1) dL_closeBox_12 (by decide) ?_
        exact J.iret C hr (Nat.le_of_ble_eq_true rfl) (Nat.le_of_ble_eq_true rfl) dL_closeBox_13 ⟨by rw [hrr], by rw [hrr]⟩
    · exact (lookup_nil hk).elim
  · cases hst
    refine J.i2l C dL_closeBox_6 ?_
    refine J.last C (66 + (R9.length + 0)) lw_0 (show vp_in 0 1 by unfold vp_in; decide) dL_closeBox_7 ?_
    refine J.heq (lw_s0 _) ?_
    refine J.goto (tgt := 14) C dL_closeBox_8 (by decide) ?_
    refine J.iconst C (0) dL_closeBox_14 (by decide) ?_
    exact J.iret C hr (Nat.le_of_ble_eq_true rfl) (Nat.le_of_ble_eq_true rfl) dL_closeBox_15 ⟨by rw [hrr], by rw [hrr]⟩
abbrev mL_repeat : MD := (yL_repeat, cL_repeat, 4, some .int)
abbrev hL_repeat : HH := [(0, 9, 12, 24), (0, 9, 15, 43), (0, 9, 18, 15)]
def W_L_repeat (σ : DS) (w : OS) (a1 : Int32) : Res LWS Int32 := wrT [("java/lang/IndexOutOfBoundsException", 1), ("java/util/NoSuchElementException", 2), ("java/lang/IllegalStateException", 3)] stI (P_X6_repeat σ a1) w
set_option maxRecDepth 100000 in
theorem sp_L_repeat {l : Launch} (hl : l.stackTraces = false) {g : Gy} {ad : Nat → Nat} {R9 : va_W} {o1 o2 : Nat} (σ : DS) (w : OS) (a1 : Int32) (rr : (Int32 ⊕ String) × LWS) (H : W_L_repeat σ w a1 = some rr) : SpH l mL_repeat hL_repeat 9 3 18 mI g [.ref (ad 0), .int a1, .ref o1] (lwh g ad R9 o1 o2 (σ, w)) (fun r u => rr.1 = .inl r ∧ u = lwh g ad R9 o1 o2 rr.2) (fun _ _ => False) := by
  refine SpH.of hl (by decide) (Nat.le_of_ble_eq_true rfl) (fun p e s m args below meth c A C hr ht => ?_)
  unfold W_L_repeat at H
  refine J.lw (lv' := [(0, .ref (ad 0)), (1, .int a1), (2, .ref o1)]) ⟨rfl, rfl, rfl, trivial⟩ ?_
  refine J.aload_n (i := 2) C dL_repeat_0 rfl rfl ?_
  refine J.iconst C (0) dL_repeat_1 (by decide) ?_
  refine J.aload_n (i := 0) C dL_repeat_2 rfl rfl ?_
  refine J.iload_n (i := 1) C dL_repeat_3 rfl rfl ?_
  refine J.callH C rfl (sp_X6_repeat hl a1) rfl kMl_L_59 mdX6_repeat ⟨(Nat.le_of_ble_eq_true rfl), (Nat.le_of_ble_eq_true rfl)⟩ dk_0 rfl rfl (Nat.le_of_ble_eq_true rfl) dL_repeat_4 ⟨(Nat.le_of_ble_eq_true rfl), (Nat.le_of_ble_eq_true rfl)⟩ H (fun E k σ1 hk hrr => ?_) (fun r σ1 w1 hst hrr => ?_)
  · rcases lookup_cons hk with ⟨rfl, rfl⟩ | ⟨ne0, hk⟩
    · refine J.catch C ht [] [(0, 9, 15, 43), (0, 9, 18, 15)] { startPc := 0, endPc := 9, handlerPc := 12, catchType := 24 } rfl (by decide) (fun z hz => ?_) (by decide) (by decide) kCl_L_24 cast_IndexOutOfBoundsException (fun q => ?_)
      · cases hz
      · refine J.astore_n (i := 3) C dL_repeat_12 rfl (by decide) ?_
        refine J.iconst C (1) dL_repeat_13 (by decide) ?_
        exact J.iret C hr (Nat.le_of_ble_eq_true rfl) (Nat.le_of_ble_eq_true rfl) dL_repeat_14 ⟨by rw [hrr], by rw [hrr]⟩
    · rcases lookup_cons hk with ⟨rfl, rfl⟩ | ⟨ne1, hk⟩
      · refine J.catch C ht [(0, 9, 12, 24)] [(0, 9, 18, 15)] { startPc := 0, endPc := 9, handlerPc := 15, catchType := 43 } rfl (by decide) (fun z hz => ?_) (by decide) (by decide) kCl_L_43 cast_NoSuchElementException (fun q => ?_)
        · have hz : z ∈ ([{ startPc := 0, endPc := 9, handlerPc := 12, catchType := 24 }] : List ExceptionTableEntry) := hz
          simp only [List.mem_cons, List.not_mem_nil, or_false] at hz
          rcases hz with rfl
          · exact ⟨by decide, _, kCl_L_24, by decide, by decide⟩
        · refine J.astore_n (i := 3) C dL_repeat_15 rfl (by decide) ?_
          refine J.iconst C (2) dL_repeat_16 (by decide) ?_
          exact J.iret C hr (Nat.le_of_ble_eq_true rfl) (Nat.le_of_ble_eq_true rfl) dL_repeat_17 ⟨by rw [hrr], by rw [hrr]⟩
      · rcases lookup_cons hk with ⟨rfl, rfl⟩ | ⟨ne2, hk⟩
        · refine J.catch C ht [(0, 9, 12, 24), (0, 9, 15, 43)] [] { startPc := 0, endPc := 9, handlerPc := 18, catchType := 15 } rfl (by decide) (fun z hz => ?_) (by decide) (by decide) kCl_L_15 cast_IllegalStateException (fun q => ?_)
          · have hz : z ∈ ([{ startPc := 0, endPc := 9, handlerPc := 12, catchType := 24 }, { startPc := 0, endPc := 9, handlerPc := 15, catchType := 43 }] : List ExceptionTableEntry) := hz
            simp only [List.mem_cons, List.not_mem_nil, or_false] at hz
            rcases hz with rfl | rfl
            · exact ⟨by decide, _, kCl_L_24, by decide, by decide⟩
            · exact ⟨by decide, _, kCl_L_43, by decide, by decide⟩
          · refine J.astore_n (i := 3) C dL_repeat_18 rfl (by decide) ?_
            refine J.iconst C (3) dL_repeat_19 (by decide) ?_
            exact J.iret C hr (Nat.le_of_ble_eq_true rfl) (Nat.le_of_ble_eq_true rfl) dL_repeat_20 ⟨by rw [hrr], by rw [hrr]⟩
        · exact (lookup_nil hk).elim
  · cases hst
    refine J.i2l C dL_repeat_7 ?_
    refine J.last C (66 + (R9.length + 0)) lw_0 (show vp_in 0 1 by unfold vp_in; decide) dL_repeat_8 ?_
    refine J.heq (lw_s0 _) ?_
    refine J.goto (tgt := 21) C dL_repeat_9 (by decide) ?_
    refine J.iconst C (0) dL_repeat_21 (by decide) ?_
    exact J.iret C hr (Nat.le_of_ble_eq_true rfl) (Nat.le_of_ble_eq_true rfl) dL_repeat_22 ⟨by rw [hrr], by rw [hrr]⟩
abbrev mL_makeConjunction : MD := (yL_makeConjunction, cL_makeConjunction, 5, some .int)
abbrev hL_makeConjunction : HH := [(0, 10, 13, 24), (0, 10, 17, 43), (0, 10, 21, 15)]
def W_L_makeConjunction (σ : DS) (w : OS) (a1 : Int32) (a2 : Int32) : Res LWS Int32 := wrT [("java/lang/IndexOutOfBoundsException", 1), ("java/util/NoSuchElementException", 2), ("java/lang/IllegalStateException", 3)] stI (P_X6_makeConjunction σ a1 a2) w
set_option maxRecDepth 100000 in
theorem sp_L_makeConjunction {l : Launch} (hl : l.stackTraces = false) {g : Gy} {ad : Nat → Nat} {R9 : va_W} {o1 o2 : Nat} (σ : DS) (w : OS) (a1 : Int32) (a2 : Int32) (rr : (Int32 ⊕ String) × LWS) (H : W_L_makeConjunction σ w a1 a2 = some rr) : SpH l mL_makeConjunction hL_makeConjunction 10 6 36 mI g [.ref (ad 0), .int a1, .int a2, .ref o1] (lwh g ad R9 o1 o2 (σ, w)) (fun r u => rr.1 = .inl r ∧ u = lwh g ad R9 o1 o2 rr.2) (fun _ _ => False) := by
  refine SpH.of hl (by decide) (Nat.le_of_ble_eq_true rfl) (fun p e s m args below meth c A C hr ht => ?_)
  unfold W_L_makeConjunction at H
  refine J.lw (lv' := [(0, .ref (ad 0)), (1, .int a1), (2, .int a2), (3, .ref o1)]) ⟨rfl, rfl, rfl, rfl, trivial⟩ ?_
  refine J.aload_n (i := 3) C dL_makeConjunction_0 rfl rfl ?_
  refine J.iconst C (0) dL_makeConjunction_1 (by decide) ?_
  refine J.aload_n (i := 0) C dL_makeConjunction_2 rfl rfl ?_
  refine J.iload_n (i := 1) C dL_makeConjunction_3 rfl rfl ?_
  refine J.iload_n (i := 2) C dL_makeConjunction_4 rfl rfl ?_
  refine J.callH C rfl (sp_X6_makeConjunction hl a1 a2) rfl kMl_L_62 mdX6_makeConjunction ⟨(Nat.le_of_ble_eq_true rfl), (Nat.le_of_ble_eq_true rfl)⟩ dk_0 rfl rfl (Nat.le_of_ble_eq_true rfl) dL_makeConjunction_5 ⟨(Nat.le_of_ble_eq_true rfl), (Nat.le_of_ble_eq_true rfl)⟩ H (fun E k σ1 hk hrr => ?_) (fun r σ1 w1 hst hrr => ?_)
  · rcases lookup_cons hk with ⟨rfl, rfl⟩ | ⟨ne0, hk⟩
    · refine J.catch C ht [] [(0, 10, 17, 43), (0, 10, 21, 15)] { startPc := 0, endPc := 10, handlerPc := 13, catchType := 24 } rfl (by decide) (fun z hz => ?_) (by decide) (by decide) kCl_L_24 cast_IndexOutOfBoundsException (fun q => ?_)
      · cases hz
      · refine J.astore C dL_makeConjunction_13 (by decide) ?_
        refine J.iconst C (1) dL_makeConjunction_15 (by decide) ?_
        exact J.iret C hr (Nat.le_of_ble_eq_true rfl) (Nat.le_of_ble_eq_true rfl) dL_makeConjunction_16 ⟨by rw [hrr], by rw [hrr]⟩
    · rcases lookup_cons hk with ⟨rfl, rfl⟩ | ⟨ne1, hk⟩
      · refine J.catch C ht [(0, 10, 13, 24)] [(0, 10, 21, 15)] { startPc := 0, endPc := 10, handlerPc := 17, catchType := 43 } rfl (by decide) (fun z hz => ?_) (by decide) (by decide) kCl_L_43 cast_NoSuchElementException (fun q => ?_)
        · have hz : z ∈ ([{ startPc := 0, endPc := 10, handlerPc := 13, catchType := 24 }] : List ExceptionTableEntry) := hz
          simp only [List.mem_cons, List.not_mem_nil, or_false] at hz
          rcases hz with rfl
          · exact ⟨by decide, _, kCl_L_24, by decide, by decide⟩
        · refine J.astore C dL_makeConjunction_17 (by decide) ?_
          refine J.iconst C (2) dL_makeConjunction_19 (by decide) ?_
          exact J.iret C hr (Nat.le_of_ble_eq_true rfl) (Nat.le_of_ble_eq_true rfl) dL_makeConjunction_20 ⟨by rw [hrr], by rw [hrr]⟩
      · rcases lookup_cons hk with ⟨rfl, rfl⟩ | ⟨ne2, hk⟩
        · refine J.catch C ht [(0, 10, 13, 24), (0, 10, 17, 43)] [] { startPc := 0, endPc := 10, handlerPc := 21, catchType := 15 } rfl (by decide) (fun z hz => ?_) (by decide) (by decide) kCl_L_15 cast_IllegalStateException (fun q => ?_)
          · have hz : z ∈ ([{ startPc := 0, endPc := 10, handlerPc := 13, catchType := 24 }, { startPc := 0, endPc := 10, handlerPc := 17, catchType := 43 }] : List ExceptionTableEntry) := hz
            simp only [List.mem_cons, List.not_mem_nil, or_false] at hz
            rcases hz with rfl | rfl
            · exact ⟨by decide, _, kCl_L_24, by decide, by decide⟩
            · exact ⟨by decide, _, kCl_L_43, by decide, by decide⟩
          · refine J.astore C dL_makeConjunction_21 (by decide) ?_
            refine J.iconst C (3) dL_makeConjunction_23 (by decide) ?_
            exact J.iret C hr (Nat.le_of_ble_eq_true rfl) (Nat.le_of_ble_eq_true rfl) dL_makeConjunction_24 ⟨by rw [hrr], by rw [hrr]⟩
        · exact (lookup_nil hk).elim
  · cases hst
    refine J.i2l C dL_makeConjunction_8 ?_
    refine J.last C (66 + (R9.length + 0)) lw_0 (show vp_in 0 1 by unfold vp_in; decide) dL_makeConjunction_9 ?_
    refine J.heq (lw_s0 _) ?_
    refine J.goto (tgt := 25) C dL_makeConjunction_10 (by decide) ?_
    refine J.iconst C (0) dL_makeConjunction_25 (by decide) ?_
    exact J.iret C hr (Nat.le_of_ble_eq_true rfl) (Nat.le_of_ble_eq_true rfl) dL_makeConjunction_26 ⟨by rw [hrr], by rw [hrr]⟩
abbrev mL_useConjunction : MD := (yL_useConjunction, cL_useConjunction, 5, some .int)
abbrev hL_useConjunction : HH := [(0, 10, 13, 24), (0, 10, 17, 43), (0, 10, 21, 51), (0, 10, 25, 15)]
def W_L_useConjunction (σ : DS) (w : OS) (a1 : Int32) (a2 : Int32) : Res LWS Int32 := wrT [("java/lang/IndexOutOfBoundsException", 1), ("java/util/NoSuchElementException", 2), ("java/lang/UnsupportedOperationException", 3), ("java/lang/IllegalStateException", 4)] stI (P_X6_useConjunction σ a1 a2) w
set_option maxRecDepth 100000 in
theorem sp_L_useConjunction {l : Launch} (hl : l.stackTraces = false) {g : Gy} {ad : Nat → Nat} {R9 : va_W} {o1 o2 : Nat} (σ : DS) (w : OS) (a1 : Int32) (a2 : Int32) (rr : (Int32 ⊕ String) × LWS) (H : W_L_useConjunction σ w a1 a2 = some rr) : SpH l mL_useConjunction hL_useConjunction 9 4 24 mI g [.ref (ad 0), .int a1, .int a2, .ref o1] (lwh g ad R9 o1 o2 (σ, w)) (fun r u => rr.1 = .inl r ∧ u = lwh g ad R9 o1 o2 rr.2) (fun _ _ => False) := by
  refine SpH.of hl (by decide) (Nat.le_of_ble_eq_true rfl) (fun p e s m args below meth c A C hr ht => ?_)
  unfold W_L_useConjunction at H
  refine J.lw (lv' := [(0, .ref (ad 0)), (1, .int a1), (2, .int a2), (3, .ref o1)]) ⟨rfl, rfl, rfl, rfl, trivial⟩ ?_
  refine J.aload_n (i := 3) C dL_useConjunction_0 rfl rfl ?_
  refine J.iconst C (0) dL_useConjunction_1 (by decide) ?_
  refine J.aload_n (i := 0) C dL_useConjunction_2 rfl rfl ?_
  refine J.iload_n (i := 1) C dL_useConjunction_3 rfl rfl ?_
  refine J.iload_n (i := 2) C dL_useConjunction_4 rfl rfl ?_
  refine J.callH C rfl (sp_X6_useConjunction hl a1 a2) rfl kMl_L_65 mdX6_useConjunction ⟨(Nat.le_of_ble_eq_true rfl), (Nat.le_of_ble_eq_true rfl)⟩ dk_0 rfl rfl (Nat.le_of_ble_eq_true rfl) dL_useConjunction_5 ⟨(Nat.le_of_ble_eq_true rfl), (Nat.le_of_ble_eq_true rfl)⟩ H (fun E k σ1 hk hrr => ?_) (fun r σ1 w1 hst hrr => ?_)
  · rcases lookup_cons hk with ⟨rfl, rfl⟩ | ⟨ne0, hk⟩
    · refine J.catch C ht [] [(0, 10, 17, 43), (0, 10, 21, 51), (0, 10, 25, 15)] { startPc := 0, endPc := 10, handlerPc := 13, catchType := 24 } rfl (by decide) (fun z hz => ?_) (by decide) (by decide) kCl_L_24 cast_IndexOutOfBoundsException (fun q => ?_)
      · cases hz
      · refine J.astore C dL_useConjunction_13 (by decide) ?_
        refine J.iconst C (1) dL_useConjunction_15 (by decide) ?_
        exact J.iret C hr (Nat.le_of_ble_eq_true rfl) (Nat.le_of_ble_eq_true rfl) dL_useConjunction_16 ⟨by rw [hrr], by rw [hrr]⟩
    · rcases lookup_cons hk with ⟨rfl, rfl⟩ | ⟨ne1, hk⟩
      · refine J.catch C ht [(0, 10, 13, 24)] [(0, 10, 21, 51), (0, 10, 25, 15)] { startPc := 0, endPc := 10, handlerPc := 17, catchType := 43 } rfl (by decide) (fun z hz => ?_) (by decide) (by decide) kCl_L_43 cast_NoSuchElementException (fun q => ?_)
        · have hz : z ∈ ([{ startPc := 0, endPc := 10, handlerPc := 13, catchType := 24 }] : List ExceptionTableEntry) := hz
          simp only [List.mem_cons, List.not_mem_nil, or_false] at hz
          rcases hz with rfl
          · exact ⟨by decide, _, kCl_L_24, by decide, by decide⟩
        · refine J.astore C dL_useConjunction_17 (by decide) ?_
          refine J.iconst C (2) dL_useConjunction_19 (by decide) ?_
          exact J.iret C hr (Nat.le_of_ble_eq_true rfl) (Nat.le_of_ble_eq_true rfl) dL_useConjunction_20 ⟨by rw [hrr], by rw [hrr]⟩
      · rcases lookup_cons hk with ⟨rfl, rfl⟩ | ⟨ne2, hk⟩
        · refine J.catch C ht [(0, 10, 13, 24), (0, 10, 17, 43)] [(0, 10, 25, 15)] { startPc := 0, endPc := 10, handlerPc := 21, catchType := 51 } rfl (by decide) (fun z hz => ?_) (by decide) (by decide) kCl_L_51 cast_UnsupportedOperationException (fun q => ?_)
          · have hz : z ∈ ([{ startPc := 0, endPc := 10, handlerPc := 13, catchType := 24 }, { startPc := 0, endPc := 10, handlerPc := 17, catchType := 43 }] : List ExceptionTableEntry) := hz
            simp only [List.mem_cons, List.not_mem_nil, or_false] at hz
            rcases hz with rfl | rfl
            · exact ⟨by decide, _, kCl_L_24, by decide, by decide⟩
            · exact ⟨by decide, _, kCl_L_43, by decide, by decide⟩
          · refine J.astore C dL_useConjunction_21 (by decide) ?_
            refine J.iconst C (3) dL_useConjunction_23 (by decide) ?_
            exact J.iret C hr (Nat.le_of_ble_eq_true rfl) (Nat.le_of_ble_eq_true rfl) dL_useConjunction_24 ⟨by rw [hrr], by rw [hrr]⟩
        · rcases lookup_cons hk with ⟨rfl, rfl⟩ | ⟨ne3, hk⟩
          · refine J.catch C ht [(0, 10, 13, 24), (0, 10, 17, 43), (0, 10, 21, 51)] [] { startPc := 0, endPc := 10, handlerPc := 25, catchType := 15 } rfl (by decide) (fun z hz => ?_) (by decide) (by decide) kCl_L_15 cast_IllegalStateException (fun q => ?_)
            · have hz : z ∈ ([{ startPc := 0, endPc := 10, handlerPc := 13, catchType := 24 }, { startPc := 0, endPc := 10, handlerPc := 17, catchType := 43 }, { startPc := 0, endPc := 10, handlerPc := 21, catchType := 51 }] : List ExceptionTableEntry) := hz
              simp only [List.mem_cons, List.not_mem_nil, or_false] at hz
              rcases hz with rfl | rfl | rfl
              · exact ⟨by decide, _, kCl_L_24, by decide, by decide⟩
              · exact ⟨by decide, _, kCl_L_43, by decide, by decide⟩
              · exact ⟨by decide, _, kCl_L_51, by decide, by decide⟩
            · refine J.astore C dL_useConjunction_25 (by decide) ?_
              refine J.iconst C (4) dL_useConjunction_27 (by decide) ?_
              exact J.iret C hr (Nat.le_of_ble_eq_true rfl) (Nat.le_of_ble_eq_true rfl) dL_useConjunction_28 ⟨by rw [hrr], by rw [hrr]⟩
          · exact (lookup_nil hk).elim
  · cases hst
    refine J.i2l C dL_useConjunction_8 ?_
    refine J.last C (66 + (R9.length + 0)) lw_0 (show vp_in 0 1 by unfold vp_in; decide) dL_useConjunction_9 ?_
    refine J.heq (lw_s0 _) ?_
    refine J.goto (tgt := 29) C dL_useConjunction_10 (by decide) ?_
    refine J.iconst C (0) dL_useConjunction_29 (by decide) ?_
    exact J.iret C hr (Nat.le_of_ble_eq_true rfl) (Nat.le_of_ble_eq_true rfl) dL_useConjunction_30 ⟨by rw [hrr], by rw [hrr]⟩
abbrev mL_makeDisjunction : MD := (yL_makeDisjunction, cL_makeDisjunction, 6, some .int)
abbrev hL_makeDisjunction : HH := [(0, 12, 15, 24), (0, 12, 19, 43), (0, 12, 23, 15)]
def W_L_makeDisjunction (σ : DS) (w : OS) (a1 : Int32) (a2 : Int32) (a3 : Int32) : Res LWS Int32 := wrT [("java/lang/IndexOutOfBoundsException", 1), ("java/util/NoSuchElementException", 2), ("java/lang/IllegalStateException", 3)] stI (P_X6_makeDisjunction σ a1 a2 a3) w
set_option maxRecDepth 100000 in
theorem sp_L_makeDisjunction {l : Launch} (hl : l.stackTraces = false) {g : Gy} {ad : Nat → Nat} {R9 : va_W} {o1 o2 : Nat} (σ : DS) (w : OS) (a1 : Int32) (a2 : Int32) (a3 : Int32) (rr : (Int32 ⊕ String) × LWS) (H : W_L_makeDisjunction σ w a1 a2 a3 = some rr) : SpH l mL_makeDisjunction hL_makeDisjunction 9 5 30 mI g [.ref (ad 0), .int a1, .int a2, .int a3, .ref o1] (lwh g ad R9 o1 o2 (σ, w)) (fun r u => rr.1 = .inl r ∧ u = lwh g ad R9 o1 o2 rr.2) (fun _ _ => False) := by
  refine SpH.of hl (by decide) (Nat.le_of_ble_eq_true rfl) (fun p e s m args below meth c A C hr ht => ?_)
  unfold W_L_makeDisjunction at H
  refine J.lw (lv' := [(0, .ref (ad 0)), (1, .int a1), (2, .int a2), (3, .int a3), (4, .ref o1)]) ⟨rfl, rfl, rfl, rfl, rfl, trivial⟩ ?_
  refine J.aload C dL_makeDisjunction_0 rfl ?_
  refine J.iconst C (0) dL_makeDisjunction_2 (by decide) ?_
  refine J.aload_n (i := 0) C dL_makeDisjunction_3 rfl rfl ?_
  refine J.iload_n (i := 1) C dL_makeDisjunction_4 rfl rfl ?_
  refine J.iload_n (i := 2) C dL_makeDisjunction_5 rfl rfl ?_
  refine J.iload_n (i := 3) C dL_makeDisjunction_6 rfl rfl ?_
  refine J.callH C rfl (sp_X6_makeDisjunction hl a1 a2 a3) rfl kMl_L_69 mdX6_makeDisjunction ⟨(Nat.le_of_ble_eq_true rfl), (Nat.le_of_ble_eq_true rfl)⟩ dk_0 rfl rfl (Nat.le_of_ble_eq_true rfl) dL_makeDisjunction_7 ⟨(Nat.le_of_ble_eq_true rfl), (Nat.le_of_ble_eq_true rfl)⟩ H (fun E k σ1 hk hrr => ?_) (fun r σ1 w1 hst hrr => ?_)
  · rcases lookup_cons hk with ⟨rfl, rfl⟩ | ⟨ne0, hk⟩
    · refine J.catch C ht [] [(0, 12, 19, 43), (0, 12, 23, 15)] { startPc := 0, endPc := 12, handlerPc := 15, catchType := 24 } rfl (by decide) (fun z hz => ?_) (by decide) (by decide) kCl_L_24 cast_IndexOutOfBoundsException (fun q => ?_)
      · cases hz
      · refine J.astore C dL_makeDisjunction_15 (by decide) ?_
        refine J.iconst C (1) dL_makeDisjunction_17 (by decide) ?_
        exact J.iret C hr (Nat.le_of_ble_eq_true rfl) (Nat.le_of_ble_eq_true rfl) dL_makeDisjunction_18 ⟨by rw [hrr], by rw [hrr]⟩
    · rcases lookup_cons hk with ⟨rfl, rfl⟩ | ⟨ne1, hk⟩
      · refine J.catch C ht [(0, 12, 15, 24)] [(0, 12, 23, 15)] { startPc := 0, endPc := 12, handlerPc := 19, catchType := 43 } rfl (by decide) (fun z hz => ?_) (by decide) (by decide) kCl_L_43 cast_NoSuchElementException (fun q => ?_)
        · have hz : z ∈ ([{ startPc := 0, endPc := 12, handlerPc := 15, catchType := 24 }] : List ExceptionTableEntry) := hz
          simp only [List.mem_cons, List.not_mem_nil, or_false] at hz
          rcases hz with rfl
          · exact ⟨by decide, _, kCl_L_24, by decide, by decide⟩
        · refine J.astore C dL_makeDisjunction_19 (by decide) ?_
          refine J.iconst C (2) dL_makeDisjunction_21 (by decide) ?_
          exact J.iret C hr (Nat.le_of_ble_eq_true rfl) (Nat.le_of_ble_eq_true rfl) dL_makeDisjunction_22 ⟨by rw [hrr], by rw [hrr]⟩
      · rcases lookup_cons hk with ⟨rfl, rfl⟩ | ⟨ne2, hk⟩
        · refine J.catch C ht [(0, 12, 15, 24), (0, 12, 19, 43)] [] { startPc := 0, endPc := 12, handlerPc := 23, catchType := 15 } rfl (by decide) (fun z hz => ?_) (by decide) (by decide) kCl_L_15 cast_IllegalStateException (fun q => ?_)
          · have hz : z ∈ ([{ startPc := 0, endPc := 12, handlerPc := 15, catchType := 24 }, { startPc := 0, endPc := 12, handlerPc := 19, catchType := 43 }] : List ExceptionTableEntry) := hz
            simp only [List.mem_cons, List.not_mem_nil, or_false] at hz
            rcases hz with rfl | rfl
            · exact ⟨by decide, _, kCl_L_24, by decide, by decide⟩
            · exact ⟨by decide, _, kCl_L_43, by decide, by decide⟩
          · refine J.astore C dL_makeDisjunction_23 (by decide) ?_
            refine J.iconst C (3) dL_makeDisjunction_25 (by decide) ?_
            exact J.iret C hr (Nat.le_of_ble_eq_true rfl) (Nat.le_of_ble_eq_true rfl) dL_makeDisjunction_26 ⟨by rw [hrr], by rw [hrr]⟩
        · exact (lookup_nil hk).elim
  · cases hst
    refine J.i2l C dL_makeDisjunction_10 ?_
    refine J.last C (66 + (R9.length + 0)) lw_0 (show vp_in 0 1 by unfold vp_in; decide) dL_makeDisjunction_11 ?_
    refine J.heq (lw_s0 _) ?_
    refine J.goto (tgt := 27) C dL_makeDisjunction_12 (by decide) ?_
    refine J.iconst C (0) dL_makeDisjunction_27 (by decide) ?_
    exact J.iret C hr (Nat.le_of_ble_eq_true rfl) (Nat.le_of_ble_eq_true rfl) dL_makeDisjunction_28 ⟨by rw [hrr], by rw [hrr]⟩
abbrev mL_useDisjunction : MD := (yL_useDisjunction, cL_useDisjunction, 6, some .int)
abbrev hL_useDisjunction : HH := [(0, 12, 15, 24), (0, 12, 19, 43), (0, 12, 23, 51), (0, 12, 27, 15)]
def W_L_useDisjunction (σ : DS) (w : OS) (a1 : Int32) (a2 : Int32) (a3 : Int32) : Res LWS Int32 := wrT [("java/lang/IndexOutOfBoundsException", 1), ("java/util/NoSuchElementException", 2), ("java/lang/UnsupportedOperationException", 3), ("java/lang/IllegalStateException", 4)] stI (P_X6_useDisjunction σ a1 a2 a3) w
set_option maxRecDepth 100000 in
theorem sp_L_useDisjunction {l : Launch} (hl : l.stackTraces = false) {g : Gy} {ad : Nat → Nat} {R9 : va_W} {o1 o2 : Nat} (σ : DS) (w : OS) (a1 : Int32) (a2 : Int32) (a3 : Int32) (rr : (Int32 ⊕ String) × LWS) (H : W_L_useDisjunction σ w a1 a2 a3 = some rr) : SpH l mL_useDisjunction hL_useDisjunction 9 10 60 mI g [.ref (ad 0), .int a1, .int a2, .int a3, .ref o1] (lwh g ad R9 o1 o2 (σ, w)) (fun r u => rr.1 = .inl r ∧ u = lwh g ad R9 o1 o2 rr.2) (fun _ _ => False) := by
  refine SpH.of hl (by decide) (Nat.le_of_ble_eq_true rfl) (fun p e s m args below meth c A C hr ht => ?_)
  unfold W_L_useDisjunction at H
  refine J.lw (lv' := [(0, .ref (ad 0)), (1, .int a1), (2, .int a2), (3, .int a3), (4, .ref o1)]) ⟨rfl, rfl, rfl, rfl, rfl, trivial⟩ ?_
  refine J.aload C dL_useDisjunction_0 rfl ?_
  refine J.iconst C (0) dL_useDisjunction_2 (by decide) ?_
  refine J.aload_n (i := 0) C dL_useDisjunction_3 rfl rfl ?_
  refine J.iload_n (i := 1) C dL_useDisjunction_4 rfl rfl ?_
  refine J.iload_n (i := 2) C dL_useDisjunction_5 rfl rfl ?_
  refine J.iload_n (i := 3) C dL_useDisjunction_6 rfl rfl ?_
  refine J.callH C rfl (sp_X6_useDisjunction hl a1 a2 a3) rfl kMl_L_73 mdX6_useDisjunction ⟨(Nat.le_of_ble_eq_true rfl), (Nat.le_of_ble_eq_true rfl)⟩ dk_0 rfl rfl (Nat.le_of_ble_eq_true rfl) dL_useDisjunction_7 ⟨(Nat.le_of_ble_eq_true rfl), (Nat.le_of_ble_eq_true rfl)⟩ H (fun E k σ1 hk hrr => ?_) (fun r σ1 w1 hst hrr => ?_)
  · rcases lookup_cons hk with ⟨rfl, rfl⟩ | ⟨ne0, hk⟩
    · refine J.catch C ht [] [(0, 12, 19, 43), (0, 12, 23, 51), (0, 12, 27, 15)] { startPc := 0, endPc := 12, handlerPc := 15, catchType := 24 } rfl (by decide) (fun z hz => ?_) (by decide) (by decide) kCl_L_24 cast_IndexOutOfBoundsException (fun q => ?_)
      · cases hz
      · refine J.astore C dL_useDisjunction_15 (by decide) ?_
        refine J.iconst C (1) dL_useDisjunction_17 (by decide) ?_
        exact J.iret C hr (Nat.le_of_ble_eq_true rfl) (Nat.le_of_ble_eq_true rfl) dL_useDisjunction_18 ⟨by rw [hrr], by rw [hrr]⟩
    · rcases lookup_cons hk with ⟨rfl, rfl⟩ | ⟨ne1, hk⟩
      · refine J.catch C ht [(0, 12, 15, 24)] [(0, 12, 23, 51), (0, 12, 27, 15)] { startPc := 0, endPc := 12, handlerPc := 19, catchType := 43 } rfl (by decide) (fun z hz => ?_) (by decide) (by decide) kCl_L_43 cast_NoSuchElementException (fun q => ?_)
        · have hz : z ∈ ([{ startPc := 0, endPc := 12, handlerPc := 15, catchType := 24 }] : List ExceptionTableEntry) := hz
          simp only [List.mem_cons, List.not_mem_nil, or_false] at hz
          rcases hz with rfl
          · exact ⟨by decide, _, kCl_L_24, by decide, by decide⟩
        · refine J.astore C dL_useDisjunction_19 (by decide) ?_
          refine J.iconst C (2) dL_useDisjunction_21 (by decide) ?_
          exact J.iret C hr (Nat.le_of_ble_eq_true rfl) (Nat.le_of_ble_eq_true rfl) dL_useDisjunction_22 ⟨by rw [hrr], by rw [hrr]⟩
      · rcases lookup_cons hk with ⟨rfl, rfl⟩ | ⟨ne2, hk⟩
        · refine J.catch C ht [(0, 12, 15, 24), (0, 12, 19, 43)] [(0, 12, 27, 15)] { startPc := 0, endPc := 12, handlerPc := 23, catchType := 51 } rfl (by decide) (fun z hz => ?_) (by decide) (by decide) kCl_L_51 cast_UnsupportedOperationException (fun q => ?_)
          · have hz : z ∈ ([{ startPc := 0, endPc := 12, handlerPc := 15, catchType := 24 }, { startPc := 0, endPc := 12, handlerPc := 19, catchType := 43 }] : List ExceptionTableEntry) := hz
            simp only [List.mem_cons, List.not_mem_nil, or_false] at hz
            rcases hz with rfl | rfl
            · exact ⟨by decide, _, kCl_L_24, by decide, by decide⟩
            · exact ⟨by decide, _, kCl_L_43, by decide, by decide⟩
          · refine J.astore C dL_useDisjunction_23 (by decide) ?_
            refine J.iconst C (3) dL_useDisjunction_25 (by decide) ?_
            exact J.iret C hr (Nat.le_of_ble_eq_true rfl) (Nat.le_of_ble_eq_true rfl) dL_useDisjunction_26 ⟨by rw [hrr], by rw [hrr]⟩
        · rcases lookup_cons hk with ⟨rfl, rfl⟩ | ⟨ne3, hk⟩
          · refine J.catch C ht [(0, 12, 15, 24), (0, 12, 19, 43), (0, 12, 23, 51)] [] { startPc := 0, endPc := 12, handlerPc := 27, catchType := 15 } rfl (by decide) (fun z hz => ?_) (by decide) (by decide) kCl_L_15 cast_IllegalStateException (fun q => ?_)
            · have hz : z ∈ ([{ startPc := 0, endPc := 12, handlerPc := 15, catchType := 24 }, { startPc := 0, endPc := 12, handlerPc := 19, catchType := 43 }, { startPc := 0, endPc := 12, handlerPc := 23, catchType := 51 }] : List ExceptionTableEntry) := hz
              simp only [List.mem_cons, List.not_mem_nil, or_false] at hz
              rcases hz with rfl | rfl | rfl
              · exact ⟨by decide, _, kCl_L_24, by decide, by decide⟩
              · exact ⟨by decide, _, kCl_L_43, by decide, by decide⟩
              · exact ⟨by decide, _, kCl_L_51, by decide, by decide⟩
            · refine J.astore C dL_useDisjunction_27 (by decide) ?_
              refine J.iconst C (4) dL_useDisjunction_29 (by decide) ?_
              exact J.iret C hr (Nat.le_of_ble_eq_true rfl) (Nat.le_of_ble_eq_true rfl) dL_useDisjunction_30 ⟨by rw [hrr], by rw [hrr]⟩
          · exact (lookup_nil hk).elim
  · cases hst
    refine J.i2l C dL_useDisjunction_10 ?_
    refine J.last C (66 + (R9.length + 0)) lw_0 (show vp_in 0 1 by unfold vp_in; decide) dL_useDisjunction_11 ?_
    refine J.heq (lw_s0 _) ?_
    refine J.goto (tgt := 31) C dL_useDisjunction_12 (by decide) ?_
    refine J.iconst C (0) dL_useDisjunction_31 (by decide) ?_
    exact J.iret C hr (Nat.le_of_ble_eq_true rfl) (Nat.le_of_ble_eq_true rfl) dL_useDisjunction_32 ⟨by rw [hrr], by rw [hrr]⟩
abbrev mL_makeImplication : MD := (yL_makeImplication, cL_makeImplication, 4, some .int)
abbrev hL_makeImplication : HH := [(0, 9, 12, 24), (0, 9, 15, 43), (0, 9, 18, 15)]
def W_L_makeImplication (σ : DS) (w : OS) (a1 : Int32) : Res LWS Int32 := wrT [("java/lang/IndexOutOfBoundsException", 1), ("java/util/NoSuchElementException", 2), ("java/lang/IllegalStateException", 3)] stI (P_X6_makeImplication σ a1) w
set_option maxRecDepth 100000 in
theorem sp_L_makeImplication {l : Launch} (hl : l.stackTraces = false) {g : Gy} {ad : Nat → Nat} {R9 : va_W} {o1 o2 : Nat} (σ : DS) (w : OS) (a1 : Int32) (rr : (Int32 ⊕ String) × LWS) (H : W_L_makeImplication σ w a1 = some rr) : SpH l mL_makeImplication hL_makeImplication 9 4 24 mI g [.ref (ad 0), .int a1, .ref o1] (lwh g ad R9 o1 o2 (σ, w)) (fun r u => rr.1 = .inl r ∧ u = lwh g ad R9 o1 o2 rr.2) (fun _ _ => False) := by
  refine SpH.of hl (by decide) (Nat.le_of_ble_eq_true rfl) (fun p e s m args below meth c A C hr ht => ?_)
  unfold W_L_makeImplication at H
  refine J.lw (lv' := [(0, .ref (ad 0)), (1, .int a1), (2, .ref o1)]) ⟨rfl, rfl, rfl, trivial⟩ ?_
  refine J.aload_n (i := 2) C dL_makeImplication_0 rfl rfl ?_
  refine J.iconst C (0) dL_makeImplication_1 (by decide) ?_
  refine J.aload_n (i := 0) C dL_makeImplication_2 rfl rfl ?_
  refine J.iload_n (i := 1) C dL_makeImplication_3 rfl rfl ?_
  refine J.callH C rfl (sp_X6_makeImplication hl a1) rfl kMl_L_77 mdX6_makeImplication ⟨(Nat.le_of_ble_eq_true rfl), (Nat.le_of_ble_eq_true rfl)⟩ dk_0 rfl rfl (Nat.le_of_ble_eq_true rfl) dL_makeImplication_4 ⟨(Nat.le_of_ble_eq_true rfl), (Nat.le_of_ble_eq_true rfl)⟩ H (fun E k σ1 hk hrr => ?_) (fun r σ1 w1 hst hrr => ?_)
  · rcases lookup_cons hk with ⟨rfl, rfl⟩ | ⟨ne0, hk⟩
    · refine J.catch C ht [] [(0, 9, 15, 43), (0, 9, 18, 15)] { startPc := 0, endPc := 9, handlerPc := 12, catchType := 24 } rfl (by decide) (fun z hz => ?_) (by decide) (by decide) kCl_L_24 cast_IndexOutOfBoundsException (fun q => ?_)
      · cases hz
      · refine J.astore_n (i := 3) C dL_makeImplication_12 rfl (by decide) ?_
        refine J.iconst C (1) dL_makeImplication_13 (by decide) ?_
        exact J.iret C hr (Nat.le_of_ble_eq_true rfl) (Nat.le_of_ble_eq_true rfl) dL_makeImplication_14 ⟨by rw [hrr], by rw [hrr]⟩
    · rcases lookup_cons hk with ⟨rfl, rfl⟩ | ⟨ne1, hk⟩
      · refine J.catch C ht [(0, 9, 12, 24)] [(0, 9, 18, 15)] { startPc := 0, endPc := 9, handlerPc := 15, catchType := 43 } rfl (by decide) (fun z hz => ?_) (by decide) (by decide) kCl_L_43 cast_NoSuchElementException (fun q => ?_)
        · have hz : z ∈ ([{ startPc := 0, endPc := 9, handlerPc := 12, catchType := 24 }] : List ExceptionTableEntry) := hz
          simp only [List.mem_cons, List.not_mem_nil, or_false] at hz
          rcases hz with rfl
          · exact ⟨by decide, _, kCl_L_24, by decide, by decide⟩
        · refine J.astore_n (i := 3) C dL_makeImplication_15 rfl (by decide) ?_
          refine J.iconst C (2) dL_makeImplication_16 (by decide) ?_
          exact J.iret C hr (Nat.le_of_ble_eq_true rfl) (Nat.le_of_ble_eq_true rfl) dL_makeImplication_17 ⟨by rw [hrr], by rw [hrr]⟩
      · rcases lookup_cons hk with ⟨rfl, rfl⟩ | ⟨ne2, hk⟩
        · refine J.catch C ht [(0, 9, 12, 24), (0, 9, 15, 43)] [] { startPc := 0, endPc := 9, handlerPc := 18, catchType := 15 } rfl (by decide) (fun z hz => ?_) (by decide) (by decide) kCl_L_15 cast_IllegalStateException (fun q => ?_)
          · have hz : z ∈ ([{ startPc := 0, endPc := 9, handlerPc := 12, catchType := 24 }, { startPc := 0, endPc := 9, handlerPc := 15, catchType := 43 }] : List ExceptionTableEntry) := hz
            simp only [List.mem_cons, List.not_mem_nil, or_false] at hz
            rcases hz with rfl | rfl
            · exact ⟨by decide, _, kCl_L_24, by decide, by decide⟩
            · exact ⟨by decide, _, kCl_L_43, by decide, by decide⟩
          · refine J.astore_n (i := 3) C dL_makeImplication_18 rfl (by decide) ?_
            refine J.iconst C (3) dL_makeImplication_19 (by decide) ?_
            exact J.iret C hr (Nat.le_of_ble_eq_true rfl) (Nat.le_of_ble_eq_true rfl) dL_makeImplication_20 ⟨by rw [hrr], by rw [hrr]⟩
        · exact (lookup_nil hk).elim
  · cases hst
    refine J.i2l C dL_makeImplication_7 ?_
    refine J.last C (66 + (R9.length + 0)) lw_0 (show vp_in 0 1 by unfold vp_in; decide) dL_makeImplication_8 ?_
    refine J.heq (lw_s0 _) ?_
    refine J.goto (tgt := 21) C dL_makeImplication_9 (by decide) ?_
    refine J.iconst C (0) dL_makeImplication_21 (by decide) ?_
    exact J.iret C hr (Nat.le_of_ble_eq_true rfl) (Nat.le_of_ble_eq_true rfl) dL_makeImplication_22 ⟨by rw [hrr], by rw [hrr]⟩
abbrev mL_useImplication : MD := (yL_useImplication, cL_useImplication, 5, some .int)
abbrev hL_useImplication : HH := [(0, 10, 13, 24), (0, 10, 17, 43), (0, 10, 21, 51), (0, 10, 25, 15)]
def W_L_useImplication (σ : DS) (w : OS) (a1 : Int32) (a2 : Int32) : Res LWS Int32 := wrT [("java/lang/IndexOutOfBoundsException", 1), ("java/util/NoSuchElementException", 2), ("java/lang/UnsupportedOperationException", 3), ("java/lang/IllegalStateException", 4)] stI (P_X6_useImplication σ a1 a2) w
set_option maxRecDepth 100000 in
theorem sp_L_useImplication {l : Launch} (hl : l.stackTraces = false) {g : Gy} {ad : Nat → Nat} {R9 : va_W} {o1 o2 : Nat} (σ : DS) (w : OS) (a1 : Int32) (a2 : Int32) (rr : (Int32 ⊕ String) × LWS) (H : W_L_useImplication σ w a1 a2 = some rr) : SpH l mL_useImplication hL_useImplication 10 6 36 mI g [.ref (ad 0), .int a1, .int a2, .ref o1] (lwh g ad R9 o1 o2 (σ, w)) (fun r u => rr.1 = .inl r ∧ u = lwh g ad R9 o1 o2 rr.2) (fun _ _ => False) := by
  refine SpH.of hl (by decide) (Nat.le_of_ble_eq_true rfl) (fun p e s m args below meth c A C hr ht => ?_)
  unfold W_L_useImplication at H
  refine J.lw (lv' := [(0, .ref (ad 0)), (1, .int a1), (2, .int a2), (3, .ref o1)]) ⟨rfl, rfl, rfl, rfl, trivial⟩ ?_
  refine J.aload_n (i := 3) C dL_useImplication_0 rfl rfl ?_
  refine J.iconst C (0) dL_useImplication_1 (by decide) ?_
  refine J.aload_n (i := 0) C dL_useImplication_2 rfl rfl ?_
  refine J.iload_n (i := 1) C dL_useImplication_3 rfl rfl ?_
  refine J.iload_n (i := 2) C dL_useImplication_4 rfl rfl ?_
  refine J.callH C rfl (sp_X6_useImplication hl a1 a2) rfl kMl_L_80 mdX6_useImplication ⟨(Nat.le_of_ble_eq_true rfl), (Nat.le_of_ble_eq_true rfl)⟩ dk_0 rfl rfl (Nat.le_of_ble_eq_true rfl) dL_useImplication_5 ⟨(Nat.le_of_ble_eq_true rfl), (Nat.le_of_ble_eq_true rfl)⟩ H (fun E k σ1 hk hrr => ?_) (fun r σ1 w1 hst hrr => ?_)
  · rcases lookup_cons hk with ⟨rfl, rfl⟩ | ⟨ne0, hk⟩
    · refine J.catch C ht [] [(0, 10, 17, 43), (0, 10, 21, 51), (0, 10, 25, 15)] { startPc := 0, endPc := 10, handlerPc := 13, catchType := 24 } rfl (by decide) (fun z hz => ?_) (by decide) (by decide) kCl_L_24 cast_IndexOutOfBoundsException (fun q => ?_)
      · cases hz
      · refine J.astore C dL_useImplication_13 (by decide) ?_
        refine J.iconst C (1) dL_useImplication_15 (by decide) ?_
        exact J.iret C hr (Nat.le_of_ble_eq_true rfl) (Nat.le_of_ble_eq_true rfl) dL_useImplication_16 ⟨by rw [hrr], by rw [hrr]⟩
    · rcases lookup_cons hk with ⟨rfl, rfl⟩ | ⟨ne1, hk⟩
      · refine J.catch C ht [(0, 10, 13, 24)] [(0, 10, 21, 51), (0, 10, 25, 15)] { startPc := 0, endPc := 10, handlerPc := 17, catchType := 43 } rfl (by decide) (fun z hz => ?_) (by decide) (by decide) kCl_L_43 cast_NoSuchElementException (fun q => ?_)
        · have hz : z ∈ ([{ startPc := 0, endPc := 10, handlerPc := 13, catchType := 24 }] : List ExceptionTableEntry) := hz
          simp only [List.mem_cons, List.not_mem_nil, or_false] at hz
          rcases hz with rfl
          · exact ⟨by decide, _, kCl_L_24, by decide, by decide⟩
        · refine J.astore C dL_useImplication_17 (by decide) ?_
          refine J.iconst C (2) dL_useImplication_19 (by decide) ?_
          exact J.iret C hr (Nat.le_of_ble_eq_true rfl) (Nat.le_of_ble_eq_true rfl) dL_useImplication_20 ⟨by rw [hrr], by rw [hrr]⟩
      · rcases lookup_cons hk with ⟨rfl, rfl⟩ | ⟨ne2, hk⟩
        · refine J.catch C ht [(0, 10, 13, 24), (0, 10, 17, 43)] [(0, 10, 25, 15)] { startPc := 0, endPc := 10, handlerPc := 21, catchType := 51 } rfl (by decide) (fun z hz => ?_) (by decide) (by decide) kCl_L_51 cast_UnsupportedOperationException (fun q => ?_)
          · have hz : z ∈ ([{ startPc := 0, endPc := 10, handlerPc := 13, catchType := 24 }, { startPc := 0, endPc := 10, handlerPc := 17, catchType := 43 }] : List ExceptionTableEntry) := hz
            simp only [List.mem_cons, List.not_mem_nil, or_false] at hz
            rcases hz with rfl | rfl
            · exact ⟨by decide, _, kCl_L_24, by decide, by decide⟩
            · exact ⟨by decide, _, kCl_L_43, by decide, by decide⟩
          · refine J.astore C dL_useImplication_21 (by decide) ?_
            refine J.iconst C (3) dL_useImplication_23 (by decide) ?_
            exact J.iret C hr (Nat.le_of_ble_eq_true rfl) (Nat.le_of_ble_eq_true rfl) dL_useImplication_24 ⟨by rw [hrr], by rw [hrr]⟩
        · rcases lookup_cons hk with ⟨rfl, rfl⟩ | ⟨ne3, hk⟩
          · refine J.catch C ht [(0, 10, 13, 24), (0, 10, 17, 43), (0, 10, 21, 51)] [] { startPc := 0, endPc := 10, handlerPc := 25, catchType := 15 } rfl (by decide) (fun z hz => ?_) (by decide) (by decide) kCl_L_15 cast_IllegalStateException (fun q => ?_)
            · have hz : z ∈ ([{ startPc := 0, endPc := 10, handlerPc := 13, catchType := 24 }, { startPc := 0, endPc := 10, handlerPc := 17, catchType := 43 }, { startPc := 0, endPc := 10, handlerPc := 21, catchType := 51 }] : List ExceptionTableEntry) := hz
              simp only [List.mem_cons, List.not_mem_nil, or_false] at hz
              rcases hz with rfl | rfl | rfl
              · exact ⟨by decide, _, kCl_L_24, by decide, by decide⟩
              · exact ⟨by decide, _, kCl_L_43, by decide, by decide⟩
              · exact ⟨by decide, _, kCl_L_51, by decide, by decide⟩
            · refine J.astore C dL_useImplication_25 (by decide) ?_
              refine J.iconst C (4) dL_useImplication_27 (by decide) ?_
              exact J.iret C hr (Nat.le_of_ble_eq_true rfl) (Nat.le_of_ble_eq_true rfl) dL_useImplication_28 ⟨by rw [hrr], by rw [hrr]⟩
          · exact (lookup_nil hk).elim
  · cases hst
    refine J.i2l C dL_useImplication_8 ?_
    refine J.last C (66 + (R9.length + 0)) lw_0 (show vp_in 0 1 by unfold vp_in; decide) dL_useImplication_9 ?_
    refine J.heq (lw_s0 _) ?_
    refine J.goto (tgt := 29) C dL_useImplication_10 (by decide) ?_
    refine J.iconst C (0) dL_useImplication_29 (by decide) ?_
    exact J.iret C hr (Nat.le_of_ble_eq_true rfl) (Nat.le_of_ble_eq_true rfl) dL_useImplication_30 ⟨by rw [hrr], by rw [hrr]⟩
abbrev mL_makeNegation : MD := (yL_makeNegation, cL_makeNegation, 4, some .int)
abbrev hL_makeNegation : HH := [(0, 9, 12, 24), (0, 9, 15, 43), (0, 9, 18, 51), (0, 9, 21, 15)]
def W_L_makeNegation (σ : DS) (w : OS) (a1 : Int32) : Res LWS Int32 := wrT [("java/lang/IndexOutOfBoundsException", 1), ("java/util/NoSuchElementException", 2), ("java/lang/UnsupportedOperationException", 3), ("java/lang/IllegalStateException", 4)] stI (P_X6_makeNegation σ a1) w
set_option maxRecDepth 100000 in
theorem sp_L_makeNegation {l : Launch} (hl : l.stackTraces = false) {g : Gy} {ad : Nat → Nat} {R9 : va_W} {o1 o2 : Nat} (σ : DS) (w : OS) (a1 : Int32) (rr : (Int32 ⊕ String) × LWS) (H : W_L_makeNegation σ w a1 = some rr) : SpH l mL_makeNegation hL_makeNegation 9 5 30 mI g [.ref (ad 0), .int a1, .ref o1] (lwh g ad R9 o1 o2 (σ, w)) (fun r u => rr.1 = .inl r ∧ u = lwh g ad R9 o1 o2 rr.2) (fun _ _ => False) := by
  refine SpH.of hl (by decide) (Nat.le_of_ble_eq_true rfl) (fun p e s m args below meth c A C hr ht => ?_)
  unfold W_L_makeNegation at H
  refine J.lw (lv' := [(0, .ref (ad 0)), (1, .int a1), (2, .ref o1)]) ⟨rfl, rfl, rfl, trivial⟩ ?_
  refine J.aload_n (i := 2) C dL_makeNegation_0 rfl rfl ?_
  refine J.iconst C (0) dL_makeNegation_1 (by decide) ?_
  refine J.aload_n (i := 0) C dL_makeNegation_2 rfl rfl ?_
  refine J.iload_n (i := 1) C dL_makeNegation_3 rfl rfl ?_
  refine J.callH C rfl (sp_X6_makeNegation hl a1) rfl kMl_L_83 mdX6_makeNegation ⟨(Nat.le_of_ble_eq_true rfl), (Nat.le_of_ble_eq_true rfl)⟩ dk_0 rfl rfl (Nat.le_of_ble_eq_true rfl) dL_makeNegation_4 ⟨(Nat.le_of_ble_eq_true rfl), (Nat.le_of_ble_eq_true rfl)⟩ H (fun E k σ1 hk hrr => ?_) (fun r σ1 w1 hst hrr => ?_)
  · rcases lookup_cons hk with ⟨rfl, rfl⟩ | ⟨ne0, hk⟩
    · refine J.catch C ht [] [(0, 9, 15, 43), (0, 9, 18, 51), (0, 9, 21, 15)] { startPc := 0, endPc := 9, handlerPc := 12, catchType := 24 } rfl (by decide) (fun z hz => ?_) (by decide) (by decide) kCl_L_24 cast_IndexOutOfBoundsException (fun q => ?_)
      · cases hz
      · refine J.astore_n (i := 3) C dL_makeNegation_12 rfl (by decide) ?_
        refine J.iconst C (1) dL_makeNegation_13 (by decide) ?_
        exact J.iret C hr (Nat.le_of_ble_eq_true rfl) (Nat.le_of_ble_eq_true rfl) dL_makeNegation_14 ⟨by rw [hrr], by rw [hrr]⟩
    · rcases lookup_cons hk with ⟨rfl, rfl⟩ | ⟨ne1, hk⟩
      · refine J.catch C ht [(0, 9, 12, 24)] [(0, 9, 18, 51), (0, 9, 21, 15)] { startPc := 0, endPc := 9, handlerPc := 15, catchType := 43 } rfl (by decide) (fun z hz => ?_) (by decide) (by decide) kCl_L_43 cast_NoSuchElementException (fun q => ?_)
        · have hz : z ∈ ([{ startPc := 0, endPc := 9, handlerPc := 12, catchType := 24 }] : List ExceptionTableEntry) := hz
          simp only [List.mem_cons, List.not_mem_nil, or_false] at hz
          rcases hz with rfl
          · exact ⟨by decide, _, kCl_L_24, by decide, by decide⟩
        · refine J.astore_n (i := 3) C dL_makeNegation_15 rfl (by decide) ?_
          refine J.iconst C (2) dL_makeNegation_16 (by decide) ?_
          exact J.iret C hr (Nat.le_of_ble_eq_true rfl) (Nat.le_of_ble_eq_true rfl) dL_makeNegation_17 ⟨by rw [hrr], by rw [hrr]⟩
      · rcases lookup_cons hk with ⟨rfl, rfl⟩ | ⟨ne2, hk⟩
        · refine J.catch C ht [(0, 9, 12, 24), (0, 9, 15, 43)] [(0, 9, 21, 15)] { startPc := 0, endPc := 9, handlerPc := 18, catchType := 51 } rfl (by decide) (fun z hz => ?_) (by decide) (by decide) kCl_L_51 cast_UnsupportedOperationException (fun q => ?_)
          · have hz : z ∈ ([{ startPc := 0, endPc := 9, handlerPc := 12, catchType := 24 }, { startPc := 0, endPc := 9, handlerPc := 15, catchType := 43 }] : List ExceptionTableEntry) := hz
            simp only [List.mem_cons, List.not_mem_nil, or_false] at hz
            rcases hz with rfl | rfl
            · exact ⟨by decide, _, kCl_L_24, by decide, by decide⟩
            · exact ⟨by decide, _, kCl_L_43, by decide, by decide⟩
          · refine J.astore_n (i := 3) C dL_makeNegation_18 rfl (by decide) ?_
            refine J.iconst C (3) dL_makeNegation_19 (by decide) ?_
            exact J.iret C hr (Nat.le_of_ble_eq_true rfl) (Nat.le_of_ble_eq_true rfl) dL_makeNegation_20 ⟨by rw [hrr], by rw [hrr]⟩
        · rcases lookup_cons hk with ⟨rfl, rfl⟩ | ⟨ne3, hk⟩
          · refine J.catch C ht [(0, 9, 12, 24), (0, 9, 15, 43), (0, 9, 18, 51)] [] { startPc := 0, endPc := 9, handlerPc := 21, catchType := 15 } rfl (by decide) (fun z hz => ?_) (by decide) (by decide) kCl_L_15 cast_IllegalStateException (fun q => ?_)
            · have hz : z ∈ ([{ startPc := 0, endPc := 9, handlerPc := 12, catchType := 24 }, { startPc := 0, endPc := 9, handlerPc := 15, catchType := 43 }, { startPc := 0, endPc := 9, handlerPc := 18, catchType := 51 }] : List ExceptionTableEntry) := hz
              simp only [List.mem_cons, List.not_mem_nil, or_false] at hz
              rcases hz with rfl | rfl | rfl
              · exact ⟨by decide, _, kCl_L_24, by decide, by decide⟩
              · exact ⟨by decide, _, kCl_L_43, by decide, by decide⟩
              · exact ⟨by decide, _, kCl_L_51, by decide, by decide⟩
            · refine J.astore_n (i := 3) C dL_makeNegation_21 rfl (by decide) ?_
              refine J.iconst C (4) dL_makeNegation_22 (by decide) ?_
              exact J.iret C hr (Nat.le_of_ble_eq_true rfl) (Nat.le_of_ble_eq_true rfl) dL_makeNegation_23 ⟨by rw [hrr], by rw [hrr]⟩
          · exact (lookup_nil hk).elim
  · cases hst
    refine J.i2l C dL_makeNegation_7 ?_
    refine J.last C (66 + (R9.length + 0)) lw_0 (show vp_in 0 1 by unfold vp_in; decide) dL_makeNegation_8 ?_
    refine J.heq (lw_s0 _) ?_
    refine J.goto (tgt := 24) C dL_makeNegation_9 (by decide) ?_
    refine J.iconst C (0) dL_makeNegation_24 (by decide) ?_
    exact J.iret C hr (Nat.le_of_ble_eq_true rfl) (Nat.le_of_ble_eq_true rfl) dL_makeNegation_25 ⟨by rw [hrr], by rw [hrr]⟩
abbrev mL_useNegation : MD := (yL_useNegation, cL_useNegation, 5, some .int)
abbrev hL_useNegation : HH := [(0, 10, 13, 24), (0, 10, 17, 43), (0, 10, 21, 51), (0, 10, 25, 15)]
def W_L_useNegation (σ : DS) (w : OS) (a1 : Int32) (a2 : Int32) : Res LWS Int32 := wrT [("java/lang/IndexOutOfBoundsException", 1), ("java/util/NoSuchElementException", 2), ("java/lang/UnsupportedOperationException", 3), ("java/lang/IllegalStateException", 4)] stI (P_X6_useNegation σ a1 a2) w
set_option maxRecDepth 100000 in
theorem sp_L_useNegation {l : Launch} (hl : l.stackTraces = false) {g : Gy} {ad : Nat → Nat} {R9 : va_W} {o1 o2 : Nat} (σ : DS) (w : OS) (a1 : Int32) (a2 : Int32) (rr : (Int32 ⊕ String) × LWS) (H : W_L_useNegation σ w a1 a2 = some rr) : SpH l mL_useNegation hL_useNegation 10 7 42 mI g [.ref (ad 0), .int a1, .int a2, .ref o1] (lwh g ad R9 o1 o2 (σ, w)) (fun r u => rr.1 = .inl r ∧ u = lwh g ad R9 o1 o2 rr.2) (fun _ _ => False) := by
  refine SpH.of hl (by decide) (Nat.le_of_ble_eq_true rfl) (fun p e s m args below meth c A C hr ht => ?_)
  unfold W_L_useNegation at H
  refine J.lw (lv' := [(0, .ref (ad 0)), (1, .int a1), (2, .int a2), (3, .ref o1)]) ⟨rfl, rfl, rfl, rfl, trivial⟩ ?_
  refine J.aload_n (i := 3) C dL_useNegation_0 rfl rfl ?_
  refine J.iconst C (0) dL_useNegation_1 (by decide) ?_
  refine J.aload_n (i := 0) C dL_useNegation_2 rfl rfl ?_
  refine J.iload_n (i := 1) C dL_useNegation_3 rfl rfl ?_
  refine J.iload_n (i := 2) C dL_useNegation_4 rfl rfl ?_
  refine J.callH C rfl (sp_X6_useNegation hl a1 a2) rfl kMl_L_86 mdX6_useNegation ⟨(Nat.le_of_ble_eq_true rfl), (Nat.le_of_ble_eq_true rfl)⟩ dk_0 rfl rfl (Nat.le_of_ble_eq_true rfl) dL_useNegation_5 ⟨(Nat.le_of_ble_eq_true rfl), (Nat.le_of_ble_eq_true rfl)⟩ H (fun E k σ1 hk hrr => ?_) (fun r σ1 w1 hst hrr => ?_)
  · rcases lookup_cons hk with ⟨rfl, rfl⟩ | ⟨ne0, hk⟩
    · refine J.catch C ht [] [(0, 10, 17, 43), (0, 10, 21, 51), (0, 10, 25, 15)] { startPc := 0, endPc := 10, handlerPc := 13, catchType := 24 } rfl (by decide) (fun z hz => ?_) (by decide) (by decide) kCl_L_24 cast_IndexOutOfBoundsException (fun q => ?_)
      · cases hz
      · refine J.astore C dL_useNegation_13 (by decide) ?_
        refine J.iconst C (1) dL_useNegation_15 (by decide) ?_
        exact J.iret C hr (Nat.le_of_ble_eq_true rfl) (Nat.le_of_ble_eq_true rfl) dL_useNegation_16 ⟨by rw [hrr], by rw [hrr]⟩
    · rcases lookup_cons hk with ⟨rfl, rfl⟩ | ⟨ne1, hk⟩
      · refine J.catch C ht [(0, 10, 13, 24)] [(0, 10, 21, 51), (0, 10, 25, 15)] { startPc := 0, endPc := 10, handlerPc := 17, catchType := 43 } rfl (by decide) (fun z hz => ?_) (by decide) (by decide) kCl_L_43 cast_NoSuchElementException (fun q => ?_)
        · have hz : z ∈ ([{ startPc := 0, endPc := 10, handlerPc := 13, catchType := 24 }] : List ExceptionTableEntry) := hz
          simp only [List.mem_cons, List.not_mem_nil, or_false] at hz
          rcases hz with rfl
          · exact ⟨by decide, _, kCl_L_24, by decide, by decide⟩
        · refine J.astore C dL_useNegation_17 (by decide) ?_
          refine J.iconst C (2) dL_useNegation_19 (by decide) ?_
          exact J.iret C hr (Nat.le_of_ble_eq_true rfl) (Nat.le_of_ble_eq_true rfl) dL_useNegation_20 ⟨by rw [hrr], by rw [hrr]⟩
      · rcases lookup_cons hk with ⟨rfl, rfl⟩ | ⟨ne2, hk⟩
        · refine J.catch C ht [(0, 10, 13, 24), (0, 10, 17, 43)] [(0, 10, 25, 15)] { startPc := 0, endPc := 10, handlerPc := 21, catchType := 51 } rfl (by decide) (fun z hz => ?_) (by decide) (by decide) kCl_L_51 cast_UnsupportedOperationException (fun q => ?_)
          · have hz : z ∈ ([{ startPc := 0, endPc := 10, handlerPc := 13, catchType := 24 }, { startPc := 0, endPc := 10, handlerPc := 17, catchType := 43 }] : List ExceptionTableEntry) := hz
            simp only [List.mem_cons, List.not_mem_nil, or_false] at hz
            rcases hz with rfl | rfl
            · exact ⟨by decide, _, kCl_L_24, by decide, by decide⟩
            · exact ⟨by decide, _, kCl_L_43, by decide, by decide⟩
          · refine J.astore C dL_useNegation_21 (by decide) ?_
            refine J.iconst C (3) dL_useNegation_23 (by decide) ?_
            exact J.iret C hr (Nat.le_of_ble_eq_true rfl) (Nat.le_of_ble_eq_true rfl) dL_useNegation_24 ⟨by rw [hrr], by rw [hrr]⟩
        · rcases lookup_cons hk with ⟨rfl, rfl⟩ | ⟨ne3, hk⟩
          · refine J.catch C ht [(0, 10, 13, 24), (0, 10, 17, 43), (0, 10, 21, 51)] [] { startPc := 0, endPc := 10, handlerPc := 25, catchType := 15 } rfl (by decide) (fun z hz => ?_) (by decide) (by decide) kCl_L_15 cast_IllegalStateException (fun q => ?_)
            · have hz : z ∈ ([{ startPc := 0, endPc := 10, handlerPc := 13, catchType := 24 }, { startPc := 0, endPc := 10, handlerPc := 17, catchType := 43 }, { startPc := 0, endPc := 10, handlerPc := 21, catchType := 51 }] : List ExceptionTableEntry) := hz
              simp only [List.mem_cons, List.not_mem_nil, or_false] at hz
              rcases hz with rfl | rfl | rfl
              · exact ⟨by decide, _, kCl_L_24, by decide, by decide⟩
              · exact ⟨by decide, _, kCl_L_43, by decide, by decide⟩
              · exact ⟨by decide, _, kCl_L_51, by decide, by decide⟩
            · refine J.astore C dL_useNegation_25 (by decide) ?_
              refine J.iconst C (4) dL_useNegation_27 (by decide) ?_
              exact J.iret C hr (Nat.le_of_ble_eq_true rfl) (Nat.le_of_ble_eq_true rfl) dL_useNegation_28 ⟨by rw [hrr], by rw [hrr]⟩
          · exact (lookup_nil hk).elim
  · cases hst
    refine J.i2l C dL_useNegation_8 ?_
    refine J.last C (66 + (R9.length + 0)) lw_0 (show vp_in 0 1 by unfold vp_in; decide) dL_useNegation_9 ?_
    refine J.heq (lw_s0 _) ?_
    refine J.goto (tgt := 29) C dL_useNegation_10 (by decide) ?_
    refine J.iconst C (0) dL_useNegation_29 (by decide) ?_
    exact J.iret C hr (Nat.le_of_ble_eq_true rfl) (Nat.le_of_ble_eq_true rfl) dL_useNegation_30 ⟨by rw [hrr], by rw [hrr]⟩
abbrev mL_fromFalsum : MD := (yL_fromFalsum, cL_fromFalsum, 5, some .int)
abbrev hL_fromFalsum : HH := [(0, 10, 13, 24), (0, 10, 17, 43), (0, 10, 21, 51), (0, 10, 25, 15)]
def W_L_fromFalsum (σ : DS) (w : OS) (a1 : Int32) (a2 : Int32) : Res LWS Int32 := wrT [("java/lang/IndexOutOfBoundsException", 1), ("java/util/NoSuchElementException", 2), ("java/lang/UnsupportedOperationException", 3), ("java/lang/IllegalStateException", 4)] stI (P_X6_fromFalsum σ a1 a2) w
set_option maxRecDepth 100000 in
theorem sp_L_fromFalsum {l : Launch} (hl : l.stackTraces = false) {g : Gy} {ad : Nat → Nat} {R9 : va_W} {o1 o2 : Nat} (σ : DS) (w : OS) (a1 : Int32) (a2 : Int32) (rr : (Int32 ⊕ String) × LWS) (H : W_L_fromFalsum σ w a1 a2 = some rr) : SpH l mL_fromFalsum hL_fromFalsum 9 5 30 mI g [.ref (ad 0), .int a1, .int a2, .ref o1] (lwh g ad R9 o1 o2 (σ, w)) (fun r u => rr.1 = .inl r ∧ u = lwh g ad R9 o1 o2 rr.2) (fun _ _ => False) := by
  refine SpH.of hl (by decide) (Nat.le_of_ble_eq_true rfl) (fun p e s m args below meth c A C hr ht => ?_)
  unfold W_L_fromFalsum at H
  refine J.lw (lv' := [(0, .ref (ad 0)), (1, .int a1), (2, .int a2), (3, .ref o1)]) ⟨rfl, rfl, rfl, rfl, trivial⟩ ?_
  refine J.aload_n (i := 3) C dL_fromFalsum_0 rfl rfl ?_
  refine J.iconst C (0) dL_fromFalsum_1 (by decide) ?_
  refine J.aload_n (i := 0) C dL_fromFalsum_2 rfl rfl ?_
  refine J.iload_n (i := 1) C dL_fromFalsum_3 rfl rfl ?_
  refine J.iload_n (i := 2) C dL_fromFalsum_4 rfl rfl ?_
  refine J.callH C rfl (sp_X6_fromFalsum hl a1 a2) rfl kMl_L_89 mdX6_fromFalsum ⟨(Nat.le_of_ble_eq_true rfl), (Nat.le_of_ble_eq_true rfl)⟩ dk_0 rfl rfl (Nat.le_of_ble_eq_true rfl) dL_fromFalsum_5 ⟨(Nat.le_of_ble_eq_true rfl), (Nat.le_of_ble_eq_true rfl)⟩ H (fun E k σ1 hk hrr => ?_) (fun r σ1 w1 hst hrr => ?_)
  · rcases lookup_cons hk with ⟨rfl, rfl⟩ | ⟨ne0, hk⟩
    · refine J.catch C ht [] [(0, 10, 17, 43), (0, 10, 21, 51), (0, 10, 25, 15)] { startPc := 0, endPc := 10, handlerPc := 13, catchType := 24 } rfl (by decide) (fun z hz => ?_) (by decide) (by decide) kCl_L_24 cast_IndexOutOfBoundsException (fun q => ?_)
      · cases hz
      · refine J.astore C dL_fromFalsum_13 (by decide) ?_
        refine J.iconst C (1) dL_fromFalsum_15 (by decide) ?_
        exact J.iret C hr (Nat.le_of_ble_eq_true rfl) (Nat.le_of_ble_eq_true rfl) dL_fromFalsum_16 ⟨by rw [hrr], by rw [hrr]⟩
    · rcases lookup_cons hk with ⟨rfl, rfl⟩ | ⟨ne1, hk⟩
      · refine J.catch C ht [(0, 10, 13, 24)] [(0, 10, 21, 51), (0, 10, 25, 15)] { startPc := 0, endPc := 10, handlerPc := 17, catchType := 43 } rfl (by decide) (fun z hz => ?_) (by decide) (by decide) kCl_L_43 cast_NoSuchElementException (fun q => ?_)
        · have hz : z ∈ ([{ startPc := 0, endPc := 10, handlerPc := 13, catchType := 24 }] : List ExceptionTableEntry) := hz
          simp only [List.mem_cons, List.not_mem_nil, or_false] at hz
          rcases hz with rfl
          · exact ⟨by decide, _, kCl_L_24, by decide, by decide⟩
        · refine J.astore C dL_fromFalsum_17 (by decide) ?_
          refine J.iconst C (2) dL_fromFalsum_19 (by decide) ?_
          exact J.iret C hr (Nat.le_of_ble_eq_true rfl) (Nat.le_of_ble_eq_true rfl) dL_fromFalsum_20 ⟨by rw [hrr], by rw [hrr]⟩
      · rcases lookup_cons hk with ⟨rfl, rfl⟩ | ⟨ne2, hk⟩
        · refine J.catch C ht [(0, 10, 13, 24), (0, 10, 17, 43)] [(0, 10, 25, 15)] { startPc := 0, endPc := 10, handlerPc := 21, catchType := 51 } rfl (by decide) (fun z hz => ?_) (by decide) (by decide) kCl_L_51 cast_UnsupportedOperationException (fun q => ?_)
          · have hz : z ∈ ([{ startPc := 0, endPc := 10, handlerPc := 13, catchType := 24 }, { startPc := 0, endPc := 10, handlerPc := 17, catchType := 43 }] : List ExceptionTableEntry) := hz
            simp only [List.mem_cons, List.not_mem_nil, or_false] at hz
            rcases hz with rfl | rfl
            · exact ⟨by decide, _, kCl_L_24, by decide, by decide⟩
            · exact ⟨by decide, _, kCl_L_43, by decide, by decide⟩
          · refine J.astore C dL_fromFalsum_21 (by decide) ?_
            refine J.iconst C (3) dL_fromFalsum_23 (by decide) ?_
            exact J.iret C hr (Nat.le_of_ble_eq_true rfl) (Nat.le_of_ble_eq_true rfl) dL_fromFalsum_24 ⟨by rw [hrr], by rw [hrr]⟩
        · rcases lookup_cons hk with ⟨rfl, rfl⟩ | ⟨ne3, hk⟩
          · refine J.catch C ht [(0, 10, 13, 24), (0, 10, 17, 43), (0, 10, 21, 51)] [] { startPc := 0, endPc := 10, handlerPc := 25, catchType := 15 } rfl (by decide) (fun z hz => ?_) (by decide) (by decide) kCl_L_15 cast_IllegalStateException (fun q => ?_)
            · have hz : z ∈ ([{ startPc := 0, endPc := 10, handlerPc := 13, catchType := 24 }, { startPc := 0, endPc := 10, handlerPc := 17, catchType := 43 }, { startPc := 0, endPc := 10, handlerPc := 21, catchType := 51 }] : List ExceptionTableEntry) := hz
              simp only [List.mem_cons, List.not_mem_nil, or_false] at hz
              rcases hz with rfl | rfl | rfl
              · exact ⟨by decide, _, kCl_L_24, by decide, by decide⟩
              · exact ⟨by decide, _, kCl_L_43, by decide, by decide⟩
              · exact ⟨by decide, _, kCl_L_51, by decide, by decide⟩
            · refine J.astore C dL_fromFalsum_25 (by decide) ?_
              refine J.iconst C (4) dL_fromFalsum_27 (by decide) ?_
              exact J.iret C hr (Nat.le_of_ble_eq_true rfl) (Nat.le_of_ble_eq_true rfl) dL_fromFalsum_28 ⟨by rw [hrr], by rw [hrr]⟩
          · exact (lookup_nil hk).elim
  · cases hst
    refine J.i2l C dL_fromFalsum_8 ?_
    refine J.last C (66 + (R9.length + 0)) lw_0 (show vp_in 0 1 by unfold vp_in; decide) dL_fromFalsum_9 ?_
    refine J.heq (lw_s0 _) ?_
    refine J.goto (tgt := 29) C dL_fromFalsum_10 (by decide) ?_
    refine J.iconst C (0) dL_fromFalsum_29 (by decide) ?_
    exact J.iret C hr (Nat.le_of_ble_eq_true rfl) (Nat.le_of_ble_eq_true rfl) dL_fromFalsum_30 ⟨by rw [hrr], by rw [hrr]⟩
abbrev mL_doubleNegation : MD := (yL_doubleNegation, cL_doubleNegation, 4, some .int)
abbrev hL_doubleNegation : HH := [(0, 9, 12, 24), (0, 9, 15, 43), (0, 9, 18, 51), (0, 9, 21, 15)]
def W_L_doubleNegation (σ : DS) (w : OS) (a1 : Int32) : Res LWS Int32 := wrT [("java/lang/IndexOutOfBoundsException", 1), ("java/util/NoSuchElementException", 2), ("java/lang/UnsupportedOperationException", 3), ("java/lang/IllegalStateException", 4)] stI (P_X6_doubleNegation σ a1) w
set_option maxRecDepth 100000 in
theorem sp_L_doubleNegation {l : Launch} (hl : l.stackTraces = false) {g : Gy} {ad : Nat → Nat} {R9 : va_W} {o1 o2 : Nat} (σ : DS) (w : OS) (a1 : Int32) (rr : (Int32 ⊕ String) × LWS) (H : W_L_doubleNegation σ w a1 = some rr) : SpH l mL_doubleNegation hL_doubleNegation 9 4 24 mI g [.ref (ad 0), .int a1, .ref o1] (lwh g ad R9 o1 o2 (σ, w)) (fun r u => rr.1 = .inl r ∧ u = lwh g ad R9 o1 o2 rr.2) (fun _ _ => False) := by
  refine SpH.of hl (by decide) (Nat.le_of_ble_eq_true rfl) (fun p e s m args below meth c A C hr ht => ?_)
  unfold W_L_doubleNegation at H
  refine J.lw (lv' := [(0, .ref (ad 0)), (1, .int a1), (2, .ref o1)]) ⟨rfl, rfl, rfl, trivial⟩ ?_
  refine J.aload_n (i := 2) C dL_doubleNegation_0 rfl rfl ?_
  refine J.iconst C (0) dL_doubleNegation_1 (by decide) ?_
  refine J.aload_n (i := 0) C dL_doubleNegation_2 rfl rfl ?_
  refine J.iload_n (i := 1) C dL_doubleNegation_3 rfl rfl ?_
  refine J.callH C rfl (sp_X6_doubleNegation hl a1) rfl kMl_L_92 mdX6_doubleNegation ⟨(Nat.le_of_ble_eq_true rfl), (Nat.le_of_ble_eq_true rfl)⟩ dk_0 rfl rfl (Nat.le_of_ble_eq_true rfl) dL_doubleNegation_4 ⟨(Nat.le_of_ble_eq_true rfl), (Nat.le_of_ble_eq_true rfl)⟩ H (fun E k σ1 hk hrr => ?_) (fun r σ1 w1 hst hrr => ?_)
  · rcases lookup_cons hk with ⟨rfl, rfl⟩ | ⟨ne0, hk⟩
    · refine J.catch C ht [] [(0, 9, 15, 43), (0, 9, 18, 51), (0, 9, 21, 15)] { startPc := 0, endPc := 9, handlerPc := 12, catchType := 24 } rfl (by decide) (fun z hz => ?_) (by decide) (by decide) kCl_L_24 cast_IndexOutOfBoundsException (fun q => ?_)
      · cases hz
      · refine J.astore_n (i := 3) C dL_doubleNegation_12 rfl (by decide) ?_
        refine J.iconst C (1) dL_doubleNegation_13 (by decide) ?_
        exact J.iret C hr (Nat.le_of_ble_eq_true rfl) (Nat.le_of_ble_eq_true rfl) dL_doubleNegation_14 ⟨by rw [hrr], by rw [hrr]⟩
    · rcases lookup_cons hk with ⟨rfl, rfl⟩ | ⟨ne1, hk⟩
      · refine J.catch C ht [(0, 9, 12, 24)] [(0, 9, 18, 51), (0, 9, 21, 15)] { startPc := 0, endPc := 9, handlerPc := 15, catchType := 43 } rfl (by decide) (fun z hz => ?_) (by decide) (by decide) kCl_L_43 cast_NoSuchElementException (fun q => ?_)
        · have hz : z ∈ ([{ startPc := 0, endPc := 9, handlerPc := 12, catchType := 24 }] : List ExceptionTableEntry) := hz
          simp only [List.mem_cons, List.not_mem_nil, or_false] at hz
          rcases hz with rfl
          · exact ⟨by decide, _, kCl_L_24, by decide, by decide⟩
        · refine J.astore_n (i := 3) C dL_doubleNegation_15 rfl (by decide) ?_
          refine J.iconst C (2) dL_doubleNegation_16 (by decide) ?_
          exact J.iret C hr (Nat.le_of_ble_eq_true rfl) (Nat.le_of_ble_eq_true rfl) dL_doubleNegation_17 ⟨by rw [hrr], by rw [hrr]⟩
      · rcases lookup_cons hk with ⟨rfl, rfl⟩ | ⟨ne2, hk⟩
        · refine J.catch C ht [(0, 9, 12, 24), (0, 9, 15, 43)] [(0, 9, 21, 15)] { startPc := 0, endPc := 9, handlerPc := 18, catchType := 51 } rfl (by decide) (fun z hz => ?_) (by decide) (by decide) kCl_L_51 cast_UnsupportedOperationException (fun q => ?_)
          · have hz : z ∈ ([{ startPc := 0, endPc := 9, handlerPc := 12, catchType := 24 }, { startPc := 0, endPc := 9, handlerPc := 15, catchType := 43 }] : List ExceptionTableEntry) := hz
            simp only [List.mem_cons, List.not_mem_nil, or_false] at hz
            rcases hz with rfl | rfl
            · exact ⟨by decide, _, kCl_L_24, by decide, by decide⟩
            · exact ⟨by decide, _, kCl_L_43, by decide, by decide⟩
          · refine J.astore_n (i := 3) C dL_doubleNegation_18 rfl (by decide) ?_
            refine J.iconst C (3) dL_doubleNegation_19 (by decide) ?_
            exact J.iret C hr (Nat.le_of_ble_eq_true rfl) (Nat.le_of_ble_eq_true rfl) dL_doubleNegation_20 ⟨by rw [hrr], by rw [hrr]⟩
        · rcases lookup_cons hk with ⟨rfl, rfl⟩ | ⟨ne3, hk⟩
          · refine J.catch C ht [(0, 9, 12, 24), (0, 9, 15, 43), (0, 9, 18, 51)] [] { startPc := 0, endPc := 9, handlerPc := 21, catchType := 15 } rfl (by decide) (fun z hz => ?_) (by decide) (by decide) kCl_L_15 cast_IllegalStateException (fun q => ?_)
            · have hz : z ∈ ([{ startPc := 0, endPc := 9, handlerPc := 12, catchType := 24 }, { startPc := 0, endPc := 9, handlerPc := 15, catchType := 43 }, { startPc := 0, endPc := 9, handlerPc := 18, catchType := 51 }] : List ExceptionTableEntry) := hz
              simp only [List.mem_cons, List.not_mem_nil, or_false] at hz
              rcases hz with rfl | rfl | rfl
              · exact ⟨by decide, _, kCl_L_24, by decide, by decide⟩
              · exact ⟨by decide, _, kCl_L_43, by decide, by decide⟩
              · exact ⟨by decide, _, kCl_L_51, by decide, by decide⟩
            · refine J.astore_n (i := 3) C dL_doubleNegation_21 rfl (by decide) ?_
              refine J.iconst C (4) dL_doubleNegation_22 (by decide) ?_
              exact J.iret C hr (Nat.le_of_ble_eq_true rfl) (Nat.le_of_ble_eq_true rfl) dL_doubleNegation_23 ⟨by rw [hrr], by rw [hrr]⟩
          · exact (lookup_nil hk).elim
  · cases hst
    refine J.i2l C dL_doubleNegation_7 ?_
    refine J.last C (66 + (R9.length + 0)) lw_0 (show vp_in 0 1 by unfold vp_in; decide) dL_doubleNegation_8 ?_
    refine J.heq (lw_s0 _) ?_
    refine J.goto (tgt := 24) C dL_doubleNegation_9 (by decide) ?_
    refine J.iconst C (0) dL_doubleNegation_24 (by decide) ?_
    exact J.iret C hr (Nat.le_of_ble_eq_true rfl) (Nat.le_of_ble_eq_true rfl) dL_doubleNegation_25 ⟨by rw [hrr], by rw [hrr]⟩
abbrev mL_keepLemma : MD := (yL_keepLemma, cL_keepLemma, 3, some .int)
abbrev hL_keepLemma : HH := [(0, 8, 11, 43), (0, 8, 14, 51), (0, 8, 17, 15)]
def W_L_keepLemma (σ : DS) (w : OS)  : Res LWS Int32 := wrT [("java/util/NoSuchElementException", 1), ("java/lang/UnsupportedOperationException", 2), ("java/lang/IllegalStateException", 3)] stI (P_X6_keepLemma σ ) w
set_option maxRecDepth 100000 in
theorem sp_L_keepLemma {l : Launch} (hl : l.stackTraces = false) {g : Gy} {ad : Nat → Nat} {R9 : va_W} {o1 o2 : Nat} (σ : DS) (w : OS)  (rr : (Int32 ⊕ String) × LWS) (H : W_L_keepLemma σ w  = some rr) : SpH l mL_keepLemma hL_keepLemma 9 4 24 mI g [.ref (ad 0), .ref o1] (lwh g ad R9 o1 o2 (σ, w)) (fun r u => rr.1 = .inl r ∧ u = lwh g ad R9 o1 o2 rr.2) (fun _ _ => False) := by
  refine SpH.of hl (by decide) (Nat.le_of_ble_eq_true rfl) (fun p e s m args below meth c A C hr ht => ?_)
  unfold W_L_keepLemma at H
  refine J.lw (lv' := [(0, .ref (ad 0)), (1, .ref o1)]) ⟨rfl, rfl, trivial⟩ ?_
  refine J.aload_n (i := 1) C dL_keepLemma_0 rfl rfl ?_
  refine J.iconst C (0) dL_keepLemma_1 (by decide) ?_
  refine J.aload_n (i := 0) C dL_keepLemma_2 rfl rfl ?_
  refine J.callH C rfl (sp_X6_keepLemma hl ) rfl kMl_L_95 mdX6_keepLemma ⟨(Nat.le_of_ble_eq_true rfl), (Nat.le_of_ble_eq_true rfl)⟩ dk_0 rfl rfl (Nat.le_of_ble_eq_true rfl) dL_keepLemma_3 ⟨(Nat.le_of_ble_eq_true rfl), (Nat.le_of_ble_eq_true rfl)⟩ H (fun E k σ1 hk hrr => ?_) (fun r σ1 w1 hst hrr => ?_)
  · rcases lookup_cons hk with ⟨rfl, rfl⟩ | ⟨ne0, hk⟩
    · refine J.catch C ht [] [(0, 8, 14, 51), (0, 8, 17, 15)] { startPc := 0, endPc := 8, handlerPc := 11, catchType := 43 } rfl (by decide) (fun z hz => ?_) (by decide) (by decide) kCl_L_43 cast_NoSuchElementException (fun q => ?_)
      · cases hz
      · refine J.astore_n (i := 2) C dL_keepLemma_11 rfl (by decide) ?_
        refine J.iconst C (1) dL_keepLemma_12 (by decide) ?_
        exact J.iret C hr (Nat.le_of_ble_eq_true rfl) (Nat.le_of_ble_eq_true rfl) dL_keepLemma_13 ⟨by rw [hrr], by rw [hrr]⟩
    · rcases lookup_cons hk with ⟨rfl, rfl⟩ | ⟨ne1, hk⟩
      · refine J.catch C ht [(0, 8, 11, 43)] [(0, 8, 17, 15)] { startPc := 0, endPc := 8, handlerPc := 14, catchType := 51 } rfl (by decide) (fun z hz => ?_) (by decide) (by decide) kCl_L_51 cast_UnsupportedOperationException (fun q => ?_)
        · have hz : z ∈ ([{ startPc := 0, endPc := 8, handlerPc := 11, catchType := 43 }] : List ExceptionTableEntry) := hz
          simp only [List.mem_cons, List.not_mem_nil, or_false] at hz
          rcases hz with rfl
          · exact ⟨by decide, _, kCl_L_43, by decide, by decide⟩
        · refine J.astore_n (i := 2) C dL_keepLemma_14 rfl (by decide) ?_
          refine J.iconst C (2) dL_keepLemma_15 (by decide) ?_
          exact J.iret C hr (Nat.le_of_ble_eq_true rfl) (Nat.le_of_ble_eq_true rfl) dL_keepLemma_16 ⟨by rw [hrr], by rw [hrr]⟩
      · rcases lookup_cons hk with ⟨rfl, rfl⟩ | ⟨ne2, hk⟩
        · refine J.catch C ht [(0, 8, 11, 43), (0, 8, 14, 51)] [] { startPc := 0, endPc := 8, handlerPc := 17, catchType := 15 } rfl (by decide) (fun z hz => ?_) (by decide) (by decide) kCl_L_15 cast_IllegalStateException (fun q => ?_)
          · have hz : z ∈ ([{ startPc := 0, endPc := 8, handlerPc := 11, catchType := 43 }, { startPc := 0, endPc := 8, handlerPc := 14, catchType := 51 }] : List ExceptionTableEntry) := hz
            simp only [List.mem_cons, List.not_mem_nil, or_false] at hz
            rcases hz with rfl | rfl
            · exact ⟨by decide, _, kCl_L_43, by decide, by decide⟩
            · exact ⟨by decide, _, kCl_L_51, by decide, by decide⟩
          · refine J.astore_n (i := 2) C dL_keepLemma_17 rfl (by decide) ?_
            refine J.iconst C (3) dL_keepLemma_18 (by decide) ?_
            exact J.iret C hr (Nat.le_of_ble_eq_true rfl) (Nat.le_of_ble_eq_true rfl) dL_keepLemma_19 ⟨by rw [hrr], by rw [hrr]⟩
        · exact (lookup_nil hk).elim
  · cases hst
    refine J.i2l C dL_keepLemma_6 ?_
    refine J.last C (66 + (R9.length + 0)) lw_0 (show vp_in 0 1 by unfold vp_in; decide) dL_keepLemma_7 ?_
    refine J.heq (lw_s0 _) ?_
    refine J.goto (tgt := 20) C dL_keepLemma_8 (by decide) ?_
    refine J.iconst C (0) dL_keepLemma_20 (by decide) ?_
    exact J.iret C hr (Nat.le_of_ble_eq_true rfl) (Nat.le_of_ble_eq_true rfl) dL_keepLemma_21 ⟨by rw [hrr], by rw [hrr]⟩
abbrev mL_useLemma : MD := (yL_useLemma, cL_useLemma, 6, some .int)
abbrev hL_useLemma : HH := [(0, 12, 15, 24), (0, 12, 19, 43), (0, 12, 23, 51), (0, 12, 27, 15)]
def W_L_useLemma (σ : DS) (w : OS) (a1 : Int32) (a2 : Int32) (a3 : Int32) : Res LWS Int32 := wrT [("java/lang/IndexOutOfBoundsException", 1), ("java/util/NoSuchElementException", 2), ("java/lang/UnsupportedOperationException", 3), ("java/lang/IllegalStateException", 4)] stI (P_X6_useLemma σ a1 a2 a3) w
set_option maxRecDepth 100000 in
theorem sp_L_useLemma {l : Launch} (hl : l.stackTraces = false) {g : Gy} {ad : Nat → Nat} {R9 : va_W} {o1 o2 : Nat} (σ : DS) (w : OS) (a1 : Int32) (a2 : Int32) (a3 : Int32) (rr : (Int32 ⊕ String) × LWS) (H : W_L_useLemma σ w a1 a2 a3 = some rr) : SpH l mL_useLemma hL_useLemma 9 8 48 mI g [.ref (ad 0), .int a1, .int a2, .int a3, .ref o1] (lwh g ad R9 o1 o2 (σ, w)) (fun r u => rr.1 = .inl r ∧ u = lwh g ad R9 o1 o2 rr.2) (fun _ _ => False) := by
  refine SpH.of hl (by decide) (Nat.le_of_ble_eq_true rfl) (fun p e s m args below meth c A C hr ht => ?_)
  unfold W_L_useLemma at H
  refine J.lw (lv' := [(0, .ref (ad 0)), (1, .int a1), (2, .int a2), (3, .int a3), (4, .ref o1)]) ⟨rfl, rfl, rfl, rfl, rfl, trivial⟩ ?_
  refine J.aload C dL_useLemma_0 rfl ?_
  refine J.iconst C (0) dL_useLemma_2 (by decide) ?_
  refine J.aload_n (i := 0) C dL_useLemma_3 rfl rfl ?_
  refine J.iload_n (i := 1) C dL_useLemma_4 rfl rfl ?_
  refine J.iload_n (i := 2) C dL_useLemma_5 rfl rfl ?_
  refine J.iload_n (i := 3) C dL_useLemma_6 rfl rfl ?_
  refine J.callH C rfl (sp_X6_useLemma hl a1 a2 a3) rfl kMl_L_98 mdX6_useLemma ⟨(Nat.le_of_ble_eq_true rfl), (Nat.le_of_ble_eq_true rfl)⟩ dk_0 rfl rfl (Nat.le_of_ble_eq_true rfl) dL_useLemma_7 ⟨(Nat.le_of_ble_eq_true rfl), (Nat.le_of_ble_eq_true rfl)⟩ H (fun E k σ1 hk hrr => ?_) (fun r σ1 w1 hst hrr => ?_)
  · rcases lookup_cons hk with ⟨rfl, rfl⟩ | ⟨ne0, hk⟩
    · refine J.catch C ht [] [(0, 12, 19, 43), (0, 12, 23, 51), (0, 12, 27, 15)] { startPc := 0, endPc := 12, handlerPc := 15, catchType := 24 } rfl (by decide) (fun z hz => ?_) (by decide) (by decide) kCl_L_24 cast_IndexOutOfBoundsException (fun q => ?_)
      · cases hz
      · refine J.astore C dL_useLemma_15 (by decide) ?_
        refine J.iconst C (1) dL_useLemma_17 (by decide) ?_
        exact J.iret C hr (Nat.le_of_ble_eq_true rfl) (Nat.le_of_ble_eq_true rfl) dL_useLemma_18 ⟨by rw [hrr], by rw [hrr]⟩
    · rcases lookup_cons hk with ⟨rfl, rfl⟩ | ⟨ne1, hk⟩
      · refine J.catch C ht [(0, 12, 15, 24)] [(0, 12, 23, 51), (0, 12, 27, 15)] { startPc := 0, endPc := 12, handlerPc := 19, catchType := 43 } rfl (by decide) (fun z hz => ?_) (by decide) (by decide) kCl_L_43 cast_NoSuchElementException (fun q => ?_)
        · have hz : z ∈ ([{ startPc := 0, endPc := 12, handlerPc := 15, catchType := 24 }] : List ExceptionTableEntry) := hz
          simp only [List.mem_cons, List.not_mem_nil, or_false] at hz
          rcases hz with rfl
          · exact ⟨by decide, _, kCl_L_24, by decide, by decide⟩
        · refine J.astore C dL_useLemma_19 (by decide) ?_
          refine J.iconst C (2) dL_useLemma_21 (by decide) ?_
          exact J.iret C hr (Nat.le_of_ble_eq_true rfl) (Nat.le_of_ble_eq_true rfl) dL_useLemma_22 ⟨by rw [hrr], by rw [hrr]⟩
      · rcases lookup_cons hk with ⟨rfl, rfl⟩ | ⟨ne2, hk⟩
        · refine J.catch C ht [(0, 12, 15, 24), (0, 12, 19, 43)] [(0, 12, 27, 15)] { startPc := 0, endPc := 12, handlerPc := 23, catchType := 51 } rfl (by decide) (fun z hz => ?_) (by decide) (by decide) kCl_L_51 cast_UnsupportedOperationException (fun q => ?_)
          · have hz : z ∈ ([{ startPc := 0, endPc := 12, handlerPc := 15, catchType := 24 }, { startPc := 0, endPc := 12, handlerPc := 19, catchType := 43 }] : List ExceptionTableEntry) := hz
            simp only [List.mem_cons, List.not_mem_nil, or_false] at hz
            rcases hz with rfl | rfl
            · exact ⟨by decide, _, kCl_L_24, by decide, by decide⟩
            · exact ⟨by decide, _, kCl_L_43, by decide, by decide⟩
          · refine J.astore C dL_useLemma_23 (by decide) ?_
            refine J.iconst C (3) dL_useLemma_25 (by decide) ?_
            exact J.iret C hr (Nat.le_of_ble_eq_true rfl) (Nat.le_of_ble_eq_true rfl) dL_useLemma_26 ⟨by rw [hrr], by rw [hrr]⟩
        · rcases lookup_cons hk with ⟨rfl, rfl⟩ | ⟨ne3, hk⟩
          · refine J.catch C ht [(0, 12, 15, 24), (0, 12, 19, 43), (0, 12, 23, 51)] [] { startPc := 0, endPc := 12, handlerPc := 27, catchType := 15 } rfl (by decide) (fun z hz => ?_) (by decide) (by decide) kCl_L_15 cast_IllegalStateException (fun q => ?_)
            · have hz : z ∈ ([{ startPc := 0, endPc := 12, handlerPc := 15, catchType := 24 }, { startPc := 0, endPc := 12, handlerPc := 19, catchType := 43 }, { startPc := 0, endPc := 12, handlerPc := 23, catchType := 51 }] : List ExceptionTableEntry) := hz
              simp only [List.mem_cons, List.not_mem_nil, or_false] at hz
              rcases hz with rfl | rfl | rfl
              · exact ⟨by decide, _, kCl_L_24, by decide, by decide⟩
              · exact ⟨by decide, _, kCl_L_43, by decide, by decide⟩
              · exact ⟨by decide, _, kCl_L_51, by decide, by decide⟩
            · refine J.astore C dL_useLemma_27 (by decide) ?_
              refine J.iconst C (4) dL_useLemma_29 (by decide) ?_
              exact J.iret C hr (Nat.le_of_ble_eq_true rfl) (Nat.le_of_ble_eq_true rfl) dL_useLemma_30 ⟨by rw [hrr], by rw [hrr]⟩
          · exact (lookup_nil hk).elim
  · cases hst
    refine J.i2l C dL_useLemma_10 ?_
    refine J.last C (66 + (R9.length + 0)) lw_0 (show vp_in 0 1 by unfold vp_in; decide) dL_useLemma_11 ?_
    refine J.heq (lw_s0 _) ?_
    refine J.goto (tgt := 31) C dL_useLemma_12 (by decide) ?_
    refine J.iconst C (0) dL_useLemma_31 (by decide) ?_
    exact J.iret C hr (Nat.le_of_ble_eq_true rfl) (Nat.le_of_ble_eq_true rfl) dL_useLemma_32 ⟨by rw [hrr], by rw [hrr]⟩
abbrev mL_conclusionOf : MD := (yL_conclusionOf, cL_conclusionOf, 4, some .int)
abbrev hL_conclusionOf : HH := [(0, 9, 12, 24)]
def W_L_conclusionOf (σ : DS) (w : OS) (a1 : Int32) : Res LWS Int32 := wrT [("java/lang/IndexOutOfBoundsException", 1)] stI (P_X6_conclusionOf σ a1) w
set_option maxRecDepth 100000 in
theorem sp_L_conclusionOf {l : Launch} (hl : l.stackTraces = false) {g : Gy} {ad : Nat → Nat} {R9 : va_W} {o1 o2 : Nat} (σ : DS) (w : OS) (a1 : Int32) (rr : (Int32 ⊕ String) × LWS) (H : W_L_conclusionOf σ w a1 = some rr) : SpH l mL_conclusionOf hL_conclusionOf 9 1 6 mI g [.ref (ad 0), .int a1, .ref o1] (lwh g ad R9 o1 o2 (σ, w)) (fun r u => rr.1 = .inl r ∧ u = lwh g ad R9 o1 o2 rr.2) (fun _ _ => False) := by
  refine SpH.of hl (by decide) (Nat.le_of_ble_eq_true rfl) (fun p e s m args below meth c A C hr ht => ?_)
  unfold W_L_conclusionOf at H
  refine J.lw (lv' := [(0, .ref (ad 0)), (1, .int a1), (2, .ref o1)]) ⟨rfl, rfl, rfl, trivial⟩ ?_
  refine J.aload_n (i := 2) C dL_conclusionOf_0 rfl rfl ?_
  refine J.iconst C (0) dL_conclusionOf_1 (by decide) ?_
  refine J.aload_n (i := 0) C dL_conclusionOf_2 rfl rfl ?_
  refine J.iload_n (i := 1) C dL_conclusionOf_3 rfl rfl ?_
  refine J.callH C rfl (sp_X6_conclusionOf hl a1) rfl kMl_L_101 mdX6_conclusionOf ⟨(Nat.le_of_ble_eq_true rfl), (Nat.le_of_ble_eq_true rfl)⟩ dk_0 rfl rfl (Nat.le_of_ble_eq_true rfl) dL_conclusionOf_4 ⟨(Nat.le_of_ble_eq_true rfl), (Nat.le_of_ble_eq_true rfl)⟩ H (fun E k σ1 hk hrr => ?_) (fun r σ1 w1 hst hrr => ?_)
  · rcases lookup_cons hk with ⟨rfl, rfl⟩ | ⟨ne0, hk⟩
    · refine J.catch C ht [] [] { startPc := 0, endPc := 9, handlerPc := 12, catchType := 24 } rfl (by decide) (fun z hz => ?_) (by decide) (by decide) kCl_L_24 cast_IndexOutOfBoundsException (fun q => ?_)
      · cases hz
      · refine J.astore_n (i := 3) C dL_conclusionOf_12 rfl (by decide) ?_
        refine J.iconst C (1) dL_conclusionOf_13 (by decide) ?_
        exact J.iret C hr (Nat.le_of_ble_eq_true rfl) (Nat.le_of_ble_eq_true rfl) dL_conclusionOf_14 ⟨by rw [hrr], by rw [hrr]⟩
    · exact (lookup_nil hk).elim
  · cases hst
    refine J.i2l C dL_conclusionOf_7 ?_
    refine J.last C (66 + (R9.length + 0)) lw_0 (show vp_in 0 1 by unfold vp_in; decide) dL_conclusionOf_8 ?_
    refine J.heq (lw_s0 _) ?_
    refine J.goto (tgt := 15) C dL_conclusionOf_9 (by decide) ?_
    refine J.iconst C (0) dL_conclusionOf_15 (by decide) ?_
    exact J.iret C hr (Nat.le_of_ble_eq_true rfl) (Nat.le_of_ble_eq_true rfl) dL_conclusionOf_16 ⟨by rw [hrr], by rw [hrr]⟩
abbrev mL_formulaOf : MD := (yL_formulaOf, cL_formulaOf, 4, some .int)
abbrev hL_formulaOf : HH := [(0, 9, 12, 24)]
def W_L_formulaOf (σ : DS) (w : OS) (a1 : Int32) : Res LWS Int32 := wrT [("java/lang/IndexOutOfBoundsException", 1)] stI (P_X6_formulaOf σ a1) w
set_option maxRecDepth 100000 in
theorem sp_L_formulaOf {l : Launch} (hl : l.stackTraces = false) {g : Gy} {ad : Nat → Nat} {R9 : va_W} {o1 o2 : Nat} (σ : DS) (w : OS) (a1 : Int32) (rr : (Int32 ⊕ String) × LWS) (H : W_L_formulaOf σ w a1 = some rr) : SpH l mL_formulaOf hL_formulaOf 9 1 6 mI g [.ref (ad 0), .int a1, .ref o1] (lwh g ad R9 o1 o2 (σ, w)) (fun r u => rr.1 = .inl r ∧ u = lwh g ad R9 o1 o2 rr.2) (fun _ _ => False) := by
  refine SpH.of hl (by decide) (Nat.le_of_ble_eq_true rfl) (fun p e s m args below meth c A C hr ht => ?_)
  unfold W_L_formulaOf at H
  refine J.lw (lv' := [(0, .ref (ad 0)), (1, .int a1), (2, .ref o1)]) ⟨rfl, rfl, rfl, trivial⟩ ?_
  refine J.aload_n (i := 2) C dL_formulaOf_0 rfl rfl ?_
  refine J.iconst C (0) dL_formulaOf_1 (by decide) ?_
  refine J.aload_n (i := 0) C dL_formulaOf_2 rfl rfl ?_
  refine J.iload_n (i := 1) C dL_formulaOf_3 rfl rfl ?_
  refine J.callH C rfl (sp_X6_formulaOf hl a1) rfl kMl_L_104 mdX6_formulaOf ⟨(Nat.le_of_ble_eq_true rfl), (Nat.le_of_ble_eq_true rfl)⟩ dk_0 rfl rfl (Nat.le_of_ble_eq_true rfl) dL_formulaOf_4 ⟨(Nat.le_of_ble_eq_true rfl), (Nat.le_of_ble_eq_true rfl)⟩ H (fun E k σ1 hk hrr => ?_) (fun r σ1 w1 hst hrr => ?_)
  · rcases lookup_cons hk with ⟨rfl, rfl⟩ | ⟨ne0, hk⟩
    · refine J.catch C ht [] [] { startPc := 0, endPc := 9, handlerPc := 12, catchType := 24 } rfl (by decide) (fun z hz => ?_) (by decide) (by decide) kCl_L_24 cast_IndexOutOfBoundsException (fun q => ?_)
      · cases hz
      · refine J.astore_n (i := 3) C dL_formulaOf_12 rfl (by decide) ?_
        refine J.iconst C (1) dL_formulaOf_13 (by decide) ?_
        exact J.iret C hr (Nat.le_of_ble_eq_true rfl) (Nat.le_of_ble_eq_true rfl) dL_formulaOf_14 ⟨by rw [hrr], by rw [hrr]⟩
    · exact (lookup_nil hk).elim
  · cases hst
    refine J.i2l C dL_formulaOf_7 ?_
    refine J.last C (66 + (R9.length + 0)) lw_0 (show vp_in 0 1 by unfold vp_in; decide) dL_formulaOf_8 ?_
    refine J.heq (lw_s0 _) ?_
    refine J.goto (tgt := 15) C dL_formulaOf_9 (by decide) ?_
    refine J.iconst C (0) dL_formulaOf_15 (by decide) ?_
    exact J.iret C hr (Nat.le_of_ble_eq_true rfl) (Nat.le_of_ble_eq_true rfl) dL_formulaOf_16 ⟨by rw [hrr], by rw [hrr]⟩
abbrev mL_ruleOf : MD := (yL_ruleOf, cL_ruleOf, 4, some .int)
abbrev hL_ruleOf : HH := [(0, 9, 12, 24)]
def W_L_ruleOf (σ : DS) (w : OS) (a1 : Int32) : Res LWS Int32 := wrT [("java/lang/IndexOutOfBoundsException", 1)] stI (P_X6_ruleOf σ a1) w
set_option maxRecDepth 100000 in
theorem sp_L_ruleOf {l : Launch} (hl : l.stackTraces = false) {g : Gy} {ad : Nat → Nat} {R9 : va_W} {o1 o2 : Nat} (σ : DS) (w : OS) (a1 : Int32) (rr : (Int32 ⊕ String) × LWS) (H : W_L_ruleOf σ w a1 = some rr) : SpH l mL_ruleOf hL_ruleOf 9 1 6 mI g [.ref (ad 0), .int a1, .ref o1] (lwh g ad R9 o1 o2 (σ, w)) (fun r u => rr.1 = .inl r ∧ u = lwh g ad R9 o1 o2 rr.2) (fun _ _ => False) := by
  refine SpH.of hl (by decide) (Nat.le_of_ble_eq_true rfl) (fun p e s m args below meth c A C hr ht => ?_)
  unfold W_L_ruleOf at H
  refine J.lw (lv' := [(0, .ref (ad 0)), (1, .int a1), (2, .ref o1)]) ⟨rfl, rfl, rfl, trivial⟩ ?_
  refine J.aload_n (i := 2) C dL_ruleOf_0 rfl rfl ?_
  refine J.iconst C (0) dL_ruleOf_1 (by decide) ?_
  refine J.aload_n (i := 0) C dL_ruleOf_2 rfl rfl ?_
  refine J.iload_n (i := 1) C dL_ruleOf_3 rfl rfl ?_
  refine J.callH C rfl (sp_X6_ruleOf hl a1) rfl kMl_L_107 mdX6_ruleOf ⟨(Nat.le_of_ble_eq_true rfl), (Nat.le_of_ble_eq_true rfl)⟩ dk_0 rfl rfl (Nat.le_of_ble_eq_true rfl) dL_ruleOf_4 ⟨(Nat.le_of_ble_eq_true rfl), (Nat.le_of_ble_eq_true rfl)⟩ H (fun E k σ1 hk hrr => ?_) (fun r σ1 w1 hst hrr => ?_)
  · rcases lookup_cons hk with ⟨rfl, rfl⟩ | ⟨ne0, hk⟩
    · refine J.catch C ht [] [] { startPc := 0, endPc := 9, handlerPc := 12, catchType := 24 } rfl (by decide) (fun z hz => ?_) (by decide) (by decide) kCl_L_24 cast_IndexOutOfBoundsException (fun q => ?_)
      · cases hz
      · refine J.astore_n (i := 3) C dL_ruleOf_12 rfl (by decide) ?_
        refine J.iconst C (1) dL_ruleOf_13 (by decide) ?_
        exact J.iret C hr (Nat.le_of_ble_eq_true rfl) (Nat.le_of_ble_eq_true rfl) dL_ruleOf_14 ⟨by rw [hrr], by rw [hrr]⟩
    · exact (lookup_nil hk).elim
  · cases hst
    refine J.i2l C dL_ruleOf_7 ?_
    refine J.last C (66 + (R9.length + 0)) lw_0 (show vp_in 0 1 by unfold vp_in; decide) dL_ruleOf_8 ?_
    refine J.heq (lw_s0 _) ?_
    refine J.goto (tgt := 15) C dL_ruleOf_9 (by decide) ?_
    refine J.iconst C (0) dL_ruleOf_15 (by decide) ?_
    exact J.iret C hr (Nat.le_of_ble_eq_true rfl) (Nat.le_of_ble_eq_true rfl) dL_ruleOf_16 ⟨by rw [hrr], by rw [hrr]⟩
abbrev mL_depthOf : MD := (yL_depthOf, cL_depthOf, 4, some .int)
abbrev hL_depthOf : HH := [(0, 9, 12, 24)]
def W_L_depthOf (σ : DS) (w : OS) (a1 : Int32) : Res LWS Int32 := wrT [("java/lang/IndexOutOfBoundsException", 1)] stI (P_X6_depthOf σ a1) w
set_option maxRecDepth 100000 in
theorem sp_L_depthOf {l : Launch} (hl : l.stackTraces = false) {g : Gy} {ad : Nat → Nat} {R9 : va_W} {o1 o2 : Nat} (σ : DS) (w : OS) (a1 : Int32) (rr : (Int32 ⊕ String) × LWS) (H : W_L_depthOf σ w a1 = some rr) : SpH l mL_depthOf hL_depthOf 9 1 6 mI g [.ref (ad 0), .int a1, .ref o1] (lwh g ad R9 o1 o2 (σ, w)) (fun r u => rr.1 = .inl r ∧ u = lwh g ad R9 o1 o2 rr.2) (fun _ _ => False) := by
  refine SpH.of hl (by decide) (Nat.le_of_ble_eq_true rfl) (fun p e s m args below meth c A C hr ht => ?_)
  unfold W_L_depthOf at H
  refine J.lw (lv' := [(0, .ref (ad 0)), (1, .int a1), (2, .ref o1)]) ⟨rfl, rfl, rfl, trivial⟩ ?_
  refine J.aload_n (i := 2) C dL_depthOf_0 rfl rfl ?_
  refine J.iconst C (0) dL_depthOf_1 (by decide) ?_
  refine J.aload_n (i := 0) C dL_depthOf_2 rfl rfl ?_
  refine J.iload_n (i := 1) C dL_depthOf_3 rfl rfl ?_
  refine J.callH C rfl (sp_X6_depthOf hl a1) rfl kMl_L_111 mdX6_depthOf ⟨(Nat.le_of_ble_eq_true rfl), (Nat.le_of_ble_eq_true rfl)⟩ dk_0 rfl rfl (Nat.le_of_ble_eq_true rfl) dL_depthOf_4 ⟨(Nat.le_of_ble_eq_true rfl), (Nat.le_of_ble_eq_true rfl)⟩ H (fun E k σ1 hk hrr => ?_) (fun r σ1 w1 hst hrr => ?_)
  · rcases lookup_cons hk with ⟨rfl, rfl⟩ | ⟨ne0, hk⟩
    · refine J.catch C ht [] [] { startPc := 0, endPc := 9, handlerPc := 12, catchType := 24 } rfl (by decide) (fun z hz => ?_) (by decide) (by decide) kCl_L_24 cast_IndexOutOfBoundsException (fun q => ?_)
      · cases hz
      · refine J.astore_n (i := 3) C dL_depthOf_12 rfl (by decide) ?_
        refine J.iconst C (1) dL_depthOf_13 (by decide) ?_
        exact J.iret C hr (Nat.le_of_ble_eq_true rfl) (Nat.le_of_ble_eq_true rfl) dL_depthOf_14 ⟨by rw [hrr], by rw [hrr]⟩
    · exact (lookup_nil hk).elim
  · cases hst
    refine J.i2l C dL_depthOf_7 ?_
    refine J.last C (66 + (R9.length + 0)) lw_0 (show vp_in 0 1 by unfold vp_in; decide) dL_depthOf_8 ?_
    refine J.heq (lw_s0 _) ?_
    refine J.goto (tgt := 15) C dL_depthOf_9 (by decide) ?_
    refine J.iconst C (0) dL_depthOf_15 (by decide) ?_
    exact J.iret C hr (Nat.le_of_ble_eq_true rfl) (Nat.le_of_ble_eq_true rfl) dL_depthOf_16 ⟨by rw [hrr], by rw [hrr]⟩
abbrev mL_canCite : MD := (yL_canCite, cL_canCite, 4, some .int)
abbrev hL_canCite : HH := [(0, 16, 19, 24)]
def W_L_canCite (σ : DS) (w : OS) (a1 : Int32) : Res LWS Int32 := wrT [("java/lang/IndexOutOfBoundsException", 1)] stZ (P_X6_canCite σ a1) w
set_option maxRecDepth 100000 in
theorem sp_L_canCite {l : Launch} (hl : l.stackTraces = false) {g : Gy} {ad : Nat → Nat} {R9 : va_W} {o1 o2 : Nat} (σ : DS) (w : OS) (a1 : Int32) (rr : (Int32 ⊕ String) × LWS) (H : W_L_canCite σ w a1 = some rr) : SpH l mL_canCite hL_canCite 9 1 6 mI g [.ref (ad 0), .int a1, .ref o1] (lwh g ad R9 o1 o2 (σ, w)) (fun r u => rr.1 = .inl r ∧ u = lwh g ad R9 o1 o2 rr.2) (fun _ _ => False) := by
  refine SpH.of hl (by decide) (Nat.le_of_ble_eq_true rfl) (fun p e s m args below meth c A C hr ht => ?_)
  unfold W_L_canCite at H
  refine J.lw (lv' := [(0, .ref (ad 0)), (1, .int a1), (2, .ref o1)]) ⟨rfl, rfl, rfl, trivial⟩ ?_
  refine J.aload_n (i := 2) C dL_canCite_0 rfl rfl ?_
  refine J.iconst C (0) dL_canCite_1 (by decide) ?_
  refine J.aload_n (i := 0) C dL_canCite_2 rfl rfl ?_
  refine J.iload_n (i := 1) C dL_canCite_3 rfl rfl ?_
  refine J.callH C rfl (sp_X6_canCite hl a1) rfl kMl_L_114 mdX6_canCite ⟨(Nat.le_of_ble_eq_true rfl), (Nat.le_of_ble_eq_true rfl)⟩ dk_0 rfl rfl (Nat.le_of_ble_eq_true rfl) dL_canCite_4 ⟨(Nat.le_of_ble_eq_true rfl), (Nat.le_of_ble_eq_true rfl)⟩ H (fun E k σ1 hk hrr => ?_) (fun r σ1 w1 hst hrr => ?_)
  · rcases lookup_cons hk with ⟨rfl, rfl⟩ | ⟨ne0, hk⟩
    · refine J.catch C ht [] [] { startPc := 0, endPc := 16, handlerPc := 19, catchType := 24 } rfl (by decide) (fun z hz => ?_) (by decide) (by decide) kCl_L_24 cast_IndexOutOfBoundsException (fun q => ?_)
      · cases hz
      · refine J.astore_n (i := 3) C dL_canCite_19 rfl (by decide) ?_
        refine J.iconst C (1) dL_canCite_20 (by decide) ?_
        exact J.iret C hr (Nat.le_of_ble_eq_true rfl) (Nat.le_of_ble_eq_true rfl) dL_canCite_21 ⟨by rw [hrr], by rw [hrr]⟩
    · exact (lookup_nil hk).elim
  · cases hst
    refine J.if_eq (tgt := 14) C dL_canCite_7 (by decide) (fun c9 => ?_) (fun c9 => ?_)
    · refine J.lconst C 0 dL_canCite_14 rfl ?_
      rw [if_pos c9] at hrr
      refine J.last C (66 + (R9.length + 0)) lw_0 (show vp_in 0 1 by unfold vp_in; decide) dL_canCite_15 ?_
      refine J.heq (lw_s0 _) ?_
      refine J.goto (tgt := 22) C dL_canCite_16 (by decide) ?_
      refine J.iconst C (0) dL_canCite_22 (by decide) ?_
      exact J.iret C hr (Nat.le_of_ble_eq_true rfl) (Nat.le_of_ble_eq_true rfl) dL_canCite_23 ⟨by rw [hrr], by rw [hrr]⟩
    · refine J.lconst C 1 dL_canCite_10 rfl ?_
      rw [if_neg c9] at hrr
      refine J.goto (tgt := 15) C dL_canCite_11 (by decide) ?_
      refine J.last C (66 + (R9.length + 0)) lw_0 (show vp_in 0 1 by unfold vp_in; decide) dL_canCite_15 ?_
      refine J.heq (lw_s0 _) ?_
      refine J.goto (tgt := 22) C dL_canCite_16 (by decide) ?_
      refine J.iconst C (0) dL_canCite_22 (by decide) ?_
      exact J.iret C hr (Nat.le_of_ble_eq_true rfl) (Nat.le_of_ble_eq_true rfl) dL_canCite_23 ⟨by rw [hrr], by rw [hrr]⟩
abbrev mL_canCiteBox : MD := (yL_canCiteBox, cL_canCiteBox, 4, some .int)
abbrev hL_canCiteBox : HH := [(0, 16, 19, 24)]
def W_L_canCiteBox (σ : DS) (w : OS) (a1 : Int32) : Res LWS Int32 := wrT [("java/lang/IndexOutOfBoundsException", 1)] stZ (P_X6_canCiteBox σ a1) w
set_option maxRecDepth 100000 in
theorem sp_L_canCiteBox {l : Launch} (hl : l.stackTraces = false) {g : Gy} {ad : Nat → Nat} {R9 : va_W} {o1 o2 : Nat} (σ : DS) (w : OS) (a1 : Int32) (rr : (Int32 ⊕ String) × LWS) (H : W_L_canCiteBox σ w a1 = some rr) : SpH l mL_canCiteBox hL_canCiteBox 9 1 6 mI g [.ref (ad 0), .int a1, .ref o1] (lwh g ad R9 o1 o2 (σ, w)) (fun r u => rr.1 = .inl r ∧ u = lwh g ad R9 o1 o2 rr.2) (fun _ _ => False) := by
  refine SpH.of hl (by decide) (Nat.le_of_ble_eq_true rfl) (fun p e s m args below meth c A C hr ht => ?_)
  unfold W_L_canCiteBox at H
  refine J.lw (lv' := [(0, .ref (ad 0)), (1, .int a1), (2, .ref o1)]) ⟨rfl, rfl, rfl, trivial⟩ ?_
  refine J.aload_n (i := 2) C dL_canCiteBox_0 rfl rfl ?_
  refine J.iconst C (0) dL_canCiteBox_1 (by decide) ?_
  refine J.aload_n (i := 0) C dL_canCiteBox_2 rfl rfl ?_
  refine J.iload_n (i := 1) C dL_canCiteBox_3 rfl rfl ?_
  refine J.callH C rfl (sp_X6_canCiteBox hl a1) rfl kMl_L_118 mdX6_canCiteBox ⟨(Nat.le_of_ble_eq_true rfl), (Nat.le_of_ble_eq_true rfl)⟩ dk_0 rfl rfl (Nat.le_of_ble_eq_true rfl) dL_canCiteBox_4 ⟨(Nat.le_of_ble_eq_true rfl), (Nat.le_of_ble_eq_true rfl)⟩ H (fun E k σ1 hk hrr => ?_) (fun r σ1 w1 hst hrr => ?_)
  · rcases lookup_cons hk with ⟨rfl, rfl⟩ | ⟨ne0, hk⟩
    · refine J.catch C ht [] [] { startPc := 0, endPc := 16, handlerPc := 19, catchType := 24 } rfl (by decide) (fun z hz => ?_) (by decide) (by decide) kCl_L_24 cast_IndexOutOfBoundsException (fun q => ?_)
      · cases hz
      · refine J.astore_n (i := 3) C dL_canCiteBox_19 rfl (by decide) ?_
        refine J.iconst C (1) dL_canCiteBox_20 (by decide) ?_
        exact J.iret C hr (Nat.le_of_ble_eq_true rfl) (Nat.le_of_ble_eq_true rfl) dL_canCiteBox_21 ⟨by rw [hrr], by rw [hrr]⟩
    · exact (lookup_nil hk).elim
  · cases hst
    refine J.if_eq (tgt := 14) C dL_canCiteBox_7 (by decide) (fun c9 => ?_) (fun c9 => ?_)
    · refine J.lconst C 0 dL_canCiteBox_14 rfl ?_
      rw [if_pos c9] at hrr
      refine J.last C (66 + (R9.length + 0)) lw_0 (show vp_in 0 1 by unfold vp_in; decide) dL_canCiteBox_15 ?_
      refine J.heq (lw_s0 _) ?_
      refine J.goto (tgt := 22) C dL_canCiteBox_16 (by decide) ?_
      refine J.iconst C (0) dL_canCiteBox_22 (by decide) ?_
      exact J.iret C hr (Nat.le_of_ble_eq_true rfl) (Nat.le_of_ble_eq_true rfl) dL_canCiteBox_23 ⟨by rw [hrr], by rw [hrr]⟩
    · refine J.lconst C 1 dL_canCiteBox_10 rfl ?_
      rw [if_neg c9] at hrr
      refine J.goto (tgt := 15) C dL_canCiteBox_11 (by decide) ?_
      refine J.last C (66 + (R9.length + 0)) lw_0 (show vp_in 0 1 by unfold vp_in; decide) dL_canCiteBox_15 ?_
      refine J.heq (lw_s0 _) ?_
      refine J.goto (tgt := 22) C dL_canCiteBox_16 (by decide) ?_
      refine J.iconst C (0) dL_canCiteBox_22 (by decide) ?_
      exact J.iret C hr (Nat.le_of_ble_eq_true rfl) (Nat.le_of_ble_eq_true rfl) dL_canCiteBox_23 ⟨by rw [hrr], by rw [hrr]⟩
abbrev mL_resultOf : MD := (yL_resultOf, cL_resultOf, 4, some .int)
abbrev hL_resultOf : HH := [(0, 9, 12, 24)]
def W_L_resultOf (σ : DS) (w : OS) (a1 : Int32) : Res LWS Int32 := wrT [("java/lang/IndexOutOfBoundsException", 1)] stI (P_X6_resultOf σ a1) w
set_option maxRecDepth 100000 in
theorem sp_L_resultOf {l : Launch} (hl : l.stackTraces = false) {g : Gy} {ad : Nat → Nat} {R9 : va_W} {o1 o2 : Nat} (σ : DS) (w : OS) (a1 : Int32) (rr : (Int32 ⊕ String) × LWS) (H : W_L_resultOf σ w a1 = some rr) : SpH l mL_resultOf hL_resultOf 9 1 6 mI g [.ref (ad 0), .int a1, .ref o1] (lwh g ad R9 o1 o2 (σ, w)) (fun r u => rr.1 = .inl r ∧ u = lwh g ad R9 o1 o2 rr.2) (fun _ _ => False) := by
  refine SpH.of hl (by decide) (Nat.le_of_ble_eq_true rfl) (fun p e s m args below meth c A C hr ht => ?_)
  unfold W_L_resultOf at H
  refine J.lw (lv' := [(0, .ref (ad 0)), (1, .int a1), (2, .ref o1)]) ⟨rfl, rfl, rfl, trivial⟩ ?_
  refine J.aload_n (i := 2) C dL_resultOf_0 rfl rfl ?_
  refine J.iconst C (0) dL_resultOf_1 (by decide) ?_
  refine J.aload_n (i := 0) C dL_resultOf_2 rfl rfl ?_
  refine J.iload_n (i := 1) C dL_resultOf_3 rfl rfl ?_
  refine J.callH C rfl (sp_X6_resultOf hl a1) rfl kMl_L_121 mdX6_resultOf ⟨(Nat.le_of_ble_eq_true rfl), (Nat.le_of_ble_eq_true rfl)⟩ dk_0 rfl rfl (Nat.le_of_ble_eq_true rfl) dL_resultOf_4 ⟨(Nat.le_of_ble_eq_true rfl), (Nat.le_of_ble_eq_true rfl)⟩ H (fun E k σ1 hk hrr => ?_) (fun r σ1 w1 hst hrr => ?_)
  · rcases lookup_cons hk with ⟨rfl, rfl⟩ | ⟨ne0, hk⟩
    · refine J.catch C ht [] [] { startPc := 0, endPc := 9, handlerPc := 12, catchType := 24 } rfl (by decide) (fun z hz => ?_) (by decide) (by decide) kCl_L_24 cast_IndexOutOfBoundsException (fun q => ?_)
      · cases hz
      · refine J.astore_n (i := 3) C dL_resultOf_12 rfl (by decide) ?_
        refine J.iconst C (1) dL_resultOf_13 (by decide) ?_
        exact J.iret C hr (Nat.le_of_ble_eq_true rfl) (Nat.le_of_ble_eq_true rfl) dL_resultOf_14 ⟨by rw [hrr], by rw [hrr]⟩
    · exact (lookup_nil hk).elim
  · cases hst
    refine J.i2l C dL_resultOf_7 ?_
    refine J.last C (66 + (R9.length + 0)) lw_0 (show vp_in 0 1 by unfold vp_in; decide) dL_resultOf_8 ?_
    refine J.heq (lw_s0 _) ?_
    refine J.goto (tgt := 15) C dL_resultOf_9 (by decide) ?_
    refine J.iconst C (0) dL_resultOf_15 (by decide) ?_
    exact J.iret C hr (Nat.le_of_ble_eq_true rfl) (Nat.le_of_ble_eq_true rfl) dL_resultOf_16 ⟨by rw [hrr], by rw [hrr]⟩
abbrev mL_needed : MD := (yL_needed, cL_needed, 3, some .int)
abbrev hL_needed : HH := [(0, 8, 11, 43)]
def W_L_needed (σ : DS) (w : OS)  : Res LWS Int32 := wrT [("java/util/NoSuchElementException", 1)] stI (P_X6_needed σ ) w
set_option maxRecDepth 100000 in
theorem sp_L_needed {l : Launch} (hl : l.stackTraces = false) {g : Gy} {ad : Nat → Nat} {R9 : va_W} {o1 o2 : Nat} (σ : DS) (w : OS)  (rr : (Int32 ⊕ String) × LWS) (H : W_L_needed σ w  = some rr) : SpH l mL_needed hL_needed 9 1 6 mI g [.ref (ad 0), .ref o1] (lwh g ad R9 o1 o2 (σ, w)) (fun r u => rr.1 = .inl r ∧ u = lwh g ad R9 o1 o2 rr.2) (fun _ _ => False) := by
  refine SpH.of hl (by decide) (Nat.le_of_ble_eq_true rfl) (fun p e s m args below meth c A C hr ht => ?_)
  unfold W_L_needed at H
  refine J.lw (lv' := [(0, .ref (ad 0)), (1, .ref o1)]) ⟨rfl, rfl, trivial⟩ ?_
  refine J.aload_n (i := 1) C dL_needed_0 rfl rfl ?_
  refine J.iconst C (0) dL_needed_1 (by decide) ?_
  refine J.aload_n (i := 0) C dL_needed_2 rfl rfl ?_
  refine J.callH C rfl (sp_X6_needed hl ) rfl kMl_L_124 mdX6_needed ⟨(Nat.le_of_ble_eq_true rfl), (Nat.le_of_ble_eq_true rfl)⟩ dk_0 rfl rfl (Nat.le_of_ble_eq_true rfl) dL_needed_3 ⟨(Nat.le_of_ble_eq_true rfl), (Nat.le_of_ble_eq_true rfl)⟩ H (fun E k σ1 hk hrr => ?_) (fun r σ1 w1 hst hrr => ?_)
  · rcases lookup_cons hk with ⟨rfl, rfl⟩ | ⟨ne0, hk⟩
    · refine J.catch C ht [] [] { startPc := 0, endPc := 8, handlerPc := 11, catchType := 43 } rfl (by decide) (fun z hz => ?_) (by decide) (by decide) kCl_L_43 cast_NoSuchElementException (fun q => ?_)
      · cases hz
      · refine J.astore_n (i := 2) C dL_needed_11 rfl (by decide) ?_
        refine J.iconst C (1) dL_needed_12 (by decide) ?_
        exact J.iret C hr (Nat.le_of_ble_eq_true rfl) (Nat.le_of_ble_eq_true rfl) dL_needed_13 ⟨by rw [hrr], by rw [hrr]⟩
    · exact (lookup_nil hk).elim
  · cases hst
    refine J.i2l C dL_needed_6 ?_
    refine J.last C (66 + (R9.length + 0)) lw_0 (show vp_in 0 1 by unfold vp_in; decide) dL_needed_7 ?_
    refine J.heq (lw_s0 _) ?_
    refine J.goto (tgt := 14) C dL_needed_8 (by decide) ?_
    refine J.iconst C (0) dL_needed_14 (by decide) ?_
    exact J.iret C hr (Nat.le_of_ble_eq_true rfl) (Nat.le_of_ble_eq_true rfl) dL_needed_15 ⟨by rw [hrr], by rw [hrr]⟩
abbrev mL_distance : MD := (yL_distance, cL_distance, 4, some .int)
abbrev hL_distance : HH := [(0, 9, 12, 24), (0, 9, 15, 43)]
def W_L_distance (σ : DS) (w : OS) (a1 : Int32) : Res LWS Int32 := wrT [("java/lang/IndexOutOfBoundsException", 1), ("java/util/NoSuchElementException", 2)] stI (P_X6_distance σ a1) w
set_option maxRecDepth 100000 in
theorem sp_L_distance {l : Launch} (hl : l.stackTraces = false) {g : Gy} {ad : Nat → Nat} {R9 : va_W} {o1 o2 : Nat} (σ : DS) (w : OS) (a1 : Int32) (rr : (Int32 ⊕ String) × LWS) (H : W_L_distance σ w a1 = some rr) : SpH l mL_distance hL_distance 9 2 12 mI g [.ref (ad 0), .int a1, .ref o1] (lwh g ad R9 o1 o2 (σ, w)) (fun r u => rr.1 = .inl r ∧ u = lwh g ad R9 o1 o2 rr.2) (fun _ _ => False) := by
  refine SpH.of hl (by decide) (Nat.le_of_ble_eq_true rfl) (fun p e s m args below meth c A C hr ht => ?_)
  unfold W_L_distance at H
  refine J.lw (lv' := [(0, .ref (ad 0)), (1, .int a1), (2, .ref o1)]) ⟨rfl, rfl, rfl, trivial⟩ ?_
  refine J.aload_n (i := 2) C dL_distance_0 rfl rfl ?_
  refine J.iconst C (0) dL_distance_1 (by decide) ?_
  refine J.aload_n (i := 0) C dL_distance_2 rfl rfl ?_
  refine J.iload_n (i := 1) C dL_distance_3 rfl rfl ?_
  refine J.callH C rfl (sp_X6_distance hl a1) rfl kMl_L_127 mdX6_distance ⟨(Nat.le_of_ble_eq_true rfl), (Nat.le_of_ble_eq_true rfl)⟩ dk_0 rfl rfl (Nat.le_of_ble_eq_true rfl) dL_distance_4 ⟨(Nat.le_of_ble_eq_true rfl), (Nat.le_of_ble_eq_true rfl)⟩ H (fun E k σ1 hk hrr => ?_) (fun r σ1 w1 hst hrr => ?_)
  · rcases lookup_cons hk with ⟨rfl, rfl⟩ | ⟨ne0, hk⟩
    · refine J.catch C ht [] [(0, 9, 15, 43)] { startPc := 0, endPc := 9, handlerPc := 12, catchType := 24 } rfl (by decide) (fun z hz => ?_) (by decide) (by decide) kCl_L_24 cast_IndexOutOfBoundsException (fun q => ?_)
      · cases hz
      · refine J.astore_n (i := 3) C dL_distance_12 rfl (by decide) ?_
        refine J.iconst C (1) dL_distance_13 (by decide) ?_
        exact J.iret C hr (Nat.le_of_ble_eq_true rfl) (Nat.le_of_ble_eq_true rfl) dL_distance_14 ⟨by rw [hrr], by rw [hrr]⟩
    · rcases lookup_cons hk with ⟨rfl, rfl⟩ | ⟨ne1, hk⟩
      · refine J.catch C ht [(0, 9, 12, 24)] [] { startPc := 0, endPc := 9, handlerPc := 15, catchType := 43 } rfl (by decide) (fun z hz => ?_) (by decide) (by decide) kCl_L_43 cast_NoSuchElementException (fun q => ?_)
        · have hz : z ∈ ([{ startPc := 0, endPc := 9, handlerPc := 12, catchType := 24 }] : List ExceptionTableEntry) := hz
          simp only [List.mem_cons, List.not_mem_nil, or_false] at hz
          rcases hz with rfl
          · exact ⟨by decide, _, kCl_L_24, by decide, by decide⟩
        · refine J.astore_n (i := 3) C dL_distance_15 rfl (by decide) ?_
          refine J.iconst C (2) dL_distance_16 (by decide) ?_
          exact J.iret C hr (Nat.le_of_ble_eq_true rfl) (Nat.le_of_ble_eq_true rfl) dL_distance_17 ⟨by rw [hrr], by rw [hrr]⟩
      · exact (lookup_nil hk).elim
  · cases hst
    refine J.i2l C dL_distance_7 ?_
    refine J.last C (66 + (R9.length + 0)) lw_0 (show vp_in 0 1 by unfold vp_in; decide) dL_distance_8 ?_
    refine J.heq (lw_s0 _) ?_
    refine J.goto (tgt := 18) C dL_distance_9 (by decide) ?_
    refine J.iconst C (0) dL_distance_18 (by decide) ?_
    exact J.iret C hr (Nat.le_of_ble_eq_true rfl) (Nat.le_of_ble_eq_true rfl) dL_distance_19 ⟨by rw [hrr], by rw [hrr]⟩
abbrev mL_distanceByRounds : MD := (yL_distanceByRounds, cL_distanceByRounds, 4, some .int)
abbrev hL_distanceByRounds : HH := [(0, 9, 12, 24), (0, 9, 15, 43)]
def W_L_distanceByRounds (σ : DS) (w : OS) (a1 : Int32) : Res LWS Int32 := wrT [("java/lang/IndexOutOfBoundsException", 1), ("java/util/NoSuchElementException", 2)] stI (P_X6_distanceByRounds σ a1) w
set_option maxRecDepth 100000 in
theorem sp_L_distanceByRounds {l : Launch} (hl : l.stackTraces = false) {g : Gy} {ad : Nat → Nat} {R9 : va_W} {o1 o2 : Nat} (σ : DS) (w : OS) (a1 : Int32) (rr : (Int32 ⊕ String) × LWS) (H : W_L_distanceByRounds σ w a1 = some rr) : SpH l mL_distanceByRounds hL_distanceByRounds 9 2 12 mI g [.ref (ad 0), .int a1, .ref o1] (lwh g ad R9 o1 o2 (σ, w)) (fun r u => rr.1 = .inl r ∧ u = lwh g ad R9 o1 o2 rr.2) (fun _ _ => False) := by
  refine SpH.of hl (by decide) (Nat.le_of_ble_eq_true rfl) (fun p e s m args below meth c A C hr ht => ?_)
  unfold W_L_distanceByRounds at H
  refine J.lw (lv' := [(0, .ref (ad 0)), (1, .int a1), (2, .ref o1)]) ⟨rfl, rfl, rfl, trivial⟩ ?_
  refine J.aload_n (i := 2) C dL_distanceByRounds_0 rfl rfl ?_
  refine J.iconst C (0) dL_distanceByRounds_1 (by decide) ?_
  refine J.aload_n (i := 0) C dL_distanceByRounds_2 rfl rfl ?_
  refine J.iload_n (i := 1) C dL_distanceByRounds_3 rfl rfl ?_
  refine J.callH C rfl (sp_X6_distanceByRounds hl a1) rfl kMl_L_130 mdX6_distanceByRounds ⟨(Nat.le_of_ble_eq_true rfl), (Nat.le_of_ble_eq_true rfl)⟩ dk_0 rfl rfl (Nat.le_of_ble_eq_true rfl) dL_distanceByRounds_4 ⟨(Nat.le_of_ble_eq_true rfl), (Nat.le_of_ble_eq_true rfl)⟩ H (fun E k σ1 hk hrr => ?_) (fun r σ1 w1 hst hrr => ?_)
  · rcases lookup_cons hk with ⟨rfl, rfl⟩ | ⟨ne0, hk⟩
    · refine J.catch C ht [] [(0, 9, 15, 43)] { startPc := 0, endPc := 9, handlerPc := 12, catchType := 24 } rfl (by decide) (fun z hz => ?_) (by decide) (by decide) kCl_L_24 cast_IndexOutOfBoundsException (fun q => ?_)
      · cases hz
      · refine J.astore_n (i := 3) C dL_distanceByRounds_12 rfl (by decide) ?_
        refine J.iconst C (1) dL_distanceByRounds_13 (by decide) ?_
        exact J.iret C hr (Nat.le_of_ble_eq_true rfl) (Nat.le_of_ble_eq_true rfl) dL_distanceByRounds_14 ⟨by rw [hrr], by rw [hrr]⟩
    · rcases lookup_cons hk with ⟨rfl, rfl⟩ | ⟨ne1, hk⟩
      · refine J.catch C ht [(0, 9, 12, 24)] [] { startPc := 0, endPc := 9, handlerPc := 15, catchType := 43 } rfl (by decide) (fun z hz => ?_) (by decide) (by decide) kCl_L_43 cast_NoSuchElementException (fun q => ?_)
        · have hz : z ∈ ([{ startPc := 0, endPc := 9, handlerPc := 12, catchType := 24 }] : List ExceptionTableEntry) := hz
          simp only [List.mem_cons, List.not_mem_nil, or_false] at hz
          rcases hz with rfl
          · exact ⟨by decide, _, kCl_L_24, by decide, by decide⟩
        · refine J.astore_n (i := 3) C dL_distanceByRounds_15 rfl (by decide) ?_
          refine J.iconst C (2) dL_distanceByRounds_16 (by decide) ?_
          exact J.iret C hr (Nat.le_of_ble_eq_true rfl) (Nat.le_of_ble_eq_true rfl) dL_distanceByRounds_17 ⟨by rw [hrr], by rw [hrr]⟩
      · exact (lookup_nil hk).elim
  · cases hst
    refine J.i2l C dL_distanceByRounds_7 ?_
    refine J.last C (66 + (R9.length + 0)) lw_0 (show vp_in 0 1 by unfold vp_in; decide) dL_distanceByRounds_8 ?_
    refine J.heq (lw_s0 _) ?_
    refine J.goto (tgt := 18) C dL_distanceByRounds_9 (by decide) ?_
    refine J.iconst C (0) dL_distanceByRounds_18 (by decide) ?_
    exact J.iret C hr (Nat.le_of_ble_eq_true rfl) (Nat.le_of_ble_eq_true rfl) dL_distanceByRounds_19 ⟨by rw [hrr], by rw [hrr]⟩
abbrev mL_normalStep : MD := (yL_normalStep, cL_normalStep, 4, some .int)
abbrev hL_normalStep : HH := [(0, 9, 12, 24), (0, 9, 15, 43), (0, 9, 18, 15)]
def W_L_normalStep (σ : DS) (w : OS) (a1 : Int32) : Res LWS Int32 := wrT [("java/lang/IndexOutOfBoundsException", 1), ("java/util/NoSuchElementException", 2), ("java/lang/IllegalStateException", 3)] stI (P_X6_normalStep σ a1) w
set_option maxRecDepth 100000 in
theorem sp_L_normalStep {l : Launch} (hl : l.stackTraces = false) {g : Gy} {ad : Nat → Nat} {R9 : va_W} {o1 o2 : Nat} (σ : DS) (w : OS) (a1 : Int32) (rr : (Int32 ⊕ String) × LWS) (H : W_L_normalStep σ w a1 = some rr) : SpH l mL_normalStep hL_normalStep 9 2 12 mI g [.ref (ad 0), .int a1, .ref o1] (lwh g ad R9 o1 o2 (σ, w)) (fun r u => rr.1 = .inl r ∧ u = lwh g ad R9 o1 o2 rr.2) (fun _ _ => False) := by
  refine SpH.of hl (by decide) (Nat.le_of_ble_eq_true rfl) (fun p e s m args below meth c A C hr ht => ?_)
  unfold W_L_normalStep at H
  refine J.lw (lv' := [(0, .ref (ad 0)), (1, .int a1), (2, .ref o1)]) ⟨rfl, rfl, rfl, trivial⟩ ?_
  refine J.aload_n (i := 2) C dL_normalStep_0 rfl rfl ?_
  refine J.iconst C (0) dL_normalStep_1 (by decide) ?_
  refine J.aload_n (i := 0) C dL_normalStep_2 rfl rfl ?_
  refine J.iload_n (i := 1) C dL_normalStep_3 rfl rfl ?_
  refine J.callH C rfl (sp_X6_normalStep hl a1) rfl kMl_L_133 mdX6_normalStep ⟨(Nat.le_of_ble_eq_true rfl), (Nat.le_of_ble_eq_true rfl)⟩ dk_0 rfl rfl (Nat.le_of_ble_eq_true rfl) dL_normalStep_4 ⟨(Nat.le_of_ble_eq_true rfl), (Nat.le_of_ble_eq_true rfl)⟩ H (fun E k σ1 hk hrr => ?_) (fun r σ1 w1 hst hrr => ?_)
  · rcases lookup_cons hk with ⟨rfl, rfl⟩ | ⟨ne0, hk⟩
    · refine J.catch C ht [] [(0, 9, 15, 43), (0, 9, 18, 15)] { startPc := 0, endPc := 9, handlerPc := 12, catchType := 24 } rfl (by decide) (fun z hz => ?_) (by decide) (by decide) kCl_L_24 cast_IndexOutOfBoundsException (fun q => ?_)
      · cases hz
      · refine J.astore_n (i := 3) C dL_normalStep_12 rfl (by decide) ?_
        refine J.iconst C (1) dL_normalStep_13 (by decide) ?_
        exact J.iret C hr (Nat.le_of_ble_eq_true rfl) (Nat.le_of_ble_eq_true rfl) dL_normalStep_14 ⟨by rw [hrr], by rw [hrr]⟩
    · rcases lookup_cons hk with ⟨rfl, rfl⟩ | ⟨ne1, hk⟩
      · refine J.catch C ht [(0, 9, 12, 24)] [(0, 9, 18, 15)] { startPc := 0, endPc := 9, handlerPc := 15, catchType := 43 } rfl (by decide) (fun z hz => ?_) (by decide) (by decide) kCl_L_43 cast_NoSuchElementException (fun q => ?_)
        · have hz : z ∈ ([{ startPc := 0, endPc := 9, handlerPc := 12, catchType := 24 }] : List ExceptionTableEntry) := hz
          simp only [List.mem_cons, List.not_mem_nil, or_false] at hz
          rcases hz with rfl
          · exact ⟨by decide, _, kCl_L_24, by decide, by decide⟩
        · refine J.astore_n (i := 3) C dL_normalStep_15 rfl (by decide) ?_
          refine J.iconst C (2) dL_normalStep_16 (by decide) ?_
          exact J.iret C hr (Nat.le_of_ble_eq_true rfl) (Nat.le_of_ble_eq_true rfl) dL_normalStep_17 ⟨by rw [hrr], by rw [hrr]⟩
      · rcases lookup_cons hk with ⟨rfl, rfl⟩ | ⟨ne2, hk⟩
        · refine J.catch C ht [(0, 9, 12, 24), (0, 9, 15, 43)] [] { startPc := 0, endPc := 9, handlerPc := 18, catchType := 15 } rfl (by decide) (fun z hz => ?_) (by decide) (by decide) kCl_L_15 cast_IllegalStateException (fun q => ?_)
          · have hz : z ∈ ([{ startPc := 0, endPc := 9, handlerPc := 12, catchType := 24 }, { startPc := 0, endPc := 9, handlerPc := 15, catchType := 43 }] : List ExceptionTableEntry) := hz
            simp only [List.mem_cons, List.not_mem_nil, or_false] at hz
            rcases hz with rfl | rfl
            · exact ⟨by decide, _, kCl_L_24, by decide, by decide⟩
            · exact ⟨by decide, _, kCl_L_43, by decide, by decide⟩
          · refine J.astore_n (i := 3) C dL_normalStep_18 rfl (by decide) ?_
            refine J.iconst C (3) dL_normalStep_19 (by decide) ?_
            exact J.iret C hr (Nat.le_of_ble_eq_true rfl) (Nat.le_of_ble_eq_true rfl) dL_normalStep_20 ⟨by rw [hrr], by rw [hrr]⟩
        · exact (lookup_nil hk).elim
  · cases hst
    refine J.i2l C dL_normalStep_7 ?_
    refine J.last C (66 + (R9.length + 0)) lw_0 (show vp_in 0 1 by unfold vp_in; decide) dL_normalStep_8 ?_
    refine J.heq (lw_s0 _) ?_
    refine J.goto (tgt := 21) C dL_normalStep_9 (by decide) ?_
    refine J.iconst C (0) dL_normalStep_21 (by decide) ?_
    exact J.iret C hr (Nat.le_of_ble_eq_true rfl) (Nat.le_of_ble_eq_true rfl) dL_normalStep_22 ⟨by rw [hrr], by rw [hrr]⟩
abbrev mL_normalSteps : MD := (yL_normalSteps, cL_normalSteps, 4, some .int)
abbrev hL_normalSteps : HH := [(0, 9, 12, 24)]
def W_L_normalSteps (σ : DS) (w : OS) (a1 : Int32) : Res LWS Int32 := wrT [("java/lang/IndexOutOfBoundsException", 1)] stI (P_X6_normalSteps σ a1) w
set_option maxRecDepth 100000 in
theorem sp_L_normalSteps {l : Launch} (hl : l.stackTraces = false) {g : Gy} {ad : Nat → Nat} {R9 : va_W} {o1 o2 : Nat} (σ : DS) (w : OS) (a1 : Int32) (rr : (Int32 ⊕ String) × LWS) (H : W_L_normalSteps σ w a1 = some rr) : SpH l mL_normalSteps hL_normalSteps 9 1 6 mI g [.ref (ad 0), .int a1, .ref o1] (lwh g ad R9 o1 o2 (σ, w)) (fun r u => rr.1 = .inl r ∧ u = lwh g ad R9 o1 o2 rr.2) (fun _ _ => False) := by
  refine SpH.of hl (by decide) (Nat.le_of_ble_eq_true rfl) (fun p e s m args below meth c A C hr ht => ?_)
  unfold W_L_normalSteps at H
  refine J.lw (lv' := [(0, .ref (ad 0)), (1, .int a1), (2, .ref o1)]) ⟨rfl, rfl, rfl, trivial⟩ ?_
  refine J.aload_n (i := 2) C dL_normalSteps_0 rfl rfl ?_
  refine J.iconst C (0) dL_normalSteps_1 (by decide) ?_
  refine J.aload_n (i := 0) C dL_normalSteps_2 rfl rfl ?_
  refine J.iload_n (i := 1) C dL_normalSteps_3 rfl rfl ?_
  refine J.callH C rfl (sp_X6_normalSteps hl a1) rfl kMl_L_136 mdX6_normalSteps ⟨(Nat.le_of_ble_eq_true rfl), (Nat.le_of_ble_eq_true rfl)⟩ dk_0 rfl rfl (Nat.le_of_ble_eq_true rfl) dL_normalSteps_4 ⟨(Nat.le_of_ble_eq_true rfl), (Nat.le_of_ble_eq_true rfl)⟩ H (fun E k σ1 hk hrr => ?_) (fun r σ1 w1 hst hrr => ?_)
  · rcases lookup_cons hk with ⟨rfl, rfl⟩ | ⟨ne0, hk⟩
    · refine J.catch C ht [] [] { startPc := 0, endPc := 9, handlerPc := 12, catchType := 24 } rfl (by decide) (fun z hz => ?_) (by decide) (by decide) kCl_L_24 cast_IndexOutOfBoundsException (fun q => ?_)
      · cases hz
      · refine J.astore_n (i := 3) C dL_normalSteps_12 rfl (by decide) ?_
        refine J.iconst C (1) dL_normalSteps_13 (by decide) ?_
        exact J.iret C hr (Nat.le_of_ble_eq_true rfl) (Nat.le_of_ble_eq_true rfl) dL_normalSteps_14 ⟨by rw [hrr], by rw [hrr]⟩
    · exact (lookup_nil hk).elim
  · cases hst
    refine J.i2l C dL_normalSteps_7 ?_
    refine J.last C (66 + (R9.length + 0)) lw_0 (show vp_in 0 1 by unfold vp_in; decide) dL_normalSteps_8 ?_
    refine J.heq (lw_s0 _) ?_
    refine J.goto (tgt := 15) C dL_normalSteps_9 (by decide) ?_
    refine J.iconst C (0) dL_normalSteps_15 (by decide) ?_
    exact J.iret C hr (Nat.le_of_ble_eq_true rfl) (Nat.le_of_ble_eq_true rfl) dL_normalSteps_16 ⟨by rw [hrr], by rw [hrr]⟩
abbrev mL_normalForm : MD := (yL_normalForm, cL_normalForm, 4, some .int)
abbrev hL_normalForm : HH := [(0, 9, 12, 24), (0, 9, 15, 15)]
def W_L_normalForm (σ : DS) (w : OS) (a1 : Int32) : Res LWS Int32 := wrT [("java/lang/IndexOutOfBoundsException", 1), ("java/lang/IllegalStateException", 2)] stI (P_X6_normalForm σ a1) w
set_option maxRecDepth 100000 in
theorem sp_L_normalForm {l : Launch} (hl : l.stackTraces = false) {g : Gy} {ad : Nat → Nat} {R9 : va_W} {o1 o2 : Nat} (σ : DS) (w : OS) (a1 : Int32) (rr : (Int32 ⊕ String) × LWS) (H : W_L_normalForm σ w a1 = some rr) : SpH l mL_normalForm hL_normalForm 9 2 12 mI g [.ref (ad 0), .int a1, .ref o1] (lwh g ad R9 o1 o2 (σ, w)) (fun r u => rr.1 = .inl r ∧ u = lwh g ad R9 o1 o2 rr.2) (fun _ _ => False) := by
  refine SpH.of hl (by decide) (Nat.le_of_ble_eq_true rfl) (fun p e s m args below meth c A C hr ht => ?_)
  unfold W_L_normalForm at H
  refine J.lw (lv' := [(0, .ref (ad 0)), (1, .int a1), (2, .ref o1)]) ⟨rfl, rfl, rfl, trivial⟩ ?_
  refine J.aload_n (i := 2) C dL_normalForm_0 rfl rfl ?_
  refine J.iconst C (0) dL_normalForm_1 (by decide) ?_
  refine J.aload_n (i := 0) C dL_normalForm_2 rfl rfl ?_
  refine J.iload_n (i := 1) C dL_normalForm_3 rfl rfl ?_
  refine J.callH C rfl (sp_X6_normalForm hl a1) rfl kMl_L_139 mdX6_normalForm ⟨(Nat.le_of_ble_eq_true rfl), (Nat.le_of_ble_eq_true rfl)⟩ dk_0 rfl rfl (Nat.le_of_ble_eq_true rfl) dL_normalForm_4 ⟨(Nat.le_of_ble_eq_true rfl), (Nat.le_of_ble_eq_true rfl)⟩ H (fun E k σ1 hk hrr => ?_) (fun r σ1 w1 hst hrr => ?_)
  · rcases lookup_cons hk with ⟨rfl, rfl⟩ | ⟨ne0, hk⟩
    · refine J.catch C ht [] [(0, 9, 15, 15)] { startPc := 0, endPc := 9, handlerPc := 12, catchType := 24 } rfl (by decide) (fun z hz => ?_) (by decide) (by decide) kCl_L_24 cast_IndexOutOfBoundsException (fun q => ?_)
      · cases hz
      · refine J.astore_n (i := 3) C dL_normalForm_12 rfl (by decide) ?_
        refine J.iconst C (1) dL_normalForm_13 (by decide) ?_
        exact J.iret C hr (Nat.le_of_ble_eq_true rfl) (Nat.le_of_ble_eq_true rfl) dL_normalForm_14 ⟨by rw [hrr], by rw [hrr]⟩
    · rcases lookup_cons hk with ⟨rfl, rfl⟩ | ⟨ne1, hk⟩
      · refine J.catch C ht [(0, 9, 12, 24)] [] { startPc := 0, endPc := 9, handlerPc := 15, catchType := 15 } rfl (by decide) (fun z hz => ?_) (by decide) (by decide) kCl_L_15 cast_IllegalStateException (fun q => ?_)
        · have hz : z ∈ ([{ startPc := 0, endPc := 9, handlerPc := 12, catchType := 24 }] : List ExceptionTableEntry) := hz
          simp only [List.mem_cons, List.not_mem_nil, or_false] at hz
          rcases hz with rfl
          · exact ⟨by decide, _, kCl_L_24, by decide, by decide⟩
        · refine J.astore_n (i := 3) C dL_normalForm_15 rfl (by decide) ?_
          refine J.iconst C (2) dL_normalForm_16 (by decide) ?_
          exact J.iret C hr (Nat.le_of_ble_eq_true rfl) (Nat.le_of_ble_eq_true rfl) dL_normalForm_17 ⟨by rw [hrr], by rw [hrr]⟩
      · exact (lookup_nil hk).elim
  · cases hst
    refine J.i2l C dL_normalForm_7 ?_
    refine J.last C (66 + (R9.length + 0)) lw_0 (show vp_in 0 1 by unfold vp_in; decide) dL_normalForm_8 ?_
    refine J.heq (lw_s0 _) ?_
    refine J.goto (tgt := 18) C dL_normalForm_9 (by decide) ?_
    refine J.iconst C (0) dL_normalForm_18 (by decide) ?_
    exact J.iret C hr (Nat.le_of_ble_eq_true rfl) (Nat.le_of_ble_eq_true rfl) dL_normalForm_19 ⟨by rw [hrr], by rw [hrr]⟩
abbrev mL_models : MD := (yL_models, cL_models, 4, some .int)
abbrev hL_models : HH := [(0, 9, 12, 24)]
def W_L_models (σ : DS) (w : OS) (a1 : Int32) : Res LWS Int32 := wrT [("java/lang/IndexOutOfBoundsException", 1)] stI (P_X6_models σ a1) w
set_option maxRecDepth 100000 in
theorem sp_L_models {l : Launch} (hl : l.stackTraces = false) {g : Gy} {ad : Nat → Nat} {R9 : va_W} {o1 o2 : Nat} (σ : DS) (w : OS) (a1 : Int32) (rr : (Int32 ⊕ String) × LWS) (H : W_L_models σ w a1 = some rr) : SpH l mL_models hL_models 9 1 6 mI g [.ref (ad 0), .int a1, .ref o1] (lwh g ad R9 o1 o2 (σ, w)) (fun r u => rr.1 = .inl r ∧ u = lwh g ad R9 o1 o2 rr.2) (fun _ _ => False) := by
  refine SpH.of hl (by decide) (Nat.le_of_ble_eq_true rfl) (fun p e s m args below meth c A C hr ht => ?_)
  unfold W_L_models at H
  refine J.lw (lv' := [(0, .ref (ad 0)), (1, .int a1), (2, .ref o1)]) ⟨rfl, rfl, rfl, trivial⟩ ?_
  refine J.aload_n (i := 2) C dL_models_0 rfl rfl ?_
  refine J.iconst C (0) dL_models_1 (by decide) ?_
  refine J.aload_n (i := 0) C dL_models_2 rfl rfl ?_
  refine J.iload_n (i := 1) C dL_models_3 rfl rfl ?_
  refine J.callH C rfl (sp_X6_models hl a1) rfl kMl_L_142 mdX6_models ⟨(Nat.le_of_ble_eq_true rfl), (Nat.le_of_ble_eq_true rfl)⟩ dk_0 rfl rfl (Nat.le_of_ble_eq_true rfl) dL_models_4 ⟨(Nat.le_of_ble_eq_true rfl), (Nat.le_of_ble_eq_true rfl)⟩ H (fun E k σ1 hk hrr => ?_) (fun r σ1 w1 hst hrr => ?_)
  · rcases lookup_cons hk with ⟨rfl, rfl⟩ | ⟨ne0, hk⟩
    · refine J.catch C ht [] [] { startPc := 0, endPc := 9, handlerPc := 12, catchType := 24 } rfl (by decide) (fun z hz => ?_) (by decide) (by decide) kCl_L_24 cast_IndexOutOfBoundsException (fun q => ?_)
      · cases hz
      · refine J.astore_n (i := 3) C dL_models_12 rfl (by decide) ?_
        refine J.iconst C (1) dL_models_13 (by decide) ?_
        exact J.iret C hr (Nat.le_of_ble_eq_true rfl) (Nat.le_of_ble_eq_true rfl) dL_models_14 ⟨by rw [hrr], by rw [hrr]⟩
    · exact (lookup_nil hk).elim
  · cases hst
    refine J.i2l C dL_models_7 ?_
    refine J.last C (66 + (R9.length + 0)) lw_0 (show vp_in 0 1 by unfold vp_in; decide) dL_models_8 ?_
    refine J.heq (lw_s0 _) ?_
    refine J.goto (tgt := 15) C dL_models_9 (by decide) ?_
    refine J.iconst C (0) dL_models_15 (by decide) ?_
    exact J.iret C hr (Nat.le_of_ble_eq_true rfl) (Nat.le_of_ble_eq_true rfl) dL_models_16 ⟨by rw [hrr], by rw [hrr]⟩
abbrev mL_modelsByRows : MD := (yL_modelsByRows, cL_modelsByRows, 4, some .int)
abbrev hL_modelsByRows : HH := [(0, 9, 12, 24)]
def W_L_modelsByRows (σ : DS) (w : OS) (a1 : Int32) : Res LWS Int32 := wrT [("java/lang/IndexOutOfBoundsException", 1)] stI (P_X6_modelsByRows σ a1) w
set_option maxRecDepth 100000 in
theorem sp_L_modelsByRows {l : Launch} (hl : l.stackTraces = false) {g : Gy} {ad : Nat → Nat} {R9 : va_W} {o1 o2 : Nat} (σ : DS) (w : OS) (a1 : Int32) (rr : (Int32 ⊕ String) × LWS) (H : W_L_modelsByRows σ w a1 = some rr) : SpH l mL_modelsByRows hL_modelsByRows 9 1 6 mI g [.ref (ad 0), .int a1, .ref o1] (lwh g ad R9 o1 o2 (σ, w)) (fun r u => rr.1 = .inl r ∧ u = lwh g ad R9 o1 o2 rr.2) (fun _ _ => False) := by
  refine SpH.of hl (by decide) (Nat.le_of_ble_eq_true rfl) (fun p e s m args below meth c A C hr ht => ?_)
  unfold W_L_modelsByRows at H
  refine J.lw (lv' := [(0, .ref (ad 0)), (1, .int a1), (2, .ref o1)]) ⟨rfl, rfl, rfl, trivial⟩ ?_
  refine J.aload_n (i := 2) C dL_modelsByRows_0 rfl rfl ?_
  refine J.iconst C (0) dL_modelsByRows_1 (by decide) ?_
  refine J.aload_n (i := 0) C dL_modelsByRows_2 rfl rfl ?_
  refine J.iload_n (i := 1) C dL_modelsByRows_3 rfl rfl ?_
  refine J.callH C rfl (sp_X6_modelsByRows hl a1) rfl kMl_L_145 mdX6_modelsByRows ⟨(Nat.le_of_ble_eq_true rfl), (Nat.le_of_ble_eq_true rfl)⟩ dk_0 rfl rfl (Nat.le_of_ble_eq_true rfl) dL_modelsByRows_4 ⟨(Nat.le_of_ble_eq_true rfl), (Nat.le_of_ble_eq_true rfl)⟩ H (fun E k σ1 hk hrr => ?_) (fun r σ1 w1 hst hrr => ?_)
  · rcases lookup_cons hk with ⟨rfl, rfl⟩ | ⟨ne0, hk⟩
    · refine J.catch C ht [] [] { startPc := 0, endPc := 9, handlerPc := 12, catchType := 24 } rfl (by decide) (fun z hz => ?_) (by decide) (by decide) kCl_L_24 cast_IndexOutOfBoundsException (fun q => ?_)
      · cases hz
      · refine J.astore_n (i := 3) C dL_modelsByRows_12 rfl (by decide) ?_
        refine J.iconst C (1) dL_modelsByRows_13 (by decide) ?_
        exact J.iret C hr (Nat.le_of_ble_eq_true rfl) (Nat.le_of_ble_eq_true rfl) dL_modelsByRows_14 ⟨by rw [hrr], by rw [hrr]⟩
    · exact (lookup_nil hk).elim
  · cases hst
    refine J.i2l C dL_modelsByRows_7 ?_
    refine J.last C (66 + (R9.length + 0)) lw_0 (show vp_in 0 1 by unfold vp_in; decide) dL_modelsByRows_8 ?_
    refine J.heq (lw_s0 _) ?_
    refine J.goto (tgt := 15) C dL_modelsByRows_9 (by decide) ?_
    refine J.iconst C (0) dL_modelsByRows_15 (by decide) ?_
    exact J.iret C hr (Nat.le_of_ble_eq_true rfl) (Nat.le_of_ble_eq_true rfl) dL_modelsByRows_16 ⟨by rw [hrr], by rw [hrr]⟩
abbrev mL_follows : MD := (yL_follows, cL_follows, 4, some .int)
abbrev hL_follows : HH := [(0, 16, 19, 24)]
def W_L_follows (σ : DS) (w : OS) (a1 : Int32) : Res LWS Int32 := wrT [("java/lang/IndexOutOfBoundsException", 1)] stZ (P_X6_follows σ a1) w
set_option maxRecDepth 100000 in
theorem sp_L_follows {l : Launch} (hl : l.stackTraces = false) {g : Gy} {ad : Nat → Nat} {R9 : va_W} {o1 o2 : Nat} (σ : DS) (w : OS) (a1 : Int32) (rr : (Int32 ⊕ String) × LWS) (H : W_L_follows σ w a1 = some rr) : SpH l mL_follows hL_follows 9 1 6 mI g [.ref (ad 0), .int a1, .ref o1] (lwh g ad R9 o1 o2 (σ, w)) (fun r u => rr.1 = .inl r ∧ u = lwh g ad R9 o1 o2 rr.2) (fun _ _ => False) := by
  refine SpH.of hl (by decide) (Nat.le_of_ble_eq_true rfl) (fun p e s m args below meth c A C hr ht => ?_)
  unfold W_L_follows at H
  refine J.lw (lv' := [(0, .ref (ad 0)), (1, .int a1), (2, .ref o1)]) ⟨rfl, rfl, rfl, trivial⟩ ?_
  refine J.aload_n (i := 2) C dL_follows_0 rfl rfl ?_
  refine J.iconst C (0) dL_follows_1 (by decide) ?_
  refine J.aload_n (i := 0) C dL_follows_2 rfl rfl ?_
  refine J.iload_n (i := 1) C dL_follows_3 rfl rfl ?_
  refine J.callH C rfl (sp_X6_follows hl a1) rfl kMl_L_148 mdX6_follows ⟨(Nat.le_of_ble_eq_true rfl), (Nat.le_of_ble_eq_true rfl)⟩ dk_0 rfl rfl (Nat.le_of_ble_eq_true rfl) dL_follows_4 ⟨(Nat.le_of_ble_eq_true rfl), (Nat.le_of_ble_eq_true rfl)⟩ H (fun E k σ1 hk hrr => ?_) (fun r σ1 w1 hst hrr => ?_)
  · rcases lookup_cons hk with ⟨rfl, rfl⟩ | ⟨ne0, hk⟩
    · refine J.catch C ht [] [] { startPc := 0, endPc := 16, handlerPc := 19, catchType := 24 } rfl (by decide) (fun z hz => ?_) (by decide) (by decide) kCl_L_24 cast_IndexOutOfBoundsException (fun q => ?_)
      · cases hz
      · refine J.astore_n (i := 3) C dL_follows_19 rfl (by decide) ?_
        refine J.iconst C (1) dL_follows_20 (by decide) ?_
        exact J.iret C hr (Nat.le_of_ble_eq_true rfl) (Nat.le_of_ble_eq_true rfl) dL_follows_21 ⟨by rw [hrr], by rw [hrr]⟩
    · exact (lookup_nil hk).elim
  · cases hst
    refine J.if_eq (tgt := 14) C dL_follows_7 (by decide) (fun c9 => ?_) (fun c9 => ?_)
    · refine J.lconst C 0 dL_follows_14 rfl ?_
      rw [if_pos c9] at hrr
      refine J.last C (66 + (R9.length + 0)) lw_0 (show vp_in 0 1 by unfold vp_in; decide) dL_follows_15 ?_
      refine J.heq (lw_s0 _) ?_
      refine J.goto (tgt := 22) C dL_follows_16 (by decide) ?_
      refine J.iconst C (0) dL_follows_22 (by decide) ?_
      exact J.iret C hr (Nat.le_of_ble_eq_true rfl) (Nat.le_of_ble_eq_true rfl) dL_follows_23 ⟨by rw [hrr], by rw [hrr]⟩
    · refine J.lconst C 1 dL_follows_10 rfl ?_
      rw [if_neg c9] at hrr
      refine J.goto (tgt := 15) C dL_follows_11 (by decide) ?_
      refine J.last C (66 + (R9.length + 0)) lw_0 (show vp_in 0 1 by unfold vp_in; decide) dL_follows_15 ?_
      refine J.heq (lw_s0 _) ?_
      refine J.goto (tgt := 22) C dL_follows_16 (by decide) ?_
      refine J.iconst C (0) dL_follows_22 (by decide) ?_
      exact J.iret C hr (Nat.le_of_ble_eq_true rfl) (Nat.le_of_ble_eq_true rfl) dL_follows_23 ⟨by rw [hrr], by rw [hrr]⟩
abbrev mL_isSound : MD := (yL_isSound, cL_isSound, 4, some .int)
abbrev hL_isSound : HH := [(0, 16, 19, 24)]
def W_L_isSound (σ : DS) (w : OS) (a1 : Int32) : Res LWS Int32 := wrT [("java/lang/IndexOutOfBoundsException", 1)] stZ (P_X6_isSound σ a1) w
set_option maxRecDepth 100000 in
theorem sp_L_isSound {l : Launch} (hl : l.stackTraces = false) {g : Gy} {ad : Nat → Nat} {R9 : va_W} {o1 o2 : Nat} (σ : DS) (w : OS) (a1 : Int32) (rr : (Int32 ⊕ String) × LWS) (H : W_L_isSound σ w a1 = some rr) : SpH l mL_isSound hL_isSound 9 1 6 mI g [.ref (ad 0), .int a1, .ref o1] (lwh g ad R9 o1 o2 (σ, w)) (fun r u => rr.1 = .inl r ∧ u = lwh g ad R9 o1 o2 rr.2) (fun _ _ => False) := by
  refine SpH.of hl (by decide) (Nat.le_of_ble_eq_true rfl) (fun p e s m args below meth c A C hr ht => ?_)
  unfold W_L_isSound at H
  refine J.lw (lv' := [(0, .ref (ad 0)), (1, .int a1), (2, .ref o1)]) ⟨rfl, rfl, rfl, trivial⟩ ?_
  refine J.aload_n (i := 2) C dL_isSound_0 rfl rfl ?_
  refine J.iconst C (0) dL_isSound_1 (by decide) ?_
  refine J.aload_n (i := 0) C dL_isSound_2 rfl rfl ?_
  refine J.iload_n (i := 1) C dL_isSound_3 rfl rfl ?_
  refine J.callH C rfl (sp_X6_isSound hl a1) rfl kMl_L_151 mdX6_isSound ⟨(Nat.le_of_ble_eq_true rfl), (Nat.le_of_ble_eq_true rfl)⟩ dk_0 rfl rfl (Nat.le_of_ble_eq_true rfl) dL_isSound_4 ⟨(Nat.le_of_ble_eq_true rfl), (Nat.le_of_ble_eq_true rfl)⟩ H (fun E k σ1 hk hrr => ?_) (fun r σ1 w1 hst hrr => ?_)
  · rcases lookup_cons hk with ⟨rfl, rfl⟩ | ⟨ne0, hk⟩
    · refine J.catch C ht [] [] { startPc := 0, endPc := 16, handlerPc := 19, catchType := 24 } rfl (by decide) (fun z hz => ?_) (by decide) (by decide) kCl_L_24 cast_IndexOutOfBoundsException (fun q => ?_)
      · cases hz
      · refine J.astore_n (i := 3) C dL_isSound_19 rfl (by decide) ?_
        refine J.iconst C (1) dL_isSound_20 (by decide) ?_
        exact J.iret C hr (Nat.le_of_ble_eq_true rfl) (Nat.le_of_ble_eq_true rfl) dL_isSound_21 ⟨by rw [hrr], by rw [hrr]⟩
    · exact (lookup_nil hk).elim
  · cases hst
    refine J.if_eq (tgt := 14) C dL_isSound_7 (by decide) (fun c9 => ?_) (fun c9 => ?_)
    · refine J.lconst C 0 dL_isSound_14 rfl ?_
      rw [if_pos c9] at hrr
      refine J.last C (66 + (R9.length + 0)) lw_0 (show vp_in 0 1 by unfold vp_in; decide) dL_isSound_15 ?_
      refine J.heq (lw_s0 _) ?_
      refine J.goto (tgt := 22) C dL_isSound_16 (by decide) ?_
      refine J.iconst C (0) dL_isSound_22 (by decide) ?_
      exact J.iret C hr (Nat.le_of_ble_eq_true rfl) (Nat.le_of_ble_eq_true rfl) dL_isSound_23 ⟨by rw [hrr], by rw [hrr]⟩
    · refine J.lconst C 1 dL_isSound_10 rfl ?_
      rw [if_neg c9] at hrr
      refine J.goto (tgt := 15) C dL_isSound_11 (by decide) ?_
      refine J.last C (66 + (R9.length + 0)) lw_0 (show vp_in 0 1 by unfold vp_in; decide) dL_isSound_15 ?_
      refine J.heq (lw_s0 _) ?_
      refine J.goto (tgt := 22) C dL_isSound_16 (by decide) ?_
      refine J.iconst C (0) dL_isSound_22 (by decide) ?_
      exact J.iret C hr (Nat.le_of_ble_eq_true rfl) (Nat.le_of_ble_eq_true rfl) dL_isSound_23 ⟨by rw [hrr], by rw [hrr]⟩
abbrev mL_share : MD := (yL_share, cL_share, 4, some .int)
abbrev hL_share : HH := [(0, 9, 12, 24)]
def W_L_share (σ : DS) (w : OS) (a1 : Int32) : Res LWS Int32 := wrT [("java/lang/IndexOutOfBoundsException", 1)] stF (P_X6_share σ a1) w
set_option maxRecDepth 100000 in
theorem sp_L_share {l : Launch} (hl : l.stackTraces = false) {g : Gy} {ad : Nat → Nat} {R9 : va_W} {o1 o2 : Nat} (σ : DS) (w : OS) (a1 : Int32) (rr : (Int32 ⊕ String) × LWS) (H : W_L_share σ w a1 = some rr) : SpH l mL_share hL_share 9 1 6 mI g [.ref (ad 0), .int a1, .ref o2] (lwh g ad R9 o1 o2 (σ, w)) (fun r u => rr.1 = .inl r ∧ u = lwh g ad R9 o1 o2 rr.2) (fun _ _ => False) := by
  refine SpH.of hl (by decide) (Nat.le_of_ble_eq_true rfl) (fun p e s m args below meth c A C hr ht => ?_)
  unfold W_L_share at H
  refine J.lw (lv' := [(0, .ref (ad 0)), (1, .int a1), (2, .ref o2)]) ⟨rfl, rfl, rfl, trivial⟩ ?_
  refine J.aload_n (i := 2) C dL_share_0 rfl rfl ?_
  refine J.iconst C (0) dL_share_1 (by decide) ?_
  refine J.aload_n (i := 0) C dL_share_2 rfl rfl ?_
  refine J.iload_n (i := 1) C dL_share_3 rfl rfl ?_
  refine J.callH C rfl (sp_X6_share hl a1) rfl kMl_L_154 mdX6_share ⟨(Nat.le_of_ble_eq_true rfl), (Nat.le_of_ble_eq_true rfl)⟩ dk_0 rfl rfl (Nat.le_of_ble_eq_true rfl) dL_share_4 ⟨(Nat.le_of_ble_eq_true rfl), (Nat.le_of_ble_eq_true rfl)⟩ H (fun E k σ1 hk hrr => ?_) (fun r σ1 w1 hst hrr => ?_)
  · rcases lookup_cons hk with ⟨rfl, rfl⟩ | ⟨ne0, hk⟩
    · refine J.catch C ht [] [] { startPc := 0, endPc := 9, handlerPc := 12, catchType := 24 } rfl (by decide) (fun z hz => ?_) (by decide) (by decide) kCl_L_24 cast_IndexOutOfBoundsException (fun q => ?_)
      · cases hz
      · refine J.astore_n (i := 3) C dL_share_12 rfl (by decide) ?_
        refine J.iconst C (1) dL_share_13 (by decide) ?_
        exact J.iret C hr (Nat.le_of_ble_eq_true rfl) (Nat.le_of_ble_eq_true rfl) dL_share_14 ⟨by rw [hrr], by rw [hrr]⟩
    · exact (lookup_nil hk).elim
  · unfold stF at hst
    split at hst
    · rename_i hz
      cases hst
      refine J.f2d C dL_share_7 hz ?_
      refine J.dast C (66 + (R9.length + 1)) lw_1 (show vp_in 0 1 by unfold vp_in; decide) dL_share_8 ?_
      refine J.heq (lw_s1 _) ?_
      refine J.goto (tgt := 15) C dL_share_9 (by decide) ?_
      refine J.iconst C (0) dL_share_15 (by decide) ?_
      exact J.iret C hr (Nat.le_of_ble_eq_true rfl) (Nat.le_of_ble_eq_true rfl) dL_share_16 ⟨by rw [hrr], by rw [hrr]⟩
    · cases hst
abbrev mL_meanSize : MD := (yL_meanSize, cL_meanSize, 3, some .int)
abbrev hL_meanSize : HH := [(0, 7, 10, 162)]
def W_L_meanSize (σ : DS) (w : OS)  : Res LWS Int32 := wrT [("java/lang/ArithmeticException", 1)] stD (P_X6_meanSize σ ) w
set_option maxRecDepth 100000 in
theorem sp_L_meanSize {l : Launch} (hl : l.stackTraces = false) {g : Gy} {ad : Nat → Nat} {R9 : va_W} {o1 o2 : Nat} (σ : DS) (w : OS)  (rr : (Int32 ⊕ String) × LWS) (H : W_L_meanSize σ w  = some rr) : SpH l mL_meanSize hL_meanSize 8 1 6 mI g [.ref (ad 0), .ref o2] (lwh g ad R9 o1 o2 (σ, w)) (fun r u => rr.1 = .inl r ∧ u = lwh g ad R9 o1 o2 rr.2) (fun _ _ => False) := by
  refine SpH.of hl (by decide) (Nat.le_of_ble_eq_true rfl) (fun p e s m args below meth c A C hr ht => ?_)
  unfold W_L_meanSize at H
  refine J.lw (lv' := [(0, .ref (ad 0)), (1, .ref o2)]) ⟨rfl, rfl, trivial⟩ ?_
  refine J.aload_n (i := 1) C dL_meanSize_0 rfl rfl ?_
  refine J.iconst C (0) dL_meanSize_1 (by decide) ?_
  refine J.aload_n (i := 0) C dL_meanSize_2 rfl rfl ?_
  refine J.callH C rfl (sp_X6_meanSize hl ) rfl kMl_L_158 mdX6_meanSize ⟨(Nat.le_of_ble_eq_true rfl), (Nat.le_of_ble_eq_true rfl)⟩ dk_0 rfl rfl (Nat.le_of_ble_eq_true rfl) dL_meanSize_3 ⟨(Nat.le_of_ble_eq_true rfl), (Nat.le_of_ble_eq_true rfl)⟩ H (fun E k σ1 hk hrr => ?_) (fun r σ1 w1 hst hrr => ?_)
  · rcases lookup_cons hk with ⟨rfl, rfl⟩ | ⟨ne0, hk⟩
    · refine J.catch C ht [] [] { startPc := 0, endPc := 7, handlerPc := 10, catchType := 162 } rfl (by decide) (fun z hz => ?_) (by decide) (by decide) kCl_L_162 cast_ArithmeticException (fun q => ?_)
      · cases hz
      · refine J.astore_n (i := 2) C dL_meanSize_10 rfl (by decide) ?_
        refine J.iconst C (1) dL_meanSize_11 (by decide) ?_
        exact J.iret C hr (Nat.le_of_ble_eq_true rfl) (Nat.le_of_ble_eq_true rfl) dL_meanSize_12 ⟨by rw [hrr], by rw [hrr]⟩
    · exact (lookup_nil hk).elim
  · cases hst
    refine J.dast C (66 + (R9.length + 1)) lw_1 (show vp_in 0 1 by unfold vp_in; decide) dL_meanSize_6 ?_
    refine J.heq (lw_s1 _) ?_
    refine J.goto (tgt := 13) C dL_meanSize_7 (by decide) ?_
    refine J.iconst C (0) dL_meanSize_13 (by decide) ?_
    exact J.iret C hr (Nat.le_of_ble_eq_true rfl) (Nat.le_of_ble_eq_true rfl) dL_meanSize_14 ⟨by rw [hrr], by rw [hrr]⟩
