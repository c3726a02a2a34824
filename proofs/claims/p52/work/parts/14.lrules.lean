/-! RULES ALONG A PURE TEXT: the body of a method as a pure function, H says what it comes to -/
/-- a name for a value -/
def lt {α β : Type} (x : α) (k : α → β) : β := k x
/-- an index that must be inside -/
def gd {β : Type} (i : Int32) (n : Nat) (k : Option β) : Option β := if i < 0 ∨ n ≤ i.toNatClampNeg then none else k
theorem gd_some {β : Type} {i : Int32} {n : Nat} {k : Option β} {y : β} (h : gd i n k = some y) : vp_in i n ∧ k = some y := by
  unfold gd at h
  by_cases c : i < 0 ∨ n ≤ i.toNatClampNeg
  · rw [if_pos c] at h
    cases h
  · rw [if_neg c] at h
    exact ⟨c, h⟩
/-- a condition that must hold -/
def gc {β : Type} (c : Prop) [Decidable c] (k : Option β) : Option β := if c then k else none
theorem gc_some {β : Type} {c : Prop} [Decidable c] {k : Option β} {y : β} (h : gc c k = some y) : c ∧ k = some y := by
  unfold gc at h
  by_cases z : c
  · rw [if_pos z] at h
    exact ⟨z, h⟩
  · rw [if_neg z] at h
    cases h
/-- what a method comes to: undefined, or an answer or an exception's class, and the state behind it -/
abbrev Res (S ρ : Type) : Type := Option ((ρ ⊕ String) × S)
/-- behind a call -/
def bd {S ρ ρ' : Type} (x : Res S ρ) (k : ρ → S → Res S ρ') : Res S ρ' := match x with
  | none => none
  | some (.inl r, s) => k r s
  | some (.inr E, s) => some (.inr E, s)
/-- what is asked of a method's end -/
def QR {S ρ : Type} (mk : ρ → Option Value) (g : Gy) (A : Nat → Prop) (hp : S → va_W) (rr : (ρ ⊕ String) × S) (below : List Frame) (args : Array Value) (s : State) (mc ms : Nat) : State → Prop :=
  vx_MQ below (Qg mk (fun r u => rr.1 = .inl r ∧ u = hp rr.2) g A) (XQ (fun E u => rr.1 = .inr E ∧ u = hp rr.2) g A) args s mc ms A
/-- a method does what its pure text comes to -/
def SpR {S ρ : Type} (l : Launch) (d : MD) (lev mc ms : Nat) (mk : ρ → Option Value) (g : Gy) (as : List Value) (hp : S → va_W) (σ : S) (x : Res S ρ) : Prop :=
  ∀ rr, x = some rr → Sp l d lev mc ms mk g as (hp σ) (fun r u => rr.1 = .inl r ∧ u = hp rr.2) (fun E u => rr.1 = .inr E ∧ u = hp rr.2)
theorem SpR.of {S ρ : Type} {l : Launch} {d : MD} {lev mc ms : Nat} {mk : ρ → Option Value} {g : Gy} {as : List Value} {hp : S → va_W} {σ : S} {x : Res S ρ} (hl : l.stackTraces = false) (hy : plainName d.1.cls = true) (hlen : (lg_sl as).length ≤ d.2.2.1)
    (body : ∀ rr, x = some rr → ∀ (p : Program) (e : Env) (s : State) (m : MethodId) (args : Array Value) (below : List Frame) (meth : Method) (c : Code) (A : Nat → Prop), Cx p l s m args meth c g A d.1.cls d.2.1 d.2.2.1 → meth.sig.returnType = d.2.2.2 → (∀ x ∈ c.exceptionTable.toList, False) →
      J p l e (rmOf lev mc ms) s m args below meth c g A d.2.2.1 0 0 (QR mk g A hp rr below args s mc ms) 0 (lv_args 0 as) [] (hp σ)) : SpR l d lev mc ms mk g as hp σ x := fun rr H => Sp.of hl hy hlen (body rr H)
section LRULES
variable {p : Program} {l : Launch} {e : Env} {R : Room} {s : State} {m : MethodId} {args : Array Value} {below : List Frame} {meth : Method} {c : Code} {g : Gy} {A : Nat → Prop} {own : String} {cc : ByteArray} {nL : Nat} {cells slots : Nat} {Q : State → Prop} {pc : Nat} {lv : List (Nat × Value)} {st rest : List Value} {h : va_W} {α : Type} {a b y : α}
theorem J.if_eqL (C : Cx p l s m args meth c g A own cc nL) {x : Int32} {off : Int} {tgt : Nat} (d : decode cc pc = .ok (.ifCond .eq off, 3)) (ht : (pc : Int) + off = (tgt : Int)) (H : (if x = 0 then a else b) = y) (kt : x = 0 → a = y → J p l e R s m args below meth c g A nL cells slots Q tgt lv rest h) (kf : ¬ x = 0 → b = y → J p l e R s m args below meth c g A nL cells slots Q (pc + 3) lv rest h) : J p l e R s m args below meth c g A nL cells slots Q pc lv (.int x :: rest) h := J.if_eq C d ht (fun z => kt z (by rwa [if_pos z] at H)) (fun z => kf z (by rwa [if_neg z] at H))
theorem J.if_neL (C : Cx p l s m args meth c g A own cc nL) {x : Int32} {off : Int} {tgt : Nat} (d : decode cc pc = .ok (.ifCond .ne off, 3)) (ht : (pc : Int) + off = (tgt : Int)) (H : (if x = 0 then b else a) = y) (kt : ¬ x = 0 → a = y → J p l e R s m args below meth c g A nL cells slots Q tgt lv rest h) (kf : x = 0 → b = y → J p l e R s m args below meth c g A nL cells slots Q (pc + 3) lv rest h) : J p l e R s m args below meth c g A nL cells slots Q pc lv (.int x :: rest) h := J.if_ne C d ht (fun z => kt z (by rwa [if_neg z] at H)) (fun z => kf z (by rwa [if_pos z] at H))
theorem J.if_ltL (C : Cx p l s m args meth c g A own cc nL) {x : Int32} {off : Int} {tgt : Nat} (d : decode cc pc = .ok (.ifCond .lt off, 3)) (ht : (pc : Int) + off = (tgt : Int)) (H : (if x < 0 then a else b) = y) (kt : x < 0 → a = y → J p l e R s m args below meth c g A nL cells slots Q tgt lv rest h) (kf : ¬ x < 0 → b = y → J p l e R s m args below meth c g A nL cells slots Q (pc + 3) lv rest h) : J p l e R s m args below meth c g A nL cells slots Q pc lv (.int x :: rest) h := J.if_lt C d ht (fun z => kt z (by rwa [if_pos z] at H)) (fun z => kf z (by rwa [if_neg z] at H))
theorem J.if_geL (C : Cx p l s m args meth c g A own cc nL) {x : Int32} {off : Int} {tgt : Nat} (d : decode cc pc = .ok (.ifCond .ge off, 3)) (ht : (pc : Int) + off = (tgt : Int)) (H : (if 0 ≤ x then a else b) = y) (kt : 0 ≤ x → a = y → J p l e R s m args below meth c g A nL cells slots Q tgt lv rest h) (kf : ¬ 0 ≤ x → b = y → J p l e R s m args below meth c g A nL cells slots Q (pc + 3) lv rest h) : J p l e R s m args below meth c g A nL cells slots Q pc lv (.int x :: rest) h := J.if_ge C d ht (fun z => kt z (by rwa [if_pos z] at H)) (fun z => kf z (by rwa [if_neg z] at H))
theorem J.if_gtL (C : Cx p l s m args meth c g A own cc nL) {x : Int32} {off : Int} {tgt : Nat} (d : decode cc pc = .ok (.ifCond .gt off, 3)) (ht : (pc : Int) + off = (tgt : Int)) (H : (if 0 < x then a else b) = y) (kt : 0 < x → a = y → J p l e R s m args below meth c g A nL cells slots Q tgt lv rest h) (kf : ¬ 0 < x → b = y → J p l e R s m args below meth c g A nL cells slots Q (pc + 3) lv rest h) : J p l e R s m args below meth c g A nL cells slots Q pc lv (.int x :: rest) h := J.if_gt C d ht (fun z => kt z (by rwa [if_pos z] at H)) (fun z => kf z (by rwa [if_neg z] at H))
theorem J.if_leL (C : Cx p l s m args meth c g A own cc nL) {x : Int32} {off : Int} {tgt : Nat} (d : decode cc pc = .ok (.ifCond .le off, 3)) (ht : (pc : Int) + off = (tgt : Int)) (H : (if x ≤ 0 then a else b) = y) (kt : x ≤ 0 → a = y → J p l e R s m args below meth c g A nL cells slots Q tgt lv rest h) (kf : ¬ x ≤ 0 → b = y → J p l e R s m args below meth c g A nL cells slots Q (pc + 3) lv rest h) : J p l e R s m args below meth c g A nL cells slots Q pc lv (.int x :: rest) h := J.if_le C d ht (fun z => kt z (by rwa [if_pos z] at H)) (fun z => kf z (by rwa [if_neg z] at H))
theorem J.icmp_eqL (C : Cx p l s m args meth c g A own cc nL) {x y9 : Int32} {off : Int} {tgt : Nat} (d : decode cc pc = .ok (.if_icmp .eq off, 3)) (ht : (pc : Int) + off = (tgt : Int)) (H : (if x = y9 then a else b) = y) (kt : x = y9 → a = y → J p l e R s m args below meth c g A nL cells slots Q tgt lv rest h) (kf : ¬ x = y9 → b = y → J p l e R s m args below meth c g A nL cells slots Q (pc + 3) lv rest h) : J p l e R s m args below meth c g A nL cells slots Q pc lv (.int y9 :: .int x :: rest) h := J.icmp_eq C d ht (fun z => kt z (by rwa [if_pos z] at H)) (fun z => kf z (by rwa [if_neg z] at H))
theorem J.icmp_neL (C : Cx p l s m args meth c g A own cc nL) {x y9 : Int32} {off : Int} {tgt : Nat} (d : decode cc pc = .ok (.if_icmp .ne off, 3)) (ht : (pc : Int) + off = (tgt : Int)) (H : (if x = y9 then b else a) = y) (kt : ¬ x = y9 → a = y → J p l e R s m args below meth c g A nL cells slots Q tgt lv rest h) (kf : x = y9 → b = y → J p l e R s m args below meth c g A nL cells slots Q (pc + 3) lv rest h) : J p l e R s m args below meth c g A nL cells slots Q pc lv (.int y9 :: .int x :: rest) h := J.icmp_ne C d ht (fun z => kt z (by rwa [if_neg z] at H)) (fun z => kf z (by rwa [if_pos z] at H))
theorem J.icmp_ltL (C : Cx p l s m args meth c g A own cc nL) {x y9 : Int32} {off : Int} {tgt : Nat} (d : decode cc pc = .ok (.if_icmp .lt off, 3)) (ht : (pc : Int) + off = (tgt : Int)) (H : (if x < y9 then a else b) = y) (kt : x < y9 → a = y → J p l e R s m args below meth c g A nL cells slots Q tgt lv rest h) (kf : ¬ x < y9 → b = y → J p l e R s m args below meth c g A nL cells slots Q (pc + 3) lv rest h) : J p l e R s m args below meth c g A nL cells slots Q pc lv (.int y9 :: .int x :: rest) h := J.icmp_lt C d ht (fun z => kt z (by rwa [if_pos z] at H)) (fun z => kf z (by rwa [if_neg z] at H))
theorem J.icmp_geL (C : Cx p l s m args meth c g A own cc nL) {x y9 : Int32} {off : Int} {tgt : Nat} (d : decode cc pc = .ok (.if_icmp .ge off, 3)) (ht : (pc : Int) + off = (tgt : Int)) (H : (if y9 ≤ x then a else b) = y) (kt : y9 ≤ x → a = y → J p l e R s m args below meth c g A nL cells slots Q tgt lv rest h) (kf : ¬ y9 ≤ x → b = y → J p l e R s m args below meth c g A nL cells slots Q (pc + 3) lv rest h) : J p l e R s m args below meth c g A nL cells slots Q pc lv (.int y9 :: .int x :: rest) h := J.icmp_ge C d ht (fun z => kt z (by rwa [if_pos z] at H)) (fun z => kf z (by rwa [if_neg z] at H))
theorem J.icmp_gtL (C : Cx p l s m args meth c g A own cc nL) {x y9 : Int32} {off : Int} {tgt : Nat} (d : decode cc pc = .ok (.if_icmp .gt off, 3)) (ht : (pc : Int) + off = (tgt : Int)) (H : (if y9 < x then a else b) = y) (kt : y9 < x → a = y → J p l e R s m args below meth c g A nL cells slots Q tgt lv rest h) (kf : ¬ y9 < x → b = y → J p l e R s m args below meth c g A nL cells slots Q (pc + 3) lv rest h) : J p l e R s m args below meth c g A nL cells slots Q pc lv (.int y9 :: .int x :: rest) h := J.icmp_gt C d ht (fun z => kt z (by rwa [if_pos z] at H)) (fun z => kf z (by rwa [if_neg z] at H))
theorem J.icmp_leL (C : Cx p l s m args meth c g A own cc nL) {x y9 : Int32} {off : Int} {tgt : Nat} (d : decode cc pc = .ok (.if_icmp .le off, 3)) (ht : (pc : Int) + off = (tgt : Int)) (H : (if x ≤ y9 then a else b) = y) (kt : x ≤ y9 → a = y → J p l e R s m args below meth c g A nL cells slots Q tgt lv rest h) (kf : ¬ x ≤ y9 → b = y → J p l e R s m args below meth c g A nL cells slots Q (pc + 3) lv rest h) : J p l e R s m args below meth c g A nL cells slots Q pc lv (.int y9 :: .int x :: rest) h := J.icmp_le C d ht (fun z => kt z (by rwa [if_pos z] at H)) (fun z => kf z (by rwa [if_neg z] at H))
theorem J.istore_nL (C : Cx p l s m args meth c g A own cc nL) {q : Fin 4} {i : Nat} {x : Int32} (d : decode cc pc = .ok (.istore_n q, 1)) (hi : (q : Nat) = i) (hn : i < nL) {k : Int32 → α} (H : lt x k = y) (kk : ∀ z : Int32, k z = y → J p l e R s m args below meth c g A nL cells slots Q (pc + 1) (lvs lv i (.int z)) rest h) : J p l e R s m args below meth c g A nL cells slots Q pc lv (.int x :: rest) h := J.istore_n C d hi hn (kk x H)
theorem J.istoreL (C : Cx p l s m args meth c g A own cc nL) {i : Nat} {x : Int32} (d : decode cc pc = .ok (.istore i, 2)) (hn : i < nL) {k : Int32 → α} (H : lt x k = y) (kk : ∀ z : Int32, k z = y → J p l e R s m args below meth c g A nL cells slots Q (pc + 2) (lvs lv i (.int z)) rest h) : J p l e R s m args below meth c g A nL cells slots Q pc lv (.int x :: rest) h := J.istore C d hn (kk x H)
theorem J.iincL (C : Cx p l s m args meth c g A own cc nL) {i : Nat} {n : Int} {x : Int32} (v : Int32) (d : decode cc pc = .ok (.iinc i n, 3)) (hv : lvg lv i = some (.int x)) (he : x + Int32.ofInt n = v) (hn : i < nL) {k : Int32 → α} (H : lt v k = y) (kk : ∀ z : Int32, k z = y → J p l e R s m args below meth c g A nL cells slots Q (pc + 3) (lvs lv i (.int z)) rest h) : J p l e R s m args below meth c g A nL cells slots Q pc lv rest h := J.iinc C d hv he hn (kk v H)
theorem J.putL (C : Cx p l s m args meth c g A own cc nL) {S : Type} {hp : S → va_W} {idx ci N a0 : Nat} {Cn : String} {T : u_T} {fs : List Value} {v : Value} {ty : FieldType} (q0 f : Nat) (he : h[q0]? = some (a0, .inr (ci, fs))) (hc : vwCl[ci]? = some (Cn, T, N)) (hf : f < N) (hl : Cond.fieldLink own idx (T f).1 (T f).2.1 (T f).2.2.1 ∈ BIG) (hin : ∀ w ∈ u_ws Cn T N, w ∈ BIG) (ty0 : Nat → FieldType) (hty : ∀ k, k < N → parseFieldDescriptor (T k).2.2.1 = some (ty0 k)) (hnm : ∀ a, a < N → ∀ b, b < N → a ≠ b → (T a).2.1 ≠ (T b).2.1) (hfin : (T f).2.2.2 = false) (hd : parseFieldDescriptor (T f).2.2.1 = some ty) (hn : narrow ty v = v) (hfit : fits ty v = true) (hlen : f < fs.length) (d : decode cc pc = .ok (.putfield idx, 3))
    {σ' : S} (hh : h.set q0 (a0, .inr (ci, fs.set f v)) = hp σ') {k : S → α} (H : lt σ' k = y) (kk : ∀ z : S, k z = y → J p l e R s m args below meth c g A nL cells slots Q (pc + 3) lv rest (hp z)) : J p l e R s m args below meth c g A nL cells slots Q pc lv (v :: .ref a0 :: rest) h := J.put C q0 f he hc hf hl hin ty0 hty hnm hfin hd hn hfit hlen d (by rw [hh]; exact kk σ' H)
theorem J.ialdL (C : Cx p l s m args meth c g A own cc nL) {β : Type} {a0 n : Nat} {f : Nat → Int32} {i : Int32} (q0 : Nat) (he : h[q0]? = some (a0, .inl (g.2 0, n, .inl f))) (d : decode cc pc = .ok (.iaload, 1)) {k : Option β} {y : β} (H : gd i n k = some y) (kk : k = some y → J p l e R s m args below meth c g A nL cells slots Q (pc + 1) lv (.int (f i.toNatClampNeg) :: rest) h) : J p l e R s m args below meth c g A nL cells slots Q pc lv (.int i :: .ref a0 :: rest) h := J.iald C q0 he (gd_some H).1 d (kk (gd_some H).2)
theorem J.iastL (C : Cx p l s m args meth c g A own cc nL) {β S : Type} {hp : S → va_W} {a0 n : Nat} {f : Nat → Int32} {i x : Int32} (q0 : Nat) (he : h[q0]? = some (a0, .inl (g.2 0, n, .inl f))) (d : decode cc pc = .ok (.iastore, 1)) {σ' : S} (hh : h.set q0 (a0, .inl (g.2 0, n, .inl (upd f i.toNatClampNeg x))) = hp σ') {k : S → Option β} {y : β} (H : gd i n (lt σ' k) = some y) (kk : ∀ z : S, k z = some y → J p l e R s m args below meth c g A nL cells slots Q (pc + 1) lv rest (hp z)) : J p l e R s m args below meth c g A nL cells slots Q pc lv (.int x :: .int i :: .ref a0 :: rest) h := J.iast C q0 he (gd_some H).1 d (by rw [hh]; exact kk σ' (gd_some H).2)
theorem J.callVVL {S : Type} {hp : S → va_W} {d : MD} {lev mc ms n idx ci q0 N b0 : Nat} {Cn : String} {T : u_T} {fs as : List Value} (C : Cx p l s m args meth c g A own cc nL) {σ' : S} (sp : SpF l d lev mc ms mV g (.ref b0 :: as) h () (hp σ')) (hst : st = as.reverse ++ .ref b0 :: rest) (hl : Cond.methodLink own idx d.1 ∈ BIG) (hd : MDv d Cn n) (hR : lev + 1 ≤ R.frames ∧ 8 + (d.2.2.1 + 11) + 64 * lev ≤ R.locals) (he : h[q0]? = some (b0, .inr (ci, fs))) (hc : vwCl[ci]? = some (Cn, T, N)) (hn : as.length = n) (hW : (rest.map fun v => v.category).sum ≤ 8) (hdg : decode cc pc = .ok (.invokevirtual idx, 3)) (hf : cells + mc ≤ R.cells ∧ slots + ms ≤ R.slots) {k : S → α} (H : lt σ' k = y) (kk : ∀ z : S, k z = y → J p l e R s m args below meth c g A nL (cells + mc) (slots + ms) Q (pc + 3) lv rest (hp z)) : J p l e R s m args below meth c g A nL cells slots Q pc lv st h := J.callVV C sp hst hl hd hR he hc hn hW hdg hf (kk σ' H)
theorem J.callVBI {S ρ' : Type} {hp : S → va_W} {d : MD} {lev mc ms n idx ci q0 N b0 : Nat} {Cn : String} {T : u_T} {fs as : List Value} (C : Cx p l s m args meth c g A own cc nL) {σ : S} {x : Res S Int32} (hh : h = hp σ) (sp : SpR l d lev mc ms mI g (.ref b0 :: as) hp σ x) (hst : st = as.reverse ++ .ref b0 :: rest) (hl : Cond.methodLink own idx d.1 ∈ BIG) (hd : MDv d Cn n) (hR : lev + 1 ≤ R.frames ∧ 8 + (d.2.2.1 + 11) + 64 * lev ≤ R.locals) (he : h[q0]? = some (b0, .inr (ci, fs))) (hc : vwCl[ci]? = some (Cn, T, N)) (hn : as.length = n) (hW : (rest.map fun v => v.category).sum ≤ 8) (hdg : decode cc pc = .ok (.invokevirtual idx, 3)) (hf : cells + mc ≤ R.cells ∧ slots + ms ≤ R.slots) {mk' : ρ' → Option Value} {mc' ms' : Nat} {rr : (ρ' ⊕ String) × S} (hx : ∀ x ∈ c.exceptionTable.toList, False) (hc9 : cells + mc ≤ mc') (hs9 : slots + ms ≤ ms') {k : Int32 → S → Res S ρ'} (H : bd x k = some rr)
    (kk : ∀ (r : Int32) (z : S), k r z = some rr → J p l e R s m args below meth c g A nL (cells + mc) (slots + ms) (QR mk' g A hp rr below args s mc' ms') (pc + 3) lv (.int r :: rest) (hp z)) : J p l e R s m args below meth c g A nL cells slots (QR mk' g A hp rr below args s mc' ms') pc lv st h := by
  subst hh
  cases hxx : x with
  | none => rw [hxx] at H; cases H
  | some q =>
    obtain ⟨q1, q2⟩ := q
    refine J.callV C (sp _ hxx) hst hl hd hR he hc hn hW hdg hf (fun E u hu => ?_) (fun r u hu => ?_)
    · obtain ⟨h1, h2⟩ := hu
      dsimp only at h1 h2
      subst h1
      rw [hxx] at H
      cases H
      exact J.out C hx hc9 hs9 ⟨rfl, h2⟩
    · obtain ⟨h1, h2⟩ := hu
      dsimp only at h1 h2
      subst h1
      subst h2
      rw [hxx] at H
      exact kk r q2 H
theorem J.callVBV {S ρ' : Type} {hp : S → va_W} {d : MD} {lev mc ms n idx ci q0 N b0 : Nat} {Cn : String} {T : u_T} {fs as : List Value} (C : Cx p l s m args meth c g A own cc nL) {σ : S} {x : Res S Unit} (hh : h = hp σ) (sp : SpR l d lev mc ms mV g (.ref b0 :: as) hp σ x) (hst : st = as.reverse ++ .ref b0 :: rest) (hl : Cond.methodLink own idx d.1 ∈ BIG) (hd : MDv d Cn n) (hR : lev + 1 ≤ R.frames ∧ 8 + (d.2.2.1 + 11) + 64 * lev ≤ R.locals) (he : h[q0]? = some (b0, .inr (ci, fs))) (hc : vwCl[ci]? = some (Cn, T, N)) (hn : as.length = n) (hW : (rest.map fun v => v.category).sum ≤ 8) (hdg : decode cc pc = .ok (.invokevirtual idx, 3)) (hf : cells + mc ≤ R.cells ∧ slots + ms ≤ R.slots) {mk' : ρ' → Option Value} {mc' ms' : Nat} {rr : (ρ' ⊕ String) × S} (hx : ∀ x ∈ c.exceptionTable.toList, False) (hc9 : cells + mc ≤ mc') (hs9 : slots + ms ≤ ms') {k : Unit → S → Res S ρ'} (H : bd x k = some rr)
    (kk : ∀ (r : Unit) (z : S), k r z = some rr → J p l e R s m args below meth c g A nL (cells + mc) (slots + ms) (QR mk' g A hp rr below args s mc' ms') (pc + 3) lv rest (hp z)) : J p l e R s m args below meth c g A nL cells slots (QR mk' g A hp rr below args s mc' ms') pc lv st h := by
  subst hh
  cases hxx : x with
  | none => rw [hxx] at H; cases H
  | some q =>
    obtain ⟨q1, q2⟩ := q
    refine J.callV C (sp _ hxx) hst hl hd hR he hc hn hW hdg hf (fun E u hu => ?_) (fun r u hu => ?_)
    · obtain ⟨h1, h2⟩ := hu
      dsimp only at h1 h2
      subst h1
      rw [hxx] at H
      cases H
      exact J.out C hx hc9 hs9 ⟨rfl, h2⟩
    · obtain ⟨h1, h2⟩ := hu
      dsimp only at h1 h2
      subst h1
      subst h2
      rw [hxx] at H
      exact kk r q2 H
theorem J.callSBI {S ρ' : Type} {hp : S → va_W} {d : MD} {lev mc ms n idx : Nat} {as : List Value} (C : Cx p l s m args meth c g A own cc nL) {σ : S} {x : Res S Int32} (hh : h = hp σ) (sp : SpR l d lev mc ms mI g as hp σ x) (hst : st = as.reverse ++ rest) (hl : Cond.methodLink own idx d.1 ∈ BIG) (hd : MDs d n) (hR : lev + 1 ≤ R.frames ∧ 8 + (d.2.2.1 + 11) + 64 * lev ≤ R.locals) (hn : as.length = n) (hW : (rest.map fun v => v.category).sum ≤ 8) (hdg : decode cc pc = .ok (.invokestatic idx, 3)) (hf : cells + mc ≤ R.cells ∧ slots + ms ≤ R.slots) {mk' : ρ' → Option Value} {mc' ms' : Nat} {rr : (ρ' ⊕ String) × S} (hx : ∀ x ∈ c.exceptionTable.toList, False) (hc9 : cells + mc ≤ mc') (hs9 : slots + ms ≤ ms') {k : Int32 → S → Res S ρ'} (H : bd x k = some rr)
    (kk : ∀ (r : Int32) (z : S), k r z = some rr → J p l e R s m args below meth c g A nL (cells + mc) (slots + ms) (QR mk' g A hp rr below args s mc' ms') (pc + 3) lv (.int r :: rest) (hp z)) : J p l e R s m args below meth c g A nL cells slots (QR mk' g A hp rr below args s mc' ms') pc lv st h := by
  subst hh
  cases hxx : x with
  | none => rw [hxx] at H; cases H
  | some q =>
    obtain ⟨q1, q2⟩ := q
    refine J.callS C (sp _ hxx) hst hl hd hR hn hW hdg hf (fun E u hu => ?_) (fun r u hu => ?_)
    · obtain ⟨h1, h2⟩ := hu
      dsimp only at h1 h2
      subst h1
      rw [hxx] at H
      cases H
      exact J.out C hx hc9 hs9 ⟨rfl, h2⟩
    · obtain ⟨h1, h2⟩ := hu
      dsimp only at h1 h2
      subst h1
      subst h2
      rw [hxx] at H
      exact kk r q2 H
theorem J.callSBV {S ρ' : Type} {hp : S → va_W} {d : MD} {lev mc ms n idx : Nat} {as : List Value} (C : Cx p l s m args meth c g A own cc nL) {σ : S} {x : Res S Unit} (hh : h = hp σ) (sp : SpR l d lev mc ms mV g as hp σ x) (hst : st = as.reverse ++ rest) (hl : Cond.methodLink own idx d.1 ∈ BIG) (hd : MDs d n) (hR : lev + 1 ≤ R.frames ∧ 8 + (d.2.2.1 + 11) + 64 * lev ≤ R.locals) (hn : as.length = n) (hW : (rest.map fun v => v.category).sum ≤ 8) (hdg : decode cc pc = .ok (.invokestatic idx, 3)) (hf : cells + mc ≤ R.cells ∧ slots + ms ≤ R.slots) {mk' : ρ' → Option Value} {mc' ms' : Nat} {rr : (ρ' ⊕ String) × S} (hx : ∀ x ∈ c.exceptionTable.toList, False) (hc9 : cells + mc ≤ mc') (hs9 : slots + ms ≤ ms') {k : Unit → S → Res S ρ'} (H : bd x k = some rr)
    (kk : ∀ (r : Unit) (z : S), k r z = some rr → J p l e R s m args below meth c g A nL (cells + mc) (slots + ms) (QR mk' g A hp rr below args s mc' ms') (pc + 3) lv rest (hp z)) : J p l e R s m args below meth c g A nL cells slots (QR mk' g A hp rr below args s mc' ms') pc lv st h := by
  subst hh
  cases hxx : x with
  | none => rw [hxx] at H; cases H
  | some q =>
    obtain ⟨q1, q2⟩ := q
    refine J.callS C (sp _ hxx) hst hl hd hR hn hW hdg hf (fun E u hu => ?_) (fun r u hu => ?_)
    · obtain ⟨h1, h2⟩ := hu
      dsimp only at h1 h2
      subst h1
      rw [hxx] at H
      cases H
      exact J.out C hx hc9 hs9 ⟨rfl, h2⟩
    · obtain ⟨h1, h2⟩ := hu
      dsimp only at h1 h2
      subst h1
      subst h2
      rw [hxx] at H
      exact kk r q2 H
theorem J.iretL (C : Cx p l s m args meth c g A own cc nL) {S : Type} {hp : S → va_W} {σ : S} {v : Int32} {mc ms : Nat} {rr : (Int32 ⊕ String) × S} (hr : meth.sig.returnType = some .int) (hc : cells ≤ mc) (hs : slots ≤ ms) (d : decode cc pc = .ok (.ireturn, 1)) (H : some ((.inl v, σ) : (Int32 ⊕ String) × S) = some rr) : J p l e R s m args below meth c g A nL cells slots (QR mI g A hp rr below args s mc ms) pc lv [.int v] (hp σ) := J.iret C hr hc hs d (by cases H; exact ⟨rfl, rfl⟩)
theorem J.iretA (C : Cx p l s m args meth c g A own cc nL) {v r0 : Int32} {mc ms : Nat} {px : String → va_W → Prop} (hr : meth.sig.returnType = some .int) (hc : cells ≤ mc) (hs : slots ≤ ms) (d : decode cc pc = .ok (.ireturn, 1)) (H : v = r0) : J p l e R s m args below meth c g A nL cells slots (vx_MQ below (Qg mI (fun r u => r = r0 ∧ u = h) g A) (XQ px g A) args s mc ms A) pc lv [.int v] h := J.iret C hr hc hs d ⟨H, rfl⟩
theorem J.zretL (C : Cx p l s m args meth c g A own cc nL) {S : Type} {hp : S → va_W} {σ : S} {ty : FieldType} {v : Int32} {mc ms : Nat} {rr : (Int32 ⊕ String) × S} (hr : meth.sig.returnType = some ty) (hn : narrow ty (.int v) = .int v) (hc : cells ≤ mc) (hs : slots ≤ ms) (d : decode cc pc = .ok (.ireturn, 1)) (H : some ((.inl v, σ) : (Int32 ⊕ String) × S) = some rr) : J p l e R s m args below meth c g A nL cells slots (QR mI g A hp rr below args s mc ms) pc lv [.int v] (hp σ) := J.zret C hr hn hc hs d (by cases H; exact ⟨rfl, rfl⟩)
theorem J.zretA (C : Cx p l s m args meth c g A own cc nL) {ty : FieldType} {v r0 : Int32} {mc ms : Nat} {px : String → va_W → Prop} (hr : meth.sig.returnType = some ty) (hn : narrow ty (.int v) = .int v) (hc : cells ≤ mc) (hs : slots ≤ ms) (d : decode cc pc = .ok (.ireturn, 1)) (H : v = r0) : J p l e R s m args below meth c g A nL cells slots (vx_MQ below (Qg mI (fun r u => r = r0 ∧ u = h) g A) (XQ px g A) args s mc ms A) pc lv [.int v] h := J.zret C hr hn hc hs d ⟨H, rfl⟩
theorem J.vretL (C : Cx p l s m args meth c g A own cc nL) {S : Type} {hp : S → va_W} {σ : S} {v : Unit} {mc ms : Nat} {rr : (Unit ⊕ String) × S} (hr : meth.sig.returnType = none) (hc : cells ≤ mc) (hs : slots ≤ ms) (d : decode cc pc = .ok (.return_, 1)) (H : some ((.inl v, σ) : (Unit ⊕ String) × S) = some rr) : J p l e R s m args below meth c g A nL cells slots (QR mV g A hp rr below args s mc ms) pc lv [] (hp σ) := J.vret C hr hc hs d (by cases H; exact ⟨rfl, rfl⟩)
theorem J.dretL (C : Cx p l s m args meth c g A own cc nL) {S : Type} {hp : S → va_W} {σ : S} {v : UInt64} {mc ms : Nat} {rr : (UInt64 ⊕ String) × S} (hr : meth.sig.returnType = some .double) (hc : cells ≤ mc) (hs : slots ≤ ms) (d : decode cc pc = .ok (.dreturn, 1)) (H : some ((.inl v, σ) : (UInt64 ⊕ String) × S) = some rr) : J p l e R s m args below meth c g A nL cells slots (QR mD g A hp rr below args s mc ms) pc lv [.double v] (hp σ) := J.dret C hr hc hs d (by cases H; exact ⟨rfl, rfl⟩)
theorem J.dretA (C : Cx p l s m args meth c g A own cc nL) {v r0 : UInt64} {mc ms : Nat} {px : String → va_W → Prop} (hr : meth.sig.returnType = some .double) (hc : cells ≤ mc) (hs : slots ≤ ms) (d : decode cc pc = .ok (.dreturn, 1)) (H : v = r0) : J p l e R s m args below meth c g A nL cells slots (vx_MQ below (Qg mD (fun r u => r = r0 ∧ u = h) g A) (XQ px g A) args s mc ms A) pc lv [.double v] h := J.dret C hr hc hs d ⟨H, rfl⟩
theorem J.fretL (C : Cx p l s m args meth c g A own cc nL) {S : Type} {hp : S → va_W} {σ : S} {v : UInt32} {mc ms : Nat} {rr : (UInt32 ⊕ String) × S} (hr : meth.sig.returnType = some .float) (hc : cells ≤ mc) (hs : slots ≤ ms) (d : decode cc pc = .ok (.freturn, 1)) (H : some ((.inl v, σ) : (UInt32 ⊕ String) × S) = some rr) : J p l e R s m args below meth c g A nL cells slots (QR mF g A hp rr below args s mc ms) pc lv [.float v] (hp σ) := J.fret C hr hc hs d (by cases H; exact ⟨rfl, rfl⟩)
theorem J.fretA (C : Cx p l s m args meth c g A own cc nL) {v r0 : UInt32} {mc ms : Nat} {px : String → va_W → Prop} (hr : meth.sig.returnType = some .float) (hc : cells ≤ mc) (hs : slots ≤ ms) (d : decode cc pc = .ok (.freturn, 1)) (H : v = r0) : J p l e R s m args below meth c g A nL cells slots (vx_MQ below (Qg mF (fun r u => r = r0 ∧ u = h) g A) (XQ px g A) args s mc ms A) pc lv [.float v] h := J.fret C hr hc hs d ⟨H, rfl⟩
end LRULES
