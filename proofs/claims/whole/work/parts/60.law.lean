/-! THE LAW'S BODY: case by case, over what both sides answer -/
abbrev R9 (g : Gy) (bd : Nat → Nat) (τ : MS) : va_W := mkA g bd τ ++ (mkC g bd τ ++ mkP g bd τ)
/-- the law's cells: the class's, the reference's, the two rows for answers -/
abbrev lz (g : Gy) (ad bd : Nat → Nat) (o1 o2 : Nat) (σ : DS) (τ : MS) (w : OS) : va_W := lwh g ad (R9 g bd τ) o1 o2 (σ, w)
theorem lz_mk {g : Gy} {ad bd : Nat → Nat} {o1 o2 : Nat} {σ : DS} {τ : MS} {w : OS} : lz g ad bd o1 o2 σ τ w = mkh g bd (dk g ad σ) (outs g o1 o2 w) τ := by
  show dk g ad σ ++ ((mkA g bd τ ++ (mkC g bd τ ++ mkP g bd τ)) ++ outs g o1 o2 w) = dk g ad σ ++ (mkA g bd τ ++ (mkC g bd τ ++ (mkP g bd τ ++ outs g o1 o2 w)))
  rw [List.append_assoc, List.append_assoc]
def okI (w : OS) (r : Int32) : Prop := w.1 (0 : Int32).toNatClampNeg = r.toInt64
def okZ (w : OS) (r : Int32) : Prop := w.1 (0 : Int32).toNatClampNeg = if r = 0 then 0 else 1
def okF (w : OS) (r : UInt32) : Prop := vf_n64 (FP.f2d r) ∧ Op.cmpValue (FP.dcmp (w.2 (0 : Int32).toNatClampNeg) (FP.f2d r)) .l = 0
def okD (w : OS) (r : UInt64) : Prop := Op.cmpValue (FP.dcmp (w.2 (0 : Int32).toNatClampNeg) r) .l = 0
/-- both sides answer alike: the number of what was thrown, and, if nothing was, the answer -/
def AgW {ρ : Type} (ok : OS → ρ → Prop) (Inv : DS → MS → Prop) (x : Res LWS Int32) (y : Res MS ρ) : Prop := ∃ (k : Int32) (σ : DS) (w : OS) (r : ρ) (τ : MS), x = some (.inl k, (σ, w)) ∧ y = some (.inl r, τ) ∧ F_X7_thrown τ = k ∧ (k = 0 → ok w r) ∧ Inv σ τ
def AgV (Inv : DS → MS → Prop) (x : Res DS Int32) (y : Res MS Int32) : Prop := ∃ (σ : DS) (r : Int32) (τ : MS), x = some (.inl r, σ) ∧ y = some (.inl r, τ) ∧ Inv σ τ
def nz (x : Int32) : Int32 := if x = 0 then 0 else 1
/-- what the tables say of a static method with handlers -/
def MDh (d : MD) (hh : HH) (n : Nat) : Prop := Cond.static d.1 ∈ BIG ∧ Cond.initialized d.1.cls ∈ BIG ∧ Cond.codeWith d.1 d.2.1 d.2.2.1 d.2.2.2 hh ∈ BIG ∧ (d.1.cls ≠ "java/lang/invoke/MethodHandle" ∧ d.1.cls ≠ "java/lang/invoke/VarHandle" ∧ (parseMethodDescriptor d.1.desc).map (fun d => d.parameters.length) = some n)
theorem MDh.good {d : MD} {hh : HH} {own : String} {n idx : Nat} (h : MDh d hh n) (hl : Cond.methodLink own idx d.1 ∈ BIG) : GoodIn BIG (va_wsS own idx d.1 (Cond.codeWith d.1 d.2.1 d.2.2.1 d.2.2.2 hh :: BIG)) := by
  intro w hw
  refine ⟨?_, BIG_good w ?_⟩ <;>
  · rcases List.mem_append.mp hw with hw | hw
    · simp only [List.mem_cons, List.not_mem_nil, or_false] at hw
      rcases hw with rfl | rfl | rfl
      · exact hl
      · exact h.1
      · exact h.2.1
    · rcases List.mem_cons.mp hw with rfl | hw
      · exact h.2.2.1
      · exact hw
section LAWR
variable {p : Program} {l : Launch} {e : Env} {R : Room} {s : State} {m : MethodId} {args : Array Value} {below : List Frame} {meth : Method} {c : Code} {g : Gy} {A : Nat → Prop} {own : String} {cc : ByteArray} {nL : Nat} {cells slots : Nat} {Q : State → Prop} {pc : Nat} {lv : List (Nat × Value)} {st rest : List Value} {h : va_W}
theorem J.sld (C : Cx p l s m args meth c g A own cc nL) {b L : Nat} {xs : Nat → Int32} (hX : va_X b L xs s s.heap) (hbl : b < s.heap.size) (hbA : ¬ A b) {i : Int32} (hin : vp_in i L) (d : decode cc pc = .ok (.iaload, 1)) (k : J p l e R s m args below meth c g A nL cells slots Q (pc + 1) lv (.int (xs i.toNatClampNeg) :: rest) h) : J p l e R s m args below meth c g A nL cells slots Q pc lv (.int i :: .ref b :: rest) h := fun H locs ls hP hD hS hl => va_sld C.1 C.2.1 hX hbl hbA hS hin d (k H locs ls hP hD hS hl)
theorem J.slen (C : Cx p l s m args meth c g A own cc nL) {b L : Nat} {xs : Nat → Int32} (hX : va_X b L xs s s.heap) (hbl : b < s.heap.size) (hbA : ¬ A b) (d : decode cc pc = .ok (.arraylength, 1)) (k : J p l e R s m args below meth c g A nL cells slots Q (pc + 1) lv (.int (nI L) :: rest) h) : J p l e R s m args below meth c g A nL cells slots Q pc lv (.ref b :: rest) h := fun H locs ls hP hD hS hl => va_slen C.1 C.2.1 hX hbl hbA hS d (k H locs ls hP hD hS hl)
theorem J.fcmp (C : Cx p l s m args meth c g A own cc nL) {x y : UInt32} {op : CmpOp} (d : decode cc pc = .ok (.fcmp op, 1)) (k : J p l e R s m args below meth c g A nL cells slots Q (pc + 1) lv (.int (Op.cmpValue (FP.fcmp x y) op) :: rest) h) : J p l e R s m args below meth c g A nL cells slots Q pc lv (.float y :: .float x :: rest) h := fun H locs ls hP hD hS hl => lv_fcmp C.1 C.2.1 d (k H locs ls hP hD hS hl)
/-- 'x != 0' as a number -/
theorem J.nzR (C : Cx p l s m args meth c g A own cc nL) {x : Int32} {k1 k2 : Int} {o1 o2 : Int} {t1 t2 : Nat} (d0 : decode cc pc = .ok (.ifCond .eq o1, 3)) (ht1 : (pc : Int) + o1 = (t1 : Int)) (d1 : decode cc (pc + 3) = .ok (.iconst k1, 1)) (e1 : Int32.ofInt k1 = 1) (d2 : decode cc (pc + 3 + 1) = .ok (.goto o2, 3)) (ht2 : ((pc + 3 + 1 : Nat) : Int) + o2 = (t2 : Int)) (d3 : decode cc t1 = .ok (.iconst k2, 1)) (e2 : Int32.ofInt k2 = 0) (e3 : t1 + 1 = t2) (k : J p l e R s m args below meth c g A nL cells slots Q t2 lv (.int (nz x) :: rest) h) : J p l e R s m args below meth c g A nL cells slots Q pc lv (.int x :: rest) h := by
  refine J.if_eq C d0 ht1 (fun c9 => ?_) (fun c9 => ?_)
  · refine J.iconst C 0 d3 e2 ?_
    rw [e3]
    have k := k
    rw [show nz x = 0 from if_pos c9] at k
    exact k
  · refine J.iconst C 1 d1 e1 ?_
    refine J.goto C d2 ht2 ?_
    have k := k
    rw [show nz x = 1 from if_neg c9] at k
    exact k
theorem J.nzL (C : Cx p l s m args meth c g A own cc nL) {x : Int32} {o1 o2 : Int} {t1 t2 : Nat} (d0 : decode cc pc = .ok (.ifCond .eq o1, 3)) (ht1 : (pc : Int) + o1 = (t1 : Int)) (d1 : decode cc (pc + 3) = .ok (.lconst 1, 1)) (d2 : decode cc (pc + 3 + 1) = .ok (.goto o2, 3)) (ht2 : ((pc + 3 + 1 : Nat) : Int) + o2 = (t2 : Int)) (d3 : decode cc t1 = .ok (.lconst 0, 1)) (e3 : t1 + 1 = t2) (k : J p l e R s m args below meth c g A nL cells slots Q t2 lv (.long (if x = 0 then 0 else 1) :: rest) h) : J p l e R s m args below meth c g A nL cells slots Q pc lv (.int x :: rest) h := by
  refine J.if_eq C d0 ht1 (fun c9 => ?_) (fun c9 => ?_)
  · refine J.lconst C 0 d3 rfl ?_
    rw [e3]
    have k := k
    rw [if_pos c9] at k
    exact k
  · refine J.lconst C 1 d1 rfl ?_
    refine J.goto C d2 ht2 ?_
    have k := k
    rw [if_neg c9] at k
    exact k
/-- a call of a static method with handlers, that throws nothing -/
theorem J.callSH {ρ : Type} {mk : ρ → Option Value} {post : ρ → va_W → Prop} {d : MD} {hh : HH} {lev mc ms n idx : Nat} {as : List Value}
    (C : Cx p l s m args meth c g A own cc nL) (sp : SpH l d hh lev mc ms mk g as h post (fun _ _ => False)) (hst : st = as.reverse ++ rest) (hl : Cond.methodLink own idx d.1 ∈ BIG) (hd : MDh d hh n) (hR : lev + 1 ≤ R.frames ∧ 8 + (d.2.2.1 + 11) + 64 * lev ≤ R.locals)
    (hn : as.length = n) (hW : (rest.map fun v => v.category).sum ≤ 8) (hdg : decode cc pc = .ok (.invokestatic idx, 3)) (hf : cells + mc ≤ R.cells ∧ slots + ms ≤ R.slots)
    (kk : ∀ (r : ρ) (u : va_W), post r u → J p l e R s m args below meth c g A nL (cells + mc) (slots + ms) Q (pc + 3) lv ((mk r).toList ++ rest) u) : J p l e R s m args below meth c g A nL cells slots Q pc lv st h := by
  subst hst
  exact J.run C (fun H locs ls hP hD hS hlv => vx_runSX (bytes := d.2.1) (maxL := d.2.2.1) (ret := d.2.2.2) ⟨C.1, C.2.1, C.2.2.1, C.2.2.2.1, C.2.2.2.2.1⟩ (sp H.size) (vx_cwSW n C.2.2.2.2.1 (hd.good hl) rfl rfl rfl hd.2.2.2 hR) (C.start hP hD hS) rfl hn hlv.1 rfl (lv_room hW) hdg hf) (fun _ _ hx => hx.elim) kk
/-- a call of a method whose pure text comes to an answer -/
theorem J.callVR {S ρ : Type} {mk : ρ → Option Value} {hp : S → va_W} {d : MD} {lev mc ms n idx ci q0 N b0 : Nat} {Cn : String} {T : u_T} {fs as : List Value} (C : Cx p l s m args meth c g A own cc nL) {σ σ' : S} {r : ρ} {x : Res S ρ} (hh : h = hp σ) (sp : SpR l d lev mc ms mk g (.ref b0 :: as) hp σ x) (hx : x = some (.inl r, σ')) (hst : st = as.reverse ++ .ref b0 :: rest) (hl : Cond.methodLink own idx d.1 ∈ BIG) (hd : MDv d Cn n) (hR : lev + 1 ≤ R.frames ∧ 8 + (d.2.2.1 + 11) + 64 * lev ≤ R.locals) (he : h[q0]? = some (b0, .inr (ci, fs))) (hc : vwCl[ci]? = some (Cn, T, N)) (hn : as.length = n) (hW : (rest.map fun v => v.category).sum ≤ 8) (hdg : decode cc pc = .ok (.invokevirtual idx, 3)) (hf : cells + mc ≤ R.cells ∧ slots + ms ≤ R.slots)
    (kk : J p l e R s m args below meth c g A nL (cells + mc) (slots + ms) Q (pc + 3) lv ((mk r).toList ++ rest) (hp σ')) : J p l e R s m args below meth c g A nL cells slots Q pc lv st h := by
  subst hh
  refine J.callV C (sp _ hx) hst hl hd hR he hc hn hW hdg hf (fun E u hu => ?_) (fun r u hu => ?_)
  · exact absurd hu.1 (by intro q; cases q)
  · obtain ⟨h1, h2⟩ := hu
    dsimp only at h1 h2
    cases h1
    subst h2
    exact kk
end LAWR
theorem mdL_letter : MDh mL_letter hL_letter 3 := ⟨kSt_L_letter, kIn_L, kCw_L_letter, by decide +kernel⟩
theorem mdL_falsum : MDh mL_falsum hL_falsum 2 := ⟨kSt_L_falsum, kIn_L, kCw_L_falsum, by decide +kernel⟩
theorem mdL_negation : MDh mL_negation hL_negation 3 := ⟨kSt_L_negation, kIn_L, kCw_L_negation, by decide +kernel⟩
theorem mdL_conjunction : MDh mL_conjunction hL_conjunction 4 := ⟨kSt_L_conjunction, kIn_L, kCw_L_conjunction, by decide +kernel⟩
theorem mdL_disjunction : MDh mL_disjunction hL_disjunction 4 := ⟨kSt_L_disjunction, kIn_L, kCw_L_disjunction, by decide +kernel⟩
theorem mdL_implication : MDh mL_implication hL_implication 4 := ⟨kSt_L_implication, kIn_L, kCw_L_implication, by decide +kernel⟩
theorem mdL_sizeOf : MDh mL_sizeOf hL_sizeOf 3 := ⟨kSt_L_sizeOf, kIn_L, kCw_L_sizeOf, by decide +kernel⟩
theorem mdL_symbolAt : MDh mL_symbolAt hL_symbolAt 4 := ⟨kSt_L_symbolAt, kIn_L, kCw_L_symbolAt, by decide +kernel⟩
theorem mdL_bind : MDh mL_bind hL_bind 4 := ⟨kSt_L_bind, kIn_L, kCw_L_bind, by decide +kernel⟩
theorem mdL_premise : MDh mL_premise hL_premise 3 := ⟨kSt_L_premise, kIn_L, kCw_L_premise, by decide +kernel⟩
theorem mdL_assume : MDh mL_assume hL_assume 3 := ⟨kSt_L_assume, kIn_L, kCw_L_assume, by decide +kernel⟩
theorem mdL_closeBox : MDh mL_closeBox hL_closeBox 2 := ⟨kSt_L_closeBox, kIn_L, kCw_L_closeBox, by decide +kernel⟩
theorem mdL_repeat : MDh mL_repeat hL_repeat 3 := ⟨kSt_L_repeat, kIn_L, kCw_L_repeat, by decide +kernel⟩
theorem mdL_makeConjunction : MDh mL_makeConjunction hL_makeConjunction 4 := ⟨kSt_L_makeConjunction, kIn_L, kCw_L_makeConjunction, by decide +kernel⟩
theorem mdL_useConjunction : MDh mL_useConjunction hL_useConjunction 4 := ⟨kSt_L_useConjunction, kIn_L, kCw_L_useConjunction, by decide +kernel⟩
theorem mdL_makeDisjunction : MDh mL_makeDisjunction hL_makeDisjunction 5 := ⟨kSt_L_makeDisjunction, kIn_L, kCw_L_makeDisjunction, by decide +kernel⟩
theorem mdL_useDisjunction : MDh mL_useDisjunction hL_useDisjunction 5 := ⟨kSt_L_useDisjunction, kIn_L, kCw_L_useDisjunction, by decide +kernel⟩
theorem mdL_makeImplication : MDh mL_makeImplication hL_makeImplication 3 := ⟨kSt_L_makeImplication, kIn_L, kCw_L_makeImplication, by decide +kernel⟩
theorem mdL_useImplication : MDh mL_useImplication hL_useImplication 4 := ⟨kSt_L_useImplication, kIn_L, kCw_L_useImplication, by decide +kernel⟩
theorem mdL_makeNegation : MDh mL_makeNegation hL_makeNegation 3 := ⟨kSt_L_makeNegation, kIn_L, kCw_L_makeNegation, by decide +kernel⟩
theorem mdL_useNegation : MDh mL_useNegation hL_useNegation 4 := ⟨kSt_L_useNegation, kIn_L, kCw_L_useNegation, by decide +kernel⟩
theorem mdL_fromFalsum : MDh mL_fromFalsum hL_fromFalsum 4 := ⟨kSt_L_fromFalsum, kIn_L, kCw_L_fromFalsum, by decide +kernel⟩
theorem mdL_doubleNegation : MDh mL_doubleNegation hL_doubleNegation 3 := ⟨kSt_L_doubleNegation, kIn_L, kCw_L_doubleNegation, by decide +kernel⟩
theorem mdL_keepLemma : MDh mL_keepLemma hL_keepLemma 2 := ⟨kSt_L_keepLemma, kIn_L, kCw_L_keepLemma, by decide +kernel⟩
theorem mdL_useLemma : MDh mL_useLemma hL_useLemma 5 := ⟨kSt_L_useLemma, kIn_L, kCw_L_useLemma, by decide +kernel⟩
theorem mdL_conclusionOf : MDh mL_conclusionOf hL_conclusionOf 3 := ⟨kSt_L_conclusionOf, kIn_L, kCw_L_conclusionOf, by decide +kernel⟩
theorem mdL_formulaOf : MDh mL_formulaOf hL_formulaOf 3 := ⟨kSt_L_formulaOf, kIn_L, kCw_L_formulaOf, by decide +kernel⟩
theorem mdL_ruleOf : MDh mL_ruleOf hL_ruleOf 3 := ⟨kSt_L_ruleOf, kIn_L, kCw_L_ruleOf, by decide +kernel⟩
theorem mdL_depthOf : MDh mL_depthOf hL_depthOf 3 := ⟨kSt_L_depthOf, kIn_L, kCw_L_depthOf, by decide +kernel⟩
theorem mdL_canCite : MDh mL_canCite hL_canCite 3 := ⟨kSt_L_canCite, kIn_L, kCw_L_canCite, by decide +kernel⟩
theorem mdL_canCiteBox : MDh mL_canCiteBox hL_canCiteBox 3 := ⟨kSt_L_canCiteBox, kIn_L, kCw_L_canCiteBox, by decide +kernel⟩
theorem mdL_resultOf : MDh mL_resultOf hL_resultOf 3 := ⟨kSt_L_resultOf, kIn_L, kCw_L_resultOf, by decide +kernel⟩
theorem mdL_needed : MDh mL_needed hL_needed 2 := ⟨kSt_L_needed, kIn_L, kCw_L_needed, by decide +kernel⟩
theorem mdL_distance : MDh mL_distance hL_distance 3 := ⟨kSt_L_distance, kIn_L, kCw_L_distance, by decide +kernel⟩
theorem mdL_distanceByRounds : MDh mL_distanceByRounds hL_distanceByRounds 3 := ⟨kSt_L_distanceByRounds, kIn_L, kCw_L_distanceByRounds, by decide +kernel⟩
theorem mdL_normalStep : MDh mL_normalStep hL_normalStep 3 := ⟨kSt_L_normalStep, kIn_L, kCw_L_normalStep, by decide +kernel⟩
theorem mdL_normalSteps : MDh mL_normalSteps hL_normalSteps 3 := ⟨kSt_L_normalSteps, kIn_L, kCw_L_normalSteps, by decide +kernel⟩
theorem mdL_normalForm : MDh mL_normalForm hL_normalForm 3 := ⟨kSt_L_normalForm, kIn_L, kCw_L_normalForm, by decide +kernel⟩
theorem mdL_models : MDh mL_models hL_models 3 := ⟨kSt_L_models, kIn_L, kCw_L_models, by decide +kernel⟩
theorem mdL_modelsByRows : MDh mL_modelsByRows hL_modelsByRows 3 := ⟨kSt_L_modelsByRows, kIn_L, kCw_L_modelsByRows, by decide +kernel⟩
theorem mdL_follows : MDh mL_follows hL_follows 3 := ⟨kSt_L_follows, kIn_L, kCw_L_follows, by decide +kernel⟩
theorem mdL_isSound : MDh mL_isSound hL_isSound 3 := ⟨kSt_L_isSound, kIn_L, kCw_L_isSound, by decide +kernel⟩
theorem mdL_share : MDh mL_share hL_share 3 := ⟨kSt_L_share, kIn_L, kCw_L_share, by decide +kernel⟩
theorem mdL_meanSize : MDh mL_meanSize hL_meanSize 2 := ⟨kSt_L_meanSize, kIn_L, kCw_L_meanSize, by decide +kernel⟩
set_option maxRecDepth 100000 in
theorem case_0 {p : Program} {l : Launch} (hl : l.stackTraces = false) {e : Env} {s : State} {m : MethodId} {args : Array Value} {below : List Frame} {meth : Method} {c : Code} {g : Gy} {A : Nat → Prop} {Q : State → Prop} {cells slots b L o1 o2 : Nat} {xs : Nat → Int32} {ad bd : Nat → Nat} {i : Int32} {σ : DS} {τ : MS} {w : OS} {Inv : DS → MS → Prop} (C : Cx p l s m args meth c g A RL cL_law 9) (hX : va_X b L xs s s.heap) (hbl : b < s.heap.size) (hbA : ¬ A b) (hf : cells + 10 ≤ room_1.cells ∧ slots + 60 ≤ room_1.slots) (h1 : vp_in (i + 1) L) (HA : AgW okI Inv (W_L_letter σ w (xs (i + 1).toNatClampNeg)) (P_X7_letter τ (xs (i + 1).toNatClampNeg)))
    (kk : ∀ (σ' : DS) (τ' : MS) (w' : OS), Inv σ' τ' → J p l e room_1 s m args below meth c g A 9 (cells + 10) (slots + 60) Q 3020 [(0, .ref b), (1, .ref (ad 0)), (2, .ref (bd 0)), (3, .ref o1), (4, .ref o2), (5, .int i)] [] (lz g ad bd o1 o2 σ' τ' w')) : J p l e room_1 s m args below meth c g A 9 cells slots Q 256 [(0, .ref b), (1, .ref (ad 0)), (2, .ref (bd 0)), (3, .ref o1), (4, .ref o2), (5, .int i)] [] (lz g ad bd o1 o2 σ τ w) := by
  refine J.aload_n (i := 1) C dL_law_256 rfl rfl ?_
  refine J.aload_n (i := 0) C dL_law_257 rfl rfl ?_
  refine J.iload C dL_law_258 rfl ?_
  refine J.iconst C 1 dL_law_260 (by decide) ?_
  refine J.iadd C dL_law_261 ?_
  refine J.sld C hX hbl hbA h1 dL_law_262 ?_
  refine J.aload_n (i := 3) C dL_law_263 rfl rfl ?_
  obtain ⟨k, σ1, w1, r, τ1, hx, hy, hth, hok, hI⟩ := HA
  refine J.callSH C (sp_L_letter hl σ w _ (.inl k, (σ1, w1)) hx) rfl kMl_L_168 mdL_letter ⟨(Nat.le_of_ble_eq_true rfl), (Nat.le_of_ble_eq_true rfl)⟩ rfl (Nat.le_of_ble_eq_true rfl) dL_law_264 ⟨Nat.le_trans (Nat.add_le_add_left (Nat.le_of_ble_eq_true rfl : 2 ≤ 10) _) hf.1, Nat.le_trans (Nat.add_le_add_left (Nat.le_of_ble_eq_true rfl : 12 ≤ 60) _) hf.2⟩ (fun r9 u hu => ?_)
  obtain ⟨hu1, rfl⟩ := hu
  cases hu1
  refine J.istore C dL_law_267 (by decide) ?_
  refine J.lw (lv' := [(0, .ref b), (1, .ref (ad 0)), (2, .ref (bd 0)), (3, .ref o1), (4, .ref o2), (5, .int i), (6, .int k)]) ⟨rfl, rfl, rfl, rfl, rfl, rfl, rfl, trivial⟩ ?_
  refine J.aload_n (i := 2) C dL_law_269 rfl rfl ?_
  refine J.aload_n (i := 0) C dL_law_270 rfl rfl ?_
  refine J.iload C dL_law_271 rfl ?_
  refine J.iconst C 1 dL_law_273 (by decide) ?_
  refine J.iadd C dL_law_274 ?_
  refine J.sld C hX hbl hbA h1 dL_law_275 ?_
  refine J.heq lz_mk ?_
  refine J.callVR (hp := mkh g bd (dk g ad σ1) (outs g o1 o2 w1)) C rfl (sp_X7_letter hl _) hy rfl kMl_L_173 mdX7_letter ⟨(Nat.le_of_ble_eq_true rfl), (Nat.le_of_ble_eq_true rfl)⟩ mk_0 rfl rfl (Nat.le_of_ble_eq_true rfl) dL_law_276 ⟨Nat.le_trans (Nat.add_le_add_left (Nat.le_of_ble_eq_true rfl : 2 + 0 ≤ 10) _) hf.1, Nat.le_trans (Nat.add_le_add_left (Nat.le_of_ble_eq_true rfl : 12 + 0 ≤ 60) _) hf.2⟩ ?_
  refine J.istore C dL_law_279 (by decide) ?_
  refine J.lw (lv' := [(0, .ref b), (1, .ref (ad 0)), (2, .ref (bd 0)), (3, .ref o1), (4, .ref o2), (5, .int i), (6, .int k), (7, .int r)]) ⟨rfl, rfl, rfl, rfl, rfl, rfl, rfl, rfl, trivial⟩ ?_
  refine J.aload_n (i := 2) C dL_law_281 rfl rfl ?_
  refine J.callVI C (sp_X7_thrown hl) rfl kMl_L_174 mdX7_thrown ⟨(Nat.le_of_ble_eq_true rfl), (Nat.le_of_ble_eq_true rfl)⟩ mk_0 rfl rfl (Nat.le_of_ble_eq_true rfl) dL_law_282 ⟨Nat.le_trans (Nat.add_le_add_left (Nat.le_of_ble_eq_true rfl : 2 + 0 + 0 ≤ 10) _) hf.1, Nat.le_trans (Nat.add_le_add_left (Nat.le_of_ble_eq_true rfl : 12 + 0 + 0 ≤ 60) _) hf.2⟩ ?_
  refine J.heq lz_mk.symm ?_
  refine J.widen (k := cells + 10) (n := slots + 60) (Nat.add_le_add_left (Nat.le_of_ble_eq_true rfl : 2 + 0 + 0 ≤ 10) _) (Nat.add_le_add_left (Nat.le_of_ble_eq_true rfl : 12 + 0 + 0 ≤ 60) _) ?_
  refine J.iload C dL_law_285 rfl ?_
  refine J.icmp_eq (tgt := 292) C dL_law_287 (by decide) (fun _ => ?_) (fun c9 => absurd hth c9)
  refine J.iload C dL_law_292 rfl ?_
  refine J.if_ne (tgt := 309) C dL_law_294 (by decide) (fun _ => ?_) (fun hk => ?_)
  · refine J.goto (tgt := 3020) C dL_law_309 (by decide) ?_
    exact J.lw (lv' := [(0, .ref b), (1, .ref (ad 0)), (2, .ref (bd 0)), (3, .ref o1), (4, .ref o2), (5, .int i)]) ⟨rfl, rfl, rfl, rfl, rfl, rfl, trivial⟩ (kk _ _ _ hI)
  · have hok := hok hk
    refine J.aload_n (i := 3) C dL_law_297 rfl rfl ?_
    refine J.iconst C 0 dL_law_298 (by decide) ?_
    refine J.lald C (66 + ((R9 g bd τ1).length + 0)) lw_0 (show vp_in 0 1 by unfold vp_in; decide) dL_law_299 ?_
    refine J.iload C dL_law_300 rfl ?_
    refine J.i2l C dL_law_302 ?_
    refine J.lcmp C dL_law_303 ?_
    refine J.if_eq (tgt := 309) C dL_law_304 (by decide) (fun _ => ?_) (fun c9 => absurd ((lg_cmp_eq _ _).mpr hok) c9)
    refine J.goto (tgt := 3020) C dL_law_309 (by decide) ?_
    exact J.lw (lv' := [(0, .ref b), (1, .ref (ad 0)), (2, .ref (bd 0)), (3, .ref o1), (4, .ref o2), (5, .int i)]) ⟨rfl, rfl, rfl, rfl, rfl, rfl, trivial⟩ (kk _ _ _ hI)
set_option maxRecDepth 100000 in
theorem case_1 {p : Program} {l : Launch} (hl : l.stackTraces = false) {e : Env} {s : State} {m : MethodId} {args : Array Value} {below : List Frame} {meth : Method} {c : Code} {g : Gy} {A : Nat → Prop} {Q : State → Prop} {cells slots b L o1 o2 : Nat} {xs : Nat → Int32} {ad bd : Nat → Nat} {i : Int32} {σ : DS} {τ : MS} {w : OS} {Inv : DS → MS → Prop} (C : Cx p l s m args meth c g A RL cL_law 9) (hX : va_X b L xs s s.heap) (hbl : b < s.heap.size) (hbA : ¬ A b) (hf : cells + 10 ≤ room_1.cells ∧ slots + 60 ≤ room_1.slots) (HA : AgW okI Inv (W_L_falsum σ w ) (P_X7_falsum τ ))
    (kk : ∀ (σ' : DS) (τ' : MS) (w' : OS), Inv σ' τ' → J p l e room_1 s m args below meth c g A 9 (cells + 10) (slots + 60) Q 3020 [(0, .ref b), (1, .ref (ad 0)), (2, .ref (bd 0)), (3, .ref o1), (4, .ref o2), (5, .int i)] [] (lz g ad bd o1 o2 σ' τ' w')) : J p l e room_1 s m args below meth c g A 9 cells slots Q 312 [(0, .ref b), (1, .ref (ad 0)), (2, .ref (bd 0)), (3, .ref o1), (4, .ref o2), (5, .int i)] [] (lz g ad bd o1 o2 σ τ w) := by
  refine J.aload_n (i := 1) C dL_law_312 rfl rfl ?_
  refine J.aload_n (i := 3) C dL_law_313 rfl rfl ?_
  obtain ⟨k, σ1, w1, r, τ1, hx, hy, hth, hok, hI⟩ := HA
  refine J.callSH C (sp_L_falsum hl σ w  (.inl k, (σ1, w1)) hx) rfl kMl_L_177 mdL_falsum ⟨(Nat.le_of_ble_eq_true rfl), (Nat.le_of_ble_eq_true rfl)⟩ rfl (Nat.le_of_ble_eq_true rfl) dL_law_314 ⟨Nat.le_trans (Nat.add_le_add_left (Nat.le_of_ble_eq_true rfl : 1 ≤ 10) _) hf.1, Nat.le_trans (Nat.add_le_add_left (Nat.le_of_ble_eq_true rfl : 6 ≤ 60) _) hf.2⟩ (fun r9 u hu => ?_)
  obtain ⟨hu1, rfl⟩ := hu
  cases hu1
  refine J.istore C dL_law_317 (by decide) ?_
  refine J.lw (lv' := [(0, .ref b), (1, .ref (ad 0)), (2, .ref (bd 0)), (3, .ref o1), (4, .ref o2), (5, .int i), (6, .int k)]) ⟨rfl, rfl, rfl, rfl, rfl, rfl, rfl, trivial⟩ ?_
  refine J.aload_n (i := 2) C dL_law_319 rfl rfl ?_
  refine J.heq lz_mk ?_
  refine J.callVR (hp := mkh g bd (dk g ad σ1) (outs g o1 o2 w1)) C rfl (sp_X7_falsum hl ) hy rfl kMl_L_180 mdX7_falsum ⟨(Nat.le_of_ble_eq_true rfl), (Nat.le_of_ble_eq_true rfl)⟩ mk_0 rfl rfl (Nat.le_of_ble_eq_true rfl) dL_law_320 ⟨Nat.le_trans (Nat.add_le_add_left (Nat.le_of_ble_eq_true rfl : 1 + 0 ≤ 10) _) hf.1, Nat.le_trans (Nat.add_le_add_left (Nat.le_of_ble_eq_true rfl : 6 + 0 ≤ 60) _) hf.2⟩ ?_
  refine J.istore C dL_law_323 (by decide) ?_
  refine J.lw (lv' := [(0, .ref b), (1, .ref (ad 0)), (2, .ref (bd 0)), (3, .ref o1), (4, .ref o2), (5, .int i), (6, .int k), (7, .int r)]) ⟨rfl, rfl, rfl, rfl, rfl, rfl, rfl, rfl, trivial⟩ ?_
  refine J.aload_n (i := 2) C dL_law_325 rfl rfl ?_
  refine J.callVI C (sp_X7_thrown hl) rfl kMl_L_174 mdX7_thrown ⟨(Nat.le_of_ble_eq_true rfl), (Nat.le_of_ble_eq_true rfl)⟩ mk_0 rfl rfl (Nat.le_of_ble_eq_true rfl) dL_law_326 ⟨Nat.le_trans (Nat.add_le_add_left (Nat.le_of_ble_eq_true rfl : 1 + 0 + 0 ≤ 10) _) hf.1, Nat.le_trans (Nat.add_le_add_left (Nat.le_of_ble_eq_true rfl : 6 + 0 + 0 ≤ 60) _) hf.2⟩ ?_
  refine J.heq lz_mk.symm ?_
  refine J.widen (k := cells + 10) (n := slots + 60) (Nat.add_le_add_left (Nat.le_of_ble_eq_true rfl : 1 + 0 + 0 ≤ 10) _) (Nat.add_le_add_left (Nat.le_of_ble_eq_true rfl : 6 + 0 + 0 ≤ 60) _) ?_
  refine J.iload C dL_law_329 rfl ?_
  refine J.icmp_eq (tgt := 336) C dL_law_331 (by decide) (fun _ => ?_) (fun c9 => absurd hth c9)
  refine J.iload C dL_law_336 rfl ?_
  refine J.if_ne (tgt := 353) C dL_law_338 (by decide) (fun _ => ?_) (fun hk => ?_)
  · refine J.goto (tgt := 3020) C dL_law_353 (by decide) ?_
    exact J.lw (lv' := [(0, .ref b), (1, .ref (ad 0)), (2, .ref (bd 0)), (3, .ref o1), (4, .ref o2), (5, .int i)]) ⟨rfl, rfl, rfl, rfl, rfl, rfl, trivial⟩ (kk _ _ _ hI)
  · have hok := hok hk
    refine J.aload_n (i := 3) C dL_law_341 rfl rfl ?_
    refine J.iconst C 0 dL_law_342 (by decide) ?_
    refine J.lald C (66 + ((R9 g bd τ1).length + 0)) lw_0 (show vp_in 0 1 by unfold vp_in; decide) dL_law_343 ?_
    refine J.iload C dL_law_344 rfl ?_
    refine J.i2l C dL_law_346 ?_
    refine J.lcmp C dL_law_347 ?_
    refine J.if_eq (tgt := 353) C dL_law_348 (by decide) (fun _ => ?_) (fun c9 => absurd ((lg_cmp_eq _ _).mpr hok) c9)
    refine J.goto (tgt := 3020) C dL_law_353 (by decide) ?_
    exact J.lw (lv' := [(0, .ref b), (1, .ref (ad 0)), (2, .ref (bd 0)), (3, .ref o1), (4, .ref o2), (5, .int i)]) ⟨rfl, rfl, rfl, rfl, rfl, rfl, trivial⟩ (kk _ _ _ hI)
set_option maxRecDepth 100000 in
theorem case_2 {p : Program} {l : Launch} (hl : l.stackTraces = false) {e : Env} {s : State} {m : MethodId} {args : Array Value} {below : List Frame} {meth : Method} {c : Code} {g : Gy} {A : Nat → Prop} {Q : State → Prop} {cells slots b L o1 o2 : Nat} {xs : Nat → Int32} {ad bd : Nat → Nat} {i : Int32} {σ : DS} {τ : MS} {w : OS} {Inv : DS → MS → Prop} (C : Cx p l s m args meth c g A RL cL_law 9) (hX : va_X b L xs s s.heap) (hbl : b < s.heap.size) (hbA : ¬ A b) (hf : cells + 10 ≤ room_1.cells ∧ slots + 60 ≤ room_1.slots) (h1 : vp_in (i + 1) L) (HA : AgW okI Inv (W_L_negation σ w (xs (i + 1).toNatClampNeg)) (P_X7_negation τ (xs (i + 1).toNatClampNeg)))
    (kk : ∀ (σ' : DS) (τ' : MS) (w' : OS), Inv σ' τ' → J p l e room_1 s m args below meth c g A 9 (cells + 10) (slots + 60) Q 3020 [(0, .ref b), (1, .ref (ad 0)), (2, .ref (bd 0)), (3, .ref o1), (4, .ref o2), (5, .int i)] [] (lz g ad bd o1 o2 σ' τ' w')) : J p l e room_1 s m args below meth c g A 9 cells slots Q 356 [(0, .ref b), (1, .ref (ad 0)), (2, .ref (bd 0)), (3, .ref o1), (4, .ref o2), (5, .int i)] [] (lz g ad bd o1 o2 σ τ w) := by
  refine J.aload_n (i := 1) C dL_law_356 rfl rfl ?_
  refine J.aload_n (i := 0) C dL_law_357 rfl rfl ?_
  refine J.iload C dL_law_358 rfl ?_
  refine J.iconst C 1 dL_law_360 (by decide) ?_
  refine J.iadd C dL_law_361 ?_
  refine J.sld C hX hbl hbA h1 dL_law_362 ?_
  refine J.aload_n (i := 3) C dL_law_363 rfl rfl ?_
  obtain ⟨k, σ1, w1, r, τ1, hx, hy, hth, hok, hI⟩ := HA
  refine J.callSH C (sp_L_negation hl σ w _ (.inl k, (σ1, w1)) hx) rfl kMl_L_181 mdL_negation ⟨(Nat.le_of_ble_eq_true rfl), (Nat.le_of_ble_eq_true rfl)⟩ rfl (Nat.le_of_ble_eq_true rfl) dL_law_364 ⟨Nat.le_trans (Nat.add_le_add_left (Nat.le_of_ble_eq_true rfl : 2 ≤ 10) _) hf.1, Nat.le_trans (Nat.add_le_add_left (Nat.le_of_ble_eq_true rfl : 12 ≤ 60) _) hf.2⟩ (fun r9 u hu => ?_)
  obtain ⟨hu1, rfl⟩ := hu
  cases hu1
  refine J.istore C dL_law_367 (by decide) ?_
  refine J.lw (lv' := [(0, .ref b), (1, .ref (ad 0)), (2, .ref (bd 0)), (3, .ref o1), (4, .ref o2), (5, .int i), (6, .int k)]) ⟨rfl, rfl, rfl, rfl, rfl, rfl, rfl, trivial⟩ ?_
  refine J.aload_n (i := 2) C dL_law_369 rfl rfl ?_
  refine J.aload_n (i := 0) C dL_law_370 rfl rfl ?_
  refine J.iload C dL_law_371 rfl ?_
  refine J.iconst C 1 dL_law_373 (by decide) ?_
  refine J.iadd C dL_law_374 ?_
  refine J.sld C hX hbl hbA h1 dL_law_375 ?_
  refine J.heq lz_mk ?_
  refine J.callVR (hp := mkh g bd (dk g ad σ1) (outs g o1 o2 w1)) C rfl (sp_X7_negation hl _) hy rfl kMl_L_183 mdX7_negation ⟨(Nat.le_of_ble_eq_true rfl), (Nat.le_of_ble_eq_true rfl)⟩ mk_0 rfl rfl (Nat.le_of_ble_eq_true rfl) dL_law_376 ⟨Nat.le_trans (Nat.add_le_add_left (Nat.le_of_ble_eq_true rfl : 2 + 0 ≤ 10) _) hf.1, Nat.le_trans (Nat.add_le_add_left (Nat.le_of_ble_eq_true rfl : 12 + 0 ≤ 60) _) hf.2⟩ ?_
  refine J.istore C dL_law_379 (by decide) ?_
  refine J.lw (lv' := [(0, .ref b), (1, .ref (ad 0)), (2, .ref (bd 0)), (3, .ref o1), (4, .ref o2), (5, .int i), (6, .int k), (7, .int r)]) ⟨rfl, rfl, rfl, rfl, rfl, rfl, rfl, rfl, trivial⟩ ?_
  refine J.aload_n (i := 2) C dL_law_381 rfl rfl ?_
  refine J.callVI C (sp_X7_thrown hl) rfl kMl_L_174 mdX7_thrown ⟨(Nat.le_of_ble_eq_true rfl), (Nat.le_of_ble_eq_true rfl)⟩ mk_0 rfl rfl (Nat.le_of_ble_eq_true rfl) dL_law_382 ⟨Nat.le_trans (Nat.add_le_add_left (Nat.le_of_ble_eq_true rfl : 2 + 0 + 0 ≤ 10) _) hf.1, Nat.le_trans (Nat.add_le_add_left (Nat.le_of_ble_eq_true rfl : 12 + 0 + 0 ≤ 60) _) hf.2⟩ ?_
  refine J.heq lz_mk.symm ?_
  refine J.widen (k := cells + 10) (n := slots + 60) (Nat.add_le_add_left (Nat.le_of_ble_eq_true rfl : 2 + 0 + 0 ≤ 10) _) (Nat.add_le_add_left (Nat.le_of_ble_eq_true rfl : 12 + 0 + 0 ≤ 60) _) ?_
  refine J.iload C dL_law_385 rfl ?_
  refine J.icmp_eq (tgt := 392) C dL_law_387 (by decide) (fun _ => ?_) (fun c9 => absurd hth c9)
  refine J.iload C dL_law_392 rfl ?_
  refine J.if_ne (tgt := 409) C dL_law_394 (by decide) (fun _ => ?_) (fun hk => ?_)
  · refine J.goto (tgt := 3020) C dL_law_409 (by decide) ?_
    exact J.lw (lv' := [(0, .ref b), (1, .ref (ad 0)), (2, .ref (bd 0)), (3, .ref o1), (4, .ref o2), (5, .int i)]) ⟨rfl, rfl, rfl, rfl, rfl, rfl, trivial⟩ (kk _ _ _ hI)
  · have hok := hok hk
    refine J.aload_n (i := 3) C dL_law_397 rfl rfl ?_
    refine J.iconst C 0 dL_law_398 (by decide) ?_
    refine J.lald C (66 + ((R9 g bd τ1).length + 0)) lw_0 (show vp_in 0 1 by unfold vp_in; decide) dL_law_399 ?_
    refine J.iload C dL_law_400 rfl ?_
    refine J.i2l C dL_law_402 ?_
    refine J.lcmp C dL_law_403 ?_
    refine J.if_eq (tgt := 409) C dL_law_404 (by decide) (fun _ => ?_) (fun c9 => absurd ((lg_cmp_eq _ _).mpr hok) c9)
    refine J.goto (tgt := 3020) C dL_law_409 (by decide) ?_
    exact J.lw (lv' := [(0, .ref b), (1, .ref (ad 0)), (2, .ref (bd 0)), (3, .ref o1), (4, .ref o2), (5, .int i)]) ⟨rfl, rfl, rfl, rfl, rfl, rfl, trivial⟩ (kk _ _ _ hI)
set_option maxRecDepth 100000 in
theorem case_3 {p : Program} {l : Launch} (hl : l.stackTraces = false) {e : Env} {s : State} {m : MethodId} {args : Array Value} {below : List Frame} {meth : Method} {c : Code} {g : Gy} {A : Nat → Prop} {Q : State → Prop} {cells slots b L o1 o2 : Nat} {xs : Nat → Int32} {ad bd : Nat → Nat} {i : Int32} {σ : DS} {τ : MS} {w : OS} {Inv : DS → MS → Prop} (C : Cx p l s m args meth c g A RL cL_law 9) (hX : va_X b L xs s s.heap) (hbl : b < s.heap.size) (hbA : ¬ A b) (hf : cells + 10 ≤ room_1.cells ∧ slots + 60 ≤ room_1.slots) (h1 : vp_in (i + 1) L) (h2 : vp_in (i + 2) L) (HA : AgW okI Inv (W_L_conjunction σ w (xs (i + 1).toNatClampNeg) (xs (i + 2).toNatClampNeg)) (P_X7_conjunction τ (xs (i + 1).toNatClampNeg) (xs (i + 2).toNatClampNeg)))
    (kk : ∀ (σ' : DS) (τ' : MS) (w' : OS), Inv σ' τ' → J p l e room_1 s m args below meth c g A 9 (cells + 10) (slots + 60) Q 3020 [(0, .ref b), (1, .ref (ad 0)), (2, .ref (bd 0)), (3, .ref o1), (4, .ref o2), (5, .int i)] [] (lz g ad bd o1 o2 σ' τ' w')) : J p l e room_1 s m args below meth c g A 9 cells slots Q 412 [(0, .ref b), (1, .ref (ad 0)), (2, .ref (bd 0)), (3, .ref o1), (4, .ref o2), (5, .int i)] [] (lz g ad bd o1 o2 σ τ w) := by
  refine J.aload_n (i := 1) C dL_law_412 rfl rfl ?_
  refine J.aload_n (i := 0) C dL_law_413 rfl rfl ?_
  refine J.iload C dL_law_414 rfl ?_
  refine J.iconst C 1 dL_law_416 (by decide) ?_
  refine J.iadd C dL_law_417 ?_
  refine J.sld C hX hbl hbA h1 dL_law_418 ?_
  refine J.aload_n (i := 0) C dL_law_419 rfl rfl ?_
  refine J.iload C dL_law_420 rfl ?_
  refine J.iconst C 2 dL_law_422 (by decide) ?_
  refine J.iadd C dL_law_423 ?_
  refine J.sld C hX hbl hbA h2 dL_law_424 ?_
  refine J.aload_n (i := 3) C dL_law_425 rfl rfl ?_
  obtain ⟨k, σ1, w1, r, τ1, hx, hy, hth, hok, hI⟩ := HA
  refine J.callSH C (sp_L_conjunction hl σ w _ _ (.inl k, (σ1, w1)) hx) rfl kMl_L_184 mdL_conjunction ⟨(Nat.le_of_ble_eq_true rfl), (Nat.le_of_ble_eq_true rfl)⟩ rfl (Nat.le_of_ble_eq_true rfl) dL_law_426 ⟨Nat.le_trans (Nat.add_le_add_left (Nat.le_of_ble_eq_true rfl : 3 ≤ 10) _) hf.1, Nat.le_trans (Nat.add_le_add_left (Nat.le_of_ble_eq_true rfl : 18 ≤ 60) _) hf.2⟩ (fun r9 u hu => ?_)
  obtain ⟨hu1, rfl⟩ := hu
  cases hu1
  refine J.istore C dL_law_429 (by decide) ?_
  refine J.lw (lv' := [(0, .ref b), (1, .ref (ad 0)), (2, .ref (bd 0)), (3, .ref o1), (4, .ref o2), (5, .int i), (6, .int k)]) ⟨rfl, rfl, rfl, rfl, rfl, rfl, rfl, trivial⟩ ?_
  refine J.aload_n (i := 2) C dL_law_431 rfl rfl ?_
  refine J.aload_n (i := 0) C dL_law_432 rfl rfl ?_
  refine J.iload C dL_law_433 rfl ?_
  refine J.iconst C 1 dL_law_435 (by decide) ?_
  refine J.iadd C dL_law_436 ?_
  refine J.sld C hX hbl hbA h1 dL_law_437 ?_
  refine J.aload_n (i := 0) C dL_law_438 rfl rfl ?_
  refine J.iload C dL_law_439 rfl ?_
  refine J.iconst C 2 dL_law_441 (by decide) ?_
  refine J.iadd C dL_law_442 ?_
  refine J.sld C hX hbl hbA h2 dL_law_443 ?_
  refine J.heq lz_mk ?_
  refine J.callVR (hp := mkh g bd (dk g ad σ1) (outs g o1 o2 w1)) C rfl (sp_X7_conjunction hl _ _) hy rfl kMl_L_187 mdX7_conjunction ⟨(Nat.le_of_ble_eq_true rfl), (Nat.le_of_ble_eq_true rfl)⟩ mk_0 rfl rfl (Nat.le_of_ble_eq_true rfl) dL_law_444 ⟨Nat.le_trans (Nat.add_le_add_left (Nat.le_of_ble_eq_true rfl : 3 + 0 ≤ 10) _) hf.1, Nat.le_trans (Nat.add_le_add_left (Nat.le_of_ble_eq_true rfl : 18 + 0 ≤ 60) _) hf.2⟩ ?_
  refine J.istore C dL_law_447 (by decide) ?_
  refine J.lw (lv' := [(0, .ref b), (1, .ref (ad 0)), (2, .ref (bd 0)), (3, .ref o1), (4, .ref o2), (5, .int i), (6, .int k), (7, .int r)]) ⟨rfl, rfl, rfl, rfl, rfl, rfl, rfl, rfl, trivial⟩ ?_
  refine J.aload_n (i := 2) C dL_law_449 rfl rfl ?_
  refine J.callVI C (sp_X7_thrown hl) rfl kMl_L_174 mdX7_thrown ⟨(Nat.le_of_ble_eq_true rfl), (Nat.le_of_ble_eq_true rfl)⟩ mk_0 rfl rfl (Nat.le_of_ble_eq_true rfl) dL_law_450 ⟨Nat.le_trans (Nat.add_le_add_left (Nat.le_of_ble_eq_true rfl : 3 + 0 + 0 ≤ 10) _) hf.1, Nat.le_trans (Nat.add_le_add_left (Nat.le_of_ble_eq_true rfl : 18 + 0 + 0 ≤ 60) _) hf.2⟩ ?_
  refine J.heq lz_mk.symm ?_
  refine J.widen (k := cells + 10) (n := slots + 60) (Nat.add_le_add_left (Nat.le_of_ble_eq_true rfl : 3 + 0 + 0 ≤ 10) _) (Nat.add_le_add_left (Nat.le_of_ble_eq_true rfl : 18 + 0 + 0 ≤ 60) _) ?_
  refine J.iload C dL_law_453 rfl ?_
  refine J.icmp_eq (tgt := 460) C dL_law_455 (by decide) (fun _ => ?_) (fun c9 => absurd hth c9)
  refine J.iload C dL_law_460 rfl ?_
  refine J.if_ne (tgt := 477) C dL_law_462 (by decide) (fun _ => ?_) (fun hk => ?_)
  · refine J.goto (tgt := 3020) C dL_law_477 (by decide) ?_
    exact J.lw (lv' := [(0, .ref b), (1, .ref (ad 0)), (2, .ref (bd 0)), (3, .ref o1), (4, .ref o2), (5, .int i)]) ⟨rfl, rfl, rfl, rfl, rfl, rfl, trivial⟩ (kk _ _ _ hI)
  · have hok := hok hk
    refine J.aload_n (i := 3) C dL_law_465 rfl rfl ?_
    refine J.iconst C 0 dL_law_466 (by decide) ?_
    refine J.lald C (66 + ((R9 g bd τ1).length + 0)) lw_0 (show vp_in 0 1 by unfold vp_in; decide) dL_law_467 ?_
    refine J.iload C dL_law_468 rfl ?_
    refine J.i2l C dL_law_470 ?_
    refine J.lcmp C dL_law_471 ?_
    refine J.if_eq (tgt := 477) C dL_law_472 (by decide) (fun _ => ?_) (fun c9 => absurd ((lg_cmp_eq _ _).mpr hok) c9)
    refine J.goto (tgt := 3020) C dL_law_477 (by decide) ?_
    exact J.lw (lv' := [(0, .ref b), (1, .ref (ad 0)), (2, .ref (bd 0)), (3, .ref o1), (4, .ref o2), (5, .int i)]) ⟨rfl, rfl, rfl, rfl, rfl, rfl, trivial⟩ (kk _ _ _ hI)
set_option maxRecDepth 100000 in
theorem case_4 {p : Program} {l : Launch} (hl : l.stackTraces = false) {e : Env} {s : State} {m : MethodId} {args : Array Value} {below : List Frame} {meth : Method} {c : Code} {g : Gy} {A : Nat → Prop} {Q : State → Prop} {cells slots b L o1 o2 : Nat} {xs : Nat → Int32} {ad bd : Nat → Nat} {i : Int32} {σ : DS} {τ : MS} {w : OS} {Inv : DS → MS → Prop} (C : Cx p l s m args meth c g A RL cL_law 9) (hX : va_X b L xs s s.heap) (hbl : b < s.heap.size) (hbA : ¬ A b) (hf : cells + 10 ≤ room_1.cells ∧ slots + 60 ≤ room_1.slots) (h1 : vp_in (i + 1) L) (h2 : vp_in (i + 2) L) (HA : AgW okI Inv (W_L_disjunction σ w (xs (i + 1).toNatClampNeg) (xs (i + 2).toNatClampNeg)) (P_X7_disjunction τ (xs (i + 1).toNatClampNeg) (xs (i + 2).toNatClampNeg)))
    (kk : ∀ (σ' : DS) (τ' : MS) (w' : OS), Inv σ' τ' → J p l e room_1 s m args below meth c g A 9 (cells + 10) (slots + 60) Q 3020 [(0, .ref b), (1, .ref (ad 0)), (2, .ref (bd 0)), (3, .ref o1), (4, .ref o2), (5, .int i)] [] (lz g ad bd o1 o2 σ' τ' w')) : J p l e room_1 s m args below meth c g A 9 cells slots Q 480 [(0, .ref b), (1, .ref (ad 0)), (2, .ref (bd 0)), (3, .ref o1), (4, .ref o2), (5, .int i)] [] (lz g ad bd o1 o2 σ τ w) := by
  refine J.aload_n (i := 1) C dL_law_480 rfl rfl ?_
  refine J.aload_n (i := 0) C dL_law_481 rfl rfl ?_
  refine J.iload C dL_law_482 rfl ?_
  refine J.iconst C 1 dL_law_484 (by decide) ?_
  refine J.iadd C dL_law_485 ?_
  refine J.sld C hX hbl hbA h1 dL_law_486 ?_
  refine J.aload_n (i := 0) C dL_law_487 rfl rfl ?_
  refine J.iload C dL_law_488 rfl ?_
  refine J.iconst C 2 dL_law_490 (by decide) ?_
  refine J.iadd C dL_law_491 ?_
  refine J.sld C hX hbl hbA h2 dL_law_492 ?_
  refine J.aload_n (i := 3) C dL_law_493 rfl rfl ?_
  obtain ⟨k, σ1, w1, r, τ1, hx, hy, hth, hok, hI⟩ := HA
  refine J.callSH C (sp_L_disjunction hl σ w _ _ (.inl k, (σ1, w1)) hx) rfl kMl_L_188 mdL_disjunction ⟨(Nat.le_of_ble_eq_true rfl), (Nat.le_of_ble_eq_true rfl)⟩ rfl (Nat.le_of_ble_eq_true rfl) dL_law_494 ⟨Nat.le_trans (Nat.add_le_add_left (Nat.le_of_ble_eq_true rfl : 3 ≤ 10) _) hf.1, Nat.le_trans (Nat.add_le_add_left (Nat.le_of_ble_eq_true rfl : 18 ≤ 60) _) hf.2⟩ (fun r9 u hu => ?_)
  obtain ⟨hu1, rfl⟩ := hu
  cases hu1
  refine J.istore C dL_law_497 (by decide) ?_
  refine J.lw (lv' := [(0, .ref b), (1, .ref (ad 0)), (2, .ref (bd 0)), (3, .ref o1), (4, .ref o2), (5, .int i), (6, .int k)]) ⟨rfl, rfl, rfl, rfl, rfl, rfl, rfl, trivial⟩ ?_
  refine J.aload_n (i := 2) C dL_law_499 rfl rfl ?_
  refine J.aload_n (i := 0) C dL_law_500 rfl rfl ?_
  refine J.iload C dL_law_501 rfl ?_
  refine J.iconst C 1 dL_law_503 (by decide) ?_
  refine J.iadd C dL_law_504 ?_
  refine J.sld C hX hbl hbA h1 dL_law_505 ?_
  refine J.aload_n (i := 0) C dL_law_506 rfl rfl ?_
  refine J.iload C dL_law_507 rfl ?_
  refine J.iconst C 2 dL_law_509 (by decide) ?_
  refine J.iadd C dL_law_510 ?_
  refine J.sld C hX hbl hbA h2 dL_law_511 ?_
  refine J.heq lz_mk ?_
  refine J.callVR (hp := mkh g bd (dk g ad σ1) (outs g o1 o2 w1)) C rfl (sp_X7_disjunction hl _ _) hy rfl kMl_L_190 mdX7_disjunction ⟨(Nat.le_of_ble_eq_true rfl), (Nat.le_of_ble_eq_true rfl)⟩ mk_0 rfl rfl (Nat.le_of_ble_eq_true rfl) dL_law_512 ⟨Nat.le_trans (Nat.add_le_add_left (Nat.le_of_ble_eq_true rfl : 3 + 0 ≤ 10) _) hf.1, Nat.le_trans (Nat.add_le_add_left (Nat.le_of_ble_eq_true rfl : 18 + 0 ≤ 60) _) hf.2⟩ ?_
  refine J.istore C dL_law_515 (by decide) ?_
  refine J.lw (lv' := [(0, .ref b), (1, .ref (ad 0)), (2, .ref (bd 0)), (3, .ref o1), (4, .ref o2), (5, .int i), (6, .int k), (7, .int r)]) ⟨rfl, rfl, rfl, rfl, rfl, rfl, rfl, rfl, trivial⟩ ?_
  refine J.aload_n (i := 2) C dL_law_517 rfl rfl ?_
  refine J.callVI C (sp_X7_thrown hl) rfl kMl_L_174 mdX7_thrown ⟨(Nat.le_of_ble_eq_true rfl), (Nat.le_of_ble_eq_true rfl)⟩ mk_0 rfl rfl (Nat.le_of_ble_eq_true rfl) dL_law_518 ⟨Nat.le_trans (Nat.add_le_add_left (Nat.le_of_ble_eq_true rfl : 3 + 0 + 0 ≤ 10) _) hf.1, Nat.le_trans (Nat.add_le_add_left (Nat.le_of_ble_eq_true rfl : 18 + 0 + 0 ≤ 60) _) hf.2⟩ ?_
  refine J.heq lz_mk.symm ?_
  refine J.widen (k := cells + 10) (n := slots + 60) (Nat.add_le_add_left (Nat.le_of_ble_eq_true rfl : 3 + 0 + 0 ≤ 10) _) (Nat.add_le_add_left (Nat.le_of_ble_eq_true rfl : 18 + 0 + 0 ≤ 60) _) ?_
  refine J.iload C dL_law_521 rfl ?_
  refine J.icmp_eq (tgt := 528) C dL_law_523 (by decide) (fun _ => ?_) (fun c9 => absurd hth c9)
  refine J.iload C dL_law_528 rfl ?_
  refine J.if_ne (tgt := 545) C dL_law_530 (by decide) (fun _ => ?_) (fun hk => ?_)
  · refine J.goto (tgt := 3020) C dL_law_545 (by decide) ?_
    exact J.lw (lv' := [(0, .ref b), (1, .ref (ad 0)), (2, .ref (bd 0)), (3, .ref o1), (4, .ref o2), (5, .int i)]) ⟨rfl, rfl, rfl, rfl, rfl, rfl, trivial⟩ (kk _ _ _ hI)
  · have hok := hok hk
    refine J.aload_n (i := 3) C dL_law_533 rfl rfl ?_
    refine J.iconst C 0 dL_law_534 (by decide) ?_
    refine J.lald C (66 + ((R9 g bd τ1).length + 0)) lw_0 (show vp_in 0 1 by unfold vp_in; decide) dL_law_535 ?_
    refine J.iload C dL_law_536 rfl ?_
    refine J.i2l C dL_law_538 ?_
    refine J.lcmp C dL_law_539 ?_
    refine J.if_eq (tgt := 545) C dL_law_540 (by decide) (fun _ => ?_) (fun c9 => absurd ((lg_cmp_eq _ _).mpr hok) c9)
    refine J.goto (tgt := 3020) C dL_law_545 (by decide) ?_
    exact J.lw (lv' := [(0, .ref b), (1, .ref (ad 0)), (2, .ref (bd 0)), (3, .ref o1), (4, .ref o2), (5, .int i)]) ⟨rfl, rfl, rfl, rfl, rfl, rfl, trivial⟩ (kk _ _ _ hI)
set_option maxRecDepth 100000 in
theorem case_5 {p : Program} {l : Launch} (hl : l.stackTraces = false) {e : Env} {s : State} {m : MethodId} {args : Array Value} {below : List Frame} {meth : Method} {c : Code} {g : Gy} {A : Nat → Prop} {Q : State → Prop} {cells slots b L o1 o2 : Nat} {xs : Nat → Int32} {ad bd : Nat → Nat} {i : Int32} {σ : DS} {τ : MS} {w : OS} {Inv : DS → MS → Prop} (C : Cx p l s m args meth c g A RL cL_law 9) (hX : va_X b L xs s s.heap) (hbl : b < s.heap.size) (hbA : ¬ A b) (hf : cells + 10 ≤ room_1.cells ∧ slots + 60 ≤ room_1.slots) (h1 : vp_in (i + 1) L) (h2 : vp_in (i + 2) L) (HA : AgW okI Inv (W_L_implication σ w (xs (i + 1).toNatClampNeg) (xs (i + 2).toNatClampNeg)) (P_X7_implication τ (xs (i + 1).toNatClampNeg) (xs (i + 2).toNatClampNeg)))
    (kk : ∀ (σ' : DS) (τ' : MS) (w' : OS), Inv σ' τ' → J p l e room_1 s m args below meth c g A 9 (cells + 10) (slots + 60) Q 3020 [(0, .ref b), (1, .ref (ad 0)), (2, .ref (bd 0)), (3, .ref o1), (4, .ref o2), (5, .int i)] [] (lz g ad bd o1 o2 σ' τ' w')) : J p l e room_1 s m args below meth c g A 9 cells slots Q 548 [(0, .ref b), (1, .ref (ad 0)), (2, .ref (bd 0)), (3, .ref o1), (4, .ref o2), (5, .int i)] [] (lz g ad bd o1 o2 σ τ w) := by
  refine J.aload_n (i := 1) C dL_law_548 rfl rfl ?_
  refine J.aload_n (i := 0) C dL_law_549 rfl rfl ?_
  refine J.iload C dL_law_550 rfl ?_
  refine J.iconst C 1 dL_law_552 (by decide) ?_
  refine J.iadd C dL_law_553 ?_
  refine J.sld C hX hbl hbA h1 dL_law_554 ?_
  refine J.aload_n (i := 0) C dL_law_555 rfl rfl ?_
  refine J.iload C dL_law_556 rfl ?_
  refine J.iconst C 2 dL_law_558 (by decide) ?_
  refine J.iadd C dL_law_559 ?_
  refine J.sld C hX hbl hbA h2 dL_law_560 ?_
  refine J.aload_n (i := 3) C dL_law_561 rfl rfl ?_
  obtain ⟨k, σ1, w1, r, τ1, hx, hy, hth, hok, hI⟩ := HA
  refine J.callSH C (sp_L_implication hl σ w _ _ (.inl k, (σ1, w1)) hx) rfl kMl_L_191 mdL_implication ⟨(Nat.le_of_ble_eq_true rfl), (Nat.le_of_ble_eq_true rfl)⟩ rfl (Nat.le_of_ble_eq_true rfl) dL_law_562 ⟨Nat.le_trans (Nat.add_le_add_left (Nat.le_of_ble_eq_true rfl : 3 ≤ 10) _) hf.1, Nat.le_trans (Nat.add_le_add_left (Nat.le_of_ble_eq_true rfl : 18 ≤ 60) _) hf.2⟩ (fun r9 u hu => ?_)
  obtain ⟨hu1, rfl⟩ := hu
  cases hu1
  refine J.istore C dL_law_565 (by decide) ?_
  refine J.lw (lv' := [(0, .ref b), (1, .ref (ad 0)), (2, .ref (bd 0)), (3, .ref o1), (4, .ref o2), (5, .int i), (6, .int k)]) ⟨rfl, rfl, rfl, rfl, rfl, rfl, rfl, trivial⟩ ?_
  refine J.aload_n (i := 2) C dL_law_567 rfl rfl ?_
  refine J.aload_n (i := 0) C dL_law_568 rfl rfl ?_
  refine J.iload C dL_law_569 rfl ?_
  refine J.iconst C 1 dL_law_571 (by decide) ?_
  refine J.iadd C dL_law_572 ?_
  refine J.sld C hX hbl hbA h1 dL_law_573 ?_
  refine J.aload_n (i := 0) C dL_law_574 rfl rfl ?_
  refine J.iload C dL_law_575 rfl ?_
  refine J.iconst C 2 dL_law_577 (by decide) ?_
  refine J.iadd C dL_law_578 ?_
  refine J.sld C hX hbl hbA h2 dL_law_579 ?_
  refine J.heq lz_mk ?_
  refine J.callVR (hp := mkh g bd (dk g ad σ1) (outs g o1 o2 w1)) C rfl (sp_X7_implication hl _ _) hy rfl kMl_L_193 mdX7_implication ⟨(Nat.le_of_ble_eq_true rfl), (Nat.le_of_ble_eq_true rfl)⟩ mk_0 rfl rfl (Nat.le_of_ble_eq_true rfl) dL_law_580 ⟨Nat.le_trans (Nat.add_le_add_left (Nat.le_of_ble_eq_true rfl : 3 + 0 ≤ 10) _) hf.1, Nat.le_trans (Nat.add_le_add_left (Nat.le_of_ble_eq_true rfl : 18 + 0 ≤ 60) _) hf.2⟩ ?_
  refine J.istore C dL_law_583 (by decide) ?_
  refine J.lw (lv' := [(0, .ref b), (1, .ref (ad 0)), (2, .ref (bd 0)), (3, .ref o1), (4, .ref o2), (5, .int i), (6, .int k), (7, .int r)]) ⟨rfl, rfl, rfl, rfl, rfl, rfl, rfl, rfl, trivial⟩ ?_
  refine J.aload_n (i := 2) C dL_law_585 rfl rfl ?_
  refine J.callVI C (sp_X7_thrown hl) rfl kMl_L_174 mdX7_thrown ⟨(Nat.le_of_ble_eq_true rfl), (Nat.le_of_ble_eq_true rfl)⟩ mk_0 rfl rfl (Nat.le_of_ble_eq_true rfl) dL_law_586 ⟨Nat.le_trans (Nat.add_le_add_left (Nat.le_of_ble_eq_true rfl : 3 + 0 + 0 ≤ 10) _) hf.1, Nat.le_trans (Nat.add_le_add_left (Nat.le_of_ble_eq_true rfl : 18 + 0 + 0 ≤ 60) _) hf.2⟩ ?_
  refine J.heq lz_mk.symm ?_
  refine J.widen (k := cells + 10) (n := slots + 60) (Nat.add_le_add_left (Nat.le_of_ble_eq_true rfl : 3 + 0 + 0 ≤ 10) _) (Nat.add_le_add_left (Nat.le_of_ble_eq_true rfl : 18 + 0 + 0 ≤ 60) _) ?_
  refine J.iload C dL_law_589 rfl ?_
  refine J.icmp_eq (tgt := 596) C dL_law_591 (by decide) (fun _ => ?_) (fun c9 => absurd hth c9)
  refine J.iload C dL_law_596 rfl ?_
  refine J.if_ne (tgt := 613) C dL_law_598 (by decide) (fun _ => ?_) (fun hk => ?_)
  · refine J.goto (tgt := 3020) C dL_law_613 (by decide) ?_
    exact J.lw (lv' := [(0, .ref b), (1, .ref (ad 0)), (2, .ref (bd 0)), (3, .ref o1), (4, .ref o2), (5, .int i)]) ⟨rfl, rfl, rfl, rfl, rfl, rfl, trivial⟩ (kk _ _ _ hI)
  · have hok := hok hk
    refine J.aload_n (i := 3) C dL_law_601 rfl rfl ?_
    refine J.iconst C 0 dL_law_602 (by decide) ?_
    refine J.lald C (66 + ((R9 g bd τ1).length + 0)) lw_0 (show vp_in 0 1 by unfold vp_in; decide) dL_law_603 ?_
    refine J.iload C dL_law_604 rfl ?_
    refine J.i2l C dL_law_606 ?_
    refine J.lcmp C dL_law_607 ?_
    refine J.if_eq (tgt := 613) C dL_law_608 (by decide) (fun _ => ?_) (fun c9 => absurd ((lg_cmp_eq _ _).mpr hok) c9)
    refine J.goto (tgt := 3020) C dL_law_613 (by decide) ?_
    exact J.lw (lv' := [(0, .ref b), (1, .ref (ad 0)), (2, .ref (bd 0)), (3, .ref o1), (4, .ref o2), (5, .int i)]) ⟨rfl, rfl, rfl, rfl, rfl, rfl, trivial⟩ (kk _ _ _ hI)
set_option maxRecDepth 100000 in
theorem case_6 {p : Program} {l : Launch} (hl : l.stackTraces = false) {e : Env} {s : State} {m : MethodId} {args : Array Value} {below : List Frame} {meth : Method} {c : Code} {g : Gy} {A : Nat → Prop} {Q : State → Prop} {cells slots b L o1 o2 : Nat} {xs : Nat → Int32} {ad bd : Nat → Nat} {i : Int32} {σ : DS} {τ : MS} {w : OS} {Inv : DS → MS → Prop} (C : Cx p l s m args meth c g A RL cL_law 9) (hX : va_X b L xs s s.heap) (hbl : b < s.heap.size) (hbA : ¬ A b) (hf : cells + 10 ≤ room_1.cells ∧ slots + 60 ≤ room_1.slots) (HA : AgV Inv (some (.inl (F_X6_formulas σ ), σ)) (P_X7_formulas τ ))
    (kk : ∀ (σ' : DS) (τ' : MS) (w' : OS), Inv σ' τ' → J p l e room_1 s m args below meth c g A 9 (cells + 10) (slots + 60) Q 3020 [(0, .ref b), (1, .ref (ad 0)), (2, .ref (bd 0)), (3, .ref o1), (4, .ref o2), (5, .int i)] [] (lz g ad bd o1 o2 σ' τ' w')) : J p l e room_1 s m args below meth c g A 9 cells slots Q 616 [(0, .ref b), (1, .ref (ad 0)), (2, .ref (bd 0)), (3, .ref o1), (4, .ref o2), (5, .int i)] [] (lz g ad bd o1 o2 σ τ w) := by
  refine J.aload_n (i := 1) C dL_law_616 rfl rfl ?_
  obtain ⟨σ1, r, τ1, hx, hy, hI⟩ := HA
  cases hx
  refine J.callVI C (sp_X6_formulas hl) rfl kMl_L_194 mdX6_formulas ⟨(Nat.le_of_ble_eq_true rfl), (Nat.le_of_ble_eq_true rfl)⟩ dk_0 rfl rfl (Nat.le_of_ble_eq_true rfl) dL_law_617 ⟨Nat.le_trans (Nat.add_le_add_left (Nat.le_of_ble_eq_true rfl : 0 ≤ 10) _) hf.1, Nat.le_trans (Nat.add_le_add_left (Nat.le_of_ble_eq_true rfl : 0 ≤ 60) _) hf.2⟩ ?_
  refine J.aload_n (i := 2) C dL_law_620 rfl rfl ?_
  refine J.heq (lz_mk (σ := σ)) ?_
  refine J.callVR (hp := mkh g bd (dk g ad σ) (outs g o1 o2 w)) C rfl (sp_X7_formulas hl) hy rfl kMl_L_197 mdX7_formulas ⟨(Nat.le_of_ble_eq_true rfl), (Nat.le_of_ble_eq_true rfl)⟩ mk_0 rfl rfl (Nat.le_of_ble_eq_true rfl) dL_law_621 ⟨Nat.le_trans (Nat.add_le_add_left (Nat.le_of_ble_eq_true rfl : 0 + 0 ≤ 10) _) hf.1, Nat.le_trans (Nat.add_le_add_left (Nat.le_of_ble_eq_true rfl : 0 + 0 ≤ 60) _) hf.2⟩ ?_
  refine J.heq lz_mk.symm ?_
  refine J.widen (k := cells + 10) (n := slots + 60) (Nat.add_le_add_left (Nat.le_of_ble_eq_true rfl : 0 + 0 ≤ 10) _) (Nat.add_le_add_left (Nat.le_of_ble_eq_true rfl : 0 + 0 ≤ 60) _) ?_
  refine J.icmp_eq (tgt := 3020) C dL_law_624 (by decide) (fun _ => ?_) (fun c9 => absurd rfl c9)
  exact kk _ _ _ hI
set_option maxRecDepth 100000 in
theorem case_7 {p : Program} {l : Launch} (hl : l.stackTraces = false) {e : Env} {s : State} {m : MethodId} {args : Array Value} {below : List Frame} {meth : Method} {c : Code} {g : Gy} {A : Nat → Prop} {Q : State → Prop} {cells slots b L o1 o2 : Nat} {xs : Nat → Int32} {ad bd : Nat → Nat} {i : Int32} {σ : DS} {τ : MS} {w : OS} {Inv : DS → MS → Prop} (C : Cx p l s m args meth c g A RL cL_law 9) (hX : va_X b L xs s s.heap) (hbl : b < s.heap.size) (hbA : ¬ A b) (hf : cells + 10 ≤ room_1.cells ∧ slots + 60 ≤ room_1.slots) (h1 : vp_in (i + 1) L) (HA : AgW okI Inv (W_L_sizeOf σ w (xs (i + 1).toNatClampNeg)) (P_X7_sizeOf τ (xs (i + 1).toNatClampNeg)))
    (kk : ∀ (σ' : DS) (τ' : MS) (w' : OS), Inv σ' τ' → J p l e room_1 s m args below meth c g A 9 (cells + 10) (slots + 60) Q 3020 [(0, .ref b), (1, .ref (ad 0)), (2, .ref (bd 0)), (3, .ref o1), (4, .ref o2), (5, .int i)] [] (lz g ad bd o1 o2 σ' τ' w')) : J p l e room_1 s m args below meth c g A 9 cells slots Q 629 [(0, .ref b), (1, .ref (ad 0)), (2, .ref (bd 0)), (3, .ref o1), (4, .ref o2), (5, .int i)] [] (lz g ad bd o1 o2 σ τ w) := by
  refine J.aload_n (i := 1) C dL_law_629 rfl rfl ?_
  refine J.aload_n (i := 0) C dL_law_630 rfl rfl ?_
  refine J.iload C dL_law_631 rfl ?_
  refine J.iconst C 1 dL_law_633 (by decide) ?_
  refine J.iadd C dL_law_634 ?_
  refine J.sld C hX hbl hbA h1 dL_law_635 ?_
  refine J.aload_n (i := 3) C dL_law_636 rfl rfl ?_
  obtain ⟨k, σ1, w1, r, τ1, hx, hy, hth, hok, hI⟩ := HA
  refine J.callSH C (sp_L_sizeOf hl σ w _ (.inl k, (σ1, w1)) hx) rfl kMl_L_198 mdL_sizeOf ⟨(Nat.le_of_ble_eq_true rfl), (Nat.le_of_ble_eq_true rfl)⟩ rfl (Nat.le_of_ble_eq_true rfl) dL_law_637 ⟨Nat.le_trans (Nat.add_le_add_left (Nat.le_of_ble_eq_true rfl : 1 ≤ 10) _) hf.1, Nat.le_trans (Nat.add_le_add_left (Nat.le_of_ble_eq_true rfl : 6 ≤ 60) _) hf.2⟩ (fun r9 u hu => ?_)
  obtain ⟨hu1, rfl⟩ := hu
  cases hu1
  refine J.istore C dL_law_640 (by decide) ?_
  refine J.lw (lv' := [(0, .ref b), (1, .ref (ad 0)), (2, .ref (bd 0)), (3, .ref o1), (4, .ref o2), (5, .int i), (6, .int k)]) ⟨rfl, rfl, rfl, rfl, rfl, rfl, rfl, trivial⟩ ?_
  refine J.aload_n (i := 2) C dL_law_642 rfl rfl ?_
  refine J.aload_n (i := 0) C dL_law_643 rfl rfl ?_
  refine J.iload C dL_law_644 rfl ?_
  refine J.iconst C 1 dL_law_646 (by decide) ?_
  refine J.iadd C dL_law_647 ?_
  refine J.sld C hX hbl hbA h1 dL_law_648 ?_
  refine J.heq lz_mk ?_
  refine J.callVR (hp := mkh g bd (dk g ad σ1) (outs g o1 o2 w1)) C rfl (sp_X7_sizeOf hl _) hy rfl kMl_L_200 mdX7_sizeOf ⟨(Nat.le_of_ble_eq_true rfl), (Nat.le_of_ble_eq_true rfl)⟩ mk_0 rfl rfl (Nat.le_of_ble_eq_true rfl) dL_law_649 ⟨Nat.le_trans (Nat.add_le_add_left (Nat.le_of_ble_eq_true rfl : 1 + 0 ≤ 10) _) hf.1, Nat.le_trans (Nat.add_le_add_left (Nat.le_of_ble_eq_true rfl : 6 + 0 ≤ 60) _) hf.2⟩ ?_
  refine J.istore C dL_law_652 (by decide) ?_
  refine J.lw (lv' := [(0, .ref b), (1, .ref (ad 0)), (2, .ref (bd 0)), (3, .ref o1), (4, .ref o2), (5, .int i), (6, .int k), (7, .int r)]) ⟨rfl, rfl, rfl, rfl, rfl, rfl, rfl, rfl, trivial⟩ ?_
  refine J.aload_n (i := 2) C dL_law_654 rfl rfl ?_
  refine J.callVI C (sp_X7_thrown hl) rfl kMl_L_174 mdX7_thrown ⟨(Nat.le_of_ble_eq_true rfl), (Nat.le_of_ble_eq_true rfl)⟩ mk_0 rfl rfl (Nat.le_of_ble_eq_true rfl) dL_law_655 ⟨Nat.le_trans (Nat.add_le_add_left (Nat.le_of_ble_eq_true rfl : 1 + 0 + 0 ≤ 10) _) hf.1, Nat.le_trans (Nat.add_le_add_left (Nat.le_of_ble_eq_true rfl : 6 + 0 + 0 ≤ 60) _) hf.2⟩ ?_
  refine J.heq lz_mk.symm ?_
  refine J.widen (k := cells + 10) (n := slots + 60) (Nat.add_le_add_left (Nat.le_of_ble_eq_true rfl : 1 + 0 + 0 ≤ 10) _) (Nat.add_le_add_left (Nat.le_of_ble_eq_true rfl : 6 + 0 + 0 ≤ 60) _) ?_
  refine J.iload C dL_law_658 rfl ?_
  refine J.icmp_eq (tgt := 665) C dL_law_660 (by decide) (fun _ => ?_) (fun c9 => absurd hth c9)
  refine J.iload C dL_law_665 rfl ?_
  refine J.if_ne (tgt := 682) C dL_law_667 (by decide) (fun _ => ?_) (fun hk => ?_)
  · refine J.goto (tgt := 3020) C dL_law_682 (by decide) ?_
    exact J.lw (lv' := [(0, .ref b), (1, .ref (ad 0)), (2, .ref (bd 0)), (3, .ref o1), (4, .ref o2), (5, .int i)]) ⟨rfl, rfl, rfl, rfl, rfl, rfl, trivial⟩ (kk _ _ _ hI)
  · have hok := hok hk
    refine J.aload_n (i := 3) C dL_law_670 rfl rfl ?_
    refine J.iconst C 0 dL_law_671 (by decide) ?_
    refine J.lald C (66 + ((R9 g bd τ1).length + 0)) lw_0 (show vp_in 0 1 by unfold vp_in; decide) dL_law_672 ?_
    refine J.iload C dL_law_673 rfl ?_
    refine J.i2l C dL_law_675 ?_
    refine J.lcmp C dL_law_676 ?_
    refine J.if_eq (tgt := 682) C dL_law_677 (by decide) (fun _ => ?_) (fun c9 => absurd ((lg_cmp_eq _ _).mpr hok) c9)
    refine J.goto (tgt := 3020) C dL_law_682 (by decide) ?_
    exact J.lw (lv' := [(0, .ref b), (1, .ref (ad 0)), (2, .ref (bd 0)), (3, .ref o1), (4, .ref o2), (5, .int i)]) ⟨rfl, rfl, rfl, rfl, rfl, rfl, trivial⟩ (kk _ _ _ hI)
set_option maxRecDepth 100000 in
theorem case_8 {p : Program} {l : Launch} (hl : l.stackTraces = false) {e : Env} {s : State} {m : MethodId} {args : Array Value} {below : List Frame} {meth : Method} {c : Code} {g : Gy} {A : Nat → Prop} {Q : State → Prop} {cells slots b L o1 o2 : Nat} {xs : Nat → Int32} {ad bd : Nat → Nat} {i : Int32} {σ : DS} {τ : MS} {w : OS} {Inv : DS → MS → Prop} (C : Cx p l s m args meth c g A RL cL_law 9) (hX : va_X b L xs s s.heap) (hbl : b < s.heap.size) (hbA : ¬ A b) (hf : cells + 10 ≤ room_1.cells ∧ slots + 60 ≤ room_1.slots) (h1 : vp_in (i + 1) L) (h2 : vp_in (i + 2) L) (HA : AgW okI Inv (W_L_symbolAt σ w (xs (i + 1).toNatClampNeg) (xs (i + 2).toNatClampNeg)) (P_X7_symbolAt τ (xs (i + 1).toNatClampNeg) (xs (i + 2).toNatClampNeg)))
    (kk : ∀ (σ' : DS) (τ' : MS) (w' : OS), Inv σ' τ' → J p l e room_1 s m args below meth c g A 9 (cells + 10) (slots + 60) Q 3020 [(0, .ref b), (1, .ref (ad 0)), (2, .ref (bd 0)), (3, .ref o1), (4, .ref o2), (5, .int i)] [] (lz g ad bd o1 o2 σ' τ' w')) : J p l e room_1 s m args below meth c g A 9 cells slots Q 685 [(0, .ref b), (1, .ref (ad 0)), (2, .ref (bd 0)), (3, .ref o1), (4, .ref o2), (5, .int i)] [] (lz g ad bd o1 o2 σ τ w) := by
  refine J.aload_n (i := 1) C dL_law_685 rfl rfl ?_
  refine J.aload_n (i := 0) C dL_law_686 rfl rfl ?_
  refine J.iload C dL_law_687 rfl ?_
  refine J.iconst C 1 dL_law_689 (by decide) ?_
  refine J.iadd C dL_law_690 ?_
  refine J.sld C hX hbl hbA h1 dL_law_691 ?_
  refine J.aload_n (i := 0) C dL_law_692 rfl rfl ?_
  refine J.iload C dL_law_693 rfl ?_
  refine J.iconst C 2 dL_law_695 (by decide) ?_
  refine J.iadd C dL_law_696 ?_
  refine J.sld C hX hbl hbA h2 dL_law_697 ?_
  refine J.aload_n (i := 3) C dL_law_698 rfl rfl ?_
  obtain ⟨k, σ1, w1, r, τ1, hx, hy, hth, hok, hI⟩ := HA
  refine J.callSH C (sp_L_symbolAt hl σ w _ _ (.inl k, (σ1, w1)) hx) rfl kMl_L_201 mdL_symbolAt ⟨(Nat.le_of_ble_eq_true rfl), (Nat.le_of_ble_eq_true rfl)⟩ rfl (Nat.le_of_ble_eq_true rfl) dL_law_699 ⟨Nat.le_trans (Nat.add_le_add_left (Nat.le_of_ble_eq_true rfl : 2 ≤ 10) _) hf.1, Nat.le_trans (Nat.add_le_add_left (Nat.le_of_ble_eq_true rfl : 12 ≤ 60) _) hf.2⟩ (fun r9 u hu => ?_)
  obtain ⟨hu1, rfl⟩ := hu
  cases hu1
  refine J.istore C dL_law_702 (by decide) ?_
  refine J.lw (lv' := [(0, .ref b), (1, .ref (ad 0)), (2, .ref (bd 0)), (3, .ref o1), (4, .ref o2), (5, .int i), (6, .int k)]) ⟨rfl, rfl, rfl, rfl, rfl, rfl, rfl, trivial⟩ ?_
  refine J.aload_n (i := 2) C dL_law_704 rfl rfl ?_
  refine J.aload_n (i := 0) C dL_law_705 rfl rfl ?_
  refine J.iload C dL_law_706 rfl ?_
  refine J.iconst C 1 dL_law_708 (by decide) ?_
  refine J.iadd C dL_law_709 ?_
  refine J.sld C hX hbl hbA h1 dL_law_710 ?_
  refine J.aload_n (i := 0) C dL_law_711 rfl rfl ?_
  refine J.iload C dL_law_712 rfl ?_
  refine J.iconst C 2 dL_law_714 (by decide) ?_
  refine J.iadd C dL_law_715 ?_
  refine J.sld C hX hbl hbA h2 dL_law_716 ?_
  refine J.heq lz_mk ?_
  refine J.callVR (hp := mkh g bd (dk g ad σ1) (outs g o1 o2 w1)) C rfl (sp_X7_symbolAt hl _ _) hy rfl kMl_L_203 mdX7_symbolAt ⟨(Nat.le_of_ble_eq_true rfl), (Nat.le_of_ble_eq_true rfl)⟩ mk_0 rfl rfl (Nat.le_of_ble_eq_true rfl) dL_law_717 ⟨Nat.le_trans (Nat.add_le_add_left (Nat.le_of_ble_eq_true rfl : 2 + 0 ≤ 10) _) hf.1, Nat.le_trans (Nat.add_le_add_left (Nat.le_of_ble_eq_true rfl : 12 + 0 ≤ 60) _) hf.2⟩ ?_
  refine J.istore C dL_law_720 (by decide) ?_
  refine J.lw (lv' := [(0, .ref b), (1, .ref (ad 0)), (2, .ref (bd 0)), (3, .ref o1), (4, .ref o2), (5, .int i), (6, .int k), (7, .int r)]) ⟨rfl, rfl, rfl, rfl, rfl, rfl, rfl, rfl, trivial⟩ ?_
  refine J.aload_n (i := 2) C dL_law_722 rfl rfl ?_
  refine J.callVI C (sp_X7_thrown hl) rfl kMl_L_174 mdX7_thrown ⟨(Nat.le_of_ble_eq_true rfl), (Nat.le_of_ble_eq_true rfl)⟩ mk_0 rfl rfl (Nat.le_of_ble_eq_true rfl) dL_law_723 ⟨Nat.le_trans (Nat.add_le_add_left (Nat.le_of_ble_eq_true rfl : 2 + 0 + 0 ≤ 10) _) hf.1, Nat.le_trans (Nat.add_le_add_left (Nat.le_of_ble_eq_true rfl : 12 + 0 + 0 ≤ 60) _) hf.2⟩ ?_
  refine J.heq lz_mk.symm ?_
  refine J.widen (k := cells + 10) (n := slots + 60) (Nat.add_le_add_left (Nat.le_of_ble_eq_true rfl : 2 + 0 + 0 ≤ 10) _) (Nat.add_le_add_left (Nat.le_of_ble_eq_true rfl : 12 + 0 + 0 ≤ 60) _) ?_
  refine J.iload C dL_law_726 rfl ?_
  refine J.icmp_eq (tgt := 733) C dL_law_728 (by decide) (fun _ => ?_) (fun c9 => absurd hth c9)
  refine J.iload C dL_law_733 rfl ?_
  refine J.if_ne (tgt := 750) C dL_law_735 (by decide) (fun _ => ?_) (fun hk => ?_)
  · refine J.goto (tgt := 3020) C dL_law_750 (by decide) ?_
    exact J.lw (lv' := [(0, .ref b), (1, .ref (ad 0)), (2, .ref (bd 0)), (3, .ref o1), (4, .ref o2), (5, .int i)]) ⟨rfl, rfl, rfl, rfl, rfl, rfl, trivial⟩ (kk _ _ _ hI)
  · have hok := hok hk
    refine J.aload_n (i := 3) C dL_law_738 rfl rfl ?_
    refine J.iconst C 0 dL_law_739 (by decide) ?_
    refine J.lald C (66 + ((R9 g bd τ1).length + 0)) lw_0 (show vp_in 0 1 by unfold vp_in; decide) dL_law_740 ?_
    refine J.iload C dL_law_741 rfl ?_
    refine J.i2l C dL_law_743 ?_
    refine J.lcmp C dL_law_744 ?_
    refine J.if_eq (tgt := 750) C dL_law_745 (by decide) (fun _ => ?_) (fun c9 => absurd ((lg_cmp_eq _ _).mpr hok) c9)
    refine J.goto (tgt := 3020) C dL_law_750 (by decide) ?_
    exact J.lw (lv' := [(0, .ref b), (1, .ref (ad 0)), (2, .ref (bd 0)), (3, .ref o1), (4, .ref o2), (5, .int i)]) ⟨rfl, rfl, rfl, rfl, rfl, rfl, trivial⟩ (kk _ _ _ hI)
set_option maxRecDepth 100000 in
theorem case_9 {p : Program} {l : Launch} (hl : l.stackTraces = false) {e : Env} {s : State} {m : MethodId} {args : Array Value} {below : List Frame} {meth : Method} {c : Code} {g : Gy} {A : Nat → Prop} {Q : State → Prop} {cells slots b L o1 o2 : Nat} {xs : Nat → Int32} {ad bd : Nat → Nat} {i : Int32} {σ : DS} {τ : MS} {w : OS} {Inv : DS → MS → Prop} (C : Cx p l s m args meth c g A RL cL_law 9) (hX : va_X b L xs s s.heap) (hbl : b < s.heap.size) (hbA : ¬ A b) (hf : cells + 10 ≤ room_1.cells ∧ slots + 60 ≤ room_1.slots) (h1 : vp_in (i + 1) L) (h2 : vp_in (i + 2) L) (HA : AgW okI Inv (W_L_bind σ w (xs (i + 1).toNatClampNeg) (xs (i + 2).toNatClampNeg)) (P_X7_bind τ (xs (i + 1).toNatClampNeg) (xs (i + 2).toNatClampNeg)))
    (kk : ∀ (σ' : DS) (τ' : MS) (w' : OS), Inv σ' τ' → J p l e room_1 s m args below meth c g A 9 (cells + 10) (slots + 60) Q 3020 [(0, .ref b), (1, .ref (ad 0)), (2, .ref (bd 0)), (3, .ref o1), (4, .ref o2), (5, .int i)] [] (lz g ad bd o1 o2 σ' τ' w')) : J p l e room_1 s m args below meth c g A 9 cells slots Q 753 [(0, .ref b), (1, .ref (ad 0)), (2, .ref (bd 0)), (3, .ref o1), (4, .ref o2), (5, .int i)] [] (lz g ad bd o1 o2 σ τ w) := by
  refine J.aload_n (i := 1) C dL_law_753 rfl rfl ?_
  refine J.aload_n (i := 0) C dL_law_754 rfl rfl ?_
  refine J.iload C dL_law_755 rfl ?_
  refine J.iconst C 1 dL_law_757 (by decide) ?_
  refine J.iadd C dL_law_758 ?_
  refine J.sld C hX hbl hbA h1 dL_law_759 ?_
  refine J.aload_n (i := 0) C dL_law_760 rfl rfl ?_
  refine J.iload C dL_law_761 rfl ?_
  refine J.iconst C 2 dL_law_763 (by decide) ?_
  refine J.iadd C dL_law_764 ?_
  refine J.sld C hX hbl hbA h2 dL_law_765 ?_
  refine J.aload_n (i := 3) C dL_law_766 rfl rfl ?_
  obtain ⟨k, σ1, w1, r, τ1, hx, hy, hth, hok, hI⟩ := HA
  refine J.callSH C (sp_L_bind hl σ w _ _ (.inl k, (σ1, w1)) hx) rfl kMl_L_204 mdL_bind ⟨(Nat.le_of_ble_eq_true rfl), (Nat.le_of_ble_eq_true rfl)⟩ rfl (Nat.le_of_ble_eq_true rfl) dL_law_767 ⟨Nat.le_trans (Nat.add_le_add_left (Nat.le_of_ble_eq_true rfl : 2 ≤ 10) _) hf.1, Nat.le_trans (Nat.add_le_add_left (Nat.le_of_ble_eq_true rfl : 12 ≤ 60) _) hf.2⟩ (fun r9 u hu => ?_)
  obtain ⟨hu1, rfl⟩ := hu
  cases hu1
  refine J.istore C dL_law_770 (by decide) ?_
  refine J.lw (lv' := [(0, .ref b), (1, .ref (ad 0)), (2, .ref (bd 0)), (3, .ref o1), (4, .ref o2), (5, .int i), (6, .int k)]) ⟨rfl, rfl, rfl, rfl, rfl, rfl, rfl, trivial⟩ ?_
  refine J.aload_n (i := 2) C dL_law_772 rfl rfl ?_
  refine J.aload_n (i := 0) C dL_law_773 rfl rfl ?_
  refine J.iload C dL_law_774 rfl ?_
  refine J.iconst C 1 dL_law_776 (by decide) ?_
  refine J.iadd C dL_law_777 ?_
  refine J.sld C hX hbl hbA h1 dL_law_778 ?_
  refine J.aload_n (i := 0) C dL_law_779 rfl rfl ?_
  refine J.iload C dL_law_780 rfl ?_
  refine J.iconst C 2 dL_law_782 (by decide) ?_
  refine J.iadd C dL_law_783 ?_
  refine J.sld C hX hbl hbA h2 dL_law_784 ?_
  refine J.heq lz_mk ?_
  refine J.callVR (hp := mkh g bd (dk g ad σ1) (outs g o1 o2 w1)) C rfl (sp_X7_bind hl _ _) hy rfl kMl_L_206 mdX7_bind ⟨(Nat.le_of_ble_eq_true rfl), (Nat.le_of_ble_eq_true rfl)⟩ mk_0 rfl rfl (Nat.le_of_ble_eq_true rfl) dL_law_785 ⟨Nat.le_trans (Nat.add_le_add_left (Nat.le_of_ble_eq_true rfl : 2 + 0 ≤ 10) _) hf.1, Nat.le_trans (Nat.add_le_add_left (Nat.le_of_ble_eq_true rfl : 12 + 0 ≤ 60) _) hf.2⟩ ?_
  refine J.istore C dL_law_788 (by decide) ?_
  refine J.lw (lv' := [(0, .ref b), (1, .ref (ad 0)), (2, .ref (bd 0)), (3, .ref o1), (4, .ref o2), (5, .int i), (6, .int k), (7, .int r)]) ⟨rfl, rfl, rfl, rfl, rfl, rfl, rfl, rfl, trivial⟩ ?_
  refine J.aload_n (i := 2) C dL_law_790 rfl rfl ?_
  refine J.callVI C (sp_X7_thrown hl) rfl kMl_L_174 mdX7_thrown ⟨(Nat.le_of_ble_eq_true rfl), (Nat.le_of_ble_eq_true rfl)⟩ mk_0 rfl rfl (Nat.le_of_ble_eq_true rfl) dL_law_791 ⟨Nat.le_trans (Nat.add_le_add_left (Nat.le_of_ble_eq_true rfl : 2 + 0 + 0 ≤ 10) _) hf.1, Nat.le_trans (Nat.add_le_add_left (Nat.le_of_ble_eq_true rfl : 12 + 0 + 0 ≤ 60) _) hf.2⟩ ?_
  refine J.heq lz_mk.symm ?_
  refine J.widen (k := cells + 10) (n := slots + 60) (Nat.add_le_add_left (Nat.le_of_ble_eq_true rfl : 2 + 0 + 0 ≤ 10) _) (Nat.add_le_add_left (Nat.le_of_ble_eq_true rfl : 12 + 0 + 0 ≤ 60) _) ?_
  refine J.iload C dL_law_794 rfl ?_
  refine J.icmp_eq (tgt := 801) C dL_law_796 (by decide) (fun _ => ?_) (fun c9 => absurd hth c9)
  refine J.iload C dL_law_801 rfl ?_
  refine J.if_ne (tgt := 818) C dL_law_803 (by decide) (fun _ => ?_) (fun hk => ?_)
  · refine J.goto (tgt := 3020) C dL_law_818 (by decide) ?_
    exact J.lw (lv' := [(0, .ref b), (1, .ref (ad 0)), (2, .ref (bd 0)), (3, .ref o1), (4, .ref o2), (5, .int i)]) ⟨rfl, rfl, rfl, rfl, rfl, rfl, trivial⟩ (kk _ _ _ hI)
  · have hok := hok hk
    refine J.aload_n (i := 3) C dL_law_806 rfl rfl ?_
    refine J.iconst C 0 dL_law_807 (by decide) ?_
    refine J.lald C (66 + ((R9 g bd τ1).length + 0)) lw_0 (show vp_in 0 1 by unfold vp_in; decide) dL_law_808 ?_
    refine J.iload C dL_law_809 rfl ?_
    refine J.i2l C dL_law_811 ?_
    refine J.lcmp C dL_law_812 ?_
    refine J.if_eq (tgt := 818) C dL_law_813 (by decide) (fun _ => ?_) (fun c9 => absurd ((lg_cmp_eq _ _).mpr hok) c9)
    refine J.goto (tgt := 3020) C dL_law_818 (by decide) ?_
    exact J.lw (lv' := [(0, .ref b), (1, .ref (ad 0)), (2, .ref (bd 0)), (3, .ref o1), (4, .ref o2), (5, .int i)]) ⟨rfl, rfl, rfl, rfl, rfl, rfl, trivial⟩ (kk _ _ _ hI)
set_option maxRecDepth 100000 in
theorem case_10 {p : Program} {l : Launch} (hl : l.stackTraces = false) {e : Env} {s : State} {m : MethodId} {args : Array Value} {below : List Frame} {meth : Method} {c : Code} {g : Gy} {A : Nat → Prop} {Q : State → Prop} {cells slots b L o1 o2 : Nat} {xs : Nat → Int32} {ad bd : Nat → Nat} {i : Int32} {σ : DS} {τ : MS} {w : OS} {Inv : DS → MS → Prop} (C : Cx p l s m args meth c g A RL cL_law 9) (hX : va_X b L xs s s.heap) (hbl : b < s.heap.size) (hbA : ¬ A b) (hf : cells + 10 ≤ room_1.cells ∧ slots + 60 ≤ room_1.slots) (h1 : vp_in (i + 1) L) (HA : AgW okI Inv (W_L_premise σ w (xs (i + 1).toNatClampNeg)) (P_X7_premise τ (xs (i + 1).toNatClampNeg)))
    (kk : ∀ (σ' : DS) (τ' : MS) (w' : OS), Inv σ' τ' → J p l e room_1 s m args below meth c g A 9 (cells + 10) (slots + 60) Q 3020 [(0, .ref b), (1, .ref (ad 0)), (2, .ref (bd 0)), (3, .ref o1), (4, .ref o2), (5, .int i)] [] (lz g ad bd o1 o2 σ' τ' w')) : J p l e room_1 s m args below meth c g A 9 cells slots Q 821 [(0, .ref b), (1, .ref (ad 0)), (2, .ref (bd 0)), (3, .ref o1), (4, .ref o2), (5, .int i)] [] (lz g ad bd o1 o2 σ τ w) := by
  refine J.aload_n (i := 1) C dL_law_821 rfl rfl ?_
  refine J.aload_n (i := 0) C dL_law_822 rfl rfl ?_
  refine J.iload C dL_law_823 rfl ?_
  refine J.iconst C 1 dL_law_825 (by decide) ?_
  refine J.iadd C dL_law_826 ?_
  refine J.sld C hX hbl hbA h1 dL_law_827 ?_
  refine J.aload_n (i := 3) C dL_law_828 rfl rfl ?_
  obtain ⟨k, σ1, w1, r, τ1, hx, hy, hth, hok, hI⟩ := HA
  refine J.callSH C (sp_L_premise hl σ w _ (.inl k, (σ1, w1)) hx) rfl kMl_L_207 mdL_premise ⟨(Nat.le_of_ble_eq_true rfl), (Nat.le_of_ble_eq_true rfl)⟩ rfl (Nat.le_of_ble_eq_true rfl) dL_law_829 ⟨Nat.le_trans (Nat.add_le_add_left (Nat.le_of_ble_eq_true rfl : 3 ≤ 10) _) hf.1, Nat.le_trans (Nat.add_le_add_left (Nat.le_of_ble_eq_true rfl : 18 ≤ 60) _) hf.2⟩ (fun r9 u hu => ?_)
  obtain ⟨hu1, rfl⟩ := hu
  cases hu1
  refine J.istore C dL_law_832 (by decide) ?_
  refine J.lw (lv' := [(0, .ref b), (1, .ref (ad 0)), (2, .ref (bd 0)), (3, .ref o1), (4, .ref o2), (5, .int i), (6, .int k)]) ⟨rfl, rfl, rfl, rfl, rfl, rfl, rfl, trivial⟩ ?_
  refine J.aload_n (i := 2) C dL_law_834 rfl rfl ?_
  refine J.aload_n (i := 0) C dL_law_835 rfl rfl ?_
  refine J.iload C dL_law_836 rfl ?_
  refine J.iconst C 1 dL_law_838 (by decide) ?_
  refine J.iadd C dL_law_839 ?_
  refine J.sld C hX hbl hbA h1 dL_law_840 ?_
  refine J.heq lz_mk ?_
  refine J.callVR (hp := mkh g bd (dk g ad σ1) (outs g o1 o2 w1)) C rfl (sp_X7_premise hl _) hy rfl kMl_L_209 mdX7_premise ⟨(Nat.le_of_ble_eq_true rfl), (Nat.le_of_ble_eq_true rfl)⟩ mk_0 rfl rfl (Nat.le_of_ble_eq_true rfl) dL_law_841 ⟨Nat.le_trans (Nat.add_le_add_left (Nat.le_of_ble_eq_true rfl : 3 + 0 ≤ 10) _) hf.1, Nat.le_trans (Nat.add_le_add_left (Nat.le_of_ble_eq_true rfl : 18 + 0 ≤ 60) _) hf.2⟩ ?_
  refine J.istore C dL_law_844 (by decide) ?_
  refine J.lw (lv' := [(0, .ref b), (1, .ref (ad 0)), (2, .ref (bd 0)), (3, .ref o1), (4, .ref o2), (5, .int i), (6, .int k), (7, .int r)]) ⟨rfl, rfl, rfl, rfl, rfl, rfl, rfl, rfl, trivial⟩ ?_
  refine J.aload_n (i := 2) C dL_law_846 rfl rfl ?_
  refine J.callVI C (sp_X7_thrown hl) rfl kMl_L_174 mdX7_thrown ⟨(Nat.le_of_ble_eq_true rfl), (Nat.le_of_ble_eq_true rfl)⟩ mk_0 rfl rfl (Nat.le_of_ble_eq_true rfl) dL_law_847 ⟨Nat.le_trans (Nat.add_le_add_left (Nat.le_of_ble_eq_true rfl : 3 + 0 + 0 ≤ 10) _) hf.1, Nat.le_trans (Nat.add_le_add_left (Nat.le_of_ble_eq_true rfl : 18 + 0 + 0 ≤ 60) _) hf.2⟩ ?_
  refine J.heq lz_mk.symm ?_
  refine J.widen (k := cells + 10) (n := slots + 60) (Nat.add_le_add_left (Nat.le_of_ble_eq_true rfl : 3 + 0 + 0 ≤ 10) _) (Nat.add_le_add_left (Nat.le_of_ble_eq_true rfl : 18 + 0 + 0 ≤ 60) _) ?_
  refine J.iload C dL_law_850 rfl ?_
  refine J.icmp_eq (tgt := 857) C dL_law_852 (by decide) (fun _ => ?_) (fun c9 => absurd hth c9)
  refine J.iload C dL_law_857 rfl ?_
  refine J.if_ne (tgt := 874) C dL_law_859 (by decide) (fun _ => ?_) (fun hk => ?_)
  · refine J.goto (tgt := 3020) C dL_law_874 (by decide) ?_
    exact J.lw (lv' := [(0, .ref b), (1, .ref (ad 0)), (2, .ref (bd 0)), (3, .ref o1), (4, .ref o2), (5, .int i)]) ⟨rfl, rfl, rfl, rfl, rfl, rfl, trivial⟩ (kk _ _ _ hI)
  · have hok := hok hk
    refine J.aload_n (i := 3) C dL_law_862 rfl rfl ?_
    refine J.iconst C 0 dL_law_863 (by decide) ?_
    refine J.lald C (66 + ((R9 g bd τ1).length + 0)) lw_0 (show vp_in 0 1 by unfold vp_in; decide) dL_law_864 ?_
    refine J.iload C dL_law_865 rfl ?_
    refine J.i2l C dL_law_867 ?_
    refine J.lcmp C dL_law_868 ?_
    refine J.if_eq (tgt := 874) C dL_law_869 (by decide) (fun _ => ?_) (fun c9 => absurd ((lg_cmp_eq _ _).mpr hok) c9)
    refine J.goto (tgt := 3020) C dL_law_874 (by decide) ?_
    exact J.lw (lv' := [(0, .ref b), (1, .ref (ad 0)), (2, .ref (bd 0)), (3, .ref o1), (4, .ref o2), (5, .int i)]) ⟨rfl, rfl, rfl, rfl, rfl, rfl, trivial⟩ (kk _ _ _ hI)
set_option maxRecDepth 100000 in
theorem case_11 {p : Program} {l : Launch} (hl : l.stackTraces = false) {e : Env} {s : State} {m : MethodId} {args : Array Value} {below : List Frame} {meth : Method} {c : Code} {g : Gy} {A : Nat → Prop} {Q : State → Prop} {cells slots b L o1 o2 : Nat} {xs : Nat → Int32} {ad bd : Nat → Nat} {i : Int32} {σ : DS} {τ : MS} {w : OS} {Inv : DS → MS → Prop} (C : Cx p l s m args meth c g A RL cL_law 9) (hX : va_X b L xs s s.heap) (hbl : b < s.heap.size) (hbA : ¬ A b) (hf : cells + 10 ≤ room_1.cells ∧ slots + 60 ≤ room_1.slots) (h1 : vp_in (i + 1) L) (HA : AgW okI Inv (W_L_assume σ w (xs (i + 1).toNatClampNeg)) (P_X7_assume τ (xs (i + 1).toNatClampNeg)))
    (kk : ∀ (σ' : DS) (τ' : MS) (w' : OS), Inv σ' τ' → J p l e room_1 s m args below meth c g A 9 (cells + 10) (slots + 60) Q 3020 [(0, .ref b), (1, .ref (ad 0)), (2, .ref (bd 0)), (3, .ref o1), (4, .ref o2), (5, .int i)] [] (lz g ad bd o1 o2 σ' τ' w')) : J p l e room_1 s m args below meth c g A 9 cells slots Q 877 [(0, .ref b), (1, .ref (ad 0)), (2, .ref (bd 0)), (3, .ref o1), (4, .ref o2), (5, .int i)] [] (lz g ad bd o1 o2 σ τ w) := by
  refine J.aload_n (i := 1) C dL_law_877 rfl rfl ?_
  refine J.aload_n (i := 0) C dL_law_878 rfl rfl ?_
  refine J.iload C dL_law_879 rfl ?_
  refine J.iconst C 1 dL_law_881 (by decide) ?_
  refine J.iadd C dL_law_882 ?_
  refine J.sld C hX hbl hbA h1 dL_law_883 ?_
  refine J.aload_n (i := 3) C dL_law_884 rfl rfl ?_
  obtain ⟨k, σ1, w1, r, τ1, hx, hy, hth, hok, hI⟩ := HA
  refine J.callSH C (sp_L_assume hl σ w _ (.inl k, (σ1, w1)) hx) rfl kMl_L_210 mdL_assume ⟨(Nat.le_of_ble_eq_true rfl), (Nat.le_of_ble_eq_true rfl)⟩ rfl (Nat.le_of_ble_eq_true rfl) dL_law_885 ⟨Nat.le_trans (Nat.add_le_add_left (Nat.le_of_ble_eq_true rfl : 2 ≤ 10) _) hf.1, Nat.le_trans (Nat.add_le_add_left (Nat.le_of_ble_eq_true rfl : 12 ≤ 60) _) hf.2⟩ (fun r9 u hu => ?_)
  obtain ⟨hu1, rfl⟩ := hu
  cases hu1
  refine J.istore C dL_law_888 (by decide) ?_
  refine J.lw (lv' := [(0, .ref b), (1, .ref (ad 0)), (2, .ref (bd 0)), (3, .ref o1), (4, .ref o2), (5, .int i), (6, .int k)]) ⟨rfl, rfl, rfl, rfl, rfl, rfl, rfl, trivial⟩ ?_
  refine J.aload_n (i := 2) C dL_law_890 rfl rfl ?_
  refine J.aload_n (i := 0) C dL_law_891 rfl rfl ?_
  refine J.iload C dL_law_892 rfl ?_
  refine J.iconst C 1 dL_law_894 (by decide) ?_
  refine J.iadd C dL_law_895 ?_
  refine J.sld C hX hbl hbA h1 dL_law_896 ?_
  refine J.heq lz_mk ?_
  refine J.callVR (hp := mkh g bd (dk g ad σ1) (outs g o1 o2 w1)) C rfl (sp_X7_assume hl _) hy rfl kMl_L_212 mdX7_assume ⟨(Nat.le_of_ble_eq_true rfl), (Nat.le_of_ble_eq_true rfl)⟩ mk_0 rfl rfl (Nat.le_of_ble_eq_true rfl) dL_law_897 ⟨Nat.le_trans (Nat.add_le_add_left (Nat.le_of_ble_eq_true rfl : 2 + 0 ≤ 10) _) hf.1, Nat.le_trans (Nat.add_le_add_left (Nat.le_of_ble_eq_true rfl : 12 + 0 ≤ 60) _) hf.2⟩ ?_
  refine J.istore C dL_law_900 (by decide) ?_
  refine J.lw (lv' := [(0, .ref b), (1, .ref (ad 0)), (2, .ref (bd 0)), (3, .ref o1), (4, .ref o2), (5, .int i), (6, .int k), (7, .int r)]) ⟨rfl, rfl, rfl, rfl, rfl, rfl, rfl, rfl, trivial⟩ ?_
  refine J.aload_n (i := 2) C dL_law_902 rfl rfl ?_
  refine J.callVI C (sp_X7_thrown hl) rfl kMl_L_174 mdX7_thrown ⟨(Nat.le_of_ble_eq_true rfl), (Nat.le_of_ble_eq_true rfl)⟩ mk_0 rfl rfl (Nat.le_of_ble_eq_true rfl) dL_law_903 ⟨Nat.le_trans (Nat.add_le_add_left (Nat.le_of_ble_eq_true rfl : 2 + 0 + 0 ≤ 10) _) hf.1, Nat.le_trans (Nat.add_le_add_left (Nat.le_of_ble_eq_true rfl : 12 + 0 + 0 ≤ 60) _) hf.2⟩ ?_
  refine J.heq lz_mk.symm ?_
  refine J.widen (k := cells + 10) (n := slots + 60) (Nat.add_le_add_left (Nat.le_of_ble_eq_true rfl : 2 + 0 + 0 ≤ 10) _) (Nat.add_le_add_left (Nat.le_of_ble_eq_true rfl : 12 + 0 + 0 ≤ 60) _) ?_
  refine J.iload C dL_law_906 rfl ?_
  refine J.icmp_eq (tgt := 913) C dL_law_908 (by decide) (fun _ => ?_) (fun c9 => absurd hth c9)
  refine J.iload C dL_law_913 rfl ?_
  refine J.if_ne (tgt := 930) C dL_law_915 (by decide) (fun _ => ?_) (fun hk => ?_)
  · refine J.goto (tgt := 3020) C dL_law_930 (by decide) ?_
    exact J.lw (lv' := [(0, .ref b), (1, .ref (ad 0)), (2, .ref (bd 0)), (3, .ref o1), (4, .ref o2), (5, .int i)]) ⟨rfl, rfl, rfl, rfl, rfl, rfl, trivial⟩ (kk _ _ _ hI)
  · have hok := hok hk
    refine J.aload_n (i := 3) C dL_law_918 rfl rfl ?_
    refine J.iconst C 0 dL_law_919 (by decide) ?_
    refine J.lald C (66 + ((R9 g bd τ1).length + 0)) lw_0 (show vp_in 0 1 by unfold vp_in; decide) dL_law_920 ?_
    refine J.iload C dL_law_921 rfl ?_
    refine J.i2l C dL_law_923 ?_
    refine J.lcmp C dL_law_924 ?_
    refine J.if_eq (tgt := 930) C dL_law_925 (by decide) (fun _ => ?_) (fun c9 => absurd ((lg_cmp_eq _ _).mpr hok) c9)
    refine J.goto (tgt := 3020) C dL_law_930 (by decide) ?_
    exact J.lw (lv' := [(0, .ref b), (1, .ref (ad 0)), (2, .ref (bd 0)), (3, .ref o1), (4, .ref o2), (5, .int i)]) ⟨rfl, rfl, rfl, rfl, rfl, rfl, trivial⟩ (kk _ _ _ hI)
set_option maxRecDepth 100000 in
theorem case_12 {p : Program} {l : Launch} (hl : l.stackTraces = false) {e : Env} {s : State} {m : MethodId} {args : Array Value} {below : List Frame} {meth : Method} {c : Code} {g : Gy} {A : Nat → Prop} {Q : State → Prop} {cells slots b L o1 o2 : Nat} {xs : Nat → Int32} {ad bd : Nat → Nat} {i : Int32} {σ : DS} {τ : MS} {w : OS} {Inv : DS → MS → Prop} (C : Cx p l s m args meth c g A RL cL_law 9) (hX : va_X b L xs s s.heap) (hbl : b < s.heap.size) (hbA : ¬ A b) (hf : cells + 10 ≤ room_1.cells ∧ slots + 60 ≤ room_1.slots) (HA : AgW okI Inv (W_L_closeBox σ w ) (P_X7_closeBox τ ))
    (kk : ∀ (σ' : DS) (τ' : MS) (w' : OS), Inv σ' τ' → J p l e room_1 s m args below meth c g A 9 (cells + 10) (slots + 60) Q 3020 [(0, .ref b), (1, .ref (ad 0)), (2, .ref (bd 0)), (3, .ref o1), (4, .ref o2), (5, .int i)] [] (lz g ad bd o1 o2 σ' τ' w')) : J p l e room_1 s m args below meth c g A 9 cells slots Q 933 [(0, .ref b), (1, .ref (ad 0)), (2, .ref (bd 0)), (3, .ref o1), (4, .ref o2), (5, .int i)] [] (lz g ad bd o1 o2 σ τ w) := by
  refine J.aload_n (i := 1) C dL_law_933 rfl rfl ?_
  refine J.aload_n (i := 3) C dL_law_934 rfl rfl ?_
  obtain ⟨k, σ1, w1, r, τ1, hx, hy, hth, hok, hI⟩ := HA
  refine J.callSH C (sp_L_closeBox hl σ w  (.inl k, (σ1, w1)) hx) rfl kMl_L_213 mdL_closeBox ⟨(Nat.le_of_ble_eq_true rfl), (Nat.le_of_ble_eq_true rfl)⟩ rfl (Nat.le_of_ble_eq_true rfl) dL_law_935 ⟨Nat.le_trans (Nat.add_le_add_left (Nat.le_of_ble_eq_true rfl : 1 ≤ 10) _) hf.1, Nat.le_trans (Nat.add_le_add_left (Nat.le_of_ble_eq_true rfl : 6 ≤ 60) _) hf.2⟩ (fun r9 u hu => ?_)
  obtain ⟨hu1, rfl⟩ := hu
  cases hu1
  refine J.istore C dL_law_938 (by decide) ?_
  refine J.lw (lv' := [(0, .ref b), (1, .ref (ad 0)), (2, .ref (bd 0)), (3, .ref o1), (4, .ref o2), (5, .int i), (6, .int k)]) ⟨rfl, rfl, rfl, rfl, rfl, rfl, rfl, trivial⟩ ?_
  refine J.aload_n (i := 2) C dL_law_940 rfl rfl ?_
  refine J.heq lz_mk ?_
  refine J.callVR (hp := mkh g bd (dk g ad σ1) (outs g o1 o2 w1)) C rfl (sp_X7_closeBox hl ) hy rfl kMl_L_215 mdX7_closeBox ⟨(Nat.le_of_ble_eq_true rfl), (Nat.le_of_ble_eq_true rfl)⟩ mk_0 rfl rfl (Nat.le_of_ble_eq_true rfl) dL_law_941 ⟨Nat.le_trans (Nat.add_le_add_left (Nat.le_of_ble_eq_true rfl : 1 + 0 ≤ 10) _) hf.1, Nat.le_trans (Nat.add_le_add_left (Nat.le_of_ble_eq_true rfl : 6 + 0 ≤ 60) _) hf.2⟩ ?_
  refine J.istore C dL_law_944 (by decide) ?_
  refine J.lw (lv' := [(0, .ref b), (1, .ref (ad 0)), (2, .ref (bd 0)), (3, .ref o1), (4, .ref o2), (5, .int i), (6, .int k), (7, .int r)]) ⟨rfl, rfl, rfl, rfl, rfl, rfl, rfl, rfl, trivial⟩ ?_
  refine J.aload_n (i := 2) C dL_law_946 rfl rfl ?_
  refine J.callVI C (sp_X7_thrown hl) rfl kMl_L_174 mdX7_thrown ⟨(Nat.le_of_ble_eq_true rfl), (Nat.le_of_ble_eq_true rfl)⟩ mk_0 rfl rfl (Nat.le_of_ble_eq_true rfl) dL_law_947 ⟨Nat.le_trans (Nat.add_le_add_left (Nat.le_of_ble_eq_true rfl : 1 + 0 + 0 ≤ 10) _) hf.1, Nat.le_trans (Nat.add_le_add_left (Nat.le_of_ble_eq_true rfl : 6 + 0 + 0 ≤ 60) _) hf.2⟩ ?_
  refine J.heq lz_mk.symm ?_
  refine J.widen (k := cells + 10) (n := slots + 60) (Nat.add_le_add_left (Nat.le_of_ble_eq_true rfl : 1 + 0 + 0 ≤ 10) _) (Nat.add_le_add_left (Nat.le_of_ble_eq_true rfl : 6 + 0 + 0 ≤ 60) _) ?_
  refine J.iload C dL_law_950 rfl ?_
  refine J.icmp_eq (tgt := 957) C dL_law_952 (by decide) (fun _ => ?_) (fun c9 => absurd hth c9)
  refine J.iload C dL_law_957 rfl ?_
  refine J.if_ne (tgt := 974) C dL_law_959 (by decide) (fun _ => ?_) (fun hk => ?_)
  · refine J.goto (tgt := 3020) C dL_law_974 (by decide) ?_
    exact J.lw (lv' := [(0, .ref b), (1, .ref (ad 0)), (2, .ref (bd 0)), (3, .ref o1), (4, .ref o2), (5, .int i)]) ⟨rfl, rfl, rfl, rfl, rfl, rfl, trivial⟩ (kk _ _ _ hI)
  · have hok := hok hk
    refine J.aload_n (i := 3) C dL_law_962 rfl rfl ?_
    refine J.iconst C 0 dL_law_963 (by decide) ?_
    refine J.lald C (66 + ((R9 g bd τ1).length + 0)) lw_0 (show vp_in 0 1 by unfold vp_in; decide) dL_law_964 ?_
    refine J.iload C dL_law_965 rfl ?_
    refine J.i2l C dL_law_967 ?_
    refine J.lcmp C dL_law_968 ?_
    refine J.if_eq (tgt := 974) C dL_law_969 (by decide) (fun _ => ?_) (fun c9 => absurd ((lg_cmp_eq _ _).mpr hok) c9)
    refine J.goto (tgt := 3020) C dL_law_974 (by decide) ?_
    exact J.lw (lv' := [(0, .ref b), (1, .ref (ad 0)), (2, .ref (bd 0)), (3, .ref o1), (4, .ref o2), (5, .int i)]) ⟨rfl, rfl, rfl, rfl, rfl, rfl, trivial⟩ (kk _ _ _ hI)
set_option maxRecDepth 100000 in
theorem case_13 {p : Program} {l : Launch} (hl : l.stackTraces = false) {e : Env} {s : State} {m : MethodId} {args : Array Value} {below : List Frame} {meth : Method} {c : Code} {g : Gy} {A : Nat → Prop} {Q : State → Prop} {cells slots b L o1 o2 : Nat} {xs : Nat → Int32} {ad bd : Nat → Nat} {i : Int32} {σ : DS} {τ : MS} {w : OS} {Inv : DS → MS → Prop} (C : Cx p l s m args meth c g A RL cL_law 9) (hX : va_X b L xs s s.heap) (hbl : b < s.heap.size) (hbA : ¬ A b) (hf : cells + 10 ≤ room_1.cells ∧ slots + 60 ≤ room_1.slots) (h1 : vp_in (i + 1) L) (HA : AgW okI Inv (W_L_repeat σ w (xs (i + 1).toNatClampNeg)) (P_X7_repeat τ (xs (i + 1).toNatClampNeg)))
    (kk : ∀ (σ' : DS) (τ' : MS) (w' : OS), Inv σ' τ' → J p l e room_1 s m args below meth c g A 9 (cells + 10) (slots + 60) Q 3020 [(0, .ref b), (1, .ref (ad 0)), (2, .ref (bd 0)), (3, .ref o1), (4, .ref o2), (5, .int i)] [] (lz g ad bd o1 o2 σ' τ' w')) : J p l e room_1 s m args below meth c g A 9 cells slots Q 977 [(0, .ref b), (1, .ref (ad 0)), (2, .ref (bd 0)), (3, .ref o1), (4, .ref o2), (5, .int i)] [] (lz g ad bd o1 o2 σ τ w) := by
  refine J.aload_n (i := 1) C dL_law_977 rfl rfl ?_
  refine J.aload_n (i := 0) C dL_law_978 rfl rfl ?_
  refine J.iload C dL_law_979 rfl ?_
  refine J.iconst C 1 dL_law_981 (by decide) ?_
  refine J.iadd C dL_law_982 ?_
  refine J.sld C hX hbl hbA h1 dL_law_983 ?_
  refine J.aload_n (i := 3) C dL_law_984 rfl rfl ?_
  obtain ⟨k, σ1, w1, r, τ1, hx, hy, hth, hok, hI⟩ := HA
  refine J.callSH C (sp_L_repeat hl σ w _ (.inl k, (σ1, w1)) hx) rfl kMl_L_216 mdL_repeat ⟨(Nat.le_of_ble_eq_true rfl), (Nat.le_of_ble_eq_true rfl)⟩ rfl (Nat.le_of_ble_eq_true rfl) dL_law_985 ⟨Nat.le_trans (Nat.add_le_add_left (Nat.le_of_ble_eq_true rfl : 3 ≤ 10) _) hf.1, Nat.le_trans (Nat.add_le_add_left (Nat.le_of_ble_eq_true rfl : 18 ≤ 60) _) hf.2⟩ (fun r9 u hu => ?_)
  obtain ⟨hu1, rfl⟩ := hu
  cases hu1
  refine J.istore C dL_law_988 (by decide) ?_
  refine J.lw (lv' := [(0, .ref b), (1, .ref (ad 0)), (2, .ref (bd 0)), (3, .ref o1), (4, .ref o2), (5, .int i), (6, .int k)]) ⟨rfl, rfl, rfl, rfl, rfl, rfl, rfl, trivial⟩ ?_
  refine J.aload_n (i := 2) C dL_law_990 rfl rfl ?_
  refine J.aload_n (i := 0) C dL_law_991 rfl rfl ?_
  refine J.iload C dL_law_992 rfl ?_
  refine J.iconst C 1 dL_law_994 (by decide) ?_
  refine J.iadd C dL_law_995 ?_
  refine J.sld C hX hbl hbA h1 dL_law_996 ?_
  refine J.heq lz_mk ?_
  refine J.callVR (hp := mkh g bd (dk g ad σ1) (outs g o1 o2 w1)) C rfl (sp_X7_repeat hl _) hy rfl kMl_L_218 mdX7_repeat ⟨(Nat.le_of_ble_eq_true rfl), (Nat.le_of_ble_eq_true rfl)⟩ mk_0 rfl rfl (Nat.le_of_ble_eq_true rfl) dL_law_997 ⟨Nat.le_trans (Nat.add_le_add_left (Nat.le_of_ble_eq_true rfl : 3 + 0 ≤ 10) _) hf.1, Nat.le_trans (Nat.add_le_add_left (Nat.le_of_ble_eq_true rfl : 18 + 0 ≤ 60) _) hf.2⟩ ?_
  refine J.istore C dL_law_1000 (by decide) ?_
  refine J.lw (lv' := [(0, .ref b), (1, .ref (ad 0)), (2, .ref (bd 0)), (3, .ref o1), (4, .ref o2), (5, .int i), (6, .int k), (7, .int r)]) ⟨rfl, rfl, rfl, rfl, rfl, rfl, rfl, rfl, trivial⟩ ?_
  refine J.aload_n (i := 2) C dL_law_1002 rfl rfl ?_
  refine J.callVI C (sp_X7_thrown hl) rfl kMl_L_174 mdX7_thrown ⟨(Nat.le_of_ble_eq_true rfl), (Nat.le_of_ble_eq_true rfl)⟩ mk_0 rfl rfl (Nat.le_of_ble_eq_true rfl) dL_law_1003 ⟨Nat.le_trans (Nat.add_le_add_left (Nat.le_of_ble_eq_true rfl : 3 + 0 + 0 ≤ 10) _) hf.1, Nat.le_trans (Nat.add_le_add_left (Nat.le_of_ble_eq_true rfl : 18 + 0 + 0 ≤ 60) _) hf.2⟩ ?_
  refine J.heq lz_mk.symm ?_
  refine J.widen (k := cells + 10) (n := slots + 60) (Nat.add_le_add_left (Nat.le_of_ble_eq_true rfl : 3 + 0 + 0 ≤ 10) _) (Nat.add_le_add_left (Nat.le_of_ble_eq_true rfl : 18 + 0 + 0 ≤ 60) _) ?_
  refine J.iload C dL_law_1006 rfl ?_
  refine J.icmp_eq (tgt := 1013) C dL_law_1008 (by decide) (fun _ => ?_) (fun c9 => absurd hth c9)
  refine J.iload C dL_law_1013 rfl ?_
  refine J.if_ne (tgt := 1030) C dL_law_1015 (by decide) (fun _ => ?_) (fun hk => ?_)
  · refine J.goto (tgt := 3020) C dL_law_1030 (by decide) ?_
    exact J.lw (lv' := [(0, .ref b), (1, .ref (ad 0)), (2, .ref (bd 0)), (3, .ref o1), (4, .ref o2), (5, .int i)]) ⟨rfl, rfl, rfl, rfl, rfl, rfl, trivial⟩ (kk _ _ _ hI)
  · have hok := hok hk
    refine J.aload_n (i := 3) C dL_law_1018 rfl rfl ?_
    refine J.iconst C 0 dL_law_1019 (by decide) ?_
    refine J.lald C (66 + ((R9 g bd τ1).length + 0)) lw_0 (show vp_in 0 1 by unfold vp_in; decide) dL_law_1020 ?_
    refine J.iload C dL_law_1021 rfl ?_
    refine J.i2l C dL_law_1023 ?_
    refine J.lcmp C dL_law_1024 ?_
    refine J.if_eq (tgt := 1030) C dL_law_1025 (by decide) (fun _ => ?_) (fun c9 => absurd ((lg_cmp_eq _ _).mpr hok) c9)
    refine J.goto (tgt := 3020) C dL_law_1030 (by decide) ?_
    exact J.lw (lv' := [(0, .ref b), (1, .ref (ad 0)), (2, .ref (bd 0)), (3, .ref o1), (4, .ref o2), (5, .int i)]) ⟨rfl, rfl, rfl, rfl, rfl, rfl, trivial⟩ (kk _ _ _ hI)
set_option maxRecDepth 100000 in
theorem case_14 {p : Program} {l : Launch} (hl : l.stackTraces = false) {e : Env} {s : State} {m : MethodId} {args : Array Value} {below : List Frame} {meth : Method} {c : Code} {g : Gy} {A : Nat → Prop} {Q : State → Prop} {cells slots b L o1 o2 : Nat} {xs : Nat → Int32} {ad bd : Nat → Nat} {i : Int32} {σ : DS} {τ : MS} {w : OS} {Inv : DS → MS → Prop} (C : Cx p l s m args meth c g A RL cL_law 9) (hX : va_X b L xs s s.heap) (hbl : b < s.heap.size) (hbA : ¬ A b) (hf : cells + 10 ≤ room_1.cells ∧ slots + 60 ≤ room_1.slots) (h1 : vp_in (i + 1) L) (h2 : vp_in (i + 2) L) (HA : AgW okI Inv (W_L_makeConjunction σ w (xs (i + 1).toNatClampNeg) (xs (i + 2).toNatClampNeg)) (P_X7_makeConjunction τ (xs (i + 1).toNatClampNeg) (xs (i + 2).toNatClampNeg)))
    (kk : ∀ (σ' : DS) (τ' : MS) (w' : OS), Inv σ' τ' → J p l e room_1 s m args below meth c g A 9 (cells + 10) (slots + 60) Q 3020 [(0, .ref b), (1, .ref (ad 0)), (2, .ref (bd 0)), (3, .ref o1), (4, .ref o2), (5, .int i)] [] (lz g ad bd o1 o2 σ' τ' w')) : J p l e room_1 s m args below meth c g A 9 cells slots Q 1033 [(0, .ref b), (1, .ref (ad 0)), (2, .ref (bd 0)), (3, .ref o1), (4, .ref o2), (5, .int i)] [] (lz g ad bd o1 o2 σ τ w) := by
  refine J.aload_n (i := 1) C dL_law_1033 rfl rfl ?_
  refine J.aload_n (i := 0) C dL_law_1034 rfl rfl ?_
  refine J.iload C dL_law_1035 rfl ?_
  refine J.iconst C 1 dL_law_1037 (by decide) ?_
  refine J.iadd C dL_law_1038 ?_
  refine J.sld C hX hbl hbA h1 dL_law_1039 ?_
  refine J.aload_n (i := 0) C dL_law_1040 rfl rfl ?_
  refine J.iload C dL_law_1041 rfl ?_
  refine J.iconst C 2 dL_law_1043 (by decide) ?_
  refine J.iadd C dL_law_1044 ?_
  refine J.sld C hX hbl hbA h2 dL_law_1045 ?_
  refine J.aload_n (i := 3) C dL_law_1046 rfl rfl ?_
  obtain ⟨k, σ1, w1, r, τ1, hx, hy, hth, hok, hI⟩ := HA
  refine J.callSH C (sp_L_makeConjunction hl σ w _ _ (.inl k, (σ1, w1)) hx) rfl kMl_L_219 mdL_makeConjunction ⟨(Nat.le_of_ble_eq_true rfl), (Nat.le_of_ble_eq_true rfl)⟩ rfl (Nat.le_of_ble_eq_true rfl) dL_law_1047 ⟨Nat.le_trans (Nat.add_le_add_left (Nat.le_of_ble_eq_true rfl : 6 ≤ 10) _) hf.1, Nat.le_trans (Nat.add_le_add_left (Nat.le_of_ble_eq_true rfl : 36 ≤ 60) _) hf.2⟩ (fun r9 u hu => ?_)
  obtain ⟨hu1, rfl⟩ := hu
  cases hu1
  refine J.istore C dL_law_1050 (by decide) ?_
  refine J.lw (lv' := [(0, .ref b), (1, .ref (ad 0)), (2, .ref (bd 0)), (3, .ref o1), (4, .ref o2), (5, .int i), (6, .int k)]) ⟨rfl, rfl, rfl, rfl, rfl, rfl, rfl, trivial⟩ ?_
  refine J.aload_n (i := 2) C dL_law_1052 rfl rfl ?_
  refine J.aload_n (i := 0) C dL_law_1053 rfl rfl ?_
  refine J.iload C dL_law_1054 rfl ?_
  refine J.iconst C 1 dL_law_1056 (by decide) ?_
  refine J.iadd C dL_law_1057 ?_
  refine J.sld C hX hbl hbA h1 dL_law_1058 ?_
  refine J.aload_n (i := 0) C dL_law_1059 rfl rfl ?_
  refine J.iload C dL_law_1060 rfl ?_
  refine J.iconst C 2 dL_law_1062 (by decide) ?_
  refine J.iadd C dL_law_1063 ?_
  refine J.sld C hX hbl hbA h2 dL_law_1064 ?_
  refine J.heq lz_mk ?_
  refine J.callVR (hp := mkh g bd (dk g ad σ1) (outs g o1 o2 w1)) C rfl (sp_X7_makeConjunction hl _ _) hy rfl kMl_L_221 mdX7_makeConjunction ⟨(Nat.le_of_ble_eq_true rfl), (Nat.le_of_ble_eq_true rfl)⟩ mk_0 rfl rfl (Nat.le_of_ble_eq_true rfl) dL_law_1065 ⟨Nat.le_trans (Nat.add_le_add_left (Nat.le_of_ble_eq_true rfl : 6 + 0 ≤ 10) _) hf.1, Nat.le_trans (Nat.add_le_add_left (Nat.le_of_ble_eq_true rfl : 36 + 0 ≤ 60) _) hf.2⟩ ?_
  refine J.istore C dL_law_1068 (by decide) ?_
  refine J.lw (lv' := [(0, .ref b), (1, .ref (ad 0)), (2, .ref (bd 0)), (3, .ref o1), (4, .ref o2), (5, .int i), (6, .int k), (7, .int r)]) ⟨rfl, rfl, rfl, rfl, rfl, rfl, rfl, rfl, trivial⟩ ?_
  refine J.aload_n (i := 2) C dL_law_1070 rfl rfl ?_
  refine J.callVI C (sp_X7_thrown hl) rfl kMl_L_174 mdX7_thrown ⟨(Nat.le_of_ble_eq_true rfl), (Nat.le_of_ble_eq_true rfl)⟩ mk_0 rfl rfl (Nat.le_of_ble_eq_true rfl) dL_law_1071 ⟨Nat.le_trans (Nat.add_le_add_left (Nat.le_of_ble_eq_true rfl : 6 + 0 + 0 ≤ 10) _) hf.1, Nat.le_trans (Nat.add_le_add_left (Nat.le_of_ble_eq_true rfl : 36 + 0 + 0 ≤ 60) _) hf.2⟩ ?_
  refine J.heq lz_mk.symm ?_
  refine J.widen (k := cells + 10) (n := slots + 60) (Nat.add_le_add_left (Nat.le_of_ble_eq_true rfl : 6 + 0 + 0 ≤ 10) _) (Nat.add_le_add_left (Nat.le_of_ble_eq_true rfl : 36 + 0 + 0 ≤ 60) _) ?_
  refine J.iload C dL_law_1074 rfl ?_
  refine J.icmp_eq (tgt := 1081) C dL_law_1076 (by decide) (fun _ => ?_) (fun c9 => absurd hth c9)
  refine J.iload C dL_law_1081 rfl ?_
  refine J.if_ne (tgt := 1098) C dL_law_1083 (by decide) (fun _ => ?_) (fun hk => ?_)
  · refine J.goto (tgt := 3020) C dL_law_1098 (by decide) ?_
    exact J.lw (lv' := [(0, .ref b), (1, .ref (ad 0)), (2, .ref (bd 0)), (3, .ref o1), (4, .ref o2), (5, .int i)]) ⟨rfl, rfl, rfl, rfl, rfl, rfl, trivial⟩ (kk _ _ _ hI)
  · have hok := hok hk
    refine J.aload_n (i := 3) C dL_law_1086 rfl rfl ?_
    refine J.iconst C 0 dL_law_1087 (by decide) ?_
    refine J.lald C (66 + ((R9 g bd τ1).length + 0)) lw_0 (show vp_in 0 1 by unfold vp_in; decide) dL_law_1088 ?_
    refine J.iload C dL_law_1089 rfl ?_
    refine J.i2l C dL_law_1091 ?_
    refine J.lcmp C dL_law_1092 ?_
    refine J.if_eq (tgt := 1098) C dL_law_1093 (by decide) (fun _ => ?_) (fun c9 => absurd ((lg_cmp_eq _ _).mpr hok) c9)
    refine J.goto (tgt := 3020) C dL_law_1098 (by decide) ?_
    exact J.lw (lv' := [(0, .ref b), (1, .ref (ad 0)), (2, .ref (bd 0)), (3, .ref o1), (4, .ref o2), (5, .int i)]) ⟨rfl, rfl, rfl, rfl, rfl, rfl, trivial⟩ (kk _ _ _ hI)
set_option maxRecDepth 100000 in
theorem case_15 {p : Program} {l : Launch} (hl : l.stackTraces = false) {e : Env} {s : State} {m : MethodId} {args : Array Value} {below : List Frame} {meth : Method} {c : Code} {g : Gy} {A : Nat → Prop} {Q : State → Prop} {cells slots b L o1 o2 : Nat} {xs : Nat → Int32} {ad bd : Nat → Nat} {i : Int32} {σ : DS} {τ : MS} {w : OS} {Inv : DS → MS → Prop} (C : Cx p l s m args meth c g A RL cL_law 9) (hX : va_X b L xs s s.heap) (hbl : b < s.heap.size) (hbA : ¬ A b) (hf : cells + 10 ≤ room_1.cells ∧ slots + 60 ≤ room_1.slots) (h1 : vp_in (i + 1) L) (h2 : vp_in (i + 2) L) (HA : AgW okI Inv (W_L_useConjunction σ w (xs (i + 1).toNatClampNeg) (nz (xs (i + 2).toNatClampNeg))) (P_X7_useConjunction τ (xs (i + 1).toNatClampNeg) (nz (xs (i + 2).toNatClampNeg))))
    (kk : ∀ (σ' : DS) (τ' : MS) (w' : OS), Inv σ' τ' → J p l e room_1 s m args below meth c g A 9 (cells + 10) (slots + 60) Q 3020 [(0, .ref b), (1, .ref (ad 0)), (2, .ref (bd 0)), (3, .ref o1), (4, .ref o2), (5, .int i)] [] (lz g ad bd o1 o2 σ' τ' w')) : J p l e room_1 s m args below meth c g A 9 cells slots Q 1101 [(0, .ref b), (1, .ref (ad 0)), (2, .ref (bd 0)), (3, .ref o1), (4, .ref o2), (5, .int i)] [] (lz g ad bd o1 o2 σ τ w) := by
  refine J.aload_n (i := 1) C dL_law_1101 rfl rfl ?_
  refine J.aload_n (i := 0) C dL_law_1102 rfl rfl ?_
  refine J.iload C dL_law_1103 rfl ?_
  refine J.iconst C 1 dL_law_1105 (by decide) ?_
  refine J.iadd C dL_law_1106 ?_
  refine J.sld C hX hbl hbA h1 dL_law_1107 ?_
  refine J.aload_n (i := 0) C dL_law_1108 rfl rfl ?_
  refine J.iload C dL_law_1109 rfl ?_
  refine J.iconst C 2 dL_law_1111 (by decide) ?_
  refine J.iadd C dL_law_1112 ?_
  refine J.sld C hX hbl hbA h2 dL_law_1113 ?_
  refine J.nzR (t1 := 1121) (t2 := 1122) C dL_law_1114 (by decide) dL_law_1117 (by decide) dL_law_1118 (by decide) dL_law_1121 (by decide) rfl ?_
  refine J.aload_n (i := 3) C dL_law_1122 rfl rfl ?_
  obtain ⟨k, σ1, w1, r, τ1, hx, hy, hth, hok, hI⟩ := HA
  refine J.callSH C (sp_L_useConjunction hl σ w _ _ (.inl k, (σ1, w1)) hx) rfl kMl_L_222 mdL_useConjunction ⟨(Nat.le_of_ble_eq_true rfl), (Nat.le_of_ble_eq_true rfl)⟩ rfl (Nat.le_of_ble_eq_true rfl) dL_law_1123 ⟨Nat.le_trans (Nat.add_le_add_left (Nat.le_of_ble_eq_true rfl : 4 ≤ 10) _) hf.1, Nat.le_trans (Nat.add_le_add_left (Nat.le_of_ble_eq_true rfl : 24 ≤ 60) _) hf.2⟩ (fun r9 u hu => ?_)
  obtain ⟨hu1, rfl⟩ := hu
  cases hu1
  refine J.istore C dL_law_1126 (by decide) ?_
  refine J.lw (lv' := [(0, .ref b), (1, .ref (ad 0)), (2, .ref (bd 0)), (3, .ref o1), (4, .ref o2), (5, .int i), (6, .int k)]) ⟨rfl, rfl, rfl, rfl, rfl, rfl, rfl, trivial⟩ ?_
  refine J.aload_n (i := 2) C dL_law_1128 rfl rfl ?_
  refine J.aload_n (i := 0) C dL_law_1129 rfl rfl ?_
  refine J.iload C dL_law_1130 rfl ?_
  refine J.iconst C 1 dL_law_1132 (by decide) ?_
  refine J.iadd C dL_law_1133 ?_
  refine J.sld C hX hbl hbA h1 dL_law_1134 ?_
  refine J.aload_n (i := 0) C dL_law_1135 rfl rfl ?_
  refine J.iload C dL_law_1136 rfl ?_
  refine J.iconst C 2 dL_law_1138 (by decide) ?_
  refine J.iadd C dL_law_1139 ?_
  refine J.sld C hX hbl hbA h2 dL_law_1140 ?_
  refine J.nzR (t1 := 1148) (t2 := 1149) C dL_law_1141 (by decide) dL_law_1144 (by decide) dL_law_1145 (by decide) dL_law_1148 (by decide) rfl ?_
  refine J.heq lz_mk ?_
  refine J.callVR (hp := mkh g bd (dk g ad σ1) (outs g o1 o2 w1)) C rfl (sp_X7_useConjunction hl _ _) hy rfl kMl_L_225 mdX7_useConjunction ⟨(Nat.le_of_ble_eq_true rfl), (Nat.le_of_ble_eq_true rfl)⟩ mk_0 rfl rfl (Nat.le_of_ble_eq_true rfl) dL_law_1149 ⟨Nat.le_trans (Nat.add_le_add_left (Nat.le_of_ble_eq_true rfl : 4 + 0 ≤ 10) _) hf.1, Nat.le_trans (Nat.add_le_add_left (Nat.le_of_ble_eq_true rfl : 24 + 0 ≤ 60) _) hf.2⟩ ?_
  refine J.istore C dL_law_1152 (by decide) ?_
  refine J.lw (lv' := [(0, .ref b), (1, .ref (ad 0)), (2, .ref (bd 0)), (3, .ref o1), (4, .ref o2), (5, .int i), (6, .int k), (7, .int r)]) ⟨rfl, rfl, rfl, rfl, rfl, rfl, rfl, rfl, trivial⟩ ?_
  refine J.aload_n (i := 2) C dL_law_1154 rfl rfl ?_
  refine J.callVI C (sp_X7_thrown hl) rfl kMl_L_174 mdX7_thrown ⟨(Nat.le_of_ble_eq_true rfl), (Nat.le_of_ble_eq_true rfl)⟩ mk_0 rfl rfl (Nat.le_of_ble_eq_true rfl) dL_law_1155 ⟨Nat.le_trans (Nat.add_le_add_left (Nat.le_of_ble_eq_true rfl : 4 + 0 + 0 ≤ 10) _) hf.1, Nat.le_trans (Nat.add_le_add_left (Nat.le_of_ble_eq_true rfl : 24 + 0 + 0 ≤ 60) _) hf.2⟩ ?_
  refine J.heq lz_mk.symm ?_
  refine J.widen (k := cells + 10) (n := slots + 60) (Nat.add_le_add_left (Nat.le_of_ble_eq_true rfl : 4 + 0 + 0 ≤ 10) _) (Nat.add_le_add_left (Nat.le_of_ble_eq_true rfl : 24 + 0 + 0 ≤ 60) _) ?_
  refine J.iload C dL_law_1158 rfl ?_
  refine J.icmp_eq (tgt := 1165) C dL_law_1160 (by decide) (fun _ => ?_) (fun c9 => absurd hth c9)
  refine J.iload C dL_law_1165 rfl ?_
  refine J.if_ne (tgt := 1182) C dL_law_1167 (by decide) (fun _ => ?_) (fun hk => ?_)
  · refine J.goto (tgt := 3020) C dL_law_1182 (by decide) ?_
    exact J.lw (lv' := [(0, .ref b), (1, .ref (ad 0)), (2, .ref (bd 0)), (3, .ref o1), (4, .ref o2), (5, .int i)]) ⟨rfl, rfl, rfl, rfl, rfl, rfl, trivial⟩ (kk _ _ _ hI)
  · have hok := hok hk
    refine J.aload_n (i := 3) C dL_law_1170 rfl rfl ?_
    refine J.iconst C 0 dL_law_1171 (by decide) ?_
    refine J.lald C (66 + ((R9 g bd τ1).length + 0)) lw_0 (show vp_in 0 1 by unfold vp_in; decide) dL_law_1172 ?_
    refine J.iload C dL_law_1173 rfl ?_
    refine J.i2l C dL_law_1175 ?_
    refine J.lcmp C dL_law_1176 ?_
    refine J.if_eq (tgt := 1182) C dL_law_1177 (by decide) (fun _ => ?_) (fun c9 => absurd ((lg_cmp_eq _ _).mpr hok) c9)
    refine J.goto (tgt := 3020) C dL_law_1182 (by decide) ?_
    exact J.lw (lv' := [(0, .ref b), (1, .ref (ad 0)), (2, .ref (bd 0)), (3, .ref o1), (4, .ref o2), (5, .int i)]) ⟨rfl, rfl, rfl, rfl, rfl, rfl, trivial⟩ (kk _ _ _ hI)
set_option maxRecDepth 100000 in
theorem case_16 {p : Program} {l : Launch} (hl : l.stackTraces = false) {e : Env} {s : State} {m : MethodId} {args : Array Value} {below : List Frame} {meth : Method} {c : Code} {g : Gy} {A : Nat → Prop} {Q : State → Prop} {cells slots b L o1 o2 : Nat} {xs : Nat → Int32} {ad bd : Nat → Nat} {i : Int32} {σ : DS} {τ : MS} {w : OS} {Inv : DS → MS → Prop} (C : Cx p l s m args meth c g A RL cL_law 9) (hX : va_X b L xs s s.heap) (hbl : b < s.heap.size) (hbA : ¬ A b) (hf : cells + 10 ≤ room_1.cells ∧ slots + 60 ≤ room_1.slots) (h1 : vp_in (i + 1) L) (h2 : vp_in (i + 2) L) (h3 : vp_in (i + 3) L) (HA : AgW okI Inv (W_L_makeDisjunction σ w (xs (i + 1).toNatClampNeg) (xs (i + 2).toNatClampNeg) (nz (xs (i + 3).toNatClampNeg))) (P_X7_makeDisjunction τ (xs (i + 1).toNatClampNeg) (xs (i + 2).toNatClampNeg) (nz (xs (i + 3).toNatClampNeg))))
    (kk : ∀ (σ' : DS) (τ' : MS) (w' : OS), Inv σ' τ' → J p l e room_1 s m args below meth c g A 9 (cells + 10) (slots + 60) Q 3020 [(0, .ref b), (1, .ref (ad 0)), (2, .ref (bd 0)), (3, .ref o1), (4, .ref o2), (5, .int i)] [] (lz g ad bd o1 o2 σ' τ' w')) : J p l e room_1 s m args below meth c g A 9 cells slots Q 1185 [(0, .ref b), (1, .ref (ad 0)), (2, .ref (bd 0)), (3, .ref o1), (4, .ref o2), (5, .int i)] [] (lz g ad bd o1 o2 σ τ w) := by
  refine J.aload_n (i := 1) C dL_law_1185 rfl rfl ?_
  refine J.aload_n (i := 0) C dL_law_1186 rfl rfl ?_
  refine J.iload C dL_law_1187 rfl ?_
  refine J.iconst C 1 dL_law_1189 (by decide) ?_
  refine J.iadd C dL_law_1190 ?_
  refine J.sld C hX hbl hbA h1 dL_law_1191 ?_
  refine J.aload_n (i := 0) C dL_law_1192 rfl rfl ?_
  refine J.iload C dL_law_1193 rfl ?_
  refine J.iconst C 2 dL_law_1195 (by decide) ?_
  refine J.iadd C dL_law_1196 ?_
  refine J.sld C hX hbl hbA h2 dL_law_1197 ?_
  refine J.aload_n (i := 0) C dL_law_1198 rfl rfl ?_
  refine J.iload C dL_law_1199 rfl ?_
  refine J.iconst C 3 dL_law_1201 (by decide) ?_
  refine J.iadd C dL_law_1202 ?_
  refine J.sld C hX hbl hbA h3 dL_law_1203 ?_
  refine J.nzR (t1 := 1211) (t2 := 1212) C dL_law_1204 (by decide) dL_law_1207 (by decide) dL_law_1208 (by decide) dL_law_1211 (by decide) rfl ?_
  refine J.aload_n (i := 3) C dL_law_1212 rfl rfl ?_
  obtain ⟨k, σ1, w1, r, τ1, hx, hy, hth, hok, hI⟩ := HA
  refine J.callSH C (sp_L_makeDisjunction hl σ w _ _ _ (.inl k, (σ1, w1)) hx) rfl kMl_L_226 mdL_makeDisjunction ⟨(Nat.le_of_ble_eq_true rfl), (Nat.le_of_ble_eq_true rfl)⟩ rfl (Nat.le_of_ble_eq_true rfl) dL_law_1213 ⟨Nat.le_trans (Nat.add_le_add_left (Nat.le_of_ble_eq_true rfl : 5 ≤ 10) _) hf.1, Nat.le_trans (Nat.add_le_add_left (Nat.le_of_ble_eq_true rfl : 30 ≤ 60) _) hf.2⟩ (fun r9 u hu => ?_)
  obtain ⟨hu1, rfl⟩ := hu
  cases hu1
  refine J.istore C dL_law_1216 (by decide) ?_
  refine J.lw (lv' := [(0, .ref b), (1, .ref (ad 0)), (2, .ref (bd 0)), (3, .ref o1), (4, .ref o2), (5, .int i), (6, .int k)]) ⟨rfl, rfl, rfl, rfl, rfl, rfl, rfl, trivial⟩ ?_
  refine J.aload_n (i := 2) C dL_law_1218 rfl rfl ?_
  refine J.aload_n (i := 0) C dL_law_1219 rfl rfl ?_
  refine J.iload C dL_law_1220 rfl ?_
  refine J.iconst C 1 dL_law_1222 (by decide) ?_
  refine J.iadd C dL_law_1223 ?_
  refine J.sld C hX hbl hbA h1 dL_law_1224 ?_
  refine J.aload_n (i := 0) C dL_law_1225 rfl rfl ?_
  refine J.iload C dL_law_1226 rfl ?_
  refine J.iconst C 2 dL_law_1228 (by decide) ?_
  refine J.iadd C dL_law_1229 ?_
  refine J.sld C hX hbl hbA h2 dL_law_1230 ?_
  refine J.aload_n (i := 0) C dL_law_1231 rfl rfl ?_
  refine J.iload C dL_law_1232 rfl ?_
  refine J.iconst C 3 dL_law_1234 (by decide) ?_
  refine J.iadd C dL_law_1235 ?_
  refine J.sld C hX hbl hbA h3 dL_law_1236 ?_
  refine J.nzR (t1 := 1244) (t2 := 1245) C dL_law_1237 (by decide) dL_law_1240 (by decide) dL_law_1241 (by decide) dL_law_1244 (by decide) rfl ?_
  refine J.heq lz_mk ?_
  refine J.callVR (hp := mkh g bd (dk g ad σ1) (outs g o1 o2 w1)) C rfl (sp_X7_makeDisjunction hl _ _ _) hy rfl kMl_L_229 mdX7_makeDisjunction ⟨(Nat.le_of_ble_eq_true rfl), (Nat.le_of_ble_eq_true rfl)⟩ mk_0 rfl rfl (Nat.le_of_ble_eq_true rfl) dL_law_1245 ⟨Nat.le_trans (Nat.add_le_add_left (Nat.le_of_ble_eq_true rfl : 5 + 0 ≤ 10) _) hf.1, Nat.le_trans (Nat.add_le_add_left (Nat.le_of_ble_eq_true rfl : 30 + 0 ≤ 60) _) hf.2⟩ ?_
  refine J.istore C dL_law_1248 (by decide) ?_
  refine J.lw (lv' := [(0, .ref b), (1, .ref (ad 0)), (2, .ref (bd 0)), (3, .ref o1), (4, .ref o2), (5, .int i), (6, .int k), (7, .int r)]) ⟨rfl, rfl, rfl, rfl, rfl, rfl, rfl, rfl, trivial⟩ ?_
  refine J.aload_n (i := 2) C dL_law_1250 rfl rfl ?_
  refine J.callVI C (sp_X7_thrown hl) rfl kMl_L_174 mdX7_thrown ⟨(Nat.le_of_ble_eq_true rfl), (Nat.le_of_ble_eq_true rfl)⟩ mk_0 rfl rfl (Nat.le_of_ble_eq_true rfl) dL_law_1251 ⟨Nat.le_trans (Nat.add_le_add_left (Nat.le_of_ble_eq_true rfl : 5 + 0 + 0 ≤ 10) _) hf.1, Nat.le_trans (Nat.add_le_add_left (Nat.le_of_ble_eq_true rfl : 30 + 0 + 0 ≤ 60) _) hf.2⟩ ?_
  refine J.heq lz_mk.symm ?_
  refine J.widen (k := cells + 10) (n := slots + 60) (Nat.add_le_add_left (Nat.le_of_ble_eq_true rfl : 5 + 0 + 0 ≤ 10) _) (Nat.add_le_add_left (Nat.le_of_ble_eq_true rfl : 30 + 0 + 0 ≤ 60) _) ?_
  refine J.iload C dL_law_1254 rfl ?_
  refine J.icmp_eq (tgt := 1261) C dL_law_1256 (by decide) (fun _ => ?_) (fun c9 => absurd hth c9)
  refine J.iload C dL_law_1261 rfl ?_
  refine J.if_ne (tgt := 1278) C dL_law_1263 (by decide) (fun _ => ?_) (fun hk => ?_)
  · refine J.goto (tgt := 3020) C dL_law_1278 (by decide) ?_
    exact J.lw (lv' := [(0, .ref b), (1, .ref (ad 0)), (2, .ref (bd 0)), (3, .ref o1), (4, .ref o2), (5, .int i)]) ⟨rfl, rfl, rfl, rfl, rfl, rfl, trivial⟩ (kk _ _ _ hI)
  · have hok := hok hk
    refine J.aload_n (i := 3) C dL_law_1266 rfl rfl ?_
    refine J.iconst C 0 dL_law_1267 (by decide) ?_
    refine J.lald C (66 + ((R9 g bd τ1).length + 0)) lw_0 (show vp_in 0 1 by unfold vp_in; decide) dL_law_1268 ?_
    refine J.iload C dL_law_1269 rfl ?_
    refine J.i2l C dL_law_1271 ?_
    refine J.lcmp C dL_law_1272 ?_
    refine J.if_eq (tgt := 1278) C dL_law_1273 (by decide) (fun _ => ?_) (fun c9 => absurd ((lg_cmp_eq _ _).mpr hok) c9)
    refine J.goto (tgt := 3020) C dL_law_1278 (by decide) ?_
    exact J.lw (lv' := [(0, .ref b), (1, .ref (ad 0)), (2, .ref (bd 0)), (3, .ref o1), (4, .ref o2), (5, .int i)]) ⟨rfl, rfl, rfl, rfl, rfl, rfl, trivial⟩ (kk _ _ _ hI)
set_option maxRecDepth 100000 in
theorem case_17 {p : Program} {l : Launch} (hl : l.stackTraces = false) {e : Env} {s : State} {m : MethodId} {args : Array Value} {below : List Frame} {meth : Method} {c : Code} {g : Gy} {A : Nat → Prop} {Q : State → Prop} {cells slots b L o1 o2 : Nat} {xs : Nat → Int32} {ad bd : Nat → Nat} {i : Int32} {σ : DS} {τ : MS} {w : OS} {Inv : DS → MS → Prop} (C : Cx p l s m args meth c g A RL cL_law 9) (hX : va_X b L xs s s.heap) (hbl : b < s.heap.size) (hbA : ¬ A b) (hf : cells + 10 ≤ room_1.cells ∧ slots + 60 ≤ room_1.slots) (h1 : vp_in (i + 1) L) (h2 : vp_in (i + 2) L) (h3 : vp_in (i + 3) L) (HA : AgW okI Inv (W_L_useDisjunction σ w (xs (i + 1).toNatClampNeg) (xs (i + 2).toNatClampNeg) (xs (i + 3).toNatClampNeg)) (P_X7_useDisjunction τ (xs (i + 1).toNatClampNeg) (xs (i + 2).toNatClampNeg) (xs (i + 3).toNatClampNeg)))
    (kk : ∀ (σ' : DS) (τ' : MS) (w' : OS), Inv σ' τ' → J p l e room_1 s m args below meth c g A 9 (cells + 10) (slots + 60) Q 3020 [(0, .ref b), (1, .ref (ad 0)), (2, .ref (bd 0)), (3, .ref o1), (4, .ref o2), (5, .int i)] [] (lz g ad bd o1 o2 σ' τ' w')) : J p l e room_1 s m args below meth c g A 9 cells slots Q 1281 [(0, .ref b), (1, .ref (ad 0)), (2, .ref (bd 0)), (3, .ref o1), (4, .ref o2), (5, .int i)] [] (lz g ad bd o1 o2 σ τ w) := by
  refine J.aload_n (i := 1) C dL_law_1281 rfl rfl ?_
  refine J.aload_n (i := 0) C dL_law_1282 rfl rfl ?_
  refine J.iload C dL_law_1283 rfl ?_
  refine J.iconst C 1 dL_law_1285 (by decide) ?_
  refine J.iadd C dL_law_1286 ?_
  refine J.sld C hX hbl hbA h1 dL_law_1287 ?_
  refine J.aload_n (i := 0) C dL_law_1288 rfl rfl ?_
  refine J.iload C dL_law_1289 rfl ?_
  refine J.iconst C 2 dL_law_1291 (by decide) ?_
  refine J.iadd C dL_law_1292 ?_
  refine J.sld C hX hbl hbA h2 dL_law_1293 ?_
  refine J.aload_n (i := 0) C dL_law_1294 rfl rfl ?_
  refine J.iload C dL_law_1295 rfl ?_
  refine J.iconst C 3 dL_law_1297 (by decide) ?_
  refine J.iadd C dL_law_1298 ?_
  refine J.sld C hX hbl hbA h3 dL_law_1299 ?_
  refine J.aload_n (i := 3) C dL_law_1300 rfl rfl ?_
  obtain ⟨k, σ1, w1, r, τ1, hx, hy, hth, hok, hI⟩ := HA
  refine J.callSH C (sp_L_useDisjunction hl σ w _ _ _ (.inl k, (σ1, w1)) hx) rfl kMl_L_230 mdL_useDisjunction ⟨(Nat.le_of_ble_eq_true rfl), (Nat.le_of_ble_eq_true rfl)⟩ rfl (Nat.le_of_ble_eq_true rfl) dL_law_1301 ⟨Nat.le_trans (Nat.add_le_add_left (Nat.le_of_ble_eq_true rfl : 10 ≤ 10) _) hf.1, Nat.le_trans (Nat.add_le_add_left (Nat.le_of_ble_eq_true rfl : 60 ≤ 60) _) hf.2⟩ (fun r9 u hu => ?_)
  obtain ⟨hu1, rfl⟩ := hu
  cases hu1
  refine J.istore C dL_law_1304 (by decide) ?_
  refine J.lw (lv' := [(0, .ref b), (1, .ref (ad 0)), (2, .ref (bd 0)), (3, .ref o1), (4, .ref o2), (5, .int i), (6, .int k)]) ⟨rfl, rfl, rfl, rfl, rfl, rfl, rfl, trivial⟩ ?_
  refine J.aload_n (i := 2) C dL_law_1306 rfl rfl ?_
  refine J.aload_n (i := 0) C dL_law_1307 rfl rfl ?_
  refine J.iload C dL_law_1308 rfl ?_
  refine J.iconst C 1 dL_law_1310 (by decide) ?_
  refine J.iadd C dL_law_1311 ?_
  refine J.sld C hX hbl hbA h1 dL_law_1312 ?_
  refine J.aload_n (i := 0) C dL_law_1313 rfl rfl ?_
  refine J.iload C dL_law_1314 rfl ?_
  refine J.iconst C 2 dL_law_1316 (by decide) ?_
  refine J.iadd C dL_law_1317 ?_
  refine J.sld C hX hbl hbA h2 dL_law_1318 ?_
  refine J.aload_n (i := 0) C dL_law_1319 rfl rfl ?_
  refine J.iload C dL_law_1320 rfl ?_
  refine J.iconst C 3 dL_law_1322 (by decide) ?_
  refine J.iadd C dL_law_1323 ?_
  refine J.sld C hX hbl hbA h3 dL_law_1324 ?_
  refine J.heq lz_mk ?_
  refine J.callVR (hp := mkh g bd (dk g ad σ1) (outs g o1 o2 w1)) C rfl (sp_X7_useDisjunction hl _ _ _) hy rfl kMl_L_233 mdX7_useDisjunction ⟨(Nat.le_of_ble_eq_true rfl), (Nat.le_of_ble_eq_true rfl)⟩ mk_0 rfl rfl (Nat.le_of_ble_eq_true rfl) dL_law_1325 ⟨Nat.le_trans (Nat.add_le_add_left (Nat.le_of_ble_eq_true rfl : 10 + 0 ≤ 10) _) hf.1, Nat.le_trans (Nat.add_le_add_left (Nat.le_of_ble_eq_true rfl : 60 + 0 ≤ 60) _) hf.2⟩ ?_
  refine J.istore C dL_law_1328 (by decide) ?_
  refine J.lw (lv' := [(0, .ref b), (1, .ref (ad 0)), (2, .ref (bd 0)), (3, .ref o1), (4, .ref o2), (5, .int i), (6, .int k), (7, .int r)]) ⟨rfl, rfl, rfl, rfl, rfl, rfl, rfl, rfl, trivial⟩ ?_
  refine J.aload_n (i := 2) C dL_law_1330 rfl rfl ?_
  refine J.callVI C (sp_X7_thrown hl) rfl kMl_L_174 mdX7_thrown ⟨(Nat.le_of_ble_eq_true rfl), (Nat.le_of_ble_eq_true rfl)⟩ mk_0 rfl rfl (Nat.le_of_ble_eq_true rfl) dL_law_1331 ⟨Nat.le_trans (Nat.add_le_add_left (Nat.le_of_ble_eq_true rfl : 10 + 0 + 0 ≤ 10) _) hf.1, Nat.le_trans (Nat.add_le_add_left (Nat.le_of_ble_eq_true rfl : 60 + 0 + 0 ≤ 60) _) hf.2⟩ ?_
  refine J.heq lz_mk.symm ?_
  refine J.widen (k := cells + 10) (n := slots + 60) (Nat.add_le_add_left (Nat.le_of_ble_eq_true rfl : 10 + 0 + 0 ≤ 10) _) (Nat.add_le_add_left (Nat.le_of_ble_eq_true rfl : 60 + 0 + 0 ≤ 60) _) ?_
  refine J.iload C dL_law_1334 rfl ?_
  refine J.icmp_eq (tgt := 1341) C dL_law_1336 (by decide) (fun _ => ?_) (fun c9 => absurd hth c9)
  refine J.iload C dL_law_1341 rfl ?_
  refine J.if_ne (tgt := 1358) C dL_law_1343 (by decide) (fun _ => ?_) (fun hk => ?_)
  · refine J.goto (tgt := 3020) C dL_law_1358 (by decide) ?_
    exact J.lw (lv' := [(0, .ref b), (1, .ref (ad 0)), (2, .ref (bd 0)), (3, .ref o1), (4, .ref o2), (5, .int i)]) ⟨rfl, rfl, rfl, rfl, rfl, rfl, trivial⟩ (kk _ _ _ hI)
  · have hok := hok hk
    refine J.aload_n (i := 3) C dL_law_1346 rfl rfl ?_
    refine J.iconst C 0 dL_law_1347 (by decide) ?_
    refine J.lald C (66 + ((R9 g bd τ1).length + 0)) lw_0 (show vp_in 0 1 by unfold vp_in; decide) dL_law_1348 ?_
    refine J.iload C dL_law_1349 rfl ?_
    refine J.i2l C dL_law_1351 ?_
    refine J.lcmp C dL_law_1352 ?_
    refine J.if_eq (tgt := 1358) C dL_law_1353 (by decide) (fun _ => ?_) (fun c9 => absurd ((lg_cmp_eq _ _).mpr hok) c9)
    refine J.goto (tgt := 3020) C dL_law_1358 (by decide) ?_
    exact J.lw (lv' := [(0, .ref b), (1, .ref (ad 0)), (2, .ref (bd 0)), (3, .ref o1), (4, .ref o2), (5, .int i)]) ⟨rfl, rfl, rfl, rfl, rfl, rfl, trivial⟩ (kk _ _ _ hI)
set_option maxRecDepth 100000 in
theorem case_18 {p : Program} {l : Launch} (hl : l.stackTraces = false) {e : Env} {s : State} {m : MethodId} {args : Array Value} {below : List Frame} {meth : Method} {c : Code} {g : Gy} {A : Nat → Prop} {Q : State → Prop} {cells slots b L o1 o2 : Nat} {xs : Nat → Int32} {ad bd : Nat → Nat} {i : Int32} {σ : DS} {τ : MS} {w : OS} {Inv : DS → MS → Prop} (C : Cx p l s m args meth c g A RL cL_law 9) (hX : va_X b L xs s s.heap) (hbl : b < s.heap.size) (hbA : ¬ A b) (hf : cells + 10 ≤ room_1.cells ∧ slots + 60 ≤ room_1.slots) (h1 : vp_in (i + 1) L) (HA : AgW okI Inv (W_L_makeImplication σ w (xs (i + 1).toNatClampNeg)) (P_X7_makeImplication τ (xs (i + 1).toNatClampNeg)))
    (kk : ∀ (σ' : DS) (τ' : MS) (w' : OS), Inv σ' τ' → J p l e room_1 s m args below meth c g A 9 (cells + 10) (slots + 60) Q 3020 [(0, .ref b), (1, .ref (ad 0)), (2, .ref (bd 0)), (3, .ref o1), (4, .ref o2), (5, .int i)] [] (lz g ad bd o1 o2 σ' τ' w')) : J p l e room_1 s m args below meth c g A 9 cells slots Q 1361 [(0, .ref b), (1, .ref (ad 0)), (2, .ref (bd 0)), (3, .ref o1), (4, .ref o2), (5, .int i)] [] (lz g ad bd o1 o2 σ τ w) := by
  refine J.aload_n (i := 1) C dL_law_1361 rfl rfl ?_
  refine J.aload_n (i := 0) C dL_law_1362 rfl rfl ?_
  refine J.iload C dL_law_1363 rfl ?_
  refine J.iconst C 1 dL_law_1365 (by decide) ?_
  refine J.iadd C dL_law_1366 ?_
  refine J.sld C hX hbl hbA h1 dL_law_1367 ?_
  refine J.aload_n (i := 3) C dL_law_1368 rfl rfl ?_
  obtain ⟨k, σ1, w1, r, τ1, hx, hy, hth, hok, hI⟩ := HA
  refine J.callSH C (sp_L_makeImplication hl σ w _ (.inl k, (σ1, w1)) hx) rfl kMl_L_234 mdL_makeImplication ⟨(Nat.le_of_ble_eq_true rfl), (Nat.le_of_ble_eq_true rfl)⟩ rfl (Nat.le_of_ble_eq_true rfl) dL_law_1369 ⟨Nat.le_trans (Nat.add_le_add_left (Nat.le_of_ble_eq_true rfl : 4 ≤ 10) _) hf.1, Nat.le_trans (Nat.add_le_add_left (Nat.le_of_ble_eq_true rfl : 24 ≤ 60) _) hf.2⟩ (fun r9 u hu => ?_)
  obtain ⟨hu1, rfl⟩ := hu
  cases hu1
  refine J.istore C dL_law_1372 (by decide) ?_
  refine J.lw (lv' := [(0, .ref b), (1, .ref (ad 0)), (2, .ref (bd 0)), (3, .ref o1), (4, .ref o2), (5, .int i), (6, .int k)]) ⟨rfl, rfl, rfl, rfl, rfl, rfl, rfl, trivial⟩ ?_
  refine J.aload_n (i := 2) C dL_law_1374 rfl rfl ?_
  refine J.aload_n (i := 0) C dL_law_1375 rfl rfl ?_
  refine J.iload C dL_law_1376 rfl ?_
  refine J.iconst C 1 dL_law_1378 (by decide) ?_
  refine J.iadd C dL_law_1379 ?_
  refine J.sld C hX hbl hbA h1 dL_law_1380 ?_
  refine J.heq lz_mk ?_
  refine J.callVR (hp := mkh g bd (dk g ad σ1) (outs g o1 o2 w1)) C rfl (sp_X7_makeImplication hl _) hy rfl kMl_L_236 mdX7_makeImplication ⟨(Nat.le_of_ble_eq_true rfl), (Nat.le_of_ble_eq_true rfl)⟩ mk_0 rfl rfl (Nat.le_of_ble_eq_true rfl) dL_law_1381 ⟨Nat.le_trans (Nat.add_le_add_left (Nat.le_of_ble_eq_true rfl : 4 + 0 ≤ 10) _) hf.1, Nat.le_trans (Nat.add_le_add_left (Nat.le_of_ble_eq_true rfl : 24 + 0 ≤ 60) _) hf.2⟩ ?_
  refine J.istore C dL_law_1384 (by decide) ?_
  refine J.lw (lv' := [(0, .ref b), (1, .ref (ad 0)), (2, .ref (bd 0)), (3, .ref o1), (4, .ref o2), (5, .int i), (6, .int k), (7, .int r)]) ⟨rfl, rfl, rfl, rfl, rfl, rfl, rfl, rfl, trivial⟩ ?_
  refine J.aload_n (i := 2) C dL_law_1386 rfl rfl ?_
  refine J.callVI C (sp_X7_thrown hl) rfl kMl_L_174 mdX7_thrown ⟨(Nat.le_of_ble_eq_true rfl), (Nat.le_of_ble_eq_true rfl)⟩ mk_0 rfl rfl (Nat.le_of_ble_eq_true rfl) dL_law_1387 ⟨Nat.le_trans (Nat.add_le_add_left (Nat.le_of_ble_eq_true rfl : 4 + 0 + 0 ≤ 10) _) hf.1, Nat.le_trans (Nat.add_le_add_left (Nat.le_of_ble_eq_true rfl : 24 + 0 + 0 ≤ 60) _) hf.2⟩ ?_
  refine J.heq lz_mk.symm ?_
  refine J.widen (k := cells + 10) (n := slots + 60) (Nat.add_le_add_left (Nat.le_of_ble_eq_true rfl : 4 + 0 + 0 ≤ 10) _) (Nat.add_le_add_left (Nat.le_of_ble_eq_true rfl : 24 + 0 + 0 ≤ 60) _) ?_
  refine J.iload C dL_law_1390 rfl ?_
  refine J.icmp_eq (tgt := 1397) C dL_law_1392 (by decide) (fun _ => ?_) (fun c9 => absurd hth c9)
  refine J.iload C dL_law_1397 rfl ?_
  refine J.if_ne (tgt := 1414) C dL_law_1399 (by decide) (fun _ => ?_) (fun hk => ?_)
  · refine J.goto (tgt := 3020) C dL_law_1414 (by decide) ?_
    exact J.lw (lv' := [(0, .ref b), (1, .ref (ad 0)), (2, .ref (bd 0)), (3, .ref o1), (4, .ref o2), (5, .int i)]) ⟨rfl, rfl, rfl, rfl, rfl, rfl, trivial⟩ (kk _ _ _ hI)
  · have hok := hok hk
    refine J.aload_n (i := 3) C dL_law_1402 rfl rfl ?_
    refine J.iconst C 0 dL_law_1403 (by decide) ?_
    refine J.lald C (66 + ((R9 g bd τ1).length + 0)) lw_0 (show vp_in 0 1 by unfold vp_in; decide) dL_law_1404 ?_
    refine J.iload C dL_law_1405 rfl ?_
    refine J.i2l C dL_law_1407 ?_
    refine J.lcmp C dL_law_1408 ?_
    refine J.if_eq (tgt := 1414) C dL_law_1409 (by decide) (fun _ => ?_) (fun c9 => absurd ((lg_cmp_eq _ _).mpr hok) c9)
    refine J.goto (tgt := 3020) C dL_law_1414 (by decide) ?_
    exact J.lw (lv' := [(0, .ref b), (1, .ref (ad 0)), (2, .ref (bd 0)), (3, .ref o1), (4, .ref o2), (5, .int i)]) ⟨rfl, rfl, rfl, rfl, rfl, rfl, trivial⟩ (kk _ _ _ hI)
set_option maxRecDepth 100000 in
theorem case_19 {p : Program} {l : Launch} (hl : l.stackTraces = false) {e : Env} {s : State} {m : MethodId} {args : Array Value} {below : List Frame} {meth : Method} {c : Code} {g : Gy} {A : Nat → Prop} {Q : State → Prop} {cells slots b L o1 o2 : Nat} {xs : Nat → Int32} {ad bd : Nat → Nat} {i : Int32} {σ : DS} {τ : MS} {w : OS} {Inv : DS → MS → Prop} (C : Cx p l s m args meth c g A RL cL_law 9) (hX : va_X b L xs s s.heap) (hbl : b < s.heap.size) (hbA : ¬ A b) (hf : cells + 10 ≤ room_1.cells ∧ slots + 60 ≤ room_1.slots) (h1 : vp_in (i + 1) L) (h2 : vp_in (i + 2) L) (HA : AgW okI Inv (W_L_useImplication σ w (xs (i + 1).toNatClampNeg) (xs (i + 2).toNatClampNeg)) (P_X7_useImplication τ (xs (i + 1).toNatClampNeg) (xs (i + 2).toNatClampNeg)))
    (kk : ∀ (σ' : DS) (τ' : MS) (w' : OS), Inv σ' τ' → J p l e room_1 s m args below meth c g A 9 (cells + 10) (slots + 60) Q 3020 [(0, .ref b), (1, .ref (ad 0)), (2, .ref (bd 0)), (3, .ref o1), (4, .ref o2), (5, .int i)] [] (lz g ad bd o1 o2 σ' τ' w')) : J p l e room_1 s m args below meth c g A 9 cells slots Q 1417 [(0, .ref b), (1, .ref (ad 0)), (2, .ref (bd 0)), (3, .ref o1), (4, .ref o2), (5, .int i)] [] (lz g ad bd o1 o2 σ τ w) := by
  refine J.aload_n (i := 1) C dL_law_1417 rfl rfl ?_
  refine J.aload_n (i := 0) C dL_law_1418 rfl rfl ?_
  refine J.iload C dL_law_1419 rfl ?_
  refine J.iconst C 1 dL_law_1421 (by decide) ?_
  refine J.iadd C dL_law_1422 ?_
  refine J.sld C hX hbl hbA h1 dL_law_1423 ?_
  refine J.aload_n (i := 0) C dL_law_1424 rfl rfl ?_
  refine J.iload C dL_law_1425 rfl ?_
  refine J.iconst C 2 dL_law_1427 (by decide) ?_
  refine J.iadd C dL_law_1428 ?_
  refine J.sld C hX hbl hbA h2 dL_law_1429 ?_
  refine J.aload_n (i := 3) C dL_law_1430 rfl rfl ?_
  obtain ⟨k, σ1, w1, r, τ1, hx, hy, hth, hok, hI⟩ := HA
  refine J.callSH C (sp_L_useImplication hl σ w _ _ (.inl k, (σ1, w1)) hx) rfl kMl_L_237 mdL_useImplication ⟨(Nat.le_of_ble_eq_true rfl), (Nat.le_of_ble_eq_true rfl)⟩ rfl (Nat.le_of_ble_eq_true rfl) dL_law_1431 ⟨Nat.le_trans (Nat.add_le_add_left (Nat.le_of_ble_eq_true rfl : 6 ≤ 10) _) hf.1, Nat.le_trans (Nat.add_le_add_left (Nat.le_of_ble_eq_true rfl : 36 ≤ 60) _) hf.2⟩ (fun r9 u hu => ?_)
  obtain ⟨hu1, rfl⟩ := hu
  cases hu1
  refine J.istore C dL_law_1434 (by decide) ?_
  refine J.lw (lv' := [(0, .ref b), (1, .ref (ad 0)), (2, .ref (bd 0)), (3, .ref o1), (4, .ref o2), (5, .int i), (6, .int k)]) ⟨rfl, rfl, rfl, rfl, rfl, rfl, rfl, trivial⟩ ?_
  refine J.aload_n (i := 2) C dL_law_1436 rfl rfl ?_
  refine J.aload_n (i := 0) C dL_law_1437 rfl rfl ?_
  refine J.iload C dL_law_1438 rfl ?_
  refine J.iconst C 1 dL_law_1440 (by decide) ?_
  refine J.iadd C dL_law_1441 ?_
  refine J.sld C hX hbl hbA h1 dL_law_1442 ?_
  refine J.aload_n (i := 0) C dL_law_1443 rfl rfl ?_
  refine J.iload C dL_law_1444 rfl ?_
  refine J.iconst C 2 dL_law_1446 (by decide) ?_
  refine J.iadd C dL_law_1447 ?_
  refine J.sld C hX hbl hbA h2 dL_law_1448 ?_
  refine J.heq lz_mk ?_
  refine J.callVR (hp := mkh g bd (dk g ad σ1) (outs g o1 o2 w1)) C rfl (sp_X7_useImplication hl _ _) hy rfl kMl_L_239 mdX7_useImplication ⟨(Nat.le_of_ble_eq_true rfl), (Nat.le_of_ble_eq_true rfl)⟩ mk_0 rfl rfl (Nat.le_of_ble_eq_true rfl) dL_law_1449 ⟨Nat.le_trans (Nat.add_le_add_left (Nat.le_of_ble_eq_true rfl : 6 + 0 ≤ 10) _) hf.1, Nat.le_trans (Nat.add_le_add_left (Nat.le_of_ble_eq_true rfl : 36 + 0 ≤ 60) _) hf.2⟩ ?_
  refine J.istore C dL_law_1452 (by decide) ?_
  refine J.lw (lv' := [(0, .ref b), (1, .ref (ad 0)), (2, .ref (bd 0)), (3, .ref o1), (4, .ref o2), (5, .int i), (6, .int k), (7, .int r)]) ⟨rfl, rfl, rfl, rfl, rfl, rfl, rfl, rfl, trivial⟩ ?_
  refine J.aload_n (i := 2) C dL_law_1454 rfl rfl ?_
  refine J.callVI C (sp_X7_thrown hl) rfl kMl_L_174 mdX7_thrown ⟨(Nat.le_of_ble_eq_true rfl), (Nat.le_of_ble_eq_true rfl)⟩ mk_0 rfl rfl (Nat.le_of_ble_eq_true rfl) dL_law_1455 ⟨Nat.le_trans (Nat.add_le_add_left (Nat.le_of_ble_eq_true rfl : 6 + 0 + 0 ≤ 10) _) hf.1, Nat.le_trans (Nat.add_le_add_left (Nat.le_of_ble_eq_true rfl : 36 + 0 + 0 ≤ 60) _) hf.2⟩ ?_
  refine J.heq lz_mk.symm ?_
  refine J.widen (k := cells + 10) (n := slots + 60) (Nat.add_le_add_left (Nat.le_of_ble_eq_true rfl : 6 + 0 + 0 ≤ 10) _) (Nat.add_le_add_left (Nat.le_of_ble_eq_true rfl : 36 + 0 + 0 ≤ 60) _) ?_
  refine J.iload C dL_law_1458 rfl ?_
  refine J.icmp_eq (tgt := 1465) C dL_law_1460 (by decide) (fun _ => ?_) (fun c9 => absurd hth c9)
  refine J.iload C dL_law_1465 rfl ?_
  refine J.if_ne (tgt := 1482) C dL_law_1467 (by decide) (fun _ => ?_) (fun hk => ?_)
  · refine J.goto (tgt := 3020) C dL_law_1482 (by decide) ?_
    exact J.lw (lv' := [(0, .ref b), (1, .ref (ad 0)), (2, .ref (bd 0)), (3, .ref o1), (4, .ref o2), (5, .int i)]) ⟨rfl, rfl, rfl, rfl, rfl, rfl, trivial⟩ (kk _ _ _ hI)
  · have hok := hok hk
    refine J.aload_n (i := 3) C dL_law_1470 rfl rfl ?_
    refine J.iconst C 0 dL_law_1471 (by decide) ?_
    refine J.lald C (66 + ((R9 g bd τ1).length + 0)) lw_0 (show vp_in 0 1 by unfold vp_in; decide) dL_law_1472 ?_
    refine J.iload C dL_law_1473 rfl ?_
    refine J.i2l C dL_law_1475 ?_
    refine J.lcmp C dL_law_1476 ?_
    refine J.if_eq (tgt := 1482) C dL_law_1477 (by decide) (fun _ => ?_) (fun c9 => absurd ((lg_cmp_eq _ _).mpr hok) c9)
    refine J.goto (tgt := 3020) C dL_law_1482 (by decide) ?_
    exact J.lw (lv' := [(0, .ref b), (1, .ref (ad 0)), (2, .ref (bd 0)), (3, .ref o1), (4, .ref o2), (5, .int i)]) ⟨rfl, rfl, rfl, rfl, rfl, rfl, trivial⟩ (kk _ _ _ hI)
set_option maxRecDepth 100000 in
theorem case_20 {p : Program} {l : Launch} (hl : l.stackTraces = false) {e : Env} {s : State} {m : MethodId} {args : Array Value} {below : List Frame} {meth : Method} {c : Code} {g : Gy} {A : Nat → Prop} {Q : State → Prop} {cells slots b L o1 o2 : Nat} {xs : Nat → Int32} {ad bd : Nat → Nat} {i : Int32} {σ : DS} {τ : MS} {w : OS} {Inv : DS → MS → Prop} (C : Cx p l s m args meth c g A RL cL_law 9) (hX : va_X b L xs s s.heap) (hbl : b < s.heap.size) (hbA : ¬ A b) (hf : cells + 10 ≤ room_1.cells ∧ slots + 60 ≤ room_1.slots) (h1 : vp_in (i + 1) L) (HA : AgW okI Inv (W_L_makeNegation σ w (xs (i + 1).toNatClampNeg)) (P_X7_makeNegation τ (xs (i + 1).toNatClampNeg)))
    (kk : ∀ (σ' : DS) (τ' : MS) (w' : OS), Inv σ' τ' → J p l e room_1 s m args below meth c g A 9 (cells + 10) (slots + 60) Q 3020 [(0, .ref b), (1, .ref (ad 0)), (2, .ref (bd 0)), (3, .ref o1), (4, .ref o2), (5, .int i)] [] (lz g ad bd o1 o2 σ' τ' w')) : J p l e room_1 s m args below meth c g A 9 cells slots Q 1485 [(0, .ref b), (1, .ref (ad 0)), (2, .ref (bd 0)), (3, .ref o1), (4, .ref o2), (5, .int i)] [] (lz g ad bd o1 o2 σ τ w) := by
  refine J.aload_n (i := 1) C dL_law_1485 rfl rfl ?_
  refine J.aload_n (i := 0) C dL_law_1486 rfl rfl ?_
  refine J.iload C dL_law_1487 rfl ?_
  refine J.iconst C 1 dL_law_1489 (by decide) ?_
  refine J.iadd C dL_law_1490 ?_
  refine J.sld C hX hbl hbA h1 dL_law_1491 ?_
  refine J.aload_n (i := 3) C dL_law_1492 rfl rfl ?_
  obtain ⟨k, σ1, w1, r, τ1, hx, hy, hth, hok, hI⟩ := HA
  refine J.callSH C (sp_L_makeNegation hl σ w _ (.inl k, (σ1, w1)) hx) rfl kMl_L_240 mdL_makeNegation ⟨(Nat.le_of_ble_eq_true rfl), (Nat.le_of_ble_eq_true rfl)⟩ rfl (Nat.le_of_ble_eq_true rfl) dL_law_1493 ⟨Nat.le_trans (Nat.add_le_add_left (Nat.le_of_ble_eq_true rfl : 5 ≤ 10) _) hf.1, Nat.le_trans (Nat.add_le_add_left (Nat.le_of_ble_eq_true rfl : 30 ≤ 60) _) hf.2⟩ (fun r9 u hu => ?_)
  obtain ⟨hu1, rfl⟩ := hu
  cases hu1
  refine J.istore C dL_law_1496 (by decide) ?_
  refine J.lw (lv' := [(0, .ref b), (1, .ref (ad 0)), (2, .ref (bd 0)), (3, .ref o1), (4, .ref o2), (5, .int i), (6, .int k)]) ⟨rfl, rfl, rfl, rfl, rfl, rfl, rfl, trivial⟩ ?_
  refine J.aload_n (i := 2) C dL_law_1498 rfl rfl ?_
  refine J.aload_n (i := 0) C dL_law_1499 rfl rfl ?_
  refine J.iload C dL_law_1500 rfl ?_
  refine J.iconst C 1 dL_law_1502 (by decide) ?_
  refine J.iadd C dL_law_1503 ?_
  refine J.sld C hX hbl hbA h1 dL_law_1504 ?_
  refine J.heq lz_mk ?_
  refine J.callVR (hp := mkh g bd (dk g ad σ1) (outs g o1 o2 w1)) C rfl (sp_X7_makeNegation hl _) hy rfl kMl_L_242 mdX7_makeNegation ⟨(Nat.le_of_ble_eq_true rfl), (Nat.le_of_ble_eq_true rfl)⟩ mk_0 rfl rfl (Nat.le_of_ble_eq_true rfl) dL_law_1505 ⟨Nat.le_trans (Nat.add_le_add_left (Nat.le_of_ble_eq_true rfl : 5 + 0 ≤ 10) _) hf.1, Nat.le_trans (Nat.add_le_add_left (Nat.le_of_ble_eq_true rfl : 30 + 0 ≤ 60) _) hf.2⟩ ?_
  refine J.istore C dL_law_1508 (by decide) ?_
  refine J.lw (lv' := [(0, .ref b), (1, .ref (ad 0)), (2, .ref (bd 0)), (3, .ref o1), (4, .ref o2), (5, .int i), (6, .int k), (7, .int r)]) ⟨rfl, rfl, rfl, rfl, rfl, rfl, rfl, rfl, trivial⟩ ?_
  refine J.aload_n (i := 2) C dL_law_1510 rfl rfl ?_
  refine J.callVI C (sp_X7_thrown hl) rfl kMl_L_174 mdX7_thrown ⟨(Nat.le_of_ble_eq_true rfl), (Nat.le_of_ble_eq_true rfl)⟩ mk_0 rfl rfl (Nat.le_of_ble_eq_true rfl) dL_law_1511 ⟨Nat.le_trans (Nat.add_le_add_left (Nat.le_of_ble_eq_true rfl : 5 + 0 + 0 ≤ 10) _) hf.1, Nat.le_trans (Nat.add_le_add_left (Nat.le_of_ble_eq_true rfl : 30 + 0 + 0 ≤ 60) _) hf.2⟩ ?_
  refine J.heq lz_mk.symm ?_
  refine J.widen (k := cells + 10) (n := slots + 60) (Nat.add_le_add_left (Nat.le_of_ble_eq_true rfl : 5 + 0 + 0 ≤ 10) _) (Nat.add_le_add_left (Nat.le_of_ble_eq_true rfl : 30 + 0 + 0 ≤ 60) _) ?_
  refine J.iload C dL_law_1514 rfl ?_
  refine J.icmp_eq (tgt := 1521) C dL_law_1516 (by decide) (fun _ => ?_) (fun c9 => absurd hth c9)
  refine J.iload C dL_law_1521 rfl ?_
  refine J.if_ne (tgt := 1538) C dL_law_1523 (by decide) (fun _ => ?_) (fun hk => ?_)
  · refine J.goto (tgt := 3020) C dL_law_1538 (by decide) ?_
    exact J.lw (lv' := [(0, .ref b), (1, .ref (ad 0)), (2, .ref (bd 0)), (3, .ref o1), (4, .ref o2), (5, .int i)]) ⟨rfl, rfl, rfl, rfl, rfl, rfl, trivial⟩ (kk _ _ _ hI)
  · have hok := hok hk
    refine J.aload_n (i := 3) C dL_law_1526 rfl rfl ?_
    refine J.iconst C 0 dL_law_1527 (by decide) ?_
    refine J.lald C (66 + ((R9 g bd τ1).length + 0)) lw_0 (show vp_in 0 1 by unfold vp_in; decide) dL_law_1528 ?_
    refine J.iload C dL_law_1529 rfl ?_
    refine J.i2l C dL_law_1531 ?_
    refine J.lcmp C dL_law_1532 ?_
    refine J.if_eq (tgt := 1538) C dL_law_1533 (by decide) (fun _ => ?_) (fun c9 => absurd ((lg_cmp_eq _ _).mpr hok) c9)
    refine J.goto (tgt := 3020) C dL_law_1538 (by decide) ?_
    exact J.lw (lv' := [(0, .ref b), (1, .ref (ad 0)), (2, .ref (bd 0)), (3, .ref o1), (4, .ref o2), (5, .int i)]) ⟨rfl, rfl, rfl, rfl, rfl, rfl, trivial⟩ (kk _ _ _ hI)
set_option maxRecDepth 100000 in
theorem case_21 {p : Program} {l : Launch} (hl : l.stackTraces = false) {e : Env} {s : State} {m : MethodId} {args : Array Value} {below : List Frame} {meth : Method} {c : Code} {g : Gy} {A : Nat → Prop} {Q : State → Prop} {cells slots b L o1 o2 : Nat} {xs : Nat → Int32} {ad bd : Nat → Nat} {i : Int32} {σ : DS} {τ : MS} {w : OS} {Inv : DS → MS → Prop} (C : Cx p l s m args meth c g A RL cL_law 9) (hX : va_X b L xs s s.heap) (hbl : b < s.heap.size) (hbA : ¬ A b) (hf : cells + 10 ≤ room_1.cells ∧ slots + 60 ≤ room_1.slots) (h1 : vp_in (i + 1) L) (h2 : vp_in (i + 2) L) (HA : AgW okI Inv (W_L_useNegation σ w (xs (i + 1).toNatClampNeg) (xs (i + 2).toNatClampNeg)) (P_X7_useNegation τ (xs (i + 1).toNatClampNeg) (xs (i + 2).toNatClampNeg)))
    (kk : ∀ (σ' : DS) (τ' : MS) (w' : OS), Inv σ' τ' → J p l e room_1 s m args below meth c g A 9 (cells + 10) (slots + 60) Q 3020 [(0, .ref b), (1, .ref (ad 0)), (2, .ref (bd 0)), (3, .ref o1), (4, .ref o2), (5, .int i)] [] (lz g ad bd o1 o2 σ' τ' w')) : J p l e room_1 s m args below meth c g A 9 cells slots Q 1541 [(0, .ref b), (1, .ref (ad 0)), (2, .ref (bd 0)), (3, .ref o1), (4, .ref o2), (5, .int i)] [] (lz g ad bd o1 o2 σ τ w) := by
  refine J.aload_n (i := 1) C dL_law_1541 rfl rfl ?_
  refine J.aload_n (i := 0) C dL_law_1542 rfl rfl ?_
  refine J.iload C dL_law_1543 rfl ?_
  refine J.iconst C 1 dL_law_1545 (by decide) ?_
  refine J.iadd C dL_law_1546 ?_
  refine J.sld C hX hbl hbA h1 dL_law_1547 ?_
  refine J.aload_n (i := 0) C dL_law_1548 rfl rfl ?_
  refine J.iload C dL_law_1549 rfl ?_
  refine J.iconst C 2 dL_law_1551 (by decide) ?_
  refine J.iadd C dL_law_1552 ?_
  refine J.sld C hX hbl hbA h2 dL_law_1553 ?_
  refine J.aload_n (i := 3) C dL_law_1554 rfl rfl ?_
  obtain ⟨k, σ1, w1, r, τ1, hx, hy, hth, hok, hI⟩ := HA
  refine J.callSH C (sp_L_useNegation hl σ w _ _ (.inl k, (σ1, w1)) hx) rfl kMl_L_243 mdL_useNegation ⟨(Nat.le_of_ble_eq_true rfl), (Nat.le_of_ble_eq_true rfl)⟩ rfl (Nat.le_of_ble_eq_true rfl) dL_law_1555 ⟨Nat.le_trans (Nat.add_le_add_left (Nat.le_of_ble_eq_true rfl : 7 ≤ 10) _) hf.1, Nat.le_trans (Nat.add_le_add_left (Nat.le_of_ble_eq_true rfl : 42 ≤ 60) _) hf.2⟩ (fun r9 u hu => ?_)
  obtain ⟨hu1, rfl⟩ := hu
  cases hu1
  refine J.istore C dL_law_1558 (by decide) ?_
  refine J.lw (lv' := [(0, .ref b), (1, .ref (ad 0)), (2, .ref (bd 0)), (3, .ref o1), (4, .ref o2), (5, .int i), (6, .int k)]) ⟨rfl, rfl, rfl, rfl, rfl, rfl, rfl, trivial⟩ ?_
  refine J.aload_n (i := 2) C dL_law_1560 rfl rfl ?_
  refine J.aload_n (i := 0) C dL_law_1561 rfl rfl ?_
  refine J.iload C dL_law_1562 rfl ?_
  refine J.iconst C 1 dL_law_1564 (by decide) ?_
  refine J.iadd C dL_law_1565 ?_
  refine J.sld C hX hbl hbA h1 dL_law_1566 ?_
  refine J.aload_n (i := 0) C dL_law_1567 rfl rfl ?_
  refine J.iload C dL_law_1568 rfl ?_
  refine J.iconst C 2 dL_law_1570 (by decide) ?_
  refine J.iadd C dL_law_1571 ?_
  refine J.sld C hX hbl hbA h2 dL_law_1572 ?_
  refine J.heq lz_mk ?_
  refine J.callVR (hp := mkh g bd (dk g ad σ1) (outs g o1 o2 w1)) C rfl (sp_X7_useNegation hl _ _) hy rfl kMl_L_245 mdX7_useNegation ⟨(Nat.le_of_ble_eq_true rfl), (Nat.le_of_ble_eq_true rfl)⟩ mk_0 rfl rfl (Nat.le_of_ble_eq_true rfl) dL_law_1573 ⟨Nat.le_trans (Nat.add_le_add_left (Nat.le_of_ble_eq_true rfl : 7 + 0 ≤ 10) _) hf.1, Nat.le_trans (Nat.add_le_add_left (Nat.le_of_ble_eq_true rfl : 42 + 0 ≤ 60) _) hf.2⟩ ?_
  refine J.istore C dL_law_1576 (by decide) ?_
  refine J.lw (lv' := [(0, .ref b), (1, .ref (ad 0)), (2, .ref (bd 0)), (3, .ref o1), (4, .ref o2), (5, .int i), (6, .int k), (7, .int r)]) ⟨rfl, rfl, rfl, rfl, rfl, rfl, rfl, rfl, trivial⟩ ?_
  refine J.aload_n (i := 2) C dL_law_1578 rfl rfl ?_
  refine J.callVI C (sp_X7_thrown hl) rfl kMl_L_174 mdX7_thrown ⟨(Nat.le_of_ble_eq_true rfl), (Nat.le_of_ble_eq_true rfl)⟩ mk_0 rfl rfl (Nat.le_of_ble_eq_true rfl) dL_law_1579 ⟨Nat.le_trans (Nat.add_le_add_left (Nat.le_of_ble_eq_true rfl : 7 + 0 + 0 ≤ 10) _) hf.1, Nat.le_trans (Nat.add_le_add_left (Nat.le_of_ble_eq_true rfl : 42 + 0 + 0 ≤ 60) _) hf.2⟩ ?_
  refine J.heq lz_mk.symm ?_
  refine J.widen (k := cells + 10) (n := slots + 60) (Nat.add_le_add_left (Nat.le_of_ble_eq_true rfl : 7 + 0 + 0 ≤ 10) _) (Nat.add_le_add_left (Nat.le_of_ble_eq_true rfl : 42 + 0 + 0 ≤ 60) _) ?_
  refine J.iload C dL_law_1582 rfl ?_
  refine J.icmp_eq (tgt := 1589) C dL_law_1584 (by decide) (fun _ => ?_) (fun c9 => absurd hth c9)
  refine J.iload C dL_law_1589 rfl ?_
  refine J.if_ne (tgt := 1606) C dL_law_1591 (by decide) (fun _ => ?_) (fun hk => ?_)
  · refine J.goto (tgt := 3020) C dL_law_1606 (by decide) ?_
    exact J.lw (lv' := [(0, .ref b), (1, .ref (ad 0)), (2, .ref (bd 0)), (3, .ref o1), (4, .ref o2), (5, .int i)]) ⟨rfl, rfl, rfl, rfl, rfl, rfl, trivial⟩ (kk _ _ _ hI)
  · have hok := hok hk
    refine J.aload_n (i := 3) C dL_law_1594 rfl rfl ?_
    refine J.iconst C 0 dL_law_1595 (by decide) ?_
    refine J.lald C (66 + ((R9 g bd τ1).length + 0)) lw_0 (show vp_in 0 1 by unfold vp_in; decide) dL_law_1596 ?_
    refine J.iload C dL_law_1597 rfl ?_
    refine J.i2l C dL_law_1599 ?_
    refine J.lcmp C dL_law_1600 ?_
    refine J.if_eq (tgt := 1606) C dL_law_1601 (by decide) (fun _ => ?_) (fun c9 => absurd ((lg_cmp_eq _ _).mpr hok) c9)
    refine J.goto (tgt := 3020) C dL_law_1606 (by decide) ?_
    exact J.lw (lv' := [(0, .ref b), (1, .ref (ad 0)), (2, .ref (bd 0)), (3, .ref o1), (4, .ref o2), (5, .int i)]) ⟨rfl, rfl, rfl, rfl, rfl, rfl, trivial⟩ (kk _ _ _ hI)
set_option maxRecDepth 100000 in
theorem case_22 {p : Program} {l : Launch} (hl : l.stackTraces = false) {e : Env} {s : State} {m : MethodId} {args : Array Value} {below : List Frame} {meth : Method} {c : Code} {g : Gy} {A : Nat → Prop} {Q : State → Prop} {cells slots b L o1 o2 : Nat} {xs : Nat → Int32} {ad bd : Nat → Nat} {i : Int32} {σ : DS} {τ : MS} {w : OS} {Inv : DS → MS → Prop} (C : Cx p l s m args meth c g A RL cL_law 9) (hX : va_X b L xs s s.heap) (hbl : b < s.heap.size) (hbA : ¬ A b) (hf : cells + 10 ≤ room_1.cells ∧ slots + 60 ≤ room_1.slots) (h1 : vp_in (i + 1) L) (h2 : vp_in (i + 2) L) (HA : AgW okI Inv (W_L_fromFalsum σ w (xs (i + 1).toNatClampNeg) (xs (i + 2).toNatClampNeg)) (P_X7_fromFalsum τ (xs (i + 1).toNatClampNeg) (xs (i + 2).toNatClampNeg)))
    (kk : ∀ (σ' : DS) (τ' : MS) (w' : OS), Inv σ' τ' → J p l e room_1 s m args below meth c g A 9 (cells + 10) (slots + 60) Q 3020 [(0, .ref b), (1, .ref (ad 0)), (2, .ref (bd 0)), (3, .ref o1), (4, .ref o2), (5, .int i)] [] (lz g ad bd o1 o2 σ' τ' w')) : J p l e room_1 s m args below meth c g A 9 cells slots Q 1609 [(0, .ref b), (1, .ref (ad 0)), (2, .ref (bd 0)), (3, .ref o1), (4, .ref o2), (5, .int i)] [] (lz g ad bd o1 o2 σ τ w) := by
  refine J.aload_n (i := 1) C dL_law_1609 rfl rfl ?_
  refine J.aload_n (i := 0) C dL_law_1610 rfl rfl ?_
  refine J.iload C dL_law_1611 rfl ?_
  refine J.iconst C 1 dL_law_1613 (by decide) ?_
  refine J.iadd C dL_law_1614 ?_
  refine J.sld C hX hbl hbA h1 dL_law_1615 ?_
  refine J.aload_n (i := 0) C dL_law_1616 rfl rfl ?_
  refine J.iload C dL_law_1617 rfl ?_
  refine J.iconst C 2 dL_law_1619 (by decide) ?_
  refine J.iadd C dL_law_1620 ?_
  refine J.sld C hX hbl hbA h2 dL_law_1621 ?_
  refine J.aload_n (i := 3) C dL_law_1622 rfl rfl ?_
  obtain ⟨k, σ1, w1, r, τ1, hx, hy, hth, hok, hI⟩ := HA
  refine J.callSH C (sp_L_fromFalsum hl σ w _ _ (.inl k, (σ1, w1)) hx) rfl kMl_L_246 mdL_fromFalsum ⟨(Nat.le_of_ble_eq_true rfl), (Nat.le_of_ble_eq_true rfl)⟩ rfl (Nat.le_of_ble_eq_true rfl) dL_law_1623 ⟨Nat.le_trans (Nat.add_le_add_left (Nat.le_of_ble_eq_true rfl : 5 ≤ 10) _) hf.1, Nat.le_trans (Nat.add_le_add_left (Nat.le_of_ble_eq_true rfl : 30 ≤ 60) _) hf.2⟩ (fun r9 u hu => ?_)
  obtain ⟨hu1, rfl⟩ := hu
  cases hu1
  refine J.istore C dL_law_1626 (by decide) ?_
  refine J.lw (lv' := [(0, .ref b), (1, .ref (ad 0)), (2, .ref (bd 0)), (3, .ref o1), (4, .ref o2), (5, .int i), (6, .int k)]) ⟨rfl, rfl, rfl, rfl, rfl, rfl, rfl, trivial⟩ ?_
  refine J.aload_n (i := 2) C dL_law_1628 rfl rfl ?_
  refine J.aload_n (i := 0) C dL_law_1629 rfl rfl ?_
  refine J.iload C dL_law_1630 rfl ?_
  refine J.iconst C 1 dL_law_1632 (by decide) ?_
  refine J.iadd C dL_law_1633 ?_
  refine J.sld C hX hbl hbA h1 dL_law_1634 ?_
  refine J.aload_n (i := 0) C dL_law_1635 rfl rfl ?_
  refine J.iload C dL_law_1636 rfl ?_
  refine J.iconst C 2 dL_law_1638 (by decide) ?_
  refine J.iadd C dL_law_1639 ?_
  refine J.sld C hX hbl hbA h2 dL_law_1640 ?_
  refine J.heq lz_mk ?_
  refine J.callVR (hp := mkh g bd (dk g ad σ1) (outs g o1 o2 w1)) C rfl (sp_X7_fromFalsum hl _ _) hy rfl kMl_L_248 mdX7_fromFalsum ⟨(Nat.le_of_ble_eq_true rfl), (Nat.le_of_ble_eq_true rfl)⟩ mk_0 rfl rfl (Nat.le_of_ble_eq_true rfl) dL_law_1641 ⟨Nat.le_trans (Nat.add_le_add_left (Nat.le_of_ble_eq_true rfl : 5 + 0 ≤ 10) _) hf.1, Nat.le_trans (Nat.add_le_add_left (Nat.le_of_ble_eq_true rfl : 30 + 0 ≤ 60) _) hf.2⟩ ?_
  refine J.istore C dL_law_1644 (by decide) ?_
  refine J.lw (lv' := [(0, .ref b), (1, .ref (ad 0)), (2, .ref (bd 0)), (3, .ref o1), (4, .ref o2), (5, .int i), (6, .int k), (7, .int r)]) ⟨rfl, rfl, rfl, rfl, rfl, rfl, rfl, rfl, trivial⟩ ?_
  refine J.aload_n (i := 2) C dL_law_1646 rfl rfl ?_
  refine J.callVI C (sp_X7_thrown hl) rfl kMl_L_174 mdX7_thrown ⟨(Nat.le_of_ble_eq_true rfl), (Nat.le_of_ble_eq_true rfl)⟩ mk_0 rfl rfl (Nat.le_of_ble_eq_true rfl) dL_law_1647 ⟨Nat.le_trans (Nat.add_le_add_left (Nat.le_of_ble_eq_true rfl : 5 + 0 + 0 ≤ 10) _) hf.1, Nat.le_trans (Nat.add_le_add_left (Nat.le_of_ble_eq_true rfl : 30 + 0 + 0 ≤ 60) _) hf.2⟩ ?_
  refine J.heq lz_mk.symm ?_
  refine J.widen (k := cells + 10) (n := slots + 60) (Nat.add_le_add_left (Nat.le_of_ble_eq_true rfl : 5 + 0 + 0 ≤ 10) _) (Nat.add_le_add_left (Nat.le_of_ble_eq_true rfl : 30 + 0 + 0 ≤ 60) _) ?_
  refine J.iload C dL_law_1650 rfl ?_
  refine J.icmp_eq (tgt := 1657) C dL_law_1652 (by decide) (fun _ => ?_) (fun c9 => absurd hth c9)
  refine J.iload C dL_law_1657 rfl ?_
  refine J.if_ne (tgt := 1674) C dL_law_1659 (by decide) (fun _ => ?_) (fun hk => ?_)
  · refine J.goto (tgt := 3020) C dL_law_1674 (by decide) ?_
    exact J.lw (lv' := [(0, .ref b), (1, .ref (ad 0)), (2, .ref (bd 0)), (3, .ref o1), (4, .ref o2), (5, .int i)]) ⟨rfl, rfl, rfl, rfl, rfl, rfl, trivial⟩ (kk _ _ _ hI)
  · have hok := hok hk
    refine J.aload_n (i := 3) C dL_law_1662 rfl rfl ?_
    refine J.iconst C 0 dL_law_1663 (by decide) ?_
    refine J.lald C (66 + ((R9 g bd τ1).length + 0)) lw_0 (show vp_in 0 1 by unfold vp_in; decide) dL_law_1664 ?_
    refine J.iload C dL_law_1665 rfl ?_
    refine J.i2l C dL_law_1667 ?_
    refine J.lcmp C dL_law_1668 ?_
    refine J.if_eq (tgt := 1674) C dL_law_1669 (by decide) (fun _ => ?_) (fun c9 => absurd ((lg_cmp_eq _ _).mpr hok) c9)
    refine J.goto (tgt := 3020) C dL_law_1674 (by decide) ?_
    exact J.lw (lv' := [(0, .ref b), (1, .ref (ad 0)), (2, .ref (bd 0)), (3, .ref o1), (4, .ref o2), (5, .int i)]) ⟨rfl, rfl, rfl, rfl, rfl, rfl, trivial⟩ (kk _ _ _ hI)
set_option maxRecDepth 100000 in
theorem case_23 {p : Program} {l : Launch} (hl : l.stackTraces = false) {e : Env} {s : State} {m : MethodId} {args : Array Value} {below : List Frame} {meth : Method} {c : Code} {g : Gy} {A : Nat → Prop} {Q : State → Prop} {cells slots b L o1 o2 : Nat} {xs : Nat → Int32} {ad bd : Nat → Nat} {i : Int32} {σ : DS} {τ : MS} {w : OS} {Inv : DS → MS → Prop} (C : Cx p l s m args meth c g A RL cL_law 9) (hX : va_X b L xs s s.heap) (hbl : b < s.heap.size) (hbA : ¬ A b) (hf : cells + 10 ≤ room_1.cells ∧ slots + 60 ≤ room_1.slots) (h1 : vp_in (i + 1) L) (HA : AgW okI Inv (W_L_doubleNegation σ w (xs (i + 1).toNatClampNeg)) (P_X7_doubleNegation τ (xs (i + 1).toNatClampNeg)))
    (kk : ∀ (σ' : DS) (τ' : MS) (w' : OS), Inv σ' τ' → J p l e room_1 s m args below meth c g A 9 (cells + 10) (slots + 60) Q 3020 [(0, .ref b), (1, .ref (ad 0)), (2, .ref (bd 0)), (3, .ref o1), (4, .ref o2), (5, .int i)] [] (lz g ad bd o1 o2 σ' τ' w')) : J p l e room_1 s m args below meth c g A 9 cells slots Q 1677 [(0, .ref b), (1, .ref (ad 0)), (2, .ref (bd 0)), (3, .ref o1), (4, .ref o2), (5, .int i)] [] (lz g ad bd o1 o2 σ τ w) := by
  refine J.aload_n (i := 1) C dL_law_1677 rfl rfl ?_
  refine J.aload_n (i := 0) C dL_law_1678 rfl rfl ?_
  refine J.iload C dL_law_1679 rfl ?_
  refine J.iconst C 1 dL_law_1681 (by decide) ?_
  refine J.iadd C dL_law_1682 ?_
  refine J.sld C hX hbl hbA h1 dL_law_1683 ?_
  refine J.aload_n (i := 3) C dL_law_1684 rfl rfl ?_
  obtain ⟨k, σ1, w1, r, τ1, hx, hy, hth, hok, hI⟩ := HA
  refine J.callSH C (sp_L_doubleNegation hl σ w _ (.inl k, (σ1, w1)) hx) rfl kMl_L_249 mdL_doubleNegation ⟨(Nat.le_of_ble_eq_true rfl), (Nat.le_of_ble_eq_true rfl)⟩ rfl (Nat.le_of_ble_eq_true rfl) dL_law_1685 ⟨Nat.le_trans (Nat.add_le_add_left (Nat.le_of_ble_eq_true rfl : 4 ≤ 10) _) hf.1, Nat.le_trans (Nat.add_le_add_left (Nat.le_of_ble_eq_true rfl : 24 ≤ 60) _) hf.2⟩ (fun r9 u hu => ?_)
  obtain ⟨hu1, rfl⟩ := hu
  cases hu1
  refine J.istore C dL_law_1688 (by decide) ?_
  refine J.lw (lv' := [(0, .ref b), (1, .ref (ad 0)), (2, .ref (bd 0)), (3, .ref o1), (4, .ref o2), (5, .int i), (6, .int k)]) ⟨rfl, rfl, rfl, rfl, rfl, rfl, rfl, trivial⟩ ?_
  refine J.aload_n (i := 2) C dL_law_1690 rfl rfl ?_
  refine J.aload_n (i := 0) C dL_law_1691 rfl rfl ?_
  refine J.iload C dL_law_1692 rfl ?_
  refine J.iconst C 1 dL_law_1694 (by decide) ?_
  refine J.iadd C dL_law_1695 ?_
  refine J.sld C hX hbl hbA h1 dL_law_1696 ?_
  refine J.heq lz_mk ?_
  refine J.callVR (hp := mkh g bd (dk g ad σ1) (outs g o1 o2 w1)) C rfl (sp_X7_doubleNegation hl _) hy rfl kMl_L_251 mdX7_doubleNegation ⟨(Nat.le_of_ble_eq_true rfl), (Nat.le_of_ble_eq_true rfl)⟩ mk_0 rfl rfl (Nat.le_of_ble_eq_true rfl) dL_law_1697 ⟨Nat.le_trans (Nat.add_le_add_left (Nat.le_of_ble_eq_true rfl : 4 + 0 ≤ 10) _) hf.1, Nat.le_trans (Nat.add_le_add_left (Nat.le_of_ble_eq_true rfl : 24 + 0 ≤ 60) _) hf.2⟩ ?_
  refine J.istore C dL_law_1700 (by decide) ?_
  refine J.lw (lv' := [(0, .ref b), (1, .ref (ad 0)), (2, .ref (bd 0)), (3, .ref o1), (4, .ref o2), (5, .int i), (6, .int k), (7, .int r)]) ⟨rfl, rfl, rfl, rfl, rfl, rfl, rfl, rfl, trivial⟩ ?_
  refine J.aload_n (i := 2) C dL_law_1702 rfl rfl ?_
  refine J.callVI C (sp_X7_thrown hl) rfl kMl_L_174 mdX7_thrown ⟨(Nat.le_of_ble_eq_true rfl), (Nat.le_of_ble_eq_true rfl)⟩ mk_0 rfl rfl (Nat.le_of_ble_eq_true rfl) dL_law_1703 ⟨Nat.le_trans (Nat.add_le_add_left (Nat.le_of_ble_eq_true rfl : 4 + 0 + 0 ≤ 10) _) hf.1, Nat.le_trans (Nat.add_le_add_left (Nat.le_of_ble_eq_true rfl : 24 + 0 + 0 ≤ 60) _) hf.2⟩ ?_
  refine J.heq lz_mk.symm ?_
  refine J.widen (k := cells + 10) (n := slots + 60) (Nat.add_le_add_left (Nat.le_of_ble_eq_true rfl : 4 + 0 + 0 ≤ 10) _) (Nat.add_le_add_left (Nat.le_of_ble_eq_true rfl : 24 + 0 + 0 ≤ 60) _) ?_
  refine J.iload C dL_law_1706 rfl ?_
  refine J.icmp_eq (tgt := 1713) C dL_law_1708 (by decide) (fun _ => ?_) (fun c9 => absurd hth c9)
  refine J.iload C dL_law_1713 rfl ?_
  refine J.if_ne (tgt := 1730) C dL_law_1715 (by decide) (fun _ => ?_) (fun hk => ?_)
  · refine J.goto (tgt := 3020) C dL_law_1730 (by decide) ?_
    exact J.lw (lv' := [(0, .ref b), (1, .ref (ad 0)), (2, .ref (bd 0)), (3, .ref o1), (4, .ref o2), (5, .int i)]) ⟨rfl, rfl, rfl, rfl, rfl, rfl, trivial⟩ (kk _ _ _ hI)
  · have hok := hok hk
    refine J.aload_n (i := 3) C dL_law_1718 rfl rfl ?_
    refine J.iconst C 0 dL_law_1719 (by decide) ?_
    refine J.lald C (66 + ((R9 g bd τ1).length + 0)) lw_0 (show vp_in 0 1 by unfold vp_in; decide) dL_law_1720 ?_
    refine J.iload C dL_law_1721 rfl ?_
    refine J.i2l C dL_law_1723 ?_
    refine J.lcmp C dL_law_1724 ?_
    refine J.if_eq (tgt := 1730) C dL_law_1725 (by decide) (fun _ => ?_) (fun c9 => absurd ((lg_cmp_eq _ _).mpr hok) c9)
    refine J.goto (tgt := 3020) C dL_law_1730 (by decide) ?_
    exact J.lw (lv' := [(0, .ref b), (1, .ref (ad 0)), (2, .ref (bd 0)), (3, .ref o1), (4, .ref o2), (5, .int i)]) ⟨rfl, rfl, rfl, rfl, rfl, rfl, trivial⟩ (kk _ _ _ hI)
set_option maxRecDepth 100000 in
theorem case_24 {p : Program} {l : Launch} (hl : l.stackTraces = false) {e : Env} {s : State} {m : MethodId} {args : Array Value} {below : List Frame} {meth : Method} {c : Code} {g : Gy} {A : Nat → Prop} {Q : State → Prop} {cells slots b L o1 o2 : Nat} {xs : Nat → Int32} {ad bd : Nat → Nat} {i : Int32} {σ : DS} {τ : MS} {w : OS} {Inv : DS → MS → Prop} (C : Cx p l s m args meth c g A RL cL_law 9) (hX : va_X b L xs s s.heap) (hbl : b < s.heap.size) (hbA : ¬ A b) (hf : cells + 10 ≤ room_1.cells ∧ slots + 60 ≤ room_1.slots) (HA : AgV Inv (P_X6_newProof σ ) (P_X7_newProof τ ))
    (kk : ∀ (σ' : DS) (τ' : MS) (w' : OS), Inv σ' τ' → J p l e room_1 s m args below meth c g A 9 (cells + 10) (slots + 60) Q 3020 [(0, .ref b), (1, .ref (ad 0)), (2, .ref (bd 0)), (3, .ref o1), (4, .ref o2), (5, .int i)] [] (lz g ad bd o1 o2 σ' τ' w')) : J p l e room_1 s m args below meth c g A 9 cells slots Q 1733 [(0, .ref b), (1, .ref (ad 0)), (2, .ref (bd 0)), (3, .ref o1), (4, .ref o2), (5, .int i)] [] (lz g ad bd o1 o2 σ τ w) := by
  refine J.aload_n (i := 1) C dL_law_1733 rfl rfl ?_
  obtain ⟨σ1, r, τ1, hx, hy, hI⟩ := HA
  refine J.callVR (hp := dkh g ad (R9 g bd τ ++ outs g o1 o2 w)) C rfl (sp_X6_newProof hl) hx rfl kMl_L_252 mdX6_newProof ⟨(Nat.le_of_ble_eq_true rfl), (Nat.le_of_ble_eq_true rfl)⟩ dk_0 rfl rfl (Nat.le_of_ble_eq_true rfl) dL_law_1734 ⟨Nat.le_trans (Nat.add_le_add_left (Nat.le_of_ble_eq_true rfl : 0 ≤ 10) _) hf.1, Nat.le_trans (Nat.add_le_add_left (Nat.le_of_ble_eq_true rfl : 0 ≤ 60) _) hf.2⟩ ?_
  refine J.aload_n (i := 2) C dL_law_1737 rfl rfl ?_
  refine J.heq (lz_mk (σ := σ1)) ?_
  refine J.callVR (hp := mkh g bd (dk g ad σ1) (outs g o1 o2 w)) C rfl (sp_X7_newProof hl) hy rfl kMl_L_255 mdX7_newProof ⟨(Nat.le_of_ble_eq_true rfl), (Nat.le_of_ble_eq_true rfl)⟩ mk_0 rfl rfl (Nat.le_of_ble_eq_true rfl) dL_law_1738 ⟨Nat.le_trans (Nat.add_le_add_left (Nat.le_of_ble_eq_true rfl : 0 + 0 ≤ 10) _) hf.1, Nat.le_trans (Nat.add_le_add_left (Nat.le_of_ble_eq_true rfl : 0 + 0 ≤ 60) _) hf.2⟩ ?_
  refine J.heq lz_mk.symm ?_
  refine J.widen (k := cells + 10) (n := slots + 60) (Nat.add_le_add_left (Nat.le_of_ble_eq_true rfl : 0 + 0 ≤ 10) _) (Nat.add_le_add_left (Nat.le_of_ble_eq_true rfl : 0 + 0 ≤ 60) _) ?_
  refine J.icmp_eq (tgt := 3020) C dL_law_1741 (by decide) (fun _ => ?_) (fun c9 => absurd rfl c9)
  exact kk _ _ _ hI
set_option maxRecDepth 100000 in
theorem case_25 {p : Program} {l : Launch} (hl : l.stackTraces = false) {e : Env} {s : State} {m : MethodId} {args : Array Value} {below : List Frame} {meth : Method} {c : Code} {g : Gy} {A : Nat → Prop} {Q : State → Prop} {cells slots b L o1 o2 : Nat} {xs : Nat → Int32} {ad bd : Nat → Nat} {i : Int32} {σ : DS} {τ : MS} {w : OS} {Inv : DS → MS → Prop} (C : Cx p l s m args meth c g A RL cL_law 9) (hX : va_X b L xs s s.heap) (hbl : b < s.heap.size) (hbA : ¬ A b) (hf : cells + 10 ≤ room_1.cells ∧ slots + 60 ≤ room_1.slots) (HA : AgW okI Inv (W_L_keepLemma σ w ) (P_X7_keepLemma τ ))
    (kk : ∀ (σ' : DS) (τ' : MS) (w' : OS), Inv σ' τ' → J p l e room_1 s m args below meth c g A 9 (cells + 10) (slots + 60) Q 3020 [(0, .ref b), (1, .ref (ad 0)), (2, .ref (bd 0)), (3, .ref o1), (4, .ref o2), (5, .int i)] [] (lz g ad bd o1 o2 σ' τ' w')) : J p l e room_1 s m args below meth c g A 9 cells slots Q 1746 [(0, .ref b), (1, .ref (ad 0)), (2, .ref (bd 0)), (3, .ref o1), (4, .ref o2), (5, .int i)] [] (lz g ad bd o1 o2 σ τ w) := by
  refine J.aload_n (i := 1) C dL_law_1746 rfl rfl ?_
  refine J.aload_n (i := 3) C dL_law_1747 rfl rfl ?_
  obtain ⟨k, σ1, w1, r, τ1, hx, hy, hth, hok, hI⟩ := HA
  refine J.callSH C (sp_L_keepLemma hl σ w  (.inl k, (σ1, w1)) hx) rfl kMl_L_256 mdL_keepLemma ⟨(Nat.le_of_ble_eq_true rfl), (Nat.le_of_ble_eq_true rfl)⟩ rfl (Nat.le_of_ble_eq_true rfl) dL_law_1748 ⟨Nat.le_trans (Nat.add_le_add_left (Nat.le_of_ble_eq_true rfl : 4 ≤ 10) _) hf.1, Nat.le_trans (Nat.add_le_add_left (Nat.le_of_ble_eq_true rfl : 24 ≤ 60) _) hf.2⟩ (fun r9 u hu => ?_)
  obtain ⟨hu1, rfl⟩ := hu
  cases hu1
  refine J.istore C dL_law_1751 (by decide) ?_
  refine J.lw (lv' := [(0, .ref b), (1, .ref (ad 0)), (2, .ref (bd 0)), (3, .ref o1), (4, .ref o2), (5, .int i), (6, .int k)]) ⟨rfl, rfl, rfl, rfl, rfl, rfl, rfl, trivial⟩ ?_
  refine J.aload_n (i := 2) C dL_law_1753 rfl rfl ?_
  refine J.heq lz_mk ?_
  refine J.callVR (hp := mkh g bd (dk g ad σ1) (outs g o1 o2 w1)) C rfl (sp_X7_keepLemma hl ) hy rfl kMl_L_258 mdX7_keepLemma ⟨(Nat.le_of_ble_eq_true rfl), (Nat.le_of_ble_eq_true rfl)⟩ mk_0 rfl rfl (Nat.le_of_ble_eq_true rfl) dL_law_1754 ⟨Nat.le_trans (Nat.add_le_add_left (Nat.le_of_ble_eq_true rfl : 4 + 0 ≤ 10) _) hf.1, Nat.le_trans (Nat.add_le_add_left (Nat.le_of_ble_eq_true rfl : 24 + 0 ≤ 60) _) hf.2⟩ ?_
  refine J.istore C dL_law_1757 (by decide) ?_
  refine J.lw (lv' := [(0, .ref b), (1, .ref (ad 0)), (2, .ref (bd 0)), (3, .ref o1), (4, .ref o2), (5, .int i), (6, .int k), (7, .int r)]) ⟨rfl, rfl, rfl, rfl, rfl, rfl, rfl, rfl, trivial⟩ ?_
  refine J.aload_n (i := 2) C dL_law_1759 rfl rfl ?_
  refine J.callVI C (sp_X7_thrown hl) rfl kMl_L_174 mdX7_thrown ⟨(Nat.le_of_ble_eq_true rfl), (Nat.le_of_ble_eq_true rfl)⟩ mk_0 rfl rfl (Nat.le_of_ble_eq_true rfl) dL_law_1760 ⟨Nat.le_trans (Nat.add_le_add_left (Nat.le_of_ble_eq_true rfl : 4 + 0 + 0 ≤ 10) _) hf.1, Nat.le_trans (Nat.add_le_add_left (Nat.le_of_ble_eq_true rfl : 24 + 0 + 0 ≤ 60) _) hf.2⟩ ?_
  refine J.heq lz_mk.symm ?_
  refine J.widen (k := cells + 10) (n := slots + 60) (Nat.add_le_add_left (Nat.le_of_ble_eq_true rfl : 4 + 0 + 0 ≤ 10) _) (Nat.add_le_add_left (Nat.le_of_ble_eq_true rfl : 24 + 0 + 0 ≤ 60) _) ?_
  refine J.iload C dL_law_1763 rfl ?_
  refine J.icmp_eq (tgt := 1770) C dL_law_1765 (by decide) (fun _ => ?_) (fun c9 => absurd hth c9)
  refine J.iload C dL_law_1770 rfl ?_
  refine J.if_ne (tgt := 1787) C dL_law_1772 (by decide) (fun _ => ?_) (fun hk => ?_)
  · refine J.goto (tgt := 3020) C dL_law_1787 (by decide) ?_
    exact J.lw (lv' := [(0, .ref b), (1, .ref (ad 0)), (2, .ref (bd 0)), (3, .ref o1), (4, .ref o2), (5, .int i)]) ⟨rfl, rfl, rfl, rfl, rfl, rfl, trivial⟩ (kk _ _ _ hI)
  · have hok := hok hk
    refine J.aload_n (i := 3) C dL_law_1775 rfl rfl ?_
    refine J.iconst C 0 dL_law_1776 (by decide) ?_
    refine J.lald C (66 + ((R9 g bd τ1).length + 0)) lw_0 (show vp_in 0 1 by unfold vp_in; decide) dL_law_1777 ?_
    refine J.iload C dL_law_1778 rfl ?_
    refine J.i2l C dL_law_1780 ?_
    refine J.lcmp C dL_law_1781 ?_
    refine J.if_eq (tgt := 1787) C dL_law_1782 (by decide) (fun _ => ?_) (fun c9 => absurd ((lg_cmp_eq _ _).mpr hok) c9)
    refine J.goto (tgt := 3020) C dL_law_1787 (by decide) ?_
    exact J.lw (lv' := [(0, .ref b), (1, .ref (ad 0)), (2, .ref (bd 0)), (3, .ref o1), (4, .ref o2), (5, .int i)]) ⟨rfl, rfl, rfl, rfl, rfl, rfl, trivial⟩ (kk _ _ _ hI)
set_option maxRecDepth 100000 in
theorem case_26 {p : Program} {l : Launch} (hl : l.stackTraces = false) {e : Env} {s : State} {m : MethodId} {args : Array Value} {below : List Frame} {meth : Method} {c : Code} {g : Gy} {A : Nat → Prop} {Q : State → Prop} {cells slots b L o1 o2 : Nat} {xs : Nat → Int32} {ad bd : Nat → Nat} {i : Int32} {σ : DS} {τ : MS} {w : OS} {Inv : DS → MS → Prop} (C : Cx p l s m args meth c g A RL cL_law 9) (hX : va_X b L xs s s.heap) (hbl : b < s.heap.size) (hbA : ¬ A b) (hf : cells + 10 ≤ room_1.cells ∧ slots + 60 ≤ room_1.slots) (h1 : vp_in (i + 1) L) (h2 : vp_in (i + 2) L) (h3 : vp_in (i + 3) L) (HA : AgW okI Inv (W_L_useLemma σ w (xs (i + 1).toNatClampNeg) (xs (i + 2).toNatClampNeg) (xs (i + 3).toNatClampNeg)) (P_X7_useLemma τ (xs (i + 1).toNatClampNeg) (xs (i + 2).toNatClampNeg) (xs (i + 3).toNatClampNeg)))
    (kk : ∀ (σ' : DS) (τ' : MS) (w' : OS), Inv σ' τ' → J p l e room_1 s m args below meth c g A 9 (cells + 10) (slots + 60) Q 3020 [(0, .ref b), (1, .ref (ad 0)), (2, .ref (bd 0)), (3, .ref o1), (4, .ref o2), (5, .int i)] [] (lz g ad bd o1 o2 σ' τ' w')) : J p l e room_1 s m args below meth c g A 9 cells slots Q 1790 [(0, .ref b), (1, .ref (ad 0)), (2, .ref (bd 0)), (3, .ref o1), (4, .ref o2), (5, .int i)] [] (lz g ad bd o1 o2 σ τ w) := by
  refine J.aload_n (i := 1) C dL_law_1790 rfl rfl ?_
  refine J.aload_n (i := 0) C dL_law_1791 rfl rfl ?_
  refine J.iload C dL_law_1792 rfl ?_
  refine J.iconst C 1 dL_law_1794 (by decide) ?_
  refine J.iadd C dL_law_1795 ?_
  refine J.sld C hX hbl hbA h1 dL_law_1796 ?_
  refine J.aload_n (i := 0) C dL_law_1797 rfl rfl ?_
  refine J.iload C dL_law_1798 rfl ?_
  refine J.iconst C 2 dL_law_1800 (by decide) ?_
  refine J.iadd C dL_law_1801 ?_
  refine J.sld C hX hbl hbA h2 dL_law_1802 ?_
  refine J.aload_n (i := 0) C dL_law_1803 rfl rfl ?_
  refine J.iload C dL_law_1804 rfl ?_
  refine J.iconst C 3 dL_law_1806 (by decide) ?_
  refine J.iadd C dL_law_1807 ?_
  refine J.sld C hX hbl hbA h3 dL_law_1808 ?_
  refine J.aload_n (i := 3) C dL_law_1809 rfl rfl ?_
  obtain ⟨k, σ1, w1, r, τ1, hx, hy, hth, hok, hI⟩ := HA
  refine J.callSH C (sp_L_useLemma hl σ w _ _ _ (.inl k, (σ1, w1)) hx) rfl kMl_L_259 mdL_useLemma ⟨(Nat.le_of_ble_eq_true rfl), (Nat.le_of_ble_eq_true rfl)⟩ rfl (Nat.le_of_ble_eq_true rfl) dL_law_1810 ⟨Nat.le_trans (Nat.add_le_add_left (Nat.le_of_ble_eq_true rfl : 8 ≤ 10) _) hf.1, Nat.le_trans (Nat.add_le_add_left (Nat.le_of_ble_eq_true rfl : 48 ≤ 60) _) hf.2⟩ (fun r9 u hu => ?_)
  obtain ⟨hu1, rfl⟩ := hu
  cases hu1
  refine J.istore C dL_law_1813 (by decide) ?_
  refine J.lw (lv' := [(0, .ref b), (1, .ref (ad 0)), (2, .ref (bd 0)), (3, .ref o1), (4, .ref o2), (5, .int i), (6, .int k)]) ⟨rfl, rfl, rfl, rfl, rfl, rfl, rfl, trivial⟩ ?_
  refine J.aload_n (i := 2) C dL_law_1815 rfl rfl ?_
  refine J.aload_n (i := 0) C dL_law_1816 rfl rfl ?_
  refine J.iload C dL_law_1817 rfl ?_
  refine J.iconst C 1 dL_law_1819 (by decide) ?_
  refine J.iadd C dL_law_1820 ?_
  refine J.sld C hX hbl hbA h1 dL_law_1821 ?_
  refine J.aload_n (i := 0) C dL_law_1822 rfl rfl ?_
  refine J.iload C dL_law_1823 rfl ?_
  refine J.iconst C 2 dL_law_1825 (by decide) ?_
  refine J.iadd C dL_law_1826 ?_
  refine J.sld C hX hbl hbA h2 dL_law_1827 ?_
  refine J.aload_n (i := 0) C dL_law_1828 rfl rfl ?_
  refine J.iload C dL_law_1829 rfl ?_
  refine J.iconst C 3 dL_law_1831 (by decide) ?_
  refine J.iadd C dL_law_1832 ?_
  refine J.sld C hX hbl hbA h3 dL_law_1833 ?_
  refine J.heq lz_mk ?_
  refine J.callVR (hp := mkh g bd (dk g ad σ1) (outs g o1 o2 w1)) C rfl (sp_X7_useLemma hl _ _ _) hy rfl kMl_L_261 mdX7_useLemma ⟨(Nat.le_of_ble_eq_true rfl), (Nat.le_of_ble_eq_true rfl)⟩ mk_0 rfl rfl (Nat.le_of_ble_eq_true rfl) dL_law_1834 ⟨Nat.le_trans (Nat.add_le_add_left (Nat.le_of_ble_eq_true rfl : 8 + 0 ≤ 10) _) hf.1, Nat.le_trans (Nat.add_le_add_left (Nat.le_of_ble_eq_true rfl : 48 + 0 ≤ 60) _) hf.2⟩ ?_
  refine J.istore C dL_law_1837 (by decide) ?_
  refine J.lw (lv' := [(0, .ref b), (1, .ref (ad 0)), (2, .ref (bd 0)), (3, .ref o1), (4, .ref o2), (5, .int i), (6, .int k), (7, .int r)]) ⟨rfl, rfl, rfl, rfl, rfl, rfl, rfl, rfl, trivial⟩ ?_
  refine J.aload_n (i := 2) C dL_law_1839 rfl rfl ?_
  refine J.callVI C (sp_X7_thrown hl) rfl kMl_L_174 mdX7_thrown ⟨(Nat.le_of_ble_eq_true rfl), (Nat.le_of_ble_eq_true rfl)⟩ mk_0 rfl rfl (Nat.le_of_ble_eq_true rfl) dL_law_1840 ⟨Nat.le_trans (Nat.add_le_add_left (Nat.le_of_ble_eq_true rfl : 8 + 0 + 0 ≤ 10) _) hf.1, Nat.le_trans (Nat.add_le_add_left (Nat.le_of_ble_eq_true rfl : 48 + 0 + 0 ≤ 60) _) hf.2⟩ ?_
  refine J.heq lz_mk.symm ?_
  refine J.widen (k := cells + 10) (n := slots + 60) (Nat.add_le_add_left (Nat.le_of_ble_eq_true rfl : 8 + 0 + 0 ≤ 10) _) (Nat.add_le_add_left (Nat.le_of_ble_eq_true rfl : 48 + 0 + 0 ≤ 60) _) ?_
  refine J.iload C dL_law_1843 rfl ?_
  refine J.icmp_eq (tgt := 1850) C dL_law_1845 (by decide) (fun _ => ?_) (fun c9 => absurd hth c9)
  refine J.iload C dL_law_1850 rfl ?_
  refine J.if_ne (tgt := 1867) C dL_law_1852 (by decide) (fun _ => ?_) (fun hk => ?_)
  · refine J.goto (tgt := 3020) C dL_law_1867 (by decide) ?_
    exact J.lw (lv' := [(0, .ref b), (1, .ref (ad 0)), (2, .ref (bd 0)), (3, .ref o1), (4, .ref o2), (5, .int i)]) ⟨rfl, rfl, rfl, rfl, rfl, rfl, trivial⟩ (kk _ _ _ hI)
  · have hok := hok hk
    refine J.aload_n (i := 3) C dL_law_1855 rfl rfl ?_
    refine J.iconst C 0 dL_law_1856 (by decide) ?_
    refine J.lald C (66 + ((R9 g bd τ1).length + 0)) lw_0 (show vp_in 0 1 by unfold vp_in; decide) dL_law_1857 ?_
    refine J.iload C dL_law_1858 rfl ?_
    refine J.i2l C dL_law_1860 ?_
    refine J.lcmp C dL_law_1861 ?_
    refine J.if_eq (tgt := 1867) C dL_law_1862 (by decide) (fun _ => ?_) (fun c9 => absurd ((lg_cmp_eq _ _).mpr hok) c9)
    refine J.goto (tgt := 3020) C dL_law_1867 (by decide) ?_
    exact J.lw (lv' := [(0, .ref b), (1, .ref (ad 0)), (2, .ref (bd 0)), (3, .ref o1), (4, .ref o2), (5, .int i)]) ⟨rfl, rfl, rfl, rfl, rfl, rfl, trivial⟩ (kk _ _ _ hI)
set_option maxRecDepth 100000 in
theorem case_27 {p : Program} {l : Launch} (hl : l.stackTraces = false) {e : Env} {s : State} {m : MethodId} {args : Array Value} {below : List Frame} {meth : Method} {c : Code} {g : Gy} {A : Nat → Prop} {Q : State → Prop} {cells slots b L o1 o2 : Nat} {xs : Nat → Int32} {ad bd : Nat → Nat} {i : Int32} {σ : DS} {τ : MS} {w : OS} {Inv : DS → MS → Prop} (C : Cx p l s m args meth c g A RL cL_law 9) (hX : va_X b L xs s s.heap) (hbl : b < s.heap.size) (hbA : ¬ A b) (hf : cells + 10 ≤ room_1.cells ∧ slots + 60 ≤ room_1.slots) (HA : AgV Inv (some (.inl (F_X6_lemmas σ ), σ)) (P_X7_lemmas τ ))
    (kk : ∀ (σ' : DS) (τ' : MS) (w' : OS), Inv σ' τ' → J p l e room_1 s m args below meth c g A 9 (cells + 10) (slots + 60) Q 3020 [(0, .ref b), (1, .ref (ad 0)), (2, .ref (bd 0)), (3, .ref o1), (4, .ref o2), (5, .int i)] [] (lz g ad bd o1 o2 σ' τ' w')) : J p l e room_1 s m args below meth c g A 9 cells slots Q 1870 [(0, .ref b), (1, .ref (ad 0)), (2, .ref (bd 0)), (3, .ref o1), (4, .ref o2), (5, .int i)] [] (lz g ad bd o1 o2 σ τ w) := by
  refine J.aload_n (i := 1) C dL_law_1870 rfl rfl ?_
  obtain ⟨σ1, r, τ1, hx, hy, hI⟩ := HA
  cases hx
  refine J.callVI C (sp_X6_lemmas hl) rfl kMl_L_262 mdX6_lemmas ⟨(Nat.le_of_ble_eq_true rfl), (Nat.le_of_ble_eq_true rfl)⟩ dk_0 rfl rfl (Nat.le_of_ble_eq_true rfl) dL_law_1871 ⟨Nat.le_trans (Nat.add_le_add_left (Nat.le_of_ble_eq_true rfl : 0 ≤ 10) _) hf.1, Nat.le_trans (Nat.add_le_add_left (Nat.le_of_ble_eq_true rfl : 0 ≤ 60) _) hf.2⟩ ?_
  refine J.aload_n (i := 2) C dL_law_1874 rfl rfl ?_
  refine J.heq (lz_mk (σ := σ)) ?_
  refine J.callVR (hp := mkh g bd (dk g ad σ) (outs g o1 o2 w)) C rfl (sp_X7_lemmas hl) hy rfl kMl_L_265 mdX7_lemmas ⟨(Nat.le_of_ble_eq_true rfl), (Nat.le_of_ble_eq_true rfl)⟩ mk_0 rfl rfl (Nat.le_of_ble_eq_true rfl) dL_law_1875 ⟨Nat.le_trans (Nat.add_le_add_left (Nat.le_of_ble_eq_true rfl : 0 + 0 ≤ 10) _) hf.1, Nat.le_trans (Nat.add_le_add_left (Nat.le_of_ble_eq_true rfl : 0 + 0 ≤ 60) _) hf.2⟩ ?_
  refine J.heq lz_mk.symm ?_
  refine J.widen (k := cells + 10) (n := slots + 60) (Nat.add_le_add_left (Nat.le_of_ble_eq_true rfl : 0 + 0 ≤ 10) _) (Nat.add_le_add_left (Nat.le_of_ble_eq_true rfl : 0 + 0 ≤ 60) _) ?_
  refine J.icmp_eq (tgt := 3020) C dL_law_1878 (by decide) (fun _ => ?_) (fun c9 => absurd rfl c9)
  exact kk _ _ _ hI
set_option maxRecDepth 100000 in
theorem case_28 {p : Program} {l : Launch} (hl : l.stackTraces = false) {e : Env} {s : State} {m : MethodId} {args : Array Value} {below : List Frame} {meth : Method} {c : Code} {g : Gy} {A : Nat → Prop} {Q : State → Prop} {cells slots b L o1 o2 : Nat} {xs : Nat → Int32} {ad bd : Nat → Nat} {i : Int32} {σ : DS} {τ : MS} {w : OS} {Inv : DS → MS → Prop} (C : Cx p l s m args meth c g A RL cL_law 9) (hX : va_X b L xs s s.heap) (hbl : b < s.heap.size) (hbA : ¬ A b) (hf : cells + 10 ≤ room_1.cells ∧ slots + 60 ≤ room_1.slots) (h1 : vp_in (i + 1) L) (HA : AgW okI Inv (W_L_conclusionOf σ w (xs (i + 1).toNatClampNeg)) (P_X7_conclusionOf τ (xs (i + 1).toNatClampNeg)))
    (kk : ∀ (σ' : DS) (τ' : MS) (w' : OS), Inv σ' τ' → J p l e room_1 s m args below meth c g A 9 (cells + 10) (slots + 60) Q 3020 [(0, .ref b), (1, .ref (ad 0)), (2, .ref (bd 0)), (3, .ref o1), (4, .ref o2), (5, .int i)] [] (lz g ad bd o1 o2 σ' τ' w')) : J p l e room_1 s m args below meth c g A 9 cells slots Q 1883 [(0, .ref b), (1, .ref (ad 0)), (2, .ref (bd 0)), (3, .ref o1), (4, .ref o2), (5, .int i)] [] (lz g ad bd o1 o2 σ τ w) := by
  refine J.aload_n (i := 1) C dL_law_1883 rfl rfl ?_
  refine J.aload_n (i := 0) C dL_law_1884 rfl rfl ?_
  refine J.iload C dL_law_1885 rfl ?_
  refine J.iconst C 1 dL_law_1887 (by decide) ?_
  refine J.iadd C dL_law_1888 ?_
  refine J.sld C hX hbl hbA h1 dL_law_1889 ?_
  refine J.aload_n (i := 3) C dL_law_1890 rfl rfl ?_
  obtain ⟨k, σ1, w1, r, τ1, hx, hy, hth, hok, hI⟩ := HA
  refine J.callSH C (sp_L_conclusionOf hl σ w _ (.inl k, (σ1, w1)) hx) rfl kMl_L_266 mdL_conclusionOf ⟨(Nat.le_of_ble_eq_true rfl), (Nat.le_of_ble_eq_true rfl)⟩ rfl (Nat.le_of_ble_eq_true rfl) dL_law_1891 ⟨Nat.le_trans (Nat.add_le_add_left (Nat.le_of_ble_eq_true rfl : 1 ≤ 10) _) hf.1, Nat.le_trans (Nat.add_le_add_left (Nat.le_of_ble_eq_true rfl : 6 ≤ 60) _) hf.2⟩ (fun r9 u hu => ?_)
  obtain ⟨hu1, rfl⟩ := hu
  cases hu1
  refine J.istore C dL_law_1894 (by decide) ?_
  refine J.lw (lv' := [(0, .ref b), (1, .ref (ad 0)), (2, .ref (bd 0)), (3, .ref o1), (4, .ref o2), (5, .int i), (6, .int k)]) ⟨rfl, rfl, rfl, rfl, rfl, rfl, rfl, trivial⟩ ?_
  refine J.aload_n (i := 2) C dL_law_1896 rfl rfl ?_
  refine J.aload_n (i := 0) C dL_law_1897 rfl rfl ?_
  refine J.iload C dL_law_1898 rfl ?_
  refine J.iconst C 1 dL_law_1900 (by decide) ?_
  refine J.iadd C dL_law_1901 ?_
  refine J.sld C hX hbl hbA h1 dL_law_1902 ?_
  refine J.heq lz_mk ?_
  refine J.callVR (hp := mkh g bd (dk g ad σ1) (outs g o1 o2 w1)) C rfl (sp_X7_conclusionOf hl _) hy rfl kMl_L_268 mdX7_conclusionOf ⟨(Nat.le_of_ble_eq_true rfl), (Nat.le_of_ble_eq_true rfl)⟩ mk_0 rfl rfl (Nat.le_of_ble_eq_true rfl) dL_law_1903 ⟨Nat.le_trans (Nat.add_le_add_left (Nat.le_of_ble_eq_true rfl : 1 + 0 ≤ 10) _) hf.1, Nat.le_trans (Nat.add_le_add_left (Nat.le_of_ble_eq_true rfl : 6 + 0 ≤ 60) _) hf.2⟩ ?_
  refine J.istore C dL_law_1906 (by decide) ?_
  refine J.lw (lv' := [(0, .ref b), (1, .ref (ad 0)), (2, .ref (bd 0)), (3, .ref o1), (4, .ref o2), (5, .int i), (6, .int k), (7, .int r)]) ⟨rfl, rfl, rfl, rfl, rfl, rfl, rfl, rfl, trivial⟩ ?_
  refine J.aload_n (i := 2) C dL_law_1908 rfl rfl ?_
  refine J.callVI C (sp_X7_thrown hl) rfl kMl_L_174 mdX7_thrown ⟨(Nat.le_of_ble_eq_true rfl), (Nat.le_of_ble_eq_true rfl)⟩ mk_0 rfl rfl (Nat.le_of_ble_eq_true rfl) dL_law_1909 ⟨Nat.le_trans (Nat.add_le_add_left (Nat.le_of_ble_eq_true rfl : 1 + 0 + 0 ≤ 10) _) hf.1, Nat.le_trans (Nat.add_le_add_left (Nat.le_of_ble_eq_true rfl : 6 + 0 + 0 ≤ 60) _) hf.2⟩ ?_
  refine J.heq lz_mk.symm ?_
  refine J.widen (k := cells + 10) (n := slots + 60) (Nat.add_le_add_left (Nat.le_of_ble_eq_true rfl : 1 + 0 + 0 ≤ 10) _) (Nat.add_le_add_left (Nat.le_of_ble_eq_true rfl : 6 + 0 + 0 ≤ 60) _) ?_
  refine J.iload C dL_law_1912 rfl ?_
  refine J.icmp_eq (tgt := 1919) C dL_law_1914 (by decide) (fun _ => ?_) (fun c9 => absurd hth c9)
  refine J.iload C dL_law_1919 rfl ?_
  refine J.if_ne (tgt := 1936) C dL_law_1921 (by decide) (fun _ => ?_) (fun hk => ?_)
  · refine J.goto (tgt := 3020) C dL_law_1936 (by decide) ?_
    exact J.lw (lv' := [(0, .ref b), (1, .ref (ad 0)), (2, .ref (bd 0)), (3, .ref o1), (4, .ref o2), (5, .int i)]) ⟨rfl, rfl, rfl, rfl, rfl, rfl, trivial⟩ (kk _ _ _ hI)
  · have hok := hok hk
    refine J.aload_n (i := 3) C dL_law_1924 rfl rfl ?_
    refine J.iconst C 0 dL_law_1925 (by decide) ?_
    refine J.lald C (66 + ((R9 g bd τ1).length + 0)) lw_0 (show vp_in 0 1 by unfold vp_in; decide) dL_law_1926 ?_
    refine J.iload C dL_law_1927 rfl ?_
    refine J.i2l C dL_law_1929 ?_
    refine J.lcmp C dL_law_1930 ?_
    refine J.if_eq (tgt := 1936) C dL_law_1931 (by decide) (fun _ => ?_) (fun c9 => absurd ((lg_cmp_eq _ _).mpr hok) c9)
    refine J.goto (tgt := 3020) C dL_law_1936 (by decide) ?_
    exact J.lw (lv' := [(0, .ref b), (1, .ref (ad 0)), (2, .ref (bd 0)), (3, .ref o1), (4, .ref o2), (5, .int i)]) ⟨rfl, rfl, rfl, rfl, rfl, rfl, trivial⟩ (kk _ _ _ hI)
set_option maxRecDepth 100000 in
theorem case_29 {p : Program} {l : Launch} (hl : l.stackTraces = false) {e : Env} {s : State} {m : MethodId} {args : Array Value} {below : List Frame} {meth : Method} {c : Code} {g : Gy} {A : Nat → Prop} {Q : State → Prop} {cells slots b L o1 o2 : Nat} {xs : Nat → Int32} {ad bd : Nat → Nat} {i : Int32} {σ : DS} {τ : MS} {w : OS} {Inv : DS → MS → Prop} (C : Cx p l s m args meth c g A RL cL_law 9) (hX : va_X b L xs s s.heap) (hbl : b < s.heap.size) (hbA : ¬ A b) (hf : cells + 10 ≤ room_1.cells ∧ slots + 60 ≤ room_1.slots) (HA : AgV Inv (some (.inl (F_X6_lines σ ), σ)) (P_X7_lines τ ))
    (kk : ∀ (σ' : DS) (τ' : MS) (w' : OS), Inv σ' τ' → J p l e room_1 s m args below meth c g A 9 (cells + 10) (slots + 60) Q 3020 [(0, .ref b), (1, .ref (ad 0)), (2, .ref (bd 0)), (3, .ref o1), (4, .ref o2), (5, .int i)] [] (lz g ad bd o1 o2 σ' τ' w')) : J p l e room_1 s m args below meth c g A 9 cells slots Q 1939 [(0, .ref b), (1, .ref (ad 0)), (2, .ref (bd 0)), (3, .ref o1), (4, .ref o2), (5, .int i)] [] (lz g ad bd o1 o2 σ τ w) := by
  refine J.aload_n (i := 1) C dL_law_1939 rfl rfl ?_
  obtain ⟨σ1, r, τ1, hx, hy, hI⟩ := HA
  cases hx
  refine J.callVI C (sp_X6_lines hl) rfl kMl_L_269 mdX6_lines ⟨(Nat.le_of_ble_eq_true rfl), (Nat.le_of_ble_eq_true rfl)⟩ dk_0 rfl rfl (Nat.le_of_ble_eq_true rfl) dL_law_1940 ⟨Nat.le_trans (Nat.add_le_add_left (Nat.le_of_ble_eq_true rfl : 0 ≤ 10) _) hf.1, Nat.le_trans (Nat.add_le_add_left (Nat.le_of_ble_eq_true rfl : 0 ≤ 60) _) hf.2⟩ ?_
  refine J.aload_n (i := 2) C dL_law_1943 rfl rfl ?_
  refine J.heq (lz_mk (σ := σ)) ?_
  refine J.callVR (hp := mkh g bd (dk g ad σ) (outs g o1 o2 w)) C rfl (sp_X7_lines hl) hy rfl kMl_L_272 mdX7_lines ⟨(Nat.le_of_ble_eq_true rfl), (Nat.le_of_ble_eq_true rfl)⟩ mk_0 rfl rfl (Nat.le_of_ble_eq_true rfl) dL_law_1944 ⟨Nat.le_trans (Nat.add_le_add_left (Nat.le_of_ble_eq_true rfl : 0 + 0 ≤ 10) _) hf.1, Nat.le_trans (Nat.add_le_add_left (Nat.le_of_ble_eq_true rfl : 0 + 0 ≤ 60) _) hf.2⟩ ?_
  refine J.heq lz_mk.symm ?_
  refine J.widen (k := cells + 10) (n := slots + 60) (Nat.add_le_add_left (Nat.le_of_ble_eq_true rfl : 0 + 0 ≤ 10) _) (Nat.add_le_add_left (Nat.le_of_ble_eq_true rfl : 0 + 0 ≤ 60) _) ?_
  refine J.icmp_eq (tgt := 3020) C dL_law_1947 (by decide) (fun _ => ?_) (fun c9 => absurd rfl c9)
  exact kk _ _ _ hI
set_option maxRecDepth 100000 in
theorem case_30 {p : Program} {l : Launch} (hl : l.stackTraces = false) {e : Env} {s : State} {m : MethodId} {args : Array Value} {below : List Frame} {meth : Method} {c : Code} {g : Gy} {A : Nat → Prop} {Q : State → Prop} {cells slots b L o1 o2 : Nat} {xs : Nat → Int32} {ad bd : Nat → Nat} {i : Int32} {σ : DS} {τ : MS} {w : OS} {Inv : DS → MS → Prop} (C : Cx p l s m args meth c g A RL cL_law 9) (hX : va_X b L xs s s.heap) (hbl : b < s.heap.size) (hbA : ¬ A b) (hf : cells + 10 ≤ room_1.cells ∧ slots + 60 ≤ room_1.slots) (h1 : vp_in (i + 1) L) (HA : AgW okI Inv (W_L_formulaOf σ w (xs (i + 1).toNatClampNeg)) (P_X7_formulaOf τ (xs (i + 1).toNatClampNeg)))
    (kk : ∀ (σ' : DS) (τ' : MS) (w' : OS), Inv σ' τ' → J p l e room_1 s m args below meth c g A 9 (cells + 10) (slots + 60) Q 3020 [(0, .ref b), (1, .ref (ad 0)), (2, .ref (bd 0)), (3, .ref o1), (4, .ref o2), (5, .int i)] [] (lz g ad bd o1 o2 σ' τ' w')) : J p l e room_1 s m args below meth c g A 9 cells slots Q 1952 [(0, .ref b), (1, .ref (ad 0)), (2, .ref (bd 0)), (3, .ref o1), (4, .ref o2), (5, .int i)] [] (lz g ad bd o1 o2 σ τ w) := by
  refine J.aload_n (i := 1) C dL_law_1952 rfl rfl ?_
  refine J.aload_n (i := 0) C dL_law_1953 rfl rfl ?_
  refine J.iload C dL_law_1954 rfl ?_
  refine J.iconst C 1 dL_law_1956 (by decide) ?_
  refine J.iadd C dL_law_1957 ?_
  refine J.sld C hX hbl hbA h1 dL_law_1958 ?_
  refine J.aload_n (i := 3) C dL_law_1959 rfl rfl ?_
  obtain ⟨k, σ1, w1, r, τ1, hx, hy, hth, hok, hI⟩ := HA
  refine J.callSH C (sp_L_formulaOf hl σ w _ (.inl k, (σ1, w1)) hx) rfl kMl_L_273 mdL_formulaOf ⟨(Nat.le_of_ble_eq_true rfl), (Nat.le_of_ble_eq_true rfl)⟩ rfl (Nat.le_of_ble_eq_true rfl) dL_law_1960 ⟨Nat.le_trans (Nat.add_le_add_left (Nat.le_of_ble_eq_true rfl : 1 ≤ 10) _) hf.1, Nat.le_trans (Nat.add_le_add_left (Nat.le_of_ble_eq_true rfl : 6 ≤ 60) _) hf.2⟩ (fun r9 u hu => ?_)
  obtain ⟨hu1, rfl⟩ := hu
  cases hu1
  refine J.istore C dL_law_1963 (by decide) ?_
  refine J.lw (lv' := [(0, .ref b), (1, .ref (ad 0)), (2, .ref (bd 0)), (3, .ref o1), (4, .ref o2), (5, .int i), (6, .int k)]) ⟨rfl, rfl, rfl, rfl, rfl, rfl, rfl, trivial⟩ ?_
  refine J.aload_n (i := 2) C dL_law_1965 rfl rfl ?_
  refine J.aload_n (i := 0) C dL_law_1966 rfl rfl ?_
  refine J.iload C dL_law_1967 rfl ?_
  refine J.iconst C 1 dL_law_1969 (by decide) ?_
  refine J.iadd C dL_law_1970 ?_
  refine J.sld C hX hbl hbA h1 dL_law_1971 ?_
  refine J.heq lz_mk ?_
  refine J.callVR (hp := mkh g bd (dk g ad σ1) (outs g o1 o2 w1)) C rfl (sp_X7_formulaOf hl _) hy rfl kMl_L_275 mdX7_formulaOf ⟨(Nat.le_of_ble_eq_true rfl), (Nat.le_of_ble_eq_true rfl)⟩ mk_0 rfl rfl (Nat.le_of_ble_eq_true rfl) dL_law_1972 ⟨Nat.le_trans (Nat.add_le_add_left (Nat.le_of_ble_eq_true rfl : 1 + 0 ≤ 10) _) hf.1, Nat.le_trans (Nat.add_le_add_left (Nat.le_of_ble_eq_true rfl : 6 + 0 ≤ 60) _) hf.2⟩ ?_
  refine J.istore C dL_law_1975 (by decide) ?_
  refine J.lw (lv' := [(0, .ref b), (1, .ref (ad 0)), (2, .ref (bd 0)), (3, .ref o1), (4, .ref o2), (5, .int i), (6, .int k), (7, .int r)]) ⟨rfl, rfl, rfl, rfl, rfl, rfl, rfl, rfl, trivial⟩ ?_
  refine J.aload_n (i := 2) C dL_law_1977 rfl rfl ?_
  refine J.callVI C (sp_X7_thrown hl) rfl kMl_L_174 mdX7_thrown ⟨(Nat.le_of_ble_eq_true rfl), (Nat.le_of_ble_eq_true rfl)⟩ mk_0 rfl rfl (Nat.le_of_ble_eq_true rfl) dL_law_1978 ⟨Nat.le_trans (Nat.add_le_add_left (Nat.le_of_ble_eq_true rfl : 1 + 0 + 0 ≤ 10) _) hf.1, Nat.le_trans (Nat.add_le_add_left (Nat.le_of_ble_eq_true rfl : 6 + 0 + 0 ≤ 60) _) hf.2⟩ ?_
  refine J.heq lz_mk.symm ?_
  refine J.widen (k := cells + 10) (n := slots + 60) (Nat.add_le_add_left (Nat.le_of_ble_eq_true rfl : 1 + 0 + 0 ≤ 10) _) (Nat.add_le_add_left (Nat.le_of_ble_eq_true rfl : 6 + 0 + 0 ≤ 60) _) ?_
  refine J.iload C dL_law_1981 rfl ?_
  refine J.icmp_eq (tgt := 1988) C dL_law_1983 (by decide) (fun _ => ?_) (fun c9 => absurd hth c9)
  refine J.iload C dL_law_1988 rfl ?_
  refine J.if_ne (tgt := 2005) C dL_law_1990 (by decide) (fun _ => ?_) (fun hk => ?_)
  · refine J.goto (tgt := 3020) C dL_law_2005 (by decide) ?_
    exact J.lw (lv' := [(0, .ref b), (1, .ref (ad 0)), (2, .ref (bd 0)), (3, .ref o1), (4, .ref o2), (5, .int i)]) ⟨rfl, rfl, rfl, rfl, rfl, rfl, trivial⟩ (kk _ _ _ hI)
  · have hok := hok hk
    refine J.aload_n (i := 3) C dL_law_1993 rfl rfl ?_
    refine J.iconst C 0 dL_law_1994 (by decide) ?_
    refine J.lald C (66 + ((R9 g bd τ1).length + 0)) lw_0 (show vp_in 0 1 by unfold vp_in; decide) dL_law_1995 ?_
    refine J.iload C dL_law_1996 rfl ?_
    refine J.i2l C dL_law_1998 ?_
    refine J.lcmp C dL_law_1999 ?_
    refine J.if_eq (tgt := 2005) C dL_law_2000 (by decide) (fun _ => ?_) (fun c9 => absurd ((lg_cmp_eq _ _).mpr hok) c9)
    refine J.goto (tgt := 3020) C dL_law_2005 (by decide) ?_
    exact J.lw (lv' := [(0, .ref b), (1, .ref (ad 0)), (2, .ref (bd 0)), (3, .ref o1), (4, .ref o2), (5, .int i)]) ⟨rfl, rfl, rfl, rfl, rfl, rfl, trivial⟩ (kk _ _ _ hI)
set_option maxRecDepth 100000 in
theorem case_31 {p : Program} {l : Launch} (hl : l.stackTraces = false) {e : Env} {s : State} {m : MethodId} {args : Array Value} {below : List Frame} {meth : Method} {c : Code} {g : Gy} {A : Nat → Prop} {Q : State → Prop} {cells slots b L o1 o2 : Nat} {xs : Nat → Int32} {ad bd : Nat → Nat} {i : Int32} {σ : DS} {τ : MS} {w : OS} {Inv : DS → MS → Prop} (C : Cx p l s m args meth c g A RL cL_law 9) (hX : va_X b L xs s s.heap) (hbl : b < s.heap.size) (hbA : ¬ A b) (hf : cells + 10 ≤ room_1.cells ∧ slots + 60 ≤ room_1.slots) (h1 : vp_in (i + 1) L) (HA : AgW okI Inv (W_L_ruleOf σ w (xs (i + 1).toNatClampNeg)) (P_X7_ruleOf τ (xs (i + 1).toNatClampNeg)))
    (kk : ∀ (σ' : DS) (τ' : MS) (w' : OS), Inv σ' τ' → J p l e room_1 s m args below meth c g A 9 (cells + 10) (slots + 60) Q 3020 [(0, .ref b), (1, .ref (ad 0)), (2, .ref (bd 0)), (3, .ref o1), (4, .ref o2), (5, .int i)] [] (lz g ad bd o1 o2 σ' τ' w')) : J p l e room_1 s m args below meth c g A 9 cells slots Q 2008 [(0, .ref b), (1, .ref (ad 0)), (2, .ref (bd 0)), (3, .ref o1), (4, .ref o2), (5, .int i)] [] (lz g ad bd o1 o2 σ τ w) := by
  refine J.aload_n (i := 1) C dL_law_2008 rfl rfl ?_
  refine J.aload_n (i := 0) C dL_law_2009 rfl rfl ?_
  refine J.iload C dL_law_2010 rfl ?_
  refine J.iconst C 1 dL_law_2012 (by decide) ?_
  refine J.iadd C dL_law_2013 ?_
  refine J.sld C hX hbl hbA h1 dL_law_2014 ?_
  refine J.aload_n (i := 3) C dL_law_2015 rfl rfl ?_
  obtain ⟨k, σ1, w1, r, τ1, hx, hy, hth, hok, hI⟩ := HA
  refine J.callSH C (sp_L_ruleOf hl σ w _ (.inl k, (σ1, w1)) hx) rfl kMl_L_276 mdL_ruleOf ⟨(Nat.le_of_ble_eq_true rfl), (Nat.le_of_ble_eq_true rfl)⟩ rfl (Nat.le_of_ble_eq_true rfl) dL_law_2016 ⟨Nat.le_trans (Nat.add_le_add_left (Nat.le_of_ble_eq_true rfl : 1 ≤ 10) _) hf.1, Nat.le_trans (Nat.add_le_add_left (Nat.le_of_ble_eq_true rfl : 6 ≤ 60) _) hf.2⟩ (fun r9 u hu => ?_)
  obtain ⟨hu1, rfl⟩ := hu
  cases hu1
  refine J.istore C dL_law_2019 (by decide) ?_
  refine J.lw (lv' := [(0, .ref b), (1, .ref (ad 0)), (2, .ref (bd 0)), (3, .ref o1), (4, .ref o2), (5, .int i), (6, .int k)]) ⟨rfl, rfl, rfl, rfl, rfl, rfl, rfl, trivial⟩ ?_
  refine J.aload_n (i := 2) C dL_law_2021 rfl rfl ?_
  refine J.aload_n (i := 0) C dL_law_2022 rfl rfl ?_
  refine J.iload C dL_law_2023 rfl ?_
  refine J.iconst C 1 dL_law_2025 (by decide) ?_
  refine J.iadd C dL_law_2026 ?_
  refine J.sld C hX hbl hbA h1 dL_law_2027 ?_
  refine J.heq lz_mk ?_
  refine J.callVR (hp := mkh g bd (dk g ad σ1) (outs g o1 o2 w1)) C rfl (sp_X7_ruleOf hl _) hy rfl kMl_L_278 mdX7_ruleOf ⟨(Nat.le_of_ble_eq_true rfl), (Nat.le_of_ble_eq_true rfl)⟩ mk_0 rfl rfl (Nat.le_of_ble_eq_true rfl) dL_law_2028 ⟨Nat.le_trans (Nat.add_le_add_left (Nat.le_of_ble_eq_true rfl : 1 + 0 ≤ 10) _) hf.1, Nat.le_trans (Nat.add_le_add_left (Nat.le_of_ble_eq_true rfl : 6 + 0 ≤ 60) _) hf.2⟩ ?_
  refine J.istore C dL_law_2031 (by decide) ?_
  refine J.lw (lv' := [(0, .ref b), (1, .ref (ad 0)), (2, .ref (bd 0)), (3, .ref o1), (4, .ref o2), (5, .int i), (6, .int k), (7, .int r)]) ⟨rfl, rfl, rfl, rfl, rfl, rfl, rfl, rfl, trivial⟩ ?_
  refine J.aload_n (i := 2) C dL_law_2033 rfl rfl ?_
  refine J.callVI C (sp_X7_thrown hl) rfl kMl_L_174 mdX7_thrown ⟨(Nat.le_of_ble_eq_true rfl), (Nat.le_of_ble_eq_true rfl)⟩ mk_0 rfl rfl (Nat.le_of_ble_eq_true rfl) dL_law_2034 ⟨Nat.le_trans (Nat.add_le_add_left (Nat.le_of_ble_eq_true rfl : 1 + 0 + 0 ≤ 10) _) hf.1, Nat.le_trans (Nat.add_le_add_left (Nat.le_of_ble_eq_true rfl : 6 + 0 + 0 ≤ 60) _) hf.2⟩ ?_
  refine J.heq lz_mk.symm ?_
  refine J.widen (k := cells + 10) (n := slots + 60) (Nat.add_le_add_left (Nat.le_of_ble_eq_true rfl : 1 + 0 + 0 ≤ 10) _) (Nat.add_le_add_left (Nat.le_of_ble_eq_true rfl : 6 + 0 + 0 ≤ 60) _) ?_
  refine J.iload C dL_law_2037 rfl ?_
  refine J.icmp_eq (tgt := 2044) C dL_law_2039 (by decide) (fun _ => ?_) (fun c9 => absurd hth c9)
  refine J.iload C dL_law_2044 rfl ?_
  refine J.if_ne (tgt := 2061) C dL_law_2046 (by decide) (fun _ => ?_) (fun hk => ?_)
  · refine J.goto (tgt := 3020) C dL_law_2061 (by decide) ?_
    exact J.lw (lv' := [(0, .ref b), (1, .ref (ad 0)), (2, .ref (bd 0)), (3, .ref o1), (4, .ref o2), (5, .int i)]) ⟨rfl, rfl, rfl, rfl, rfl, rfl, trivial⟩ (kk _ _ _ hI)
  · have hok := hok hk
    refine J.aload_n (i := 3) C dL_law_2049 rfl rfl ?_
    refine J.iconst C 0 dL_law_2050 (by decide) ?_
    refine J.lald C (66 + ((R9 g bd τ1).length + 0)) lw_0 (show vp_in 0 1 by unfold vp_in; decide) dL_law_2051 ?_
    refine J.iload C dL_law_2052 rfl ?_
    refine J.i2l C dL_law_2054 ?_
    refine J.lcmp C dL_law_2055 ?_
    refine J.if_eq (tgt := 2061) C dL_law_2056 (by decide) (fun _ => ?_) (fun c9 => absurd ((lg_cmp_eq _ _).mpr hok) c9)
    refine J.goto (tgt := 3020) C dL_law_2061 (by decide) ?_
    exact J.lw (lv' := [(0, .ref b), (1, .ref (ad 0)), (2, .ref (bd 0)), (3, .ref o1), (4, .ref o2), (5, .int i)]) ⟨rfl, rfl, rfl, rfl, rfl, rfl, trivial⟩ (kk _ _ _ hI)
set_option maxRecDepth 100000 in
theorem case_32 {p : Program} {l : Launch} (hl : l.stackTraces = false) {e : Env} {s : State} {m : MethodId} {args : Array Value} {below : List Frame} {meth : Method} {c : Code} {g : Gy} {A : Nat → Prop} {Q : State → Prop} {cells slots b L o1 o2 : Nat} {xs : Nat → Int32} {ad bd : Nat → Nat} {i : Int32} {σ : DS} {τ : MS} {w : OS} {Inv : DS → MS → Prop} (C : Cx p l s m args meth c g A RL cL_law 9) (hX : va_X b L xs s s.heap) (hbl : b < s.heap.size) (hbA : ¬ A b) (hf : cells + 10 ≤ room_1.cells ∧ slots + 60 ≤ room_1.slots) (h1 : vp_in (i + 1) L) (HA : AgW okI Inv (W_L_depthOf σ w (xs (i + 1).toNatClampNeg)) (P_X7_depthOf τ (xs (i + 1).toNatClampNeg)))
    (kk : ∀ (σ' : DS) (τ' : MS) (w' : OS), Inv σ' τ' → J p l e room_1 s m args below meth c g A 9 (cells + 10) (slots + 60) Q 3020 [(0, .ref b), (1, .ref (ad 0)), (2, .ref (bd 0)), (3, .ref o1), (4, .ref o2), (5, .int i)] [] (lz g ad bd o1 o2 σ' τ' w')) : J p l e room_1 s m args below meth c g A 9 cells slots Q 2064 [(0, .ref b), (1, .ref (ad 0)), (2, .ref (bd 0)), (3, .ref o1), (4, .ref o2), (5, .int i)] [] (lz g ad bd o1 o2 σ τ w) := by
  refine J.aload_n (i := 1) C dL_law_2064 rfl rfl ?_
  refine J.aload_n (i := 0) C dL_law_2065 rfl rfl ?_
  refine J.iload C dL_law_2066 rfl ?_
  refine J.iconst C 1 dL_law_2068 (by decide) ?_
  refine J.iadd C dL_law_2069 ?_
  refine J.sld C hX hbl hbA h1 dL_law_2070 ?_
  refine J.aload_n (i := 3) C dL_law_2071 rfl rfl ?_
  obtain ⟨k, σ1, w1, r, τ1, hx, hy, hth, hok, hI⟩ := HA
  refine J.callSH C (sp_L_depthOf hl σ w _ (.inl k, (σ1, w1)) hx) rfl kMl_L_279 mdL_depthOf ⟨(Nat.le_of_ble_eq_true rfl), (Nat.le_of_ble_eq_true rfl)⟩ rfl (Nat.le_of_ble_eq_true rfl) dL_law_2072 ⟨Nat.le_trans (Nat.add_le_add_left (Nat.le_of_ble_eq_true rfl : 1 ≤ 10) _) hf.1, Nat.le_trans (Nat.add_le_add_left (Nat.le_of_ble_eq_true rfl : 6 ≤ 60) _) hf.2⟩ (fun r9 u hu => ?_)
  obtain ⟨hu1, rfl⟩ := hu
  cases hu1
  refine J.istore C dL_law_2075 (by decide) ?_
  refine J.lw (lv' := [(0, .ref b), (1, .ref (ad 0)), (2, .ref (bd 0)), (3, .ref o1), (4, .ref o2), (5, .int i), (6, .int k)]) ⟨rfl, rfl, rfl, rfl, rfl, rfl, rfl, trivial⟩ ?_
  refine J.aload_n (i := 2) C dL_law_2077 rfl rfl ?_
  refine J.aload_n (i := 0) C dL_law_2078 rfl rfl ?_
  refine J.iload C dL_law_2079 rfl ?_
  refine J.iconst C 1 dL_law_2081 (by decide) ?_
  refine J.iadd C dL_law_2082 ?_
  refine J.sld C hX hbl hbA h1 dL_law_2083 ?_
  refine J.heq lz_mk ?_
  refine J.callVR (hp := mkh g bd (dk g ad σ1) (outs g o1 o2 w1)) C rfl (sp_X7_depthOf hl _) hy rfl kMl_L_281 mdX7_depthOf ⟨(Nat.le_of_ble_eq_true rfl), (Nat.le_of_ble_eq_true rfl)⟩ mk_0 rfl rfl (Nat.le_of_ble_eq_true rfl) dL_law_2084 ⟨Nat.le_trans (Nat.add_le_add_left (Nat.le_of_ble_eq_true rfl : 1 + 0 ≤ 10) _) hf.1, Nat.le_trans (Nat.add_le_add_left (Nat.le_of_ble_eq_true rfl : 6 + 0 ≤ 60) _) hf.2⟩ ?_
  refine J.istore C dL_law_2087 (by decide) ?_
  refine J.lw (lv' := [(0, .ref b), (1, .ref (ad 0)), (2, .ref (bd 0)), (3, .ref o1), (4, .ref o2), (5, .int i), (6, .int k), (7, .int r)]) ⟨rfl, rfl, rfl, rfl, rfl, rfl, rfl, rfl, trivial⟩ ?_
  refine J.aload_n (i := 2) C dL_law_2089 rfl rfl ?_
  refine J.callVI C (sp_X7_thrown hl) rfl kMl_L_174 mdX7_thrown ⟨(Nat.le_of_ble_eq_true rfl), (Nat.le_of_ble_eq_true rfl)⟩ mk_0 rfl rfl (Nat.le_of_ble_eq_true rfl) dL_law_2090 ⟨Nat.le_trans (Nat.add_le_add_left (Nat.le_of_ble_eq_true rfl : 1 + 0 + 0 ≤ 10) _) hf.1, Nat.le_trans (Nat.add_le_add_left (Nat.le_of_ble_eq_true rfl : 6 + 0 + 0 ≤ 60) _) hf.2⟩ ?_
  refine J.heq lz_mk.symm ?_
  refine J.widen (k := cells + 10) (n := slots + 60) (Nat.add_le_add_left (Nat.le_of_ble_eq_true rfl : 1 + 0 + 0 ≤ 10) _) (Nat.add_le_add_left (Nat.le_of_ble_eq_true rfl : 6 + 0 + 0 ≤ 60) _) ?_
  refine J.iload C dL_law_2093 rfl ?_
  refine J.icmp_eq (tgt := 2100) C dL_law_2095 (by decide) (fun _ => ?_) (fun c9 => absurd hth c9)
  refine J.iload C dL_law_2100 rfl ?_
  refine J.if_ne (tgt := 2117) C dL_law_2102 (by decide) (fun _ => ?_) (fun hk => ?_)
  · refine J.goto (tgt := 3020) C dL_law_2117 (by decide) ?_
    exact J.lw (lv' := [(0, .ref b), (1, .ref (ad 0)), (2, .ref (bd 0)), (3, .ref o1), (4, .ref o2), (5, .int i)]) ⟨rfl, rfl, rfl, rfl, rfl, rfl, trivial⟩ (kk _ _ _ hI)
  · have hok := hok hk
    refine J.aload_n (i := 3) C dL_law_2105 rfl rfl ?_
    refine J.iconst C 0 dL_law_2106 (by decide) ?_
    refine J.lald C (66 + ((R9 g bd τ1).length + 0)) lw_0 (show vp_in 0 1 by unfold vp_in; decide) dL_law_2107 ?_
    refine J.iload C dL_law_2108 rfl ?_
    refine J.i2l C dL_law_2110 ?_
    refine J.lcmp C dL_law_2111 ?_
    refine J.if_eq (tgt := 2117) C dL_law_2112 (by decide) (fun _ => ?_) (fun c9 => absurd ((lg_cmp_eq _ _).mpr hok) c9)
    refine J.goto (tgt := 3020) C dL_law_2117 (by decide) ?_
    exact J.lw (lv' := [(0, .ref b), (1, .ref (ad 0)), (2, .ref (bd 0)), (3, .ref o1), (4, .ref o2), (5, .int i)]) ⟨rfl, rfl, rfl, rfl, rfl, rfl, trivial⟩ (kk _ _ _ hI)
set_option maxRecDepth 100000 in
theorem case_33 {p : Program} {l : Launch} (hl : l.stackTraces = false) {e : Env} {s : State} {m : MethodId} {args : Array Value} {below : List Frame} {meth : Method} {c : Code} {g : Gy} {A : Nat → Prop} {Q : State → Prop} {cells slots b L o1 o2 : Nat} {xs : Nat → Int32} {ad bd : Nat → Nat} {i : Int32} {σ : DS} {τ : MS} {w : OS} {Inv : DS → MS → Prop} (C : Cx p l s m args meth c g A RL cL_law 9) (hX : va_X b L xs s s.heap) (hbl : b < s.heap.size) (hbA : ¬ A b) (hf : cells + 10 ≤ room_1.cells ∧ slots + 60 ≤ room_1.slots) (h1 : vp_in (i + 1) L) (HA : AgW okZ Inv (W_L_canCite σ w (xs (i + 1).toNatClampNeg)) (P_X7_canCite τ (xs (i + 1).toNatClampNeg)))
    (kk : ∀ (σ' : DS) (τ' : MS) (w' : OS), Inv σ' τ' → J p l e room_1 s m args below meth c g A 9 (cells + 10) (slots + 60) Q 3020 [(0, .ref b), (1, .ref (ad 0)), (2, .ref (bd 0)), (3, .ref o1), (4, .ref o2), (5, .int i)] [] (lz g ad bd o1 o2 σ' τ' w')) : J p l e room_1 s m args below meth c g A 9 cells slots Q 2120 [(0, .ref b), (1, .ref (ad 0)), (2, .ref (bd 0)), (3, .ref o1), (4, .ref o2), (5, .int i)] [] (lz g ad bd o1 o2 σ τ w) := by
  refine J.aload_n (i := 1) C dL_law_2120 rfl rfl ?_
  refine J.aload_n (i := 0) C dL_law_2121 rfl rfl ?_
  refine J.iload C dL_law_2122 rfl ?_
  refine J.iconst C 1 dL_law_2124 (by decide) ?_
  refine J.iadd C dL_law_2125 ?_
  refine J.sld C hX hbl hbA h1 dL_law_2126 ?_
  refine J.aload_n (i := 3) C dL_law_2127 rfl rfl ?_
  obtain ⟨k, σ1, w1, r, τ1, hx, hy, hth, hok, hI⟩ := HA
  refine J.callSH C (sp_L_canCite hl σ w _ (.inl k, (σ1, w1)) hx) rfl kMl_L_282 mdL_canCite ⟨(Nat.le_of_ble_eq_true rfl), (Nat.le_of_ble_eq_true rfl)⟩ rfl (Nat.le_of_ble_eq_true rfl) dL_law_2128 ⟨Nat.le_trans (Nat.add_le_add_left (Nat.le_of_ble_eq_true rfl : 1 ≤ 10) _) hf.1, Nat.le_trans (Nat.add_le_add_left (Nat.le_of_ble_eq_true rfl : 6 ≤ 60) _) hf.2⟩ (fun r9 u hu => ?_)
  obtain ⟨hu1, rfl⟩ := hu
  cases hu1
  refine J.istore C dL_law_2131 (by decide) ?_
  refine J.lw (lv' := [(0, .ref b), (1, .ref (ad 0)), (2, .ref (bd 0)), (3, .ref o1), (4, .ref o2), (5, .int i), (6, .int k)]) ⟨rfl, rfl, rfl, rfl, rfl, rfl, rfl, trivial⟩ ?_
  refine J.aload_n (i := 2) C dL_law_2133 rfl rfl ?_
  refine J.aload_n (i := 0) C dL_law_2134 rfl rfl ?_
  refine J.iload C dL_law_2135 rfl ?_
  refine J.iconst C 1 dL_law_2137 (by decide) ?_
  refine J.iadd C dL_law_2138 ?_
  refine J.sld C hX hbl hbA h1 dL_law_2139 ?_
  refine J.heq lz_mk ?_
  refine J.callVR (hp := mkh g bd (dk g ad σ1) (outs g o1 o2 w1)) C rfl (sp_X7_canCite hl _) hy rfl kMl_L_284 mdX7_canCite ⟨(Nat.le_of_ble_eq_true rfl), (Nat.le_of_ble_eq_true rfl)⟩ mk_0 rfl rfl (Nat.le_of_ble_eq_true rfl) dL_law_2140 ⟨Nat.le_trans (Nat.add_le_add_left (Nat.le_of_ble_eq_true rfl : 1 + 0 ≤ 10) _) hf.1, Nat.le_trans (Nat.add_le_add_left (Nat.le_of_ble_eq_true rfl : 6 + 0 ≤ 60) _) hf.2⟩ ?_
  refine J.istore C dL_law_2143 (by decide) ?_
  refine J.lw (lv' := [(0, .ref b), (1, .ref (ad 0)), (2, .ref (bd 0)), (3, .ref o1), (4, .ref o2), (5, .int i), (6, .int k), (7, .int r)]) ⟨rfl, rfl, rfl, rfl, rfl, rfl, rfl, rfl, trivial⟩ ?_
  refine J.aload_n (i := 2) C dL_law_2145 rfl rfl ?_
  refine J.callVI C (sp_X7_thrown hl) rfl kMl_L_174 mdX7_thrown ⟨(Nat.le_of_ble_eq_true rfl), (Nat.le_of_ble_eq_true rfl)⟩ mk_0 rfl rfl (Nat.le_of_ble_eq_true rfl) dL_law_2146 ⟨Nat.le_trans (Nat.add_le_add_left (Nat.le_of_ble_eq_true rfl : 1 + 0 + 0 ≤ 10) _) hf.1, Nat.le_trans (Nat.add_le_add_left (Nat.le_of_ble_eq_true rfl : 6 + 0 + 0 ≤ 60) _) hf.2⟩ ?_
  refine J.heq lz_mk.symm ?_
  refine J.widen (k := cells + 10) (n := slots + 60) (Nat.add_le_add_left (Nat.le_of_ble_eq_true rfl : 1 + 0 + 0 ≤ 10) _) (Nat.add_le_add_left (Nat.le_of_ble_eq_true rfl : 6 + 0 + 0 ≤ 60) _) ?_
  refine J.iload C dL_law_2149 rfl ?_
  refine J.icmp_eq (tgt := 2156) C dL_law_2151 (by decide) (fun _ => ?_) (fun c9 => absurd hth c9)
  refine J.iload C dL_law_2156 rfl ?_
  refine J.if_ne (tgt := 2180) C dL_law_2158 (by decide) (fun _ => ?_) (fun hk => ?_)
  · refine J.goto (tgt := 3020) C dL_law_2180 (by decide) ?_
    exact J.lw (lv' := [(0, .ref b), (1, .ref (ad 0)), (2, .ref (bd 0)), (3, .ref o1), (4, .ref o2), (5, .int i)]) ⟨rfl, rfl, rfl, rfl, rfl, rfl, trivial⟩ (kk _ _ _ hI)
  · have hok := hok hk
    refine J.aload_n (i := 3) C dL_law_2161 rfl rfl ?_
    refine J.iconst C 0 dL_law_2162 (by decide) ?_
    refine J.lald C (66 + ((R9 g bd τ1).length + 0)) lw_0 (show vp_in 0 1 by unfold vp_in; decide) dL_law_2163 ?_
    refine J.iload C dL_law_2164 rfl ?_
    refine J.nzL (t1 := 2173) (t2 := 2174) C dL_law_2166 (by decide) dL_law_2169 dL_law_2170 (by decide) dL_law_2173 rfl ?_
    refine J.lcmp C dL_law_2174 ?_
    refine J.if_eq (tgt := 2180) C dL_law_2175 (by decide) (fun _ => ?_) (fun c9 => absurd ((lg_cmp_eq _ _).mpr hok) c9)
    refine J.goto (tgt := 3020) C dL_law_2180 (by decide) ?_
    exact J.lw (lv' := [(0, .ref b), (1, .ref (ad 0)), (2, .ref (bd 0)), (3, .ref o1), (4, .ref o2), (5, .int i)]) ⟨rfl, rfl, rfl, rfl, rfl, rfl, trivial⟩ (kk _ _ _ hI)
set_option maxRecDepth 100000 in
theorem case_34 {p : Program} {l : Launch} (hl : l.stackTraces = false) {e : Env} {s : State} {m : MethodId} {args : Array Value} {below : List Frame} {meth : Method} {c : Code} {g : Gy} {A : Nat → Prop} {Q : State → Prop} {cells slots b L o1 o2 : Nat} {xs : Nat → Int32} {ad bd : Nat → Nat} {i : Int32} {σ : DS} {τ : MS} {w : OS} {Inv : DS → MS → Prop} (C : Cx p l s m args meth c g A RL cL_law 9) (hX : va_X b L xs s s.heap) (hbl : b < s.heap.size) (hbA : ¬ A b) (hf : cells + 10 ≤ room_1.cells ∧ slots + 60 ≤ room_1.slots) (HA : AgV Inv (some (.inl (F_X6_boxes σ ), σ)) (P_X7_boxes τ ))
    (kk : ∀ (σ' : DS) (τ' : MS) (w' : OS), Inv σ' τ' → J p l e room_1 s m args below meth c g A 9 (cells + 10) (slots + 60) Q 3020 [(0, .ref b), (1, .ref (ad 0)), (2, .ref (bd 0)), (3, .ref o1), (4, .ref o2), (5, .int i)] [] (lz g ad bd o1 o2 σ' τ' w')) : J p l e room_1 s m args below meth c g A 9 cells slots Q 2183 [(0, .ref b), (1, .ref (ad 0)), (2, .ref (bd 0)), (3, .ref o1), (4, .ref o2), (5, .int i)] [] (lz g ad bd o1 o2 σ τ w) := by
  refine J.aload_n (i := 1) C dL_law_2183 rfl rfl ?_
  obtain ⟨σ1, r, τ1, hx, hy, hI⟩ := HA
  cases hx
  refine J.callVI C (sp_X6_boxes hl) rfl kMl_L_285 mdX6_boxes ⟨(Nat.le_of_ble_eq_true rfl), (Nat.le_of_ble_eq_true rfl)⟩ dk_0 rfl rfl (Nat.le_of_ble_eq_true rfl) dL_law_2184 ⟨Nat.le_trans (Nat.add_le_add_left (Nat.le_of_ble_eq_true rfl : 0 ≤ 10) _) hf.1, Nat.le_trans (Nat.add_le_add_left (Nat.le_of_ble_eq_true rfl : 0 ≤ 60) _) hf.2⟩ ?_
  refine J.aload_n (i := 2) C dL_law_2187 rfl rfl ?_
  refine J.heq (lz_mk (σ := σ)) ?_
  refine J.callVR (hp := mkh g bd (dk g ad σ) (outs g o1 o2 w)) C rfl (sp_X7_boxes hl) hy rfl kMl_L_288 mdX7_boxes ⟨(Nat.le_of_ble_eq_true rfl), (Nat.le_of_ble_eq_true rfl)⟩ mk_0 rfl rfl (Nat.le_of_ble_eq_true rfl) dL_law_2188 ⟨Nat.le_trans (Nat.add_le_add_left (Nat.le_of_ble_eq_true rfl : 0 + 0 ≤ 10) _) hf.1, Nat.le_trans (Nat.add_le_add_left (Nat.le_of_ble_eq_true rfl : 0 + 0 ≤ 60) _) hf.2⟩ ?_
  refine J.heq lz_mk.symm ?_
  refine J.widen (k := cells + 10) (n := slots + 60) (Nat.add_le_add_left (Nat.le_of_ble_eq_true rfl : 0 + 0 ≤ 10) _) (Nat.add_le_add_left (Nat.le_of_ble_eq_true rfl : 0 + 0 ≤ 60) _) ?_
  refine J.icmp_eq (tgt := 3020) C dL_law_2191 (by decide) (fun _ => ?_) (fun c9 => absurd rfl c9)
  exact kk _ _ _ hI
set_option maxRecDepth 100000 in
theorem case_35 {p : Program} {l : Launch} (hl : l.stackTraces = false) {e : Env} {s : State} {m : MethodId} {args : Array Value} {below : List Frame} {meth : Method} {c : Code} {g : Gy} {A : Nat → Prop} {Q : State → Prop} {cells slots b L o1 o2 : Nat} {xs : Nat → Int32} {ad bd : Nat → Nat} {i : Int32} {σ : DS} {τ : MS} {w : OS} {Inv : DS → MS → Prop} (C : Cx p l s m args meth c g A RL cL_law 9) (hX : va_X b L xs s s.heap) (hbl : b < s.heap.size) (hbA : ¬ A b) (hf : cells + 10 ≤ room_1.cells ∧ slots + 60 ≤ room_1.slots) (h1 : vp_in (i + 1) L) (HA : AgW okZ Inv (W_L_canCiteBox σ w (xs (i + 1).toNatClampNeg)) (P_X7_canCiteBox τ (xs (i + 1).toNatClampNeg)))
    (kk : ∀ (σ' : DS) (τ' : MS) (w' : OS), Inv σ' τ' → J p l e room_1 s m args below meth c g A 9 (cells + 10) (slots + 60) Q 3020 [(0, .ref b), (1, .ref (ad 0)), (2, .ref (bd 0)), (3, .ref o1), (4, .ref o2), (5, .int i)] [] (lz g ad bd o1 o2 σ' τ' w')) : J p l e room_1 s m args below meth c g A 9 cells slots Q 2196 [(0, .ref b), (1, .ref (ad 0)), (2, .ref (bd 0)), (3, .ref o1), (4, .ref o2), (5, .int i)] [] (lz g ad bd o1 o2 σ τ w) := by
  refine J.aload_n (i := 1) C dL_law_2196 rfl rfl ?_
  refine J.aload_n (i := 0) C dL_law_2197 rfl rfl ?_
  refine J.iload C dL_law_2198 rfl ?_
  refine J.iconst C 1 dL_law_2200 (by decide) ?_
  refine J.iadd C dL_law_2201 ?_
  refine J.sld C hX hbl hbA h1 dL_law_2202 ?_
  refine J.aload_n (i := 3) C dL_law_2203 rfl rfl ?_
  obtain ⟨k, σ1, w1, r, τ1, hx, hy, hth, hok, hI⟩ := HA
  refine J.callSH C (sp_L_canCiteBox hl σ w _ (.inl k, (σ1, w1)) hx) rfl kMl_L_289 mdL_canCiteBox ⟨(Nat.le_of_ble_eq_true rfl), (Nat.le_of_ble_eq_true rfl)⟩ rfl (Nat.le_of_ble_eq_true rfl) dL_law_2204 ⟨Nat.le_trans (Nat.add_le_add_left (Nat.le_of_ble_eq_true rfl : 1 ≤ 10) _) hf.1, Nat.le_trans (Nat.add_le_add_left (Nat.le_of_ble_eq_true rfl : 6 ≤ 60) _) hf.2⟩ (fun r9 u hu => ?_)
  obtain ⟨hu1, rfl⟩ := hu
  cases hu1
  refine J.istore C dL_law_2207 (by decide) ?_
  refine J.lw (lv' := [(0, .ref b), (1, .ref (ad 0)), (2, .ref (bd 0)), (3, .ref o1), (4, .ref o2), (5, .int i), (6, .int k)]) ⟨rfl, rfl, rfl, rfl, rfl, rfl, rfl, trivial⟩ ?_
  refine J.aload_n (i := 2) C dL_law_2209 rfl rfl ?_
  refine J.aload_n (i := 0) C dL_law_2210 rfl rfl ?_
  refine J.iload C dL_law_2211 rfl ?_
  refine J.iconst C 1 dL_law_2213 (by decide) ?_
  refine J.iadd C dL_law_2214 ?_
  refine J.sld C hX hbl hbA h1 dL_law_2215 ?_
  refine J.heq lz_mk ?_
  refine J.callVR (hp := mkh g bd (dk g ad σ1) (outs g o1 o2 w1)) C rfl (sp_X7_canCiteBox hl _) hy rfl kMl_L_291 mdX7_canCiteBox ⟨(Nat.le_of_ble_eq_true rfl), (Nat.le_of_ble_eq_true rfl)⟩ mk_0 rfl rfl (Nat.le_of_ble_eq_true rfl) dL_law_2216 ⟨Nat.le_trans (Nat.add_le_add_left (Nat.le_of_ble_eq_true rfl : 1 + 0 ≤ 10) _) hf.1, Nat.le_trans (Nat.add_le_add_left (Nat.le_of_ble_eq_true rfl : 6 + 0 ≤ 60) _) hf.2⟩ ?_
  refine J.istore C dL_law_2219 (by decide) ?_
  refine J.lw (lv' := [(0, .ref b), (1, .ref (ad 0)), (2, .ref (bd 0)), (3, .ref o1), (4, .ref o2), (5, .int i), (6, .int k), (7, .int r)]) ⟨rfl, rfl, rfl, rfl, rfl, rfl, rfl, rfl, trivial⟩ ?_
  refine J.aload_n (i := 2) C dL_law_2221 rfl rfl ?_
  refine J.callVI C (sp_X7_thrown hl) rfl kMl_L_174 mdX7_thrown ⟨(Nat.le_of_ble_eq_true rfl), (Nat.le_of_ble_eq_true rfl)⟩ mk_0 rfl rfl (Nat.le_of_ble_eq_true rfl) dL_law_2222 ⟨Nat.le_trans (Nat.add_le_add_left (Nat.le_of_ble_eq_true rfl : 1 + 0 + 0 ≤ 10) _) hf.1, Nat.le_trans (Nat.add_le_add_left (Nat.le_of_ble_eq_true rfl : 6 + 0 + 0 ≤ 60) _) hf.2⟩ ?_
  refine J.heq lz_mk.symm ?_
  refine J.widen (k := cells + 10) (n := slots + 60) (Nat.add_le_add_left (Nat.le_of_ble_eq_true rfl : 1 + 0 + 0 ≤ 10) _) (Nat.add_le_add_left (Nat.le_of_ble_eq_true rfl : 6 + 0 + 0 ≤ 60) _) ?_
  refine J.iload C dL_law_2225 rfl ?_
  refine J.icmp_eq (tgt := 2232) C dL_law_2227 (by decide) (fun _ => ?_) (fun c9 => absurd hth c9)
  refine J.iload C dL_law_2232 rfl ?_
  refine J.if_ne (tgt := 2256) C dL_law_2234 (by decide) (fun _ => ?_) (fun hk => ?_)
  · refine J.goto (tgt := 3020) C dL_law_2256 (by decide) ?_
    exact J.lw (lv' := [(0, .ref b), (1, .ref (ad 0)), (2, .ref (bd 0)), (3, .ref o1), (4, .ref o2), (5, .int i)]) ⟨rfl, rfl, rfl, rfl, rfl, rfl, trivial⟩ (kk _ _ _ hI)
  · have hok := hok hk
    refine J.aload_n (i := 3) C dL_law_2237 rfl rfl ?_
    refine J.iconst C 0 dL_law_2238 (by decide) ?_
    refine J.lald C (66 + ((R9 g bd τ1).length + 0)) lw_0 (show vp_in 0 1 by unfold vp_in; decide) dL_law_2239 ?_
    refine J.iload C dL_law_2240 rfl ?_
    refine J.nzL (t1 := 2249) (t2 := 2250) C dL_law_2242 (by decide) dL_law_2245 dL_law_2246 (by decide) dL_law_2249 rfl ?_
    refine J.lcmp C dL_law_2250 ?_
    refine J.if_eq (tgt := 2256) C dL_law_2251 (by decide) (fun _ => ?_) (fun c9 => absurd ((lg_cmp_eq _ _).mpr hok) c9)
    refine J.goto (tgt := 3020) C dL_law_2256 (by decide) ?_
    exact J.lw (lv' := [(0, .ref b), (1, .ref (ad 0)), (2, .ref (bd 0)), (3, .ref o1), (4, .ref o2), (5, .int i)]) ⟨rfl, rfl, rfl, rfl, rfl, rfl, trivial⟩ (kk _ _ _ hI)
set_option maxRecDepth 100000 in
theorem case_36 {p : Program} {l : Launch} (hl : l.stackTraces = false) {e : Env} {s : State} {m : MethodId} {args : Array Value} {below : List Frame} {meth : Method} {c : Code} {g : Gy} {A : Nat → Prop} {Q : State → Prop} {cells slots b L o1 o2 : Nat} {xs : Nat → Int32} {ad bd : Nat → Nat} {i : Int32} {σ : DS} {τ : MS} {w : OS} {Inv : DS → MS → Prop} (C : Cx p l s m args meth c g A RL cL_law 9) (hX : va_X b L xs s s.heap) (hbl : b < s.heap.size) (hbA : ¬ A b) (hf : cells + 10 ≤ room_1.cells ∧ slots + 60 ≤ room_1.slots) (h1 : vp_in (i + 1) L) (HA : AgW okI Inv (W_L_resultOf σ w (xs (i + 1).toNatClampNeg)) (P_X7_resultOf τ (xs (i + 1).toNatClampNeg)))
    (kk : ∀ (σ' : DS) (τ' : MS) (w' : OS), Inv σ' τ' → J p l e room_1 s m args below meth c g A 9 (cells + 10) (slots + 60) Q 3020 [(0, .ref b), (1, .ref (ad 0)), (2, .ref (bd 0)), (3, .ref o1), (4, .ref o2), (5, .int i)] [] (lz g ad bd o1 o2 σ' τ' w')) : J p l e room_1 s m args below meth c g A 9 cells slots Q 2259 [(0, .ref b), (1, .ref (ad 0)), (2, .ref (bd 0)), (3, .ref o1), (4, .ref o2), (5, .int i)] [] (lz g ad bd o1 o2 σ τ w) := by
  refine J.aload_n (i := 1) C dL_law_2259 rfl rfl ?_
  refine J.aload_n (i := 0) C dL_law_2260 rfl rfl ?_
  refine J.iload C dL_law_2261 rfl ?_
  refine J.iconst C 1 dL_law_2263 (by decide) ?_
  refine J.iadd C dL_law_2264 ?_
  refine J.sld C hX hbl hbA h1 dL_law_2265 ?_
  refine J.aload_n (i := 3) C dL_law_2266 rfl rfl ?_
  obtain ⟨k, σ1, w1, r, τ1, hx, hy, hth, hok, hI⟩ := HA
  refine J.callSH C (sp_L_resultOf hl σ w _ (.inl k, (σ1, w1)) hx) rfl kMl_L_292 mdL_resultOf ⟨(Nat.le_of_ble_eq_true rfl), (Nat.le_of_ble_eq_true rfl)⟩ rfl (Nat.le_of_ble_eq_true rfl) dL_law_2267 ⟨Nat.le_trans (Nat.add_le_add_left (Nat.le_of_ble_eq_true rfl : 1 ≤ 10) _) hf.1, Nat.le_trans (Nat.add_le_add_left (Nat.le_of_ble_eq_true rfl : 6 ≤ 60) _) hf.2⟩ (fun r9 u hu => ?_)
  obtain ⟨hu1, rfl⟩ := hu
  cases hu1
  refine J.istore C dL_law_2270 (by decide) ?_
  refine J.lw (lv' := [(0, .ref b), (1, .ref (ad 0)), (2, .ref (bd 0)), (3, .ref o1), (4, .ref o2), (5, .int i), (6, .int k)]) ⟨rfl, rfl, rfl, rfl, rfl, rfl, rfl, trivial⟩ ?_
  refine J.aload_n (i := 2) C dL_law_2272 rfl rfl ?_
  refine J.aload_n (i := 0) C dL_law_2273 rfl rfl ?_
  refine J.iload C dL_law_2274 rfl ?_
  refine J.iconst C 1 dL_law_2276 (by decide) ?_
  refine J.iadd C dL_law_2277 ?_
  refine J.sld C hX hbl hbA h1 dL_law_2278 ?_
  refine J.heq lz_mk ?_
  refine J.callVR (hp := mkh g bd (dk g ad σ1) (outs g o1 o2 w1)) C rfl (sp_X7_resultOf hl _) hy rfl kMl_L_294 mdX7_resultOf ⟨(Nat.le_of_ble_eq_true rfl), (Nat.le_of_ble_eq_true rfl)⟩ mk_0 rfl rfl (Nat.le_of_ble_eq_true rfl) dL_law_2279 ⟨Nat.le_trans (Nat.add_le_add_left (Nat.le_of_ble_eq_true rfl : 1 + 0 ≤ 10) _) hf.1, Nat.le_trans (Nat.add_le_add_left (Nat.le_of_ble_eq_true rfl : 6 + 0 ≤ 60) _) hf.2⟩ ?_
  refine J.istore C dL_law_2282 (by decide) ?_
  refine J.lw (lv' := [(0, .ref b), (1, .ref (ad 0)), (2, .ref (bd 0)), (3, .ref o1), (4, .ref o2), (5, .int i), (6, .int k), (7, .int r)]) ⟨rfl, rfl, rfl, rfl, rfl, rfl, rfl, rfl, trivial⟩ ?_
  refine J.aload_n (i := 2) C dL_law_2284 rfl rfl ?_
  refine J.callVI C (sp_X7_thrown hl) rfl kMl_L_174 mdX7_thrown ⟨(Nat.le_of_ble_eq_true rfl), (Nat.le_of_ble_eq_true rfl)⟩ mk_0 rfl rfl (Nat.le_of_ble_eq_true rfl) dL_law_2285 ⟨Nat.le_trans (Nat.add_le_add_left (Nat.le_of_ble_eq_true rfl : 1 + 0 + 0 ≤ 10) _) hf.1, Nat.le_trans (Nat.add_le_add_left (Nat.le_of_ble_eq_true rfl : 6 + 0 + 0 ≤ 60) _) hf.2⟩ ?_
  refine J.heq lz_mk.symm ?_
  refine J.widen (k := cells + 10) (n := slots + 60) (Nat.add_le_add_left (Nat.le_of_ble_eq_true rfl : 1 + 0 + 0 ≤ 10) _) (Nat.add_le_add_left (Nat.le_of_ble_eq_true rfl : 6 + 0 + 0 ≤ 60) _) ?_
  refine J.iload C dL_law_2288 rfl ?_
  refine J.icmp_eq (tgt := 2295) C dL_law_2290 (by decide) (fun _ => ?_) (fun c9 => absurd hth c9)
  refine J.iload C dL_law_2295 rfl ?_
  refine J.if_ne (tgt := 2312) C dL_law_2297 (by decide) (fun _ => ?_) (fun hk => ?_)
  · refine J.goto (tgt := 3020) C dL_law_2312 (by decide) ?_
    exact J.lw (lv' := [(0, .ref b), (1, .ref (ad 0)), (2, .ref (bd 0)), (3, .ref o1), (4, .ref o2), (5, .int i)]) ⟨rfl, rfl, rfl, rfl, rfl, rfl, trivial⟩ (kk _ _ _ hI)
  · have hok := hok hk
    refine J.aload_n (i := 3) C dL_law_2300 rfl rfl ?_
    refine J.iconst C 0 dL_law_2301 (by decide) ?_
    refine J.lald C (66 + ((R9 g bd τ1).length + 0)) lw_0 (show vp_in 0 1 by unfold vp_in; decide) dL_law_2302 ?_
    refine J.iload C dL_law_2303 rfl ?_
    refine J.i2l C dL_law_2305 ?_
    refine J.lcmp C dL_law_2306 ?_
    refine J.if_eq (tgt := 2312) C dL_law_2307 (by decide) (fun _ => ?_) (fun c9 => absurd ((lg_cmp_eq _ _).mpr hok) c9)
    refine J.goto (tgt := 3020) C dL_law_2312 (by decide) ?_
    exact J.lw (lv' := [(0, .ref b), (1, .ref (ad 0)), (2, .ref (bd 0)), (3, .ref o1), (4, .ref o2), (5, .int i)]) ⟨rfl, rfl, rfl, rfl, rfl, rfl, trivial⟩ (kk _ _ _ hI)
set_option maxRecDepth 100000 in
theorem case_37 {p : Program} {l : Launch} (hl : l.stackTraces = false) {e : Env} {s : State} {m : MethodId} {args : Array Value} {below : List Frame} {meth : Method} {c : Code} {g : Gy} {A : Nat → Prop} {Q : State → Prop} {cells slots b L o1 o2 : Nat} {xs : Nat → Int32} {ad bd : Nat → Nat} {i : Int32} {σ : DS} {τ : MS} {w : OS} {Inv : DS → MS → Prop} (C : Cx p l s m args meth c g A RL cL_law 9) (hX : va_X b L xs s s.heap) (hbl : b < s.heap.size) (hbA : ¬ A b) (hf : cells + 10 ≤ room_1.cells ∧ slots + 60 ≤ room_1.slots) (HA : AgW okI Inv (W_L_needed σ w ) (P_X7_needed τ ))
    (kk : ∀ (σ' : DS) (τ' : MS) (w' : OS), Inv σ' τ' → J p l e room_1 s m args below meth c g A 9 (cells + 10) (slots + 60) Q 3020 [(0, .ref b), (1, .ref (ad 0)), (2, .ref (bd 0)), (3, .ref o1), (4, .ref o2), (5, .int i)] [] (lz g ad bd o1 o2 σ' τ' w')) : J p l e room_1 s m args below meth c g A 9 cells slots Q 2315 [(0, .ref b), (1, .ref (ad 0)), (2, .ref (bd 0)), (3, .ref o1), (4, .ref o2), (5, .int i)] [] (lz g ad bd o1 o2 σ τ w) := by
  refine J.aload_n (i := 1) C dL_law_2315 rfl rfl ?_
  refine J.aload_n (i := 3) C dL_law_2316 rfl rfl ?_
  obtain ⟨k, σ1, w1, r, τ1, hx, hy, hth, hok, hI⟩ := HA
  refine J.callSH C (sp_L_needed hl σ w  (.inl k, (σ1, w1)) hx) rfl kMl_L_295 mdL_needed ⟨(Nat.le_of_ble_eq_true rfl), (Nat.le_of_ble_eq_true rfl)⟩ rfl (Nat.le_of_ble_eq_true rfl) dL_law_2317 ⟨Nat.le_trans (Nat.add_le_add_left (Nat.le_of_ble_eq_true rfl : 1 ≤ 10) _) hf.1, Nat.le_trans (Nat.add_le_add_left (Nat.le_of_ble_eq_true rfl : 6 ≤ 60) _) hf.2⟩ (fun r9 u hu => ?_)
  obtain ⟨hu1, rfl⟩ := hu
  cases hu1
  refine J.istore C dL_law_2320 (by decide) ?_
  refine J.lw (lv' := [(0, .ref b), (1, .ref (ad 0)), (2, .ref (bd 0)), (3, .ref o1), (4, .ref o2), (5, .int i), (6, .int k)]) ⟨rfl, rfl, rfl, rfl, rfl, rfl, rfl, trivial⟩ ?_
  refine J.aload_n (i := 2) C dL_law_2322 rfl rfl ?_
  refine J.heq lz_mk ?_
  refine J.callVR (hp := mkh g bd (dk g ad σ1) (outs g o1 o2 w1)) C rfl (sp_X7_needed hl ) hy rfl kMl_L_297 mdX7_needed ⟨(Nat.le_of_ble_eq_true rfl), (Nat.le_of_ble_eq_true rfl)⟩ mk_0 rfl rfl (Nat.le_of_ble_eq_true rfl) dL_law_2323 ⟨Nat.le_trans (Nat.add_le_add_left (Nat.le_of_ble_eq_true rfl : 1 + 0 ≤ 10) _) hf.1, Nat.le_trans (Nat.add_le_add_left (Nat.le_of_ble_eq_true rfl : 6 + 0 ≤ 60) _) hf.2⟩ ?_
  refine J.istore C dL_law_2326 (by decide) ?_
  refine J.lw (lv' := [(0, .ref b), (1, .ref (ad 0)), (2, .ref (bd 0)), (3, .ref o1), (4, .ref o2), (5, .int i), (6, .int k), (7, .int r)]) ⟨rfl, rfl, rfl, rfl, rfl, rfl, rfl, rfl, trivial⟩ ?_
  refine J.aload_n (i := 2) C dL_law_2328 rfl rfl ?_
  refine J.callVI C (sp_X7_thrown hl) rfl kMl_L_174 mdX7_thrown ⟨(Nat.le_of_ble_eq_true rfl), (Nat.le_of_ble_eq_true rfl)⟩ mk_0 rfl rfl (Nat.le_of_ble_eq_true rfl) dL_law_2329 ⟨Nat.le_trans (Nat.add_le_add_left (Nat.le_of_ble_eq_true rfl : 1 + 0 + 0 ≤ 10) _) hf.1, Nat.le_trans (Nat.add_le_add_left (Nat.le_of_ble_eq_true rfl : 6 + 0 + 0 ≤ 60) _) hf.2⟩ ?_
  refine J.heq lz_mk.symm ?_
  refine J.widen (k := cells + 10) (n := slots + 60) (Nat.add_le_add_left (Nat.le_of_ble_eq_true rfl : 1 + 0 + 0 ≤ 10) _) (Nat.add_le_add_left (Nat.le_of_ble_eq_true rfl : 6 + 0 + 0 ≤ 60) _) ?_
  refine J.iload C dL_law_2332 rfl ?_
  refine J.icmp_eq (tgt := 2339) C dL_law_2334 (by decide) (fun _ => ?_) (fun c9 => absurd hth c9)
  refine J.iload C dL_law_2339 rfl ?_
  refine J.if_ne (tgt := 2356) C dL_law_2341 (by decide) (fun _ => ?_) (fun hk => ?_)
  · refine J.goto (tgt := 3020) C dL_law_2356 (by decide) ?_
    exact J.lw (lv' := [(0, .ref b), (1, .ref (ad 0)), (2, .ref (bd 0)), (3, .ref o1), (4, .ref o2), (5, .int i)]) ⟨rfl, rfl, rfl, rfl, rfl, rfl, trivial⟩ (kk _ _ _ hI)
  · have hok := hok hk
    refine J.aload_n (i := 3) C dL_law_2344 rfl rfl ?_
    refine J.iconst C 0 dL_law_2345 (by decide) ?_
    refine J.lald C (66 + ((R9 g bd τ1).length + 0)) lw_0 (show vp_in 0 1 by unfold vp_in; decide) dL_law_2346 ?_
    refine J.iload C dL_law_2347 rfl ?_
    refine J.i2l C dL_law_2349 ?_
    refine J.lcmp C dL_law_2350 ?_
    refine J.if_eq (tgt := 2356) C dL_law_2351 (by decide) (fun _ => ?_) (fun c9 => absurd ((lg_cmp_eq _ _).mpr hok) c9)
    refine J.goto (tgt := 3020) C dL_law_2356 (by decide) ?_
    exact J.lw (lv' := [(0, .ref b), (1, .ref (ad 0)), (2, .ref (bd 0)), (3, .ref o1), (4, .ref o2), (5, .int i)]) ⟨rfl, rfl, rfl, rfl, rfl, rfl, trivial⟩ (kk _ _ _ hI)
set_option maxRecDepth 100000 in
theorem case_38 {p : Program} {l : Launch} (hl : l.stackTraces = false) {e : Env} {s : State} {m : MethodId} {args : Array Value} {below : List Frame} {meth : Method} {c : Code} {g : Gy} {A : Nat → Prop} {Q : State → Prop} {cells slots b L o1 o2 : Nat} {xs : Nat → Int32} {ad bd : Nat → Nat} {i : Int32} {σ : DS} {τ : MS} {w : OS} {Inv : DS → MS → Prop} (C : Cx p l s m args meth c g A RL cL_law 9) (hX : va_X b L xs s s.heap) (hbl : b < s.heap.size) (hbA : ¬ A b) (hf : cells + 10 ≤ room_1.cells ∧ slots + 60 ≤ room_1.slots) (h1 : vp_in (i + 1) L) (HA : AgW okI Inv (W_L_distance σ w (xs (i + 1).toNatClampNeg)) (P_X7_distance τ (xs (i + 1).toNatClampNeg)))
    (kk : ∀ (σ' : DS) (τ' : MS) (w' : OS), Inv σ' τ' → J p l e room_1 s m args below meth c g A 9 (cells + 10) (slots + 60) Q 3020 [(0, .ref b), (1, .ref (ad 0)), (2, .ref (bd 0)), (3, .ref o1), (4, .ref o2), (5, .int i)] [] (lz g ad bd o1 o2 σ' τ' w')) : J p l e room_1 s m args below meth c g A 9 cells slots Q 2359 [(0, .ref b), (1, .ref (ad 0)), (2, .ref (bd 0)), (3, .ref o1), (4, .ref o2), (5, .int i)] [] (lz g ad bd o1 o2 σ τ w) := by
  refine J.aload_n (i := 1) C dL_law_2359 rfl rfl ?_
  refine J.aload_n (i := 0) C dL_law_2360 rfl rfl ?_
  refine J.iload C dL_law_2361 rfl ?_
  refine J.iconst C 1 dL_law_2363 (by decide) ?_
  refine J.iadd C dL_law_2364 ?_
  refine J.sld C hX hbl hbA h1 dL_law_2365 ?_
  refine J.aload_n (i := 3) C dL_law_2366 rfl rfl ?_
  obtain ⟨k, σ1, w1, r, τ1, hx, hy, hth, hok, hI⟩ := HA
  refine J.callSH C (sp_L_distance hl σ w _ (.inl k, (σ1, w1)) hx) rfl kMl_L_298 mdL_distance ⟨(Nat.le_of_ble_eq_true rfl), (Nat.le_of_ble_eq_true rfl)⟩ rfl (Nat.le_of_ble_eq_true rfl) dL_law_2367 ⟨Nat.le_trans (Nat.add_le_add_left (Nat.le_of_ble_eq_true rfl : 2 ≤ 10) _) hf.1, Nat.le_trans (Nat.add_le_add_left (Nat.le_of_ble_eq_true rfl : 12 ≤ 60) _) hf.2⟩ (fun r9 u hu => ?_)
  obtain ⟨hu1, rfl⟩ := hu
  cases hu1
  refine J.istore C dL_law_2370 (by decide) ?_
  refine J.lw (lv' := [(0, .ref b), (1, .ref (ad 0)), (2, .ref (bd 0)), (3, .ref o1), (4, .ref o2), (5, .int i), (6, .int k)]) ⟨rfl, rfl, rfl, rfl, rfl, rfl, rfl, trivial⟩ ?_
  refine J.aload_n (i := 2) C dL_law_2372 rfl rfl ?_
  refine J.aload_n (i := 0) C dL_law_2373 rfl rfl ?_
  refine J.iload C dL_law_2374 rfl ?_
  refine J.iconst C 1 dL_law_2376 (by decide) ?_
  refine J.iadd C dL_law_2377 ?_
  refine J.sld C hX hbl hbA h1 dL_law_2378 ?_
  refine J.heq lz_mk ?_
  refine J.callVR (hp := mkh g bd (dk g ad σ1) (outs g o1 o2 w1)) C rfl (sp_X7_distance hl _) hy rfl kMl_L_300 mdX7_distance ⟨(Nat.le_of_ble_eq_true rfl), (Nat.le_of_ble_eq_true rfl)⟩ mk_0 rfl rfl (Nat.le_of_ble_eq_true rfl) dL_law_2379 ⟨Nat.le_trans (Nat.add_le_add_left (Nat.le_of_ble_eq_true rfl : 2 + 0 ≤ 10) _) hf.1, Nat.le_trans (Nat.add_le_add_left (Nat.le_of_ble_eq_true rfl : 12 + 0 ≤ 60) _) hf.2⟩ ?_
  refine J.istore C dL_law_2382 (by decide) ?_
  refine J.lw (lv' := [(0, .ref b), (1, .ref (ad 0)), (2, .ref (bd 0)), (3, .ref o1), (4, .ref o2), (5, .int i), (6, .int k), (7, .int r)]) ⟨rfl, rfl, rfl, rfl, rfl, rfl, rfl, rfl, trivial⟩ ?_
  refine J.aload_n (i := 2) C dL_law_2384 rfl rfl ?_
  refine J.callVI C (sp_X7_thrown hl) rfl kMl_L_174 mdX7_thrown ⟨(Nat.le_of_ble_eq_true rfl), (Nat.le_of_ble_eq_true rfl)⟩ mk_0 rfl rfl (Nat.le_of_ble_eq_true rfl) dL_law_2385 ⟨Nat.le_trans (Nat.add_le_add_left (Nat.le_of_ble_eq_true rfl : 2 + 0 + 0 ≤ 10) _) hf.1, Nat.le_trans (Nat.add_le_add_left (Nat.le_of_ble_eq_true rfl : 12 + 0 + 0 ≤ 60) _) hf.2⟩ ?_
  refine J.heq lz_mk.symm ?_
  refine J.widen (k := cells + 10) (n := slots + 60) (Nat.add_le_add_left (Nat.le_of_ble_eq_true rfl : 2 + 0 + 0 ≤ 10) _) (Nat.add_le_add_left (Nat.le_of_ble_eq_true rfl : 12 + 0 + 0 ≤ 60) _) ?_
  refine J.iload C dL_law_2388 rfl ?_
  refine J.icmp_eq (tgt := 2395) C dL_law_2390 (by decide) (fun _ => ?_) (fun c9 => absurd hth c9)
  refine J.iload C dL_law_2395 rfl ?_
  refine J.if_ne (tgt := 2412) C dL_law_2397 (by decide) (fun _ => ?_) (fun hk => ?_)
  · refine J.goto (tgt := 3020) C dL_law_2412 (by decide) ?_
    exact J.lw (lv' := [(0, .ref b), (1, .ref (ad 0)), (2, .ref (bd 0)), (3, .ref o1), (4, .ref o2), (5, .int i)]) ⟨rfl, rfl, rfl, rfl, rfl, rfl, trivial⟩ (kk _ _ _ hI)
  · have hok := hok hk
    refine J.aload_n (i := 3) C dL_law_2400 rfl rfl ?_
    refine J.iconst C 0 dL_law_2401 (by decide) ?_
    refine J.lald C (66 + ((R9 g bd τ1).length + 0)) lw_0 (show vp_in 0 1 by unfold vp_in; decide) dL_law_2402 ?_
    refine J.iload C dL_law_2403 rfl ?_
    refine J.i2l C dL_law_2405 ?_
    refine J.lcmp C dL_law_2406 ?_
    refine J.if_eq (tgt := 2412) C dL_law_2407 (by decide) (fun _ => ?_) (fun c9 => absurd ((lg_cmp_eq _ _).mpr hok) c9)
    refine J.goto (tgt := 3020) C dL_law_2412 (by decide) ?_
    exact J.lw (lv' := [(0, .ref b), (1, .ref (ad 0)), (2, .ref (bd 0)), (3, .ref o1), (4, .ref o2), (5, .int i)]) ⟨rfl, rfl, rfl, rfl, rfl, rfl, trivial⟩ (kk _ _ _ hI)
set_option maxRecDepth 100000 in
theorem case_39 {p : Program} {l : Launch} (hl : l.stackTraces = false) {e : Env} {s : State} {m : MethodId} {args : Array Value} {below : List Frame} {meth : Method} {c : Code} {g : Gy} {A : Nat → Prop} {Q : State → Prop} {cells slots b L o1 o2 : Nat} {xs : Nat → Int32} {ad bd : Nat → Nat} {i : Int32} {σ : DS} {τ : MS} {w : OS} {Inv : DS → MS → Prop} (C : Cx p l s m args meth c g A RL cL_law 9) (hX : va_X b L xs s s.heap) (hbl : b < s.heap.size) (hbA : ¬ A b) (hf : cells + 10 ≤ room_1.cells ∧ slots + 60 ≤ room_1.slots) (h1 : vp_in (i + 1) L) (HA : AgW okI Inv (W_L_distanceByRounds σ w (xs (i + 1).toNatClampNeg)) (P_X7_distanceByRounds τ (xs (i + 1).toNatClampNeg)))
    (kk : ∀ (σ' : DS) (τ' : MS) (w' : OS), Inv σ' τ' → J p l e room_1 s m args below meth c g A 9 (cells + 10) (slots + 60) Q 3020 [(0, .ref b), (1, .ref (ad 0)), (2, .ref (bd 0)), (3, .ref o1), (4, .ref o2), (5, .int i)] [] (lz g ad bd o1 o2 σ' τ' w')) : J p l e room_1 s m args below meth c g A 9 cells slots Q 2415 [(0, .ref b), (1, .ref (ad 0)), (2, .ref (bd 0)), (3, .ref o1), (4, .ref o2), (5, .int i)] [] (lz g ad bd o1 o2 σ τ w) := by
  refine J.aload_n (i := 1) C dL_law_2415 rfl rfl ?_
  refine J.aload_n (i := 0) C dL_law_2416 rfl rfl ?_
  refine J.iload C dL_law_2417 rfl ?_
  refine J.iconst C 1 dL_law_2419 (by decide) ?_
  refine J.iadd C dL_law_2420 ?_
  refine J.sld C hX hbl hbA h1 dL_law_2421 ?_
  refine J.aload_n (i := 3) C dL_law_2422 rfl rfl ?_
  obtain ⟨k, σ1, w1, r, τ1, hx, hy, hth, hok, hI⟩ := HA
  refine J.callSH C (sp_L_distanceByRounds hl σ w _ (.inl k, (σ1, w1)) hx) rfl kMl_L_301 mdL_distanceByRounds ⟨(Nat.le_of_ble_eq_true rfl), (Nat.le_of_ble_eq_true rfl)⟩ rfl (Nat.le_of_ble_eq_true rfl) dL_law_2423 ⟨Nat.le_trans (Nat.add_le_add_left (Nat.le_of_ble_eq_true rfl : 2 ≤ 10) _) hf.1, Nat.le_trans (Nat.add_le_add_left (Nat.le_of_ble_eq_true rfl : 12 ≤ 60) _) hf.2⟩ (fun r9 u hu => ?_)
  obtain ⟨hu1, rfl⟩ := hu
  cases hu1
  refine J.istore C dL_law_2426 (by decide) ?_
  refine J.lw (lv' := [(0, .ref b), (1, .ref (ad 0)), (2, .ref (bd 0)), (3, .ref o1), (4, .ref o2), (5, .int i), (6, .int k)]) ⟨rfl, rfl, rfl, rfl, rfl, rfl, rfl, trivial⟩ ?_
  refine J.aload_n (i := 2) C dL_law_2428 rfl rfl ?_
  refine J.aload_n (i := 0) C dL_law_2429 rfl rfl ?_
  refine J.iload C dL_law_2430 rfl ?_
  refine J.iconst C 1 dL_law_2432 (by decide) ?_
  refine J.iadd C dL_law_2433 ?_
  refine J.sld C hX hbl hbA h1 dL_law_2434 ?_
  refine J.heq lz_mk ?_
  refine J.callVR (hp := mkh g bd (dk g ad σ1) (outs g o1 o2 w1)) C rfl (sp_X7_distanceByRounds hl _) hy rfl kMl_L_303 mdX7_distanceByRounds ⟨(Nat.le_of_ble_eq_true rfl), (Nat.le_of_ble_eq_true rfl)⟩ mk_0 rfl rfl (Nat.le_of_ble_eq_true rfl) dL_law_2435 ⟨Nat.le_trans (Nat.add_le_add_left (Nat.le_of_ble_eq_true rfl : 2 + 0 ≤ 10) _) hf.1, Nat.le_trans (Nat.add_le_add_left (Nat.le_of_ble_eq_true rfl : 12 + 0 ≤ 60) _) hf.2⟩ ?_
  refine J.istore C dL_law_2438 (by decide) ?_
  refine J.lw (lv' := [(0, .ref b), (1, .ref (ad 0)), (2, .ref (bd 0)), (3, .ref o1), (4, .ref o2), (5, .int i), (6, .int k), (7, .int r)]) ⟨rfl, rfl, rfl, rfl, rfl, rfl, rfl, rfl, trivial⟩ ?_
  refine J.aload_n (i := 2) C dL_law_2440 rfl rfl ?_
  refine J.callVI C (sp_X7_thrown hl) rfl kMl_L_174 mdX7_thrown ⟨(Nat.le_of_ble_eq_true rfl), (Nat.le_of_ble_eq_true rfl)⟩ mk_0 rfl rfl (Nat.le_of_ble_eq_true rfl) dL_law_2441 ⟨Nat.le_trans (Nat.add_le_add_left (Nat.le_of_ble_eq_true rfl : 2 + 0 + 0 ≤ 10) _) hf.1, Nat.le_trans (Nat.add_le_add_left (Nat.le_of_ble_eq_true rfl : 12 + 0 + 0 ≤ 60) _) hf.2⟩ ?_
  refine J.heq lz_mk.symm ?_
  refine J.widen (k := cells + 10) (n := slots + 60) (Nat.add_le_add_left (Nat.le_of_ble_eq_true rfl : 2 + 0 + 0 ≤ 10) _) (Nat.add_le_add_left (Nat.le_of_ble_eq_true rfl : 12 + 0 + 0 ≤ 60) _) ?_
  refine J.iload C dL_law_2444 rfl ?_
  refine J.icmp_eq (tgt := 2451) C dL_law_2446 (by decide) (fun _ => ?_) (fun c9 => absurd hth c9)
  refine J.iload C dL_law_2451 rfl ?_
  refine J.if_ne (tgt := 2468) C dL_law_2453 (by decide) (fun _ => ?_) (fun hk => ?_)
  · refine J.goto (tgt := 3020) C dL_law_2468 (by decide) ?_
    exact J.lw (lv' := [(0, .ref b), (1, .ref (ad 0)), (2, .ref (bd 0)), (3, .ref o1), (4, .ref o2), (5, .int i)]) ⟨rfl, rfl, rfl, rfl, rfl, rfl, trivial⟩ (kk _ _ _ hI)
  · have hok := hok hk
    refine J.aload_n (i := 3) C dL_law_2456 rfl rfl ?_
    refine J.iconst C 0 dL_law_2457 (by decide) ?_
    refine J.lald C (66 + ((R9 g bd τ1).length + 0)) lw_0 (show vp_in 0 1 by unfold vp_in; decide) dL_law_2458 ?_
    refine J.iload C dL_law_2459 rfl ?_
    refine J.i2l C dL_law_2461 ?_
    refine J.lcmp C dL_law_2462 ?_
    refine J.if_eq (tgt := 2468) C dL_law_2463 (by decide) (fun _ => ?_) (fun c9 => absurd ((lg_cmp_eq _ _).mpr hok) c9)
    refine J.goto (tgt := 3020) C dL_law_2468 (by decide) ?_
    exact J.lw (lv' := [(0, .ref b), (1, .ref (ad 0)), (2, .ref (bd 0)), (3, .ref o1), (4, .ref o2), (5, .int i)]) ⟨rfl, rfl, rfl, rfl, rfl, rfl, trivial⟩ (kk _ _ _ hI)
set_option maxRecDepth 100000 in
theorem case_40 {p : Program} {l : Launch} (hl : l.stackTraces = false) {e : Env} {s : State} {m : MethodId} {args : Array Value} {below : List Frame} {meth : Method} {c : Code} {g : Gy} {A : Nat → Prop} {Q : State → Prop} {cells slots b L o1 o2 : Nat} {xs : Nat → Int32} {ad bd : Nat → Nat} {i : Int32} {σ : DS} {τ : MS} {w : OS} {Inv : DS → MS → Prop} (C : Cx p l s m args meth c g A RL cL_law 9) (hX : va_X b L xs s s.heap) (hbl : b < s.heap.size) (hbA : ¬ A b) (hf : cells + 10 ≤ room_1.cells ∧ slots + 60 ≤ room_1.slots) (h1 : vp_in (i + 1) L) (HA : AgW okI Inv (W_L_normalStep σ w (xs (i + 1).toNatClampNeg)) (P_X7_normalStep τ (xs (i + 1).toNatClampNeg)))
    (kk : ∀ (σ' : DS) (τ' : MS) (w' : OS), Inv σ' τ' → J p l e room_1 s m args below meth c g A 9 (cells + 10) (slots + 60) Q 3020 [(0, .ref b), (1, .ref (ad 0)), (2, .ref (bd 0)), (3, .ref o1), (4, .ref o2), (5, .int i)] [] (lz g ad bd o1 o2 σ' τ' w')) : J p l e room_1 s m args below meth c g A 9 cells slots Q 2471 [(0, .ref b), (1, .ref (ad 0)), (2, .ref (bd 0)), (3, .ref o1), (4, .ref o2), (5, .int i)] [] (lz g ad bd o1 o2 σ τ w) := by
  refine J.aload_n (i := 1) C dL_law_2471 rfl rfl ?_
  refine J.aload_n (i := 0) C dL_law_2472 rfl rfl ?_
  refine J.iload C dL_law_2473 rfl ?_
  refine J.iconst C 1 dL_law_2475 (by decide) ?_
  refine J.iadd C dL_law_2476 ?_
  refine J.sld C hX hbl hbA h1 dL_law_2477 ?_
  refine J.aload_n (i := 3) C dL_law_2478 rfl rfl ?_
  obtain ⟨k, σ1, w1, r, τ1, hx, hy, hth, hok, hI⟩ := HA
  refine J.callSH C (sp_L_normalStep hl σ w _ (.inl k, (σ1, w1)) hx) rfl kMl_L_304 mdL_normalStep ⟨(Nat.le_of_ble_eq_true rfl), (Nat.le_of_ble_eq_true rfl)⟩ rfl (Nat.le_of_ble_eq_true rfl) dL_law_2479 ⟨Nat.le_trans (Nat.add_le_add_left (Nat.le_of_ble_eq_true rfl : 2 ≤ 10) _) hf.1, Nat.le_trans (Nat.add_le_add_left (Nat.le_of_ble_eq_true rfl : 12 ≤ 60) _) hf.2⟩ (fun r9 u hu => ?_)
  obtain ⟨hu1, rfl⟩ := hu
  cases hu1
  refine J.istore C dL_law_2482 (by decide) ?_
  refine J.lw (lv' := [(0, .ref b), (1, .ref (ad 0)), (2, .ref (bd 0)), (3, .ref o1), (4, .ref o2), (5, .int i), (6, .int k)]) ⟨rfl, rfl, rfl, rfl, rfl, rfl, rfl, trivial⟩ ?_
  refine J.aload_n (i := 2) C dL_law_2484 rfl rfl ?_
  refine J.aload_n (i := 0) C dL_law_2485 rfl rfl ?_
  refine J.iload C dL_law_2486 rfl ?_
  refine J.iconst C 1 dL_law_2488 (by decide) ?_
  refine J.iadd C dL_law_2489 ?_
  refine J.sld C hX hbl hbA h1 dL_law_2490 ?_
  refine J.heq lz_mk ?_
  refine J.callVR (hp := mkh g bd (dk g ad σ1) (outs g o1 o2 w1)) C rfl (sp_X7_normalStep hl _) hy rfl kMl_L_306 mdX7_normalStep ⟨(Nat.le_of_ble_eq_true rfl), (Nat.le_of_ble_eq_true rfl)⟩ mk_0 rfl rfl (Nat.le_of_ble_eq_true rfl) dL_law_2491 ⟨Nat.le_trans (Nat.add_le_add_left (Nat.le_of_ble_eq_true rfl : 2 + 0 ≤ 10) _) hf.1, Nat.le_trans (Nat.add_le_add_left (Nat.le_of_ble_eq_true rfl : 12 + 0 ≤ 60) _) hf.2⟩ ?_
  refine J.istore C dL_law_2494 (by decide) ?_
  refine J.lw (lv' := [(0, .ref b), (1, .ref (ad 0)), (2, .ref (bd 0)), (3, .ref o1), (4, .ref o2), (5, .int i), (6, .int k), (7, .int r)]) ⟨rfl, rfl, rfl, rfl, rfl, rfl, rfl, rfl, trivial⟩ ?_
  refine J.aload_n (i := 2) C dL_law_2496 rfl rfl ?_
  refine J.callVI C (sp_X7_thrown hl) rfl kMl_L_174 mdX7_thrown ⟨(Nat.le_of_ble_eq_true rfl), (Nat.le_of_ble_eq_true rfl)⟩ mk_0 rfl rfl (Nat.le_of_ble_eq_true rfl) dL_law_2497 ⟨Nat.le_trans (Nat.add_le_add_left (Nat.le_of_ble_eq_true rfl : 2 + 0 + 0 ≤ 10) _) hf.1, Nat.le_trans (Nat.add_le_add_left (Nat.le_of_ble_eq_true rfl : 12 + 0 + 0 ≤ 60) _) hf.2⟩ ?_
  refine J.heq lz_mk.symm ?_
  refine J.widen (k := cells + 10) (n := slots + 60) (Nat.add_le_add_left (Nat.le_of_ble_eq_true rfl : 2 + 0 + 0 ≤ 10) _) (Nat.add_le_add_left (Nat.le_of_ble_eq_true rfl : 12 + 0 + 0 ≤ 60) _) ?_
  refine J.iload C dL_law_2500 rfl ?_
  refine J.icmp_eq (tgt := 2507) C dL_law_2502 (by decide) (fun _ => ?_) (fun c9 => absurd hth c9)
  refine J.iload C dL_law_2507 rfl ?_
  refine J.if_ne (tgt := 2524) C dL_law_2509 (by decide) (fun _ => ?_) (fun hk => ?_)
  · refine J.goto (tgt := 3020) C dL_law_2524 (by decide) ?_
    exact J.lw (lv' := [(0, .ref b), (1, .ref (ad 0)), (2, .ref (bd 0)), (3, .ref o1), (4, .ref o2), (5, .int i)]) ⟨rfl, rfl, rfl, rfl, rfl, rfl, trivial⟩ (kk _ _ _ hI)
  · have hok := hok hk
    refine J.aload_n (i := 3) C dL_law_2512 rfl rfl ?_
    refine J.iconst C 0 dL_law_2513 (by decide) ?_
    refine J.lald C (66 + ((R9 g bd τ1).length + 0)) lw_0 (show vp_in 0 1 by unfold vp_in; decide) dL_law_2514 ?_
    refine J.iload C dL_law_2515 rfl ?_
    refine J.i2l C dL_law_2517 ?_
    refine J.lcmp C dL_law_2518 ?_
    refine J.if_eq (tgt := 2524) C dL_law_2519 (by decide) (fun _ => ?_) (fun c9 => absurd ((lg_cmp_eq _ _).mpr hok) c9)
    refine J.goto (tgt := 3020) C dL_law_2524 (by decide) ?_
    exact J.lw (lv' := [(0, .ref b), (1, .ref (ad 0)), (2, .ref (bd 0)), (3, .ref o1), (4, .ref o2), (5, .int i)]) ⟨rfl, rfl, rfl, rfl, rfl, rfl, trivial⟩ (kk _ _ _ hI)
set_option maxRecDepth 100000 in
theorem case_41 {p : Program} {l : Launch} (hl : l.stackTraces = false) {e : Env} {s : State} {m : MethodId} {args : Array Value} {below : List Frame} {meth : Method} {c : Code} {g : Gy} {A : Nat → Prop} {Q : State → Prop} {cells slots b L o1 o2 : Nat} {xs : Nat → Int32} {ad bd : Nat → Nat} {i : Int32} {σ : DS} {τ : MS} {w : OS} {Inv : DS → MS → Prop} (C : Cx p l s m args meth c g A RL cL_law 9) (hX : va_X b L xs s s.heap) (hbl : b < s.heap.size) (hbA : ¬ A b) (hf : cells + 10 ≤ room_1.cells ∧ slots + 60 ≤ room_1.slots) (h1 : vp_in (i + 1) L) (HA : AgW okI Inv (W_L_normalSteps σ w (xs (i + 1).toNatClampNeg)) (P_X7_normalSteps τ (xs (i + 1).toNatClampNeg)))
    (kk : ∀ (σ' : DS) (τ' : MS) (w' : OS), Inv σ' τ' → J p l e room_1 s m args below meth c g A 9 (cells + 10) (slots + 60) Q 3020 [(0, .ref b), (1, .ref (ad 0)), (2, .ref (bd 0)), (3, .ref o1), (4, .ref o2), (5, .int i)] [] (lz g ad bd o1 o2 σ' τ' w')) : J p l e room_1 s m args below meth c g A 9 cells slots Q 2527 [(0, .ref b), (1, .ref (ad 0)), (2, .ref (bd 0)), (3, .ref o1), (4, .ref o2), (5, .int i)] [] (lz g ad bd o1 o2 σ τ w) := by
  refine J.aload_n (i := 1) C dL_law_2527 rfl rfl ?_
  refine J.aload_n (i := 0) C dL_law_2528 rfl rfl ?_
  refine J.iload C dL_law_2529 rfl ?_
  refine J.iconst C 1 dL_law_2531 (by decide) ?_
  refine J.iadd C dL_law_2532 ?_
  refine J.sld C hX hbl hbA h1 dL_law_2533 ?_
  refine J.aload_n (i := 3) C dL_law_2534 rfl rfl ?_
  obtain ⟨k, σ1, w1, r, τ1, hx, hy, hth, hok, hI⟩ := HA
  refine J.callSH C (sp_L_normalSteps hl σ w _ (.inl k, (σ1, w1)) hx) rfl kMl_L_307 mdL_normalSteps ⟨(Nat.le_of_ble_eq_true rfl), (Nat.le_of_ble_eq_true rfl)⟩ rfl (Nat.le_of_ble_eq_true rfl) dL_law_2535 ⟨Nat.le_trans (Nat.add_le_add_left (Nat.le_of_ble_eq_true rfl : 1 ≤ 10) _) hf.1, Nat.le_trans (Nat.add_le_add_left (Nat.le_of_ble_eq_true rfl : 6 ≤ 60) _) hf.2⟩ (fun r9 u hu => ?_)
  obtain ⟨hu1, rfl⟩ := hu
  cases hu1
  refine J.istore C dL_law_2538 (by decide) ?_
  refine J.lw (lv' := [(0, .ref b), (1, .ref (ad 0)), (2, .ref (bd 0)), (3, .ref o1), (4, .ref o2), (5, .int i), (6, .int k)]) ⟨rfl, rfl, rfl, rfl, rfl, rfl, rfl, trivial⟩ ?_
  refine J.aload_n (i := 2) C dL_law_2540 rfl rfl ?_
  refine J.aload_n (i := 0) C dL_law_2541 rfl rfl ?_
  refine J.iload C dL_law_2542 rfl ?_
  refine J.iconst C 1 dL_law_2544 (by decide) ?_
  refine J.iadd C dL_law_2545 ?_
  refine J.sld C hX hbl hbA h1 dL_law_2546 ?_
  refine J.heq lz_mk ?_
  refine J.callVR (hp := mkh g bd (dk g ad σ1) (outs g o1 o2 w1)) C rfl (sp_X7_normalSteps hl _) hy rfl kMl_L_309 mdX7_normalSteps ⟨(Nat.le_of_ble_eq_true rfl), (Nat.le_of_ble_eq_true rfl)⟩ mk_0 rfl rfl (Nat.le_of_ble_eq_true rfl) dL_law_2547 ⟨Nat.le_trans (Nat.add_le_add_left (Nat.le_of_ble_eq_true rfl : 1 + 0 ≤ 10) _) hf.1, Nat.le_trans (Nat.add_le_add_left (Nat.le_of_ble_eq_true rfl : 6 + 0 ≤ 60) _) hf.2⟩ ?_
  refine J.istore C dL_law_2550 (by decide) ?_
  refine J.lw (lv' := [(0, .ref b), (1, .ref (ad 0)), (2, .ref (bd 0)), (3, .ref o1), (4, .ref o2), (5, .int i), (6, .int k), (7, .int r)]) ⟨rfl, rfl, rfl, rfl, rfl, rfl, rfl, rfl, trivial⟩ ?_
  refine J.aload_n (i := 2) C dL_law_2552 rfl rfl ?_
  refine J.callVI C (sp_X7_thrown hl) rfl kMl_L_174 mdX7_thrown ⟨(Nat.le_of_ble_eq_true rfl), (Nat.le_of_ble_eq_true rfl)⟩ mk_0 rfl rfl (Nat.le_of_ble_eq_true rfl) dL_law_2553 ⟨Nat.le_trans (Nat.add_le_add_left (Nat.le_of_ble_eq_true rfl : 1 + 0 + 0 ≤ 10) _) hf.1, Nat.le_trans (Nat.add_le_add_left (Nat.le_of_ble_eq_true rfl : 6 + 0 + 0 ≤ 60) _) hf.2⟩ ?_
  refine J.heq lz_mk.symm ?_
  refine J.widen (k := cells + 10) (n := slots + 60) (Nat.add_le_add_left (Nat.le_of_ble_eq_true rfl : 1 + 0 + 0 ≤ 10) _) (Nat.add_le_add_left (Nat.le_of_ble_eq_true rfl : 6 + 0 + 0 ≤ 60) _) ?_
  refine J.iload C dL_law_2556 rfl ?_
  refine J.icmp_eq (tgt := 2563) C dL_law_2558 (by decide) (fun _ => ?_) (fun c9 => absurd hth c9)
  refine J.iload C dL_law_2563 rfl ?_
  refine J.if_ne (tgt := 2580) C dL_law_2565 (by decide) (fun _ => ?_) (fun hk => ?_)
  · refine J.goto (tgt := 3020) C dL_law_2580 (by decide) ?_
    exact J.lw (lv' := [(0, .ref b), (1, .ref (ad 0)), (2, .ref (bd 0)), (3, .ref o1), (4, .ref o2), (5, .int i)]) ⟨rfl, rfl, rfl, rfl, rfl, rfl, trivial⟩ (kk _ _ _ hI)
  · have hok := hok hk
    refine J.aload_n (i := 3) C dL_law_2568 rfl rfl ?_
    refine J.iconst C 0 dL_law_2569 (by decide) ?_
    refine J.lald C (66 + ((R9 g bd τ1).length + 0)) lw_0 (show vp_in 0 1 by unfold vp_in; decide) dL_law_2570 ?_
    refine J.iload C dL_law_2571 rfl ?_
    refine J.i2l C dL_law_2573 ?_
    refine J.lcmp C dL_law_2574 ?_
    refine J.if_eq (tgt := 2580) C dL_law_2575 (by decide) (fun _ => ?_) (fun c9 => absurd ((lg_cmp_eq _ _).mpr hok) c9)
    refine J.goto (tgt := 3020) C dL_law_2580 (by decide) ?_
    exact J.lw (lv' := [(0, .ref b), (1, .ref (ad 0)), (2, .ref (bd 0)), (3, .ref o1), (4, .ref o2), (5, .int i)]) ⟨rfl, rfl, rfl, rfl, rfl, rfl, trivial⟩ (kk _ _ _ hI)
set_option maxRecDepth 100000 in
theorem case_42 {p : Program} {l : Launch} (hl : l.stackTraces = false) {e : Env} {s : State} {m : MethodId} {args : Array Value} {below : List Frame} {meth : Method} {c : Code} {g : Gy} {A : Nat → Prop} {Q : State → Prop} {cells slots b L o1 o2 : Nat} {xs : Nat → Int32} {ad bd : Nat → Nat} {i : Int32} {σ : DS} {τ : MS} {w : OS} {Inv : DS → MS → Prop} (C : Cx p l s m args meth c g A RL cL_law 9) (hX : va_X b L xs s s.heap) (hbl : b < s.heap.size) (hbA : ¬ A b) (hf : cells + 10 ≤ room_1.cells ∧ slots + 60 ≤ room_1.slots) (h1 : vp_in (i + 1) L) (HA : AgW okI Inv (W_L_normalForm σ w (xs (i + 1).toNatClampNeg)) (P_X7_normalForm τ (xs (i + 1).toNatClampNeg)))
    (kk : ∀ (σ' : DS) (τ' : MS) (w' : OS), Inv σ' τ' → J p l e room_1 s m args below meth c g A 9 (cells + 10) (slots + 60) Q 3020 [(0, .ref b), (1, .ref (ad 0)), (2, .ref (bd 0)), (3, .ref o1), (4, .ref o2), (5, .int i)] [] (lz g ad bd o1 o2 σ' τ' w')) : J p l e room_1 s m args below meth c g A 9 cells slots Q 2583 [(0, .ref b), (1, .ref (ad 0)), (2, .ref (bd 0)), (3, .ref o1), (4, .ref o2), (5, .int i)] [] (lz g ad bd o1 o2 σ τ w) := by
  refine J.aload_n (i := 1) C dL_law_2583 rfl rfl ?_
  refine J.aload_n (i := 0) C dL_law_2584 rfl rfl ?_
  refine J.iload C dL_law_2585 rfl ?_
  refine J.iconst C 1 dL_law_2587 (by decide) ?_
  refine J.iadd C dL_law_2588 ?_
  refine J.sld C hX hbl hbA h1 dL_law_2589 ?_
  refine J.aload_n (i := 3) C dL_law_2590 rfl rfl ?_
  obtain ⟨k, σ1, w1, r, τ1, hx, hy, hth, hok, hI⟩ := HA
  refine J.callSH C (sp_L_normalForm hl σ w _ (.inl k, (σ1, w1)) hx) rfl kMl_L_310 mdL_normalForm ⟨(Nat.le_of_ble_eq_true rfl), (Nat.le_of_ble_eq_true rfl)⟩ rfl (Nat.le_of_ble_eq_true rfl) dL_law_2591 ⟨Nat.le_trans (Nat.add_le_add_left (Nat.le_of_ble_eq_true rfl : 2 ≤ 10) _) hf.1, Nat.le_trans (Nat.add_le_add_left (Nat.le_of_ble_eq_true rfl : 12 ≤ 60) _) hf.2⟩ (fun r9 u hu => ?_)
  obtain ⟨hu1, rfl⟩ := hu
  cases hu1
  refine J.istore C dL_law_2594 (by decide) ?_
  refine J.lw (lv' := [(0, .ref b), (1, .ref (ad 0)), (2, .ref (bd 0)), (3, .ref o1), (4, .ref o2), (5, .int i), (6, .int k)]) ⟨rfl, rfl, rfl, rfl, rfl, rfl, rfl, trivial⟩ ?_
  refine J.aload_n (i := 2) C dL_law_2596 rfl rfl ?_
  refine J.aload_n (i := 0) C dL_law_2597 rfl rfl ?_
  refine J.iload C dL_law_2598 rfl ?_
  refine J.iconst C 1 dL_law_2600 (by decide) ?_
  refine J.iadd C dL_law_2601 ?_
  refine J.sld C hX hbl hbA h1 dL_law_2602 ?_
  refine J.heq lz_mk ?_
  refine J.callVR (hp := mkh g bd (dk g ad σ1) (outs g o1 o2 w1)) C rfl (sp_X7_normalForm hl _) hy rfl kMl_L_312 mdX7_normalForm ⟨(Nat.le_of_ble_eq_true rfl), (Nat.le_of_ble_eq_true rfl)⟩ mk_0 rfl rfl (Nat.le_of_ble_eq_true rfl) dL_law_2603 ⟨Nat.le_trans (Nat.add_le_add_left (Nat.le_of_ble_eq_true rfl : 2 + 0 ≤ 10) _) hf.1, Nat.le_trans (Nat.add_le_add_left (Nat.le_of_ble_eq_true rfl : 12 + 0 ≤ 60) _) hf.2⟩ ?_
  refine J.istore C dL_law_2606 (by decide) ?_
  refine J.lw (lv' := [(0, .ref b), (1, .ref (ad 0)), (2, .ref (bd 0)), (3, .ref o1), (4, .ref o2), (5, .int i), (6, .int k), (7, .int r)]) ⟨rfl, rfl, rfl, rfl, rfl, rfl, rfl, rfl, trivial⟩ ?_
  refine J.aload_n (i := 2) C dL_law_2608 rfl rfl ?_
  refine J.callVI C (sp_X7_thrown hl) rfl kMl_L_174 mdX7_thrown ⟨(Nat.le_of_ble_eq_true rfl), (Nat.le_of_ble_eq_true rfl)⟩ mk_0 rfl rfl (Nat.le_of_ble_eq_true rfl) dL_law_2609 ⟨Nat.le_trans (Nat.add_le_add_left (Nat.le_of_ble_eq_true rfl : 2 + 0 + 0 ≤ 10) _) hf.1, Nat.le_trans (Nat.add_le_add_left (Nat.le_of_ble_eq_true rfl : 12 + 0 + 0 ≤ 60) _) hf.2⟩ ?_
  refine J.heq lz_mk.symm ?_
  refine J.widen (k := cells + 10) (n := slots + 60) (Nat.add_le_add_left (Nat.le_of_ble_eq_true rfl : 2 + 0 + 0 ≤ 10) _) (Nat.add_le_add_left (Nat.le_of_ble_eq_true rfl : 12 + 0 + 0 ≤ 60) _) ?_
  refine J.iload C dL_law_2612 rfl ?_
  refine J.icmp_eq (tgt := 2619) C dL_law_2614 (by decide) (fun _ => ?_) (fun c9 => absurd hth c9)
  refine J.iload C dL_law_2619 rfl ?_
  refine J.if_ne (tgt := 2636) C dL_law_2621 (by decide) (fun _ => ?_) (fun hk => ?_)
  · refine J.goto (tgt := 3020) C dL_law_2636 (by decide) ?_
    exact J.lw (lv' := [(0, .ref b), (1, .ref (ad 0)), (2, .ref (bd 0)), (3, .ref o1), (4, .ref o2), (5, .int i)]) ⟨rfl, rfl, rfl, rfl, rfl, rfl, trivial⟩ (kk _ _ _ hI)
  · have hok := hok hk
    refine J.aload_n (i := 3) C dL_law_2624 rfl rfl ?_
    refine J.iconst C 0 dL_law_2625 (by decide) ?_
    refine J.lald C (66 + ((R9 g bd τ1).length + 0)) lw_0 (show vp_in 0 1 by unfold vp_in; decide) dL_law_2626 ?_
    refine J.iload C dL_law_2627 rfl ?_
    refine J.i2l C dL_law_2629 ?_
    refine J.lcmp C dL_law_2630 ?_
    refine J.if_eq (tgt := 2636) C dL_law_2631 (by decide) (fun _ => ?_) (fun c9 => absurd ((lg_cmp_eq _ _).mpr hok) c9)
    refine J.goto (tgt := 3020) C dL_law_2636 (by decide) ?_
    exact J.lw (lv' := [(0, .ref b), (1, .ref (ad 0)), (2, .ref (bd 0)), (3, .ref o1), (4, .ref o2), (5, .int i)]) ⟨rfl, rfl, rfl, rfl, rfl, rfl, trivial⟩ (kk _ _ _ hI)
set_option maxRecDepth 100000 in
theorem case_43 {p : Program} {l : Launch} (hl : l.stackTraces = false) {e : Env} {s : State} {m : MethodId} {args : Array Value} {below : List Frame} {meth : Method} {c : Code} {g : Gy} {A : Nat → Prop} {Q : State → Prop} {cells slots b L o1 o2 : Nat} {xs : Nat → Int32} {ad bd : Nat → Nat} {i : Int32} {σ : DS} {τ : MS} {w : OS} {Inv : DS → MS → Prop} (C : Cx p l s m args meth c g A RL cL_law 9) (hX : va_X b L xs s s.heap) (hbl : b < s.heap.size) (hbA : ¬ A b) (hf : cells + 10 ≤ room_1.cells ∧ slots + 60 ≤ room_1.slots) (h1 : vp_in (i + 1) L) (HA : AgW okI Inv (W_L_models σ w (xs (i + 1).toNatClampNeg)) (P_X7_models τ (xs (i + 1).toNatClampNeg)))
    (kk : ∀ (σ' : DS) (τ' : MS) (w' : OS), Inv σ' τ' → J p l e room_1 s m args below meth c g A 9 (cells + 10) (slots + 60) Q 3020 [(0, .ref b), (1, .ref (ad 0)), (2, .ref (bd 0)), (3, .ref o1), (4, .ref o2), (5, .int i)] [] (lz g ad bd o1 o2 σ' τ' w')) : J p l e room_1 s m args below meth c g A 9 cells slots Q 2639 [(0, .ref b), (1, .ref (ad 0)), (2, .ref (bd 0)), (3, .ref o1), (4, .ref o2), (5, .int i)] [] (lz g ad bd o1 o2 σ τ w) := by
  refine J.aload_n (i := 1) C dL_law_2639 rfl rfl ?_
  refine J.aload_n (i := 0) C dL_law_2640 rfl rfl ?_
  refine J.iload C dL_law_2641 rfl ?_
  refine J.iconst C 1 dL_law_2643 (by decide) ?_
  refine J.iadd C dL_law_2644 ?_
  refine J.sld C hX hbl hbA h1 dL_law_2645 ?_
  refine J.aload_n (i := 3) C dL_law_2646 rfl rfl ?_
  obtain ⟨k, σ1, w1, r, τ1, hx, hy, hth, hok, hI⟩ := HA
  refine J.callSH C (sp_L_models hl σ w _ (.inl k, (σ1, w1)) hx) rfl kMl_L_313 mdL_models ⟨(Nat.le_of_ble_eq_true rfl), (Nat.le_of_ble_eq_true rfl)⟩ rfl (Nat.le_of_ble_eq_true rfl) dL_law_2647 ⟨Nat.le_trans (Nat.add_le_add_left (Nat.le_of_ble_eq_true rfl : 1 ≤ 10) _) hf.1, Nat.le_trans (Nat.add_le_add_left (Nat.le_of_ble_eq_true rfl : 6 ≤ 60) _) hf.2⟩ (fun r9 u hu => ?_)
  obtain ⟨hu1, rfl⟩ := hu
  cases hu1
  refine J.istore C dL_law_2650 (by decide) ?_
  refine J.lw (lv' := [(0, .ref b), (1, .ref (ad 0)), (2, .ref (bd 0)), (3, .ref o1), (4, .ref o2), (5, .int i), (6, .int k)]) ⟨rfl, rfl, rfl, rfl, rfl, rfl, rfl, trivial⟩ ?_
  refine J.aload_n (i := 2) C dL_law_2652 rfl rfl ?_
  refine J.aload_n (i := 0) C dL_law_2653 rfl rfl ?_
  refine J.iload C dL_law_2654 rfl ?_
  refine J.iconst C 1 dL_law_2656 (by decide) ?_
  refine J.iadd C dL_law_2657 ?_
  refine J.sld C hX hbl hbA h1 dL_law_2658 ?_
  refine J.heq lz_mk ?_
  refine J.callVR (hp := mkh g bd (dk g ad σ1) (outs g o1 o2 w1)) C rfl (sp_X7_models hl _) hy rfl kMl_L_315 mdX7_models ⟨(Nat.le_of_ble_eq_true rfl), (Nat.le_of_ble_eq_true rfl)⟩ mk_0 rfl rfl (Nat.le_of_ble_eq_true rfl) dL_law_2659 ⟨Nat.le_trans (Nat.add_le_add_left (Nat.le_of_ble_eq_true rfl : 1 + 0 ≤ 10) _) hf.1, Nat.le_trans (Nat.add_le_add_left (Nat.le_of_ble_eq_true rfl : 6 + 0 ≤ 60) _) hf.2⟩ ?_
  refine J.istore C dL_law_2662 (by decide) ?_
  refine J.lw (lv' := [(0, .ref b), (1, .ref (ad 0)), (2, .ref (bd 0)), (3, .ref o1), (4, .ref o2), (5, .int i), (6, .int k), (7, .int r)]) ⟨rfl, rfl, rfl, rfl, rfl, rfl, rfl, rfl, trivial⟩ ?_
  refine J.aload_n (i := 2) C dL_law_2664 rfl rfl ?_
  refine J.callVI C (sp_X7_thrown hl) rfl kMl_L_174 mdX7_thrown ⟨(Nat.le_of_ble_eq_true rfl), (Nat.le_of_ble_eq_true rfl)⟩ mk_0 rfl rfl (Nat.le_of_ble_eq_true rfl) dL_law_2665 ⟨Nat.le_trans (Nat.add_le_add_left (Nat.le_of_ble_eq_true rfl : 1 + 0 + 0 ≤ 10) _) hf.1, Nat.le_trans (Nat.add_le_add_left (Nat.le_of_ble_eq_true rfl : 6 + 0 + 0 ≤ 60) _) hf.2⟩ ?_
  refine J.heq lz_mk.symm ?_
  refine J.widen (k := cells + 10) (n := slots + 60) (Nat.add_le_add_left (Nat.le_of_ble_eq_true rfl : 1 + 0 + 0 ≤ 10) _) (Nat.add_le_add_left (Nat.le_of_ble_eq_true rfl : 6 + 0 + 0 ≤ 60) _) ?_
  refine J.iload C dL_law_2668 rfl ?_
  refine J.icmp_eq (tgt := 2675) C dL_law_2670 (by decide) (fun _ => ?_) (fun c9 => absurd hth c9)
  refine J.iload C dL_law_2675 rfl ?_
  refine J.if_ne (tgt := 2692) C dL_law_2677 (by decide) (fun _ => ?_) (fun hk => ?_)
  · refine J.goto (tgt := 3020) C dL_law_2692 (by decide) ?_
    exact J.lw (lv' := [(0, .ref b), (1, .ref (ad 0)), (2, .ref (bd 0)), (3, .ref o1), (4, .ref o2), (5, .int i)]) ⟨rfl, rfl, rfl, rfl, rfl, rfl, trivial⟩ (kk _ _ _ hI)
  · have hok := hok hk
    refine J.aload_n (i := 3) C dL_law_2680 rfl rfl ?_
    refine J.iconst C 0 dL_law_2681 (by decide) ?_
    refine J.lald C (66 + ((R9 g bd τ1).length + 0)) lw_0 (show vp_in 0 1 by unfold vp_in; decide) dL_law_2682 ?_
    refine J.iload C dL_law_2683 rfl ?_
    refine J.i2l C dL_law_2685 ?_
    refine J.lcmp C dL_law_2686 ?_
    refine J.if_eq (tgt := 2692) C dL_law_2687 (by decide) (fun _ => ?_) (fun c9 => absurd ((lg_cmp_eq _ _).mpr hok) c9)
    refine J.goto (tgt := 3020) C dL_law_2692 (by decide) ?_
    exact J.lw (lv' := [(0, .ref b), (1, .ref (ad 0)), (2, .ref (bd 0)), (3, .ref o1), (4, .ref o2), (5, .int i)]) ⟨rfl, rfl, rfl, rfl, rfl, rfl, trivial⟩ (kk _ _ _ hI)
set_option maxRecDepth 100000 in
theorem case_44 {p : Program} {l : Launch} (hl : l.stackTraces = false) {e : Env} {s : State} {m : MethodId} {args : Array Value} {below : List Frame} {meth : Method} {c : Code} {g : Gy} {A : Nat → Prop} {Q : State → Prop} {cells slots b L o1 o2 : Nat} {xs : Nat → Int32} {ad bd : Nat → Nat} {i : Int32} {σ : DS} {τ : MS} {w : OS} {Inv : DS → MS → Prop} (C : Cx p l s m args meth c g A RL cL_law 9) (hX : va_X b L xs s s.heap) (hbl : b < s.heap.size) (hbA : ¬ A b) (hf : cells + 10 ≤ room_1.cells ∧ slots + 60 ≤ room_1.slots) (h1 : vp_in (i + 1) L) (HA : AgW okI Inv (W_L_modelsByRows σ w (xs (i + 1).toNatClampNeg)) (P_X7_modelsByRows τ (xs (i + 1).toNatClampNeg)))
    (kk : ∀ (σ' : DS) (τ' : MS) (w' : OS), Inv σ' τ' → J p l e room_1 s m args below meth c g A 9 (cells + 10) (slots + 60) Q 3020 [(0, .ref b), (1, .ref (ad 0)), (2, .ref (bd 0)), (3, .ref o1), (4, .ref o2), (5, .int i)] [] (lz g ad bd o1 o2 σ' τ' w')) : J p l e room_1 s m args below meth c g A 9 cells slots Q 2695 [(0, .ref b), (1, .ref (ad 0)), (2, .ref (bd 0)), (3, .ref o1), (4, .ref o2), (5, .int i)] [] (lz g ad bd o1 o2 σ τ w) := by
  refine J.aload_n (i := 1) C dL_law_2695 rfl rfl ?_
  refine J.aload_n (i := 0) C dL_law_2696 rfl rfl ?_
  refine J.iload C dL_law_2697 rfl ?_
  refine J.iconst C 1 dL_law_2699 (by decide) ?_
  refine J.iadd C dL_law_2700 ?_
  refine J.sld C hX hbl hbA h1 dL_law_2701 ?_
  refine J.aload_n (i := 3) C dL_law_2702 rfl rfl ?_
  obtain ⟨k, σ1, w1, r, τ1, hx, hy, hth, hok, hI⟩ := HA
  refine J.callSH C (sp_L_modelsByRows hl σ w _ (.inl k, (σ1, w1)) hx) rfl kMl_L_316 mdL_modelsByRows ⟨(Nat.le_of_ble_eq_true rfl), (Nat.le_of_ble_eq_true rfl)⟩ rfl (Nat.le_of_ble_eq_true rfl) dL_law_2703 ⟨Nat.le_trans (Nat.add_le_add_left (Nat.le_of_ble_eq_true rfl : 1 ≤ 10) _) hf.1, Nat.le_trans (Nat.add_le_add_left (Nat.le_of_ble_eq_true rfl : 6 ≤ 60) _) hf.2⟩ (fun r9 u hu => ?_)
  obtain ⟨hu1, rfl⟩ := hu
  cases hu1
  refine J.istore C dL_law_2706 (by decide) ?_
  refine J.lw (lv' := [(0, .ref b), (1, .ref (ad 0)), (2, .ref (bd 0)), (3, .ref o1), (4, .ref o2), (5, .int i), (6, .int k)]) ⟨rfl, rfl, rfl, rfl, rfl, rfl, rfl, trivial⟩ ?_
  refine J.aload_n (i := 2) C dL_law_2708 rfl rfl ?_
  refine J.aload_n (i := 0) C dL_law_2709 rfl rfl ?_
  refine J.iload C dL_law_2710 rfl ?_
  refine J.iconst C 1 dL_law_2712 (by decide) ?_
  refine J.iadd C dL_law_2713 ?_
  refine J.sld C hX hbl hbA h1 dL_law_2714 ?_
  refine J.heq lz_mk ?_
  refine J.callVR (hp := mkh g bd (dk g ad σ1) (outs g o1 o2 w1)) C rfl (sp_X7_modelsByRows hl _) hy rfl kMl_L_318 mdX7_modelsByRows ⟨(Nat.le_of_ble_eq_true rfl), (Nat.le_of_ble_eq_true rfl)⟩ mk_0 rfl rfl (Nat.le_of_ble_eq_true rfl) dL_law_2715 ⟨Nat.le_trans (Nat.add_le_add_left (Nat.le_of_ble_eq_true rfl : 1 + 0 ≤ 10) _) hf.1, Nat.le_trans (Nat.add_le_add_left (Nat.le_of_ble_eq_true rfl : 6 + 0 ≤ 60) _) hf.2⟩ ?_
  refine J.istore C dL_law_2718 (by decide) ?_
  refine J.lw (lv' := [(0, .ref b), (1, .ref (ad 0)), (2, .ref (bd 0)), (3, .ref o1), (4, .ref o2), (5, .int i), (6, .int k), (7, .int r)]) ⟨rfl, rfl, rfl, rfl, rfl, rfl, rfl, rfl, trivial⟩ ?_
  refine J.aload_n (i := 2) C dL_law_2720 rfl rfl ?_
  refine J.callVI C (sp_X7_thrown hl) rfl kMl_L_174 mdX7_thrown ⟨(Nat.le_of_ble_eq_true rfl), (Nat.le_of_ble_eq_true rfl)⟩ mk_0 rfl rfl (Nat.le_of_ble_eq_true rfl) dL_law_2721 ⟨Nat.le_trans (Nat.add_le_add_left (Nat.le_of_ble_eq_true rfl : 1 + 0 + 0 ≤ 10) _) hf.1, Nat.le_trans (Nat.add_le_add_left (Nat.le_of_ble_eq_true rfl : 6 + 0 + 0 ≤ 60) _) hf.2⟩ ?_
  refine J.heq lz_mk.symm ?_
  refine J.widen (k := cells + 10) (n := slots + 60) (Nat.add_le_add_left (Nat.le_of_ble_eq_true rfl : 1 + 0 + 0 ≤ 10) _) (Nat.add_le_add_left (Nat.le_of_ble_eq_true rfl : 6 + 0 + 0 ≤ 60) _) ?_
  refine J.iload C dL_law_2724 rfl ?_
  refine J.icmp_eq (tgt := 2731) C dL_law_2726 (by decide) (fun _ => ?_) (fun c9 => absurd hth c9)
  refine J.iload C dL_law_2731 rfl ?_
  refine J.if_ne (tgt := 2748) C dL_law_2733 (by decide) (fun _ => ?_) (fun hk => ?_)
  · refine J.goto (tgt := 3020) C dL_law_2748 (by decide) ?_
    exact J.lw (lv' := [(0, .ref b), (1, .ref (ad 0)), (2, .ref (bd 0)), (3, .ref o1), (4, .ref o2), (5, .int i)]) ⟨rfl, rfl, rfl, rfl, rfl, rfl, trivial⟩ (kk _ _ _ hI)
  · have hok := hok hk
    refine J.aload_n (i := 3) C dL_law_2736 rfl rfl ?_
    refine J.iconst C 0 dL_law_2737 (by decide) ?_
    refine J.lald C (66 + ((R9 g bd τ1).length + 0)) lw_0 (show vp_in 0 1 by unfold vp_in; decide) dL_law_2738 ?_
    refine J.iload C dL_law_2739 rfl ?_
    refine J.i2l C dL_law_2741 ?_
    refine J.lcmp C dL_law_2742 ?_
    refine J.if_eq (tgt := 2748) C dL_law_2743 (by decide) (fun _ => ?_) (fun c9 => absurd ((lg_cmp_eq _ _).mpr hok) c9)
    refine J.goto (tgt := 3020) C dL_law_2748 (by decide) ?_
    exact J.lw (lv' := [(0, .ref b), (1, .ref (ad 0)), (2, .ref (bd 0)), (3, .ref o1), (4, .ref o2), (5, .int i)]) ⟨rfl, rfl, rfl, rfl, rfl, rfl, trivial⟩ (kk _ _ _ hI)
set_option maxRecDepth 100000 in
theorem case_45 {p : Program} {l : Launch} (hl : l.stackTraces = false) {e : Env} {s : State} {m : MethodId} {args : Array Value} {below : List Frame} {meth : Method} {c : Code} {g : Gy} {A : Nat → Prop} {Q : State → Prop} {cells slots b L o1 o2 : Nat} {xs : Nat → Int32} {ad bd : Nat → Nat} {i : Int32} {σ : DS} {τ : MS} {w : OS} {Inv : DS → MS → Prop} (C : Cx p l s m args meth c g A RL cL_law 9) (hX : va_X b L xs s s.heap) (hbl : b < s.heap.size) (hbA : ¬ A b) (hf : cells + 10 ≤ room_1.cells ∧ slots + 60 ≤ room_1.slots) (h1 : vp_in (i + 1) L) (HA : AgW okZ Inv (W_L_follows σ w (xs (i + 1).toNatClampNeg)) (P_X7_follows τ (xs (i + 1).toNatClampNeg)))
    (kk : ∀ (σ' : DS) (τ' : MS) (w' : OS), Inv σ' τ' → J p l e room_1 s m args below meth c g A 9 (cells + 10) (slots + 60) Q 3020 [(0, .ref b), (1, .ref (ad 0)), (2, .ref (bd 0)), (3, .ref o1), (4, .ref o2), (5, .int i)] [] (lz g ad bd o1 o2 σ' τ' w')) : J p l e room_1 s m args below meth c g A 9 cells slots Q 2751 [(0, .ref b), (1, .ref (ad 0)), (2, .ref (bd 0)), (3, .ref o1), (4, .ref o2), (5, .int i)] [] (lz g ad bd o1 o2 σ τ w) := by
  refine J.aload_n (i := 1) C dL_law_2751 rfl rfl ?_
  refine J.aload_n (i := 0) C dL_law_2752 rfl rfl ?_
  refine J.iload C dL_law_2753 rfl ?_
  refine J.iconst C 1 dL_law_2755 (by decide) ?_
  refine J.iadd C dL_law_2756 ?_
  refine J.sld C hX hbl hbA h1 dL_law_2757 ?_
  refine J.aload_n (i := 3) C dL_law_2758 rfl rfl ?_
  obtain ⟨k, σ1, w1, r, τ1, hx, hy, hth, hok, hI⟩ := HA
  refine J.callSH C (sp_L_follows hl σ w _ (.inl k, (σ1, w1)) hx) rfl kMl_L_319 mdL_follows ⟨(Nat.le_of_ble_eq_true rfl), (Nat.le_of_ble_eq_true rfl)⟩ rfl (Nat.le_of_ble_eq_true rfl) dL_law_2759 ⟨Nat.le_trans (Nat.add_le_add_left (Nat.le_of_ble_eq_true rfl : 1 ≤ 10) _) hf.1, Nat.le_trans (Nat.add_le_add_left (Nat.le_of_ble_eq_true rfl : 6 ≤ 60) _) hf.2⟩ (fun r9 u hu => ?_)
  obtain ⟨hu1, rfl⟩ := hu
  cases hu1
  refine J.istore C dL_law_2762 (by decide) ?_
  refine J.lw (lv' := [(0, .ref b), (1, .ref (ad 0)), (2, .ref (bd 0)), (3, .ref o1), (4, .ref o2), (5, .int i), (6, .int k)]) ⟨rfl, rfl, rfl, rfl, rfl, rfl, rfl, trivial⟩ ?_
  refine J.aload_n (i := 2) C dL_law_2764 rfl rfl ?_
  refine J.aload_n (i := 0) C dL_law_2765 rfl rfl ?_
  refine J.iload C dL_law_2766 rfl ?_
  refine J.iconst C 1 dL_law_2768 (by decide) ?_
  refine J.iadd C dL_law_2769 ?_
  refine J.sld C hX hbl hbA h1 dL_law_2770 ?_
  refine J.heq lz_mk ?_
  refine J.callVR (hp := mkh g bd (dk g ad σ1) (outs g o1 o2 w1)) C rfl (sp_X7_follows hl _) hy rfl kMl_L_321 mdX7_follows ⟨(Nat.le_of_ble_eq_true rfl), (Nat.le_of_ble_eq_true rfl)⟩ mk_0 rfl rfl (Nat.le_of_ble_eq_true rfl) dL_law_2771 ⟨Nat.le_trans (Nat.add_le_add_left (Nat.le_of_ble_eq_true rfl : 1 + 0 ≤ 10) _) hf.1, Nat.le_trans (Nat.add_le_add_left (Nat.le_of_ble_eq_true rfl : 6 + 0 ≤ 60) _) hf.2⟩ ?_
  refine J.istore C dL_law_2774 (by decide) ?_
  refine J.lw (lv' := [(0, .ref b), (1, .ref (ad 0)), (2, .ref (bd 0)), (3, .ref o1), (4, .ref o2), (5, .int i), (6, .int k), (7, .int r)]) ⟨rfl, rfl, rfl, rfl, rfl, rfl, rfl, rfl, trivial⟩ ?_
  refine J.aload_n (i := 2) C dL_law_2776 rfl rfl ?_
  refine J.callVI C (sp_X7_thrown hl) rfl kMl_L_174 mdX7_thrown ⟨(Nat.le_of_ble_eq_true rfl), (Nat.le_of_ble_eq_true rfl)⟩ mk_0 rfl rfl (Nat.le_of_ble_eq_true rfl) dL_law_2777 ⟨Nat.le_trans (Nat.add_le_add_left (Nat.le_of_ble_eq_true rfl : 1 + 0 + 0 ≤ 10) _) hf.1, Nat.le_trans (Nat.add_le_add_left (Nat.le_of_ble_eq_true rfl : 6 + 0 + 0 ≤ 60) _) hf.2⟩ ?_
  refine J.heq lz_mk.symm ?_
  refine J.widen (k := cells + 10) (n := slots + 60) (Nat.add_le_add_left (Nat.le_of_ble_eq_true rfl : 1 + 0 + 0 ≤ 10) _) (Nat.add_le_add_left (Nat.le_of_ble_eq_true rfl : 6 + 0 + 0 ≤ 60) _) ?_
  refine J.iload C dL_law_2780 rfl ?_
  refine J.icmp_eq (tgt := 2787) C dL_law_2782 (by decide) (fun _ => ?_) (fun c9 => absurd hth c9)
  refine J.iload C dL_law_2787 rfl ?_
  refine J.if_ne (tgt := 2811) C dL_law_2789 (by decide) (fun _ => ?_) (fun hk => ?_)
  · refine J.goto (tgt := 3020) C dL_law_2811 (by decide) ?_
    exact J.lw (lv' := [(0, .ref b), (1, .ref (ad 0)), (2, .ref (bd 0)), (3, .ref o1), (4, .ref o2), (5, .int i)]) ⟨rfl, rfl, rfl, rfl, rfl, rfl, trivial⟩ (kk _ _ _ hI)
  · have hok := hok hk
    refine J.aload_n (i := 3) C dL_law_2792 rfl rfl ?_
    refine J.iconst C 0 dL_law_2793 (by decide) ?_
    refine J.lald C (66 + ((R9 g bd τ1).length + 0)) lw_0 (show vp_in 0 1 by unfold vp_in; decide) dL_law_2794 ?_
    refine J.iload C dL_law_2795 rfl ?_
    refine J.nzL (t1 := 2804) (t2 := 2805) C dL_law_2797 (by decide) dL_law_2800 dL_law_2801 (by decide) dL_law_2804 rfl ?_
    refine J.lcmp C dL_law_2805 ?_
    refine J.if_eq (tgt := 2811) C dL_law_2806 (by decide) (fun _ => ?_) (fun c9 => absurd ((lg_cmp_eq _ _).mpr hok) c9)
    refine J.goto (tgt := 3020) C dL_law_2811 (by decide) ?_
    exact J.lw (lv' := [(0, .ref b), (1, .ref (ad 0)), (2, .ref (bd 0)), (3, .ref o1), (4, .ref o2), (5, .int i)]) ⟨rfl, rfl, rfl, rfl, rfl, rfl, trivial⟩ (kk _ _ _ hI)
set_option maxRecDepth 100000 in
theorem case_46 {p : Program} {l : Launch} (hl : l.stackTraces = false) {e : Env} {s : State} {m : MethodId} {args : Array Value} {below : List Frame} {meth : Method} {c : Code} {g : Gy} {A : Nat → Prop} {Q : State → Prop} {cells slots b L o1 o2 : Nat} {xs : Nat → Int32} {ad bd : Nat → Nat} {i : Int32} {σ : DS} {τ : MS} {w : OS} {Inv : DS → MS → Prop} (C : Cx p l s m args meth c g A RL cL_law 9) (hX : va_X b L xs s s.heap) (hbl : b < s.heap.size) (hbA : ¬ A b) (hf : cells + 10 ≤ room_1.cells ∧ slots + 60 ≤ room_1.slots) (h1 : vp_in (i + 1) L) (HA : AgW okZ Inv (W_L_isSound σ w (xs (i + 1).toNatClampNeg)) (P_X7_isSound τ (xs (i + 1).toNatClampNeg)))
    (kk : ∀ (σ' : DS) (τ' : MS) (w' : OS), Inv σ' τ' → J p l e room_1 s m args below meth c g A 9 (cells + 10) (slots + 60) Q 3020 [(0, .ref b), (1, .ref (ad 0)), (2, .ref (bd 0)), (3, .ref o1), (4, .ref o2), (5, .int i)] [] (lz g ad bd o1 o2 σ' τ' w')) : J p l e room_1 s m args below meth c g A 9 cells slots Q 2814 [(0, .ref b), (1, .ref (ad 0)), (2, .ref (bd 0)), (3, .ref o1), (4, .ref o2), (5, .int i)] [] (lz g ad bd o1 o2 σ τ w) := by
  refine J.aload_n (i := 1) C dL_law_2814 rfl rfl ?_
  refine J.aload_n (i := 0) C dL_law_2815 rfl rfl ?_
  refine J.iload C dL_law_2816 rfl ?_
  refine J.iconst C 1 dL_law_2818 (by decide) ?_
  refine J.iadd C dL_law_2819 ?_
  refine J.sld C hX hbl hbA h1 dL_law_2820 ?_
  refine J.aload_n (i := 3) C dL_law_2821 rfl rfl ?_
  obtain ⟨k, σ1, w1, r, τ1, hx, hy, hth, hok, hI⟩ := HA
  refine J.callSH C (sp_L_isSound hl σ w _ (.inl k, (σ1, w1)) hx) rfl kMl_L_322 mdL_isSound ⟨(Nat.le_of_ble_eq_true rfl), (Nat.le_of_ble_eq_true rfl)⟩ rfl (Nat.le_of_ble_eq_true rfl) dL_law_2822 ⟨Nat.le_trans (Nat.add_le_add_left (Nat.le_of_ble_eq_true rfl : 1 ≤ 10) _) hf.1, Nat.le_trans (Nat.add_le_add_left (Nat.le_of_ble_eq_true rfl : 6 ≤ 60) _) hf.2⟩ (fun r9 u hu => ?_)
  obtain ⟨hu1, rfl⟩ := hu
  cases hu1
  refine J.istore C dL_law_2825 (by decide) ?_
  refine J.lw (lv' := [(0, .ref b), (1, .ref (ad 0)), (2, .ref (bd 0)), (3, .ref o1), (4, .ref o2), (5, .int i), (6, .int k)]) ⟨rfl, rfl, rfl, rfl, rfl, rfl, rfl, trivial⟩ ?_
  refine J.aload_n (i := 2) C dL_law_2827 rfl rfl ?_
  refine J.aload_n (i := 0) C dL_law_2828 rfl rfl ?_
  refine J.iload C dL_law_2829 rfl ?_
  refine J.iconst C 1 dL_law_2831 (by decide) ?_
  refine J.iadd C dL_law_2832 ?_
  refine J.sld C hX hbl hbA h1 dL_law_2833 ?_
  refine J.heq lz_mk ?_
  refine J.callVR (hp := mkh g bd (dk g ad σ1) (outs g o1 o2 w1)) C rfl (sp_X7_isSound hl _) hy rfl kMl_L_324 mdX7_isSound ⟨(Nat.le_of_ble_eq_true rfl), (Nat.le_of_ble_eq_true rfl)⟩ mk_0 rfl rfl (Nat.le_of_ble_eq_true rfl) dL_law_2834 ⟨Nat.le_trans (Nat.add_le_add_left (Nat.le_of_ble_eq_true rfl : 1 + 0 ≤ 10) _) hf.1, Nat.le_trans (Nat.add_le_add_left (Nat.le_of_ble_eq_true rfl : 6 + 0 ≤ 60) _) hf.2⟩ ?_
  refine J.istore C dL_law_2837 (by decide) ?_
  refine J.lw (lv' := [(0, .ref b), (1, .ref (ad 0)), (2, .ref (bd 0)), (3, .ref o1), (4, .ref o2), (5, .int i), (6, .int k), (7, .int r)]) ⟨rfl, rfl, rfl, rfl, rfl, rfl, rfl, rfl, trivial⟩ ?_
  refine J.aload_n (i := 2) C dL_law_2839 rfl rfl ?_
  refine J.callVI C (sp_X7_thrown hl) rfl kMl_L_174 mdX7_thrown ⟨(Nat.le_of_ble_eq_true rfl), (Nat.le_of_ble_eq_true rfl)⟩ mk_0 rfl rfl (Nat.le_of_ble_eq_true rfl) dL_law_2840 ⟨Nat.le_trans (Nat.add_le_add_left (Nat.le_of_ble_eq_true rfl : 1 + 0 + 0 ≤ 10) _) hf.1, Nat.le_trans (Nat.add_le_add_left (Nat.le_of_ble_eq_true rfl : 6 + 0 + 0 ≤ 60) _) hf.2⟩ ?_
  refine J.heq lz_mk.symm ?_
  refine J.widen (k := cells + 10) (n := slots + 60) (Nat.add_le_add_left (Nat.le_of_ble_eq_true rfl : 1 + 0 + 0 ≤ 10) _) (Nat.add_le_add_left (Nat.le_of_ble_eq_true rfl : 6 + 0 + 0 ≤ 60) _) ?_
  refine J.iload C dL_law_2843 rfl ?_
  refine J.icmp_eq (tgt := 2850) C dL_law_2845 (by decide) (fun _ => ?_) (fun c9 => absurd hth c9)
  refine J.iload C dL_law_2850 rfl ?_
  refine J.if_ne (tgt := 2874) C dL_law_2852 (by decide) (fun _ => ?_) (fun hk => ?_)
  · refine J.goto (tgt := 3020) C dL_law_2874 (by decide) ?_
    exact J.lw (lv' := [(0, .ref b), (1, .ref (ad 0)), (2, .ref (bd 0)), (3, .ref o1), (4, .ref o2), (5, .int i)]) ⟨rfl, rfl, rfl, rfl, rfl, rfl, trivial⟩ (kk _ _ _ hI)
  · have hok := hok hk
    refine J.aload_n (i := 3) C dL_law_2855 rfl rfl ?_
    refine J.iconst C 0 dL_law_2856 (by decide) ?_
    refine J.lald C (66 + ((R9 g bd τ1).length + 0)) lw_0 (show vp_in 0 1 by unfold vp_in; decide) dL_law_2857 ?_
    refine J.iload C dL_law_2858 rfl ?_
    refine J.nzL (t1 := 2867) (t2 := 2868) C dL_law_2860 (by decide) dL_law_2863 dL_law_2864 (by decide) dL_law_2867 rfl ?_
    refine J.lcmp C dL_law_2868 ?_
    refine J.if_eq (tgt := 2874) C dL_law_2869 (by decide) (fun _ => ?_) (fun c9 => absurd ((lg_cmp_eq _ _).mpr hok) c9)
    refine J.goto (tgt := 3020) C dL_law_2874 (by decide) ?_
    exact J.lw (lv' := [(0, .ref b), (1, .ref (ad 0)), (2, .ref (bd 0)), (3, .ref o1), (4, .ref o2), (5, .int i)]) ⟨rfl, rfl, rfl, rfl, rfl, rfl, trivial⟩ (kk _ _ _ hI)
set_option maxRecDepth 100000 in
theorem case_47 {p : Program} {l : Launch} (hl : l.stackTraces = false) {e : Env} {s : State} {m : MethodId} {args : Array Value} {below : List Frame} {meth : Method} {c : Code} {g : Gy} {A : Nat → Prop} {Q : State → Prop} {cells slots b L o1 o2 : Nat} {xs : Nat → Int32} {ad bd : Nat → Nat} {i : Int32} {σ : DS} {τ : MS} {w : OS} {Inv : DS → MS → Prop} (C : Cx p l s m args meth c g A RL cL_law 9) (hX : va_X b L xs s s.heap) (hbl : b < s.heap.size) (hbA : ¬ A b) (hf : cells + 10 ≤ room_1.cells ∧ slots + 60 ≤ room_1.slots) (h1 : vp_in (i + 1) L) (HA : AgW okF Inv (W_L_share σ w (xs (i + 1).toNatClampNeg)) (P_X7_share τ (xs (i + 1).toNatClampNeg)))
    (kk : ∀ (σ' : DS) (τ' : MS) (w' : OS), Inv σ' τ' → J p l e room_1 s m args below meth c g A 9 (cells + 10) (slots + 60) Q 3020 [(0, .ref b), (1, .ref (ad 0)), (2, .ref (bd 0)), (3, .ref o1), (4, .ref o2), (5, .int i)] [] (lz g ad bd o1 o2 σ' τ' w')) : J p l e room_1 s m args below meth c g A 9 cells slots Q 2877 [(0, .ref b), (1, .ref (ad 0)), (2, .ref (bd 0)), (3, .ref o1), (4, .ref o2), (5, .int i)] [] (lz g ad bd o1 o2 σ τ w) := by
  refine J.aload_n (i := 1) C dL_law_2877 rfl rfl ?_
  refine J.aload_n (i := 0) C dL_law_2878 rfl rfl ?_
  refine J.iload C dL_law_2879 rfl ?_
  refine J.iconst C 1 dL_law_2881 (by decide) ?_
  refine J.iadd C dL_law_2882 ?_
  refine J.sld C hX hbl hbA h1 dL_law_2883 ?_
  refine J.aload C dL_law_2884 rfl ?_
  obtain ⟨k, σ1, w1, r, τ1, hx, hy, hth, hok, hI⟩ := HA
  refine J.callSH C (sp_L_share hl σ w _ (.inl k, (σ1, w1)) hx) rfl kMl_L_325 mdL_share ⟨(Nat.le_of_ble_eq_true rfl), (Nat.le_of_ble_eq_true rfl)⟩ rfl (Nat.le_of_ble_eq_true rfl) dL_law_2886 ⟨Nat.le_trans (Nat.add_le_add_left (Nat.le_of_ble_eq_true rfl : 1 ≤ 10) _) hf.1, Nat.le_trans (Nat.add_le_add_left (Nat.le_of_ble_eq_true rfl : 6 ≤ 60) _) hf.2⟩ (fun r9 u hu => ?_)
  obtain ⟨hu1, rfl⟩ := hu
  cases hu1
  refine J.istore C dL_law_2889 (by decide) ?_
  refine J.lw (lv' := [(0, .ref b), (1, .ref (ad 0)), (2, .ref (bd 0)), (3, .ref o1), (4, .ref o2), (5, .int i), (6, .int k)]) ⟨rfl, rfl, rfl, rfl, rfl, rfl, rfl, trivial⟩ ?_
  refine J.aload_n (i := 2) C dL_law_2891 rfl rfl ?_
  refine J.aload_n (i := 0) C dL_law_2892 rfl rfl ?_
  refine J.iload C dL_law_2893 rfl ?_
  refine J.iconst C 1 dL_law_2895 (by decide) ?_
  refine J.iadd C dL_law_2896 ?_
  refine J.sld C hX hbl hbA h1 dL_law_2897 ?_
  refine J.heq lz_mk ?_
  refine J.callVR (hp := mkh g bd (dk g ad σ1) (outs g o1 o2 w1)) C rfl (sp_X7_share hl _) hy rfl kMl_L_328 mdX7_share ⟨(Nat.le_of_ble_eq_true rfl), (Nat.le_of_ble_eq_true rfl)⟩ mk_0 rfl rfl (Nat.le_of_ble_eq_true rfl) dL_law_2898 ⟨Nat.le_trans (Nat.add_le_add_left (Nat.le_of_ble_eq_true rfl : 1 + 0 ≤ 10) _) hf.1, Nat.le_trans (Nat.add_le_add_left (Nat.le_of_ble_eq_true rfl : 6 + 0 ≤ 60) _) hf.2⟩ ?_
  refine J.fstore C dL_law_2901 (by decide) ?_
  refine J.lw (lv' := [(0, .ref b), (1, .ref (ad 0)), (2, .ref (bd 0)), (3, .ref o1), (4, .ref o2), (5, .int i), (6, .int k), (7, .float r)]) ⟨rfl, rfl, rfl, rfl, rfl, rfl, rfl, rfl, trivial⟩ ?_
  refine J.aload_n (i := 2) C dL_law_2903 rfl rfl ?_
  refine J.callVI C (sp_X7_thrown hl) rfl kMl_L_174 mdX7_thrown ⟨(Nat.le_of_ble_eq_true rfl), (Nat.le_of_ble_eq_true rfl)⟩ mk_0 rfl rfl (Nat.le_of_ble_eq_true rfl) dL_law_2904 ⟨Nat.le_trans (Nat.add_le_add_left (Nat.le_of_ble_eq_true rfl : 1 + 0 + 0 ≤ 10) _) hf.1, Nat.le_trans (Nat.add_le_add_left (Nat.le_of_ble_eq_true rfl : 6 + 0 + 0 ≤ 60) _) hf.2⟩ ?_
  refine J.heq lz_mk.symm ?_
  refine J.widen (k := cells + 10) (n := slots + 60) (Nat.add_le_add_left (Nat.le_of_ble_eq_true rfl : 1 + 0 + 0 ≤ 10) _) (Nat.add_le_add_left (Nat.le_of_ble_eq_true rfl : 6 + 0 + 0 ≤ 60) _) ?_
  refine J.iload C dL_law_2907 rfl ?_
  refine J.icmp_eq (tgt := 2914) C dL_law_2909 (by decide) (fun _ => ?_) (fun c9 => absurd hth c9)
  refine J.iload C dL_law_2914 rfl ?_
  refine J.if_ne (tgt := 2952) C dL_law_2916 (by decide) (fun _ => ?_) (fun hk => ?_)
  · refine J.goto (tgt := 3020) C dL_law_2952 (by decide) ?_
    exact J.lw (lv' := [(0, .ref b), (1, .ref (ad 0)), (2, .ref (bd 0)), (3, .ref o1), (4, .ref o2), (5, .int i)]) ⟨rfl, rfl, rfl, rfl, rfl, rfl, trivial⟩ (kk _ _ _ hI)
  · have hok := hok hk
    obtain ⟨hok1, hok⟩ := hok
    refine J.aload C dL_law_2919 rfl ?_
    refine J.iconst C 0 dL_law_2921 (by decide) ?_
    refine J.dald C (66 + ((R9 g bd τ1).length + 1)) lw_1 (show vp_in 0 1 by unfold vp_in; decide) dL_law_2922 ?_
    refine J.fload C dL_law_2923 rfl ?_
    refine J.f2d C dL_law_2925 hok1 ?_
    refine J.dcmp C dL_law_2926 ?_
    refine J.if_eq (tgt := 2952) C dL_law_2927 (by decide) (fun _ => ?_) (fun c9 => absurd hok c9)
    refine J.goto (tgt := 3020) C dL_law_2952 (by decide) ?_
    exact J.lw (lv' := [(0, .ref b), (1, .ref (ad 0)), (2, .ref (bd 0)), (3, .ref o1), (4, .ref o2), (5, .int i)]) ⟨rfl, rfl, rfl, rfl, rfl, rfl, trivial⟩ (kk _ _ _ hI)
set_option maxRecDepth 100000 in
theorem case_48 {p : Program} {l : Launch} (hl : l.stackTraces = false) {e : Env} {s : State} {m : MethodId} {args : Array Value} {below : List Frame} {meth : Method} {c : Code} {g : Gy} {A : Nat → Prop} {Q : State → Prop} {cells slots b L o1 o2 : Nat} {xs : Nat → Int32} {ad bd : Nat → Nat} {i : Int32} {σ : DS} {τ : MS} {w : OS} {Inv : DS → MS → Prop} (C : Cx p l s m args meth c g A RL cL_law 9) (hX : va_X b L xs s s.heap) (hbl : b < s.heap.size) (hbA : ¬ A b) (hf : cells + 10 ≤ room_1.cells ∧ slots + 60 ≤ room_1.slots) (HA : AgW okD Inv (W_L_meanSize σ w ) (P_X7_meanSize τ ))
    (kk : ∀ (σ' : DS) (τ' : MS) (w' : OS), Inv σ' τ' → J p l e room_1 s m args below meth c g A 9 (cells + 10) (slots + 60) Q 3020 [(0, .ref b), (1, .ref (ad 0)), (2, .ref (bd 0)), (3, .ref o1), (4, .ref o2), (5, .int i)] [] (lz g ad bd o1 o2 σ' τ' w')) : J p l e room_1 s m args below meth c g A 9 cells slots Q 2955 [(0, .ref b), (1, .ref (ad 0)), (2, .ref (bd 0)), (3, .ref o1), (4, .ref o2), (5, .int i)] [] (lz g ad bd o1 o2 σ τ w) := by
  refine J.aload_n (i := 1) C dL_law_2955 rfl rfl ?_
  refine J.aload C dL_law_2956 rfl ?_
  obtain ⟨k, σ1, w1, r, τ1, hx, hy, hth, hok, hI⟩ := HA
  refine J.callSH C (sp_L_meanSize hl σ w  (.inl k, (σ1, w1)) hx) rfl kMl_L_329 mdL_meanSize ⟨(Nat.le_of_ble_eq_true rfl), (Nat.le_of_ble_eq_true rfl)⟩ rfl (Nat.le_of_ble_eq_true rfl) dL_law_2958 ⟨Nat.le_trans (Nat.add_le_add_left (Nat.le_of_ble_eq_true rfl : 1 ≤ 10) _) hf.1, Nat.le_trans (Nat.add_le_add_left (Nat.le_of_ble_eq_true rfl : 6 ≤ 60) _) hf.2⟩ (fun r9 u hu => ?_)
  obtain ⟨hu1, rfl⟩ := hu
  cases hu1
  refine J.istore C dL_law_2961 (by decide) ?_
  refine J.lw (lv' := [(0, .ref b), (1, .ref (ad 0)), (2, .ref (bd 0)), (3, .ref o1), (4, .ref o2), (5, .int i), (6, .int k)]) ⟨rfl, rfl, rfl, rfl, rfl, rfl, rfl, trivial⟩ ?_
  refine J.aload_n (i := 2) C dL_law_2963 rfl rfl ?_
  refine J.heq lz_mk ?_
  refine J.callVR (hp := mkh g bd (dk g ad σ1) (outs g o1 o2 w1)) C rfl (sp_X7_meanSize hl ) hy rfl kMl_L_332 mdX7_meanSize ⟨(Nat.le_of_ble_eq_true rfl), (Nat.le_of_ble_eq_true rfl)⟩ mk_0 rfl rfl (Nat.le_of_ble_eq_true rfl) dL_law_2964 ⟨Nat.le_trans (Nat.add_le_add_left (Nat.le_of_ble_eq_true rfl : 1 + 0 ≤ 10) _) hf.1, Nat.le_trans (Nat.add_le_add_left (Nat.le_of_ble_eq_true rfl : 6 + 0 ≤ 60) _) hf.2⟩ ?_
  refine J.dstore C dL_law_2967 (by decide) ?_
  refine J.lw (lv' := [(0, .ref b), (1, .ref (ad 0)), (2, .ref (bd 0)), (3, .ref o1), (4, .ref o2), (5, .int i), (6, .int k), (7, .double r)]) ⟨rfl, rfl, rfl, rfl, rfl, rfl, rfl, rfl, trivial⟩ ?_
  refine J.aload_n (i := 2) C dL_law_2969 rfl rfl ?_
  refine J.callVI C (sp_X7_thrown hl) rfl kMl_L_174 mdX7_thrown ⟨(Nat.le_of_ble_eq_true rfl), (Nat.le_of_ble_eq_true rfl)⟩ mk_0 rfl rfl (Nat.le_of_ble_eq_true rfl) dL_law_2970 ⟨Nat.le_trans (Nat.add_le_add_left (Nat.le_of_ble_eq_true rfl : 1 + 0 + 0 ≤ 10) _) hf.1, Nat.le_trans (Nat.add_le_add_left (Nat.le_of_ble_eq_true rfl : 6 + 0 + 0 ≤ 60) _) hf.2⟩ ?_
  refine J.heq lz_mk.symm ?_
  refine J.widen (k := cells + 10) (n := slots + 60) (Nat.add_le_add_left (Nat.le_of_ble_eq_true rfl : 1 + 0 + 0 ≤ 10) _) (Nat.add_le_add_left (Nat.le_of_ble_eq_true rfl : 6 + 0 + 0 ≤ 60) _) ?_
  refine J.iload C dL_law_2973 rfl ?_
  refine J.icmp_eq (tgt := 2980) C dL_law_2975 (by decide) (fun _ => ?_) (fun c9 => absurd hth c9)
  refine J.iload C dL_law_2980 rfl ?_
  refine J.if_ne (tgt := 3017) C dL_law_2982 (by decide) (fun _ => ?_) (fun hk => ?_)
  · refine J.goto (tgt := 3020) C dL_law_3017 (by decide) ?_
    exact J.lw (lv' := [(0, .ref b), (1, .ref (ad 0)), (2, .ref (bd 0)), (3, .ref o1), (4, .ref o2), (5, .int i)]) ⟨rfl, rfl, rfl, rfl, rfl, rfl, trivial⟩ (kk _ _ _ hI)
  · have hok := hok hk
    refine J.aload C dL_law_2985 rfl ?_
    refine J.iconst C 0 dL_law_2987 (by decide) ?_
    refine J.dald C (66 + ((R9 g bd τ1).length + 1)) lw_1 (show vp_in 0 1 by unfold vp_in; decide) dL_law_2988 ?_
    refine J.dload C dL_law_2989 rfl ?_
    refine J.dcmp C dL_law_2991 ?_
    refine J.if_eq (tgt := 3017) C dL_law_2992 (by decide) (fun _ => ?_) (fun c9 => absurd hok c9)
    refine J.goto (tgt := 3020) C dL_law_3017 (by decide) ?_
    exact J.lw (lv' := [(0, .ref b), (1, .ref (ad 0)), (2, .ref (bd 0)), (3, .ref o1), (4, .ref o2), (5, .int i)]) ⟨rfl, rfl, rfl, rfl, rfl, rfl, trivial⟩ (kk _ _ _ hI)
def AG0 (Inv : DS → MS → Prop) : Prop := ∀ (σ : DS) (τ : MS) (w : OS) (a1 : Int32), Inv σ τ → AgW okI Inv (W_L_letter σ w a1) (P_X7_letter τ a1)
def AG1 (Inv : DS → MS → Prop) : Prop := ∀ (σ : DS) (τ : MS) (w : OS), Inv σ τ → AgW okI Inv (W_L_falsum σ w ) (P_X7_falsum τ )
def AG2 (Inv : DS → MS → Prop) : Prop := ∀ (σ : DS) (τ : MS) (w : OS) (a1 : Int32), Inv σ τ → AgW okI Inv (W_L_negation σ w a1) (P_X7_negation τ a1)
def AG3 (Inv : DS → MS → Prop) : Prop := ∀ (σ : DS) (τ : MS) (w : OS) (a1 : Int32) (a2 : Int32), Inv σ τ → AgW okI Inv (W_L_conjunction σ w a1 a2) (P_X7_conjunction τ a1 a2)
def AG4 (Inv : DS → MS → Prop) : Prop := ∀ (σ : DS) (τ : MS) (w : OS) (a1 : Int32) (a2 : Int32), Inv σ τ → AgW okI Inv (W_L_disjunction σ w a1 a2) (P_X7_disjunction τ a1 a2)
def AG5 (Inv : DS → MS → Prop) : Prop := ∀ (σ : DS) (τ : MS) (w : OS) (a1 : Int32) (a2 : Int32), Inv σ τ → AgW okI Inv (W_L_implication σ w a1 a2) (P_X7_implication τ a1 a2)
def AG6 (Inv : DS → MS → Prop) : Prop := ∀ (σ : DS) (τ : MS) , Inv σ τ → AgV Inv (some (.inl (F_X6_formulas σ ), σ)) (P_X7_formulas τ )
def AG7 (Inv : DS → MS → Prop) : Prop := ∀ (σ : DS) (τ : MS) (w : OS) (a1 : Int32), Inv σ τ → AgW okI Inv (W_L_sizeOf σ w a1) (P_X7_sizeOf τ a1)
def AG8 (Inv : DS → MS → Prop) : Prop := ∀ (σ : DS) (τ : MS) (w : OS) (a1 : Int32) (a2 : Int32), Inv σ τ → AgW okI Inv (W_L_symbolAt σ w a1 a2) (P_X7_symbolAt τ a1 a2)
def AG9 (Inv : DS → MS → Prop) : Prop := ∀ (σ : DS) (τ : MS) (w : OS) (a1 : Int32) (a2 : Int32), Inv σ τ → AgW okI Inv (W_L_bind σ w a1 a2) (P_X7_bind τ a1 a2)
def AG10 (Inv : DS → MS → Prop) : Prop := ∀ (σ : DS) (τ : MS) (w : OS) (a1 : Int32), Inv σ τ → AgW okI Inv (W_L_premise σ w a1) (P_X7_premise τ a1)
def AG11 (Inv : DS → MS → Prop) : Prop := ∀ (σ : DS) (τ : MS) (w : OS) (a1 : Int32), Inv σ τ → AgW okI Inv (W_L_assume σ w a1) (P_X7_assume τ a1)
def AG12 (Inv : DS → MS → Prop) : Prop := ∀ (σ : DS) (τ : MS) (w : OS), Inv σ τ → AgW okI Inv (W_L_closeBox σ w ) (P_X7_closeBox τ )
def AG13 (Inv : DS → MS → Prop) : Prop := ∀ (σ : DS) (τ : MS) (w : OS) (a1 : Int32), Inv σ τ → AgW okI Inv (W_L_repeat σ w a1) (P_X7_repeat τ a1)
def AG14 (Inv : DS → MS → Prop) : Prop := ∀ (σ : DS) (τ : MS) (w : OS) (a1 : Int32) (a2 : Int32), Inv σ τ → AgW okI Inv (W_L_makeConjunction σ w a1 a2) (P_X7_makeConjunction τ a1 a2)
def AG15 (Inv : DS → MS → Prop) : Prop := ∀ (σ : DS) (τ : MS) (w : OS) (a1 : Int32) (a2 : Int32), Inv σ τ → AgW okI Inv (W_L_useConjunction σ w a1 a2) (P_X7_useConjunction τ a1 a2)
def AG16 (Inv : DS → MS → Prop) : Prop := ∀ (σ : DS) (τ : MS) (w : OS) (a1 : Int32) (a2 : Int32) (a3 : Int32), Inv σ τ → AgW okI Inv (W_L_makeDisjunction σ w a1 a2 a3) (P_X7_makeDisjunction τ a1 a2 a3)
def AG17 (Inv : DS → MS → Prop) : Prop := ∀ (σ : DS) (τ : MS) (w : OS) (a1 : Int32) (a2 : Int32) (a3 : Int32), Inv σ τ → AgW okI Inv (W_L_useDisjunction σ w a1 a2 a3) (P_X7_useDisjunction τ a1 a2 a3)
def AG18 (Inv : DS → MS → Prop) : Prop := ∀ (σ : DS) (τ : MS) (w : OS) (a1 : Int32), Inv σ τ → AgW okI Inv (W_L_makeImplication σ w a1) (P_X7_makeImplication τ a1)
def AG19 (Inv : DS → MS → Prop) : Prop := ∀ (σ : DS) (τ : MS) (w : OS) (a1 : Int32) (a2 : Int32), Inv σ τ → AgW okI Inv (W_L_useImplication σ w a1 a2) (P_X7_useImplication τ a1 a2)
def AG20 (Inv : DS → MS → Prop) : Prop := ∀ (σ : DS) (τ : MS) (w : OS) (a1 : Int32), Inv σ τ → AgW okI Inv (W_L_makeNegation σ w a1) (P_X7_makeNegation τ a1)
def AG21 (Inv : DS → MS → Prop) : Prop := ∀ (σ : DS) (τ : MS) (w : OS) (a1 : Int32) (a2 : Int32), Inv σ τ → AgW okI Inv (W_L_useNegation σ w a1 a2) (P_X7_useNegation τ a1 a2)
def AG22 (Inv : DS → MS → Prop) : Prop := ∀ (σ : DS) (τ : MS) (w : OS) (a1 : Int32) (a2 : Int32), Inv σ τ → AgW okI Inv (W_L_fromFalsum σ w a1 a2) (P_X7_fromFalsum τ a1 a2)
def AG23 (Inv : DS → MS → Prop) : Prop := ∀ (σ : DS) (τ : MS) (w : OS) (a1 : Int32), Inv σ τ → AgW okI Inv (W_L_doubleNegation σ w a1) (P_X7_doubleNegation τ a1)
def AG24 (Inv : DS → MS → Prop) : Prop := ∀ (σ : DS) (τ : MS) , Inv σ τ → AgV Inv (P_X6_newProof σ ) (P_X7_newProof τ )
def AG25 (Inv : DS → MS → Prop) : Prop := ∀ (σ : DS) (τ : MS) (w : OS), Inv σ τ → AgW okI Inv (W_L_keepLemma σ w ) (P_X7_keepLemma τ )
def AG26 (Inv : DS → MS → Prop) : Prop := ∀ (σ : DS) (τ : MS) (w : OS) (a1 : Int32) (a2 : Int32) (a3 : Int32), Inv σ τ → AgW okI Inv (W_L_useLemma σ w a1 a2 a3) (P_X7_useLemma τ a1 a2 a3)
def AG27 (Inv : DS → MS → Prop) : Prop := ∀ (σ : DS) (τ : MS) , Inv σ τ → AgV Inv (some (.inl (F_X6_lemmas σ ), σ)) (P_X7_lemmas τ )
def AG28 (Inv : DS → MS → Prop) : Prop := ∀ (σ : DS) (τ : MS) (w : OS) (a1 : Int32), Inv σ τ → AgW okI Inv (W_L_conclusionOf σ w a1) (P_X7_conclusionOf τ a1)
def AG29 (Inv : DS → MS → Prop) : Prop := ∀ (σ : DS) (τ : MS) , Inv σ τ → AgV Inv (some (.inl (F_X6_lines σ ), σ)) (P_X7_lines τ )
def AG30 (Inv : DS → MS → Prop) : Prop := ∀ (σ : DS) (τ : MS) (w : OS) (a1 : Int32), Inv σ τ → AgW okI Inv (W_L_formulaOf σ w a1) (P_X7_formulaOf τ a1)
def AG31 (Inv : DS → MS → Prop) : Prop := ∀ (σ : DS) (τ : MS) (w : OS) (a1 : Int32), Inv σ τ → AgW okI Inv (W_L_ruleOf σ w a1) (P_X7_ruleOf τ a1)
def AG32 (Inv : DS → MS → Prop) : Prop := ∀ (σ : DS) (τ : MS) (w : OS) (a1 : Int32), Inv σ τ → AgW okI Inv (W_L_depthOf σ w a1) (P_X7_depthOf τ a1)
def AG33 (Inv : DS → MS → Prop) : Prop := ∀ (σ : DS) (τ : MS) (w : OS) (a1 : Int32), Inv σ τ → AgW okZ Inv (W_L_canCite σ w a1) (P_X7_canCite τ a1)
def AG34 (Inv : DS → MS → Prop) : Prop := ∀ (σ : DS) (τ : MS) , Inv σ τ → AgV Inv (some (.inl (F_X6_boxes σ ), σ)) (P_X7_boxes τ )
def AG35 (Inv : DS → MS → Prop) : Prop := ∀ (σ : DS) (τ : MS) (w : OS) (a1 : Int32), Inv σ τ → AgW okZ Inv (W_L_canCiteBox σ w a1) (P_X7_canCiteBox τ a1)
def AG36 (Inv : DS → MS → Prop) : Prop := ∀ (σ : DS) (τ : MS) (w : OS) (a1 : Int32), Inv σ τ → AgW okI Inv (W_L_resultOf σ w a1) (P_X7_resultOf τ a1)
def AG37 (Inv : DS → MS → Prop) : Prop := ∀ (σ : DS) (τ : MS) (w : OS), Inv σ τ → AgW okI Inv (W_L_needed σ w ) (P_X7_needed τ )
def AG38 (Inv : DS → MS → Prop) : Prop := ∀ (σ : DS) (τ : MS) (w : OS) (a1 : Int32), Inv σ τ → AgW okI Inv (W_L_distance σ w a1) (P_X7_distance τ a1)
def AG39 (Inv : DS → MS → Prop) : Prop := ∀ (σ : DS) (τ : MS) (w : OS) (a1 : Int32), Inv σ τ → AgW okI Inv (W_L_distanceByRounds σ w a1) (P_X7_distanceByRounds τ a1)
def AG40 (Inv : DS → MS → Prop) : Prop := ∀ (σ : DS) (τ : MS) (w : OS) (a1 : Int32), Inv σ τ → AgW okI Inv (W_L_normalStep σ w a1) (P_X7_normalStep τ a1)
def AG41 (Inv : DS → MS → Prop) : Prop := ∀ (σ : DS) (τ : MS) (w : OS) (a1 : Int32), Inv σ τ → AgW okI Inv (W_L_normalSteps σ w a1) (P_X7_normalSteps τ a1)
def AG42 (Inv : DS → MS → Prop) : Prop := ∀ (σ : DS) (τ : MS) (w : OS) (a1 : Int32), Inv σ τ → AgW okI Inv (W_L_normalForm σ w a1) (P_X7_normalForm τ a1)
def AG43 (Inv : DS → MS → Prop) : Prop := ∀ (σ : DS) (τ : MS) (w : OS) (a1 : Int32), Inv σ τ → AgW okI Inv (W_L_models σ w a1) (P_X7_models τ a1)
def AG44 (Inv : DS → MS → Prop) : Prop := ∀ (σ : DS) (τ : MS) (w : OS) (a1 : Int32), Inv σ τ → AgW okI Inv (W_L_modelsByRows σ w a1) (P_X7_modelsByRows τ a1)
def AG45 (Inv : DS → MS → Prop) : Prop := ∀ (σ : DS) (τ : MS) (w : OS) (a1 : Int32), Inv σ τ → AgW okZ Inv (W_L_follows σ w a1) (P_X7_follows τ a1)
def AG46 (Inv : DS → MS → Prop) : Prop := ∀ (σ : DS) (τ : MS) (w : OS) (a1 : Int32), Inv σ τ → AgW okZ Inv (W_L_isSound σ w a1) (P_X7_isSound τ a1)
def AG47 (Inv : DS → MS → Prop) : Prop := ∀ (σ : DS) (τ : MS) (w : OS) (a1 : Int32), Inv σ τ → AgW okF Inv (W_L_share σ w a1) (P_X7_share τ a1)
def AG48 (Inv : DS → MS → Prop) : Prop := ∀ (σ : DS) (τ : MS) (w : OS), Inv σ τ → AgW okD Inv (W_L_meanSize σ w ) (P_X7_meanSize τ )
/-- BOTH SIDES ANSWER ALIKE, call by call -/
def AG (Inv : DS → MS → Prop) : Prop := AG0 Inv ∧ AG1 Inv ∧ AG2 Inv ∧ AG3 Inv ∧ AG4 Inv ∧ AG5 Inv ∧ AG6 Inv ∧ AG7 Inv ∧ AG8 Inv ∧ AG9 Inv ∧ AG10 Inv ∧ AG11 Inv ∧ AG12 Inv ∧ AG13 Inv ∧ AG14 Inv ∧ AG15 Inv ∧ AG16 Inv ∧ AG17 Inv ∧ AG18 Inv ∧ AG19 Inv ∧ AG20 Inv ∧ AG21 Inv ∧ AG22 Inv ∧ AG23 Inv ∧ AG24 Inv ∧ AG25 Inv ∧ AG26 Inv ∧ AG27 Inv ∧ AG28 Inv ∧ AG29 Inv ∧ AG30 Inv ∧ AG31 Inv ∧ AG32 Inv ∧ AG33 Inv ∧ AG34 Inv ∧ AG35 Inv ∧ AG36 Inv ∧ AG37 Inv ∧ AG38 Inv ∧ AG39 Inv ∧ AG40 Inv ∧ AG41 Inv ∧ AG42 Inv ∧ AG43 Inv ∧ AG44 Inv ∧ AG45 Inv ∧ AG46 Inv ∧ AG47 Inv ∧ AG48 Inv
