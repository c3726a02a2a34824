/-! WHAT ALIKE MEANS -/
def P_X6_conclusionOf (σ : DS) (a1 : Int32) : Res DS Int32 := (bd (P_X6_requireLemma σ a1) fun _ s2 => (some (.inl (F_X1_conclusion s2 a1), s2)))
abbrev OS : Type := (Nat → Int64) × (Nat → UInt64)
abbrev LWS : Type := DS × OS
/-- a wrapper's text: what the class's method comes to, by number; the answer goes into the row -/
def wrT {ρ : Type} (cs : List (String × Int32)) (st : ρ → OS → Option OS) (x : Res DS ρ) (w : OS) : Res LWS Int32 := match x with
  | none => none
  | some (.inl r, s) => match st r w with
    | none => none
    | some w' => some (.inl 0, (s, w'))
  | some (.inr E, s) => match cs.lookup E with
    | none => none
    | some k => some (.inl k, (s, w))
def stI (r : Int32) (w : OS) : Option OS := some (vp_updL w.1 (0 : Int32).toNatClampNeg r.toInt64, w.2)
def stZ (r : Int32) (w : OS) : Option OS := some (vp_updL w.1 (0 : Int32).toNatClampNeg (if r = 0 then 0 else 1), w.2)
def stF (r : UInt32) (w : OS) : Option OS := if FP.f2d r &&& 0x7fffffffffffffff ≤ (0x7ff0000000000000 : UInt64) then some (w.1, vf_upd w.2 (0 : Int32).toNatClampNeg (FP.f2d r)) else none
def stD (r : UInt64) (w : OS) : Option OS := some (w.1, vf_upd w.2 (0 : Int32).toNatClampNeg r)
def W_L_letter (σ : DS) (w : OS) (a1 : Int32) : Res LWS Int32 := wrT [("java/lang/IllegalArgumentException", 1), ("java/lang/IllegalStateException", 2)] stI (P_X6_letter σ a1) w
def W_L_falsum (σ : DS) (w : OS)  : Res LWS Int32 := wrT [("java/lang/IllegalStateException", 1)] stI (P_X6_falsum σ ) w
def W_L_negation (σ : DS) (w : OS) (a1 : Int32) : Res LWS Int32 := wrT [("java/lang/IndexOutOfBoundsException", 1), ("java/lang/IllegalStateException", 2)] stI (P_X6_negation σ a1) w
def W_L_conjunction (σ : DS) (w : OS) (a1 : Int32) (a2 : Int32) : Res LWS Int32 := wrT [("java/lang/IndexOutOfBoundsException", 1), ("java/lang/IllegalStateException", 2)] stI (P_X6_conjunction σ a1 a2) w
def W_L_disjunction (σ : DS) (w : OS) (a1 : Int32) (a2 : Int32) : Res LWS Int32 := wrT [("java/lang/IndexOutOfBoundsException", 1), ("java/lang/IllegalStateException", 2)] stI (P_X6_disjunction σ a1 a2) w
def W_L_implication (σ : DS) (w : OS) (a1 : Int32) (a2 : Int32) : Res LWS Int32 := wrT [("java/lang/IndexOutOfBoundsException", 1), ("java/lang/IllegalStateException", 2)] stI (P_X6_implication σ a1 a2) w
def W_L_sizeOf (σ : DS) (w : OS) (a1 : Int32) : Res LWS Int32 := wrT [("java/lang/IndexOutOfBoundsException", 1)] stI (P_X6_sizeOf σ a1) w
def W_L_symbolAt (σ : DS) (w : OS) (a1 : Int32) (a2 : Int32) : Res LWS Int32 := wrT [("java/lang/IndexOutOfBoundsException", 1), ("java/util/NoSuchElementException", 2)] stI (P_X6_symbolAt σ a1 a2) w
def W_L_bind (σ : DS) (w : OS) (a1 : Int32) (a2 : Int32) : Res LWS Int32 := wrT [("java/lang/IllegalArgumentException", 1), ("java/lang/IndexOutOfBoundsException", 2)] stI (P_X6_bind σ a1 a2) w
def W_L_premise (σ : DS) (w : OS) (a1 : Int32) : Res LWS Int32 := wrT [("java/lang/IndexOutOfBoundsException", 1), ("java/lang/UnsupportedOperationException", 2), ("java/lang/IllegalStateException", 3)] stI (P_X6_premise σ a1) w
def W_L_assume (σ : DS) (w : OS) (a1 : Int32) : Res LWS Int32 := wrT [("java/lang/IndexOutOfBoundsException", 1), ("java/lang/IllegalStateException", 2)] stI (P_X6_assume σ a1) w
def W_L_closeBox (σ : DS) (w : OS)  : Res LWS Int32 := wrT [("java/lang/IllegalStateException", 1)] stI (P_X6_closeBox σ ) w
def W_L_repeat (σ : DS) (w : OS) (a1 : Int32) : Res LWS Int32 := wrT [("java/lang/IndexOutOfBoundsException", 1), ("java/util/NoSuchElementException", 2), ("java/lang/IllegalStateException", 3)] stI (P_X6_repeat σ a1) w
def W_L_makeConjunction (σ : DS) (w : OS) (a1 : Int32) (a2 : Int32) : Res LWS Int32 := wrT [("java/lang/IndexOutOfBoundsException", 1), ("java/util/NoSuchElementException", 2), ("java/lang/IllegalStateException", 3)] stI (P_X6_makeConjunction σ a1 a2) w
def W_L_useConjunction (σ : DS) (w : OS) (a1 : Int32) (a2 : Int32) : Res LWS Int32 := wrT [("java/lang/IndexOutOfBoundsException", 1), ("java/util/NoSuchElementException", 2), ("java/lang/UnsupportedOperationException", 3), ("java/lang/IllegalStateException", 4)] stI (P_X6_useConjunction σ a1 a2) w
def W_L_makeDisjunction (σ : DS) (w : OS) (a1 : Int32) (a2 : Int32) (a3 : Int32) : Res LWS Int32 := wrT [("java/lang/IndexOutOfBoundsException", 1), ("java/util/NoSuchElementException", 2), ("java/lang/IllegalStateException", 3)] stI (P_X6_makeDisjunction σ a1 a2 a3) w
def W_L_useDisjunction (σ : DS) (w : OS) (a1 : Int32) (a2 : Int32) (a3 : Int32) : Res LWS Int32 := wrT [("java/lang/IndexOutOfBoundsException", 1), ("java/util/NoSuchElementException", 2), ("java/lang/UnsupportedOperationException", 3), ("java/lang/IllegalStateException", 4)] stI (P_X6_useDisjunction σ a1 a2 a3) w
def W_L_makeImplication (σ : DS) (w : OS) (a1 : Int32) : Res LWS Int32 := wrT [("java/lang/IndexOutOfBoundsException", 1), ("java/util/NoSuchElementException", 2), ("java/lang/IllegalStateException", 3)] stI (P_X6_makeImplication σ a1) w
def W_L_useImplication (σ : DS) (w : OS) (a1 : Int32) (a2 : Int32) : Res LWS Int32 := wrT [("java/lang/IndexOutOfBoundsException", 1), ("java/util/NoSuchElementException", 2), ("java/lang/UnsupportedOperationException", 3), ("java/lang/IllegalStateException", 4)] stI (P_X6_useImplication σ a1 a2) w
def W_L_makeNegation (σ : DS) (w : OS) (a1 : Int32) : Res LWS Int32 := wrT [("java/lang/IndexOutOfBoundsException", 1), ("java/util/NoSuchElementException", 2), ("java/lang/UnsupportedOperationException", 3), ("java/lang/IllegalStateException", 4)] stI (P_X6_makeNegation σ a1) w
def W_L_useNegation (σ : DS) (w : OS) (a1 : Int32) (a2 : Int32) : Res LWS Int32 := wrT [("java/lang/IndexOutOfBoundsException", 1), ("java/util/NoSuchElementException", 2), ("java/lang/UnsupportedOperationException", 3), ("java/lang/IllegalStateException", 4)] stI (P_X6_useNegation σ a1 a2) w
def W_L_fromFalsum (σ : DS) (w : OS) (a1 : Int32) (a2 : Int32) : Res LWS Int32 := wrT [("java/lang/IndexOutOfBoundsException", 1), ("java/util/NoSuchElementException", 2), ("java/lang/UnsupportedOperationException", 3), ("java/lang/IllegalStateException", 4)] stI (P_X6_fromFalsum σ a1 a2) w
def W_L_doubleNegation (σ : DS) (w : OS) (a1 : Int32) : Res LWS Int32 := wrT [("java/lang/IndexOutOfBoundsException", 1), ("java/util/NoSuchElementException", 2), ("java/lang/UnsupportedOperationException", 3), ("java/lang/IllegalStateException", 4)] stI (P_X6_doubleNegation σ a1) w
def W_L_keepLemma (σ : DS) (w : OS)  : Res LWS Int32 := wrT [("java/util/NoSuchElementException", 1), ("java/lang/UnsupportedOperationException", 2), ("java/lang/IllegalStateException", 3)] stI (P_X6_keepLemma σ ) w
def W_L_useLemma (σ : DS) (w : OS) (a1 : Int32) (a2 : Int32) (a3 : Int32) : Res LWS Int32 := wrT [("java/lang/IndexOutOfBoundsException", 1), ("java/util/NoSuchElementException", 2), ("java/lang/UnsupportedOperationException", 3), ("java/lang/IllegalStateException", 4)] stI (P_X6_useLemma σ a1 a2 a3) w
def W_L_conclusionOf (σ : DS) (w : OS) (a1 : Int32) : Res LWS Int32 := wrT [("java/lang/IndexOutOfBoundsException", 1)] stI (P_X6_conclusionOf σ a1) w
def W_L_formulaOf (σ : DS) (w : OS) (a1 : Int32) : Res LWS Int32 := wrT [("java/lang/IndexOutOfBoundsException", 1)] stI (P_X6_formulaOf σ a1) w
def W_L_ruleOf (σ : DS) (w : OS) (a1 : Int32) : Res LWS Int32 := wrT [("java/lang/IndexOutOfBoundsException", 1)] stI (P_X6_ruleOf σ a1) w
def W_L_depthOf (σ : DS) (w : OS) (a1 : Int32) : Res LWS Int32 := wrT [("java/lang/IndexOutOfBoundsException", 1)] stI (P_X6_depthOf σ a1) w
def W_L_canCite (σ : DS) (w : OS) (a1 : Int32) : Res LWS Int32 := wrT [("java/lang/IndexOutOfBoundsException", 1)] stZ (P_X6_canCite σ a1) w
def W_L_canCiteBox (σ : DS) (w : OS) (a1 : Int32) : Res LWS Int32 := wrT [("java/lang/IndexOutOfBoundsException", 1)] stZ (P_X6_canCiteBox σ a1) w
def W_L_resultOf (σ : DS) (w : OS) (a1 : Int32) : Res LWS Int32 := wrT [("java/lang/IndexOutOfBoundsException", 1)] stI (P_X6_resultOf σ a1) w
def W_L_needed (σ : DS) (w : OS)  : Res LWS Int32 := wrT [("java/util/NoSuchElementException", 1)] stI (P_X6_needed σ ) w
def W_L_distance (σ : DS) (w : OS) (a1 : Int32) : Res LWS Int32 := wrT [("java/lang/IndexOutOfBoundsException", 1), ("java/util/NoSuchElementException", 2)] stI (P_X6_distance σ a1) w
def W_L_distanceByRounds (σ : DS) (w : OS) (a1 : Int32) : Res LWS Int32 := wrT [("java/lang/IndexOutOfBoundsException", 1), ("java/util/NoSuchElementException", 2)] stI (P_X6_distanceByRounds σ a1) w
def W_L_normalStep (σ : DS) (w : OS) (a1 : Int32) : Res LWS Int32 := wrT [("java/lang/IndexOutOfBoundsException", 1), ("java/util/NoSuchElementException", 2), ("java/lang/IllegalStateException", 3)] stI (P_X6_normalStep σ a1) w
def W_L_normalSteps (σ : DS) (w : OS) (a1 : Int32) : Res LWS Int32 := wrT [("java/lang/IndexOutOfBoundsException", 1)] stI (P_X6_normalSteps σ a1) w
def W_L_normalForm (σ : DS) (w : OS) (a1 : Int32) : Res LWS Int32 := wrT [("java/lang/IndexOutOfBoundsException", 1), ("java/lang/IllegalStateException", 2)] stI (P_X6_normalForm σ a1) w
def W_L_models (σ : DS) (w : OS) (a1 : Int32) : Res LWS Int32 := wrT [("java/lang/IndexOutOfBoundsException", 1)] stI (P_X6_models σ a1) w
def W_L_modelsByRows (σ : DS) (w : OS) (a1 : Int32) : Res LWS Int32 := wrT [("java/lang/IndexOutOfBoundsException", 1)] stI (P_X6_modelsByRows σ a1) w
def W_L_follows (σ : DS) (w : OS) (a1 : Int32) : Res LWS Int32 := wrT [("java/lang/IndexOutOfBoundsException", 1)] stZ (P_X6_follows σ a1) w
def W_L_isSound (σ : DS) (w : OS) (a1 : Int32) : Res LWS Int32 := wrT [("java/lang/IndexOutOfBoundsException", 1)] stZ (P_X6_isSound σ a1) w
def W_L_share (σ : DS) (w : OS) (a1 : Int32) : Res LWS Int32 := wrT [("java/lang/IndexOutOfBoundsException", 1)] stF (P_X6_share σ a1) w
def W_L_meanSize (σ : DS) (w : OS)  : Res LWS Int32 := wrT [("java/lang/ArithmeticException", 1)] stD (P_X6_meanSize σ ) w
def okI (w : OS) (r : Int32) : Prop := w.1 (0 : Int32).toNatClampNeg = r.toInt64
def okZ (w : OS) (r : Int32) : Prop := w.1 (0 : Int32).toNatClampNeg = if r = 0 then 0 else 1
def okF (w : OS) (r : UInt32) : Prop := vf_n64 (FP.f2d r) ∧ Op.cmpValue (FP.dcmp (w.2 (0 : Int32).toNatClampNeg) (FP.f2d r)) .l = 0
def okD (w : OS) (r : UInt64) : Prop := Op.cmpValue (FP.dcmp (w.2 (0 : Int32).toNatClampNeg) r) .l = 0
/-- both sides answer alike: the number of what was thrown, and, if nothing was, the answer -/
def AgW {ρ : Type} (ok : OS → ρ → Prop) (Inv : DS → MS → Prop) (x : Res LWS Int32) (y : Res MS ρ) : Prop := ∃ (k : Int32) (σ : DS) (w : OS) (r : ρ) (τ : MS), x = some (.inl k, (σ, w)) ∧ y = some (.inl r, τ) ∧ F_X7_thrown τ = k ∧ (k = 0 → ok w r) ∧ Inv σ τ
def AgV (Inv : DS → MS → Prop) (x : Res DS Int32) (y : Res MS Int32) : Prop := ∃ (σ : DS) (r : Int32) (τ : MS), x = some (.inl r, σ) ∧ y = some (.inl r, τ) ∧ Inv σ τ
def AG0 (Inv : DS → MS → Prop) : Prop := ∀ (σ : DS) (τ : MS) (w : OS) (a1 : Int32), Inv σ τ → AgW okI Inv (W_L_letter σ w a1) (P_X7_letter τ a1)
def AG1 (Inv : DS → MS → Prop) : Prop := ∀ (σ : DS) (τ : MS) (w : OS), Inv σ τ → AgW okI Inv (W_L_falsum σ w ) (P_X7_falsum τ )
def AG2 (Inv : DS → MS → Prop) : Prop := ∀ (σ : DS) (τ : MS) (w : OS) (a1 : Int32), Inv σ τ → AgW okI Inv (W_L_negation σ w a1) (P_X7_negation τ a1)
def AG3 (Inv : DS → MS → Prop) : Prop := ∀ (σ : DS) (τ : MS) (w : OS) (a1 : Int32) (a2 : Int32), Inv σ τ → AgW okI Inv (W_L_conjunction σ w a1 a2) (P_X7_conjunction τ a1 a2)
def AG4 (Inv : DS → MS → Prop) : Prop := ∀ (σ : DS) (τ : MS) (w : OS) (a1 : Int32) (a2 : Int32), Inv σ τ → AgW okI Inv (W_L_disjunction σ w a1 a2) (P_X7_disjunction τ a1 a2)
def AG5 (Inv : DS → MS → Prop) : Prop := ∀ (σ : DS) (τ : MS) (w : OS) (a1 : Int32) (a2 : Int32), Inv σ τ → AgW okI Inv (W_L_implication σ w a1 a2) (P_X7_implication τ a1 a2)
def AG6 (Inv : DS → MS → Prop) : Prop := ∀ (σ : DS) (τ : MS) , Inv σ τ → AgV Inv (some (.inl (F_X6_formulas σ ), σ)) (P_X7_formulas τ )
def AG7 (Inv : DS → MS → Prop) : Prop := ∀ (σ : DS) (τ : MS) (w : OS) (a1 : Int32), Inv σ τ → AgW okI Inv (W_L_sizeOf σ w a1) (P_X7_sizeOf τ a1)
def AG8 (Inv : DS → MS → Prop) : Prop := ∀ (σ : DS) (τ : MS) (w : OS) (a1 : Int32) (a2 : Int32), Inv σ τ → AgW okI Inv (W_L_symbolAt σ w a1 a2) (P_X7_symbolAt τ a1 a2)
def AG9 (Inv : DS → MS → Prop) : Prop := ∀ (σ : DS) (τ : MS) (w : OS) (a1 : Int32) (a2 : Int32), Inv σ τ → AgW okI Inv (W_L_bind σ w a1 a2) (P_X7_bind τ a1 a2)
def AG10 (Inv : DS → MS → Prop) : Prop := ∀ (σ : DS) (τ : MS) (w : OS) (a1 : Int32), Inv σ τ → AgW okI Inv (W_L_premise σ w a1) (P_X7_premise τ a1)
def AG11 (Inv : DS → MS → Prop) : Prop := ∀ (σ : DS) (τ : MS) (w : OS) (a1 : Int32), Inv σ τ → AgW okI Inv (W_L_assume σ w a1) (P_X7_assume τ a1)
def AG12 (Inv : DS → MS → Prop) : Prop := ∀ (σ : DS) (τ : MS) (w : OS), Inv σ τ → AgW okI Inv (W_L_closeBox σ w ) (P_X7_closeBox τ )
def AG13 (Inv : DS → MS → Prop) : Prop := ∀ (σ : DS) (τ : MS) (w : OS) (a1 : Int32), Inv σ τ → AgW okI Inv (W_L_repeat σ w a1) (P_X7_repeat τ a1)
def AG14 (Inv : DS → MS → Prop) : Prop := ∀ (σ : DS) (τ : MS) (w : OS) (a1 : Int32) (a2 : Int32), Inv σ τ → AgW okI Inv (W_L_makeConjunction σ w a1 a2) (P_X7_makeConjunction τ a1 a2)
def AG15 (Inv : DS → MS → Prop) : Prop := ∀ (σ : DS) (τ : MS) (w : OS) (a1 : Int32) (a2 : Int32), Inv σ τ → AgW okI Inv (W_L_useConjunction σ w a1 a2) (P_X7_useConjunction τ a1 a2)
def AG16 (Inv : DS → MS → Prop) : Prop := ∀ (σ : DS) (τ : MS) (w : OS) (a1 : Int32) (a2 : Int32) (a3 : Int32), Inv σ τ → AgW okI Inv (W_L_makeDisjunction σ w a1 a2 a3) (P_X7_makeDisjunction τ a1 a2 a3)
def AG17 (Inv : DS → MS → Prop) : Prop := ∀ (σ : DS) (τ : MS) (w : OS) (a1 : Int32) (a2 : Int32) (a3 : Int32), Inv σ τ → AgW okI Inv (W_L_useDisjunction σ w a1 a2 a3) (P_X7_useDisjunction τ a1 a2 a3)
def AG18 (Inv : DS → MS → Prop) : Prop := ∀ (σ : DS) (τ : MS) (w : OS) (a1 : Int32), Inv σ τ → AgW okI Inv (W_L_makeImplication σ w a1) (P_X7_makeImplication τ a1)
def AG19 (Inv : DS → MS → Prop) : Prop := ∀ (σ : DS) (τ : MS) (w : OS) (a1 : Int32) (a2 : Int32), Inv σ τ → AgW okI Inv (W_L_useImplication σ w a1 a2) (P_X7_useImplication τ a1 a2)
def AG20 (Inv : DS → MS → Prop) : Prop := ∀ (σ : DS) (τ : MS) (w : OS) (a1 : Int32), Inv σ τ → AgW okI Inv (W_L_makeNegation σ w a1) (P_X7_makeNegation τ a1)
def AG21 (Inv : DS → MS → Prop) : Prop := ∀ (σ : DS) (τ : MS) (w : OS) (a1 : Int32) (a2 : Int32), Inv σ τ → AgW okI Inv (W_L_useNegation σ w a1 a2) (P_X7_useNegation τ a1 a2)
def AG22 (Inv : DS → MS → Prop) : Prop := ∀ (σ : DS) (τ : MS) (w : OS) (a1 : Int32) (a2 : Int32), Inv σ τ → AgW okI Inv (W_L_fromFalsum σ w a1 a2) (P_X7_fromFalsum τ a1 a2)
def AG23 (Inv : DS → MS → Prop) : Prop := ∀ (σ : DS) (τ : MS) (w : OS) (a1 : Int32), Inv σ τ → AgW okI Inv (W_L_doubleNegation σ w a1) (P_X7_doubleNegation τ a1)
def AG24 (Inv : DS → MS → Prop) : Prop := ∀ (σ : DS) (τ : MS) , Inv σ τ → AgV Inv (P_X6_newProof σ ) (P_X7_newProof τ )
def AG25 (Inv : DS → MS → Prop) : Prop := ∀ (σ : DS) (τ : MS) (w : OS), Inv σ τ → AgW okI Inv (W_L_keepLemma σ w ) (P_X7_keepLemma τ )
def AG26 (Inv : DS → MS → Prop) : Prop := ∀ (σ : DS) (τ : MS) (w : OS) (a1 : Int32) (a2 : Int32) (a3 : Int32), Inv σ τ → AgW okI Inv (W_L_useLemma σ w a1 a2 a3) (P_X7_useLemma τ a1 a2 a3)
def AG27 (Inv : DS → MS → Prop) : Prop := ∀ (σ : DS) (τ : MS) , Inv σ τ → AgV Inv (some (.inl (F_X6_lemmas σ ), σ)) (P_X7_lemmas τ )
def AG28 (Inv : DS → MS → Prop) : Prop := ∀ (σ : DS) (τ : MS) (w : OS) (a1 : Int32), Inv σ τ → AgW okI Inv (W_L_conclusionOf σ w a1) (P_X7_conclusionOf τ a1)
def AG29 (Inv : DS → MS → Prop) : Prop := ∀ (σ : DS) (τ : MS) , Inv σ τ → AgV Inv (some (.inl (F_X6_lines σ ), σ)) (P_X7_lines τ )
def AG30 (Inv : DS → MS → Prop) : Prop := ∀ (σ : DS) (τ : MS) (w : OS) (a1 : Int32), Inv σ τ → AgW okI Inv (W_L_formulaOf σ w a1) (P_X7_formulaOf τ a1)
def AG31 (Inv : DS → MS → Prop) : Prop := ∀ (σ : DS) (τ : MS) (w : OS) (a1 : Int32), Inv σ τ → AgW okI Inv (W_L_ruleOf σ w a1) (P_X7_ruleOf τ a1)
def AG32 (Inv : DS → MS → Prop) : Prop := ∀ (σ : DS) (τ : MS) (w : OS) (a1 : Int32), Inv σ τ → AgW okI Inv (W_L_depthOf σ w a1) (P_X7_depthOf τ a1)
def AG33 (Inv : DS → MS → Prop) : Prop := ∀ (σ : DS) (τ : MS) (w : OS) (a1 : Int32), Inv σ τ → AgW okZ Inv (W_L_canCite σ w a1) (P_X7_canCite τ a1)
def AG34 (Inv : DS → MS → Prop) : Prop := ∀ (σ : DS) (τ : MS) , Inv σ τ → AgV Inv (some (.inl (F_X6_boxes σ ), σ)) (P_X7_boxes τ )
def AG35 (Inv : DS → MS → Prop) : Prop := ∀ (σ : DS) (τ : MS) (w : OS) (a1 : Int32), Inv σ τ → AgW okZ Inv (W_L_canCiteBox σ w a1) (P_X7_canCiteBox τ a1)
def AG36 (Inv : DS → MS → Prop) : Prop := ∀ (σ : DS) (τ : MS) (w : OS) (a1 : Int32), Inv σ τ → AgW okI Inv (W_L_resultOf σ w a1) (P_X7_resultOf τ a1)
def AG37 (Inv : DS → MS → Prop) : Prop := ∀ (σ : DS) (τ : MS) (w : OS), Inv σ τ → AgW okI Inv (W_L_needed σ w ) (P_X7_needed τ )
def AG38 (Inv : DS → MS → Prop) : Prop := ∀ (σ : DS) (τ : MS) (w : OS) (a1 : Int32), Inv σ τ → AgW okI Inv (W_L_distance σ w a1) (P_X7_distance τ a1)
def AG39 (Inv : DS → MS → Prop) : Prop := ∀ (σ : DS) (τ : MS) (w : OS) (a1 : Int32), Inv σ τ → AgW okI Inv (W_L_distanceByRounds σ w a1) (P_X7_distanceByRounds τ a1)
def AG40 (Inv : DS → MS → Prop) : Prop := ∀ (σ : DS) (τ : MS) (w : OS) (a1 : Int32), Inv σ τ → AgW okI Inv (W_L_normalStep σ w a1) (P_X7_normalStep τ a1)
def AG41 (Inv : DS → MS → Prop) : Prop := ∀ (σ : DS) (τ : MS) (w : OS) (a1 : Int32), Inv σ τ → AgW okI Inv (W_L_normalSteps σ w a1) (P_X7_normalSteps τ a1)
def AG42 (Inv : DS → MS → Prop) : Prop := ∀ (σ : DS) (τ : MS) (w : OS) (a1 : Int32), Inv σ τ → AgW okI Inv (W_L_normalForm σ w a1) (P_X7_normalForm τ a1)
def AG43 (Inv : DS → MS → Prop) : Prop := ∀ (σ : DS) (τ : MS) (w : OS) (a1 : Int32), Inv σ τ → AgW okI Inv (W_L_models σ w a1) (P_X7_models τ a1)
def AG44 (Inv : DS → MS → Prop) : Prop := ∀ (σ : DS) (τ : MS) (w : OS) (a1 : Int32), Inv σ τ → AgW okI Inv (W_L_modelsByRows σ w a1) (P_X7_modelsByRows τ a1)
def AG45 (Inv : DS → MS → Prop) : Prop := ∀ (σ : DS) (τ : MS) (w : OS) (a1 : Int32), Inv σ τ → AgW okZ Inv (W_L_follows σ w a1) (P_X7_follows τ a1)
def AG46 (Inv : DS → MS → Prop) : Prop := ∀ (σ : DS) (τ : MS) (w : OS) (a1 : Int32), Inv σ τ → AgW okZ Inv (W_L_isSound σ w a1) (P_X7_isSound τ a1)
def AG47 (Inv : DS → MS → Prop) : Prop := ∀ (σ : DS) (τ : MS) (w : OS) (a1 : Int32), Inv σ τ → AgW okF Inv (W_L_share σ w a1) (P_X7_share τ a1)
def AG48 (Inv : DS → MS → Prop) : Prop := ∀ (σ : DS) (τ : MS) (w : OS), Inv σ τ → AgW okD Inv (W_L_meanSize σ w ) (P_X7_meanSize τ )
/-- BOTH SIDES ANSWER ALIKE, call by call -/
def AG (Inv : DS → MS → Prop) : Prop := AG0 Inv ∧ AG1 Inv ∧ AG2 Inv ∧ AG3 Inv ∧ AG4 Inv ∧ AG5 Inv ∧ AG6 Inv ∧ AG7 Inv ∧ AG8 Inv ∧ AG9 Inv ∧ AG10 Inv ∧ AG11 Inv ∧ AG12 Inv ∧ AG13 Inv ∧ AG14 Inv ∧ AG15 Inv ∧ AG16 Inv ∧ AG17 Inv ∧ AG18 Inv ∧ AG19 Inv ∧ AG20 Inv ∧ AG21 Inv ∧ AG22 Inv ∧ AG23 Inv ∧ AG24 Inv ∧ AG25 Inv ∧ AG26 Inv ∧ AG27 Inv ∧ AG28 Inv ∧ AG29 Inv ∧ AG30 Inv ∧ AG31 Inv ∧ AG32 Inv ∧ AG33 Inv ∧ AG34 Inv ∧ AG35 Inv ∧ AG36 Inv ∧ AG37 Inv ∧ AG38 Inv ∧ AG39 Inv ∧ AG40 Inv ∧ AG41 Inv ∧ AG42 Inv ∧ AG43 Inv ∧ AG44 Inv ∧ AG45 Inv ∧ AG46 Inv ∧ AG47 Inv ∧ AG48 Inv

