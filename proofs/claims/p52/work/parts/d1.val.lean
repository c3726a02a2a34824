/-! WHAT A QUESTION ANSWERS over one ghost -/
abbrev nF (τ : MS) : Nat := (τ.1 0).toNatClampNeg
abbrev nLn (τ : MS) : Nat := (τ.1 1).toNatClampNeg
abbrev nBx (τ : MS) : Nat := (τ.1 2).toNatClampNeg
abbrev nLm (τ : MS) : Nat := (τ.1 4).toNatClampNeg
theorem Rel.at {σ : DS} {τ : MS} (h : Rel σ τ) : FW (nF τ) σ τ ∧ RW (nF τ) (nLn τ) (nBx τ) (nLm τ) σ τ := by
  obtain ⟨n, m, q, e, h1, h2⟩ := h
  have e1 : nF τ = n := by show (τ.1 0).toNatClampNeg = n; rw [h1.cnt7, ni_cl (by have := h1.le; omega)]
  have e2 : nLn τ = m := by show (τ.1 1).toNatClampNeg = m; rw [h2.mc7, ni_cl (by have := h2.m60; omega)]
  have e3 : nBx τ = q := by show (τ.1 2).toNatClampNeg = q; rw [h2.qc7, ni_cl (by have := h2.q60; omega)]
  have e4 : nLm τ = e := by show (τ.1 4).toNatClampNeg = e; rw [h2.ec7, ni_cl (by have := h2.e8; omega)]
  rw [e1, e2, e3, e4]
  exact ⟨h1, h2⟩
theorem Rel.of {σ : DS} {τ : MS} {n m q e : Nat} (h1 : FW n σ τ) (h2 : RW n m q e σ τ) : Rel σ τ := ⟨n, m, q, e, h1, h2⟩
theorem Rel.nn {σ : DS} {τ : MS} {n m q e : Nat} (h1 : FW n σ τ) (h2 : RW n m q e σ τ) : nF τ = n ∧ nLn τ = m ∧ nBx τ = q ∧ nLm τ = e := by
  refine ⟨?_, ?_, ?_, ?_⟩
  · show (τ.1 0).toNatClampNeg = n; rw [h1.cnt7, ni_cl (by have := h1.le; omega)]
  · show (τ.1 1).toNatClampNeg = m; rw [h2.mc7, ni_cl (by have := h2.m60; omega)]
  · show (τ.1 2).toNatClampNeg = q; rw [h2.qc7, ni_cl (by have := h2.q60; omega)]
  · show (τ.1 4).toNatClampNeg = e; rw [h2.ec7, ni_cl (by have := h2.e8; omega)]
/-- the call answers v, and the ghost stays -/
def Val {ρ : Type} (τ : MS) (X : DS → Res DS ρ) (v : ρ) : Prop := ∀ σ, Rel σ τ → ∃ σ', X σ = some (.inl v, σ') ∧ Rel σ' τ
/-- the call throws E, and the ghost stays -/
def Thr {ρ : Type} (τ : MS) (X : DS → Res DS ρ) (E : String) : Prop := ∀ σ, Rel σ τ → ∃ σ', X σ = some (.inr E, σ') ∧ Rel σ' τ
section VAL
variable {ρ ρ' : Type} {τ : MS} {X : DS → Res DS ρ} {v : ρ} {w : ρ'} {E : String}
theorem Val.ret : Val τ (fun σ => some (.inl v, σ)) v := fun σ h => ⟨σ, rfl, h⟩
theorem Val.bnd {K : ρ → DS → Res DS ρ'} (h : Val τ X v) (k : Val τ (K v) w) : Val τ (fun σ => bd (X σ) K) w := fun σ hσ => by
  obtain ⟨s, e, hs⟩ := h σ hσ
  obtain ⟨s', e', hs'⟩ := k s hs
  exact ⟨s', by show bd (X σ) K = _; rw [e, bd_some, e'], hs'⟩
theorem Val.hd {cs : List (String × ρ')} {K : ρ → DS → Res DS ρ'} (h : Val τ X v) (k : Val τ (K v) w) : Val τ (fun σ => hdl cs (X σ) K) w := fun σ hσ => by
  obtain ⟨s, e, hs⟩ := h σ hσ
  obtain ⟨s', e', hs'⟩ := k s hs
  exact ⟨s', by show hdl cs (X σ) K = _; rw [e]; exact e', hs'⟩
theorem Val.hx {cs : List (String × ρ')} {K : ρ → DS → Res DS ρ'} (h : Thr τ X E) (hk : cs.lookup E = some w) : Val τ (fun σ => hdl cs (X σ) K) w := fun σ hσ => by
  obtain ⟨s, e, hs⟩ := h σ hσ
  refine ⟨s, ?_, hs⟩
  show hdl cs (X σ) K = _
  rw [e]
  show (match cs.lookup E with | none => none | some v => some (.inl v, s) : Res DS ρ') = _
  rw [hk]
theorem Thr.bnd {K : ρ → DS → Res DS ρ'} (h : Thr τ X E) : Thr τ (fun σ => bd (X σ) K) E := fun σ hσ => by
  obtain ⟨s, e, hs⟩ := h σ hσ
  exact ⟨s, by show bd (X σ) K = _; rw [e, bd_exc], hs⟩
theorem Thr.bnd2 {K : ρ → DS → Res DS ρ'} (h : Val τ X v) (k : Thr τ (K v) E) : Thr τ (fun σ => bd (X σ) K) E := fun σ hσ => by
  obtain ⟨s, e, hs⟩ := h σ hσ
  obtain ⟨s', e', hs'⟩ := k s hs
  exact ⟨s', by show bd (X σ) K = _; rw [e, bd_some, e'], hs'⟩
theorem Val.same (h : Val τ X v) {σ σ1 : DS} {r : ρ} (hσ : Rel σ τ) (e : X σ = some (.inl r, σ1)) : r = v ∧ Rel σ1 τ := by
  obtain ⟨s, e', hs⟩ := h σ hσ
  rw [e] at e'
  cases e'
  exact ⟨rfl, hs⟩
end VAL
theorem hdl_ret {S ρ ρ' : Type} (cs : List (String × ρ')) (r : ρ) (s : S) (k : ρ → S → Res S ρ') : hdl cs (some (.inl r, s)) k = k r s := rfl
theorem hdl_exc {S ρ ρ' : Type} (cs : List (String × ρ')) {E : String} {v : ρ'} (h : cs.lookup E = some v) (s : S) (k : ρ → S → Res S ρ') : hdl cs (some (.inr E, s) : Res S ρ) k = some (.inl v, s) := by
  show (match cs.lookup E with | none => none | some v => some (.inl v, s) : Res S ρ') = _
  rw [h]
/-- an index out of range -/
abbrev OutN (n : Nat) (a : Int32) : Prop := a < 0 ∨ (¬ a < 0 ∧ nI n ≤ a)
theorem outN_self (n : Nat) (hn : n < 2147483648) : OutN n (nI n) := Or.inr ⟨nI_pos hn, nI_le (Nat.le_refl _) hn⟩
theorem outN_m1 (n : Nat) : OutN n (-1) := Or.inl (by decide)
section LEAF
variable {τ : MS} {f k b : Nat} {a : Int32}
/-! the simple ones: the class stays as it is -/
theorem x_forms {σ : DS} (h : Rel σ τ) : F_X6_formulas σ = nI (nF τ) := h.at.1.cnt
theorem x_lines {σ : DS} (h : Rel σ τ) : F_X6_lines σ = nI (nLn τ) := h.at.2.mc
theorem x_boxes {σ : DS} (h : Rel σ τ) : F_X6_boxes σ = nI (nBx τ) := h.at.2.qc
theorem x_lemmas {σ : DS} (h : Rel σ τ) : F_X6_lemmas σ = nI (nLm τ) := h.at.2.ec
theorem v_size (hf : f < nF τ) : Val τ (fun σ => P_L_tells σ (nI f) 0) (Sz τ f) := fun σ hσ => by
  obtain ⟨h, hr⟩ := hσ.at
  refine ⟨σ, ?_, hσ⟩
  show P_L_tells σ (nI f) 0 = _
  unfold P_L_tells P_X6_sizeOf
  rw [if_pos rfl, reqF_in h hf, bd_some, size_in h hf]
  rfl
theorem v_models (hf : f < nF τ) : Val τ (fun σ => P_L_tells σ (nI f) 1) (nI (bN 32 (Tb τ f).toBitVec.toNat)) := fun σ hσ => by
  obtain ⟨h, hr⟩ := hσ.at
  refine ⟨σ, ?_, hσ⟩
  show P_L_tells σ (nI f) 1 = _
  unfold P_L_tells P_X6_models
  rw [if_neg i10, if_pos rfl, reqF_in h hf, bd_some, table_in h hf, bc_ok]
  rfl
theorem v_rows (hf : f < nF τ) : Val τ (fun σ => P_L_tells σ (nI f) 2) (nI (bN 32 (Tb τ f).toBitVec.toNat)) := fun σ hσ => by
  obtain ⟨h, hr⟩ := hσ.at
  obtain ⟨s', e1, t1⟩ := rows_loop (τ := τ) hf 32 0 FU σ (by omega) (by unfold FU; omega) h
  refine ⟨s', ?_, Rel.of (t1.fw h) (hr.of (Nat.le_refl _) (σ' := s') ⟨fun k _ _ => by rw [t1.1], fun k _ _ => t1.2 k (by omega), fun k _ _ => t1.2 k (by omega)⟩ PPt.rf)⟩
  show P_L_tells σ (nI f) 2 = _
  unfold P_L_tells P_X6_modelsByRows
  rw [if_neg (by decide), if_neg (by decide), if_pos rfl, reqF_in h hf, bd_some, lt_def, lt_def]
  rw [show L_X6_modelsByRows_9 FU σ (nI f) 0 0 = some (.inl (nI (bN 32 (Tb τ f).toBitVec.toNat)), s') from e1]
  rfl
theorem v_steps {t : TT} (hf : f < nF τ) (ht : tOk t) (hw : Sw τ (tW t).length f (tW t)) (hl : (tW t).length ≤ 30) : Val τ (fun σ => P_L_tells σ (nI f) 3) (nI (tRun (tG t true) t).1) := fun σ hσ => by
  obtain ⟨h, hr⟩ := hσ.at
  obtain ⟨σ1, c1, c2, c3⟩ := copy_ok h hf hw hl
  have hb := tF_bd ht
  have hg := tG_bd ht true
  obtain ⟨σ2, d1, d2, d3⟩ := endS_loop (tG t true) t 0 FU σ1 ht (Nat.le_refl _) (by omega) (by unfold FU; omega) c2 (by omega)
  refine ⟨σ2, ?_, Rel.of (d3.fw (c3.fw h)) (d3.rw9 (c3.rw9 hr))⟩
  show P_L_tells σ (nI f) 3 = _
  unfold P_L_tells P_X6_normalSteps P_X5_stepToEnd
  rw [if_neg (by decide), if_neg (by decide), if_neg (by decide), reqF_in h hf, bd_some, c1, bd_some, lt_def, show (0 : Int32) = nI 0 from rfl, d1, bd_some, Nat.zero_add]
  rfl
theorem v_tells_no (ha : OutN (nF τ) a) : Val τ (fun σ => P_L_tells σ a 3) (-1001) := fun σ hσ => by
  obtain ⟨h, hr⟩ := hσ.at
  refine ⟨σ, ?_, hσ⟩
  show P_L_tells σ a 3 = _
  unfold P_L_tells P_X6_normalSteps
  rw [if_neg (by decide), if_neg (by decide), if_neg (by decide), reqF_no h ha, bd_exc]
  exact hdl_exc _ rfl _ _
theorem v_sym {w : List Int32} {i : Nat} (hf : f < nF τ) (hw : Sw τ w.length f w) (hi : i < w.length) : Val τ (fun σ => P_L_symbol σ (nI f) (nI i)) (w.getD i 0) := fun σ hσ => by
  obtain ⟨h, hr⟩ := hσ.at
  have hle := h.le
  obtain ⟨w', q1, q2, q3, q4, q5, q6⟩ := word_of h hf
  have : w' = w := q1.det (by omega) hw
  subst this
  refine ⟨σ, ?_, hσ⟩
  show P_L_symbol σ (nI f) (nI i) = _
  unfold P_L_symbol P_X6_symbolAt
  rw [reqF_in h hf, bd_some, q4, if_neg (nI_pos (by omega)), if_pos (nI_lt hi (by omega)), q6 i hi]
  rfl
theorem v_sym_end {i : Nat} (hf : f < nF τ) (hi : ¬ nI i < Sz τ f) (hi2 : i < 2147483648) : Val τ (fun σ => P_L_symbol σ (nI f) (nI i)) (-1002) := fun σ hσ => by
  obtain ⟨h, hr⟩ := hσ.at
  refine ⟨σ, ?_, hσ⟩
  show P_L_symbol σ (nI f) (nI i) = _
  unfold P_L_symbol P_X6_symbolAt
  rw [reqF_in h hf, bd_some, size_in h hf, if_neg (nI_pos hi2), if_neg hi]
  exact hdl_exc _ rfl _ _
theorem v_sym_no (ha : OutN (nF τ) a) : Val τ (fun σ => P_L_symbol σ a 0) (-1001) := fun σ hσ => by
  obtain ⟨h, hr⟩ := hσ.at
  refine ⟨σ, ?_, hσ⟩
  show P_L_symbol σ a 0 = _
  unfold P_L_symbol P_X6_symbolAt
  rw [reqF_no h ha, bd_exc]
  exact hdl_exc _ rfl _ _
theorem v_line0 (hk : k < nLn τ) : Val τ (fun σ => P_L_line σ (nI k) 0) (τ.2.1 6 k) := fun σ hσ => by
  obtain ⟨h, hr⟩ := hσ.at
  refine ⟨σ, ?_, hσ⟩
  show P_L_line σ (nI k) 0 = _
  unfold P_L_line P_X6_formulaOf
  rw [if_pos rfl, reqL_in hr hk, bd_some, form_in hr hk]
  rfl
theorem v_line1 (hk : k < nLn τ) : Val τ (fun σ => P_L_line σ (nI k) 1) (τ.2.1 7 k) := fun σ hσ => by
  obtain ⟨h, hr⟩ := hσ.at
  refine ⟨σ, ?_, hσ⟩
  show P_L_line σ (nI k) 1 = _
  unfold P_L_line P_X6_ruleOf
  rw [if_neg i10, if_pos rfl, reqL_in hr hk, bd_some, rule_in hr hk]
  rfl
def rv (y : Res MS Int32) : Int32 := match y with
  | some (.inl r, _) => r
  | _ => 0
theorem v_line2 (hk : k < nLn τ) : Val τ (fun σ => P_L_line σ (nI k) 2) (rv (L_X7_depthOf_17 FU τ (nI 0) (τ.2.1 8 k))) := fun σ hσ => by
  obtain ⟨h, hr⟩ := hσ.at
  have hq := hr.q60
  obtain ⟨-, -, -, -, -, hb, -⟩ := hr.ln hk
  obtain ⟨r, r1, r2⟩ := depth_loop hr (nBx τ) (τ.2.1 8 k) 0 FU FU hb (Nat.le_refl _) (by omega) (by unfold FU; omega) (by unfold FU; omega)
  refine ⟨σ, ?_, hσ⟩
  show P_L_line σ (nI k) 2 = _
  unfold P_L_line P_X6_depthOf P_X2_depth
  rw [if_neg (by decide), if_neg (by decide), if_pos rfl, reqL_in hr hk, bd_some, lt_def, lt_def, inn_in hr hk, show (0 : Int32) = nI 0 from rfl, r1, bd_some, r2]
  rfl
/-- whether a line can be cited, of the ghost -/
def citT (τ : MS) (k : Nat) : Bool := decide (τ.2.1 8 k = -1) || decide (τ.2.1 10 (τ.2.1 8 k).toNatClampNeg = 1)
theorem cit_val {σ : DS} {n m q e : Nat} (hr : RW n m q e σ τ) (hk : k < m) : F_X2_isCitable σ (nI k) = if citT τ k = true then 1 else 0 := by
  have hq := hr.q60
  obtain ⟨-, -, -, -, -, hb, -⟩ := hr.ln hk
  unfold F_X2_isCitable citT
  rw [inn_in hr hk]
  rcases hb with hb | ⟨b, hbq, hb⟩
  · rw [hb]; rfl
  · rw [hb]
    rcases open_ix hr (Or.inr ⟨b, hbq, rfl⟩ : IxN q (nI b)) with ⟨e1, -⟩ | ⟨b', hb', e1, e2, e3⟩
    · exact absurd e1 (ni_ne (by omega))
    · rw [ni_eq (by omega) (by omega)] at e1
      subst e1
      rw [e2, ni_cl (by omega), decide_eq_false (ni_ne (show b < 2147483648 by omega)), Bool.false_or]
      rcases e3 with e3 | e3 <;> rw [e3] <;> decide
theorem v_line3 (hk : k < nLn τ) : Val τ (fun σ => P_L_line σ (nI k) 3) (if citT τ k = true then 1 else 0) := fun σ hσ => by
  obtain ⟨h, hr⟩ := hσ.at
  refine ⟨σ, ?_, hσ⟩
  show P_L_line σ (nI k) 3 = _
  unfold P_L_line P_X6_canCite
  rw [if_neg (by decide), if_neg (by decide), if_neg (by decide), if_pos rfl, reqL_in hr hk, bd_some, cit_val hr hk]
  by_cases hc : citT τ k = true
  · rw [if_pos hc]; rfl
  · rw [if_neg hc]; rfl
theorem v_line_no (ha : OutN (nLn τ) a) {c : Int32} (hc : c = 0 ∨ c = 4) : Val τ (fun σ => P_L_line σ a c) (-1001) := fun σ hσ => by
  obtain ⟨h, hr⟩ := hσ.at
  refine ⟨σ, ?_, hσ⟩
  show P_L_line σ a c = _
  unfold P_L_line P_X6_formulaOf P_X6_isSound
  rcases hc with rfl | rfl
  · rw [if_pos rfl, reqL_no hr ha, bd_exc]; exact hdl_exc _ rfl _ _
  · rw [if_neg (by decide), if_neg (by decide), if_neg (by decide), if_neg (by decide), reqL_no hr ha, bd_exc]; exact hdl_exc _ rfl _ _
theorem v_box1 (hb : b < nBx τ) : Val τ (fun σ => P_L_box σ (nI b) 1) (τ.2.1 6 (τ.2.1 12 b).toNatClampNeg) := fun σ hσ => by
  obtain ⟨h, hr⟩ := hσ.at
  have hm := hr.m60
  have hq := hr.q60
  obtain ⟨-, -, x3, ⟨k, hk, x4⟩, -⟩ := hr.bx hb
  refine ⟨σ, ?_, hσ⟩
  show P_L_box σ (nI b) 1 = _
  unfold P_L_box P_X6_resultOf F_X2_result
  rw [if_neg i10, reqB_in hr hb, bd_some, rat_in (show b < 60 by omega) (by decide), x3, x4, form_in hr hk, ni_cl (by omega)]
  rfl
def citB (τ : MS) (b : Nat) : Bool := decide (τ.2.1 10 b = 0) && (decide (τ.2.1 9 b = -1) || decide (τ.2.1 10 (τ.2.1 9 b).toNatClampNeg = 1))
theorem citB_val {σ : DS} {n m q e : Nat} (hr : RW n m q e σ τ) (hb : b < q) : F_X2_isCitableBox σ (nI b) = if citB τ b = true then 1 else 0 := by
  have hq := hr.q60
  obtain ⟨-, -, -, -, o1, o2, o3, o4⟩ := hr.bx hb
  unfold F_X2_isCitableBox citB
  rw [rat_in (show b < 60 by omega) (by decide), rat_in (show b < 60 by omega) (by decide), o3, o1]
  rcases o4 with o4 | o4
  · rw [o4, if_pos rfl, decide_eq_true rfl, Bool.true_and]
    rcases o2 with o2 | ⟨c, hc, o2⟩
    · rw [o2]; rfl
    · rw [o2]
      rcases open_ix hr (Or.inr ⟨c, by omega, rfl⟩ : IxN q (nI c)) with ⟨e1, -⟩ | ⟨b', hb', e1, e2, e3⟩
      · exact absurd e1 (ni_ne (by omega))
      · rw [ni_eq (by omega) (by omega)] at e1
        subst e1
        rw [e2, ni_cl (by omega), decide_eq_false (ni_ne (show c < 2147483648 by omega)), Bool.false_or]
        rcases e3 with e3 | e3 <;> rw [e3] <;> decide
  · rw [o4, if_neg i10]
    rw [show decide ((1 : Int32) = 0) = false from rfl, Bool.false_and]
    rfl
theorem v_box0 (hb : b < nBx τ) : Val τ (fun σ => P_L_box σ (nI b) 0) (if citB τ b = true then 1 else 0) := fun σ hσ => by
  obtain ⟨h, hr⟩ := hσ.at
  refine ⟨σ, ?_, hσ⟩
  show P_L_box σ (nI b) 0 = _
  unfold P_L_box P_X6_canCiteBox
  rw [if_pos rfl, reqB_in hr hb, bd_some, citB_val hr hb]
  by_cases hc : citB τ b = true
  · rw [if_pos hc]; rfl
  · rw [if_neg hc]; rfl
theorem v_box_no (ha : OutN (nBx τ) a) {c : Int32} : Val τ (fun σ => P_L_box σ a c) (-1001) := fun σ hσ => by
  obtain ⟨h, hr⟩ := hσ.at
  refine ⟨σ, ?_, hσ⟩
  show P_L_box σ a c = _
  unfold P_L_box P_X6_resultOf P_X6_canCiteBox
  split
  · rw [reqB_no hr ha, bd_exc]; exact hdl_exc _ rfl _ _
  · rw [reqB_no hr ha, bd_exc]; exact hdl_exc _ rfl _ _
end LEAF
