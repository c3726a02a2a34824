/-! NORMAL FORMS: what a step and the whole form answer -/
theorem tRun_le : ∀ (g : Nat) (t : TT), (tRun g t).1 ≤ g
  | 0, _ => Nat.le_refl 0
  | g + 1, t => by
    cases e : tSt t with
    | none => rw [tRun_no e]; exact Nat.zero_le _
    | some t' => rw [tRun_s e]; exact Nat.succ_le_succ (tRun_le g t')
theorem tCnt_le (t : TT) : tCnt t ≤ tG t true := tRun_le _ t
section NORMI
variable {n m q e : Nat} {σ σ' : DS} {τ τ' : MS}
/-- a formula made of a tree: it throws, or makes the tree's formula, the one that is known where one is -/
def MkR (τ : MS) (t : TT) (exc : Int32) (x : Res DS Int32) : Prop := (∃ σ', x = some (.inl exc, σ') ∧ Rel σ' τ ∧ ∀ g k, g < nF τ → ¬ Sw τ k g (tW t)) ∨ ∃ (σ' : DS) (τ' : MS) (g : Nat), x = some (.inl (nI g), σ') ∧ Rel σ' τ' ∧ SI τ' ∧ Ext (nF τ) τ τ' ∧ nF τ ≤ nF τ' ∧ g < nF τ' ∧ Sw τ' (tW t).length g (tW t) ∧ (tW t).length ≤ 30 ∧ ∀ g' k, g' < nF τ → Sw τ k g' (tW t) → g' = g
theorem tss_rel (hσ : Rel σ τ) (h : TSs σ σ') : Rel σ' τ := by
  obtain ⟨hF, hr⟩ := hσ.at
  exact Rel.of (h.fw hF) (h.rw9 hr)
theorem mk_R {cs : List (String × Int32)} {exc : Int32} (hσ : Rel σ τ) (hS : SI τ) {t : TT} (ht : tOk t) (hs : TxS (tW t) σ) (hl : (tW t).length < 1000) (hc : cs.lookup "java/lang/IllegalStateException" = some exc) : MkR τ t exc (hdl cs (bd (P_X0_read σ) fun r33 s33 => (bd (P_X6_made s33 r33) fun r36 s36 => (some (.inl r36, s36)))) fun r s => some (.inl r, s)) := by
  obtain ⟨h, hr⟩ := hσ.at
  have hle := h.le
  have hknown : ∀ g k, g < nF τ → Sw τ k g (tW t) → (tW t).length ≤ 30 := fun g k hg hw => by
    obtain ⟨w, q1, q2, -⟩ := h.ent hg
    rw [hw.det (by omega) q1]
    exact q2
  obtain ⟨v, σ', g1, g2⟩ := read_R h hr ht hs hl
  rcases g2 with ⟨rfl, hR⟩ | ⟨n', f, τ', f1, rfl, f3, f4, f5, f6, f7⟩
  · refine Or.inl ⟨σ', by rw [g1, bd_some, made_no, bd_exc, hdl_exc cs hc], hR, fun g k hg hw => ?_⟩
    obtain ⟨σ2, τ2, z1, -⟩ := read_K h hr ht hs hg hw (hknown g k hg hw)
    rw [g1] at z1
    exact ni_ne (a := g) (by omega) (Sum.inl.inj (congrArg Prod.fst (Option.some.inj z1))).symm
  · have hle' := f3.le
    have nn := (Rel.nn f3 f4).1
    obtain ⟨w, q1, q2, -⟩ := f3.ent f1
    have hl30 : (tW t).length ≤ 30 := by rw [f7.det (by omega) q1]; exact q2
    refine Or.inr ⟨σ', τ', f, by rw [g1, bd_some, made_in (by omega), bd_some, hdl_ret], Rel.of f3 f4, hS.ext h hr f6, f6, by omega, by omega, f7, hl30, fun g k hg hw => ?_⟩
    obtain ⟨σ2, τ2, z1, -⟩ := read_K h hr ht hs hg hw hl30
    rw [g1] at z1
    have z2 := Sum.inl.inj (congrArg Prod.fst (Option.some.inj z1))
    rw [ni_eq (by omega) (by omega)] at z2
    exact z2.symm
theorem w_form {f : Nat} {t : TT} (hσ : Rel σ τ) (hS : SI τ) (hf : f < nF τ) (ht : tOk t) (hw : Sw τ (tW t).length f (tW t)) (hl : (tW t).length ≤ 30) : MkR τ (tNf t) (-1002) (P_L_form σ (nI f)) := by
  obtain ⟨h, hr⟩ := hσ.at
  obtain ⟨σ1, c1, c2, c3⟩ := copy_ok h hf hw hl
  have hb := tF_bd ht
  have hg := tG_bd ht true
  obtain ⟨σ2, d1, d2, d3⟩ := endS_loop (tG t true) t 0 FU σ1 ht (Nat.le_refl _) (by omega) (by unfold FU; omega) c2 (by omega)
  obtain ⟨i1, i2⟩ := tRun_ok (tG t true) ht
  have hb' := tF_bd i1
  unfold P_L_form P_X6_normalForm P_X5_stepToEnd
  simp only [lt_def]
  rw [reqF_in h hf, bd_some, c1, bd_some, show (0 : Int32) = nI 0 from rfl, d1, bd_some]
  exact mk_R (tss_rel hσ (c3.tr d3)) hS i1 d2 (show (tW (tRun (tG t true) t).2).length < 1000 by omega) rfl
theorem w_step {f : Nat} {t : TT} (hσ : Rel σ τ) (hS : SI τ) (hf : f < nF τ) (ht : tOk t) (hw : Sw τ (tW t).length f (tW t)) (hl : (tW t).length ≤ 30) : (tSt t = none ∧ ∃ σ', P_L_step σ (nI f) = some (.inl (-1002), σ') ∧ Rel σ' τ) ∨ ∃ t', tSt t = some t' ∧ MkR τ t' (-1003) (P_L_step σ (nI f)) := by
  obtain ⟨h, hr⟩ := hσ.at
  obtain ⟨σ1, c1, c2, c3⟩ := copy_ok h hf hw hl
  have hb := tF_bd ht
  have sS := stepS ht c2 (by omega)
  unfold P_L_step P_X6_normalStep
  rw [reqF_in h hf, bd_some, c1, bd_some]
  cases es : tSt t with
  | none =>
    refine Or.inl ⟨rfl, σ1, ?_, tss_rel hσ c3⟩
    rw [sS.1 es, bd_some, if_pos rfl]
    rfl
  | some t' =>
    obtain ⟨i1, i2, i3⟩ := tSt_ok ht es
    have hb' := tF_bd i1
    obtain ⟨σ2, d1, d2, d3⟩ := sS.2 t' es
    refine Or.inr ⟨t', rfl, ?_⟩
    rw [d1, bd_some, if_neg i10]
    exact mk_R (tss_rel hσ (c3.tr d3)) hS i1 d2 (by omega) rfl
theorem tbt_ext {x y : Int32} (h : ∀ v, v < 32 → (tbt x v = true ↔ tbt y v = true)) : x = y := by
  apply Int32.toBitVec_inj.mp
  apply BitVec.eq_of_getLsbD_eq
  intro i hi
  have := h i hi
  unfold tbt at this
  rw [Bool.eq_iff_iff]
  exact this
/-- trees of the same truth: the same models -/
theorem tb_same (hF : FW n σ τ) {f g h k : Nat} {t t' : TT} (hf : f < n) (hg : g < n) (ht : tOk t) (ht' : tOk t') (hw : Sw τ h f (tW t)) (hw' : Sw τ k g (tW t')) (he : ∀ L, tEv L t = tEv L t') : Tb τ f = Tb τ g := tbt_ext fun v hv => by
  have a := tr_ev hF hv hf ht hw
  have b := tr_ev hF hv hg ht' hw'
  rw [he] at a
  exact a.trans b.symm
theorem nrm_end {f : Nat} {t : TT} {l3 : Int32} (hσ : Rel σ τ) (hS : SI τ) (hf : f < nF τ) (ht : tOk t) (hw : Sw τ (tW t).length f (tW t)) (hl : (tW t).length ≤ 30) (h3 : ¬ l3 = -1002) : ∃ σ' τ', B_L_isNormal_72 σ (nI f) l3 = some (.inl 1, σ') ∧ Rel σ' τ' ∧ SI τ' := by
  unfold B_L_isNormal_72
  rcases w_form hσ hS hf ht hw hl with ⟨σ1, e1, r1, -⟩ | ⟨σ1, τ1, g, e1, r1, s1, x1, n1, hg, hwg, hlg, -⟩
  · exact ⟨σ1, τ, by rw [e1, bd_some, lt_def, if_neg h3, if_pos (by decide)], r1, hS⟩
  · obtain ⟨h, hr⟩ := hσ.at
    obtain ⟨F1, R1⟩ := r1.at
    have hle1 := F1.le
    have htn := tNf_ok ht
    have hw1 : Sw τ1 (tW t).length f (tW t) := x1.1.sw hf hw
    rw [e1, bd_some, lt_def, if_neg h3, if_neg (nI_pos (show g < 2147483648 by omega))]
    obtain ⟨σ2, e2, r2⟩ := v_steps hg htn hwg hlg σ1 r1
    have c0 := tCnt_0 (tNf_end ht)
    have e2 : P_L_tells σ1 (nI g) 3 = some (.inl (nI (tCnt (tNf t))), σ2) := e2
    rw [e2, bd_some, c0, if_pos (show nI 0 = 0 from rfl)]
    obtain ⟨σ3, e3, r3⟩ := v_models hg σ2 r2
    obtain ⟨σ4, e4, r4⟩ := v_models (show f < nF τ1 by omega) σ3 r3
    have e3 : P_L_tells σ2 (nI g) 1 = _ := e3
    have e4 : P_L_tells σ3 (nI f) 1 = _ := e4
    rw [e3, bd_some, e4, bd_some, tb_same F1 hg (show f < nF τ1 by omega) htn ht hwg hw1 (fun L => ev_nf ht), if_pos rfl]
    rcases w_form r4 s1 hg htn hwg hlg with ⟨σ5, -, -, no⟩ | ⟨σ5, τ5, g5, e5, r5, s5, x5, n5, hg5, hw5, hl5, u5⟩
    · rw [tNf_0 (tNf_end ht)] at no
      exact absurd hwg (no g _ hg)
    · rw [tNf_0 (tNf_end ht)] at u5
      have := u5 g _ hg hwg
      subst this
      exact ⟨σ5, τ5, by rw [e5, bd_some, if_pos rfl], r5, s5⟩
/-- what is asked of a normal form holds -/
theorem nrm_ok {f : Nat} (hσ : Rel σ τ) (hS : SI τ) (hf : f < nF τ) : ∃ σ' τ', P_L_isNormal σ (nI f) = some (.inl 1, σ') ∧ Rel σ' τ' ∧ SI τ' := by
  obtain ⟨h, hr⟩ := hσ.at
  have hle := h.le
  obtain ⟨t, ht, hw, hl⟩ := form_tree h hf
  have hgb := tG_bd ht true
  unfold P_L_isNormal
  obtain ⟨σ1, e1, r1⟩ := v_steps hf ht hw hl σ hσ
  have e1 : P_L_tells σ (nI f) 3 = some (.inl (nI (tCnt t)), σ1) := e1
  rw [e1, bd_some, lt_def]
  have cb : tCnt t < 2147483648 := by
    have : tCnt t ≤ tG t true := tCnt_le t
    omega
  rcases w_step r1 hS hf ht hw hl with ⟨es, σ2, e2, r2⟩ | ⟨t', es, e2⟩
  · rw [e2, bd_some, lt_def, tCnt_0 es, if_pos (show nI 0 = 0 from rfl), if_pos rfl]
    rcases w_form r2 hS hf ht hw hl with ⟨σ3, -, -, no⟩ | ⟨σ3, τ3, g3, e3, r3, s3, x3, n3, hg3, hw3, hl3, u3⟩
    · rw [tNf_0 es] at no
      exact absurd hw (no f _ hf)
    · rw [tNf_0 es] at u3
      have := u3 f _ hf hw
      subst this
      exact ⟨σ3, τ3, by rw [e3, bd_some, if_pos rfl], r3, s3⟩
  · obtain ⟨i1, -, -⟩ := tSt_ok ht es
    have cs := tCnt_s ht es
    have c0 : ¬ nI (tCnt t) = 0 := fun z => by rw [ni_eq0 cb] at z; omega
    rcases e2 with ⟨σ2, e2, r2, -⟩ | ⟨σ2, τ2, g, e2, r2, s2, x2, n2, hg, hwg, hlg, -⟩
    · rw [e2, bd_some, lt_def, if_neg c0, if_pos (by decide)]
      exact nrm_end r2 hS hf ht hw hl (by decide)
    · obtain ⟨F2, R2⟩ := r2.at
      have hle2 := F2.le
      have hw2 : Sw τ2 (tW t).length f (tW t) := x2.1.sw hf hw
      rw [e2, bd_some, lt_def, if_neg c0, if_neg (nI_pos (show g < 2147483648 by omega))]
      obtain ⟨σ3, e3, r3⟩ := v_models hg σ2 r2
      obtain ⟨σ4, e4, r4⟩ := v_models (show f < nF τ2 by omega) σ3 r3
      obtain ⟨σ5, e5, r5⟩ := v_steps hg i1 hwg hlg σ4 r4
      have e3 : P_L_tells σ2 (nI g) 1 = _ := e3
      have e4 : P_L_tells σ3 (nI f) 1 = _ := e4
      have e5 : P_L_tells σ4 (nI g) 3 = some (.inl (nI (tCnt t')), σ5) := e5
      rw [e3, bd_some, e4, bd_some, tb_same F2 hg (show f < nF τ2 by omega) i1 ht hwg hw2 (fun L => ev_step ht es), if_pos rfl, e5, bd_some, cs, ni_sub1 (by omega), Nat.add_sub_cancel, if_pos rfl]
      exact nrm_end r5 s2 (by omega) ht hw2 hl (fun z => nI_pos (show g < 2147483648 by omega) (by rw [z]; decide))
end NORMI
