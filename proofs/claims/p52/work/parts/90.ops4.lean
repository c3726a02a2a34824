/-! QUESTIONS, and the plain changes -/
theorem ag24 : AG24 Rel := by
  intro σ τ hI
  obtain ⟨n, m, q, e, h, hr⟩ := id hI
  unfold P_X6_newProof P_X7_newProof P_X2_clear
  simp only [lt_def, bd_some]
  refine ⟨_, σ.1 2, _, rfl, congrArg (fun v => (some (.inl v, _) : Res MS Int32)) (show τ.1 1 = σ.1 2 by rw [hr.mc, hr.mc7]), n, 0, 0, e, h.scr rfl (fun k hk => ?_) rfl (fun k hk => ?_), ⟨by decide, by decide, rfl, rfl, rfl, rfl, rfl, Or.inl rfl, fun k hk => absurd hk (Nat.not_lt_zero _), fun k hk => absurd hk (Nat.not_lt_zero _)⟩, hr.2.1, hr.2.2⟩
  · rfl
  · rfl
theorem ag27 : AG27 Rel := fun σ τ hI => by
  obtain ⟨n, m, q, e, h, hr⟩ := id hI
  refine ⟨σ, τ.1 4, tI τ 5 0, ?_, rfl, hI.thr 0⟩
  unfold F_X6_lemmas
  rw [hr.ec, hr.ec7]
theorem ag29 : AG29 Rel := fun σ τ hI => by
  obtain ⟨n, m, q, e, h, hr⟩ := id hI
  refine ⟨σ, τ.1 1, tI τ 5 0, ?_, rfl, hI.thr 0⟩
  unfold F_X6_lines
  rw [hr.mc, hr.mc7]
theorem ag34 : AG34 Rel := fun σ τ hI => by
  obtain ⟨n, m, q, e, h, hr⟩ := id hI
  refine ⟨σ, τ.1 2, tI τ 5 0, ?_, rfl, hI.thr 0⟩
  unfold F_X6_boxes
  rw [hr.qc, hr.qc7]
section Q4
variable {n m q e : Nat} {σ : DS} {τ : MS}
theorem lacksL_in (h : RW n m q e σ τ) {k : Nat} (hk : k < m) : P_X7_lacksLine τ (nI k) = some (.inl 0, tI τ 5 0) := by
  unfold P_X7_lacksLine
  rw [isL_in h hk, if_neg i10, lt_def, thr_le]
theorem lacksL_no (h : RW n m q e σ τ) {a : Int32} (ha : a < 0 ∨ (¬ a < 0 ∧ nI m ≤ a)) : P_X7_lacksLine τ a = some (.inl 1, tI τ 5 1) := by
  unfold P_X7_lacksLine
  rw [isL_no h ha, if_pos rfl, lt_def, thr_1]
theorem lacksB_in (h : RW n m q e σ τ) {k : Nat} (hk : k < q) : P_X7_lacksBox τ (nI k) = some (.inl 0, tI τ 5 0) := by
  unfold P_X7_lacksBox
  rw [isB_in h hk, if_neg i10, lt_def, thr_le]
theorem lacksB_no (h : RW n m q e σ τ) {a : Int32} (ha : a < 0 ∨ (¬ a < 0 ∧ nI q ≤ a)) : P_X7_lacksBox τ a = some (.inl 1, tI τ 5 1) := by
  unfold P_X7_lacksBox
  rw [isB_no h ha, if_pos rfl, lt_def, thr_1]
theorem reqM_in (h : RW n m q e σ τ) {k : Nat} (hk : k < e) : P_X6_requireLemma σ (nI k) = some (.inl (), σ) := by
  have := h.e8
  unfold P_X6_requireLemma F_X1_has
  rw [h.ec, if_neg (nI_pos (by omega)), if_neg (nI_ge hk (by omega)), if_neg i10]
theorem reqM_no (h : RW n m q e σ τ) {a : Int32} (ha : a < 0 ∨ (¬ a < 0 ∧ nI e ≤ a)) : P_X6_requireLemma σ a = some (.inr "java/lang/IndexOutOfBoundsException", σ) := by
  unfold P_X6_requireLemma F_X1_has
  rw [h.ec]
  rcases ha with ha | ⟨h0, ha⟩
  · rw [if_pos ha, if_pos rfl]
  · rw [if_neg h0, if_pos ha, if_pos rfl]
theorem inM_in (h : RW n m q e σ τ) {k : Nat} (hk : k < e) : F_X7_in τ (nI k) (0 : Int32) (τ.1 4 - 1) = 1 := by
  have := h.e8
  rw [h.ec7]
  exact in_yes hk (by omega)
theorem inM_no (h : RW n m q e σ τ) {a : Int32} (ha : a < 0 ∨ (¬ a < 0 ∧ nI e ≤ a)) : F_X7_in τ a (0 : Int32) (τ.1 4 - 1) = 0 := by
  have := h.e8
  rw [h.ec7]
  exact in_no (by omega) ha
end Q4
theorem ag28 : AG28 Rel := by
  intro σ τ w a hI
  obtain ⟨n, m, q, e, h, hr⟩ := id hI
  have he := hr.e8
  unfold W_L_conclusionOf P_X6_conclusionOf P_X7_conclusionOf B_X7_conclusionOf_20
  rcases ix_cases e (by omega) a with ⟨k, hk, rfl⟩ | ha
  · rw [reqM_in hr hk, bd_some, inM_in hr hk, if_neg i10, lt_def, thr_le, gd_in (by omega) (by decide), ni_cl (by omega)]
    obtain ⟨c, -, -, -, -, -, ec, -⟩ := hr.2.1.2.2.2 k hk
    have e9 : F_X1_conclusion σ (nI k) = τ.2.1 14 k := by
      unfold F_X1_conclusion
      rw [rat_in (by omega) (by decide), ec]
    rw [e9]
    exact ag_ret rfl rfl rfl (hI.thr 0)
  · rw [reqM_no hr ha, bd_exc, inM_no hr ha, if_pos rfl, lt_def, thr_1]
    exact ag_exc rfl rfl rfl rfl (by decide) (hI.thr 1)
theorem ag30 : AG30 Rel := by
  intro σ τ w a hI
  obtain ⟨n, m, q, e, h, hr⟩ := id hI
  have hm := hr.m60
  unfold W_L_formulaOf P_X6_formulaOf P_X7_formulaOf
  rcases ix_cases m (by omega) a with ⟨k, hk, rfl⟩ | ha
  · rw [reqL_in hr hk, bd_some, lacksL_in hr hk, bd_some, if_pos rfl, gd_in (by omega) (by decide), ni_cl (by omega), form_in hr hk]
    exact ag_ret rfl rfl rfl (hI.thr 0)
  · rw [reqL_no hr ha, bd_exc, lacksL_no hr ha, bd_some, if_neg i10]
    exact ag_exc rfl rfl rfl rfl (by decide) (hI.thr 1)
theorem ag31 : AG31 Rel := by
  intro σ τ w a hI
  obtain ⟨n, m, q, e, h, hr⟩ := id hI
  have hm := hr.m60
  unfold W_L_ruleOf P_X6_ruleOf P_X7_ruleOf
  rcases ix_cases m (by omega) a with ⟨k, hk, rfl⟩ | ha
  · rw [reqL_in hr hk, bd_some, lacksL_in hr hk, bd_some, if_pos rfl, gd_in (by omega) (by decide), ni_cl (by omega), rule_in hr hk, gc_t (show ((((tI τ 5 0).2.1 7 k)).toUInt32 % 65536).toInt32 = (tI τ 5 0).2.1 7 k from rule_ch _ (hr.ln hk).2.2.2.1)]
    exact ag_ret rfl rfl rfl (hI.thr 0)
  · rw [reqL_no hr ha, bd_exc, lacksL_no hr ha, bd_some, if_neg i10]
    exact ag_exc rfl rfl rfl rfl (by decide) (hI.thr 1)
theorem ag33 : AG33 Rel := by
  intro σ τ w a hI
  obtain ⟨n, m, q, e, h, hr⟩ := id hI
  have hm := hr.m60
  unfold W_L_canCite P_X6_canCite P_X7_canCite
  rcases ix_cases m (by omega) a with ⟨k, hk, rfl⟩ | ha
  · obtain ⟨c, hc, e1, e2⟩ := cit_ok (hr.thr 0) hk
    rw [reqL_in hr hk, bd_some, lacksL_in hr hk, bd_some, if_pos rfl, e1, e2, bd_some]
    rcases hc with rfl | rfl
    · exact ag_retZ rfl rfl rfl (hI.thr 0)
    · exact ag_retZ rfl rfl rfl (hI.thr 0)
  · rw [reqL_no hr ha, bd_exc, lacksL_no hr ha, bd_some, if_neg i10]
    exact ag_exc rfl rfl rfl rfl (by decide) (hI.thr 1)
theorem ag35 : AG35 Rel := by
  intro σ τ w a hI
  obtain ⟨n, m, q, e, h, hr⟩ := id hI
  have hq := hr.q60
  unfold W_L_canCiteBox P_X6_canCiteBox P_X7_canCiteBox
  rcases ix_cases q (by omega) a with ⟨k, hk, rfl⟩ | ha
  · obtain ⟨c, hc, e1, e2⟩ := citB_ok (hr.thr 0) hk
    rw [reqB_in hr hk, bd_some, lacksB_in hr hk, bd_some, if_pos rfl, e1, e2, bd_some]
    rcases hc with rfl | rfl
    · exact ag_retZ rfl rfl rfl (hI.thr 0)
    · exact ag_retZ rfl rfl rfl (hI.thr 0)
  · rw [reqB_no hr ha, bd_exc, lacksB_no hr ha, bd_some, if_neg i10]
    exact ag_exc rfl rfl rfl rfl (by decide) (hI.thr 1)
theorem ag36 : AG36 Rel := by
  intro σ τ w a hI
  obtain ⟨n, m, q, e, h, hr⟩ := id hI
  have hq := hr.q60
  unfold W_L_resultOf P_X6_resultOf P_X7_resultOf
  rcases ix_cases q (by omega) a with ⟨k, hk, rfl⟩ | ha
  · obtain ⟨f, hf, e1, e2⟩ := result_in (hr.thr 0) hk
    rw [reqB_in hr hk, bd_some, lacksB_in hr hk, bd_some, if_pos rfl, e1, e2, bd_some]
    exact ag_ret rfl rfl rfl (hI.thr 0)
  · rw [reqB_no hr ha, bd_exc, lacksB_no hr ha, bd_some, if_neg i10]
    exact ag_exc rfl rfl rfl rfl (by decide) (hI.thr 1)
theorem ag43 : AG43 Rel := by
  intro σ τ w a hI
  obtain ⟨n, m, q, e, h, hr⟩ := id hI
  have hle := h.le
  unfold W_L_models P_X6_models P_X7_models
  rcases ix_cases n (by omega) a with ⟨f, hf, rfl⟩ | ha
  · rw [reqF_in h hf, bd_some, lacks_in h hf, bd_some, if_pos rfl, gd_in (by omega) (by decide), ni_cl (by omega), table_in h hf]
    exact ag_ret rfl rfl rfl (hI.thr 0)
  · rw [reqF_no h ha, bd_exc, lacks_no h ha, bd_some, if_neg i10]
    exact ag_exc rfl rfl rfl rfl (by decide) (hI.thr 1)
theorem ag9 : AG9 Rel := by
  intro σ τ w a b hI
  obtain ⟨n, m, q, e, h, hr⟩ := id hI
  have hle := h.le
  unfold W_L_bind P_X6_bind P_X7_bind P_X6_requireLetter B_X7_bind_27
  rcases ix_cases 5 (by decide) a with ⟨j, hj, rfl⟩ | ha
  · rw [in5_yes hj, if_neg i10, if_neg (nI_pos (show j < 2147483648 by omega)), if_pos (show nI j < 5 from nI_lt hj (by decide)), bd_some]
    rcases ix_cases n (by omega) b with ⟨g, hg, rfl⟩ | hb
    · rw [reqF_in h hg, bd_some, isF_in h hg, if_neg i10, lt_def, lt_def, rat_in hj (by decide), rput_in hj (by decide), lt_def, thr_le, gd_in hj (by decide), lt_def, gd_in hj (by decide), lt_def, ni_cl (by omega), (hr.2.2 j hj).1]
      refine ag_ret (τ' := tA (tI τ 5 0) 5 (upd (τ.2.1 5) j (nI g))) rfl rfl rfl ⟨n, m, q, e, h.scr rfl (fun k hk => ?_) rfl (fun k hk => ?_), hr.1, hr.2.1, fun i hi => ?_⟩
      · rw [sR_2, if_neg (by omega)]
      · rw [tA2, if_neg (by omega)]; rfl
      · show upd (σ.2 24) j (nI g) i = upd (τ.2.1 5) j (nI g) i ∧ IxN n (upd (τ.2.1 5) j (nI g) i)
        by_cases hij : i = j
        · subst hij
          rw [upd_eq, upd_eq]
          exact ⟨rfl, Or.inr ⟨g, hg, rfl⟩⟩
        · rw [upd_ne _ hij, upd_ne _ hij]
          exact hr.2.2 i hi
    · rw [reqF_no h hb, bd_exc, isF_no h hb, if_pos rfl, lt_def, thr_2]
      exact ag_exc rfl rfl rfl rfl (by decide) (hI.thr 2)
  · rw [in5_no ha, if_pos rfl, lt_def, thr_1]
    have e1 : (if a < 0 then (some (.inr "java/lang/IllegalArgumentException", σ) : Res DS Unit) else if a < 5 then some (.inl (), σ) else some (.inr "java/lang/IllegalArgumentException", σ)) = some (.inr "java/lang/IllegalArgumentException", σ) := by
      rcases ha with ha | ⟨h0, ha⟩
      · rw [if_pos ha]
      · rw [if_neg h0, if_neg]
        obtain ⟨j, hj, rfl⟩ := nI_of h0
        exact nI_nlt ((nI_leI (by decide) hj).mp ha) hj
    rw [e1, bd_exc]
    exact ag_exc rfl rfl rfl rfl (by decide) (hI.thr 1)
theorem ag12 : AG12 Rel := by
  intro σ τ w hI
  obtain ⟨n, m, q, e, h, hr⟩ := id hI
  have hq := hr.q60
  have hin := hr.inn
  unfold W_L_closeBox P_X6_closeBox P_X7_closeBox B_X7_closeBox_14
  rcases hr.inx with hi | ⟨b, hb, hi⟩
  · rw [hin, if_pos hi, if_pos hi, lt_def, thr_1]
    exact ag_exc rfl rfl rfl rfl (by decide) (hI.thr 1)
  · obtain ⟨p1, p2, p3, p4, p5, p6, p7, p8⟩ := hr.bx hb
    rw [hin, hi, if_neg (ni_ne (by omega)), if_neg (ni_ne (by omega)), lt_def, thr_le, lt_def, show (tI τ 5 0).1 3 = nI b from hi, gd_in (by omega) (by decide), lt_def, gd_in (by omega) (by decide), lt_def, ni_cl (by omega)]
    unfold P_X2_close
    rw [lt_def, hin, hi, lt_def, rput_in (by omega) (by decide), lt_def, show (sR σ 19 (upd (σ.2 19) b 0)).2 18 = σ.2 18 from rfl, rat_in (by omega) (by decide), bd_some, p5]
    refine ag_ret rfl rfl rfl ⟨n, m, q, e, h.scr rfl (fun k hk => ?_) rfl (fun k hk => ?_), ⟨hr.1.1, hr.1.2.1, hr.mc, hr.mc7, hr.qc, hr.qc7, rfl, p6.mono (by omega), fun k hk => hr.ln hk, fun b' hb' => ?_⟩, hr.2.1, hr.2.2⟩
    · rw [sI_2, sR_2, if_neg (by omega)]
    · rw [tI2, tA2, if_neg (by omega)]; rfl
    · obtain ⟨r1, r2, r3, r4, r5, r6, r7, r8⟩ := hr.bx hb'
      refine ⟨r1, r2, r3, r4, r5, r6, ?_, ?_⟩
      · show upd (σ.2 19) b 0 b' = upd (τ.2.1 10) b (vp_nar .boolean 0) b'
        by_cases hbb : b' = b
        · subst hbb; rw [upd_eq, upd_eq]; rfl
        · rw [upd_ne _ hbb, upd_ne _ hbb]; exact r7
      · show upd (τ.2.1 10) b (vp_nar .boolean 0) b' = 0 ∨ upd (τ.2.1 10) b (vp_nar .boolean 0) b' = 1
        by_cases hbb : b' = b
        · subst hbb; rw [upd_eq]; exact Or.inl rfl
        · rw [upd_ne _ hbb]; exact r8
