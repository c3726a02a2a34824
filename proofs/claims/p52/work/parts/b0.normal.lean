/-! NORMAL FORMS: the calls -/
section NORM
variable {n m q e : Nat} {σ : DS} {τ : MS}
theorem begins_ok (h : FW n σ τ) {f : Nat} (hf : f < n) {t : TT} (hw : Sw τ (tW t).length f (tW t)) (hl : (tW t).length ≤ 30) : ∃ τ', P_X7_begins τ (nI f) = some (.inl 1, τ') ∧ TxT (tW t) τ' ∧ TSt (tI τ 5 0) τ' := by
  obtain ⟨τ', g1, g2⟩ := writes_f (h.thr 0) hf (w := tW t) (Sw.ext (τ := τ) (τ' := tI τ 5 0) (n := 150) (fun _ _ => rfl) (fun _ _ => rfl) (fun _ _ => rfl) (by have := h.le; omega) hw) hl
  refine ⟨τ', ?_, ⟨by rw [g2.1, Nat.zero_add], fun i hi => by rw [g2.2.2.2.2, if_pos (by omega), Nat.sub_zero]⟩, ?_⟩
  · unfold P_X7_begins
    rw [lacks_in h hf, bd_some, if_pos rfl, lt_def, g1, bd_some]
  · have k0 : TSt (tI τ 5 0) (tI (tI τ 5 0) 6 0) := ⟨fun k hk => by rw [tI1, if_neg hk], fun _ _ => rfl, rfl⟩
    exact k0.tr g2.ts
theorem begins_no (h : FW n σ τ) {a : Int32} (ha : a < 0 ∨ (¬ a < 0 ∧ nI n ≤ a)) : P_X7_begins τ a = some (.inl 0, tI τ 5 1) := by
  unfold P_X7_begins
  rw [lacks_no h ha, bd_some, if_neg i10]
theorem form_tree (h : FW n σ τ) {f : Nat} (hf : f < n) : ∃ t, tOk t ∧ Sw τ (tW t).length f (tW t) ∧ (tW t).length ≤ 30 := by
  obtain ⟨w, q1, -, q3, -⟩ := word_of h hf
  obtain ⟨t, ht, rfl⟩ := sw_tree q1
  exact ⟨t, ht, q1, q3⟩
theorem TSt.rel {τ1 τ2 : MS} (h : TSt τ1 τ2) (h5 : τ1.1 5 = 0) : τ2.1 5 = 0 := (h.1 5 (by decide)).trans h5
theorem made_no (s : DS) : P_X6_made s (-1) = some (.inr "java/lang/IllegalStateException", s) := if_pos rfl
theorem made_in {f : Nat} (hf : f < 2147483648) (s : DS) : P_X6_made s (nI f) = some (.inl (nI f), s) := if_neg (ni_ne hf)
end NORM
theorem ag40 : AG40 Rel := by
  intro σ τ w a hI
  obtain ⟨n, m, q, e, h, hr⟩ := id hI
  have hle := h.le
  unfold W_L_normalStep P_X6_normalStep P_X7_normalStep
  rcases ix_cases n (by omega) a with ⟨f, hf, rfl⟩ | ha
  · obtain ⟨t, ht, q1, q2⟩ := form_tree h hf
    obtain ⟨τ1, b1, b2, b3⟩ := begins_ok h hf q1 q2
    obtain ⟨σ1, c1, c2, c3⟩ := copy_ok h hf q1 q2
    have hF1 : FW n σ1 τ1 := b3.fw ((c3.fw h).thr 0)
    have hR1 : RW n m q e σ1 τ1 := b3.rw9 ((c3.rw9 hr).thr 0)
    have h5 : τ1.1 5 = 0 := b3.rel rfl
    rw [reqF_in h hf, bd_some, c1, bd_some, b1, bd_some, if_neg i10]
    have sS := stepS ht c2 (by omega)
    have sT := stepT ht b2 (by omega)
    cases es : tSt t with
    | none =>
      rw [sS.1 es, bd_some, if_pos rfl, sT.1 es, bd_some, if_pos rfl, raises_eq, bd_some]
      exact ag_exc rfl rfl rfl rfl (by decide) (Rel.thr ⟨n, m, q, e, hF1, hR1⟩ 2)
    | some t' =>
      obtain ⟨i1, i2, i3⟩ := tSt_ok ht es
      have hb := tF_bd ht
      have hb' := tF_bd i1
      obtain ⟨σ2, d1, d2, d3⟩ := sS.2 t' es
      obtain ⟨τ2, f1, f2, f3⟩ := sT.2 t' es
      rw [d1, bd_some, if_neg i10, f1, bd_some, if_neg i10]
      obtain ⟨v, n', σ3, τ3, g1, g2, g3, g4, g5, g6, g7⟩ := read_ok (f3.fw (d3.fw hF1)) i1 d2 f2 (by omega)
      have hI3 : Rel σ3 τ3 := ⟨n', m, q, e, g3, (f3.rw9 (d3.rw9 hR1)).of g4 g5.pp g6.pp⟩
      have h53 : τ3.1 5 = 0 := by rw [g6.1 5 (by decide) (by decide), f3.1 5 (by decide), h5]
      have hle3 := g3.le
      rw [g1, bd_some, g2, bd_some, lt_def]
      rcases g7 with rfl | ⟨f', hf', rfl⟩
      · rw [made_no, if_pos rfl, raises_eq, bd_some]
        exact ag_exc rfl rfl rfl rfl (by decide) (hI3.thr 3)
      · rw [made_in (by omega), bd_some, if_neg (ni_ne (by omega))]
        exact ag_ret rfl rfl h53 hI3
  · rw [reqF_no h ha, bd_exc, begins_no h ha, bd_some, if_pos rfl]
    exact ag_exc rfl rfl rfl rfl (by decide) (hI.thr 1)
theorem ag41 : AG41 Rel := by
  intro σ τ w a hI
  obtain ⟨n, m, q, e, h, hr⟩ := id hI
  have hle := h.le
  unfold W_L_normalSteps P_X6_normalSteps P_X7_normalSteps P_X5_stepToEnd
  rw [lt_def]
  rcases ix_cases n (by omega) a with ⟨f, hf, rfl⟩ | ha
  · obtain ⟨t, ht, q1, q2⟩ := form_tree h hf
    obtain ⟨τ1, b1, b2, b3⟩ := begins_ok h hf q1 q2
    obtain ⟨σ1, c1, c2, c3⟩ := copy_ok h hf q1 q2
    have hF1 : FW n σ1 τ1 := b3.fw ((c3.fw h).thr 0)
    have hR1 : RW n m q e σ1 τ1 := b3.rw9 ((c3.rw9 hr).thr 0)
    have h5 : τ1.1 5 = 0 := b3.rel rfl
    have hb := tF_bd ht
    have hg := tG_bd ht true
    obtain ⟨σ2, d1, d2, d3⟩ := endS_loop (tG t true) t 0 FU σ1 ht (Nat.le_refl _) (by omega) (by unfold FU; omega) c2 (by omega)
    obtain ⟨τ2, f1, f3⟩ := endT_loop (tG t true) t 0 FU τ1 ht (Nat.le_refl _) (by unfold FU; omega) b2 (by omega)
    rw [reqF_in h hf, bd_some, c1, bd_some, b1, bd_some, if_neg i10]
    simp only [lt_def]
    rw [show (0 : Int32) = nI 0 from rfl, d1, bd_some, f1]
    exact ag_ret rfl rfl (f3.rel h5) ⟨n, m, q, e, f3.fw (d3.fw hF1), f3.rw9 (d3.rw9 hR1)⟩
  · rw [reqF_no h ha, bd_exc, begins_no h ha, bd_some, if_pos rfl]
    exact ag_exc rfl rfl rfl rfl (by decide) (hI.thr 1)
theorem ag42 : AG42 Rel := by
  intro σ τ w a hI
  obtain ⟨n, m, q, e, h, hr⟩ := id hI
  have hle := h.le
  unfold W_L_normalForm P_X6_normalForm P_X7_normalForm P_X5_stepToEnd
  simp only [lt_def]
  rcases ix_cases n (by omega) a with ⟨f, hf, rfl⟩ | ha
  · obtain ⟨t, ht, q1, q2⟩ := form_tree h hf
    obtain ⟨τ1, b1, b2, b3⟩ := begins_ok h hf q1 q2
    obtain ⟨σ1, c1, c2, c3⟩ := copy_ok h hf q1 q2
    have hF1 : FW n σ1 τ1 := b3.fw ((c3.fw h).thr 0)
    have hR1 : RW n m q e σ1 τ1 := b3.rw9 ((c3.rw9 hr).thr 0)
    have h5 : τ1.1 5 = 0 := b3.rel rfl
    have hb := tF_bd ht
    have hg := tG_bd ht true
    obtain ⟨σ2, d1, d2, d3⟩ := endS_loop (tG t true) t 0 FU σ1 ht (Nat.le_refl _) (by omega) (by unfold FU; omega) c2 (by omega)
    obtain ⟨τ2, f1, f2, f3⟩ := formT_loop (tG t true) t FU τ1 ht (Nat.le_refl _) (by unfold FU; omega) b2 (by omega)
    obtain ⟨i1, i2⟩ := tRun_ok (tG t true) ht
    have hb' := tF_bd i1
    obtain ⟨v, n', σ3, τ3, g1, g2, g3, g4, g5, g6, g7⟩ := read_ok (f3.fw (d3.fw hF1)) i1 d2 f2 (by omega)
    have hI3 : Rel σ3 τ3 := ⟨n', m, q, e, g3, (f3.rw9 (d3.rw9 hR1)).of g4 g5.pp g6.pp⟩
    have h53 : τ3.1 5 = 0 := by rw [g6.1 5 (by decide) (by decide), f3.1 5 (by decide), h5]
    have hle3 := g3.le
    rw [reqF_in h hf, bd_some, c1, bd_some, b1, bd_some, if_neg i10, show (0 : Int32) = nI 0 from rfl, d1, bd_some, f1]
    unfold nfK
    rw [g1, bd_some, g2, bd_some, lt_def]
    rcases g7 with rfl | ⟨f', hf', rfl⟩
    · rw [made_no, if_pos rfl, raises_eq, bd_some]
      exact ag_exc rfl rfl rfl rfl (by decide) (hI3.thr 2)
    · rw [made_in (by omega), bd_some, if_neg (ni_ne (by omega))]
      exact ag_ret rfl rfl h53 hI3
  · rw [reqF_no h ha, bd_exc, begins_no h ha, bd_some, if_pos rfl]
    exact ag_exc rfl rfl rfl rfl (by decide) (hI.thr 1)
