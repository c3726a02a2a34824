/-! CALLS OF THE PROOF, more -/
theorem bin_of {σ : DS} {τ : MS} {f : Nat} (h : FE σ τ f) (hk : binK (Kn τ f)) : ∃ a b, a < f ∧ b < f ∧ Lf τ f = nI a ∧ Rt τ f = nI b := by
  rcases h.sh with ⟨k, -⟩ | ⟨a, k, -⟩ | ⟨a, b, -, ha, hb, e1, e2⟩
  · exfalso
    unfold leafK at k
    rcases hk with z | z | z <;> rw [z] at k <;> revert k <;> decide
  · exfalso
    rcases hk with z | z | z <;> rw [z] at k <;> revert k <;> decide
  · exact ⟨a, b, ha, hb, e1, e2⟩
theorem neg_of {σ : DS} {τ : MS} {f : Nat} (h : FE σ τ f) (hk : Kn τ f = 78) : ∃ a, a < f ∧ Lf τ f = nI a ∧ Rt τ f = -1 := by
  rcases h.sh with ⟨k, -⟩ | ⟨a, -, ha, e1, e2⟩ | ⟨a, b, k, -⟩
  · exfalso
    unfold leafK at k
    rw [hk] at k; revert k; decide
  · exact ⟨a, ha, e1, e2⟩
  · exfalso
    unfold binK at k
    rw [hk] at k; revert k; decide
theorem ag15 : AG15 Rel := by
  intro σ τ w a b hI
  obtain ⟨n, m, q, e, h, hr⟩ := id hI
  have hm := hr.m60
  have hle := h.le
  unfold W_L_useConjunction P_X6_useConjunction P_X7_useConjunction
  rcases gate hr a with ⟨k, hk, rfl, e1, e2, e3, e4⟩ | ⟨k, hk, rfl, e1, e2, e3, e4⟩ | ⟨e1, e4⟩
  · obtain ⟨f, hf, ef⟩ := form_ix hr hk
    rw [e1, bd_some, e2, bd_some, cc_ok e4 e3, bd_some, if_pos rfl, gd_in (by omega) (by decide), ni_cl (by omega), show (tI τ 5 0).2.1 6 k = nI f from ef, lt_def, lt_def, form_in hr hk, ef, kind_in h hf, gd_in (by omega) (by decide), ni_cl (by omega)]
    unfold B_X6_useConjunction_38 B_X7_useConjunction_37
    rw [gd_in (by omega) (by decide), ni_cl (by omega)]
    by_cases kk : Kn τ f = 75
    · obtain ⟨x, y, hx, hy, ex, ey⟩ := bin_of (h.ent hf) (Or.inl kk)
      rw [if_pos kk, if_pos (show (tI τ 5 0).2.1 0 f = 75 from kk), if_pos (show (tI τ 5 0).2.1 0 f = 75 from kk), shape_1, bd_some]
      by_cases hm2 : m < 60
      · rw [room_ok hr hm2, bd_some, if_neg (show ¬ (tI τ 5 0).1 1 = 60 from full_no hr hm2), gd_in (by omega) (by decide), gd_in (by omega) (by decide), left_in h hf, right_in h hf, ex, ey, show (tI τ 5 0).2.1 1 f = nI x from ex, show (tI τ 5 0).2.1 2 f = nI y from ey]
        unfold B_X7_useConjunction_78
        by_cases hb : b = 0
        · obtain ⟨σ', τ', g1, g2, g3, g4⟩ := cite_ok (h.thr 0) (hr.thr 0) hm2 (show x < n by omega) (c := 108) (by decide) (ix60 hr hk) (Or.inl rfl)
          rw [if_pos hb, if_pos hb, if_pos hb, g1, g2]
          exact ag_ret rfl rfl g3 g4
        · obtain ⟨σ', τ', g1, g2, g3, g4⟩ := cite_ok (h.thr 0) (hr.thr 0) hm2 (show y < n by omega) (c := 114) (by decide) (ix60 hr hk) (Or.inl rfl)
          rw [if_neg hb, if_neg hb, if_neg hb, g1, g2]
          exact ag_ret rfl rfl g3 g4
      · rw [room_no hr hm2, bd_exc, if_pos (show (tI τ 5 0).1 1 = 60 from full_yes hr hm2), raises_eq]
        exact ag_exc rfl rfl rfl rfl (by decide) ((hI.thr 0).thr 4)
    · rw [if_neg kk, if_neg (show ¬ (tI τ 5 0).2.1 0 f = 75 from kk), if_neg (show ¬ (tI τ 5 0).2.1 0 f = 75 from kk), shape_0, bd_exc, raises_eq]
      exact ag_exc rfl rfl rfl rfl (by decide) ((hI.thr 0).thr 3)
  · rw [e1, bd_some, e2, bd_exc, cc_bad e4 e3, bd_some, if_neg i10]
    exact ag_exc rfl rfl rfl rfl (by decide) (hI.thr 2)
  · rw [e1, bd_exc, cc_no e4, bd_some, if_neg i10]
    exact ag_exc rfl rfl rfl rfl (by decide) (hI.thr 1)
theorem ag18 : AG18 Rel := by
  intro σ τ w a hI
  obtain ⟨n, m, q, e, h, hr⟩ := id hI
  have hm := hr.m60
  have hq := hr.q60
  unfold W_L_makeImplication P_X6_makeImplication P_X7_makeImplication
  rcases gateB hr a with ⟨k, hk, rfl, e1, e2, e3, e4⟩ | ⟨k, hk, rfl, e1, e2, e3, e4⟩ | ⟨e1, e4⟩
  · obtain ⟨k1, f1, hk1, hf1, b1, b2, b3⟩ := begin_in hr hk
    obtain ⟨f2, hf2, r1, r2⟩ := result_in (hr.thr 0) hk
    rw [e1, bd_some, e2, bd_some, cb_ok e4 e3, bd_some, if_pos rfl, gd_in (by omega) (by decide), ni_cl (by omega), show (tI τ 5 0).2.1 11 k = nI k1 from b1, gd_in (by omega) (by decide), ni_cl (by omega), r2, bd_some, show (tI τ 5 0).2.1 6 k1 = nI f1 from b2]
    by_cases hm2 : m < 60
    · rw [room_ok hr hm2, bd_some, b3, r1]
      rcases made_line (h.thr 0) (hr.thr 0) hm2 (c := 67) (l := nI f1) (r := nI f2) (Or.inr (Or.inr ⟨f1, f2, Or.inr (Or.inr rfl), hf1, hf2, rfl, rfl⟩)) with ⟨σ1, τ1, n', g, hg, hn, p1, p2, p3, p4, p5⟩ | ⟨σ1, τ1, p1, p2, p3, p5⟩
      · obtain ⟨s, σ', τ', g1, g2, g3, g4, g5⟩ := plainB_ok p3 p4 hm2 hg (c := 99) (a5 := nI k) (a6 := -1) (by decide) (Or.inr ⟨k, hk, rfl⟩) (Or.inl rfl)
        rw [p1, bd_some, p2, bd_some, lt_def, g1, bd_some, lt_def, g2, p5, g3]
        exact ag_ret rfl rfl g4 g5
      · rw [p1, bd_some, p2, bd_exc, p5]
        exact ag_exc rfl rfl rfl rfl (by decide) (p3.thr 3)
    · rw [room_no hr hm2, bd_exc]
      unfold P_X7_entersMade
      rw [if_pos (show (tI τ 5 0).1 1 = 60 from full_yes hr hm2), raises_eq]
      exact ag_exc rfl rfl rfl rfl (by decide) ((hI.thr 0).thr 3)
  · rw [e1, bd_some, e2, bd_exc, cb_bad e4 e3, bd_some, if_neg i10]
    exact ag_exc rfl rfl rfl rfl (by decide) (hI.thr 2)
  · rw [e1, bd_exc, cb_no e4, bd_some, if_neg i10]
    exact ag_exc rfl rfl rfl rfl (by decide) (hI.thr 1)
theorem ag20 : AG20 Rel := by
  intro σ τ w a hI
  obtain ⟨n, m, q, e, h, hr⟩ := id hI
  have hm := hr.m60
  have hq := hr.q60
  have hle := h.le
  unfold W_L_makeNegation P_X6_makeNegation P_X7_makeNegation
  rcases gateB hr a with ⟨k, hk, rfl, e1, e2, e3, e4⟩ | ⟨k, hk, rfl, e1, e2, e3, e4⟩ | ⟨e1, e4⟩
  · obtain ⟨k1, f1, hk1, hf1, b1, b2, b3⟩ := begin_in hr hk
    obtain ⟨f2, hf2, r1, r2⟩ := result_in (hr.thr 0) hk
    rw [e1, bd_some, e2, bd_some, cb_ok e4 e3, bd_some, if_pos rfl, r2, bd_some, r1, kind_in h hf2, gd_in (by omega) (by decide), ni_cl (by omega), gd_in (by omega) (by decide), ni_cl (by omega), show (tI τ 5 0).2.1 11 k = nI k1 from b1, gd_in (by omega) (by decide), ni_cl (by omega), show (tI τ 5 0).2.1 6 k1 = nI f1 from b2]
    unfold B_X6_makeNegation_36
    by_cases kk : Kn τ f2 = 70
    · rw [if_pos kk, if_pos (show (tI τ 5 0).2.1 0 f2 = 70 from kk), shape_1, bd_some]
      by_cases hm2 : m < 60
      · rw [room_ok hr hm2, bd_some, b3]
        rcases made_line (h.thr 0) (hr.thr 0) hm2 (c := 78) (l := nI f1) (r := -1) (Or.inr (Or.inl ⟨f1, rfl, hf1, rfl, rfl⟩)) with ⟨σ1, τ1, n', g, hg, hn, p1, p2, p3, p4, p5⟩ | ⟨σ1, τ1, p1, p2, p3, p5⟩
        · obtain ⟨s, σ', τ', g1, g2, g3, g4, g5⟩ := plainB_ok p3 p4 hm2 hg (c := 105) (a5 := nI k) (a6 := -1) (by decide) (Or.inr ⟨k, hk, rfl⟩) (Or.inl rfl)
          rw [p1, bd_some, p2, bd_some, lt_def, g1, bd_some, lt_def, g2, p5, g3]
          exact ag_ret rfl rfl g4 g5
        · rw [p1, bd_some, p2, bd_exc, p5]
          exact ag_exc rfl rfl rfl rfl (by decide) (p3.thr 4)
      · rw [room_no hr hm2, bd_exc]
        unfold P_X7_entersMade
        rw [if_pos (show (tI τ 5 0).1 1 = 60 from full_yes hr hm2), raises_eq]
        exact ag_exc rfl rfl rfl rfl (by decide) ((hI.thr 0).thr 4)
    · rw [if_neg kk, if_neg (show ¬ (tI τ 5 0).2.1 0 f2 = 70 from kk), shape_0, bd_exc, raises_eq]
      exact ag_exc rfl rfl rfl rfl (by decide) ((hI.thr 0).thr 3)
  · rw [e1, bd_some, e2, bd_exc, cb_bad e4 e3, bd_some, if_neg i10]
    exact ag_exc rfl rfl rfl rfl (by decide) (hI.thr 2)
  · rw [e1, bd_exc, cb_no e4, bd_some, if_neg i10]
    exact ag_exc rfl rfl rfl rfl (by decide) (hI.thr 1)
theorem ag19 : AG19 Rel := by
  intro σ τ w a b hI
  obtain ⟨n, m, q, e, h, hr⟩ := id hI
  have hm := hr.m60
  have hle := h.le
  unfold W_L_useImplication P_X6_useImplication P_X7_useImplication
  rcases two_gate hr a b with ⟨k, k', hk, hk', rfl, rfl, e1, e2⟩ | ⟨e1, e2⟩ | ⟨e1, e2⟩
  · obtain ⟨f, hf, ef⟩ := form_ix hr hk
    obtain ⟨f', hf', ef'⟩ := form_ix hr hk'
    rw [e1, bd_some, e2, bd_some, if_pos rfl, lt_def, gd_in (by omega) (by decide), ni_cl (by omega), lt_def, show (tI τ 5 0).2.1 6 k = nI f from ef, form_in hr hk, form_in hr hk', ef, ef', kind_in h hf, left_in h hf, gd_in (by omega) (by decide), gd_in (by omega) (by decide), gd_in (by omega) (by decide), ni_cl (by omega), ni_cl (by omega), show (tI τ 5 0).2.1 6 k' = nI f' from ef']
    unfold B_X6_useImplication_52 B_X6_useImplication_53 B_X7_useImplication_48 B_X7_useImplication_49 B_X7_useImplication_65
    by_cases kk : Kn τ f = 67
    · obtain ⟨x, y, hx, hy, ex, ey⟩ := bin_of (h.ent hf) (Or.inr (Or.inr kk))
      rw [if_pos kk, if_pos (show (tI τ 5 0).2.1 0 f = 67 from kk), ex, show (tI τ 5 0).2.1 1 f = nI x from ex]
      by_cases kx : x = f'
      · subst kx
        rw [if_pos rfl, if_pos rfl, shape_1, bd_some, lt_def, if_neg i10]
        by_cases hm2 : m < 60
        · obtain ⟨σ', τ', g1, g2, g3, g4⟩ := cite_ok (h.thr 0) (hr.thr 0) hm2 (show y < n by omega) (c := 109) (by decide) (ix60 hr hk) (ix60 hr hk')
          rw [room_ok hr hm2, bd_some, if_neg (show ¬ (tI τ 5 0).1 1 = 60 from full_no hr hm2), gd_in (by omega) (by decide), ni_cl (by omega), right_in h hf, ey, show (tI τ 5 0).2.1 2 f = nI y from ey, g1, g2]
          exact ag_ret rfl rfl g3 g4
        · rw [room_no hr hm2, bd_exc, if_pos (show (tI τ 5 0).1 1 = 60 from full_yes hr hm2), if_neg i10, raises_eq]
          exact ag_exc rfl rfl rfl rfl (by decide) ((hI.thr 0).thr 4)
      · rw [if_neg (fun z => kx (by rw [ni_eq (by omega) (by omega)] at z; exact z.symm)), if_neg (fun z => kx (by rw [ni_eq (by omega) (by omega)] at z; exact z)), shape_0, bd_exc, lt_def, if_pos rfl, if_pos rfl, raises_eq]
        exact ag_exc rfl rfl rfl rfl (by decide) ((hI.thr 0).thr 3)
    · rw [if_neg kk, if_neg (show ¬ (tI τ 5 0).2.1 0 f = 67 from kk), shape_0, bd_exc, lt_def, if_pos rfl, if_pos rfl, raises_eq]
      exact ag_exc rfl rfl rfl rfl (by decide) ((hI.thr 0).thr 3)
  · rw [e1, bd_exc, e2, bd_some, if_neg i10]
    exact ag_exc rfl rfl rfl rfl (by decide) (hI.thr 2)
  · rw [e1, bd_exc, e2, bd_some, if_neg i10]
    exact ag_exc rfl rfl rfl rfl (by decide) (hI.thr 1)
