/-! CALLS OF THE PROOF, the rest of the rules -/
theorem ag21 : AG21 Rel := by
  intro σ τ w a b hI
  obtain ⟨n, m, q, e, h, hr⟩ := id hI
  have hm := hr.m60
  have hle := h.le
  unfold W_L_useNegation P_X6_useNegation P_X7_useNegation
  rcases two_gate hr a b with ⟨k, k', hk, hk', rfl, rfl, e1, e2⟩ | ⟨e1, e2⟩ | ⟨e1, e2⟩
  · obtain ⟨f, hf, ef⟩ := form_ix hr hk
    obtain ⟨f', hf', ef'⟩ := form_ix hr hk'
    rw [e1, bd_some, e2, bd_some, if_pos rfl, lt_def, gd_in (by omega) (by decide), ni_cl (by omega), lt_def, show (tI τ 5 0).2.1 6 k = nI f from ef, form_in hr hk, form_in hr hk', ef, ef', kind_in h hf, left_in h hf, gd_in (by omega) (by decide), gd_in (by omega) (by decide), gd_in (by omega) (by decide), ni_cl (by omega), ni_cl (by omega), show (tI τ 5 0).2.1 6 k' = nI f' from ef']
    unfold B_X6_useNegation_52 B_X6_useNegation_53 B_X7_useNegation_48 B_X7_useNegation_49
    by_cases kk : Kn τ f = 78
    · obtain ⟨x, hx, ex, -⟩ := neg_of (h.ent hf) kk
      rw [if_pos kk, if_pos (show (tI τ 5 0).2.1 0 f = 78 from kk), ex, show (tI τ 5 0).2.1 1 f = nI x from ex]
      by_cases kx : x = f'
      · subst kx
        rw [if_pos rfl, if_pos rfl, shape_1, bd_some, lt_def, if_neg i10]
        by_cases hm2 : m < 60
        · rw [room_ok hr hm2, bd_some]
          rcases made_line (h.thr 0) (hr.thr 0) hm2 (c := 70) (l := -1) (r := -1) (Or.inl ⟨by unfold leafK; decide, rfl, rfl⟩) with ⟨σ1, τ1, n', g, hg, hn, p1, p2, p3, p4, p5⟩ | ⟨σ1, τ1, p1, p2, p3, p5⟩
          · obtain ⟨σ', τ', g1, g2, g3, g4⟩ := cite_ok p3 p4 hm2 hg (c := 110) (by decide) (ix60 hr hk) (ix60 hr hk')
            rw [p1, bd_some, p2, bd_some, lt_def, g1, p5, g2]
            exact ag_ret rfl rfl g3 g4
          · rw [p1, bd_some, p2, bd_exc, p5]
            exact ag_exc rfl rfl rfl rfl (by decide) (p3.thr 4)
        · rw [room_no hr hm2, bd_exc]
          unfold P_X7_entersMade
          rw [if_pos (show (tI τ 5 0).1 1 = 60 from full_yes hr hm2), raises_eq]
          exact ag_exc rfl rfl rfl rfl (by decide) ((hI.thr 0).thr 4)
      · rw [if_neg (fun z => kx (by rw [ni_eq (by omega) (by omega)] at z; exact z.symm)), if_neg (fun z => kx (by rw [ni_eq (by omega) (by omega)] at z; exact z)), shape_0, bd_exc, lt_def, if_pos rfl, raises_eq]
        exact ag_exc rfl rfl rfl rfl (by decide) ((hI.thr 0).thr 3)
    · rw [if_neg kk, if_neg (show ¬ (tI τ 5 0).2.1 0 f = 78 from kk), shape_0, bd_exc, lt_def, if_pos rfl, raises_eq]
      exact ag_exc rfl rfl rfl rfl (by decide) ((hI.thr 0).thr 3)
  · rw [e1, bd_exc, e2, bd_some, if_neg i10]
    exact ag_exc rfl rfl rfl rfl (by decide) (hI.thr 2)
  · rw [e1, bd_exc, e2, bd_some, if_neg i10]
    exact ag_exc rfl rfl rfl rfl (by decide) (hI.thr 1)
theorem ag22 : AG22 Rel := by
  intro σ τ w a b hI
  obtain ⟨n, m, q, e, h, hr⟩ := id hI
  have hm := hr.m60
  have hle := h.le
  unfold W_L_fromFalsum P_X6_fromFalsum P_X7_fromFalsum
  unfold B_X6_fromFalsum_41 B_X7_fromFalsum_17 B_X7_fromFalsum_67
  rcases gate hr a with ⟨k, hk, rfl, e1, e2, e3, e4⟩ | ⟨k, hk, rfl, e1, e2, e3, e4⟩ | ⟨e1, e4⟩
  · rcases ix_cases n (by omega) b with ⟨g, hg, rfl⟩ | hb
    · obtain ⟨f, hf, ef⟩ := form_ix hr hk
      rw [e1, bd_some, reqF_in h hg, bd_some, e2, bd_some, e4, if_neg i10, isF_in h hg, if_neg i10, e3, bd_some, if_neg i10, form_in hr hk, ef, kind_in h hf, gd_in (by omega) (by decide), ni_cl (by omega), ef, gd_in (by omega) (by decide), ni_cl (by omega)]
      by_cases kk : Kn τ f = 70
      · rw [if_pos kk, if_pos (show τ.2.1 0 f = 70 from kk), shape_1, bd_some]
        by_cases hm2 : m < 60
        · obtain ⟨σ', τ', g1, g2, g3, g4⟩ := cite_ok (h.thr 0) (hr.thr 0) hm2 hg (c := 120) (by decide) (ix60 hr hk) (Or.inl rfl)
          rw [room_ok hr hm2, bd_some, if_neg (full_no hr hm2), lt_def, thr_le, g1, g2]
          exact ag_ret rfl rfl g3 g4
        · rw [room_no hr hm2, bd_exc, if_pos (full_yes hr hm2), lt_def, thr_4]
          exact ag_exc rfl rfl rfl rfl (by decide) (hI.thr 4)
      · rw [if_neg kk, if_neg (show ¬ τ.2.1 0 f = 70 from kk), shape_0, bd_exc, lt_def, thr_3]
        exact ag_exc rfl rfl rfl rfl (by decide) (hI.thr 3)
    · rw [e1, bd_some, reqF_no h hb, bd_exc, e4, if_neg i10, isF_no h hb, if_pos rfl, lt_def, thr_1]
      exact ag_exc rfl rfl rfl rfl (by decide) (hI.thr 1)
  · rcases ix_cases n (by omega) b with ⟨g, hg, rfl⟩ | hb
    · rw [e1, bd_some, reqF_in h hg, bd_some, e2, bd_exc, e4, if_neg i10, isF_in h hg, if_neg i10, e3, bd_some, if_pos rfl, lt_def, thr_2]
      exact ag_exc rfl rfl rfl rfl (by decide) (hI.thr 2)
    · rw [e1, bd_some, reqF_no h hb, bd_exc, e4, if_neg i10, isF_no h hb, if_pos rfl, lt_def, thr_1]
      exact ag_exc rfl rfl rfl rfl (by decide) (hI.thr 1)
  · rw [e1, bd_exc, e4, if_pos rfl, lt_def, thr_1]
    exact ag_exc rfl rfl rfl rfl (by decide) (hI.thr 1)
theorem ag23 : AG23 Rel := by
  intro σ τ w a hI
  obtain ⟨n, m, q, e, h, hr⟩ := id hI
  have hm := hr.m60
  have hle := h.le
  unfold W_L_doubleNegation P_X6_doubleNegation P_X7_doubleNegation
  unfold B_X6_doubleNegation_59 B_X6_doubleNegation_60 B_X7_doubleNegation_48 B_X7_doubleNegation_49 B_X7_doubleNegation_63
  rcases gate hr a with ⟨k, hk, rfl, e1, e2, e3, e4⟩ | ⟨k, hk, rfl, e1, e2, e3, e4⟩ | ⟨e1, e4⟩
  · obtain ⟨f, hf, ef⟩ := form_ix hr hk
    rw [e1, bd_some, e2, bd_some, cc_ok e4 e3, bd_some, if_pos rfl, gd_in (by omega) (by decide), ni_cl (by omega), show (tI τ 5 0).2.1 6 k = nI f from ef, lt_def, lt_def, lt_def, form_in hr hk, ef, kind_in h hf, left_in h hf, gd_in (by omega) (by decide), gd_in (by omega) (by decide), ni_cl (by omega)]
    by_cases kk : Kn τ f = 78
    · obtain ⟨x, hx, ex, -⟩ := neg_of (h.ent hf) kk
      rw [if_pos kk, if_pos (show (tI τ 5 0).2.1 0 f = 78 from kk), ex, show (tI τ 5 0).2.1 1 f = nI x from ex, kind_in h (show x < n by omega), gd_in (by omega) (by decide), ni_cl (by omega)]
      by_cases kx : Kn τ x = 78
      · obtain ⟨y, hy, ey, -⟩ := neg_of (h.ent (show x < n by omega)) kx
        rw [if_pos kx, if_pos (show (tI τ 5 0).2.1 0 x = 78 from kx), shape_1, bd_some, lt_def, if_neg i10]
        by_cases hm2 : m < 60
        · obtain ⟨σ', τ', g1, g2, g3, g4⟩ := cite_ok (h.thr 0) (hr.thr 0) hm2 (show y < n by omega) (c := 100) (by decide) (ix60 hr hk) (Or.inl rfl)
          rw [room_ok hr hm2, bd_some, if_neg (show ¬ (tI τ 5 0).1 1 = 60 from full_no hr hm2), gd_in (by omega) (by decide), gd_in (by omega) (by decide), show (tI τ 5 0).2.1 1 x = nI y from ey, left_in h (show x < n by omega), ey, g1, g2]
          exact ag_ret rfl rfl g3 g4
        · rw [room_no hr hm2, bd_exc, if_pos (show (tI τ 5 0).1 1 = 60 from full_yes hr hm2), if_neg i10, raises_eq]
          exact ag_exc rfl rfl rfl rfl (by decide) ((hI.thr 0).thr 4)
      · rw [if_neg kx, if_neg (show ¬ (tI τ 5 0).2.1 0 x = 78 from kx), shape_0, bd_exc, lt_def, if_pos rfl, if_pos rfl, raises_eq]
        exact ag_exc rfl rfl rfl rfl (by decide) ((hI.thr 0).thr 3)
    · rw [if_neg kk, if_neg (show ¬ (tI τ 5 0).2.1 0 f = 78 from kk), shape_0, bd_exc, lt_def, if_pos rfl, if_pos rfl, raises_eq]
      exact ag_exc rfl rfl rfl rfl (by decide) ((hI.thr 0).thr 3)
  · rw [e1, bd_some, e2, bd_exc, cc_bad e4 e3, bd_some, if_neg i10]
    exact ag_exc rfl rfl rfl rfl (by decide) (hI.thr 2)
  · rw [e1, bd_exc, cc_no e4, bd_some, if_neg i10]
    exact ag_exc rfl rfl rfl rfl (by decide) (hI.thr 1)
theorem ag10 : AG10 Rel := by
  intro σ τ w a hI
  obtain ⟨n, m, q, e, h, hr⟩ := id hI
  have hm := hr.m60
  have hle := h.le
  have hin := hr.inn
  unfold W_L_premise P_X6_premise P_X7_premise
  unfold B_X6_premise_22 B_X7_premise_39
  rcases ix_cases n (by omega) a with ⟨f, hf, rfl⟩ | ha
  · rw [reqF_in h hf, bd_some, isF_in h hf, if_neg i10, hin]
    by_cases hi : τ.1 3 = -1
    · rw [if_pos hi, if_pos hi, shape_1, bd_some]
      by_cases hm2 : m < 60
      · obtain ⟨σ', τ', g1, g2, g3, g4⟩ := plain_ok (h.thr 0) (hr.thr 0) hm2 hf (c := 80) (by decide)
        rw [room_ok hr hm2, bd_some, if_neg (full_no hr hm2), lt_def, thr_le, g1, g2]
        exact ag_ret rfl rfl g3 g4
      · rw [room_no hr hm2, bd_exc, if_pos (full_yes hr hm2), lt_def, thr_3]
        exact ag_exc rfl rfl rfl rfl (by decide) (hI.thr 3)
    · rw [if_neg hi, if_neg hi, shape_0, bd_exc, lt_def, thr_2]
      exact ag_exc rfl rfl rfl rfl (by decide) (hI.thr 2)
  · rw [reqF_no h ha, bd_exc, isF_no h ha, if_pos rfl, lt_def, thr_1]
    exact ag_exc rfl rfl rfl rfl (by decide) (hI.thr 1)
theorem ag16 : AG16 Rel := by
  intro σ τ w a b c hI
  obtain ⟨n, m, q, e, h, hr⟩ := id hI
  have hm := hr.m60
  have hle := h.le
  unfold W_L_makeDisjunction P_X6_makeDisjunction P_X7_makeDisjunction
  unfold B_X6_makeDisjunction_60 B_X7_makeDisjunction_17 B_X7_makeDisjunction_34 B_X7_makeDisjunction_67 B_X7_makeDisjunction_77
  rcases gate hr a with ⟨k, hk, rfl, e1, e2, e3, e4⟩ | ⟨k, hk, rfl, e1, e2, e3, e4⟩ | ⟨e1, e4⟩
  · rcases ix_cases n (by omega) b with ⟨g, hg, rfl⟩ | hb
    · obtain ⟨f, hf, ef⟩ := form_ix hr hk
      rw [e1, bd_some, reqF_in h hg, bd_some, e2, bd_some, e4, if_neg i10, isF_in h hg, if_neg i10, e3, bd_some, if_neg i10, lt_def, thr_le, gd_in (by omega) (by decide), ni_cl (by omega), show (tI τ 5 0).2.1 6 k = nI f from ef, lt_def]
      by_cases hm2 : m < 60
      · rw [room_ok hr hm2, bd_some, lt_def, form_in hr hk, ef]
        by_cases hc : c = 0
        · simp only [if_pos hc]
          rcases made_line (h.thr 0) (hr.thr 0) hm2 (c := 65) (l := nI f) (r := nI g) (Or.inr (Or.inr ⟨f, g, Or.inr (Or.inl rfl), hf, hg, rfl, rfl⟩)) with ⟨σ1, τ1, n', x, hx, hn, p1, p2, p3, p4, p5⟩ | ⟨σ1, τ1, p1, p2, p3, p5⟩
          · obtain ⟨σ', τ', g1, g2, g3, g4⟩ := cite_ok p3 p4 hm2 hx (c := 97) (by decide) (ix60 hr hk) (Or.inl rfl)
            rw [p1, bd_some, p2, bd_some, lt_def, g1, p5, g2]
            exact ag_ret rfl rfl g3 g4
          · rw [p1, bd_some, p2, bd_exc, p5]
            exact ag_exc rfl rfl rfl rfl (by decide) (p3.thr 3)
        · simp only [if_neg hc]
          rcases made_line (h.thr 0) (hr.thr 0) hm2 (c := 65) (l := nI g) (r := nI f) (Or.inr (Or.inr ⟨g, f, Or.inr (Or.inl rfl), hg, hf, rfl, rfl⟩)) with ⟨σ1, τ1, n', x, hx, hn, p1, p2, p3, p4, p5⟩ | ⟨σ1, τ1, p1, p2, p3, p5⟩
          · obtain ⟨σ', τ', g1, g2, g3, g4⟩ := cite_ok p3 p4 hm2 hx (c := 98) (by decide) (ix60 hr hk) (Or.inl rfl)
            rw [p1, bd_some, p2, bd_some, lt_def, g1, p5, g2]
            exact ag_ret rfl rfl g3 g4
          · rw [p1, bd_some, p2, bd_exc, p5]
            exact ag_exc rfl rfl rfl rfl (by decide) (p3.thr 3)
      · rw [room_no hr hm2, bd_exc]
        unfold P_X7_entersMade
        simp only [if_pos (show (tI τ 5 0).1 1 = 60 from full_yes hr hm2), raises_eq, bd_some, ite_self]
        exact ag_exc rfl rfl rfl rfl (by decide) ((hI.thr 0).thr 3)
    · rw [e1, bd_some, reqF_no h hb, bd_exc, e4, if_neg i10, isF_no h hb, if_pos rfl, lt_def, thr_1]
      exact ag_exc rfl rfl rfl rfl (by decide) (hI.thr 1)
  · rcases ix_cases n (by omega) b with ⟨g, hg, rfl⟩ | hb
    · rw [e1, bd_some, reqF_in h hg, bd_some, e2, bd_exc, e4, if_neg i10, isF_in h hg, if_neg i10, e3, bd_some, if_pos rfl, lt_def, thr_2]
      exact ag_exc rfl rfl rfl rfl (by decide) (hI.thr 2)
    · rw [e1, bd_some, reqF_no h hb, bd_exc, e4, if_neg i10, isF_no h hb, if_pos rfl, lt_def, thr_1]
      exact ag_exc rfl rfl rfl rfl (by decide) (hI.thr 1)
  · rw [e1, bd_exc, e4, if_pos rfl, lt_def, thr_1]
    exact ag_exc rfl rfl rfl rfl (by decide) (hI.thr 1)
