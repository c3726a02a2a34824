/-! THE RULE OF TWO BOXES; DEPTH -/
theorem ag17 : AG17 Rel := by
  intro σ τ w a b c hI
  obtain ⟨n, m, q, e, h, hr⟩ := id hI
  have hm := hr.m60
  have hq := hr.q60
  have hle := h.le
  unfold W_L_useDisjunction P_X6_useDisjunction P_X7_useDisjunction
  unfold B_X6_useDisjunction_60 B_X6_useDisjunction_108 B_X6_useDisjunction_109 B_X6_useDisjunction_137 B_X7_useDisjunction_25 B_X7_useDisjunction_53 B_X7_useDisjunction_58 B_X7_useDisjunction_149 B_X7_useDisjunction_150
  rcases ix_cases m (by omega) a with ⟨k, hk, rfl⟩ | ha
  · rcases ix_cases q (by omega) b with ⟨b1, hb1, rfl⟩ | hb
    · rcases ix_cases q (by omega) c with ⟨b2, hb2, rfl⟩ | hc
      · rw [reqL_in hr hk, bd_some, reqB_in hr hb1, bd_some, reqB_in hr hb2, bd_some, isL_in hr hk, if_neg i10, isB_in hr hb1, if_neg i10, isB_in hr hb2, if_neg i10]
        rcases gate hr (nI k) with ⟨_, _, _, _, e2, e3, _⟩ | ⟨_, _, _, _, e2, e3, _⟩ | ⟨e1, _⟩
        · rcases gateB hr (nI b1) with ⟨_, _, _, _, f2, f3, _⟩ | ⟨_, _, _, _, f2, f3, _⟩ | ⟨f1, _⟩
          · rcases gateB hr (nI b2) with ⟨_, _, _, _, g2, g3, _⟩ | ⟨_, _, _, _, g2, g3, _⟩ | ⟨g1, _⟩
            · obtain ⟨f, hf, ef⟩ := form_ix hr hk
              obtain ⟨k1, x1, hk1, hx1, y1, y2, y3⟩ := begin_in hr hb1
              obtain ⟨k2, x2, hk2, hx2, z1, z2, z3⟩ := begin_in hr hb2
              obtain ⟨r1, hr1, v1, v2⟩ := result_in (hr.thr 0) hb1
              obtain ⟨r2, hr2, u1, u2⟩ := result_in (hr.thr 0) hb2
              rw [e2, bd_some, f2, bd_some, g2, bd_some, e3, bd_some, if_neg i10, f3, bd_some, if_neg i10, g3, bd_some, if_neg i10, lt_def, lt_def, thr_le, form_in hr hk, ef, kind_in h hf, gd_in (show k < 60 by omega) (by decide), lt_def, ni_cl (show k < 2147483648 by omega), show (tI τ 5 0).2.1 6 k = nI f from ef, gd_in (show f < 150 by omega) (by decide), ni_cl (show f < 2147483648 by omega)]
              by_cases kk : Kn τ f = 65
              · obtain ⟨x, y, hx, hy, ex, ey⟩ := bin_of (h.ent hf) (Or.inr (Or.inl kk))
                rw [if_pos kk, if_pos (show (tI τ 5 0).2.1 0 f = 65 from kk), shape_1, bd_some, y3, z3, left_in h hf, right_in h hf, ex, ey, gd_in (show b1 < 60 by omega) (by decide), ni_cl (show b1 < 2147483648 by omega), show (tI τ 5 0).2.1 11 b1 = nI k1 from y1, gd_in (show k1 < 60 by omega) (by decide), ni_cl (show k1 < 2147483648 by omega), gd_in (show f < 150 by omega) (by decide), show (tI τ 5 0).2.1 6 k1 = nI x1 from y2, show (tI τ 5 0).2.1 1 f = nI x from ex, gd_in (show b2 < 60 by omega) (by decide), ni_cl (show b2 < 2147483648 by omega), show (tI τ 5 0).2.1 11 b2 = nI k2 from z1, gd_in (show k2 < 60 by omega) (by decide), ni_cl (show k2 < 2147483648 by omega), gd_in (show f < 150 by omega) (by decide), show (tI τ 5 0).2.1 6 k2 = nI x2 from z2, show (tI τ 5 0).2.1 2 f = nI y from ey, v2, bd_some, u2, bd_some]
                have bad : AgW okI Rel (wrT [("java/lang/IndexOutOfBoundsException", 1), ("java/util/NoSuchElementException", 2), ("java/lang/UnsupportedOperationException", 3), ("java/lang/IllegalStateException", 4)] stI (some (.inr "java/lang/UnsupportedOperationException", σ) : Res DS Int32) w) (some (.inl 0, tI (tI τ 5 0) 5 3)) := ag_exc rfl rfl rfl rfl (by decide) ((hI.thr 0).thr 3)
                by_cases q1 : nI x1 = nI x
                · rw [if_pos q1, if_pos q1]
                  by_cases q2 : nI x2 = nI y
                  · rw [if_pos q2, if_pos q2, shape_1, bd_some, v1, u1]
                    by_cases q3 : nI r1 = nI r2
                    · rw [if_pos q3, if_pos q3, shape_1, bd_some, lt_def, if_neg i10]
                      by_cases hm2 : m < 60
                      · obtain ⟨s, σ', τ', g1, g2, g3, g4, g5⟩ := citeB_ok (h.thr 0) (hr.thr 0) hm2 hr1 (c := 118) (a3 := nI k) (a4 := -1) (a5 := nI b1) (a6 := nI b2) (by decide) (ix60 hr hk) (Or.inl rfl) (Or.inr ⟨b1, hb1, rfl⟩) (Or.inr ⟨b2, hb2, rfl⟩)
                        rw [room_ok hr hm2, bd_some, if_neg (show ¬ (tI τ 5 0).1 1 = 60 from full_no hr hm2), v2, bd_some, v1, g1, bd_some, lt_def, g2, g3]
                        exact ag_ret rfl rfl g4 g5
                      · rw [room_no hr hm2, bd_exc, if_pos (show (tI τ 5 0).1 1 = 60 from full_yes hr hm2), if_neg i10, raises_eq]
                        exact ag_exc rfl rfl rfl rfl (by decide) ((hI.thr 0).thr 4)
                    · rw [if_neg q3, if_neg q3, shape_0, bd_exc, lt_def, if_pos rfl, if_pos rfl, raises_eq]
                      exact bad
                  · rw [if_neg q2, if_neg q2, shape_0, bd_exc, lt_def, if_pos rfl, if_pos rfl, raises_eq]
                    exact bad
                · rw [if_neg q1, if_neg q1, shape_0, bd_exc, lt_def, if_pos rfl, if_pos rfl, raises_eq]
                  exact bad
              · rw [if_neg kk, if_neg (show ¬ (tI τ 5 0).2.1 0 f = 65 from kk), shape_0, bd_exc, lt_def, if_pos rfl, if_pos rfl, raises_eq]
                exact ag_exc rfl rfl rfl rfl (by decide) ((hI.thr 0).thr 3)
            · rw [e2, bd_some, f2, bd_some, g2, bd_exc, e3, bd_some, if_neg i10, f3, bd_some, if_neg i10, g3, bd_some, if_pos rfl, lt_def, thr_2]
              exact ag_exc rfl rfl rfl rfl (by decide) (hI.thr 2)
            · rw [reqB_in hr hb2] at g1; cases g1
          · rw [e2, bd_some, f2, bd_exc, e3, bd_some, if_neg i10, f3, bd_some, if_pos rfl, lt_def, thr_2]
            exact ag_exc rfl rfl rfl rfl (by decide) (hI.thr 2)
          · rw [reqB_in hr hb1] at f1; cases f1
        · rw [e2, bd_exc, e3, bd_some, if_pos rfl, lt_def, thr_2]
          exact ag_exc rfl rfl rfl rfl (by decide) (hI.thr 2)
        · rw [reqL_in hr hk] at e1; cases e1
      · rw [reqL_in hr hk, bd_some, reqB_in hr hb1, bd_some, reqB_no hr hc, bd_exc, isL_in hr hk, if_neg i10, isB_in hr hb1, if_neg i10, isB_no hr hc, if_pos rfl, lt_def, thr_1]
        exact ag_exc rfl rfl rfl rfl (by decide) (hI.thr 1)
    · rw [reqL_in hr hk, bd_some, reqB_no hr hb, bd_exc, isL_in hr hk, if_neg i10, isB_no hr hb, if_pos rfl, lt_def, thr_1]
      exact ag_exc rfl rfl rfl rfl (by decide) (hI.thr 1)
  · rw [reqL_no hr ha, bd_exc, isL_no hr ha, if_pos rfl, lt_def, thr_1]
    exact ag_exc rfl rfl rfl rfl (by decide) (hI.thr 1)
section DEP
variable {n m q e : Nat} {σ : DS} {τ : MS}
/-- the depth: a box's outer one has a smaller number -/
theorem depth_loop (h : RW n m q e σ τ) : ∀ (d : Nat) (v : Int32) (c N N' : Nat), IxN d v → d ≤ q → c + d ≤ 60 → d < N → d < N' → ∃ r, L_X2_depth_8 N σ v (nI c) = some (.inl r, σ) ∧ L_X7_depthOf_17 N' τ (nI c) v = some (.inl r, τ) := by
  have hq := h.q60
  intro d
  induction d with
  | zero =>
    intro v c N N' hv hd hc hN hN'
    obtain ⟨N, rfl⟩ : ∃ M, N = M + 1 := ⟨N - 1, by omega⟩
    obtain ⟨N', rfl⟩ : ∃ M, N' = M + 1 := ⟨N' - 1, by omega⟩
    rcases hv with rfl | ⟨b, hb, -⟩
    · exact ⟨nI c, (by show B_X2_depth_8 _ _ _ _ = _; unfold B_X2_depth_8; rw [if_pos rfl]), (by show B_X7_depthOf_17 _ _ _ _ = _; unfold B_X7_depthOf_17; rw [if_pos rfl])⟩
    · exact absurd hb (Nat.not_lt_zero _)
  | succ d ih =>
    intro v c N N' hv hd hc hN hN'
    obtain ⟨N, rfl⟩ : ∃ M, N = M + 1 := ⟨N - 1, by omega⟩
    obtain ⟨N', rfl⟩ : ∃ M, N' = M + 1 := ⟨N' - 1, by omega⟩
    rcases hv with rfl | ⟨b, hb, rfl⟩
    · exact ⟨nI c, (by show B_X2_depth_8 _ _ _ _ = _; unfold B_X2_depth_8; rw [if_pos rfl]), (by show B_X7_depthOf_17 _ _ _ _ = _; unfold B_X7_depthOf_17; rw [if_pos rfl])⟩
    · obtain ⟨-, -, -, -, o1, o2, -⟩ := h.bx (show b < q by omega)
      obtain ⟨r, e1, e2⟩ := ih (τ.2.1 9 b) (c + 1) N N' (o2.mono (by omega)) (by omega) (by omega) (by omega) (by omega)
      refine ⟨r, ?_, ?_⟩
      · show B_X2_depth_8 (L_X2_depth_8 N) σ (nI b) (nI c) = _
        unfold B_X2_depth_8
        rw [if_neg (ni_ne (by omega)), show (60 : Int32) = nI 60 from rfl, if_neg (nI_ge (by omega) (by decide)), lt_def, lt_def, rat_in (by omega) (by decide), o1, ni_add1]
        exact e1
      · show B_X7_depthOf_17 (L_X7_depthOf_17 N') τ (nI c) (nI b) = _
        unfold B_X7_depthOf_17
        rw [if_neg (ni_ne (by omega)), lt_def, gd_in (by omega) (by decide), lt_def, ni_cl (by omega), ni_add1]
        exact e2
end DEP
theorem ag32 : AG32 Rel := by
  intro σ τ w a hI
  obtain ⟨n, m, q, e, h, hr⟩ := id hI
  have hm := hr.m60
  have hq := hr.q60
  unfold W_L_depthOf P_X6_depthOf P_X7_depthOf P_X2_depth
  rcases ix_cases m (by omega) a with ⟨k, hk, rfl⟩ | ha
  · obtain ⟨r, e1, e2⟩ := depth_loop (hr.thr 0) q (τ.2.1 8 k) 0 FU FU (hr.ln hk).2.2.2.2.2.1 (Nat.le_refl _) (by omega) (by unfold FU; omega) (by unfold FU; omega)
    rw [reqL_in hr hk, bd_some, lt_def, lt_def, lt_def, lacksL_in hr hk, bd_some, if_pos rfl, gd_in (by omega) (by decide), lt_def, ni_cl (by omega), inn_in hr hk]
    rw [show (0 : Int32) = nI 0 from rfl, e1, bd_some]
    exact ag_ret rfl e2 rfl (hI.thr 0)
  · rw [reqL_no hr ha, bd_exc, lt_def, lacksL_no hr ha, bd_some, if_neg i10]
    exact ag_exc rfl rfl rfl rfl (by decide) (hI.thr 1)
