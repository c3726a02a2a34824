/-! CALLS OF THE PROOF: both sides -/
section OPS1
variable {n m q e : Nat} {σ : DS} {τ : MS}
theorem thr_le {α : Type} (X Y : α) : (if (tI τ 5 0).1 5 ≤ (0 : Int32) then X else Y) = X := if_pos (show (0 : Int32) ≤ 0 by decide)
theorem thr_1 {α : Type} (X Y : α) : (if (tI τ 5 1).1 5 ≤ (0 : Int32) then X else Y) = Y := if_neg (show ¬ (1 : Int32) ≤ 0 by decide)
theorem thr_2 {α : Type} (X Y : α) : (if (tI τ 5 2).1 5 ≤ (0 : Int32) then X else Y) = Y := if_neg (show ¬ (2 : Int32) ≤ 0 by decide)
theorem thr_3 {α : Type} (X Y : α) : (if (tI τ 5 3).1 5 ≤ (0 : Int32) then X else Y) = Y := if_neg (show ¬ (3 : Int32) ≤ 0 by decide)
theorem thr_4 {α : Type} (X Y : α) : (if (tI τ 5 4).1 5 ≤ (0 : Int32) then X else Y) = Y := if_neg (show ¬ (4 : Int32) ≤ 0 by decide)
theorem i10 : ¬ (1 : Int32) = 0 := by decide
theorem gate (h : RW n m q e σ τ) (a : Int32) : (∃ k, k < m ∧ a = nI k ∧ P_X6_requireLine σ a = some (.inl (), σ) ∧ P_X6_requireCitable σ a = some (.inl (), σ) ∧ P_X7_mayCite τ a = some (.inl 1, τ) ∧ F_X7_isLine τ a = 1) ∨ (∃ k, k < m ∧ a = nI k ∧ P_X6_requireLine σ a = some (.inl (), σ) ∧ P_X6_requireCitable σ a = some (.inr "java/util/NoSuchElementException", σ) ∧ P_X7_mayCite τ a = some (.inl 0, τ) ∧ F_X7_isLine τ a = 1) ∨ (P_X6_requireLine σ a = some (.inr "java/lang/IndexOutOfBoundsException", σ) ∧ F_X7_isLine τ a = 0) := by
  have := h.m60
  rcases ix_cases m (by omega) a with ⟨k, hk, rfl⟩ | ha
  · obtain ⟨c, hc, e1, e2⟩ := cit_ok h hk
    rcases hc with rfl | rfl
    · refine Or.inr (Or.inl ⟨k, hk, rfl, reqL_in h hk, ?_, e2, isL_in h hk⟩)
      unfold P_X6_requireCitable
      rw [e1, if_pos rfl]
    · refine Or.inl ⟨k, hk, rfl, reqL_in h hk, ?_, e2, isL_in h hk⟩
      unfold P_X6_requireCitable
      rw [e1, if_neg i10]
  · exact Or.inr (Or.inr ⟨reqL_no h ha, isL_no h ha⟩)
theorem gateB (h : RW n m q e σ τ) (a : Int32) : (∃ k, k < q ∧ a = nI k ∧ P_X6_requireBox σ a = some (.inl (), σ) ∧ P_X6_requireCitableBox σ a = some (.inl (), σ) ∧ P_X7_mayCiteBox τ a = some (.inl 1, τ) ∧ F_X7_isBox τ a = 1) ∨ (∃ k, k < q ∧ a = nI k ∧ P_X6_requireBox σ a = some (.inl (), σ) ∧ P_X6_requireCitableBox σ a = some (.inr "java/util/NoSuchElementException", σ) ∧ P_X7_mayCiteBox τ a = some (.inl 0, τ) ∧ F_X7_isBox τ a = 1) ∨ (P_X6_requireBox σ a = some (.inr "java/lang/IndexOutOfBoundsException", σ) ∧ F_X7_isBox τ a = 0) := by
  have := h.q60
  rcases ix_cases q (by omega) a with ⟨k, hk, rfl⟩ | ha
  · obtain ⟨c, hc, e1, e2⟩ := citB_ok h hk
    rcases hc with rfl | rfl
    · refine Or.inr (Or.inl ⟨k, hk, rfl, reqB_in h hk, ?_, e2, isB_in h hk⟩)
      unfold P_X6_requireCitableBox
      rw [e1, if_pos rfl]
    · refine Or.inl ⟨k, hk, rfl, reqB_in h hk, ?_, e2, isB_in h hk⟩
      unfold P_X6_requireCitableBox
      rw [e1, if_neg i10]
  · exact Or.inr (Or.inr ⟨reqB_no h ha, isB_no h ha⟩)
theorem room_ok (h : RW n m q e σ τ) (hm : m < 60) : P_X6_requireRoom σ = some (.inl (), σ) := by
  unfold P_X6_requireRoom
  rw [h.mc]
  exact if_pos (nI_lt hm (by decide))
theorem room_no (h : RW n m q e σ τ) (hm : ¬ m < 60) : P_X6_requireRoom σ = some (.inr "java/lang/IllegalStateException", σ) := by
  have := h.m60
  unfold P_X6_requireRoom
  rw [h.mc]
  exact if_neg (show ¬ nI m < nI 60 from nI_nlt (by omega) (by omega))
theorem full_no (h : RW n m q e σ τ) (hm : m < 60) : ¬ τ.1 1 = 60 := by
  rw [h.mc7, show (60 : Int32) = nI 60 from rfl, ni_eq (by omega) (by decide)]
  omega
theorem full_yes (h : RW n m q e σ τ) (hm : ¬ m < 60) : τ.1 1 = 60 := by
  have := h.m60
  rw [h.mc7, show m = 60 by omega]
  rfl
theorem shape_1 : P_X6_requireShape σ 1 = some (.inl (), σ) := rfl
theorem shape_0 : P_X6_requireShape σ 0 = some (.inr "java/lang/UnsupportedOperationException", σ) := rfl
theorem ix60 (h : RW n m q e σ τ) {k : Nat} (hk : k < m) : IxN 60 (nI k) := Or.inr ⟨k, by have := h.m60; omega, rfl⟩
/-- the words of two lines -/
theorem cc_no {a : Int32} (e4 : F_X7_isLine τ a = 0) : P_X7_cannotCite τ a = some (.inl 1, tI τ 5 1) := by
  unfold P_X7_cannotCite
  rw [e4, if_pos rfl, lt_def, thr_1]
theorem cc_bad {a : Int32} (e4 : F_X7_isLine τ a = 1) (e3 : P_X7_mayCite τ a = some (.inl 0, τ)) : P_X7_cannotCite τ a = some (.inl 1, tI τ 5 2) := by
  unfold P_X7_cannotCite
  rw [e4, if_neg i10, e3, bd_some, if_pos rfl, lt_def, thr_2]
theorem cc_ok {a : Int32} (e4 : F_X7_isLine τ a = 1) (e3 : P_X7_mayCite τ a = some (.inl 1, τ)) : P_X7_cannotCite τ a = some (.inl 0, tI τ 5 0) := by
  unfold P_X7_cannotCite
  rw [e4, if_neg i10, e3, bd_some, if_neg i10, lt_def, thr_le]
theorem cb_no {a : Int32} (e4 : F_X7_isBox τ a = 0) : P_X7_cannotCiteBox τ a = some (.inl 1, tI τ 5 1) := by
  unfold P_X7_cannotCiteBox
  rw [e4, if_pos rfl, lt_def, thr_1]
theorem cb_bad {a : Int32} (e4 : F_X7_isBox τ a = 1) (e3 : P_X7_mayCiteBox τ a = some (.inl 0, τ)) : P_X7_cannotCiteBox τ a = some (.inl 1, tI τ 5 2) := by
  unfold P_X7_cannotCiteBox
  rw [e4, if_neg i10, e3, bd_some, if_pos rfl, lt_def, thr_2]
theorem cb_ok {a : Int32} (e4 : F_X7_isBox τ a = 1) (e3 : P_X7_mayCiteBox τ a = some (.inl 1, τ)) : P_X7_cannotCiteBox τ a = some (.inl 0, tI τ 5 0) := by
  unfold P_X7_cannotCiteBox
  rw [e4, if_neg i10, e3, bd_some, if_neg i10, lt_def, thr_le]
theorem two_gate (h : RW n m q e σ τ) (a b : Int32) : (∃ k k', k < m ∧ k' < m ∧ a = nI k ∧ b = nI k' ∧ P_X6_requireTwoLines σ a b = some (.inl (), σ) ∧ P_X7_cannotCite_ τ a b = some (.inl 0, tI τ 5 0)) ∨ (P_X6_requireTwoLines σ a b = some (.inr "java/util/NoSuchElementException", σ) ∧ P_X7_cannotCite_ τ a b = some (.inl 1, tI τ 5 2)) ∨ (P_X6_requireTwoLines σ a b = some (.inr "java/lang/IndexOutOfBoundsException", σ) ∧ P_X7_cannotCite_ τ a b = some (.inl 1, tI τ 5 1)) := by
  unfold P_X6_requireTwoLines P_X7_cannotCite_
  rcases gate h a with ⟨k, hk, rfl, e1, e2, e3, e4⟩ | ⟨k, hk, rfl, e1, e2, e3, e4⟩ | ⟨e1, e4⟩
  · rcases gate h b with ⟨k', hk', rfl, f1, f2, f3, f4⟩ | ⟨k', hk', rfl, f1, f2, f3, f4⟩ | ⟨f1, f4⟩
    · refine Or.inl ⟨k, k', hk, hk', rfl, rfl, ?_, ?_⟩
      · rw [e1, bd_some, f1, bd_some, e2, bd_some, f2, bd_some]
      · rw [e4, if_neg i10, f4, if_neg i10, e3, bd_some, if_neg i10, f3, bd_some, if_neg i10, lt_def, thr_le]
    · refine Or.inr (Or.inl ⟨?_, ?_⟩)
      · rw [e1, bd_some, f1, bd_some, e2, bd_some, f2, bd_exc]
      · rw [e4, if_neg i10, f4, if_neg i10, e3, bd_some, if_neg i10, f3, bd_some, if_pos rfl]
        unfold B_X7_cannotCite__37
        rw [lt_def, thr_2]
    · refine Or.inr (Or.inr ⟨?_, ?_⟩)
      · rw [e1, bd_some, f1, bd_exc]
      · rw [e4, if_neg i10, f4, if_pos rfl]
        unfold B_X7_cannotCite__17
        rw [lt_def, thr_1]
  · rcases gate h b with ⟨k', hk', rfl, f1, f2, f3, f4⟩ | ⟨k', hk', rfl, f1, f2, f3, f4⟩ | ⟨f1, f4⟩
    · refine Or.inr (Or.inl ⟨?_, ?_⟩)
      · rw [e1, bd_some, f1, bd_some, e2, bd_exc]
      · rw [e4, if_neg i10, f4, if_neg i10, e3, bd_some, if_pos rfl]
        unfold B_X7_cannotCite__37
        rw [lt_def, thr_2]
    · refine Or.inr (Or.inl ⟨?_, ?_⟩)
      · rw [e1, bd_some, f1, bd_some, e2, bd_exc]
      · rw [e4, if_neg i10, f4, if_neg i10, e3, bd_some, if_pos rfl]
        unfold B_X7_cannotCite__37
        rw [lt_def, thr_2]
    · refine Or.inr (Or.inr ⟨?_, ?_⟩)
      · rw [e1, bd_some, f1, bd_exc]
      · rw [e4, if_neg i10, f4, if_pos rfl]
        unfold B_X7_cannotCite__17
        rw [lt_def, thr_1]
  · refine Or.inr (Or.inr ⟨?_, ?_⟩)
    · rw [e1, bd_exc]
    · rw [e4, if_pos rfl]
      unfold B_X7_cannotCite__17
      rw [lt_def, thr_1]
/-- 'enter' and 'made' behind it, and a line then; on the other side 'entersMade' -/
theorem made_line (h : FW n σ τ) (hr : RW n m q e σ τ) (hm : m < 60) {c l r : Int32} (hs : Shp n c l r) : (∃ (σ1 : DS) (τ1 : MS) (n' f : Nat), f < n' ∧ n ≤ n' ∧ P_X0_enter σ c l r = some (.inl (nI f), σ1) ∧ P_X6_made σ1 (nI f) = some (.inl (nI f), σ1) ∧ FW n' σ1 τ1 ∧ RW n' m q e σ1 τ1 ∧ (∀ k ru a3 a4 a5, P_X7_entersMade τ c l r k ru a3 a4 a5 = P_X7_enters τ1 (nI f) ru a3 a4 a5 (-1))) ∨ (∃ (σ1 : DS) (τ1 : MS), P_X0_enter σ c l r = some (.inl (-1), σ1) ∧ P_X6_made σ1 (-1) = some (.inr "java/lang/IllegalStateException", σ1) ∧ Rel σ1 τ1 ∧ (∀ k ru a3 a4 a5, P_X7_entersMade τ c l r k ru a3 a4 a5 = some (.inl 0, tI τ1 5 k))) := by
  obtain ⟨v, n', σ', τ', e1, e2, hF, hn, hs', ht', hv⟩ := enter_ok h hs
  have hR : RW n' m q e σ' τ' := hr.of hn hs'.pp ht'.pp
  have key : ∀ k ru a3 a4 a5, P_X7_entersMade τ c l r k ru a3 a4 a5 = (if v = -1 then some (.inl 0, tI τ' 5 k) else P_X7_enters τ' v ru a3 a4 a5 (-1)) := by
    intro k ru a3 a4 a5
    unfold P_X7_entersMade
    rw [if_neg (full_no hr hm), e2, bd_some, lt_def]
    by_cases c9 : v = -1
    · rw [if_pos c9, if_pos c9, raises_eq, bd_some]
    · rw [if_neg c9, if_neg c9]
      cases P_X7_enters τ' v ru a3 a4 a5 (-1) with
      | none => rfl
      | some z => obtain ⟨z1, z2⟩ := z; cases z1 <;> rfl
  rcases hv with rfl | ⟨f, hf, rfl, -⟩
  · refine Or.inr ⟨σ', τ', e1, rfl, ⟨n', m, q, e, hF, hR⟩, fun k ru a3 a4 a5 => ?_⟩
    rw [key, if_pos rfl]
  · have hle := hF.le
    refine Or.inl ⟨σ', τ', n', f, hf, hn, e1, ?_, hF, hR, fun k ru a3 a4 a5 => ?_⟩
    · unfold P_X6_made
      rw [if_neg (ni_ne (by omega))]
    · rw [key, if_neg (ni_ne (by omega))]
end OPS1
theorem ag13 : AG13 Rel := by
  intro σ τ w a hI
  obtain ⟨n, m, q, e, h, hr⟩ := id hI
  have hm := hr.m60
  unfold W_L_repeat P_X6_repeat P_X7_repeat
  rcases gate hr a with ⟨k, hk, rfl, e1, e2, e3, e4⟩ | ⟨k, hk, rfl, e1, e2, e3, e4⟩ | ⟨e1, e4⟩
  · obtain ⟨f, hf, ef⟩ := form_ix hr hk
    rw [e1, bd_some, e2, bd_some, cc_ok e4 e3, bd_some, if_pos rfl]
    by_cases hm2 : m < 60
    · obtain ⟨σ', τ', g1, g2, g3, g4⟩ := cite_ok (h.thr 0) (hr.thr 0) hm2 hf (c := 82) (by decide) (ix60 hr hk) (Or.inl rfl)
      rw [room_ok hr hm2, bd_some, form_in hr hk, ef, if_neg (show ¬ (tI τ 5 0).1 1 = 60 from full_no hr hm2), gd_in (by omega) (by decide), ni_cl (by omega), show (tI τ 5 0).2.1 6 k = nI f from ef, g1, g2]
      exact ag_ret rfl rfl g3 g4
    · rw [room_no hr hm2, bd_exc, if_pos (show (tI τ 5 0).1 1 = 60 from full_yes hr hm2), raises_eq]
      exact ag_exc rfl rfl rfl rfl (by decide) ((hI.thr 0).thr 3)
  · rw [e1, bd_some, e2, bd_exc, cc_bad e4 e3, bd_some, if_neg i10]
    exact ag_exc rfl rfl rfl rfl (by decide) (hI.thr 2)
  · rw [e1, bd_exc, cc_no e4, bd_some, if_neg i10]
    exact ag_exc rfl rfl rfl rfl (by decide) (hI.thr 1)
theorem ag14 : AG14 Rel := by
  intro σ τ w a b hI
  obtain ⟨n, m, q, e, h, hr⟩ := id hI
  have hm := hr.m60
  unfold W_L_makeConjunction P_X6_makeConjunction P_X7_makeConjunction
  rcases two_gate hr a b with ⟨k, k', hk, hk', rfl, rfl, e1, e2⟩ | ⟨e1, e2⟩ | ⟨e1, e2⟩
  · obtain ⟨f, hf, ef⟩ := form_ix hr hk
    obtain ⟨f', hf', ef'⟩ := form_ix hr hk'
    rw [e1, bd_some, e2, bd_some, if_pos rfl, gd_in (by omega) (by decide), gd_in (by omega) (by decide), ni_cl (by omega), ni_cl (by omega), show (tI τ 5 0).2.1 6 k = nI f from ef, show (tI τ 5 0).2.1 6 k' = nI f' from ef']
    by_cases hm2 : m < 60
    · rw [room_ok hr hm2, bd_some, form_in hr hk, form_in hr hk', ef, ef']
      rcases made_line (h.thr 0) (hr.thr 0) hm2 (c := 75) (l := nI f) (r := nI f') (Or.inr (Or.inr ⟨f, f', Or.inl rfl, hf, hf', rfl, rfl⟩)) with ⟨σ1, τ1, n', g, hg, hn, p1, p2, p3, p4, p5⟩ | ⟨σ1, τ1, p1, p2, p3, p5⟩
      · obtain ⟨σ', τ', g1, g2, g3, g4⟩ := cite_ok p3 p4 hm2 hg (c := 107) (by decide) (ix60 hr hk) (ix60 hr hk')
        rw [p1, bd_some, p2, bd_some, lt_def, g1, p5, g2]
        exact ag_ret rfl rfl g3 g4
      · rw [p1, bd_some, p2, bd_exc, p5]
        exact ag_exc rfl rfl rfl rfl (by decide) (p3.thr 3)
    · rw [room_no hr hm2, bd_exc]
      unfold P_X7_entersMade
      rw [if_pos (show (tI τ 5 0).1 1 = 60 from full_yes hr hm2), raises_eq]
      exact ag_exc rfl rfl rfl rfl (by decide) ((hI.thr 0).thr 3)
  · rw [e1, bd_exc, e2, bd_some, if_neg i10]
    exact ag_exc rfl rfl rfl rfl (by decide) (hI.thr 2)
  · rw [e1, bd_exc, e2, bd_some, if_neg i10]
    exact ag_exc rfl rfl rfl rfl (by decide) (hI.thr 1)
