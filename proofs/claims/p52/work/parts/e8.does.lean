/-! WHAT A CALL OF THE LAW DOES TO THE PROOF -/
/-- a line entered, a box closed or a lemma kept: below -1000 nothing has changed -/
def DoR (τ : MS) (w : Int32) (x : Res DS Int32) : Prop := (∃ z σ', x = some (.inl z, σ') ∧ z < -1000 ∧ Rel σ' τ) ∨ ∃ k σ' τ', k < 2147483648 ∧ x = some (.inl (nI k), σ') ∧ Rel σ' τ' ∧ SI τ' ∧ (w ≠ 2 → w ≠ 14 → nLn τ' = k + 1 ∧ citT τ' k = true)
def csX : List (String × Int32) := [("java/lang/IndexOutOfBoundsException", (-1001 : Int32)), ("java/util/NoSuchElementException", (-1002 : Int32)), ("java/lang/UnsupportedOperationException", (-1003 : Int32)), ("java/lang/IllegalStateException", (-1004 : Int32))]
theorem xe_code {E : String} (h : E ∈ XE) : ∃ v, csX.lookup E = some v ∧ v < -1000 := by
  unfold XE at h
  simp only [List.mem_cons, List.not_mem_nil, or_false] at h
  rcases h with rfl | rfl | rfl | rfl
  · exact ⟨-1001, rfl, by decide⟩
  · exact ⟨-1002, rfl, by decide⟩
  · exact ⟨-1003, rfl, by decide⟩
  · exact ⟨-1004, rfl, by decide⟩
section DOES
variable {n m q e : Nat} {σ σ' : DS} {τ τ' : MS}
theorem DoR.exc {w : Int32} {x : Res DS Int32} {E : String} {K : Int32 → DS → Res DS Int32} (h : x = some (.inr E, σ')) (hE : E ∈ XE) (hR : Rel σ' τ) : DoR τ w (hdl csX x K) := by
  obtain ⟨v, h1, h2⟩ := xe_code hE
  exact Or.inl ⟨v, σ', by rw [h, hdl_exc csX h1], h2, hR⟩
theorem DoR.op {w : Int32} {x : Res DS Int32} (hσ : Rel σ τ) (h : OpR τ x) : DoR τ w (hdl csX x fun r s => some (.inl r, s)) := by
  have hm := hσ.at.2.m60
  rcases h with ⟨E, σ', e1, e2, e3⟩ | ⟨σ', τ', e1, e2, e3, e4, e5⟩
  · exact DoR.exc e1 e2 e3
  · exact Or.inr ⟨nLn τ, σ', τ', by omega, by rw [e1, hdl_ret], e2, e3, fun _ _ => ⟨e4, e5⟩⟩
theorem w_does (hσ : Rel σ τ) (hS : SI τ) (w a b c : Int32) : DoR τ w (P_L_does σ w a b c) := by
  unfold P_L_does
  by_cases h0 : w = (0 : Int32)
  · rw [if_pos h0]; exact DoR.op hσ (op_premise hσ hS a)
  rw [if_neg h0]
  by_cases h1 : w = (1 : Int32)
  · rw [if_pos h1]; exact DoR.op hσ (op_assume hσ hS a)
  rw [if_neg h1]
  by_cases h2 : w = (2 : Int32)
  · rw [if_pos h2]
    rcases close_ok hσ hS with ⟨σ', e1, e2⟩ | ⟨k, σ', τ', hk, e1, e2, e3⟩
    · exact DoR.exc e1 (by decide) e2
    · have hq := hσ.at.2.q60
      exact Or.inr ⟨k, σ', τ', by omega, by rw [e1, hdl_ret], e2, e3, fun z => absurd h2 z⟩
  rw [if_neg h2]
  by_cases h3 : w = (3 : Int32)
  · rw [if_pos h3]; exact DoR.op hσ (op_repeat hσ hS a)
  rw [if_neg h3]
  by_cases h4 : w = (4 : Int32)
  · rw [if_pos h4]; exact DoR.op hσ (op_makeC hσ hS a b)
  rw [if_neg h4]
  by_cases h5 : w = (5 : Int32)
  · rw [if_pos h5]
    by_cases h5a : irm b 2 = 0
    · rw [if_pos h5a]; exact DoR.op hσ (op_useC hσ hS a 0)
    · rw [if_neg h5a]; exact DoR.op hσ (op_useC hσ hS a 1)
  rw [if_neg h5]
  by_cases h6 : w = (6 : Int32)
  · rw [if_pos h6]
    by_cases h6a : irm c 2 = 0
    · rw [if_pos h6a]; exact DoR.op hσ (op_makeD hσ hS a b 0)
    · rw [if_neg h6a]; exact DoR.op hσ (op_makeD hσ hS a b 1)
  rw [if_neg h6]
  by_cases h7 : w = (7 : Int32)
  · rw [if_pos h7]; exact DoR.op hσ (op_useD hσ hS a b c)
  rw [if_neg h7]
  by_cases h8 : w = (8 : Int32)
  · rw [if_pos h8]; exact DoR.op hσ (op_makeI hσ hS a)
  rw [if_neg h8]
  by_cases h9 : w = (9 : Int32)
  · rw [if_pos h9]; exact DoR.op hσ (op_useI hσ hS a b)
  rw [if_neg h9]
  by_cases h10 : w = (10 : Int32)
  · rw [if_pos h10]; exact DoR.op hσ (op_makeN hσ hS a)
  rw [if_neg h10]
  by_cases h11 : w = (11 : Int32)
  · rw [if_pos h11]; exact DoR.op hσ (op_useN hσ hS a b)
  rw [if_neg h11]
  by_cases h12 : w = (12 : Int32)
  · rw [if_pos h12]; exact DoR.op hσ (op_from hσ hS a b)
  rw [if_neg h12]
  by_cases h13 : w = (13 : Int32)
  · rw [if_pos h13]; exact DoR.op hσ (op_dbl hσ hS a)
  rw [if_neg h13]
  by_cases h14 : w = (14 : Int32)
  · rw [if_pos h14]
    rcases op_keep hσ hS with ⟨E, σ', e1, e2, e3⟩ | ⟨k, σ', τ', hk, e1, e2, e3⟩
    · exact DoR.exc e1 e2 e3
    · exact Or.inr ⟨k, σ', τ', by omega, by rw [e1, hdl_ret], e2, e3, fun _ z => absurd h14 z⟩
  rw [if_neg h14]
  exact DoR.op hσ (op_useL hσ hS a b c)
/-! the calls at the end, each out of range -/
theorem d_no {x : Res DS Int32} {K : Int32 → DS → Res DS Int32} (h : x = some (.inr "java/lang/IndexOutOfBoundsException", σ)) : hdl csX x K = some (.inl (-1001), σ) := by rw [h]; rfl
theorem t_0 (hσ : Rel σ τ) : P_L_does σ 0 (nI (nF τ)) 0 0 = some (.inl (-1001), σ) := by
  obtain ⟨h, hr⟩ := hσ.at
  have hle := h.le
  have hm := hr.m60
  have hq := hr.q60
  have he := hr.e8
  unfold P_L_does
  rw [if_pos rfl]
  refine d_no ?_
  unfold P_X6_premise
  rw [reqF_no h (outN_self _ (by omega)), bd_exc]
theorem t_1 (hσ : Rel σ τ) : P_L_does σ 1 (-1) 0 0 = some (.inl (-1001), σ) := by
  obtain ⟨h, hr⟩ := hσ.at
  have hle := h.le
  have hm := hr.m60
  have hq := hr.q60
  have he := hr.e8
  unfold P_L_does
  rw [if_neg (show ¬ (1 : Int32) = 0 by decide), if_pos rfl]
  refine d_no ?_
  unfold P_X6_assume
  rw [reqF_no h (outN_m1 _), bd_exc]
theorem t_3 (hσ : Rel σ τ) : P_L_does σ 3 (nI (nLn τ)) 0 0 = some (.inl (-1001), σ) := by
  obtain ⟨h, hr⟩ := hσ.at
  have hle := h.le
  have hm := hr.m60
  have hq := hr.q60
  have he := hr.e8
  unfold P_L_does
  rw [if_neg (show ¬ (3 : Int32) = 0 by decide), if_neg (show ¬ (3 : Int32) = 1 by decide), if_neg (show ¬ (3 : Int32) = 2 by decide), if_pos rfl]
  refine d_no ?_
  unfold P_X6_repeat
  rw [reqL_no hr (outN_self _ (by omega)), bd_exc]
theorem t_4 (hσ : Rel σ τ) : P_L_does σ 4 (nI (nLn τ)) (-1) 0 = some (.inl (-1001), σ) := by
  obtain ⟨h, hr⟩ := hσ.at
  have hle := h.le
  have hm := hr.m60
  have hq := hr.q60
  have he := hr.e8
  unfold P_L_does
  rw [if_neg (show ¬ (4 : Int32) = 0 by decide), if_neg (show ¬ (4 : Int32) = 1 by decide), if_neg (show ¬ (4 : Int32) = 2 by decide), if_neg (show ¬ (4 : Int32) = 3 by decide), if_pos rfl]
  refine d_no ?_
  unfold P_X6_makeConjunction P_X6_requireTwoLines
  rw [reqL_no hr (outN_self _ (by omega)), bd_exc, bd_exc]
theorem t_5 (hσ : Rel σ τ) : P_L_does σ 5 (-1) 0 0 = some (.inl (-1001), σ) := by
  obtain ⟨h, hr⟩ := hσ.at
  have hle := h.le
  have hm := hr.m60
  have hq := hr.q60
  have he := hr.e8
  unfold P_L_does
  rw [if_neg (show ¬ (5 : Int32) = 0 by decide), if_neg (show ¬ (5 : Int32) = 1 by decide), if_neg (show ¬ (5 : Int32) = 2 by decide), if_neg (show ¬ (5 : Int32) = 3 by decide), if_neg (show ¬ (5 : Int32) = 4 by decide), if_pos rfl, if_pos (show irm 0 2 = 0 by decide)]
  refine d_no ?_
  unfold P_X6_useConjunction
  rw [reqL_no hr (outN_m1 _), bd_exc]
theorem t_6 (hσ : Rel σ τ) : P_L_does σ 6 (nI (nLn τ)) 0 0 = some (.inl (-1001), σ) := by
  obtain ⟨h, hr⟩ := hσ.at
  have hle := h.le
  have hm := hr.m60
  have hq := hr.q60
  have he := hr.e8
  unfold P_L_does
  rw [if_neg (show ¬ (6 : Int32) = 0 by decide), if_neg (show ¬ (6 : Int32) = 1 by decide), if_neg (show ¬ (6 : Int32) = 2 by decide), if_neg (show ¬ (6 : Int32) = 3 by decide), if_neg (show ¬ (6 : Int32) = 4 by decide), if_neg (show ¬ (6 : Int32) = 5 by decide), if_pos rfl, if_pos (show irm 0 2 = 0 by decide)]
  refine d_no ?_
  unfold P_X6_makeDisjunction
  rw [reqL_no hr (outN_self _ (by omega)), bd_exc]
theorem t_7 (hσ : Rel σ τ) : P_L_does σ 7 (nI (nLn τ)) 0 0 = some (.inl (-1001), σ) := by
  obtain ⟨h, hr⟩ := hσ.at
  have hle := h.le
  have hm := hr.m60
  have hq := hr.q60
  have he := hr.e8
  unfold P_L_does
  rw [if_neg (show ¬ (7 : Int32) = 0 by decide), if_neg (show ¬ (7 : Int32) = 1 by decide), if_neg (show ¬ (7 : Int32) = 2 by decide), if_neg (show ¬ (7 : Int32) = 3 by decide), if_neg (show ¬ (7 : Int32) = 4 by decide), if_neg (show ¬ (7 : Int32) = 5 by decide), if_neg (show ¬ (7 : Int32) = 6 by decide), if_pos rfl]
  refine d_no ?_
  unfold P_X6_useDisjunction
  rw [reqL_no hr (outN_self _ (by omega)), bd_exc]
theorem t_8 (hσ : Rel σ τ) : P_L_does σ 8 (nI (nBx τ)) 0 0 = some (.inl (-1001), σ) := by
  obtain ⟨h, hr⟩ := hσ.at
  have hle := h.le
  have hm := hr.m60
  have hq := hr.q60
  have he := hr.e8
  unfold P_L_does
  rw [if_neg (show ¬ (8 : Int32) = 0 by decide), if_neg (show ¬ (8 : Int32) = 1 by decide), if_neg (show ¬ (8 : Int32) = 2 by decide), if_neg (show ¬ (8 : Int32) = 3 by decide), if_neg (show ¬ (8 : Int32) = 4 by decide), if_neg (show ¬ (8 : Int32) = 5 by decide), if_neg (show ¬ (8 : Int32) = 6 by decide), if_neg (show ¬ (8 : Int32) = 7 by decide), if_pos rfl]
  refine d_no ?_
  unfold P_X6_makeImplication
  rw [reqB_no hr (outN_self _ (by omega)), bd_exc]
theorem t_9 (hσ : Rel σ τ) : P_L_does σ 9 (nI (nLn τ)) 0 0 = some (.inl (-1001), σ) := by
  obtain ⟨h, hr⟩ := hσ.at
  have hle := h.le
  have hm := hr.m60
  have hq := hr.q60
  have he := hr.e8
  unfold P_L_does
  rw [if_neg (show ¬ (9 : Int32) = 0 by decide), if_neg (show ¬ (9 : Int32) = 1 by decide), if_neg (show ¬ (9 : Int32) = 2 by decide), if_neg (show ¬ (9 : Int32) = 3 by decide), if_neg (show ¬ (9 : Int32) = 4 by decide), if_neg (show ¬ (9 : Int32) = 5 by decide), if_neg (show ¬ (9 : Int32) = 6 by decide), if_neg (show ¬ (9 : Int32) = 7 by decide), if_neg (show ¬ (9 : Int32) = 8 by decide), if_pos rfl]
  refine d_no ?_
  unfold P_X6_useImplication P_X6_requireTwoLines
  rw [reqL_no hr (outN_self _ (by omega)), bd_exc, bd_exc]
theorem t_10 (hσ : Rel σ τ) : P_L_does σ 10 (-1) 0 0 = some (.inl (-1001), σ) := by
  obtain ⟨h, hr⟩ := hσ.at
  have hle := h.le
  have hm := hr.m60
  have hq := hr.q60
  have he := hr.e8
  unfold P_L_does
  rw [if_neg (show ¬ (10 : Int32) = 0 by decide), if_neg (show ¬ (10 : Int32) = 1 by decide), if_neg (show ¬ (10 : Int32) = 2 by decide), if_neg (show ¬ (10 : Int32) = 3 by decide), if_neg (show ¬ (10 : Int32) = 4 by decide), if_neg (show ¬ (10 : Int32) = 5 by decide), if_neg (show ¬ (10 : Int32) = 6 by decide), if_neg (show ¬ (10 : Int32) = 7 by decide), if_neg (show ¬ (10 : Int32) = 8 by decide), if_neg (show ¬ (10 : Int32) = 9 by decide), if_pos rfl]
  refine d_no ?_
  unfold P_X6_makeNegation
  rw [reqB_no hr (outN_m1 _), bd_exc]
theorem t_11 (hσ : Rel σ τ) : P_L_does σ 11 (nI (nLn τ)) 0 0 = some (.inl (-1001), σ) := by
  obtain ⟨h, hr⟩ := hσ.at
  have hle := h.le
  have hm := hr.m60
  have hq := hr.q60
  have he := hr.e8
  unfold P_L_does
  rw [if_neg (show ¬ (11 : Int32) = 0 by decide), if_neg (show ¬ (11 : Int32) = 1 by decide), if_neg (show ¬ (11 : Int32) = 2 by decide), if_neg (show ¬ (11 : Int32) = 3 by decide), if_neg (show ¬ (11 : Int32) = 4 by decide), if_neg (show ¬ (11 : Int32) = 5 by decide), if_neg (show ¬ (11 : Int32) = 6 by decide), if_neg (show ¬ (11 : Int32) = 7 by decide), if_neg (show ¬ (11 : Int32) = 8 by decide), if_neg (show ¬ (11 : Int32) = 9 by decide), if_neg (show ¬ (11 : Int32) = 10 by decide), if_pos rfl]
  refine d_no ?_
  unfold P_X6_useNegation P_X6_requireTwoLines
  rw [reqL_no hr (outN_self _ (by omega)), bd_exc, bd_exc]
theorem t_12 (hσ : Rel σ τ) : P_L_does σ 12 (nI (nLn τ)) 0 0 = some (.inl (-1001), σ) := by
  obtain ⟨h, hr⟩ := hσ.at
  have hle := h.le
  have hm := hr.m60
  have hq := hr.q60
  have he := hr.e8
  unfold P_L_does
  rw [if_neg (show ¬ (12 : Int32) = 0 by decide), if_neg (show ¬ (12 : Int32) = 1 by decide), if_neg (show ¬ (12 : Int32) = 2 by decide), if_neg (show ¬ (12 : Int32) = 3 by decide), if_neg (show ¬ (12 : Int32) = 4 by decide), if_neg (show ¬ (12 : Int32) = 5 by decide), if_neg (show ¬ (12 : Int32) = 6 by decide), if_neg (show ¬ (12 : Int32) = 7 by decide), if_neg (show ¬ (12 : Int32) = 8 by decide), if_neg (show ¬ (12 : Int32) = 9 by decide), if_neg (show ¬ (12 : Int32) = 10 by decide), if_neg (show ¬ (12 : Int32) = 11 by decide), if_pos rfl]
  refine d_no ?_
  unfold P_X6_fromFalsum
  rw [reqL_no hr (outN_self _ (by omega)), bd_exc]
theorem t_13 (hσ : Rel σ τ) : P_L_does σ 13 (nI (nLn τ)) 0 0 = some (.inl (-1001), σ) := by
  obtain ⟨h, hr⟩ := hσ.at
  have hle := h.le
  have hm := hr.m60
  have hq := hr.q60
  have he := hr.e8
  unfold P_L_does
  rw [if_neg (show ¬ (13 : Int32) = 0 by decide), if_neg (show ¬ (13 : Int32) = 1 by decide), if_neg (show ¬ (13 : Int32) = 2 by decide), if_neg (show ¬ (13 : Int32) = 3 by decide), if_neg (show ¬ (13 : Int32) = 4 by decide), if_neg (show ¬ (13 : Int32) = 5 by decide), if_neg (show ¬ (13 : Int32) = 6 by decide), if_neg (show ¬ (13 : Int32) = 7 by decide), if_neg (show ¬ (13 : Int32) = 8 by decide), if_neg (show ¬ (13 : Int32) = 9 by decide), if_neg (show ¬ (13 : Int32) = 10 by decide), if_neg (show ¬ (13 : Int32) = 11 by decide), if_neg (show ¬ (13 : Int32) = 12 by decide), if_pos rfl]
  refine d_no ?_
  unfold P_X6_doubleNegation
  rw [reqL_no hr (outN_self _ (by omega)), bd_exc]
theorem t_15 (hσ : Rel σ τ) : P_L_does σ 15 (nI (nLm τ)) 0 0 = some (.inl (-1001), σ) := by
  obtain ⟨h, hr⟩ := hσ.at
  have hle := h.le
  have hm := hr.m60
  have hq := hr.q60
  have he := hr.e8
  unfold P_L_does
  rw [if_neg (show ¬ (15 : Int32) = 0 by decide), if_neg (show ¬ (15 : Int32) = 1 by decide), if_neg (show ¬ (15 : Int32) = 2 by decide), if_neg (show ¬ (15 : Int32) = 3 by decide), if_neg (show ¬ (15 : Int32) = 4 by decide), if_neg (show ¬ (15 : Int32) = 5 by decide), if_neg (show ¬ (15 : Int32) = 6 by decide), if_neg (show ¬ (15 : Int32) = 7 by decide), if_neg (show ¬ (15 : Int32) = 8 by decide), if_neg (show ¬ (15 : Int32) = 9 by decide), if_neg (show ¬ (15 : Int32) = 10 by decide), if_neg (show ¬ (15 : Int32) = 11 by decide), if_neg (show ¬ (15 : Int32) = 12 by decide), if_neg (show ¬ (15 : Int32) = 13 by decide), if_neg (show ¬ (15 : Int32) = 14 by decide)]
  refine d_no ?_
  unfold P_X6_useLemma
  rw [reqM_no hr (outN_self _ (by omega)), bd_exc]
theorem t_14 (hσ : Rel σ τ) (h0 : nLn τ = 0) : P_L_does σ 14 0 0 0 = some (.inl (-1002), σ) := by
  obtain ⟨h, hr⟩ := hσ.at
  have hz : σ.1 2 = 0 := by rw [hr.mc, h0]; rfl
  unfold P_L_does
  rw [if_neg (show ¬ (14 : Int32) = 0 by decide), if_neg (show ¬ (14 : Int32) = 1 by decide), if_neg (show ¬ (14 : Int32) = 2 by decide), if_neg (show ¬ (14 : Int32) = 3 by decide), if_neg (show ¬ (14 : Int32) = 4 by decide), if_neg (show ¬ (14 : Int32) = 5 by decide), if_neg (show ¬ (14 : Int32) = 6 by decide), if_neg (show ¬ (14 : Int32) = 7 by decide), if_neg (show ¬ (14 : Int32) = 8 by decide), if_neg (show ¬ (14 : Int32) = 9 by decide), if_neg (show ¬ (14 : Int32) = 10 by decide), if_neg (show ¬ (14 : Int32) = 11 by decide), if_neg (show ¬ (14 : Int32) = 12 by decide), if_neg (show ¬ (14 : Int32) = 13 by decide), if_pos rfl]
  unfold P_X6_keepLemma P_X6_requireLines
  rw [if_pos hz, bd_exc]
  rfl
theorem t_let {a : Int32} (ha : a < 0 ∨ (¬ a < 0 ∧ nI 5 ≤ a)) : P_L_letter σ a = some (.inl (-1001), σ) := by
  unfold P_L_letter P_X6_letter
  rw [reqLt_no ha, bd_exc]
  rfl
theorem t_neg (hσ : Rel σ τ) : P_L_joins σ 78 (nI (nF τ)) 0 = some (.inl (-1001), σ) := by
  obtain ⟨h, hr⟩ := hσ.at
  have hle := h.le
  unfold P_L_joins P_X6_negation
  rw [if_pos rfl, reqF_no h (outN_self _ (by omega)), bd_exc]
  rfl
theorem t_con (hσ : Rel σ τ) : P_L_joins σ 75 (-1) 0 = some (.inl (-1001), σ) := by
  obtain ⟨h, hr⟩ := hσ.at
  unfold P_L_joins P_X6_conjunction P_X6_connected
  rw [if_neg (by decide), if_pos rfl, reqF_no h (outN_m1 _), bd_exc, bd_exc]
  rfl
theorem t_bind5 (b : Int32) : P_L_binds σ 5 b = some (.inl (-1001), σ) := by
  unfold P_L_binds P_X6_bind
  rw [reqLt_no (Or.inr ⟨by decide, by decide⟩), bd_exc]
  rfl
theorem t_bind0 (hσ : Rel σ τ) : P_L_binds σ 0 (nI (nF τ)) = some (.inl (-1002), σ) := by
  obtain ⟨h, hr⟩ := hσ.at
  have hle := h.le
  unfold P_L_binds P_X6_bind
  rw [show (0 : Int32) = nI 0 from rfl, reqLt_in (by decide), bd_some, reqF_no h (outN_self _ (by omega)), bd_exc]
  rfl
theorem t_step (hσ : Rel σ τ) : P_L_step σ (nI (nF τ)) = some (.inl (-1001), σ) := by
  obtain ⟨h, hr⟩ := hσ.at
  have hle := h.le
  unfold P_L_step P_X6_normalStep
  rw [reqF_no h (outN_self _ (by omega)), bd_exc]
  rfl
theorem t_form (hσ : Rel σ τ) : P_L_form σ (-1) = some (.inl (-1001), σ) := by
  obtain ⟨h, hr⟩ := hσ.at
  unfold P_L_form P_X6_normalForm
  rw [reqF_no h (outN_m1 _), bd_exc]
  rfl
end DOES
