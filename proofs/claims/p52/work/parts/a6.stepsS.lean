/-! THE CLASS'S STEPS -/
section STEPS
variable {n m q e : Nat} {σ : DS} {τ : MS}
theorem insS_loop (A : Nat → Int32) {k L : Nat} (hk : k ≤ L) (hL : L < 64) (c : Int32) : ∀ (d i N : Nat) (s : DS), i = k + d → d < N → i ≤ L → s.1 11 = nI L → (∀ j, s.2 29 j = if i < j ∧ j ≤ L then A (j - 1) else A j) → ∃ s', L_X5_insert_14 N s (nI k) c (nI i) = some (.inl (), s') ∧ s'.1 11 = nI (L + 1) ∧ TSs s s' ∧ ∀ j, s'.2 29 j = if j = k then c else if k < j ∧ j ≤ L then A (j - 1) else A j := by
  intro d
  induction d with
  | zero =>
    intro i N s hi hN hiL h11 hA
    obtain ⟨N, rfl⟩ : ∃ M, N = M + 1 := ⟨N - 1, by omega⟩
    have hi : i = k := hi
    subst hi
    refine ⟨sI (sR s 29 (upd (s.2 29) i c)) 11 (nI (L + 1)), ?_, by rw [sI_1, if_pos rfl], ⟨fun k hk => by rw [sI_1, if_neg hk]; rfl, fun k hk => by rw [sI_2, sR_2, if_neg hk]⟩, fun j => ?_⟩
    · show B_X5_insert_14 _ s (nI i) c (nI i) = _
      unfold B_X5_insert_14
      rw [if_pos (nI_le (Nat.le_refl _) (by omega)), lt_def, lt_def, rput_in (by omega) (by decide), show (sR s 29 (upd (s.2 29) i c)).1 11 = nI L from h11, ni_add1]
    · rw [sI_2, sR_2, if_pos rfl]
      by_cases hj : j = i
      · subst hj; rw [upd_eq, if_pos rfl]
      · rw [upd_ne _ hj, if_neg hj, hA]
  | succ d ih =>
    intro i N s hi hN hiL h11 hA
    obtain ⟨N, rfl⟩ : ∃ M, N = M + 1 := ⟨N - 1, by omega⟩
    have key : L_X5_insert_14 (N + 1) s (nI k) c (nI i) = L_X5_insert_14 N (sR s 29 (upd (s.2 29) i (A (i - 1)))) (nI k) c (nI (i - 1)) := by
      show B_X5_insert_14 _ s (nI k) c (nI i) = _
      unfold B_X5_insert_14
      rw [if_neg (nI_ge (by omega) (by omega)), lt_def, lt_def, ni_am1, ni_sub1 (by omega), rat_in (by omega) (by decide), rput_in (by omega) (by decide), hA (i - 1), if_neg (by omega)]
    obtain ⟨s', e1, e2, e3, e4⟩ := ih (i - 1) N (sR s 29 (upd (s.2 29) i (A (i - 1)))) (by omega) (by omega) (by omega) h11 (fun j => by
      rw [sR_2, if_pos rfl]
      by_cases hj : j = i
      · subst hj; rw [upd_eq, if_pos (by omega)]
      · rw [upd_ne _ hj, hA]
        by_cases h2 : i < j ∧ j ≤ L
        · rw [if_pos h2, if_pos (by omega)]
        · rw [if_neg h2, if_neg (by omega)])
    exact ⟨s', by rw [key]; exact e1, e2, ⟨fun k hk => e3.1 k hk, fun k hk => by rw [e3.2 k hk, sR_2, if_neg hk]⟩, e4⟩
theorem insS {u v : List Int32} (c : Int32) (h : TxS (u ++ v) σ) (hl : (u ++ v).length < 64) : ∃ σ', P_X5_insert σ (nI u.length) c = some (.inl (), σ') ∧ TxS (u ++ c :: v) σ' ∧ TSs σ σ' := by
  have hle : u.length + v.length = (u ++ v).length := by rw [List.length_append]
  obtain ⟨s', e1, e2, e3, e4⟩ := insS_loop (σ.2 29) (k := u.length) (L := (u ++ v).length) (by omega) hl c v.length (u ++ v).length FU σ (by omega) (by unfold FU; omega) (Nat.le_refl _) h.1 (fun j => by rw [if_neg (by omega)])
  refine ⟨s', ?_, TxS.mk ?_ ?_, e3⟩
  · unfold P_X5_insert
    rw [h.1, show (64 : Int32) = nI 64 from rfl, if_neg (nI_ge hl (by decide)), lt_def]
    exact e1
  · rw [e2, List.length_append, List.length_append, List.length_cons]; rfl
  · obtain ⟨o1, o2⟩ := occ_app.mp h.occ
    refine occ_app.mpr ⟨occ_ext o1 fun j _ hj => by rw [e4, if_neg (by omega), if_neg (by omega)], ?_, ?_⟩
    · rw [e4, if_pos (by omega)]
    · refine occ_mv o2 fun j hj => ?_
      rw [e4, if_neg (by omega), if_pos (by omega)]
      exact congrArg _ (by omega)
theorem remS_loop (A : Nat → Int32) {k L : Nat} (hL : L ≤ 64) : ∀ (d i N : Nat) (s : DS), i + d + 1 = L → d < N → k ≤ i → s.1 11 = nI L → (∀ j, s.2 29 j = if k ≤ j ∧ j < i then A (j + 1) else A j) → ∃ s', L_X5_remove_2 N s (nI i) = some (.inl (), s') ∧ s'.1 11 = nI (L - 1) ∧ TSs s s' ∧ ∀ j, s'.2 29 j = if k ≤ j ∧ j < L - 1 then A (j + 1) else A j := by
  intro d
  induction d with
  | zero =>
    intro i N s hi hN hki h11 hA
    obtain ⟨N, rfl⟩ : ∃ M, N = M + 1 := ⟨N - 1, by omega⟩
    have hi : i = L - 1 := by omega
    subst hi
    refine ⟨sI s 11 (nI (L - 1)), ?_, by rw [sI_1, if_pos rfl], ⟨fun k hk => by rw [sI_1, if_neg hk], fun k hk => rfl⟩, hA⟩
    show B_X5_remove_2 _ s (nI (L - 1)) = _
    unfold B_X5_remove_2
    rw [h11, ni_sub1 (by omega), if_pos (nI_le (Nat.le_refl _) (by omega)), lt_def]
  | succ d ih =>
    intro i N s hi hN hki h11 hA
    obtain ⟨N, rfl⟩ : ∃ M, N = M + 1 := ⟨N - 1, by omega⟩
    have key : L_X5_remove_2 (N + 1) s (nI i) = L_X5_remove_2 N (sR s 29 (upd (s.2 29) i (A (i + 1)))) (nI (i + 1)) := by
      show B_X5_remove_2 _ s (nI i) = _
      unfold B_X5_remove_2
      rw [h11, ni_sub1 (by omega), if_neg (nI_ge (by omega) (by omega)), lt_def, lt_def, ni_add1, rat_in (by omega) (by decide), rput_in (by omega) (by decide), hA (i + 1), if_neg (by omega)]
    obtain ⟨s', e1, e2, e3, e4⟩ := ih (i + 1) N (sR s 29 (upd (s.2 29) i (A (i + 1)))) (by omega) (by omega) (by omega) h11 (fun j => by
      rw [sR_2, if_pos rfl]
      by_cases hj : j = i
      · subst hj; rw [upd_eq, if_pos (by omega)]
      · rw [upd_ne _ hj, hA]
        by_cases h2 : k ≤ j ∧ j < i
        · rw [if_pos h2, if_pos (by omega)]
        · rw [if_neg h2, if_neg (by omega)])
    exact ⟨s', by rw [key]; exact e1, e2, ⟨fun k hk => e3.1 k hk, fun k hk => by rw [e3.2 k hk, sR_2, if_neg hk]⟩, e4⟩
theorem remS {u v : List Int32} {c : Int32} (h : TxS (u ++ c :: v) σ) (hl : (u ++ c :: v).length ≤ 64) : ∃ σ', P_X5_remove σ (nI u.length) = some (.inl (), σ') ∧ TxS (u ++ v) σ' ∧ TSs σ σ' := by
  have hle : u.length + (v.length + 1) = (u ++ c :: v).length := by rw [List.length_append, List.length_cons]
  obtain ⟨s', e1, e2, e3, e4⟩ := remS_loop (σ.2 29) (k := u.length) hl v.length u.length FU σ (by omega) (by unfold FU; omega) (Nat.le_refl _) h.1 (fun j => by rw [if_neg (by omega)])
  refine ⟨s', ?_, TxS.mk ?_ ?_, e3⟩
  · unfold P_X5_remove
    rw [lt_def]
    exact e1
  · rw [e2]
    refine congrArg nI ?_
    simp only [List.length_append, List.length_cons]
    omega
  · obtain ⟨o1, -, o2⟩ := occ_app.mp h.occ
    refine occ_app.mpr ⟨occ_ext o1 fun j _ hj => by rw [e4, if_neg (by omega)], occ_mv o2 fun j hj => ?_⟩
    rw [e4, if_pos (by omega)]
    exact congrArg _ (by omega)
theorem putS {u v : List Int32} {c : Int32} (d : Int32) (h : TxS (u ++ c :: v) σ) (hl : (u ++ c :: v).length ≤ 64) : TxS (u ++ d :: v) (sR σ 29 (rput 64 (σ.2 29) (nI u.length) d)) ∧ TSs σ (sR σ 29 (rput 64 (σ.2 29) (nI u.length) d)) := by
  have hle : u.length + (v.length + 1) = (u ++ c :: v).length := by rw [List.length_append, List.length_cons]
  refine ⟨TxS.mk ?_ ?_, fun k _ => rfl, fun k hk => by rw [sR_2, if_neg hk]⟩
  · rw [sR_1, h.1, ← hle, List.length_append, List.length_cons]
  · obtain ⟨o1, o3, o2⟩ := occ_app.mp h.occ
    rw [sR_2, if_pos rfl, rput_in (by omega) (by decide)]
    refine occ_app.mpr ⟨occ_ext o1 fun j _ hj => by rw [upd_ne _ (by omega)], ?_, occ_ext o2 fun j hj _ => by rw [upd_ne _ (by omega)]⟩
    rw [Nat.zero_add, upd_eq]
theorem atS {L i : Nat} {c : Int32} (h : σ.1 11 = nI L) (hL : L ≤ 64) (hi : i < L) (hc : σ.2 29 i = c) (hk : c ∈ kinds) : F_X5_at σ (nI i) = c := by
  unfold F_X5_at
  rw [h, if_neg (nI_ge hi (by omega)), rat_in (by omega) (by decide), hc]
  exact kind_ch c hk
theorem leafS_y {c : Int32} (h : leafK c) : F_X5_isLeaf σ c = 1 := by
  unfold F_X5_isLeaf F_X5_isLetter
  rcases h with rfl | rfl | rfl | rfl | rfl | rfl <;> rfl
theorem leafS_n {p : Nat} (h : p = 78 ∨ p = 75 ∨ p = 65 ∨ p = 67) : F_X5_isLeaf σ (nI p) = 0 := by
  unfold F_X5_isLeaf F_X5_isLetter
  rcases h with rfl | rfl | rfl | rfl <;> rfl
theorem kind_p {p : Nat} (h : p = 78 ∨ p = 75 ∨ p = 65 ∨ p = 67) : nI p ∈ kinds := by
  rcases h with rfl | rfl | rfl | rfl <;> decide
theorem kind_l {c : Int32} (h : leafK c) : c ∈ kinds := by
  rcases h with k | k | k | k | k | k <;> rw [k] <;> decide
theorem endS : ∀ (t : TT), tOk t → ∀ (s : DS) (L i m K : Nat), s.1 11 = nI L → L ≤ 64 → i + (tW t).length ≤ L → Occ (s.2 29) i (tW t) → m + (tW t).length < 1000 → L_X5_endOf_4 (K + (tW t).length) s (nI (m + 1)) (nI i) = L_X5_endOf_4 K s (nI m) (nI (i + (tW t).length))
  | .leaf c, ht, s, L, i, m, K, h11, hL, hi, ho, hm => by
    have hi : i + 1 ≤ L := hi
    have hm : m + 1 < 1000 := hm
    show B_X5_endOf_4 _ s (nI (m + 1)) (nI i) = L_X5_endOf_4 K s (nI m) (nI (i + 1))
    unfold B_X5_endOf_4
    rw [if_neg (by rw [ni_le0 (by omega)]; omega), h11, if_neg (nI_ge (by omega) (by omega)), lt_def, atS h11 hL (by omega) ho.1 (kind_l ht), leafS_y ht, if_neg (by decide), lt_def, lt_def, ni_add1, ni_am1, ni_sub1 (by omega)]
    rfl
  | .branch p a b, ht, s, L, i, m, K, h11, hL, hi, ho, hm => by
    rcases ht with ⟨rfl, ha⟩ | ⟨hp, ha, hb⟩
    · rw [tW_N] at hi ho hm ⊢
      rw [List.length_cons] at hi hm ⊢
      have ih := endS a ha s L (i + 1) m K h11 hL (by omega) ho.2 (by omega)
      rw [show i + ((tW a).length + 1) = i + 1 + (tW a).length by omega, ← ih]
      show B_X5_endOf_4 _ s (nI (m + 1)) (nI i) = _
      unfold B_X5_endOf_4
      rw [if_neg (by rw [ni_le0 (by omega)]; omega), h11, if_neg (nI_ge (by omega) (by omega)), lt_def, atS h11 hL (by omega) ho.1 (by decide), show F_X5_isLeaf s 78 = 0 from leafS_n (p := 78) (Or.inl rfl), if_pos rfl, if_pos rfl, lt_def, ni_add1]
      rfl
    · have hp4 : p = 78 ∨ p = 75 ∨ p = 65 ∨ p = 67 := Or.inr hp
      rw [tW_B a b (by omega)] at hi ho hm ⊢
      rw [List.length_cons, List.length_append] at hi hm ⊢
      obtain ⟨o1, o2⟩ := ho
      obtain ⟨o2, o3⟩ := occ_app.mp o2
      have ih1 := endS a ha s L (i + 1) (m + 1) (K + (tW b).length) h11 hL (by omega) o2 (by omega)
      have ih2 := endS b hb s L (i + 1 + (tW a).length) m K h11 hL (by omega) o3 (by omega)
      rw [show i + ((tW a).length + (tW b).length + 1) = i + 1 + (tW a).length + (tW b).length by omega, ← ih2, ← ih1, show K + ((tW a).length + (tW b).length + 1) = K + (tW b).length + (tW a).length + 1 by omega]
      show B_X5_endOf_4 _ s (nI (m + 1)) (nI i) = _
      unfold B_X5_endOf_4
      rw [if_neg (by rw [ni_le0 (by omega)]; omega), h11, if_neg (nI_ge (by omega) (by omega)), lt_def, atS h11 hL (by omega) o1 (kind_p hp4), leafS_n hp4, if_pos rfl, if_neg (show ¬ nI p = 78 by rcases hp with rfl | rfl | rfl <;> decide), lt_def, lt_def, ni_add1, ni_add1]
theorem endS_ok {t : TT} (ht : tOk t) {L i : Nat} (h11 : σ.1 11 = nI L) (hL : L ≤ 64) (hi : i + (tW t).length ≤ L) (ho : Occ (σ.2 29) i (tW t)) : P_X5_endOf σ (nI i) = some (.inl (nI (i + (tW t).length)), σ) := by
  unfold P_X5_endOf
  rw [lt_def, lt_def]
  have e := endS t ht σ L i 0 (FU - (tW t).length) h11 hL hi ho (by omega)
  rw [show FU - (tW t).length + (tW t).length = FU by unfold FU; omega] at e
  rw [show (1 : Int32) = nI (0 + 1) from rfl, e]
  obtain ⟨M, hM⟩ : ∃ M, FU - (tW t).length = M + 1 := ⟨FU - (tW t).length - 1, by unfold FU; omega⟩
  rw [hM]
  show B_X5_endOf_4 _ σ (nI 0) _ = _
  unfold B_X5_endOf_4
  rw [if_pos (by decide)]
theorem mvS {x : TT} {pre post : List Int32} {d e : Int32} (hx : tOk x) (hd : (d = 75 ∧ e = 65) ∨ (d = 65 ∧ e = 75)) (h : TxS (pre ++ 78 :: d :: (tW x ++ post)) σ) (hl : (pre ++ 78 :: d :: (tW x ++ post)).length < 64) : ∃ σ', P_X5_moveNegationInward σ (nI pre.length) = some (.inl (), σ') ∧ TxS (pre ++ e :: 78 :: (tW x ++ 78 :: post)) σ' ∧ TSs σ σ' := by
  have hlen : pre.length + ((tW x).length + post.length + 2) = (pre ++ 78 :: d :: (tW x ++ post)).length := by simp only [List.length_append, List.length_cons] <;> omega
  have hdk : d ∈ kinds := by rcases hd with ⟨rfl, -⟩ | ⟨rfl, -⟩ <;> decide
  have hat : F_X5_at σ (nI pre.length + 1) = d := by
    rw [ni_add1]
    obtain ⟨-, -, o, -⟩ := occ_app.mp h.occ
    rw [Nat.zero_add] at o
    exact atS h.1 (by omega) (by omega) o hdk
  have key : P_X5_moveNegationInward σ (nI pre.length) = B_X5_moveNegationInward_24 σ (nI pre.length) e (nI pre.length) := by
    unfold P_X5_moveNegationInward
    rw [hat]
    rcases hd with ⟨rfl, rfl⟩ | ⟨rfl, rfl⟩
    · rw [if_pos rfl]
    · rw [if_neg (by decide)]
  rw [key]
  unfold B_X5_moveNegationInward_24
  rw [lt_def, lt_def]
  obtain ⟨t1, k1⟩ := putS e h (by omega)
  generalize sR σ 29 (rput 64 (σ.2 29) (nI pre.length) e) = s1 at t1 k1 ⊢
  have t1' : TxS ((pre ++ [e]) ++ d :: (tW x ++ post)) s1 := by rw [List.append_assoc]; exact t1
  obtain ⟨t2, k2⟩ := putS 78 t1' (by rw [List.append_assoc]; simp only [List.length_append, List.length_cons, List.length_nil, List.singleton_append]; omega)
  rw [show nI (pre ++ [e]).length = nI pre.length + 1 by rw [List.length_append, ni_add1]; rfl] at t2 k2
  generalize sR s1 29 (rput 64 (s1.2 29) (nI pre.length + 1) 78) = s2 at t2 k2 ⊢
  have e2 : (pre ++ [e]) ++ 78 :: (tW x ++ post) = (pre ++ [e, 78]) ++ (tW x ++ post) := by simp
  rw [e2] at t2
  have hl2 : ((pre ++ [e, 78]) ++ (tW x ++ post)).length = (pre ++ 78 :: d :: (tW x ++ post)).length := by simp
  have h2 : (pre ++ [e, 78]).length = pre.length + 2 := by rw [List.length_append]; rfl
  obtain ⟨o1, o2⟩ := occ_app.mp t2.occ
  obtain ⟨o2, o3⟩ := occ_app.mp o2
  rw [Nat.zero_add, h2] at o2
  rw [show nI pre.length + 2 = nI (pre.length + 2) from ni_add pre.length 2, endS_ok hx (L := (pre ++ 78 :: d :: (tW x ++ post)).length) (by rw [t2.1, hl2]) (by omega) (by omega) o2, bd_some]
  have t3 : TxS ((pre ++ [e, 78] ++ tW x) ++ post) s2 := by rw [List.append_assoc]; exact t2
  obtain ⟨s3, g1, g2, g3⟩ := insS 78 t3 (by rw [List.append_assoc, hl2]; exact hl)
  rw [show (pre ++ [e, 78] ++ tW x).length = pre.length + 2 + (tW x).length by rw [List.length_append, h2]] at g1
  rw [g1, bd_some]
  refine ⟨s3, rfl, ?_, k1.tr (k2.tr g3)⟩
  have e3 : pre ++ [e, 78] ++ tW x ++ 78 :: post = pre ++ e :: 78 :: (tW x ++ 78 :: post) := by simp
  rw [← e3]
  exact g2
theorem skipS {L i : Nat} {c : Int32} (h11 : σ.1 11 = nI L) (hL : L < 64) (hi : i < L) (hc : F_X5_at σ (nI i) = c) (h67 : c ≠ 67) (h78 : c = 78 → F_X5_at σ (nI (i + 1)) ≠ 78 ∧ F_X5_at σ (nI (i + 1)) ≠ 75 ∧ F_X5_at σ (nI (i + 1)) ≠ 65) (N : Nat) : L_X5_step_2 (N + 1) σ (nI i) = L_X5_step_2 N σ (nI (i + 1)) := by
  show B_X5_step_2 _ σ (nI i) = _
  unfold B_X5_step_2 B_X5_step_75
  rw [h11, if_neg (nI_ge hi (by omega))]
  simp only [lt_def]
  rw [ni_add1, hc, if_neg h67]
  by_cases h : c = 78
  · obtain ⟨d1, d2, d3⟩ := h78 h
    rw [if_pos h, if_neg d1, if_pos h, if_neg d2, if_neg d3]
  · rw [if_neg h, if_neg h]
/-- an implication becomes a disjunction -/
theorem impS {pre post : List Int32} (h : TxS (pre ++ 67 :: post) σ) (hl : (pre ++ 67 :: post).length < 64) (N : Nat) : ∃ σ', L_X5_step_2 (N + 1) σ (nI pre.length) = some (.inl 1, σ') ∧ TxS (pre ++ 65 :: 78 :: post) σ' ∧ TSs σ σ' := by
  have hlen : pre.length + (post.length + 1) = (pre ++ 67 :: post).length := by rw [List.length_append, List.length_cons]
  obtain ⟨-, o, -⟩ := occ_app.mp h.occ
  rw [Nat.zero_add] at o
  have hat := atS h.1 (by omega) (by omega) o (by decide)
  obtain ⟨t1, k1⟩ := putS 65 h (by omega)
  have t1' : TxS ((pre ++ [65]) ++ post) (sR σ 29 (rput 64 (σ.2 29) (nI pre.length) 65)) := by rw [List.append_assoc]; exact t1
  obtain ⟨s2, g1, g2, g3⟩ := insS 78 t1' (by rw [List.append_assoc]; simp only [List.length_append, List.length_cons, List.length_nil, List.singleton_append]; omega)
  refine ⟨s2, ?_, by rw [List.append_assoc] at g2; exact g2, k1.tr g3⟩
  rw [show nI (pre ++ [(65 : Int32)]).length = nI pre.length + 1 by rw [List.length_append, ni_add1]; rfl] at g1
  show B_X5_step_2 _ σ (nI pre.length) = _
  unfold B_X5_step_2
  rw [h.1, if_neg (nI_ge (by omega) (by omega)), lt_def, lt_def, hat, if_pos rfl, lt_def, g1, bd_some]
/-- the first step of the class on a tree that stands in its text -/
theorem cst : ∀ (t : TT), tOk t → ∀ (pre post : List Int32) (s : DS) (N : Nat), TxS (pre ++ (tW t ++ post)) s → (pre ++ (tW t ++ post)).length < 64 → (tSt t = none → L_X5_step_2 (N + (tW t).length) s (nI pre.length) = L_X5_step_2 N s (nI (pre.length + (tW t).length))) ∧ ∀ t', tSt t = some t' → ∃ s', L_X5_step_2 (N + (tW t).length) s (nI pre.length) = some (.inl 1, s') ∧ TxS (pre ++ (tW t' ++ post)) s' ∧ TSs s s'
  | .leaf c, ht, pre, post, s, N, h, hl => by
    refine ⟨fun _ => ?_, fun t' e => by cases e⟩
    have ht : leafK c := ht
    obtain ⟨-, o, -⟩ := occ_app.mp h.occ
    rw [Nat.zero_add] at o
    have hlen : pre.length + (post.length + 1) = (pre ++ (tW (.leaf c) ++ post)).length := by rw [tW_leaf]; simp
    have hat := atS h.1 (by omega) (by omega) o (kind_l ht)
    exact skipS h.1 hl (by omega) hat (by rcases ht with k | k | k | k | k | k <;> rw [k] <;> decide) (fun e => absurd e (by rcases ht with k | k | k | k | k | k <;> rw [k] <;> decide)) N
  | .branch p a b, ht, pre, post, s, N, h, hl => by
    rcases tOk_c ht with ⟨rfl, ht'⟩ | ⟨rfl, ha, hb⟩ | ⟨hp, ha, hb⟩
    · rw [tSt_N]
      rw [tW_N] at h hl ⊢
      have hlen : pre.length + ((tW a).length + post.length + 1) = (pre ++ (78 :: tW a ++ post)).length := by simp only [List.length_append, List.length_cons] <;> omega
      obtain ⟨-, o, o2⟩ := occ_app.mp h.occ
      rw [Nat.zero_add] at o o2
      have hat := atS h.1 (by omega) (by omega) o (by decide)
      have hap := tW_pos a
      cases a with
      | leaf c =>
        refine ⟨fun _ => ?_, fun t' e => by cases e⟩
        have ht : leafK c := ht'
        have hat2 := atS h.1 (by omega) (show pre.length + 1 < _ by omega) o2.1 (kind_l ht)
        have h1 := skipS h.1 hl (by omega) hat (by decide) (fun _ => by rw [hat2]; rcases ht with k | k | k | k | k | k <;> rw [k] <;> decide) (N + 1)
        have h2 := skipS h.1 hl (by omega) hat2 (by rcases ht with k | k | k | k | k | k <;> rw [k] <;> decide) (fun e => absurd e (by rcases ht with k | k | k | k | k | k <;> rw [k] <;> decide)) N
        exact h1.trans h2
      | branch q x y =>
        refine ⟨fun e => (by cases e), fun t' e => ?_⟩
        have e : some _ = some t' := e
        rcases tOk_c ht' with ⟨rfl, hx⟩ | ⟨rfl, hx, hy⟩ | ⟨rfl | rfl, hx, hy⟩
        · rw [if_pos rfl] at e
          cases e
          rw [tW_N] at h hl o2 hlen hap ⊢
          have hat2 := atS h.1 (by omega) (show pre.length + 1 < _ by omega) o2.1 (by decide)
          have h' : TxS (pre ++ 78 :: (78 :: (tW x ++ post))) s := h
          obtain ⟨s1, e1, t1, k1⟩ := remS h' (Nat.le_of_lt hl)
          obtain ⟨s2, e2, t2, k2⟩ := remS t1 (by simp only [List.length_append, List.length_cons] at hl ⊢; omega)
          refine ⟨s2, ?_, t2, k1.tr k2⟩
          show B_X5_step_2 _ s (nI pre.length) = _
          unfold B_X5_step_2
          rw [h.1, if_neg (nI_ge (by omega) (by omega)), lt_def, lt_def, ni_add1, hat, hat2, if_neg (by decide), if_pos rfl, if_pos rfl, e1, bd_some, e2, bd_some]
        · rw [if_neg (by decide), if_neg (by decide), if_neg (by decide)] at e
          cases e
          rw [tW_B x y (by decide)] at h hl o2 hlen hap ⊢
          have hat2 := atS h.1 (by omega) (show pre.length + 1 < _ by omega) o2.1 (kind_p (by decide))
          have h' : TxS ((pre ++ [78]) ++ 67 :: (tW x ++ (tW y ++ post))) s := by
            have e : pre ++ (78 :: nI 67 :: (tW x ++ tW y) ++ post) = (pre ++ [78]) ++ 67 :: (tW x ++ (tW y ++ post)) := by simp; rfl
            rw [← e]; exact h
          obtain ⟨s1, e1, t1, k1⟩ := impS h' (by
            have e : pre ++ (78 :: nI 67 :: (tW x ++ tW y) ++ post) = (pre ++ [78]) ++ 67 :: (tW x ++ (tW y ++ post)) := by simp; rfl
            rw [← e]; exact hl) (N + ((tW x ++ tW y).length))
          refine ⟨s1, ?_, ?_, k1⟩
          · have h1 := skipS h.1 hl (by omega) hat (by decide) (fun _ => by rw [hat2]; decide) (N + ((tW x ++ tW y).length + 1))
            rw [show nI (pre ++ [(78 : Int32)]).length = nI (pre.length + 1) by rw [List.length_append]; rfl] at e1
            exact h1.trans e1
          · have e : pre ++ [78] ++ 65 :: 78 :: (tW x ++ (tW y ++ post)) = pre ++ (tW (tN (.branch 65 (tN x) y)) ++ post) := by
              rw [tW_tN, tW_B _ _ (by decide), tW_tN]; simp; rfl
            rw [← e]; exact t1
        · rw [if_neg (by decide), if_pos rfl] at e
          cases e
          rw [tW_B x y (by decide)] at h hl o2 hlen hap ⊢
          have hat2 := atS h.1 (by omega) (show pre.length + 1 < _ by omega) o2.1 (kind_p (by decide))
          have e : pre ++ (78 :: nI 75 :: (tW x ++ tW y) ++ post) = pre ++ 78 :: 75 :: (tW x ++ (tW y ++ post)) := by simp; rfl
          obtain ⟨s1, e1, t1, k1⟩ := mvS hx (Or.inl ⟨rfl, rfl⟩) (e ▸ h) (e ▸ hl)
          refine ⟨s1, ?_, ?_, k1⟩
          · show B_X5_step_2 _ s (nI pre.length) = _
            unfold B_X5_step_2 B_X5_step_75
            rw [h.1, if_neg (nI_ge (by omega) (by omega)), lt_def, lt_def, ni_add1, hat, hat2, if_neg (by decide), if_pos rfl, if_neg (by decide), if_pos rfl, if_pos (by decide), e1, bd_some]
          · have e : pre ++ 65 :: 78 :: (tW x ++ 78 :: (tW y ++ post)) = pre ++ (tW (.branch 65 (tN x) (tN y)) ++ post) := by
              rw [tW_B _ _ (by decide), tW_tN, tW_tN]; simp; rfl
            rw [← e]; exact t1
        · rw [if_neg (by decide), if_neg (by decide), if_pos rfl] at e
          cases e
          rw [tW_B x y (by decide)] at h hl o2 hlen hap ⊢
          have hat2 := atS h.1 (by omega) (show pre.length + 1 < _ by omega) o2.1 (kind_p (by decide))
          have e : pre ++ (78 :: nI 65 :: (tW x ++ tW y) ++ post) = pre ++ 78 :: 65 :: (tW x ++ (tW y ++ post)) := by simp; rfl
          obtain ⟨s1, e1, t1, k1⟩ := mvS hx (Or.inr ⟨rfl, rfl⟩) (e ▸ h) (e ▸ hl)
          refine ⟨s1, ?_, ?_, k1⟩
          · show B_X5_step_2 _ s (nI pre.length) = _
            unfold B_X5_step_2 B_X5_step_75
            rw [h.1, if_neg (nI_ge (by omega) (by omega)), lt_def, lt_def, ni_add1, hat, hat2, if_neg (by decide), if_pos rfl, if_neg (by decide), if_pos rfl, if_neg (by decide), if_pos (by decide), e1, bd_some]
          · have e : pre ++ 75 :: 78 :: (tW x ++ 78 :: (tW y ++ post)) = pre ++ (tW (.branch 75 (tN x) (tN y)) ++ post) := by
              rw [tW_B _ _ (by decide), tW_tN, tW_tN]; simp; rfl
            rw [← e]; exact t1
    · refine ⟨fun e => (by cases e), fun t' e => ?_⟩
      have e : some _ = some t' := e
      cases e
      rw [tW_B a b (by decide)] at h hl ⊢
      have e : pre ++ (nI 67 :: (tW a ++ tW b) ++ post) = pre ++ 67 :: (tW a ++ (tW b ++ post)) := by simp; rfl
      obtain ⟨s1, e1, t1, k1⟩ := impS (e ▸ h) (e ▸ hl) (N + (tW a ++ tW b).length)
      refine ⟨s1, e1, ?_, k1⟩
      have e : pre ++ 65 :: 78 :: (tW a ++ (tW b ++ post)) = pre ++ (tW (.branch 65 (tN a) b) ++ post) := by
        rw [tW_B _ _ (by decide), tW_tN]; simp; rfl
      rw [← e]; exact t1
    · have hp78 : p ≠ 78 := by omega
      have hp67 : p ≠ 67 := by omega
      rw [tSt_B a b hp78 hp67]
      rw [tW_B a b hp78] at h hl ⊢
      have hlen : pre.length + ((tW a).length + (tW b).length + post.length + 1) = (pre ++ (nI p :: (tW a ++ tW b) ++ post)).length := by simp only [List.length_append, List.length_cons] <;> omega
      obtain ⟨-, o, -⟩ := occ_app.mp h.occ
      rw [Nat.zero_add] at o
      have hat := atS h.1 (by omega) (by omega) o (kind_p (by omega))
      have ea : pre ++ (nI p :: (tW a ++ tW b) ++ post) = (pre ++ [nI p]) ++ (tW a ++ (tW b ++ post)) := by simp
      have eb : pre ++ (nI p :: (tW a ++ tW b) ++ post) = (pre ++ (nI p :: tW a)) ++ (tW b ++ post) := by simp
      have h1 : ∀ M, L_X5_step_2 (M + 1) s (nI pre.length) = L_X5_step_2 M s (nI (pre.length + 1)) := fun M => skipS h.1 hl (by omega) hat (by rcases hp with rfl | rfl <;> decide) (fun e => absurd e (by rcases hp with rfl | rfl <;> decide)) M
      have ia := cst a ha (pre ++ [nI p]) (tW b ++ post) s (N + (tW b).length) (ea ▸ h) (ea ▸ hl)
      have ib := cst b hb (pre ++ (nI p :: tW a)) post s N (eb ▸ h) (eb ▸ hl)
      rw [show (pre ++ [nI p]).length = pre.length + 1 by rw [List.length_append]; rfl] at ia
      rw [show (pre ++ (nI p :: tW a)).length = pre.length + 1 + (tW a).length by rw [List.length_append, List.length_cons]; omega] at ib
      rw [List.length_cons, List.length_append, show N + ((tW a).length + (tW b).length + 1) = N + (tW b).length + (tW a).length + 1 by omega, h1, show pre.length + ((tW a).length + (tW b).length + 1) = pre.length + 1 + (tW a).length + (tW b).length by omega]
      cases ta : tSt a with
      | some a' =>
        refine ⟨fun e => (by cases e), fun t' e => ?_⟩
        have e : some (.branch p a' b) = some t' := e
        cases e
        obtain ⟨s', e1, e2, e3⟩ := ia.2 a' ta
        refine ⟨s', e1, ?_, e3⟩
        have e : (pre ++ [nI p]) ++ (tW a' ++ (tW b ++ post)) = pre ++ (tW (.branch p a' b) ++ post) := by rw [tW_B _ _ hp78]; simp
        rw [← e]; exact e2
      | none =>
        rw [ia.1 ta]
        cases tb : tSt b with
        | some b' =>
          refine ⟨fun e => (by cases e), fun t' e => ?_⟩
          have e : some (.branch p a b') = some t' := e
          cases e
          obtain ⟨s', e1, e2, e3⟩ := ib.2 b' tb
          refine ⟨s', e1, ?_, e3⟩
          have e : (pre ++ (nI p :: tW a)) ++ (tW b' ++ post) = pre ++ (tW (.branch p a b') ++ post) := by rw [tW_B _ _ hp78]; simp
          rw [← e]; exact e2
        | none => exact ⟨fun _ => ib.1 tb, fun t' e => by cases e⟩
theorem stepS {t : TT} (ht : tOk t) (h : TxS (tW t) σ) (hl : (tW t).length < 64) : (tSt t = none → P_X5_step σ = some (.inl 0, σ)) ∧ ∀ t', tSt t = some t' → ∃ σ', P_X5_step σ = some (.inl 1, σ') ∧ TxS (tW t') σ' ∧ TSs σ σ' := by
  have e : tW t = [] ++ (tW t ++ []) := by rw [List.append_nil]; rfl
  have key := cst t ht [] [] σ (FU - (tW t).length) (e ▸ h) (e ▸ hl)
  rw [show FU - (tW t).length + (tW t).length = FU by unfold FU; omega] at key
  refine ⟨fun hn => ?_, fun t' hs => ?_⟩
  · unfold P_X5_step
    rw [lt_def, show (0 : Int32) = nI ([] : List Int32).length from rfl, key.1 hn]
    obtain ⟨M, hM⟩ : ∃ M, FU - (tW t).length = M + 1 := ⟨FU - (tW t).length - 1, by unfold FU; omega⟩
    rw [hM]
    show B_X5_step_2 _ σ (nI (0 + (tW t).length)) = _
    unfold B_X5_step_2
    rw [h.1, Nat.zero_add, if_pos (nI_le (Nat.le_refl _) (by omega))]
    rfl
  · obtain ⟨s', e1, e2, e3⟩ := key.2 t' hs
    refine ⟨s', e1, ?_, e3⟩
    have e : [] ++ (tW t' ++ []) = tW t' := by rw [List.append_nil]; rfl
    rw [← e]; exact e2
end STEPS
