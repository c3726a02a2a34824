/-! THE REFERENCE'S STEPS -/
section STEPT
variable {n m q e : Nat} {σ : DS} {τ : MS}
theorem insT_loop (A : Nat → Int32) {k L : Nat} (hk : k ≤ L) (hL : L < 100) (hA9 : ∀ j, j < L → A j ∈ kinds) : ∀ (d i N : Nat) (s : MS), i = k + d → d < N → i ≤ L → s.1 6 = nI L → (∀ j, s.2.1 15 j = if i < j ∧ j ≤ L then A (j - 1) else A j) → ∃ s', L_X7_inserts_5 N s (nI k) (nI i) = some (.inl (), s') ∧ s'.1 6 = nI (L + 1) ∧ TSt s s' ∧ ∀ j, s'.2.1 15 j = if j = k then 78 else if k < j ∧ j ≤ L then A (j - 1) else A j := by
  intro d
  induction d with
  | zero =>
    intro i N s hi hN hiL h6 hA
    obtain ⟨N, rfl⟩ : ∃ M, N = M + 1 := ⟨N - 1, by omega⟩
    have hi : i = k := hi
    subst hi
    refine ⟨tI (tA s 15 (upd (s.2.1 15) i 78)) 6 (nI (L + 1)), ?_, by rw [tI1, if_pos rfl], ⟨fun k hk => by rw [tI1, if_neg hk]; rfl, fun k hk => by rw [tI2, tA2, if_neg hk], rfl⟩, fun j => ?_⟩
    · show B_X7_inserts_5 _ s (nI i) (nI i) = _
      unfold B_X7_inserts_5
      rw [if_pos (nI_le (Nat.le_refl _) (by omega)), gd_in (by omega) (by decide), lt_def, lt_def, ni_cl (by omega), kind_nar 78 (by decide), show (tA s 15 (upd (s.2.1 15) i 78)).1 6 = nI L from h6, ni_add1]
    · rw [tI2, tA2, if_pos rfl]
      by_cases hj : j = i
      · subst hj; rw [upd_eq, if_pos rfl]
      · rw [upd_ne _ hj, if_neg hj, hA]
  | succ d ih =>
    intro i N s hi hN hiL h6 hA
    obtain ⟨N, rfl⟩ : ∃ M, N = M + 1 := ⟨N - 1, by omega⟩
    have key : L_X7_inserts_5 (N + 1) s (nI k) (nI i) = L_X7_inserts_5 N (tA s 15 (upd (s.2.1 15) i (A (i - 1)))) (nI k) (nI (i - 1)) := by
      show B_X7_inserts_5 _ s (nI k) (nI i) = _
      unfold B_X7_inserts_5
      rw [if_neg (nI_ge (by omega) (by omega)), lt_def, lt_def, ni_am1, ni_sub1 (by omega), gd_in (by omega) (by decide), gd_in (by omega) (by decide), ni_cl (by omega), ni_cl (by omega), hA (i - 1), if_neg (by omega), kind_nar _ (hA9 (i - 1) (by omega))]
    obtain ⟨s', e1, e2, e3, e4⟩ := ih (i - 1) N (tA s 15 (upd (s.2.1 15) i (A (i - 1)))) (by omega) (by omega) (by omega) h6 (fun j => by
      rw [tA2, if_pos rfl]
      by_cases hj : j = i
      · subst hj; rw [upd_eq, if_pos (by omega)]
      · rw [upd_ne _ hj, hA]
        by_cases h2 : i < j ∧ j ≤ L
        · rw [if_pos h2, if_pos (by omega)]
        · rw [if_neg h2, if_neg (by omega)])
    exact ⟨s', by rw [key]; exact e1, e2, ⟨fun k hk => e3.1 k hk, fun k hk => by rw [e3.2.1 k hk, tA2, if_neg hk], e3.2.2⟩, e4⟩
theorem txt_k {w : List Int32} (h : TxT w τ) (hK : ∀ c ∈ w, c ∈ kinds) : ∀ j, j < w.length → τ.2.1 15 j ∈ kinds := fun j hj => by
  rw [h.2 j hj]
  exact hK _ (getD_mem hj)
theorem insT {u v : List Int32} (h : TxT (u ++ v) τ) (hl : (u ++ v).length < 100) (hK : ∀ c ∈ u ++ v, c ∈ kinds) : ∃ τ', P_X7_inserts τ (nI u.length) = some (.inl (), τ') ∧ TxT (u ++ 78 :: v) τ' ∧ TSt τ τ' := by
  have hle : u.length + v.length = (u ++ v).length := by rw [List.length_append]
  obtain ⟨s', e1, e2, e3, e4⟩ := insT_loop (τ.2.1 15) (k := u.length) (L := (u ++ v).length) (by omega) hl (txt_k h hK) v.length (u ++ v).length FU τ (by omega) (by unfold FU; omega) (Nat.le_refl _) h.1 (fun j => by rw [if_neg (by omega)])
  refine ⟨s', ?_, TxT.mk ?_ ?_, e3⟩
  · unfold P_X7_inserts
    rw [h.1, lt_def]
    exact e1
  · rw [e2, List.length_append, List.length_append, List.length_cons]; rfl
  · obtain ⟨o1, o2⟩ := occ_app.mp h.occ
    refine occ_app.mpr ⟨occ_ext o1 fun j _ hj => by rw [e4, if_neg (by omega), if_neg (by omega)], ?_, ?_⟩
    · rw [e4, if_pos (by omega)]
    · refine occ_mv o2 fun j hj => ?_
      rw [e4, if_neg (by omega), if_pos (by omega)]
      exact congrArg _ (by omega)
theorem remT_loop (A : Nat → Int32) {k L : Nat} (hL : L ≤ 100) (hA9 : ∀ j, j < L → A j ∈ kinds) : ∀ (d i N : Nat) (s : MS), i + d + 2 = L → d < N → k ≤ i → s.1 6 = nI L → (∀ j, s.2.1 15 j = if k ≤ j ∧ j < i then A (j + 2) else A j) → ∃ s', L_X7_steps_81 N s (nI i) = some (.inl 1, s') ∧ s'.1 6 = nI (L - 2) ∧ TSt s s' ∧ ∀ j, s'.2.1 15 j = if k ≤ j ∧ j < L - 2 then A (j + 2) else A j := by
  intro d
  induction d with
  | zero =>
    intro i N s hi hN hki h6 hA
    obtain ⟨N, rfl⟩ : ∃ M, N = M + 1 := ⟨N - 1, by omega⟩
    have hi : i = L - 2 := by omega
    subst hi
    refine ⟨tI s 6 (nI (L - 2)), ?_, by rw [tI1, if_pos rfl], ⟨fun k hk => by rw [tI1, if_neg hk], fun k hk => rfl, rfl⟩, hA⟩
    show B_X7_steps_81 _ s (nI (L - 2)) = _
    unfold B_X7_steps_81
    rw [h6, show (2 : Int32) = nI 2 from rfl, ni_add, if_pos (nI_le (by omega) (by omega)), lt_def, ni_sub (by omega)]
  | succ d ih =>
    intro i N s hi hN hki h6 hA
    obtain ⟨N, rfl⟩ : ∃ M, N = M + 1 := ⟨N - 1, by omega⟩
    have key : L_X7_steps_81 (N + 1) s (nI i) = L_X7_steps_81 N (tA s 15 (upd (s.2.1 15) i (A (i + 2)))) (nI (i + 1)) := by
      show B_X7_steps_81 _ s (nI i) = _
      unfold B_X7_steps_81
      rw [h6, show (2 : Int32) = nI 2 from rfl, ni_add, if_neg (nI_ge (by omega) (by omega)), lt_def, lt_def, ni_add1, gd_in (by omega) (by decide), gd_in (by omega) (by decide), ni_cl (by omega), ni_cl (by omega), hA (i + 2), if_neg (by omega), kind_nar _ (hA9 (i + 2) (by omega))]
    obtain ⟨s', e1, e2, e3, e4⟩ := ih (i + 1) N (tA s 15 (upd (s.2.1 15) i (A (i + 2)))) (by omega) (by omega) (by omega) h6 (fun j => by
      rw [tA2, if_pos rfl]
      by_cases hj : j = i
      · subst hj; rw [upd_eq, if_pos (by omega)]
      · rw [upd_ne _ hj, hA]
        by_cases h2 : k ≤ j ∧ j < i
        · rw [if_pos h2, if_pos (by omega)]
        · rw [if_neg h2, if_neg (by omega)])
    exact ⟨s', by rw [key]; exact e1, e2, ⟨fun k hk => e3.1 k hk, fun k hk => by rw [e3.2.1 k hk, tA2, if_neg hk], e3.2.2⟩, e4⟩
theorem remT {u v : List Int32} {c d : Int32} (h : TxT (u ++ c :: d :: v) τ) (hl : (u ++ c :: d :: v).length ≤ 100) (hK : ∀ c' ∈ u ++ c :: d :: v, c' ∈ kinds) : ∃ τ', L_X7_steps_81 FU τ (nI u.length) = some (.inl 1, τ') ∧ TxT (u ++ v) τ' ∧ TSt τ τ' := by
  have hle : u.length + (v.length + 2) = (u ++ c :: d :: v).length := by rw [List.length_append, List.length_cons, List.length_cons]
  obtain ⟨s', e1, e2, e3, e4⟩ := remT_loop (τ.2.1 15) (k := u.length) hl (txt_k h hK) v.length u.length FU τ (by omega) (by unfold FU; omega) (Nat.le_refl _) h.1 (fun j => by rw [if_neg (by omega)])
  refine ⟨s', e1, TxT.mk ?_ ?_, e3⟩
  · rw [e2]
    refine congrArg nI ?_
    simp only [List.length_append, List.length_cons]
    omega
  · obtain ⟨o1, -, -, o2⟩ := occ_app.mp h.occ
    refine occ_app.mpr ⟨occ_ext o1 fun j _ hj => by rw [e4, if_neg (by omega)], occ_mv o2 fun j hj => ?_⟩
    rw [e4, if_pos (by omega)]
    exact congrArg _ (by omega)
theorem putT {u v : List Int32} {c : Int32} (d : Int32) (h : TxT (u ++ c :: v) τ) : TxT (u ++ d :: v) (tA τ 15 (upd (τ.2.1 15) u.length d)) ∧ TSt τ (tA τ 15 (upd (τ.2.1 15) u.length d)) := by
  refine ⟨TxT.mk ?_ ?_, fun k _ => rfl, fun k hk => by rw [tA2, if_neg hk], rfl⟩
  · rw [tA1, h.1, List.length_append, List.length_append, List.length_cons, List.length_cons]
  · obtain ⟨o1, o3, o2⟩ := occ_app.mp h.occ
    rw [tA2, if_pos rfl]
    refine occ_app.mpr ⟨occ_ext o1 fun j _ hj => by rw [upd_ne _ (by omega)], ?_, occ_ext o2 fun j hj _ => by rw [upd_ne _ (by omega)]⟩
    rw [Nat.zero_add, upd_eq]
theorem endT : ∀ (t : TT), tOk t → ∀ (s : MS) (i m K : Nat), i + (tW t).length ≤ 100 → Occ (s.2.1 15) i (tW t) → m + (tW t).length < 1000 → L_X7_behind_4 (K + (tW t).length) s (nI (m + 1)) (nI i) = L_X7_behind_4 K s (nI m) (nI (i + (tW t).length))
  | .leaf c, ht, s, i, m, K, hi, ho, hm => by
    have hi : i + 1 ≤ 100 := hi
    have hm : m + 1 < 1000 := hm
    have ht : leafK c := ht
    have hc : c ≠ 75 ∧ c ≠ 65 ∧ c ≠ 67 ∧ c ≠ 78 := by rcases ht with k | k | k | k | k | k <;> rw [k] <;> decide
    show B_X7_behind_4 _ s (nI (m + 1)) (nI i) = L_X7_behind_4 K s (nI m) (nI (i + 1))
    unfold B_X7_behind_4
    rw [if_neg (by rw [ni_le0 (by omega)]; omega), gd_in (by omega) (by decide), ni_cl (by omega), show s.2.1 15 i = c from ho.1, lt_def, if_neg hc.1, if_neg hc.2.1, if_neg hc.2.2.1, if_neg hc.2.2.2, lt_def, lt_def, ni_add1, ni_am1, ni_sub1 (by omega)]
    rfl
  | .branch p a b, ht, s, i, m, K, hi, ho, hm => by
    rcases ht with ⟨rfl, ha⟩ | ⟨hp, ha, hb⟩
    · rw [tW_N] at hi ho hm ⊢
      rw [List.length_cons] at hi hm ⊢
      have ih := endT a ha s (i + 1) m K (by omega) ho.2 (by omega)
      rw [show i + ((tW a).length + 1) = i + 1 + (tW a).length by omega, ← ih]
      show B_X7_behind_4 _ s (nI (m + 1)) (nI i) = _
      unfold B_X7_behind_4
      rw [if_neg (by rw [ni_le0 (by omega)]; omega), gd_in (by omega) (by decide), ni_cl (by omega), show s.2.1 15 i = 78 from ho.1, lt_def, if_neg (by decide), if_neg (by decide), if_neg (by decide), if_pos rfl, lt_def, lt_def, ni_add1, Int32.add_zero]
      rfl
    · rw [tW_B a b (by omega)] at hi ho hm ⊢
      rw [List.length_cons, List.length_append] at hi hm ⊢
      obtain ⟨o1, o2⟩ := ho
      obtain ⟨o2, o3⟩ := occ_app.mp o2
      have ih1 := endT a ha s (i + 1) (m + 1) (K + (tW b).length) (by omega) o2 (by omega)
      have ih2 := endT b hb s (i + 1 + (tW a).length) m K (by omega) o3 (by omega)
      rw [show i + ((tW a).length + (tW b).length + 1) = i + 1 + (tW a).length + (tW b).length by omega, ← ih2, ← ih1, show K + ((tW a).length + (tW b).length + 1) = K + (tW b).length + (tW a).length + 1 by omega]
      show B_X7_behind_4 _ s (nI (m + 1)) (nI i) = _
      unfold B_X7_behind_4
      rw [if_neg (by rw [ni_le0 (by omega)]; omega), gd_in (by omega) (by decide), ni_cl (by omega), show s.2.1 15 i = nI p from o1]
      simp only [lt_def]
      rw [ni_add1, ni_add1]
      rcases hp with rfl | rfl | rfl
      · rw [if_pos (by decide)]
      · rw [if_neg (by decide), if_pos (by decide)]
      · rw [if_neg (by decide), if_neg (by decide), if_pos (by decide)]
theorem endT_ok {t : TT} (ht : tOk t) {i : Nat} (hi : i + (tW t).length ≤ 100) (ho : Occ (τ.2.1 15) i (tW t)) : P_X7_behind τ (nI i) = some (.inl (nI (i + (tW t).length)), τ) := by
  unfold P_X7_behind
  rw [lt_def, lt_def]
  have e := endT t ht τ i 0 (FU - (tW t).length) hi ho (by omega)
  rw [show FU - (tW t).length + (tW t).length = FU by unfold FU; omega] at e
  rw [show (1 : Int32) = nI (0 + 1) from rfl, e]
  obtain ⟨M, hM⟩ : ∃ M, FU - (tW t).length = M + 1 := ⟨FU - (tW t).length - 1, by unfold FU; omega⟩
  rw [hM]
  show B_X7_behind_4 _ τ (nI 0) _ = _
  unfold B_X7_behind_4
  rw [if_pos (by decide)]
theorem mvT {x : TT} {pre post : List Int32} {d e : Int32} (hx : tOk x) (hd : (d = 75 ∧ e = 65) ∨ (d = 65 ∧ e = 75)) (h : TxT (pre ++ 78 :: d :: (tW x ++ post)) τ) (hl : (pre ++ 78 :: d :: (tW x ++ post)).length < 100) (hK : ∀ c ∈ pre ++ 78 :: d :: (tW x ++ post), c ∈ kinds) : ∃ τ', B_X7_steps_146 τ (nI pre.length) d = some (.inl 1, τ') ∧ TxT (pre ++ e :: 78 :: (tW x ++ 78 :: post)) τ' ∧ TSt τ τ' := by
  have hlen : pre.length + ((tW x).length + post.length + 2) = (pre ++ 78 :: d :: (tW x ++ post)).length := by simp only [List.length_append, List.length_cons] <;> omega
  have hek : e ∈ kinds := by rcases hd with ⟨-, rfl⟩ | ⟨-, rfl⟩ <;> decide
  have key : B_X7_steps_146 τ (nI pre.length) d = B_X7_steps_164 τ (nI pre.length) e (nI pre.length) := by
    unfold B_X7_steps_146
    rcases hd with ⟨rfl, rfl⟩ | ⟨rfl, rfl⟩
    · rw [if_pos rfl]
    · rw [if_neg (by decide)]
  rw [key]
  unfold B_X7_steps_164
  rw [gd_in (show pre.length < 1000 by omega) (by decide), lt_def, ni_cl (show pre.length < 2147483648 by omega), kind_nar e hek, ni_add1, gd_in (show pre.length + 1 < 1000 by omega) (by decide), lt_def, ni_cl (show pre.length + 1 < 2147483648 by omega), kind_nar 78 (by decide)]
  obtain ⟨t1, k1⟩ := putT e h
  generalize tA τ 15 (upd (τ.2.1 15) pre.length e) = s1 at t1 k1 ⊢
  have t1' : TxT ((pre ++ [e]) ++ d :: (tW x ++ post)) s1 := by rw [List.append_assoc]; exact t1
  obtain ⟨t2, k2⟩ := putT 78 t1'
  rw [show (pre ++ [e]).length = pre.length + 1 by rw [List.length_append]; rfl] at t2 k2
  generalize tA s1 15 (upd (s1.2.1 15) (pre.length + 1) 78) = s2 at t2 k2 ⊢
  have e2 : (pre ++ [e]) ++ 78 :: (tW x ++ post) = (pre ++ [e, 78]) ++ (tW x ++ post) := by simp
  rw [e2] at t2
  have hl2 : ((pre ++ [e, 78]) ++ (tW x ++ post)).length = (pre ++ 78 :: d :: (tW x ++ post)).length := by simp
  have h2 : (pre ++ [e, 78]).length = pre.length + 2 := by rw [List.length_append]; rfl
  obtain ⟨o1, o2⟩ := occ_app.mp t2.occ
  obtain ⟨o2, o3⟩ := occ_app.mp o2
  rw [Nat.zero_add, h2] at o2
  rw [show nI pre.length + 2 = nI (pre.length + 2) from ni_add pre.length 2, endT_ok hx (by omega) o2, bd_some]
  have t3 : TxT ((pre ++ [e, 78] ++ tW x) ++ post) s2 := by rw [List.append_assoc]; exact t2
  obtain ⟨s3, g1, g2, g3⟩ := insT t3 (by rw [List.append_assoc, hl2]; exact hl) (fun c hc => by
    rw [List.append_assoc] at hc
    rcases List.mem_append.mp hc with hc | hc
    · rcases List.mem_append.mp hc with hc | hc
      · exact hK c (List.mem_append.mpr (Or.inl hc))
      · rcases List.mem_cons.mp hc with rfl | hc
        · exact hek
        · rw [List.mem_singleton] at hc; subst hc; decide
    · exact hK c (List.mem_append.mpr (Or.inr (List.mem_cons_of_mem _ (List.mem_cons_of_mem _ hc)))))
  rw [show (pre ++ [e, 78] ++ tW x).length = pre.length + 2 + (tW x).length by rw [List.length_append, h2]] at g1
  rw [g1, bd_some]
  refine ⟨s3, rfl, ?_, k1.tr (k2.tr g3)⟩
  have e3 : pre ++ [e, 78] ++ tW x ++ 78 :: post = pre ++ e :: 78 :: (tW x ++ 78 :: post) := by simp
  rw [← e3]
  exact g2
/-- where the reference stands, with the symbol that comes next -/
theorem nextT {L i : Nat} {c d : Int32} (h6 : τ.1 6 = nI L) (hL : L < 100) (hi : i < L) (hd : if i + 1 < L then τ.2.1 15 (i + 1) = d else d = 32) (N : Nat) : L_X7_steps_2 (N + 1) τ (nI i) = B_X7_steps_33 (L_X7_steps_2 N) τ (nI i) d := by
  show B_X7_steps_2 _ τ (nI i) = _
  unfold B_X7_steps_2
  rw [h6, if_neg (nI_ge hi (by omega)), ni_add1]
  by_cases h : i + 1 < L
  · rw [if_pos h] at hd
    rw [if_neg (nI_ge h (by omega)), gd_in (by omega) (by decide), ni_cl (by omega), hd]
  · rw [if_neg h] at hd
    rw [if_pos (nI_le (by omega) (by omega)), hd]
theorem skipT {L i : Nat} {c : Int32} (h6 : τ.1 6 = nI L) (hL : L < 100) (hi : i < L) (hc : τ.2.1 15 i = c) (h67 : c ≠ 67) (h78 : c = 78 → i + 1 < L ∧ τ.2.1 15 (i + 1) ≠ 78 ∧ τ.2.1 15 (i + 1) ≠ 75 ∧ τ.2.1 15 (i + 1) ≠ 65) (N : Nat) : L_X7_steps_2 (N + 1) τ (nI i) = L_X7_steps_2 N τ (nI (i + 1)) := by
  rw [nextT (c := c) (d := if i + 1 < L then τ.2.1 15 (i + 1) else 32) h6 hL hi (by
    by_cases h : i + 1 < L
    · rw [if_pos h, if_pos h]
    · rw [if_neg h, if_neg h])]
  unfold B_X7_steps_33 B_X7_steps_123
  simp only [lt_def]
  rw [gd_in (show i < 1000 by omega) (by decide), gd_in (show i < 1000 by omega) (by decide), gd_in (show i < 1000 by omega) (by decide), gd_in (show i < 1000 by omega) (by decide), ni_cl (show i < 2147483648 by omega), hc, ni_add1, if_neg h67]
  by_cases h : c = 78
  · obtain ⟨d0, d1, d2, d3⟩ := h78 h
    rw [if_pos h, if_pos d0, if_neg d1, if_pos h, if_neg d2, if_neg d3]
  · rw [if_neg h, if_neg h]
theorem impT {pre post : List Int32} (h : TxT (pre ++ 67 :: post) τ) (hl : (pre ++ 67 :: post).length < 99) (hK : ∀ c ∈ pre ++ 67 :: post, c ∈ kinds) (N : Nat) : ∃ τ', L_X7_steps_2 (N + 1) τ (nI pre.length) = some (.inl 1, τ') ∧ TxT (pre ++ 65 :: 78 :: post) τ' ∧ TSt τ τ' := by
  have hlen : pre.length + (post.length + 1) = (pre ++ 67 :: post).length := by rw [List.length_append, List.length_cons]
  obtain ⟨-, o, -⟩ := occ_app.mp h.occ
  rw [Nat.zero_add] at o
  obtain ⟨t1, k1⟩ := putT 65 h
  have t1' : TxT ((pre ++ [65]) ++ post) (tA τ 15 (upd (τ.2.1 15) pre.length 65)) := by rw [List.append_assoc]; exact t1
  obtain ⟨s2, g1, g2, g3⟩ := insT t1' (by rw [List.append_assoc]; simp only [List.length_append, List.length_cons, List.length_nil, List.singleton_append]; omega) (fun c hc => by
    rw [List.append_assoc] at hc
    rcases List.mem_append.mp hc with hc | hc
    · exact hK c (List.mem_append.mpr (Or.inl hc))
    · rcases List.mem_cons.mp hc with rfl | hc
      · decide
      · exact hK c (List.mem_append.mpr (Or.inr (List.mem_cons_of_mem _ hc))))
  refine ⟨s2, ?_, by rw [List.append_assoc] at g2; exact g2, k1.tr g3⟩
  rw [show nI (pre ++ [(65 : Int32)]).length = nI pre.length + 1 by rw [List.length_append, ni_add1]; rfl] at g1
  rw [nextT (c := 67) (d := if pre.length + 1 < (pre ++ 67 :: post).length then τ.2.1 15 (pre.length + 1) else 32) h.1 (by omega) (by omega) (by
    by_cases h : pre.length + 1 < (pre ++ 67 :: post).length
    · rw [if_pos h, if_pos h]
    · rw [if_neg h, if_neg h])]
  unfold B_X7_steps_33
  rw [lt_def, gd_in (show pre.length < 1000 by omega) (by decide), ni_cl (show pre.length < 2147483648 by omega), o, if_pos rfl, gd_in (show pre.length < 1000 by omega) (by decide), lt_def, kind_nar 65 (by decide), g1, bd_some]
end STEPT
