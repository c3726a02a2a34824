/-! THE REFERENCE'S FIRST STEP -/
section STEPT2
variable {n m q e : Nat} {σ : DS} {τ : MS}
theorem rst : ∀ (t : TT), tOk t → ∀ (pre post : List Int32) (s : MS) (N : Nat), TxT (pre ++ (tW t ++ post)) s → (pre ++ (tW t ++ post)).length < 99 → (∀ c ∈ pre ++ (tW t ++ post), c ∈ kinds) → (tSt t = none → L_X7_steps_2 (N + (tW t).length) s (nI pre.length) = L_X7_steps_2 N s (nI (pre.length + (tW t).length))) ∧ ∀ t', tSt t = some t' → ∃ s', L_X7_steps_2 (N + (tW t).length) s (nI pre.length) = some (.inl 1, s') ∧ TxT (pre ++ (tW t' ++ post)) s' ∧ TSt s s'
  | .leaf c, ht, pre, post, s, N, h, hl, hK => by
    refine ⟨fun _ => ?_, fun t' e => by cases e⟩
    have ht : leafK c := ht
    obtain ⟨-, o, -⟩ := occ_app.mp h.occ
    rw [Nat.zero_add] at o
    have hlen : pre.length + (post.length + 1) = (pre ++ (tW (.leaf c) ++ post)).length := by rw [tW_leaf]; simp
    exact skipT h.1 (by omega) (by omega) o (by rcases ht with k | k | k | k | k | k <;> rw [k] <;> decide) (fun e => absurd e (by rcases ht with k | k | k | k | k | k <;> rw [k] <;> decide)) N
  | .branch p a b, ht, pre, post, s, N, h, hl, hK => by
    rcases tOk_c ht with ⟨rfl, ht'⟩ | ⟨rfl, ha, hb⟩ | ⟨hp, ha, hb⟩
    · rw [tSt_N]
      rw [tW_N] at h hl hK ⊢
      have hlen : pre.length + ((tW a).length + post.length + 1) = (pre ++ (78 :: tW a ++ post)).length := by simp only [List.length_append, List.length_cons] <;> omega
      obtain ⟨-, o, o2⟩ := occ_app.mp h.occ
      rw [Nat.zero_add] at o o2
      have hap := tW_pos a
      cases a with
      | leaf c =>
        refine ⟨fun _ => ?_, fun t' e => by cases e⟩
        have ht : leafK c := ht'
        have o3 : s.2.1 15 (pre.length + 1) = c := o2.1
        have h1 := skipT h.1 (by omega) (by omega) o (by decide) (fun _ => by rw [o3]; exact ⟨by omega, by rcases ht with k | k | k | k | k | k <;> rw [k] <;> decide⟩) (N + 1)
        have h2 := skipT h.1 (by omega) (show pre.length + 1 < _ by omega) o3 (by rcases ht with k | k | k | k | k | k <;> rw [k] <;> decide) (fun e => absurd e (by rcases ht with k | k | k | k | k | k <;> rw [k] <;> decide)) N
        exact h1.trans h2
      | branch q x y =>
        refine ⟨fun e => (by cases e), fun t' e => ?_⟩
        have e : some _ = some t' := e
        rcases tOk_c ht' with ⟨rfl, hx⟩ | ⟨rfl, hx, hy⟩ | ⟨rfl | rfl, hx, hy⟩
        · rw [if_pos rfl] at e
          cases e
          rw [tW_N] at h hl hK o2 hlen hap ⊢
          have o3 : s.2.1 15 (pre.length + 1) = 78 := o2.1
          have h' : TxT (pre ++ 78 :: 78 :: (tW x ++ post)) s := h
          obtain ⟨s1, e1, t1, k1⟩ := remT h' (Nat.le_of_lt (Nat.lt_trans hl (by decide))) hK
          refine ⟨s1, ?_, t1, k1⟩
          show L_X7_steps_2 (N + (tW x).length + 1 + 1) s (nI pre.length) = _
          rw [nextT (c := 78) (d := 78) h.1 (by omega) (by omega) (by rw [if_pos (by omega)]; exact o3)]
          unfold B_X7_steps_33
          simp only [lt_def, gd_in (show pre.length < 1000 by omega) (by decide : (1000 : Nat) < 2147483648)]
          rw [ni_cl (show pre.length < 2147483648 by omega), o, if_neg (by decide), if_pos rfl, if_pos (by decide), e1]
        · rw [if_neg (by decide), if_neg (by decide), if_neg (by decide)] at e
          cases e
          rw [tW_B x y (by decide)] at h hl hK o2 hlen hap ⊢
          have o3 : s.2.1 15 (pre.length + 1) = 67 := o2.1
          have e0 : pre ++ (78 :: nI 67 :: (tW x ++ tW y) ++ post) = (pre ++ [78]) ++ 67 :: (tW x ++ (tW y ++ post)) := by simp; rfl
          obtain ⟨s1, e1, t1, k1⟩ := impT (e0 ▸ h) (e0 ▸ hl) (e0 ▸ hK) (N + ((tW x ++ tW y).length))
          refine ⟨s1, ?_, ?_, k1⟩
          · have h1 := skipT h.1 (by omega) (by omega) o (by decide) (fun _ => by rw [o3]; exact ⟨by omega, by decide⟩) (N + ((tW x ++ tW y).length + 1))
            rw [show nI (pre ++ [(78 : Int32)]).length = nI (pre.length + 1) by rw [List.length_append]; rfl] at e1
            exact h1.trans e1
          · have e : pre ++ [78] ++ 65 :: 78 :: (tW x ++ (tW y ++ post)) = pre ++ (tW (tN (.branch 65 (tN x) y)) ++ post) := by
              rw [tW_tN, tW_B _ _ (by decide), tW_tN]; simp; rfl
            rw [← e]; exact t1
        · rw [if_neg (by decide), if_pos rfl] at e
          cases e
          rw [tW_B x y (by decide)] at h hl hK o2 hlen hap ⊢
          have o3 : s.2.1 15 (pre.length + 1) = 75 := o2.1
          have e0 : pre ++ (78 :: nI 75 :: (tW x ++ tW y) ++ post) = pre ++ 78 :: 75 :: (tW x ++ (tW y ++ post)) := by simp; rfl
          obtain ⟨s1, e1, t1, k1⟩ := mvT hx (Or.inl ⟨rfl, rfl⟩) (e0 ▸ h) (by rw [← e0]; omega) (e0 ▸ hK)
          refine ⟨s1, ?_, ?_, k1⟩
          · show L_X7_steps_2 (N + (tW x ++ tW y).length + 1 + 1) s (nI pre.length) = _
            rw [nextT (c := 78) (d := 75) h.1 (by omega) (by omega) (by rw [if_pos (by omega)]; exact o3)]
            unfold B_X7_steps_33 B_X7_steps_123
            simp only [lt_def, gd_in (show pre.length < 1000 by omega) (by decide : (1000 : Nat) < 2147483648)]
            rw [ni_cl (show pre.length < 2147483648 by omega), o, if_neg (by decide), if_pos rfl, if_neg (by decide), if_pos rfl, if_pos (by decide), e1]
          · have e : pre ++ 65 :: 78 :: (tW x ++ 78 :: (tW y ++ post)) = pre ++ (tW (.branch 65 (tN x) (tN y)) ++ post) := by
              rw [tW_B _ _ (by decide), tW_tN, tW_tN]; simp; rfl
            rw [← e]; exact t1
        · rw [if_neg (by decide), if_neg (by decide), if_pos rfl] at e
          cases e
          rw [tW_B x y (by decide)] at h hl hK o2 hlen hap ⊢
          have o3 : s.2.1 15 (pre.length + 1) = 65 := o2.1
          have e0 : pre ++ (78 :: nI 65 :: (tW x ++ tW y) ++ post) = pre ++ 78 :: 65 :: (tW x ++ (tW y ++ post)) := by simp; rfl
          obtain ⟨s1, e1, t1, k1⟩ := mvT hx (Or.inr ⟨rfl, rfl⟩) (e0 ▸ h) (by rw [← e0]; omega) (e0 ▸ hK)
          refine ⟨s1, ?_, ?_, k1⟩
          · show L_X7_steps_2 (N + (tW x ++ tW y).length + 1 + 1) s (nI pre.length) = _
            rw [nextT (c := 78) (d := 65) h.1 (by omega) (by omega) (by rw [if_pos (by omega)]; exact o3)]
            unfold B_X7_steps_33 B_X7_steps_123
            simp only [lt_def, gd_in (show pre.length < 1000 by omega) (by decide : (1000 : Nat) < 2147483648)]
            rw [ni_cl (show pre.length < 2147483648 by omega), o, if_neg (by decide), if_pos rfl, if_neg (by decide), if_pos rfl, if_neg (by decide), if_pos (by decide), e1]
          · have e : pre ++ 75 :: 78 :: (tW x ++ 78 :: (tW y ++ post)) = pre ++ (tW (.branch 75 (tN x) (tN y)) ++ post) := by
              rw [tW_B _ _ (by decide), tW_tN, tW_tN]; simp; rfl
            rw [← e]; exact t1
    · refine ⟨fun e => (by cases e), fun t' e => ?_⟩
      have e : some _ = some t' := e
      cases e
      rw [tW_B a b (by decide)] at h hl hK ⊢
      have e0 : pre ++ (nI 67 :: (tW a ++ tW b) ++ post) = pre ++ 67 :: (tW a ++ (tW b ++ post)) := by simp; rfl
      obtain ⟨s1, e1, t1, k1⟩ := impT (e0 ▸ h) (e0 ▸ hl) (e0 ▸ hK) (N + (tW a ++ tW b).length)
      refine ⟨s1, e1, ?_, k1⟩
      have e : pre ++ 65 :: 78 :: (tW a ++ (tW b ++ post)) = pre ++ (tW (.branch 65 (tN a) b) ++ post) := by
        rw [tW_B _ _ (by decide), tW_tN]; simp; rfl
      rw [← e]; exact t1
    · have hp78 : p ≠ 78 := by omega
      have hp67 : p ≠ 67 := by omega
      rw [tSt_B a b hp78 hp67]
      rw [tW_B a b hp78] at h hl hK ⊢
      have hlen : pre.length + ((tW a).length + (tW b).length + post.length + 1) = (pre ++ (nI p :: (tW a ++ tW b) ++ post)).length := by simp only [List.length_append, List.length_cons] <;> omega
      obtain ⟨-, o, -⟩ := occ_app.mp h.occ
      rw [Nat.zero_add] at o
      have ea : pre ++ (nI p :: (tW a ++ tW b) ++ post) = (pre ++ [nI p]) ++ (tW a ++ (tW b ++ post)) := by simp
      have eb : pre ++ (nI p :: (tW a ++ tW b) ++ post) = (pre ++ (nI p :: tW a)) ++ (tW b ++ post) := by simp
      have h1 : ∀ M, L_X7_steps_2 (M + 1) s (nI pre.length) = L_X7_steps_2 M s (nI (pre.length + 1)) := fun M => skipT h.1 (by omega) (by omega) o (by rcases hp with rfl | rfl <;> decide) (fun e => absurd e (by rcases hp with rfl | rfl <;> decide)) M
      have ia := rst a ha (pre ++ [nI p]) (tW b ++ post) s (N + (tW b).length) (ea ▸ h) (ea ▸ hl) (ea ▸ hK)
      have ib := rst b hb (pre ++ (nI p :: tW a)) post s N (eb ▸ h) (eb ▸ hl) (eb ▸ hK)
      rw [show (pre ++ [nI p]).length = pre.length + 1 by rw [List.length_append]; rfl] at ia
      rw [show (pre ++ (nI p :: tW a)).length = pre.length + 1 + (tW a).length by rw [List.length_append, List.length_cons]; omega] at ib
      rw [List.length_cons, List.length_append, show N + ((tW a).length + (tW b).length + 1) = N + (tW b).length + (tW a).length + 1 by omega, h1, show pre.length + ((tW a).length + (tW b).length + 1) = pre.length + 1 + (tW a).length + (tW b).length by omega]
      cases ta : tSt a with
      | some a' =>
        refine ⟨fun e => (by cases e), fun t' e => ?_⟩
        have e : some (.branch p a' b) = some t' := e
        cases e
        obtain ⟨s', e1, e2, e3⟩ := ia.2 a' ta
        refine ⟨s', e1, ?_, e3⟩
        have e : (pre ++ [nI p]) ++ (tW a' ++ (tW b ++ post)) = pre ++ (tW (.branch p a' b) ++ post) := by rw [tW_B _ _ hp78]; simp
        rw [← e]; exact e2
      | none =>
        rw [ia.1 ta]
        cases tb : tSt b with
        | some b' =>
          refine ⟨fun e => (by cases e), fun t' e => ?_⟩
          have e : some (.branch p a b') = some t' := e
          cases e
          obtain ⟨s', e1, e2, e3⟩ := ib.2 b' tb
          refine ⟨s', e1, ?_, e3⟩
          have e : (pre ++ (nI p :: tW a)) ++ (tW b' ++ post) = pre ++ (tW (.branch p a b') ++ post) := by rw [tW_B _ _ hp78]; simp
          rw [← e]; exact e2
        | none => exact ⟨fun _ => ib.1 tb, fun t' e => by cases e⟩
theorem stepT {t : TT} (ht : tOk t) (h : TxT (tW t) τ) (hl : (tW t).length < 99) : (tSt t = none → P_X7_steps τ = some (.inl 0, τ)) ∧ ∀ t', tSt t = some t' → ∃ τ', P_X7_steps τ = some (.inl 1, τ') ∧ TxT (tW t') τ' ∧ TSt τ τ' := by
  have e : tW t = [] ++ (tW t ++ []) := by rw [List.append_nil]; rfl
  have key := rst t ht [] [] τ (FU - (tW t).length) (e ▸ h) (e ▸ hl) (by rw [← e]; exact tW_kinds ht)
  rw [show FU - (tW t).length + (tW t).length = FU by unfold FU; omega] at key
  refine ⟨fun hn => ?_, fun t' hs => ?_⟩
  · unfold P_X7_steps
    rw [lt_def, show (0 : Int32) = nI ([] : List Int32).length from rfl, key.1 hn]
    obtain ⟨M, hM⟩ : ∃ M, FU - (tW t).length = M + 1 := ⟨FU - (tW t).length - 1, by unfold FU; omega⟩
    rw [hM]
    show B_X7_steps_2 _ τ (nI (0 + (tW t).length)) = _
    unfold B_X7_steps_2
    rw [h.1, Nat.zero_add, if_pos (nI_le (Nat.le_refl _) (by omega))]
    rfl
  · obtain ⟨s', e1, e2, e3⟩ := key.2 t' hs
    refine ⟨s', e1, ?_, e3⟩
    have e : [] ++ (tW t' ++ []) = tW t' := by rw [List.append_nil]; rfl
    rw [← e]; exact e2
/-- steps until none applies: the class -/
theorem endS_loop : ∀ (g : Nat) (t : TT) (k N : Nat) (s : DS), tOk t → tG t true ≤ g → k + g < 1000 → g < N → TxS (tW t) s → tF t true < 64 → ∃ s', L_X5_stepToEnd_2 N s (nI k) = some (.inl (nI (k + (tRun g t).1)), s') ∧ TxS (tW (tRun g t).2) s' ∧ TSs s s' := by
  intro g
  induction g with
  | zero =>
    intro t k N s ht hg hk hN h hF
    obtain ⟨N, rfl⟩ : ∃ M, N = M + 1 := ⟨N - 1, by omega⟩
    have hn : tSt t = none := by
      cases e : tSt t with
      | none => rfl
      | some t' => have := (tSt_ok ht e).2.2; omega
    have e := (stepS ht h (by have := tF_bd ht; omega)).1 hn
    refine ⟨s, ?_, h, TSs.rf⟩
    show B_X5_stepToEnd_2 _ s (nI k) = _
    unfold B_X5_stepToEnd_2
    rw [show (1000 : Int32) = nI 1000 from rfl, if_neg (nI_ge (by omega) (by decide)), e, bd_some, if_pos rfl]
    rfl
  | succ g ih =>
    intro t k N s ht hg hk hN h hF
    obtain ⟨N, rfl⟩ : ∃ M, N = M + 1 := ⟨N - 1, by omega⟩
    have hl : (tW t).length < 64 := by have := tF_bd ht; omega
    cases e : tSt t with
    | none =>
      have er : tRun (g + 1) t = (0, t) := by show (match tSt t with | none => (0, t) | some t' => ((tRun g t').1 + 1, (tRun g t').2)) = _; rw [e]
      rw [er]
      refine ⟨s, ?_, h, TSs.rf⟩
      show B_X5_stepToEnd_2 _ s (nI k) = _
      unfold B_X5_stepToEnd_2
      rw [show (1000 : Int32) = nI 1000 from rfl, if_neg (nI_ge (by omega) (by decide)), (stepS ht h hl).1 e, bd_some, if_pos rfl]
      rfl
    | some t' =>
      have er : tRun (g + 1) t = ((tRun g t').1 + 1, (tRun g t').2) := by show (match tSt t with | none => (0, t) | some t' => ((tRun g t').1 + 1, (tRun g t').2)) = _; rw [e]
      rw [er]
      obtain ⟨i1, i2, i3⟩ := tSt_ok ht e
      obtain ⟨s1, e1, t1, k1⟩ := (stepS ht h hl).2 t' e
      obtain ⟨s2, e2, t2, k2⟩ := ih t' (k + 1) N s1 i1 (by omega) (by omega) (by omega) t1 (by omega)
      refine ⟨s2, ?_, t2, k1.tr k2⟩
      show B_X5_stepToEnd_2 _ s (nI k) = _
      unfold B_X5_stepToEnd_2
      rw [show (1000 : Int32) = nI 1000 from rfl, if_neg (nI_ge (by omega) (by decide)), e1, bd_some, if_neg i10, lt_def, ni_add1, e2]
      rw [show k + 1 + (tRun g t').1 = k + ((tRun g t').1 + 1) by omega]
/-- the reference: the number of steps -/
theorem endT_loop : ∀ (g : Nat) (t : TT) (k N : Nat) (s : MS), tOk t → tG t true ≤ g → g < N → TxT (tW t) s → tF t true < 64 → ∃ s', L_X7_normalSteps_10 N s (nI k) = some (.inl (nI (k + (tRun g t).1)), s') ∧ TSt s s' := by
  intro g
  induction g with
  | zero =>
    intro t k N s ht hg hN h hF
    obtain ⟨N, rfl⟩ : ∃ M, N = M + 1 := ⟨N - 1, by omega⟩
    have hn : tSt t = none := by
      cases e : tSt t with
      | none => rfl
      | some t' => have := (tSt_ok ht e).2.2; omega
    have e := (stepT ht h (by have := tF_bd ht; omega)).1 hn
    refine ⟨s, ?_, TSt.rf⟩
    show B_X7_normalSteps_10 _ s (nI k) = _
    unfold B_X7_normalSteps_10
    rw [e, bd_some, if_pos rfl]
    rfl
  | succ g ih =>
    intro t k N s ht hg hN h hF
    obtain ⟨N, rfl⟩ : ∃ M, N = M + 1 := ⟨N - 1, by omega⟩
    have hl : (tW t).length < 99 := by have := tF_bd ht; omega
    cases e : tSt t with
    | none =>
      have er : tRun (g + 1) t = (0, t) := by show (match tSt t with | none => (0, t) | some t' => ((tRun g t').1 + 1, (tRun g t').2)) = _; rw [e]
      rw [er]
      refine ⟨s, ?_, TSt.rf⟩
      show B_X7_normalSteps_10 _ s (nI k) = _
      unfold B_X7_normalSteps_10
      rw [(stepT ht h hl).1 e, bd_some, if_pos rfl]
      rfl
    | some t' =>
      have er : tRun (g + 1) t = ((tRun g t').1 + 1, (tRun g t').2) := by show (match tSt t with | none => (0, t) | some t' => ((tRun g t').1 + 1, (tRun g t').2)) = _; rw [e]
      rw [er]
      obtain ⟨i1, i2, i3⟩ := tSt_ok ht e
      obtain ⟨s1, e1, t1, k1⟩ := (stepT ht h hl).2 t' e
      obtain ⟨s2, e2, k2⟩ := ih t' (k + 1) N s1 i1 (by omega) (by omega) t1 (by omega)
      refine ⟨s2, ?_, k1.tr k2⟩
      show B_X7_normalSteps_10 _ s (nI k) = _
      unfold B_X7_normalSteps_10
      rw [e1, bd_some, if_neg i10, lt_def, ni_add1, e2]
      rw [show k + 1 + (tRun g t').1 = k + ((tRun g t').1 + 1) by omega]
/-- what the reference does with the text at the end -/
def nfK (s : MS) : Res MS Int32 := bd (P_X7_makesWork s) fun r25 s25 => (lt r25 fun z28 => (if z28 = (-1 : Int32) then (bd (P_X7_raises s25 (2 : Int32)) fun r36 s36 => (some (.inl r36, s36))) else (some (.inl z28, s25))))
theorem formT_loop : ∀ (g : Nat) (t : TT) (N : Nat) (s : MS), tOk t → tG t true ≤ g → g + 1 < N → TxT (tW t) s → tF t true < 64 → ∃ s', L_X7_normalForm_12 N s 1 = nfK s' ∧ TxT (tW (tRun g t).2) s' ∧ TSt s s' := by
  intro g
  induction g with
  | zero =>
    intro t N s ht hg hN h hF
    obtain ⟨N, rfl⟩ : ∃ M, N = M + 1 + 1 := ⟨N - 2, by omega⟩
    have hn : tSt t = none := by
      cases e : tSt t with
      | none => rfl
      | some t' => have := (tSt_ok ht e).2.2; omega
    have e := (stepT ht h (by have := tF_bd ht; omega)).1 hn
    refine ⟨s, ?_, h, TSt.rf⟩
    show B_X7_normalForm_12 (B_X7_normalForm_12 (L_X7_normalForm_12 N)) s 1 = _
    unfold B_X7_normalForm_12
    rw [if_neg i10, e, bd_some, lt_def, if_pos rfl]
    rfl
  | succ g ih =>
    intro t N s ht hg hN h hF
    obtain ⟨N, rfl⟩ : ∃ M, N = M + 1 + 1 := ⟨N - 2, by omega⟩
    have hl : (tW t).length < 99 := by have := tF_bd ht; omega
    cases e : tSt t with
    | none =>
      have er : tRun (g + 1) t = (0, t) := by show (match tSt t with | none => (0, t) | some t' => ((tRun g t').1 + 1, (tRun g t').2)) = _; rw [e]
      rw [er]
      refine ⟨s, ?_, h, TSt.rf⟩
      show B_X7_normalForm_12 (B_X7_normalForm_12 (L_X7_normalForm_12 N)) s 1 = _
      unfold B_X7_normalForm_12
      rw [if_neg i10, (stepT ht h hl).1 e, bd_some, lt_def, if_pos rfl]
      rfl
    | some t' =>
      have er : tRun (g + 1) t = ((tRun g t').1 + 1, (tRun g t').2) := by show (match tSt t with | none => (0, t) | some t' => ((tRun g t').1 + 1, (tRun g t').2)) = _; rw [e]
      rw [er]
      obtain ⟨i1, i2, i3⟩ := tSt_ok ht e
      obtain ⟨s1, e1, t1, k1⟩ := (stepT ht h hl).2 t' e
      obtain ⟨s2, e2, t2, k2⟩ := ih t' (N + 1) s1 i1 (by omega) (by omega) t1 (by omega)
      refine ⟨s2, ?_, t2, k1.tr k2⟩
      rw [← e2]
      show B_X7_normalForm_12 (L_X7_normalForm_12 (N + 1)) s 1 = _
      unfold B_X7_normalForm_12
      rw [if_neg i10, e1, bd_some, lt_def]
end STEPT2
