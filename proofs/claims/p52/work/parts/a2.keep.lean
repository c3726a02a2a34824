/-! A LEMMA IS KEPT -/
section KEEP
variable {n m q e : Nat} {σ : DS} {τ : MS}
theorem LW.of {σ' : DS} {τ' : MS} (h : LW n m q σ τ) (s1 : ∀ k, 2 ≤ k → k ≤ 4 → σ'.1 k = σ.1 k) (s2 : ∀ k, 8 ≤ k → k ≤ 14 → σ'.2 k = σ.2 k) (s3 : ∀ k, 16 ≤ k → k ≤ 19 → σ'.2 k = σ.2 k) (t1 : ∀ k, 1 ≤ k → k ≤ 3 → τ'.1 k = τ.1 k) (t2 : ∀ k, 6 ≤ k → k ≤ 12 → τ'.2.1 k = τ.2.1 k) (t3 : τ'.2.2.1 = τ.2.2.1) : LW n m q σ' τ' := by
  obtain ⟨l1, l2, l3, l4, l5, l6, l7, l8, l9, l10⟩ := h
  refine ⟨l1, l2, by rw [s1 2 (by decide) (by decide)]; exact l3, by rw [t1 1 (by decide) (by decide)]; exact l4, by rw [s1 3 (by decide) (by decide)]; exact l5, by rw [t1 2 (by decide) (by decide)]; exact l6, by rw [s1 4 (by decide) (by decide), t1 3 (by decide) (by decide)]; exact l7, by rw [t1 3 (by decide) (by decide)]; exact l8, fun k hk => ?_, fun b hb => ?_⟩
  · unfold LnE
    rw [s2 8 (by decide) (by decide), s2 9 (by decide) (by decide), s2 10 (by decide) (by decide), s2 11 (by decide) (by decide), s2 12 (by decide) (by decide), s2 13 (by decide) (by decide), s2 14 (by decide) (by decide), t2 6 (by decide) (by decide), t2 7 (by decide) (by decide), t2 8 (by decide) (by decide), t3]
    exact l9 k hk
  · unfold BxE
    rw [s3 16 (by decide) (by decide), s3 17 (by decide) (by decide), s3 18 (by decide) (by decide), s3 19 (by decide) (by decide), t2 11 (by decide) (by decide), t2 12 (by decide) (by decide), t2 9 (by decide) (by decide), t2 10 (by decide) (by decide)]
    exact l10 b hb
/-- how many of the lines k .. k + d - 1 are premises -/
def cntP (τ : MS) : Nat → Nat → Nat
  | _, 0 => 0
  | k, d + 1 => (if τ.2.1 7 k = 80 then 1 else 0) + cntP τ (k + 1) d
theorem cntP_le (τ : MS) : ∀ (d k : Nat), cntP τ k d ≤ d
  | 0, _ => Nat.le_refl 0
  | d + 1, k => by
    show (if τ.2.1 7 k = 80 then 1 else 0) + cntP τ (k + 1) d ≤ d + 1
    have := cntP_le τ d (k + 1)
    split <;> omega
theorem cntP_thr (τ : MS) (x : Int32) : ∀ (d k : Nat), cntP (tI τ 5 x) k d = cntP τ k d
  | 0, _ => rfl
  | d + 1, k => by
    show (if τ.2.1 7 k = 80 then 1 else 0) + cntP (tI τ 5 x) (k + 1) d = (if τ.2.1 7 k = 80 then 1 else 0) + cntP τ (k + 1) d
    rw [cntP_thr τ x d (k + 1)]
def keepEnd (τ : MS) (l1 : Int32) : Res MS Int32 := (if (τ.1 1) = 0 then (B_X7_keepLemma_87 τ (1 : Int32)) else (gd ((τ.1 1) - (1 : Int32)) 60 (if (τ.2.1 8 ((τ.1 1) - (1 : Int32)).toNatClampNeg) = (-1 : Int32) then (if l1 ≤ (2 : Int32) then (if (τ.1 4) = (8 : Int32) then (B_X7_keepLemma_87 τ (3 : Int32)) else (B_X7_keepLemma_87 τ (0 : Int32))) else (B_X7_keepLemma_69 τ)) else (B_X7_keepLemma_69 τ))))
theorem cnt_s (h : RW n m q e σ τ) : ∀ (d k N c : Nat), k + d = m → d < N → L_X2_premiseCount_4 N σ (nI c) (nI k) = some (.inl (nI (c + cntP τ k d)), σ) := by
  have hm := h.m60
  intro d
  induction d with
  | zero =>
    intro k N c hk hN
    obtain ⟨N, rfl⟩ : ∃ M, N = M + 1 := ⟨N - 1, by omega⟩
    have hk : k = m := hk
    subst hk
    show B_X2_premiseCount_4 _ σ (nI c) (nI k) = _
    unfold B_X2_premiseCount_4
    rw [h.mc, if_pos (nI_le (Nat.le_refl _) (by omega))]
    rfl
  | succ d ih =>
    intro k N c hk hN
    obtain ⟨N, rfl⟩ : ∃ M, N = M + 1 := ⟨N - 1, by omega⟩
    have hkm : k < m := by omega
    show B_X2_premiseCount_4 _ σ (nI c) (nI k) = _
    unfold B_X2_premiseCount_4 F_X2_isPremise
    rw [h.mc, if_neg (nI_ge hkm (by omega)), rule_in h hkm]
    show _ = some (Sum.inl (nI (c + ((if τ.2.1 7 k = 80 then 1 else 0) + cntP τ (k + 1) d))), σ)
    by_cases hp : τ.2.1 7 k = 80
    · rw [if_pos hp, if_neg i10, lt_def, lt_def, ni_add1, ni_add1, if_pos hp, ← Nat.add_assoc]
      exact ih (k + 1) N (c + 1) (by omega) (by omega)
    · rw [if_neg hp, if_pos rfl, lt_def, ni_add1, if_neg hp, Nat.zero_add]
      exact ih (k + 1) N c (by omega) (by omega)
theorem cnt_t (h : RW n m q e σ τ) : ∀ (d k N c : Nat), k + d = m → d < N → L_X7_keepLemma_4 N τ (nI c) (nI k) = keepEnd τ (nI (c + cntP τ k d)) := by
  have hm := h.m60
  intro d
  induction d with
  | zero =>
    intro k N c hk hN
    obtain ⟨N, rfl⟩ : ∃ M, N = M + 1 := ⟨N - 1, by omega⟩
    have hk : k = m := hk
    subst hk
    show B_X7_keepLemma_4 _ τ (nI c) (nI k) = _
    unfold B_X7_keepLemma_4 keepEnd
    rw [if_pos (show τ.1 1 ≤ nI k by rw [h.mc7]; exact nI_le (Nat.le_refl _) (by omega))]
    rfl
  | succ d ih =>
    intro k N c hk hN
    obtain ⟨N, rfl⟩ : ∃ M, N = M + 1 := ⟨N - 1, by omega⟩
    have hkm : k < m := by omega
    show B_X7_keepLemma_4 _ τ (nI c) (nI k) = _
    unfold B_X7_keepLemma_4
    rw [if_neg (show ¬ τ.1 1 ≤ nI k by rw [h.mc7]; exact nI_ge hkm (by omega)), gd_in (show k < 60 by omega) (by decide), ni_cl (show k < 2147483648 by omega)]
    show _ = keepEnd τ (nI (c + ((if τ.2.1 7 k = 80 then 1 else 0) + cntP τ (k + 1) d)))
    by_cases hp : τ.2.1 7 k = 80
    · rw [if_pos hp, lt_def, lt_def, ni_add1, ni_add1, if_pos hp, ← Nat.add_assoc]
      exact ih (k + 1) N (c + 1) (by omega) (by omega)
    · rw [if_neg hp, lt_def, lt_def, ni_add1, Int32.add_zero, if_neg hp, Nat.zero_add]
      exact ih (k + 1) N c (by omega) (by omega)
def KS (e : Nat) (σ s : DS) : Prop := s.1 = σ.1 ∧ (∀ k, k ≠ 21 → k ≠ 22 → s.2 k = σ.2 k) ∧ ∀ j, j ≠ e → s.2 21 j = σ.2 21 j ∧ s.2 22 j = σ.2 22 j
def KT (e c : Nat) (τ t : MS) : Prop := t.1 = τ.1 ∧ (∀ k, k ≠ 13 → t.2.1 k = τ.2.1 k) ∧ t.2.1 13 e = nI c ∧ (∀ j, j ≠ e → t.2.1 13 j = τ.2.1 13 j) ∧ t.2.2.1 = τ.2.2.1 ∧ ∀ j, j ≠ e → t.2.2.2 j = τ.2.2.2 j
def KL (n e c : Nat) (s : DS) (t : MS) : Prop := (0 < c → s.2 21 e = t.2.2.2 e 0 ∧ ∃ f, f < n ∧ t.2.2.2 e 0 = nI f) ∧ (1 < c → s.2 22 e = t.2.2.2 e 1 ∧ ∃ f, f < n ∧ t.2.2.2 e 1 = nI f)
theorem keep_loop (hF : FW n σ τ) (h : RW n m q e σ τ) (h0 : 0 < m) (he : e < 8) (h5 : τ.1 5 = 0) : ∀ (d k N N' c : Nat) (s : DS) (t : MS), k + d = m → d < N → d < N' → c + cntP τ k d ≤ 2 → KS e σ s → KT e c τ t → KL n e c s t → ∃ s' t', L_X1_keep_10 N s (nI e) (nI c) (nI k) = some (.inl (nI e), s') ∧ L_X7_keepLemma_111 N' t (nI k) = some (.inl (nI e), t') ∧ t'.1 5 = 0 ∧ Rel s' t' := by
  have hm := h.m60
  intro d
  induction d with
  | zero =>
    intro k N N' c s t hk hN hN' hc hs ht hl
    obtain ⟨N, rfl⟩ : ∃ M, N = M + 1 := ⟨N - 1, by omega⟩
    obtain ⟨N', rfl⟩ : ∃ M, N' = M + 1 := ⟨N' - 1, by omega⟩
    have hk : k = m := hk
    subst hk
    obtain ⟨s1, s2, s3⟩ := hs
    obtain ⟨t1, t2, t3, t4, t5, t6⟩ := ht
    have hc : c ≤ 2 := by have : c + 0 ≤ 2 := hc; omega
    obtain ⟨f, hf, ef⟩ := form_ix h (show k - 1 < k by omega)
    refine ⟨sI (sR (sR s 20 (upd (s.2 20) e (nI c))) 23 (upd (s.2 23) e (nI f))) 5 (nI (e + 1)), tI (tA t 14 (upd (t.2.1 14) e (nI f))) 4 (nI (e + 1)), ?_, ?_, ?_, n, k, q, e + 1, ?_, ?_, ?_, ?_⟩
    · show B_X1_keep_10 _ s (nI e) (nI c) (nI k) = _
      unfold B_X1_keep_10
      rw [s1, h.mc, if_pos (nI_le (Nat.le_refl _) (by omega)), lt_def, lt_def, lt_def, rput_in he (by decide), rput_in he (by decide)]
      have e1 : F_X2_formula (sR s 20 (upd (s.2 20) e (nI c))) (nI (k - 1)) = nI f := by
        have := form_in h (show k - 1 < k by omega)
        unfold F_X2_formula at this ⊢
        rw [show (sR s 20 (upd (s.2 20) e (nI c))).2 8 = s.2 8 from rfl, s2 8 (by decide) (by decide), this, ef]
      rw [show (sR s 20 (upd (s.2 20) e (nI c))).1 2 = nI k by show s.1 2 = _; rw [s1, h.mc], ni_sub1 h0, e1, show (sR (sR s 20 (upd (s.2 20) e (nI c))) 23 (upd ((sR s 20 (upd (s.2 20) e (nI c))).2 23) e (nI f))).1 5 = nI e by show s.1 5 = _; rw [s1, h.ec], ni_add1]
      rfl
    · show B_X7_keepLemma_111 _ t (nI k) = _
      unfold B_X7_keepLemma_111
      rw [t1, h.mc7, h.ec7, if_pos (nI_le (Nat.le_refl _) (by omega)), ni_sub1 h0, gd_in (show k - 1 < 60 by omega) (by decide), gd_in he (by decide), lt_def, lt_def, ni_cl (show e < 2147483648 by omega), ni_cl (show k - 1 < 2147483648 by omega), t2 6 (by decide), ef, show (tA t 14 (upd (t.2.1 14) e (nI f))).1 4 = nI e by show t.1 4 = _; rw [t1, h.ec7], ni_add1, show (tI (tA t 14 (upd (t.2.1 14) e (nI f))) 4 (nI (e + 1))).1 4 = nI (e + 1) from rfl, nI_pred]
    · show t.1 5 = 0
      rw [t1, h5]
    · refine hF.scr (by show s.1 1 = _; rw [s1]) (fun j hj => ?_) (by show t.1 0 = _; rw [t1]) (fun j hj => ?_)
      · rw [sI_2, sR_2, if_neg (by omega), sR_2, if_neg (by omega), s2 j (by omega) (by omega)]
      · rw [tI2, tA2, if_neg (by omega), t2 j (by omega)]
    · refine LW.of h.1 (fun j a b => ?_) (fun j a b => ?_) (fun j a b => ?_) (fun j a b => ?_) (fun j a b => ?_) ?_
      · rw [sI_1, if_neg (by omega)]; show s.1 j = _; rw [s1]
      · rw [sI_2, sR_2, if_neg (by omega), sR_2, if_neg (by omega), s2 j (by omega) (by omega)]
      · rw [sI_2, sR_2, if_neg (by omega), sR_2, if_neg (by omega), s2 j (by omega) (by omega)]
      · rw [tI1, if_neg (by omega), tA1, t1]
      · rw [tI2, tA2, if_neg (by omega), t2 j (by omega)]
      · exact t5
    · refine ⟨by omega, rfl, rfl, fun j hj => ?_⟩
      have r20 : (sI (sR (sR s 20 (upd (s.2 20) e (nI c))) 23 (upd (s.2 23) e (nI f))) 5 (nI (e + 1))).2 20 j = upd (σ.2 20) e (nI c) j := by show upd (s.2 20) e (nI c) j = _; rw [s2 20 (by decide) (by decide)]
      have r23 : (sI (sR (sR s 20 (upd (s.2 20) e (nI c))) 23 (upd (s.2 23) e (nI f))) 5 (nI (e + 1))).2 23 j = upd (σ.2 23) e (nI f) j := by show upd (s.2 23) e (nI f) j = _; rw [s2 23 (by decide) (by decide)]
      have r14 : (tI (tA t 14 (upd (t.2.1 14) e (nI f))) 4 (nI (e + 1))).2.1 14 j = upd (τ.2.1 14) e (nI f) j := by show upd (t.2.1 14) e (nI f) j = _; rw [t2 14 (by decide)]
      unfold LmE
      rw [r20, r23, r14]
      by_cases hje : j = e
      · subst hje
        refine ⟨c, hc, upd_eq _ _ _, t3, hl.1, hl.2, ?_, f, hf, upd_eq _ _ _⟩
        rw [upd_eq, upd_eq]
      · obtain ⟨c', p1, p2, p3, p4, p5, p6, p7⟩ := h.2.1.2.2.2 j (by omega)
        refine ⟨c', p1, ?_, ?_, fun z => ?_, fun z => ?_, ?_, ?_⟩
        · rw [upd_ne _ hje]; exact p2
        · show t.2.1 13 j = _; rw [t4 j hje]; exact p3
        · show s.2 21 j = t.2.2.2 j 0 ∧ ∃ f, f < n ∧ t.2.2.2 j 0 = nI f
          rw [(s3 j hje).1, t6 j hje]; exact p4 z
        · show s.2 22 j = t.2.2.2 j 1 ∧ ∃ f, f < n ∧ t.2.2.2 j 1 = nI f
          rw [(s3 j hje).2, t6 j hje]; exact p5 z
        · rw [upd_ne _ hje, upd_ne _ hje]; exact p6
        · rw [upd_ne _ hje]; exact p7
    · intro j hj
      show s.2 24 j = t.2.1 5 j ∧ IxN n (t.2.1 5 j)
      rw [s2 24 (by decide) (by decide), t2 5 (by decide)]
      exact h.2.2 j hj
  | succ d ih =>
    intro k N N' c s t hk hN hN' hc hs ht hl
    obtain ⟨N, rfl⟩ : ∃ M, N = M + 1 := ⟨N - 1, by omega⟩
    obtain ⟨N', rfl⟩ : ∃ M, N' = M + 1 := ⟨N' - 1, by omega⟩
    have hkm : k < m := by omega
    obtain ⟨f, hf, ef⟩ := form_ix h hkm
    have hc : c + ((if τ.2.1 7 k = 80 then 1 else 0) + cntP τ (k + 1) d) ≤ 2 := hc
    obtain ⟨s1, s2, s3⟩ := id hs
    obtain ⟨t1, t2, t3, t4, t5, t6⟩ := id ht
    have er : F_X2_rule s (nI k) = τ.2.1 7 k := by
      have := rule_in h hkm
      unfold F_X2_rule at this ⊢
      rw [s2 9 (by decide) (by decide)]; exact this
    have efs : F_X2_formula s (nI k) = nI f := by
      have := form_in h hkm
      unfold F_X2_formula at this ⊢
      rw [s2 8 (by decide) (by decide), this, ef]
    by_cases hp : τ.2.1 7 k = 80
    · rw [if_pos hp] at hc
      have hc2 : c < 2 := by omega
      obtain ⟨s9, hs9⟩ : ∃ s9, s9 = if c = 0 then sR s 21 (upd (s.2 21) e (nI f)) else sR s 22 (upd (s.2 22) e (nI f)) := ⟨_, rfl⟩
      obtain ⟨t9, ht9⟩ : ∃ t9, t9 = tA (tP t e (upd (t.2.2.2 e) c (nI f))) 13 (upd (t.2.1 13) e (nI (c + 1))) := ⟨_, rfl⟩
      have g1 : L_X1_keep_10 (N + 1) s (nI e) (nI c) (nI k) = L_X1_keep_10 N s9 (nI e) (nI (c + 1)) (nI (k + 1)) := by
        show B_X1_keep_10 _ s (nI e) (nI c) (nI k) = _
        unfold B_X1_keep_10 F_X2_isPremise
        rw [s1, h.mc, if_neg (nI_ge hkm (by omega)), er, if_pos hp, if_neg i10, hs9]
        by_cases c0 : c = 0
        · subst c0
          rw [if_pos (show nI 0 = 0 from rfl), if_pos rfl, lt_def, lt_def, lt_def, ni_add1, ni_add1, rput_in he (by decide), efs]
        · rw [if_neg (fun z => c0 (by rw [ni_eq0 (by omega)] at z; exact z)), if_neg c0, lt_def, lt_def, lt_def, ni_add1, ni_add1, rput_in he (by decide), efs]
      have g2 : L_X7_keepLemma_111 (N' + 1) t (nI k) = L_X7_keepLemma_111 N' t9 (nI (k + 1)) := by
        show B_X7_keepLemma_111 _ t (nI k) = _
        unfold B_X7_keepLemma_111
        rw [t1, h.mc7, h.ec7, if_neg (nI_ge hkm (by omega)), gd_in (show k < 60 by omega) (by decide), ni_cl (show k < 2147483648 by omega), t2 7 (by decide), if_pos hp, gd_in he (by decide), gd_in he (by decide), gd_in (show k < 60 by omega) (by decide), ni_cl (show e < 2147483648 by omega), t3, gd_in hc2 (by decide), ni_cl (show c < 2147483648 by omega), t2 6 (by decide), ef, lt_def, show (tP t e (upd (t.2.2.2 e) c (nI f))).1 4 = nI e by show t.1 4 = _; rw [t1, h.ec7], gd_in he (by decide), gd_in he (by decide), ni_cl (show e < 2147483648 by omega), show (tP t e (upd (t.2.2.2 e) c (nI f))).2.1 13 e = nI c from t3, lt_def, lt_def, ni_add1, ni_add1, ht9]
        rfl
      have hs' : KS e σ s9 := by
        subst hs9
        split
        · refine ⟨s1, fun j a b => by rw [sR_2, if_neg a]; exact s2 j a b, fun j hj => ⟨?_, ?_⟩⟩
          · show upd (s.2 21) e (nI f) j = _; rw [upd_ne _ hj]; exact (s3 j hj).1
          · exact (s3 j hj).2
        · refine ⟨s1, fun j a b => by rw [sR_2, if_neg b]; exact s2 j a b, fun j hj => ⟨?_, ?_⟩⟩
          · exact (s3 j hj).1
          · show upd (s.2 22) e (nI f) j = _; rw [upd_ne _ hj]; exact (s3 j hj).2
      have pe : t9.2.2.2 e = upd (t.2.2.2 e) c (nI f) := by subst ht9; show up1 t.2.2.2 e _ e = _; rw [up1_at, if_pos rfl]
      have ht' : KT e (c + 1) τ t9 := by
        subst ht9
        refine ⟨t1, fun j a => by rw [tA2, if_neg a]; exact t2 j a, ?_, fun j hj => ?_, t5, fun j hj => ?_⟩
        · show upd (t.2.1 13) e (nI (c + 1)) e = _; rw [upd_eq]
        · show upd (t.2.1 13) e (nI (c + 1)) j = _; rw [upd_ne _ hj]; exact t4 j hj
        · show up1 t.2.2.2 e _ j = _; rw [up1_at, if_neg hj]; exact t6 j hj
      have hl' : KL n e (c + 1) s9 t9 := by
        unfold KL
        rw [pe]
        have : c = 0 ∨ c = 1 := by omega
        rcases this with rfl | rfl
        · subst hs9
          rw [if_pos rfl]
          refine ⟨fun _ => ?_, fun z => absurd z (by omega)⟩
          rw [upd_eq]
          exact ⟨by show upd (s.2 21) e (nI f) e = _; rw [upd_eq], f, hf, rfl⟩
        · subst hs9
          rw [if_neg (by decide)]
          refine ⟨fun _ => ?_, fun _ => ?_⟩
          · rw [upd_ne _ (by decide)]
            exact hl.1 (by decide)
          · rw [upd_eq]
            exact ⟨by show upd (s.2 22) e (nI f) e = _; rw [upd_eq], f, hf, rfl⟩
      rw [g1, g2]
      exact ih (k + 1) N N' (c + 1) s9 t9 (by omega) (by omega) (by omega) (by omega) hs' ht' hl'
    · rw [if_neg hp, Nat.zero_add] at hc
      have g1 : L_X1_keep_10 (N + 1) s (nI e) (nI c) (nI k) = L_X1_keep_10 N s (nI e) (nI c) (nI (k + 1)) := by
        show B_X1_keep_10 _ s (nI e) (nI c) (nI k) = _
        unfold B_X1_keep_10 F_X2_isPremise
        rw [s1, h.mc, if_neg (nI_ge hkm (by omega)), er, if_neg hp, if_pos rfl, lt_def, ni_add1]
      have g2 : L_X7_keepLemma_111 (N' + 1) t (nI k) = L_X7_keepLemma_111 N' t (nI (k + 1)) := by
        show B_X7_keepLemma_111 _ t (nI k) = _
        unfold B_X7_keepLemma_111
        rw [t1, h.mc7, if_neg (nI_ge hkm (by omega)), gd_in (show k < 60 by omega) (by decide), ni_cl (show k < 2147483648 by omega), t2 7 (by decide), if_neg hp, lt_def, ni_add1]
      rw [g1, g2]
      exact ih (k + 1) N N' c s t (by omega) (by omega) (by omega) hc hs ht hl
end KEEP
theorem ag25 : AG25 Rel := by
  intro σ τ w hI
  obtain ⟨n, m, q, e, h, hr⟩ := id hI
  have hm := hr.m60
  have he8 := hr.e8
  unfold W_L_keepLemma P_X6_keepLemma P_X7_keepLemma P_X6_requireLines
  have ct := cnt_t hr m 0 FU 0 (by omega) (by unfold FU; omega)
  rw [nI_0, Nat.zero_add] at ct
  rw [lt_def, lt_def, ct]
  unfold keepEnd
  by_cases h0 : m = 0
  · subst h0
    unfold B_X7_keepLemma_87
    rw [if_pos (show σ.1 2 = 0 from hr.mc), if_pos (show τ.1 1 = 0 from hr.mc7), bd_exc, lt_def, thr_1]
    exact ag_exc rfl rfl rfl rfl (by decide) (hI.thr 1)
  · have n1 : ¬ σ.1 2 = 0 := by rw [hr.mc, ni_eq0 (by omega)]; exact h0
    have n2 : ¬ τ.1 1 = 0 := by rw [hr.mc7, ni_eq0 (by omega)]; exact h0
    have hk : m - 1 < m := by omega
    rw [if_neg n1, bd_some, if_neg n2, hr.mc, hr.mc7, ni_sub1 (by omega), inn_in hr hk, gd_in (show m - 1 < 60 by omega) (by decide), ni_cl (show m - 1 < 2147483648 by omega)]
    unfold B_X6_keepLemma_30 B_X6_keepLemma_50 P_X2_premiseCount B_X7_keepLemma_69 B_X7_keepLemma_87
    by_cases hi : τ.2.1 8 (m - 1) = -1
    · have cs := cnt_s hr m 0 FU 0 (by omega) (by unfold FU; omega)
      rw [nI_0, Nat.zero_add] at cs
      have cl := cntP_le τ m 0
      rw [if_pos hi, if_pos hi, shape_1, bd_some, lt_def, lt_def, cs, bd_some]
      by_cases hc : cntP τ 0 m ≤ 2
      · rw [if_neg (show ¬ (2 : Int32) < nI (cntP τ 0 m) from (show ¬ nI 2 < nI (cntP τ 0 m) from nI_nlt hc (by decide))), shape_1, bd_some, if_pos (show nI (cntP τ 0 m) ≤ (2 : Int32) from nI_le hc (by decide))]
        by_cases he : e < 8
        · rw [hr.ec, if_pos (show nI e < (8 : Int32) from nI_lt he (by decide)), hr.ec7, if_neg (show ¬ nI e = (8 : Int32) from fun z => by rw [show (8 : Int32) = nI 8 from rfl, ni_eq (by omega) (by decide)] at z; omega), lt_def, thr_le, show (tI τ 5 0).1 4 = nI e from hr.ec7, gd_in he (by decide), lt_def, lt_def, ni_cl (show e < 2147483648 by omega)]
          unfold P_X1_keep
          rw [lt_def, lt_def, lt_def, hr.ec]
          obtain ⟨s', t', r1, r2, r3, r4⟩ := keep_loop (h.thr 0) (hr.thr 0) (by omega) he rfl m 0 FU FU 0 σ (tA (tI τ 5 0) 13 (upd ((tI τ 5 0).2.1 13) e 0)) (by omega) (by unfold FU; omega) (by unfold FU; omega) (by rw [Nat.zero_add, cntP_thr]; exact hc) ⟨rfl, fun _ _ _ => rfl, fun _ _ => ⟨rfl, rfl⟩⟩ ⟨rfl, fun k hk => by rw [tA2, if_neg hk], by rw [tA2, if_pos rfl, upd_eq]; rfl, fun j hj => by rw [tA2, if_pos rfl, upd_ne _ hj], rfl, fun _ _ => rfl⟩ ⟨fun z => absurd z (by omega), fun z => absurd z (by omega)⟩
          rw [nI_0] at r1 r2
          rw [r1, r2, bd_some]
          exact ag_ret rfl rfl r3 r4
        · have e9 : e = 8 := by omega
          subst e9
          rw [hr.ec, if_neg (show ¬ nI 8 < (8 : Int32) by decide), hr.ec7, if_pos (show nI 8 = (8 : Int32) from rfl), lt_def, thr_3]
          exact ag_exc rfl rfl rfl rfl (by decide) (hI.thr 3)
      · rw [if_pos (show (2 : Int32) < nI (cntP τ 0 m) from nI_lt (a := 2) (by omega) (by omega)), shape_0, bd_exc, if_neg (show ¬ nI (cntP τ 0 m) ≤ (2 : Int32) from nI_ge (a := 2) (by omega) (by omega)), lt_def, thr_2]
        exact ag_exc rfl rfl rfl rfl (by decide) (hI.thr 2)
    · rw [if_neg hi, if_neg hi, shape_0, bd_exc, lt_def, thr_2]
      exact ag_exc rfl rfl rfl rfl (by decide) (hI.thr 2)
