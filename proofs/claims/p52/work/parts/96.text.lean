/-! TEXTS: the class's text, the reference's work -/
/-- only the text has changed -/
def TSs (σ σ' : DS) : Prop := (∀ k, k ≠ 11 → σ'.1 k = σ.1 k) ∧ ∀ k, k ≠ 29 → σ'.2 k = σ.2 k
def TSt (τ τ' : MS) : Prop := (∀ k, k ≠ 6 → τ'.1 k = τ.1 k) ∧ (∀ k, k ≠ 15 → τ'.2.1 k = τ.2.1 k) ∧ τ'.2.2 = τ.2.2
theorem TSs.rf {σ : DS} : TSs σ σ := ⟨fun _ _ => rfl, fun _ _ => rfl⟩
theorem TSs.tr {σ σ1 σ2 : DS} (h1 : TSs σ σ1) (h2 : TSs σ1 σ2) : TSs σ σ2 := ⟨fun k hk => (h2.1 k hk).trans (h1.1 k hk), fun k hk => (h2.2 k hk).trans (h1.2 k hk)⟩
theorem TSt.rf {τ : MS} : TSt τ τ := ⟨fun _ _ => rfl, fun _ _ => rfl, rfl⟩
theorem TSt.tr {τ τ1 τ2 : MS} (h1 : TSt τ τ1) (h2 : TSt τ1 τ2) : TSt τ τ2 := ⟨fun k hk => (h2.1 k hk).trans (h1.1 k hk), fun k hk => (h2.2.1 k hk).trans (h1.2.1 k hk), h2.2.2.trans h1.2.2⟩
theorem WrT.ts {L : Nat} {w : List Int32} {τ τ' : MS} (h : WrT L w τ τ') : TSt τ τ' := ⟨h.2.1, h.2.2.1, h.2.2.2.1⟩
/-- the texts hold the word w -/
def TxS (w : List Int32) (σ : DS) : Prop := σ.1 11 = nI w.length ∧ ∀ i, i < w.length → σ.2 29 i = w.getD i 0
def TxT (w : List Int32) (τ : MS) : Prop := τ.1 6 = nI w.length ∧ ∀ i, i < w.length → τ.2.1 15 i = w.getD i 0
section TXT
variable {n m q e : Nat} {σ : DS} {τ : MS}
theorem TSs.fw {σ' : DS} (h : TSs σ σ') (hF : FW n σ τ) : FW n σ' τ := hF.scr (h.1 1 (by decide)) (fun k hk => h.2 k (by omega)) rfl (fun _ _ => rfl)
theorem TSs.rw9 {σ' : DS} (h : TSs σ σ') (hR : RW n m q e σ τ) : RW n m q e σ' τ := hR.of (Nat.le_refl n) ⟨fun k h1 h2 => h.1 k (by omega), fun k h1 h2 => h.2 k (by omega), fun k h1 h2 => h.2 k (by omega)⟩ PPt.rf
theorem TSt.fw {τ' : MS} (h : TSt τ τ') (hF : FW n σ τ) : FW n σ τ' := hF.scr rfl (fun _ _ => rfl) (h.1 0 (by decide)) (fun k hk => h.2.1 k (by omega))
theorem TSt.rw9 {τ' : MS} (h : TSt τ τ') (hR : RW n m q e σ τ) : RW n m q e σ τ' := hR.of (Nat.le_refl n) PPs.rf ⟨fun k h1 h2 => h.1 k (by omega), fun k h1 h2 => h.2.1 k (by omega), h.2.2⟩
/-- a symbol more -/
theorem append_ok {w : List Int32} (h : TxS w σ) (hw : w.length < 64) (c : Int32) : ∃ σ', P_X5_append σ c = some (.inl (), σ') ∧ TxS (w ++ [c]) σ' ∧ TSs σ σ' := by
  have hgo : P_X5_append σ c = some (.inl (), sI (sR σ 29 (upd (σ.2 29) w.length c)) 11 (nI (w.length + 1))) := by
    unfold P_X5_append P_X5_insert
    rw [h.1, show (64 : Int32) = nI 64 from rfl, if_neg (nI_ge hw (by decide)), lt_def]
    show bd (B_X5_insert_14 (L_X5_insert_14 3999999) σ (nI w.length) c (nI w.length)) _ = _
    unfold B_X5_insert_14
    rw [if_pos (nI_le (Nat.le_refl _) (by omega)), lt_def, lt_def, rput_in hw (by decide), show (sR σ 29 (upd (σ.2 29) w.length c)).1 11 = nI w.length from h.1, ni_add1, bd_some]
  refine ⟨_, hgo, ⟨by rw [List.length_append]; rfl, fun i hi => ?_⟩, fun k hk => by rw [sI_1, if_neg hk]; rfl, fun k hk => by rw [sI_2, sR_2, if_neg hk]⟩
  rw [sI_2, sR_2, if_pos rfl]
  rw [List.length_append] at hi
  have hi : i < w.length + 1 := hi
  by_cases hiw : i = w.length
  · subst hiw
    rw [upd_eq, getD_r (Nat.le_refl _), Nat.sub_self]
    rfl
  · rw [upd_ne _ hiw, getD_l (by omega)]
    exact h.2 i (by omega)
/-- a formula's symbols more -/
theorem appF_loop {f : Nat} {u : List Int32} (hu30 : u.length ≤ 30) : ∀ (d i N : Nat) (w : List Int32) (s : DS), i + d = u.length → d < N → (∀ j, j < u.length → F_X0_symbol s (nI f) (nI j) = u.getD j 0) → (∀ s', TSs s s' → ∀ j, j < u.length → F_X0_symbol s' (nI f) (nI j) = u.getD j 0) → TxS w s → w.length + d ≤ 64 → ∃ s', L_X5_appendFormula_9 N s (nI f) (nI u.length) (nI i) = some (.inl (), s') ∧ TxS (w ++ u.drop i) s' ∧ TSs s s' := by
  intro d
  induction d with
  | zero =>
    intro i N w s hi hN h1 h2 hw hl
    obtain ⟨N, rfl⟩ : ∃ M, N = M + 1 := ⟨N - 1, by omega⟩
    have hi : i = u.length := hi
    subst hi
    refine ⟨s, ?_, by rw [List.drop_length, List.append_nil]; exact hw, TSs.rf⟩
    show B_X5_appendFormula_9 _ s (nI f) (nI u.length) (nI u.length) = _
    unfold B_X5_appendFormula_9
    rw [if_pos (nI_le (Nat.le_refl _) (by omega))]
  | succ d ih =>
    intro i N w s hi hN h1 h2 hw hl
    obtain ⟨N, rfl⟩ : ∃ M, N = M + 1 := ⟨N - 1, by omega⟩
    obtain ⟨s1, e1, t1, k1⟩ := append_ok hw (by omega) (u.getD i 0)
    obtain ⟨s2, e2, t2, k2⟩ := ih (i + 1) N (w ++ [u.getD i 0]) s1 (by omega) (by omega) (h2 s1 k1) (fun s' hs' => h2 s' (k1.tr hs')) t1 (by rw [List.length_append]; show w.length + 1 + d ≤ 64; omega)
    refine ⟨s2, ?_, ?_, k1.tr k2⟩
    · show B_X5_appendFormula_9 _ s (nI f) (nI u.length) (nI i) = _
      unfold B_X5_appendFormula_9
      rw [if_neg (nI_ge (by omega) (by omega)), h1 i (by omega), e1, bd_some, lt_def, ni_add1]
      exact e2
    · have hd : u.drop i = u.getD i 0 :: u.drop (i + 1) := by
        rw [List.drop_eq_getElem_cons (by omega), List.getD_eq_getElem?_getD, List.getElem?_eq_getElem (by omega)]
        rfl
      rw [hd]
      rw [List.append_assoc] at t2
      exact t2
theorem appF_ok (h : FW n σ τ) {f : Nat} (hf : f < n) {w u : List Int32} (hu : Sw τ u.length f u) (hw : TxS w σ) (hl : w.length + u.length ≤ 64) : ∃ σ', P_X5_appendFormula σ (nI f) = some (.inl (), σ') ∧ TxS (w ++ u) σ' ∧ TSs σ σ' := by
  have hle := h.le
  obtain ⟨u', q1, q2, q3, q4, q5, q6⟩ := word_of h hf
  have e := Sw.det (by omega) hu q1
  subst e
  unfold P_X5_appendFormula
  rw [lt_def, lt_def, q4]
  obtain ⟨s', e1, e2, e3⟩ := appF_loop (f := f) q3 u.length 0 FU w σ (by omega) (by unfold FU; omega) q6 (fun s' hs' j hj => by
    obtain ⟨u'', r1, r2, r3, r4, r5, r6⟩ := word_of (hs'.fw h) hf
    have e := Sw.det (by omega) hu r1
    subst e
    exact r6 j hj) hw hl
  exact ⟨s', e1, e2, e3⟩
theorem copy_ok (h : FW n σ τ) {f : Nat} (hf : f < n) {u : List Int32} (hu : Sw τ u.length f u) (hl : u.length ≤ 30) : ∃ σ', P_X5_copy σ (nI f) = some (.inl (), σ') ∧ TxS u σ' ∧ TSs σ σ' := by
  have k0 : TSs σ (sI σ 11 0) := ⟨fun k hk => by rw [sI_1, if_neg hk], fun _ _ => rfl⟩
  obtain ⟨σ', e1, e2, e3⟩ := appF_ok (k0.fw h) hf (w := []) hu ⟨rfl, fun i hi => absurd hi (Nat.not_lt_zero _)⟩ (by simp; omega)
  refine ⟨σ', ?_, e2, k0.tr e3⟩
  unfold P_X5_copy P_X5_clear
  rw [lt_def, bd_some, e1, bd_some]
end TXT
