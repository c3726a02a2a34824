/-! WHICH LINES ARE NEEDED: both sides -/
theorem sr11 (σ : DS) (A : Nat → Int32) : (sR σ 15 A).2 11 = σ.2 11 := rfl
theorem sr12 (σ : DS) (A : Nat → Int32) : (sR σ 15 A).2 12 = σ.2 12 := rfl
theorem sr13 (σ : DS) (A : Nat → Int32) : (sR σ 15 A).2 13 = σ.2 13 := rfl
theorem sr14 (σ : DS) (A : Nat → Int32) : (sR σ 15 A).2 14 = σ.2 14 := rfl
theorem sr15 (σ : DS) (A : Nat → Int32) : (sR σ 15 A).2 15 = A := rfl
theorem sr1 (σ : DS) (A : Nat → Int32) : (sR σ 15 A).1 = σ.1 := rfl
section NEED2
variable {n m q e : Nat} {σ : DS} {τ : MS}
theorem mkEnds_ok (h : RW n m q e σ τ) {v : Int32} (hv : IxN q v) (A : Nat → Int32) : P_X2_markEnds (sR σ 15 A) v = some (.inl (), sR σ 15 (endsM τ v A)) := by
  have hq := h.q60
  have hm := h.m60
  unfold P_X2_markEnds endsM
  rw [lt_def, lt_def, show (sR σ 15 A).2 16 = σ.2 16 from rfl, show (sR σ 15 A).2 15 = A from rfl]
  rcases hv with rfl | ⟨b, hb, rfl⟩
  · rw [rat_m1, rput_m1, if_pos rfl, show (sR (sR σ 15 A) 15 A).2 17 = σ.2 17 from rfl, rat_m1, show (sR (sR σ 15 A) 15 A).2 15 = A from rfl, rput_m1, sR_sR, sR_sR]
  · obtain ⟨p1, -, p3, -⟩ := h.bx hb
    rw [rat_in (by omega) (by decide), p1, if_neg (ni_ne (by omega)), ni_cl (by omega)]
    show some (Sum.inl (), sR (sR (sR σ 15 A) 15 (mk1 (τ.2.1 11 b) A)) 15 (rput 60 (mk1 (τ.2.1 11 b) A) (rat 60 (σ.2 17) (nI b)) 1)) = _
    rw [rat_in (by omega) (by decide), p3, sR_sR, sR_sR]
    rfl
theorem need_loop (h : RW n m q e σ τ) : ∀ (k N N' : Nat) (c : Int32) (A B : Nat → Int32), k ≤ m → k < N → k < N' → MR m A B → ∃ r A' B', L_X2_countNeeded_31 N (sR σ 15 A) c (nI k - 1) = some (.inl r, sR σ 15 A') ∧ L_X7_needed_64 N' (tA τ 19 B) c (nI k - 1) = some (.inl r, tA τ 19 B') := by
  have hm := h.m60
  intro k
  induction k with
  | zero =>
    intro N N' c A B hk hN hN' hA
    obtain ⟨N, rfl⟩ : ∃ M, N = M + 1 := ⟨N - 1, by omega⟩
    obtain ⟨N', rfl⟩ : ∃ M, N' = M + 1 := ⟨N' - 1, by omega⟩
    have e0 : nI 0 - 1 = (-1 : Int32) := by decide
    refine ⟨c, A, B, ?_, ?_⟩
    · show B_X2_countNeeded_31 _ (sR σ 15 A) c (nI 0 - 1) = _
      unfold B_X2_countNeeded_31
      rw [e0, if_pos (by decide)]
    · show B_X7_needed_64 _ (tA τ 19 B) c (nI 0 - 1) = _
      unfold B_X7_needed_64
      rw [e0, if_pos (by decide)]
  | succ k ih =>
    intro N N' c A B hk hN hN' hA
    obtain ⟨N, rfl⟩ : ∃ M, N = M + 1 := ⟨N - 1, by omega⟩
    obtain ⟨N', rfl⟩ : ∃ M, N' = M + 1 := ⟨N' - 1, by omega⟩
    have hkm : k < m := by omega
    obtain ⟨eA, eB⟩ := hA k hkm
    obtain ⟨-, -, -, -, -, -, c0, c1, c2, c3, -, -, x2, x3⟩ := h.ln hkm
    have g1 : L_X2_countNeeded_31 (N + 1) (sR σ 15 A) c (nI (k + 1) - 1) = if B k = 1 then L_X2_countNeeded_31 N (sR σ 15 (marksM τ k A)) (c + 1) (nI k - 1) else L_X2_countNeeded_31 N (sR σ 15 A) c (nI k - 1) := by
      show B_X2_countNeeded_31 _ (sR σ 15 A) c (nI (k + 1) - 1) = _
      unfold B_X2_countNeeded_31
      rw [nI_pred, if_neg (nI_pos (show k < 2147483648 by omega)), rat_in (show k < 60 by omega) (by decide), show (sR σ 15 A).2 15 k = A k from rfl, eA]
      split
      · simp only [lt_def, sr11, sr12, sr13, sr15, sR_sR, rat_in (show k < 60 by omega) (by decide : (60 : Nat) < 2147483648), c0, c1, c2]
        rw [mkEnds_ok h x2, bd_some]
        simp only [sr14, rat_in (show k < 60 by omega) (by decide : (60 : Nat) < 2147483648), c3]
        rw [mkEnds_ok h x3, bd_some, ni_am1]
        rfl
      · rw [lt_def, ni_am1]
    have g2 : L_X7_needed_64 (N' + 1) (tA τ 19 B) c (nI (k + 1) - 1) = if B k = 1 then L_X7_needed_64 N' (tA τ 19 (marksM τ k B)) (c + 1) (nI k - 1) else L_X7_needed_64 N' (tA τ 19 B) c (nI k - 1) := by
      show B_X7_needed_64 _ (tA τ 19 B) c (nI (k + 1) - 1) = _
      unfold B_X7_needed_64
      rw [nI_pred, if_neg (nI_pos (show k < 2147483648 by omega)), gd_in (show k < 60 by omega) (by decide), ni_cl (show k < 2147483648 by omega), show (tA τ 19 B).2.1 19 k = B k from rfl]
      rcases eB with z | z
      · rw [z, if_pos rfl, if_neg (by decide), lt_def, ni_am1]
      · rw [z, if_neg i10, if_pos rfl, lt_def, lt_def, need_row h hkm]
    rw [g1, g2]
    by_cases hb : B k = 1
    · rw [if_pos hb, if_pos hb]
      exact ih N N' (c + 1) _ _ (by omega) (by omega) (by omega) (hA.marks τ k)
    · rw [if_neg hb, if_neg hb]
      exact ih N N' c A B (by omega) (by omega) (by omega) hA
/-- the reference's row is made empty but for the last line -/
theorem need_init (h : RW n m q e σ τ) (h0 : 0 < m) : ∀ (d k N : Nat) (B : Nat → Int32), k + d = m → d < N → (∀ j, j < k → B j = if j = m - 1 then 1 else 0) → ∃ B', (∀ j, j < m → B' j = if j = m - 1 then 1 else 0) ∧ L_X7_needed_20 N (tA τ 19 B) (nI k) = L_X7_needed_64 FU (tA τ 19 B') 0 (nI m - 1) := by
  have hm := h.m60
  intro d
  induction d with
  | zero =>
    intro k N B hk hN hB
    obtain ⟨N, rfl⟩ : ∃ M, N = M + 1 := ⟨N - 1, by omega⟩
    have hk : k = m := hk
    subst hk
    refine ⟨B, hB, ?_⟩
    show B_X7_needed_20 _ (tA τ 19 B) (nI k) = _
    unfold B_X7_needed_20
    rw [show (tA τ 19 B).1 1 = nI k from h.mc7, if_pos (nI_le (Nat.le_refl _) (by omega)), lt_def, lt_def]
  | succ d ih =>
    intro k N B hk hN hB
    obtain ⟨N, rfl⟩ : ∃ M, N = M + 1 := ⟨N - 1, by omega⟩
    obtain ⟨B', b1, b2⟩ := ih (k + 1) N (upd B k (if k = m - 1 then 1 else 0)) (by omega) (by omega) (fun j hj => by
      by_cases hjk : j = k
      · subst hjk; rw [upd_eq]
      · rw [upd_ne _ hjk]; exact hB j (by omega))
    refine ⟨B', b1, ?_⟩
    rw [← b2]
    show B_X7_needed_20 _ (tA τ 19 B) (nI k) = _
    unfold B_X7_needed_20
    rw [show (tA τ 19 B).1 1 = nI m from h.mc7, if_neg (nI_ge (by omega) (by omega)), ni_sub1 h0, gd_in (show k < 60 by omega) (by decide), gd_in (show k < 60 by omega) (by decide), ni_cl (show k < 2147483648 by omega), lt_def, lt_def, lt_def, lt_def, ni_add1, tA_tA, tA_tA]
    by_cases hkm : k = m - 1
    · rw [if_pos (by rw [hkm]), if_pos hkm]; rfl
    · rw [if_neg (fun z => hkm (by rw [ni_eq (by omega) (by omega)] at z; exact z)), if_neg hkm]; rfl
end NEED2
theorem ag37 : AG37 Rel := by
  intro σ τ w hI
  obtain ⟨n, m, q, e, h, hr⟩ := id hI
  have hm := hr.m60
  unfold W_L_needed P_X6_needed P_X7_needed P_X6_requireLines P_X2_countNeeded
  by_cases h0 : m = 0
  · subst h0
    rw [if_pos (show σ.1 2 = 0 from hr.mc), if_pos (show τ.1 1 = 0 from hr.mc7), raises_eq, bd_some]
    exact ag_exc rfl rfl rfl rfl (by decide) (hI.thr 1)
  · have n1 : ¬ σ.1 2 = 0 := by rw [hr.mc, ni_eq0 (by omega)]; exact h0
    have n2 : ¬ τ.1 1 = 0 := by rw [hr.mc7, ni_eq0 (by omega)]; exact h0
    obtain ⟨B', b1, b2⟩ := need_init (hr.thr 0) (by omega) m 0 FU ((tI τ 5 0).2.1 19) (by omega) (by unfold FU; omega) (fun j hj => absurd hj (Nat.not_lt_zero _))
    have es : tA (tI τ 5 0) 19 ((tI τ 5 0).2.1 19) = tI τ 5 0 := by
      have e : up1 (tI τ 5 0).2.1 19 ((tI τ 5 0).2.1 19) = (tI τ 5 0).2.1 := funext fun j => by
        rw [up1_at]
        split
        · rename_i z; rw [z]
        · rfl
      show ((tI τ 5 0).1, up1 (tI τ 5 0).2.1 19 ((tI τ 5 0).2.1 19), (tI τ 5 0).2.2) = _
      rw [e]
    rw [es, nI_0] at b2
    obtain ⟨r, A2, B2, r1, r2⟩ := need_loop (hr.thr 0) m FU FU 0 (upd (rfill 60 (σ.2 15) 0) (m - 1) 1) B' (Nat.le_refl m) (by unfold FU; omega) (by unfold FU; omega) (fun j hj => by
      rw [b1 j hj]
      by_cases z : j = m - 1
      · subst z; rw [upd_eq, if_pos rfl]; exact ⟨rfl, Or.inr rfl⟩
      · rw [upd_ne _ z, if_neg z, rfill_in (by omega)]; exact ⟨rfl, Or.inl rfl⟩)
    rw [if_neg n1, bd_some, if_neg n2]
    simp only [lt_def, sr15, sr1, sR_sR, hr.mc]
    rw [b2, r2, rput_in (show m - 1 < 60 by omega) (by decide) |> fun z => (show rput 60 (rfill 60 (σ.2 15) 0) (nI m - 1) 1 = upd (rfill 60 (σ.2 15) 0) (m - 1) 1 by rw [ni_sub1 (by omega)]; exact z _ _), r1, bd_some]
    exact ag_ret rfl rfl rfl ⟨n, m, q, e, h.scr rfl (fun k hk => by rw [sR_2, if_neg (by omega)]) rfl (fun k hk => by rw [tA2, if_neg (by omega)]; rfl), hr.of (Nat.le_refl n) ⟨fun k _ _ => rfl, fun k a b => by rw [sR_2, if_neg (by omega)], fun k a b => by rw [sR_2, if_neg (by omega)]⟩ ⟨fun k a b => by rw [tA1, tI1, if_neg (by omega)], fun k a b => by rw [tA2, if_neg (by omega)]; rfl, rfl⟩⟩
