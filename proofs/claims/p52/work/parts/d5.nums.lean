/-! HOW MANY LINES ARE NEEDED, THE MEAN, THE SHARE -/
section NUMS
variable {n m q e : Nat} {σ : DS} {τ : MS}
theorem need_c (h : RW n m q e σ τ) : ∀ (k N c : Nat) (A : Nat → Int32), k ≤ m → k < N → c + k ≤ 60 → ∃ (r : Nat) (A' : Nat → Int32), L_X2_countNeeded_31 N (sR σ 15 A) (nI c) (nI k - 1) = some (.inl (nI r), sR σ 15 A') ∧ c ≤ r ∧ r ≤ c + k ∧ (∀ j, k = j + 1 → A j = 1 → c + 1 ≤ r) := by
  have hm := h.m60
  intro k
  induction k with
  | zero =>
    intro N c A hk hN hc
    obtain ⟨N, rfl⟩ : ∃ M, N = M + 1 := ⟨N - 1, by omega⟩
    have e0 : nI 0 - 1 = (-1 : Int32) := by decide
    refine ⟨c, A, ?_, Nat.le_refl _, Nat.le_refl _, fun j hj => absurd hj (by omega)⟩
    show B_X2_countNeeded_31 _ (sR σ 15 A) (nI c) (nI 0 - 1) = _
    unfold B_X2_countNeeded_31
    rw [e0, if_pos (by decide)]
  | succ k ih =>
    intro N c A hk hN hc
    obtain ⟨N, rfl⟩ : ∃ M, N = M + 1 := ⟨N - 1, by omega⟩
    have hkm : k < m := by omega
    obtain ⟨-, -, -, -, -, -, c0, c1, c2, c3, -, -, x2, x3⟩ := h.ln hkm
    have g1 : L_X2_countNeeded_31 (N + 1) (sR σ 15 A) (nI c) (nI (k + 1) - 1) = if A k = 1 then L_X2_countNeeded_31 N (sR σ 15 (marksM τ k A)) (nI (c + 1)) (nI k - 1) else L_X2_countNeeded_31 N (sR σ 15 A) (nI c) (nI k - 1) := by
      show B_X2_countNeeded_31 _ (sR σ 15 A) (nI c) (nI (k + 1) - 1) = _
      unfold B_X2_countNeeded_31
      rw [nI_pred, if_neg (nI_pos (show k < 2147483648 by omega)), rat_in (show k < 60 by omega) (by decide), show (sR σ 15 A).2 15 k = A k from rfl]
      split
      · simp only [lt_def, sr11, sr12, sr13, sr15, sR_sR, rat_in (show k < 60 by omega) (by decide : (60 : Nat) < 2147483648), c0, c1, c2]
        rw [mkEnds_ok h x2, bd_some]
        simp only [sr14, rat_in (show k < 60 by omega) (by decide : (60 : Nat) < 2147483648), c3]
        rw [mkEnds_ok h x3, bd_some, ni_am1, ni_add1]
        rfl
      · rw [lt_def, ni_am1]
    rw [g1]
    by_cases hb : A k = 1
    · rw [if_pos hb]
      obtain ⟨r, A', r1, r2, r3, -⟩ := ih N (c + 1) (marksM τ k A) (by omega) (by omega) (by omega)
      exact ⟨r, A', r1, by omega, by omega, fun j _ _ => r2⟩
    · rw [if_neg hb]
      obtain ⟨r, A', r1, r2, r3, -⟩ := ih N c A (by omega) (by omega) (by omega)
      refine ⟨r, A', r1, r2, by omega, fun j hj hA => ?_⟩
      have : k = j := by omega
      subst this
      exact absurd hA hb
theorem cs_need : ∀ (E : String) (k : Int32), List.lookup E [("java/util/NoSuchElementException", (1 : Int32))] = some k → k ≠ 0 := fun E k h => by
  rcases hlookup_cons h with ⟨-, rfl⟩ | ⟨-, h⟩
  · decide
  · exact (hlookup_nil h).elim
theorem v_needed {σ0 : DS} (h0 : Rel σ0 τ) (hl : nLn τ ≠ 0) : ∃ r, 1 ≤ r ∧ r ≤ nLn τ ∧ Val τ (fun σ => P_L_needed σ) (nI r) := by
  have one : ∀ σ, Rel σ τ → ∃ r σ', P_X6_needed σ = some (.inl (nI r), σ') ∧ Rel σ' τ ∧ 1 ≤ r ∧ r ≤ nLn τ ∧ nI r = rv (P_X7_needed τ) := fun σ hσ => by
    obtain ⟨h, hr⟩ := hσ.at
    have hm := hr.m60
    have n1 : ¬ σ.1 2 = 0 := by rw [hr.mc, ni_eq0 (by omega)]; exact hl
    obtain ⟨r, A', r1, r2, r3, r4⟩ := need_c hr (nLn τ) FU 0 (upd (rfill 60 (σ.2 15) 0) (nLn τ - 1) 1) (Nat.le_refl _) (by unfold FU; omega) (by omega)
    have r5 := r4 (nLn τ - 1) (by omega) (upd_eq _ _ _)
    have e : P_X6_needed σ = some (.inl (nI r), sR σ 15 A') := by
      unfold P_X6_needed P_X6_requireLines P_X2_countNeeded
      rw [if_neg n1, bd_some]
      simp only [lt_def, sr15, sr1, sR_sR, hr.mc]
      rw [rput_in (show nLn τ - 1 < 60 by omega) (by decide) |> fun z => (show rput 60 (rfill 60 (σ.2 15) 0) (nI (nLn τ) - 1) 1 = upd (rfill 60 (σ.2 15) 0) (nLn τ - 1) 1 by rw [ni_sub1 (by omega)]; exact z _ _)]
      rw [show L_X2_countNeeded_31 FU (sR σ 15 (upd (rfill 60 (σ.2 15) 0) (nLn τ - 1) 1)) 0 (nI (nLn τ) - 1) = some (.inl (nI r), sR σ 15 A') from r1, bd_some]
    refine ⟨r, _, e, Rel.of (h.scr rfl (fun k hk => by rw [sR_2, if_neg (by omega)]) rfl (fun _ _ => rfl)) (hr.of (Nat.le_refl _) ⟨fun k _ _ => rfl, fun k a b => by rw [sR_2, if_neg (by omega)], fun k a b => by rw [sR_2, if_neg (by omega)]⟩ PPt.rf), by omega, by omega, ?_⟩
    have ha := agx cs_need (ag37 σ τ os0 hσ)
    rw [e] at ha
    rcases ha with ⟨x, σ', τ', e1, e2, -⟩ | ⟨E, k, x, σ', τ', e1, -⟩
    · cases e1; rw [e2]; rfl
    · cases e1
  obtain ⟨r, σ', -, -, h1, h2, h3⟩ := one σ0 h0
  refine ⟨r, h1, h2, fun σ hσ => ?_⟩
  obtain ⟨r', s, e1, e2, -, -, e3⟩ := one σ hσ
  refine ⟨s, ?_, e2⟩
  show P_L_needed σ = _
  unfold P_L_needed
  rw [e1, e3, ← h3]
  rfl
theorem v_needed0 (hl : nLn τ = 0) : Val τ (fun σ => P_L_needed σ) (-1001) := fun σ hσ => by
  obtain ⟨h, hr⟩ := hσ.at
  refine ⟨σ, ?_, hσ⟩
  show P_L_needed σ = _
  unfold P_L_needed P_X6_needed P_X6_requireLines
  rw [if_pos (show σ.1 2 = 0 by rw [hr.mc, hl]; rfl), bd_exc]
  exact hdl_exc _ rfl _ _
/-! the mean -/
def szs (τ : MS) : Nat → Nat → Nat
  | 0, _ => 0
  | d + 1, k => (Sz τ (fo τ k)).toNatClampNeg + szs τ d (k + 1)
theorem sz_bd (hF : FW n σ τ) {f : Nat} (hf : f < n) : ∃ z, Sz τ f = nI z ∧ 1 ≤ z ∧ z ≤ 30 := by
  obtain ⟨w, hw, hl, hs, -⟩ := hF.ent hf
  refine ⟨w.length, hs, ?_, hl⟩
  cases h : w.length with
  | zero => rw [h] at hw; exact hw.elim
  | succ k => omega
theorem ms_loop (hF : FW n σ τ) (h : RW n m q e σ τ) : ∀ (d k N acc : Nat), k + d = m → d < N → acc + 30 * d ≤ 1800 → L_X2_sizeSum_4 N σ (nI acc) (nI k) = some (.inl (nI (acc + szs τ d k)), σ) ∧ d ≤ szs τ d k ∧ szs τ d k ≤ 30 * d := by
  have hm := h.m60
  have hle := hF.le
  intro d
  induction d with
  | zero =>
    intro k N acc hk hN ha
    obtain ⟨N, rfl⟩ : ∃ M, N = M + 1 := ⟨N - 1, by omega⟩
    have hk : k = m := hk
    subst hk
    refine ⟨?_, Nat.le_refl _, Nat.le_refl _⟩
    show B_X2_sizeSum_4 _ σ (nI acc) (nI k) = _
    unfold B_X2_sizeSum_4
    rw [h.mc, if_pos (nI_le (Nat.le_refl _) (by omega))]
    rfl
  | succ d ih =>
    intro k N acc hk hN ha
    obtain ⟨N, rfl⟩ : ∃ M, N = M + 1 := ⟨N - 1, by omega⟩
    have hkm : k < m := by omega
    obtain ⟨f, hf, ef⟩ := form_ix h hkm
    obtain ⟨z, hz, z1, z2⟩ := sz_bd hF hf
    have e1 : fo τ k = f := by show (τ.2.1 6 k).toNatClampNeg = f; rw [ef, ni_cl (by omega)]
    have e2 : szs τ (d + 1) k = z + szs τ d (k + 1) := by
      show (Sz τ (fo τ k)).toNatClampNeg + _ = _
      rw [e1, hz, ni_cl (by omega)]
    obtain ⟨r1, r2, r3⟩ := ih (k + 1) N (acc + z) (by omega) (by omega) (by omega)
    refine ⟨?_, by omega, by omega⟩
    show B_X2_sizeSum_4 _ σ (nI acc) (nI k) = _
    unfold B_X2_sizeSum_4
    rw [h.mc, if_neg (nI_ge hkm (by omega)), lt_def, lt_def, ni_add1, form_in h hkm, ef, size_in hF hf, hz, ni_add, e2, ← Nat.add_assoc]
    exact r1
def mnD (τ : MS) : UInt64 := FP.ddiv (FP.i2d (nI (szs τ (nLn τ) 0))) (FP.i2d (nI (nLn τ)))
theorem v_mean (hl : nLn τ ≠ 0) : Val τ (fun σ => P_L_mean σ) (mnD τ) := fun σ hσ => by
  obtain ⟨h, hr⟩ := hσ.at
  have hm := hr.m60
  have n1 : ¬ σ.1 2 = 0 := by rw [hr.mc, ni_eq0 (by omega)]; exact hl
  obtain ⟨r1, -, -⟩ := ms_loop h hr (nLn τ) 0 FU 0 (by omega) (by unfold FU; omega) (by omega)
  rw [Nat.zero_add] at r1
  refine ⟨σ, ?_, hσ⟩
  show P_L_mean σ = _
  unfold P_L_mean P_X6_meanSize P_X2_sizeSum
  rw [if_neg n1]
  simp only [lt_def]
  rw [show (0 : Int32) = nI 0 from rfl, r1, bd_some, hr.mc, gc_t (mean_num _ (by omega) hm).1]
  rfl
theorem v_mean0 (hl : nLn τ = 0) : Val τ (fun σ => P_L_mean σ) (13830554455654793216 : UInt64) := fun σ hσ => by
  obtain ⟨h, hr⟩ := hσ.at
  refine ⟨σ, ?_, hσ⟩
  show P_L_mean σ = _
  unfold P_L_mean P_X6_meanSize
  rw [if_pos (show σ.1 2 = 0 by rw [hr.mc, hl]; rfl)]
  exact hdl_exc _ rfl _ _
theorem szs_bd {σ0 : DS} (h0 : Rel σ0 τ) : nLn τ ≤ szs τ (nLn τ) 0 ∧ szs τ (nLn τ) 0 ≤ 30 * nLn τ ∧ nLn τ ≤ 60 := by
  obtain ⟨h, hr⟩ := h0.at
  have hm := hr.m60
  obtain ⟨-, r2, r3⟩ := ms_loop h hr (nLn τ) 0 FU 0 (by omega) (by unfold FU; omega) (by omega)
  exact ⟨r2, r3, hm⟩
/-! the share -/
theorem bN_le : ∀ (k x : Nat), bN k x ≤ k
  | 0, _ => Nat.le_refl _
  | k + 1, x => by
    have := bN_le k x
    show bN k x + x / 2 ^ k % 2 ≤ k + 1
    omega
def shF (τ : MS) (f : Nat) : UInt32 := FP.fdiv (FP.i2f (nI (bN 32 (Tb τ f).toBitVec.toNat))) (1107296256 : UInt32)
theorem sh_cmp : ∀ c, c < 64 → Op.cmpValue (FP.fcmp (FP.fdiv (FP.i2f (nI c)) (1107296256 : UInt32)) (FP.fdiv (FP.i2f (nI c)) (1107296256 : UInt32))) .l = 0 := by decide +kernel
theorem v_share {f : Nat} (hf : f < nF τ) : Val τ (fun σ => P_X6_share σ (nI f)) (shF τ f) := fun σ hσ => by
  obtain ⟨h, hr⟩ := hσ.at
  refine ⟨σ, ?_, hσ⟩
  show P_X6_share σ (nI f) = _
  unfold P_X6_share
  have := bN_le 32 (Tb τ f).toBitVec.toNat
  rw [reqF_in h hf, bd_some, table_in h hf, bc_ok, gc_t (share_guard _ (by omega)).1]
  rfl
end NUMS
