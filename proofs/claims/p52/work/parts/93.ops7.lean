/-! WHAT FOLLOWS, WHAT IS SOUND -/
theorem and_m1 (x : Int32) : x &&& (-1 : Int32) = x := by
  first | exact Int32.and_neg_one | (apply Int32.toBitVec_inj.mp; simp) 
theorem and_as (x y z : Int32) : (x &&& y) &&& z = x &&& (y &&& z) := Int32.and_assoc ..
section FOL
variable {n m q e : Nat} {σ : DS} {τ : MS}
def cov (r t : Int32) : Int32 := if r &&& (t ^^^ (-1 : Int32)) = 0 then 1 else 0
theorem fol_loop (hF : FW n σ τ) (h : RW n m q e σ τ) {g : Nat} (hg : g < n) : ∀ (d k N N' : Nat) (acc : Int32), k + d = m → d < N → d < N' → ∃ r, L_X2_citableTable_4 N σ acc (nI k) = some (.inl r, σ) ∧ L_X7_follows_14 N' τ (nI g) acc (nI k) = some (.inl (cov r (Tb τ g)), τ) := by
  have hm := h.m60
  have hle := hF.le
  intro d
  induction d with
  | zero =>
    intro k N N' acc hk hN hN'
    obtain ⟨N, rfl⟩ : ∃ M, N = M + 1 := ⟨N - 1, by omega⟩
    obtain ⟨N', rfl⟩ : ∃ M, N' = M + 1 := ⟨N' - 1, by omega⟩
    have hk : k = m := hk
    subst hk
    refine ⟨acc, ?_, ?_⟩
    · show B_X2_citableTable_4 _ σ acc (nI k) = _
      unfold B_X2_citableTable_4
      rw [h.mc, if_pos (nI_le (Nat.le_refl _) (by omega))]
    · show B_X7_follows_14 _ τ (nI g) acc (nI k) = _
      unfold B_X7_follows_14 cov
      rw [h.mc7, if_pos (nI_le (Nat.le_refl _) (by omega)), gd_in (by omega) (by decide), ni_cl (by omega)]
      split <;> rfl
  | succ d ih =>
    intro k N N' acc hk hN hN'
    obtain ⟨N, rfl⟩ : ∃ M, N = M + 1 := ⟨N - 1, by omega⟩
    obtain ⟨N', rfl⟩ : ∃ M, N' = M + 1 := ⟨N' - 1, by omega⟩
    have hkm : k < m := by omega
    obtain ⟨c, hc, e1, e2⟩ := cit_ok h hkm
    obtain ⟨f, hf, ef⟩ := form_ix h hkm
    have g1 : L_X2_citableTable_4 (N + 1) σ acc (nI k) = if c = 0 then L_X2_citableTable_4 N σ acc (nI (k + 1)) else L_X2_citableTable_4 N σ (acc &&& Tb τ f) (nI (k + 1)) := by
      show B_X2_citableTable_4 _ σ acc (nI k) = _
      unfold B_X2_citableTable_4
      rw [h.mc, if_neg (nI_ge hkm (by omega)), e1, lt_def, lt_def, lt_def, ni_add1, form_in h hkm, ef, table_in hF hf]
    have g2 : L_X7_follows_14 (N' + 1) τ (nI g) acc (nI k) = if c = 0 then L_X7_follows_14 N' τ (nI g) acc (nI (k + 1)) else L_X7_follows_14 N' τ (nI g) (acc &&& Tb τ f) (nI (k + 1)) := by
      show B_X7_follows_14 _ τ (nI g) acc (nI k) = _
      unfold B_X7_follows_14
      rw [h.mc7, if_neg (nI_ge hkm (by omega)), e2, bd_some, lt_def, lt_def, ni_add1, and_m1, gd_in (show k < 60 by omega) (by decide), ni_cl (show k < 2147483648 by omega), ef, gd_in (show f < 150 by omega) (by decide), ni_cl (show f < 2147483648 by omega), lt_def, lt_def]
    rcases hc with rfl | rfl
    · obtain ⟨r, r1, r2⟩ := ih (k + 1) N N' acc (by omega) (by omega) (by omega)
      exact ⟨r, by rw [g1, if_pos rfl]; exact r1, by rw [g2, if_pos rfl]; exact r2⟩
    · obtain ⟨r, r1, r2⟩ := ih (k + 1) N N' (acc &&& Tb τ f) (by omega) (by omega) (by omega)
      exact ⟨r, by rw [g1, if_neg i10]; exact r1, by rw [g2, if_neg i10]; exact r2⟩
theorem as_loop (hF : FW n σ τ) (h : RW n m q e σ τ) {l g : Nat} (hl : l < m) (hg : τ.2.1 6 l = nI g) (hgn : g < n) (P : Int32) : ∀ (d : Nat) (v : Int32) (c N N' : Nat) (acc : Int32), IxN d v → d ≤ q → c + d ≤ 60 → d < N → d < N' → ∃ r, L_X2_assumptionTable_11 N σ acc v (nI c) = some (.inl r, σ) ∧ L_X7_isSound_64 N' τ (nI l) (P &&& acc) v = some (.inl (cov (P &&& r) (Tb τ g)), τ) := by
  have hm := h.m60
  have hq := h.q60
  have hle := hF.le
  intro d
  have base : ∀ (c N N' : Nat) (acc : Int32), ∃ r, L_X2_assumptionTable_11 (N + 1) σ acc (-1) (nI c) = some (.inl r, σ) ∧ L_X7_isSound_64 (N' + 1) τ (nI l) (P &&& acc) (-1) = some (.inl (cov (P &&& r) (Tb τ g)), τ) := by
    intro c N N' acc
    refine ⟨acc, ?_, ?_⟩
    · show B_X2_assumptionTable_11 _ σ acc (-1) (nI c) = _
      unfold B_X2_assumptionTable_11
      rw [if_pos rfl]
    · show B_X7_isSound_64 _ τ (nI l) (P &&& acc) (-1) = _
      unfold B_X7_isSound_64 cov
      rw [if_pos rfl, gd_in (show l < 60 by omega) (by decide), ni_cl (show l < 2147483648 by omega), hg, gd_in (show g < 150 by omega) (by decide), ni_cl (show g < 2147483648 by omega)]
      split <;> rfl
  induction d with
  | zero =>
    intro v c N N' acc hv hd hc hN hN'
    obtain ⟨N, rfl⟩ : ∃ M, N = M + 1 := ⟨N - 1, by omega⟩
    obtain ⟨N', rfl⟩ : ∃ M, N' = M + 1 := ⟨N' - 1, by omega⟩
    rcases hv with rfl | ⟨b, hb, -⟩
    · exact base c N N' acc
    · exact absurd hb (Nat.not_lt_zero _)
  | succ d ih =>
    intro v c N N' acc hv hd hc hN hN'
    obtain ⟨N, rfl⟩ : ∃ M, N = M + 1 := ⟨N - 1, by omega⟩
    obtain ⟨N', rfl⟩ : ∃ M, N' = M + 1 := ⟨N' - 1, by omega⟩
    rcases hv with rfl | ⟨b, hb, rfl⟩
    · exact base c N N' acc
    · obtain ⟨-, -, -, -, o1, o2, -⟩ := h.bx (show b < q by omega)
      obtain ⟨k1, x1, hk1, hx1, y1, y2, y3⟩ := begin_in h (show b < q by omega)
      obtain ⟨r, e1, e2⟩ := ih (τ.2.1 9 b) (c + 1) N N' (acc &&& Tb τ x1) (o2.mono (by omega)) (by omega) (by omega) (by omega) (by omega)
      refine ⟨r, ?_, ?_⟩
      · show B_X2_assumptionTable_11 _ σ acc (nI b) (nI c) = _
        unfold B_X2_assumptionTable_11
        rw [if_neg (ni_ne (by omega)), show (60 : Int32) = nI 60 from rfl, if_neg (nI_ge (by omega) (by decide)), lt_def, lt_def, lt_def, rat_in (by omega) (by decide), o1, ni_add1, y3, table_in hF hx1]
        exact e1
      · show B_X7_isSound_64 _ τ (nI l) (P &&& acc) (nI b) = _
        unfold B_X7_isSound_64
        rw [if_neg (ni_ne (by omega)), gd_in (show b < 60 by omega) (by decide), ni_cl (show b < 2147483648 by omega), y1, gd_in (show k1 < 60 by omega) (by decide), ni_cl (show k1 < 2147483648 by omega), y2, gd_in (show x1 < 150 by omega) (by decide), ni_cl (show x1 < 2147483648 by omega), lt_def, gd_in (show b < 60 by omega) (by decide), lt_def, and_as]
        exact e2
theorem so_loop (hF : FW n σ τ) (h : RW n m q e σ τ) {l : Nat} (hl : l < m) : ∀ (d k N N' : Nat) (acc : Int32), k + d = m → d < N → d < N' → ∃ r, L_X2_premiseTable_4 N σ acc (nI k) = some (.inl r, σ) ∧ L_X7_isSound_14 N' τ (nI l) acc (nI k) = L_X7_isSound_64 FU τ (nI l) r (τ.2.1 8 l) := by
  have hm := h.m60
  have hle := hF.le
  intro d
  induction d with
  | zero =>
    intro k N N' acc hk hN hN'
    obtain ⟨N, rfl⟩ : ∃ M, N = M + 1 := ⟨N - 1, by omega⟩
    obtain ⟨N', rfl⟩ : ∃ M, N' = M + 1 := ⟨N' - 1, by omega⟩
    have hk : k = m := hk
    subst hk
    refine ⟨acc, ?_, ?_⟩
    · show B_X2_premiseTable_4 _ σ acc (nI k) = _
      unfold B_X2_premiseTable_4
      rw [h.mc, if_pos (nI_le (Nat.le_refl _) (by omega))]
    · show B_X7_isSound_14 _ τ (nI l) acc (nI k) = _
      unfold B_X7_isSound_14
      rw [h.mc7, if_pos (nI_le (Nat.le_refl _) (by omega)), gd_in (by omega) (by decide), ni_cl (by omega), lt_def]
  | succ d ih =>
    intro k N N' acc hk hN hN'
    obtain ⟨N, rfl⟩ : ∃ M, N = M + 1 := ⟨N - 1, by omega⟩
    obtain ⟨N', rfl⟩ : ∃ M, N' = M + 1 := ⟨N' - 1, by omega⟩
    have hkm : k < m := by omega
    obtain ⟨f, hf, ef⟩ := form_ix h hkm
    by_cases hp : τ.2.1 7 k = 80
    · obtain ⟨r, r1, r2⟩ := ih (k + 1) N N' (acc &&& Tb τ f) (by omega) (by omega) (by omega)
      refine ⟨r, ?_, ?_⟩
      · show B_X2_premiseTable_4 _ σ acc (nI k) = _
        unfold B_X2_premiseTable_4 F_X2_isPremise
        rw [h.mc, if_neg (nI_ge hkm (by omega)), rule_in h hkm, if_pos hp, if_neg i10, lt_def, lt_def, ni_add1, form_in h hkm, ef, table_in hF hf]
        exact r1
      · show B_X7_isSound_14 _ τ (nI l) acc (nI k) = _
        unfold B_X7_isSound_14
        rw [h.mc7, if_neg (nI_ge hkm (by omega)), gd_in (show k < 60 by omega) (by decide), ni_cl (show k < 2147483648 by omega), if_pos hp, gd_in (show k < 60 by omega) (by decide), ef, gd_in (show f < 150 by omega) (by decide), ni_cl (show f < 2147483648 by omega), lt_def, lt_def, ni_add1]
        exact r2
    · obtain ⟨r, r1, r2⟩ := ih (k + 1) N N' acc (by omega) (by omega) (by omega)
      refine ⟨r, ?_, ?_⟩
      · show B_X2_premiseTable_4 _ σ acc (nI k) = _
        unfold B_X2_premiseTable_4 F_X2_isPremise
        rw [h.mc, if_neg (nI_ge hkm (by omega)), rule_in h hkm, if_neg hp, if_pos rfl, lt_def, ni_add1]
        exact r1
      · show B_X7_isSound_14 _ τ (nI l) acc (nI k) = _
        unfold B_X7_isSound_14
        rw [h.mc7, if_neg (nI_ge hkm (by omega)), gd_in (show k < 60 by omega) (by decide), ni_cl (show k < 2147483648 by omega), if_neg hp, lt_def, lt_def, ni_add1, and_m1]
        exact r2
end FOL
theorem ag45 : AG45 Rel := by
  intro σ τ w a hI
  obtain ⟨n, m, q, e, h, hr⟩ := id hI
  have hm := hr.m60
  have hle := h.le
  unfold W_L_follows P_X6_follows P_X7_follows P_X2_citableTable F_X6_isCovered
  rcases ix_cases n (by omega) a with ⟨f, hf, rfl⟩ | ha
  · obtain ⟨r, r1, r2⟩ := fol_loop (h.thr 0) (hr.thr 0) hf m 0 FU FU (-1) (by omega) (by unfold FU; omega) (by unfold FU; omega)
    rw [nI_0] at r1 r2
    rw [reqF_in h hf, bd_some, lacks_in h hf, bd_some, if_pos rfl, lt_def, lt_def, lt_def, lt_def, r1, bd_some, r2, table_in h hf]
    exact ag_retZ rfl rfl rfl (hI.thr 0)
  · rw [reqF_no h ha, bd_exc, lacks_no h ha, bd_some, if_neg i10]
    exact ag_exc rfl rfl rfl rfl (by decide) (hI.thr 1)
theorem ag46 : AG46 Rel := by
  intro σ τ w a hI
  obtain ⟨n, m, q, e, h, hr⟩ := id hI
  have hm := hr.m60
  have hq := hr.q60
  have hle := h.le
  unfold W_L_isSound P_X6_isSound P_X7_isSound P_X2_premiseTable P_X2_assumptionTable F_X6_isCovered
  rcases ix_cases m (by omega) a with ⟨k, hk, rfl⟩ | ha
  · obtain ⟨f, hf, ef⟩ := form_ix hr hk
    obtain ⟨P, r1, r2⟩ := so_loop (h.thr 0) (hr.thr 0) hk m 0 FU FU (-1) (by omega) (by unfold FU; omega) (by unfold FU; omega)
    obtain ⟨r, s1, s2⟩ := as_loop (h.thr 0) (hr.thr 0) hk (g := f) ef hf P q (τ.2.1 8 k) 0 FU FU (-1) (hr.ln hk).2.2.2.2.2.1 (Nat.le_refl _) (by omega) (by unfold FU; omega) (by unfold FU; omega)
    rw [and_m1] at s2
    have s2 : L_X7_isSound_64 FU (tI τ 5 0) (nI k) P ((tI τ 5 0).2.1 8 k) = _ := s2
    rw [nI_0] at r1 r2 s1
    rw [reqL_in hr hk, bd_some, lacksL_in hr hk, bd_some, if_pos rfl, lt_def, lt_def, lt_def, lt_def, r1, bd_some, lt_def, lt_def, lt_def, inn_in hr hk, s1, bd_some, r2, s2, form_in hr hk, ef, table_in h hf]
    exact ag_retZ rfl rfl rfl (hI.thr 0)
  · rw [reqL_no hr ha, bd_exc, lacksL_no hr ha, bd_some, if_neg i10]
    exact ag_exc rfl rfl rfl rfl (by decide) (hI.thr 1)
