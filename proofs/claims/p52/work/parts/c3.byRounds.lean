/-! DISTANCES: the call by rounds -/
section BYR
variable {n m q e : Nat} {σ : DS} {τ : MS}
theorem cfo_ok (hR : RW n m q e σ τ) (hn : n ≤ 150) : ∀ k, k < m → (fun k => F_X2_isCitable σ (nI k)) k = F_X2_isCitable σ (nI k) ∧ (fun k => (τ.2.1 6 k).toNatClampNeg) k < n ∧ τ.2.1 6 k = nI ((fun k => (τ.2.1 6 k).toNatClampNeg) k) := fun k hk => by
  obtain ⟨f, hf, ef⟩ := form_ix hR hk
  refine ⟨rfl, ?_, ?_⟩
  · show (τ.2.1 6 k).toNatClampNeg < n
    rw [ef, ni_cl (by omega)]; exact hf
  · show τ.2.1 6 k = nI (τ.2.1 6 k).toNatClampNeg
    rw [ef, ni_cl (by omega)]
theorem sd_far {I : Nat → Int32} (h : ∀ v, v < 151 → I v = -1) : SDd I (fun _ => 10000) := fun v hv => ⟨by rw [h v hv]; rfl, Nat.le_refl _⟩
/-- the class's distance by rounds -/
theorem byR_ok (hF : FW n σ τ) (hR : RW n m q e σ τ) {F g : Nat} (hFF : F < 151) (hFn : F < n ∨ F = 150) {v : Int32} (hf1 : P_X0_find σ 70 (-1) (-1) = some (.inl v, σ)) (hf2 : (v = -1 ∧ F = 150) ∨ (v ≠ -1 ∧ v = nI F)) (hg : g < n) {C : Nat → Int32} {fo : Nat → Nat} (hC : ∀ k, k < m → C k = F_X2_isCitable σ (nI k) ∧ fo k < n ∧ τ.2.1 6 k = nI (fo k)) {V : Nat → Prop} {M : Nat → Nat} (hV : VIs n m τ C fo g F V) (hM : dCl V (ruT n τ F) M) (hMI : dLe M (dIn C fo m)) (hMb : dLb V (ruT n τ F) (dIn C fo m) M) : ∃ s', P_X4_byRounds σ (nI g) = some (.inl (ec (M g)), s') ∧ SFs σ s' := by
  have hle := hF.le
  obtain ⟨s, b1, b2, b3, b4⟩ := begin_ok hF hR hFF hFn hf1 hf2 hg (b := 0) (Or.inl rfl) (Inv := IRb σ F) (fun s h1 h2 h3 _ _ h6 h7 => ⟨h1, h2, sd_far h7, h3, 0, h6, by rw [sm_c]; decide⟩) (fun s D h => h.1) (fun s D w h => ⟨⟨h.1.1, fun k hk => by rw [sR_2, if_neg (by omega)]; exact h.1.2 k hk⟩, h.2.1, h.2.2.1, h.2.2.2⟩) (fun s D t ht h => off_rb h (by omega) 0) hC
  have eV := hV.uni b4
  subst eV
  obtain ⟨h1, h2, h3, h4, ch, h5, h6⟩ := b2
  obtain ⟨s', r1, r2⟩ := rounds_c hF hFF (V := fun v => v < 151 ∧ s.2 26 v = 1) (vw := s.2 26) (fun f hf => ⟨fun h => h.2, fun h => ⟨hf, h⟩⟩) hM hMI hMb (show g < 151 by omega) 152 0 FU s (dIn C fo m) (-1) (by omega) (by unfold FU; omega) ⟨h1, h2, h3, h4, rfl, ch, h5, h6, Nat.zero_le _, fun _ _ _ => rfl⟩ dLe.rf (fun E _ h => h) (uns_le _ _) (Or.inl rfl)
  refine ⟨s', ?_, r2⟩
  unfold P_X4_byRounds
  rw [b1, bd_some, lt_def, lt_def]
  exact r1
end BYR
/-- how the two distances agree, once the class's is known -/
theorem dist_end {σ : DS} {τ : MS} {n m q e g : Nat} {w : OS} (hF : FW n σ (tI τ 5 0)) (hR : RW n m q e σ (tI τ 5 0)) (hg : g < n) {M : Nat → Nat} (hM : ∀ v, v < 151 → M v ≤ 10000) {τ' : MS} (hT : TFt (tI τ 5 0) τ') (e12 : L_X7_distance_12 FU (tI τ 5 0) (nI g) 0 = (if M g < 10000 then some (.inl (nI (M g)), τ') else some (.inl 0, tI τ' 5 2))) {X : Res DS Int32} {s : DS} (hX : X = some (.inl (ec (M g)), s)) (hs : SFs σ s) : AgW okI Rel (wrT [("java/lang/IndexOutOfBoundsException", 1), ("java/util/NoSuchElementException", 2)] stI (bd X fun r10 s10 => (bd (P_X6_found s10 r10) fun r13 s13 => (some (.inl r13, s13)))) w) (L_X7_distance_12 FU (tI τ 5 0) (nI g) 0) := by
  have hle := hF.le
  have hI : Rel s τ' := ⟨n, m, q, e, hT.fw (hs.fw hF), hT.rw9 (hs.rw9 hR)⟩
  have h5 : τ'.1 5 = 0 := by rw [hT.1]; rfl
  have hmg := hM g (by omega)
  rw [hX, bd_some, e12]
  unfold P_X6_found
  by_cases h : M g < 10000
  · rw [ec_lt h, if_neg (ni_ne (by omega)), if_pos h]
    exact ag_ret rfl rfl h5 hI
  · rw [ec_ge h, if_pos rfl, if_neg h]
    exact ag_exc rfl rfl rfl rfl (by decide) (hI.thr 2)
theorem ag39 : AG39 Rel := by
  intro σ τ w a hI
  obtain ⟨n, m, q, e, h, hr⟩ := id hI
  have hle := h.le
  unfold W_L_distanceByRounds P_X6_distanceByRounds P_X7_distanceByRounds P_X7_distance
  rw [bd_id]
  rcases ix_cases n (by omega) a with ⟨g, hg, rfl⟩ | ha
  · have h0 := h.thr 0
    have hr0 := hr.thr 0
    obtain ⟨F, v, hFF, hFn, hFl, hf1, -, hf2⟩ := fal_ok h0
    obtain ⟨V, M, τ', d1, d2, d3, d4, d5, d6, d7⟩ := dist_t h0 hr0 hFF hFn hFl hf1 hf2 hg (cfo_ok hr0 hle)
    obtain ⟨s', r1, r2⟩ := byR_ok h0 hr0 hFF hFn hf1 hf2 hg (cfo_ok hr0 hle) d1 d2 d3 d4
    rw [reqF_in h hg, bd_some, lacks_in h hg, bd_some, if_pos rfl, lt_def]
    exact dist_end h0 hr0 hg d5 d6 d7 r1 r2
  · rw [reqF_no h ha, bd_exc, lacks_no h ha, bd_some, if_neg i10]
    exact ag_exc rfl rfl rfl rfl (by decide) (hI.thr 1)
