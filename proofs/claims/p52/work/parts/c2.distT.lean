/-! DISTANCES: the reference, whole -/
section DISTT
variable {n m q e : Nat} {σ : DS} {τ : MS}
def RD (τ : MS) (D : Nat → Nat) : Prop := ∀ v, v < 151 → τ.2.1 18 v = nI (D v) ∧ D v ≤ 10000
theorem leaf_parts (hF : FW n σ τ) {F : Nat} (hFn : F < n → leafK (Kn τ F)) (h : F < n) : Lf τ F = -1 ∧ Rt τ F = -1 := by
  rcases (hF.ent h).sh with ⟨-, e, e'⟩ | ⟨a, k, -, -, -⟩ | ⟨a, b, k, -, -, -, -⟩
  · exact ⟨e, e'⟩
  · have hl := hFn h
    rw [k] at hl; rcases hl with h | h | h | h | h | h <;> exact absurd h (by decide)
  · have hl := hFn h
    rcases k with k | k | k <;> rw [k] at hl <;> rcases hl with h | h | h | h | h | h <;> exact absurd h (by decide)
/-- behind the clearing -/
def dE (s : MS) (g : Int32) : Res MS Int32 := (bd (P_X7_knownFalsum s ) fun r42 s42 => (lt r42 fun z45 => (gd z45 151 (lt (tA s42 17 (upd (s42.2.1 17) z45.toNatClampNeg (vp_nar .boolean (1 : Int32)))) fun s52 => (bd (P_X7_views 40 s52 g) fun _ s55 => (lt (0 : Int32) fun z59 => (L_X7_distance_60 FU s55 g z45 z59)))))))
theorem clear_t (g : Int32) : ∀ (d k N : Nat) (s : MS), k + d = 151 → d < N → TFt τ s → (∀ v, v < k → s.2.1 17 v = 0 ∧ s.2.1 18 v = 10000) → ∃ s', L_X7_distance_12 N s g (nI k) = dE s' g ∧ TFt τ s' ∧ ∀ v, v < 151 → s'.2.1 17 v = 0 ∧ s'.2.1 18 v = 10000 := by
  intro d
  induction d with
  | zero =>
    intro k N s hk hN hs h
    obtain ⟨N, rfl⟩ : ∃ M, N = M + 1 := ⟨N - 1, by omega⟩
    have hk : k = 151 := hk
    subst hk
    refine ⟨s, ?_, hs, h⟩
    show B_X7_distance_12 _ s g (nI 151) = _
    unfold B_X7_distance_12
    rw [if_pos (by decide)]
    rfl
  | succ d ih =>
    intro k N s hk hN hs h
    obtain ⟨N, rfl⟩ : ∃ M, N = M + 1 := ⟨N - 1, by omega⟩
    obtain ⟨s1, hs1⟩ : ∃ s1, s1 = tA s 17 (upd (s.2.1 17) k 0) := ⟨_, rfl⟩
    obtain ⟨s2, hs2⟩ : ∃ s2, s2 = tA s1 18 (upd (s1.2.1 18) k 10000) := ⟨_, rfl⟩
    have k2 : TFt τ s2 := hs.tr ((by rw [hs1]; exact tA17 s _ : TFt s s1).tr (by rw [hs2]; exact tA18 s1 _))
    obtain ⟨s', e1, e2, e3⟩ := ih (k + 1) N s2 (by omega) (by omega) k2 (fun v hv => by
      have r17 : s2.2.1 17 = upd (s.2.1 17) k 0 := by rw [hs2, tA2, if_neg (by decide), hs1, tA2, if_pos rfl]
      have r18 : s2.2.1 18 = upd (s.2.1 18) k 10000 := by rw [hs2, tA2, if_pos rfl, hs1, tA2, if_neg (by decide)]
      rw [r17, r18]
      by_cases hvk : v = k
      · subst hvk; exact ⟨upd_eq _ _ _, upd_eq _ _ _⟩
      · rw [upd_ne _ hvk, upd_ne _ hvk]; exact h v (by omega))
    refine ⟨s', ?_, e2, e3⟩
    show B_X7_distance_12 _ s g (nI k) = _
    unfold B_X7_distance_12
    simp only [gd_in (show k < 151 by omega) (by decide : (151 : Nat) < 2147483648), lt_def, ni_cl (show k < 2147483648 by omega)]
    rw [show (150 : Int32) = nI 150 from rfl, if_neg (nI_nlt (by omega) (by decide)), show vp_nar .boolean (0 : Int32) = 0 by decide, ← hs1, ← hs2, ni_add1]
    exact e1
/-- the lines -/
theorem lines_t (hF : FW n σ τ) (hR : RW n m q e σ τ) {F : Nat} {C : Nat → Int32} {fo : Nat → Nat} (hC : ∀ k, k < m → C k = F_X2_isCitable σ (nI k) ∧ fo k < n ∧ τ.2.1 6 k = nI (fo k)) (g : Int32) : ∀ (d k N : Nat) (s : MS), k + d = m → d < N → TFt τ s → Vw01 n F (s.2.1 17) → RD s (dIn C fo k) → ∃ s', L_X7_distance_60 N s g (nI F) (nI k) = L_X7_distance_106 FU s' g (nI F) 1 ∧ TFt τ s' ∧ Vw01 n F (s'.2.1 17) ∧ RD s' (dIn C fo m) ∧ (∀ v, s.2.1 17 v = 1 → s'.2.1 17 v = 1) ∧ (∀ j, k ≤ j → j < m → C j = 1 → s'.2.1 17 (fo j) = 1) ∧ (∀ f, f < n → s'.2.1 17 f = 1 → s.2.1 17 f = 1 ∨ ((∀ a, a < n → Lf τ f = nI a → s'.2.1 17 a = 1) ∧ ∀ b, b < n → Rt τ f = nI b → s'.2.1 17 b = 1)) ∧ ∀ T, VClo n τ T → (∀ j, j < m → C j = 1 → T (fo j)) → (∀ v, v < 151 → s.2.1 17 v = 1 → T v) → ∀ v, v < 151 → s'.2.1 17 v = 1 → T v := by
  have hle := hF.le
  have hm := hR.m60
  intro d
  induction d with
  | zero =>
    intro k N s hk hN hs hw hD
    obtain ⟨N, rfl⟩ : ∃ M, N = M + 1 := ⟨N - 1, by omega⟩
    have hk : k = m := hk
    subst hk
    refine ⟨s, ?_, hs, hw, hD, fun _ h => h, fun j h1 h2 => absurd h2 (by omega), fun f _ h => Or.inl h, fun T _ _ h => h⟩
    show B_X7_distance_60 _ s g (nI F) (nI k) = _
    unfold B_X7_distance_60
    rw [(hs.rw9 hR).mc7, if_pos (nI_le (Nat.le_refl _) (by omega)), lt_def]
  | succ d ih =>
    intro k N s hk hN hs hw hD
    obtain ⟨N, rfl⟩ : ∃ M, N = M + 1 := ⟨N - 1, by omega⟩
    have hkm : k < m := by omega
    obtain ⟨c1, c2, c3⟩ := hC k hkm
    obtain ⟨c, hc, g1, g2⟩ := cit_ok (hs.rw9 hR) hkm
    have ec : c = C k := by rw [c1]; exact g1.symm
    subst ec
    have ed : dIn C fo (k + 1) = if C k = 1 then dRx (dIn C fo k) (fo k) 0 else dIn C fo k := rfl
    have e6 : s.2.1 6 k = nI (fo k) := by rw [hs.2.1 6 (by decide) (by decide)]; exact c3
    have hstep : L_X7_distance_60 (N + 1) s g (nI F) (nI k) = if C k = 0 then L_X7_distance_60 N s g (nI F) (nI (k + 1)) else (bd (P_X7_views 40 s (nI (fo k))) fun _ s83 => (gd (s83.2.1 6 k) 151 (L_X7_distance_60 N (tA s83 18 (upd (s83.2.1 18) (s83.2.1 6 k).toNatClampNeg (0 : Int32))) g (nI F) (nI (k + 1))))) := by
      show B_X7_distance_60 _ s g (nI F) (nI k) = _
      unfold B_X7_distance_60
      simp only [gd_in (show k < 60 by omega) (by decide : (60 : Nat) < 2147483648), lt_def, ni_cl (show k < 2147483648 by omega)]
      rw [(hs.rw9 hR).mc7, if_neg (nI_ge hkm (by omega)), g2, bd_some, ni_add1, e6]
    rw [hstep]
    rcases hc with h0 | h1
    · rw [if_pos h0]
      rw [if_neg (by rw [h0]; decide)] at ed
      obtain ⟨s', a1, a2, a3, a4, a5, a6, a7, a8⟩ := ih (k + 1) N s (by omega) (by omega) hs hw (by rw [ed]; exact hD)
      refine ⟨s', a1, a2, a3, a4, a5, fun j hj hjm hj1 => ?_, a7, a8⟩
      rcases Nat.eq_or_lt_of_le hj with rfl | hj
      · rw [h0] at hj1; exact absurd hj1 (by decide)
      · exact a6 j (by omega) hjm hj1
    · rw [if_neg (by rw [h1]; decide)]
      rw [if_pos h1] at ed
      obtain ⟨w, w1, -, w3, -⟩ := word_of (hs.fw hF) c2
      obtain ⟨s1, b1, ⟨b2, b3, b4, b5, b6, b7⟩, b8⟩ := views_ok hle (F := F) w.length (fo k) 40 w s w1 (by omega) c2 hw
      have k1 := hs.tr b2
      rw [b1, bd_some, show s1.2.1 6 k = nI (fo k) by rw [b2.2.1 6 (by decide) (by decide)]; exact e6, gd_in (by omega) (by decide), ni_cl (by omega)]
      obtain ⟨s2, hs2⟩ : ∃ s2, s2 = tA s1 18 (upd (s1.2.1 18) (fo k) 0) := ⟨_, rfl⟩
      rw [← hs2]
      have k2 : TFt s1 s2 := by rw [hs2]; exact tA18 s1 _
      have r17 : s2.2.1 17 = s1.2.1 17 := by rw [hs2, tA2, if_neg (by decide)]
      obtain ⟨s', a1, a2, a3, a4, a5, a6, a7, a8⟩ := ih (k + 1) N s2 (by omega) (by omega) (k1.tr k2) (by rw [r17]; exact b4) (by
        rw [ed]
        intro v hv
        rw [hs2, tA2, if_pos rfl]
        by_cases hvk : v = fo k
        · subst hvk
          rw [upd_eq, dRx_t, Nat.min_eq_right (Nat.zero_le _)]
          exact ⟨rfl, Nat.zero_le _⟩
        · rw [upd_ne _ hvk, dRx_ne hvk, b3]
          exact hD v hv)
      refine ⟨s', a1, a2, a3, a4, fun v hv => a5 v (by rw [r17]; exact b5 v hv), fun j hj hjm hj1 => ?_, fun f hf hf1 => ?_, fun T hT hTj hT1 v hv hv1 => ?_⟩
      · rcases Nat.eq_or_lt_of_le hj with rfl | hj
        · exact a5 _ (by rw [r17]; exact b8)
        · exact a6 j (by omega) hjm hj1
      · rcases a7 f hf hf1 with h | h
        · rw [r17] at h
          rcases b6 f hf h with h | ⟨h, h'⟩
          · exact Or.inl h
          · exact Or.inr ⟨fun a ha ea => a5 a (by rw [r17]; exact h a ha (by rw [hs.lf]; exact ea)), fun a ha ea => a5 a (by rw [r17]; exact h' a ha (by rw [hs.rt]; exact ea))⟩
        · exact Or.inr h
      · refine a8 T hT hTj (fun u hu hu1 => ?_) v hv hv1
        rw [r17] at hu1
        exact b7 T (hT.ext hs) (hTj k hkm h1) hT1 u hu hu1
/-- until nothing becomes less -/
theorem while_t (hF : FW n σ τ) {F : Nat} (hFF : F < 151) (hFn : F < n ∨ F = 150) {V : Nat → Prop} {vw : Nat → Int32} (hw : Vw01 n F vw) (hV : ∀ f, f < 151 → (V f ↔ vw f = 1)) {I : Nat → Nat} {g : Nat} (hg : g < 151) : ∀ (S N : Nat) (s : MS) (D : Nat → Nat) (x : Int32), sm 151 D ≤ S → S + 2 < N → (x = 1 ∨ (x = 0 ∧ dCl V (ruT n τ F) D)) → RX τ vw s D → dLe D I → dLb V (ruT n τ F) I D → ∃ s' M, L_X7_distance_106 N s (nI g) (nI F) x = (if M g < 10000 then some (.inl (nI (M g)), s') else some (.inl 0, tI s' 5 2)) ∧ TFt τ s' ∧ dCl V (ruT n τ F) M ∧ dLe M I ∧ dLb V (ruT n τ F) I M ∧ ∀ v, v < 151 → M v ≤ 10000 := by
  have hO := ru_ok hF hFF V
  have fin : ∀ (N : Nat) (s : MS) (D : Nat → Nat), RX τ vw s D → dCl V (ruT n τ F) D → dLe D I → dLb V (ruT n τ F) I D → ∃ s' M, L_X7_distance_106 (N + 1) s (nI g) (nI F) 0 = (if M g < 10000 then some (.inl (nI (M g)), s') else some (.inl 0, tI s' 5 2)) ∧ TFt τ s' ∧ dCl V (ruT n τ F) M ∧ dLe M I ∧ dLb V (ruT n τ F) I M ∧ ∀ v, v < 151 → M v ≤ 10000 := fun N s D hI hc h1 h2 => by
    refine ⟨s, D, ?_, hI.1, hc, h1, h2, fun v hv => (hI.2.2 v hv).2⟩
    show B_X7_distance_106 _ s (nI g) (nI F) 0 = _
    unfold B_X7_distance_106
    have hle := (hI.2.2 g hg).2
    rw [if_pos rfl, gd_in hg (by decide), gd_in hg (by decide), ni_cl (by omega), (hI.2.2 g hg).1, show (10000 : Int32) = nI 10000 from rfl]
    by_cases h : D g < 10000
    · rw [if_neg (nI_ge h (by decide)), if_pos h]
    · rw [if_pos (nI_le (by omega) (by omega)), if_neg h, raises_eq, bd_some]
  intro S
  induction S with
  | zero =>
    intro N s D x hS hN hx hI h1 h2
    obtain ⟨N, rfl⟩ : ∃ M, N = M + 1 + 1 := ⟨N - 2, by omega⟩
    rcases hx with rfl | ⟨rfl, hc⟩
    · obtain ⟨y, s1, D1, a1, a2, a3, a4⟩ := round_t hF hFF hFn hw hV 151 0 FU s D 0 (by omega) (by unfold FU; omega) (Or.inl rfl) hI
      have e0 : L_X7_distance_106 (N + 1 + 1) s (nI g) (nI F) 1 = L_X7_distance_106 (N + 1) s1 (nI g) (nI F) y := by
        show B_X7_distance_106 _ s (nI g) (nI F) 1 = _
        unfold B_X7_distance_106 P_X7_rounds
        rw [if_neg i10, lt_def, lt_def, show (0 : Int32) = nI 0 from rfl]
        rw [show nI 0 = (0 : Int32) from rfl] at a1 ⊢
        rw [a1, bd_some, lt_def]
      rcases a4 with ⟨rfl, -, rfl⟩ | ⟨rfl, h | h⟩
      · rw [e0]
        exact fin N s1 D1 a2 (fun f hf hVf x hx => a3.2.2 x (ruL_mem 151 0 f (Nat.zero_le _) (by omega) ((hV f hf).mp hVf) x hx)) h1 h2
      · exact absurd h (by decide)
      · omega
    · exact fin (N + 1) s D hI hc h1 h2
  | succ S ih =>
    intro N s D x hS hN hx hI h1 h2
    obtain ⟨N, rfl⟩ : ∃ M, N = M + 1 + 1 := ⟨N - 2, by omega⟩
    rcases hx with rfl | ⟨rfl, hc⟩
    · obtain ⟨y, s1, D1, a1, a2, a3, a4⟩ := round_t hF hFF hFn hw hV 151 0 FU s D 0 (by omega) (by unfold FU; omega) (Or.inl rfl) hI
      have e0 : L_X7_distance_106 (N + 1 + 1) s (nI g) (nI F) 1 = L_X7_distance_106 (N + 1) s1 (nI g) (nI F) y := by
        show B_X7_distance_106 _ s (nI g) (nI F) 1 = _
        unfold B_X7_distance_106 P_X7_rounds
        rw [if_neg i10, lt_def, lt_def, show (0 : Int32) = nI 0 from rfl]
        rw [show nI 0 = (0 : Int32) from rfl] at a1 ⊢
        rw [a1, bd_some, lt_def]
      rcases a4 with ⟨rfl, -, rfl⟩ | ⟨rfl, h | h⟩
      · rw [e0]
        exact fin N s1 D1 a2 (fun f hf hVf x hx => a3.2.2 x (ruL_mem 151 0 f (Nat.zero_le _) (by omega) ((hV f hf).mp hVf) x hx)) h1 h2
      · exact absurd h (by decide)
      · rw [e0]
        exact ih (N + 1) s1 D1 1 (by omega) (by omega) (Or.inl rfl) a2 (a3.1.tr h1) (h2.stp a3)
    · exact fin (N + 1) s D hI hc h1 h2
/-- the reference's distance -/
theorem dist_t (hF : FW n σ τ) (hR : RW n m q e σ τ) {F g : Nat} (hFF : F < 151) (hFn : F < n ∨ F = 150) (hFl : F < n → leafK (Kn τ F)) {v : Int32} (hf1 : P_X0_find σ 70 (-1) (-1) = some (.inl v, σ)) (hf2 : (v = -1 ∧ F = 150) ∨ (v ≠ -1 ∧ v = nI F)) (hg : g < n) {C : Nat → Int32} {fo : Nat → Nat} (hC : ∀ k, k < m → C k = F_X2_isCitable σ (nI k) ∧ fo k < n ∧ τ.2.1 6 k = nI (fo k)) : ∃ (V : Nat → Prop) (M : Nat → Nat) (τ' : MS), VIs n m τ C fo g F V ∧ dCl V (ruT n τ F) M ∧ dLe M (dIn C fo m) ∧ dLb V (ruT n τ F) (dIn C fo m) M ∧ (∀ v, v < 151 → M v ≤ 10000) ∧ TFt τ τ' ∧ L_X7_distance_12 FU τ (nI g) 0 = (if M g < 10000 then some (.inl (nI (M g)), τ') else some (.inl 0, tI τ' 5 2)) := by
  have hle := hF.le
  obtain ⟨s0, e0, k0, z0⟩ := clear_t (τ := τ) (nI g) 151 0 FU τ (by omega) (by unfold FU; omega) TFt.rf (fun v hv => absurd hv (Nat.not_lt_zero v))
  obtain ⟨v', f1, f2, -⟩ := find_ok (k0.fw hF) 70 (-1) (-1)
  have ev : v' = v := by
    rw [hf1] at f1
    cases f1
    rfl
  subst ev
  have efal : P_X7_knownFalsum s0 = some (.inl (nI F), s0) := by
    unfold P_X7_knownFalsum
    rw [f2, bd_some, lt_def]
    rcases hf2 with ⟨rfl, rfl⟩ | ⟨h1, rfl⟩
    · rw [if_pos rfl]; rfl
    · rw [if_neg h1]
  obtain ⟨s1, hs1⟩ : ∃ s1, s1 = tA s0 17 (upd (s0.2.1 17) F 1) := ⟨_, rfl⟩
  have k1 : TFt τ s1 := k0.tr (by rw [hs1]; exact tA17 s0 _)
  have r17 : s1.2.1 17 = upd (s0.2.1 17) F 1 := by rw [hs1, tA2, if_pos rfl]
  have w1 : Vw01 n F (s1.2.1 17) := by
    rw [r17]
    exact vw_put (fun v hv => ⟨Or.inl (z0 v hv).1, fun h => by rw [(z0 v hv).1] at h; exact absurd h (by decide)⟩) (Or.inr rfl)
  have v1 : ∀ u, u < 151 → (s1.2.1 17 u = 1 ↔ u = F) := fun u hu => by
    rw [r17]
    by_cases h : u = F
    · subst h; rw [upd_eq]; exact ⟨fun _ => rfl, fun _ => rfl⟩
    · rw [upd_ne _ h, (z0 u hu).1]; exact ⟨fun h9 => absurd h9 (by decide), fun h9 => absurd h9 h⟩
  obtain ⟨w, q1, -, q3, -⟩ := word_of (k1.fw hF) hg
  obtain ⟨s2, b1, ⟨b2, b3, b4, b5, b6, b7⟩, b8⟩ := views_ok hle (F := F) w.length g 40 w s1 q1 (by omega) hg w1
  have k2 := k1.tr b2
  have d2 : RD s2 (dIn C fo 0) := fun v hv => by
    rw [b3, hs1, tA2, if_neg (by decide), (z0 v hv).2]
    exact ⟨rfl, Nat.le_refl _⟩
  obtain ⟨s3, c1, c2, c3, c4, c5, c6, c7, c8⟩ := lines_t hF hR (F := F) hC (nI g) m 0 FU s2 (by omega) (by unfold FU; have := hR.m60; omega) k2 b4 d2
  have hV : ∀ f, f < 151 → ((fun u => u < 151 ∧ s3.2.1 17 u = 1) f ↔ s3.2.1 17 f = 1) := fun f hf => ⟨fun h => h.2, fun h => ⟨hf, h⟩⟩
  have hsum : sm 151 (dIn C fo m) ≤ 1510000 := by
    have := sm_le (g := dIn C fo m) (h := fun _ => 10000) 151 (fun v hv => (c4 v hv).2)
    rw [sm_c] at this
    exact this
  obtain ⟨s4, M, a1, a2, a3, a4, a5, a6⟩ := while_t hF hFF hFn c3 hV (I := dIn C fo m) (show g < 151 by omega) 1510000 FU s3 (dIn C fo m) 1 hsum (by unfold FU; omega) (Or.inl rfl) ⟨c2, rfl, c4⟩ dLe.rf (fun E _ h => h)
  refine ⟨_, M, s4, ⟨fun f hf hfv => ?_, ⟨⟨by omega, c5 g b8⟩, ⟨hFF, c5 F (b5 F ((v1 F hFF).mpr rfl))⟩, fun k hk hk1 => ⟨by have := (hC k hk).2.1; omega, c6 k (Nat.zero_le _) hk hk1⟩⟩, fun T hT hTr v hv => ?_⟩, a3, a4, a5, a6, a2, ?_⟩
  · rcases c7 f hf hfv.2 with h | ⟨h, h'⟩
    · rcases b6 f hf h with h | ⟨h, h'⟩
      · have := (v1 f (by omega)).mp h
        subst this
        obtain ⟨p1, p2⟩ := leaf_parts hF hFl hf
        exact ⟨fun a ha ea => absurd (ea.symm.trans p1) (ni_ne (by omega)), fun a ha ea => absurd (ea.symm.trans p2) (ni_ne (by omega))⟩
      · exact ⟨fun a ha ea => ⟨by omega, c5 a (h a ha (by rw [k1.lf]; exact ea))⟩, fun a ha ea => ⟨by omega, c5 a (h' a ha (by rw [k1.rt]; exact ea))⟩⟩
    · exact ⟨fun a ha ea => ⟨by omega, h a ha ea⟩, fun a ha ea => ⟨by omega, h' a ha ea⟩⟩
  · refine c8 T hT hTr.2.2 (fun u hu hu1 => ?_) v hv.1 hv.2
    refine b7 T (hT.ext k1) hTr.1 (fun u' hu' hu1' => ?_) u hu hu1
    rw [(v1 u' hu').mp hu1']
    exact hTr.2.1
  · rw [show (0 : Int32) = nI 0 from rfl, e0]
    unfold dE
    rw [efal, bd_some, lt_def, gd_in hFF (by decide), lt_def, ni_cl (by omega), show vp_nar .boolean (1 : Int32) = 1 by decide, ← hs1, b1, bd_some, lt_def, show (0 : Int32) = nI 0 from rfl, c1]
    exact a1
end DISTT
