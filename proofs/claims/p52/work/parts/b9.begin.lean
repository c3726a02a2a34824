/-! DISTANCES: how the class begins -/
/-- a set is closed under parts -/
def VClo (n : Nat) (τ : MS) (T : Nat → Prop) : Prop := ∀ f, f < n → T f → (∀ a, a < n → Lf τ f = nI a → T a) ∧ ∀ b, b < n → Rt τ f = nI b → T b
def VRoot (m : Nat) (C : Nat → Int32) (fo : Nat → Nat) (g F : Nat) (T : Nat → Prop) : Prop := T g ∧ T F ∧ ∀ k, k < m → C k = 1 → T (fo k)
/-- what is in view -/
def VIs (n m : Nat) (τ : MS) (C : Nat → Int32) (fo : Nat → Nat) (g F : Nat) (S : Nat → Prop) : Prop := VClo n τ S ∧ VRoot m C fo g F S ∧ ∀ T, VClo n τ T → VRoot m C fo g F T → ∀ v, S v → T v
theorem VIs.uni {n m : Nat} {τ : MS} {C : Nat → Int32} {fo : Nat → Nat} {g F : Nat} {S T : Nat → Prop} (h1 : VIs n m τ C fo g F S) (h2 : VIs n m τ C fo g F T) : S = T := by
  funext v
  exact propext ⟨fun h => h1.2.2 T h2.1 h2.2.1 v h, fun h => h2.2.2 S h1.1 h1.2.1 v h⟩
/-- where the distances begin: 0 at the formulas that can be cited -/
def dIn (C : Nat → Int32) (fo : Nat → Nat) : Nat → Nat → Nat
  | 0 => fun _ => 10000
  | k + 1 => if C k = 1 then dRx (dIn C fo k) (fo k) 0 else dIn C fo k
section BEGIN
variable {n m q e : Nat} {σ : DS} {τ : MS}
theorem fal_ok (hF : FW n σ τ) : ∃ (F : Nat) (v : Int32), F < 151 ∧ (F < n ∨ F = 150) ∧ (F < n → leafK (Kn τ F)) ∧ P_X0_find σ 70 (-1) (-1) = some (.inl v, σ) ∧ P_X7_known τ 70 (-1) (-1) = some (.inl v, τ) ∧ ((v = -1 ∧ F = 150) ∨ (v ≠ -1 ∧ v = nI F)) := by
  have hle := hF.le
  obtain ⟨v, f1, f2, f3⟩ := find_ok hF 70 (-1) (-1)
  rcases f3 with ⟨rfl, -⟩ | ⟨f, hf, rfl, e1, -, -⟩
  · exact ⟨150, -1, by decide, Or.inr rfl, fun h => absurd h (by omega), f1, f2, Or.inl ⟨rfl, rfl⟩⟩
  · exact ⟨f, nI f, by omega, Or.inl hf, fun _ => by rw [e1]; unfold leafK; decide, f1, f2, Or.inr ⟨ni_ne (by omega), rfl⟩⟩
/-- the row of what is in view: only 0 and 1, only formulas that are known, and falsum -/
def Vw01 (n F : Nat) (w : Nat → Int32) : Prop := ∀ v, v < 151 → (w v = 0 ∨ w v = 1) ∧ (w v = 1 → v < n ∨ v = F)
theorem vw_put {F : Nat} {w : Nat → Int32} (h : Vw01 n F w) {t : Nat} (ht : t < n ∨ t = F) : Vw01 n F (upd w t 1) := fun v hv => by
  by_cases hvt : v = t
  · subst hvt; rw [upd_eq]; exact ⟨Or.inr rfl, fun _ => ht⟩
  · rw [upd_ne _ hvt]; exact h v hv
/-- parts are marked, from the greatest number down -/
theorem clo_loop (hF : FW n σ τ) {F : Nat} : ∀ (k N : Nat) (s : DS), k ≤ n → k < N → SFs σ s → Vw01 n F (s.2 26) → (∀ f, k ≤ f → f < n → s.2 26 f = 1 → (∀ a, a < n → Lf τ f = nI a → s.2 26 a = 1) ∧ ∀ b, b < n → Rt τ f = nI b → s.2 26 b = 1) → ∃ s', L_X4_begin_160 N s (nI k - 1) = some (.inl (), s') ∧ SFs σ s' ∧ s'.1 = s.1 ∧ (∀ r, r ≠ 26 → s'.2 r = s.2 r) ∧ Vw01 n F (s'.2 26) ∧ (∀ v, s.2 26 v = 1 → s'.2 26 v = 1) ∧ VClo n τ (fun v => s'.2 26 v = 1) ∧ ∀ T, VClo n τ T → (∀ v, v < 151 → s.2 26 v = 1 → T v) → ∀ v, v < 151 → s'.2 26 v = 1 → T v := by
  have hle := hF.le
  intro k
  induction k with
  | zero =>
    intro N s hk hN hs hw hc
    obtain ⟨N, rfl⟩ : ∃ M, N = M + 1 := ⟨N - 1, by omega⟩
    refine ⟨s, ?_, hs, rfl, fun _ _ => rfl, hw, fun _ h => h, fun f hf h => hc f (Nat.zero_le _) hf h, fun T _ h => h⟩
    show B_X4_begin_160 _ s (nI 0 - 1) = _
    unfold B_X4_begin_160
    rw [if_pos (by decide)]
  | succ k ih =>
    intro N s hk hN hs hw hc
    obtain ⟨N, rfl⟩ : ∃ M, N = M + 1 := ⟨N - 1, by omega⟩
    have hFs := hs.fw hF
    have e0 : L_X4_begin_160 (N + 1) s (nI (k + 1) - 1) = if s.2 26 k = 1 then (lt (sR s 26 (rput 151 (s.2 26) (F_X0_left s (nI k)) (1 : Int32))) fun s192 => (lt (sR s192 26 (rput 151 (s192.2 26) (F_X0_right s192 (nI k)) (1 : Int32))) fun s209 => L_X4_begin_160 N s209 (nI k - 1))) else L_X4_begin_160 N s (nI k - 1) := by
      rw [nI_pred]
      show B_X4_begin_160 _ s (nI k) = _
      unfold B_X4_begin_160
      simp only [lt_def]
      rw [if_neg (nI_pos (by omega)), rat_in (by omega) (by decide), ni_am1]
    rw [e0]
    by_cases h1 : s.2 26 k = 1
    · rw [if_pos h1, left_in hFs (by omega), lt_def, lt_def]
      -- the left part, then the right one
      have one : ∀ (s : DS), SFs σ s → Vw01 n F (s.2 26) → ∀ (v : Int32), (v = -1 ∨ ∃ a, a < k ∧ v = nI a) → ∃ s1, s1 = sR s 26 (rput 151 (s.2 26) v 1) ∧ SFs σ s1 ∧ s1.1 = s.1 ∧ (∀ r, r ≠ 26 → s1.2 r = s.2 r) ∧ Vw01 n F (s1.2 26) ∧ (∀ u, s.2 26 u = 1 → s1.2 26 u = 1) ∧ (∀ u, s1.2 26 u = 1 → s.2 26 u = 1 ∨ (u < k ∧ v = nI u)) ∧ ∀ a, a < n → v = nI a → s1.2 26 a = 1 := fun s hs hw v hv => by
        refine ⟨_, rfl, ⟨fun r hr => hs.1 r hr, fun r hr => by rw [sR_2, if_neg (by omega)]; exact hs.2 r hr⟩, rfl, fun r hr => by rw [sR_2, if_neg hr], ?_, fun u hu => ?_, fun u hu => ?_, fun a ha hva => ?_⟩
        · rw [sR_2, if_pos rfl]
          rcases hv with rfl | ⟨a, ha, rfl⟩
          · rw [rput_m1]; exact hw
          · rw [rput_in (by omega) (by decide)]; exact vw_put hw (Or.inl (by omega))
        · rw [sR_2, if_pos rfl]
          rcases hv with rfl | ⟨a, ha, rfl⟩
          · rw [rput_m1]; exact hu
          · rw [rput_in (by omega) (by decide)]
            by_cases h : u = a
            · subst h; exact upd_eq _ _ _
            · rw [upd_ne _ h]; exact hu
        · rw [sR_2, if_pos rfl] at hu
          rcases hv with rfl | ⟨a, ha, rfl⟩
          · rw [rput_m1] at hu; exact Or.inl hu
          · rw [rput_in (by omega) (by decide)] at hu
            by_cases h : u = a
            · subst h; exact Or.inr ⟨ha, rfl⟩
            · rw [upd_ne _ h] at hu; exact Or.inl hu
        · rw [sR_2, if_pos rfl, hva, rput_in (by omega) (by decide)]
          exact upd_eq _ _ _
      obtain ⟨s1, hs1, a1, a2, a3, a4, a5, a6, a7⟩ := one s hs hw (Lf τ k) (part_l hF (by omega))
      rw [← hs1, right_in (a1.fw hF) (by omega)]
      obtain ⟨s2, hs2, b1, b2, b3, b4, b5, b6, b7⟩ := one s1 a1 a4 (Rt τ k) (part_r hF (by omega))
      rw [← hs2]
      have hdown : ∀ f, k ≤ f → s2.2 26 f = 1 → s.2 26 f = 1 := fun f hf h => by
        rcases b6 f h with h | ⟨h, -⟩
        · rcases a6 f h with h | ⟨h, -⟩
          · exact h
          · omega
        · omega
      obtain ⟨s', e1, c1, c2, c3, c4, c5, c6, c7⟩ := ih N s2 (by omega) (by omega) b1 b4 (fun f hf hfn h => by
        rcases Nat.eq_or_lt_of_le hf with rfl | hf
        · exact ⟨fun a ha ea => b5 a (a7 a ha ea), fun b hb eb => b7 b hb eb⟩
        · obtain ⟨u1, u2⟩ := hc f (by omega) hfn (hdown f (by omega) h)
          exact ⟨fun a ha ea => b5 a (a5 a (u1 a ha ea)), fun b hb eb => b5 b (a5 b (u2 b hb eb))⟩)
      refine ⟨s', e1, c1, c2.trans (b2.trans a2), fun r hr => (c3 r hr).trans ((b3 r hr).trans (a3 r hr)), c4, fun v hv => c5 v (b5 v (a5 v hv)), c6, fun T hT h => c7 T hT fun v hv hv2 => ?_⟩
      rcases b6 v hv2 with hv2 | ⟨hvk, hv2⟩
      · rcases a6 v hv2 with hv2 | ⟨hvk, hv2⟩
        · exact h v hv hv2
        · exact (hT k (by omega) (h k (by omega) h1)).1 v (by omega) hv2
      · exact (hT k (by omega) (h k (by omega) h1)).2 v (by omega) hv2
    · rw [if_neg h1]
      obtain ⟨s', e1, c1, c2, c3, c4, c5, c6, c7⟩ := ih N s (by omega) (by omega) hs hw (fun f hf hfn h => by
        rcases Nat.eq_or_lt_of_le hf with rfl | hf
        · exact absurd h h1
        · exact hc f (by omega) hfn h)
      exact ⟨s', e1, c1, c2, c3, c4, c5, c6, c7⟩
/-- the lines: whatever an offer keeps -/
theorem lin_loop (hF : FW n σ τ) (hR : RW n m q e σ τ) {F : Nat} {Inv : DS → (Nat → Nat) → Prop} (hInv : ∀ s D, Inv s D → SFs σ s) (hvw : ∀ s D w, Inv s D → Inv (sR s 26 w) D) (hoff : ∀ s D t, t < n → Inv s D → ∃ s', P_X4_offer s (nI t) 0 = some (.inl (), s') ∧ Inv s' (dRx D t 0) ∧ s'.2 26 = s.2 26) {C : Nat → Int32} {fo : Nat → Nat} (hC : ∀ k, k < m → C k = F_X2_isCitable σ (nI k) ∧ fo k < n ∧ τ.2.1 6 k = nI (fo k)) : ∀ (d k N : Nat) (s : DS), k + d = m → d < N → Inv s (dIn C fo k) → Vw01 n F (s.2 26) → ∃ s', L_X4_begin_88 N s (nI k) = L_X4_begin_160 FU s' (nI n - 1) ∧ Inv s' (dIn C fo m) ∧ Vw01 n F (s'.2 26) ∧ (∀ v, s.2 26 v = 1 → s'.2 26 v = 1) ∧ (∀ j, k ≤ j → j < m → C j = 1 → s'.2 26 (fo j) = 1) ∧ ∀ v, v < 151 → s'.2 26 v = 1 → s.2 26 v = 1 ∨ ∃ j, j < m ∧ C j = 1 ∧ v = fo j := by
  have hle := hF.le
  have hm := hR.m60
  intro d
  induction d with
  | zero =>
    intro k N s hk hN hI hw
    obtain ⟨N, rfl⟩ : ∃ M, N = M + 1 := ⟨N - 1, by omega⟩
    have hk : k = m := hk
    subst hk
    refine ⟨s, ?_, hI, hw, fun _ h => h, fun j h1 h2 => absurd h2 (by omega), fun v _ h => Or.inl h⟩
    show B_X4_begin_88 _ s (nI k) = _
    unfold B_X4_begin_88
    have hs := hInv s _ hI
    rw [(hs.rw9 hR).mc, if_pos (nI_le (Nat.le_refl _) (by omega)), lt_def, (hs.fw hF).cnt]
  | succ d ih =>
    intro k N s hk hN hI hw
    obtain ⟨N, rfl⟩ : ∃ M, N = M + 1 := ⟨N - 1, by omega⟩
    have hkm : k < m := by omega
    have hs := hInv s _ hI
    have hRs := hs.rw9 hR
    obtain ⟨c1, c2, c3⟩ := hC k hkm
    have ecit : F_X2_isCitable s (nI k) = C k := by
      rw [c1]
      unfold F_X2_isCitable F_X2_isOpenOrNone F_X2_innermostOf
      rw [hs.2 10 (by decide), hs.2 19 (by decide)]
    have e0 : L_X4_begin_88 (N + 1) s (nI k) = if C k = 0 then L_X4_begin_88 N s (nI (k + 1)) else (bd (P_X4_offer (sR s 26 (rput 151 (s.2 26) (nI (fo k)) 1)) (nI (fo k)) 0) fun _ s140 => L_X4_begin_88 N s140 (nI (k + 1))) := by
      show B_X4_begin_88 _ s (nI k) = _
      unfold B_X4_begin_88
      simp only [lt_def]
      rw [hRs.mc, if_neg (nI_ge hkm (by omega)), ecit, form_in hRs hkm, c3, ni_add1]
      have : F_X2_formula (sR s 26 (rput 151 (s.2 26) (nI (fo k)) 1)) (nI k) = nI (fo k) := by
        have h9 := form_in hRs hkm
        rw [c3] at h9
        exact h9
      rw [this]
    have ed : dIn C fo (k + 1) = if C k = 1 then dRx (dIn C fo k) (fo k) 0 else dIn C fo k := rfl
    rw [e0]
    obtain ⟨c, hc, g1, -⟩ := cit_ok hR hkm
    have hcc : C k = 0 ∨ C k = 1 := by rw [c1, g1]; exact hc
    rcases hcc with h0 | h1
    · rw [if_pos h0]
      rw [if_neg (by rw [h0]; decide)] at ed
      obtain ⟨s', a1, a2, a3, a4, a5, a6⟩ := ih (k + 1) N s (by omega) (by omega) (by rw [ed]; exact hI) hw
      refine ⟨s', a1, a2, a3, a4, fun j hj hjm hj1 => ?_, a6⟩
      rcases Nat.eq_or_lt_of_le hj with rfl | hj
      · rw [h0] at hj1; exact absurd hj1 (by decide)
      · exact a5 j (by omega) hjm hj1
    · rw [if_neg (by rw [h1]; decide), rput_in (by omega) (by decide)]
      rw [if_pos h1] at ed
      obtain ⟨s1, o1, o2, o3⟩ := hoff (sR s 26 (upd (s.2 26) (fo k) 1)) (dIn C fo k) (fo k) c2 (hvw s _ _ hI)
      have o3 : s1.2 26 = upd (s.2 26) (fo k) 1 := o3
      rw [o1, bd_some]
      obtain ⟨s', a1, a2, a3, a4, a5, a6⟩ := ih (k + 1) N s1 (by omega) (by omega) (by rw [ed]; exact o2) (by rw [o3]; exact vw_put hw (Or.inl c2))
      have up : ∀ v, s.2 26 v = 1 → s1.2 26 v = 1 := fun v hv => by
        rw [o3]
        by_cases h : v = fo k
        · subst h; exact upd_eq _ _ _
        · rw [upd_ne _ h]; exact hv
      refine ⟨s', a1, a2, a3, fun v hv => a4 v (up v hv), fun j hj hjm hj1 => ?_, fun v hv hv2 => ?_⟩
      · rcases Nat.eq_or_lt_of_le hj with rfl | hj
        · exact a4 _ (by rw [o3]; exact upd_eq _ _ _)
        · exact a5 j (by omega) hjm hj1
      · rcases a6 v hv hv2 with h | h
        · rw [o3] at h
          by_cases hvk : v = fo k
          · exact Or.inr ⟨k, hkm, h1, hvk⟩
          · rw [upd_ne _ hvk] at h; exact Or.inl h
        · exact Or.inr h
/-- the class begins -/
theorem begin_ok (hF : FW n σ τ) (hR : RW n m q e σ τ) {F g : Nat} (hFF : F < 151) (hFn : F < n ∨ F = 150) {v : Int32} (hf1 : P_X0_find σ 70 (-1) (-1) = some (.inl v, σ)) (hf2 : (v = -1 ∧ F = 150) ∨ (v ≠ -1 ∧ v = nI F)) (hg : g < n) {b : Int32} (hb : b = 0 ∨ b = 1) {Inv : DS → (Nat → Nat) → Prop} (h0 : ∀ s, SFs σ s → s.1 9 = nI F → s.1 8 = b → s.1 6 = 0 → s.1 7 = 0 → s.1 10 = 0 → (∀ v, v < 151 → s.2 27 v = -1) → Inv s (fun _ => 10000)) (hInv : ∀ s D, Inv s D → SFs σ s) (hvw : ∀ s D w, Inv s D → Inv (sR s 26 w) D) (hoff : ∀ s D t, t < n → Inv s D → ∃ s', P_X4_offer s (nI t) 0 = some (.inl (), s') ∧ Inv s' (dRx D t 0) ∧ s'.2 26 = s.2 26) {C : Nat → Int32} {fo : Nat → Nat} (hC : ∀ k, k < m → C k = F_X2_isCitable σ (nI k) ∧ fo k < n ∧ τ.2.1 6 k = nI (fo k)) : ∃ s, P_X4_begin σ (nI g) b = some (.inl (), s) ∧ Inv s (dIn C fo m) ∧ Vw01 n F (s.2 26) ∧ VIs n m τ C fo g F (fun v => v < 151 ∧ s.2 26 v = 1) := by
  have hle := hF.le
  have key : P_X4_begin σ (nI g) b = B_X4_begin_25 σ (nI g) b (nI F) := by
    unfold P_X4_begin
    rw [hf1, bd_some, lt_def]
    rcases hf2 with ⟨rfl, rfl⟩ | ⟨h1, rfl⟩
    · rw [if_pos rfl]; rfl
    · rw [if_neg h1]
  rw [key]
  unfold B_X4_begin_25
  simp only [lt_def]
  rw [gc_t hb]
  obtain ⟨s0, hs0⟩ : ∃ s0, s0 = sR (sI (sI (sI (sI (sI σ 9 (nI F)) 8 b) 6 0) 7 0) 10 0) 26 (rfill 151 ((sI (sI (sI (sI (sI σ 9 (nI F)) 8 b) 6 0) 7 0) 10 0).2 26) 0) := ⟨_, rfl⟩
  rw [← hs0]
  obtain ⟨s1, hs1⟩ : ∃ s1, s1 = sR s0 27 (rfill 151 (s0.2 27) (-1)) := ⟨_, rfl⟩
  rw [← hs1, rput_in (show g < 151 by omega) (by decide)]
  obtain ⟨s2, hs2⟩ : ∃ s2, s2 = sR s1 26 (upd (s1.2 26) g 1) := ⟨_, rfl⟩
  rw [← hs2]
  have i9 : s2.1 9 = nI F := by rw [hs2, hs1, hs0]; rfl
  rw [i9, rput_in hFF (by decide)]
  have kk : SFs σ s1 := by
    rw [hs1, hs0]
    refine ⟨fun k hk => ?_, fun k hk => ?_⟩
    · rw [sR_1, sR_1, sI_1, if_neg (by omega), sI_1, if_neg (by omega), sI_1, if_neg (by omega), sI_1, if_neg (by omega), sI_1, if_neg (by omega)]
    · rw [sR_2, if_neg (by omega), sR_2, if_neg (by omega)]; rfl
  have hI1 : Inv s1 (fun _ => 10000) := h0 s1 kk (by rw [hs1, hs0]; rfl) (by rw [hs1, hs0]; rfl) (by rw [hs1, hs0]; rfl) (by rw [hs1, hs0]; rfl) (by rw [hs1, hs0]; rfl) (fun v hv => by rw [hs1, sR_2, if_pos rfl]; exact rfill_in hv _ _)
  have w1 : ∀ v, v < 151 → s1.2 26 v = 0 := fun v hv => by
    rw [hs1, sR_2, if_neg (by decide), hs0, sR_2, if_pos rfl]
    exact rfill_in hv _ _
  have hI2 : Inv s2 (dIn C fo 0) := by rw [hs2]; exact hvw s1 _ _ hI1
  have w2 : Vw01 n F (s2.2 26) := by
    rw [hs2, sR_2, if_pos rfl]
    exact vw_put (fun v hv => ⟨Or.inl (w1 v hv), fun h => by rw [w1 v hv] at h; exact absurd h (by decide)⟩) (Or.inl hg)
  obtain ⟨s3, hs3⟩ : ∃ s3, s3 = sR s2 26 (upd (s2.2 26) F 1) := ⟨_, rfl⟩
  rw [← hs3]
  have hI3 : Inv s3 (dIn C fo 0) := by rw [hs3]; exact hvw s2 _ _ hI2
  have w3 : Vw01 n F (s3.2 26) := by
    rw [hs3, sR_2, if_pos rfl]
    exact vw_put w2 (Or.inr rfl)
  have v3 : ∀ v, v < 151 → (s3.2 26 v = 1 ↔ v = g ∨ v = F) := fun v hv => by
    rw [hs3, sR_2, if_pos rfl, hs2, sR_2, if_pos rfl]
    by_cases h : v = F
    · subst h; rw [upd_eq]; exact ⟨fun _ => Or.inr rfl, fun _ => rfl⟩
    · rw [upd_ne _ h]
      by_cases h' : v = g
      · subst h'; rw [upd_eq]; exact ⟨fun _ => Or.inl rfl, fun _ => rfl⟩
      · rw [upd_ne _ h', w1 v hv]
        exact ⟨fun h9 => absurd h9 (by decide), fun h9 => h9.elim (fun x => absurd x h') (fun x => absurd x h)⟩
  obtain ⟨s4, e4, a2, a3, a4, a5, a6⟩ := lin_loop hF hR hInv hvw hoff hC m 0 FU s3 (by omega) (by unfold FU; have := hR.m60; omega) hI3 w3
  rw [show (0 : Int32) = nI 0 from rfl, e4]
  obtain ⟨s5, e5, c1, c2, c3, c4, c5, c6, c7⟩ := clo_loop hF n FU s4 (Nat.le_refl _) (by unfold FU; omega) (hInv _ _ a2) a3 (fun f h1 h2 => absurd h2 (by omega))
  have e6 : s5 = sR s4 26 (s5.2 26) := by
    refine Prod.ext c2 ?_
    funext r
    by_cases hr : r = 26
    · subst hr; rfl
    · rw [c3 r hr, sR_2, if_neg hr]
  refine ⟨s5, e5, by rw [e6]; exact hvw s4 _ _ a2, c4, fun f hf hv => ⟨fun a ha ea => ⟨by omega, (c6 f hf hv.2).1 a ha ea⟩, fun a ha ea => ⟨by omega, (c6 f hf hv.2).2 a ha ea⟩⟩, ⟨⟨by omega, c5 g (a4 g ((v3 g (by omega)).mpr (Or.inl rfl)))⟩, ⟨hFF, c5 F (a4 F ((v3 F hFF).mpr (Or.inr rfl)))⟩, fun k hk hk1 => ⟨by have := (hC k hk).2.1; omega, c5 _ (a5 k (Nat.zero_le _) hk hk1)⟩⟩, fun T hT hTr v hv => c7 T hT (fun u hu hu1 => ?_) v hv.1 hv.2⟩
  rcases a6 u hu hu1 with h | ⟨j, hj, hj1, rfl⟩
  · rcases (v3 u hu).mp h with rfl | rfl
    · exact hTr.1
    · exact hTr.2.1
  · exact hTr.2.2 j hj hj1
end BEGIN
