/-! DISTANCES: the class's rounds -/
section ROUNDS
variable {n m q e : Nat} {σ : DS} {τ : MS}
/-- what an offer by rounds keeps -/
def IRb (σ : DS) (F : Nat) (s : DS) (D : Nat → Nat) : Prop := SFs σ s ∧ s.1 9 = nI F ∧ SDd (s.2 27) D ∧ s.1 8 = 0 ∧ ∃ ch, s.1 10 = nI ch ∧ ch + sm 151 D ≤ 1510000
def IRr (σ : DS) (F : Nat) (vw : Nat → Int32) (c0 : Nat) (D0 : Nat → Nat) (s : DS) (D : Nat → Nat) : Prop := SFs σ s ∧ s.1 9 = nI F ∧ SDd (s.2 27) D ∧ s.1 8 = 0 ∧ s.2 26 = vw ∧ ∃ ch, s.1 10 = nI ch ∧ ch + sm 151 D ≤ 1510000 ∧ c0 ≤ ch ∧ (ch = c0 → ∀ v, v < 151 → D v = D0 v)
theorem put_sd {I : Nat → Int32} {D : Nat → Nat} (h : SDd I D) {t c : Nat} (hc : c < D t) (hc2 : c < 10000) : SDd (upd I t (nI c)) (dRx D t c) := fun v hv => by
  by_cases hvt : v = t
  · subst hvt
    rw [upd_eq, dRx_t, Nat.min_eq_right (Nat.le_of_lt hc), ec_lt hc2]
    exact ⟨rfl, by omega⟩
  · rw [upd_ne _ hvt, dRx_ne hvt]
    exact h v hv
theorem sm_rx {D : Nat → Nat} {t c : Nat} (ht : t < 151) (hc : c < D t) : sm 151 (dRx D t c) < sm 151 D := sm_lt 151 (fun v hv => dRx_le v hv) ⟨t, ht, by rw [dRx_t, Nat.min_eq_right (Nat.le_of_lt hc)]; exact hc⟩
theorem take_r {s : DS} {t c : Nat} (ht : t < 151) (h8 : s.1 8 = 0) (x : Int32) : B_X4_offer_24 s (nI t) (nI c) x = some (.inl (), sI (sR s 27 (upd (s.2 27) t (nI c))) 10 (s.1 10 + 1)) := by
  unfold B_X4_offer_24
  rw [lt_def, lt_def, rput_in ht (by decide), if_pos (show (sI (sR s 27 (upd (s.2 27) t (nI c))) 10 ((sR s 27 (upd (s.2 27) t (nI c))).1 10 + 1)).1 8 = 0 from h8)]
  rfl
theorem off_rb {F : Nat} {s : DS} {D : Nat → Nat} (h : IRb σ F s D) {t : Nat} (ht : t < 151) (c : Nat) : ∃ s', P_X4_offer s (nI t) (ec c) = some (.inl (), s') ∧ IRb σ F s' (dRx D t c) ∧ s'.2 26 = s.2 26 := by
  obtain ⟨h1, h2, h3, h4, ch, h5, h6⟩ := h
  rcases offer_cases h3 ht c with ⟨g1, g2⟩ | ⟨g1, g2, g3⟩
  · exact ⟨s, g2, by rw [dRx_id g1]; exact ⟨h1, h2, h3, h4, ch, h5, h6⟩, rfl⟩
  · rw [g3, take_r ht h4]
    have := sm_rx ht g1
    refine ⟨_, rfl, ⟨⟨fun k hk => ?_, fun k hk => ?_⟩, h2, put_sd h3 g1 g2, h4, ch + 1, ?_, by omega⟩, rfl⟩
    · rw [sI_1, if_neg (by omega)]; exact h1.1 k hk
    · rw [sI_2, sR_2, if_neg (by omega)]; exact h1.2 k hk
    · rw [sI_1, if_pos rfl, h5, ni_add1]
theorem off_rr {F : Nat} {vw : Nat → Int32} {c0 : Nat} {D0 : Nat → Nat} {s : DS} {D : Nat → Nat} (h : IRr σ F vw c0 D0 s D) {t : Nat} (ht : t < 151) (c : Nat) : ∃ s', P_X4_offer s (nI t) (ec c) = some (.inl (), s') ∧ IRr σ F vw c0 D0 s' (dRx D t c) := by
  obtain ⟨h1, h2, h3, h4, h7, ch, h5, h6, h8, h9⟩ := h
  rcases offer_cases h3 ht c with ⟨g1, g2⟩ | ⟨g1, g2, g3⟩
  · exact ⟨s, g2, by rw [dRx_id g1]; exact ⟨h1, h2, h3, h4, h7, ch, h5, h6, h8, h9⟩⟩
  · rw [g3, take_r ht h4]
    have := sm_rx ht g1
    refine ⟨_, rfl, ⟨⟨fun k hk => ?_, fun k hk => ?_⟩, h2, put_sd h3 g1 g2, h4, h7, ch + 1, ?_, by omega, by omega, fun h => by omega⟩⟩
    · rw [sI_1, if_neg (by omega)]; exact h1.1 k hk
    · rw [sI_2, sR_2, if_neg (by omega)]; exact h1.2 k hk
    · rw [sI_1, if_pos rfl, h5, ni_add1]
/-- the rules of the formulas in view from j on -/
def ruL (vw : Nat → Int32) (ru : Nat → List Rul) : Nat → Nat → List Rul
  | 0, _ => []
  | d + 1, j => (if vw j = 1 then ru j else []) ++ ruL vw ru d (j + 1)
theorem ruL_mem {vw : Nat → Int32} {ru : Nat → List Rul} : ∀ (d j f : Nat), j ≤ f → f < j + d → vw f = 1 → ∀ x ∈ ru f, x ∈ ruL vw ru d j
  | 0, j, f, h1, h2, _, _, _ => absurd h2 (by omega)
  | d + 1, j, f, h1, h2, h3, x, hx => by
    show x ∈ (if vw j = 1 then ru j else []) ++ ruL vw ru d (j + 1)
    by_cases h : f = j
    · subst h
      rw [if_pos h3]
      exact List.mem_append.mpr (Or.inl hx)
    · exact List.mem_append.mpr (Or.inr (ruL_mem d (j + 1) f (by omega) (by omega) h3 x hx))
theorem ruL_ok {vw : Nat → Int32} {ru : Nat → List Rul} {V : Nat → Prop} (hV : ∀ f, f < 151 → (V f ↔ vw f = 1)) (hO : dOk V ru) : ∀ (d j : Nat), j + d ≤ 151 → ∀ x ∈ ruL vw ru d j, x.1 < 151 ∧ ∀ s ∈ x.2, s < 151
  | 0, _, _, x, hx => absurd hx (List.not_mem_nil)
  | d + 1, j, hj, x, hx => by
    have hx : x ∈ (if vw j = 1 then ru j else []) ++ ruL vw ru d (j + 1) := hx
    rcases List.mem_append.mp hx with hx | hx
    · by_cases h : vw j = 1
      · rw [if_pos h] at hx
        exact hO j (by omega) ((hV j (by omega)).mpr h) x hx
      · rw [if_neg h] at hx
        exact absurd hx (List.not_mem_nil)
    · exact ruL_ok hV hO d (j + 1) (by omega) x hx
/-- one round of the class -/
theorem round_c (hF : FW n σ τ) {F : Nat} (hFF : F < 151) {V : Nat → Prop} {vw : Nat → Int32} (hV : ∀ f, f < 151 → (V f ↔ vw f = 1)) {c0 : Nat} {D0 : Nat → Nat} (k10 : DS → Int32 → Int32 → Int32 → Res DS Int32) (g l2 l3 : Int32) : ∀ (d j N : Nat) (s : DS) (D : Nat → Nat), j + d = 151 → d < N → IRr σ F vw c0 D0 s D → ∃ s' D', L_X4_byRounds_33 k10 N s g l2 l3 (nI j) = k10 s' g l2 (l3 + 1) ∧ IRr σ F vw c0 D0 s' D' ∧ dStp V (ruT n τ F) D D' (ruL vw (ruT n τ F) d j) := by
  have hO := ru_ok hF hFF V
  intro d
  induction d with
  | zero =>
    intro j N s D hj hN hI
    obtain ⟨N, rfl⟩ : ∃ M, N = M + 1 := ⟨N - 1, by omega⟩
    have hj : j = 151 := hj
    subst hj
    refine ⟨s, D, ?_, hI, dStp.rf⟩
    show B_X4_byRounds_33 k10 _ s g l2 l3 (nI 151) = _
    unfold B_X4_byRounds_33
    rw [if_pos (by decide), lt_def]
  | succ d ih =>
    intro j N s D hj hN hI
    obtain ⟨N, rfl⟩ : ∃ M, N = M + 1 := ⟨N - 1, by omega⟩
    have hst : ruL vw (ruT n τ F) (d + 1) j = (if vw j = 1 then ruT n τ F j else []) ++ ruL vw (ruT n τ F) d (j + 1) := rfl
    have hvw : s.2 26 = vw := hI.2.2.2.2.1
    have e0 : L_X4_byRounds_33 k10 (N + 1) s g l2 l3 (nI j) = if vw j = 1 then (bd (P_X4_applyRules s (nI j)) fun _ s57 => L_X4_byRounds_33 k10 N s57 g l2 l3 (nI (j + 1))) else L_X4_byRounds_33 k10 N s g l2 l3 (nI (j + 1)) := by
      show B_X4_byRounds_33 k10 _ s g l2 l3 (nI j) = _
      unfold B_X4_byRounds_33
      simp only [lt_def]
      rw [show (151 : Int32) = nI 151 from rfl, if_neg (nI_ge (by omega) (by decide)), rat_in (by omega) (by decide), hvw, ni_add1]
    rw [e0, hst]
    by_cases h : vw j = 1
    · rw [if_pos h, if_pos h]
      obtain ⟨s1, D1, a1, a2, a3⟩ := apply_gen hF hFF (V := V) (Inv := IRr σ F vw c0 D0) (fun s D h => ⟨h.1, h.2.1, h.2.2.1⟩) (show j < 151 by omega) ((hV j (by omega)).mpr h) (fun s D x hx hI => by
        obtain ⟨s', o1, o2⟩ := off_rr hI (hO j (by omega) ((hV j (by omega)).mpr h) x hx).1 (1 + dSl D x.2)
        exact ⟨s', _, o1, o2, dStp.rx hO (by omega) ((hV j (by omega)).mpr h) hx⟩) hI
      obtain ⟨s2, D2, b1, b2, b3⟩ := ih (j + 1) N s1 D1 (by omega) (by omega) a2
      rw [a1, bd_some]
      exact ⟨s2, D2, b1, b2, a3.tr b3 (fun x hx => (hO j (by omega) ((hV j (by omega)).mpr h) x hx).1) (fun y hy => (ruL_ok hV hO d (j + 1) (by omega) y hy).2)⟩
    · rw [if_neg h, if_neg h]
      exact ih (j + 1) N s D (by omega) (by omega) hI
/-- the class's rounds end with what is greatest -/
theorem rounds_c (hF : FW n σ τ) {F : Nat} (hFF : F < 151) {V : Nat → Prop} {vw : Nat → Int32} (hV : ∀ f, f < 151 → (V f ↔ vw f = 1)) {I M : Nat → Nat} (hM : dCl V (ruT n τ F) M) (hMI : dLe M I) (hMb : dLb V (ruT n τ F) I M) {g : Nat} (hg : g < 151) : ∀ (d r N : Nat) (s : DS) (D : Nat → Nat) (l2 : Int32), r + d = 152 → d < N → IRr σ F vw 0 D s D → dLe D I → dLb V (ruT n τ F) I D → uns D M ≤ 151 - r → (l2 = -1 ∨ ∃ c0, c0 ≤ 1510000 ∧ l2 = nI c0 ∧ (s.1 10 = nI c0 → dCl V (ruT n τ F) D)) → ∃ s', L_X4_byRounds_10 N s (nI g) l2 (nI r) = some (.inl (ec (M g)), s') ∧ SFs σ s' := by
  have hO := ru_ok hF hFF V
  intro d
  induction d with
  | zero =>
    intro r N s D l2 hr hN hI hDI hDb hu hl
    obtain ⟨N, rfl⟩ : ∃ M, N = M + 1 := ⟨N - 1, by omega⟩
    have hr : r = 152 := hr
    subst hr
    refine ⟨s, ?_, hI.1⟩
    show B_X4_byRounds_10 _ s (nI g) l2 (nI 152) = _
    unfold B_X4_byRounds_10
    rw [if_pos (by decide), rat_in hg (by decide), (hI.2.2.1 g hg).1, uns_0 (show uns D M = 0 by omega) g hg]
  | succ d ih =>
    intro r N s D l2 hr hN hI hDI hDb hu hl
    obtain ⟨N, rfl⟩ : ∃ M, N = M + 1 := ⟨N - 1, by omega⟩
    obtain ⟨h1, h2, h3, h4, h7, ch, h5, h6, h8, h9⟩ := id hI
    have e0 : L_X4_byRounds_10 (N + 1) s (nI g) l2 (nI r) = if s.1 10 = l2 then some (.inl (rat 151 (s.2 27) (nI g)), s) else L_X4_byRounds_33 (L_X4_byRounds_10 N) FU s (nI g) (s.1 10) (nI r) (nI 0) := by
      show B_X4_byRounds_10 _ s (nI g) l2 (nI r) = _
      unfold B_X4_byRounds_10
      simp only [lt_def]
      rw [show (151 : Int32) = nI 151 from rfl, if_neg (nI_nlt (by omega) (by omega))]
      rfl
    rw [e0]
    by_cases hx : s.1 10 = l2
    · rw [if_pos hx, rat_in hg (by decide), (h3 g hg).1]
      refine ⟨s, ?_, h1⟩
      rcases hl with rfl | ⟨c0, hc0, rfl, hcl⟩
      · rw [h5] at hx; exact absurd hx (ni_ne (by omega))
      · rw [least_uni (hcl hx) hDI hDb hM hMI hMb g hg]
    · rw [if_neg hx]
      obtain ⟨s1, D1, a1, a2, a3⟩ := round_c hF hFF hV (c0 := ch) (D0 := D) (L_X4_byRounds_10 N) (nI g) (s.1 10) (nI r) 151 0 FU s D (by omega) (by unfold FU; omega) ⟨h1, h2, h3, h4, h7, ch, h5, h6, Nat.le_refl _, fun _ _ _ => rfl⟩
      rw [a1, ni_add1]
      have hcov : ∀ f, f < 151 → V f → ∀ x ∈ ruT n τ F f, x ∈ ruL vw (ruT n τ F) 151 0 := fun f hf hVf x hx => ruL_mem 151 0 f (Nat.zero_le _) (by omega) ((hV f hf).mp hVf) x hx
      have hu1 := uns_lt hO hM hMI hMb hDI hDb a3 hcov
      obtain ⟨b1, b2, b3, b4, b7, ch1, b5, b6, b8, b9⟩ := a2
      refine ih (r + 1) N s1 D1 (s.1 10) (by omega) (by omega) ⟨b1, b2, b3, b4, b7, ch1, b5, b6, Nat.zero_le _, fun _ _ _ => rfl⟩ (a3.1.tr hDI) (hDb.stp a3) (by omega) (Or.inr ⟨ch, by omega, h5, fun hc => ?_⟩)
      rw [b5, ni_eq (by omega) (by omega)] at hc
      have he := b9 hc
      intro f hf hVf x hx
      have := a3.2.2 x (hcov f hf hVf x hx)
      rw [dSl_eq (D := D1) (E := D) fun s hs => he s ((hO f hf hVf x hx).2 s hs)]
      exact this
end ROUNDS
