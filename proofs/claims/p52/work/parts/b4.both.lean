/-! A LEMMA'S PREMISES: both sides match alike -/
def CmE (n : Nat) (τ : MS) (L : List (Nat × Int32)) (b : Int32) (J : Nat → Int32) : Prop := (b = 0 ∧ ∀ Q, GQ n τ Q → ¬ ∀ x ∈ L, Q x.1 x.2) ∨ (b = 1 ∧ IS1 n J ∧ IS2 n τ 0 J ∧ (∀ x ∈ L, J x.1 = x.2) ∧ ∀ Q, GQ n τ Q → (∀ x ∈ L, Q x.1 x.2) → IQ n J Q)
def RmE (n : Nat) (τ : MS) (L : List (Nat × Int32)) (b : Int32) (R : Nat → Int32) : Prop := (b = 0 ∧ ∀ Q, GQ n τ Q → ¬ ∀ x ∈ L, Q x.1 x.2) ∨ (b = 1 ∧ (∀ x ∈ L, ∃ h, Mt n τ R h x.1 x.2) ∧ ∀ Q, GQ n τ Q → (∀ x ∈ L, Q x.1 x.2) → RQ n τ R Q)
section BOTH
variable {n m q e : Nat} {σ : DS} {τ : MS}
theorem let_of {g k : Nat} (hk : k < 5) (e : Kn τ g = 97 + nI k) : letK (Kn τ g) ∧ (Kn τ g - 97).toNatClampNeg = k := by
  have : ∀ k, k < 5 → letK (97 + nI k) ∧ ((97 + nI k : Int32) - 97).toNatClampNeg = k := by unfold letK; decide
  rw [e]
  exact this k hk
theorem both_ok (hF : FW n σ τ) {L : List (Nat × Int32)} (hL : ∀ x ∈ L, x.1 < n ∧ x.2 ≠ -1) {b b' : Int32} {J R : Nat → Int32} (hC : CmE n τ L b J) (hR : RmE n τ L b' R) : b = b' ∧ (b = 0 ∨ b = 1) ∧ (b = 1 → ∀ g k, g < n → k < 5 → Kn τ g = 97 + nI k → J g = R k) := by
  rcases hC with ⟨rfl, c1⟩ | ⟨rfl, c1, c2, c3, c4⟩ <;> rcases hR with ⟨rfl, r1⟩ | ⟨rfl, r1, r2⟩
  · exact ⟨rfl, Or.inl rfl, fun h => absurd h (by decide)⟩
  · exact absurd r1 (c1 _ (Mt.gq hF R))
  · exact absurd (fun x hx => ⟨(hL x hx).1, (hL x hx).2, c3 x hx⟩) (r1 _ (IS.gq c1 c2 hF))
  · refine ⟨rfl, Or.inr rfl, fun _ g k hg hk ek => ?_⟩
    have h1 := c4 _ (Mt.gq hF R) r1
    have h2 := r2 _ (IS.gq c1 c2 hF) (fun x hx => ⟨(hL x hx).1, (hL x hx).2, c3 x hx⟩)
    by_cases hj : J g = -1
    · by_cases hr : R k = -1
      · rw [hj, hr]
      · exact (h2 k hk hr g hg ek).2.2
    · obtain ⟨hh, h3⟩ := h1 g hg hj
      cases hh with
      | zero => exact h3.elim
      | succ hh =>
        obtain ⟨g', hg', eg, h3⟩ := h3
        obtain ⟨hl, ec⟩ := let_of hk ek
        rcases h3 with ⟨-, h3⟩ | ⟨h3, -⟩
        · rw [ec] at h3; exact h3.symm
        · exact absurd hl h3
/-- the class: no premises, one, two -/
theorem cm_end (hF : FW n σ τ) {L : List (Nat × Int32)} (s : DS) (hs : IMs σ s) (h1 : IS1 n (s.2 25)) (hQ : ∀ Q, GQ n τ Q → ((∀ x ∈ L, Q x.1 x.2) ↔ IQ n (s.2 25) Q)) (hL : ∀ x ∈ L, x.1 < n ∧ x.2 ≠ -1 ∧ s.2 25 x.1 = x.2) : ∃ b σ', L_X1_matches_71 FU s ((s.1 1) - 1) = some (.inl b, σ') ∧ IMs σ σ' ∧ CmE n τ L b (σ'.2 25) := by
  have hle := hF.le
  have hFs := hs.fw hF
  obtain ⟨b, σ', e1, k1, q⟩ := mt_loop n FU s (Nat.le_refl _) (by unfold FU; omega) hFs h1 (fun p hp hp2 => absurd hp (by omega))
  refine ⟨b, σ', by rw [hFs.cnt]; exact e1, hs.tr k1, ?_⟩
  rcases q with ⟨rfl, q⟩ | ⟨rfl, q1, q2, q3, q4⟩
  · exact Or.inl ⟨rfl, fun Q hg hx => q Q hg ((hQ Q hg).mp hx)⟩
  · refine Or.inr ⟨rfl, q1, q2, fun x hx => ?_, fun Q hg hx => q4 Q hg ((hQ Q hg).mp hx)⟩
    obtain ⟨a1, a2, a3⟩ := hL x hx
    rw [q3 x.1 a1 (by rw [a3]; exact a2), a3]
def im0 (σ : DS) : DS := sR σ 25 (rfill 150 (σ.2 25) (-1))
theorem im0_ms : IMs σ (im0 σ) := ⟨rfl, fun k hk => by unfold im0; rw [sR_2, if_neg hk]⟩
theorem im0_at {p : Nat} (hp : p < 150) : (im0 σ).2 25 p = -1 := rfill_in hp _ _
def im1 (σ : DS) (p : Nat) (x : Int32) : DS := sR (im0 σ) 25 (upd ((im0 σ).2 25) p x)
theorem im1_ms (p : Nat) (x : Int32) : IMs σ (im1 σ p x) := ⟨rfl, fun k hk => by unfold im1; rw [sR_2, if_neg hk]; exact im0_ms.2 k hk⟩
theorem im1_eq (p : Nat) (x : Int32) : (im1 σ p x).2 25 p = x := upd_eq _ _ _
theorem im1_ne {p r : Nat} (h : r ≠ p) (hr : r < 150) (x : Int32) : (im1 σ p x).2 25 r = -1 := (upd_ne _ h _).trans (im0_at hr)
theorem cm0 (hF : FW n σ τ) {l : Int32} (hc : F_X1_premiseCount σ l = 0) (x y : Int32) : ∃ b σ', P_X1_matches σ l x y = some (.inl b, σ') ∧ IMs σ σ' ∧ CmE n τ [] b (σ'.2 25) := by
  have hle := hF.le
  unfold P_X1_matches B_X1_matches_36
  rw [hc, lt_def, lt_def, if_pos (by decide), if_pos (by decide), lt_def]
  refine cm_end hF (im0 σ) im0_ms (fun p hp => Or.inl (im0_at (by omega))) (fun Q _ => ⟨fun _ p hp h => absurd (im0_at (by omega)) h, fun _ x hx => absurd hx (List.not_mem_nil)⟩) (fun x hx => absurd hx (List.not_mem_nil))
theorem cm1 (hF : FW n σ τ) {l : Int32} (hc : F_X1_premiseCount σ l = 1) {p f : Nat} (hp : p < n) (hf : f < n) (h1 : rat 8 (σ.2 21) l = nI p) (y : Int32) : ∃ b σ', P_X1_matches σ l (nI f) y = some (.inl b, σ') ∧ IMs σ σ' ∧ CmE n τ [(p, nI f)] b (σ'.2 25) := by
  have hle := hF.le
  unfold P_X1_matches B_X1_matches_36
  rw [hc, lt_def, lt_def, if_neg (by decide), lt_def, if_pos (by decide), lt_def]
  rw [show (sR σ 25 (rfill 150 (σ.2 25) (-1))).2 21 = σ.2 21 from rfl, h1, rput_in (show p < 150 by omega) (by decide)]
  refine cm_end hF (im1 σ p (nI f)) (im1_ms p _) (fun r hr => ?_) (fun Q _ => ⟨fun h r hr hne => ?_, fun h x hx => ?_⟩) (fun x hx => ?_)
  · by_cases h : r = p
    · subst h; exact Or.inr ⟨f, hf, im1_eq _ _⟩
    · exact Or.inl (im1_ne h (by omega) _)
  · by_cases hrp : r = p
    · subst hrp
      rw [im1_eq]
      exact h (r, nI f) (List.mem_singleton.mpr rfl)
    · exact absurd (im1_ne hrp (by omega) _) hne
  · rw [List.mem_singleton] at hx
    subst hx
    have := h p hp (by rw [im1_eq]; exact ni_ne (by omega))
    rw [im1_eq] at this
    exact this
  · rw [List.mem_singleton] at hx
    subst hx
    exact ⟨hp, ni_ne (by omega), im1_eq _ _⟩
theorem cm2 (hF : FW n σ τ) {l : Int32} (hc : F_X1_premiseCount σ l = 2) {p f p' f' : Nat} (hp : p < n) (hf : f < n) (h1 : rat 8 (σ.2 21) l = nI p) (hp' : p' < n) (hf' : f' < n) (h2 : rat 8 (σ.2 22) l = nI p') : ∃ b σ', P_X1_matches σ l (nI f) (nI f') = some (.inl b, σ') ∧ IMs σ σ' ∧ CmE n τ [(p, nI f), (p', nI f')] b (σ'.2 25) := by
  have hle := hF.le
  unfold P_X1_matches B_X1_matches_36
  rw [hc, lt_def, lt_def, if_neg (by decide), lt_def, if_neg (by decide)]
  rw [show (sR σ 25 (rfill 150 (σ.2 25) (-1))).2 21 = σ.2 21 from rfl, h1, rput_in (show p < 150 by omega) (by decide)]
  rw [show sR (sR σ 25 (rfill 150 (σ.2 25) (-1))) 25 (upd ((sR σ 25 (rfill 150 (σ.2 25) (-1))).2 25) p (nI f)) = im1 σ p (nI f) from rfl, show (im1 σ p (nI f)).2 22 = σ.2 22 from rfl, h2]
  obtain ⟨b, s1, e1, k1, q1⟩ := setI_ok ((im1_ms p (nI f)).fw hF) (v := nI p') (nI f') (Or.inr ⟨p', hp', rfl⟩)
  rw [e1, bd_some]
  have kk : IMs σ s1 := (im1_ms p (nI f)).tr k1
  have m1 : ∀ {x : Nat × Int32}, x ∈ [(p, nI f), (p', nI f')] ↔ x = (p, nI f) ∨ x = (p', nI f') := by
    intro x
    rw [List.mem_cons, List.mem_singleton]
  rcases q1 with ⟨rfl, a1, a2, a3⟩ | ⟨rfl, a, ha, a1, a2, a3⟩
  · rw [if_neg i10, lt_def]
    have z1 : s1.2 25 p = nI f := by rw [a1 p hp (by rw [im1_eq]; exact ni_ne (by omega)), im1_eq]
    have z2 : s1.2 25 p' = nI f' := a3 p' hp' rfl
    have z3 : ∀ r, r < n → r ≠ p → r ≠ p' → s1.2 25 r = -1 := fun r hr h1 h2 => by
      rcases a2 r hr with h | ⟨h, -⟩
      · rw [h, im1_ne h1 (by omega)]
      · rw [ni_eq (by omega) (by omega)] at h; exact absurd h.symm h2
    refine cm_end hF s1 kk (fun r hr => ?_) (fun Q _ => ⟨fun h r hr hne => ?_, fun h x hx => ?_⟩) (fun x hx => ?_)
    · by_cases h : r = p
      · subst h; exact Or.inr ⟨f, hf, z1⟩
      · by_cases h' : r = p'
        · subst h'; exact Or.inr ⟨f', hf', z2⟩
        · exact Or.inl (z3 r hr h h')
    · by_cases h9 : r = p
      · subst h9; rw [z1]; exact h (r, nI f) (m1.mpr (Or.inl rfl))
      · by_cases h' : r = p'
        · subst h'; rw [z2]; exact h (r, nI f') (m1.mpr (Or.inr rfl))
        · exact absurd (z3 r hr h9 h') hne
    · rcases m1.mp hx with rfl | rfl
      · have := h p hp (by rw [z1]; exact ni_ne (by omega))
        rw [z1] at this; exact this
      · have := h p' hp' (by rw [z2]; exact ni_ne (by omega))
        rw [z2] at this; exact this
    · rcases m1.mp hx with rfl | rfl
      · exact ⟨hp, ni_ne (by omega), z1⟩
      · exact ⟨hp', ni_ne (by omega), z2⟩
  · rw [if_pos rfl]
    refine ⟨0, s1, rfl, kk, Or.inl ⟨rfl, fun Q hQ h => ?_⟩⟩
    rw [ni_eq (by omega) (by omega)] at a1
    subst a1
    by_cases h9 : p' = p
    · subst h9
      rw [im1_eq] at a3
      exact a3 (hQ.1 p' _ _ hp' (h (p', nI f) (m1.mpr (Or.inl rfl))) (h (p', nI f') (m1.mpr (Or.inr rfl))))
    · exact a2 (im1_ne h9 (by omega) _)
/-- the reference: no premises, one, two -/
theorem rmN {R : Nat → Int32} (hR : ∀ k, k < 5 → R k = -1) : RmE n τ [] 1 R := Or.inr ⟨rfl, fun x hx => absurd hx (List.not_mem_nil), fun Q _ _ k hk h => absurd (hR k hk) h⟩
theorem fit_f (hF : FW n σ τ) {p g : Nat} (hp : p < n) (hg : g < n) : ∃ b τ', P_X7_fits 40 τ (nI p) (nI g) = some (.inl b, τ') ∧ RPt τ τ' ∧ FtE n τ (τ.2.1 16) p (nI g) b (τ'.2.1 16) := by
  obtain ⟨w, q1, -, q3, -⟩ := word_of hF hp
  exact fits_ok w.length p g 40 w τ q1 (by omega) hF hp hg
theorem rm1 (hF : FW n σ τ) (hR : ∀ k, k < 5 → τ.2.1 16 k = -1) {p f : Nat} (hp : p < n) (hf : f < n) : ∃ b τ', P_X7_fits 40 τ (nI p) (nI f) = some (.inl b, τ') ∧ RPt τ τ' ∧ RmE n τ [(p, nI f)] b (τ'.2.1 16) := by
  obtain ⟨b, τ', e1, k1, q⟩ := fit_f hF hp hf
  refine ⟨b, τ', e1, k1, ?_⟩
  have hRQ : ∀ Q, RQ n τ (τ.2.1 16) Q := fun Q k hk h => absurd (hR k hk) h
  rcases q with ⟨rfl, q⟩ | ⟨rfl, q1, q2, q3⟩
  · exact Or.inl ⟨rfl, fun Q hQ h => q Q hQ (hRQ Q) (h (p, nI f) (List.mem_singleton.mpr rfl))⟩
  · refine Or.inr ⟨rfl, fun x hx => ?_, fun Q hQ h => q3 Q hQ (hRQ Q) (h (p, nI f) (List.mem_singleton.mpr rfl))⟩
    rw [List.mem_singleton] at hx
    subst hx
    exact q1
theorem rm2 (hF : FW n σ τ) (hR : ∀ k, k < 5 → τ.2.1 16 k = -1) {p f p' f' : Nat} (hp : p < n) (hf : f < n) (hp' : p' < n) (hf' : f' < n) : ∃ b τ1, P_X7_fits 40 τ (nI p) (nI f) = some (.inl b, τ1) ∧ RPt τ τ1 ∧ ((b = 0 ∧ RmE n τ [(p, nI f), (p', nI f')] 0 (τ1.2.1 16)) ∨ (b = 1 ∧ ∃ b' τ', P_X7_fits 40 τ1 (nI p') (nI f') = some (.inl b', τ') ∧ RPt τ τ' ∧ RmE n τ [(p, nI f), (p', nI f')] b' (τ'.2.1 16))) := by
  have hle := hF.le
  obtain ⟨b, τ1, e1, k1, q⟩ := fit_f hF hp hf
  have hRQ : ∀ Q, RQ n τ (τ.2.1 16) Q := fun Q k hk h => absurd (hR k hk) h
  have m1 : ∀ {x : Nat × Int32}, x ∈ [(p, nI f), (p', nI f')] ↔ x = (p, nI f) ∨ x = (p', nI f') := by
    intro x
    rw [List.mem_cons, List.mem_singleton]
  refine ⟨b, τ1, e1, k1, ?_⟩
  rcases q with ⟨rfl, q⟩ | ⟨rfl, ⟨j1, q1⟩, q2, q3⟩
  · exact Or.inl ⟨rfl, Or.inl ⟨rfl, fun Q hQ h => q Q hQ (hRQ Q) (h (p, nI f) (m1.mpr (Or.inl rfl)))⟩⟩
  · obtain ⟨b', τ', e2, k2, r⟩ := fit_f (k1.fw hF) hp' hf'
    refine Or.inr ⟨rfl, b', τ', e2, k1.tr k2, ?_⟩
    rcases r with ⟨rfl, r⟩ | ⟨rfl, ⟨j2, r1⟩, r2, r3⟩
    · exact Or.inl ⟨rfl, fun Q hQ h => r Q (hQ.ext k1) ((q3 Q hQ (hRQ Q) (h (p, nI f) (m1.mpr (Or.inl rfl)))).ext k1) (h (p', nI f') (m1.mpr (Or.inr rfl)))⟩
    · refine Or.inr ⟨rfl, fun x hx => ?_, fun Q hQ h => (r3 Q (hQ.ext k1) ((q3 Q hQ (hRQ Q) (h (p, nI f) (m1.mpr (Or.inl rfl)))).ext k1) (h (p', nI f') (m1.mpr (Or.inr rfl)))).ext k1.sy⟩
      rcases m1.mp hx with rfl | rfl
      · exact ⟨j1, Mt.mono r2 hle q1⟩
      · exact ⟨j2, Mt.ext k1.sy r1⟩
end BOTH
