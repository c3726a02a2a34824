/-! AN INSTANCE IS MATCHED: the class -/
def letK (c : Int32) : Prop := c = 97 ∨ c = 98 ∨ c = 99 ∨ c = 100 ∨ c = 101
theorem letK_ix {c : Int32} (h : letK c) : ∃ k, k < 5 ∧ c - 97 = nI k ∧ c = 97 + nI k := by
  rcases h with rfl | rfl | rfl | rfl | rfl
  · exact ⟨0, by decide, by decide, by decide⟩
  · exact ⟨1, by decide, by decide, by decide⟩
  · exact ⟨2, by decide, by decide, by decide⟩
  · exact ⟨3, by decide, by decide, by decide⟩
  · exact ⟨4, by decide, by decide, by decide⟩
theorem kinds_let {c : Int32} (h : c ∈ kinds) : letK c ∨ (c = 70 ∨ c = 78 ∨ binK c) := by
  unfold kinds at h
  simp only [List.mem_cons, List.not_mem_nil, or_false] at h
  unfold letK binK
  rcases h with h | h | h | h | h | h | h | h | h | h <;> simp [h]
theorem letS_y {σ : DS} {c : Int32} (h : letK c) : F_X5_isLetter σ c = 1 := by
  unfold F_X5_isLetter
  rcases h with rfl | rfl | rfl | rfl | rfl <;> rfl
theorem letS_n {σ : DS} {c : Int32} (h : c = 70 ∨ c = 78 ∨ binK c) : F_X5_isLetter σ c = 0 := by
  unfold F_X5_isLetter
  rcases h with rfl | rfl | rfl | rfl | rfl <;> rfl
theorem letT_y {τ : MS} {c : Int32} (h : letK c) : F_X7_isLetter τ c = 1 := by
  unfold F_X7_isLetter
  rcases h with rfl | rfl | rfl | rfl | rfl <;> rfl
theorem letT_n {τ : MS} {c : Int32} (h : c = 70 ∨ c = 78 ∨ binK c) : F_X7_isLetter τ c = 0 := by
  unfold F_X7_isLetter
  rcases h with rfl | rfl | rfl | rfl | rfl <;> rfl
theorem let_not {c : Int32} (h : letK c) : ¬ (c = 70 ∨ c = 78 ∨ binK c) := by
  rcases h with rfl | rfl | rfl | rfl | rfl <;> (intro h; rcases h with h | h | h | h | h <;> exact absurd h (by decide))
/-- a relation that hands what stands for a part on to its parts, and gives each part one formula -/
def GQ (n : Nat) (τ : MS) (Q : Nat → Int32 → Prop) : Prop := (∀ p f f', p < n → Q p f → Q p f' → f = f') ∧ ∀ p f, p < n → Q p f → ∃ g, g < n ∧ f = nI g ∧ (letK (Kn τ p) ∨ (Kn τ g = Kn τ p ∧ (∀ a, a < n → Lf τ p = nI a → Q a (Lf τ g)) ∧ ∀ b, b < n → Rt τ p = nI b → Q b (Rt τ g)))
/-- what the images must be below n -/
def IS1 (n : Nat) (I : Nat → Int32) : Prop := ∀ p, p < n → I p = -1 ∨ ∃ g, g < n ∧ I p = nI g
def IS2 (n : Nat) (τ : MS) (k : Nat) (I : Nat → Int32) : Prop := ∀ p, k ≤ p → p < n → ∀ g, g < n → I p = nI g → letK (Kn τ p) ∨ (Kn τ g = Kn τ p ∧ (∀ a, a < n → Lf τ p = nI a → I a = Lf τ g) ∧ ∀ b, b < n → Rt τ p = nI b → I b = Rt τ g)
def IQ (n : Nat) (I : Nat → Int32) (Q : Nat → Int32 → Prop) : Prop := ∀ p, p < n → I p ≠ -1 → Q p (I p)
/-- an image is set: I becomes J, unless another one stands there -/
def SetI (n : Nat) (I J : Nat → Int32) (v x b : Int32) : Prop := (b = 1 ∧ (∀ p, p < n → I p ≠ -1 → J p = I p) ∧ (∀ p, p < n → J p = I p ∨ (v = nI p ∧ J p = x)) ∧ ∀ a, a < n → v = nI a → J a = x) ∨ (b = 0 ∧ ∃ a, a < n ∧ v = nI a ∧ I a ≠ -1 ∧ I a ≠ x)
/-- only the images have changed -/
def IMs (σ σ' : DS) : Prop := σ'.1 = σ.1 ∧ ∀ k, k ≠ 25 → σ'.2 k = σ.2 k
section MATCH
variable {n m q e : Nat} {σ : DS} {τ : MS}
theorem IMs.rf : IMs σ σ := ⟨rfl, fun _ _ => rfl⟩
theorem IMs.tr {σ1 σ2 : DS} (h1 : IMs σ σ1) (h2 : IMs σ1 σ2) : IMs σ σ2 := ⟨h2.1.trans h1.1, fun k hk => (h2.2 k hk).trans (h1.2 k hk)⟩
theorem IMs.fw {σ' : DS} (h : IMs σ σ') (hF : FW n σ τ) : FW n σ' τ := hF.scr (by rw [h.1]) (fun k hk => h.2 k (by omega)) rfl (fun _ _ => rfl)
theorem IMs.rw9 {σ' : DS} (h : IMs σ σ') (hR : RW n m q e σ τ) : RW n m q e σ' τ := hR.of (Nat.le_refl n) ⟨fun k _ _ => by rw [h.1], fun k _ _ => h.2 k (by omega), fun k _ _ => h.2 k (by omega)⟩ PPt.rf
theorem setI_ok (hF : FW n σ τ) {v : Int32} (x : Int32) (hv : v = -1 ∨ ∃ a, a < n ∧ v = nI a) : ∃ b σ', P_X1_setImage σ v x = some (.inl b, σ') ∧ IMs σ σ' ∧ SetI n (σ.2 25) (σ'.2 25) v x b := by
  have hle := hF.le
  unfold P_X1_setImage
  rw [lt_def, lt_def]
  rcases hv with rfl | ⟨a, ha, rfl⟩
  · rw [rat_m1, if_pos rfl, rput_m1]
    refine ⟨1, _, rfl, ⟨rfl, fun k hk => by rw [sR_2, if_neg hk]⟩, Or.inl ⟨rfl, fun p _ _ => rfl, fun p _ => Or.inl rfl, fun a ha h => absurd h.symm (ni_ne (by omega))⟩⟩
  · rw [rat_in (by omega) (by decide), rput_in (by omega) (by decide)]
    have k1 : IMs σ (sR σ 25 (upd (σ.2 25) a x)) := ⟨rfl, fun k hk => by rw [sR_2, if_neg hk]⟩
    have e : (sR σ 25 (upd (σ.2 25) a x)).2 25 = upd (σ.2 25) a x := rfl
    have good : (σ.2 25 a = -1 ∨ σ.2 25 a = x) → SetI n (σ.2 25) (upd (σ.2 25) a x) (nI a) x 1 := fun hx => by
      refine Or.inl ⟨rfl, fun p _ hp => ?_, fun p _ => ?_, fun c hc h => ?_⟩
      · by_cases h : p = a
        · subst h
          rw [upd_eq]
          rcases hx with hx | hx
          · exact absurd hx hp
          · exact hx.symm
        · rw [upd_ne _ h]
      · by_cases h : p = a
        · subst h; exact Or.inr ⟨rfl, upd_eq _ _ _⟩
        · exact Or.inl (upd_ne _ h _)
      · rw [ni_eq (by omega) (by omega)] at h
        subst h
        exact upd_eq _ _ _
    by_cases h1 : σ.2 25 a = -1
    · rw [if_pos h1]
      exact ⟨1, _, rfl, k1, by rw [e]; exact good (Or.inl h1)⟩
    · rw [if_neg h1]
      by_cases h2 : σ.2 25 a = x
      · rw [if_pos h2]
        exact ⟨1, _, rfl, k1, by rw [e]; exact good (Or.inr h2)⟩
      · rw [if_neg h2]
        exact ⟨0, _, rfl, k1, Or.inr ⟨rfl, a, ha, rfl, h1, h2⟩⟩
theorem part_l (hF : FW n σ τ) {p : Nat} (hp : p < n) : Lf τ p = -1 ∨ ∃ a, a < p ∧ Lf τ p = nI a := by
  rcases (hF.ent hp).sh with ⟨-, e, -⟩ | ⟨a, -, ha, e, -⟩ | ⟨a, b, -, ha, -, e, -⟩
  · exact Or.inl e
  · exact Or.inr ⟨a, ha, e⟩
  · exact Or.inr ⟨a, ha, e⟩
theorem part_r (hF : FW n σ τ) {p : Nat} (hp : p < n) : Rt τ p = -1 ∨ ∃ a, a < p ∧ Rt τ p = nI a := by
  rcases (hF.ent hp).sh with ⟨-, -, e⟩ | ⟨a, -, -, -, e⟩ | ⟨a, b, -, -, hb, -, e⟩
  · exact Or.inl e
  · exact Or.inl e
  · exact Or.inr ⟨b, hb, e⟩
/-- parts of formulas of the same kind: there or not there alike -/
theorem same_l (hF : FW n σ τ) {p g : Nat} (hp : p < n) (hg : g < n) (hk : Kn τ g = Kn τ p) {a : Nat} (ha : a < n) (h : Lf τ p = nI a) : ∃ c, c < n ∧ Lf τ g = nI c := by
  have hle := hF.le
  rcases part_l hF hg with e | ⟨c, hc, e⟩
  · exfalso
    rcases (hF.ent hp).sh with ⟨k, e', -⟩ | ⟨a', k, ha', e', -⟩ | ⟨a', b', k, ha', -, e', -⟩
    · rw [e'] at h; exact ni_ne (by omega) h.symm
    · rcases (hF.ent hg).sh with ⟨k2, -, -⟩ | ⟨a2, k2, ha2, e2, -⟩ | ⟨a2, b2, k2, ha2, -, e2, -⟩
      · rw [hk, k] at k2; rcases k2 with k2 | k2 | k2 | k2 | k2 | k2 <;> exact absurd k2 (by decide)
      · rw [e] at e2; exact ni_ne (by omega) e2.symm
      · rw [e] at e2; exact ni_ne (by omega) e2.symm
    · rcases (hF.ent hg).sh with ⟨k2, -, -⟩ | ⟨a2, k2, ha2, e2, -⟩ | ⟨a2, b2, k2, ha2, -, e2, -⟩
      · rw [hk] at k2
        rcases k with k | k | k <;> rw [k] at k2 <;> rcases k2 with k2 | k2 | k2 | k2 | k2 | k2 <;> exact absurd k2 (by decide)
      · rw [e] at e2; exact ni_ne (by omega) e2.symm
      · rw [e] at e2; exact ni_ne (by omega) e2.symm
  · exact ⟨c, by omega, e⟩
theorem same_r (hF : FW n σ τ) {p g : Nat} (hp : p < n) (hg : g < n) (hk : Kn τ g = Kn τ p) {a : Nat} (ha : a < n) (h : Rt τ p = nI a) : ∃ c, c < n ∧ Rt τ g = nI c := by
  have hle := hF.le
  rcases (hF.ent hp).sh with ⟨k, -, e'⟩ | ⟨a', k, ha', -, e'⟩ | ⟨a', b', k, ha', hb', -, e'⟩
  · rw [e'] at h; exact absurd h.symm (ni_ne (by omega))
  · rw [e'] at h; exact absurd h.symm (ni_ne (by omega))
  · rcases (hF.ent hg).sh with ⟨k2, -, -⟩ | ⟨a2, k2, -, -, -⟩ | ⟨a2, b2, k2, -, hb2, -, e2⟩
    · rw [hk] at k2
      rcases k with k | k | k <;> rw [k] at k2 <;> rcases k2 with k2 | k2 | k2 | k2 | k2 | k2 <;> exact absurd k2 (by decide)
    · rw [hk] at k2
      rcases k with k | k | k <;> rw [k] at k2 <;> exact absurd k2 (by decide)
    · exact ⟨b2, by omega, e2⟩
/-- what stands for a part is handed on to its parts -/
theorem hand_ok (hF : FW n σ τ) {p g : Nat} (hp : p < n) (hg : g < n) (h1 : IS1 n (σ.2 25)) (h2 : IS2 n τ (p + 1) (σ.2 25)) (hI : σ.2 25 p = nI g) : ∃ b σ', P_X1_handOn σ (nI p) (nI g) = some (.inl b, σ') ∧ IMs σ σ' ∧ ((b = 0 ∧ ∀ Q, GQ n τ Q → ¬ IQ n (σ.2 25) Q) ∨ (b = 1 ∧ IS1 n (σ'.2 25) ∧ IS2 n τ p (σ'.2 25) ∧ (∀ r, r < n → σ.2 25 r ≠ -1 → σ'.2 25 r = σ.2 25 r) ∧ ∀ Q, GQ n τ Q → IQ n (σ.2 25) Q → IQ n (σ'.2 25) Q)) := by
  have hle := hF.le
  have hne : σ.2 25 p ≠ -1 := by rw [hI]; exact ni_ne (by omega)
  unfold P_X1_handOn
  rw [lt_def, kind_in hF hp, kind_in hF hg]
  rcases kinds_let (hF.ent hp).kn with hl | hl
  · rw [letS_y hl, if_neg i10]
    refine ⟨1, σ, rfl, IMs.rf, Or.inr ⟨rfl, h1, fun r hr hr2 g2 hg2 e2 => ?_, fun _ _ _ => rfl, fun Q _ h => h⟩⟩
    rcases Nat.eq_or_lt_of_le hr with rfl | hr
    · exact Or.inl hl
    · exact h2 r hr hr2 g2 hg2 e2
  · have hnl : ¬ letK (Kn τ p) := fun h => let_not h hl
    rw [letS_n hl, if_pos rfl]
    by_cases hk : Kn τ g = Kn τ p
    · rw [if_pos hk, left_in hF hp, left_in hF hg]
      obtain ⟨b, s1, e1, k1, q1⟩ := setI_ok hF (v := Lf τ p) (Lf τ g) ((part_l hF hp).imp id fun ⟨a, ha, e⟩ => ⟨a, by omega, e⟩)
      rw [e1, bd_some]
      rcases q1 with ⟨rfl, a1, a2, a3⟩ | ⟨rfl, a, ha, a1, a2, a3⟩
      · rw [if_neg i10, right_in (k1.fw hF) hp, right_in (k1.fw hF) hg]
        obtain ⟨b, s2, e2, k2, q2⟩ := setI_ok (k1.fw hF) (v := Rt τ p) (Rt τ g) ((part_r hF hp).imp id fun ⟨a, ha, e⟩ => ⟨a, by omega, e⟩)
        rw [e2, bd_some]
        rcases q2 with ⟨rfl, c1, c2, c3⟩ | ⟨rfl, c, hc, c1, c2, c3⟩
        · rw [if_neg i10]
          have mono : ∀ r, r < n → σ.2 25 r ≠ -1 → s2.2 25 r = σ.2 25 r := fun r hr hr2 => by
            rw [c1 r hr (by rw [a1 r hr hr2]; exact hr2), a1 r hr hr2]
          have keepL : ∀ a, a < n → Lf τ p = nI a → s2.2 25 a = Lf τ g := fun a ha h => by
            obtain ⟨c, hc, ec⟩ := same_l hF hp hg hk ha h
            rw [c1 a ha (by rw [a3 a ha h, ec]; exact ni_ne (by omega)), a3 a ha h]
          refine ⟨1, s2, rfl, k1.tr k2, Or.inr ⟨rfl, fun r hr => ?_, fun r hr hr2 g2 hg2 e2 => ?_, mono, fun Q hQ hIQ r hr hr2 => ?_⟩⟩
          · rcases c2 r hr with h | ⟨hv, h⟩
            · rw [h]
              rcases a2 r hr with h | ⟨hv, h⟩
              · rw [h]; exact h1 r hr
              · rw [h]
                obtain ⟨c, hc, ec⟩ := same_l hF hp hg hk hr hv
                exact Or.inr ⟨c, hc, ec⟩
            · rw [h]
              obtain ⟨c, hc, ec⟩ := same_r hF hp hg hk hr hv
              exact Or.inr ⟨c, hc, ec⟩
          · rcases Nat.eq_or_lt_of_le hr with rfl | hr
            · rw [mono p hp hne, hI, ni_eq (by omega) (by omega)] at e2
              subst e2
              exact Or.inr ⟨hk, keepL, c3⟩
            · have e3 : σ.2 25 r = nI g2 := by
                rcases c2 r hr2 with h | ⟨hv, h⟩
                · rw [h] at e2
                  rcases a2 r hr2 with h | ⟨hv, h⟩
                  · rw [h] at e2; exact e2
                  · rcases part_l hF hp with e | ⟨a, ha, e⟩
                    · rw [e] at hv; exact absurd hv.symm (ni_ne (by omega))
                    · rw [e, ni_eq (by omega) (by omega)] at hv; omega
                · rcases part_r hF hp with e | ⟨a, ha, e⟩
                  · rw [e] at hv; exact absurd hv.symm (ni_ne (by omega))
                  · rw [e, ni_eq (by omega) (by omega)] at hv; omega
              rcases h2 r hr hr2 g2 hg2 e3 with h | ⟨h, hL, hR⟩
              · exact Or.inl h
              · refine Or.inr ⟨h, fun a ha ea => ?_, fun a ha ea => ?_⟩
                · obtain ⟨c, hc, ec⟩ := same_l hF hr2 hg2 h ha ea
                  rw [mono a ha (by rw [hL a ha ea, ec]; exact ni_ne (by omega)), hL a ha ea]
                · obtain ⟨c, hc, ec⟩ := same_r hF hr2 hg2 h ha ea
                  rw [mono a ha (by rw [hR a ha ea, ec]; exact ni_ne (by omega)), hR a ha ea]
          · obtain ⟨g', hg', eg, hh⟩ := hQ.2 p _ hp (hIQ p hp hne)
            rw [hI, ni_eq (by omega) (by omega)] at eg
            subst eg
            rcases hh with hh | ⟨-, hL, hR⟩
            · exact absurd hh hnl
            · rcases c2 r hr with h | ⟨hv, h⟩
              · rw [h] at hr2 ⊢
                rcases a2 r hr with h | ⟨hv, h⟩
                · rw [h] at hr2 ⊢; exact hIQ r hr hr2
                · rw [h]; exact hL r hr hv
              · rw [h]; exact hR r hr hv
        · rw [if_pos rfl]
          refine ⟨0, s2, rfl, k1.tr k2, Or.inl ⟨rfl, fun Q hQ hIQ => ?_⟩⟩
          obtain ⟨g', hg', eg, hh⟩ := hQ.2 p _ hp (hIQ p hp hne)
          rw [hI, ni_eq (by omega) (by omega)] at eg
          subst eg
          rcases hh with hh | ⟨-, hL, hR⟩
          · exact hnl hh
          · refine c3 (hQ.1 c _ _ hc ?_ (hR c hc c1))
            rcases a2 c hc with h | ⟨hv, h⟩
            · rw [h] at c2 ⊢; exact hIQ c hc c2
            · rw [h]; exact hL c hc hv
      · rw [if_pos rfl]
        refine ⟨0, s1, rfl, k1, Or.inl ⟨rfl, fun Q hQ hIQ => ?_⟩⟩
        obtain ⟨g', hg', eg, hh⟩ := hQ.2 p _ hp (hIQ p hp hne)
        rw [hI, ni_eq (by omega) (by omega)] at eg
        subst eg
        rcases hh with hh | ⟨-, hL, hR⟩
        · exact hnl hh
        · exact a3 (hQ.1 a _ _ ha (hIQ a ha a2) (hL a ha a1))
    · rw [if_neg hk]
      refine ⟨0, σ, rfl, IMs.rf, Or.inl ⟨rfl, fun Q hQ hIQ => ?_⟩⟩
      obtain ⟨g', hg', eg, hh⟩ := hQ.2 p _ hp (hIQ p hp hne)
      rw [hI, ni_eq (by omega) (by omega)] at eg
      subst eg
      rcases hh with hh | ⟨hh, -⟩
      · exact hnl hh
      · exact hk hh
/-- what a search among images ends with -/
def MtE (n : Nat) (τ : MS) (I : Nat → Int32) (b : Int32) (J : Nat → Int32) : Prop := (b = 0 ∧ ∀ Q, GQ n τ Q → ¬ IQ n I Q) ∨ (b = 1 ∧ IS1 n J ∧ IS2 n τ 0 J ∧ (∀ r, r < n → I r ≠ -1 → J r = I r) ∧ ∀ Q, GQ n τ Q → IQ n I Q → IQ n J Q)
theorem mt_loop : ∀ (k N : Nat) (s : DS), k ≤ n → k < N → FW n s τ → IS1 n (s.2 25) → IS2 n τ k (s.2 25) → ∃ b s', L_X1_matches_71 N s (nI k - 1) = some (.inl b, s') ∧ IMs s s' ∧ MtE n τ (s.2 25) b (s'.2 25) := by
  intro k
  induction k with
  | zero =>
    intro N s hk hN hF h1 h2
    obtain ⟨N, rfl⟩ : ∃ M, N = M + 1 := ⟨N - 1, by omega⟩
    refine ⟨1, s, ?_, IMs.rf, Or.inr ⟨rfl, h1, h2, fun _ _ _ => rfl, fun Q _ h => h⟩⟩
    show B_X1_matches_71 _ s (nI 0 - 1) = _
    unfold B_X1_matches_71
    rw [if_pos (by decide)]
  | succ k ih =>
    intro N s hk hN hF h1 h2
    have hle := hF.le
    obtain ⟨N, rfl⟩ : ∃ M, N = M + 1 := ⟨N - 1, by omega⟩
    have e0 : L_X1_matches_71 (N + 1) s (nI (k + 1) - 1) = (if s.2 25 k = -1 then L_X1_matches_71 N s (nI k - 1) else bd (P_X1_handOn s (nI k) (s.2 25 k)) fun r101 s101 => (if r101 = 0 then some (.inl (0 : Int32), s101) else L_X1_matches_71 N s101 (nI k - 1))) := by
      rw [nI_pred]
      show B_X1_matches_71 _ s (nI k) = _
      unfold B_X1_matches_71
      simp only [lt_def]
      rw [if_neg (nI_pos (by omega)), rat_in (by omega) (by decide), ni_am1]
    rw [e0]
    rcases h1 k (by omega) with hI | ⟨g, hg, hI⟩
    · rw [if_pos hI]
      refine ih N s (by omega) (by omega) hF h1 fun p hp hp2 g hg e => ?_
      rcases Nat.eq_or_lt_of_le hp with rfl | hp
      · rw [hI] at e; exact absurd e.symm (ni_ne (by omega))
      · exact h2 p hp hp2 g hg e
    · rw [if_neg (by rw [hI]; exact ni_ne (by omega)), hI]
      obtain ⟨b, s1, e1, k1, q1⟩ := hand_ok hF (show k < n by omega) hg h1 h2 hI
      rw [e1, bd_some]
      rcases q1 with ⟨rfl, q1⟩ | ⟨rfl, q1, q2, q3, q4⟩
      · rw [if_pos rfl]
        exact ⟨0, s1, rfl, k1, Or.inl ⟨rfl, q1⟩⟩
      · rw [if_neg i10]
        obtain ⟨b, s2, e2, k2, u⟩ := ih N s1 (by omega) (by omega) (k1.fw hF) q1 q2
        refine ⟨b, s2, e2, k1.tr k2, ?_⟩
        rcases u with ⟨rfl, u⟩ | ⟨rfl, u1, u2, u3, u4⟩
        · exact Or.inl ⟨rfl, fun Q hQ hIQ => u Q hQ (q4 Q hQ hIQ)⟩
        · exact Or.inr ⟨rfl, u1, u2, fun r hr hr2 => by rw [u3 r hr (by rw [q3 r hr hr2]; exact hr2), q3 r hr hr2], fun Q hQ hIQ => u4 Q hQ (q4 Q hQ hIQ)⟩
/-- the images make a good relation -/
theorem IS.gq {I : Nat → Int32} (h1 : IS1 n I) (h2 : IS2 n τ 0 I) (hF : FW n σ τ) : GQ n τ (fun p f => p < n ∧ f ≠ -1 ∧ I p = f) := by
  have hle := hF.le
  refine ⟨fun p f f' _ h h' => h.2.2.symm.trans h'.2.2, fun p f hp h => ?_⟩
  obtain ⟨-, h3, h4⟩ := h
  rcases h1 p hp with e | ⟨g, hg, e⟩
  · exact absurd (h4.symm.trans e) h3
  · refine ⟨g, hg, h4.symm.trans e, ?_⟩
    rcases h2 p (Nat.zero_le _) hp g hg e with h | ⟨h, hL, hR⟩
    · exact Or.inl h
    · refine Or.inr ⟨h, fun a ha ea => ⟨ha, ?_, hL a ha ea⟩, fun a ha ea => ⟨ha, ?_, hR a ha ea⟩⟩
      · obtain ⟨c, hc, ec⟩ := same_l hF hp hg h ha ea
        rw [ec]; exact ni_ne (by omega)
      · obtain ⟨c, hc, ec⟩ := same_r hF hp hg h ha ea
        rw [ec]; exact ni_ne (by omega)
end MATCH
