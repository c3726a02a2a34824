/-! AN INSTANCE IS MATCHED: the reference -/
/-- p becomes f when the letters become what R says -/
def Mt (n : Nat) (τ : MS) (R : Nat → Int32) : Nat → Nat → Int32 → Prop
  | 0, _, _ => False
  | h + 1, p, f => ∃ g, g < n ∧ f = nI g ∧ ((letK (Kn τ p) ∧ R (Kn τ p - 97).toNatClampNeg = f) ∨ (¬ letK (Kn τ p) ∧ Kn τ g = Kn τ p ∧ (∀ a, a < n → Lf τ p = nI a → Mt n τ R h a (Lf τ g)) ∧ ∀ b, b < n → Rt τ p = nI b → Mt n τ R h b (Rt τ g)))
/-- only the letters' formulas have changed -/
def RPt (τ τ' : MS) : Prop := τ'.1 = τ.1 ∧ (∀ k, k ≠ 16 → τ'.2.1 k = τ.2.1 k) ∧ τ'.2.2 = τ.2.2
def RQ (n : Nat) (τ : MS) (R : Nat → Int32) (Q : Nat → Int32 → Prop) : Prop := ∀ k, k < 5 → R k ≠ -1 → ∀ g, g < n → Kn τ g = 97 + nI k → Q g (R k)
section FITS
variable {n m q e : Nat} {σ : DS} {τ : MS}
theorem RPt.rf : RPt τ τ := ⟨rfl, fun _ _ => rfl, rfl⟩
theorem RPt.tr {τ1 τ2 : MS} (h1 : RPt τ τ1) (h2 : RPt τ1 τ2) : RPt τ τ2 := ⟨h2.1.trans h1.1, fun k hk => (h2.2.1 k hk).trans (h1.2.1 k hk), h2.2.2.trans h1.2.2⟩
theorem RPt.fw {τ' : MS} (h : RPt τ τ') (hF : FW n σ τ) : FW n σ τ' := hF.scr rfl (fun _ _ => rfl) (by rw [h.1]) (fun k hk => h.2.1 k (by omega))
theorem RPt.rw9 {τ' : MS} (h : RPt τ τ') (hR : RW n m q e σ τ) : RW n m q e σ τ' := hR.of (Nat.le_refl n) PPs.rf ⟨fun k _ _ => by rw [h.1], fun k _ _ => h.2.1 k (by omega), h.2.2⟩
theorem Mt.mono {R R' : Nat → Int32} (hR : ∀ k, R k ≠ -1 → R' k = R k) (hn : n ≤ 150) : ∀ {h p : Nat} {f : Int32}, Mt n τ R h p f → Mt n τ R' h p f
  | 0, _, _, q => q.elim
  | h + 1, p, f, ⟨g, hg, e, q⟩ => by
    refine ⟨g, hg, e, ?_⟩
    rcases q with ⟨q1, q2⟩ | ⟨q1, q2, q3, q4⟩
    · exact Or.inl ⟨q1, by rw [hR _ (by rw [q2, e]; exact ni_ne (by omega)), q2]⟩
    · exact Or.inr ⟨q1, q2, fun a ha ea => Mt.mono hR hn (q3 a ha ea), fun a ha ea => Mt.mono hR hn (q4 a ha ea)⟩
theorem Mt.det (hF : FW n σ τ) {R : Nat → Int32} : ∀ {h h' p : Nat} {f f' : Int32}, p < n → Mt n τ R h p f → Mt n τ R h' p f' → f = f'
  | 0, _, _, _, _, _, q, _ => q.elim
  | h + 1, 0, _, _, _, _, _, q => q.elim
  | h + 1, h' + 1, p, f, f', hp, ⟨g, hg, e, q⟩, ⟨g', hg', e', q'⟩ => by
    have hle := hF.le
    rcases q with ⟨q1, q2⟩ | ⟨q1, q2, q3, q4⟩ <;> rcases q' with ⟨r1, r2⟩ | ⟨r1, r2, r3, r4⟩
    · exact q2.symm.trans r2
    · exact absurd q1 r1
    · exact absurd r1 q1
    · rw [e, e']
      congr 1
      refine hF.2.2.2.2 g g' hg hg' (q2.trans r2.symm) ?_ ?_
      · rcases part_l hF hp with el | ⟨a, ha, el⟩
        · rcases part_l hF hg with e1 | ⟨c, hc, e1⟩
          · rcases part_l hF hg' with e2 | ⟨c2, hc2, e2⟩
            · rw [e1, e2]
            · obtain ⟨c, hc, ec⟩ := same_l hF hg' hp r2.symm (show c2 < n by omega) e2
              rw [el] at ec; exact absurd ec.symm (ni_ne (by omega))
          · obtain ⟨c, hc, ec⟩ := same_l hF hg hp q2.symm (show c < n by omega) e1
            rw [el] at ec; exact absurd ec.symm (ni_ne (by omega))
        · exact Mt.det hF (show a < n by omega) (q3 a (by omega) el) (r3 a (by omega) el)
      · rcases part_r hF hp with el | ⟨a, ha, el⟩
        · rcases part_r hF hg with e1 | ⟨c, hc, e1⟩
          · rcases part_r hF hg' with e2 | ⟨c2, hc2, e2⟩
            · rw [e1, e2]
            · obtain ⟨c, hc, ec⟩ := same_r hF hg' hp r2.symm (show c2 < n by omega) e2
              rw [el] at ec; exact absurd ec.symm (ni_ne (by omega))
          · obtain ⟨c, hc, ec⟩ := same_r hF hg hp q2.symm (show c < n by omega) e1
            rw [el] at ec; exact absurd ec.symm (ni_ne (by omega))
        · exact Mt.det hF (show a < n by omega) (q4 a (by omega) el) (r4 a (by omega) el)
theorem Mt.gq (hF : FW n σ τ) (R : Nat → Int32) : GQ n τ (fun p f => ∃ h, Mt n τ R h p f) := by
  refine ⟨fun p f f' hp h h' => ?_, fun p f hp h => ?_⟩
  · obtain ⟨k, h⟩ := h
    obtain ⟨k', h'⟩ := h'
    exact Mt.det hF hp h h'
  · obtain ⟨k, h⟩ := h
    cases k with
    | zero => exact h.elim
    | succ k =>
      obtain ⟨g, hg, e, q⟩ := h
      refine ⟨g, hg, e, ?_⟩
      rcases q with ⟨q1, q2⟩ | ⟨q1, q2, q3, q4⟩
      · exact Or.inl q1
      · exact Or.inr ⟨q2, fun a ha ea => ⟨k, q3 a ha ea⟩, fun a ha ea => ⟨k, q4 a ha ea⟩⟩
/-- a leaf's kind tells it -/
theorem leaf_uni (hF : FW n σ τ) {p g : Nat} (hp : p < n) (hg : g < n) (hl : leafK (Kn τ p)) (hk : Kn τ g = Kn τ p) : g = p := by
  have one : ∀ {r : Nat}, r < n → leafK (Kn τ r) → Lf τ r = -1 ∧ Rt τ r = -1 := fun {r} hr hl => by
    rcases (hF.ent hr).sh with ⟨-, e, e'⟩ | ⟨a, k, -, -, -⟩ | ⟨a, b, k, -, -, -, -⟩
    · exact ⟨e, e'⟩
    · rw [k] at hl; rcases hl with h | h | h | h | h | h <;> exact absurd h (by decide)
    · rcases k with k | k | k <;> rw [k] at hl <;> rcases hl with h | h | h | h | h | h <;> exact absurd h (by decide)
  obtain ⟨e1, e2⟩ := one hp hl
  obtain ⟨e3, e4⟩ := one hg (by rw [hk]; exact hl)
  exact hF.2.2.2.2 g p hg hp hk (e3.trans e1.symm) (e4.trans e2.symm)
theorem let_leaf {c : Int32} (h : letK c) : leafK c := by
  rcases h with h | h | h | h | h
  · exact Or.inl h
  · exact Or.inr (Or.inl h)
  · exact Or.inr (Or.inr (Or.inl h))
  · exact Or.inr (Or.inr (Or.inr (Or.inl h)))
  · exact Or.inr (Or.inr (Or.inr (Or.inr (Or.inl h))))
/-- the recursion, said shorter -/
def fitR (self : MS → Int32 → Int32 → Res MS Int32) (l r l' r' : Int32) (τ : MS) : Res MS Int32 := bd (if l = -1 then some (.inl 1, τ) else self τ l l') fun r104 s104 => (if r104 = 0 then some (.inl 0, s104) else if r = -1 then some (.inl 1, s104) else bd (self s104 r r') fun r143 s143 => (if r143 = 0 then some (.inl 0, s143) else some (.inl 1, s143)))
/-- what a fitting ends with -/
def FtE (n : Nat) (τ : MS) (R : Nat → Int32) (p : Nat) (f : Int32) (b : Int32) (R' : Nat → Int32) : Prop := (b = 0 ∧ ∀ Q, GQ n τ Q → RQ n τ R Q → ¬ Q p f) ∨ (b = 1 ∧ (∃ h, Mt n τ R' h p f) ∧ (∀ k, R k ≠ -1 → R' k = R k) ∧ ∀ Q, GQ n τ Q → RQ n τ R Q → Q p f → RQ n τ R' Q)
theorem fits_let (hF : FW n σ τ) (self : MS → Int32 → Int32 → Res MS Int32) {p g : Nat} (hp : p < n) (hg : g < n) (hl : letK (Kn τ p)) : ∃ b τ', D_X7_fits self τ (nI p) (nI g) = some (.inl b, τ') ∧ RPt τ τ' ∧ FtE n τ (τ.2.1 16) p (nI g) b (τ'.2.1 16) := by
  have hle := hF.le
  obtain ⟨k, hk, ek, ek2⟩ := letK_ix hl
  have e0 : D_X7_fits self τ (nI p) (nI g) = (if τ.2.1 16 k = -1 then (lt (tA τ 16 (upd (τ.2.1 16) k (nI g))) fun s47 => (if (s47.2.1 16 k) = nI g then (some (.inl (1 : Int32), s47)) else (some (.inl (0 : Int32), s47)))) else (lt (tA τ 16 (upd (τ.2.1 16) k (τ.2.1 16 k))) fun s47 => (if (s47.2.1 16 k) = nI g then (some (.inl (1 : Int32), s47)) else (some (.inl (0 : Int32), s47))))) := by
    unfold D_X7_fits
    simp only [gd_in (show p < 150 by omega) (by decide : (150 : Nat) < 2147483648), gd_in (show g < 150 by omega) (by decide : (150 : Nat) < 2147483648), ni_cl (show p < 2147483648 by omega), ni_cl (show g < 2147483648 by omega)]
    rw [show τ.2.1 0 p = Kn τ p from rfl, letT_y hl, if_neg i10, lt_def, ek]
    simp only [gd_in hk (by decide : (5 : Nat) < 2147483648), ni_cl (show k < 2147483648 by omega)]
  rw [e0]
  have hR16 : ∀ x, (tA τ 16 (upd (τ.2.1 16) k x)).2.1 16 = upd (τ.2.1 16) k x := fun x => by rw [tA2, if_pos rfl]
  have k16 : ∀ x, RPt τ (tA τ 16 (upd (τ.2.1 16) k x)) := fun x => ⟨rfl, fun j hj => by rw [tA2, if_neg hj], rfl⟩
  have hkk : (Kn τ p - 97).toNatClampNeg = k := by rw [ek, ni_cl (by omega)]
  by_cases h1 : τ.2.1 16 k = -1
  · rw [if_pos h1, lt_def, hR16, upd_eq, if_pos rfl]
    refine ⟨1, _, rfl, k16 _, Or.inr ⟨rfl, ⟨1, g, hg, rfl, Or.inl ⟨hl, by rw [hkk, hR16, upd_eq]⟩⟩, fun j hj => ?_, fun Q hQ hRQ hq j hj hj2 g2 hg2 e2 => ?_⟩⟩
    · rw [hR16]
      by_cases h : j = k
      · subst h; exact absurd h1 hj
      · exact upd_ne _ h _
    · rw [hR16] at hj2 ⊢
      by_cases h : j = k
      · subst h
        rw [upd_eq]
        have := leaf_uni hF hp hg2 (let_leaf hl) (e2.trans ek2.symm)
        rw [this]
        exact hq
      · rw [upd_ne _ h] at hj2 ⊢
        exact hRQ j hj hj2 g2 hg2 e2
  · rw [if_neg h1, lt_def, hR16, upd_eq]
    have hsame : upd (τ.2.1 16) k (τ.2.1 16 k) = τ.2.1 16 := by
      funext j
      by_cases h : j = k
      · subst h; exact upd_eq _ _ _
      · exact upd_ne _ h _
    by_cases h2 : τ.2.1 16 k = nI g
    · rw [if_pos h2]
      refine ⟨1, _, rfl, k16 _, Or.inr ⟨rfl, ⟨1, g, hg, rfl, Or.inl ⟨hl, by rw [hkk, hR16, upd_eq]; exact h2⟩⟩, fun j hj => by rw [hR16, hsame], fun Q hQ hRQ hq => by rw [hR16, hsame]; exact hRQ⟩⟩
    · rw [if_neg h2]
      refine ⟨0, _, rfl, k16 _, Or.inl ⟨rfl, fun Q hQ hRQ hq => h2 (hQ.1 p _ _ hp (hRQ k hk h1 p hp ek2) hq)⟩⟩
theorem fits_op (hF : FW n σ τ) (self : MS → Int32 → Int32 → Res MS Int32) {p g : Nat} (hp : p < n) (hg : g < n) (hl : ¬ letK (Kn τ p)) (hself : Kn τ p = Kn τ g → Lf τ p ≠ -1 → ∀ b s', self τ (Lf τ p) (Lf τ g) = some (.inl b, s') → RPt τ s') : D_X7_fits self τ (nI p) (nI g) = if Kn τ p = Kn τ g then fitR self (Lf τ p) (Rt τ p) (Lf τ g) (Rt τ g) τ else some (.inl 0, τ) := by
  have hle := hF.le
  have hl' : Kn τ p = 70 ∨ Kn τ p = 78 ∨ binK (Kn τ p) := by
    rcases kinds_let (hF.ent hp).kn with h | h
    · exact absurd h hl
    · exact h
  unfold D_X7_fits fitR
  simp only [gd_in (show p < 150 by omega) (by decide : (150 : Nat) < 2147483648), gd_in (show g < 150 by omega) (by decide : (150 : Nat) < 2147483648), ni_cl (show p < 2147483648 by omega), ni_cl (show g < 2147483648 by omega), lt_def]
  rw [show τ.2.1 0 p = Kn τ p from rfl, letT_n hl', if_pos rfl, show τ.2.1 0 g = Kn τ g from rfl, show τ.2.1 1 p = Lf τ p from rfl, show τ.2.1 1 g = Lf τ g from rfl, show τ.2.1 2 p = Rt τ p from rfl, show τ.2.1 2 g = Rt τ g from rfl]
  by_cases hk : Kn τ p = Kn τ g
  · rw [if_pos hk, if_pos hk]
    by_cases h1 : Lf τ p = -1
    · rw [if_pos h1, if_pos h1, if_neg i10, bd_some, if_neg i10]
    · rw [if_neg h1, if_neg h1]
      cases hx : self τ (Lf τ p) (Lf τ g) with
      | none => rfl
      | some rr =>
        obtain ⟨r | E, s⟩ := rr
        · have kk := hself hk h1 _ _ hx
          rw [bd_some, bd_some]
          rw [show s.2.1 2 p = Rt τ p by rw [kk.2.1 2 (by decide)], show s.2.1 2 g = Rt τ g by rw [kk.2.1 2 (by decide)]]
          by_cases hr : r = 0
          · rw [if_pos hr, if_pos (by decide), if_pos hr]
          · rw [if_neg hr, if_neg i10, if_neg hr]
        · rfl
  · rw [if_neg hk, if_neg hk]
theorem Mt.ext {τ' : MS} {R : Nat → Int32} (h : RPt τ τ') : ∀ {k p : Nat} {f : Int32}, Mt n τ R k p f → Mt n τ' R k p f
  | 0, _, _, q => q.elim
  | k + 1, p, f, ⟨g, hg, e, q⟩ => by
    have e0 : ∀ r, Kn τ' r = Kn τ r := fun r => by show τ'.2.1 0 r = _; rw [h.2.1 0 (by decide)]
    have e1 : ∀ r, Lf τ' r = Lf τ r := fun r => by show τ'.2.1 1 r = _; rw [h.2.1 1 (by decide)]
    have e2 : ∀ r, Rt τ' r = Rt τ r := fun r => by show τ'.2.1 2 r = _; rw [h.2.1 2 (by decide)]
    refine ⟨g, hg, e, ?_⟩
    rw [e0, e0, e1, e2, e1, e2]
    rcases q with q | ⟨q1, q2, q3, q4⟩
    · exact Or.inl q
    · exact Or.inr ⟨q1, q2, fun a ha ea => Mt.ext h (q3 a ha ea), fun a ha ea => Mt.ext h (q4 a ha ea)⟩
theorem RPt.sy {τ' : MS} (h : RPt τ τ') : RPt τ' τ := ⟨h.1.symm, fun k hk => (h.2.1 k hk).symm, h.2.2.symm⟩
theorem GQ.ext {τ' : MS} (h : RPt τ τ') {Q : Nat → Int32 → Prop} (hQ : GQ n τ Q) : GQ n τ' Q := by
  have e0 : ∀ r, Kn τ' r = Kn τ r := fun r => by show τ'.2.1 0 r = _; rw [h.2.1 0 (by decide)]
  have e1 : ∀ r, Lf τ' r = Lf τ r := fun r => by show τ'.2.1 1 r = _; rw [h.2.1 1 (by decide)]
  have e2 : ∀ r, Rt τ' r = Rt τ r := fun r => by show τ'.2.1 2 r = _; rw [h.2.1 2 (by decide)]
  refine ⟨hQ.1, fun p f hp hq => ?_⟩
  obtain ⟨g, hg, eg, q⟩ := hQ.2 p f hp hq
  refine ⟨g, hg, eg, ?_⟩
  rw [e0, e0, e1, e2, e1, e2]
  exact q
theorem RQ.ext {τ' : MS} (h : RPt τ τ') {R : Nat → Int32} {Q : Nat → Int32 → Prop} (hQ : RQ n τ R Q) : RQ n τ' R Q := fun k hk hk2 g hg e => hQ k hk hk2 g hg (by
  have e0 : Kn τ' g = Kn τ g := by show τ'.2.1 0 g = _; rw [h.2.1 0 (by decide)]
  exact e0.symm.trans e)
theorem fits_ok : ∀ (h : Nat) (p g N : Nat) (w : List Int32) (τ : MS), Sw τ h p w → h ≤ N → FW n σ τ → p < n → g < n → ∃ b τ', P_X7_fits N τ (nI p) (nI g) = some (.inl b, τ') ∧ RPt τ τ' ∧ FtE n τ (τ.2.1 16) p (nI g) b (τ'.2.1 16) := by
  intro h
  induction h with
  | zero => intro p g N w τ q; exact q.elim
  | succ h ih =>
    intro p g N w τ hs hN hF hp hg
    have hle := hF.le
    obtain ⟨N, rfl⟩ : ∃ M, N = M + 1 := ⟨N - 1, by omega⟩
    by_cases hl : letK (Kn τ p)
    · exact fits_let hF (P_X7_fits N) hp hg hl
    · show ∃ b τ', D_X7_fits (P_X7_fits N) τ (nI p) (nI g) = some (.inl b, τ') ∧ _
      by_cases hk : Kn τ p = Kn τ g
      · -- the left part
        have left : ∃ b τ1, (if Lf τ p = -1 then (some (.inl 1, τ) : Res MS Int32) else P_X7_fits N τ (Lf τ p) (Lf τ g)) = some (.inl b, τ1) ∧ RPt τ τ1 ∧ ((b = 0 ∧ ∀ Q, GQ n τ Q → RQ n τ (τ.2.1 16) Q → ¬ Q p (nI g)) ∨ (b = 1 ∧ (∃ k, ∀ a, a < n → Lf τ p = nI a → Mt n τ (τ1.2.1 16) k a (Lf τ g)) ∧ (∀ k, τ.2.1 16 k ≠ -1 → τ1.2.1 16 k = τ.2.1 16 k) ∧ ∀ Q, GQ n τ Q → RQ n τ (τ.2.1 16) Q → Q p (nI g) → RQ n τ (τ1.2.1 16) Q)) := by
          by_cases h1 : Lf τ p = -1
          · rw [if_pos h1]
            exact ⟨1, τ, rfl, RPt.rf, Or.inr ⟨rfl, ⟨0, fun a ha ea => absurd (ea.symm.trans h1) (ni_ne (by omega))⟩, fun _ _ => rfl, fun Q _ h _ => h⟩⟩
          · rw [if_neg h1]
            have : ∃ a u, a < p ∧ Lf τ p = nI a ∧ Sw τ h a u := by
              rcases hs with ⟨k, l, r, -⟩ | ⟨a, u, k, ha, l, r, z, -⟩ | ⟨a, b, u, v, k, ha, hb, l, r, z, z', -⟩
              · exact absurd l h1
              · exact ⟨a, u, ha, l, z⟩
              · exact ⟨a, u, ha, l, z⟩
            obtain ⟨a, u, ha, ea, z⟩ := this
            obtain ⟨c, hc, ec⟩ := same_l hF hp hg hk.symm (show a < n by omega) ea
            rw [ea, ec]
            obtain ⟨b, τ1, e1, k1, q⟩ := ih a c N u τ z (by omega) hF (by omega) hc
            have cl : ∀ Q, GQ n τ Q → Q p (nI g) → Q a (nI c) := fun Q hQ hq => by
              obtain ⟨g', hg', eg, hh⟩ := hQ.2 p _ hp hq
              rw [ni_eq (by omega) (by omega)] at eg
              subst eg
              rcases hh with hh | ⟨-, hL, -⟩
              · exact absurd hh hl
              · rw [← ec]; exact hL a (by omega) ea
            refine ⟨b, τ1, e1, k1, ?_⟩
            rcases q with ⟨rfl, q⟩ | ⟨rfl, ⟨k, q1⟩, q2, q3⟩
            · exact Or.inl ⟨rfl, fun Q hQ hRQ hq => q Q hQ hRQ (cl Q hQ hq)⟩
            · refine Or.inr ⟨rfl, ⟨k, fun a' ha' ea' => ?_⟩, q2, fun Q hQ hRQ hq => q3 Q hQ hRQ (cl Q hQ hq)⟩
              rw [ni_eq (by omega) (by omega)] at ea'
              subst ea'
              exact q1
        obtain ⟨b, τ1, e1, k1, q⟩ := left
        rw [fits_op hF (P_X7_fits N) hp hg hl (fun _ hne b9 s9 h9 => by
          rw [if_neg hne, h9] at e1
          cases e1
          exact k1), if_pos hk]
        unfold fitR
        rw [e1, bd_some]
        rcases q with ⟨rfl, q⟩ | ⟨rfl, ⟨j1, q1⟩, q2, q3⟩
        · rw [if_pos rfl]
          exact ⟨0, τ1, rfl, k1, Or.inl ⟨rfl, q⟩⟩
        · rw [if_neg i10]
          have hup : ∀ {j j' : Nat} {R : Nat → Int32} {a : Nat} {f : Int32}, j ≤ j' → Mt n τ R j a f → Mt n τ R j' a f := fun {j j'} {R} {a} {f} hj q => by
            induction j generalizing j' a f with
            | zero => exact q.elim
            | succ j ihj =>
              obtain ⟨j', rfl⟩ : ∃ M, j' = M + 1 := ⟨j' - 1, by omega⟩
              obtain ⟨g', hg', eg, q⟩ := q
              refine ⟨g', hg', eg, ?_⟩
              rcases q with q | ⟨r1, r2, r3, r4⟩
              · exact Or.inl q
              · exact Or.inr ⟨r1, r2, fun a ha ea => ihj (by omega) (r3 a ha ea), fun a ha ea => ihj (by omega) (r4 a ha ea)⟩
          by_cases h1 : Rt τ p = -1
          · rw [if_pos h1]
            exact ⟨1, τ1, rfl, k1, Or.inr ⟨rfl, ⟨j1 + 1, g, hg, rfl, Or.inr ⟨hl, hk.symm, q1, fun b hb eb => absurd (eb.symm.trans h1) (ni_ne (by omega))⟩⟩, q2, q3⟩⟩
          · rw [if_neg h1]
            have : ∃ a u, a < p ∧ Rt τ p = nI a ∧ Sw τ h a u := by
              rcases hs with ⟨k, l, r, -⟩ | ⟨a, u, k, ha, l, r, z, -⟩ | ⟨a, b, u, v, k, ha, hb, l, r, z, z', -⟩
              · exact absurd r h1
              · exact absurd r h1
              · exact ⟨b, v, hb, r, z'⟩
            obtain ⟨a, u, ha, ea, z⟩ := this
            obtain ⟨c, hc, ec⟩ := same_r hF hp hg hk.symm (show a < n by omega) ea
            rw [ea, ec]
            have z1 : Sw τ1 h a u := Sw.ext (n := 150) (fun f _ => by show τ1.2.1 0 f = _; rw [k1.2.1 0 (by decide)]) (fun f _ => by show τ1.2.1 1 f = _; rw [k1.2.1 1 (by decide)]) (fun f _ => by show τ1.2.1 2 f = _; rw [k1.2.1 2 (by decide)]) (by omega) z
            obtain ⟨b, τ2, e2, k2, r⟩ := ih a c N u τ1 z1 (by omega) (k1.fw hF) (by omega) hc
            have cl : ∀ Q, GQ n τ Q → Q p (nI g) → Q a (nI c) := fun Q hQ hq => by
              obtain ⟨g', hg', eg, hh⟩ := hQ.2 p _ hp hq
              rw [ni_eq (by omega) (by omega)] at eg
              subst eg
              rcases hh with hh | ⟨-, -, hR⟩
              · exact absurd hh hl
              · rw [← ec]; exact hR a (by omega) ea
            rw [e2, bd_some]
            rcases r with ⟨rfl, r⟩ | ⟨rfl, ⟨j2, r1⟩, r2, r3⟩
            · rw [if_pos rfl]
              exact ⟨0, τ2, rfl, k1.tr k2, Or.inl ⟨rfl, fun Q hQ hRQ hq => r Q (hQ.ext k1) ((q3 Q hQ hRQ hq).ext k1) (cl Q hQ hq)⟩⟩
            · rw [if_neg i10]
              refine ⟨1, τ2, rfl, k1.tr k2, Or.inr ⟨rfl, ⟨j1 + j2 + 1, g, hg, rfl, Or.inr ⟨hl, hk.symm, fun a' ha' ea' => ?_, fun b' hb' eb' => ?_⟩⟩, fun k hk => ?_, fun Q hQ hRQ hq => ?_⟩⟩
              · exact hup (by omega) (Mt.mono r2 hle (q1 a' ha' ea'))
              · rw [ea, ni_eq (by omega) (by omega)] at eb'
                subst eb'
                rw [ec]
                exact hup (Nat.le_add_left j2 j1) (Mt.ext k1.sy r1)
              · rw [r2 k (by rw [q2 k hk]; exact hk), q2 k hk]
              · exact (r3 Q (hQ.ext k1) ((q3 Q hQ hRQ hq).ext k1) (cl Q hQ hq)).ext k1.sy
      · rw [fits_op hF (P_X7_fits N) hp hg hl (fun hk' => absurd hk' hk), if_neg hk]
        refine ⟨0, τ, rfl, RPt.rf, Or.inl ⟨rfl, fun Q hQ hRQ hq => ?_⟩⟩
        obtain ⟨g', hg', eg, hh⟩ := hQ.2 p _ hp hq
        rw [ni_eq (by omega) (by omega)] at eg
        subst eg
        rcases hh with hh | ⟨hh, -⟩
        · exact hl hh
        · exact hk hh.symm
end FITS
