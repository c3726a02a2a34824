/-! THE FORMULAS: what both sides hold of them -/
abbrev Kn (τ : MS) (f : Nat) : Int32 := τ.2.1 0 f
abbrev Lf (τ : MS) (f : Nat) : Int32 := τ.2.1 1 f
abbrev Rt (τ : MS) (f : Nat) : Int32 := τ.2.1 2 f
abbrev Sz (τ : MS) (f : Nat) : Int32 := τ.2.1 3 f
abbrev Tb (τ : MS) (f : Nat) : Int32 := τ.2.1 4 f
/-- the word w is written by the formula f, of height h at most -/
def Sw (τ : MS) : Nat → Nat → List Int32 → Prop
  | 0, _, _ => False
  | h + 1, f, w => (leafK (Kn τ f) ∧ Lf τ f = -1 ∧ Rt τ f = -1 ∧ w = [Kn τ f]) ∨
    (∃ (a : Nat) (u : List Int32), Kn τ f = 78 ∧ a < f ∧ Lf τ f = nI a ∧ Rt τ f = -1 ∧ Sw τ h a u ∧ w = Kn τ f :: u) ∨
    (∃ (a b : Nat) (u v : List Int32), binK (Kn τ f) ∧ a < f ∧ b < f ∧ Lf τ f = nI a ∧ Rt τ f = nI b ∧ Sw τ h a u ∧ Sw τ h b v ∧ w = Kn τ f :: (u ++ v))
theorem Sw.mono {τ : MS} : ∀ {h h' f : Nat} {w : List Int32}, h ≤ h' → Sw τ h f w → Sw τ h' f w
  | 0, _, _, _, _, q => q.elim
  | h + 1, 0, _, _, hh, _ => absurd hh (by omega)
  | h + 1, h' + 1, f, w, hh, q => by
    rcases q with q | ⟨a, u, q1, q2, q3, q4, q5, q6⟩ | ⟨a, b, u, v, q1, q2, q3, q4, q5, q6, q7, q8⟩
    · exact Or.inl q
    · exact Or.inr (Or.inl ⟨a, u, q1, q2, q3, q4, Sw.mono (by omega) q5, q6⟩)
    · exact Or.inr (Or.inr ⟨a, b, u, v, q1, q2, q3, q4, q5, Sw.mono (by omega) q6, Sw.mono (by omega) q7, q8⟩)
theorem Sw.pos {τ : MS} {h f : Nat} {w : List Int32} (q : Sw τ h f w) : ∃ u : List Int32, w = Kn τ f :: u := by
  cases h with
  | zero => exact q.elim
  | succ h =>
    rcases q with ⟨-, -, -, q⟩ | ⟨a, u, -, -, -, -, -, q⟩ | ⟨a, b, u, v, -, -, -, -, -, -, -, q⟩
    · exact ⟨[], q⟩
    · exact ⟨_, q⟩
    · exact ⟨_, q⟩
theorem Sw.det {τ : MS} : ∀ {h h' f : Nat} {w w' : List Int32}, f < 2147483648 → Sw τ h f w → Sw τ h' f w' → w = w'
  | 0, _, _, _, _, _, q, _ => q.elim
  | h + 1, 0, _, _, _, _, _, q => q.elim
  | h + 1, h' + 1, f, w, w', hf, q, q' => by
    rcases q with ⟨k1, l1, r1, e1⟩ | ⟨a, u, k1, a1, l1, r1, s1, e1⟩ | ⟨a, b, u, v, k1, a1, b1, l1, r1, s1, t1, e1⟩ <;>
    rcases q' with ⟨k2, l2, r2, e2⟩ | ⟨a', u', k2, a2, l2, r2, s2, e2⟩ | ⟨a', b', u', v', k2, a2, b2, l2, r2, s2, t2, e2⟩
    · rw [e1, e2]
    · rw [l2] at l1; exact absurd l1 (by rw [ni_m1 (by omega)]; exact id)
    · rw [l2] at l1; exact absurd l1 (by rw [ni_m1 (by omega)]; exact id)
    · rw [l1] at l2; exact absurd l2 (by rw [ni_m1 (by omega)]; exact id)
    · rw [l1] at l2
      rw [ni_eq (by omega) (by omega)] at l2
      subst l2
      rw [e1, e2, Sw.det (by omega) s1 s2]
    · rw [r2] at r1; exact absurd r1 (by rw [ni_m1 (by omega)]; exact id)
    · rw [l1] at l2; exact absurd l2 (by rw [ni_m1 (by omega)]; exact id)
    · rw [r1] at r2; exact absurd r2 (by rw [ni_m1 (by omega)]; exact id)
    · rw [l1] at l2
      rw [ni_eq (by omega) (by omega)] at l2
      subst l2
      rw [r1] at r2
      rw [ni_eq (by omega) (by omega)] at r2
      subst r2
      rw [e1, e2, Sw.det (by omega) s1 s2, Sw.det (by omega) t1 t2]
/-- entries below n alike: the same words -/
theorem Sw.ext {τ τ' : MS} {n : Nat} (e0 : ∀ f, f < n → Kn τ' f = Kn τ f) (e1 : ∀ f, f < n → Lf τ' f = Lf τ f) (e2 : ∀ f, f < n → Rt τ' f = Rt τ f) : ∀ {h f : Nat} {w : List Int32}, f < n → Sw τ h f w → Sw τ' h f w
  | 0, _, _, _, q => q.elim
  | h + 1, f, w, hf, q => by
    rcases q with ⟨k1, l1, r1, q⟩ | ⟨a, u, k1, a1, l1, r1, s1, q⟩ | ⟨a, b, u, v, k1, a1, b1, l1, r1, s1, t1, q⟩
    · exact Or.inl ⟨by rw [e0 f hf]; exact k1, by rw [e1 f hf]; exact l1, by rw [e2 f hf]; exact r1, by rw [e0 f hf]; exact q⟩
    · exact Or.inr (Or.inl ⟨a, u, by rw [e0 f hf]; exact k1, a1, by rw [e1 f hf]; exact l1, by rw [e2 f hf]; exact r1, Sw.ext e0 e1 e2 (by omega) s1, by rw [e0 f hf]; exact q⟩)
    · exact Or.inr (Or.inr ⟨a, b, u, v, by rw [e0 f hf]; exact k1, a1, b1, by rw [e1 f hf]; exact l1, by rw [e2 f hf]; exact r1, Sw.ext e0 e1 e2 (by omega) s1, Sw.ext e0 e1 e2 (by omega) t1, by rw [e0 f hf]; exact q⟩)
/-- the tables of the five letters -/
def ltab (k : Nat) : Nat → Int32
  | 0 => 0
  | v + 1 => ltab k v ||| (((nI v >>> (nI k &&& 31)) &&& (1 : Int32)) <<< (nI v &&& 31))
/-- a formula's table, from those of its parts -/
def tabOf (c x y : Int32) : Int32 := if c = 78 then x ^^^ (-1 : Int32) else if c = 75 then x &&& y else if c = 65 then x ||| y else if c = 67 then (x ^^^ (-1 : Int32)) ||| y else if c = 70 then 0 else ltab (c - 97).toNatClampNeg 32
/-- the table of a part, 0 where there is none -/
def tbI (τ : MS) (v : Int32) : Int32 := if v = -1 then 0 else Tb τ v.toNatClampNeg
/-- what both sides hold of the formula f -/
def FE (σ : DS) (τ : MS) (f : Nat) : Prop := ∃ w : List Int32, Sw τ w.length f w ∧ w.length ≤ 30 ∧ Sz τ f = nI w.length ∧ σ.2 0 f = Lf τ f ∧ σ.2 1 f = Rt τ f ∧ σ.2 2 f = Sz τ f ∧ σ.2 3 f = Tb τ f ∧ (∀ i, i < w.length → σ.2 4 (f * 30 + i) = w.getD i 0) ∧ Tb τ f = tabOf (Kn τ f) (tbI τ (Lf τ f)) (tbI τ (Rt τ f))
/-- both sides know the same n formulas -/
def FW (n : Nat) (σ : DS) (τ : MS) : Prop := n ≤ 150 ∧ σ.1 1 = nI n ∧ τ.1 0 = nI n ∧ (∀ f, f < n → FE σ τ f) ∧ ∀ f g, f < n → g < n → Kn τ f = Kn τ g → Lf τ f = Lf τ g → Rt τ f = Rt τ g → f = g
section FORMS
variable {n : Nat} {σ : DS} {τ : MS}
theorem FW.le (h : FW n σ τ) : n ≤ 150 := h.1
theorem FW.cnt (h : FW n σ τ) : σ.1 1 = nI n := h.2.1
theorem FW.cnt7 (h : FW n σ τ) : τ.1 0 = nI n := h.2.2.1
theorem FW.ent (h : FW n σ τ) {f : Nat} (hf : f < n) : FE σ τ f := h.2.2.2.1 f hf
theorem FE.sh {f : Nat} (h : FE σ τ f) : (leafK (Kn τ f) ∧ Lf τ f = -1 ∧ Rt τ f = -1) ∨ (∃ a, Kn τ f = 78 ∧ a < f ∧ Lf τ f = nI a ∧ Rt τ f = -1) ∨ (∃ a b, binK (Kn τ f) ∧ a < f ∧ b < f ∧ Lf τ f = nI a ∧ Rt τ f = nI b) := by
  obtain ⟨w, hs, -⟩ := h
  cases hw : w.length with
  | zero => rw [hw] at hs; exact hs.elim
  | succ k =>
    rw [hw] at hs
    rcases hs with ⟨k1, l1, r1, -⟩ | ⟨a, u, k1, a1, l1, r1, -⟩ | ⟨a, b, u, v, k1, a1, b1, l1, r1, -⟩
    · exact Or.inl ⟨k1, l1, r1⟩
    · exact Or.inr (Or.inl ⟨a, k1, a1, l1, r1⟩)
    · exact Or.inr (Or.inr ⟨a, b, k1, a1, b1, l1, r1⟩)
theorem FE.kn {f : Nat} (h : FE σ τ f) : Kn τ f ∈ kinds := by
  rcases h.sh with ⟨k, -⟩ | ⟨a, k, -⟩ | ⟨a, b, k, -⟩
  · rcases k with k | k | k | k | k | k <;> rw [k] <;> decide
  · rw [k]; decide
  · rcases k with k | k | k <;> rw [k] <;> decide
theorem has_in (h : FW n σ τ) {f : Nat} (hf : f < n) : F_X0_has σ (nI f) = 1 := by
  have := h.le
  unfold F_X0_has
  rw [h.cnt, if_neg (nI_pos (by omega)), if_neg (nI_ge hf (by omega))]
theorem has_no (h : FW n σ τ) {a : Int32} (ha : a < 0 ∨ (¬ a < 0 ∧ nI n ≤ a)) : F_X0_has σ a = 0 := by
  unfold F_X0_has
  rw [h.cnt]
  rcases ha with ha | ⟨h0, ha⟩
  · rw [if_pos ha]
  · rw [if_neg h0, if_pos ha]
theorem has_m1 (h : FW n σ τ) : F_X0_has σ (-1) = 0 := has_no h (Or.inl (by decide))
theorem size_in (h : FW n σ τ) {f : Nat} (hf : f < n) : F_X0_size σ (nI f) = Sz τ f := by
  have := h.le
  obtain ⟨w, -, -, -, -, -, e, -⟩ := h.ent hf
  unfold F_X0_size
  rw [has_in h hf, if_neg (by decide), rat_in (by omega) (by decide), e]
theorem size_m1 (h : FW n σ τ) : F_X0_size σ (-1) = 0 := by
  unfold F_X0_size
  rw [has_m1 h, if_pos rfl]
theorem kind_in (h : FW n σ τ) {f : Nat} (hf : f < n) : F_X0_kind σ (nI f) = Kn τ f := by
  have := h.le
  have hk := (h.ent hf).kn
  obtain ⟨w, hs, -, -, -, -, -, -, hw, -⟩ := h.ent hf
  obtain ⟨u, hu⟩ := hs.pos
  have h0 := hw 0 (by rw [hu]; exact Nat.zero_lt_succ _)
  unfold F_X0_kind
  rw [has_in h hf, if_neg (by decide), show (30 : Int32) = nI 30 from rfl, ni_mul, rat_in (by omega) (by decide), show f * 30 = f * 30 + 0 from rfl, h0, hu]
  exact kind_ch _ hk
theorem kind_m1 (h : FW n σ τ) : F_X0_kind σ (-1) = 0 := by
  unfold F_X0_kind
  rw [has_m1 h, if_pos rfl]
theorem left_in (h : FW n σ τ) {f : Nat} (hf : f < n) : F_X0_left σ (nI f) = Lf τ f := by
  have := h.le
  obtain ⟨w, -, -, -, e, -⟩ := h.ent hf
  unfold F_X0_left
  rw [has_in h hf, if_neg (by decide), rat_in (by omega) (by decide), e]
theorem right_in (h : FW n σ τ) {f : Nat} (hf : f < n) : F_X0_right σ (nI f) = Rt τ f := by
  have := h.le
  obtain ⟨w, -, -, -, -, e, -⟩ := h.ent hf
  unfold F_X0_right
  rw [has_in h hf, if_neg (by decide), rat_in (by omega) (by decide), e]
theorem left_m1 (h : FW n σ τ) : F_X0_left σ (-1) = -1 := by
  unfold F_X0_left
  rw [has_m1 h, if_pos rfl]
theorem right_m1 (h : FW n σ τ) : F_X0_right σ (-1) = -1 := by
  unfold F_X0_right
  rw [has_m1 h, if_pos rfl]
theorem table_in (h : FW n σ τ) {f : Nat} (hf : f < n) : F_X0_table σ (nI f) = Tb τ f := by
  have := h.le
  obtain ⟨w, -, -, -, -, -, -, e, -⟩ := h.ent hf
  unfold F_X0_table
  rw [rat_in (by omega) (by decide), e]
theorem isF_in (h : FW n σ τ) {f : Nat} (hf : f < n) : F_X7_isFormula τ (nI f) = 1 := by
  have := h.le
  unfold F_X7_isFormula
  rw [h.cnt7]
  exact in_yes hf (by omega)
theorem isF_no (h : FW n σ τ) {a : Int32} (ha : a < 0 ∨ (¬ a < 0 ∧ nI n ≤ a)) : F_X7_isFormula τ a = 0 := by
  have := h.le
  unfold F_X7_isFormula
  rw [h.cnt7]
  exact in_no (by omega) ha
/-- what a search for a formula finds -/
def Fnd (τ : MS) (n : Nat) (c l r v : Int32) : Prop := (v = -1 ∧ ∀ f, f < n → ¬ (Kn τ f = c ∧ Lf τ f = l ∧ Rt τ f = r)) ∨ ∃ f, f < n ∧ v = nI f ∧ Kn τ f = c ∧ Lf τ f = l ∧ Rt τ f = r
theorem find_loop (h : FW n σ τ) (c l r : Int32) : ∀ (d k N : Nat), k + d = n → d < N → (∀ f, f < k → ¬ (Kn τ f = c ∧ Lf τ f = l ∧ Rt τ f = r)) → ∃ v, L_X0_find_3 N σ c l r (nI k) = some (.inl v, σ) ∧ L_X7_known_3 N τ c l r (nI k) = some (.inl v, τ) ∧ Fnd τ n c l r v := by
  have hn := h.le
  intro d
  induction d with
  | zero =>
    intro k N hk hN hno
    obtain ⟨N, rfl⟩ : ∃ M, N = M + 1 := ⟨N - 1, by omega⟩
    have hk : k = n := hk
    subst hk
    refine ⟨-1, ?_, ?_, Or.inl ⟨rfl, hno⟩⟩
    · show B_X0_find_3 (L_X0_find_3 N) σ c l r (nI k) = _
      unfold B_X0_find_3
      rw [h.cnt, if_pos (nI_le (Nat.le_refl _) (by omega))]
    · show B_X7_known_3 (L_X7_known_3 N) τ c l r (nI k) = _
      unfold B_X7_known_3
      rw [h.cnt7, if_pos (nI_le (Nat.le_refl _) (by omega))]
  | succ d ih =>
    intro k N hk hN hno
    obtain ⟨N, rfl⟩ : ∃ M, N = M + 1 := ⟨N - 1, by omega⟩
    have hkn : k < n := by omega
    have hl : σ.2 0 k = Lf τ k := by obtain ⟨w, -, -, -, e, -⟩ := h.ent hkn; exact e
    have hr : σ.2 1 k = Rt τ k := by obtain ⟨w, -, -, -, -, e, -⟩ := h.ent hkn; exact e
    have g1 : L_X0_find_3 (N + 1) σ c l r (nI k) = if Kn τ k = c then (if Lf τ k = l then (if Rt τ k = r then some (.inl (nI k), σ) else L_X0_find_3 N σ c l r (nI (k + 1))) else L_X0_find_3 N σ c l r (nI (k + 1))) else L_X0_find_3 N σ c l r (nI (k + 1)) := by
      show B_X0_find_3 (L_X0_find_3 N) σ c l r (nI k) = _
      unfold B_X0_find_3
      rw [h.cnt, if_neg (nI_ge hkn (by omega)), kind_in h hkn, rat_in (by omega) (by decide), rat_in (by omega) (by decide), hl, hr, lt_def, ni_add1]
    have g2 : L_X7_known_3 (N + 1) τ c l r (nI k) = if Kn τ k = c then (if Lf τ k = l then (if Rt τ k = r then some (.inl (nI k), τ) else L_X7_known_3 N τ c l r (nI (k + 1))) else L_X7_known_3 N τ c l r (nI (k + 1))) else L_X7_known_3 N τ c l r (nI (k + 1)) := by
      show B_X7_known_3 (L_X7_known_3 N) τ c l r (nI k) = _
      unfold B_X7_known_3
      rw [h.cnt7, if_neg (nI_ge hkn (by omega))]
      simp only [gd_in (show k < 150 by omega) (by decide), ni_cl (show k < 2147483648 by omega), lt_def, ni_add1]
    by_cases hit : Kn τ k = c ∧ Lf τ k = l ∧ Rt τ k = r
    · refine ⟨nI k, ?_, ?_, Or.inr ⟨k, hkn, rfl, hit⟩⟩
      · rw [g1, if_pos hit.1, if_pos hit.2.1, if_pos hit.2.2]
      · rw [g2, if_pos hit.1, if_pos hit.2.1, if_pos hit.2.2]
    · obtain ⟨v, e1, e2, e3⟩ := ih (k + 1) N (by omega) (by omega) (fun f hf => by
        rcases Nat.lt_or_ge f k with q | q
        · exact hno f q
        · have : f = k := by omega
          subst this
          exact hit)
      refine ⟨v, ?_, ?_, e3⟩
      · rw [g1, e1]
        split
        · split
          · split
            · rename_i x y z; exact absurd ⟨x, y, z⟩ hit
            · rfl
          · rfl
        · rfl
      · rw [g2, e2]
        split
        · split
          · split
            · rename_i x y z; exact absurd ⟨x, y, z⟩ hit
            · rfl
          · rfl
        · rfl
theorem find_ok (h : FW n σ τ) (c l r : Int32) : ∃ v, P_X0_find σ c l r = some (.inl v, σ) ∧ P_X7_known τ c l r = some (.inl v, τ) ∧ Fnd τ n c l r v := by
  have := h.le
  exact find_loop h c l r n 0 FU (by omega) (by unfold FU; omega) (fun f hf => absurd hf (Nat.not_lt_zero _))
end FORMS
