/-! DISTANCES: what can be cited has the distance 0; what has a distance follows -/
section FAR
variable {n m q e : Nat} {σ : DS} {τ : MS}
theorem dIn_0 {C : Nat → Int32} {fo : Nat → Nat} : ∀ {m k : Nat}, k < m → C k = 1 → dIn C fo m (fo k) = 0
  | 0, _, h, _ => absurd h (Nat.not_lt_zero _)
  | m + 1, k, h, hc => by
    unfold dIn
    rcases Nat.lt_or_ge k m with g | g
    · have ih := dIn_0 (fo := fo) g hc
      by_cases z : C m = 1
      · rw [if_pos z]
        by_cases w : fo k = fo m
        · rw [w, dRx_t]; exact Nat.min_zero _
        · rw [dRx_ne w]; exact ih
      · rw [if_neg z]; exact ih
    · have : k = m := by omega
      subst this
      rw [if_pos hc, dRx_t]
      exact Nat.min_zero _
theorem dIn_lt {C : Nat → Int32} {fo : Nat → Nat} {v : Nat} : ∀ {m : Nat}, dIn C fo m v < 10000 → ∃ k, k < m ∧ C k = 1 ∧ fo k = v
  | 0, h => absurd h (Nat.lt_irrefl 10000)
  | m + 1, h => by
    unfold dIn at h
    by_cases z : C m = 1
    · rw [if_pos z] at h
      by_cases w : v = fo m
      · exact ⟨m, by omega, z, w.symm⟩
      · rw [dRx_ne w] at h
        obtain ⟨k, h1, h2, h3⟩ := dIn_lt h
        exact ⟨k, by omega, h2, h3⟩
    · rw [if_neg z] at h
      obtain ⟨k, h1, h2, h3⟩ := dIn_lt h
      exact ⟨k, by omega, h2, h3⟩
/-- everything that can be cited is true -/
def AllC (τ : MS) (v : Nat) : Prop := ∀ j, j < nLn τ → citT τ j = true → Tr τ (fo τ j) v
def FolX (n : Nat) (τ : MS) (f : Nat) : Prop := ∀ v, v < 32 → AllC τ v → f < n ∧ Tr τ f v
theorem ru_true (hF : FW n σ τ) {F : Nat} (hFk : F < n → Kn τ F = 70) {f : Nat} {x : Rul} (hx : x ∈ ruT n τ F f) (hs : ∀ s ∈ x.2, FolX n τ s) : FolX n τ x.1 := by
  have hle := hF.le
  have noF : ∀ {g : Nat}, FolX n τ F → FolX n τ g := fun h v hv ha => by
    obtain ⟨h1, h2⟩ := h v hv ha
    exact absurd h2 (tr_F hF h1 (hFk h1) v)
  rcases ru_cases hF F f with ⟨-, e⟩ | ⟨-, -, e⟩ | ⟨a, b, hf, ha, hb, el, er, h⟩ | ⟨a, hf, ha, hk, el, h⟩
  · rw [e] at hx
    simp only [List.mem_cons, List.not_mem_nil, or_false] at hx
    subst hx
    exact noF (hs F List.mem_cons_self)
  · rw [e] at hx
    simp only [List.mem_cons, List.not_mem_nil, or_false] at hx
    subst hx
    exact noF (hs F List.mem_cons_self)
  · rcases h with ⟨hk, e⟩ | ⟨hk, e⟩ | ⟨hk, e⟩
    · rw [e] at hx
      simp only [List.mem_cons, List.not_mem_nil, or_false] at hx
      rcases hx with rfl | rfl | rfl | rfl
      · exact noF (hs F List.mem_cons_self)
      · intro v hv hA
        obtain ⟨-, h1⟩ := hs a (by simp) v hv hA
        obtain ⟨-, h2⟩ := hs b (by simp) v hv hA
        exact ⟨hf, (tr_K hF hf hk ha hb el er).mpr ⟨h1, h2⟩⟩
      · intro v hv hA
        obtain ⟨-, h1⟩ := hs f (by simp) v hv hA
        exact ⟨ha, ((tr_K hF hf hk ha hb el er).mp h1).1⟩
      · intro v hv hA
        obtain ⟨-, h1⟩ := hs f (by simp) v hv hA
        exact ⟨hb, ((tr_K hF hf hk ha hb el er).mp h1).2⟩
    · rw [e] at hx
      simp only [List.mem_cons, List.not_mem_nil, or_false] at hx
      rcases hx with rfl | rfl | rfl
      · exact noF (hs F List.mem_cons_self)
      · intro v hv hA
        obtain ⟨-, h1⟩ := hs a (by simp) v hv hA
        exact ⟨hf, (tr_A hF hf hk ha hb el er).mpr (Or.inl h1)⟩
      · intro v hv hA
        obtain ⟨-, h1⟩ := hs b (by simp) v hv hA
        exact ⟨hf, (tr_A hF hf hk ha hb el er).mpr (Or.inr h1)⟩
    · rw [e] at hx
      simp only [List.mem_cons, List.not_mem_nil, or_false] at hx
      rcases hx with rfl | rfl
      · exact noF (hs F List.mem_cons_self)
      · intro v hv hA
        obtain ⟨-, h1⟩ := hs f (by simp) v hv hA
        obtain ⟨-, h2⟩ := hs a (by simp) v hv hA
        exact ⟨hb, (tr_C hF hf hk ha hb el er hv).mp h1 h2⟩
  · have two : ∀ {g : Nat}, FolX n τ f → FolX n τ a → FolX n τ g := fun h1 h2 v hv hA => by
      obtain ⟨-, z1⟩ := h1 v hv hA
      obtain ⟨-, z2⟩ := h2 v hv hA
      exact absurd z2 ((tr_N hF hf hk ha el hv).mp z1)
    rcases h with ⟨-, e⟩ | ⟨c, hc, hk2, el2, e⟩
    · rw [e] at hx
      simp only [List.mem_cons, List.not_mem_nil, or_false] at hx
      rcases hx with rfl | rfl
      · exact noF (hs F List.mem_cons_self)
      · exact two (hs f (by simp)) (hs a (by simp))
    · rw [e] at hx
      simp only [List.mem_cons, List.not_mem_nil, or_false] at hx
      rcases hx with rfl | rfl | rfl
      · exact noF (hs F List.mem_cons_self)
      · exact two (hs f (by simp)) (hs a (by simp))
      · intro v hv hA
        obtain ⟨-, z1⟩ := hs f (by simp) v hv hA
        refine ⟨hc, Classical.byContradiction fun z => (tr_N hF hf hk ha el hv).mp z1 ((tr_N hF ha hk2 hc el2 hv).mpr z)⟩
noncomputable def eF (n : Nat) (τ : MS) (v : Nat) : Nat := @ite Nat (FolX n τ v) (Classical.propDecidable _) 0 10000
theorem eF_y {v : Nat} (h : FolX n τ v) : eF n τ v = 0 := if_pos h
theorem eF_n {v : Nat} (h : ¬ FolX n τ v) : eF n τ v = 10000 := if_neg h
/-- the least distances and what follows -/
theorem far_fol (hF : FW n σ τ) {F : Nat} (hFk : F < n → Kn τ F = 70) {V : Nat → Prop} {M : Nat → Nat} {C : Nat → Int32} {fo' : Nat → Nat} (hC : ∀ k, k < nLn τ → C k = 1 → citT τ k = true ∧ fo' k = fo τ k ∧ fo τ k < n) (hMb : dLb V (ruT n τ F) (dIn C fo' (nLn τ)) M) {g : Nat} (hg : g < 151) (hM : M g < 10000) : FolX n τ g := by
  have key := hMb (eF n τ) (fun f _ _ x hx => by
    by_cases z : FolX n τ x.1
    · rw [eF_y z]; exact Nat.zero_le _
    · rw [eF_n z]
      have : ∃ s, s ∈ x.2 ∧ ¬ FolX n τ s := Classical.byContradiction fun h => z (ru_true hF hFk hx fun s hs => Classical.byContradiction fun h2 => h ⟨s, hs, h2⟩)
      obtain ⟨s, hs, hs2⟩ := this
      have h3 := dSl_mem (D := eF n τ) hs
      rw [eF_n hs2] at h3
      omega) (fun v _ => by
    by_cases z : FolX n τ v
    · rw [eF_y z]; exact Nat.zero_le _
    · rw [eF_n z]
      refine Nat.le_of_not_lt fun h => z ?_
      obtain ⟨k, h1, h2, h3⟩ := dIn_lt h
      obtain ⟨c1, c2, c3⟩ := hC k h1 h2
      intro u hu hA
      rw [← h3, c2]
      exact ⟨c3, hA k h1 c1⟩) g hg
  by_cases z : FolX n τ g
  · exact z
  · rw [eF_n z] at key
    omega
theorem known_F (hF : FW n σ τ) {F : Nat} {v : Int32} (hf1 : P_X0_find σ 70 (-1) (-1) = some (.inl v, σ)) (hf2 : (v = -1 ∧ F = 150) ∨ (v ≠ -1 ∧ v = nI F)) (hFF : F < 151) : F < n → Kn τ F = 70 := fun hFn => by
  have hle := hF.le
  obtain ⟨v', e1, -, h⟩ := find_ok hF 70 (-1) (-1)
  rw [hf1] at e1
  cases e1
  rcases h with ⟨h, -⟩ | ⟨f, hf, h, hk, -, -⟩
  · rcases hf2 with ⟨-, z⟩ | ⟨z, -⟩
    · omega
    · exact absurd h z
  · rcases hf2 with ⟨z, -⟩ | ⟨-, z⟩
    · rw [h] at z; exact absurd z (ni_ne (by omega))
    · rw [h, ni_eq (by omega) (by omega)] at z
      subst z
      exact hk
/-- the class's two searches: one answer, and what it means -/
theorem far_ok (hσ : Rel σ τ) {g : Nat} (hg : g < nF τ) : ∃ (M : Nat) (s1 s2 : DS), P_X4_byQueue σ (nI g) = some (.inl (ec M), s1) ∧ P_X4_byRounds σ (nI g) = some (.inl (ec M), s2) ∧ Rel s1 τ ∧ Rel s2 τ ∧ (M < 10000 → FolX (nF τ) τ g) ∧ (∀ k, k < nLn τ → citT τ k = true → fo τ k = g → M = 0) := by
  obtain ⟨h, hr⟩ := hσ.at
  have hle := h.le
  have hm := hr.m60
  have h0 := h.thr 0
  have hr0 := hr.thr 0
  obtain ⟨F, v, hFF, hFn, hFl, hf1, -, hf2⟩ := fal_ok h0
  obtain ⟨V, M, τ', d1, d2, d3, d4, d5, d6, d7⟩ := dist_t h0 hr0 hFF hFn hFl hf1 hf2 hg (cfo_ok hr0 hle)
  obtain ⟨s1, a1, a2⟩ := byQ_ok h0 hr0 hFF hFn hf1 hf2 hg (cfo_ok hr0 hle) d1 d2 d3 d4
  obtain ⟨s2, b1, b2⟩ := byR_ok h0 hr0 hFF hFn hf1 hf2 hg (cfo_ok hr0 hle) d1 d2 d3 d4
  have hFk := known_F h0 hf1 hf2 hFF
  refine ⟨M g, s1, s2, a1, b1, Rel.of (a2.fw h) (a2.rw9 hr), Rel.of (b2.fw h) (b2.rw9 hr), fun hM => ?_, fun k hk hc hg2 => ?_⟩
  · refine far_fol (τ := tI τ 5 0) h0 hFk (fun k hk hc => ?_) d4 (by omega) hM
    have hk : k < nLn τ := hk
    have hc : F_X2_isCitable σ (nI k) = 1 := hc
    rw [cit_val hr hk] at hc
    obtain ⟨f, hf, ef⟩ := form_ix hr hk
    refine ⟨Classical.byContradiction fun z => ?_, rfl, ?_⟩
    · have z : ¬ citT τ k = true := z
      rw [if_neg z] at hc
      exact absurd hc (by decide)
    · show (τ.2.1 6 k).toNatClampNeg < nF τ
      rw [ef, ni_cl (by omega)]
      exact hf
  · have h1 : M g ≤ dIn (fun k => F_X2_isCitable σ (nI k)) (fun k => (τ.2.1 6 k).toNatClampNeg) (nLn τ) g := d3 g (by omega)
    have h2 := dIn_0 (C := fun k => F_X2_isCitable σ (nI k)) (fo := fun k => (τ.2.1 6 k).toNatClampNeg) hk (by show F_X2_isCitable σ (nI k) = 1; rw [cit_val hr hk, if_pos hc])
    have h2 : dIn (fun k => F_X2_isCitable σ (nI k)) (fun k => (τ.2.1 6 k).toNatClampNeg) (nLn τ) g = 0 := by rw [← hg2]; exact h2
    omega
end FAR
/-! one answer for all states over one ghost -/
theorem i64_inj {x y : Int32} (h : x.toInt64 = y.toInt64) : x = y := by
  have := congrArg Int64.toInt h
  rw [Int32.toInt_toInt64, Int32.toInt_toInt64] at this
  exact Int32.toInt_inj.mp this
theorem agx {Inv : DS → MS → Prop} {cs : List (String × Int32)} (hcs : ∀ E k, cs.lookup E = some k → k ≠ 0) {x : Res DS Int32} {y : Res MS Int32} {w : OS} (h : AgW okI Inv (wrT cs stI x w) y) : (∃ r σ' τ', x = some (.inl r, σ') ∧ y = some (.inl r, τ') ∧ τ'.1 5 = 0 ∧ Inv σ' τ') ∨ (∃ E k r σ' τ', x = some (.inr E, σ') ∧ cs.lookup E = some k ∧ y = some (.inl r, τ') ∧ τ'.1 5 = k ∧ k ≠ 0 ∧ Inv σ' τ') := by
  obtain ⟨k, σ', w', r, τ', hx, hy, ht, hok, hI⟩ := h
  have ht : τ'.1 5 = k := ht
  rcases x with _ | ⟨r0 | E, s⟩
  · cases hx
  · have hx : (some (.inl (0 : Int32), (s, (vp_updL w.1 (0 : Int32).toNatClampNeg r0.toInt64, w.2))) : Res LWS Int32) = some (.inl k, (σ', w')) := hx
    cases hx
    have h1 : vp_updL w.1 (0 : Int32).toNatClampNeg r0.toInt64 (0 : Int32).toNatClampNeg = r.toInt64 := hok rfl
    have h2 : r0.toInt64 = r.toInt64 := (if_pos rfl : vp_updL w.1 (0 : Int32).toNatClampNeg r0.toInt64 (0 : Int32).toNatClampNeg = r0.toInt64).symm.trans h1
    have h3 := i64_inj h2
    subst h3
    exact Or.inl ⟨_, _, _, rfl, hy, ht, hI⟩
  · have hx : (match cs.lookup E with | none => none | some k => some (.inl k, (s, w)) : Res LWS Int32) = some (.inl k, (σ', w')) := hx
    cases hk : cs.lookup E with
    | none => rw [hk] at hx; cases hx
    | some k0 =>
      rw [hk] at hx
      cases hx
      exact Or.inr ⟨_, _, _, _, _, rfl, hk, hy, ht, hcs _ _ hk, hI⟩
/-- the distance of the ghost's formula, none: -1002 -/
def dd (τ : MS) (g : Nat) : Int32 := match P_X7_distance τ (nI g) with
  | some (.inl r, τ') => if τ'.1 5 = 0 then r else -1002
  | _ => -1002
def os0 : OS := (fun _ => 0, fun _ => 0)
theorem cs_far : ∀ (E : String) (k : Int32), List.lookup E [("java/lang/IndexOutOfBoundsException", (1 : Int32)), ("java/util/NoSuchElementException", 2)] = some k → k ≠ 0 := fun E k h => by
  rcases hlookup_cons h with ⟨-, rfl⟩ | ⟨-, h⟩
  · decide
  · rcases hlookup_cons h with ⟨-, rfl⟩ | ⟨-, h⟩
    · decide
    · exact (hlookup_nil h).elim
section DD
variable {τ : MS} {g : Nat}
theorem dd_ok {σ : DS} (hσ : Rel σ τ) (hg : g < nF τ) : ∃ (M : Nat) (s1 s2 : DS), P_X4_byQueue σ (nI g) = some (.inl (ec M), s1) ∧ P_X4_byRounds σ (nI g) = some (.inl (ec M), s2) ∧ Rel s1 τ ∧ Rel s2 τ ∧ dd τ g = (if M < 10000 then nI M else -1002) ∧ (M < 10000 → FolX (nF τ) τ g) ∧ (∀ k, k < nLn τ → citT τ k = true → fo τ k = g → M = 0) := by
  obtain ⟨M, s1, s2, a1, a2, a3, a4, a5, a6⟩ := far_ok hσ hg
  refine ⟨M, s1, s2, a1, a2, a3, a4, ?_, a5, a6⟩
  obtain ⟨h, hr⟩ := hσ.at
  have ha := agx cs_far (ag38 σ τ os0 (nI g) hσ)
  have e : P_X6_distance σ (nI g) = if M < 10000 then some (.inl (nI M), s1) else some (.inr "java/util/NoSuchElementException", s1) := by
    unfold P_X6_distance P_X6_found
    rw [reqF_in h hg, bd_some, a1, bd_some]
    by_cases z : M < 10000
    · rw [ec_lt z, if_neg (ni_ne (by omega)), if_pos z]; rfl
    · rw [ec_ge z, if_pos rfl, if_neg z]; rfl
  rw [e] at ha
  unfold dd
  by_cases z : M < 10000
  · rw [if_pos z] at ha ⊢
    rcases ha with ⟨r, σ', τ', e1, e2, e3, -⟩ | ⟨E, k, r, σ', τ', e1, -⟩
    · cases e1
      rw [e2]
      exact if_pos e3
    · cases e1
  · rw [if_neg z] at ha ⊢
    rcases ha with ⟨r, σ', τ', e1, -⟩ | ⟨E, k, r, σ', τ', e1, -, e2, e3, e4, -⟩
    · cases e1
    · rw [e2]
      exact if_neg (by rw [e3]; exact e4)
theorem v_far0 (hg : g < nF τ) : Val τ (fun σ => P_L_distance σ (nI g) 0) (dd τ g) := fun σ hσ => by
  obtain ⟨M, s1, s2, a1, a2, a3, a4, a5, -⟩ := dd_ok hσ hg
  obtain ⟨h, hr⟩ := hσ.at
  refine ⟨s1, ?_, a3⟩
  show P_L_distance σ (nI g) 0 = _
  unfold P_L_distance P_X6_distance P_X6_found
  rw [if_pos rfl, reqF_in h hg, bd_some, a1, bd_some, a5]
  by_cases z : M < 10000
  · rw [ec_lt z, if_neg (ni_ne (by omega)), if_pos z]; rfl
  · rw [ec_ge z, if_pos rfl, if_neg z]; exact hdl_exc _ rfl _ _
theorem v_far1 (hg : g < nF τ) : Val τ (fun σ => P_L_distance σ (nI g) 1) (dd τ g) := fun σ hσ => by
  obtain ⟨M, s1, s2, a1, a2, a3, a4, a5, -⟩ := dd_ok hσ hg
  obtain ⟨h, hr⟩ := hσ.at
  refine ⟨s2, ?_, a4⟩
  show P_L_distance σ (nI g) 1 = _
  unfold P_L_distance P_X6_distanceByRounds P_X6_found
  rw [if_neg i10, reqF_in h hg, bd_some, a2, bd_some, a5]
  by_cases z : M < 10000
  · rw [ec_lt z, if_neg (ni_ne (by omega)), if_pos z]; rfl
  · rw [ec_ge z, if_pos rfl, if_neg z]; exact hdl_exc _ rfl _ _
theorem v_far_no {a : Int32} (ha : OutN (nF τ) a) : Val τ (fun σ => P_L_distance σ a 1) (-1001) := fun σ hσ => by
  obtain ⟨h, hr⟩ := hσ.at
  refine ⟨σ, ?_, hσ⟩
  show P_L_distance σ a 1 = _
  unfold P_L_distance P_X6_distanceByRounds
  rw [if_neg i10, reqF_no h ha, bd_exc]
  exact hdl_exc _ rfl _ _
theorem fol_of {σ : DS} (hσ : Rel σ τ) (hg : g < nF τ) (h : 0 ≤ dd τ g) : Fol τ g := by
  obtain ⟨M, s1, s2, a1, a2, a3, a4, a5, a6, -⟩ := dd_ok hσ hg
  by_cases z : M < 10000
  · exact fun v hv hA => (a6 z v hv hA).2
  · rw [a5, if_neg z] at h
    exact absurd h (by decide)
theorem dd_cited {σ : DS} (hσ : Rel σ τ) {k : Nat} (hk : k < nLn τ) (hc : citT τ k = true) : dd τ (fo τ k) = 0 := by
  obtain ⟨h, hr⟩ := hσ.at
  have hle := h.le
  obtain ⟨f, hf, ef⟩ := form_ix hr hk
  have e : fo τ k = f := by show (τ.2.1 6 k).toNatClampNeg = f; rw [ef, ni_cl (by omega)]
  obtain ⟨M, s1, s2, a1, a2, a3, a4, a5, -, a7⟩ := dd_ok hσ (show fo τ k < nF τ by omega)
  have := a7 k hk hc rfl
  subst this
  rw [a5, if_pos (by decide)]
  rfl
end DD
