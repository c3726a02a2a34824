/-! THE LAW: it answers yes -/
theorem irm_mod (x y : Int32) : irm x y = x % y := by
  apply Int32.toInt_inj.mp
  unfold irm
  rw [Int32.toInt_sub, Int32.toInt_mul, Int32.toInt_div, Int.bmod_mul_bmod, Int.sub_bmod_bmod, ← Int32.toInt_bmod (x % y), Int32.toInt_mod, Int.tmod_def, Int.mul_comm]
  first | done | rfl
/-- what stays behind a division -/
theorem irm_ix {x : Int32} {n : Nat} (hx : 0 ≤ x) (hn : 0 < n) (hn2 : n < 2147483648) : ∃ f, f < n ∧ irm x (nI n) = nI f := by
  rcases ix_cases n hn2 (irm x (nI n)) with h | h | ⟨-, h⟩
  · exact h
  · exfalso
    rw [irm_mod, Int32.lt_iff_toInt_lt, Int32.toInt_mod, Int32.toInt_zero] at h
    rw [Int32.le_iff_toInt_le, Int32.toInt_zero] at hx
    have := Int.tmod_nonneg (nI n).toInt hx
    omega
  · exfalso
    rw [irm_mod, Int32.le_iff_toInt_le, Int32.toInt_mod] at h
    have hp : 0 < (nI n).toInt := by
      have : (0 : Int32) < nI n := (show nI 0 < nI n from nI_lt hn hn2)
      rw [Int32.lt_iff_toInt_lt, Int32.toInt_zero] at this
      exact this
    have := Int.tmod_lt_of_pos x.toInt hp
    omega
/-- the answer of some lies in its range -/
theorem some_ok {a : Int32} {n : Nat} (hn : 0 < n) (hn2 : n < 1000000000) (σ : DS) : ∃ f, f < n ∧ P_L_some σ a (nI n) = some (.inl (nI f), σ) := by
  have hp : 0 < (nI n).toInt := by
    have : (0 : Int32) < nI n := (show nI 0 < nI n from nI_lt hn (by omega))
    rw [Int32.lt_iff_toInt_lt, Int32.toInt_zero] at this
    exact this
  have hnz : ¬ nI n = 0 := by rw [ni_eq0 (by omega)]; omega
  have hi : (nI n).toInt = n := nI_toInt (by omega)
  unfold P_L_some
  rw [gc_ok hnz, lt_def]
  have h1 := Int.tmod_lt_of_pos a.toInt hp
  have h2 : (irm a (nI n)).toInt = a.toInt.tmod (nI n).toInt := by rw [irm_mod, Int32.toInt_mod]
  have h3 : -(nI n).toInt < a.toInt.tmod (nI n).toInt := Int.lt_tmod_of_pos a.toInt hp
  by_cases h0 : 0 ≤ irm a (nI n)
  · rw [if_pos h0]
    rcases ix_cases n (by omega) (irm a (nI n)) with ⟨f, hf, e⟩ | h | ⟨-, h⟩
    · exact ⟨f, hf, by rw [e]⟩
    · exact absurd h (Int32.not_lt.mpr h0)
    · exfalso
      rw [Int32.le_iff_toInt_le] at h
      omega
  · rw [if_neg h0]
    have h0 : irm a (nI n) < 0 := Int32.not_le.mp h0
    rw [Int32.lt_iff_toInt_lt, Int32.toInt_zero] at h0
    have h4 : (irm a (nI n) + nI n).toInt = (irm a (nI n)).toInt + (nI n).toInt := by
      rw [Int32.toInt_add]
      exact Int.bmod_eq_of_le (by omega) (by omega)
    rcases ix_cases n (by omega) (irm a (nI n) + nI n) with ⟨f, hf, e⟩ | h | ⟨-, h⟩
    · exact ⟨f, hf, by rw [e]⟩
    · exfalso
      rw [Int32.lt_iff_toInt_lt, Int32.toInt_zero] at h
      omega
    · exfalso
      rw [Int32.le_iff_toInt_le] at h
      omega
theorem div_pos {x : Int32} (hx : 0 ≤ x) : 0 ≤ x / 48 := by
  rw [Int32.le_iff_toInt_le, Int32.toInt_zero] at hx ⊢
  rw [Int32.toInt_div_of_ne_right x 48 (by decide)]
  exact Int.tdiv_nonneg hx (by decide)
theorem imx_ok {n : Nat} (hn : n < 2147483648) : imx 1 (nI n) = nI (max 1 n) ∧ ¬ imx 1 (nI n) = 0 := by
  have e : imx 1 (nI n) = nI (max 1 n) := by
    unfold imx
    by_cases h : 1 < n
    · rw [if_pos (show (1 : Int32) < nI n from (show nI 1 < nI n from nI_lt h hn)), show max 1 n = n by omega]
    · rw [if_neg (show ¬ (1 : Int32) < nI n from (show ¬ nI 1 < nI n from nI_nlt (by omega) (by decide))), show max 1 n = 1 by omega]
      rfl
  refine ⟨e, ?_⟩
  rw [e, ni_eq0 (by omega)]
  omega
/-- the law's answer is yes -/
def Ok1 (x : Res DS Int32) : Prop := ∃ σ', x = some (.inl 1, σ')
section LAW
variable {τ : MS} {σ : DS} {L : Nat} {xs : Nat → Int32} {K : DS → Int32 → Int32 → Res DS Int32} {l2 l3 l5 l6 l7 l8 l11 l12 l13 l14 : Int32} {l9 : Int64}
/-- the next round holds -/
def Nxt (K : DS → Int32 → Int32 → Res DS Int32) (l2 l3 : Int32) : Prop := ∀ σ τ, Rel σ τ → SI τ → Ok1 (K σ l2 (l3 + 1))
theorem t508 (hK : Nxt K l2 l3) (hσ : Rel σ τ) (hS : SI τ) : Ok1 (B_L_law_508 L xs K σ l2 l3) := by
  unfold B_L_law_508
  by_cases h : irm l3 18 = 17
  · obtain ⟨σ1, e1, r1⟩ := v_sound hσ hS σ hσ
    have e1 : P_L_isSound σ = _ := e1
    rw [if_pos h, e1, bd_some, if_neg i10, lt_def]
    exact hK σ1 τ r1 hS
  · rw [if_neg h, lt_def]
    exact hK σ τ hσ hS
theorem t490 (hK : Nxt K l2 l3) (hσ : Rel σ τ) (hS : SI τ) {z : Int32} (hz : (-1000 : Int32) ≤ z ∨ Val τ (fun σ => P_L_sum σ) l9) : Ok1 (B_L_law_490 L xs K σ l2 l3 l9 z) := by
  unfold B_L_law_490
  by_cases h : (-1000 : Int32) ≤ z
  · rw [if_pos h]
    exact t508 hK hσ hS
  · rcases hz with hz | hz
    · exact absurd hz h
    · obtain ⟨σ1, e1, r1⟩ := hz σ hσ
      have e1 : P_L_sum σ = _ := e1
      rw [if_neg h, e1, bd_some, lg_self, if_pos rfl]
      exact t508 hK r1 hS
theorem t490w (hK : Nxt K l2 l3) (h9 : Val τ (fun σ => P_L_sum σ) l9) (hS : SI τ) {x : Res DS Int32} (hx : OpW τ x) : Ok1 (bd x fun r s => lt r fun z => B_L_law_490 L xs K s l2 l3 l9 z) := by
  rcases hx with ⟨z, σ1, e1, -, r1⟩ | ⟨z, σ1, τ1, e1, hz, r1, s1⟩
  · rw [e1, bd_some, lt_def]
    exact t490 hK r1 hS (Or.inr h9)
  · rw [e1, bd_some, lt_def]
    exact t490 hK r1 s1 (Or.inl hz)
theorem t99 (hK : Nxt K l2 l3) (h9 : Val τ (fun σ => P_L_sum σ) l9) (hσ : Rel σ τ) (hS : SI τ) : Ok1 (B_L_law_99 L xs K σ l2 l3 l5 l9) := by
  unfold B_L_law_99
  exact t490w hK h9 hS (w_letter hσ hS _)
theorem t202 (hK : Nxt K l2 l3) (hσ : Rel σ τ) (hS : SI τ) (h5 : 0 ≤ l5) (h6 : l6 = nI (max 1 (nF τ))) (h11 : (-1000 : Int32) ≤ l11) : Ok1 (B_L_law_202 L xs K σ l2 l3 l5 l6 l9 l11) := by
  have hn := hσ.at.1.le
  unfold B_L_law_202
  rw [x_forms hσ]
  by_cases h : nF τ = 0
  · rw [if_pos (show nI (nF τ) ≤ 0 by rw [h]; decide)]
    exact t490 hK hσ hS (Or.inl h11)
  · have e6 : l6 = nI (nF τ) := by rw [h6, show max 1 (nF τ) = nF τ by omega]
    rw [if_neg (show ¬ nI (nF τ) ≤ 0 by rw [ni_le0 (by omega)]; exact h), gc_ok (show ¬ l6 = 0 by rw [e6, ni_eq0 (by omega)]; exact h)]
    obtain ⟨f, hf, ef⟩ := irm_ix (n := nF τ) h5 (by omega) (by omega)
    obtain ⟨σ1, τ1, e1, r1, s1⟩ := nrm_ok hσ hS hf
    rw [e6, ef, e1, bd_some, if_neg i10]
    exact t490 hK r1 s1 (Or.inl h11)
theorem t443 (hK : Nxt K l2 l3) (h9 : Val τ (fun σ => P_L_sum σ) l9) (hσ : Rel σ τ) (hS : SI τ) (a b c : Int32) : Ok1 (B_L_law_443 L xs K σ l2 l3 l9 l13 c b a l13) := by
  unfold B_L_law_443
  rcases w_does hσ hS l13 a b c with ⟨z, σ1, e1, hz, r1⟩ | ⟨k, σ1, τ1, hk, e1, r1, s1, hl⟩
  · rw [e1, bd_some, lt_def, if_pos (Int32.lt_trans hz (by decide))]
    exact t490 hK r1 hS (Or.inr h9)
  · rw [e1, bd_some, lt_def, if_neg (nI_pos hk)]
    have go : ∀ s, Rel s τ1 → Ok1 (B_L_law_490 L xs K s l2 l3 l9 (nI k)) := fun s hs => t490 hK hs s1 (Or.inl (m1k_le hk))
    by_cases h2 : l13 = 2
    · rw [if_pos h2]; exact go σ1 r1
    · by_cases h14 : l13 = 14
      · rw [if_neg h2, if_pos h14]; exact go σ1 r1
      · obtain ⟨q1, q2⟩ := hl h2 h14
        obtain ⟨σ2, e2, r2⟩ := v_line3 (show k < nLn τ1 by omega) σ1 r1
        have e2 : P_L_line σ1 (nI k) 3 = _ := e2
        rw [if_neg h2, if_neg h14, x_lines r1, q1, ni_add1, if_pos rfl, e2, bd_some, if_pos q2, if_pos rfl]
        exact go σ2 r2
theorem t406 (hK : Nxt K l2 l3) (h9 : Val τ (fun σ => P_L_sum σ) l9) (hσ : Rel σ τ) (hS : SI τ) (h7 : ¬ l7 = 0) (h8 : ¬ l8 = 0) (t0 : Int32) : Ok1 (B_L_law_406 L xs K σ l2 l3 l5 l7 l8 l9 l13 l14 t0) := by
  unfold B_L_law_406
  rw [lt_def]
  by_cases h : l13 = 7
  · rw [if_pos h, gc_ok h8]; exact t443 hK h9 hσ hS _ _ _
  · rw [if_neg h, gc_ok h7]; exact t443 hK h9 hσ hS _ _ _
theorem t369 (hK : Nxt K l2 l3) (h9 : Val τ (fun σ => P_L_sum σ) l9) (hσ : Rel σ τ) (hS : SI τ) (h6 : ¬ l6 = 0) (h7 : ¬ l7 = 0) (h8 : ¬ l8 = 0) : Ok1 (B_L_law_369 L xs K σ l2 l3 l5 l6 l7 l8 l9 l13 l14) := by
  unfold B_L_law_369
  rw [gc_ok h6]
  exact t406 hK h9 hσ hS h7 h8 _
theorem t353 (hK : Nxt K l2 l3) (h9 : Val τ (fun σ => P_L_sum σ) l9) (hσ : Rel σ τ) (hS : SI τ) (h6 : ¬ l6 = 0) (h7 : ¬ l7 = 0) (h8 : ¬ l8 = 0) (t0 : Int32) : Ok1 (B_L_law_353 L xs K σ l2 l3 l5 l6 l7 l8 l9 l13 t0) := by
  unfold B_L_law_353
  rw [lt_def]
  by_cases c6 : l13 = 6
  · rw [if_pos c6]; exact t369 hK h9 hσ hS h6 h7 h8
  rw [if_neg c6]
  by_cases c12 : l13 = 12
  · rw [if_pos c12]; exact t369 hK h9 hσ hS h6 h7 h8
  rw [if_neg c12]
  by_cases c7 : l13 = 7
  · rw [if_pos c7, gc_ok h8]; exact t406 hK h9 hσ hS h7 h8 _
  · rw [if_neg c7, gc_ok h7]; exact t406 hK h9 hσ hS h7 h8 _
theorem t316 (hK : Nxt K l2 l3) (h9 : Val τ (fun σ => P_L_sum σ) l9) (hσ : Rel σ τ) (hS : SI τ) (h6 : ¬ l6 = 0) (h7 : ¬ l7 = 0) (h8 : ¬ l8 = 0) : Ok1 (B_L_law_316 L xs K σ l2 l3 l5 l6 l7 l8 l9 l13) := by
  unfold B_L_law_316
  rw [gc_ok h8]
  exact t353 hK h9 hσ hS h6 h7 h8 _
theorem t286 (hK : Nxt K l2 l3) (h9 : Val τ (fun σ => P_L_sum σ) l9) (hσ : Rel σ τ) (hS : SI τ) (h6 : ¬ l6 = 0) (h7 : ¬ l7 = 0) (h8 : ¬ l8 = 0) (t0 : Int32) : Ok1 (B_L_law_286 L xs K σ l2 l3 l5 l6 l7 l8 l9 t0) := by
  unfold B_L_law_286
  rw [lt_def]
  by_cases c2 : (2 : Int32) ≤ t0
  · rw [if_pos c2]
    by_cases c8 : t0 = 8
    · rw [if_pos c8]; exact t316 hK h9 hσ hS h6 h7 h8
    rw [if_neg c8]
    by_cases c10 : t0 = 10
    · rw [if_pos c10]; exact t316 hK h9 hσ hS h6 h7 h8
    rw [if_neg c10]
    by_cases c15 : t0 = 15
    · rw [if_pos c15]; exact t353 hK h9 hσ hS h6 h7 h8 _
    · rw [if_neg c15, gc_ok h7]; exact t353 hK h9 hσ hS h6 h7 h8 _
  · rw [if_neg c2, gc_ok h6]; exact t353 hK h9 hσ hS h6 h7 h8 _
theorem t246 (hK : Nxt K l2 l3) (h9 : Val τ (fun σ => P_L_sum σ) l9) (hσ : Rel σ τ) (hS : SI τ) (h6 : ¬ l6 = 0) (h7 : ¬ l7 = 0) (h8 : ¬ l8 = 0) : Ok1 (B_L_law_246 L xs K σ l2 l3 l5 l6 l7 l8 l9 l12) := by
  unfold B_L_law_246
  by_cases c1 : (22 : Int32) ≤ l12
  · rw [if_pos c1]
    by_cases c2 : (26 : Int32) ≤ l12
    · rw [if_pos c2]
      by_cases c3 : (30 : Int32) ≤ l12
      · rw [if_pos c3]; exact t286 hK h9 hσ hS h6 h7 h8 _
      · rw [if_neg c3]; exact t286 hK h9 hσ hS h6 h7 h8 _
    · rw [if_neg c2]; exact t286 hK h9 hσ hS h6 h7 h8 _
  · rw [if_neg c1]; exact t286 hK h9 hσ hS h6 h7 h8 _
theorem t230 (hK : Nxt K l2 l3) (h9 : Val τ (fun σ => P_L_sum σ) l9) (hσ : Rel σ τ) (hS : SI τ) (h6 : ¬ l6 = 0) (h7 : ¬ l7 = 0) (h8 : ¬ l8 = 0) : Ok1 (B_L_law_230 L xs K σ l2 l3 l5 l6 l7 l8 l9 l12) := by
  unfold B_L_law_230
  by_cases c : irm l5 5 = 0
  · obtain ⟨z, σ1, τ1, e1, hz, r1, s1⟩ := w_new hσ hS
    rw [if_pos c, e1, bd_some, lt_def]
    exact t490 hK r1 s1 (Or.inl hz)
  · rw [if_neg c]; exact t246 hK h9 hσ hS h6 h7 h8
theorem t168 (hK : Nxt K l2 l3) (h9 : Val τ (fun σ => P_L_sum σ) l9) (hσ : Rel σ τ) (hS : SI τ) (h5 : 0 ≤ l5) (e6 : l6 = nI (max 1 (nF τ))) (h11 : (-1000 : Int32) ≤ l11) (h6 : ¬ l6 = 0) (h7 : ¬ l7 = 0) (h8 : ¬ l8 = 0) : Ok1 (B_L_law_168 L xs K σ l2 l3 l5 l6 l7 l8 l9 l11 l12) := by
  unfold B_L_law_168
  by_cases c1 : (16 : Int32) ≤ l12
  · rw [if_pos c1]
    by_cases c2 : (17 : Int32) ≤ l12
    · rw [if_pos c2]
      by_cases c3 : (18 : Int32) ≤ l12
      · rw [if_pos c3]; exact t246 hK h9 hσ hS h6 h7 h8
      · rw [if_neg c3]; exact t230 hK h9 hσ hS h6 h7 h8
    · rw [if_neg c2]; exact t202 hK hσ hS h5 e6 h11
  · rw [if_neg c1, gc_ok h6]; exact t490w hK h9 hS (w_binds hσ hS _ _)
theorem t127 (hK : Nxt K l2 l3) (h9 : Val τ (fun σ => P_L_sum σ) l9) (hσ : Rel σ τ) (hS : SI τ) (h5 : 0 ≤ l5) (e6 : l6 = nI (max 1 (nF τ))) (h11 : (-1000 : Int32) ≤ l11) (h6 : ¬ l6 = 0) (h7 : ¬ l7 = 0) (h8 : ¬ l8 = 0) : Ok1 (B_L_law_127 L xs K σ l2 l3 l5 l6 l7 l8 l9 l11 l12) := by
  unfold B_L_law_127
  by_cases c1 : (14 : Int32) ≤ l12
  · rw [if_pos c1]; exact t168 hK h9 hσ hS h5 e6 h11 h6 h7 h8
  · obtain ⟨j, hj, ej⟩ := irm_ix (n := 4) h5 (by decide) (by decide)
    have ej : irm l5 4 = nI j := ej
    rw [if_neg c1, ej, gd_in hj (by decide), gc_ok h6, gc_ok h6]
    exact t490w hK h9 hS (w_joins hσ hS _ _ _)
theorem t112 (hK : Nxt K l2 l3) (h9 : Val τ (fun σ => P_L_sum σ) l9) (hσ : Rel σ τ) (hS : SI τ) (h5 : 0 ≤ l5) (e6 : l6 = nI (max 1 (nF τ))) (h11 : (-1000 : Int32) ≤ l11) (h6 : ¬ l6 = 0) (h7 : ¬ l7 = 0) (h8 : ¬ l8 = 0) : Ok1 (B_L_law_112 L xs K σ l2 l3 l5 l6 l7 l8 l9 l11 l12) := by
  unfold B_L_law_112
  by_cases c1 : (5 : Int32) ≤ l12
  · rw [if_pos c1]; exact t127 hK h9 hσ hS h5 e6 h11 h6 h7 h8
  · rw [if_neg c1]; exact t490w hK h9 hS (w_falsum hσ hS)
/-! the end: every call out of range is refused and changes nothing -/
theorem t945 (hσ : Rel σ τ) (h9 : Val τ (fun σ => P_L_sum σ) l9) : Ok1 (B_L_law_945 L xs σ l9 (nI (nLn τ)) (nI (nBx τ))) := by
  have hm := hσ.at.2.m60
  have hq := hσ.at.2.q60
  obtain ⟨σ1, e1, r1⟩ := v_line_no (τ := τ) (outN_self _ (show nLn τ < 2147483648 by omega)) (Or.inl rfl) σ hσ
  obtain ⟨σ2, e2, r2⟩ := v_line_no (τ := τ) (outN_m1 _) (Or.inr rfl) σ1 r1
  obtain ⟨σ3, e3, r3⟩ := v_box_no (τ := τ) (outN_self _ (show nBx τ < 2147483648 by omega)) (c := 1) σ2 r2
  obtain ⟨σ4, e4, r4⟩ := v_box_no (τ := τ) (outN_m1 _) (c := 0) σ3 r3
  obtain ⟨σ5, e5, r5⟩ := h9 σ4 r4
  have e1 : P_L_line σ (nI (nLn τ)) 0 = _ := e1
  have e2 : P_L_line σ1 (-1) 4 = _ := e2
  have e3 : P_L_box σ2 (nI (nBx τ)) 1 = _ := e3
  have e4 : P_L_box σ3 (-1) 0 = _ := e4
  have e5 : P_L_sum σ4 = _ := e5
  unfold B_L_law_945
  exact ⟨σ5, by rw [e1, bd_some, if_pos rfl, e2, bd_some, if_pos rfl, e3, bd_some, if_pos rfl, e4, bd_some, if_pos rfl, e5, bd_some, lg_self, if_pos rfl]⟩
theorem t905 (hσ : Rel σ τ) (h9 : Val τ (fun σ => P_L_sum σ) l9) : Ok1 (B_L_law_905 L xs σ l9 (nI (nLn τ)) (nI (nBx τ))) := by
  have hm := hσ.at.2.m60
  unfold B_L_law_905
  rw [x_lemmas hσ, t_15 hσ, bd_some, if_pos rfl]
  by_cases h0 : nLn τ = 0
  · rw [if_pos (show nI (nLn τ) = 0 by rw [h0]; rfl), t_14 hσ h0, bd_some, if_pos rfl]
    exact t945 hσ h9
  · rw [if_neg (show ¬ nI (nLn τ) = 0 by rw [ni_eq0 (by omega)]; exact h0)]
    exact t945 hσ h9
theorem t842 (hσ : Rel σ τ) (h9 : Val τ (fun σ => P_L_sum σ) l9) : Ok1 (B_L_law_842 L xs σ l9 (nI (nLn τ)) (nI (nBx τ))) := by
  unfold B_L_law_842
  rw [t_10 hσ, bd_some, if_pos rfl, t_11 hσ, bd_some, if_pos rfl, t_12 hσ, bd_some, if_pos rfl, t_13 hσ, bd_some, if_pos rfl]
  exact t905 hσ h9
theorem t778 (hσ : Rel σ τ) (h9 : Val τ (fun σ => P_L_sum σ) l9) : Ok1 (B_L_law_778 L xs σ l9 (nI (nLn τ)) (nI (nBx τ))) := by
  unfold B_L_law_778
  rw [t_6 hσ, bd_some, if_pos rfl, t_7 hσ, bd_some, if_pos rfl, t_8 hσ, bd_some, if_pos rfl, t_9 hσ, bd_some, if_pos rfl]
  exact t842 hσ h9
theorem t720 (hσ : Rel σ τ) (h9 : Val τ (fun σ => P_L_sum σ) l9) : Ok1 (B_L_law_720 L xs σ l9 (nI (nLn τ)) (nI (nBx τ))) := by
  unfold B_L_law_720
  rw [t_1 hσ, bd_some, if_pos rfl, t_3 hσ, bd_some, if_pos rfl, t_4 hσ, bd_some, if_pos rfl, t_5 hσ, bd_some, if_pos rfl]
  exact t778 hσ h9
theorem t666 (hσ : Rel σ τ) (h9 : Val τ (fun σ => P_L_sum σ) l9) : Ok1 (B_L_law_666 L xs σ l9 (nI (nF τ)) (nI (nLn τ)) (nI (nBx τ))) := by
  have hn := hσ.at.1.le
  obtain ⟨σ1, e1, r1⟩ := v_tells_no (τ := τ) (outN_self _ (show nF τ < 2147483648 by omega)) σ hσ
  obtain ⟨σ2, e2, r2⟩ := v_far_no (τ := τ) (outN_self _ (show nF τ < 2147483648 by omega)) σ1 r1
  have e1 : P_L_tells σ (nI (nF τ)) 3 = _ := e1
  have e2 : P_L_distance σ1 (nI (nF τ)) 1 = _ := e2
  unfold B_L_law_666
  rw [t_form hσ, bd_some, if_pos rfl, e1, bd_some, if_pos rfl, e2, bd_some, if_pos rfl, t_0 r2, bd_some, if_pos rfl]
  exact t720 r2 h9
theorem t615 (hσ : Rel σ τ) (h9 : Val τ (fun σ => P_L_sum σ) l9) : Ok1 (B_L_law_615 L xs σ l9 (nI (nF τ)) (nI (nLn τ)) (nI (nBx τ))) := by
  have hn := hσ.at.1.le
  obtain ⟨σ1, e1, r1⟩ := v_sym_no (τ := τ) (outN_self _ (show nF τ < 2147483648 by omega)) σ hσ
  have e1 : P_L_symbol σ (nI (nF τ)) 0 = _ := e1
  unfold B_L_law_615
  rw [e1, bd_some, if_pos rfl, t_bind5, bd_some, if_pos rfl, t_bind0 r1, bd_some, if_pos rfl, t_step r1, bd_some, if_pos rfl]
  exact t666 r1 h9
theorem t541 (hσ : Rel σ τ) : Ok1 (B_L_law_541 L xs σ) := by
  obtain ⟨v, h9⟩ := v_sum hσ
  obtain ⟨σ1, e1, r1⟩ := h9 σ hσ
  have e1 : P_L_sum σ = _ := e1
  unfold B_L_law_541
  rw [e1, bd_some, lt_def, lt_def, lt_def, lt_def, x_forms r1, x_lines r1, x_boxes r1, t_let (Or.inl (by decide)), bd_some, if_pos rfl, t_let (Or.inr ⟨by decide, by decide⟩), bd_some, if_pos rfl, t_neg r1, bd_some, if_pos rfl, t_con r1, bd_some, if_pos rfl]
  exact t615 r1 h9
/-- the rounds -/
theorem t21 {s : Nat} (hs : s < 54) : ∀ (d k N : Nat) (σ : DS) (τ : MS), k + d = s → d < N → Rel σ τ → SI τ → Ok1 (L_L_law_21 L xs N σ (nI s) (nI k)) := by
  intro d
  induction d with
  | zero =>
    intro k N σ τ hk hN hσ hS
    obtain ⟨N, rfl⟩ : ∃ M, N = M + 1 := ⟨N - 1, by omega⟩
    obtain ⟨σ1, e1, r1⟩ := v_sound hσ hS σ hσ
    have e1 : P_L_isSound σ = _ := e1
    show Ok1 (B_L_law_21 L xs _ σ (nI s) (nI k))
    unfold B_L_law_21
    rw [if_pos (nI_le (by omega) (by omega)), e1, bd_some, if_neg i10]
    exact t541 r1
  | succ d ih =>
    intro k N σ τ hk hN hσ hS
    obtain ⟨N, rfl⟩ : ∃ M, N = M + 1 := ⟨N - 1, by omega⟩
    have hn := hσ.at.1.le
    have hm := hσ.at.2.m60
    have hq := hσ.at.2.q60
    have hK : Nxt (L_L_law_21 L xs N) (nI s) (nI k) := fun σ τ h1 h2 => by
      rw [ni_add1]
      exact ih (k + 1) N σ τ (by omega) (by omega) h1 h2
    obtain ⟨z, hz, ez⟩ := some_ok (a := xat L xs ((1 : Int32) + nI k)) (n := 100000000) (by decide) (by decide) σ
    have ez : P_L_some σ (xat L xs ((1 : Int32) + nI k)) 100000000 = _ := ez
    obtain ⟨v, h9⟩ := v_sum hσ
    obtain ⟨σ1, e1, r1⟩ := h9 σ hσ
    have e1 : P_L_sum σ = _ := e1
    have h5 : 0 ≤ nI z / 48 := div_pos (Int32.not_lt.mp (nI_pos (by omega)))
    show Ok1 (B_L_law_21 L xs _ σ (nI s) (nI k))
    unfold B_L_law_21
    rw [if_neg (nI_ge (by omega) (by omega)), gc_ok (show ¬ ((1 : Int32) + nI k) < 0 by rw [show (1 : Int32) + nI k = nI (1 + k) from ni_add 1 k]; exact nI_pos (by omega)), ez, bd_some, lt_def, lt_def, lt_def, lt_def, lt_def, e1, bd_some, lt_def, lt_def, lt_def, x_forms hσ, x_lines hσ, x_boxes hσ]
    have m1 := imx_ok (n := nF τ) (by omega)
    have m2 := imx_ok (n := nLn τ) (by omega)
    have m3 := imx_ok (n := nBx τ) (by omega)
    by_cases c : (4 : Int32) ≤ irm (nI z) 48
    · rw [if_pos c]
      exact t112 hK h9 r1 hS h5 m1.1 (by decide) m1.2 m2.2 m3.2
    · rw [if_neg c]
      exact t99 hK h9 r1 hS
theorem law_ok (hσ : Rel σ τ) (hS : SI τ) : Ok1 (P_L_law L xs σ) := by
  obtain ⟨s, hs, es⟩ := some_ok (a := xat L xs 0) (n := 54) (by decide) (by decide) σ
  have es : P_L_some σ (xat L xs 0) 54 = _ := es
  unfold P_L_law
  rw [gc_ok (show ¬ (0 : Int32) < 0 by decide), es, bd_some, lt_def, lt_def]
  exact t21 hs s 0 54 σ τ (by omega) (by omega) hσ hS
end LAW
