/-! THE SUM OF THE STATE, AND THE SOUNDNESS THAT THE LAW ASKS -/
theorem gc_ok {β : Type} {c : Prop} [Decidable c] (h : c) (k : Option β) : gc c k = k := if_pos h
theorem lg_self (x : Int64) : lg_cmp x x = 0 := by
  unfold lg_cmp
  rw [if_neg (fun h : x > x => Int64.lt_irrefl h), if_pos rfl]
section SUMS
variable {τ : MS}
theorem v_sym1 {σ0 : DS} (h0 : Rel σ0 τ) {f : Nat} (hf : f < nF τ) : ∃ x, Val τ (fun σ => P_L_symbol σ (nI f) 1) x := by
  obtain ⟨h, hr⟩ := h0.at
  obtain ⟨w, q1, q2, q3, -⟩ := h.ent hf
  by_cases hl : 1 < w.length
  · exact ⟨_, v_sym hf q1 hl⟩
  · exact ⟨_, v_sym_end (i := 1) hf (by rw [q3]; exact nI_nlt (by omega) (by decide)) (by decide)⟩
theorem vs_164 : ∀ (d k N : Nat) (acc : Int64), k + d = nBx τ → d < N → nBx τ ≤ 60 → ∃ v, Val τ (fun σ => L_L_sum_164 N σ acc (nI k)) v := by
  intro d
  induction d with
  | zero =>
    intro k N acc hk hN hq
    obtain ⟨N, rfl⟩ : ∃ M, N = M + 1 := ⟨N - 1, by omega⟩
    refine ⟨acc, fun σ hσ => ⟨σ, ?_, hσ⟩⟩
    show B_L_sum_164 _ σ acc (nI k) = _
    unfold B_L_sum_164
    rw [x_boxes hσ, if_pos (nI_le (by omega) (by omega))]
  | succ d ih =>
    intro k N acc hk hN hq
    obtain ⟨N, rfl⟩ : ∃ M, N = M + 1 := ⟨N - 1, by omega⟩
    have hb : k < nBx τ := by omega
    obtain ⟨v, hv⟩ := ih (k + 1) N ((((31 : Int64) * acc) + (τ.2.1 6 (τ.2.1 12 k).toNatClampNeg).toInt64) + ((3 : Int64) * (if citB τ k = true then (1 : Int32) else 0).toInt64)) (by omega) (by omega) hq
    refine ⟨v, fun σ hσ => ?_⟩
    obtain ⟨σ1, e1, r1⟩ := v_box1 hb σ hσ
    obtain ⟨σ2, e2, r2⟩ := v_box0 hb σ1 r1
    obtain ⟨σ3, e3, r3⟩ := hv σ2 r2
    have e1 : P_L_box σ (nI k) 1 = _ := e1
    have e2 : P_L_box σ1 (nI k) 0 = _ := e2
    refine ⟨σ3, ?_, r3⟩
    show B_L_sum_164 _ σ acc (nI k) = _
    unfold B_L_sum_164
    rw [x_boxes hσ, if_neg (nI_ge hb (by omega)), e1, bd_some, e2, bd_some, lt_def, lt_def, ni_add1]
    exact e3
theorem vs_98 {σ0 : DS} (h0 : Rel σ0 τ) : ∀ (d k N : Nat) (acc : Int64), k + d = nLn τ → d < N → ∃ v, Val τ (fun σ => L_L_sum_98 N σ acc (nI k)) v := by
  have hm := h0.at.2.m60
  have hq := h0.at.2.q60
  intro d
  induction d with
  | zero =>
    intro k N acc hk hN
    obtain ⟨N, rfl⟩ : ∃ M, N = M + 1 := ⟨N - 1, by omega⟩
    obtain ⟨v, hv⟩ := vs_164 (τ := τ) (nBx τ) 0 61 acc (by omega) (by omega) hq
    refine ⟨v, fun σ hσ => ?_⟩
    obtain ⟨σ', e1, r1⟩ := hv σ hσ
    refine ⟨σ', ?_, r1⟩
    show B_L_sum_98 _ σ acc (nI k) = _
    unfold B_L_sum_98
    rw [x_lines hσ, if_pos (nI_le (by omega) (by omega)), lt_def]
    exact e1
  | succ d ih =>
    intro k N acc hk hN
    obtain ⟨N, rfl⟩ : ∃ M, N = M + 1 := ⟨N - 1, by omega⟩
    have hb : k < nLn τ := by omega
    obtain ⟨v, hv⟩ := ih (k + 1) N ((((((31 : Int64) * acc) + (τ.2.1 6 k).toInt64) + ((3 : Int64) * (τ.2.1 7 k).toInt64)) + ((5 : Int64) * (rv (L_X7_depthOf_17 FU τ (nI 0) (τ.2.1 8 k))).toInt64)) + ((7 : Int64) * (if citT τ k = true then (1 : Int32) else 0).toInt64)) (by omega) (by omega)
    refine ⟨v, fun σ hσ => ?_⟩
    obtain ⟨σ1, e1, r1⟩ := v_line0 hb σ hσ
    obtain ⟨σ2, e2, r2⟩ := v_line1 hb σ1 r1
    obtain ⟨σ3, e3, r3⟩ := v_line2 hb σ2 r2
    obtain ⟨σ4, e4, r4⟩ := v_line3 hb σ3 r3
    obtain ⟨σ5, e5, r5⟩ := hv σ4 r4
    have e1 : P_L_line σ (nI k) 0 = _ := e1
    have e2 : P_L_line σ1 (nI k) 1 = _ := e2
    have e3 : P_L_line σ2 (nI k) 2 = _ := e3
    have e4 : P_L_line σ3 (nI k) 3 = _ := e4
    refine ⟨σ5, ?_, r5⟩
    show B_L_sum_98 _ σ acc (nI k) = _
    unfold B_L_sum_98
    rw [x_lines hσ, if_neg (nI_ge hb (by omega)), e1, bd_some, e2, bd_some, e3, bd_some, e4, bd_some, lt_def, lt_def, ni_add1]
    exact e5
theorem vs_48 {σ0 : DS} (h0 : Rel σ0 τ) : ∀ (d k N : Nat) (acc : Int64), k + d = nF τ → d < N → ∃ v, Val τ (fun σ => L_L_sum_48 N σ acc (nI k)) v := by
  have hn := h0.at.1.le
  have hm := h0.at.2.m60
  intro d
  induction d with
  | zero =>
    intro k N acc hk hN
    obtain ⟨N, rfl⟩ : ∃ M, N = M + 1 := ⟨N - 1, by omega⟩
    obtain ⟨v, hv⟩ := vs_98 h0 (nLn τ) 0 61 acc (by omega) (by omega)
    refine ⟨v, fun σ hσ => ?_⟩
    obtain ⟨σ', e1, r1⟩ := hv σ hσ
    refine ⟨σ', ?_, r1⟩
    show B_L_sum_48 _ σ acc (nI k) = _
    unfold B_L_sum_48
    rw [x_forms hσ, if_pos (nI_le (by omega) (by omega)), lt_def]
    exact e1
  | succ d ih =>
    intro k N acc hk hN
    obtain ⟨N, rfl⟩ : ∃ M, N = M + 1 := ⟨N - 1, by omega⟩
    have hb : k < nF τ := by omega
    obtain ⟨x, hx⟩ := v_sym1 h0 hb
    obtain ⟨v, hv⟩ := ih (k + 1) N (((((31 : Int64) * acc) + (Sz τ k).toInt64) + ((3 : Int64) * (nI (bN 32 (Tb τ k).toBitVec.toNat)).toInt64)) + x.toInt64) (by omega) (by omega)
    refine ⟨v, fun σ hσ => ?_⟩
    obtain ⟨σ1, e1, r1⟩ := v_size hb σ hσ
    obtain ⟨σ2, e2, r2⟩ := v_models hb σ1 r1
    obtain ⟨σ3, e3, r3⟩ := hx σ2 r2
    obtain ⟨σ4, e4, r4⟩ := hv σ3 r3
    have e1 : P_L_tells σ (nI k) 0 = _ := e1
    have e2 : P_L_tells σ1 (nI k) 1 = _ := e2
    have e3 : P_L_symbol σ2 (nI k) 1 = _ := e3
    refine ⟨σ4, ?_, r4⟩
    show B_L_sum_48 _ σ acc (nI k) = _
    unfold B_L_sum_48
    rw [x_forms hσ, if_neg (nI_ge hb (by omega)), e1, bd_some, e2, bd_some, e3, bd_some, lt_def, lt_def, ni_add1]
    exact e4
theorem v_sum {σ0 : DS} (h0 : Rel σ0 τ) : ∃ v, Val τ (fun σ => P_L_sum σ) v := by
  have hn := h0.at.1.le
  have hd : ∃ r, Val τ (fun σ => P_L_needed σ) r := by
    by_cases hl : nLn τ = 0
    · exact ⟨_, v_needed0 hl⟩
    · obtain ⟨r, -, -, h⟩ := v_needed h0 hl
      exact ⟨_, h⟩
  obtain ⟨r, hr⟩ := hd
  obtain ⟨v, hv⟩ := vs_48 h0 (nF τ) 0 151 ((((((nI (nF τ))).toInt64 + ((31 : Int64) * ((nI (nLn τ))).toInt64)) + ((961 : Int64) * ((nI (nBx τ))).toInt64)) + ((7 : Int64) * ((nI (nLm τ))).toInt64)) + ((11 : Int64) * (r).toInt64)) (by omega) (by omega)
  refine ⟨v, fun σ hσ => ?_⟩
  obtain ⟨σ1, e1, r1⟩ := hr σ hσ
  obtain ⟨σ2, e2, r2⟩ := hv σ1 r1
  have e1 : P_L_needed σ = _ := e1
  refine ⟨σ2, ?_, r2⟩
  show P_L_sum σ = _
  unfold P_L_sum
  rw [e1, bd_some, lt_def, lt_def, x_forms hσ, x_lines hσ, x_boxes hσ, x_lemmas hσ]
  exact e2
/-! soundness -/
theorem snd_127 {σ0 : DS} (h0 : Rel σ0 τ) {f : Nat} (hf : f < nF τ) {K : DS → Int32 → Res DS Int32} (hK : Val τ (fun σ => K σ (nI (f + 1))) 1) : Val τ (fun σ => B_L_isSound_127 K σ (nI f) (nI (bN 32 (Tb τ f).toBitVec.toNat))) 1 := fun σ hσ => by
  obtain ⟨z, z1, z2, z3⟩ := sz_bd h0.at.1 hf
  have hbn := bN_le 32 (Tb τ f).toBitVec.toNat
  obtain ⟨σ1, e1, r1⟩ := v_size hf σ hσ
  obtain ⟨σ2, e2, r2⟩ := v_size hf σ1 r1
  obtain ⟨σ3, e3, r3⟩ := v_size hf σ2 r2
  obtain ⟨σ4, e4, r4⟩ := v_sym_end (i := z) hf (by rw [z1]; exact nI_nlt (Nat.le_refl _) (by omega)) (by omega) σ3 r3
  obtain ⟨σ5, e5, r5⟩ := v_share hf σ4 r4
  obtain ⟨σ6, e6, r6⟩ := hK σ5 r5
  have e1 : P_L_tells σ (nI f) 0 = _ := e1
  have e2 : P_L_tells σ1 (nI f) 0 = _ := e2
  have e3 : P_L_tells σ2 (nI f) 0 = _ := e3
  have e4 : P_L_symbol σ3 (nI f) (nI z) = _ := e4
  have e5 : P_X6_share σ4 (nI f) = _ := e5
  refine ⟨σ6, ?_, r6⟩
  show B_L_isSound_127 K σ (nI f) _ = _
  unfold B_L_isSound_127
  rw [e1, bd_some, z1, if_neg (show ¬ nI z < (1 : Int32) from (show ¬ nI z < nI 1 from nI_nlt z2 (by omega))), e2, bd_some, z1, if_neg (show ¬ (30 : Int32) < nI z from (show ¬ nI 30 < nI z from nI_nlt z3 (by decide))), e3, bd_some, z1, e4, bd_some, if_pos rfl, e5, bd_some, gc_ok (i2f_n _ (by omega))]
  unfold shF
  rw [if_pos (sh_cmp _ (by omega)), lt_def, ni_add1]
  exact e6
theorem snd_73 {σ0 : DS} (h0 : Rel σ0 τ) : ∀ (d k N : Nat), k + d = nF τ → d < N → Val τ (fun σ => L_L_isSound_73 N σ (nI k)) 1 := by
  have hn := h0.at.1.le
  have hm := h0.at.2.m60
  intro d
  induction d with
  | zero =>
    intro k N hk hN σ hσ
    obtain ⟨N, rfl⟩ : ∃ M, N = M + 1 := ⟨N - 1, by omega⟩
    show ∃ σ', B_L_isSound_73 _ σ (nI k) = _ ∧ _
    unfold B_L_isSound_73
    rw [x_forms hσ, if_pos (nI_le (by omega) (by omega)), x_lines hσ]
    by_cases hl : nLn τ = 0
    · obtain ⟨σ1, e1, r1⟩ := v_needed0 hl σ hσ
      obtain ⟨σ2, e2, r2⟩ := v_mean0 hl σ1 r1
      have e1 : P_L_needed σ = _ := e1
      have e2 : P_L_mean σ1 = _ := e2
      exact ⟨σ2, by rw [hl, if_pos (show nI 0 = 0 from rfl), e1, bd_some, if_pos rfl, e2, bd_some, if_pos m1_eq], r2⟩
    · obtain ⟨r, hr1, hr2, hv⟩ := v_needed h0 hl
      obtain ⟨b1, b2, b3⟩ := szs_bd h0
      obtain ⟨b4, b5⟩ := mn_bd (m := nLn τ) (s := szs τ (nLn τ) 0) (by omega) b3 b1 b2
      obtain ⟨σ1, e1, r1⟩ := hv σ hσ
      obtain ⟨σ2, e2, r2⟩ := hv σ1 r1
      obtain ⟨σ3, e3, r3⟩ := v_mean hl σ2 r2
      obtain ⟨σ4, e4, r4⟩ := v_mean hl σ3 r3
      have e1 : P_L_needed σ = _ := e1
      have e2 : P_L_needed σ1 = _ := e2
      have e3 : P_L_mean σ2 = _ := e3
      have e4 : P_L_mean σ3 = _ := e4
      unfold mnD at e3 e4
      exact ⟨σ4, by rw [if_neg (fun z => by rw [ni_eq0 (by omega)] at z; exact hl z), e1, bd_some, if_neg (show ¬ nI r < (1 : Int32) from (show ¬ nI r < nI 1 from nI_nlt hr1 (by omega))), e2, bd_some, x_lines r2, if_neg (nI_nlt hr2 (by omega)), e3, bd_some, if_neg b4, e4, bd_some, if_neg b5], r4⟩
  | succ d ih =>
    intro k N hk hN σ hσ
    obtain ⟨N, rfl⟩ : ∃ M, N = M + 1 := ⟨N - 1, by omega⟩
    have hb : k < nF τ := by omega
    have h127 := snd_127 h0 hb (ih (k + 1) N (by omega) (by omega))
    obtain ⟨σ1, e1, r1⟩ := v_models hb σ hσ
    obtain ⟨σ2, e2, r2⟩ := v_far0 hb σ1 r1
    obtain ⟨σ3, e3, r3⟩ := v_rows hb σ2 r2
    obtain ⟨σ4, e4, r4⟩ := v_far1 hb σ3 r3
    have e1 : P_L_tells σ (nI k) 1 = _ := e1
    have e2 : P_L_distance σ1 (nI k) 0 = _ := e2
    have e3 : P_L_tells σ2 (nI k) 2 = _ := e3
    have e4 : P_L_distance σ3 (nI k) 1 = _ := e4
    show ∃ σ', B_L_isSound_73 _ σ (nI k) = _ ∧ _
    unfold B_L_isSound_73
    rw [x_forms hσ, if_neg (nI_ge hb (by omega)), e1, bd_some, lt_def, e2, bd_some, lt_def, e3, bd_some, if_pos rfl, e4, bd_some, if_pos rfl]
    by_cases hd : dd τ k < 0
    · rw [if_pos hd]
      exact h127 σ4 r4
    · obtain ⟨σ5, e5, r5⟩ := v_follows hb (fol_of h0 hb (Int32.not_lt.mp hd)) σ4 r4
      have e5 : P_X6_follows σ4 (nI k) = _ := e5
      rw [if_neg hd, e5, bd_some, if_neg i10]
      exact h127 σ5 r5
theorem snd_2 {σ0 : DS} (h0 : Rel σ0 τ) (hS : SI τ) : ∀ (d k N : Nat), k + d = nLn τ → d < N → Val τ (fun σ => L_L_isSound_2 N σ (nI k)) 1 := by
  have hn := h0.at.1.le
  have hm := h0.at.2.m60
  intro d
  induction d with
  | zero =>
    intro k N hk hN σ hσ
    obtain ⟨N, rfl⟩ : ∃ M, N = M + 1 := ⟨N - 1, by omega⟩
    show ∃ σ', B_L_isSound_2 _ σ (nI k) = _ ∧ _
    unfold B_L_isSound_2
    rw [x_lines hσ, if_pos (nI_le (by omega) (by omega)), lt_def]
    exact snd_73 h0 (nF τ) 0 151 (by omega) (by omega) σ hσ
  | succ d ih =>
    intro k N hk hN σ hσ
    obtain ⟨N, rfl⟩ : ∃ M, N = M + 1 := ⟨N - 1, by omega⟩
    have hb : k < nLn τ := by omega
    have hi := ih (k + 1) N (by omega) (by omega)
    obtain ⟨f, hf, ef⟩ := form_ix h0.at.2 hb
    obtain ⟨σ1, e1, r1⟩ := v_line0 hb σ hσ
    obtain ⟨σ2, e2, r2⟩ := v_line4 hS hb σ1 r1
    obtain ⟨σ3, e3, r3⟩ := v_line3 hb σ2 r2
    have e1 : P_L_line σ (nI k) 0 = _ := e1
    have e2 : P_L_line σ1 (nI k) 4 = _ := e2
    have e3 : P_L_line σ2 (nI k) 3 = _ := e3
    show ∃ σ', B_L_isSound_2 _ σ (nI k) = _ ∧ _
    unfold B_L_isSound_2
    rw [x_lines hσ, if_neg (nI_ge hb (by omega)), e1, bd_some, lt_def, e2, bd_some, if_pos rfl, e3, bd_some, ef]
    by_cases hc : citT τ k = true
    · have hfo := fo_eq ef (by omega)
      have hd := dd_cited h0 hb hc
      rw [hfo] at hd
      obtain ⟨σ4, e4, r4⟩ := v_follows hf (fun v hv h => by have := h k hb hc; rwa [hfo] at this) σ3 r3
      obtain ⟨σ5, e5, r5⟩ := v_far0 hf σ4 r4
      obtain ⟨σ6, e6, r6⟩ := v_far1 hf σ5 r5
      have e4 : P_X6_follows σ3 (nI f) = _ := e4
      have e5 : P_L_distance σ4 (nI f) 0 = _ := e5
      have e6 : P_L_distance σ5 (nI f) 1 = _ := e6
      rw [if_pos hc, if_pos rfl, e4, bd_some, if_neg i10, e5, bd_some, if_pos hd, e6, bd_some, if_pos hd, lt_def, ni_add1]
      exact hi σ6 r6
    · rw [if_neg hc, if_neg (by decide), lt_def, ni_add1]
      exact hi σ3 r3
theorem v_sound {σ0 : DS} (h0 : Rel σ0 τ) (hS : SI τ) : Val τ (fun σ => P_L_isSound σ) 1 := fun σ hσ => by
  have hm := h0.at.2.m60
  show ∃ σ', P_L_isSound σ = _ ∧ _
  unfold P_L_isSound
  rw [lt_def]
  exact snd_2 h0 hS (nLn τ) 0 61 (by omega) (by omega) σ hσ
end SUMS
