/-! A LINE IS ENTERED: both sides -/
section NEWL
variable {n m q e : Nat} {σ : DS} {τ : MS}
def NewS (m : Nat) (F c a3 a4 a5 a6 : Int32) (σ σ' : DS) : Prop := σ'.1 2 = nI (m + 1) ∧ (∀ k, 3 ≤ k → k ≤ 5 → σ'.1 k = σ.1 k) ∧ σ'.2 8 = upd (σ.2 8) m F ∧ σ'.2 9 = upd (σ.2 9) m c ∧ σ'.2 10 = upd (σ.2 10) m (σ.1 4) ∧ σ'.2 11 = upd (σ.2 11) m a3 ∧ σ'.2 12 = upd (σ.2 12) m a4 ∧ σ'.2 13 = upd (σ.2 13) m a5 ∧ σ'.2 14 = upd (σ.2 14) m a6 ∧ σ'.2 16 = σ.2 16 ∧ σ'.2 17 = rput 60 (σ.2 17) (σ.1 4) (nI m) ∧ (∀ k, 18 ≤ k → k ≤ 24 → σ'.2 k = σ.2 k) ∧ σ'.1 1 = σ.1 1 ∧ ∀ k, k ≤ 4 → σ'.2 k = σ.2 k
def NewT (m : Nat) (F c a3 a4 a5 a6 : Int32) (τ τ' : MS) : Prop := τ'.1 1 = nI (m + 1) ∧ (∀ k, 2 ≤ k → k ≤ 4 → τ'.1 k = τ.1 k) ∧ τ'.2.1 6 = upd (τ.2.1 6) m F ∧ τ'.2.1 7 = upd (τ.2.1 7) m c ∧ τ'.2.1 8 = upd (τ.2.1 8) m (τ.1 3) ∧ (τ'.2.1 12 = if τ.1 3 = -1 then τ.2.1 12 else upd (τ.2.1 12) (τ.1 3).toNatClampNeg (nI m)) ∧ (∀ k, k = 5 ∨ k = 9 ∨ k = 10 ∨ k = 11 ∨ k = 13 ∨ k = 14 → τ'.2.1 k = τ.2.1 k) ∧ (∀ k, k ≠ m → τ'.2.2.1 k = τ.2.2.1 k) ∧ τ'.2.2.1 m 0 = a3 ∧ τ'.2.2.1 m 1 = a4 ∧ τ'.2.2.1 m 2 = a5 ∧ τ'.2.2.1 m 3 = a6 ∧ τ'.2.2.2 = τ.2.2.2 ∧ τ'.1 0 = τ.1 0 ∧ τ'.1 5 = 0 ∧ ∀ k, k ≤ 4 → τ'.2.1 k = τ.2.1 k
theorem upd_upd (f : Nat → Int32) (k : Nat) (x y : Int32) : upd (upd f k x) k y = upd f k y := by
  funext j
  unfold upd
  split <;> rfl
theorem enter_c (hc : σ.1 2 = nI m) (hm : m < 60) (F c : Int32) : ∃ σ', P_X2_enter σ F c = some (.inl (nI m), σ') ∧ NewS m F c (-1) (-1) (-1) (-1) σ σ' := by
  unfold P_X2_enter
  rw [lt_def, hc]
  simp only [lt_def, rput_in (show m < 60 from hm) (by decide : (60 : Nat) < 2147483648)]
  refine ⟨_, rfl, ?_, fun k h1 h2 => ?_, rfl, rfl, rfl, rfl, rfl, rfl, rfl, rfl, rfl, fun k h1 h2 => ?_, rfl, fun k h1 => ?_⟩
  · show σ.1 2 + 1 = _
    rw [hc, ni_add1]
  · have : k = 3 ∨ k = 4 ∨ k = 5 := by omega
    rcases this with rfl | rfl | rfl <;> rfl
  · have : k = 18 ∨ k = 19 ∨ k = 20 ∨ k = 21 ∨ k = 22 ∨ k = 23 ∨ k = 24 := by omega
    rcases this with rfl | rfl | rfl | rfl | rfl | rfl | rfl <;> rfl
  · have : k = 0 ∨ k = 1 ∨ k = 2 ∨ k = 3 ∨ k = 4 := by omega
    rcases this with rfl | rfl | rfl | rfl | rfl <;> rfl
theorem enterCiting_c (hc : σ.1 2 = nI m) (hm : m < 60) (F c a3 a4 : Int32) : ∃ σ', P_X2_enterCiting σ F c a3 a4 = some (.inl (nI m), σ') ∧ NewS m F c a3 a4 (-1) (-1) σ σ' := by
  obtain ⟨s, e1, p1, p2, p3, p4, p5, p6, p7, p8, p9, p10, p11, p12, p13, p14⟩ := enter_c hc hm F c
  unfold P_X2_enterCiting
  rw [e1, bd_some]
  simp only [lt_def, rput_in (show m < 60 from hm) (by decide : (60 : Nat) < 2147483648)]
  refine ⟨_, rfl, p1, p2, p3, p4, p5, ?_, ?_, p8, p9, p10, p11, fun k h1 h2 => ?_, p13, fun k h1 => ?_⟩
  · show upd (s.2 11) m a3 = _
    rw [p6, upd_upd]
  · show upd (s.2 12) m a4 = _
    rw [p7, upd_upd]
  · rw [sR_2, if_neg (by omega), sR_2, if_neg (by omega)]
    exact p12 k h1 h2
  · rw [sR_2, if_neg (by omega), sR_2, if_neg (by omega)]
    exact p14 k h1
theorem citeBoxes_c (hm : m < 60) {F c a3 a4 b5 b6 : Int32} {s : DS} (h : NewS m F c a3 a4 b5 b6 σ s) (a5 a6 : Int32) : ∃ σ', P_X2_citeBoxes s (nI m) a5 a6 = some (.inl (), σ') ∧ NewS m F c a3 a4 a5 a6 σ σ' := by
  obtain ⟨p1, p2, p3, p4, p5, p6, p7, p8, p9, p10, p11, p12, p13, p14⟩ := h
  unfold P_X2_citeBoxes
  simp only [lt_def, rput_in (show m < 60 from hm) (by decide : (60 : Nat) < 2147483648)]
  refine ⟨_, rfl, p1, p2, p3, p4, p5, p6, p7, ?_, ?_, p10, p11, fun k h1 h2 => ?_, p13, fun k h1 => ?_⟩
  · show upd (s.2 13) m a5 = _
    rw [p8, upd_upd]
  · show upd (s.2 14) m a6 = _
    rw [p9, upd_upd]
  · rw [sR_2, if_neg (by omega), sR_2, if_neg (by omega)]
    exact p12 k h1 h2
  · rw [sR_2, if_neg (by omega), sR_2, if_neg (by omega)]
    exact p14 k h1
theorem enters_t (hc : τ.1 1 = nI m) (hm : m < 60) (hi : IxN 60 (τ.1 3)) (F : Int32) {c : Int32} (hr : c ∈ rulesL) (a3 a4 a5 a6 : Int32) : ∃ τ', P_X7_enters τ F c a3 a4 a5 a6 = some (.inl (nI m), τ') ∧ NewT m F c a3 a4 a5 a6 τ τ' := by
  unfold P_X7_enters
  simp only [lt_def, tI1, tI2, tA1, tA2, tA3, tC1, tC2, tC3, tC4, Nat.reduceEqDiff, if_false, if_true, hc, gd_in (show m < 60 from hm) (by decide : (60 : Nat) < 2147483648), gd_0, gd_1, gd_2, gd_3, cl_0, cl_1, cl_2, cl_3, ni_cl (show m < 2147483648 by omega), rule_nar c hr]
  unfold B_X7_enters_110
  rcases hi with hi | ⟨b, hb, hi⟩
  · rw [if_pos hi, lt_def]
    refine ⟨_, congrArg (fun v => (some (.inl v, _) : Res MS Int32)) (show (τ.1 1 + 1) - 1 = nI m by rw [hc, ni_add1, nI_pred]), ?_⟩
    refine ⟨show τ.1 1 + 1 = _ by rw [hc, ni_add1], fun k h1 h2 => ?_, rfl, rfl, rfl, (if_pos hi).symm, fun k hk => ?_, fun k hk => ?_, ?_, ?_, ?_, ?_, rfl, rfl, rfl, fun k hk => ?_⟩
    · have : k = 2 ∨ k = 3 ∨ k = 4 := by omega
      rcases this with rfl | rfl | rfl <;> rfl
    · rcases hk with rfl | rfl | rfl | rfl | rfl | rfl <;> rfl
    · simp only [tI2, tA3, tC3, if_neg hk]
    · simp only [tI2, tA3, tC3, if_true]; rfl
    · simp only [tI2, tA3, tC3, if_true]; rfl
    · simp only [tI2, tA3, tC3, if_true]; rfl
    · simp only [tI2, tA3, tC3, if_true]; rfl
    · have : k = 0 ∨ k = 1 ∨ k = 2 ∨ k = 3 ∨ k = 4 := by omega
      rcases this with rfl | rfl | rfl | rfl | rfl <;> rfl
  · rw [hi, if_neg (ni_ne (by omega)), gd_in hb (by decide), ni_cl (by omega), lt_def]
    refine ⟨_, congrArg (fun v => (some (.inl v, _) : Res MS Int32)) (show (τ.1 1 + 1) - 1 = nI m by rw [hc, ni_add1, nI_pred]), ?_⟩
    refine ⟨show τ.1 1 + 1 = _ by rw [hc, ni_add1], fun k h1 h2 => ?_, rfl, rfl, by rw [hi]; rfl, by rw [hi, if_neg (ni_ne (by omega)), ni_cl (by omega)]; rfl, fun k hk => ?_, fun k hk => ?_, ?_, ?_, ?_, ?_, rfl, rfl, rfl, fun k hk => ?_⟩
    · have : k = 2 ∨ k = 3 ∨ k = 4 := by omega
      rcases this with rfl | rfl | rfl <;> rfl
    · rcases hk with rfl | rfl | rfl | rfl | rfl | rfl <;> rfl
    · simp only [tI2, tA3, tC3, if_neg hk]
    · simp only [tI2, tA3, tC3, if_true]; rfl
    · simp only [tI2, tA3, tC3, if_true]; rfl
    · simp only [tI2, tA3, tC3, if_true]; rfl
    · simp only [tI2, tA3, tC3, if_true]; rfl
    · have : k = 0 ∨ k = 1 ∨ k = 2 ∨ k = 3 ∨ k = 4 := by omega
      rcases this with rfl | rfl | rfl | rfl | rfl <;> rfl
theorem new_rel (hF : FW n σ τ) (h : RW n m q e σ τ) (hm : m < 60) {f : Nat} (hf : f < n) {c a3 a4 a5 a6 : Int32} (hc : c ∈ rulesL) (h3 : IxN 60 a3) (h4 : IxN 60 a4) (h5 : IxN q a5) (h6 : IxN q a6) {σ' : DS} {τ' : MS} (hs : NewS m (nI f) c a3 a4 a5 a6 σ σ') (ht : NewT m (nI f) c a3 a4 a5 a6 τ τ') : Rel σ' τ' := by
  obtain ⟨p1, p2, p3, p4, p5, p6, p7, p8, p9, p10, p11, p12, p13, p14⟩ := hs
  obtain ⟨t1, t2, t3, t4, t5, t6, t7, t8, t9, t10, t11, t12, t13, t14, t15, t16⟩ := ht
  exact ⟨n, m + 1, q, e, hF.scr p13 p14 t14 t16, lines_new h hm hf hc h3 h4 h5 h6 p1 p2 p3 p4 p5 p6 p7 p8 p9 p10 p11 p12 t1 t2 t3 t4 t5 t6 t7 t8 t9 t10 t11 t12 t13⟩
/-- a line that cites lines -/
theorem cite_ok (hF : FW n σ τ) (h : RW n m q e σ τ) (hm : m < 60) {f : Nat} (hf : f < n) {c a3 a4 : Int32} (hc : c ∈ rulesL) (h3 : IxN 60 a3) (h4 : IxN 60 a4) : ∃ σ' τ', P_X2_enterCiting σ (nI f) c a3 a4 = some (.inl (nI m), σ') ∧ P_X7_enters τ (nI f) c a3 a4 (-1) (-1) = some (.inl (nI m), τ') ∧ τ'.1 5 = 0 ∧ Rel σ' τ' := by
  obtain ⟨σ', e1, q1⟩ := enterCiting_c h.mc hm (nI f) c a3 a4
  obtain ⟨τ', e2, q2⟩ := enters_t h.mc7 hm (h.inx.mono h.q60) (nI f) hc a3 a4 (-1) (-1)
  exact ⟨σ', τ', e1, e2, q2.2.2.2.2.2.2.2.2.2.2.2.2.2.2.1, new_rel hF h hm hf hc h3 h4 (Or.inl rfl) (Or.inl rfl) q1 q2⟩
/-- a line that cites nothing -/
theorem plain_ok (hF : FW n σ τ) (h : RW n m q e σ τ) (hm : m < 60) {f : Nat} (hf : f < n) {c : Int32} (hc : c ∈ rulesL) : ∃ σ' τ', P_X2_enter σ (nI f) c = some (.inl (nI m), σ') ∧ P_X7_enters τ (nI f) c (-1) (-1) (-1) (-1) = some (.inl (nI m), τ') ∧ τ'.1 5 = 0 ∧ Rel σ' τ' := by
  obtain ⟨σ', e1, q1⟩ := enter_c h.mc hm (nI f) c
  obtain ⟨τ', e2, q2⟩ := enters_t h.mc7 hm (h.inx.mono h.q60) (nI f) hc (-1) (-1) (-1) (-1)
  exact ⟨σ', τ', e1, e2, q2.2.2.2.2.2.2.2.2.2.2.2.2.2.2.1, new_rel hF h hm hf hc (Or.inl rfl) (Or.inl rfl) (Or.inl rfl) (Or.inl rfl) q1 q2⟩
/-- a line that cites a line and two boxes -/
theorem citeB_ok (hF : FW n σ τ) (h : RW n m q e σ τ) (hm : m < 60) {f : Nat} (hf : f < n) {c a3 a4 a5 a6 : Int32} (hc : c ∈ rulesL) (h3 : IxN 60 a3) (h4 : IxN 60 a4) (h5 : IxN q a5) (h6 : IxN q a6) : ∃ s σ' τ', P_X2_enterCiting σ (nI f) c a3 a4 = some (.inl (nI m), s) ∧ P_X2_citeBoxes s (nI m) a5 a6 = some (.inl (), σ') ∧ P_X7_enters τ (nI f) c a3 a4 a5 a6 = some (.inl (nI m), τ') ∧ τ'.1 5 = 0 ∧ Rel σ' τ' := by
  obtain ⟨s, e1, q1⟩ := enterCiting_c h.mc hm (nI f) c a3 a4
  obtain ⟨σ', e3, q3⟩ := citeBoxes_c hm q1 a5 a6
  obtain ⟨τ', e2, q2⟩ := enters_t h.mc7 hm (h.inx.mono h.q60) (nI f) hc a3 a4 a5 a6
  exact ⟨s, σ', τ', e1, e3, e2, q2.2.2.2.2.2.2.2.2.2.2.2.2.2.2.1, new_rel hF h hm hf hc h3 h4 h5 h6 q3 q2⟩
theorem plainB_ok (hF : FW n σ τ) (h : RW n m q e σ τ) (hm : m < 60) {f : Nat} (hf : f < n) {c a5 a6 : Int32} (hc : c ∈ rulesL) (h5 : IxN q a5) (h6 : IxN q a6) : ∃ s σ' τ', P_X2_enter σ (nI f) c = some (.inl (nI m), s) ∧ P_X2_citeBoxes s (nI m) a5 a6 = some (.inl (), σ') ∧ P_X7_enters τ (nI f) c (-1) (-1) a5 a6 = some (.inl (nI m), τ') ∧ τ'.1 5 = 0 ∧ Rel σ' τ' := by
  obtain ⟨s, e1, q1⟩ := enter_c h.mc hm (nI f) c
  obtain ⟨σ', e3, q3⟩ := citeBoxes_c hm q1 a5 a6
  obtain ⟨τ', e2, q2⟩ := enters_t h.mc7 hm (h.inx.mono h.q60) (nI f) hc (-1) (-1) a5 a6
  exact ⟨s, σ', τ', e1, e3, e2, q2.2.2.2.2.2.2.2.2.2.2.2.2.2.2.1, new_rel hF h hm hf hc (Or.inl rfl) (Or.inl rfl) h5 h6 q3 q2⟩
end NEWL
