/-! LINES AND BOXES: both sides -/
section LINES
variable {n m q e : Nat} {σ : DS} {τ : MS}
theorem tI1 (τ : MS) (k : Nat) (v : Int32) (j : Nat) : (tI τ k v).1 j = if j = k then v else τ.1 j := up1_at τ.1 k v j
theorem tI2 (τ : MS) (k : Nat) (v : Int32) : (tI τ k v).2 = τ.2 := rfl
theorem tA1 (τ : MS) (k : Nat) (f : Nat → Int32) : (tA τ k f).1 = τ.1 := rfl
theorem tA2 (τ : MS) (k : Nat) (f : Nat → Int32) (j : Nat) : (tA τ k f).2.1 j = if j = k then f else τ.2.1 j := up1_at τ.2.1 k f j
theorem tA3 (τ : MS) (k : Nat) (f : Nat → Int32) : (tA τ k f).2.2 = τ.2.2 := rfl
theorem tC1 (τ : MS) (k : Nat) (f : Nat → Int32) : (tC τ k f).1 = τ.1 := rfl
theorem tC2 (τ : MS) (k : Nat) (f : Nat → Int32) : (tC τ k f).2.1 = τ.2.1 := rfl
theorem tC3 (τ : MS) (k : Nat) (f : Nat → Int32) (j : Nat) : (tC τ k f).2.2.1 j = if j = k then f else τ.2.2.1 j := up1_at τ.2.2.1 k f j
theorem tC4 (τ : MS) (k : Nat) (f : Nat → Int32) : (tC τ k f).2.2.2 = τ.2.2.2 := rfl
theorem gd_0 {β : Type} (k : Option β) : gd (0 : Int32) 4 k = k := gd_in (a := 0) (by decide) (by decide) k
theorem gd_1 {β : Type} (k : Option β) : gd (1 : Int32) 4 k = k := gd_in (a := 1) (by decide) (by decide) k
theorem gd_2 {β : Type} (k : Option β) : gd (2 : Int32) 4 k = k := gd_in (a := 2) (by decide) (by decide) k
theorem gd_3 {β : Type} (k : Option β) : gd (3 : Int32) 4 k = k := gd_in (a := 3) (by decide) (by decide) k
theorem cl_0 : (0 : Int32).toNatClampNeg = 0 := by decide
theorem cl_1 : (1 : Int32).toNatClampNeg = 1 := by decide
theorem cl_2 : (2 : Int32).toNatClampNeg = 2 := by decide
theorem cl_3 : (3 : Int32).toNatClampNeg = 3 := by decide
theorem RW.l (h : RW n m q e σ τ) : LW n m q σ τ := h.1
theorem RW.m60 (h : RW n m q e σ τ) : m ≤ 60 := h.1.1
theorem RW.q60 (h : RW n m q e σ τ) : q ≤ 60 := Nat.le_trans h.1.2.1 h.1.1
theorem RW.mc (h : RW n m q e σ τ) : σ.1 2 = nI m := h.1.2.2.1
theorem RW.mc7 (h : RW n m q e σ τ) : τ.1 1 = nI m := h.1.2.2.2.1
theorem RW.qc (h : RW n m q e σ τ) : σ.1 3 = nI q := h.1.2.2.2.2.1
theorem RW.qc7 (h : RW n m q e σ τ) : τ.1 2 = nI q := h.1.2.2.2.2.2.1
theorem RW.inn (h : RW n m q e σ τ) : σ.1 4 = τ.1 3 := h.1.2.2.2.2.2.2.1
theorem RW.inx (h : RW n m q e σ τ) : IxN q (τ.1 3) := h.1.2.2.2.2.2.2.2.1
theorem RW.ln (h : RW n m q e σ τ) {k : Nat} (hk : k < m) : LnE n q σ τ k := h.1.2.2.2.2.2.2.2.2.1 k hk
theorem RW.bx (h : RW n m q e σ τ) {b : Nat} (hb : b < q) : BxE m σ τ b := h.1.2.2.2.2.2.2.2.2.2 b hb
theorem RW.ec (h : RW n m q e σ τ) : σ.1 5 = nI e := h.2.1.2.1
theorem RW.ec7 (h : RW n m q e σ τ) : τ.1 4 = nI e := h.2.1.2.2.1
theorem RW.e8 (h : RW n m q e σ τ) : e ≤ 8 := h.2.1.1
theorem line_in (h : RW n m q e σ τ) {k : Nat} (hk : k < m) : F_X2_hasLine σ (nI k) = 1 := by
  have := h.m60
  unfold F_X2_hasLine
  rw [h.mc, if_neg (nI_pos (by omega)), if_neg (nI_ge hk (by omega))]
theorem line_no (h : RW n m q e σ τ) {a : Int32} (ha : a < 0 ∨ (¬ a < 0 ∧ nI m ≤ a)) : F_X2_hasLine σ a = 0 := by
  unfold F_X2_hasLine
  rw [h.mc]
  rcases ha with ha | ⟨h0, ha⟩
  · rw [if_pos ha]
  · rw [if_neg h0, if_pos ha]
theorem box_in (h : RW n m q e σ τ) {k : Nat} (hk : k < q) : F_X2_hasBox σ (nI k) = 1 := by
  have := h.q60
  unfold F_X2_hasBox
  rw [h.qc, if_neg (nI_pos (by omega)), if_neg (nI_ge hk (by omega))]
theorem box_no (h : RW n m q e σ τ) {a : Int32} (ha : a < 0 ∨ (¬ a < 0 ∧ nI q ≤ a)) : F_X2_hasBox σ a = 0 := by
  unfold F_X2_hasBox
  rw [h.qc]
  rcases ha with ha | ⟨h0, ha⟩
  · rw [if_pos ha]
  · rw [if_neg h0, if_pos ha]
theorem isL_in (h : RW n m q e σ τ) {k : Nat} (hk : k < m) : F_X7_isLine τ (nI k) = 1 := by
  have := h.m60
  unfold F_X7_isLine
  rw [h.mc7]
  exact in_yes hk (by omega)
theorem isL_no (h : RW n m q e σ τ) {a : Int32} (ha : a < 0 ∨ (¬ a < 0 ∧ nI m ≤ a)) : F_X7_isLine τ a = 0 := by
  have := h.m60
  unfold F_X7_isLine
  rw [h.mc7]
  exact in_no (by omega) ha
theorem isB_in (h : RW n m q e σ τ) {k : Nat} (hk : k < q) : F_X7_isBox τ (nI k) = 1 := by
  have := h.q60
  unfold F_X7_isBox
  rw [h.qc7]
  exact in_yes hk (by omega)
theorem isB_no (h : RW n m q e σ τ) {a : Int32} (ha : a < 0 ∨ (¬ a < 0 ∧ nI q ≤ a)) : F_X7_isBox τ a = 0 := by
  have := h.q60
  unfold F_X7_isBox
  rw [h.qc7]
  exact in_no (by omega) ha
theorem reqL_in (h : RW n m q e σ τ) {k : Nat} (hk : k < m) : P_X6_requireLine σ (nI k) = some (.inl (), σ) := by
  unfold P_X6_requireLine
  rw [line_in h hk, if_neg (by decide)]
theorem reqL_no (h : RW n m q e σ τ) {a : Int32} (ha : a < 0 ∨ (¬ a < 0 ∧ nI m ≤ a)) : P_X6_requireLine σ a = some (.inr "java/lang/IndexOutOfBoundsException", σ) := by
  unfold P_X6_requireLine
  rw [line_no h ha, if_pos rfl]
theorem reqB_in (h : RW n m q e σ τ) {k : Nat} (hk : k < q) : P_X6_requireBox σ (nI k) = some (.inl (), σ) := by
  unfold P_X6_requireBox
  rw [box_in h hk, if_neg (by decide)]
theorem reqB_no (h : RW n m q e σ τ) {a : Int32} (ha : a < 0 ∨ (¬ a < 0 ∧ nI q ≤ a)) : P_X6_requireBox σ a = some (.inr "java/lang/IndexOutOfBoundsException", σ) := by
  unfold P_X6_requireBox
  rw [box_no h ha, if_pos rfl]
theorem form_in (h : RW n m q e σ τ) {k : Nat} (hk : k < m) : F_X2_formula σ (nI k) = τ.2.1 6 k := by
  have := h.m60
  unfold F_X2_formula
  rw [rat_in (by omega) (by decide), (h.ln hk).1]
theorem form_ix (h : RW n m q e σ τ) {k : Nat} (hk : k < m) : ∃ f, f < n ∧ τ.2.1 6 k = nI f := (h.ln hk).2.1
theorem rule_in (h : RW n m q e σ τ) {k : Nat} (hk : k < m) : F_X2_rule σ (nI k) = τ.2.1 7 k := by
  have := h.m60
  unfold F_X2_rule
  rw [rat_in (by omega) (by decide), (h.ln hk).2.2.1]
  exact rule_ch _ (h.ln hk).2.2.2.1
theorem inn_in (h : RW n m q e σ τ) {k : Nat} (hk : k < m) : F_X2_innermostOf σ (nI k) = τ.2.1 8 k := by
  have := h.m60
  unfold F_X2_innermostOf
  rw [rat_in (by omega) (by decide), (h.ln hk).2.2.2.2.1]
/-- is a box open, or is there none -/
theorem open_ix (h : RW n m q e σ τ) {v : Int32} (hv : IxN q v) : (v = -1 ∧ F_X2_isOpenOrNone σ v = 1) ∨ ∃ b, b < q ∧ v = nI b ∧ F_X2_isOpenOrNone σ v = τ.2.1 10 b ∧ (τ.2.1 10 b = 0 ∨ τ.2.1 10 b = 1) := by
  have := h.q60
  unfold F_X2_isOpenOrNone
  rcases hv with rfl | ⟨b, hb, rfl⟩
  · exact Or.inl ⟨rfl, if_pos rfl⟩
  · obtain ⟨-, -, -, -, -, -, e1, e2⟩ := h.bx hb
    refine Or.inr ⟨b, hb, rfl, ?_, e2⟩
    rw [if_neg (ni_ne (by omega)), rat_in (by omega) (by decide), e1]
    rcases e2 with e2 | e2 <;> rw [e2]
    · exact if_neg (by decide)
    · exact if_pos rfl
theorem cit_ok (h : RW n m q e σ τ) {k : Nat} (hk : k < m) : ∃ c : Int32, (c = 0 ∨ c = 1) ∧ F_X2_isCitable σ (nI k) = c ∧ P_X7_mayCite τ (nI k) = some (.inl c, τ) := by
  have := h.m60
  have := h.q60
  unfold F_X2_isCitable P_X7_mayCite
  rw [inn_in h hk, gd_in (by omega) (by decide), ni_cl (by omega)]
  rcases open_ix h (h.ln hk).2.2.2.2.2.1 with ⟨e1, e2⟩ | ⟨b, hb, e1, e2, e3⟩
  · exact ⟨1, Or.inr rfl, e2, if_pos e1⟩
  · refine ⟨τ.2.1 10 b, e3, e2, ?_⟩
    rw [e1, if_neg (ni_ne (by omega)), gd_in (by omega) (by decide), gd_in (by omega) (by decide), ni_cl (by omega)]
    rcases e3 with e3 | e3 <;> rw [e3]
    · exact if_pos rfl
    · exact if_neg (by decide)
theorem citB_ok (h : RW n m q e σ τ) {b : Nat} (hb : b < q) : ∃ c : Int32, (c = 0 ∨ c = 1) ∧ F_X2_isCitableBox σ (nI b) = c ∧ P_X7_mayCiteBox τ (nI b) = some (.inl c, τ) := by
  have := h.q60
  obtain ⟨-, -, -, -, o1, o2, e1, e2⟩ := h.bx hb
  unfold F_X2_isCitableBox P_X7_mayCiteBox
  rw [rat_in (by omega) (by decide), rat_in (by omega) (by decide), e1, o1, gd_in (by omega) (by decide), ni_cl (by omega)]
  rcases e2 with e2 | e2 <;> rw [e2]
  · rw [if_pos rfl, if_pos rfl, gd_in (by omega) (by decide)]
    rcases open_ix h (o2.mono (by omega : b ≤ q)) with ⟨f1, f2⟩ | ⟨b', hb', f1, f2, f3⟩
    · exact ⟨1, Or.inr rfl, by rw [f2]; exact if_neg (by decide), if_pos f1⟩
    · refine ⟨τ.2.1 10 b', f3, ?_, ?_⟩
      · rw [f2]
        rcases f3 with f3 | f3 <;> rw [f3] <;> decide
      · rw [f1, if_neg (ni_ne (by omega)), gd_in (by omega) (by decide), gd_in (by omega) (by decide), ni_cl (by omega)]
        rcases f3 with f3 | f3 <;> rw [f3]
        · exact if_pos rfl
        · exact if_neg (by decide)
  · exact ⟨0, Or.inl rfl, if_neg (by decide), if_neg (by decide)⟩
theorem begin_in (h : RW n m q e σ τ) {b : Nat} (hb : b < q) : ∃ k f, k < m ∧ f < n ∧ τ.2.1 11 b = nI k ∧ τ.2.1 6 k = nI f ∧ F_X2_begin σ (nI b) = nI f := by
  have := h.q60
  obtain ⟨o1, ⟨k, hk, o2⟩, -⟩ := h.bx hb
  obtain ⟨f, hf, e1⟩ := form_ix h hk
  refine ⟨k, f, hk, hf, o2, e1, ?_⟩
  unfold F_X2_begin
  rw [rat_in (by omega) (by decide), o1, o2, form_in h hk, e1]
theorem result_in (h : RW n m q e σ τ) {b : Nat} (hb : b < q) : ∃ f, f < n ∧ F_X2_result σ (nI b) = nI f ∧ P_X7_result τ (nI b) = some (.inl (nI f), τ) := by
  have := h.q60
  have := h.m60
  obtain ⟨-, -, o1, ⟨k, hk, o2⟩, -⟩ := h.bx hb
  obtain ⟨f, hf, e1⟩ := form_ix h hk
  refine ⟨f, hf, ?_, ?_⟩
  · unfold F_X2_result
    rw [rat_in (by omega) (by decide), o1, o2, form_in h hk, e1]
  · unfold P_X7_result
    rw [gd_in (by omega) (by decide), ni_cl (by omega), o2, gd_in (by omega) (by decide), ni_cl (by omega), e1]
/-- one line more -/
theorem lines_new (h : RW n m q e σ τ) (hm : m < 60) {f : Nat} (hf : f < n) {c a3 a4 a5 a6 : Int32} (hc : c ∈ rulesL) (h3 : IxN 60 a3) (h4 : IxN 60 a4) (h5 : IxN q a5) (h6 : IxN q a6) {σ' : DS} {τ' : MS}
    (s2 : σ'.1 2 = nI (m + 1)) (s3 : ∀ k, 3 ≤ k → k ≤ 5 → σ'.1 k = σ.1 k) (r8 : σ'.2 8 = upd (σ.2 8) m (nI f)) (r9 : σ'.2 9 = upd (σ.2 9) m c) (r10 : σ'.2 10 = upd (σ.2 10) m (σ.1 4)) (r11 : σ'.2 11 = upd (σ.2 11) m a3) (r12 : σ'.2 12 = upd (σ.2 12) m a4) (r13 : σ'.2 13 = upd (σ.2 13) m a5) (r14 : σ'.2 14 = upd (σ.2 14) m a6) (r16 : σ'.2 16 = σ.2 16) (r17 : σ'.2 17 = rput 60 (σ.2 17) (σ.1 4) (nI m)) (r18 : ∀ k, 18 ≤ k → k ≤ 24 → σ'.2 k = σ.2 k)
    (t1 : τ'.1 1 = nI (m + 1)) (t2 : ∀ k, 2 ≤ k → k ≤ 4 → τ'.1 k = τ.1 k) (u6 : τ'.2.1 6 = upd (τ.2.1 6) m (nI f)) (u7 : τ'.2.1 7 = upd (τ.2.1 7) m c) (u8 : τ'.2.1 8 = upd (τ.2.1 8) m (τ.1 3)) (u12 : τ'.2.1 12 = if τ.1 3 = -1 then τ.2.1 12 else upd (τ.2.1 12) (τ.1 3).toNatClampNeg (nI m)) (u9 : ∀ k, k = 5 ∨ k = 9 ∨ k = 10 ∨ k = 11 ∨ k = 13 ∨ k = 14 → τ'.2.1 k = τ.2.1 k)
    (v1 : ∀ k, k ≠ m → τ'.2.2.1 k = τ.2.2.1 k) (w0 : τ'.2.2.1 m 0 = a3) (w1 : τ'.2.2.1 m 1 = a4) (w2 : τ'.2.2.1 m 2 = a5) (w3 : τ'.2.2.1 m 3 = a6) (v2 : τ'.2.2.2 = τ.2.2.2) : RW n (m + 1) q e σ' τ' := by
  obtain ⟨⟨l1, l2, l3, l4, l5, l6, l7, l8, l9, l10⟩, ⟨e1, e2, e3, e4⟩, b⟩ := h
  refine ⟨⟨by omega, by omega, s2, t1, by rw [s3 3 (by decide) (by decide)]; exact l5, by rw [t2 2 (by decide) (by decide)]; exact l6, by rw [s3 4 (by decide) (by decide), t2 3 (by decide) (by decide)]; exact l7, by rw [t2 3 (by decide) (by decide)]; exact l8, fun k hk => ?_, fun b hb => ?_⟩, ⟨e1, by rw [s3 5 (by decide) (by decide)]; exact e2, by rw [t2 4 (by decide) (by decide)]; exact e3, fun j hj => ?_⟩, fun j hj => ?_⟩
  · by_cases hkm : k = m
    · subst hkm
      unfold LnE
      rw [r8, r9, r10, r11, r12, r13, r14, u6, u7, u8, w0, w1, w2, w3, upd_eq, upd_eq, upd_eq, upd_eq, upd_eq, upd_eq, upd_eq, upd_eq, upd_eq, upd_eq]
      exact ⟨rfl, ⟨f, hf, rfl⟩, rfl, hc, l7, l8, rfl, rfl, rfl, rfl, h3, h4, h5, h6⟩
    · unfold LnE
      rw [r8, r9, r10, r11, r12, r13, r14, u6, u7, u8, v1 k hkm, upd_ne _ hkm, upd_ne _ hkm, upd_ne _ hkm, upd_ne _ hkm, upd_ne _ hkm, upd_ne _ hkm, upd_ne _ hkm, upd_ne _ hkm, upd_ne _ hkm, upd_ne _ hkm]
      exact l9 k (by omega)
  · obtain ⟨p1, ⟨k1, hk1, p2⟩, p3, ⟨k2, hk2, p4⟩, p5, p6, p7, p8⟩ := l10 b hb
    unfold BxE
    rw [r16, r17, r18 18 (by decide) (by decide), r18 19 (by decide) (by decide), u9 11 (by decide), u9 9 (by decide), u9 10 (by decide), u12, l7]
    refine ⟨p1, ⟨k1, by omega, p2⟩, ?_, ?_, p5, p6, p7, p8⟩
    · rcases l8 with e9 | ⟨b', hb', e9⟩
      · rw [e9, rput_m1, if_pos rfl]; exact p3
      · rw [e9, rput_in (by omega) (by decide), if_neg (ni_ne (by omega)), ni_cl (by omega)]
        by_cases hbb : b = b'
        · subst hbb; rw [upd_eq, upd_eq]
        · rw [upd_ne _ hbb, upd_ne _ hbb]; exact p3
    · rcases l8 with e9 | ⟨b', hb', e9⟩
      · rw [e9, if_pos rfl]; exact ⟨k2, by omega, p4⟩
      · rw [e9, if_neg (ni_ne (by omega)), ni_cl (by omega)]
        by_cases hbb : b = b'
        · subst hbb; rw [upd_eq]; exact ⟨m, by omega, rfl⟩
        · rw [upd_ne _ hbb]; exact ⟨k2, by omega, p4⟩
  · obtain ⟨c, p1, p2, p3, p4, p5, p6, f, hf, p7⟩ := e4 j hj
    unfold LmE
    rw [r18 20 (by decide) (by decide), r18 21 (by decide) (by decide), r18 22 (by decide) (by decide), r18 23 (by decide) (by decide), u9 13 (by decide), u9 14 (by decide), v2]
    exact ⟨c, p1, p2, p3, p4, p5, p6, f, hf, p7⟩
  · rw [r18 24 (by decide) (by decide), u9 5 (by decide)]
    exact b j hj
end LINES
