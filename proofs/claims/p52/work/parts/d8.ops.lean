/-! THE LINES THAT ARE ENTERED stay sound -/
def XE : List String := ["java/lang/IndexOutOfBoundsException", "java/util/NoSuchElementException", "java/lang/UnsupportedOperationException", "java/lang/IllegalStateException"]
/-- a call that enters a line: it throws and changes nothing, or enters a sound one -/
def OpR (τ : MS) (x : Res DS Int32) : Prop := (∃ E σ', x = some (.inr E, σ') ∧ E ∈ XE ∧ Rel σ' τ) ∨ ∃ σ' τ', x = some (.inl (nI (nLn τ)), σ') ∧ Rel σ' τ' ∧ SI τ' ∧ nLn τ' = nLn τ + 1 ∧ citT τ' (nLn τ) = true
section OPS
variable {n m q e : Nat} {σ σ' : DS} {τ τ' : MS}
theorem OpR.xi {x : Res DS Int32} (hσ : Rel σ τ) (h : x = some (.inr "java/lang/IndexOutOfBoundsException", σ)) : OpR τ x := Or.inl ⟨_, _, h, by decide, hσ⟩
theorem OpR.xn {x : Res DS Int32} (hσ : Rel σ τ) (h : x = some (.inr "java/util/NoSuchElementException", σ)) : OpR τ x := Or.inl ⟨_, _, h, by decide, hσ⟩
theorem OpR.xu {x : Res DS Int32} (hσ : Rel σ τ) (h : x = some (.inr "java/lang/UnsupportedOperationException", σ)) : OpR τ x := Or.inl ⟨_, _, h, by decide, hσ⟩
theorem OpR.xs {x : Res DS Int32} (hσ : Rel σ τ) (h : x = some (.inr "java/lang/IllegalStateException", σ)) : OpR τ x := Or.inl ⟨_, _, h, by decide, hσ⟩
theorem enter_m1 (h : FW n σ τ) {c l r : Int32} (hs : Shp n c l r) (e : P_X0_enter σ c l r = some (.inl (-1), σ')) : σ' = σ := by
  have hle := h.le
  obtain ⟨wl, hl, -⟩ := WdI.of h hs.l
  obtain ⟨wr, hr, -⟩ := WdI.of h hs.r
  have sl := (size_wd h hl).1
  have sr := (size_wd h hr).1
  have ll := (size_wd h hl).2
  have lr := (size_wd h hr).2
  obtain ⟨v, f1, f2, f3⟩ := find_ok h c l r
  unfold P_X0_enter at e
  rw [f1, bd_some, lt_def, sl, sr, show (1 : Int32) + nI wl.length = nI (1 + wl.length) from ni_add 1 _, ni_add, show (30 : Int32) = nI 30 from rfl] at e
  rcases f3 with ⟨rfl, hno⟩ | ⟨f, hf, rfl, -⟩
  · rw [if_pos rfl] at e
    unfold B_X0_enter_41 at e
    by_cases h30 : 1 + wl.length + wr.length ≤ 30
    · rw [if_pos (nI_le h30 (by decide)), lt_def, if_pos rfl, h.cnt, show (150 : Int32) = nI 150 from rfl] at e
      by_cases h150 : n < 150
      · rw [if_pos (nI_lt h150 (by decide))] at e
        obtain ⟨s, q1, -⟩ := add_ok h h150 hs hl hr h30
        rw [q1, bd_some] at e
        have e1 := Sum.inl.inj (congrArg Prod.fst (Option.some.inj e))
        exact absurd e1 (ni_ne (by omega))
      · rw [if_neg (nI_nlt (by omega) (by omega))] at e
        exact (congrArg Prod.snd (Option.some.inj e)).symm
    · rw [if_neg (nI_ge (by omega) (by omega)), lt_def, if_neg i10] at e
      exact (congrArg Prod.snd (Option.some.inj e)).symm
  · rw [if_neg (ni_ne (by omega))] at e
    have e1 := Sum.inl.inj (congrArg Prod.fst (Option.some.inj e))
    exact absurd e1 (ni_ne (by omega))
theorem ent_ok (h : FW n σ τ) (hr : RW n m q e σ τ) {c l r : Int32} (hs : Shp n c l r) : (∃ (σ1 : DS) (τ1 : MS) (n' f : Nat), P_X0_enter σ c l r = some (.inl (nI f), σ1) ∧ f < n' ∧ n ≤ n' ∧ FW n' σ1 τ1 ∧ RW n' m q e σ1 τ1 ∧ Ext n τ τ1 ∧ Kn τ1 f = c ∧ Lf τ1 f = l ∧ Rt τ1 f = r) ∨ P_X0_enter σ c l r = some (.inl (-1), σ) := by
  obtain ⟨v, n', σ1, τ1, e1, e2, hF, hn, hs', ht', hv⟩ := enter_ok h hs
  rcases hv with rfl | ⟨f, hf, rfl, k1, k2, k3⟩
  · have := enter_m1 h hs e1
    subst this
    exact Or.inr e1
  · exact Or.inl ⟨σ1, τ1, n', f, e1, hf, hn, hF, hr.of hn hs'.pp ht'.pp, ⟨ht'.xt, ht'.pp⟩, k1, k2, k3⟩
theorem cit_ext (h : PPt τ τ') (k : Nat) : citT τ' k = citT τ k := by
  unfold citT
  rw [h.2.1 8 (by decide) (by decide), h.2.1 10 (by decide) (by decide)]
theorem cgate (hr : RW n m q e σ τ) (a : Int32) : (∃ k, k < m ∧ a = nI k ∧ P_X6_requireLine σ a = some (.inl (), σ) ∧ P_X6_requireCitable σ a = some (.inl (), σ) ∧ citT τ k = true) ∨ (∃ k, k < m ∧ a = nI k ∧ P_X6_requireLine σ a = some (.inl (), σ) ∧ P_X6_requireCitable σ a = some (.inr "java/util/NoSuchElementException", σ)) ∨ P_X6_requireLine σ a = some (.inr "java/lang/IndexOutOfBoundsException", σ) := by
  rcases gate hr a with ⟨k, hk, rfl, e1, e2, -⟩ | ⟨k, hk, rfl, e1, e2, -⟩ | ⟨e1, -⟩
  · refine Or.inl ⟨k, hk, rfl, e1, e2, Classical.byContradiction fun z => ?_⟩
    unfold P_X6_requireCitable at e2
    rw [cit_val hr hk, if_neg z, if_pos rfl] at e2
    cases e2
  · exact Or.inr (Or.inl ⟨k, hk, rfl, e1, e2⟩)
  · exact Or.inr (Or.inr e1)
theorem cgateB (hr : RW n m q e σ τ) (a : Int32) : (∃ k, k < q ∧ a = nI k ∧ P_X6_requireBox σ a = some (.inl (), σ) ∧ P_X6_requireCitableBox σ a = some (.inl (), σ) ∧ citB τ k = true) ∨ (∃ k, k < q ∧ a = nI k ∧ P_X6_requireBox σ a = some (.inl (), σ) ∧ P_X6_requireCitableBox σ a = some (.inr "java/util/NoSuchElementException", σ)) ∨ P_X6_requireBox σ a = some (.inr "java/lang/IndexOutOfBoundsException", σ) := by
  rcases gateB hr a with ⟨k, hk, rfl, e1, e2, -⟩ | ⟨k, hk, rfl, e1, e2, -⟩ | ⟨e1, -⟩
  · refine Or.inl ⟨k, hk, rfl, e1, e2, Classical.byContradiction fun z => ?_⟩
    unfold P_X6_requireCitableBox at e2
    rw [citB_val hr hk, if_neg z, if_pos rfl] at e2
    cases e2
  · exact Or.inr (Or.inl ⟨k, hk, rfl, e1, e2⟩)
  · exact Or.inr (Or.inr e1)
theorem cgate2 (hσ : Rel σ τ) (a b : Int32) : (∃ k k', k < nLn τ ∧ k' < nLn τ ∧ a = nI k ∧ b = nI k' ∧ P_X6_requireTwoLines σ a b = some (.inl (), σ) ∧ citT τ k = true ∧ citT τ k' = true) ∨ ∃ E, P_X6_requireTwoLines σ a b = some (.inr E, σ) ∧ E ∈ XE := by
  obtain ⟨h, hr⟩ := hσ.at
  unfold P_X6_requireTwoLines
  rcases cgate hr a with ⟨k, hk, rfl, e1, e2, e3⟩ | ⟨k, hk, rfl, e1, e2⟩ | e1
  · rcases cgate hr b with ⟨k', hk', rfl, f1, f2, f3⟩ | ⟨k', hk', rfl, f1, f2⟩ | f1
    · exact Or.inl ⟨k, k', hk, hk', rfl, rfl, by rw [e1, bd_some, f1, bd_some, e2, bd_some, f2, bd_some], e3, f3⟩
    · exact Or.inr ⟨_, by rw [e1, bd_some, f1, bd_some, e2, bd_some, f2, bd_exc], by decide⟩
    · exact Or.inr ⟨_, by rw [e1, bd_some, f1, bd_exc], by decide⟩
  · rcases cgate hr b with ⟨k', hk', rfl, f1, f2, f3⟩ | ⟨k', hk', rfl, f1, f2⟩ | f1
    · exact Or.inr ⟨_, by rw [e1, bd_some, f1, bd_some, e2, bd_exc], by decide⟩
    · exact Or.inr ⟨_, by rw [e1, bd_some, f1, bd_some, e2, bd_exc], by decide⟩
    · exact Or.inr ⟨_, by rw [e1, bd_some, f1, bd_exc], by decide⟩
  · exact Or.inr ⟨_, by rw [e1, bd_exc], by decide⟩
theorem fin_line (hF : FW n σ τ) (hr : RW n m q e σ τ) (hm60 : m < 60) (hS : SI τ) {f : Nat} (hf : f < n) {c a3 a4 a5 a6 : Int32} (hc : c ∈ rulesL) (h3 : IxN 60 a3) (h4 : IxN 60 a4) (h5 : IxN q a5) (h6 : IxN q a6) (hs : c ≠ 80 → ∀ v, v < 32 → Pm τ v → Gd τ (τ.1 3) v → Tr τ f v) (hN : NewS m (nI f) c a3 a4 a5 a6 σ σ') : ∃ τ', Rel σ' τ' ∧ SI τ' ∧ nLn τ' = m + 1 ∧ citT τ' m = true := by
  obtain ⟨τ', -, ht⟩ := enters_t hr.mc7 hm60 (hr.inx.mono hr.q60) (nI f) hc a3 a4 a5 a6
  exact ⟨τ', new_rel hF hr hm60 hf hc h3 h4 h5 h6 hN ht, SI.line hF hr hm60 hf ht hS hs⟩
/-- a line that cites lines -/
theorem cite_R (hF : FW n σ τ) (hr : RW n m q e σ τ) (hm60 : m < 60) (hS : SI τ) {f : Nat} (hf : f < n) {c a3 a4 : Int32} (hc : c ∈ rulesL) (h3 : IxN 60 a3) (h4 : IxN 60 a4) (hs : ∀ v, v < 32 → Pm τ v → Gd τ (τ.1 3) v → Tr τ f v) : ∃ σ' τ', P_X2_enterCiting σ (nI f) c a3 a4 = some (.inl (nI m), σ') ∧ Rel σ' τ' ∧ SI τ' ∧ nLn τ' = m + 1 ∧ citT τ' m = true := by
  obtain ⟨σ', e1, hN⟩ := enterCiting_c hr.mc hm60 (nI f) c a3 a4
  obtain ⟨τ', h⟩ := fin_line hF hr hm60 hS hf hc h3 h4 (Or.inl rfl) (Or.inl rfl) (fun _ => hs) hN
  exact ⟨σ', τ', e1, h⟩
/-- one that cites boxes -/
theorem citeB_R (hF : FW n σ τ) (hr : RW n m q e σ τ) (hm60 : m < 60) (hS : SI τ) {f : Nat} (hf : f < n) {c a3 a4 a5 a6 : Int32} (hc : c ∈ rulesL) (h3 : IxN 60 a3) (h4 : IxN 60 a4) (h5 : IxN q a5) (h6 : IxN q a6) (hs : ∀ v, v < 32 → Pm τ v → Gd τ (τ.1 3) v → Tr τ f v) : ∃ s σ' τ', P_X2_enterCiting σ (nI f) c a3 a4 = some (.inl (nI m), s) ∧ P_X2_citeBoxes s (nI m) a5 a6 = some (.inl (), σ') ∧ Rel σ' τ' ∧ SI τ' ∧ nLn τ' = m + 1 ∧ citT τ' m = true := by
  obtain ⟨s, e1, hN⟩ := enterCiting_c hr.mc hm60 (nI f) c a3 a4
  obtain ⟨σ', e2, hN2⟩ := citeBoxes_c hm60 hN a5 a6
  obtain ⟨τ', h⟩ := fin_line hF hr hm60 hS hf hc h3 h4 h5 h6 (fun _ => hs) hN2
  exact ⟨s, σ', τ', e1, e2, h⟩
theorem plainB_R (hF : FW n σ τ) (hr : RW n m q e σ τ) (hm60 : m < 60) (hS : SI τ) {f : Nat} (hf : f < n) {c a5 a6 : Int32} (hc : c ∈ rulesL) (h5 : IxN q a5) (h6 : IxN q a6) (hs : ∀ v, v < 32 → Pm τ v → Gd τ (τ.1 3) v → Tr τ f v) : ∃ s σ' τ', P_X2_enter σ (nI f) c = some (.inl (nI m), s) ∧ P_X2_citeBoxes s (nI m) a5 a6 = some (.inl (), σ') ∧ Rel σ' τ' ∧ SI τ' ∧ nLn τ' = m + 1 ∧ citT τ' m = true := by
  obtain ⟨s, e1, hN⟩ := enter_c hr.mc hm60 (nI f) c
  obtain ⟨σ', e2, hN2⟩ := citeBoxes_c hm60 hN a5 a6
  obtain ⟨τ', h⟩ := fin_line hF hr hm60 hS hf hc (Or.inl rfl) (Or.inl rfl) h5 h6 (fun _ => hs) hN2
  exact ⟨s, σ', τ', e1, e2, h⟩
theorem fo_eq {k f : Nat} (h : τ.2.1 6 k = nI f) (hf : f < 2147483648) : fo τ k = f := by
  show (τ.2.1 6 k).toNatClampNeg = f
  rw [h, ni_cl hf]
theorem op_repeat (hσ : Rel σ τ) (hS : SI τ) (a : Int32) : OpR τ (P_X6_repeat σ a) := by
  obtain ⟨h, hr⟩ := hσ.at
  have hm := hr.m60
  have hle := h.le
  unfold P_X6_repeat
  rcases cgate hr a with ⟨k, hk, rfl, e1, e2, e3⟩ | ⟨k, hk, rfl, e1, e2⟩ | e1
  · obtain ⟨f, hf, ef⟩ := form_ix hr hk
    by_cases hm2 : nLn τ < 60
    · obtain ⟨σ', τ', g1, g2⟩ := cite_R h hr hm2 hS hf (c := 82) (by decide) (ix60 hr hk) (Or.inl rfl) (fun v hv hp hg => by
        have := hS.cited hr hk e3 hv hp hg
        rwa [fo_eq ef (by omega)] at this)
      exact Or.inr ⟨σ', τ', by rw [e1, bd_some, e2, bd_some, room_ok hr hm2, bd_some, form_in hr hk, ef, g1, bd_some], g2⟩
    · exact OpR.xs hσ (by rw [e1, bd_some, e2, bd_some, room_no hr hm2, bd_exc])
  · exact OpR.xn hσ (by rw [e1, bd_some, e2, bd_exc])
  · exact OpR.xi hσ (by rw [e1, bd_exc])
theorem OpR.xe {x : Res DS Int32} {E : String} (hσ : Rel σ τ) (hE : E ∈ XE) (h : x = some (.inr E, σ)) : OpR τ x := Or.inl ⟨_, _, h, hE, hσ⟩
theorem op_makeC (hσ : Rel σ τ) (hS : SI τ) (a b : Int32) : OpR τ (P_X6_makeConjunction σ a b) := by
  obtain ⟨h, hr⟩ := hσ.at
  have hm := hr.m60
  have hle := h.le
  unfold P_X6_makeConjunction
  rcases cgate2 hσ a b with ⟨k, k', hk, hk', rfl, rfl, e1, c1, c2⟩ | ⟨E, e1, hE⟩
  · obtain ⟨f, hf, ef⟩ := form_ix hr hk
    obtain ⟨f', hf', ef'⟩ := form_ix hr hk'
    rw [e1, bd_some]
    by_cases hm2 : nLn τ < 60
    · rw [room_ok hr hm2, bd_some, form_in hr hk, form_in hr hk', ef, ef']
      rcases ent_ok h hr (c := 75) (l := nI f) (r := nI f') (Or.inr (Or.inr ⟨f, f', Or.inl rfl, hf, hf', rfl, rfl⟩)) with ⟨σ1, τ1, n', g, p1, hg, hn, F1, R1, X1, k1, k2, k3⟩ | p1
      · have S1 : SI τ1 := hS.ext h hr X1
        have hle1 := F1.le
        obtain ⟨σ', τ', g1, g2⟩ := cite_R F1 R1 hm2 S1 hg (c := 107) (by decide) (ix60 hr hk) (ix60 hr hk') (fun v hv hp hgd => by
          have x1 := S1.cited R1 hk (by rw [cit_ext X1.2]; exact c1) hv hp hgd
          have x2 := S1.cited R1 hk' (by rw [cit_ext X1.2]; exact c2) hv hp hgd
          rw [(X1.agr (m := nLn τ) (q := nBx τ)).fo9 hk, fo_eq ef (by omega)] at x1
          rw [(X1.agr (m := nLn τ) (q := nBx τ)).fo9 hk', fo_eq ef' (by omega)] at x2
          exact (tr_K F1 hg k1 (by omega) (by omega) k2 k3).mpr ⟨x1, x2⟩)
        exact Or.inr ⟨σ', τ', by rw [p1, bd_some, made_in (by omega), bd_some, lt_def, g1, bd_some], g2⟩
      · exact OpR.xs hσ (by rw [p1, bd_some, made_no, bd_exc])
    · exact OpR.xs hσ (by rw [room_no hr hm2, bd_exc])
  · exact OpR.xe hσ hE (by rw [e1, bd_exc])
theorem op_useC (hσ : Rel σ τ) (hS : SI τ) (a b : Int32) : OpR τ (P_X6_useConjunction σ a b) := by
  obtain ⟨h, hr⟩ := hσ.at
  have hm := hr.m60
  have hle := h.le
  unfold P_X6_useConjunction
  rcases cgate hr a with ⟨k, hk, rfl, e1, e2, e3⟩ | ⟨k, hk, rfl, e1, e2⟩ | e1
  · obtain ⟨f, hf, ef⟩ := form_ix hr hk
    rw [e1, bd_some, e2, bd_some, lt_def, form_in hr hk, ef, kind_in h hf]
    unfold B_X6_useConjunction_38
    by_cases kk : Kn τ f = 75
    · obtain ⟨x, y, hx, hy, ex, ey⟩ := bin_of (h.ent hf) (Or.inl kk)
      rw [if_pos kk, shape_1, bd_some]
      by_cases hm2 : nLn τ < 60
      · rw [room_ok hr hm2, bd_some, left_in h hf, right_in h hf, ex, ey]
        have key : ∀ v, v < 32 → Pm τ v → Gd τ (τ.1 3) v → Tr τ x v ∧ Tr τ y v := fun v hv hp hg => by
          have := hS.cited hr hk e3 hv hp hg
          rw [fo_eq ef (by omega)] at this
          exact (tr_K h hf kk (by omega) (by omega) ex ey).mp this
        by_cases hb : b = 0
        · obtain ⟨σ', τ', g1, g2⟩ := cite_R h hr hm2 hS (show x < nF τ by omega) (c := 108) (by decide) (ix60 hr hk) (Or.inl rfl) (fun v hv hp hg => (key v hv hp hg).1)
          exact Or.inr ⟨σ', τ', by rw [if_pos hb, g1, bd_some], g2⟩
        · obtain ⟨σ', τ', g1, g2⟩ := cite_R h hr hm2 hS (show y < nF τ by omega) (c := 114) (by decide) (ix60 hr hk) (Or.inl rfl) (fun v hv hp hg => (key v hv hp hg).2)
          exact Or.inr ⟨σ', τ', by rw [if_neg hb, g1, bd_some], g2⟩
      · exact OpR.xs hσ (by rw [room_no hr hm2, bd_exc])
    · exact OpR.xu hσ (by rw [if_neg kk, shape_0, bd_exc])
  · exact OpR.xn hσ (by rw [e1, bd_some, e2, bd_exc])
  · exact OpR.xi hσ (by rw [e1, bd_exc])
theorem reqF_cases (h : FW n σ τ) (a : Int32) : (∃ f, f < n ∧ a = nI f ∧ P_X6_requireFormula σ a = some (.inl (), σ)) ∨ P_X6_requireFormula σ a = some (.inr "java/lang/IndexOutOfBoundsException", σ) := by
  have hle := h.le
  rcases ix_cases n (by omega) a with ⟨f, hf, rfl⟩ | ha
  · exact Or.inl ⟨f, hf, rfl, reqF_in h hf⟩
  · exact Or.inr (reqF_no h ha)
theorem op_makeD (hσ : Rel σ τ) (hS : SI τ) (a b c : Int32) : OpR τ (P_X6_makeDisjunction σ a b c) := by
  obtain ⟨h, hr⟩ := hσ.at
  have hm := hr.m60
  have hle := h.le
  unfold P_X6_makeDisjunction
  rcases cgate hr a with ⟨k, hk, rfl, e1, e2, e3⟩ | ⟨k, hk, rfl, e1, e2⟩ | e1
  · rcases reqF_cases h b with ⟨f', hf', rfl, q1⟩ | q1
    · obtain ⟨f, hf, ef⟩ := form_ix hr hk
      rw [e1, bd_some, q1, bd_some, e2, bd_some]
      by_cases hm2 : nLn τ < 60
      · rw [room_ok hr hm2, bd_some, lt_def, form_in hr hk, ef]
        unfold B_X6_makeDisjunction_60
        by_cases hc : c = 0
        · rw [if_pos hc]
          rcases ent_ok h hr (c := 65) (l := nI f) (r := nI f') (Or.inr (Or.inr ⟨f, f', Or.inr (Or.inl rfl), hf, hf', rfl, rfl⟩)) with ⟨σ1, τ1, n', g, p1, hg, hn, F1, R1, X1, k1, k2, k3⟩ | p1
          · have S1 : SI τ1 := hS.ext h hr X1
            have hle1 := F1.le
            obtain ⟨σ', τ', g1, g2⟩ := cite_R F1 R1 hm2 S1 hg (c := 97) (by decide) (ix60 hr hk) (Or.inl rfl) (fun v hv hp hgd => by
              have x1 := S1.cited R1 hk (by rw [cit_ext X1.2]; exact e3) hv hp hgd
              rw [(X1.agr (m := nLn τ) (q := nBx τ)).fo9 hk, fo_eq ef (by omega)] at x1
              exact (tr_A F1 hg k1 (by omega) (by omega) k2 k3).mpr (Or.inl x1))
            exact Or.inr ⟨σ', τ', by rw [p1, bd_some, made_in (by omega), bd_some, lt_def, if_pos hc, g1, bd_some], g2⟩
          · exact OpR.xs hσ (by rw [p1, bd_some, made_no, bd_exc])
        · rw [if_neg hc]
          rcases ent_ok h hr (c := 65) (l := nI f') (r := nI f) (Or.inr (Or.inr ⟨f', f, Or.inr (Or.inl rfl), hf', hf, rfl, rfl⟩)) with ⟨σ1, τ1, n', g, p1, hg, hn, F1, R1, X1, k1, k2, k3⟩ | p1
          · have S1 : SI τ1 := hS.ext h hr X1
            have hle1 := F1.le
            obtain ⟨σ', τ', g1, g2⟩ := cite_R F1 R1 hm2 S1 hg (c := 98) (by decide) (ix60 hr hk) (Or.inl rfl) (fun v hv hp hgd => by
              have x1 := S1.cited R1 hk (by rw [cit_ext X1.2]; exact e3) hv hp hgd
              rw [(X1.agr (m := nLn τ) (q := nBx τ)).fo9 hk, fo_eq ef (by omega)] at x1
              exact (tr_A F1 hg k1 (by omega) (by omega) k2 k3).mpr (Or.inr x1))
            exact Or.inr ⟨σ', τ', by rw [p1, bd_some, made_in (by omega), bd_some, lt_def, if_neg hc, g1, bd_some], g2⟩
          · exact OpR.xs hσ (by rw [p1, bd_some, made_no, bd_exc])
      · exact OpR.xs hσ (by rw [room_no hr hm2, bd_exc])
    · exact OpR.xi hσ (by rw [e1, bd_some, q1, bd_exc])
  · rcases reqF_cases h b with ⟨f', hf', rfl, q1⟩ | q1
    · exact OpR.xn hσ (by rw [e1, bd_some, q1, bd_some, e2, bd_exc])
    · exact OpR.xi hσ (by rw [e1, bd_some, q1, bd_exc])
  · exact OpR.xi hσ (by rw [e1, bd_exc])
theorem op_useI (hσ : Rel σ τ) (hS : SI τ) (a b : Int32) : OpR τ (P_X6_useImplication σ a b) := by
  obtain ⟨h, hr⟩ := hσ.at
  have hm := hr.m60
  have hle := h.le
  unfold P_X6_useImplication
  rcases cgate2 hσ a b with ⟨k, k', hk, hk', rfl, rfl, e1, c1, c2⟩ | ⟨E, e1, hE⟩
  · obtain ⟨f, hf, ef⟩ := form_ix hr hk
    obtain ⟨f', hf', ef'⟩ := form_ix hr hk'
    rw [e1, bd_some, lt_def, form_in hr hk, form_in hr hk', ef, ef', kind_in h hf]
    unfold B_X6_useImplication_52 B_X6_useImplication_53
    by_cases kk : Kn τ f = 67
    · obtain ⟨x, y, hx, hy, ex, ey⟩ := bin_of (h.ent hf) (Or.inr (Or.inr kk))
      rw [if_pos kk, left_in h hf, ex]
      by_cases hx2 : nI f' = nI x
      · rw [if_pos hx2, shape_1, bd_some]
        by_cases hm2 : nLn τ < 60
        · rw [room_ok hr hm2, bd_some, right_in h hf, ey]
          obtain ⟨σ', τ', g1, g2⟩ := cite_R h hr hm2 hS (show y < nF τ by omega) (c := 109) (by decide) (ix60 hr hk) (ix60 hr hk') (fun v hv hp hg => by
            have x1 := hS.cited hr hk c1 hv hp hg
            have x2 := hS.cited hr hk' c2 hv hp hg
            rw [fo_eq ef (by omega)] at x1
            rw [fo_eq ef' (by omega)] at x2
            rw [ni_eq (by omega) (by omega)] at hx2
            subst hx2
            exact (tr_C h hf kk (by omega) (by omega) ex ey hv).mp x1 x2)
          exact Or.inr ⟨σ', τ', by rw [g1, bd_some], g2⟩
        · exact OpR.xs hσ (by rw [room_no hr hm2, bd_exc])
      · exact OpR.xu hσ (by rw [if_neg hx2, shape_0, bd_exc])
    · exact OpR.xu hσ (by rw [if_neg kk, shape_0, bd_exc])
  · exact OpR.xe hσ hE (by rw [e1, bd_exc])
theorem op_useN (hσ : Rel σ τ) (hS : SI τ) (a b : Int32) : OpR τ (P_X6_useNegation σ a b) := by
  obtain ⟨h, hr⟩ := hσ.at
  have hm := hr.m60
  have hle := h.le
  unfold P_X6_useNegation
  rcases cgate2 hσ a b with ⟨k, k', hk, hk', rfl, rfl, e1, c1, c2⟩ | ⟨E, e1, hE⟩
  · obtain ⟨f, hf, ef⟩ := form_ix hr hk
    obtain ⟨f', hf', ef'⟩ := form_ix hr hk'
    rw [e1, bd_some, lt_def, form_in hr hk, form_in hr hk', ef, ef', kind_in h hf]
    unfold B_X6_useNegation_52 B_X6_useNegation_53
    by_cases kk : Kn τ f = 78
    · obtain ⟨x, hx, ex, ey⟩ := neg_of (h.ent hf) kk
      rw [if_pos kk, left_in h hf, ex]
      by_cases hx2 : nI f' = nI x
      · rw [if_pos hx2, shape_1, bd_some]
        rw [ni_eq (by omega) (by omega)] at hx2
        subst hx2
        by_cases hm2 : nLn τ < 60
        · rw [room_ok hr hm2, bd_some]
          rcases ent_ok h hr (c := 70) (l := -1) (r := -1) (Or.inl ⟨by unfold leafK; decide, rfl, rfl⟩) with ⟨σ1, τ1, n', g, p1, hg, hn, F1, R1, X1, k1, k2, k3⟩ | p1
          · have S1 : SI τ1 := hS.ext h hr X1
            have hle1 := F1.le
            have ag := X1.agr (m := nLn τ) (q := nBx τ)
            obtain ⟨σ', τ', g1, g2⟩ := cite_R F1 R1 hm2 S1 hg (c := 110) (by decide) (ix60 hr hk) (ix60 hr hk') (fun v hv hp hgd => by
              have x1 := S1.cited R1 hk (by rw [cit_ext X1.2]; exact c1) hv hp hgd
              have x2 := S1.cited R1 hk' (by rw [cit_ext X1.2]; exact c2) hv hp hgd
              rw [ag.fo9 hk, fo_eq ef (by omega), ag.tr9 hf] at x1
              rw [ag.fo9 hk', fo_eq ef' (by omega), ag.tr9 hf'] at x2
              exact absurd x2 ((tr_N h hf kk (by omega) ex hv).mp x1))
            exact Or.inr ⟨σ', τ', by rw [p1, bd_some, made_in (by omega), bd_some, lt_def, g1, bd_some], g2⟩
          · exact OpR.xs hσ (by rw [p1, bd_some, made_no, bd_exc])
        · exact OpR.xs hσ (by rw [room_no hr hm2, bd_exc])
      · exact OpR.xu hσ (by rw [if_neg hx2, shape_0, bd_exc])
    · exact OpR.xu hσ (by rw [if_neg kk, shape_0, bd_exc])
  · exact OpR.xe hσ hE (by rw [e1, bd_exc])
theorem op_from (hσ : Rel σ τ) (hS : SI τ) (a b : Int32) : OpR τ (P_X6_fromFalsum σ a b) := by
  obtain ⟨h, hr⟩ := hσ.at
  have hm := hr.m60
  have hle := h.le
  unfold P_X6_fromFalsum
  rcases cgate hr a with ⟨k, hk, rfl, e1, e2, e3⟩ | ⟨k, hk, rfl, e1, e2⟩ | e1
  · rcases reqF_cases h b with ⟨f', hf', rfl, q1⟩ | q1
    · obtain ⟨f, hf, ef⟩ := form_ix hr hk
      rw [e1, bd_some, q1, bd_some, e2, bd_some, form_in hr hk, ef, kind_in h hf]
      unfold B_X6_fromFalsum_41
      by_cases kk : Kn τ f = 70
      · rw [if_pos kk, shape_1, bd_some]
        by_cases hm2 : nLn τ < 60
        · rw [room_ok hr hm2, bd_some]
          obtain ⟨σ', τ', g1, g2⟩ := cite_R h hr hm2 hS hf' (c := 120) (by decide) (ix60 hr hk) (Or.inl rfl) (fun v hv hp hg => by
            have x1 := hS.cited hr hk e3 hv hp hg
            rw [fo_eq ef (by omega)] at x1
            exact absurd x1 (tr_F h hf kk v))
          exact Or.inr ⟨σ', τ', by rw [g1, bd_some], g2⟩
        · exact OpR.xs hσ (by rw [room_no hr hm2, bd_exc])
      · exact OpR.xu hσ (by rw [if_neg kk, shape_0, bd_exc])
    · exact OpR.xi hσ (by rw [e1, bd_some, q1, bd_exc])
  · rcases reqF_cases h b with ⟨f', hf', rfl, q1⟩ | q1
    · exact OpR.xn hσ (by rw [e1, bd_some, q1, bd_some, e2, bd_exc])
    · exact OpR.xi hσ (by rw [e1, bd_some, q1, bd_exc])
  · exact OpR.xi hσ (by rw [e1, bd_exc])
theorem op_dbl (hσ : Rel σ τ) (hS : SI τ) (a : Int32) : OpR τ (P_X6_doubleNegation σ a) := by
  obtain ⟨h, hr⟩ := hσ.at
  have hm := hr.m60
  have hle := h.le
  unfold P_X6_doubleNegation
  rcases cgate hr a with ⟨k, hk, rfl, e1, e2, e3⟩ | ⟨k, hk, rfl, e1, e2⟩ | e1
  · obtain ⟨f, hf, ef⟩ := form_ix hr hk
    rw [e1, bd_some, e2, bd_some, lt_def, lt_def, form_in hr hk, ef, kind_in h hf, left_in h hf]
    unfold B_X6_doubleNegation_59 B_X6_doubleNegation_60
    by_cases kk : Kn τ f = 78
    · obtain ⟨x, hx, ex, ey⟩ := neg_of (h.ent hf) kk
      rw [if_pos kk, ex, kind_in h (show x < nF τ by omega)]
      by_cases kk2 : Kn τ x = 78
      · obtain ⟨y, hy, ex2, ey2⟩ := neg_of (h.ent (show x < nF τ by omega)) kk2
        rw [if_pos kk2, shape_1, bd_some]
        by_cases hm2 : nLn τ < 60
        · rw [room_ok hr hm2, bd_some, left_in h (show x < nF τ by omega), ex2]
          obtain ⟨σ', τ', g1, g2⟩ := cite_R h hr hm2 hS (show y < nF τ by omega) (c := 100) (by decide) (ix60 hr hk) (Or.inl rfl) (fun v hv hp hg => by
            have x1 := hS.cited hr hk e3 hv hp hg
            rw [fo_eq ef (by omega)] at x1
            exact Classical.byContradiction fun z => (tr_N h hf kk (by omega) ex hv).mp x1 ((tr_N h (show x < nF τ by omega) kk2 (by omega) ex2 hv).mpr z))
          exact Or.inr ⟨σ', τ', by rw [g1, bd_some], g2⟩
        · exact OpR.xs hσ (by rw [room_no hr hm2, bd_exc])
      · exact OpR.xu hσ (by rw [if_neg kk2, shape_0, bd_exc])
    · exact OpR.xu hσ (by rw [if_neg kk, shape_0, bd_exc])
  · exact OpR.xn hσ (by rw [e1, bd_some, e2, bd_exc])
  · exact OpR.xi hσ (by rw [e1, bd_exc])
theorem op_premise (hσ : Rel σ τ) (hS : SI τ) (a : Int32) : OpR τ (P_X6_premise σ a) := by
  obtain ⟨h, hr⟩ := hσ.at
  have hm := hr.m60
  have hle := h.le
  unfold P_X6_premise B_X6_premise_22
  rcases reqF_cases h a with ⟨f, hf, rfl, q1⟩ | q1
  · rw [q1, bd_some]
    by_cases hi : σ.1 4 = -1
    · rw [if_pos hi, shape_1, bd_some]
      by_cases hm2 : nLn τ < 60
      · rw [room_ok hr hm2, bd_some]
        obtain ⟨σ', g1, hN⟩ := enter_c hr.mc hm2 (nI f) 80
        obtain ⟨τ', g2⟩ := fin_line h hr hm2 hS hf (c := 80) (by decide) (Or.inl rfl) (Or.inl rfl) (Or.inl rfl) (Or.inl rfl) (fun z => absurd rfl z) hN
        exact Or.inr ⟨σ', τ', by rw [g1, bd_some], g2⟩
      · exact OpR.xs hσ (by rw [room_no hr hm2, bd_exc])
    · exact OpR.xu hσ (by rw [if_neg hi, shape_0, bd_exc])
  · exact OpR.xi hσ (by rw [q1, bd_exc])
end OPS
