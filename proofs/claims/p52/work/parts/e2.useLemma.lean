/-! A LEMMA IS USED: the line is sound -/
section USESI
variable {n m q e : Nat} {σ σ' : DS} {τ τ' : MS}
theorem Pm.ext (hF : FW n σ τ) (hr : RW n m q e σ τ) (h : Ext n τ τ') {v : Nat} (hp : Pm τ' v) : Pm τ v := fun j hj h80 => by
  have a := h.agr (m := m) (q := q)
  have e2 := (Rel.nn hF hr).2.1
  have hj : j < m := by omega
  have l2 : nLn τ' = m := by show (τ'.1 1).toNatClampNeg = m; rw [h.2.1 1 (by decide) (by decide)]; exact e2
  have := hp j (by omega) (by rw [(a.2.1 j hj).2.1]; exact h80)
  rw [a.fo9 hj] at this
  exact (a.tr9 (fo_lt hr hj hF.le)).mp this
theorem Gd.ext (hF : FW n σ τ) (hr : RW n m q e σ τ) (h : Ext n τ τ') {v : Nat} (hg : Gd τ' (τ'.1 3) v) : Gd τ (τ.1 3) v := by
  rw [h.2.1 3 (by decide) (by decide)] at hg
  exact (Gd.agr hF hr (h.agr (m := m) (q := q)) hr.inx v).mp hg
/-- the ghost with a text -/
def txG (τ : MS) (w : List Int32) : MS := tI (tA τ 15 (fun i => w.getD i 0)) 6 (nI w.length)
theorem txG_x (w : List Int32) : TxT w (txG τ w) := ⟨rfl, fun i _ => rfl⟩
theorem txG_i (w : List Int32) {k : Nat} (hk : k ≠ 6) : (txG τ w).1 k = τ.1 k := by unfold txG; rw [tI1, if_neg hk]; rfl
theorem txG_a (w : List Int32) {k : Nat} (hk : k ≠ 15) : (txG τ w).2.1 k = τ.2.1 k := by unfold txG; rw [tI2, tA2, if_neg hk]
/-- a text is read -/
theorem read_R (h : FW n σ τ) (hr : RW n m q e σ τ) {t : TT} (ht : tOk t) (hs : TxS (tW t) σ) (hl : (tW t).length < 1000) : ∃ (v : Int32) (σ' : DS), P_X0_read σ = some (.inl v, σ') ∧ ((v = -1 ∧ Rel σ' τ) ∨ ∃ (n' f : Nat) (τ' : MS), f < n' ∧ v = nI f ∧ FW n' σ' τ' ∧ RW n' m q e σ' τ' ∧ n ≤ n' ∧ Ext n τ τ' ∧ Sw τ' (tW t).length f (tW t)) := by
  have hG : FW n σ (txG τ (tW t)) := h.scr rfl (fun _ _ => rfl) (txG_i _ (by decide)) (fun k hk => txG_a _ (by omega))
  obtain ⟨v, n', σ', τ', g1, -, g3, g4, g5, g6, g7, g8⟩ := read_ok2 hG ht hs (txG_x _) hl
  have x : Ext n τ τ' := ⟨fun k hk f hf => by rw [g7 k hk f hf, txG_a _ (by omega)], fun k h1 h2 => by rw [g6.1 k (by omega) (by omega), txG_i _ (by omega)], fun k h1 h2 => by rw [g6.2.1 k h1, txG_a _ (by omega)], by rw [g6.2.2]; rfl⟩
  refine ⟨v, σ', g1, ?_⟩
  rcases g8 with ⟨rfl, rfl⟩ | ⟨f, hf, rfl, hw⟩
  · refine Or.inl ⟨rfl, Rel.of (n := n') (m := m) (q := q) (e := e) (FW.of g3 rfl ?_ (fun _ _ _ _ => rfl) (fun _ _ => rfl) (fun k hk f hf => (x.1 k hk f hf).symm)) (hr.of (Nat.le_refl _) g5.pp PPt.rf)⟩
    rw [g3.cnt7, h.cnt7]
  · exact Or.inr ⟨n', f, τ', hf, rfl, g3, hr.of g4 g5.pp x.2, g4, x, hw⟩
/-- what stands for the letters -/
def LetA (n : Nat) (τ : MS) (V : Nat → Nat → Int32) (u u' : Nat) : Prop := ∀ g k r, g < n → k < 5 → Kn τ g = 97 + nI k → r < n → V k g = nI r → (Tr τ g u' ↔ Tr τ r u)
theorem inst2 (h : FW n σ τ) (hr : RW n m q e σ τ) {j c0 : Nat} (hj : j < 8) (hc0 : c0 < n) (e23 : σ.2 23 j = nI c0) (hJ : IS1 n (σ.2 25)) : ∃ (v : Int32) (s σ' : DS), P_X1_writeConclusion σ (nI j) = some (.inl (), s) ∧ P_X0_read s = some (.inl v, σ') ∧ ((v = -1 ∧ Rel σ' τ) ∨ ∃ (n' f : Nat) (τ' : MS), f < n' ∧ v = nI f ∧ FW n' σ' τ' ∧ RW n' m q e σ' τ' ∧ n ≤ n' ∧ Ext n τ τ' ∧ ∀ u u', u < 32 → u' < 32 → LetA n τ (repV (σ.2 25) (σ.2 24)) u u' → (Tr τ' f u ↔ Tr τ c0 u')) := by
  have hle := h.le
  have hbn : ∀ k, k < 5 → σ.2 24 k = τ.2.1 5 k ∧ IxN n (τ.2.1 5 k) := hr.2.2
  have hval : ∀ g k, g < n → k < 5 → ∃ r, r < n ∧ repV (σ.2 25) (σ.2 24) k g = nI r := fun g k hg hk => by
    unfold repV
    rcases hJ g hg with h1 | ⟨r, hr, h1⟩
    · rw [if_pos h1]
      rcases (hbn k hk).2 with h2 | ⟨r, hr, h2⟩
      · rw [if_pos ((hbn k hk).1.trans h2)]
        exact ⟨g, hg, rfl⟩
      · have h3 := (hbn k hk).1.trans h2
        rw [if_neg (by rw [h3]; exact ni_ne (by omega))]
        exact ⟨r, hr, h3⟩
    · rw [if_neg (by rw [h1]; exact ni_ne (by omega))]
      exact ⟨r, hr, h1⟩
  have hch : ∀ c : Int32, ∃ t : TT, (letK c → tOk t ∧ (tW t).length ≤ 30) ∧ ∀ g k, g < n → k < 5 → letK c → Kn τ g = c → c - 97 = nI k → ∃ r, r < n ∧ repV (σ.2 25) (σ.2 24) k g = nI r ∧ Sw τ (tW t).length r (tW t) := fun c => by
    by_cases hx : ∃ g k, g < n ∧ k < 5 ∧ letK c ∧ Kn τ g = c ∧ c - 97 = nI k
    · obtain ⟨g, k, hg, hk, hl, eg, ek⟩ := hx
      obtain ⟨r, hr, er⟩ := hval g k hg hk
      obtain ⟨t, t1, t2, t3⟩ := form_tree h hr
      refine ⟨t, fun _ => ⟨t1, t3⟩, fun g' k' hg' hk' _ eg' ek' => ?_⟩
      rw [ek, ni_eq (by omega) (by omega)] at ek'
      subst ek'
      have : g' = g := leaf_uni h hg hg' (by rw [eg]; exact let_leaf hl) (eg'.trans eg.symm)
      subst this
      exact ⟨r, hr, er, t2⟩
    · refine ⟨.leaf c, fun hl => ⟨let_leaf hl, (by decide : 1 ≤ 30)⟩, fun g k hg hk hl eg ek => absurd ⟨g, k, hg, hk, hl, eg, ek⟩ hx⟩
  obtain ⟨T, hT⟩ := Classical.axiomOfChoice hch
  obtain ⟨tc, u1, u2, u3⟩ := form_tree h hc0
  obtain ⟨v1, v2⟩ := tSub_ok (T := T) (fun c hl => ((hT c).1 hl).1) u1
  have hlen := sbW_len (W := fun c => tW (T c)) (fun c hl => ((hT c).1 hl).2) (tW tc)
  have k0 : TSs σ (sI σ 11 0) := ⟨fun k hk => by rw [sI_1, if_neg hk], fun _ _ => rfl⟩
  have hF0 : FW n (sI σ 11 0) τ := k0.fw h
  obtain ⟨s, w1, w2, w3⟩ := wc_loop hF0 hc0 u2 (W := fun c => tW (T c)) (fun c hcw hl => by
    obtain ⟨g, hg, eg⟩ := sw_let u2 c hcw hl
    obtain ⟨k, hk, ek, -⟩ := letK_ix hl
    obtain ⟨r, hr, er, hs⟩ := (hT c).2 g k (by omega) hk hl eg ek
    refine ⟨r, hr, fun s hs => ?_, hs⟩
    have hx := repl_ok (hs.fw hF0) (show g < n by omega) hk (by rw [eg]; exact hl) (by rw [eg]; exact ek)
    rw [eg, hs.2 25 (by decide), hs.2 24 (by decide)] at hx
    rw [hx]
    show some (Sum.inl (repV (σ.2 25) (σ.2 24) k g), s) = _
    rw [er]) (tW tc).length 0 FU [] (sI σ 11 0) (by omega) (by unfold FU; omega) TSs.rf ⟨rfl, fun i hi => absurd hi (Nat.not_lt_zero i)⟩ (by decide)
  have e1 : P_X1_writeConclusion σ (nI j) = some (.inl (), s) := by
    unfold P_X1_writeConclusion F_X1_conclusion P_X5_clear
    rw [lt_def, rat_in hj (by decide), e23, lt_def, bd_some, lt_def, lt_def]
    have : F_X0_size (sI σ 11 0) (nI c0) = nI (tW tc).length := (size_wd hF0 (Or.inr ⟨c0, hc0, rfl, u2⟩)).1
    rw [this]
    exact w1
  have ks : TSs σ s := k0.tr w2
  have hFs : FW n s τ := ks.fw h
  have hRs : RW n m q e s τ := ks.rw9 hr
  rcases w3 with w3 | ⟨w3, L, L1, L2, L3⟩
  · have hsx : TxS (tW (tSub T tc)) s := by rw [v2]; exact w3
    obtain ⟨v, σ', g1, g2⟩ := read_R hFs hRs v1 hsx (by rw [v2]; omega)
    refine ⟨v, s, σ', e1, g1, ?_⟩
    rcases g2 with g2 | ⟨n', f, τ', f1, f2, f3, f4, f5, f6, f7⟩
    · exact Or.inl g2
    · refine Or.inr ⟨n', f, τ', f1, f2, f3, f4, f5, f6, fun u u' hu hu' hL => ?_⟩
      rw [tr_ev f3 hu f1 v1 f7, tr_ev h hu' hc0 u1 u2]
      rw [ev_sub (L := lv u) (L' := lv u') rfl u1 (fun c hcw hl => ?_)]
      obtain ⟨g, hg, eg⟩ := sw_let u2 c hcw hl
      obtain ⟨k, hk, ek, ek2⟩ := letK_ix hl
      obtain ⟨r, hr, er, hs⟩ := (hT c).2 g k (by omega) hk hl eg ek
      have a1 := hL g k r (by omega) hk (eg.trans ek2) hr er
      rw [tr_ev h hu hr ((hT c).1 hl).1 hs, tr_let h (show g < n by omega) hk (eg.trans ek2)] at a1
      have a2 : lv u' c = tbt (ltab k 32) u' := by
        unfold lv
        rw [if_neg (fun z => let_not hl (Or.inl z)), ek, ni_cl (by omega)]
      rw [a2, Bool.eq_iff_iff]
      exact a1.symm
  · refine ⟨-1, s, s, e1, ?_, Or.inl ⟨rfl, Rel.of hFs hRs⟩⟩
    unfold P_X0_read
    rw [L3, show (30 : Int32) = nI 30 from rfl, if_neg (nI_ge L1 (by omega))]
/-- behind the match -/
theorem use_tail (hσ : Rel σ τ) (hS : SI τ) {j : Nat} (hj : j < nLm τ) (hJ : IS1 (nF τ) (σ.2 25)) {l6 t0 : Int32} (h6 : IxN 60 l6) (h0 : IxN 60 t0) (hp : ∀ u u', u < 32 → u' < 32 → Pm τ u → Gd τ (τ.1 3) u → LetA (nF τ) τ (fun _ => σ.2 25) u u' → Lp τ j u') : OpR τ (bd (P_X6_requireRoom σ) fun _ s137 => (bd (P_X1_writeConclusion s137 (nI j)) fun _ s149 => (bd (P_X0_read s149 ) fun r164 s164 => (bd (P_X6_made s164 r164) fun r167 s167 => (bd (P_X2_enterCiting s167 r167 (76 : Int32) l6 t0) fun r176 s176 => (some (.inl r176, s176))))))) := by
  obtain ⟨h, hr⟩ := hσ.at
  have hle := h.le
  have he := hr.e8
  obtain ⟨c, hc, e20, e13, e21, e22, e23, c0, hc0, e14⟩ := hr.2.1.2.2.2 j hj
  by_cases hm2 : nLn τ < 60
  · obtain ⟨v, s, σ2, g1, g2, g3⟩ := inst2 h hr (show j < 8 by omega) hc0 (e23.trans e14) hJ
    rcases g3 with ⟨rfl, g3⟩ | ⟨n', f, τ1, f1, rfl, F1, R1, f5, X1, f7⟩
    · exact OpR.xs g3 (by rw [room_ok hr hm2, bd_some, g1, bd_some, g2, bd_some, made_no, bd_exc])
    · have S1 : SI τ1 := hS.ext h hr X1
      have hle1 := F1.le
      obtain ⟨σ', τ', o1, o2⟩ := cite_R F1 R1 hm2 S1 f1 (c := 76) (by decide) h6 h0 (fun v hv hpm hgd => by
        obtain ⟨u', hu', hb⟩ := vals5 (fun k => ∃ g r, g < nF τ ∧ r < nF τ ∧ Kn τ g = 97 + nI k ∧ repV (σ.2 25) (σ.2 24) k g = nI r ∧ Tr τ r v)
        have hL : LetA (nF τ) τ (repV (σ.2 25) (σ.2 24)) v u' := fun g k r hg hk ek hr2 er => by
          rw [tr_let h hg hk ek, hb k hk]
          constructor
          · rintro ⟨g', r', hg', hr', ek', er', ht⟩
            have : g' = g := leaf_uni h hg hg' (let_leaf (let_of hk ek).1) (ek'.trans ek.symm)
            subst this
            rw [er, ni_eq (by omega) (by omega)] at er'
            subst er'
            exact ht
          · exact fun ht => ⟨g, r, hg, hr2, ek, er, ht⟩
        refine (f7 v u' hv hu' hL).mpr ?_
        have x1 := hS.2.2.2.1 j hj u' hu' (hp v u' hv hu' (Pm.ext h hr X1 hpm) (Gd.ext h hr X1 hgd) (fun g k r hg hk ek hr2 er => hL g k r hg hk ek hr2 (by
          have er : σ.2 25 g = nI r := er
          unfold repV
          rw [if_neg (by rw [er]; exact ni_ne (by omega))]
          exact er)))
        rw [e14, ni_cl (by omega)] at x1
        exact x1)
      exact Or.inr ⟨σ', τ', by rw [room_ok hr hm2, bd_some, g1, bd_some, g2, bd_some, made_in (by omega), bd_some, o1, bd_some], o2⟩
  · exact OpR.xs hσ (by rw [room_no hr hm2, bd_exc])
theorem ims_rel (hσ : Rel σ τ) (h : IMs σ σ') : Rel σ' τ := by
  obtain ⟨hF, hr⟩ := hσ.at
  exact Rel.of (h.fw hF) (h.rw9 hr)
/-- what was matched is true -/
theorem cm_tr (hF : FW n σ τ) {L : List (Nat × Int32)} {J : Nat → Int32} (h2 : IS2 n τ 0 J) (hJ : ∀ x ∈ L, J x.1 = x.2) {u u' : Nat} (hu : u < 32) (hu' : u' < 32) (hL : LetA n τ (fun _ => J) u u') {p f : Nat} (hp : p < n) (hf : f < n) (hm : (p, nI f) ∈ L) : Tr τ p u' ↔ Tr τ f u :=
  img_tr hF h2 hu hu' (fun g k r hg hk ek hr er => hL g k r hg hk ek hr er) (p + 1) p f (Nat.lt_succ_self p) hp hf (hJ _ hm)
theorem use0 (hσ : Rel σ τ) (hS : SI τ) {j : Nat} (hj : j < nLm τ) (e20 : σ.2 20 j = nI 0) (e13 : τ.2.1 13 j = nI 0) : OpR τ (B_X6_useLemma_104 σ (nI j) (-1) (-1)) := by
  obtain ⟨h, hr⟩ := hσ.at
  have he := hr.e8
  have ec : F_X1_premiseCount σ (nI j) = 0 := by
    unfold F_X1_premiseCount
    rw [rat_in (show j < 8 by omega) (by decide), e20]; rfl
  obtain ⟨b, σ1, g1, k1, q1⟩ := cm0 h ec (F_X2_formula σ (-1)) (F_X2_formula σ (-1))
  unfold B_X6_useLemma_104
  rw [lt_def, g1, bd_some]
  rcases q1 with ⟨rfl, -⟩ | ⟨rfl, a1, a2, a3, -⟩
  · exact OpR.xu (ims_rel hσ k1) (by rw [shape_0, bd_exc])
  · rw [shape_1, bd_some]
    refine use_tail (ims_rel hσ k1) hS hj a1 (Or.inl rfl) (Or.inl rfl) (fun u u' _ _ _ _ _ i hi hlt => ?_)
    rw [e13, ni_lt (by omega) (by omega)] at hlt
    exact absurd hlt (Nat.not_lt_zero i)
theorem use1 (hσ : Rel σ τ) (hS : SI τ) {j p k2 : Nat} (hj : j < nLm τ) (e20 : σ.2 20 j = nI 1) (e13 : τ.2.1 13 j = nI 1) (hp : p < nF τ) (e21 : σ.2 21 j = nI p) (et0 : τ.2.2.2 j 0 = nI p) (hk2 : k2 < nLn τ) (c2 : citT τ k2 = true) : OpR τ (B_X6_useLemma_104 σ (nI j) (nI k2) (-1)) := by
  obtain ⟨h, hr⟩ := hσ.at
  have hle := h.le
  have he := hr.e8
  have ec : F_X1_premiseCount σ (nI j) = 1 := by
    unfold F_X1_premiseCount
    rw [rat_in (show j < 8 by omega) (by decide), e20]; rfl
  obtain ⟨f, hf, ef⟩ := form_ix hr hk2
  obtain ⟨b, σ1, g1, k1, q1⟩ := cm1 h ec hp hf (by rw [rat_in (show j < 8 by omega) (by decide)]; exact e21) (F_X2_formula σ (-1))
  unfold B_X6_useLemma_104
  rw [lt_def, form_in hr hk2, ef, g1, bd_some]
  rcases q1 with ⟨rfl, -⟩ | ⟨rfl, a1, a2, a3, -⟩
  · exact OpR.xu (ims_rel hσ k1) (by rw [shape_0, bd_exc])
  · rw [shape_1, bd_some]
    refine use_tail (ims_rel hσ k1) hS hj a1 (ix60 hr hk2) (Or.inl rfl) (fun u u' hu hu' hpm hgd hL i hi hlt => ?_)
    rw [e13, ni_lt (by omega) (by omega)] at hlt
    have : i = 0 := by omega
    subst this
    rw [et0, ni_cl (by omega)]
    refine (cm_tr h a2 a3 hu hu' hL hp hf (List.mem_singleton.mpr rfl)).mpr ?_
    have := hS.cited hr hk2 c2 hu hpm hgd
    rwa [fo_eq ef (by omega)] at this
theorem use2 (hσ : Rel σ τ) (hS : SI τ) {j p p' k2 k3 : Nat} (hj : j < nLm τ) (e20 : σ.2 20 j = nI 2) (e13 : τ.2.1 13 j = nI 2) (hp : p < nF τ) (e21 : σ.2 21 j = nI p) (et0 : τ.2.2.2 j 0 = nI p) (hp' : p' < nF τ) (e22 : σ.2 22 j = nI p') (et1 : τ.2.2.2 j 1 = nI p') (hk2 : k2 < nLn τ) (c2 : citT τ k2 = true) (hk3 : k3 < nLn τ) (c3 : citT τ k3 = true) : OpR τ (B_X6_useLemma_104 σ (nI j) (nI k2) (nI k3)) := by
  obtain ⟨h, hr⟩ := hσ.at
  have hle := h.le
  have he := hr.e8
  have ec : F_X1_premiseCount σ (nI j) = 2 := by
    unfold F_X1_premiseCount
    rw [rat_in (show j < 8 by omega) (by decide), e20]; rfl
  obtain ⟨f, hf, ef⟩ := form_ix hr hk2
  obtain ⟨f', hf', ef'⟩ := form_ix hr hk3
  obtain ⟨b, σ1, g1, k1, q1⟩ := cm2 h ec hp hf (by rw [rat_in (show j < 8 by omega) (by decide)]; exact e21) hp' hf' (by rw [rat_in (show j < 8 by omega) (by decide)]; exact e22)
  unfold B_X6_useLemma_104
  rw [lt_def, form_in hr hk2, ef, form_in hr hk3, ef', g1, bd_some]
  rcases q1 with ⟨rfl, -⟩ | ⟨rfl, a1, a2, a3, -⟩
  · exact OpR.xu (ims_rel hσ k1) (by rw [shape_0, bd_exc])
  · rw [shape_1, bd_some]
    refine use_tail (ims_rel hσ k1) hS hj a1 (ix60 hr hk2) (ix60 hr hk3) (fun u u' hu hu' hpm hgd hL i hi hlt => ?_)
    have hi2 : i = 0 ∨ i = 1 := by omega
    rcases hi2 with rfl | rfl
    · rw [et0, ni_cl (by omega)]
      refine (cm_tr h a2 a3 hu hu' hL hp hf (List.mem_cons_self ..)).mpr ?_
      have := hS.cited hr hk2 c2 hu hpm hgd
      rwa [fo_eq ef (by omega)] at this
    · rw [et1, ni_cl (by omega)]
      refine (cm_tr h a2 a3 hu hu' hL hp' hf' (List.mem_cons_of_mem _ (List.mem_singleton.mpr rfl))).mpr ?_
      have := hS.cited hr hk3 c3 hu hpm hgd
      rwa [fo_eq ef' (by omega)] at this
theorem op_useL (hσ : Rel σ τ) (hS : SI τ) (a a2 a3 : Int32) : OpR τ (P_X6_useLemma σ a a2 a3) := by
  obtain ⟨h, hr⟩ := hσ.at
  have he := hr.e8
  unfold P_X6_useLemma
  rcases ix_cases (nLm τ) (by omega) a with ⟨j, hj, rfl⟩ | ha
  · obtain ⟨c, hc, e20, e13, e21, e22, e23, c0, hc0, e14⟩ := hr.2.1.2.2.2 j hj
    have ec : F_X1_premiseCount σ (nI j) = nI c := by
      unfold F_X1_premiseCount
      rw [rat_in (by omega) (by decide), e20]
    rw [reqM_in hr hj, bd_some, ec]
    unfold B_X6_useLemma_21
    rw [ec]
    have hcc : c = 0 ∨ c = 1 ∨ c = 2 := by omega
    rcases hcc with rfl | rfl | rfl
    · rw [if_pos (by decide), lt_def, if_pos (by decide)]
      unfold B_X6_useLemma_40 B_X6_useLemma_52 B_X6_useLemma_62 B_X6_useLemma_72 B_X6_useLemma_82 B_X6_useLemma_92
      simp only [lt_def, if_pos (show (0 : Int32) = 0 from rfl)]
      exact use0 hσ hS hj e20 e13
    · obtain ⟨e21, p, hp, et0⟩ := e21 (by decide)
      rw [if_neg (by decide), lt_def, if_pos (by decide)]
      unfold B_X6_useLemma_40 B_X6_useLemma_52 B_X6_useLemma_62 B_X6_useLemma_72 B_X6_useLemma_82 B_X6_useLemma_92
      simp only [lt_def, if_neg i10, if_true]
      rcases cgate hr a2 with ⟨k, hk, rfl, g1, g2, g3⟩ | ⟨k, hk, rfl, g1, g2⟩ | g1
      · rw [g1, bd_some, g2, bd_some]
        exact use1 hσ hS hj e20 e13 hp (e21.trans et0) et0 hk g3
      · exact OpR.xn hσ (by rw [g1, bd_some, g2, bd_exc])
      · exact OpR.xi hσ (by rw [g1, bd_exc])
    · obtain ⟨e21, p, hp, et0⟩ := e21 (by decide)
      obtain ⟨e22, p', hp', et1⟩ := e22 (by decide)
      rw [if_neg (by decide), lt_def, if_neg (by decide)]
      unfold B_X6_useLemma_40 B_X6_useLemma_52 B_X6_useLemma_62 B_X6_useLemma_72 B_X6_useLemma_82 B_X6_useLemma_92
      simp only [lt_def, if_neg i10]
      rcases cgate hr a2 with ⟨k, hk, rfl, g1, g2, g3⟩ | ⟨k, hk, rfl, g1, g2⟩ | g1
      · rcases cgate hr a3 with ⟨k', hk', rfl, g1', g2', g3'⟩ | ⟨k', hk', rfl, g1', g2'⟩ | g1'
        · rw [g1, bd_some, g1', bd_some, g2, bd_some, g2', bd_some]
          exact use2 hσ hS hj e20 e13 hp (e21.trans et0) et0 hp' (e22.trans et1) et1 hk g3 hk' g3'
        · exact OpR.xn hσ (by rw [g1, bd_some, g1', bd_some, g2, bd_some, g2', bd_exc])
        · exact OpR.xi hσ (by rw [g1, bd_some, g1', bd_exc])
      · rcases cgate hr a3 with ⟨k', hk', rfl, g1', g2', g3'⟩ | ⟨k', hk', rfl, g1', g2'⟩ | g1'
        · exact OpR.xn hσ (by rw [g1, bd_some, g1', bd_some, g2, bd_exc])
        · exact OpR.xn hσ (by rw [g1, bd_some, g1', bd_some, g2, bd_exc])
        · exact OpR.xi hσ (by rw [g1, bd_some, g1', bd_exc])
      · exact OpR.xi hσ (by rw [g1, bd_exc])
  · exact OpR.xi hσ (by rw [reqM_no hr ha, bd_exc])
end USESI
