/-! A LEMMA IS USED -/
def csL : List (String × Int32) := [("java/lang/IndexOutOfBoundsException", 1), ("java/util/NoSuchElementException", 2), ("java/lang/UnsupportedOperationException", 3), ("java/lang/IllegalStateException", 4)]
theorem gd02 {β : Type} (k : Option β) : gd (0 : Int32) 2 k = k := gd_in (a := 0) (by decide) (by decide) k
theorem gd12 {β : Type} (k : Option β) : gd (1 : Int32) 2 k = k := gd_in (a := 1) (by decide) (by decide) k
section USEL
variable {n m q e : Nat} {σ : DS} {τ : MS}
/-- an instance is written and read: the same on both sides -/
theorem inst_ok (h : FW n σ τ) (hr : RW n m q e σ τ) {j c0 : Nat} (hj : j < 8) (hc0 : c0 < n) (e23 : σ.2 23 j = nI c0) (hJ : IS1 n (σ.2 25)) (hag : ∀ g k, g < n → k < 5 → Kn τ g = 97 + nI k → σ.2 25 g = τ.2.1 16 k) : ∃ (v : Int32) (n' : Nat) (s σ' : DS) (t τ' : MS), P_X1_writeConclusion σ (nI j) = some (.inl (), s) ∧ P_X0_read s = some (.inl v, σ') ∧ P_X7_writesInstance 40 (tI τ 6 0) (nI c0) = some (.inl (), t) ∧ P_X7_makesWork t = some (.inl v, τ') ∧ FW n' σ' τ' ∧ RW n' m q e σ' τ' ∧ (v = -1 ∨ ∃ f, f < n' ∧ v = nI f) := by
  have hle := h.le
  have hbn : ∀ k, k < 5 → σ.2 24 k = τ.2.1 5 k ∧ IxN n (τ.2.1 5 k) := hr.2.2
  have hval : ∀ g k, g < n → k < 5 → ∃ r, r < n ∧ repV (σ.2 25) (σ.2 24) k g = nI r := fun g k hg hk => by
    unfold repV
    rcases hJ g hg with h1 | ⟨r, hr, h1⟩
    · rw [if_pos h1]
      rcases (hbn k hk).2 with h2 | ⟨r, hr, h2⟩
      · rw [if_pos ((hbn k hk).1.trans h2)]
        exact ⟨g, hg, rfl⟩
      · have h3 := (hbn k hk).1.trans h2
        rw [if_neg (by rw [h3]; exact ni_ne (by omega))]
        exact ⟨r, hr, h3⟩
    · rw [if_neg (by rw [h1]; exact ni_ne (by omega))]
      exact ⟨r, hr, h1⟩
  have hch : ∀ c : Int32, ∃ t : TT, (letK c → tOk t ∧ (tW t).length ≤ 30) ∧ ∀ g k, g < n → k < 5 → letK c → Kn τ g = c → c - 97 = nI k → ∃ r, r < n ∧ repV (σ.2 25) (σ.2 24) k g = nI r ∧ Sw τ (tW t).length r (tW t) := fun c => by
    by_cases hx : ∃ g k, g < n ∧ k < 5 ∧ letK c ∧ Kn τ g = c ∧ c - 97 = nI k
    · obtain ⟨g, k, hg, hk, hl, eg, ek⟩ := hx
      obtain ⟨r, hr, er⟩ := hval g k hg hk
      obtain ⟨t, t1, t2, t3⟩ := form_tree h hr
      refine ⟨t, fun _ => ⟨t1, t3⟩, fun g' k' hg' hk' _ eg' ek' => ?_⟩
      rw [ek, ni_eq (by omega) (by omega)] at ek'
      subst ek'
      have : g' = g := leaf_uni h hg hg' (by rw [eg]; exact let_leaf hl) (eg'.trans eg.symm)
      subst this
      exact ⟨r, hr, er, t2⟩
    · refine ⟨.leaf c, fun hl => ⟨let_leaf hl, (by decide : 1 ≤ 30)⟩, fun g k hg hk hl eg ek => absurd ⟨g, k, hg, hk, hl, eg, ek⟩ hx⟩
  obtain ⟨T, hT⟩ := Classical.axiomOfChoice hch
  obtain ⟨tc, u1, u2, u3⟩ := form_tree h hc0
  obtain ⟨v1, v2⟩ := tSub_ok (T := T) (fun c hl => ((hT c).1 hl).1) u1
  have hlen := sbW_len (W := fun c => tW (T c)) (fun c hl => ((hT c).1 hl).2) (tW tc)
  -- the class
  have k0 : TSs σ (sI σ 11 0) := ⟨fun k hk => by rw [sI_1, if_neg hk], fun _ _ => rfl⟩
  have hF0 : FW n (sI σ 11 0) τ := k0.fw h
  obtain ⟨s, w1, w2, w3⟩ := wc_loop hF0 hc0 u2 (W := fun c => tW (T c)) (fun c hcw hl => by
    obtain ⟨g, hg, eg⟩ := sw_let u2 c hcw hl
    obtain ⟨k, hk, ek, -⟩ := letK_ix hl
    obtain ⟨r, hr, er, hs⟩ := (hT c).2 g k (by omega) hk hl eg ek
    refine ⟨r, hr, fun s hs => ?_, hs⟩
    have hx := repl_ok (hs.fw hF0) (show g < n by omega) hk (by rw [eg]; exact hl) (by rw [eg]; exact ek)
    rw [eg, hs.2 25 (by decide), hs.2 24 (by decide)] at hx
    rw [hx]
    show some (Sum.inl (repV (σ.2 25) (σ.2 24) k g), s) = _
    rw [er]) (tW tc).length 0 FU [] (sI σ 11 0) (by omega) (by unfold FU; omega) TSs.rf ⟨rfl, fun i hi => absurd hi (Nat.not_lt_zero i)⟩ (by decide)
  have e1 : P_X1_writeConclusion σ (nI j) = some (.inl (), s) := by
    unfold P_X1_writeConclusion F_X1_conclusion P_X5_clear
    rw [lt_def, rat_in hj (by decide), e23, lt_def, bd_some, lt_def, lt_def]
    have : F_X0_size (sI σ 11 0) (nI c0) = nI (tW tc).length := (size_wd hF0 (Or.inr ⟨c0, hc0, rfl, u2⟩)).1
    rw [this]
    exact w1
  have ks : TSs σ s := k0.tr w2
  have hFs : FW n s τ := ks.fw h
  -- the reference
  have kt0 : TSt τ (tI τ 6 0) := ⟨fun k hk => by rw [tI1, if_neg hk], fun _ _ => rfl, rfl⟩
  obtain ⟨t, x1, x2⟩ := wi_ok hle (W := fun c => tW (T c)) (τ0 := tI τ 6 0) (fun g hg hl => by
    obtain ⟨k, hk, ek, ek2⟩ := letK_ix hl
    obtain ⟨r, hr, er, hs⟩ := (hT (Kn τ g)).2 g k hg hk hl rfl ek
    refine ⟨k, r, hk, ek, hr, ?_, Nat.le_trans ((hT (Kn τ g)).1 hl).2 (by decide), hs.ext (τ := τ) (τ' := tI τ 6 0) (n := 150) (fun _ _ => rfl) (fun _ _ => rfl) (fun _ _ => rfl) (by omega)⟩
    rw [← er]
    unfold repV
    rw [hag g k hg hk ek2, (hbn k hk).1]
    rfl) (tW tc).length c0 40 0 (tW tc) (tI τ 6 0) hc0 (Sw.ext (τ := τ) (τ' := tI τ 6 0) (n := 150) (fun _ _ => rfl) (fun _ _ => rfl) (fun _ _ => rfl) (by omega) u2) (by omega) TSt.rf rfl (by omega)
  have kt : TSt τ t := kt0.tr x2.ts
  have hFt : FW n s t := kt.fw hFs
  have hRt : RW n m q e s t := kt.rw9 (ks.rw9 hr)
  have htx : TxT (tW (tSub T tc)) t := by
    rw [v2]
    exact ⟨by rw [x2.1, Nat.zero_add], fun i hi => by rw [x2.2.2.2.2, if_pos (by omega), Nat.sub_zero]⟩
  rcases w3 with w3 | ⟨w3, L, L1, L2, L3⟩
  · have hsx : TxS (tW (tSub T tc)) s := by rw [v2]; exact w3
    obtain ⟨v, n', σ', τ', g1, g2, g3, g4, g5, g6, g7⟩ := read_ok hFt v1 hsx htx (by rw [v2]; omega)
    exact ⟨v, n', s, σ', t, τ', e1, g1, x1, g2, g3, hRt.of g4 g5.pp g6.pp, g7⟩
  · have hL : 30 < (sbW (fun c => tW (T c)) (tW tc)).length := w3
    refine ⟨-1, n, s, s, t, _, e1, ?_, x1, ?_, hFt.scr (τ' := tI (tI t 7 0) 0 (t.1 0)) rfl (fun _ _ => rfl) rfl (fun _ _ => rfl), hRt.of (Nat.le_refl n) PPs.rf (τ' := tI (tI t 7 0) 0 (t.1 0)) ⟨fun k h1 h2 => by rw [tI1, if_neg (by omega), tI1, if_neg (by omega)], fun _ _ _ => rfl, rfl⟩, Or.inl rfl⟩
    · unfold P_X0_read
      rw [L3, show (30 : Int32) = nI 30 from rfl, if_neg (nI_ge L1 (by omega))]
    · unfold P_X7_makesWork B_X7_makesWork_27
      rw [lt_def, lt_def, show (tI t 7 0).1 6 = nI (0 + (sbW (fun c => tW (T c)) (tW tc)).length) from x2.1, show (30 : Int32) = nI 30 from rfl, if_neg (nI_ge (by omega) (by omega)), lt_def, if_pos rfl, lt_def]
/-- behind the match -/
theorem lem_tail (h : FW n σ τ) (hr : RW n m q e σ τ) (h5 : τ.1 5 = 0 ∨ True) {j c c0 : Nat} (hj : j < 8) (hc : c ≤ 2) (hc0 : c0 < n) (e14 : τ.2.1 14 j = nI c0) (e23 : σ.2 23 j = nI c0) (hJ : IS1 n (σ.2 25)) (hag : ∀ g k, g < n → k < 5 → Kn τ g = 97 + nI k → σ.2 25 g = τ.2.1 16 k) {l6 t0 a2 a3 : Int32} (h6 : IxN 60 l6) (h0 : IxN 60 t0) (hl : (c = 0 ∧ l6 = -1 ∧ t0 = -1) ∨ (c = 1 ∧ l6 = a2 ∧ t0 = -1) ∨ (c = 2 ∧ l6 = a2 ∧ t0 = a3)) (w : OS) : AgW okI Rel (wrT csL stI (bd (P_X6_requireRoom σ) fun _ s137 => (bd (P_X1_writeConclusion s137 (nI j)) fun _ s149 => (bd (P_X0_read s149 ) fun r164 s164 => (bd (P_X6_made s164 r164) fun r167 s167 => (bd (P_X2_enterCiting s167 r167 (76 : Int32) l6 t0) fun r176 s176 => (some (.inl r176, s176))))))) w) (B_X7_useLemma_180 τ (nI j) a2 a3 (nI c)) := by
  unfold B_X7_useLemma_180
  by_cases hm2 : m < 60
  · obtain ⟨v, n', s, σ', t, τ', g1, g2, g3, g4, g5, g6, g7⟩ := inst_ok h hr hj hc0 e23 hJ hag
    have hle := g5.le
    rw [room_ok hr hm2, bd_some, g1, bd_some, g2, bd_some, if_neg (full_no hr hm2), lt_def, gd_in hj (by decide), ni_cl (by omega), show (tI τ 6 0).2.1 14 j = nI c0 from e14, g3, bd_some, g4, bd_some, lt_def]
    rcases g7 with rfl | ⟨f, hf, rfl⟩
    · rw [made_no, bd_exc, if_pos rfl, raises_eq, bd_some]
      exact ag_exc rfl rfl rfl rfl (by decide) (Rel.thr ⟨n', m, q, e, g5, g6⟩ 4)
    · rw [made_in (by omega), bd_some, if_neg (ni_ne (by omega))]
      obtain ⟨σ2, τ2, p1, p2, p3, p4⟩ := cite_ok g5 g6 hm2 hf (c := 76) (by decide) h6 h0
      rw [p1, bd_some]
      unfold B_X7_useLemma_245
      have p2' : (bd (P_X7_enters τ' (nI f) (76 : Int32) l6 t0 (-1 : Int32) (-1 : Int32)) fun r258 s258 => (some (.inl r258, s258) : Res MS Int32)) = some (.inl (nI m), τ2) := by rw [p2]; rfl
      rcases hl with ⟨rfl, rfl, rfl⟩ | ⟨rfl, rfl, rfl⟩ | ⟨rfl, rfl, rfl⟩
      · rw [if_pos (by decide), if_pos (by decide)]
        exact ag_ret rfl p2' p3 p4
      · rw [if_neg (by decide), if_pos (by decide)]
        exact ag_ret rfl p2' p3 p4
      · rw [if_neg (by decide), if_neg (by decide)]
        exact ag_ret rfl p2' p3 p4
  · rw [room_no hr hm2, bd_exc, if_pos (full_yes hr hm2), raises_eq, bd_some]
    exact ag_exc rfl rfl rfl rfl (by decide) (Rel.thr ⟨n, m, q, e, h, hr⟩ 4)
/-- the letters are freed -/
def fitE (s : MS) (l1 l2 l3 l4 : Int32) : Res MS Int32 := (if l4 ≤ 0 then (B_X7_useLemma_147 s l1 l2 l3 l4) else (gd l1 8 (gd (0 : Int32) 2 (gd l2 60 (bd (P_X7_fits 40 s (s.2.2.2 l1.toNatClampNeg (0 : Int32).toNatClampNeg) (s.2.1 6 l2.toNatClampNeg)) fun r141 s141 => (if r141 = 0 then (bd (P_X7_raises s141 (3 : Int32)) fun r176 s176 => (some (.inl r176, s176))) else (B_X7_useLemma_147 s141 l1 l2 l3 l4)))))))
theorem free_loop (l1 l2 l3 l4 : Int32) : ∀ (d k N : Nat) (s : MS), k + d = 5 → d < N → (∀ j, j < k → s.2.1 16 j = -1) → ∃ s', L_X7_useLemma_101 N s l1 l2 l3 l4 (nI k) = fitE s' l1 l2 l3 l4 ∧ RPt s s' ∧ ∀ j, j < 5 → s'.2.1 16 j = -1 := by
  intro d
  induction d with
  | zero =>
    intro k N s hk hN hs
    obtain ⟨N, rfl⟩ : ∃ M, N = M + 1 := ⟨N - 1, by omega⟩
    have hk : k = 5 := hk
    subst hk
    refine ⟨s, ?_, RPt.rf, hs⟩
    show B_X7_useLemma_101 _ s l1 l2 l3 l4 (nI 5) = _
    unfold B_X7_useLemma_101
    rw [if_pos (by decide)]
    rfl
  | succ d ih =>
    intro k N s hk hN hs
    obtain ⟨N, rfl⟩ : ∃ M, N = M + 1 := ⟨N - 1, by omega⟩
    have k1 : RPt s (tA s 16 (upd (s.2.1 16) k (-1))) := ⟨rfl, fun j hj => by rw [tA2, if_neg hj], rfl⟩
    obtain ⟨s', e1, e2, e3⟩ := ih (k + 1) N (tA s 16 (upd (s.2.1 16) k (-1))) (by omega) (by omega) (fun j hj => by
      rw [tA2, if_pos rfl]
      by_cases h : j = k
      · subst h; exact upd_eq _ _ _
      · rw [upd_ne _ h]; exact hs j (by omega))
    refine ⟨s', ?_, k1.tr e2, e3⟩
    show B_X7_useLemma_101 _ s l1 l2 l3 l4 (nI k) = _
    unfold B_X7_useLemma_101
    rw [show (5 : Int32) = nI 5 from rfl, if_neg (nI_ge (by omega) (by decide)), gd_in (by omega) (by decide), lt_def, lt_def, ni_cl (by omega), ni_add1]
    exact e1
/-- behind the gates: no premises, one, two -/
theorem lem_c0 (h : FW n σ τ) (hr : RW n m q e σ τ) {j c0 : Nat} (hj : j < 8) (hc0 : c0 < n) (e20 : σ.2 20 j = nI 0) (e14 : τ.2.1 14 j = nI c0) (e23 : σ.2 23 j = nI c0) (a2 a3 : Int32) (w : OS) : AgW okI Rel (wrT csL stI (B_X6_useLemma_104 σ (nI j) (-1) (-1)) w) (L_X7_useLemma_101 FU τ (nI j) a2 a3 (nI 0) 0) := by
  have ec : F_X1_premiseCount σ (nI j) = 0 := by
    unfold F_X1_premiseCount
    rw [rat_in hj (by decide), e20]; rfl
  obtain ⟨b, σ1, g1, k1, q1⟩ := cm0 h ec (F_X2_formula σ (-1)) (F_X2_formula σ (-1))
  obtain ⟨τ1, f1, f2, f3⟩ := free_loop (nI j) a2 a3 (nI 0) 5 0 FU τ (by omega) (by unfold FU; omega) (fun j hj => absurd hj (Nat.not_lt_zero j))
  obtain ⟨rfl, -, hag⟩ := both_ok h (fun x hx => absurd hx (List.not_mem_nil)) q1 (rmN f3)
  rw [show (0 : Int32) = nI 0 from rfl, f1]
  unfold B_X6_useLemma_104 fitE B_X7_useLemma_147
  rw [lt_def, g1, bd_some, shape_1, bd_some, if_pos (by decide), if_pos (by decide)]
  have hJ : IS1 n (σ1.2 25) := by
    rcases q1 with ⟨h, -⟩ | ⟨-, h, -⟩
    · exact absurd h (by decide)
    · exact h
  have hk0 : ∀ g, Kn τ1 g = Kn τ g := fun g => by show τ1.2.1 0 g = _; rw [f2.2.1 0 (by decide)]
  exact lem_tail (f2.fw (k1.fw h)) (f2.rw9 (k1.rw9 hr)) (Or.inr trivial) hj (by omega) hc0 (by rw [f2.2.1 14 (by decide)]; exact e14) (by rw [k1.2 23 (by decide)]; exact e23) hJ (fun g k hg hk ek => hag rfl g k hg hk (by rw [← hk0]; exact ek)) (Or.inl rfl) (Or.inl rfl) (Or.inl ⟨rfl, rfl, rfl⟩) w
theorem lem_c1 (h : FW n σ τ) (hr : RW n m q e σ τ) {j c0 p k2 : Nat} (hj : j < 8) (hc0 : c0 < n) (e20 : σ.2 20 j = nI 1) (e14 : τ.2.1 14 j = nI c0) (e23 : σ.2 23 j = nI c0) (hp : p < n) (e21 : σ.2 21 j = nI p) (et0 : τ.2.2.2 j 0 = nI p) (hk2 : k2 < m) (a3 : Int32) (w : OS) : AgW okI Rel (wrT csL stI (B_X6_useLemma_104 σ (nI j) (nI k2) (-1)) w) (L_X7_useLemma_101 FU τ (nI j) (nI k2) a3 (nI 1) 0) := by
  have hle := h.le
  have hm := hr.m60
  have ec : F_X1_premiseCount σ (nI j) = 1 := by
    unfold F_X1_premiseCount
    rw [rat_in hj (by decide), e20]; rfl
  obtain ⟨f, hf, ef⟩ := form_ix hr hk2
  obtain ⟨b, σ1, g1, k1, q1⟩ := cm1 h ec hp hf (by rw [rat_in hj (by decide)]; exact e21) (F_X2_formula σ (-1))
  obtain ⟨τ0, f1, f2, f3⟩ := free_loop (nI j) (nI k2) a3 (nI 1) 5 0 FU τ (by omega) (by unfold FU; omega) (fun j hj => absurd hj (Nat.not_lt_zero j))
  obtain ⟨b', τ1, r1, r2, r3⟩ := rm1 (f2.fw h) f3 hp hf
  have r3' : RmE n τ [(p, nI f)] b' (τ1.2.1 16) := by
    rcases r3 with ⟨rfl, r⟩ | ⟨rfl, r, r'⟩
    · exact Or.inl ⟨rfl, fun Q hQ => r Q (hQ.ext f2)⟩
    · exact Or.inr ⟨rfl, fun x hx => (r x hx).elim fun hh hx => ⟨hh, hx.ext f2.sy⟩, fun Q hQ hx => (r' Q (hQ.ext f2) hx).ext f2.sy⟩
  obtain ⟨rfl, hb, hag⟩ := both_ok h (fun x hx => by rw [List.mem_singleton] at hx; subst hx; exact ⟨hp, ni_ne (by omega)⟩) q1 r3'
  have kt : RPt τ τ1 := f2.tr r2
  rw [show (0 : Int32) = nI 0 from rfl, f1]
  unfold B_X6_useLemma_104 fitE B_X7_useLemma_147
  rw [lt_def, form_in hr hk2, ef, g1, bd_some, if_neg (by decide), gd_in hj (by decide), gd02, gd_in (show k2 < 60 by omega) (by decide), ni_cl (show j < 2147483648 by omega), ni_cl (show k2 < 2147483648 by omega), show (0 : Int32).toNatClampNeg = 0 from by decide, f2.2.2, et0, f2.2.1 6 (by decide), ef, r1, bd_some]
  have hF1 : FW n σ1 τ1 := kt.fw (k1.fw h)
  have hR1 : RW n m q e σ1 τ1 := kt.rw9 (k1.rw9 hr)
  rcases hb with rfl | rfl
  · rw [if_pos rfl, shape_0, bd_exc, raises_eq, bd_some]
    exact ag_exc rfl rfl rfl rfl (by decide) (Rel.thr ⟨n, m, q, e, hF1, hR1⟩ 3)
  · rw [if_neg i10, shape_1, bd_some, if_pos (by decide)]
    have hJ : IS1 n (σ1.2 25) := by
      rcases q1 with ⟨h, -⟩ | ⟨-, h, -⟩
      · exact absurd h (by decide)
      · exact h
    have hk0 : ∀ g, Kn τ1 g = Kn τ g := fun g => by show τ1.2.1 0 g = _; rw [kt.2.1 0 (by decide)]
    exact lem_tail hF1 hR1 (Or.inr trivial) hj (by omega) hc0 (by rw [kt.2.1 14 (by decide)]; exact e14) (by rw [k1.2 23 (by decide)]; exact e23) hJ (fun g k hg hk ek => hag rfl g k hg hk (by rw [← hk0]; exact ek)) (ix60 hr hk2) (Or.inl rfl) (Or.inr (Or.inl ⟨rfl, rfl, rfl⟩)) w
theorem lem_c2 (h : FW n σ τ) (hr : RW n m q e σ τ) {j c0 p p' k2 k3 : Nat} (hj : j < 8) (hc0 : c0 < n) (e20 : σ.2 20 j = nI 2) (e14 : τ.2.1 14 j = nI c0) (e23 : σ.2 23 j = nI c0) (hp : p < n) (e21 : σ.2 21 j = nI p) (et0 : τ.2.2.2 j 0 = nI p) (hp' : p' < n) (e22 : σ.2 22 j = nI p') (et1 : τ.2.2.2 j 1 = nI p') (hk2 : k2 < m) (hk3 : k3 < m) (w : OS) : AgW okI Rel (wrT csL stI (B_X6_useLemma_104 σ (nI j) (nI k2) (nI k3)) w) (L_X7_useLemma_101 FU τ (nI j) (nI k2) (nI k3) (nI 2) 0) := by
  have hle := h.le
  have hm := hr.m60
  have ec : F_X1_premiseCount σ (nI j) = 2 := by
    unfold F_X1_premiseCount
    rw [rat_in hj (by decide), e20]; rfl
  obtain ⟨f, hf, ef⟩ := form_ix hr hk2
  obtain ⟨f', hf', ef'⟩ := form_ix hr hk3
  obtain ⟨b, σ1, g1, k1, q1⟩ := cm2 h ec hp hf (by rw [rat_in hj (by decide)]; exact e21) hp' hf' (by rw [rat_in hj (by decide)]; exact e22)
  obtain ⟨τ0, f1, f2, f3⟩ := free_loop (nI j) (nI k2) (nI k3) (nI 2) 5 0 FU τ (by omega) (by unfold FU; omega) (fun j hj => absurd hj (Nat.not_lt_zero j))
  obtain ⟨b1, τ1, r1, r2, r3⟩ := rm2 (f2.fw h) f3 hp hf hp' hf'
  have hx2 : ∀ x ∈ [(p, nI f), (p', nI f')], x.1 < n ∧ x.2 ≠ -1 := fun x hx => by
    rw [List.mem_cons, List.mem_singleton] at hx
    rcases hx with rfl | rfl
    · exact ⟨hp, ni_ne (by omega)⟩
    · exact ⟨hp', ni_ne (by omega)⟩
  have back : ∀ {b' : Int32} {R : Nat → Int32}, RmE n τ0 [(p, nI f), (p', nI f')] b' R → RmE n τ [(p, nI f), (p', nI f')] b' R := fun {b' R} r3 => by
    rcases r3 with ⟨rfl, r⟩ | ⟨rfl, r, r'⟩
    · exact Or.inl ⟨rfl, fun Q hQ => r Q (hQ.ext f2)⟩
    · exact Or.inr ⟨rfl, fun x hx => (r x hx).elim fun hh hx => ⟨hh, hx.ext f2.sy⟩, fun Q hQ hx => (r' Q (hQ.ext f2) hx).ext f2.sy⟩
  rw [show (0 : Int32) = nI 0 from rfl, f1]
  unfold B_X6_useLemma_104 fitE B_X7_useLemma_147
  rw [lt_def, form_in hr hk2, ef, form_in hr hk3, ef', g1, bd_some, if_neg (by decide), gd_in hj (by decide), gd02, gd_in (show k2 < 60 by omega) (by decide), ni_cl (show j < 2147483648 by omega), ni_cl (show k2 < 2147483648 by omega), show (0 : Int32).toNatClampNeg = 0 from by decide, f2.2.2, et0, f2.2.1 6 (by decide), ef, r1, bd_some]
  rcases r3 with ⟨rfl, r3⟩ | ⟨rfl, b', τ2, r4, r5, r6⟩
  · obtain ⟨rfl, -, -⟩ := both_ok h hx2 q1 (back r3)
    have kt : RPt τ τ1 := f2.tr r2
    rw [if_pos rfl, shape_0, bd_exc, raises_eq, bd_some]
    exact ag_exc rfl rfl rfl rfl (by decide) (Rel.thr ⟨n, m, q, e, kt.fw (k1.fw h), kt.rw9 (k1.rw9 hr)⟩ 3)
  · obtain ⟨rfl, hb, hag⟩ := both_ok h hx2 q1 (back r6)
    have kt1 : RPt τ τ1 := f2.tr r2
    have kt : RPt τ τ2 := f2.tr r5
    rw [if_neg i10, if_neg (by decide), gd_in hj (by decide), gd12, gd_in (show k3 < 60 by omega) (by decide), ni_cl (show k3 < 2147483648 by omega), show (1 : Int32).toNatClampNeg = 1 from by decide, kt1.2.2, et1, kt1.2.1 6 (by decide), ef', r4, bd_some]
    have hF1 : FW n σ1 τ2 := kt.fw (k1.fw h)
    have hR1 : RW n m q e σ1 τ2 := kt.rw9 (k1.rw9 hr)
    rcases hb with rfl | rfl
    · rw [if_pos rfl, shape_0, bd_exc, raises_eq, bd_some]
      exact ag_exc rfl rfl rfl rfl (by decide) (Rel.thr ⟨n, m, q, e, hF1, hR1⟩ 3)
    · rw [if_neg i10, shape_1, bd_some]
      have hJ : IS1 n (σ1.2 25) := by
        rcases q1 with ⟨h, -⟩ | ⟨-, h, -⟩
        · exact absurd h (by decide)
        · exact h
      have hk0 : ∀ g, Kn τ2 g = Kn τ g := fun g => by show τ2.2.1 0 g = _; rw [kt.2.1 0 (by decide)]
      exact lem_tail hF1 hR1 (Or.inr trivial) hj (by omega) hc0 (by rw [kt.2.1 14 (by decide)]; exact e14) (by rw [k1.2 23 (by decide)]; exact e23) hJ (fun g k hg hk ek => hag rfl g k hg hk (by rw [← hk0]; exact ek)) (ix60 hr hk2) (ix60 hr hk3) (Or.inr (Or.inr ⟨rfl, rfl, rfl⟩)) w
end USEL
theorem ag26 : AG26 Rel := by
  intro σ τ w a a2 a3 hI
  obtain ⟨n, m, q, e, h, hr⟩ := id hI
  have he := hr.e8
  unfold W_L_useLemma P_X6_useLemma P_X7_useLemma B_X7_useLemma_24
  rcases ix_cases e (by omega) a with ⟨j, hj, rfl⟩ | ha
  · obtain ⟨c, hc, e20, e13, e21, e22, e23, c0, hc0, e14⟩ := hr.2.1.2.2.2 j hj
    have ec : F_X1_premiseCount σ (nI j) = nI c := by
      unfold F_X1_premiseCount
      rw [rat_in (by omega) (by decide), e20]
    rw [reqM_in hr hj, bd_some, inM_in hr hj, if_neg i10, gd_in (show j < 8 by omega) (by decide), ni_cl (by omega), e13, lt_def, if_neg (ni_ne (by omega)), ec]
    unfold B_X6_useLemma_21
    rw [ec]
    have hcc : c = 0 ∨ c = 1 ∨ c = 2 := by omega
    rcases hcc with rfl | rfl | rfl
    · rw [if_pos (by decide), if_pos (by decide), lt_def, if_pos (by decide)]
      unfold B_X6_useLemma_40 B_X6_useLemma_52 B_X6_useLemma_62 B_X6_useLemma_72 B_X6_useLemma_82 B_X6_useLemma_92 B_X7_useLemma_45 B_X7_useLemma_65 B_X7_useLemma_78
      simp only [lt_def, if_pos (show (0 : Int32) = 0 from rfl), if_pos (show nI 0 ≤ 1 by decide), if_pos (show nI 0 ≤ 0 by decide)]
      exact lem_c0 h hr (by omega) hc0 e20 e14 (e23.trans e14) a2 a3 w
    · obtain ⟨e21, p, hp, et0⟩ := e21 (by decide)
      rw [if_neg (by decide), if_neg (by decide), lt_def, if_pos (by decide)]
      unfold B_X6_useLemma_40 B_X6_useLemma_52 B_X6_useLemma_62 B_X6_useLemma_72 B_X6_useLemma_82 B_X6_useLemma_92 B_X7_useLemma_45 B_X7_useLemma_65 B_X7_useLemma_78
      simp only [lt_def, if_neg i10, if_pos (show (0 : Int32) = 0 from rfl), if_pos (show nI 1 ≤ 1 by decide), if_neg (show ¬ nI 1 ≤ 0 by decide)]
      rcases gate hr a2 with ⟨k, hk, rfl, g1, g2, g3, g4⟩ | ⟨k, hk, rfl, g1, g2, g3, g4⟩ | ⟨g1, g2⟩
      · rw [g1, bd_some, g2, bd_some, g4, if_neg i10, g3, bd_some, if_neg i10]
        exact lem_c1 h hr (by omega) hc0 e20 e14 (e23.trans e14) hp (e21.trans et0) et0 hk a3 w
      · rw [g1, bd_some, g2, bd_exc, g4, if_neg i10, g3, bd_some, if_pos rfl, raises_eq, bd_some]
        exact ag_exc rfl rfl rfl rfl (by decide) (hI.thr 2)
      · rw [g1, bd_exc, g2, if_pos rfl, raises_eq, bd_some]
        exact ag_exc rfl rfl rfl rfl (by decide) (hI.thr 1)
    · obtain ⟨e21, p, hp, et0⟩ := e21 (by decide)
      obtain ⟨e22, p', hp', et1⟩ := e22 (by decide)
      rw [if_neg (by decide), if_neg (by decide), lt_def, if_neg (by decide)]
      unfold B_X6_useLemma_40 B_X6_useLemma_52 B_X6_useLemma_62 B_X6_useLemma_72 B_X6_useLemma_82 B_X6_useLemma_92 B_X7_useLemma_45 B_X7_useLemma_65 B_X7_useLemma_78
      simp only [lt_def, if_neg i10, if_neg (show ¬ nI 2 ≤ 1 by decide), if_neg (show ¬ nI 2 ≤ 0 by decide)]
      rcases gate hr a2 with ⟨k, hk, rfl, g1, g2, g3, g4⟩ | ⟨k, hk, rfl, g1, g2, g3, g4⟩ | ⟨g1, g2⟩
      · rw [g1, bd_some, g4, if_neg i10]
        rcases gate hr a3 with ⟨k', hk', rfl, g1', g2', g3', g4'⟩ | ⟨k', hk', rfl, g1', g2', g3', g4'⟩ | ⟨g1', g2'⟩
        · rw [g1', bd_some, g2, bd_some, g2', bd_some, g4', if_neg i10, g3, bd_some, if_neg i10, g3', bd_some, if_neg i10]
          exact lem_c2 h hr (by omega) hc0 e20 e14 (e23.trans e14) hp (e21.trans et0) et0 hp' (e22.trans et1) et1 hk hk' w
        · rw [g1', bd_some, g2, bd_some, g2', bd_exc, g4', if_neg i10, g3, bd_some, if_neg i10, g3', bd_some, if_pos rfl, raises_eq, bd_some]
          exact ag_exc rfl rfl rfl rfl (by decide) (hI.thr 2)
        · rw [g1', bd_exc, g2', if_pos rfl, raises_eq, bd_some]
          exact ag_exc rfl rfl rfl rfl (by decide) (hI.thr 1)
      · rw [g1, bd_some, g4, if_neg i10]
        rcases gate hr a3 with ⟨k', hk', rfl, g1', g2', g3', g4'⟩ | ⟨k', hk', rfl, g1', g2', g3', g4'⟩ | ⟨g1', g2'⟩
        · rw [g1', bd_some, g2, bd_exc, g4', if_neg i10, g3, bd_some, if_pos rfl, raises_eq, bd_some]
          exact ag_exc rfl rfl rfl rfl (by decide) (hI.thr 2)
        · rw [g1', bd_some, g2, bd_exc, g4', if_neg i10, g3, bd_some, if_pos rfl, raises_eq, bd_some]
          exact ag_exc rfl rfl rfl rfl (by decide) (hI.thr 2)
        · rw [g1', bd_exc, g2', if_pos rfl, raises_eq, bd_some]
          exact ag_exc rfl rfl rfl rfl (by decide) (hI.thr 1)
      · rw [g1, bd_exc, g2, if_pos rfl, raises_eq, bd_some]
        exact ag_exc rfl rfl rfl rfl (by decide) (hI.thr 1)
  · rw [reqM_no hr ha, bd_exc, inM_no hr ha, if_pos rfl, lt_def, if_pos rfl, raises_eq, bd_some]
    exact ag_exc rfl rfl rfl rfl (by decide) (hI.thr 1)
