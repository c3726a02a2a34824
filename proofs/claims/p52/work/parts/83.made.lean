/-! A FORMULA IS MADE: the same on both sides -/
theorem getD_l {l r : List Int32} {j : Nat} (h : j < l.length) : (l ++ r).getD j 0 = l.getD j 0 := by
  rw [List.getD_eq_getElem?_getD, List.getElem?_append_left h, ← List.getD_eq_getElem?_getD]
theorem getD_r {l r : List Int32} {j : Nat} (h : l.length ≤ j) : (l ++ r).getD j 0 = r.getD (j - l.length) 0 := by
  rw [List.getD_eq_getElem?_getD, List.getElem?_append_right h, ← List.getD_eq_getElem?_getD]
section MADE
variable {n : Nat} {σ : DS} {τ : MS}
/-- all but the formulas stays -/
def PFs (σ σ' : DS) : Prop := (∀ k, k ≠ 1 → σ'.1 k = σ.1 k) ∧ ∀ k, 5 ≤ k → σ'.2 k = σ.2 k
def PFt (n : Nat) (τ τ' : MS) : Prop := (∀ k, k ≠ 0 → τ'.1 k = τ.1 k) ∧ (∀ k, 5 ≤ k → τ'.2.1 k = τ.2.1 k) ∧ τ'.2.2 = τ.2.2 ∧ ∀ k, k < 5 → ∀ f, f < n → τ'.2.1 k f = τ.2.1 k f
theorem PFs.rf : PFs σ σ := ⟨fun _ _ => rfl, fun _ _ => rfl⟩
theorem PFt.rf : PFt n τ τ := ⟨fun _ _ => rfl, fun _ _ => rfl, rfl, fun _ _ _ _ => rfl⟩
theorem PFs.tr {σ1 σ2 : DS} (h1 : PFs σ σ1) (h2 : PFs σ1 σ2) : PFs σ σ2 := ⟨fun k hk => (h2.1 k hk).trans (h1.1 k hk), fun k hk => (h2.2 k hk).trans (h1.2 k hk)⟩
theorem PFt.tr {n' : Nat} {τ1 τ2 : MS} (hn : n ≤ n') (h1 : PFt n τ τ1) (h2 : PFt n' τ1 τ2) : PFt n τ τ2 := ⟨fun k hk => (h2.1 k hk).trans (h1.1 k hk), fun k hk => (h2.2.1 k hk).trans (h1.2.1 k hk), h2.2.2.1.trans h1.2.2.1, fun k hk f hf => (h2.2.2.2 k hk f (by omega)).trans (h1.2.2.2 k hk f hf)⟩
theorem size_wd (h : FW n σ τ) {v : Int32} {w : List Int32} (hw : WdI τ n v w) : F_X0_size σ v = nI w.length ∧ w.length ≤ 30 := by
  have hle := h.le
  rcases hw with ⟨rfl, rfl⟩ | ⟨a, ha, rfl, hs⟩
  · exact ⟨size_m1 h, by decide⟩
  · obtain ⟨w', q1, q2, q3, -⟩ := h.ent ha
    have e := Sw.det (by omega) hs q1
    subst e
    exact ⟨by rw [size_in h ha]; exact q3, q2⟩
theorem size_wd7 (h : FW n σ τ) {a : Nat} (ha : a < n) {w : List Int32} (hw : WdI τ n (nI a) w) : Sz τ a = nI w.length := by
  have := (size_wd h hw).1
  rwa [size_in h ha] at this
/-- the word of a formula out of its parts' -/
theorem Sw.mk {c l r : Int32} {f : Nat} {wl wr : List Int32} (hn : n ≤ 150) (hs : Shp n c l r) (hl : WdI τ n l wl) (hr : WdI τ n r wr) (ek : Kn τ f = c) (el : Lf τ f = l) (er : Rt τ f = r) (bl : ∀ a, l = nI a → a < 150 → a < f) (br : ∀ a, r = nI a → a < 150 → a < f) : Sw τ (c :: (wl ++ wr)).length f (c :: (wl ++ wr)) := by
  show Sw τ ((wl ++ wr).length + 1) f _
  rcases hs with ⟨k, rfl, rfl⟩ | ⟨a, k, ha, rfl, rfl⟩ | ⟨a, b, k, ha, hb, rfl, rfl⟩
  · rcases hl with ⟨-, rfl⟩ | ⟨a, ha, e, -⟩
    · rcases hr with ⟨-, rfl⟩ | ⟨b, hb, e, -⟩
      · exact Or.inl ⟨by rw [ek]; exact k, el, er, by rw [ek]; rfl⟩
      · exact absurd e.symm (ni_ne (by omega))
    · exact absurd e.symm (ni_ne (by omega))
  · rcases hl with ⟨e, -⟩ | ⟨a', ha', e, hs⟩
    · exact absurd e (ni_ne (by omega))
    · rw [ni_eq (by omega) (by omega)] at e
      subst e
      rcases hr with ⟨-, rfl⟩ | ⟨b, hb, e, -⟩
      · exact Or.inr (Or.inl ⟨a, wl, by rw [ek]; exact k, bl a rfl (by omega), el, er, hs.mono (by simp), by rw [ek, List.append_nil]⟩)
      · exact absurd e.symm (ni_ne (by omega))
  · rcases hl with ⟨e, -⟩ | ⟨a', ha', e, hs⟩
    · exact absurd e (ni_ne (by omega))
    · rw [ni_eq (by omega) (by omega)] at e
      subst e
      rcases hr with ⟨e, -⟩ | ⟨b', hb', e, hs'⟩
      · exact absurd e (ni_ne (by omega))
      · rw [ni_eq (by omega) (by omega)] at e
        subst e
        exact Or.inr (Or.inr ⟨a, b, wl, wr, by rw [ek]; exact k, bl a rfl (by omega), br b rfl (by omega), el, er, hs.mono (by simp), hs'.mono (by simp), by rw [ek]⟩)
theorem made_32 (h : FW n σ τ) {c l r : Int32} {wl wr : List Int32} (hl : WdI τ n l wl) (hr : WdI τ n r wr) : P_X7_made τ c l r = B_X7_made_32 τ c l r (nI wr.length) (nI (1 + wl.length)) := by
  have hle := h.le
  have key : ∀ t : Int32, B_X7_made_16 τ c l r t 1 = B_X7_made_32 τ c l r (nI wr.length) (1 + t) := by
    intro t
    unfold B_X7_made_16
    rcases hr with ⟨rfl, rfl⟩ | ⟨b, hb, rfl, hs⟩
    · rw [if_pos rfl]; rfl
    · rw [if_neg (ni_ne (by omega)), gd_in (by omega) (by decide), ni_cl (by omega)]
      have := size_wd7 h hb (Or.inr ⟨b, hb, rfl, hs⟩)
      have e : τ.2.1 3 b = nI wr.length := this
      rw [e]
  unfold P_X7_made
  rcases hl with ⟨rfl, rfl⟩ | ⟨a, ha, rfl, hs⟩
  · rw [if_pos rfl, key]; rfl
  · rw [if_neg (ni_ne (by omega)), gd_in (by omega) (by decide), ni_cl (by omega), key]
    have e : τ.2.1 3 a = nI wl.length := size_wd7 h ha (Or.inr ⟨a, ha, rfl, hs⟩)
    rw [e, show (1 : Int32) = nI 1 from rfl, ni_add]
theorem FE.of2 {σ' : DS} {τ' : MS} {f : Nat} (h : FE σ τ f) (e : σ'.2 = σ.2) (e' : τ'.2.1 = τ.2.1) : FE σ' τ' f := by
  obtain ⟨w, q1, q2, q3, q4, q5, q6, q7, q8, q9⟩ := h
  refine ⟨w, Sw.ext (n := f + 1) (fun g _ => by show τ'.2.1 0 g = _; rw [e']) (fun g _ => by show τ'.2.1 1 g = _; rw [e']) (fun g _ => by show τ'.2.1 2 g = _; rw [e']) (Nat.lt_succ_self f) q1, q2, ?_, ?_, ?_, ?_, ?_, ?_, ?_⟩
  · show τ'.2.1 3 f = _; rw [e']; exact q3
  · show σ'.2 0 f = τ'.2.1 1 f; rw [e, e']; exact q4
  · show σ'.2 1 f = τ'.2.1 2 f; rw [e, e']; exact q5
  · show σ'.2 2 f = τ'.2.1 3 f; rw [e, e']; exact q6
  · show σ'.2 3 f = τ'.2.1 4 f; rw [e, e']; exact q7
  · rw [e]; exact q8
  · show τ'.2.1 4 f = tabOf (τ'.2.1 0 f) (tbI τ' (τ'.2.1 1 f)) (tbI τ' (τ'.2.1 2 f))
    have k : ∀ v, tbI τ' v = tbI τ v := fun v => by unfold tbI; show (if v = -1 then 0 else τ'.2.1 4 _) = _; rw [e']
    rw [k, k, e']
    exact q9
/-- the class's new entry -/
theorem add_ok (h : FW n σ τ) {c l r : Int32} (hn : n < 150) (hs : Shp n c l r) {wl wr : List Int32} (hl : WdI τ n l wl) (hr : WdI τ n r wr) (hlen : 1 + wl.length + wr.length ≤ 30) : ∃ σ' : DS, P_X0_add σ c l r = some (.inl (nI n), σ') ∧ σ'.1 1 = nI (n + 1) ∧ PFs σ σ' ∧ (∀ k, k < 4 → ∀ f, f < n → σ'.2 k f = σ.2 k f) ∧ (∀ j, j < n * 30 → σ'.2 4 j = σ.2 4 j) ∧ σ'.2 0 n = l ∧ σ'.2 1 n = r ∧ σ'.2 2 n = nI (1 + wl.length + wr.length) ∧ σ'.2 3 n = tabOf c (tbI τ l) (tbI τ r) ∧ ∀ i, i < 1 + wl.length + wr.length → σ'.2 4 (n * 30 + i) = (c :: (wl ++ wr)).getD i 0 := by
  unfold P_X0_add
  rw [lt_def, h.cnt, lt_def, show (30 : Int32) = nI 30 from rfl, ni_mul, lt_def, rput_in (show n * 30 < 4500 by omega) (by decide)]
  generalize hs20 : sR σ 4 (upd (σ.2 4) (n * 30) c) = s20
  have a1 : s20.1 = σ.1 := by rw [← hs20]; rfl
  have a2 : ∀ k, k ≠ 4 → s20.2 k = σ.2 k := fun k hk => by rw [← hs20, sR_2, if_neg hk]
  have a4 : s20.2 4 = upd (σ.2 4) (n * 30) c := by rw [← hs20, sR_2, if_pos rfl]
  have h20 : FW n s20 τ := h.of (by rw [a1]) rfl (fun k hk f hf => by rw [a2 k (by omega)]) (fun j hj => by rw [a4, upd_ne _ (by omega)]) (fun _ _ _ _ => rfl)
  obtain ⟨s29, p1, b1, b2, b4, h29⟩ := put_ok h20 (p := n * 30 + 1) hl (size_wd h20 hl).1 (by omega) (by omega)
  rw [ni_add1, p1, bd_some, (size_wd h29 hl).1, ni_add]
  obtain ⟨s44, p2, c1, c2, c4, h44⟩ := put_ok h29 (p := n * 30 + 1 + wl.length) hr (size_wd h29 hr).1 (by omega) (by omega)
  rw [p2, bd_some, (size_wd h44 hl).1, (size_wd h44 hr).1, show (1 : Int32) = nI 1 from rfl, ni_add, ni_add]
  simp only [lt_def]
  rw [rput_in (show n < 150 by omega) (by decide), rput_in (show n < 150 by omega) (by decide), rput_in (show n < 150 by omega) (by decide)]
  generalize hs86 : sR (sR (sR s44 2 (upd (s44.2 2) n (nI (1 + wl.length + wr.length)))) 0 (upd ((sR s44 2 (upd (s44.2 2) n (nI (1 + wl.length + wr.length)))).2 0) n l)) 1 (upd ((sR (sR s44 2 (upd (s44.2 2) n (nI (1 + wl.length + wr.length)))) 0 (upd ((sR s44 2 (upd (s44.2 2) n (nI (1 + wl.length + wr.length)))).2 0) n l)).2 1) n r) = s86
  have d1 : s86.1 = s44.1 := by rw [← hs86]; rfl
  have d2 : s86.2 2 = upd (s44.2 2) n (nI (1 + wl.length + wr.length)) := by rw [← hs86]; rfl
  have d0 : s86.2 0 = upd (s44.2 0) n l := by rw [← hs86]; rfl
  have d1' : s86.2 1 = upd (s44.2 1) n r := by rw [← hs86]; rfl
  have d9 : ∀ k, 3 ≤ k → s86.2 k = s44.2 k := fun k hk => by
    rw [← hs86, sR_2, if_neg (by omega), sR_2, if_neg (by omega), sR_2, if_neg (by omega)]
  have d3 : ∀ k, 3 ≤ k → k ≠ 4 → s86.2 k = σ.2 k := fun k hk h4 => by rw [d9 k hk, c2 k h4, b2 k h4, a2 k h4]
  rw [tableFrom_ok h hs s86 (fun f hf => by rw [d3 3 (by omega) (by decide)]), bd_some, rput_in (show n < 150 by omega) (by decide)]
  refine ⟨_, rfl, ?_, ⟨fun k hk => ?_, fun k hk => ?_⟩, fun k hk f hf => ?_, fun j hj => ?_, ?_, ?_, ?_, ?_, fun i hi => ?_⟩
  · show s86.1 1 + 1 = nI (n + 1)
    rw [d1, c1, b1, a1, h.cnt, ni_add1]
  · rw [sI_1, if_neg hk, sR_1, d1, c1, b1, a1]
  · rw [sI_2, sR_2, if_neg (by omega), d3 k (by omega) (by omega)]
  · rw [sI_2, sR_2]
    have hk : k = 0 ∨ k = 1 ∨ k = 2 ∨ k = 3 := by omega
    rcases hk with rfl | rfl | rfl | rfl
    · rw [if_neg (by decide), d0, upd_ne _ (by omega), c2 0 (by decide), b2 0 (by decide), a2 0 (by decide)]
    · rw [if_neg (by decide), d1', upd_ne _ (by omega), c2 1 (by decide), b2 1 (by decide), a2 1 (by decide)]
    · rw [if_neg (by decide), d2, upd_ne _ (by omega), c2 2 (by decide), b2 2 (by decide), a2 2 (by decide)]
    · rw [if_pos rfl, upd_ne _ (by omega), d3 3 (by decide) (by decide)]
  · rw [sI_2, sR_2, if_neg (by decide), d9 4 (by decide), c4, if_neg (by omega), b4, if_neg (by omega), a4, upd_ne _ (by omega)]
  · show s86.2 0 n = l
    rw [d0, upd_eq]
  · show s86.2 1 n = r
    rw [d1', upd_eq]
  · show s86.2 2 n = _
    rw [d2, upd_eq]
  · rw [sI_2, sR_2, if_pos rfl, upd_eq]
  · rw [sI_2, sR_2, if_neg (by decide), d9 4 (by decide), c4]
    rcases Nat.eq_zero_or_pos i with rfl | hi0
    · rw [if_neg (by omega), b4, if_neg (by omega), a4]
      exact upd_eq _ _ _
    · obtain ⟨j, rfl⟩ : ∃ j, i = j + 1 := ⟨i - 1, by omega⟩
      show _ = (wl ++ wr).getD j 0
      by_cases hj : j < wl.length
      · rw [if_neg (by omega), b4, if_pos (by omega), show n * 30 + (j + 1) - (n * 30 + 1) = j by omega, getD_l hj]
      · rw [if_pos (by omega), show n * 30 + (j + 1) - (n * 30 + 1 + wl.length) = j - wl.length by omega, getD_r (by omega)]
theorem enter_ok (h : FW n σ τ) {c l r : Int32} (hs : Shp n c l r) : ∃ (v : Int32) (n' : Nat) (σ' : DS) (τ' : MS), P_X0_enter σ c l r = some (.inl v, σ') ∧ P_X7_made τ c l r = some (.inl v, τ') ∧ FW n' σ' τ' ∧ n ≤ n' ∧ PFs σ σ' ∧ PFt n τ τ' ∧ (v = -1 ∨ ∃ f, f < n' ∧ v = nI f ∧ Kn τ' f = c ∧ Lf τ' f = l ∧ Rt τ' f = r) := by
  have hle := h.le
  obtain ⟨wl, hl, -⟩ := WdI.of h hs.l
  obtain ⟨wr, hr, -⟩ := WdI.of h hs.r
  have sl := (size_wd h hl).1
  have sr := (size_wd h hr).1
  have ll := (size_wd h hl).2
  have lr := (size_wd h hr).2
  obtain ⟨v, f1, f2, f3⟩ := find_ok h c l r
  rw [made_32 h hl hr]
  unfold P_X0_enter B_X7_made_32
  rw [lt_def, f1, bd_some, lt_def, f2, bd_some, lt_def, sl, sr, show (1 : Int32) + nI wl.length = nI (1 + wl.length) from ni_add 1 _, ni_add, show (30 : Int32) = nI 30 from rfl]
  rcases f3 with ⟨rfl, hno⟩ | ⟨f, hf, rfl, ek, el, er⟩
  · rw [if_pos rfl]
    by_cases h30 : 1 + wl.length + wr.length ≤ 30
    · rw [if_pos (nI_le h30 (by decide)), if_neg (nI_nlt h30 (by decide)), if_pos rfl]
      unfold B_X0_enter_41
      rw [lt_def, if_pos rfl, h.cnt, h.cnt7, show (150 : Int32) = nI 150 from rfl]
      by_cases h150 : n < 150
      · rw [if_pos (nI_lt h150 (by decide)), if_neg (fun q => by rw [ni_eq (by omega) (by decide)] at q; omega)]
        obtain ⟨σ', q1, q2, q3, q4, q5, q6, q7, q8, q9, q10⟩ := add_ok h h150 hs hl hr h30
        rw [q1, bd_some]
        unfold B_X7_made_69
        rw [if_pos rfl, lt_def, h.cnt7]
        simp only [gd_in h150 (by decide : (150 : Nat) < 2147483648), ni_cl (show n < 2147483648 by omega), lt_def, kind_nar c hs.kn]
        generalize hs113 : tA (tA (tA (tA τ 0 (upd (τ.2.1 0) n c)) 1 (upd ((tA τ 0 (upd (τ.2.1 0) n c)).2.1 1) n l)) 2 (upd ((tA (tA τ 0 (upd (τ.2.1 0) n c)) 1 (upd ((tA τ 0 (upd (τ.2.1 0) n c)).2.1 1) n l)).2.1 2) n r)) 3 (upd ((tA (tA (tA τ 0 (upd (τ.2.1 0) n c)) 1 (upd ((tA τ 0 (upd (τ.2.1 0) n c)).2.1 1) n l)) 2 (upd ((tA (tA τ 0 (upd (τ.2.1 0) n c)) 1 (upd ((tA τ 0 (upd (τ.2.1 0) n c)).2.1 1) n l)).2.1 2) n r)).2.1 3) n (nI (1 + wl.length + wr.length))) = s113
        have t1 : s113.1 = τ.1 := by rw [← hs113]; rfl
        have t2 : s113.2.2 = τ.2.2 := by rw [← hs113]; rfl
        have t10 : s113.2.1 0 = upd (τ.2.1 0) n c := by rw [← hs113]; rfl
        have t11 : s113.2.1 1 = upd (τ.2.1 1) n l := by rw [← hs113]; rfl
        have t12 : s113.2.1 2 = upd (τ.2.1 2) n r := by rw [← hs113]; rfl
        have t13 : s113.2.1 3 = upd (τ.2.1 3) n (nI (1 + wl.length + wr.length)) := by rw [← hs113]; rfl
        have t19 : ∀ k, 4 ≤ k → s113.2.1 k = τ.2.1 k := fun k hk => by
          rw [← hs113]
          show up1 (up1 (up1 (up1 τ.2.1 0 _) 1 _) 2 _) 3 _ k = _
          rw [up1_at, if_neg (by omega), up1_at, if_neg (by omega), up1_at, if_neg (by omega), up1_at, if_neg (by omega)]
        rw [truth_ok h hs s113 (fun f hf => by rw [t19 4 (by decide)]), bd_some]
        generalize hτ' : tI (tA s113 4 (upd (s113.2.1 4) n (tabOf c (tbI τ l) (tbI τ r)))) 0 ((tA s113 4 (upd (s113.2.1 4) n (tabOf c (tbI τ l) (tbI τ r)))).1 0 + 1) = τ'
        have u0 : τ'.1 0 = nI (n + 1) := by
          rw [← hτ']
          show s113.1 0 + 1 = _
          rw [t1, h.cnt7, ni_add1]
        have u1 : ∀ k, k ≠ 0 → τ'.1 k = τ.1 k := fun k hk => by
          rw [← hτ']
          show up1 s113.1 0 _ k = _
          rw [up1_at, if_neg hk, t1]
        have u2 : τ'.2.2 = τ.2.2 := by rw [← hτ']; exact t2
        have u4 : τ'.2.1 4 = upd (τ.2.1 4) n (tabOf c (tbI τ l) (tbI τ r)) := by
          rw [← hτ']
          show upd (s113.2.1 4) n _ = _
          rw [t19 4 (by decide)]
        have u9 : ∀ k, k ≠ 4 → τ'.2.1 k = s113.2.1 k := fun k hk => by
          rw [← hτ']
          show up1 s113.2.1 4 _ k = _
          rw [up1_at, if_neg hk]
        have ub : ∀ k, k < 5 → ∀ f, f < n → τ'.2.1 k f = τ.2.1 k f := fun k hk f hf => by
          have hk : k = 0 ∨ k = 1 ∨ k = 2 ∨ k = 3 ∨ k = 4 := by omega
          rcases hk with rfl | rfl | rfl | rfl | rfl
          · rw [u9 0 (by decide), t10, upd_ne _ (by omega)]
          · rw [u9 1 (by decide), t11, upd_ne _ (by omega)]
          · rw [u9 2 (by decide), t12, upd_ne _ (by omega)]
          · rw [u9 3 (by decide), t13, upd_ne _ (by omega)]
          · rw [u4, upd_ne _ (by omega)]
        have k0 : Kn τ' n = c := by show τ'.2.1 0 n = c; rw [u9 0 (by decide), t10, upd_eq]
        have k1 : Lf τ' n = l := by show τ'.2.1 1 n = l; rw [u9 1 (by decide), t11, upd_eq]
        have k2 : Rt τ' n = r := by show τ'.2.1 2 n = r; rw [u9 2 (by decide), t12, upd_eq]
        have k3 : Sz τ' n = nI (1 + wl.length + wr.length) := by show τ'.2.1 3 n = _; rw [u9 3 (by decide), t13, upd_eq]
        have k4 : Tb τ' n = tabOf c (tbI τ l) (tbI τ r) := by show τ'.2.1 4 n = _; rw [u4, upd_eq]
        -- the old ones
        have hold : FW n (fun j => if j = 1 then nI n else σ'.1 j, σ'.2) (fun j => if j = 0 then nI n else τ'.1 j, τ'.2) := h.cut (Nat.le_refl n) rfl rfl (fun q hq f hf => q4 q hq f hf) (fun j hj => q5 j hj) (fun q hq f hf => ub q hq f hf)
        have ext : ∀ {k : Nat} {f : Nat} {w : List Int32}, f < n → Sw τ k f w → Sw τ' k f w := fun hf q => Sw.ext (n := n) (fun f hf => ub 0 (by decide) f hf) (fun f hf => ub 1 (by decide) f hf) (fun f hf => ub 2 (by decide) f hf) hf q
        have hwd : ∀ {v : Int32} {w : List Int32}, WdI τ n v w → WdI τ' n v w := fun hw => by
          rcases hw with hw | ⟨a, ha, e, q⟩
          · exact Or.inl hw
          · exact Or.inr ⟨a, ha, e, ext ha q⟩
        have tbe : ∀ {v : Int32}, (v = -1 ∨ ∃ a, a < n ∧ v = nI a) → tbI τ' v = tbI τ v := fun hv => by
          rcases hv with rfl | ⟨a, ha, rfl⟩
          · rfl
          · rw [tbI_in (by omega), tbI_in (by omega)]; exact ub 4 (by decide) a ha
        have lth : ∀ {v : Int32}, (v = -1 ∨ ∃ a, a < n ∧ v = nI a) → ∀ a, v = nI a → a < 150 → a < n := fun hv a e ha => by
          rcases hv with rfl | ⟨b, hb, rfl⟩
          · exact absurd e.symm (ni_ne (by omega))
          · rw [ni_eq (by omega) (by omega)] at e; omega
        have hnew : FE σ' τ' n := by
          refine ⟨c :: (wl ++ wr), Sw.mk (by omega) hs (hwd hl) (hwd hr) k0 k1 k2 (lth hs.l) (lth hs.r), by simp; omega, by rw [k3]; congr 1; simp; omega, by rw [q6, k1], by rw [q7, k2], by rw [q8, k3], by rw [q9, k4], fun i hi => q10 i (by simp at hi; omega), ?_⟩
          rw [k4, k0, k1, k2, tbe hs.l, tbe hs.r]
        refine ⟨nI n, n + 1, σ', τ', rfl, rfl, ⟨by omega, q2, u0, fun f hf => ?_, fun f g hf hg e1 e2 e3 => ?_⟩, by omega, q3, ⟨u1, fun k hk => by rw [u9 k (by omega), t19 k (by omega)], u2, ub⟩, Or.inr ⟨n, by omega, rfl, k0, k1, k2⟩⟩
        · rcases Nat.lt_or_ge f n with q | q
          · exact (hold.ent q).of2 rfl rfl
          · have : f = n := by omega
            subst this
            exact hnew
        · have old : ∀ f, f < n → ¬ (Kn τ' f = c ∧ Lf τ' f = l ∧ Rt τ' f = r) := fun f hf q => hno f hf ⟨by have := q.1; rwa [show Kn τ' f = Kn τ f from ub 0 (by decide) f hf] at this, by have := q.2.1; rwa [show Lf τ' f = Lf τ f from ub 1 (by decide) f hf] at this, by have := q.2.2; rwa [show Rt τ' f = Rt τ f from ub 2 (by decide) f hf] at this⟩
          rcases Nat.lt_or_ge f n with q | q <;> rcases Nat.lt_or_ge g n with q' | q'
          · exact hold.2.2.2.2 f g q q' e1 e2 e3
          · have : g = n := by omega
            subst this
            exact absurd ⟨e1.trans k0, e2.trans k1, e3.trans k2⟩ (old f q)
          · have : f = n := by omega
            subst this
            exact absurd ⟨e1.symm.trans k0, e2.symm.trans k1, e3.symm.trans k2⟩ (old g q')
          · omega
      · rw [if_neg (nI_nlt (by omega) (by omega)), if_pos (by rw [show n = 150 by omega])]
        exact ⟨-1, n, σ, τ, rfl, rfl, h, Nat.le_refl n, PFs.rf, PFt.rf, Or.inl rfl⟩
    · rw [if_neg (nI_ge (by omega) (by omega)), if_pos (nI_lt (by omega) (by omega))]
      exact ⟨-1, n, σ, τ, rfl, rfl, h, Nat.le_refl n, PFs.rf, PFt.rf, Or.inl rfl⟩
  · have hw : 1 + wl.length + wr.length ≤ 30 := by
      obtain ⟨w, q1, q2, -⟩ := h.ent hf
      have lth : ∀ v : Int32, (∀ a, v = nI a → a < 150 → a < f) ∨ True := fun _ => Or.inr trivial
      have hsh := (h.ent hf).sh
      have bl : ∀ a, l = nI a → a < 150 → a < f := fun a e ha => by
        rw [← el] at e
        rcases hsh with ⟨-, e', -⟩ | ⟨a', -, h', e', -⟩ | ⟨a', b', -, h', -, e', -⟩
        · rw [e'] at e; exact absurd e.symm (ni_ne (by omega))
        · rw [e', ni_eq (by omega) (by omega)] at e; omega
        · rw [e', ni_eq (by omega) (by omega)] at e; omega
      have br : ∀ a, r = nI a → a < 150 → a < f := fun a e ha => by
        rw [← er] at e
        rcases hsh with ⟨-, -, e'⟩ | ⟨a', -, h', -, e'⟩ | ⟨a', b', -, -, h', -, e'⟩
        · rw [e'] at e; exact absurd e.symm (ni_ne (by omega))
        · rw [e'] at e; exact absurd e.symm (ni_ne (by omega))
        · rw [e', ni_eq (by omega) (by omega)] at e; omega
      have := Sw.det (by omega) (Sw.mk hle hs hl hr ek el er bl br) q1
      rw [← this] at q2
      simp at q2
      omega
    rw [if_neg (ni_ne (by omega)), if_neg (nI_nlt hw (by decide)), if_neg (ni_ne (by omega))]
    unfold B_X7_made_69
    rw [if_neg (ni_ne (by omega))]
    exact ⟨nI f, n, σ, τ, rfl, rfl, h, Nat.le_refl n, PFs.rf, PFt.rf, Or.inr ⟨f, hf, rfl, ek, el, er⟩⟩
end MADE
