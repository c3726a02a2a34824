/-! AN INSTANCE IS WRITTEN -/
def sbC (W : Int32 → List Int32) (c : Int32) : List Int32 := if c = 97 ∨ c = 98 ∨ c = 99 ∨ c = 100 ∨ c = 101 then W c else [c]
def sbW (W : Int32 → List Int32) : List Int32 → List Int32
  | [] => []
  | c :: u => sbC W c ++ sbW W u
theorem sbC_y {W : Int32 → List Int32} {c : Int32} (h : letK c) : sbC W c = W c := if_pos h
theorem sbC_n {W : Int32 → List Int32} {c : Int32} (h : ¬ letK c) : sbC W c = [c] := if_neg h
theorem sbW_app {W : Int32 → List Int32} : ∀ (u v : List Int32), sbW W (u ++ v) = sbW W u ++ sbW W v
  | [], v => rfl
  | c :: u, v => by
    show sbC W c ++ sbW W (u ++ v) = sbC W c ++ sbW W u ++ sbW W v
    rw [sbW_app u v, List.append_assoc]
theorem sbW_len {W : Int32 → List Int32} (hW : ∀ c, letK c → (W c).length ≤ 30) : ∀ (u : List Int32), (sbW W u).length ≤ 30 * u.length
  | [] => Nat.zero_le _
  | c :: u => by
    have ih := sbW_len hW u
    have h1 : (sbC W c).length ≤ 30 := by
      by_cases h : letK c
      · rw [sbC_y h]; exact hW c h
      · rw [sbC_n h]; exact (by decide : 1 ≤ 30)
    show (sbC W c ++ sbW W u).length ≤ 30 * (u.length + 1)
    rw [List.length_append]
    omega
/-- the tree of an instance -/
def tSub (T : Int32 → TT) : TT → TT
  | .leaf c => if c = 97 ∨ c = 98 ∨ c = 99 ∨ c = 100 ∨ c = 101 then T c else .leaf c
  | .branch p a b => .branch p (tSub T a) (tSub T b)
theorem kind_nlet {p : Nat} (h : p = 78 ∨ p = 75 ∨ p = 65 ∨ p = 67) : ¬ letK (nI p) := by
  unfold letK
  rcases h with rfl | rfl | rfl | rfl <;> decide
theorem tSub_ok {T : Int32 → TT} (hT : ∀ c, letK c → tOk (T c)) : ∀ {t : TT}, tOk t → tOk (tSub T t) ∧ tW (tSub T t) = sbW (fun c => tW (T c)) (tW t)
  | .leaf c, ht => by
    by_cases h : letK c
    · have e : tSub T (.leaf c) = T c := if_pos h
      rw [e]
      refine ⟨hT c h, ?_⟩
      show _ = sbC _ c ++ []
      rw [sbC_y h, List.append_nil]
    · have e : tSub T (.leaf c) = .leaf c := if_neg h
      rw [e]
      refine ⟨ht, ?_⟩
      show _ = sbC _ c ++ []
      rw [sbC_n h]
      rfl
  | .branch p a b, ht => by
    rcases ht with ⟨rfl, ha⟩ | ⟨hp, ha, hb⟩
    · obtain ⟨i1, i2⟩ := tSub_ok hT ha
      refine ⟨tOk_N i1 _, ?_⟩
      show tW (.branch 78 (tSub T a) (tSub T b)) = _
      rw [tW_N, tW_N, i2]
      show _ = sbC _ 78 ++ _
      rw [sbC_n (show ¬ letK 78 from kind_nlet (p := 78) (Or.inl rfl))]
      rfl
    · obtain ⟨i1, i2⟩ := tSub_ok hT ha
      obtain ⟨j1, j2⟩ := tSub_ok hT hb
      refine ⟨tOk_B hp i1 j1, ?_⟩
      show tW (.branch p (tSub T a) (tSub T b)) = _
      rw [tW_B _ _ (by omega), tW_B _ _ (by omega), i2, j2]
      show _ = sbC _ (nI p) ++ sbW _ (tW a ++ tW b)
      rw [sbC_n (kind_nlet (Or.inr hp)), sbW_app]
      rfl
/-- the letters of a word stand for formulas that are known -/
theorem sw_let {τ : MS} : ∀ {h f : Nat} {w : List Int32}, Sw τ h f w → ∀ c ∈ w, letK c → ∃ g, g ≤ f ∧ Kn τ g = c
  | 0, _, _, q => q.elim
  | h + 1, f, w, q => by
    intro c hc hl
    rcases q with ⟨-, -, -, rfl⟩ | ⟨a, u, -, ha, -, -, z, rfl⟩ | ⟨a, b, u, v, -, ha, hb, -, -, z, z', rfl⟩
    · rw [List.mem_singleton] at hc
      exact ⟨f, Nat.le_refl _, hc.symm⟩
    · rcases List.mem_cons.mp hc with rfl | hc
      · exact ⟨f, Nat.le_refl _, rfl⟩
      · obtain ⟨g, hg, e⟩ := sw_let z c hc hl
        exact ⟨g, by omega, e⟩
    · rcases List.mem_cons.mp hc with rfl | hc
      · exact ⟨f, Nat.le_refl _, rfl⟩
      · rcases List.mem_append.mp hc with hc | hc
        · obtain ⟨g, hg, e⟩ := sw_let z c hc hl
          exact ⟨g, by omega, e⟩
        · obtain ⟨g, hg, e⟩ := sw_let z' c hc hl
          exact ⟨g, by omega, e⟩
section SUBST
variable {n m q e : Nat} {σ : DS} {τ : MS}
/-- what a letter becomes: its image, or what is bound, or itself -/
def repV (I B : Nat → Int32) (k g : Nat) : Int32 := if I g = -1 then (if B k = -1 then nI g else B k) else I g
theorem repl_ok (hF : FW n σ τ) {g k : Nat} (hg : g < n) (hk : k < 5) (hl : letK (Kn τ g)) (ek : Kn τ g - 97 = nI k) : P_X1_replacement σ (Kn τ g) = some (.inl (repV (σ.2 25) (σ.2 24) k g), σ) := by
  have hle := hF.le
  obtain ⟨v, f1, -, f3⟩ := find_ok hF (Kn τ g) (-1) (-1)
  have ev : v = nI g := by
    rcases f3 with ⟨-, hno⟩ | ⟨f, hf, rfl, e1, -, -⟩
    · exfalso
      refine hno g hg ⟨rfl, ?_⟩
      rcases (hF.ent hg).sh with ⟨-, e, e'⟩ | ⟨a, k, -, -, -⟩ | ⟨a, b, k, -, -, -, -⟩
      · exact ⟨e, e'⟩
      · rw [k] at hl; exact absurd hl (kind_nlet (p := 78) (Or.inl rfl))
      · exfalso
        rcases k with k | k | k <;> rw [k] at hl
        · exact kind_nlet (p := 75) (Or.inr (Or.inl rfl)) hl
        · exact kind_nlet (p := 65) (Or.inr (Or.inr (Or.inl rfl))) hl
        · exact kind_nlet (p := 67) (Or.inr (Or.inr (Or.inr rfl))) hl
    · rw [leaf_uni hF hg hf (let_leaf hl) e1]
  subst ev
  unfold P_X1_replacement repV
  rw [f1, bd_some]
  simp only [lt_def]
  rw [ek, rat_in (show g < 150 by omega) (by decide), rat_in (show k < 5 from hk) (by decide)]
  by_cases h1 : σ.2 25 g = -1
  · rw [if_pos h1, if_pos h1]
    by_cases h2 : σ.2 24 k = -1
    · rw [if_pos h2, if_pos h2]
    · rw [if_neg h2, if_neg h2]
  · rw [if_neg h1, if_neg h1]
/-- the class writes an instance; where it grows too large it breaks off -/
theorem wc_loop (hF : FW n σ τ) {c0 : Nat} (hc0 : c0 < n) {w : List Int32} (hw : Sw τ w.length c0 w) {W : Int32 → List Int32} (hW : ∀ c, c ∈ w → letK c → ∃ r, r < n ∧ (∀ s, TSs σ s → P_X1_replacement s c = some (.inl (nI r), s)) ∧ Sw τ (W c).length r (W c)) : ∀ (d i N : Nat) (u : List Int32) (s : DS), i + d = w.length → d < N → TSs σ s → TxS u s → u.length ≤ 60 → ∃ s', L_X1_writeConclusion_23 N s (nI c0) (nI w.length) (nI i) = some (.inl (), s') ∧ TSs σ s' ∧ (TxS (u ++ sbW W (w.drop i)) s' ∨ (30 < (u ++ sbW W (w.drop i)).length ∧ ∃ L, 30 < L ∧ L ≤ 60 ∧ s'.1 11 = nI L)) := by
  have hle := hF.le
  have hw30 : w.length ≤ 30 := by
    obtain ⟨w', q1, -, q3, -⟩ := word_of hF hc0
    rw [Sw.det (by omega) hw q1]; exact q3
  intro d
  induction d with
  | zero =>
    intro i N u s hi hN hs ht hu
    obtain ⟨N, rfl⟩ : ∃ M, N = M + 1 := ⟨N - 1, by omega⟩
    have hi : i = w.length := hi
    subst hi
    refine ⟨s, ?_, hs, Or.inl ?_⟩
    · show B_X1_writeConclusion_23 _ s _ _ _ = _
      unfold B_X1_writeConclusion_23
      rw [if_pos (nI_le (Nat.le_refl _) (by omega))]
    · rw [List.drop_length]
      show TxS (u ++ []) s
      rw [List.append_nil]; exact ht
  | succ d ih =>
    intro i N u s hi hN hs ht hu
    obtain ⟨N, rfl⟩ : ∃ M, N = M + 1 := ⟨N - 1, by omega⟩
    have hFs : FW n s τ := hs.fw hF
    have hd : w.drop i = w.getD i 0 :: w.drop (i + 1) := by
      rw [List.drop_eq_getElem_cons (by omega), List.getD_eq_getElem?_getD, List.getElem?_eq_getElem (by omega)]
      rfl
    have hsym : F_X0_symbol s (nI c0) (nI i) = w.getD i 0 := by
      obtain ⟨w', q1, -, -, -, -, q6⟩ := word_of hFs hc0
      have := Sw.det (by omega) hw q1
      subst this
      exact q6 i (by omega)
    have hmem : w.getD i 0 ∈ w := getD_mem (by omega)
    by_cases h30 : 30 < u.length
    · refine ⟨s, ?_, hs, Or.inr ⟨by rw [List.length_append]; omega, u.length, h30, hu, ht.1⟩⟩
      show B_X1_writeConclusion_23 _ s _ _ _ = _
      unfold B_X1_writeConclusion_23
      rw [if_neg (nI_ge (by omega) (by omega)), ht.1, show (30 : Int32) = nI 30 from rfl, if_pos (nI_lt h30 (by omega))]
    · have e0 : ∀ x, L_X1_writeConclusion_23 (N + 1) s (nI c0) (nI w.length) (nI i) = x ↔ (if (F_X5_isLetter s (w.getD i 0)) = 0 then (bd (P_X5_append s (w.getD i 0)) fun _ s79 => L_X1_writeConclusion_23 N s79 (nI c0) (nI w.length) (nI (i + 1))) else (bd (P_X1_replacement s (w.getD i 0)) fun r67 s67 => (bd (P_X5_appendFormula s67 r67) fun _ s70 => L_X1_writeConclusion_23 N s70 (nI c0) (nI w.length) (nI (i + 1))))) = x := fun x => by
        show B_X1_writeConclusion_23 _ s _ _ _ = _ ↔ _
        unfold B_X1_writeConclusion_23
        simp only [lt_def]
        rw [if_neg (nI_ge (by omega) (by omega)), ht.1, show (30 : Int32) = nI 30 from rfl, if_neg (nI_nlt (by omega) (by omega)), hsym, ni_add1]
      rw [hd]
      show ∃ s', _ ∧ _ ∧ (TxS (u ++ (sbC W (w.getD i 0) ++ sbW W (w.drop (i + 1)))) s' ∨ (30 < (u ++ (sbC W (w.getD i 0) ++ sbW W (w.drop (i + 1)))).length ∧ _))
      rw [← List.append_assoc]
      by_cases hl : letK (w.getD i 0)
      · obtain ⟨r, hr, h1, h2⟩ := hW _ hmem hl
        have hWl : (W (w.getD i 0)).length ≤ 30 := by
          obtain ⟨w', q1, -, q3, -⟩ := word_of hF hr
          rw [Sw.det (by omega) h2 q1]; exact q3
        obtain ⟨s1, e1, t1, k1⟩ := appF_ok hFs hr h2 ht (by omega)
        obtain ⟨s', e2, k2, t2⟩ := ih (i + 1) N (u ++ W (w.getD i 0)) s1 (by omega) (by omega) (hs.tr k1) t1 (by rw [List.length_append]; omega)
        refine ⟨s', ?_, k2, by rw [sbC_y hl]; exact t2⟩
        rw [e0, letS_y hl, if_neg i10, h1 s hs, bd_some, e1, bd_some]
        exact e2
      · have hk : w.getD i 0 = 70 ∨ w.getD i 0 = 78 ∨ binK (w.getD i 0) := by
          rcases kinds_let (sw_all hw _ hmem) with h | h
          · exact absurd h hl
          · exact h
        obtain ⟨s1, e1, t1, k1⟩ := append_ok ht (by omega) (w.getD i 0)
        obtain ⟨s', e2, k2, t2⟩ := ih (i + 1) N (u ++ [w.getD i 0]) s1 (by omega) (by omega) (hs.tr k1) t1 (by rw [List.length_append, List.length_singleton]; omega)
        refine ⟨s', ?_, k2, by rw [sbC_n hl]; exact t2⟩
        rw [e0, letS_n hk, if_pos rfl, e1, bd_some]
        exact e2
/-- the reference writes it whole -/
theorem wi_ok (hn : n ≤ 150) {W : Int32 → List Int32} {τ0 : MS} (hW : ∀ g, g < n → letK (Kn τ0 g) → ∃ k r, k < 5 ∧ Kn τ0 g - 97 = nI k ∧ r < n ∧ (if τ0.2.1 16 k = -1 then (if τ0.2.1 5 k = -1 then nI g else τ0.2.1 5 k) else τ0.2.1 16 k) = nI r ∧ (W (Kn τ0 g)).length ≤ 40 ∧ Sw τ0 (W (Kn τ0 g)).length r (W (Kn τ0 g))) : ∀ (h f N L : Nat) (w : List Int32) (τ : MS), f < n → Sw τ0 h f w → h ≤ N → TSt τ0 τ → τ.1 6 = nI L → L + (sbW W w).length ≤ 1000 → ∃ τ', P_X7_writesInstance N τ (nI f) = some (.inl (), τ') ∧ WrT L (sbW W w) τ τ' := by
  intro h
  induction h with
  | zero => intro f N L w τ hf q; exact q.elim
  | succ h ih =>
    intro f N L w τ hf q hN hT hL hw
    obtain ⟨N, rfl⟩ : ∃ M, N = M + 1 := ⟨N - 1, by omega⟩
    have hk := sw_kn q
    have e0 : ∀ k, k ≠ 15 → τ.2.1 k = τ0.2.1 k := fun k hk => hT.2.1 k hk
    have hext : ∀ {h f : Nat} {w : List Int32}, f < 150 → Sw τ0 h f w → Sw τ h f w := fun hf z => Sw.ext (n := 150) (fun f _ => by show τ.2.1 0 f = _; rw [e0 0 (by decide)]) (fun f _ => by show τ.2.1 1 f = _; rw [e0 1 (by decide)]) (fun f _ => by show τ.2.1 2 f = _; rw [e0 2 (by decide)]) hf z
    by_cases hl : letK (Kn τ0 f)
    · obtain ⟨k, r, hk5, ek, hr, ev, hWl, hSw⟩ := hW f hf hl
      have hw1 : w = [Kn τ0 f] := by
        rcases q with ⟨-, -, -, q⟩ | ⟨a, u, k', -⟩ | ⟨a, b, u, v, k', -⟩
        · exact q
        · rw [k'] at hl; exact absurd hl (kind_nlet (p := 78) (Or.inl rfl))
        · exfalso
          rcases k' with k' | k' | k' <;> rw [k'] at hl
          · exact kind_nlet (p := 75) (Or.inr (Or.inl rfl)) hl
          · exact kind_nlet (p := 65) (Or.inr (Or.inr (Or.inl rfl))) hl
          · exact kind_nlet (p := 67) (Or.inr (Or.inr (Or.inr rfl))) hl
      subst hw1
      have esb : sbW W [Kn τ0 f] = W (Kn τ0 f) := by
        show sbC W (Kn τ0 f) ++ [] = _
        rw [sbC_y hl, List.append_nil]
      rw [esb] at hw ⊢
      obtain ⟨τ', g1, g2⟩ := writes_ok (W (Kn τ0 f)).length r 40 L (W (Kn τ0 f)) τ (by omega) (hext (by omega) hSw) hWl hL hw
      refine ⟨τ', ?_, g2⟩
      show D_X7_writesInstance _ τ (nI f) = _
      unfold D_X7_writesInstance
      simp only [gd_in (show f < 150 by omega) (by decide : (150 : Nat) < 2147483648), ni_cl (show f < 2147483648 by omega)]
      rw [e0 0 (by decide), show τ0.2.1 0 f = Kn τ0 f from rfl, letT_y hl, if_neg i10, lt_def, ek]
      simp only [gd_in hk5 (by decide : (5 : Nat) < 2147483648), ni_cl (show k < 2147483648 by omega)]
      rw [e0 16 (by decide), e0 5 (by decide)]
      by_cases h1 : τ0.2.1 16 k = -1
      · rw [if_pos h1] at ev ⊢
        by_cases h2 : τ0.2.1 5 k = -1
        · rw [if_pos h2] at ev ⊢
          rw [ev, g1, bd_some]
        · rw [if_neg h2] at ev ⊢
          rw [ev, g1, bd_some]
      · rw [if_neg h1] at ev ⊢
        rw [ev, g1, bd_some]
    · have hkk : Kn τ0 f = 70 ∨ Kn τ0 f = 78 ∨ binK (Kn τ0 f) := by
        rcases kinds_let hk with h | h
        · exact absurd h hl
        · exact h
      obtain ⟨u0, hu0⟩ := q.pos
      have hL2 : L < 1000 := by
        rw [hu0] at hw
        have : (sbW W (Kn τ0 f :: u0)).length = 1 + (sbW W u0).length := by
          show (sbC W (Kn τ0 f) ++ sbW W u0).length = _
          rw [sbC_n hl, List.length_append]; rfl
        omega
      obtain ⟨s22, hs22⟩ : ∃ s22, s22 = tI (tA τ 15 (upd (τ.2.1 15) L (Kn τ0 f))) 6 (nI (L + 1)) := ⟨_, rfl⟩
      have w1 : WrT L [Kn τ0 f] τ s22 := by
        subst hs22
        refine ⟨rfl, fun k hk => by rw [tI1, if_neg hk]; rfl, fun k hk => by rw [tI2, tA2, if_neg hk], rfl, fun j => ?_⟩
        rw [tI2, tA2, if_pos rfl]
        by_cases hj : j = L
        · subst hj; rw [upd_eq, if_pos (by simp), Nat.sub_self]; rfl
        · rw [upd_ne _ hj, if_neg (by simp; omega)]
      have ar : ∀ k, k ≠ 15 → s22.2.1 k = τ0.2.1 k := fun k hk => (w1.2.2.1 k hk).trans (e0 k hk)
      have hT2 : TSt τ0 s22 := hT.tr w1.ts
      have hgo : P_X7_writesInstance (N + 1) τ (nI f) = (if Lf τ0 f = -1 then (if Rt τ0 f = -1 then some (.inl (), s22) else bd (P_X7_writesInstance N s22 (Rt τ0 f)) fun _ s62 => some (.inl (), s62)) else bd (P_X7_writesInstance N s22 (Lf τ0 f)) fun _ s42 => (if s42.2.1 2 f = -1 then some (.inl (), s42) else bd (P_X7_writesInstance N s42 (s42.2.1 2 f)) fun _ s62 => some (.inl (), s62))) := by
        show D_X7_writesInstance (P_X7_writesInstance N) τ (nI f) = _
        unfold D_X7_writesInstance
        simp only [gd_in (show f < 150 by omega) (by decide : (150 : Nat) < 2147483648), ni_cl (show f < 2147483648 by omega), lt_def]
        rw [e0 0 (by decide), show τ0.2.1 0 f = Kn τ0 f from rfl, letT_n hkk, if_pos rfl, hL, gd_in hL2 (by decide), ni_cl (by omega), kind_nar _ hk]
        rw [show (tA τ 15 (upd (τ.2.1 15) L (Kn τ0 f))).1 6 + 1 = nI (L + 1) by rw [tA1, hL, ni_add1], ← hs22, ar 1 (by decide), ar 2 (by decide)]
      rw [hgo]
      rcases q with ⟨k, e1, e2, rfl⟩ | ⟨a, u, k, ha, e1, e2, z, rfl⟩ | ⟨a, b, u, v, k, ha, hb, e1, e2, z, z', rfl⟩
      · rw [if_pos e1, if_pos e2]
        refine ⟨s22, rfl, ?_⟩
        show WrT L (sbC W (Kn τ0 f) ++ []) τ s22
        rw [sbC_n hl]
        exact w1
      · have esb : sbW W (Kn τ0 f :: u) = [Kn τ0 f] ++ sbW W u := by
          show sbC W (Kn τ0 f) ++ _ = _
          rw [sbC_n hl]
        rw [esb] at hw ⊢
        rw [List.length_append] at hw
        have hw : L + (1 + (sbW W u).length) ≤ 1000 := hw
        rw [if_neg (by rw [e1]; exact ni_ne (by omega)), e1]
        obtain ⟨τ', g1, g2⟩ := ih a N (L + 1) u s22 (by omega) z (by omega) hT2 w1.1 (by omega)
        rw [g1, bd_some, g2.2.2.1 2 (by decide), ar 2 (by decide), if_pos e2]
        exact ⟨τ', rfl, WrT.app w1 g2⟩
      · have esb : sbW W (Kn τ0 f :: (u ++ v)) = [Kn τ0 f] ++ (sbW W u ++ sbW W v) := by
          show sbC W (Kn τ0 f) ++ sbW W (u ++ v) = _
          rw [sbC_n hl, sbW_app]
        rw [esb] at hw ⊢
        rw [List.length_append, List.length_append] at hw
        have hw : L + (1 + ((sbW W u).length + (sbW W v).length)) ≤ 1000 := hw
        rw [if_neg (by rw [e1]; exact ni_ne (by omega)), e1]
        obtain ⟨τ1, g1, g2⟩ := ih a N (L + 1) u s22 (by omega) z (by omega) hT2 w1.1 (by omega)
        obtain ⟨τ2, g3, g4⟩ := ih b N (L + 1 + (sbW W u).length) v τ1 (by omega) z' (by omega) (hT2.tr g2.ts) g2.1 (by omega)
        rw [g1, bd_some, g2.2.2.1 2 (by decide), ar 2 (by decide), show τ0.2.1 2 f = nI b from e2, if_neg (ni_ne (by omega)), g3, bd_some]
        exact ⟨τ2, rfl, WrT.app (u := [Kn τ0 f]) w1 (WrT.app g2 g4)⟩
end SUBST
