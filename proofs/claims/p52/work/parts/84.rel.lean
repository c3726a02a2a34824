/-! BOTH SIDES HOLD THE SAME -/
def IxN (q : Nat) (v : Int32) : Prop := v = -1 ∨ ∃ b, b < q ∧ v = nI b
theorem IxN.mono {q q' : Nat} {v : Int32} (h : IxN q v) (hq : q ≤ q') : IxN q' v := h.elim Or.inl fun ⟨b, hb, e⟩ => Or.inr ⟨b, by omega, e⟩
def rulesL : List Int32 := [80, 72, 82, 107, 114, 108, 98, 97, 118, 99, 109, 105, 110, 120, 100, 76]
theorem rule_ch : ∀ c ∈ rulesL, (c.toUInt32 % 65536).toInt32 = c := by decide
theorem rule_nar : ∀ c ∈ rulesL, vp_nar .char c = c := by decide
/-- line k -/
def LnE (n q : Nat) (σ : DS) (τ : MS) (k : Nat) : Prop := σ.2 8 k = τ.2.1 6 k ∧ (∃ f, f < n ∧ τ.2.1 6 k = nI f) ∧ σ.2 9 k = τ.2.1 7 k ∧ τ.2.1 7 k ∈ rulesL ∧ σ.2 10 k = τ.2.1 8 k ∧ IxN q (τ.2.1 8 k) ∧ σ.2 11 k = τ.2.2.1 k 0 ∧ σ.2 12 k = τ.2.2.1 k 1 ∧ σ.2 13 k = τ.2.2.1 k 2 ∧ σ.2 14 k = τ.2.2.1 k 3 ∧ IxN 60 (τ.2.2.1 k 0) ∧ IxN 60 (τ.2.2.1 k 1) ∧ IxN q (τ.2.2.1 k 2) ∧ IxN q (τ.2.2.1 k 3)
/-- box b -/
def BxE (m : Nat) (σ : DS) (τ : MS) (b : Nat) : Prop := σ.2 16 b = τ.2.1 11 b ∧ (∃ k, k < m ∧ τ.2.1 11 b = nI k) ∧ σ.2 17 b = τ.2.1 12 b ∧ (∃ k, k < m ∧ τ.2.1 12 b = nI k) ∧ σ.2 18 b = τ.2.1 9 b ∧ IxN b (τ.2.1 9 b) ∧ σ.2 19 b = τ.2.1 10 b ∧ (τ.2.1 10 b = 0 ∨ τ.2.1 10 b = 1)
def LW (n m q : Nat) (σ : DS) (τ : MS) : Prop := m ≤ 60 ∧ q ≤ m ∧ σ.1 2 = nI m ∧ τ.1 1 = nI m ∧ σ.1 3 = nI q ∧ τ.1 2 = nI q ∧ σ.1 4 = τ.1 3 ∧ IxN q (τ.1 3) ∧ (∀ k, k < m → LnE n q σ τ k) ∧ ∀ b, b < q → BxE m σ τ b
/-- lemma j -/
def LmE (n : Nat) (σ : DS) (τ : MS) (j : Nat) : Prop := ∃ c : Nat, c ≤ 2 ∧ σ.2 20 j = nI c ∧ τ.2.1 13 j = nI c ∧ (0 < c → σ.2 21 j = τ.2.2.2 j 0 ∧ ∃ f, f < n ∧ τ.2.2.2 j 0 = nI f) ∧ (1 < c → σ.2 22 j = τ.2.2.2 j 1 ∧ ∃ f, f < n ∧ τ.2.2.2 j 1 = nI f) ∧ σ.2 23 j = τ.2.1 14 j ∧ ∃ f, f < n ∧ τ.2.1 14 j = nI f
def EW (n e : Nat) (σ : DS) (τ : MS) : Prop := e ≤ 8 ∧ σ.1 5 = nI e ∧ τ.1 4 = nI e ∧ ∀ j, j < e → LmE n σ τ j
def BN (n : Nat) (σ : DS) (τ : MS) : Prop := ∀ j, j < 5 → σ.2 24 j = τ.2.1 5 j ∧ IxN n (τ.2.1 5 j)
/-- all but the formulas -/
def RW (n m q e : Nat) (σ : DS) (τ : MS) : Prop := LW n m q σ τ ∧ EW n e σ τ ∧ BN n σ τ
def Rel (σ : DS) (τ : MS) : Prop := ∃ n m q e, FW n σ τ ∧ RW n m q e σ τ
/-- the proof, the lemmas, what is bound: alike -/
def PPs (σ σ' : DS) : Prop := (∀ k, 2 ≤ k → k ≤ 5 → σ'.1 k = σ.1 k) ∧ (∀ k, 8 ≤ k → k ≤ 14 → σ'.2 k = σ.2 k) ∧ ∀ k, 16 ≤ k → k ≤ 24 → σ'.2 k = σ.2 k
def PPt (τ τ' : MS) : Prop := (∀ k, 1 ≤ k → k ≤ 4 → τ'.1 k = τ.1 k) ∧ (∀ k, 5 ≤ k → k ≤ 14 → τ'.2.1 k = τ.2.1 k) ∧ τ'.2.2 = τ.2.2
theorem PFs.pp {σ σ' : DS} (h : PFs σ σ') : PPs σ σ' := ⟨fun k h1 _ => h.1 k (by omega), fun k h1 _ => h.2 k (by omega), fun k h1 _ => h.2 k (by omega)⟩
theorem PFt.pp {n : Nat} {τ τ' : MS} (h : PFt n τ τ') : PPt τ τ' := ⟨fun k h1 _ => h.1 k (by omega), fun k h1 _ => h.2.1 k (by omega), h.2.2.1⟩
theorem PPs.rf {σ : DS} : PPs σ σ := ⟨fun _ _ _ => rfl, fun _ _ _ => rfl, fun _ _ _ => rfl⟩
theorem PPt.rf {τ : MS} : PPt τ τ := ⟨fun _ _ _ => rfl, fun _ _ _ => rfl, rfl⟩
section REL
variable {n m q e : Nat} {σ : DS} {τ : MS}
theorem RW.of {n' : Nat} {σ' : DS} {τ' : MS} (h : RW n m q e σ τ) (hn : n ≤ n') (hs : PPs σ σ') (ht : PPt τ τ') : RW n' m q e σ' τ' := by
  obtain ⟨⟨l1, l2, l3, l4, l5, l6, l7, l8, l9, l10⟩, ⟨e1, e2, e3, e4⟩, b⟩ := h
  obtain ⟨s1, s2, s3⟩ := hs
  obtain ⟨t1, t2, t3⟩ := ht
  refine ⟨⟨l1, l2, by rw [s1 2 (by decide) (by decide)]; exact l3, by rw [t1 1 (by decide) (by decide)]; exact l4, by rw [s1 3 (by decide) (by decide)]; exact l5, by rw [t1 2 (by decide) (by decide)]; exact l6, by rw [s1 4 (by decide) (by decide), t1 3 (by decide) (by decide)]; exact l7, by rw [t1 3 (by decide) (by decide)]; exact l8, fun k hk => ?_, fun b hb => ?_⟩, ⟨e1, by rw [s1 5 (by decide) (by decide)]; exact e2, by rw [t1 4 (by decide) (by decide)]; exact e3, fun j hj => ?_⟩, fun j hj => ?_⟩
  · obtain ⟨p1, ⟨f, hf, p2⟩, p3⟩ := l9 k hk
    unfold LnE
    rw [s2 8 (by decide) (by decide), s2 9 (by decide) (by decide), s2 10 (by decide) (by decide), s2 11 (by decide) (by decide), s2 12 (by decide) (by decide), s2 13 (by decide) (by decide), s2 14 (by decide) (by decide), t2 6 (by decide) (by decide), t2 7 (by decide) (by decide), t2 8 (by decide) (by decide), t3]
    exact ⟨p1, ⟨f, by omega, p2⟩, p3⟩
  · unfold BxE
    rw [s3 16 (by decide) (by decide), s3 17 (by decide) (by decide), s3 18 (by decide) (by decide), s3 19 (by decide) (by decide), t2 11 (by decide) (by decide), t2 12 (by decide) (by decide), t2 9 (by decide) (by decide), t2 10 (by decide) (by decide)]
    exact l10 b hb
  · obtain ⟨c, p1, p2, p3, p4, p5, p6, f, hf, p7⟩ := e4 j hj
    refine ⟨c, p1, ?_, ?_, fun hc => ?_, fun hc => ?_, ?_, f, by omega, ?_⟩
    · rw [s3 20 (by decide) (by decide)]; exact p2
    · rw [t2 13 (by decide) (by decide)]; exact p3
    · obtain ⟨r1, g, hg, r2⟩ := p4 hc
      rw [s3 21 (by decide) (by decide), t3]
      exact ⟨r1, g, by omega, r2⟩
    · obtain ⟨r1, g, hg, r2⟩ := p5 hc
      rw [s3 22 (by decide) (by decide), t3]
      exact ⟨r1, g, by omega, r2⟩
    · rw [s3 23 (by decide) (by decide), t2 14 (by decide) (by decide)]; exact p6
    · rw [t2 14 (by decide) (by decide)]; exact p7
  · rw [s3 24 (by decide) (by decide), t2 5 (by decide) (by decide)]
    exact ⟨(b j hj).1, (b j hj).2.mono hn⟩
/-- scratch has changed -/
theorem FW.scr {σ' : DS} {τ' : MS} (h : FW n σ τ) (h1 : σ'.1 1 = σ.1 1) (h2 : ∀ k, k ≤ 4 → σ'.2 k = σ.2 k) (h3 : τ'.1 0 = τ.1 0) (h4 : ∀ k, k ≤ 4 → τ'.2.1 k = τ.2.1 k) : FW n σ' τ' :=
  h.of h1 h3 (fun k hk f _ => by rw [h2 k (by omega)]) (fun j _ => by rw [h2 4 (by omega)]) (fun k hk f _ => by rw [h4 k (by omega)])
theorem FW.thr (h : FW n σ τ) (k : Int32) : FW n σ (tI τ 5 k) := h.scr rfl (fun _ _ => rfl) rfl (fun _ _ => rfl)
theorem PPt.thr {k : Int32} : PPt τ (tI τ 5 k) := ⟨fun j h1 h2 => by show up1 τ.1 5 k j = _; rw [up1_at, if_neg (by omega)], fun _ _ _ => rfl, rfl⟩
theorem RW.thr (h : RW n m q e σ τ) (k : Int32) : RW n m q e σ (tI τ 5 k) := h.of (Nat.le_refl n) PPs.rf PPt.thr
theorem Rel.thr (h : Rel σ τ) (k : Int32) : Rel σ (tI τ 5 k) := by
  obtain ⟨n, m, q, e, h1, h2⟩ := h
  exact ⟨n, m, q, e, h1.thr k, h2.thr k⟩
/-- how a call's two answers agree -/
theorem ag_ret {cs : List (String × Int32)} {x : Res DS Int32} {y : Res MS Int32} {σ' : DS} {τ' : MS} {r : Int32} {w : OS} (hx : x = some (.inl r, σ')) (hy : y = some (.inl r, τ')) (ht : τ'.1 5 = 0) (hI : Rel σ' τ') : AgW okI Rel (wrT cs stI x w) y := by
  subst hx
  exact ⟨0, σ', _, r, τ', rfl, hy, ht, fun _ => (if_pos rfl : vp_updL w.1 (0 : Int32).toNatClampNeg _ (0 : Int32).toNatClampNeg = _), hI⟩
theorem ag_retZ {cs : List (String × Int32)} {x : Res DS Int32} {y : Res MS Int32} {σ' : DS} {τ' : MS} {r : Int32} {w : OS} (hx : x = some (.inl r, σ')) (hy : y = some (.inl r, τ')) (ht : τ'.1 5 = 0) (hI : Rel σ' τ') : AgW okZ Rel (wrT cs stZ x w) y := by
  subst hx
  exact ⟨0, σ', _, r, τ', rfl, hy, ht, fun _ => (if_pos rfl : vp_updL w.1 (0 : Int32).toNatClampNeg _ (0 : Int32).toNatClampNeg = _), hI⟩
theorem ag_exc {ρ : Type} {ok : OS → ρ → Prop} {ρ' : Type} {stt : ρ' → OS → Option OS} {cs : List (String × Int32)} {x : Res DS ρ'} {y : Res MS ρ} {σ' : DS} {τ' : MS} {r : ρ} {w : OS} {E : String} {k : Int32} (hx : x = some (.inr E, σ')) (hk : cs.lookup E = some k) (hy : y = some (.inl r, τ')) (ht : τ'.1 5 = k) (hk0 : k ≠ 0) (hI : Rel σ' τ') : AgW ok Rel (wrT cs stt x w) y := by
  subst hx
  refine ⟨k, σ', w, r, τ', ?_, hy, ht, fun h => absurd h hk0, hI⟩
  unfold wrT
  dsimp only
  rw [hk]
theorem raises_eq (k : Int32) : P_X7_raises τ k = some (.inl 0, tI τ 5 k) := rfl
theorem reqF_in (h : FW n σ τ) {f : Nat} (hf : f < n) : P_X6_requireFormula σ (nI f) = some (.inl (), σ) := by
  unfold P_X6_requireFormula
  rw [has_in h hf, if_neg (by decide)]
theorem reqF_no (h : FW n σ τ) {a : Int32} (ha : a < 0 ∨ (¬ a < 0 ∧ nI n ≤ a)) : P_X6_requireFormula σ a = some (.inr "java/lang/IndexOutOfBoundsException", σ) := by
  unfold P_X6_requireFormula
  rw [has_no h ha, if_pos rfl]
theorem lacks_in (h : FW n σ τ) {f : Nat} (hf : f < n) : P_X7_lacks τ (nI f) = some (.inl 0, tI τ 5 0) := by
  unfold P_X7_lacks
  rw [isF_in h hf, if_neg (by decide), lt_def]
  exact if_pos (show (0 : Int32) ≤ 0 by decide)
theorem lacks_no (h : FW n σ τ) {a : Int32} (ha : a < 0 ∨ (¬ a < 0 ∧ nI n ≤ a)) : P_X7_lacks τ a = some (.inl 1, tI τ 5 1) := by
  unfold P_X7_lacks
  rw [isF_no h ha, if_pos rfl, lt_def]
  exact if_neg (show ¬ (1 : Int32) ≤ 0 by decide)
/-- 'made' behind 'enter' -/
theorem makes_ok (h : FW n σ τ) (hr : RW n m q e σ τ) {c l r : Int32} (hs : Shp n c l r) (k : Int32) : (∃ (v : Int32) (σ' : DS) (τ' : MS), (bd (P_X0_enter σ c l r) fun r16 s16 => (bd (P_X6_made s16 r16) fun r19 s19 => (some (.inl r19, s19) : Res DS Int32))) = some (.inl v, σ') ∧ P_X7_makes τ c l r k = some (.inl v, τ') ∧ τ'.1 5 = 0 ∧ Rel σ' τ') ∨ (∃ (σ' : DS) (τ' : MS), (bd (P_X0_enter σ c l r) fun r16 s16 => (bd (P_X6_made s16 r16) fun r19 s19 => (some (.inl r19, s19) : Res DS Int32))) = some (.inr "java/lang/IllegalStateException", σ') ∧ P_X7_makes τ c l r k = some (.inl 0, τ') ∧ τ'.1 5 = k ∧ Rel σ' τ') := by
  obtain ⟨v, n', σ', τ', e1, e2, hF, hn, hs', ht', hv⟩ := enter_ok h hs
  have hR : Rel σ' τ' := ⟨n', m, q, e, hF, hr.of hn hs'.pp ht'.pp⟩
  unfold P_X7_makes P_X6_made
  rw [e1, e2, bd_some, bd_some, lt_def]
  rcases hv with rfl | ⟨f, hf, rfl, -⟩
  · exact Or.inr ⟨σ', tI τ' 5 k, rfl, rfl, rfl, hR.thr k⟩
  · have hle := hF.le
    refine Or.inl ⟨nI f, σ', tI τ' 5 0, ?_, ?_, rfl, hR.thr 0⟩
    · rw [if_neg (ni_ne (by omega)), bd_some]
    · rw [if_neg (ni_ne (by omega)), lt_def, if_neg (ni_ne (by omega))]
end REL
theorem ch97 : ∀ f, f < 5 → (((97 : Int32) + nI f).toUInt32 % 65536).toInt32 = 97 + nI f ∧ leafK (97 + nI f) := by
  intro f hf
  have : f = 0 ∨ f = 1 ∨ f = 2 ∨ f = 3 ∨ f = 4 := by omega
  unfold leafK
  rcases this with rfl | rfl | rfl | rfl | rfl <;> decide
theorem ag0 : AG0 Rel := by
  intro σ τ w a hI
  obtain ⟨n, m, q, e, h, hr⟩ := hI
  unfold W_L_letter P_X6_letter P_X7_letter P_X6_requireLetter
  rcases ix_cases 5 (by decide) a with ⟨f, hf, rfl⟩ | ha
  · rw [in5_yes hf, if_neg (show ¬ (1 : Int32) = 0 by decide), if_neg (nI_pos (show f < 2147483648 by omega)), if_pos (show nI f < 5 from nI_lt hf (by decide)), bd_some, (ch97 f hf).1]
    rcases makes_ok h hr (c := 97 + nI f) (l := -1) (r := -1) (Or.inl ⟨(ch97 f hf).2, rfl, rfl⟩) 2 with ⟨v, σ', τ', e1, e2, e3, e4⟩ | ⟨σ', τ', e1, e2, e3, e4⟩
    · exact ag_ret e1 (by rw [e2]; rfl) e3 e4
    · exact ag_exc e1 rfl (by rw [e2]; rfl) e3 (by decide) e4
  · rw [in5_no ha, if_pos rfl]
    have e1 : (if a < 0 then (some (.inr "java/lang/IllegalArgumentException", σ) : Res DS Unit) else if a < 5 then some (.inl (), σ) else some (.inr "java/lang/IllegalArgumentException", σ)) = some (.inr "java/lang/IllegalArgumentException", σ) := by
      rcases ha with ha | ⟨h0, ha⟩
      · rw [if_pos ha]
      · rw [if_neg h0, if_neg]
        obtain ⟨j, hj, rfl⟩ := nI_of h0
        exact nI_nlt ((nI_leI (by decide) hj).mp ha) hj
    exact ag_exc (k := 1) (σ' := σ) (by rw [e1]; rfl) rfl (by rw [raises_eq]; rfl) rfl (by decide) (Rel.thr ⟨n, m, q, e, h, hr⟩ 1)
theorem ag1 : AG1 Rel := by
  intro σ τ w hI
  obtain ⟨n, m, q, e, h, hr⟩ := hI
  unfold W_L_falsum P_X6_falsum P_X7_falsum
  rcases makes_ok h hr (c := 70) (l := -1) (r := -1) (Or.inl ⟨by unfold leafK; decide, rfl, rfl⟩) 1 with ⟨v, σ', τ', e1, e2, e3, e4⟩ | ⟨σ', τ', e1, e2, e3, e4⟩
  · exact ag_ret e1 (by rw [e2]; rfl) e3 e4
  · exact ag_exc e1 rfl (by rw [e2]; rfl) e3 (by decide) e4
theorem ag2 : AG2 Rel := by
  intro σ τ w a hI
  obtain ⟨n, m, q, e, h, hr⟩ := id hI
  have hle := h.le
  unfold W_L_negation P_X6_negation P_X7_negation
  rcases ix_cases n (by omega) a with ⟨f, hf, rfl⟩ | ha
  · rw [reqF_in h hf, bd_some, isF_in h hf, if_neg (by decide)]
    rcases makes_ok h hr (c := 78) (l := nI f) (r := -1) (Or.inr (Or.inl ⟨f, rfl, hf, rfl, rfl⟩)) 2 with ⟨v, σ', τ', e1, e2, e3, e4⟩ | ⟨σ', τ', e1, e2, e3, e4⟩
    · exact ag_ret e1 (by rw [e2]; rfl) e3 e4
    · exact ag_exc e1 rfl (by rw [e2]; rfl) e3 (by decide) e4
  · rw [reqF_no h ha, isF_no h ha, if_pos rfl]
    exact ag_exc (σ' := σ) rfl rfl (by rw [raises_eq]; rfl) rfl (by decide) (hI.thr 1)
theorem two_ok {σ : DS} {τ : MS} {w : OS} {a b c : Int32} (hI : Rel σ τ) (hc : binK c) : AgW okI Rel (wrT [("java/lang/IndexOutOfBoundsException", 1), ("java/lang/IllegalStateException", 2)] stI (bd (P_X6_connected σ c a b) fun r5 s5 => some (.inl r5, s5)) w) (bd (P_X7_makesTwo τ c a b) fun r5 s5 => some (.inl r5, s5)) := by
  obtain ⟨n, m, q, e, h, hr⟩ := id hI
  have hle := h.le
  unfold P_X6_connected P_X7_makesTwo
  rcases ix_cases n (by omega) a with ⟨f, hf, rfl⟩ | ha
  · rw [reqF_in h hf, bd_some, isF_in h hf, if_neg (by decide)]
    rcases ix_cases n (by omega) b with ⟨g, hg, rfl⟩ | hb
    · rw [reqF_in h hg, bd_some, isF_in h hg, if_neg (by decide)]
      rcases makes_ok h hr (c := c) (l := nI f) (r := nI g) (Or.inr (Or.inr ⟨f, g, hc, hf, hg, rfl, rfl⟩)) 2 with ⟨v, σ', τ', e1, e2, e3, e4⟩ | ⟨σ', τ', e1, e2, e3, e4⟩
      · rw [e1, e2]; exact ag_ret rfl rfl e3 e4
      · rw [e1, e2]; exact ag_exc rfl rfl rfl e3 (by decide) e4
    · rw [reqF_no h hb, isF_no h hb, if_pos rfl]
      exact ag_exc (σ' := σ) rfl rfl (by rw [raises_eq]; rfl) rfl (by decide) (hI.thr 1)
  · rw [reqF_no h ha, isF_no h ha, if_pos rfl]
    exact ag_exc (σ' := σ) rfl rfl (by rw [raises_eq]; rfl) rfl (by decide) (hI.thr 1)
theorem ag3 : AG3 Rel := fun σ τ w a b hI => two_ok hI (Or.inl rfl)
theorem ag4 : AG4 Rel := fun σ τ w a b hI => two_ok hI (Or.inr (Or.inl rfl))
theorem ag5 : AG5 Rel := fun σ τ w a b hI => two_ok hI (Or.inr (Or.inr rfl))
theorem ag6 : AG6 Rel := fun σ τ hI => by
  obtain ⟨n, m, q, e, h, hr⟩ := id hI
  refine ⟨σ, τ.1 0, tI τ 5 0, ?_, rfl, hI.thr 0⟩
  unfold F_X6_formulas
  rw [h.cnt, h.cnt7]
theorem ag7 : AG7 Rel := by
  intro σ τ w a hI
  obtain ⟨n, m, q, e, h, hr⟩ := id hI
  have hle := h.le
  unfold W_L_sizeOf P_X6_sizeOf P_X7_sizeOf
  rcases ix_cases n (by omega) a with ⟨f, hf, rfl⟩ | ha
  · rw [reqF_in h hf, bd_some, lacks_in h hf, bd_some, if_pos rfl, gd_in (by omega) (by decide), ni_cl (by omega), size_in h hf]
    exact ag_ret rfl rfl rfl (hI.thr 0)
  · rw [reqF_no h ha, lacks_no h ha, bd_some, if_neg (by decide)]
    exact ag_exc (σ' := σ) rfl rfl rfl rfl (by decide) (hI.thr 1)
