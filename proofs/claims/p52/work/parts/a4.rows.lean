/-! TRUTH BY ROWS -/
def tbt (x : Int32) (v : Nat) : Bool := x.toBitVec.getLsbD v
def b01 (b : Bool) : Int32 := bif b then 1 else 0
theorem b01_1 (b : Bool) : (b01 b = 1) = (b = true) := by cases b <;> decide
theorem b01_0 (b : Bool) : (b01 b = 0) = (b = false) := by cases b <;> decide
theorem tbt_not (x : Int32) {v : Nat} (hv : v < 32) : tbt (x ^^^ (-1 : Int32)) v = !tbt x v := by
  unfold tbt
  rw [Int32.toBitVec_xor, BitVec.getLsbD_xor, show ((-1 : Int32).toBitVec) = BitVec.allOnes 32 by decide, BitVec.getLsbD_allOnes, decide_eq_true hv]
  exact Bool.xor_true _
theorem tbt_and (x y : Int32) (v : Nat) : tbt (x &&& y) v = (tbt x v && tbt y v) := by
  unfold tbt
  rw [Int32.toBitVec_and, BitVec.getLsbD_and]
theorem tbt_or (x y : Int32) (v : Nat) : tbt (x ||| y) v = (tbt x v || tbt y v) := by
  unfold tbt
  rw [Int32.toBitVec_or, BitVec.getLsbD_or]
theorem tbt_zero (v : Nat) : tbt 0 v = false := BitVec.getLsbD_zero
theorem tbt_letter : ∀ k, k < 5 → ∀ v, v < 32 → (if ((nI v >>> (nI k &&& 31)) &&& (1 : Int32)) = (1 : Int32) then (1 : Int32) else (0 : Int32)) = b01 (tbt (ltab k 32) v) := by decide +kernel
theorem bN_step (x : Int32) (k : Nat) : bN (k + 1) x.toBitVec.toNat = bN k x.toBitVec.toNat + (if tbt x k = true then 1 else 0) := by
  show bN k _ + x.toBitVec.toNat / 2 ^ k % 2 = _
  congr 1
  have h : tbt x k = decide (x.toBitVec.toNat / 2 ^ k % 2 = 1) := Nat.testBit_eq_decide_div_mod_eq
  by_cases h1 : x.toBitVec.toNat / 2 ^ k % 2 = 1
  · rw [h, decide_eq_true h1, if_pos rfl, h1]
  · rw [h, decide_eq_false h1, if_neg (by decide)]
    omega
section ROWS
variable {n : Nat} {σ : DS} {τ : MS}
theorem parts_ok (h : FW n σ τ) {k v : Nat} (hk : k < n) (hv : v < 32) (ht : ∀ g, g < k → σ.2 5 g = b01 (tbt (Tb τ g) v)) : F_X0_isTrueFromParts σ (nI k) (nI v) = b01 (tbt (Tb τ k) v) := by
  have hle := h.le
  obtain ⟨w, q1, q2, q3, q4, q5, q6, q7, q8, q9⟩ := h.ent hk
  have hl : rat 150 (σ.2 0) (nI k) = Lf τ k := by rw [rat_in (by omega) (by decide), q4]
  have hr : rat 150 (σ.2 1) (nI k) = Rt τ k := by rw [rat_in (by omega) (by decide), q5]
  unfold F_X0_isTrueFromParts
  simp only [lt_def]
  rw [hl, hr, kind_in h hk, q9]
  rcases (h.ent hk).sh with ⟨k1, l1, r1⟩ | ⟨a, k1, ha, l1, r1⟩ | ⟨a, b, k1, ha, hb, l1, r1⟩
  · rw [l1, r1, rat_m1, if_neg (by decide), if_neg (by decide)]
    rcases leaf_let k1 with e | ⟨c, hc, e, n1, n2, n3, n4, n5⟩
    · rw [e, show tabOf 70 (tbI τ (-1)) (tbI τ (-1)) = 0 from rfl, tbt_zero]
      rfl
    · have et : ∀ x y, tabOf (Kn τ k) x y = ltab c 32 := fun x y => by
        unfold tabOf
        rw [if_neg n1, if_neg n2, if_neg n3, if_neg n4, if_neg n5, e, ni_cl (by omega)]
      rw [et]
      unfold F_X0_isLetterTrue
      rw [if_neg n1, if_neg n2, if_neg n3, if_neg n4, if_neg n5, e, tbt_letter c hc v hv]
      cases tbt (ltab c 32) v <;> rfl
  · rw [l1, r1, rat_in (by omega) (by decide), ht a ha, rat_m1, tbI_in (by omega), k1, show ∀ x y, tabOf 78 x y = x ^^^ (-1 : Int32) from fun _ _ => rfl, tbt_not _ hv]
    cases tbt (Tb τ a) v <;> rfl
  · rw [l1, r1, rat_in (by omega) (by decide), rat_in (by omega) (by decide), ht a ha, ht b hb, tbI_in (by omega), tbI_in (by omega)]
    rcases k1 with k1 | k1 | k1 <;> rw [k1]
    · rw [show ∀ x y, tabOf 75 x y = x &&& y from fun _ _ => rfl, tbt_and]
      cases tbt (Tb τ a) v <;> cases tbt (Tb τ b) v <;> rfl
    · rw [show ∀ x y, tabOf 65 x y = x ||| y from fun _ _ => rfl, tbt_or]
      cases tbt (Tb τ a) v <;> cases tbt (Tb τ b) v <;> rfl
    · rw [show ∀ x y, tabOf 67 x y = (x ^^^ (-1 : Int32)) ||| y from fun _ _ => rfl, tbt_or, tbt_not _ hv]
      cases tbt (Tb τ a) v <;> cases tbt (Tb τ b) v <;> rfl
/-- only the rows of truths have changed -/
def TRs (σ σ' : DS) : Prop := σ'.1 = σ.1 ∧ ∀ k, k ≠ 5 → σ'.2 k = σ.2 k
theorem TRs.fw {σ' : DS} (h : TRs σ σ') (hF : FW n σ τ) : FW n σ' τ := hF.scr (by rw [h.1]) (fun k hk => h.2 k (by omega)) rfl (fun _ _ => rfl)
theorem isTrue_loop {f v : Nat} (hf : f < n) (hv : v < 32) : ∀ (d k N : Nat) (s : DS), k + d = f + 1 → d < N → FW n s τ → (∀ g, g < k → s.2 5 g = b01 (tbt (Tb τ g) v)) → ∃ s', L_X0_isTrue_2 N s (nI f) (nI v) (nI k) = some (.inl (b01 (tbt (Tb τ f) v)), s') ∧ TRs s s' := by
  intro d
  induction d with
  | zero =>
    intro k N s hk hN hF ht
    have hle := hF.le
    obtain ⟨N, rfl⟩ : ∃ M, N = M + 1 := ⟨N - 1, by omega⟩
    refine ⟨s, ?_, rfl, fun _ _ => rfl⟩
    show B_X0_isTrue_2 _ s (nI f) (nI v) (nI k) = _
    unfold B_X0_isTrue_2 B_X0_isTrue_43
    rw [if_pos (nI_lt (by omega) (by omega)), rat_in (by omega) (by decide), ht f (by omega)]
    cases tbt (Tb τ f) v <;> rfl
  | succ d ih =>
    intro k N s hk hN hF ht
    have hle := hF.le
    obtain ⟨N, rfl⟩ : ∃ M, N = M + 1 := ⟨N - 1, by omega⟩
    have key : L_X0_isTrue_2 (N + 1) s (nI f) (nI v) (nI k) = L_X0_isTrue_2 N (sR s 5 (upd (s.2 5) k (b01 (tbt (Tb τ k) v)))) (nI f) (nI v) (nI (k + 1)) := by
      show B_X0_isTrue_2 _ s (nI f) (nI v) (nI k) = _
      unfold B_X0_isTrue_2
      rw [if_neg (nI_nlt (by omega) (by omega)), hF.cnt, if_neg (nI_ge (by omega) (by omega)), parts_ok hF (by omega) hv ht]
      simp only [lt_def]
      rw [ni_add1, rput_in (by omega) (by decide), rput_in (by omega) (by decide)]
      cases tbt (Tb τ k) v <;> rfl
    have t1 : TRs s (sR s 5 (upd (s.2 5) k (b01 (tbt (Tb τ k) v)))) := ⟨rfl, fun j hj => by rw [sR_2, if_neg hj]⟩
    obtain ⟨s', e1, e2⟩ := ih (k + 1) N _ (by omega) (by omega) (t1.fw hF) (fun g hg => by
      rw [sR_2, if_pos rfl]
      by_cases hgk : g = k
      · subst hgk; rw [upd_eq]
      · rw [upd_ne _ hgk]; exact ht g (by omega))
    refine ⟨s', by rw [key]; exact e1, e2.1.trans t1.1, fun j hj => (e2.2 j hj).trans (t1.2 j hj)⟩
theorem rows_loop {f : Nat} (hf : f < n) : ∀ (d v N : Nat) (s : DS), v + d = 32 → d < N → FW n s τ → ∃ s', L_X6_modelsByRows_9 N s (nI f) (nI (bN v (Tb τ f).toBitVec.toNat)) (nI v) = some (.inl (nI (bN 32 (Tb τ f).toBitVec.toNat)), s') ∧ TRs s s' := by
  intro d
  induction d with
  | zero =>
    intro v N s hv hN hF
    obtain ⟨N, rfl⟩ : ∃ M, N = M + 1 := ⟨N - 1, by omega⟩
    have hv : v = 32 := hv
    subst hv
    refine ⟨s, ?_, rfl, fun _ _ => rfl⟩
    show B_X6_modelsByRows_9 _ s (nI f) _ (nI 32) = _
    unfold B_X6_modelsByRows_9
    rw [if_pos (by decide)]
  | succ d ih =>
    intro v N s hv hN hF
    have hle := hF.le
    obtain ⟨N, rfl⟩ : ∃ M, N = M + 1 := ⟨N - 1, by omega⟩
    obtain ⟨s1, e1, t1⟩ := isTrue_loop (τ := τ) hf (show v < 32 by omega) (f + 1) 0 FU s (by omega) (by unfold FU; omega) hF (fun g hg => absurd hg (Nat.not_lt_zero g))
    obtain ⟨s', e2, t2⟩ := ih (v + 1) N s1 (by omega) (by omega) (t1.fw hF)
    refine ⟨s', ?_, t2.1.trans t1.1, fun j hj => (t2.2 j hj).trans (t1.2 j hj)⟩
    show B_X6_modelsByRows_9 _ s (nI f) _ (nI v) = _
    unfold B_X6_modelsByRows_9 P_X0_isTrue
    rw [show (32 : Int32) = nI 32 from rfl, if_neg (nI_ge (by omega) (by decide)), lt_def, show (0 : Int32) = nI 0 from rfl, e1, bd_some]
    simp only [lt_def]
    rw [bN_step] at e2
    rw [ni_add1, ni_add1]
    by_cases hb : tbt (Tb τ f) v = true
    · rw [if_pos hb] at e2
      rw [if_neg (by rw [hb]; decide)]
      exact e2
    · rw [if_neg hb] at e2
      have hb : tbt (Tb τ f) v = false := by cases hh : tbt (Tb τ f) v <;> simp_all
      rw [if_pos (by rw [hb]; rfl)]
      exact e2
end ROWS
theorem ag44 : AG44 Rel := by
  intro σ τ w a hI
  obtain ⟨n, m, q, e, h, hr⟩ := id hI
  have hle := h.le
  unfold W_L_modelsByRows P_X6_modelsByRows P_X7_modelsByRows P_X7_models
  rcases ix_cases n (by omega) a with ⟨f, hf, rfl⟩ | ha
  · obtain ⟨s', e1, t1⟩ := rows_loop (τ := τ) hf 32 0 FU σ (by omega) (by unfold FU; omega) h
    rw [reqF_in h hf, bd_some, lacks_in h hf, bd_some, if_pos rfl, gd_in (by omega) (by decide), ni_cl (by omega), show (tI τ 5 0).2.1 4 f = Tb τ f from rfl, bc_ok, bd_some]
    refine ag_ret (σ' := s') (τ' := tI τ 5 0) (r := nI (bN 32 (Tb τ f).toBitVec.toNat)) ?_ rfl rfl ?_
    · exact e1
    · exact ⟨n, m, q, e, (t1.fw h).thr 0, (hr.of (Nat.le_refl n) (σ' := s') ⟨fun k _ _ => by rw [t1.1], fun k _ _ => t1.2 k (by omega), fun k _ _ => t1.2 k (by omega)⟩ PPt.rf).thr 0⟩
  · rw [reqF_no h ha, lacks_no h ha, bd_some, if_neg (by decide)]
    exact ag_exc rfl rfl rfl rfl (by decide) (hI.thr 1)
