/-! A FORMULA IS MADE: both sides -/
section ENTER
variable {n : Nat} {σ : DS} {τ : MS}
theorem ni_ne {a : Nat} (ha : a < 2147483648) : ¬ nI a = -1 := fun h => by rw [ni_m1 ha] at h; exact h
theorem tbI_in {a : Nat} (ha : a < 2147483648) : tbI τ (nI a) = Tb τ a := by
  unfold tbI
  rw [if_neg (ni_ne ha), ni_cl ha]
/-- what FW speaks of, alike, below k -/
theorem FW.cut {σ' : DS} {τ' : MS} {k : Nat} (h : FW n σ τ) (hk : k ≤ n) (h1 : σ'.1 1 = nI k) (h2 : τ'.1 0 = nI k) (hr : ∀ q, q < 4 → ∀ f, f < k → σ'.2 q f = σ.2 q f) (h4 : ∀ j, j < k * 30 → σ'.2 4 j = σ.2 4 j) (ht : ∀ q, q < 5 → ∀ f, f < k → τ'.2.1 q f = τ.2.1 q f) : FW k σ' τ' := by
  refine ⟨by have := h.le; omega, h1, h2, fun f hf => ?_, fun f g hf hg e1 e2 e3 => ?_⟩
  · have hfn : f < n := by omega
    have hsh := (h.ent hfn).sh
    obtain ⟨w, q1, q2, q3, q4, q5, q6, q7, q8, q9⟩ := h.ent hfn
    refine ⟨w, Sw.ext (n := k) (fun f hf => ht 0 (by decide) f hf) (fun f hf => ht 1 (by decide) f hf) (fun f hf => ht 2 (by decide) f hf) hf q1, q2, ?_, ?_, ?_, ?_, ?_, fun i hi => ?_, ?_⟩
    · show τ'.2.1 3 f = _; rw [ht 3 (by decide) f hf]; exact q3
    · show _ = τ'.2.1 1 f; rw [ht 1 (by decide) f hf, hr 0 (by decide) f hf]; exact q4
    · show _ = τ'.2.1 2 f; rw [ht 2 (by decide) f hf, hr 1 (by decide) f hf]; exact q5
    · show _ = τ'.2.1 3 f; rw [ht 3 (by decide) f hf, hr 2 (by decide) f hf]; exact q6
    · show _ = τ'.2.1 4 f; rw [ht 4 (by decide) f hf, hr 3 (by decide) f hf]; exact q7
    · rw [h4 _ (by omega)]; exact q8 i hi
    · show τ'.2.1 4 f = tabOf (τ'.2.1 0 f) (tbI τ' (τ'.2.1 1 f)) (tbI τ' (τ'.2.1 2 f))
      rw [ht 0 (by decide) f hf, ht 1 (by decide) f hf, ht 2 (by decide) f hf, ht 4 (by decide) f hf]
      have hle := h.le
      have key : ∀ v : Int32, (v = -1 ∨ ∃ a, a < f ∧ v = nI a) → tbI τ' v = tbI τ v := by
        intro v hv
        rcases hv with hv | ⟨a, ha, hv⟩
        · unfold tbI; rw [if_pos hv, if_pos hv]
        · rw [hv, tbI_in (by omega), tbI_in (by omega)]
          exact ht 4 (by decide) a (by omega)
      rw [key, key]
      · exact q9
      · rcases hsh with ⟨-, -, e⟩ | ⟨a, -, -, -, e⟩ | ⟨a, b, -, -, hb, -, e⟩
        · exact Or.inl e
        · exact Or.inl e
        · exact Or.inr ⟨b, hb, e⟩
      · rcases hsh with ⟨-, e, -⟩ | ⟨a, -, ha, e, -⟩ | ⟨a, b, -, ha, -, e, -⟩
        · exact Or.inl e
        · exact Or.inr ⟨a, ha, e⟩
        · exact Or.inr ⟨a, ha, e⟩
  · apply h.2.2.2.2 f g (by omega) (by omega)
    · have e1 : τ'.2.1 0 f = τ'.2.1 0 g := e1
      rwa [ht 0 (by decide) f hf, ht 0 (by decide) g hg] at e1
    · have e2 : τ'.2.1 1 f = τ'.2.1 1 g := e2
      rwa [ht 1 (by decide) f hf, ht 1 (by decide) g hg] at e2
    · have e3 : τ'.2.1 2 f = τ'.2.1 2 g := e3
      rwa [ht 2 (by decide) f hf, ht 2 (by decide) g hg] at e3
theorem FW.of {σ' : DS} {τ' : MS} (h : FW n σ τ) (h1 : σ'.1 1 = σ.1 1) (h2 : τ'.1 0 = τ.1 0) (hr : ∀ k, k < 4 → ∀ f, f < n → σ'.2 k f = σ.2 k f) (h4 : ∀ j, j < n * 30 → σ'.2 4 j = σ.2 4 j) (ht : ∀ k, k < 5 → ∀ f, f < n → τ'.2.1 k f = τ.2.1 k f) : FW n σ' τ' :=
  h.cut (Nat.le_refl n) (h1.trans h.cnt) (h2.trans h.cnt7) hr h4 ht
/-- fewer formulas -/
theorem FW.less {σ' : DS} {τ' : MS} {k : Nat} (h : FW n σ τ) (hk : k ≤ n) (h1 : σ'.1 1 = nI k) (h2 : τ'.1 0 = nI k) (e1 : σ'.2 = σ.2) (e2 : τ'.2 = τ.2) : FW k σ' τ' :=
  h.cut hk h1 h2 (fun _ _ _ _ => by rw [e1]) (fun _ _ => by rw [e1]) (fun _ _ _ _ => by rw [e2])
/-- the word of a part that may be none -/
def WdI (τ : MS) (n : Nat) (v : Int32) (w : List Int32) : Prop := (v = -1 ∧ w = []) ∨ ∃ a, a < n ∧ v = nI a ∧ Sw τ w.length a w
/-- a formula can consist of these -/
def Shp (n : Nat) (c l r : Int32) : Prop := (leafK c ∧ l = -1 ∧ r = -1) ∨ (∃ a, c = 78 ∧ a < n ∧ l = nI a ∧ r = -1) ∨ (∃ a b, binK c ∧ a < n ∧ b < n ∧ l = nI a ∧ r = nI b)
theorem WdI.of (h : FW n σ τ) {v : Int32} (hv : v = -1 ∨ ∃ a, a < n ∧ v = nI a) : ∃ w, WdI τ n v w ∧ w.length ≤ 30 ∧ F_X0_size σ v = nI w.length ∧ (v = -1 ∨ (vp_in v 150 ∧ Sz τ v.toNatClampNeg = nI w.length)) := by
  have hle := h.le
  rcases hv with rfl | ⟨a, ha, rfl⟩
  · exact ⟨[], Or.inl ⟨rfl, rfl⟩, by decide, size_m1 h, Or.inl rfl⟩
  · obtain ⟨w, q1, q2, q3, -⟩ := h.ent ha
    exact ⟨w, Or.inr ⟨a, ha, rfl, q1⟩, q2, by rw [size_in h ha]; exact q3, Or.inr ⟨nI_in (by omega) (by decide), by rw [ni_cl (by omega)]; exact q3⟩⟩
theorem Shp.l {c l r : Int32} (h : Shp n c l r) : l = -1 ∨ ∃ a, a < n ∧ l = nI a := by
  rcases h with ⟨-, e, -⟩ | ⟨a, -, ha, e, -⟩ | ⟨a, b, -, ha, -, e, -⟩
  · exact Or.inl e
  · exact Or.inr ⟨a, ha, e⟩
  · exact Or.inr ⟨a, ha, e⟩
theorem Shp.r {c l r : Int32} (h : Shp n c l r) : r = -1 ∨ ∃ a, a < n ∧ r = nI a := by
  rcases h with ⟨-, -, e⟩ | ⟨a, -, ha, -, e⟩ | ⟨a, b, -, -, hb, -, e⟩
  · exact Or.inl e
  · exact Or.inl e
  · exact Or.inr ⟨b, hb, e⟩
theorem Shp.kn {c l r : Int32} (h : Shp n c l r) : c ∈ kinds := by
  rcases h with ⟨k, -⟩ | ⟨a, k, -⟩ | ⟨a, b, k, -⟩
  · rcases k with k | k | k | k | k | k <;> rw [k] <;> decide
  · rw [k]; decide
  · rcases k with k | k | k <;> rw [k] <;> decide
/-- the letters' tables -/
theorem bit01 : ∀ k, k < 5 → ∀ v, v < 32 → ((nI v >>> (nI k &&& 31)) &&& (1 : Int32)) = 1 ∨ ((nI v >>> (nI k &&& 31)) &&& (1 : Int32)) = 0 := by decide +kernel
theorem zshl (x : Int32) : ∀ v, v < 32 → x ||| ((0 : Int32) <<< (nI v &&& 31)) = x := by
  intro v hv
  have h : ∀ v, v < 32 → (0 : Int32) <<< (nI v &&& 31) = 0 := by decide +kernel
  rw [h v hv]
  exact Int32.or_zero
theorem lt_loop0 (k : Nat) (hk : k < 5) : ∀ (d v N : Nat), v + d = 32 → d < N → L_X0_letterTable_4 N σ (nI k) (ltab k v) (nI v) = some (.inl (ltab k 32), σ) := by
  intro d
  induction d with
  | zero =>
    intro v N hv hN
    obtain ⟨N, rfl⟩ : ∃ M, N = M + 1 := ⟨N - 1, by omega⟩
    have hv : v = 32 := hv
    subst hv
    show B_X0_letterTable_4 (L_X0_letterTable_4 N) σ (nI k) (ltab k 32) (nI 32) = _
    unfold B_X0_letterTable_4
    rw [if_pos (by decide)]
  | succ d ih =>
    intro v N hv hN
    obtain ⟨N, rfl⟩ : ∃ M, N = M + 1 := ⟨N - 1, by omega⟩
    show B_X0_letterTable_4 (L_X0_letterTable_4 N) σ (nI k) (ltab k v) (nI v) = _
    unfold B_X0_letterTable_4 F_X0_isLetterTrue
    rw [show (32 : Int32) = nI 32 from rfl, if_neg (nI_ge (by omega) (by decide))]
    have key := ih (v + 1) N (by omega) (by omega)
    have e : ltab k (v + 1) = ltab k v ||| (((nI v >>> (nI k &&& 31)) &&& (1 : Int32)) <<< (nI v &&& 31)) := rfl
    rcases bit01 k hk v (by omega) with z | z
    · rw [z] at e ⊢
      rw [if_pos rfl, if_neg (by decide), lt_def, lt_def, ni_add1, ← e]
      exact key
    · rw [z, zshl _ v (by omega)] at e
      rw [z, if_pos (show (if (0 : Int32) = 1 then (1 : Int32) else 0) = 0 by decide), lt_def, ni_add1, ← e]
      exact key
theorem lt_loop7 (k : Nat) : ∀ (d v N : Nat), v + d = 32 → d < N → L_X7_letterTable_4 N τ (nI k) (ltab k v) (nI v) = some (.inl (ltab k 32), τ) := by
  intro d
  induction d with
  | zero =>
    intro v N hv hN
    obtain ⟨N, rfl⟩ : ∃ M, N = M + 1 := ⟨N - 1, by omega⟩
    have hv : v = 32 := hv
    subst hv
    show B_X7_letterTable_4 (L_X7_letterTable_4 N) τ (nI k) (ltab k 32) (nI 32) = _
    unfold B_X7_letterTable_4
    rw [if_pos (by decide)]
  | succ d ih =>
    intro v N hv hN
    obtain ⟨N, rfl⟩ : ∃ M, N = M + 1 := ⟨N - 1, by omega⟩
    show B_X7_letterTable_4 (L_X7_letterTable_4 N) τ (nI k) (ltab k v) (nI v) = _
    unfold B_X7_letterTable_4
    rw [show (32 : Int32) = nI 32 from rfl, if_neg (nI_ge (by omega) (by decide)), lt_def, lt_def, ni_add1]
    exact ih (v + 1) N (by omega) (by omega)
theorem leaf_let {c : Int32} (h : leafK c) : c = 70 ∨ ∃ k, k < 5 ∧ c - 97 = nI k ∧ c ≠ 78 ∧ c ≠ 75 ∧ c ≠ 65 ∧ c ≠ 67 ∧ c ≠ 70 := by
  rcases h with h | h | h | h | h | h <;> subst h
  · exact Or.inr ⟨0, by decide, by decide, by decide, by decide, by decide, by decide, by decide⟩
  · exact Or.inr ⟨1, by decide, by decide, by decide, by decide, by decide, by decide, by decide⟩
  · exact Or.inr ⟨2, by decide, by decide, by decide, by decide, by decide, by decide, by decide⟩
  · exact Or.inr ⟨3, by decide, by decide, by decide, by decide, by decide, by decide, by decide⟩
  · exact Or.inr ⟨4, by decide, by decide, by decide, by decide, by decide, by decide, by decide⟩
  · exact Or.inl rfl
theorem tableFrom_ok {c l r : Int32} (h : FW n σ τ) (hs : Shp n c l r) (σ₁ : DS) (h3 : ∀ f, f < n → σ₁.2 3 f = σ.2 3 f) : P_X0_tableFrom σ₁ c (F_X0_table σ₁ l) (F_X0_table σ₁ r) = some (.inl (tabOf c (tbI τ l) (tbI τ r)), σ₁) := by
  have hle := h.le
  have ht : ∀ a, a < n → F_X0_table σ₁ (nI a) = tbI τ (nI a) := fun a ha => by
    have e := table_in h ha
    unfold F_X0_table at e ⊢
    rw [rat_in (by omega) (by decide)] at e ⊢
    rw [h3 a ha, e, tbI_in (by omega)]
  unfold P_X0_tableFrom tabOf
  rcases hs with ⟨k, -, -⟩ | ⟨a, k, ha, rfl, rfl⟩ | ⟨a, b, k, ha, hb, rfl, rfl⟩
  · rcases leaf_let k with rfl | ⟨k, hk, e, n1, n2, n3, n4, n5⟩
    · rfl
    · rw [if_neg n1, if_neg n2, if_neg n3, if_neg n4, if_neg n5, if_neg n1, if_neg n2, if_neg n3, if_neg n4, if_neg n5, e, ni_cl (by omega)]
      unfold P_X0_letterTable
      rw [lt_def, lt_def]
      have := lt_loop0 (σ := σ₁) k hk 32 0 FU (by omega) (by unfold FU; omega)
      rw [show ltab k 0 = 0 from rfl, show nI 0 = 0 from rfl] at this
      rw [this]
      rfl
  · rw [if_pos k, if_pos k, ht a ha]
  · rw [ht a ha, ht b hb]
    rcases k with k | k | k <;> subst k <;> rfl
theorem truth_ok {c l r : Int32} (h : FW n σ τ) (hs : Shp n c l r) (τ₁ : MS) (h3 : ∀ f, f < n → τ₁.2.1 4 f = Tb τ f) : P_X7_truth τ₁ c l r = some (.inl (tabOf c (tbI τ l) (tbI τ r)), τ₁) := by
  have hle := h.le
  have ht : ∀ a, a < n → tbI τ (nI a) = τ₁.2.1 4 a := fun a ha => by
    rw [tbI_in (by omega), h3 a ha]
  unfold P_X7_truth tabOf
  rcases hs with ⟨k, -, -⟩ | ⟨a, k, ha, rfl, rfl⟩ | ⟨a, b, k, ha, hb, rfl, rfl⟩
  · rcases leaf_let k with rfl | ⟨k, hk, e, n1, n2, n3, n4, n5⟩
    · rfl
    · rw [if_neg n3, if_neg n4, if_neg n5, if_neg n2, if_neg n1, if_neg n1, if_neg n2, if_neg n3, if_neg n4, if_neg n5, e, ni_cl (by omega)]
      unfold P_X7_letterTable
      rw [lt_def, lt_def]
      have := lt_loop7 (τ := τ₁) k 32 0 FU (by omega) (by unfold FU; omega)
      rw [show ltab k 0 = 0 from rfl, show nI 0 = 0 from rfl] at this
      rw [this]
      rfl
  · subst k
    rw [ht a ha]
    simp only [gd_in (show a < 150 by omega) (by decide), ni_cl (show a < 2147483648 by omega)]
    rfl
  · rw [ht a ha, ht b hb]
    rcases k with k | k | k <;> subst k <;> simp only [gd_in (show a < 150 by omega) (by decide), gd_in (show b < 150 by omega) (by decide), ni_cl (show a < 2147483648 by omega), ni_cl (show b < 2147483648 by omega)] <;> rfl
/-- the symbols of a part are written -/
theorem put_loop (h : FW n σ τ) {a p : Nat} {w : List Int32} (ha : a < n) (hs : Sw τ w.length a w) (hp : n * 30 ≤ p) (hp2 : p + w.length ≤ 4500) : ∀ (d i N : Nat) (s : DS), i + d = w.length → d < N → s.1 = σ.1 → (∀ k, k ≠ 4 → s.2 k = σ.2 k) → (∀ j, s.2 4 j = if p ≤ j ∧ j < p + i then w.getD (j - p) 0 else σ.2 4 j) →
    ∃ s' : DS, L_X0_putSymbols_9 N s (nI a) (nI p) (nI w.length) (nI i) = some (.inl (), s') ∧ s'.1 = σ.1 ∧ (∀ k, k ≠ 4 → s'.2 k = σ.2 k) ∧ (∀ j, s'.2 4 j = if p ≤ j ∧ j < p + w.length then w.getD (j - p) 0 else σ.2 4 j) := by
  have hle := h.le
  intro d
  induction d with
  | zero =>
    intro i N s hi hN e1 e2 e4
    obtain ⟨N, rfl⟩ : ∃ M, N = M + 1 := ⟨N - 1, by omega⟩
    have hi : i = w.length := hi
    subst hi
    refine ⟨s, ?_, e1, e2, e4⟩
    show B_X0_putSymbols_9 (L_X0_putSymbols_9 N) s (nI a) (nI p) (nI w.length) (nI w.length) = _
    unfold B_X0_putSymbols_9
    rw [if_pos (nI_le (Nat.le_refl _) (by omega))]
  | succ d ih =>
    intro i N s hi hN e1 e2 e4
    obtain ⟨N, rfl⟩ : ∃ M, N = M + 1 := ⟨N - 1, by omega⟩
    have hw30 : w.length ≤ 30 := by
      obtain ⟨w', q1, q2, -⟩ := h.ent ha
      rw [Sw.det (by omega) hs q1]
      exact q2
    have hsym : σ.2 4 (a * 30 + i) = w.getD i 0 := by
      obtain ⟨w', q1, q2, -, -, -, -, -, q8, -⟩ := h.ent ha
      rw [Sw.det (by omega) hs q1] at hi ⊢
      exact q8 i (by omega)
    have hsrc : s.2 4 (a * 30 + i) = w.getD i 0 := by
      rw [e4, if_neg (by omega), hsym]
    have hgo : L_X0_putSymbols_9 (N + 1) s (nI a) (nI p) (nI w.length) (nI i) = L_X0_putSymbols_9 N (sR s 4 (upd (s.2 4) (p + i) (w.getD i 0))) (nI a) (nI p) (nI w.length) (nI (i + 1)) := by
      show B_X0_putSymbols_9 (L_X0_putSymbols_9 N) s (nI a) (nI p) (nI w.length) (nI i) = _
      unfold B_X0_putSymbols_9
      rw [if_neg (nI_ge (by omega) (by omega)), show (30 : Int32) = nI 30 from rfl, ni_mul, ni_add, ni_add, rat_in (by omega) (by decide), rput_in (by omega) (by decide), hsrc, lt_def, lt_def, ni_add1]
    rw [hgo]
    refine ih (i + 1) N _ (by omega) (by omega) e1 (fun k hk => ?_) (fun j => ?_)
    · rw [sR_2, if_neg hk]; exact e2 k hk
    · rw [sR_2, if_pos rfl]
      by_cases hj : j = p + i
      · subst hj
        rw [upd_eq, if_pos (by omega), Nat.add_sub_cancel_left]
      · rw [upd_ne _ hj, e4]
        by_cases h9 : p ≤ j ∧ j < p + i
        · rw [if_pos h9, if_pos (by omega)]
        · rw [if_neg h9, if_neg (by omega)]
theorem put_ok (h : FW n σ τ) {v : Int32} {p : Nat} {w : List Int32} (hw : WdI τ n v w) (hw3 : F_X0_size σ v = nI w.length) (hp : n * 30 ≤ p) (hp2 : p + w.length ≤ 4500) : ∃ s' : DS, P_X0_putSymbols σ v (nI p) = some (.inl (), s') ∧ s'.1 = σ.1 ∧ (∀ k, k ≠ 4 → s'.2 k = σ.2 k) ∧ (∀ j, s'.2 4 j = if p ≤ j ∧ j < p + w.length then w.getD (j - p) 0 else σ.2 4 j) ∧ FW n s' τ := by
  have hle := h.le
  have key : ∃ s' : DS, P_X0_putSymbols σ v (nI p) = some (.inl (), s') ∧ s'.1 = σ.1 ∧ (∀ k, k ≠ 4 → s'.2 k = σ.2 k) ∧ (∀ j, s'.2 4 j = if p ≤ j ∧ j < p + w.length then w.getD (j - p) 0 else σ.2 4 j) := by
    unfold P_X0_putSymbols
    rw [lt_def, lt_def, hw3]
    rcases hw with ⟨rfl, rfl⟩ | ⟨a, ha, rfl, hs⟩
    · refine ⟨σ, ?_, rfl, fun _ _ => rfl, fun j => by rw [if_neg (by simp <;> omega)]⟩
      show L_X0_putSymbols_9 (3999999 + 1) σ (-1) (nI p) (nI 0) 0 = _
      show B_X0_putSymbols_9 (L_X0_putSymbols_9 3999999) σ (-1) (nI p) (nI 0) 0 = _
      unfold B_X0_putSymbols_9
      rw [if_pos (by decide)]
    · have hw30 : w.length ≤ 30 := by
        obtain ⟨w', q1, q2, -⟩ := h.ent ha
        rw [Sw.det (by omega) hs q1]
        exact q2
      exact put_loop h ha hs hp hp2 w.length 0 FU σ (by omega) (by unfold FU; omega) rfl (fun _ _ => rfl) (fun j => by rw [if_neg (by omega)])
  obtain ⟨s', q1, q2, q3, q4⟩ := key
  exact ⟨s', q1, q2, q3, q4, h.of (by rw [q2]) rfl (fun k hk f hf => by rw [q3 k (by omega)]) (fun j hj => by rw [q4, if_neg (by omega)]) (fun _ _ _ _ => rfl)⟩
end ENTER
