/-! WHAT A TABLE SAYS, by the kind of its formula -/
section TABLES
variable {n m q e : Nat} {σ : DS} {τ : MS}
theorem tb_of (hF : FW n σ τ) {f : Nat} (hf : f < n) : Tb τ f = tabOf (Kn τ f) (tbI τ (Lf τ f)) (tbI τ (Rt τ f)) := by
  obtain ⟨w, -, -, -, -, -, -, -, -, h⟩ := hF.ent hf
  exact h
theorem tr_F (hF : FW n σ τ) {f : Nat} (hf : f < n) (hk : Kn τ f = 70) (v : Nat) : ¬ Tr τ f v := by
  show ¬ tbt (Tb τ f) v = true
  rw [tb_of hF hf, hk]
  show ¬ tbt (0 : Int32) v = true
  rw [tbt_zero]
  exact Bool.false_ne_true
theorem tr_N (hF : FW n σ τ) {f a v : Nat} (hf : f < n) (hk : Kn τ f = 78) (ha : a < n) (el : Lf τ f = nI a) (hv : v < 32) : Tr τ f v ↔ ¬ Tr τ a v := by
  have hle := hF.le
  show tbt (Tb τ f) v = true ↔ ¬ tbt (Tb τ a) v = true
  rw [tb_of hF hf, hk, el, tbI_in (by omega)]
  show tbt (Tb τ a ^^^ (-1 : Int32)) v = true ↔ _
  rw [tbt_not _ hv]
  cases tbt (Tb τ a) v <;> simp
theorem tr_K (hF : FW n σ τ) {f a b v : Nat} (hf : f < n) (hk : Kn τ f = 75) (ha : a < n) (hb : b < n) (el : Lf τ f = nI a) (er : Rt τ f = nI b) : Tr τ f v ↔ Tr τ a v ∧ Tr τ b v := by
  have hle := hF.le
  show tbt (Tb τ f) v = true ↔ tbt (Tb τ a) v = true ∧ tbt (Tb τ b) v = true
  rw [tb_of hF hf, hk, el, er, tbI_in (by omega), tbI_in (by omega)]
  show tbt (Tb τ a &&& Tb τ b) v = true ↔ _
  rw [tbt_and, Bool.and_eq_true]
theorem tr_A (hF : FW n σ τ) {f a b v : Nat} (hf : f < n) (hk : Kn τ f = 65) (ha : a < n) (hb : b < n) (el : Lf τ f = nI a) (er : Rt τ f = nI b) : Tr τ f v ↔ Tr τ a v ∨ Tr τ b v := by
  have hle := hF.le
  show tbt (Tb τ f) v = true ↔ tbt (Tb τ a) v = true ∨ tbt (Tb τ b) v = true
  rw [tb_of hF hf, hk, el, er, tbI_in (by omega), tbI_in (by omega)]
  show tbt (Tb τ a ||| Tb τ b) v = true ↔ _
  rw [tbt_or, Bool.or_eq_true]
theorem tr_C (hF : FW n σ τ) {f a b v : Nat} (hf : f < n) (hk : Kn τ f = 67) (ha : a < n) (hb : b < n) (el : Lf τ f = nI a) (er : Rt τ f = nI b) (hv : v < 32) : Tr τ f v ↔ (Tr τ a v → Tr τ b v) := by
  have hle := hF.le
  show tbt (Tb τ f) v = true ↔ (tbt (Tb τ a) v = true → tbt (Tb τ b) v = true)
  rw [tb_of hF hf, hk, el, er, tbI_in (by omega), tbI_in (by omega)]
  show tbt ((Tb τ a ^^^ (-1 : Int32)) ||| Tb τ b) v = true ↔ _
  rw [tbt_or, tbt_not _ hv]
  cases tbt (Tb τ a) v <;> cases tbt (Tb τ b) v <;> simp
/-! the parts of a formula, by its kind -/
theorem parts_N (hF : FW n σ τ) {f : Nat} (hf : f < n) (hk : Kn τ f = 78) : ∃ a, a < f ∧ Lf τ f = nI a ∧ Rt τ f = -1 := neg_of (hF.ent hf) hk
theorem parts_B (hF : FW n σ τ) {f : Nat} (hf : f < n) (hk : binK (Kn τ f)) : ∃ a b, a < f ∧ b < f ∧ Lf τ f = nI a ∧ Rt τ f = nI b := bin_of (hF.ent hf) hk
theorem tr_let (hF : FW n σ τ) {f k v : Nat} (hf : f < n) (hk : k < 5) (e : Kn τ f = 97 + nI k) : Tr τ f v ↔ tbt (ltab k 32) v = true := by
  show tbt (Tb τ f) v = true ↔ _
  rw [tb_of hF hf, e]
  have h5 : k = 0 ∨ k = 1 ∨ k = 2 ∨ k = 3 ∨ k = 4 := by omega
  rcases h5 with rfl | rfl | rfl | rfl | rfl <;> exact Iff.rfl
end TABLES
