/-! PURE MATHEMATICS, from here on: no machine. Numbers. -/
theorem P31 : (2147483648 : Nat) = 2 ^ 31 := rfl
theorem ni_lt {a b : Nat} (ha : a < 2147483648) (hb : b < 2147483648) : (nI a < nI b) = (a < b) := propext (nI_ltI ha hb)
theorem ni_le {a b : Nat} (ha : a < 2147483648) (hb : b < 2147483648) : (nI a ≤ nI b) = (a ≤ b) := propext (nI_leI ha hb)
theorem ni_eq {a b : Nat} (ha : a < 2147483648) (hb : b < 2147483648) : (nI a = nI b) = (a = b) := propext (nI_eq ha hb)
theorem ni_neg {a : Nat} (ha : a < 2147483648) : (nI a < 0) = False := eq_false (nI_pos ha)
theorem ni_m1 {a : Nat} (ha : a < 2147483648) : (nI a = -1) = False := eq_false fun h => by
  have h1 := nI_pos (n := a) ha
  rw [h] at h1
  exact h1 (by decide)
theorem ni_le0 {a : Nat} (ha : a < 2147483648) : (nI a ≤ 0) = (a = 0) := by
  rw [show (0 : Int32) = nI 0 from rfl, ni_le ha (by decide)]
  exact propext Nat.le_zero
theorem ni_eq0 {a : Nat} (ha : a < 2147483648) : (nI a = 0) = (a = 0) := by
  rw [show (0 : Int32) = nI 0 from rfl, ni_eq ha (by decide)]
theorem ni_add (a b : Nat) : nI a + nI b = nI (a + b) := nI_add a b
theorem ni_add1 (a : Nat) : nI a + 1 = nI (a + 1) := nI_add a 1
theorem ni_mul (a b : Nat) : nI a * nI b = nI (a * b) := (Int32.ofNat_mul a b).symm
theorem ni_sub1 {a : Nat} (h : 0 < a) : nI a - 1 = nI (a - 1) := by
  obtain ⟨b, rfl⟩ : ∃ b, a = b + 1 := ⟨a - 1, by omega⟩
  exact nI_pred b
theorem ni_sub {a b : Nat} (h : b ≤ a) : nI a - nI b = nI (a - b) := by
  obtain ⟨d, rfl⟩ : ∃ d, a = d + b := ⟨a - b, by omega⟩
  rw [← ni_add, Int32.add_sub_cancel, Nat.add_sub_cancel]
theorem ni_am1 (x : Int32) : x + (-1) = x - 1 := (Int32.sub_eq_add_neg x 1).symm
theorem ni_cl {a : Nat} (ha : a < 2147483648) : (nI a).toNatClampNeg = a := nI_clamp ha
theorem gd_in {β : Type} {a n : Nat} (h : a < n) (hn : n < 2147483648) (k : Option β) : gd (nI a) n k = k := by
  unfold gd
  rw [if_neg]
  exact nI_in h hn
theorem gc_t {β : Type} {c : Prop} [Decidable c] (h : c) (k : Option β) : gc c k = k := if_pos h
theorem rat_in {a n : Nat} (h : a < n) (hn : n < 2147483648) (f : Nat → Int32) : rat n f (nI a) = f a := by
  unfold rat
  rw [if_pos ⟨nI_pos (by omega), nI_ge h (by omega)⟩, ni_cl (by omega)]
theorem rat_m1 (n : Nat) (f : Nat → Int32) : rat n f (-1) = -1 := if_neg fun h => h.1 (by decide)
theorem rput_in {a n : Nat} (h : a < n) (hn : n < 2147483648) (f : Nat → Int32) (x : Int32) : rput n f (nI a) x = upd f a x := by
  unfold rput
  rw [if_pos ⟨nI_pos (by omega), nI_ge h (by omega)⟩, ni_cl (by omega)]
theorem rput_m1 (n : Nat) (f : Nat → Int32) (x : Int32) : rput n f (-1) x = f := if_neg fun h => h.1 (by decide)
theorem rfill_in {a n : Nat} (h : a < n) (f : Nat → Int32) (x : Int32) : rfill n f x a = x := if_pos h
theorem upd_eq (f : Nat → Int32) (k : Nat) (x : Int32) : upd f k x k = x := if_pos rfl
theorem upd_ne (f : Nat → Int32) {k j : Nat} (h : j ≠ k) (x : Int32) : upd f k x j = f j := if_neg h
theorem lt_def {α β : Type} (x : α) (k : α → β) : lt x k = k x := rfl
theorem bd_some {S ρ ρ' : Type} (r : ρ) (s : S) (k : ρ → S → Res S ρ') : bd (some (.inl r, s)) k = k r s := rfl
theorem bd_exc {S ρ ρ' : Type} (E : String) (s : S) (k : ρ → S → Res S ρ') : bd (some (.inr E, s) : Res S ρ) k = some (.inr E, s) := rfl
/-- a number is an index below n, or none -/
theorem ix_cases (n : Nat) (hn : n < 2147483648) (a : Int32) : (∃ f, f < n ∧ a = nI f) ∨ (a < 0 ∨ (¬ a < 0 ∧ nI n ≤ a)) := by
  by_cases h : a < 0
  · exact Or.inr (Or.inl h)
  · obtain ⟨j, hj, rfl⟩ := nI_of h
    rcases Nat.lt_or_ge j n with q | q
    · exact Or.inl ⟨j, q, rfl⟩
    · exact Or.inr (Or.inr ⟨h, nI_le q hj⟩)
theorem in_yes {τ : MS} {n f : Nat} (hf : f < n) (hn : n < 2147483648) : F_X7_in τ (nI f) (0 : Int32) (nI n - 1) = 1 := by
  unfold F_X7_in
  rw [if_neg (nI_pos (by omega)), ni_sub1 (by omega), if_neg]
  exact nI_nlt (by omega) (by omega)
theorem in_no {τ : MS} {n : Nat} {a : Int32} (hn : n < 2147483648) (h : a < 0 ∨ (¬ a < 0 ∧ nI n ≤ a)) : F_X7_in τ a (0 : Int32) (nI n - 1) = 0 := by
  unfold F_X7_in
  rcases h with h | ⟨h0, h⟩
  · rw [if_pos h]
  · rw [if_neg h0]
    obtain ⟨j, hj, rfl⟩ := nI_of h0
    rw [ni_le (by omega) (by omega)] at h
    rw [if_pos]
    by_cases h1 : n = 0
    · subst h1
      have : nI 0 - 1 = (-1 : Int32) := by decide
      rw [this]
      have h2 := nI_pos (n := j) hj
      rw [Int32.lt_iff_toInt_lt] at h2 ⊢
      rw [show (0 : Int32).toInt = 0 by decide] at h2
      rw [show (-1 : Int32).toInt = -1 by decide]
      omega
    · rw [ni_sub1 (by omega)]
      exact nI_lt (by omega) hj
theorem in5_yes {τ : MS} {f : Nat} (hf : f < 5) : F_X7_in τ (nI f) (0 : Int32) (4 : Int32) = 1 := by
  have := in_yes (τ := τ) (n := 5) hf (by decide)
  exact this
theorem in5_no {τ : MS} {a : Int32} (h : a < 0 ∨ (¬ a < 0 ∧ nI 5 ≤ a)) : F_X7_in τ a (0 : Int32) (4 : Int32) = 0 := in_no (n := 5) (by decide) h
/-- a character stays itself -/
theorem ch_id {c : Int32} (h : c.toUInt32 < 65536) : (c.toUInt32 % 65536).toInt32 = c := by
  have e : c.toUInt32 % 65536 = c.toUInt32 := by
    apply UInt32.toNat_inj.mp
    rw [UInt32.toNat_mod]
    exact Nat.mod_eq_of_lt (UInt32.lt_iff_toNat_lt.mp h)
  rw [e]
  rfl
/-- the kinds of formulas -/
def kinds : List Int32 := [97, 98, 99, 100, 101, 70, 78, 75, 65, 67]
theorem kind_ch : ∀ c ∈ kinds, (c.toUInt32 % 65536).toInt32 = c := by decide
theorem kind_nar : ∀ c ∈ kinds, vp_nar .char c = c := by decide
def leafK (c : Int32) : Prop := c = 97 ∨ c = 98 ∨ c = 99 ∨ c = 100 ∨ c = 101 ∨ c = 70
def binK (c : Int32) : Prop := c = 75 ∨ c = 65 ∨ c = 67
