/-! WHICH LINES ARE NEEDED -/
/-- a mark -/
def mk1 (v : Int32) (A : Nat → Int32) : Nat → Int32 := rput 60 A v 1
theorem mk1_at (v : Int32) (A : Nat → Int32) (j : Nat) : mk1 v A j = if (¬ v < 0 ∧ ¬ nI 60 ≤ v) ∧ j = v.toNatClampNeg then 1 else A j := by
  unfold mk1 rput
  by_cases c : ¬ v < 0 ∧ ¬ nI 60 ≤ v
  · rw [if_pos c]
    unfold upd
    by_cases d : j = v.toNatClampNeg
    · rw [if_pos d, if_pos ⟨c, d⟩]
    · rw [if_neg d, if_neg (fun z => d z.2)]
  · rw [if_neg c, if_neg (fun z => c z.1)]
theorem mk1_comm (u v : Int32) (A : Nat → Int32) : mk1 u (mk1 v A) = mk1 v (mk1 u A) := by
  funext j
  rw [mk1_at, mk1_at, mk1_at, mk1_at]
  split <;> split <;> rfl
/-- the ends of a box -/
def endsM (τ : MS) (v : Int32) (A : Nat → Int32) : Nat → Int32 := if v = -1 then A else mk1 (τ.2.1 12 v.toNatClampNeg) (mk1 (τ.2.1 11 v.toNatClampNeg) A)
theorem ends_comm (τ : MS) (u v : Int32) (A : Nat → Int32) : endsM τ u (mk1 v A) = mk1 v (endsM τ u A) := by
  unfold endsM
  split
  · rfl
  · rw [mk1_comm _ v A, mk1_comm]
/-- what a needed line marks -/
def marksM (τ : MS) (k : Nat) (A : Nat → Int32) : Nat → Int32 := endsM τ (τ.2.2.1 k 3) (endsM τ (τ.2.2.1 k 2) (mk1 (τ.2.2.1 k 1) (mk1 (τ.2.2.1 k 0) A)))
def MR (m : Nat) (A B : Nat → Int32) : Prop := ∀ j, j < m → A j = B j ∧ (B j = 0 ∨ B j = 1)
theorem MR.mk1 {m : Nat} {A B : Nat → Int32} (h : MR m A B) (v : Int32) : MR m (mk1 v A) (mk1 v B) := fun j hj => by
  rw [mk1_at, mk1_at]
  split
  · exact ⟨rfl, Or.inr rfl⟩
  · exact h j hj
theorem MR.ends {m : Nat} {A B : Nat → Int32} (h : MR m A B) (τ : MS) (v : Int32) : MR m (endsM τ v A) (endsM τ v B) := by
  unfold endsM
  split
  · exact h
  · exact (h.mk1 _).mk1 _
theorem MR.marks {m : Nat} {A B : Nat → Int32} (h : MR m A B) (τ : MS) (k : Nat) : MR m (marksM τ k A) (marksM τ k B) := (((h.mk1 _).mk1 _).ends τ _).ends τ _
theorem tA_tA (τ : MS) (k : Nat) (X Y : Nat → Int32) : tA (tA τ k X) k Y = tA τ k Y := by
  have e : up1 (up1 τ.2.1 k X) k Y = up1 τ.2.1 k Y := funext fun j => by
    rw [up1_at, up1_at, up1_at]
    split <;> rfl
  show (τ.1, up1 (up1 τ.2.1 k X) k Y, τ.2.2) = (τ.1, up1 τ.2.1 k Y, τ.2.2)
  rw [e]
theorem sR_sR (σ : DS) (k : Nat) (X Y : Nat → Int32) : sR (sR σ k X) k Y = sR σ k Y := by
  have e : (fun j => bif Nat.beq j k then Y else (bif Nat.beq j k then X else σ.2 j)) = (fun j => bif Nat.beq j k then Y else σ.2 j) := funext fun j => by
    show (bif Nat.beq j k then Y else (bif Nat.beq j k then X else σ.2 j)) = (bif Nat.beq j k then Y else σ.2 j)
    cases Nat.beq j k <;> rfl
  exact congrArg (fun x => (σ.1, x)) e
section NEED
variable {n m q e : Nat} {σ : DS} {τ : MS}
theorem mk1_in {b : Nat} (hb : b < 60) (A : Nat → Int32) : mk1 (nI b) A = upd A b 1 := rput_in hb (by decide) A 1
theorem need_113 (h : RW n m q e σ τ) {k c : Nat} (hk : k < m) (hc : c < 2) (B : Nat → Int32) (k64 : MS → Int32 → Int32 → Res MS Int32) (k82 : MS → Int32 → Int32 → Int32 → Res MS Int32) (l1 : Int32) : B_X7_needed_113 k64 k82 (tA τ 19 B) l1 (nI k) (nI c) = k82 (tA τ 19 (endsM τ (τ.2.2.1 k (2 + c)) B)) l1 (nI k) (nI (c + 1)) := by
  have hm := h.m60
  have hq := h.q60
  obtain ⟨-, -, -, -, -, -, -, -, -, -, -, -, x2, x3⟩ := h.ln hk
  have hv : IxN q (τ.2.2.1 k (2 + c)) := by
    have : c = 0 ∨ c = 1 := by omega
    rcases this with rfl | rfl
    · exact x2
    · exact x3
  unfold B_X7_needed_113 endsM
  rw [gd_in (show k < 60 by omega) (by decide), show (2 : Int32) = nI 2 from rfl, ni_add, gd_in (show 2 + c < 4 by omega) (by decide), lt_def, ni_cl (show k < 2147483648 by omega), ni_cl (show 2 + c < 2147483648 by omega), show (tA τ 19 B).2.2.1 k (2 + c) = τ.2.2.1 k (2 + c) from rfl]
  rcases hv with e1 | ⟨b, hb, e1⟩
  · rw [e1, if_pos rfl, if_pos rfl, lt_def, ni_add1]
  · obtain ⟨-, ⟨k1, hk1, o1⟩, -, ⟨k2, hk2, o2⟩, -⟩ := h.bx hb
    rw [e1, if_neg (ni_ne (by omega)), if_neg (ni_ne (by omega)), gd_in (show b < 60 by omega) (by decide), ni_cl (show b < 2147483648 by omega), show (tA τ 19 B).2.1 11 b = nI k1 from o1, gd_in (show k1 < 60 by omega) (by decide), ni_cl (show k1 < 2147483648 by omega), lt_def, gd_in (show b < 60 by omega) (by decide), show (tA (tA τ 19 B) 19 (upd ((tA τ 19 B).2.1 19) k1 (vp_nar .boolean 1))).2.1 12 b = nI k2 from o2, gd_in (show k2 < 60 by omega) (by decide), ni_cl (show k2 < 2147483648 by omega), lt_def, lt_def, ni_add1, tA_tA, tA_tA, o1, o2, mk1_in (show k1 < 60 by omega), mk1_in (show k2 < 60 by omega)]
    rfl
theorem need_row (h : RW n m q e σ τ) {k : Nat} (hk : k < m) (B : Nat → Int32) (k64 : MS → Int32 → Int32 → Res MS Int32) (l1 : Int32) : L_X7_needed_82 k64 FU (tA τ 19 B) l1 (nI k) 0 = k64 (tA τ 19 (marksM τ k B)) l1 (nI k - 1) := by
  have hm := h.m60
  obtain ⟨-, -, -, -, -, -, -, -, -, -, x0, x1, -, -⟩ := h.ln hk
  have one : ∀ (N c : Nat) (B : Nat → Int32), c < 2 → IxN 60 (τ.2.2.1 k c) → L_X7_needed_82 k64 (N + 1) (tA τ 19 B) l1 (nI k) (nI c) = L_X7_needed_82 k64 N (tA τ 19 (endsM τ (τ.2.2.1 k (2 + c)) (mk1 (τ.2.2.1 k c) B))) l1 (nI k) (nI (c + 1)) := by
    intro N c B hc hv
    show B_X7_needed_82 k64 (L_X7_needed_82 k64 N) (tA τ 19 B) l1 (nI k) (nI c) = _
    unfold B_X7_needed_82
    rw [show (2 : Int32) = nI 2 from rfl, if_neg (nI_ge hc (by decide)), gd_in (show k < 60 by omega) (by decide), gd_in (show c < 4 by omega) (by decide), ni_cl (show k < 2147483648 by omega), ni_cl (show c < 2147483648 by omega), show (tA τ 19 B).2.2.1 k c = τ.2.2.1 k c from rfl]
    rcases hv with e1 | ⟨b, hb, e1⟩
    · rw [e1, if_pos rfl, need_113 h hk hc]
      unfold mk1
      rw [rput_m1]
    · rw [e1, if_neg (ni_ne (by omega)), gd_in (show k < 60 by omega) (by decide), gd_in (show c < 4 by omega) (by decide), gd_in hb (by decide), ni_cl (show b < 2147483648 by omega), lt_def, tA_tA, need_113 h hk hc, mk1_in hb]
      rfl
  have z1 := one 3999999 0 B (by decide) x0
  have z2 := one 3999998 1 (endsM τ (τ.2.2.1 k (2 + 0)) (mk1 (τ.2.2.1 k 0) B)) (by decide) x1
  rw [nI_0] at z1
  show L_X7_needed_82 k64 (3999999 + 1) (tA τ 19 B) l1 (nI k) 0 = _
  rw [z1, show (3999999 : Nat) = 3999998 + 1 from rfl, z2]
  show B_X7_needed_82 k64 (L_X7_needed_82 k64 3999997) _ l1 (nI k) (nI 2) = _
  unfold B_X7_needed_82
  rw [if_pos (by decide), lt_def, ni_am1]
  unfold marksM
  rw [← ends_comm]
end NEED
