/-! THE REFERENCE AS A GHOST: its numbers and arrays -/
abbrev MS : Type := (Nat → Int32) × (Nat → Nat → Int32) × (Nat → Nat → Int32) × (Nat → Nat → Int32)
def up1 {α : Type} (f : Nat → α) (k : Nat) (v : α) : Nat → α := fun j => bif Nat.beq j k then v else f j
theorem up1_at {α : Type} (f : Nat → α) (k : Nat) (v : α) (j : Nat) : up1 f k v j = if j = k then v else f j := by
  show (bif Nat.beq j k then v else f j) = _
  by_cases h : j = k
  · subst h; rw [if_pos rfl, show Nat.beq j j = true from Nat.beq_refl j]; rfl
  · rw [if_neg h, show Nat.beq j k = false from Bool.eq_false_iff.mpr (fun q => h (Nat.eq_of_beq_eq_true q))]; rfl
def tI (τ : MS) (k : Nat) (v : Int32) : MS := (up1 τ.1 k v, τ.2)
def tA (τ : MS) (k : Nat) (f : Nat → Int32) : MS := (τ.1, up1 τ.2.1 k f, τ.2.2)
def tC (τ : MS) (k : Nat) (f : Nat → Int32) : MS := (τ.1, τ.2.1, up1 τ.2.2.1 k f, τ.2.2.2)
def tP (τ : MS) (k : Nat) (f : Nat → Int32) : MS := (τ.1, τ.2.1, τ.2.2.1, up1 τ.2.2.2 k f)
theorem app_get {α : Type} (pre X : List α) (k : Nat) : (pre ++ X)[pre.length + k]? = X[k]? := by
  rw [List.getElem?_append_right (Nat.le_add_right _ _), Nat.add_sub_cancel_left]
theorem app_set {α : Type} (pre X : List α) (k : Nat) (e : α) : (pre ++ X).set (pre.length + k) e = pre ++ X.set k e := by
  induction pre with
  | nil => rw [List.length_nil, Nat.zero_add]; rfl
  | cons a r ih =>
    rw [List.length_cons, show r.length + 1 + k = (r.length + k) + 1 by omega, List.cons_append, List.set_cons_succ, ih]
    rfl
