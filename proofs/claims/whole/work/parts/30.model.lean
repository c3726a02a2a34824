/-! THE REFERENCE AS A LIST OF CELLS: its numbers, its arrays, its two grids; 'pre' stands ahead of it -/
abbrev MS : Type := (Nat → Int32) × (Nat → Nat → Int32) × (Nat → Nat → Int32) × (Nat → Nat → Int32)
def up1 {α : Type} (f : Nat → α) (k : Nat) (v : α) : Nat → α := fun j => bif Nat.beq j k then v else f j
theorem up1_at {α : Type} (f : Nat → α) (k : Nat) (v : α) (j : Nat) : up1 f k v j = if j = k then v else f j := by
  show (bif Nat.beq j k then v else f j) = _
  by_cases h : j = k
  · subst h; rw [if_pos rfl, show Nat.beq j j = true from Nat.beq_refl j]; rfl
  · rw [if_neg h, show Nat.beq j k = false from Bool.eq_false_iff.mpr (fun q => h (Nat.eq_of_beq_eq_true q))]; rfl
def tI (τ : MS) (k : Nat) (v : Int32) : MS := (up1 τ.1 k v, τ.2)
def tA (τ : MS) (k : Nat) (f : Nat → Int32) : MS := (τ.1, up1 τ.2.1 k f, τ.2.2)
def tC (τ : MS) (k : Nat) (f : Nat → Int32) : MS := (τ.1, τ.2.1, up1 τ.2.2.1 k f, τ.2.2.2)
def tP (τ : MS) (k : Nat) (f : Nat → Int32) : MS := (τ.1, τ.2.1, τ.2.2.1, up1 τ.2.2.2 k f)
theorem app_get {α : Type} (pre X : List α) (k : Nat) : (pre ++ X)[pre.length + k]? = X[k]? := by
  rw [List.getElem?_append_right (Nat.le_add_right _ _), Nat.add_sub_cancel_left]
theorem app_set {α : Type} (pre X : List α) (k : Nat) (e : α) : (pre ++ X).set (pre.length + k) e = pre ++ X.set k e := by
  induction pre with
  | nil => rw [List.length_nil, Nat.zero_add]; rfl
  | cons a r ih =>
    rw [List.length_cons, show r.length + 1 + k = (r.length + k) + 1 by omega, List.cons_append, List.set_cons_succ, ih]
    rfl
theorem map_set {β : Type} {n : Nat} (F : Nat → β) (i : Nat) (e : β) : ((List.range n).map F).set i e = (List.range n).map (fun j => if j = i then e else F j) := by
  apply List.ext_getElem?
  intro j
  rw [List.getElem?_set, List.getElem?_map, List.getElem?_map, List.length_map, List.length_range]
  by_cases h : i = j
  · subst h
    rw [if_pos rfl]
    by_cases h2 : i < n
    · rw [if_pos h2, List.getElem?_range h2]; simp
    · rw [if_neg h2, List.getElem?_eq_none (by rw [List.length_range]; omega)]; rfl
  · rw [if_neg h]
    cases hr : (List.range n)[j]? with
    | none => rfl
    | some z =>
      have hz : z = j := by
        have h3 := List.getElem?_eq_some_iff.mp hr
        obtain ⟨h4, h5⟩ := h3
        rw [List.getElem_range] at h5
        exact h5.symm
      subst hz
      show some (F z) = some (if z = i then e else F z)
      rw [if_neg (Ne.symm h)]
def mkA (g : Gy) (bd : Nat → Nat) (τ : MS) : va_W := [(bd 0, .inr (9, [.ref (bd 1), .ref (bd 2), .ref (bd 3), .ref (bd 4), .ref (bd 5), .int (τ.1 0), .ref (bd 6), .ref (bd 7), .ref (bd 8), .ref (bd 9), .ref (bd 21), .int (τ.1 1), .ref (bd 10), .ref (bd 11), .ref (bd 12), .ref (bd 13), .int (τ.1 2), .int (τ.1 3), .ref (bd 22), .ref (bd 14), .ref (bd 15), .int (τ.1 4), .int (τ.1 5), .ref (bd 16), .int (τ.1 6), .int (τ.1 7), .ref (bd 17), .ref (bd 18), .ref (bd 19), .ref (bd 20)])),
  (bd 1, .inl (g.2 1, 150, .inl (τ.2.1 0))),
  (bd 2, .inl (g.2 0, 150, .inl (τ.2.1 1))),
  (bd 3, .inl (g.2 0, 150, .inl (τ.2.1 2))),
  (bd 4, .inl (g.2 0, 150, .inl (τ.2.1 3))),
  (bd 5, .inl (g.2 0, 150, .inl (τ.2.1 4))),
  (bd 6, .inl (g.2 0, 5, .inl (τ.2.1 5))),
  (bd 7, .inl (g.2 0, 60, .inl (τ.2.1 6))),
  (bd 8, .inl (g.2 1, 60, .inl (τ.2.1 7))),
  (bd 9, .inl (g.2 0, 60, .inl (τ.2.1 8))),
  (bd 10, .inl (g.2 0, 60, .inl (τ.2.1 9))),
  (bd 11, .inl (g.2 2, 60, .inl (τ.2.1 10))),
  (bd 12, .inl (g.2 0, 60, .inl (τ.2.1 11))),
  (bd 13, .inl (g.2 0, 60, .inl (τ.2.1 12))),
  (bd 14, .inl (g.2 0, 8, .inl (τ.2.1 13))),
  (bd 15, .inl (g.2 0, 8, .inl (τ.2.1 14))),
  (bd 16, .inl (g.2 1, 1000, .inl (τ.2.1 15))),
  (bd 17, .inl (g.2 0, 5, .inl (τ.2.1 16))),
  (bd 18, .inl (g.2 2, 151, .inl (τ.2.1 17))),
  (bd 19, .inl (g.2 0, 151, .inl (τ.2.1 18))),
  (bd 20, .inl (g.2 2, 60, .inl (τ.2.1 19))),
  (bd 21, .inl (g.2 3, 60, .inr (.inr (.inr (.inr (fun i => if i < 60 then some (bd (23 + i)) else none)))))),
  (bd 22, .inl (g.2 3, 8, .inr (.inr (.inr (.inr (fun i => if i < 8 then some (bd (83 + i)) else none))))))]
def mkC (g : Gy) (bd : Nat → Nat) (τ : MS) : va_W := (List.range 60).map (fun i => (bd (23 + i), .inl (g.2 0, 4, .inl (τ.2.2.1 i))))
def mkP (g : Gy) (bd : Nat → Nat) (τ : MS) : va_W := (List.range 8).map (fun i => (bd (83 + i), .inl (g.2 0, 2, .inl (τ.2.2.2 i))))
abbrev mkh (g : Gy) (bd : Nat → Nat) (pre rst : va_W) (τ : MS) : va_W := pre ++ (mkA g bd τ ++ (mkC g bd τ ++ (mkP g bd τ ++ rst)))
section MODEL
variable {g : Gy} {bd : Nat → Nat} {pre rst : va_W} {τ : MS}
theorem mk_0 : (mkh g bd pre rst τ)[pre.length + 0]? = some (bd 0, .inr (9, [.ref (bd 1), .ref (bd 2), .ref (bd 3), .ref (bd 4), .ref (bd 5), .int (τ.1 0), .ref (bd 6), .ref (bd 7), .ref (bd 8), .ref (bd 9), .ref (bd 21), .int (τ.1 1), .ref (bd 10), .ref (bd 11), .ref (bd 12), .ref (bd 13), .int (τ.1 2), .int (τ.1 3), .ref (bd 22), .ref (bd 14), .ref (bd 15), .int (τ.1 4), .int (τ.1 5), .ref (bd 16), .int (τ.1 6), .int (τ.1 7), .ref (bd 17), .ref (bd 18), .ref (bd 19), .ref (bd 20)])) := (app_get _ _ _).trans rfl
theorem mk_1 : (mkh g bd pre rst τ)[pre.length + 1]? = some (bd 1, .inl (g.2 1, 150, .inl (τ.2.1 0))) := (app_get _ _ _).trans rfl
theorem mk_2 : (mkh g bd pre rst τ)[pre.length + 2]? = some (bd 2, .inl (g.2 0, 150, .inl (τ.2.1 1))) := (app_get _ _ _).trans rfl
theorem mk_3 : (mkh g bd pre rst τ)[pre.length + 3]? = some (bd 3, .inl (g.2 0, 150, .inl (τ.2.1 2))) := (app_get _ _ _).trans rfl
theorem mk_4 : (mkh g bd pre rst τ)[pre.length + 4]? = some (bd 4, .inl (g.2 0, 150, .inl (τ.2.1 3))) := (app_get _ _ _).trans rfl
theorem mk_5 : (mkh g bd pre rst τ)[pre.length + 5]? = some (bd 5, .inl (g.2 0, 150, .inl (τ.2.1 4))) := (app_get _ _ _).trans rfl
theorem mk_6 : (mkh g bd pre rst τ)[pre.length + 6]? = some (bd 6, .inl (g.2 0, 5, .inl (τ.2.1 5))) := (app_get _ _ _).trans rfl
theorem mk_7 : (mkh g bd pre rst τ)[pre.length + 7]? = some (bd 7, .inl (g.2 0, 60, .inl (τ.2.1 6))) := (app_get _ _ _).trans rfl
theorem mk_8 : (mkh g bd pre rst τ)[pre.length + 8]? = some (bd 8, .inl (g.2 1, 60, .inl (τ.2.1 7))) := (app_get _ _ _).trans rfl
theorem mk_9 : (mkh g bd pre rst τ)[pre.length + 9]? = some (bd 9, .inl (g.2 0, 60, .inl (τ.2.1 8))) := (app_get _ _ _).trans rfl
theorem mk_10 : (mkh g bd pre rst τ)[pre.length + 10]? = some (bd 10, .inl (g.2 0, 60, .inl (τ.2.1 9))) := (app_get _ _ _).trans rfl
theorem mk_11 : (mkh g bd pre rst τ)[pre.length + 11]? = some (bd 11, .inl (g.2 2, 60, .inl (τ.2.1 10))) := (app_get _ _ _).trans rfl
theorem mk_12 : (mkh g bd pre rst τ)[pre.length + 12]? = some (bd 12, .inl (g.2 0, 60, .inl (τ.2.1 11))) := (app_get _ _ _).trans rfl
theorem mk_13 : (mkh g bd pre rst τ)[pre.length + 13]? = some (bd 13, .inl (g.2 0, 60, .inl (τ.2.1 12))) := (app_get _ _ _).trans rfl
theorem mk_14 : (mkh g bd pre rst τ)[pre.length + 14]? = some (bd 14, .inl (g.2 0, 8, .inl (τ.2.1 13))) := (app_get _ _ _).trans rfl
theorem mk_15 : (mkh g bd pre rst τ)[pre.length + 15]? = some (bd 15, .inl (g.2 0, 8, .inl (τ.2.1 14))) := (app_get _ _ _).trans rfl
theorem mk_16 : (mkh g bd pre rst τ)[pre.length + 16]? = some (bd 16, .inl (g.2 1, 1000, .inl (τ.2.1 15))) := (app_get _ _ _).trans rfl
theorem mk_17 : (mkh g bd pre rst τ)[pre.length + 17]? = some (bd 17, .inl (g.2 0, 5, .inl (τ.2.1 16))) := (app_get _ _ _).trans rfl
theorem mk_18 : (mkh g bd pre rst τ)[pre.length + 18]? = some (bd 18, .inl (g.2 2, 151, .inl (τ.2.1 17))) := (app_get _ _ _).trans rfl
theorem mk_19 : (mkh g bd pre rst τ)[pre.length + 19]? = some (bd 19, .inl (g.2 0, 151, .inl (τ.2.1 18))) := (app_get _ _ _).trans rfl
theorem mk_20 : (mkh g bd pre rst τ)[pre.length + 20]? = some (bd 20, .inl (g.2 2, 60, .inl (τ.2.1 19))) := (app_get _ _ _).trans rfl
theorem mk_21 : (mkh g bd pre rst τ)[pre.length + 21]? = some (bd 21, .inl (g.2 3, 60, .inr (.inr (.inr (.inr (fun i => if i < 60 then some (bd (23 + i)) else none)))))) := (app_get _ _ _).trans rfl
theorem mk_22 : (mkh g bd pre rst τ)[pre.length + 22]? = some (bd 22, .inl (g.2 3, 8, .inr (.inr (.inr (.inr (fun i => if i < 8 then some (bd (83 + i)) else none)))))) := (app_get _ _ _).trans rfl
theorem mkI_0 (v : Int32) : (mkh g bd pre rst τ).set (pre.length + 0) (bd 0, .inr (9, [.ref (bd 1), .ref (bd 2), .ref (bd 3), .ref (bd 4), .ref (bd 5), .int v, .ref (bd 6), .ref (bd 7), .ref (bd 8), .ref (bd 9), .ref (bd 21), .int (τ.1 1), .ref (bd 10), .ref (bd 11), .ref (bd 12), .ref (bd 13), .int (τ.1 2), .int (τ.1 3), .ref (bd 22), .ref (bd 14), .ref (bd 15), .int (τ.1 4), .int (τ.1 5), .ref (bd 16), .int (τ.1 6), .int (τ.1 7), .ref (bd 17), .ref (bd 18), .ref (bd 19), .ref (bd 20)])) = mkh g bd pre rst (tI τ 0 v) := (app_set _ _ _ _).trans rfl
theorem mkI_1 (v : Int32) : (mkh g bd pre rst τ).set (pre.length + 0) (bd 0, .inr (9, [.ref (bd 1), .ref (bd 2), .ref (bd 3), .ref (bd 4), .ref (bd 5), .int (τ.1 0), .ref (bd 6), .ref (bd 7), .ref (bd 8), .ref (bd 9), .ref (bd 21), .int v, .ref (bd 10), .ref (bd 11), .ref (bd 12), .ref (bd 13), .int (τ.1 2), .int (τ.1 3), .ref (bd 22), .ref (bd 14), .ref (bd 15), .int (τ.1 4), .int (τ.1 5), .ref (bd 16), .int (τ.1 6), .int (τ.1 7), .ref (bd 17), .ref (bd 18), .ref (bd 19), .ref (bd 20)])) = mkh g bd pre rst (tI τ 1 v) := (app_set _ _ _ _).trans rfl
theorem mkI_2 (v : Int32) : (mkh g bd pre rst τ).set (pre.length + 0) (bd 0, .inr (9, [.ref (bd 1), .ref (bd 2), .ref (bd 3), .ref (bd 4), .ref (bd 5), .int (τ.1 0), .ref (bd 6), .ref (bd 7), .ref (bd 8), .ref (bd 9), .ref (bd 21), .int (τ.1 1), .ref (bd 10), .ref (bd 11), .ref (bd 12), .ref (bd 13), .int v, .int (τ.1 3), .ref (bd 22), .ref (bd 14), .ref (bd 15), .int (τ.1 4), .int (τ.1 5), .ref (bd 16), .int (τ.1 6), .int (τ.1 7), .ref (bd 17), .ref (bd 18), .ref (bd 19), .ref (bd 20)])) = mkh g bd pre rst (tI τ 2 v) := (app_set _ _ _ _).trans rfl
theorem mkI_3 (v : Int32) : (mkh g bd pre rst τ).set (pre.length + 0) (bd 0, .inr (9, [.ref (bd 1), .ref (bd 2), .ref (bd 3), .ref (bd 4), .ref (bd 5), .int (τ.1 0), .ref (bd 6), .ref (bd 7), .ref (bd 8), .ref (bd 9), .ref (bd 21), .int (τ.1 1), .ref (bd 10), .ref (bd 11), .ref (bd 12), .ref (bd 13), .int (τ.1 2), .int v, .ref (bd 22), .ref (bd 14), .ref (bd 15), .int (τ.1 4), .int (τ.1 5), .ref (bd 16), .int (τ.1 6), .int (τ.1 7), .ref (bd 17), .ref (bd 18), .ref (bd 19), .ref (bd 20)])) = mkh g bd pre rst (tI τ 3 v) := (app_set _ _ _ _).trans rfl
theorem mkI_4 (v : Int32) : (mkh g bd pre rst τ).set (pre.length + 0) (bd 0, .inr (9, [.ref (bd 1), .ref (bd 2), .ref (bd 3), .ref (bd 4), .ref (bd 5), .int (τ.1 0), .ref (bd 6), .ref (bd 7), .ref (bd 8), .ref (bd 9), .ref (bd 21), .int (τ.1 1), .ref (bd 10), .ref (bd 11), .ref (bd 12), .ref (bd 13), .int (τ.1 2), .int (τ.1 3), .ref (bd 22), .ref (bd 14), .ref (bd 15), .int v, .int (τ.1 5), .ref (bd 16), .int (τ.1 6), .int (τ.1 7), .ref (bd 17), .ref (bd 18), .ref (bd 19), .ref (bd 20)])) = mkh g bd pre rst (tI τ 4 v) := (app_set _ _ _ _).trans rfl
theorem mkI_5 (v : Int32) : (mkh g bd pre rst τ).set (pre.length + 0) (bd 0, .inr (9, [.ref (bd 1), .ref (bd 2), .ref (bd 3), .ref (bd 4), .ref (bd 5), .int (τ.1 0), .ref (bd 6), .ref (bd 7), .ref (bd 8), .ref (bd 9), .ref (bd 21), .int (τ.1 1), .ref (bd 10), .ref (bd 11), .ref (bd 12), .ref (bd 13), .int (τ.1 2), .int (τ.1 3), .ref (bd 22), .ref (bd 14), .ref (bd 15), .int (τ.1 4), .int v, .ref (bd 16), .int (τ.1 6), .int (τ.1 7), .ref (bd 17), .ref (bd 18), .ref (bd 19), .ref (bd 20)])) = mkh g bd pre rst (tI τ 5 v) := (app_set _ _ _ _).trans rfl
theorem mkI_6 (v : Int32) : (mkh g bd pre rst τ).set (pre.length + 0) (bd 0, .inr (9, [.ref (bd 1), .ref (bd 2), .ref (bd 3), .ref (bd 4), .ref (bd 5), .int (τ.1 0), .ref (bd 6), .ref (bd 7), .ref (bd 8), .ref (bd 9), .ref (bd 21), .int (τ.1 1), .ref (bd 10), .ref (bd 11), .ref (bd 12), .ref (bd 13), .int (τ.1 2), .int (τ.1 3), .ref (bd 22), .ref (bd 14), .ref (bd 15), .int (τ.1 4), .int (τ.1 5), .ref (bd 16), .int v, .int (τ.1 7), .ref (bd 17), .ref (bd 18), .ref (bd 19), .ref (bd 20)])) = mkh g bd pre rst (tI τ 6 v) := (app_set _ _ _ _).trans rfl
theorem mkI_7 (v : Int32) : (mkh g bd pre rst τ).set (pre.length + 0) (bd 0, .inr (9, [.ref (bd 1), .ref (bd 2), .ref (bd 3), .ref (bd 4), .ref (bd 5), .int (τ.1 0), .ref (bd 6), .ref (bd 7), .ref (bd 8), .ref (bd 9), .ref (bd 21), .int (τ.1 1), .ref (bd 10), .ref (bd 11), .ref (bd 12), .ref (bd 13), .int (τ.1 2), .int (τ.1 3), .ref (bd 22), .ref (bd 14), .ref (bd 15), .int (τ.1 4), .int (τ.1 5), .ref (bd 16), .int (τ.1 6), .int v, .ref (bd 17), .ref (bd 18), .ref (bd 19), .ref (bd 20)])) = mkh g bd pre rst (tI τ 7 v) := (app_set _ _ _ _).trans rfl
theorem mkA_0 (f : Nat → Int32) : (mkh g bd pre rst τ).set (pre.length + 1) (bd 1, .inl (g.2 1, 150, .inl f)) = mkh g bd pre rst (tA τ 0 f) := (app_set _ _ _ _).trans rfl
theorem mkA_1 (f : Nat → Int32) : (mkh g bd pre rst τ).set (pre.length + 2) (bd 2, .inl (g.2 0, 150, .inl f)) = mkh g bd pre rst (tA τ 1 f) := (app_set _ _ _ _).trans rfl
theorem mkA_2 (f : Nat → Int32) : (mkh g bd pre rst τ).set (pre.length + 3) (bd 3, .inl (g.2 0, 150, .inl f)) = mkh g bd pre rst (tA τ 2 f) := (app_set _ _ _ _).trans rfl
theorem mkA_3 (f : Nat → Int32) : (mkh g bd pre rst τ).set (pre.length + 4) (bd 4, .inl (g.2 0, 150, .inl f)) = mkh g bd pre rst (tA τ 3 f) := (app_set _ _ _ _).trans rfl
theorem mkA_4 (f : Nat → Int32) : (mkh g bd pre rst τ).set (pre.length + 5) (bd 5, .inl (g.2 0, 150, .inl f)) = mkh g bd pre rst (tA τ 4 f) := (app_set _ _ _ _).trans rfl
theorem mkA_5 (f : Nat → Int32) : (mkh g bd pre rst τ).set (pre.length + 6) (bd 6, .inl (g.2 0, 5, .inl f)) = mkh g bd pre rst (tA τ 5 f) := (app_set _ _ _ _).trans rfl
theorem mkA_6 (f : Nat → Int32) : (mkh g bd pre rst τ).set (pre.length + 7) (bd 7, .inl (g.2 0, 60, .inl f)) = mkh g bd pre rst (tA τ 6 f) := (app_set _ _ _ _).trans rfl
theorem mkA_7 (f : Nat → Int32) : (mkh g bd pre rst τ).set (pre.length + 8) (bd 8, .inl (g.2 1, 60, .inl f)) = mkh g bd pre rst (tA τ 7 f) := (app_set _ _ _ _).trans rfl
theorem mkA_8 (f : Nat → Int32) : (mkh g bd pre rst τ).set (pre.length + 9) (bd 9, .inl (g.2 0, 60, .inl f)) = mkh g bd pre rst (tA τ 8 f) := (app_set _ _ _ _).trans rfl
theorem mkA_9 (f : Nat → Int32) : (mkh g bd pre rst τ).set (pre.length + 10) (bd 10, .inl (g.2 0, 60, .inl f)) = mkh g bd pre rst (tA τ 9 f) := (app_set _ _ _ _).trans rfl
theorem mkA_10 (f : Nat → Int32) : (mkh g bd pre rst τ).set (pre.length + 11) (bd 11, .inl (g.2 2, 60, .inl f)) = mkh g bd pre rst (tA τ 10 f) := (app_set _ _ _ _).trans rfl
theorem mkA_11 (f : Nat → Int32) : (mkh g bd pre rst τ).set (pre.length + 12) (bd 12, .inl (g.2 0, 60, .inl f)) = mkh g bd pre rst (tA τ 11 f) := (app_set _ _ _ _).trans rfl
theorem mkA_12 (f : Nat → Int32) : (mkh g bd pre rst τ).set (pre.length + 13) (bd 13, .inl (g.2 0, 60, .inl f)) = mkh g bd pre rst (tA τ 12 f) := (app_set _ _ _ _).trans rfl
theorem mkA_13 (f : Nat → Int32) : (mkh g bd pre rst τ).set (pre.length + 14) (bd 14, .inl (g.2 0, 8, .inl f)) = mkh g bd pre rst (tA τ 13 f) := (app_set _ _ _ _).trans rfl
theorem mkA_14 (f : Nat → Int32) : (mkh g bd pre rst τ).set (pre.length + 15) (bd 15, .inl (g.2 0, 8, .inl f)) = mkh g bd pre rst (tA τ 14 f) := (app_set _ _ _ _).trans rfl
theorem mkA_15 (f : Nat → Int32) : (mkh g bd pre rst τ).set (pre.length + 16) (bd 16, .inl (g.2 1, 1000, .inl f)) = mkh g bd pre rst (tA τ 15 f) := (app_set _ _ _ _).trans rfl
theorem mkA_16 (f : Nat → Int32) : (mkh g bd pre rst τ).set (pre.length + 17) (bd 17, .inl (g.2 0, 5, .inl f)) = mkh g bd pre rst (tA τ 16 f) := (app_set _ _ _ _).trans rfl
theorem mkA_17 (f : Nat → Int32) : (mkh g bd pre rst τ).set (pre.length + 18) (bd 18, .inl (g.2 2, 151, .inl f)) = mkh g bd pre rst (tA τ 17 f) := (app_set _ _ _ _).trans rfl
theorem mkA_18 (f : Nat → Int32) : (mkh g bd pre rst τ).set (pre.length + 19) (bd 19, .inl (g.2 0, 151, .inl f)) = mkh g bd pre rst (tA τ 18 f) := (app_set _ _ _ _).trans rfl
theorem mkA_19 (f : Nat → Int32) : (mkh g bd pre rst τ).set (pre.length + 20) (bd 20, .inl (g.2 2, 60, .inl f)) = mkh g bd pre rst (tA τ 19 f) := (app_set _ _ _ _).trans rfl
theorem mkC_len : (mkC g bd τ).length = 60 := by
  unfold mkC
  rw [List.length_map, List.length_range]
theorem mkP_len : (mkP g bd τ).length = 8 := by
  unfold mkP
  rw [List.length_map, List.length_range]
theorem gC_get {i : Nat} (h : i < 60) : (mkh g bd pre rst τ)[pre.length + (23 + i)]? = some (bd (23 + i), .inl (g.2 0, 4, .inl (τ.2.2.1 i))) := by
  have e : pre.length + (23 + i) = pre.length + ((mkA g bd τ).length + i) := rfl
  rw [e, app_get, app_get, List.getElem?_append_left (by rw [mkC_len]; exact h)]
  unfold mkC
  rw [List.getElem?_map, List.getElem?_range h]
  rfl
theorem gC_set {i : Nat} (h : i < 60) (f : Nat → Int32) : (mkh g bd pre rst τ).set (pre.length + (23 + i)) (bd (23 + i), .inl (g.2 0, 4, .inl f)) = mkh g bd pre rst (tC τ i f) := by
  have e : pre.length + (23 + i) = pre.length + ((mkA g bd τ).length + i) := rfl
  rw [e, app_set, app_set, List.set_append_left _ _ (by rw [mkC_len]; exact h)]
  have e1 : (mkC g bd τ).set i (bd (23 + i), .inl (g.2 0, 4, .inl f)) = mkC g bd (tC τ i f) := by
    unfold mkC
    rw [map_set]
    refine congrArg (fun F => (List.range 60).map F) (funext fun j => ?_)
    by_cases hj : j = i
    · subst hj
      rw [if_pos rfl, show (tC τ j f).2.2.1 j = f from (up1_at _ _ _ _).trans (if_pos rfl)]
    · rw [if_neg hj, show (tC τ i f).2.2.1 j = τ.2.2.1 j from (up1_at _ _ _ _).trans (if_neg hj)]
  rw [e1]
  rfl
theorem gP_ix (pre : va_W) (i : Nat) : pre.length + (83 + i) = pre.length + ((mkA g bd τ).length + ((mkC g bd τ).length + i)) := by
  rw [mkC_len, show (mkA g bd τ).length = 23 from rfl]
  omega
theorem gP_get {i : Nat} (h : i < 8) : (mkh g bd pre rst τ)[pre.length + (83 + i)]? = some (bd (83 + i), .inl (g.2 0, 2, .inl (τ.2.2.2 i))) := by
  rw [gP_ix (g := g) (bd := bd) (τ := τ), app_get, app_get, app_get, List.getElem?_append_left (by rw [mkP_len]; exact h)]
  unfold mkP
  rw [List.getElem?_map, List.getElem?_range h]
  rfl
theorem gP_set {i : Nat} (h : i < 8) (f : Nat → Int32) : (mkh g bd pre rst τ).set (pre.length + (83 + i)) (bd (83 + i), .inl (g.2 0, 2, .inl f)) = mkh g bd pre rst (tP τ i f) := by
  rw [gP_ix (g := g) (bd := bd) (τ := τ), app_set, app_set, app_set, List.set_append_left _ _ (by rw [mkP_len]; exact h)]
  have e1 : (mkP g bd τ).set i (bd (83 + i), .inl (g.2 0, 2, .inl f)) = mkP g bd (tP τ i f) := by
    unfold mkP
    rw [map_set]
    refine congrArg (fun F => (List.range 8).map F) (funext fun j => ?_)
    by_cases hj : j = i
    · subst hj
      rw [if_pos rfl, show (tP τ j f).2.2.2 j = f from (up1_at _ _ _ _).trans (if_pos rfl)]
    · rw [if_neg hj, show (tP τ i f).2.2.2 j = τ.2.2.2 j from (up1_at _ _ _ _).trans (if_neg hj)]
  rw [e1]
  rfl
end MODEL
theorem vp_lt {i : Int32} {n : Nat} (h : vp_in i n) : i.toNatClampNeg < n := Nat.not_le.mp fun q => h (Or.inr q)
section MRULES
variable {p : Program} {l : Launch} {e : Env} {R : Room} {s : State} {m : MethodId} {args : Array Value} {below : List Frame} {meth : Method} {c : Code} {g : Gy} {A : Nat → Prop} {own : String} {cc : ByteArray} {nL : Nat} {cells slots : Nat} {Q : State → Prop} {pc : Nat} {lv : List (Nat × Value)} {st rest : List Value} {h : va_W}
theorem J.aaldR (C : Cx p l s m args meth c g A own cc nL) {β : Type} {a0 n : Nat} {f : Nat → Option Nat} {r : Nat → Nat} {i : Int32} (q0 : Nat) (he : h[q0]? = some (a0, .inl (g.2 3, n, .inr (.inr (.inr (.inr f)))))) (hfr : ∀ j, j < n → f j = some (r j)) (d : decode cc pc = .ok (.aaload, 1)) {k : Option β} {y : β} (H : gd i n k = some y) (kk : vp_in i n → k = some y → J p l e R s m args below meth c g A nL cells slots Q (pc + 1) lv (.ref (r i.toNatClampNeg) :: rest) h) : J p l e R s m args below meth c g A nL cells slots Q pc lv (.int i :: .ref a0 :: rest) h := J.aaldL C q0 he d H (fun z w => by rw [hfr _ (vp_lt z)]; exact kk z w)
theorem J.dup2 (C : Cx p l s m args meth c g A own cc nL) {a b : Value} (d : decode cc pc = .ok (.dup2, 1)) (ha : a.category = 1) (hb : b.category = 1) (k : J p l e R s m args below meth c g A nL cells slots Q (pc + 1) lv (a :: b :: a :: b :: rest) h) : J p l e R s m args below meth c g A nL cells slots Q pc lv (a :: b :: rest) h := fun H locs ls hP hD hS hl => lv_dup2_11 C.1 C.2.1 d ha hb (k H locs ls hP hD hS hl)
theorem J.fconst0 (C : Cx p l s m args meth c g A own cc nL) (d : decode cc pc = .ok (.fconst 0, 1)) (k : J p l e R s m args below meth c g A nL cells slots Q (pc + 1) lv (.float 0 :: rest) h) : J p l e R s m args below meth c g A nL cells slots Q pc lv rest h := fun H locs ls hP hD hS hl => lv_fconst0 C.1 C.2.1 d (k H locs ls hP hD hS hl)
theorem J.dconst0 (C : Cx p l s m args meth c g A own cc nL) (d : decode cc pc = .ok (.dconst 0, 1)) (k : J p l e R s m args below meth c g A nL cells slots Q (pc + 1) lv (.double 0 :: rest) h) : J p l e R s m args below meth c g A nL cells slots Q pc lv rest h := fun H locs ls hP hD hS hl => lv_dconst0 C.1 C.2.1 d (k H locs ls hP hD hS hl)
theorem J.tabV (C : Cx p l s m args meth c g A own cc nL) {dflt lo hi : Int} {offs : Array Int} {len : Nat} {x : Int32} (v : Int32) {off : Int} {tgt : Nat} (hv : x = v) (d : decode cc pc = .ok (.tableswitch dflt lo hi offs, len)) (hk : ¬ v.toInt < lo ∧ ¬ hi < v.toInt ∧ offs[(v.toInt - lo).toNat]? = some off ∧ (pc : Int) + off = (tgt : Int)) (k : J p l e R s m args below meth c g A nL cells slots Q tgt lv rest h) : J p l e R s m args below meth c g A nL cells slots Q pc lv (.int x :: rest) h := fun H locs ls hP hD hS hl => by
  subst hv
  exact lv_tableIn C.1 C.2.1 d hk.1 hk.2.1 hk.2.2.1 hk.2.2.2 (k H locs ls hP hD hS hl)
theorem J.tabD (C : Cx p l s m args meth c g A own cc nL) {dflt lo hi : Int} {offs : Array Int} {len : Nat} {x : Int32} {tgt : Nat} (cs : List Int32) (n : Nat) (hne : ∀ v ∈ cs, ¬ x = v) (d : decode cc pc = .ok (.tableswitch dflt lo hi offs, len)) (ht : (pc : Int) + dflt = (tgt : Int)) (hn : lo + n = hi + 1) (hall : ∀ j, j < n → offs[j]? = some dflt ∨ (cs.any fun v => decide (v.toInt = lo + j)) = true) (k : J p l e R s m args below meth c g A nL cells slots Q tgt lv rest h) : J p l e R s m args below meth c g A nL cells slots Q pc lv (.int x :: rest) h := fun H locs ls hP hD hS hl => by
  by_cases h1 : x.toInt < lo ∨ hi < x.toInt
  · exact lv_tableOut C.1 C.2.1 d h1 ht (k H locs ls hP hD hS hl)
  · have h2 : ¬ x.toInt < lo := fun q => h1 (Or.inl q)
    have h3 : ¬ hi < x.toInt := fun q => h1 (Or.inr q)
    have hj : (x.toInt - lo).toNat < n := by omega
    rcases hall _ hj with q | q
    · exact lv_tableIn C.1 C.2.1 d h2 h3 q ht (k H locs ls hP hD hS hl)
    · obtain ⟨v, hv, hq⟩ := List.any_eq_true.mp q
      have hq := of_decide_eq_true hq
      refine absurd (Int32.toInt_inj.mp ?_) (hne v hv)
      rw [hq]
      omega
theorem rm_ok {b n mc ms k : Nat} (h : k ≤ 40) : b + n + 1 ≤ (rmOf (b + (n + 1)) mc ms).frames ∧ 8 + (k + 11) + 64 * (b + n) ≤ (rmOf (b + (n + 1)) mc ms).locals := ⟨Nat.le_refl _, by show 8 + (k + 11) + 64 * (b + n) ≤ 64 * (b + (n + 1)); omega⟩
theorem rm_lo {b n v mc ms k : Nat} (h : k ≤ 40) (hv : v + 1 ≤ b) : v + 1 ≤ (rmOf (b + n) mc ms).frames ∧ 8 + (k + 11) + 64 * v ≤ (rmOf (b + n) mc ms).locals := ⟨by show v + 1 ≤ b + n; omega, by show 8 + (k + 11) + 64 * v ≤ 64 * (b + n); omega⟩
end MRULES
theorem kmin_code : Cond.code Lib.Math.min.name Lib.Math.min.code 2 (some .int) ∈ BIG := bg 1647 (by decide +kernel) (by decide +kernel)
theorem kmin_static : Cond.static Lib.Math.min.name ∈ BIG := bg 1646 (by decide +kernel) (by decide +kernel)
section MMIN
variable {p : Program} {l : Launch} {e : Env} {R : Room} {s : State} {m : MethodId} {args : Array Value} {below : List Frame} {meth : Method} {c : Code} {g : Gy} {A : Nat → Prop} {own : String} {cc : ByteArray} {nL : Nat} {cells slots : Nat} {Q : State → Prop} {pc : Nat} {lv : List (Nat × Value)} {st rest : List Value} {h : va_W}
theorem J.mmin (C : Cx p l s m args meth c g A own cc nL) {idx : Nat} {x y : Int32} (hl9 : Cond.methodLink own idx Lib.Math.min.name ∈ BIG) (hR : 1 ≤ R.frames ∧ (rest.map fun v => v.category).sum + 13 ≤ R.locals ∧ cells ≤ R.cells ∧ slots ≤ R.slots) (d : decode cc pc = .ok (.invokestatic idx, 3)) (k : J p l e R s m args below meth c g A nL cells slots Q (pc + 3) lv (.int (if y < x then y else x) :: rest) h) : J p l e R s m args below meth c g A nL cells slots Q pc lv (.int y :: .int x :: rest) h := fun H locs ls hP hD hS hl =>
  va_mmin C.1 C.2.1 (C.2.2.1.trans hl.1.symm) C.2.2.2.1 (C.2.2.2.2.1 _ hl9) (C.2.2.2.2.1 _ kmin_static) (C.2.2.2.2.1 _ kIn_J9) (C.2.2.2.2.1 _ kmin_code) hR.1 hR.2.1 hR.2.2.1 hR.2.2.2 d (k H locs ls hP hD hS hl)
end MMIN
