/-! TREES: a formula as a tree, its word, a step, what a step can cost -/
abbrev TT : Type := Lean.RArray Int32
def tN (a : TT) : TT := .branch 78 a (.leaf 0)
def tW : TT → List Int32
  | .leaf c => [c]
  | .branch p a b => if p = 78 then 78 :: tW a else nI p :: (tW a ++ tW b)
def tOk : TT → Prop
  | .leaf c => leafK c
  | .branch p a b => (p = 78 ∧ tOk a) ∨ ((p = 75 ∨ p = 65 ∨ p = 67) ∧ tOk a ∧ tOk b)
def tStN : TT → Option TT
  | .leaf _ => none
  | .branch q x y => some (if q = 78 then x else if q = 75 then .branch 65 (tN x) (tN y) else if q = 65 then .branch 75 (tN x) (tN y) else tN (.branch 65 (tN x) y))
def tStB (p : Nat) (a b : TT) (x y : Option TT) : Option TT := match x with
  | some a' => some (.branch p a' b)
  | none => match y with
    | some b' => some (.branch p a b')
    | none => none
def tSt : TT → Option TT
  | .leaf _ => none
  | .branch p a b => if p = 78 then tStN a else if p = 67 then some (.branch 65 (tN a) b) else tStB p a b (tSt a) (tSt b)
def tF : TT → Bool → Nat
  | .leaf _, s => bif s then 1 else 2
  | .branch p a b, s => if p = 78 then (bif s then tF a false else 2 + tF a true) else if p = 67 then (bif s then 1 + tF a false + tF b true else 3 + tF a true + tF b false) else 1 + tF a s + tF b s
def tG : TT → Bool → Nat
  | .leaf _, _ => 0
  | .branch p a b, s => if p = 78 then (bif s then tG a false else 1 + tG a true) else if p = 67 then (bif s then 1 + tG a false + tG b true else 3 + tG a true + tG b false) else (bif s then 0 else 1) + tG a s + tG b s
theorem tW_leaf (c : Int32) : tW (.leaf c) = [c] := rfl
theorem tW_N (a b : TT) : tW (.branch 78 a b) = 78 :: tW a := if_pos rfl
theorem tW_tN (a : TT) : tW (tN a) = 78 :: tW a := if_pos rfl
theorem tW_B {p : Nat} (a b : TT) (h : p ≠ 78) : tW (.branch p a b) = nI p :: (tW a ++ tW b) := if_neg h
theorem tSt_N (a b : TT) : tSt (.branch 78 a b) = tStN a := if_pos rfl
theorem tSt_C (a b : TT) : tSt (.branch 67 a b) = some (.branch 65 (tN a) b) := rfl
theorem tSt_B {p : Nat} (a b : TT) (h : p ≠ 78) (h' : p ≠ 67) : tSt (.branch p a b) = tStB p a b (tSt a) (tSt b) := by
  show (if p = 78 then _ else _) = _
  rw [if_neg h, if_neg h']
theorem tF_N (a b : TT) (s : Bool) : tF (.branch 78 a b) s = bif s then tF a false else 2 + tF a true := if_pos rfl
theorem tF_tN (a : TT) (s : Bool) : tF (tN a) s = bif s then tF a false else 2 + tF a true := if_pos rfl
theorem tF_C (a b : TT) (s : Bool) : tF (.branch 67 a b) s = bif s then 1 + tF a false + tF b true else 3 + tF a true + tF b false := rfl
theorem tF_B {p : Nat} (a b : TT) (s : Bool) (h : p ≠ 78) (h' : p ≠ 67) : tF (.branch p a b) s = 1 + tF a s + tF b s := by
  show (if p = 78 then _ else _) = _
  rw [if_neg h, if_neg h']
theorem tG_N (a b : TT) (s : Bool) : tG (.branch 78 a b) s = bif s then tG a false else 1 + tG a true := if_pos rfl
theorem tG_tN (a : TT) (s : Bool) : tG (tN a) s = bif s then tG a false else 1 + tG a true := if_pos rfl
theorem tG_C (a b : TT) (s : Bool) : tG (.branch 67 a b) s = bif s then 1 + tG a false + tG b true else 3 + tG a true + tG b false := rfl
theorem tG_B {p : Nat} (a b : TT) (s : Bool) (h : p ≠ 78) (h' : p ≠ 67) : tG (.branch p a b) s = (bif s then 0 else 1) + tG a s + tG b s := by
  show (if p = 78 then _ else _) = _
  rw [if_neg h, if_neg h']
theorem tOk_N {a : TT} (h : tOk a) (b : TT) : tOk (.branch 78 a b) := Or.inl ⟨rfl, h⟩
theorem tOk_tN {a : TT} (h : tOk a) : tOk (tN a) := Or.inl ⟨rfl, h⟩
theorem tOk_B {p : Nat} {a b : TT} (hp : p = 75 ∨ p = 65 ∨ p = 67) (h : tOk a) (h' : tOk b) : tOk (.branch p a b) := Or.inr ⟨hp, h, h'⟩
/-- a tree's kinds -/
theorem tOk_c {p : Nat} {a b : TT} (h : tOk (.branch p a b)) : (p = 78 ∧ tOk a) ∨ (p = 67 ∧ tOk a ∧ tOk b) ∨ ((p = 75 ∨ p = 65) ∧ tOk a ∧ tOk b) := by
  rcases h with h | ⟨h | h | h, h1, h2⟩
  · exact Or.inl h
  · exact Or.inr (Or.inr ⟨Or.inl h, h1, h2⟩)
  · exact Or.inr (Or.inr ⟨Or.inr h, h1, h2⟩)
  · exact Or.inr (Or.inl ⟨h, h1, h2⟩)
theorem tW_kinds : ∀ {t : TT}, tOk t → ∀ c ∈ tW t, c ∈ kinds
  | .leaf c, h, d, hd => by
    rw [tW_leaf, List.mem_singleton] at hd
    subst hd
    have h : leafK d := h
    rcases h with k | k | k | k | k | k <;> rw [k] <;> decide
  | .branch p a b, h, d, hd => by
    rcases h with ⟨rfl, h⟩ | ⟨hp, h1, h2⟩
    · rw [tW_N] at hd
      rcases List.mem_cons.mp hd with rfl | hd
      · decide
      · exact tW_kinds h d hd
    · rw [tW_B a b (by omega)] at hd
      rcases List.mem_cons.mp hd with rfl | hd
      · rcases hp with rfl | rfl | rfl <;> decide
      · rcases List.mem_append.mp hd with hd | hd
        · exact tW_kinds h1 d hd
        · exact tW_kinds h2 d hd
theorem tW_pos : ∀ (t : TT), 0 < (tW t).length
  | .leaf _ => Nat.one_pos
  | .branch p a b => by
    by_cases h : p = 78
    · subst h; rw [tW_N]; exact Nat.succ_pos _
    · rw [tW_B a b h]; exact Nat.succ_pos _
theorem tF_bd : ∀ {t : TT}, tOk t → (tW t).length ≤ tF t true ∧ (tW t).length + 1 ≤ tF t false ∧ tF t true + 1 ≤ 2 * (tW t).length ∧ tF t false ≤ 2 * (tW t).length
  | .leaf c, _ => ⟨Nat.le_refl 1, Nat.le_refl 2, Nat.le_refl 2, Nat.le_refl 2⟩
  | .branch p a b, h => by
    rcases tOk_c h with ⟨rfl, ha⟩ | ⟨rfl, h1, h2⟩ | ⟨hp, h1, h2⟩
    · have := tF_bd ha
      rw [tF_N, tF_N, tW_N, List.length_cons]
      simp only [cond_true, cond_false]
      omega
    · have i1 := tF_bd h1
      have i2 := tF_bd h2
      rw [tF_C, tF_C, tW_B a b (by decide), List.length_cons, List.length_append]
      simp only [cond_true, cond_false]
      omega
    · have i1 := tF_bd h1
      have i2 := tF_bd h2
      rw [tF_B a b _ (by omega) (by omega), tF_B a b _ (by omega) (by omega), tW_B a b (by omega), List.length_cons, List.length_append]
      omega
theorem tG_bd : ∀ {t : TT}, tOk t → ∀ s, tG t s ≤ 3 * (tW t).length
  | .leaf c, _, _ => Nat.zero_le _
  | .branch p a b, h, s => by
    rcases tOk_c h with ⟨rfl, ha⟩ | ⟨rfl, h1, h2⟩ | ⟨hp, h1, h2⟩
    · have i1 := tG_bd ha true
      have i2 := tG_bd ha false
      rw [tG_N, tW_N, List.length_cons]
      cases s <;> simp only [cond_true, cond_false] <;> omega
    · have i1 := tG_bd h1 true
      have i2 := tG_bd h1 false
      have i3 := tG_bd h2 true
      have i4 := tG_bd h2 false
      rw [tG_C, tW_B a b (by decide), List.length_cons, List.length_append]
      cases s <;> simp only [cond_true, cond_false] <;> omega
    · have i1 := tG_bd h1 s
      have i2 := tG_bd h2 s
      rw [tG_B a b _ (by omega) (by omega), tW_B a b (by omega), List.length_cons, List.length_append]
      cases s <;> simp only [cond_true, cond_false] <;> omega
/-- a step keeps the tree good, its lengths bounded, and brings it nearer to the end -/
theorem tSt_ok : ∀ {t t' : TT}, tOk t → tSt t = some t' → tOk t' ∧ tF t' true ≤ tF t true ∧ tG t' true < tG t true
  | .leaf c, _, _, e => by cases e
  | .branch p a b, t', h, e => by
    rcases tOk_c h with ⟨rfl, ha⟩ | ⟨rfl, h1, h2⟩ | ⟨hp, h1, h2⟩
    · rw [tSt_N] at e
      cases a with
      | leaf c => cases e
      | branch q x y =>
        have e : some _ = some t' := e
        rcases tOk_c ha with ⟨rfl, hx⟩ | ⟨rfl, h1, h2⟩ | ⟨rfl | rfl, h1, h2⟩
        · rw [if_pos rfl] at e
          cases e
          rw [tF_N, tF_N, tG_N, tG_N]
          refine ⟨hx, ?_, ?_⟩ <;> simp only [cond_true, cond_false] <;> omega
        · rw [if_neg (by decide), if_neg (by decide), if_neg (by decide)] at e
          cases e
          rw [tF_N, tF_C, tG_N, tG_C, tF_tN, tG_tN, tF_B _ _ _ (by decide) (by decide), tG_B _ _ _ (by decide) (by decide), tF_tN, tG_tN]
          refine ⟨tOk_tN (tOk_B (by decide) (tOk_tN h1) h2), ?_, ?_⟩ <;> simp only [cond_true, cond_false] <;> omega
        · rw [if_neg (by decide), if_pos rfl] at e
          cases e
          rw [tF_N, tG_N, tF_B _ _ _ (by decide) (by decide), tG_B _ _ _ (by decide) (by decide), tF_B _ _ _ (by decide) (by decide), tG_B _ _ _ (by decide) (by decide), tF_tN, tG_tN, tF_tN, tG_tN]
          refine ⟨tOk_B (by decide) (tOk_tN h1) (tOk_tN h2), ?_, ?_⟩ <;> simp only [cond_true, cond_false] <;> omega
        · rw [if_neg (by decide), if_neg (by decide), if_pos rfl] at e
          cases e
          rw [tF_N, tG_N, tF_B _ _ _ (by decide) (by decide), tG_B _ _ _ (by decide) (by decide), tF_B _ _ _ (by decide) (by decide), tG_B _ _ _ (by decide) (by decide), tF_tN, tG_tN, tF_tN, tG_tN]
          refine ⟨tOk_B (by decide) (tOk_tN h1) (tOk_tN h2), ?_, ?_⟩ <;> simp only [cond_true, cond_false] <;> omega
    · rw [tSt_C] at e
      cases e
      rw [tF_C, tG_C, tF_B _ _ _ (by decide) (by decide), tG_B _ _ _ (by decide) (by decide), tF_tN, tG_tN]
      refine ⟨tOk_B (by decide) (tOk_tN h1) h2, ?_, ?_⟩ <;> simp only [cond_true, cond_false] <;> omega
    · rw [tSt_B a b (by omega) (by omega)] at e
      cases ea : tSt a with
      | some a' =>
        rw [ea] at e
        have e : some (.branch p a' b) = some t' := e
        cases e
        obtain ⟨i1, i2, i3⟩ := tSt_ok h1 ea
        rw [tF_B _ _ _ (by omega) (by omega), tG_B _ _ _ (by omega) (by omega), tF_B _ _ _ (by omega) (by omega), tG_B _ _ _ (by omega) (by omega)]
        refine ⟨tOk_B (by omega) i1 h2, ?_, ?_⟩ <;> omega
      | none =>
        cases eb : tSt b with
        | some b' =>
          rw [ea, eb] at e
          have e : some (.branch p a b') = some t' := e
          cases e
          obtain ⟨i1, i2, i3⟩ := tSt_ok h2 eb
          rw [tF_B _ _ _ (by omega) (by omega), tG_B _ _ _ (by omega) (by omega), tF_B _ _ _ (by omega) (by omega), tG_B _ _ _ (by omega) (by omega)]
          refine ⟨tOk_B (by omega) h1 i1, ?_, ?_⟩ <;> omega
        | none =>
          rw [ea, eb] at e
          cases e
/-- the tree of a known formula -/
theorem sw_tree {τ : MS} : ∀ {h f : Nat} {w : List Int32}, Sw τ h f w → ∃ t, tOk t ∧ tW t = w
  | 0, _, _, q => q.elim
  | h + 1, f, w, q => by
    rcases q with ⟨k, -, -, rfl⟩ | ⟨a, u, k, -, -, -, z, rfl⟩ | ⟨a, b, u, v, k, -, -, -, -, z, z', rfl⟩
    · exact ⟨.leaf (Kn τ f), k, rfl⟩
    · obtain ⟨t, h1, rfl⟩ := sw_tree z
      exact ⟨tN t, tOk_tN h1, by rw [tW_tN, k]⟩
    · obtain ⟨t, h1, rfl⟩ := sw_tree z
      obtain ⟨t', h2, rfl⟩ := sw_tree z'
      rcases k with k | k | k
      · exact ⟨.branch 75 t t', tOk_B (by decide) h1 h2, by rw [tW_B _ _ (by decide), k]; rfl⟩
      · exact ⟨.branch 65 t t', tOk_B (by decide) h1 h2, by rw [tW_B _ _ (by decide), k]; rfl⟩
      · exact ⟨.branch 67 t t', tOk_B (by decide) h1 h2, by rw [tW_B _ _ (by decide), k]; rfl⟩
/-- the first k steps at most: their number, the tree behind them -/
def tRun : Nat → TT → Nat × TT
  | 0, t => (0, t)
  | k + 1, t => match tSt t with
    | none => (0, t)
    | some t' => ((tRun k t').1 + 1, (tRun k t').2)
theorem tRun_ok : ∀ (k : Nat) {t : TT}, tOk t → tOk (tRun k t).2 ∧ tF (tRun k t).2 true ≤ tF t true
  | 0, _, h => ⟨h, Nat.le_refl _⟩
  | k + 1, t, h => by
    cases e : tSt t with
    | none =>
      have : tRun (k + 1) t = (0, t) := by show (match tSt t with | none => (0, t) | some t' => ((tRun k t').1 + 1, (tRun k t').2)) = _; rw [e]
      rw [this]
      exact ⟨h, Nat.le_refl _⟩
    | some t' =>
      have : tRun (k + 1) t = ((tRun k t').1 + 1, (tRun k t').2) := by show (match tSt t with | none => (0, t) | some t' => ((tRun k t').1 + 1, (tRun k t').2)) = _; rw [e]
      rw [this]
      obtain ⟨i1, i2, -⟩ := tSt_ok h e
      obtain ⟨j1, j2⟩ := tRun_ok k i1
      exact ⟨j1, Nat.le_trans j2 i2⟩
/-- a word stands at a place of an array -/
def Occ (A : Nat → Int32) : Nat → List Int32 → Prop
  | _, [] => True
  | i, c :: u => A i = c ∧ Occ A (i + 1) u
theorem occ_app {A : Nat → Int32} : ∀ {u v : List Int32} {i : Nat}, Occ A i (u ++ v) ↔ Occ A i u ∧ Occ A (i + u.length) v
  | [], v, i => by
    show Occ A i v ↔ True ∧ Occ A (i + 0) v
    rw [Nat.add_zero, true_and]
  | c :: u, v, i => by
    show (A i = c ∧ Occ A (i + 1) (u ++ v)) ↔ (A i = c ∧ Occ A (i + 1) u) ∧ Occ A (i + (u.length + 1)) v
    rw [occ_app, and_assoc, show i + 1 + u.length = i + (u.length + 1) by omega]
theorem occ_iff {A : Nat → Int32} : ∀ {u : List Int32} {i : Nat}, Occ A i u ↔ ∀ j, j < u.length → A (i + j) = u.getD j 0
  | [], i => ⟨fun _ j hj => absurd hj (Nat.not_lt_zero j), fun _ => trivial⟩
  | c :: u, i => by
    show (A i = c ∧ Occ A (i + 1) u) ↔ _
    rw [occ_iff]
    constructor
    · rintro ⟨h1, h2⟩ j hj
      cases j with
      | zero => exact h1
      | succ j =>
        rw [show i + (j + 1) = i + 1 + j by omega]
        exact h2 j (Nat.lt_of_succ_lt_succ hj)
    · intro h
      refine ⟨h 0 (Nat.succ_pos _), fun j hj => ?_⟩
      rw [show i + 1 + j = i + (j + 1) by omega]
      exact h (j + 1) (Nat.succ_lt_succ hj)
theorem occ_ext {A B : Nat → Int32} {i : Nat} {u : List Int32} (h : Occ A i u) (e : ∀ j, i ≤ j → j < i + u.length → B j = A j) : Occ B i u := by
  rw [occ_iff] at h ⊢
  intro j hj
  rw [e (i + j) (by omega) (by omega)]
  exact h j hj
theorem occ_mv {A B : Nat → Int32} {i k : Nat} {u : List Int32} (h : Occ A i u) (e : ∀ j, j < u.length → B (k + j) = A (i + j)) : Occ B k u := by
  rw [occ_iff] at h ⊢
  intro j hj
  rw [e j hj]
  exact h j hj
theorem TxS.occ {w : List Int32} {σ : DS} (h : TxS w σ) : Occ (σ.2 29) 0 w := occ_iff.mpr fun j hj => by rw [Nat.zero_add]; exact h.2 j hj
theorem TxT.occ {w : List Int32} {τ : MS} (h : TxT w τ) : Occ (τ.2.1 15) 0 w := occ_iff.mpr fun j hj => by rw [Nat.zero_add]; exact h.2 j hj
theorem TxS.mk {w : List Int32} {σ : DS} (h : σ.1 11 = nI w.length) (h2 : Occ (σ.2 29) 0 w) : TxS w σ := ⟨h, fun j hj => by have := occ_iff.mp h2 j hj; rwa [Nat.zero_add] at this⟩
theorem TxT.mk {w : List Int32} {τ : MS} (h : τ.1 6 = nI w.length) (h2 : Occ (τ.2.1 15) 0 w) : TxT w τ := ⟨h, fun j hj => by have := occ_iff.mp h2 j hj; rwa [Nat.zero_add] at this⟩
