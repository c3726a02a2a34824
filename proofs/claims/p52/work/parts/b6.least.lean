/-! DISTANCES: what keeps the rules -/
def dSl (D : Nat → Nat) : List Nat → Nat
  | [] => 0
  | s :: u => D s + dSl D u
abbrev Rul : Type := Nat × List Nat
def dCl (V : Nat → Prop) (ru : Nat → List Rul) (D : Nat → Nat) : Prop := ∀ f, f < 151 → V f → ∀ x ∈ ru f, D x.1 ≤ 1 + dSl D x.2
def dLe (D E : Nat → Nat) : Prop := ∀ v, v < 151 → D v ≤ E v
def dOk (V : Nat → Prop) (ru : Nat → List Rul) : Prop := ∀ f, f < 151 → V f → ∀ x ∈ ru f, x.1 < 151 ∧ ∀ s ∈ x.2, s < 151
/-- D has become D' by rules; those of X have been applied -/
def dStp (V : Nat → Prop) (ru : Nat → List Rul) (D D' : Nat → Nat) (X : List Rul) : Prop := dLe D' D ∧ (∀ E, dCl V ru E → dLe E D → dLe E D') ∧ ∀ x ∈ X, D' x.1 ≤ 1 + dSl D x.2
def dRx (D : Nat → Nat) (t c : Nat) : Nat → Nat := fun v => if v = t then min (D t) c else D v
/-- nothing that keeps the rules and starts below I is greater -/
def dLb (V : Nat → Prop) (ru : Nat → List Rul) (I D : Nat → Nat) : Prop := ∀ E, dCl V ru E → dLe E I → dLe E D
theorem dLe.rf {D : Nat → Nat} : dLe D D := fun _ _ => Nat.le_refl _
theorem dLe.tr {D E G : Nat → Nat} (h1 : dLe D E) (h2 : dLe E G) : dLe D G := fun v hv => Nat.le_trans (h1 v hv) (h2 v hv)
theorem dSl_mono {D E : Nat → Nat} (h : dLe D E) : ∀ {u : List Nat}, (∀ s ∈ u, s < 151) → dSl D u ≤ dSl E u
  | [], _ => Nat.le_refl 0
  | s :: u, hu => Nat.add_le_add (h s (hu s (List.mem_cons_self ..))) (dSl_mono h fun x hx => hu x (List.mem_cons_of_mem _ hx))
theorem dSl_mem {D : Nat → Nat} : ∀ {u : List Nat} {s : Nat}, s ∈ u → D s ≤ dSl D u
  | [], s, h => absurd h (List.not_mem_nil)
  | t :: u, s, h => by
    rcases List.mem_cons.mp h with rfl | h
    · exact Nat.le_add_right _ _
    · exact Nat.le_trans (dSl_mem h) (Nat.le_add_left _ _)
theorem dSl_eq {D E : Nat → Nat} : ∀ {u : List Nat}, (∀ s ∈ u, D s = E s) → dSl D u = dSl E u
  | [], _ => rfl
  | s :: u, hu => by
    show D s + dSl D u = E s + dSl E u
    rw [hu s (List.mem_cons_self ..), dSl_eq fun x hx => hu x (List.mem_cons_of_mem _ hx)]
section LEAST
variable {V : Nat → Prop} {ru : Nat → List Rul}
theorem dStp.rf {D : Nat → Nat} : dStp V ru D D [] := ⟨dLe.rf, fun _ _ h => h, fun x hx => absurd hx (List.not_mem_nil)⟩
theorem dStp.tr {D D1 D2 : Nat → Nat} {X Y : List Rul} (h1 : dStp V ru D D1 X) (h2 : dStp V ru D1 D2 Y) (hX : ∀ x ∈ X, x.1 < 151) (hY : ∀ y ∈ Y, ∀ s ∈ y.2, s < 151) : dStp V ru D D2 (X ++ Y) := by
  refine ⟨h2.1.tr h1.1, fun E hE h => h2.2.1 E hE (h1.2.1 E hE h), fun x hx => ?_⟩
  rcases List.mem_append.mp hx with hx | hx
  · exact Nat.le_trans (h2.1 x.1 (hX x hx)) (h1.2.2 x hx)
  · exact Nat.le_trans (h2.2.2 x hx) (Nat.add_le_add_left (dSl_mono h1.1 (hY x hx)) 1)
theorem dStp.sub {D D1 : Nat → Nat} {X Y : List Rul} (h : dStp V ru D D1 X) (hY : ∀ y ∈ Y, y ∈ X) : dStp V ru D D1 Y := ⟨h.1, h.2.1, fun y hy => h.2.2 y (hY y hy)⟩
theorem dRx_le {D : Nat → Nat} {t c : Nat} : dLe (dRx D t c) D := fun v _ => by
  unfold dRx
  by_cases h : v = t
  · subst h; rw [if_pos rfl]; exact Nat.min_le_left _ _
  · rw [if_neg h]; exact Nat.le_refl _
theorem dRx_t {D : Nat → Nat} {t c : Nat} : dRx D t c t = min (D t) c := if_pos rfl
theorem dRx_ne {D : Nat → Nat} {t c v : Nat} (h : v ≠ t) : dRx D t c v = D v := if_neg h
theorem dRx_id {D : Nat → Nat} {t c : Nat} (h : D t ≤ c) : dRx D t c = D := by
  funext v
  unfold dRx
  by_cases hv : v = t
  · subst hv; rw [if_pos rfl]; exact Nat.min_eq_left h
  · rw [if_neg hv]
theorem dStp.rx (hO : dOk V ru) {D : Nat → Nat} {f : Nat} (hf : f < 151) (hV : V f) {x : Rul} (hx : x ∈ ru f) : dStp V ru D (dRx D x.1 (1 + dSl D x.2)) [x] := by
  refine ⟨dRx_le, fun E hE h v hv => ?_, fun y hy => ?_⟩
  · by_cases hvx : v = x.1
    · subst hvx
      rw [dRx_t]
      exact Nat.le_min.mpr ⟨h _ hv, Nat.le_trans (hE f hf hV x hx) (Nat.add_le_add_left (dSl_mono h (hO f hf hV x hx).2) 1)⟩
    · rw [dRx_ne hvx]; exact h v hv
  · rw [List.mem_singleton] at hy
    subst hy
    rw [dRx_t]
    exact Nat.min_le_right _ _
theorem dLb.stp {I D D' : Nat → Nat} {X : List Rul} (h : dLb V ru I D) (hs : dStp V ru D D' X) : dLb V ru I D' := fun E hE hI => hs.2.1 E hE (h E hE hI)
/-- what keeps the rules, starts below I and is greatest, is one -/
theorem least_uni {I D E : Nat → Nat} (h1 : dCl V ru D) (h2 : dLe D I) (h3 : dLb V ru I D) (h4 : dCl V ru E) (h5 : dLe E I) (h6 : dLb V ru I E) : ∀ v, v < 151 → D v = E v := fun v hv => Nat.le_antisymm (h6 D h1 h2 v hv) (h3 E h4 h5 v hv)
/-- one that isn't settled: a rule whose sources are settled settles it or another one -/
theorem settle {I D M : Nat → Nat} (hO : dOk V ru) (hM : dCl V ru M) (hMI : dLe M I) (hMb : dLb V ru I M) (hDI : dLe D I) (hDb : dLb V ru I D) : ∀ (k v : Nat), v < 151 → D v ≠ M v → M v ≤ k → ∃ v f x, v < 151 ∧ D v ≠ M v ∧ f < 151 ∧ V f ∧ x ∈ ru f ∧ x.1 = v ∧ 1 + dSl D x.2 = M v := by
  intro k
  induction k with
  | zero =>
    intro v hv hne hk
    exfalso
    have hlt : M v < D v := Nat.lt_of_le_of_ne (hDb M hM hMI v hv) (fun h => hne h.symm)
    -- raise M at v
    have hE : dCl V ru (fun u => if u = v then M v + 1 else M u) := fun f hf hV x hx => by
      have hmono : dSl M x.2 ≤ dSl (fun u => if u = v then M v + 1 else M u) x.2 := dSl_mono (fun u _ => by
        show M u ≤ if u = v then M v + 1 else M u
        by_cases h : u = v
        · subst h; rw [if_pos rfl]; omega
        · rw [if_neg h]; exact Nat.le_refl _) (hO f hf hV x hx).2
      have h0 := hM f hf hV x hx
      show (if x.1 = v then M v + 1 else M x.1) ≤ _
      by_cases h : x.1 = v
      · rw [if_pos h]; omega
      · rw [if_neg h]; omega
    have := hMb _ hE (fun u hu => by
      show (if u = v then M v + 1 else M u) ≤ I u
      by_cases h : u = v
      · subst h; rw [if_pos rfl]; have := hDI u hu; omega
      · rw [if_neg h]; exact hMI u hu) v hv
    have : (if v = v then M v + 1 else M v) ≤ M v := this
    rw [if_pos rfl] at this
    omega
  | succ k ih =>
    intro v hv hne hk
    have hlt : M v < D v := Nat.lt_of_le_of_ne (hDb M hM hMI v hv) (fun h => hne h.symm)
    by_cases hr : ∃ f x, f < 151 ∧ V f ∧ x ∈ ru f ∧ x.1 = v ∧ 1 + dSl M x.2 = M v
    · obtain ⟨f, x, hf, hV, hx, ex, e⟩ := hr
      by_cases hs : ∀ s ∈ x.2, D s = M s
      · exact ⟨v, f, x, hv, hne, hf, hV, hx, ex, by rw [dSl_eq hs]; exact e⟩
      · have : ∃ s, s ∈ x.2 ∧ D s ≠ M s := Classical.byContradiction fun hc => hs fun s hsx => Classical.byContradiction fun h => hc ⟨s, hsx, h⟩
        obtain ⟨s, hsx, hsn⟩ := this
        have := dSl_mem (D := M) hsx
        exact ih s ((hO f hf hV x hx).2 s hsx) hsn (by omega)
    · exfalso
      have hE : dCl V ru (fun u => if u = v then M v + 1 else M u) := fun f hf hV x hx => by
        have hmono : dSl M x.2 ≤ dSl (fun u => if u = v then M v + 1 else M u) x.2 := dSl_mono (fun u _ => by
          show M u ≤ if u = v then M v + 1 else M u
          by_cases h : u = v
          · subst h; rw [if_pos rfl]; omega
          · rw [if_neg h]; exact Nat.le_refl _) (hO f hf hV x hx).2
        have h0 := hM f hf hV x hx
        show (if x.1 = v then M v + 1 else M x.1) ≤ _
        by_cases h : x.1 = v
        · rw [if_pos h]
          have : 1 + dSl M x.2 ≠ M v := fun e => hr ⟨f, x, hf, hV, hx, h, e⟩
          rw [h] at h0
          omega
        · rw [if_neg h]; omega
      have := hMb _ hE (fun u hu => by
        show (if u = v then M v + 1 else M u) ≤ I u
        by_cases h : u = v
        · subst h; rw [if_pos rfl]; have := hDI u hu; omega
        · rw [if_neg h]; exact hMI u hu) v hv
      have : (if v = v then M v + 1 else M v) ≤ M v := this
      rw [if_pos rfl] at this
      omega
/-- sums over the places -/
def sm : Nat → (Nat → Nat) → Nat
  | 0, _ => 0
  | k + 1, g => sm k g + g k
theorem sm_le {g h : Nat → Nat} : ∀ (k : Nat), (∀ v, v < k → g v ≤ h v) → sm k g ≤ sm k h
  | 0, _ => Nat.le_refl 0
  | k + 1, H => Nat.add_le_add (sm_le k fun v hv => H v (Nat.lt_succ_of_lt hv)) (H k (Nat.lt_succ_self k))
theorem sm_lt {g h : Nat → Nat} : ∀ (k : Nat), (∀ v, v < k → g v ≤ h v) → (∃ v, v < k ∧ g v < h v) → sm k g < sm k h
  | 0, _, ⟨v, hv, _⟩ => absurd hv (Nat.not_lt_zero v)
  | k + 1, H, ⟨v, hv, hlt⟩ => by
    show sm k g + g k < sm k h + h k
    have h1 := H k (Nat.lt_succ_self k)
    by_cases hk : v = k
    · subst hk
      have := sm_le v fun u hu => H u (Nat.lt_succ_of_lt hu)
      omega
    · have := sm_lt k (fun u hu => H u (Nat.lt_succ_of_lt hu)) ⟨v, by omega, hlt⟩
      omega
theorem sm_eq {g h : Nat → Nat} : ∀ (k : Nat), (∀ v, v < k → g v = h v) → sm k g = sm k h
  | 0, _ => rfl
  | k + 1, H => by
    show sm k g + g k = sm k h + h k
    rw [sm_eq k fun v hv => H v (Nat.lt_succ_of_lt hv), H k (Nat.lt_succ_self k)]
theorem sm_c (c : Nat) : ∀ k, sm k (fun _ => c) = k * c
  | 0 => (Nat.zero_mul c).symm
  | k + 1 => by
    show sm k (fun _ => c) + c = (k + 1) * c
    rw [sm_c c k, Nat.add_mul, Nat.one_mul]
/-- how many aren't settled -/
def uns (D M : Nat → Nat) : Nat := sm 151 (fun v => if D v = M v then 0 else 1)
theorem uns_le (D M : Nat → Nat) : uns D M ≤ 151 := by
  have := sm_le (g := fun v => if D v = M v then 0 else 1) (h := fun _ => 1) 151 fun v _ => by
    show (if D v = M v then 0 else 1) ≤ 1
    split <;> omega
  rw [sm_c] at this
  exact this
theorem uns_0 {D M : Nat → Nat} (h : uns D M = 0) : ∀ v, v < 151 → D v = M v := fun v hv => Classical.byContradiction fun hne => by
  have := sm_lt (g := fun _ => 0) (h := fun v => if D v = M v then 0 else 1) 151 (fun u _ => Nat.zero_le _) ⟨v, hv, by show 0 < if D v = M v then 0 else 1; rw [if_neg hne]; exact Nat.one_pos⟩
  rw [sm_c] at this
  unfold uns at h
  omega
/-- a round settles one more -/
theorem uns_lt {I D D' M : Nat → Nat} {X : List Rul} (hO : dOk V ru) (hM : dCl V ru M) (hMI : dLe M I) (hMb : dLb V ru I M) (hDI : dLe D I) (hDb : dLb V ru I D) (hs : dStp V ru D D' X) (hX : ∀ f, f < 151 → V f → ∀ x ∈ ru f, x ∈ X) : uns D' M ≤ uns D M - 1 := by
  have hDM := hDb M hM hMI
  have hDM' := hDb.stp hs M hM hMI
  have keep : ∀ v, v < 151 → D v = M v → D' v = M v := fun v hv e => Nat.le_antisymm (Nat.le_trans (hs.1 v hv) (Nat.le_of_eq e)) (hDM' v hv)
  have le1 : ∀ v, v < 151 → (if D' v = M v then 0 else 1) ≤ (if D v = M v then 0 else 1 : Nat) := fun v hv => by
    by_cases h : D v = M v
    · rw [if_pos h, if_pos (keep v hv h)]; exact Nat.le_refl _
    · rw [if_neg h]; split <;> omega
  by_cases h0 : uns D M = 0
  · have := sm_le 151 le1
    unfold uns at h0 ⊢
    omega
  · have : ∃ v, v < 151 ∧ D v ≠ M v := Classical.byContradiction fun hc => h0 (by
      have := sm_eq (g := fun v => if D v = M v then 0 else 1) (h := fun _ => 0) 151 fun v hv => by
        show (if D v = M v then 0 else 1) = 0
        rw [if_pos (Classical.byContradiction fun h => hc ⟨v, hv, h⟩)]
      unfold uns
      rw [this, sm_c])
    obtain ⟨v, hv, hne⟩ := this
    obtain ⟨v, f, x, hv, hne, hf, hV, hx, rfl, e⟩ := settle hO hM hMI hMb hDI hDb (M v) v hv hne (Nat.le_refl _)
    have h1 := hs.2.2 x (hX f hf hV x hx)
    have h2 := hDM' x.1 hv
    have := sm_lt 151 le1 ⟨x.1, hv, by rw [if_pos (by omega), if_neg hne]; exact Nat.one_pos⟩
    unfold uns
    omega
end LEAST
