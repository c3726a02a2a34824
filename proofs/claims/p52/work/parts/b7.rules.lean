/-! DISTANCES: the rules; the class's offers -/
def ec (c : Nat) : Int32 := if c < 10000 then nI c else -1
def SDd (I : Nat → Int32) (D : Nat → Nat) : Prop := ∀ v, v < 151 → I v = ec (D v) ∧ D v ≤ 10000
def ruB (τ : MS) (F f a b : Nat) : List Rul := if Kn τ f = 75 then [(f, [a, b]), (a, [f]), (b, [f])] else if Kn τ f = 65 then [(f, [a]), (f, [b])] else if Kn τ f = 67 then [(b, [f, a])] else if Kn τ f = 78 then (F, [f, a]) :: (if Kn τ a = 78 then [((Lf τ a).toNatClampNeg, [f])] else []) else []
def ruT (n : Nat) (τ : MS) (F f : Nat) : List Rul := (f, [F]) :: (if f < n then ruB τ F f (Lf τ f).toNatClampNeg (Rt τ f).toNatClampNeg else [])
/-- only what a search writes has changed -/
def SFs (σ σ' : DS) : Prop := (∀ k, k ≤ 5 → σ'.1 k = σ.1 k) ∧ ∀ k, k ≤ 25 → σ'.2 k = σ.2 k
theorem ec_lt {c : Nat} (h : c < 10000) : ec c = nI c := if_pos h
theorem ec_ge {c : Nat} (h : ¬ c < 10000) : ec c = -1 := if_neg h
section RULES
variable {n m q e : Nat} {σ : DS} {τ : MS}
theorem SFs.rf : SFs σ σ := ⟨fun _ _ => rfl, fun _ _ => rfl⟩
theorem SFs.tr {σ1 σ2 : DS} (h1 : SFs σ σ1) (h2 : SFs σ1 σ2) : SFs σ σ2 := ⟨fun k hk => (h2.1 k hk).trans (h1.1 k hk), fun k hk => (h2.2 k hk).trans (h1.2 k hk)⟩
theorem SFs.fw {σ' : DS} (h : SFs σ σ') (hF : FW n σ τ) : FW n σ' τ := hF.scr (h.1 1 (by decide)) (fun k hk => h.2 k (by omega)) rfl (fun _ _ => rfl)
theorem SFs.rw9 {σ' : DS} (h : SFs σ σ') (hR : RW n m q e σ τ) : RW n m q e σ' τ := hR.of (Nat.le_refl n) ⟨fun k _ h2 => h.1 k h2, fun k _ h2 => h.2 k (by omega), fun k _ h2 => h.2 k (by omega)⟩ PPt.rf
theorem ruT_0 {F f : Nat} (h : ¬ f < n) : ruT n τ F f = [(f, [F])] := by
  unfold ruT
  rw [if_neg h]
theorem ruT_l {F f : Nat} (h : leafK (Kn τ f)) : ruT n τ F f = [(f, [F])] := by
  unfold ruT ruB
  have : Kn τ f ≠ 75 ∧ Kn τ f ≠ 65 ∧ Kn τ f ≠ 67 ∧ Kn τ f ≠ 78 := by rcases h with k | k | k | k | k | k <;> rw [k] <;> decide
  rw [if_neg this.1, if_neg this.2.1, if_neg this.2.2.1, if_neg this.2.2.2]
  split <;> rfl
theorem ruT_K {F f a b : Nat} (hf : f < n) (hk : Kn τ f = 75) (ea : Lf τ f = nI a) (eb : Rt τ f = nI b) (ha : a < 150) (hb : b < 150) : ruT n τ F f = [(f, [F]), (f, [a, b]), (a, [f]), (b, [f])] := by
  unfold ruT ruB
  rw [if_pos hf, if_pos hk, ea, eb, ni_cl (by omega), ni_cl (by omega)]
theorem ruT_A {F f a b : Nat} (hf : f < n) (hk : Kn τ f = 65) (ea : Lf τ f = nI a) (eb : Rt τ f = nI b) (ha : a < 150) (hb : b < 150) : ruT n τ F f = [(f, [F]), (f, [a]), (f, [b])] := by
  unfold ruT ruB
  rw [if_pos hf, hk, if_neg (by decide), if_pos rfl, ea, eb, ni_cl (by omega), ni_cl (by omega)]
theorem ruT_C {F f a b : Nat} (hf : f < n) (hk : Kn τ f = 67) (ea : Lf τ f = nI a) (eb : Rt τ f = nI b) (ha : a < 150) (hb : b < 150) : ruT n τ F f = [(f, [F]), (b, [f, a])] := by
  unfold ruT ruB
  rw [if_pos hf, hk, if_neg (by decide), if_neg (by decide), if_pos rfl, ea, eb, ni_cl (by omega), ni_cl (by omega)]
theorem ruT_N {F f a : Nat} (hf : f < n) (hk : Kn τ f = 78) (ea : Lf τ f = nI a) (ha : a < 150) (hn : ¬ Kn τ a = 78) : ruT n τ F f = [(f, [F]), (F, [f, a])] := by
  unfold ruT ruB
  rw [if_pos hf, hk, if_neg (by decide), if_neg (by decide), if_neg (by decide), if_pos rfl, ea, ni_cl (by omega), if_neg hn]
theorem ruT_NN {F f a c : Nat} (hf : f < n) (hk : Kn τ f = 78) (ea : Lf τ f = nI a) (ha : a < 150) (hn : Kn τ a = 78) (ec : Lf τ a = nI c) (hc : c < 150) : ruT n τ F f = [(f, [F]), (F, [f, a]), (c, [f])] := by
  unfold ruT ruB
  rw [if_pos hf, hk, if_neg (by decide), if_neg (by decide), if_neg (by decide), if_pos rfl, ea, ni_cl (by omega), if_pos hn, ec, ni_cl (by omega)]
/-- what a formula's rules are, by its kind -/
theorem ru_cases (hF : FW n σ τ) (F f : Nat) : (¬ f < n ∧ ruT n τ F f = [(f, [F])]) ∨ (f < n ∧ leafK (Kn τ f) ∧ ruT n τ F f = [(f, [F])]) ∨ (∃ a b, f < n ∧ a < n ∧ b < n ∧ Lf τ f = nI a ∧ Rt τ f = nI b ∧ ((Kn τ f = 75 ∧ ruT n τ F f = [(f, [F]), (f, [a, b]), (a, [f]), (b, [f])]) ∨ (Kn τ f = 65 ∧ ruT n τ F f = [(f, [F]), (f, [a]), (f, [b])]) ∨ (Kn τ f = 67 ∧ ruT n τ F f = [(f, [F]), (b, [f, a])]))) ∨ (∃ a, f < n ∧ a < n ∧ Kn τ f = 78 ∧ Lf τ f = nI a ∧ ((¬ Kn τ a = 78 ∧ ruT n τ F f = [(f, [F]), (F, [f, a])]) ∨ (∃ c, c < n ∧ Kn τ a = 78 ∧ Lf τ a = nI c ∧ ruT n τ F f = [(f, [F]), (F, [f, a]), (c, [f])]))) := by
  have hle := hF.le
  by_cases hf : f < n
  · rcases (hF.ent hf).sh with ⟨k, -, -⟩ | ⟨a, k, ha, ea, -⟩ | ⟨a, b, k, ha, hb, ea, eb⟩
    · exact Or.inr (Or.inl ⟨hf, k, ruT_l k⟩)
    · refine Or.inr (Or.inr (Or.inr ⟨a, hf, by omega, k, ea, ?_⟩))
      by_cases hn : Kn τ a = 78
      · obtain ⟨c, hc, ec, -⟩ := neg_of (hF.ent (show a < n by omega)) hn
        exact Or.inr ⟨c, by omega, hn, ec, ruT_NN hf k ea (by omega) hn ec (by omega)⟩
      · exact Or.inl ⟨hn, ruT_N hf k ea (by omega) hn⟩
    · refine Or.inr (Or.inr (Or.inl ⟨a, b, hf, by omega, by omega, ea, eb, ?_⟩))
      rcases k with k | k | k
      · exact Or.inl ⟨k, ruT_K hf k ea eb (by omega) (by omega)⟩
      · exact Or.inr (Or.inl ⟨k, ruT_A hf k ea eb (by omega) (by omega)⟩)
      · exact Or.inr (Or.inr ⟨k, ruT_C hf k ea eb (by omega) (by omega)⟩)
  · exact Or.inl ⟨hf, ruT_0 hf⟩
theorem ru_ok (hF : FW n σ τ) {F : Nat} (hFF : F < 151) (V : Nat → Prop) : dOk V (ruT n τ F) := by
  have hle := hF.le
  intro f hf _ x hx
  have m1 : ∀ {a : Nat} {s : Nat}, s ∈ [a] → s = a := fun h => List.mem_singleton.mp h
  rcases ru_cases hF F f with ⟨-, e⟩ | ⟨-, -, e⟩ | ⟨a, b, h1, ha, hb, -, -, ⟨-, e⟩ | ⟨-, e⟩ | ⟨-, e⟩⟩ | ⟨a, h1, ha, -, -, ⟨-, e⟩ | ⟨c, hc, -, -, e⟩⟩ <;> rw [e] at hx <;> simp only [List.mem_cons, List.not_mem_nil, or_false] at hx
  · subst hx
    exact ⟨hf, fun s hs => by simp only [List.mem_cons, List.not_mem_nil, or_false] at hs; omega⟩
  · subst hx
    exact ⟨hf, fun s hs => by simp only [List.mem_cons, List.not_mem_nil, or_false] at hs; omega⟩
  · rcases hx with rfl | rfl | rfl | rfl <;> refine ⟨by show _ < 151; omega, fun s hs => ?_⟩ <;> simp only [List.mem_cons, List.not_mem_nil, or_false] at hs <;> omega
  · rcases hx with rfl | rfl | rfl <;> refine ⟨by show _ < 151; omega, fun s hs => ?_⟩ <;> simp only [List.mem_cons, List.not_mem_nil, or_false] at hs <;> omega
  · rcases hx with rfl | rfl <;> refine ⟨by show _ < 151; omega, fun s hs => ?_⟩ <;> simp only [List.mem_cons, List.not_mem_nil, or_false] at hs <;> omega
  · rcases hx with rfl | rfl <;> refine ⟨by show _ < 151; omega, fun s hs => ?_⟩ <;> simp only [List.mem_cons, List.not_mem_nil, or_false] at hs <;> omega
  · rcases hx with rfl | rfl | rfl <;> refine ⟨by show _ < 151; omega, fun s hs => ?_⟩ <;> simp only [List.mem_cons, List.not_mem_nil, or_false] at hs <;> omega
theorem ec_cnt (c : Nat) (hc : c < 40000) : F_X4_counting σ (nI c) = ec c := by
  unfold F_X4_counting
  rw [show (9999 : Int32) = nI 9999 from rfl]
  by_cases h : c < 10000
  · rw [if_pos (nI_le (by omega) (by decide)), ec_lt h]
  · rw [if_neg (nI_ge (by omega) (by omega)), ec_ge h]
theorem beyond_ok {D : Nat → Nat} (h : SDd (σ.2 27) D) {v : Nat} (hv : v < 151) : F_X4_beyond σ (nI v) = ec (1 + dSl D [v]) := by
  obtain ⟨h1, h2⟩ := h v hv
  show _ = ec (1 + (D v + 0))
  unfold F_X4_beyond
  rw [lt_def, rat_in hv (by decide), h1, Nat.add_zero]
  by_cases hd : D v < 10000
  · rw [ec_lt hd, if_neg (ni_ne (by omega)), show (1 : Int32) = nI 1 from rfl, ni_add, ec_cnt _ (by omega)]
  · rw [ec_ge hd, if_pos rfl, ec_ge (by omega)]
theorem beyond2_ok {D : Nat → Nat} (h : SDd (σ.2 27) D) {v u : Nat} (hv : v < 151) (hu : u < 151) : F_X4_beyondBoth σ (nI v) (nI u) = ec (1 + dSl D [v, u]) := by
  obtain ⟨h1, h2⟩ := h v hv
  obtain ⟨h3, h4⟩ := h u hu
  show _ = ec (1 + (D v + (D u + 0)))
  unfold F_X4_beyondBoth
  rw [lt_def, lt_def, rat_in hv (by decide), h1, rat_in hu (by decide), h3, Nat.add_zero]
  by_cases hd : D v < 10000
  · by_cases hd2 : D u < 10000
    · rw [ec_lt hd, ec_lt hd2, if_neg (ni_ne (by omega)), if_neg (ni_ne (by omega)), show (1 : Int32) = nI 1 from rfl, ni_add, ni_add, ec_cnt _ (by omega), Nat.add_assoc]
    · rw [ec_lt hd, ec_ge hd2, if_neg (ni_ne (by omega)), if_pos rfl, ec_ge (by omega)]
  · rw [ec_ge hd, if_pos rfl, ec_ge (by omega)]
/-- an offer is taken or not -/
theorem offer_cases {D : Nat → Nat} (h : SDd (σ.2 27) D) {t : Nat} (ht : t < 151) (c : Nat) : (D t ≤ c ∧ P_X4_offer σ (nI t) (ec c) = some (.inl (), σ)) ∨ (c < D t ∧ c < 10000 ∧ P_X4_offer σ (nI t) (ec c) = B_X4_offer_24 σ (nI t) (nI c) (ec (D t))) := by
  obtain ⟨h1, h2⟩ := h t ht
  unfold P_X4_offer
  rw [lt_def, rat_in ht (by decide), h1]
  by_cases hc : c < 10000
  · rw [ec_lt hc, if_neg (ni_ne (by omega))]
    by_cases hd : D t < 10000
    · rw [ec_lt hd, if_neg (ni_ne (by omega))]
      by_cases hcd : D t ≤ c
      · rw [if_pos (nI_le hcd (by omega))]
        exact Or.inl ⟨hcd, rfl⟩
      · rw [if_neg (nI_ge (by omega) (by omega))]
        exact Or.inr ⟨by omega, hc, rfl⟩
    · rw [ec_ge hd, if_pos rfl]
      exact Or.inr ⟨by omega, hc, rfl⟩
  · rw [ec_ge hc, if_pos rfl]
    exact Or.inl ⟨by omega, rfl⟩
/-- all rules of a formula, whatever an offer keeps -/
theorem apply_gen (hF : FW n σ τ) {F : Nat} (hFF : F < 151) {V : Nat → Prop} {Inv : DS → (Nat → Nat) → Prop} (hInv : ∀ s D, Inv s D → SFs σ s ∧ s.1 9 = nI F ∧ SDd (s.2 27) D) {f : Nat} (hf : f < 151) (hV : V f) (hoff : ∀ s D x, x ∈ ruT n τ F f → Inv s D → ∃ s' D', P_X4_offer s (nI x.1) (ec (1 + dSl D x.2)) = some (.inl (), s') ∧ Inv s' D' ∧ dStp V (ruT n τ F) D D' [x]) {s : DS} {D : Nat → Nat} (hI : Inv s D) : ∃ s' D', P_X4_applyRules s (nI f) = some (.inl (), s') ∧ Inv s' D' ∧ dStp V (ruT n τ F) D D' (ruT n τ F f) := by
  have hle := hF.le
  have hO := ru_ok hF hFF V
  have st : ∀ {D D1 D2 : Nat → Nat} {X : List Rul} {y : Rul}, dStp V (ruT n τ F) D D1 X → dStp V (ruT n τ F) D1 D2 [y] → (∀ x ∈ X, x ∈ ruT n τ F f) → y ∈ ruT n τ F f → dStp V (ruT n τ F) D D2 (X ++ [y]) := fun h1 h2 hX hy => h1.tr h2 (fun x hx => (hO f hf hV x (hX x hx)).1) (fun y' hy' => by rw [List.mem_singleton] at hy'; subst hy'; exact (hO f hf hV _ hy).2)
  obtain ⟨k0, e9, d0⟩ := hInv s D hI
  have hFs := k0.fw hF
  have m0 : (f, [F]) ∈ ruT n τ F f := List.mem_cons_self ..
  obtain ⟨s1, D1, o1, i1, st1⟩ := hoff s D (f, [F]) m0 hI
  obtain ⟨k1, e91, d1⟩ := hInv s1 D1 i1
  unfold P_X4_applyRules
  simp only [lt_def]
  rw [e9, beyond_ok d0 hFF, o1, bd_some]
  rcases ru_cases hF F f with ⟨h1, e⟩ | ⟨h1, h2, e⟩ | ⟨a, b, h1, ha, hb, ea, eb, h2⟩ | ⟨a, h1, ha, h2, ea, h3⟩
  · have hk : F_X0_kind s (nI f) = 0 := by
      unfold F_X0_kind
      rw [has_no hFs (Or.inr ⟨nI_pos (by omega), nI_le (by omega) (by omega)⟩), if_pos rfl]
    rw [hk, if_neg (by decide), if_neg (by decide), if_neg (by decide), if_neg (by decide), e]
    exact ⟨s1, D1, rfl, i1, st1⟩
  · have hk : Kn τ f ≠ 75 ∧ Kn τ f ≠ 65 ∧ Kn τ f ≠ 67 ∧ Kn τ f ≠ 78 := by rcases h2 with k | k | k | k | k | k <;> rw [k] <;> decide
    rw [kind_in hFs h1, if_neg hk.1, if_neg hk.2.1, if_neg hk.2.2.1, if_neg hk.2.2.2, e]
    exact ⟨s1, D1, rfl, i1, st1⟩
  · rw [kind_in hFs h1, left_in hFs h1, right_in hFs h1, ea, eb]
    rcases h2 with ⟨h2, e⟩ | ⟨h2, e⟩ | ⟨h2, e⟩
    · rw [h2, if_pos rfl]
      have y1 : (f, [a, b]) ∈ ruT n τ F f := by rw [e]; simp
      have y2 : (a, [f]) ∈ ruT n τ F f := by rw [e]; simp
      have y3 : (b, [f]) ∈ ruT n τ F f := by rw [e]; simp
      obtain ⟨s2, D2, o2, i2, st2⟩ := hoff s1 D1 (f, [a, b]) y1 i1
      obtain ⟨k2, e92, d2⟩ := hInv s2 D2 i2
      obtain ⟨s3, D3, o3, i3, st3⟩ := hoff s2 D2 (a, [f]) y2 i2
      obtain ⟨k3, e93, d3⟩ := hInv s3 D3 i3
      obtain ⟨s4, D4, o4, i4, st4⟩ := hoff s3 D3 (b, [f]) y3 i3
      rw [beyond2_ok d1 (by omega) (by omega), o2, bd_some, beyond_ok d2 hf, o3, bd_some, beyond_ok d3 hf, o4, bd_some, e]
      refine ⟨s4, D4, rfl, i4, ?_⟩
      have z1 := st st1 st2 (fun x hx => by rw [List.mem_singleton] at hx; subst hx; exact m0) y1
      have z2 := st z1 st3 (fun x hx => by simp only [List.mem_append, List.mem_singleton] at hx; rcases hx with rfl | rfl <;> assumption) y2
      have z3 := st z2 st4 (fun x hx => by simp only [List.mem_append, List.mem_singleton] at hx; rcases hx with (rfl | rfl) | rfl <;> assumption) y3
      exact z3
    · rw [h2, if_neg (by decide), if_pos rfl]
      have y1 : (f, [a]) ∈ ruT n τ F f := by rw [e]; simp
      have y2 : (f, [b]) ∈ ruT n τ F f := by rw [e]; simp
      obtain ⟨s2, D2, o2, i2, st2⟩ := hoff s1 D1 (f, [a]) y1 i1
      obtain ⟨k2, e92, d2⟩ := hInv s2 D2 i2
      obtain ⟨s3, D3, o3, i3, st3⟩ := hoff s2 D2 (f, [b]) y2 i2
      rw [beyond_ok d1 (by omega), o2, bd_some, beyond_ok d2 (by omega), o3, bd_some, e]
      refine ⟨s3, D3, rfl, i3, ?_⟩
      have z1 := st st1 st2 (fun x hx => by rw [List.mem_singleton] at hx; subst hx; exact m0) y1
      have z2 := st z1 st3 (fun x hx => by simp only [List.mem_append, List.mem_singleton] at hx; rcases hx with rfl | rfl <;> assumption) y2
      exact z2
    · rw [h2, if_neg (by decide), if_neg (by decide), if_pos rfl]
      have y1 : (b, [f, a]) ∈ ruT n τ F f := by rw [e]; simp
      obtain ⟨s2, D2, o2, i2, st2⟩ := hoff s1 D1 (b, [f, a]) y1 i1
      rw [beyond2_ok d1 hf (by omega), o2, bd_some, e]
      refine ⟨s2, D2, rfl, i2, ?_⟩
      have z1 := st st1 st2 (fun x hx => by rw [List.mem_singleton] at hx; subst hx; exact m0) y1
      exact z1
  · rw [kind_in hFs h1, left_in hFs h1, ea, h2, if_neg (by decide), if_neg (by decide), if_neg (by decide), if_pos rfl, e91]
    rcases h3 with ⟨h3, e⟩ | ⟨c, hc, h3, ec', e⟩
    · have y1 : (F, [f, a]) ∈ ruT n τ F f := by rw [e]; simp
      obtain ⟨s2, D2, o2, i2, st2⟩ := hoff s1 D1 (F, [f, a]) y1 i1
      obtain ⟨k2, e92, d2⟩ := hInv s2 D2 i2
      rw [beyond2_ok d1 hf (by omega), o2, bd_some, kind_in (k2.fw hF) ha, if_neg h3, e]
      refine ⟨s2, D2, rfl, i2, ?_⟩
      exact st st1 st2 (fun x hx => by rw [List.mem_singleton] at hx; subst hx; exact m0) y1
    · have y1 : (F, [f, a]) ∈ ruT n τ F f := by rw [e]; simp
      have y2 : (c, [f]) ∈ ruT n τ F f := by rw [e]; simp
      obtain ⟨s2, D2, o2, i2, st2⟩ := hoff s1 D1 (F, [f, a]) y1 i1
      obtain ⟨k2, e92, d2⟩ := hInv s2 D2 i2
      obtain ⟨s3, D3, o3, i3, st3⟩ := hoff s2 D2 (c, [f]) y2 i2
      rw [beyond2_ok d1 hf (by omega), o2, bd_some, kind_in (k2.fw hF) ha, if_pos h3, left_in (k2.fw hF) ha, ec', beyond_ok d2 hf, o3, bd_some, e]
      refine ⟨s3, D3, rfl, i3, ?_⟩
      have z1 := st st1 st2 (fun x hx => by rw [List.mem_singleton] at hx; subst hx; exact m0) y1
      exact st z1 st3 (fun x hx => by simp only [List.mem_append, List.mem_singleton] at hx; rcases hx with rfl | rfl <;> assumption) y2
end RULES
