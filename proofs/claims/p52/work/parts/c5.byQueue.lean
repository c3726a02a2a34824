/-! DISTANCES: the call by the queue -/
section BYQ
variable {n m q e : Nat} {σ : DS} {τ : MS}
/-- what the queue keeps between two turns -/
def IQb (σ : DS) (F : Nat) (s : DS) (D : Nat → Nat) (P : List Nat) : Prop := SFs σ s ∧ s.1 9 = nI F ∧ SDd (s.2 27) D ∧ s.1 8 = 1 ∧ ∃ U, QU s D P U
/-- the rules whose sources have all been taken hold -/
def I4 (V : Nat → Prop) (ru : Nat → List Rul) (P : List Nat) (D : Nat → Nat) : Prop := ∀ f, f < 151 → V f → ∀ x ∈ ru f, (∀ s ∈ x.2, s ∈ P) → D x.1 ≤ 1 + dSl D x.2
/-- what the queue keeps while u is worked at -/
def IQp (σ : DS) (F : Nat) (vw : Nat → Int32) (V : Nat → Prop) (ru : Nat → List Rul) (P : List Nat) (u : Nat) (D0 : Nat → Nat) (s : DS) (D : Nat → Nat) : Prop := IQb σ F s D (P ++ [u]) ∧ s.2 26 = vw ∧ I4 V ru P D ∧ ∀ v ∈ P ++ [u], D v = D0 v
/-- in the queue or not: from u on nothing is nearer than u -/
theorem far_u {s : DS} {D : Nat → Nat} {P U : List Nat} {u : Nat} (h27 : SDd (s.2 27) D) (hQ : QU s D (P ++ [u]) U) {v : Nat} (hv : v < 151) (hvP : v ∉ P) : D u ≤ D v := by
  obtain ⟨-, -, -, q4, q5, q6, -⟩ := hQ
  by_cases h : D v < 10000
  · have hm := (q5 v hv).mp h
    rw [List.append_assoc] at hm q4
    rcases List.mem_append.mp hm with hm | hm
    · exact absurd hm hvP
    · rcases List.mem_cons.mp hm with rfl | hm
      · exact Nat.le_refl _
      · exact ((List.pairwise_cons.mp (List.pairwise_append.mp q4).2.1).1 v hm).1
  · have := (h27 u (q6 u (List.mem_append.mpr (Or.inl (List.mem_append.mpr (Or.inr (List.mem_singleton.mpr rfl))))))).2
    omega
theorem near_u {s : DS} {D : Nat → Nat} {P U : List Nat} {u : Nat} (hQ : QU s D (P ++ [u]) U) {v : Nat} (hv : v ∈ P ++ [u]) : D v ≤ D u := by
  obtain ⟨-, -, -, q4, -⟩ := hQ
  have h1 := (List.pairwise_append.mp q4).1
  rcases List.mem_append.mp hv with hv | hv
  · exact ((List.pairwise_append.mp h1).2.2 v hv u (List.mem_singleton.mpr rfl)).1
  · rw [List.mem_singleton] at hv
    subst hv; exact Nat.le_refl _
theorem off_qp {F : Nat} {vw : Nat → Int32} {V : Nat → Prop} {ru : Nat → List Rul} (hO : dOk V ru) {P : List Nat} {u : Nat} {D0 : Nat → Nat} {s : DS} {D : Nat → Nat} (h : IQp σ F vw V ru P u D0 s D) {f : Nat} (hf : f < 151) (hV : V f) {x : Rul} (hx : x ∈ ru f) : ∃ s', P_X4_offer s (nI x.1) (ec (1 + dSl D x.2)) = some (.inl (), s') ∧ IQp σ F vw V ru P u D0 s' (dRx D x.1 (1 + dSl D x.2)) := by
  obtain ⟨⟨h1, h2, h3, h4, U, h5⟩, h6, h7, h8⟩ := h
  obtain ⟨o1, o2⟩ := hO f hf hV x hx
  have hcond : 1 + dSl D x.2 < D x.1 → (∀ v ∈ P ++ [u], D v ≤ 1 + dSl D x.2) ∧ x.1 ∉ P ++ [u] := fun hlt => by
    have : ∃ s, s ∈ x.2 ∧ s ∉ P := Classical.byContradiction fun hc => by
      have := h7 f hf hV x hx fun s hs => Classical.byContradiction fun hn => hc ⟨s, hs, hn⟩
      omega
    obtain ⟨z, hz, hzP⟩ := this
    have hu := far_u h3 h5 (o2 z hz) hzP
    have hz2 := dSl_mem (D := D) hz
    refine ⟨fun v hv => ?_, fun hin => ?_⟩
    · have := near_u h5 hv
      omega
    · have := near_u h5 hin
      omega
  obtain ⟨s', U', a1, a2, a3, a4, a5⟩ := off_q h3 h4 h5 (t := x.1) o1 (c := 1 + dSl D x.2) hcond
  have fix : ∀ v ∈ P ++ [u], dRx D x.1 (1 + dSl D x.2) v = D v := fun v hv => by
    by_cases hlt : 1 + dSl D x.2 < D x.1
    · exact dRx_ne fun hvx => (hcond hlt).2 (hvx ▸ hv)
    · rw [dRx_id (by omega)]
  refine ⟨s', a1, ⟨⟨fun k hk => ?_, fun k hk => ?_⟩, ?_, a2, ?_, U', a3⟩, ?_, fun f' hf' hV' y hy hyP => ?_, fun v hv => by rw [fix v hv]; exact h8 v hv⟩
  · rw [a4 k (by omega) (by omega)]; exact h1.1 k hk
  · rw [a5 k (by omega) (by omega)]; exact h1.2 k hk
  · rw [a4 9 (by decide) (by decide)]; exact h2
  · rw [a4 8 (by decide) (by decide)]; exact h4
  · rw [a5 26 (by decide) (by decide)]; exact h6
  · have g1 := h7 f' hf' hV' y hy hyP
    have g2 : dRx D x.1 (1 + dSl D x.2) y.1 ≤ D y.1 := dRx_le y.1 (hO f' hf' hV' y hy).1
    rw [dSl_eq (D := dRx D x.1 (1 + dSl D x.2)) (E := D) fun z hz => fix z (List.mem_append.mpr (Or.inl (hyP z hz)))]
    omega
/-- a rule that uses u is a rule of a formula that u concerns -/
theorem con_ok (hF : FW n σ τ) {F f u : Nat} (hFF : F < 151) (hu : u < 151) {s : DS} (hs : SFs σ s) (h9 : s.1 9 = nI F) {x : Rul} (hx : x ∈ ruT n τ F f) (hux : u ∈ x.2) : F_X4_concerns s (nI u) (nI f) = 1 := by
  have hle := hF.le
  have hFs := hs.fw hF
  have h3 : u = f ∨ u = F ∨ (f < n ∧ (Lf τ f = nI u ∨ Rt τ f = nI u)) := by
    rcases ru_cases hF F f with ⟨-, e⟩ | ⟨-, -, e⟩ | ⟨a, b, h1, ha, hb, ea, eb, ⟨-, e⟩ | ⟨-, e⟩ | ⟨-, e⟩⟩ | ⟨a, h1, ha, -, ea, ⟨-, e⟩ | ⟨c, hc, -, -, e⟩⟩ <;> rw [e] at hx <;> simp only [List.mem_cons, List.not_mem_nil, or_false] at hx
    · subst hx
      exact Or.inr (Or.inl (List.mem_singleton.mp hux))
    · subst hx
      exact Or.inr (Or.inl (List.mem_singleton.mp hux))
    · rcases hx with rfl | rfl | rfl | rfl <;> simp only [List.mem_cons, List.not_mem_nil, or_false] at hux
      · exact Or.inr (Or.inl hux)
      · rcases hux with rfl | rfl
        · exact Or.inr (Or.inr ⟨h1, Or.inl ea⟩)
        · exact Or.inr (Or.inr ⟨h1, Or.inr eb⟩)
      · exact Or.inl hux
      · exact Or.inl hux
    · rcases hx with rfl | rfl | rfl <;> simp only [List.mem_cons, List.not_mem_nil, or_false] at hux
      · exact Or.inr (Or.inl hux)
      · subst hux; exact Or.inr (Or.inr ⟨h1, Or.inl ea⟩)
      · subst hux; exact Or.inr (Or.inr ⟨h1, Or.inr eb⟩)
    · rcases hx with rfl | rfl <;> simp only [List.mem_cons, List.not_mem_nil, or_false] at hux
      · exact Or.inr (Or.inl hux)
      · rcases hux with rfl | rfl
        · exact Or.inl rfl
        · exact Or.inr (Or.inr ⟨h1, Or.inl ea⟩)
    · rcases hx with rfl | rfl <;> simp only [List.mem_cons, List.not_mem_nil, or_false] at hux
      · exact Or.inr (Or.inl hux)
      · rcases hux with rfl | rfl
        · exact Or.inl rfl
        · exact Or.inr (Or.inr ⟨h1, Or.inl ea⟩)
    · rcases hx with rfl | rfl | rfl <;> simp only [List.mem_cons, List.not_mem_nil, or_false] at hux
      · exact Or.inr (Or.inl hux)
      · rcases hux with rfl | rfl
        · exact Or.inl rfl
        · exact Or.inr (Or.inr ⟨h1, Or.inl ea⟩)
      · exact Or.inl hux
  unfold F_X4_concerns
  rw [h9]
  rcases h3 with rfl | rfl | ⟨h1, h2⟩
  · rw [if_pos rfl]
  · by_cases h : nI u = nI f
    · rw [if_pos h]
    · rw [if_neg h, if_pos rfl]
  · rw [left_in hFs h1, right_in hFs h1]
    by_cases h : nI u = nI f
    · rw [if_pos h]
    · rw [if_neg h]
      by_cases h' : nI u = nI F
      · rw [if_pos h']
      · rw [if_neg h']
        rcases h2 with h2 | h2
        · rw [if_pos h2.symm]
        · by_cases h'' : nI u = Lf τ f
          · rw [if_pos h'']
          · rw [if_neg h'', if_pos h2.symm]
/-- the rules of the formulas in view that are worked at from j on -/
def ruC (vw : Nat → Int32) (cc : Nat → Int32) (ru : Nat → List Rul) : Nat → Nat → List Rul
  | 0, _ => []
  | d + 1, j => (if vw j = 1 ∧ cc j ≠ 0 then ru j else []) ++ ruC vw cc ru d (j + 1)
theorem ruC_mem {vw cc : Nat → Int32} {ru : Nat → List Rul} : ∀ (d j f : Nat), j ≤ f → f < j + d → vw f = 1 → cc f ≠ 0 → ∀ x ∈ ru f, x ∈ ruC vw cc ru d j
  | 0, j, f, h1, h2, _, _, _, _ => absurd h2 (by omega)
  | d + 1, j, f, h1, h2, h3, h4, x, hx => by
    show x ∈ (if vw j = 1 ∧ cc j ≠ 0 then ru j else []) ++ ruC vw cc ru d (j + 1)
    by_cases h : f = j
    · subst h
      rw [if_pos ⟨h3, h4⟩]
      exact List.mem_append.mpr (Or.inl hx)
    · exact List.mem_append.mpr (Or.inr (ruC_mem d (j + 1) f (by omega) (by omega) h3 h4 x hx))
theorem ruC_ok {vw cc : Nat → Int32} {ru : Nat → List Rul} {V : Nat → Prop} (hV : ∀ f, f < 151 → (V f ↔ vw f = 1)) (hO : dOk V ru) : ∀ (d j : Nat), j + d ≤ 151 → ∀ x ∈ ruC vw cc ru d j, x.1 < 151 ∧ ∀ s ∈ x.2, s < 151
  | 0, _, _, x, hx => absurd hx (List.not_mem_nil)
  | d + 1, j, hj, x, hx => by
    have hx : x ∈ (if vw j = 1 ∧ cc j ≠ 0 then ru j else []) ++ ruC vw cc ru d (j + 1) := hx
    rcases List.mem_append.mp hx with hx | hx
    · by_cases h : vw j = 1 ∧ cc j ≠ 0
      · rw [if_pos h] at hx
        exact hO j (by omega) ((hV j (by omega)).mpr h.1) x hx
      · rw [if_neg h] at hx
        exact absurd hx (List.not_mem_nil)
    · exact ruC_ok hV hO d (j + 1) (by omega) x hx
theorem con_same (hF : FW n σ τ) {s s' : DS} (hs : SFs σ s) (hs' : SFs σ s') (h9 : s.1 9 = s'.1 9) (a b : Int32) : F_X4_concerns s a b = F_X4_concerns s' a b := by
  unfold F_X4_concerns F_X0_left F_X0_right F_X0_has
  rw [h9, hs.1 1 (by decide), hs'.1 1 (by decide), hs.2 0 (by decide), hs'.2 0 (by decide), hs.2 1 (by decide), hs'.2 1 (by decide)]
/-- one turn's work -/
theorem turn_q (hF : FW n σ τ) {F : Nat} (hFF : F < 151) {V : Nat → Prop} {vw : Nat → Int32} (hV : ∀ f, f < 151 → (V f ↔ vw f = 1)) {P : List Nat} {u : Nat} {D0 : Nat → Nat} {s0 : DS} (hs0 : SFs σ s0) (h90 : s0.1 9 = nI F) (k8 : DS → Int32 → Int32 → Res DS Int32) (g l2 : Int32) : ∀ (d j N : Nat) (s : DS) (D : Nat → Nat), j + d = 151 → d < N → IQp σ F vw V (ruT n τ F) P u D0 s D → ∃ s' D', L_X4_byQueue_65 k8 N s g l2 (nI u) (nI j) = k8 s' g (l2 + 1) ∧ IQp σ F vw V (ruT n τ F) P u D0 s' D' ∧ dStp V (ruT n τ F) D D' (ruC vw (fun f => F_X4_concerns s0 (nI u) (nI f)) (ruT n τ F) d j) := by
  have hO := ru_ok hF hFF V
  intro d
  induction d with
  | zero =>
    intro j N s D hj hN hI
    obtain ⟨N, rfl⟩ : ∃ M, N = M + 1 := ⟨N - 1, by omega⟩
    have hj : j = 151 := hj
    subst hj
    refine ⟨s, D, ?_, hI, dStp.rf⟩
    show B_X4_byQueue_65 k8 _ s g l2 (nI u) (nI 151) = _
    unfold B_X4_byQueue_65
    rw [if_pos (by decide), lt_def]
  | succ d ih =>
    intro j N s D hj hN hI
    obtain ⟨N, rfl⟩ : ∃ M, N = M + 1 := ⟨N - 1, by omega⟩
    have hvw : s.2 26 = vw := hI.2.1
    have hcc : F_X4_concerns s (nI u) (nI j) = F_X4_concerns s0 (nI u) (nI j) := con_same hF hI.1.1 hs0 (by rw [hI.1.2.1, h90]) _ _
    have hst : ruC vw (fun f => F_X4_concerns s0 (nI u) (nI f)) (ruT n τ F) (d + 1) j = (if vw j = 1 ∧ F_X4_concerns s0 (nI u) (nI j) ≠ 0 then ruT n τ F j else []) ++ ruC vw (fun f => F_X4_concerns s0 (nI u) (nI f)) (ruT n τ F) d (j + 1) := rfl
    have e0 : L_X4_byQueue_65 k8 (N + 1) s g l2 (nI u) (nI j) = if vw j = 1 ∧ F_X4_concerns s0 (nI u) (nI j) ≠ 0 then (bd (P_X4_applyRules s (nI j)) fun _ s99 => L_X4_byQueue_65 k8 N s99 g l2 (nI u) (nI (j + 1))) else L_X4_byQueue_65 k8 N s g l2 (nI u) (nI (j + 1)) := by
      show B_X4_byQueue_65 k8 _ s g l2 (nI u) (nI j) = _
      unfold B_X4_byQueue_65
      simp only [lt_def]
      rw [show (151 : Int32) = nI 151 from rfl, if_neg (nI_ge (by omega) (by decide)), rat_in (by omega) (by decide), hvw, hcc, ni_add1]
      by_cases h : vw j = 1
      · rw [if_pos h]
        by_cases h' : F_X4_concerns s0 (nI u) (nI j) = 0
        · rw [if_pos h', if_neg (fun x => x.2 h')]
        · rw [if_neg h', if_pos ⟨h, h'⟩]
      · rw [if_neg h, if_neg (fun x => h x.1)]
    rw [e0, hst]
    by_cases h : vw j = 1 ∧ F_X4_concerns s0 (nI u) (nI j) ≠ 0
    · rw [if_pos h, if_pos h]
      have hVj : V j := (hV j (by omega)).mpr h.1
      obtain ⟨s1, D1, a1, a2, a3⟩ := apply_gen hF hFF (V := V) (Inv := IQp σ F vw V (ruT n τ F) P u D0) (fun s D h => ⟨h.1.1, h.1.2.1, h.1.2.2.1⟩) (show j < 151 by omega) hVj (fun s D x hx hI => by
        obtain ⟨s', o1, o2⟩ := off_qp hO hI (show j < 151 by omega) hVj hx
        exact ⟨s', _, o1, o2, dStp.rx hO (by omega) hVj hx⟩) hI
      obtain ⟨s2, D2, b1, b2, b3⟩ := ih (j + 1) N s1 D1 (by omega) (by omega) a2
      rw [a1, bd_some]
      exact ⟨s2, D2, b1, b2, a3.tr b3 (fun x hx => (hO j (by omega) hVj x hx).1) (fun y hy => (ruC_ok hV hO d (j + 1) (by omega) y hy).2)⟩
    · rw [if_neg h, if_neg h]
      exact ih (j + 1) N s D (by omega) (by omega) hI
/-- nothing waits: all rules hold -/
theorem empty_cl {V : Nat → Prop} {ru : Nat → List Rul} {s : DS} {D : Nat → Nat} {P : List Nat} (hO : dOk V ru) (h27 : SDd (s.2 27) D) (hQ : QU s D P []) (h4 : I4 V ru P D) : dCl V ru D := fun f hf hV x hx => by
  obtain ⟨-, -, -, -, q5, -⟩ := hQ
  by_cases h : ∀ z ∈ x.2, z ∈ P
  · exact h4 f hf hV x hx h
  · have : ∃ z, z ∈ x.2 ∧ z ∉ P := Classical.byContradiction fun hc => h fun z hz => Classical.byContradiction fun hn => hc ⟨z, hz, hn⟩
    obtain ⟨z, hz, hzP⟩ := this
    have hz1 := (hO f hf hV x hx).2 z hz
    have : ¬ D z < 10000 := fun hlt => hzP (by have := (q5 z hz1).mp hlt; rwa [List.append_nil] at this)
    have h2 := dSl_mem (D := D) hz
    have h3 := (h27 x.1 (hO f hf hV x hx).1).2
    omega
/-- the nearest one that waits is settled -/
theorem near_ok {V : Nat → Prop} {ru : Nat → List Rul} (hO : dOk V ru) {s : DS} {D I M : Nat → Nat} {P U : List Nat} {u : Nat} (h27 : SDd (s.2 27) D) (hQ : QU s D (P ++ [u]) U) (h4 : I4 V ru P D) (hDI : dLe D I) (hDb : dLb V ru I D) (hM : dCl V ru M) (hMI : dLe M I) (hMb : dLb V ru I M) : D u = M u := by
  have hu : u < 151 := hQ.2.2.2.2.2.1 u (List.mem_append.mpr (Or.inl (List.mem_append.mpr (Or.inr (List.mem_singleton.mpr rfl)))))
  have huP : u ∉ P := fun h => by
    have h1 := (List.pairwise_append.mp hQ.2.2.2.1).1
    exact ((List.pairwise_append.mp h1).2.2 u h u (List.mem_singleton.mpr rfl)).2 rfl
  have hE : dCl V ru (fun v => if v ∈ P then D v else min (D v) (D u)) := fun f hf hV x hx => by
    obtain ⟨o1, o2⟩ := hO f hf hV x hx
    by_cases h : ∀ z ∈ x.2, z ∈ P
    · have h1 := h4 f hf hV x hx h
      have h2 : dSl (fun v => if v ∈ P then D v else min (D v) (D u)) x.2 = dSl D x.2 := dSl_eq fun z hz => if_pos (h z hz)
      rw [h2]
      show (if x.1 ∈ P then D x.1 else min (D x.1) (D u)) ≤ _
      by_cases hx1 : x.1 ∈ P
      · rw [if_pos hx1]; exact h1
      · rw [if_neg hx1]; exact Nat.le_trans (Nat.min_le_left _ _) h1
    · have : ∃ z, z ∈ x.2 ∧ z ∉ P := Classical.byContradiction fun hc => h fun z hz => Classical.byContradiction fun hn => hc ⟨z, hz, hn⟩
      obtain ⟨z, hz, hzP⟩ := this
      have hfar := far_u h27 hQ (o2 z hz) hzP
      have h2 := dSl_mem (D := fun v => if v ∈ P then D v else min (D v) (D u)) hz
      have h3 : (if z ∈ P then D z else min (D z) (D u)) = D u := by rw [if_neg hzP, Nat.min_eq_right hfar]
      have h2 : (if z ∈ P then D z else min (D z) (D u)) ≤ dSl (fun v => if v ∈ P then D v else min (D v) (D u)) x.2 := h2
      rw [h3] at h2
      show (if x.1 ∈ P then D x.1 else min (D x.1) (D u)) ≤ _
      by_cases hx1 : x.1 ∈ P
      · rw [if_pos hx1]
        have := near_u hQ (List.mem_append.mpr (Or.inl hx1))
        omega
      · rw [if_neg hx1]
        have := Nat.min_le_right (D x.1) (D u)
        omega
  have h1 := hMb _ hE (fun v hv => by
    show (if v ∈ P then D v else min (D v) (D u)) ≤ I v
    by_cases h : v ∈ P
    · rw [if_pos h]; exact hDI v hv
    · rw [if_neg h]; exact Nat.le_trans (Nat.min_le_left _ _) (hDI v hv)) u hu
  have h1 : (if u ∈ P then D u else min (D u) (D u)) ≤ M u := h1
  rw [if_neg huP, Nat.min_self] at h1
  exact Nat.le_antisymm h1 (hDb M hM hMI u hu)
/-- the turns -/
theorem turns_q (hF : FW n σ τ) {F : Nat} (hFF : F < 151) {V : Nat → Prop} {vw : Nat → Int32} (hV : ∀ f, f < 151 → (V f ↔ vw f = 1)) {I M : Nat → Nat} (hM : dCl V (ruT n τ F) M) (hMI : dLe M I) (hMb : dLb V (ruT n τ F) I M) {g : Nat} (hg : g < 151) : ∀ (d : Nat) (P : List Nat) (N : Nat) (s : DS) (D : Nat → Nat), P.length + d = 151 → d < N → IQb σ F s D P → s.2 26 = vw → I4 V (ruT n τ F) P D → dLe D I → dLb V (ruT n τ F) I D → ∃ s', L_X4_byQueue_8 N s (nI g) (nI P.length) = some (.inl (ec (M g)), s') ∧ SFs σ s' := by
  have hO := ru_ok hF hFF V
  have fine : ∀ (s : DS) (D : Nat → Nat) (P U : List Nat), SDd (s.2 27) D → QU s D P U → U = [] → I4 V (ruT n τ F) P D → dLe D I → dLb V (ruT n τ F) I D → rat 151 (s.2 27) (nI g) = ec (M g) := fun s D P U h27 hQ hU h4 h1 h2 => by
    subst hU
    rw [rat_in hg (by decide), (h27 g hg).1, least_uni (empty_cl hO h27 hQ h4) h1 h2 hM hMI hMb g hg]
  intro d
  induction d with
  | zero =>
    intro P N s D hP hN hI hvw h4 h1 h2
    obtain ⟨N, rfl⟩ : ∃ M, N = M + 1 := ⟨N - 1, by omega⟩
    have hP : P.length = 151 := hP
    obtain ⟨i1, i2, i3, i4, U, i5⟩ := hI
    have hU : U = [] := by
      have := fin_le D
      have := i5.2.2.2.2.2.2
      exact List.eq_nil_of_length_eq_zero (by omega)
    refine ⟨s, ?_, i1⟩
    show B_X4_byQueue_8 _ s (nI g) (nI P.length) = _
    unfold B_X4_byQueue_8
    rw [show (151 : Int32) = nI 151 from rfl, hP, if_pos (nI_le (Nat.le_refl _) (by decide)), fine s D P U i3 i5 hU h4 h1 h2]
  | succ d ih =>
    intro P N s D hP hN hI hvw h4 h1 h2
    obtain ⟨N, rfl⟩ : ∃ M, N = M + 1 := ⟨N - 1, by omega⟩
    obtain ⟨i1, i2, i3, i4, U, i5⟩ := hI
    obtain ⟨q1, q2, q3, q4, q5, q6, q7⟩ := id i5
    have hfl := fin_le D
    cases U with
    | nil =>
      refine ⟨s, ?_, i1⟩
      show B_X4_byQueue_8 _ s (nI g) (nI P.length) = _
      unfold B_X4_byQueue_8
      rw [show (151 : Int32) = nI 151 from rfl, if_neg (nI_ge (by omega) (by decide)), q1, q2, List.length_nil, Nat.add_zero, if_pos (nI_le (Nat.le_refl P.length) (by omega)), fine s D P [] i3 i5 rfl h4 h1 h2]
    | cons u U =>
      have hlen : (u :: U).length = U.length + 1 := rfl
      rw [hlen] at q2 q7
      have ou : s.2 28 P.length = nI u := by
        rw [List.map_append] at q3
        have := (occ_app.mp q3).2
        rw [List.length_map, Nat.zero_add] at this
        exact this.1
      have hu : u < 151 := q6 u (List.mem_append.mpr (Or.inr (List.mem_cons_self ..)))
      obtain ⟨s0, hs0⟩ : ∃ s0, s0 = sI s 6 (nI (P.length + 1)) := ⟨_, rfl⟩
      have hPu : (P ++ [u]).length = P.length + 1 := by rw [List.length_append]; rfl
      have hl : P ++ [u] ++ U = P ++ u :: U := by rw [List.append_assoc]; rfl
      have c1 : ∀ k, k ≠ 6 → s0.1 k = s.1 k := fun k hk => by rw [hs0, sI_1, if_neg hk]
      have c2 : s0.2 = s.2 := by rw [hs0]; rfl
      have hQ0 : QU s0 D (P ++ [u]) U := ⟨by rw [hs0, sI_1, if_pos rfl, hPu], by rw [c1 7 (by decide), q2, hPu]; congr 1; omega, by rw [c2, hl]; exact q3, by rw [hl]; exact q4, fun v hv => by rw [hl]; exact q5 v hv, fun v hv => q6 v (by rw [hl] at hv; exact hv), by rw [hPu]; omega⟩
      have k0 : SFs σ s0 := ⟨fun k hk => by rw [c1 k (by omega)]; exact i1.1 k hk, fun k hk => by rw [c2]; exact i1.2 k hk⟩
      have e9 : s0.1 9 = nI F := by rw [c1 9 (by decide)]; exact i2
      have h27 : SDd (s0.2 27) D := by rw [c2]; exact i3
      have hDu : D u = M u := near_ok hO h27 hQ0 h4 h1 h2 hM hMI hMb
      have e0 : L_X4_byQueue_8 (N + 1) s (nI g) (nI P.length) = if nI u = nI g then some (.inl (rat 151 (s0.2 27) (nI g)), s0) else L_X4_byQueue_65 (L_X4_byQueue_8 N) FU s0 (nI g) (nI P.length) (nI u) (nI 0) := by
        show B_X4_byQueue_8 _ s (nI g) (nI P.length) = _
        unfold B_X4_byQueue_8
        simp only [lt_def]
        rw [show (151 : Int32) = nI 151 from rfl, if_neg (nI_ge (by omega) (by decide)), q1, q2, if_neg (nI_ge (by omega) (by omega)), rat_in (show P.length < 151 by omega) (by decide), ou, ni_add1, ← hs0]
        rfl
      rw [e0]
      by_cases hug : u = g
      · subst hug
        rw [if_pos rfl, rat_in hu (by decide), (h27 u hu).1, hDu]
        exact ⟨s0, rfl, k0⟩
      · rw [if_neg (by rw [ni_eq (by omega) (by omega)]; exact hug)]
        obtain ⟨s1, D1, a1, a2, a3⟩ := turn_q hF hFF hV (P := P) (u := u) (D0 := D) k0 e9 (L_X4_byQueue_8 N) (nI g) (nI P.length) 151 0 FU s0 D (by omega) (by unfold FU; omega) ⟨⟨k0, e9, h27, by rw [c1 8 (by decide)]; exact i4, U, hQ0⟩, by rw [c2]; exact hvw, h4, fun _ _ => rfl⟩
        rw [a1, ni_add1, ← hPu]
        obtain ⟨b1, b2, b3, b4⟩ := a2
        refine ih (P ++ [u]) N s1 D1 (by rw [hPu]; omega) (by omega) b1 b2 (fun f hf hVf x hx hxP => ?_) (a3.1.tr h1) (h2.stp a3)
        by_cases hux : u ∈ x.2
        · have hc := con_ok hF hFF hu k0 e9 hx hux
          have := a3.2.2 x (ruC_mem 151 0 f (Nat.zero_le _) (by omega) ((hV f hf).mp hVf) (by rw [hc]; decide) x hx)
          rw [dSl_eq (D := D1) (E := D) fun z hz => b4 z (hxP z hz)]
          exact this
        · exact b3 f hf hVf x hx fun z hz => by
            rcases List.mem_append.mp (hxP z hz) with h | h
            · exact h
            · rw [List.mem_singleton] at h
              subst h
              exact absurd hz hux
/-- the class's distance by the queue -/
theorem byQ_ok (hF : FW n σ τ) (hR : RW n m q e σ τ) {F g : Nat} (hFF : F < 151) (hFn : F < n ∨ F = 150) {v : Int32} (hf1 : P_X0_find σ 70 (-1) (-1) = some (.inl v, σ)) (hf2 : (v = -1 ∧ F = 150) ∨ (v ≠ -1 ∧ v = nI F)) (hg : g < n) {C : Nat → Int32} {fo : Nat → Nat} (hC : ∀ k, k < m → C k = F_X2_isCitable σ (nI k) ∧ fo k < n ∧ τ.2.1 6 k = nI (fo k)) {V : Nat → Prop} {M : Nat → Nat} (hV : VIs n m τ C fo g F V) (hM : dCl V (ruT n τ F) M) (hMI : dLe M (dIn C fo m)) (hMb : dLb V (ruT n τ F) (dIn C fo m) M) : ∃ s', P_X4_byQueue σ (nI g) = some (.inl (ec (M g)), s') ∧ SFs σ s' := by
  have hle := hF.le
  have hfin0 : fin (fun _ => 10000) = 0 := by
    have : fin (fun _ => 10000) = sm 151 (fun _ => 0) := sm_eq 151 fun v _ => rfl
    rw [this, sm_c]
  obtain ⟨s, b1, b2, b3, b4⟩ := begin_ok hF hR hFF hFn hf1 hf2 hg (b := 1) (Or.inr rfl) (Inv := fun s D => IQb σ F s D []) (fun s h1 h2 h3 h4 h5 _ h7 => ⟨h1, h2, sd_far h7, h3, [], by rw [h4]; rfl, by rw [h5]; rfl, trivial, List.Pairwise.nil, fun v _ => ⟨fun h => absurd h (show ¬ 10000 < 10000 by decide), fun h => absurd h (List.not_mem_nil)⟩, fun v hv => absurd hv (List.not_mem_nil), by rw [hfin0]; rfl⟩) (fun s D h => h.1) (fun s D w h => ⟨⟨h.1.1, fun k hk => by rw [sR_2, if_neg (by omega)]; exact h.1.2 k hk⟩, h.2.1, h.2.2.1, h.2.2.2.1, h.2.2.2.2⟩) (fun s D t ht h => by
    obtain ⟨h1, h2, h3, h4, U, h5⟩ := h
    obtain ⟨s', U', a1, a2, a3, a4, a5⟩ := off_q h3 h4 h5 (t := t) (by omega) (c := 0) (fun _ => ⟨fun v hv => absurd hv (List.not_mem_nil), List.not_mem_nil⟩)
    refine ⟨s', a1, ⟨⟨fun k hk => ?_, fun k hk => ?_⟩, ?_, a2, ?_, U', a3⟩, a5 26 (by decide) (by decide)⟩
    · rw [a4 k (by omega) (by omega)]; exact h1.1 k hk
    · rw [a5 k (by omega) (by omega)]; exact h1.2 k hk
    · rw [a4 9 (by decide) (by decide)]; exact h2
    · rw [a4 8 (by decide) (by decide)]; exact h4) hC
  have eV := hV.uni b4
  subst eV
  obtain ⟨s', r1, r2⟩ := turns_q hF hFF (V := fun v => v < 151 ∧ s.2 26 v = 1) (vw := s.2 26) (fun f hf => ⟨fun h => h.2, fun h => ⟨hf, h⟩⟩) hM hMI hMb (show g < 151 by omega) 151 [] FU s (dIn C fo m) (by rfl) (by unfold FU; omega) b2 rfl (fun f hf hVf x hx hxP => by
    exfalso
    have : x.2 ≠ [] := by
      rcases ru_cases hF F f with ⟨-, e⟩ | ⟨-, -, e⟩ | ⟨a, b, -, -, -, -, -, ⟨-, e⟩ | ⟨-, e⟩ | ⟨-, e⟩⟩ | ⟨a, -, -, -, -, ⟨-, e⟩ | ⟨c, -, -, -, e⟩⟩ <;> rw [e] at hx <;> simp only [List.mem_cons, List.not_mem_nil, or_false] at hx
      · subst hx; exact List.cons_ne_nil _ _
      · subst hx; exact List.cons_ne_nil _ _
      · rcases hx with rfl | rfl | rfl | rfl <;> exact List.cons_ne_nil _ _
      · rcases hx with rfl | rfl | rfl <;> exact List.cons_ne_nil _ _
      · rcases hx with rfl | rfl <;> exact List.cons_ne_nil _ _
      · rcases hx with rfl | rfl <;> exact List.cons_ne_nil _ _
      · rcases hx with rfl | rfl | rfl <;> exact List.cons_ne_nil _ _
    cases hz : x.2 with
    | nil => exact this hz
    | cons z L => exact absurd (hxP z (by rw [hz]; exact List.mem_cons_self ..)) (List.not_mem_nil)) dLe.rf (fun E _ h => h)
  refine ⟨s', ?_, r2⟩
  unfold P_X4_byQueue
  rw [b1, bd_some, lt_def]
  exact r1
end BYQ
theorem ag38 : AG38 Rel := by
  intro σ τ w a hI
  obtain ⟨n, m, q, e, h, hr⟩ := id hI
  have hle := h.le
  unfold W_L_distance P_X6_distance P_X7_distance
  rcases ix_cases n (by omega) a with ⟨g, hg, rfl⟩ | ha
  · have h0 := h.thr 0
    have hr0 := hr.thr 0
    obtain ⟨F, v, hFF, hFn, hFl, hf1, -, hf2⟩ := fal_ok h0
    obtain ⟨V, M, τ', d1, d2, d3, d4, d5, d6, d7⟩ := dist_t h0 hr0 hFF hFn hFl hf1 hf2 hg (cfo_ok hr0 hle)
    obtain ⟨s', r1, r2⟩ := byQ_ok h0 hr0 hFF hFn hf1 hf2 hg (cfo_ok hr0 hle) d1 d2 d3 d4
    rw [reqF_in h hg, bd_some, lacks_in h hg, bd_some, if_pos rfl, lt_def]
    exact dist_end h0 hr0 hg d5 d6 d7 r1 r2
  · rw [reqF_no h ha, bd_exc, lacks_no h ha, bd_some, if_neg i10]
    exact ag_exc rfl rfl rfl rfl (by decide) (hI.thr 1)
