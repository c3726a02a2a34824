/-! DISTANCES: the reference's rounds -/
section ROUNDT
variable {n m q e : Nat} {σ : DS} {τ : MS}
def RX (τ0 : MS) (vw : Nat → Int32) (τ : MS) (D : Nat → Nat) : Prop := TFt τ0 τ ∧ τ.2.1 17 = vw ∧ ∀ v, v < 151 → τ.2.1 18 v = nI (D v) ∧ D v ≤ 10000
/-- whether something has become less -/
def Mo (x : Int32) (D : Nat → Nat) (y : Int32) (D' : Nat → Nat) : Prop := (y = 0 ∧ x = 0 ∧ D' = D) ∨ (y = 1 ∧ (x = 1 ∨ sm 151 D' < sm 151 D))
theorem Mo.rf {x : Int32} (hx : x = 0 ∨ x = 1) (D : Nat → Nat) : Mo x D x D := hx.elim (fun h => Or.inl ⟨h, h, rfl⟩) fun h => Or.inr ⟨h, Or.inl h⟩
theorem Mo.y {x y : Int32} {D D' : Nat → Nat} (h : Mo x D y D') : y = 0 ∨ y = 1 := h.elim (fun h => Or.inl h.1) fun h => Or.inr h.1
theorem Mo.tr {x y z : Int32} {D D1 D2 : Nat → Nat} (h1 : Mo x D y D1) (h2 : Mo y D1 z D2) (l1 : dLe D1 D) (l2 : dLe D2 D1) : Mo x D z D2 := by
  have s1 := sm_le (g := D1) (h := D) 151 l1
  have s2 := sm_le (g := D2) (h := D1) 151 l2
  rcases h2 with ⟨rfl, rfl, rfl⟩ | ⟨rfl, h2⟩
  · rcases h1 with ⟨-, rfl, rfl⟩ | ⟨h, -⟩
    · exact Or.inl ⟨rfl, rfl, rfl⟩
    · exact absurd h (by decide)
  · rcases h2 with rfl | h2
    · rcases h1 with ⟨h, -⟩ | ⟨-, rfl | h⟩
      · exact absurd h (by decide)
      · exact Or.inr ⟨rfl, Or.inl rfl⟩
      · exact Or.inr ⟨rfl, Or.inr (by omega)⟩
    · exact Or.inr ⟨rfl, Or.inr (by omega)⟩
theorem les_ok {τ0 : MS} {vw : Nat → Int32} {τ : MS} {D : Nat → Nat} (h : RX τ0 vw τ D) {t c : Nat} (ht : t < 151) (hc : c < 40000) {x : Int32} (hx : x = 0 ∨ x = 1) : ∃ b τ', P_X7_lessens τ (nI t) (nI c) = some (.inl b, τ') ∧ RX τ0 vw τ' (dRx D t c) ∧ Mo x D (x ||| b) (dRx D t c) := by
  obtain ⟨h1, h2, h3⟩ := h
  obtain ⟨h4, h5⟩ := h3 t ht
  unfold P_X7_lessens B_X7_lessens_15
  simp only [gd_in (show t < 151 from ht) (by decide : (151 : Nat) < 2147483648), ni_cl (show t < 2147483648 by omega), lt_def]
  rw [h4]
  by_cases hle : D t ≤ c
  · rw [if_pos (nI_le hle (by omega)), if_pos (by decide), gc_t (Or.inl trivial)]
    refine ⟨0, _, rfl, ?_, ?_⟩
    · rw [dRx_id hle]
      refine ⟨h1.tr (tA18 τ _), by rw [tA2, if_neg (by decide)]; exact h2, fun v hv => ?_⟩
      rw [tA2, if_pos rfl]
      by_cases hvt : v = t
      · subst hvt; rw [upd_eq]; exact ⟨rfl, h5⟩
      · rw [upd_ne _ hvt]; exact h3 v hv
    · rw [dRx_id hle]
      rcases hx with rfl | rfl
      · exact Or.inl ⟨rfl, rfl, rfl⟩
      · exact Or.inr ⟨by decide, Or.inl rfl⟩
  · rw [if_neg (nI_ge (by omega) (by omega)), if_neg (by decide), gc_t (Or.inr trivial)]
    refine ⟨1, _, rfl, ⟨h1.tr (tA18 τ _), by rw [tA2, if_neg (by decide)]; exact h2, fun v hv => ?_⟩, Or.inr ⟨by rcases hx with rfl | rfl <;> decide, Or.inr (sm_rx ht (by omega))⟩⟩
    rw [tA2, if_pos rfl]
    by_cases hvt : v = t
    · subst hvt
      rw [upd_eq, dRx_t, Nat.min_eq_right (by omega)]
      exact ⟨rfl, by omega⟩
    · rw [upd_ne _ hvt, dRx_ne hvt]; exact h3 v hv
/-- the rules of one formula -/
theorem form_t (hF : FW n σ τ) {F : Nat} (hFF : F < 151) (hFn : F < n ∨ F = 150) {V : Nat → Prop} {vw : Nat → Int32} (k4 : MS → Int32 → Int32 → Int32 → Res MS Int32) {f : Nat} (hf : f < n ∨ f = F) (hV : V f) (hv1 : vw f = 1) {s : MS} {D : Nat → Nat} {x : Int32} (hx : x = 0 ∨ x = 1) (hI : RX τ vw s D) : ∃ y s' D', B_X7_rounds_4 k4 s (nI F) x (nI f) = k4 s' (nI F) y (nI (f + 1)) ∧ RX τ vw s' D' ∧ dStp V (ruT n τ F) D D' (ruT n τ F f) ∧ Mo x D y D' := by
  have hle := hF.le
  have hf151 : f < 151 := by omega
  have hO := ru_ok hF hFF V
  have st : ∀ {D D1 D2 : Nat → Nat} {X Y : List Rul}, dStp V (ruT n τ F) D D1 X → dStp V (ruT n τ F) D1 D2 Y → (∀ x ∈ X, x ∈ ruT n τ F f) → (∀ y ∈ Y, y ∈ ruT n τ F f) → dStp V (ruT n τ F) D D2 (X ++ Y) := fun h1 h2 hX hY => h1.tr h2 (fun x hx => (hO f hf151 hV x (hX x hx)).1) (fun y hy => (hO f hf151 hV y (hY y hy)).2)
  have rx1 : ∀ (D : Nat → Nat) (x : Rul), x ∈ ruT n τ F f → dStp V (ruT n τ F) D (dRx D x.1 (1 + dSl D x.2)) [x] := fun D x hx => dStp.rx hO hf151 hV hx
  have m0 : (f, [F]) ∈ ruT n τ F f := List.mem_cons_self ..
  have s1m : ∀ {X : List Rul} {y : Rul}, y ∈ X → ∀ x ∈ [y], x ∈ X := fun hy x hx => by rw [List.mem_singleton] at hx; subst hx; exact hy
  obtain ⟨i1, i2, i3⟩ := id hI
  obtain ⟨b, s1, o1, r1, q1⟩ := les_ok hI hf151 (c := 1 + D F) (by have := (i3 F hFF).2; omega) hx
  have z1 := rx1 D (f, [F]) m0
  have ez1 : dRx D f (1 + dSl D [F]) = dRx D f (1 + D F) := by show dRx D f (1 + (D F + 0)) = _; rw [Nat.add_zero]
  have z1 : dStp V (ruT n τ F) D (dRx D f (1 + D F)) [(f, [F])] := by rw [← ez1]; exact z1
  -- the head
  have head : B_X7_rounds_4 k4 s (nI F) x (nI f) = if f = 150 then B_X7_rounds_57 k4 s1 (nI F) (x ||| b) (nI f) 70 else B_X7_rounds_57 k4 s1 (nI F) (x ||| b) (nI f) (Kn τ f) := by
    unfold B_X7_rounds_4
    rw [show (150 : Int32) = nI 150 from rfl, if_neg (nI_nlt (by omega) (by decide)), gd_in hf151 (by decide), ni_cl (by omega), i2, hv1, if_neg i10, gd_in hFF (by decide), ni_cl (by omega), (i3 F hFF).1, show (1 : Int32) = nI 1 from rfl, ni_add, o1, bd_some, lt_def]
    by_cases h : f = 150
    · subst h; rw [if_pos rfl, if_pos rfl]
    · rw [if_neg (by rw [ni_eq (by omega) (by decide)]; exact h), if_neg h, gd_in (by omega) (by decide), show s1.2.1 0 f = Kn τ f from r1.1.kn f]
  rw [head]
  obtain ⟨j1, j2, j3⟩ := id r1
  generalize hD1 : dRx D f (1 + D F) = D1 at r1 q1 z1 j3
  generalize x ||| b = x1 at q1
  have done : ∀ c : Int32, c ≠ 75 → c ≠ 65 → c ≠ 67 → c ≠ 78 → B_X7_rounds_57 k4 s1 (nI F) x1 (nI f) c = k4 s1 (nI F) x1 (nI (f + 1)) := fun c c1 c2 c3 c4 => by
    unfold B_X7_rounds_57
    rw [lt_def, if_neg c1, if_neg c2, if_neg c3, if_neg c4, lt_def, ni_add1]
  rcases ru_cases hF F f with ⟨h1, ee⟩ | ⟨h1, h2, ee⟩ | ⟨a, bb, h1, ha, hb, ea, eb, h2⟩ | ⟨a, h1, ha, h2, ea, h3⟩
  · have h150 : f = 150 := by omega
    rw [if_pos h150, done 70 (by decide) (by decide) (by decide) (by decide), ee]
    exact ⟨x1, s1, D1, rfl, r1, z1, q1⟩
  · have hk : Kn τ f ≠ 75 ∧ Kn τ f ≠ 65 ∧ Kn τ f ≠ 67 ∧ Kn τ f ≠ 78 := by rcases h2 with k | k | k | k | k | k <;> rw [k] <;> decide
    rw [if_neg (show ¬ f = 150 by omega), done _ hk.1 hk.2.1 hk.2.2.1 hk.2.2.2, ee]
    exact ⟨x1, s1, D1, rfl, r1, z1, q1⟩
  · rw [if_neg (show ¬ f = 150 by omega)]
    unfold B_X7_rounds_57
    simp only [lt_def, gd_in (show f < 150 by omega) (by decide : (150 : Nat) < 2147483648), gd_in hf151 (by decide : (151 : Nat) < 2147483648), ni_cl (show f < 2147483648 by omega)]
    rw [show s1.2.1 1 f = nI a from (r1.1.lf f).trans ea, show s1.2.1 2 f = nI bb from (r1.1.rt f).trans eb]
    simp only [gd_in (show a < 151 by omega) (by decide : (151 : Nat) < 2147483648), gd_in (show bb < 151 by omega) (by decide : (151 : Nat) < 2147483648), ni_cl (show a < 2147483648 by omega), ni_cl (show bb < 2147483648 by omega)]
    rw [(j3 f hf151).1, (j3 a (by omega)).1, (j3 bb (by omega)).1, ni_add1]
    have b1 := (j3 f hf151).2
    have b2 := (j3 a (by omega)).2
    have b3 := (j3 bb (by omega)).2
    rcases h2 with ⟨h2, ee⟩ | ⟨h2, ee⟩ | ⟨h2, ee⟩
    · rw [h2, if_pos rfl, show (1 : Int32) = nI 1 from rfl, ni_add, ni_add]
      have y1 : (f, [a, bb]) ∈ ruT n τ F f := by rw [ee]; simp
      have y2 : (a, [f]) ∈ ruT n τ F f := by rw [ee]; simp
      have y3 : (bb, [f]) ∈ ruT n τ F f := by rw [ee]; simp
      obtain ⟨c1, s2, o2, r2, q2⟩ := les_ok r1 hf151 (c := 1 + D1 a + D1 bb) (by omega) q1.y
      have z2 : dStp V (ruT n τ F) D1 (dRx D1 f (1 + D1 a + D1 bb)) [(f, [a, bb])] := by
        have := rx1 D1 (f, [a, bb]) y1
        have e9 : 1 + dSl D1 [a, bb] = 1 + D1 a + D1 bb := by show 1 + (D1 a + (D1 bb + 0)) = _; omega
        rw [e9] at this
        exact this
      rw [o2, bd_some]
      obtain ⟨l1, l2, l3⟩ := id r2
      generalize dRx D1 f (1 + D1 a + D1 bb) = D2 at r2 q2 z2 l3
      generalize x1 ||| c1 = x2 at q2
      rw [show s2.2.1 1 f = nI a from (r2.1.lf f).trans ea, (l3 f hf151).1, ni_add]
      obtain ⟨c2, s3, o3, r3, q3⟩ := les_ok r2 (show a < 151 by omega) (c := 1 + D2 f) (by have := (l3 f hf151).2; omega) q2.y
      have z3 : dStp V (ruT n τ F) D2 (dRx D2 a (1 + D2 f)) [(a, [f])] := by
        have := rx1 D2 (a, [f]) y2
        have e9 : 1 + dSl D2 [f] = 1 + D2 f := by show 1 + (D2 f + 0) = _; omega
        rw [e9] at this
        exact this
      rw [o3, bd_some]
      obtain ⟨n1, n2, n3⟩ := id r3
      generalize dRx D2 a (1 + D2 f) = D3 at r3 q3 z3 n3
      generalize x2 ||| c2 = x3 at q3
      rw [show s3.2.1 2 f = nI bb from (r3.1.rt f).trans eb, (n3 f hf151).1, ni_add]
      obtain ⟨c3, s4, o4, r4, q4⟩ := les_ok r3 (show bb < 151 by omega) (c := 1 + D3 f) (by have := (n3 f hf151).2; omega) q3.y
      have z4 : dStp V (ruT n τ F) D3 (dRx D3 bb (1 + D3 f)) [(bb, [f])] := by
        have := rx1 D3 (bb, [f]) y3
        have e9 : 1 + dSl D3 [f] = 1 + D3 f := by show 1 + (D3 f + 0) = _; omega
        rw [e9] at this
        exact this
      rw [o4, bd_some, ee]
      have w2 := st z1 z2 (s1m m0) (s1m y1)
      have w3 := st w2 z3 (fun x hx => by rcases List.mem_append.mp hx with hx | hx; exact s1m m0 x hx; exact s1m y1 x hx) (s1m y2)
      have w4 := st w3 z4 (fun x hx => by rcases List.mem_append.mp hx with hx | hx; rcases List.mem_append.mp hx with hx | hx; exact s1m m0 x hx; exact s1m y1 x hx; exact s1m y2 x hx) (s1m y3)
      exact ⟨x3 ||| c3, s4, _, rfl, r4, w4, (q1.tr q2 z1.1 z2.1).tr (q3.tr q4 z3.1 z4.1) w2.1 (z4.1.tr z3.1)⟩
    · rw [h2, if_neg (by decide), if_pos rfl]
      have y1 : (f, [a]) ∈ ruT n τ F f := by rw [ee]; simp
      have y2 : (f, [bb]) ∈ ruT n τ F f := by rw [ee]; simp
      have emin : (if nI (D1 bb) < nI (D1 a) then nI (D1 bb) else nI (D1 a)) = nI (min (D1 a) (D1 bb)) := by
        by_cases h : D1 bb < D1 a
        · rw [if_pos (nI_lt h (by omega)), Nat.min_eq_right (by omega)]
        · rw [if_neg (nI_nlt (by omega) (by omega)), Nat.min_eq_left (by omega)]
      have hmn : min (D1 a) (D1 bb) ≤ D1 a := Nat.min_le_left _ _
      have hmn2 : min (D1 a) (D1 bb) ≤ D1 bb := Nat.min_le_right _ _
      rw [emin, show (1 : Int32) = nI 1 from rfl, ni_add]
      obtain ⟨c1, s2, o2, r2, q2⟩ := les_ok r1 hf151 (c := 1 + min (D1 a) (D1 bb)) (by omega) q1.y
      have z2 : dStp V (ruT n τ F) D1 (dRx D1 f (1 + min (D1 a) (D1 bb))) [(f, [a]), (f, [bb])] := by
        have p1 := rx1 D1 (f, [a]) y1
        have p2 := rx1 D1 (f, [bb]) y2
        have e1 : 1 + dSl D1 [a] = 1 + D1 a := by show 1 + (D1 a + 0) = _; omega
        have e2 : 1 + dSl D1 [bb] = 1 + D1 bb := by show 1 + (D1 bb + 0) = _; omega
        rw [e1] at p1
        rw [e2] at p2
        refine ⟨dRx_le, fun E hE hED v hv => ?_, fun x hx => ?_⟩
        · have g1 := p1.2.1 E hE hED v hv
          have g2 := p2.2.1 E hE hED v hv
          by_cases hvf : v = f
          · subst hvf
            rw [dRx_t] at g1 g2 ⊢
            have g3 := Nat.le_min.mp g1
            have g4 := Nat.le_min.mp g2
            refine Nat.le_min.mpr ⟨g3.1, ?_⟩
            rcases Nat.le_total (D1 a) (D1 bb) with h | h
            · rw [Nat.min_eq_left h]; exact g3.2
            · rw [Nat.min_eq_right h]; exact g4.2
          · rw [dRx_ne hvf] at g1 ⊢; exact g1
        · rcases List.mem_cons.mp hx with rfl | hx
          · show dRx D1 f _ f ≤ 1 + (D1 a + 0)
            rw [dRx_t]
            have := Nat.min_le_right (D1 f) (1 + min (D1 a) (D1 bb))
            omega
          · rw [List.mem_singleton] at hx
            subst hx
            show dRx D1 f _ f ≤ 1 + (D1 bb + 0)
            rw [dRx_t]
            have := Nat.min_le_right (D1 f) (1 + min (D1 a) (D1 bb))
            omega
      rw [o2, bd_some, ee]
      have w2 := st z1 z2 (s1m m0) (fun x hx => by rcases List.mem_cons.mp hx with rfl | hx; exact y1; exact s1m y2 x hx)
      exact ⟨x1 ||| c1, s2, _, rfl, r2, w2, q1.tr q2 z1.1 z2.1⟩
    · rw [h2, if_neg (by decide), if_neg (by decide), if_pos rfl, show (1 : Int32) = nI 1 from rfl, ni_add, ni_add]
      have y1 : (bb, [f, a]) ∈ ruT n τ F f := by rw [ee]; simp
      obtain ⟨c1, s2, o2, r2, q2⟩ := les_ok r1 (show bb < 151 by omega) (c := 1 + D1 f + D1 a) (by omega) q1.y
      have z2 : dStp V (ruT n τ F) D1 (dRx D1 bb (1 + D1 f + D1 a)) [(bb, [f, a])] := by
        have := rx1 D1 (bb, [f, a]) y1
        have e9 : 1 + dSl D1 [f, a] = 1 + D1 f + D1 a := by show 1 + (D1 f + (D1 a + 0)) = _; omega
        rw [e9] at this
        exact this
      rw [o2, bd_some, ee]
      have w2 := st z1 z2 (s1m m0) (s1m y1)
      exact ⟨x1 ||| c1, s2, _, rfl, r2, w2, q1.tr q2 z1.1 z2.1⟩
  · rw [if_neg (show ¬ f = 150 by omega)]
    unfold B_X7_rounds_57
    simp only [lt_def, gd_in (show f < 150 by omega) (by decide : (150 : Nat) < 2147483648), gd_in hf151 (by decide : (151 : Nat) < 2147483648), ni_cl (show f < 2147483648 by omega)]
    rw [h2, if_neg (by decide), if_neg (by decide), if_neg (by decide), if_pos rfl]
    rw [show s1.2.1 1 f = nI a from (r1.1.lf f).trans ea]
    simp only [gd_in (show a < 151 by omega) (by decide : (151 : Nat) < 2147483648), ni_cl (show a < 2147483648 by omega)]
    rw [(j3 f hf151).1, (j3 a (by omega)).1, ni_add1, show (1 : Int32) = nI 1 from rfl, ni_add, ni_add]
    have b1 := (j3 f hf151).2
    have b2 := (j3 a (by omega)).2
    have y1 : (F, [f, a]) ∈ ruT n τ F f := by
      rcases h3 with ⟨-, ee⟩ | ⟨c, -, -, -, ee⟩ <;> rw [ee] <;> simp
    obtain ⟨c1, s2, o2, r2, q2⟩ := les_ok r1 hFF (c := 1 + D1 f + D1 a) (by omega) q1.y
    have z2 : dStp V (ruT n τ F) D1 (dRx D1 F (1 + D1 f + D1 a)) [(F, [f, a])] := by
      have := rx1 D1 (F, [f, a]) y1
      have e9 : 1 + dSl D1 [f, a] = 1 + D1 f + D1 a := by show 1 + (D1 f + (D1 a + 0)) = _; omega
      rw [e9] at this
      exact this
    rw [o2, bd_some]
    obtain ⟨l1, l2, l3⟩ := id r2
    generalize dRx D1 F (1 + D1 f + D1 a) = D2 at r2 q2 z2 l3
    generalize x1 ||| c1 = x2 at q2
    rw [show s2.2.1 1 f = nI a from (r2.1.lf f).trans ea]
    simp only [gd_in (show a < 150 by omega) (by decide : (150 : Nat) < 2147483648), ni_cl (show a < 2147483648 by omega)]
    rw [show s2.2.1 0 a = Kn τ a from r2.1.kn a]
    have w2 := st z1 z2 (s1m m0) (s1m y1)
    rcases h3 with ⟨h3, ee⟩ | ⟨c, hc, h3, ec', ee⟩
    · rw [if_neg h3, ee]
      exact ⟨x2, s2, D2, rfl, r2, w2, q1.tr q2 z1.1 z2.1⟩
    · rw [if_pos h3, show s2.2.1 1 a = nI c from (r2.1.lf a).trans ec', (l3 f hf151).1, ni_add]
      have y2 : (c, [f]) ∈ ruT n τ F f := by rw [ee]; simp
      obtain ⟨c2, s3, o3, r3, q3⟩ := les_ok r2 (show c < 151 by omega) (c := 1 + D2 f) (by have := (l3 f hf151).2; omega) q2.y
      have z3 : dStp V (ruT n τ F) D2 (dRx D2 c (1 + D2 f)) [(c, [f])] := by
        have := rx1 D2 (c, [f]) y2
        have e9 : 1 + dSl D2 [f] = 1 + D2 f := by show 1 + (D2 f + 0) = _; omega
        rw [e9] at this
        exact this
      rw [o3, bd_some, ee]
      have w3 := st w2 z3 (fun x hx => by rcases List.mem_append.mp hx with hx | hx; exact s1m m0 x hx; exact s1m y1 x hx) (s1m y2)
      exact ⟨x2 ||| c2, s3, _, rfl, r3, w3, (q1.tr q2 z1.1 z2.1).tr q3 w2.1 z3.1⟩
/-- one round of the reference -/
theorem round_t (hF : FW n σ τ) {F : Nat} (hFF : F < 151) (hFn : F < n ∨ F = 150) {V : Nat → Prop} {vw : Nat → Int32} (hw : Vw01 n F vw) (hV : ∀ f, f < 151 → (V f ↔ vw f = 1)) : ∀ (d j N : Nat) (s : MS) (D : Nat → Nat) (x : Int32), j + d = 151 → d < N → (x = 0 ∨ x = 1) → RX τ vw s D → ∃ y s' D', L_X7_rounds_4 N s (nI F) x (nI j) = some (.inl y, s') ∧ RX τ vw s' D' ∧ dStp V (ruT n τ F) D D' (ruL vw (ruT n τ F) d j) ∧ Mo x D y D' := by
  have hle := hF.le
  have hO := ru_ok hF hFF V
  intro d
  induction d with
  | zero =>
    intro j N s D x hj hN hx hI
    obtain ⟨N, rfl⟩ : ∃ M, N = M + 1 := ⟨N - 1, by omega⟩
    have hj : j = 151 := hj
    subst hj
    refine ⟨x, s, D, ?_, hI, dStp.rf, Mo.rf hx D⟩
    show B_X7_rounds_4 _ s (nI F) x (nI 151) = _
    unfold B_X7_rounds_4
    rw [if_pos (by decide), gc_t hx]
  | succ d ih =>
    intro j N s D x hj hN hx hI
    obtain ⟨N, rfl⟩ : ∃ M, N = M + 1 := ⟨N - 1, by omega⟩
    have hst : ruL vw (ruT n τ F) (d + 1) j = (if vw j = 1 then ruT n τ F j else []) ++ ruL vw (ruT n τ F) d (j + 1) := rfl
    rw [hst]
    show ∃ y s' D', B_X7_rounds_4 (L_X7_rounds_4 N) s (nI F) x (nI j) = some (.inl y, s') ∧ _
    obtain ⟨hw1, hw2⟩ := hw j (by omega)
    rcases hw1 with h0 | h1
    · rw [if_neg (by rw [h0]; decide)]
      have e0 : B_X7_rounds_4 (L_X7_rounds_4 N) s (nI F) x (nI j) = L_X7_rounds_4 N s (nI F) x (nI (j + 1)) := by
        unfold B_X7_rounds_4
        rw [show (150 : Int32) = nI 150 from rfl, if_neg (nI_nlt (by omega) (by decide)), gd_in (by omega) (by decide), ni_cl (by omega), hI.2.1, if_pos h0, lt_def, ni_add1]
      rw [e0]
      exact ih (j + 1) N s D x (by omega) (by omega) hx hI
    · rw [if_pos h1]
      obtain ⟨y1, s1, D1, a1, a2, a3, a4⟩ := form_t hF hFF hFn (L_X7_rounds_4 N) (hw2 h1) ((hV j (by omega)).mpr h1) h1 hx hI
      obtain ⟨y2, s2, D2, b1, b2, b3, b4⟩ := ih (j + 1) N s1 D1 y1 (by omega) (by omega) a4.y a2
      rw [a1]
      exact ⟨y2, s2, D2, b1, b2, a3.tr b3 (fun x hx => (hO j (by omega) ((hV j (by omega)).mpr h1) x hx).1) (fun y hy => (ruL_ok hV hO d (j + 1) (by omega) y hy).2), a4.tr b4 a3.1 b3.1⟩
end ROUNDT
