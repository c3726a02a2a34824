/-! DISTANCES: the class's queue -/
/-- before in the queue: not farther, and another one -/
def Bf (D : Nat → Nat) (a b : Nat) : Prop := D a ≤ D b ∧ a ≠ b
def fin (D : Nat → Nat) : Nat := sm 151 (fun v => if D v < 10000 then 1 else 0)
/-- the queue: P has been taken, U waits -/
def QU (s : DS) (D : Nat → Nat) (P U : List Nat) : Prop := s.1 6 = nI P.length ∧ s.1 7 = nI (P.length + U.length) ∧ Occ (s.2 28) 0 ((P ++ U).map nI) ∧ (P ++ U).Pairwise (Bf D) ∧ (∀ v, v < 151 → (D v < 10000 ↔ v ∈ P ++ U)) ∧ (∀ v ∈ P ++ U, v < 151) ∧ P.length + U.length = fin D
theorem fin_le (D : Nat → Nat) : fin D ≤ 151 := by
  have := sm_le (g := fun v => if D v < 10000 then 1 else 0) (h := fun _ => 1) 151 fun v _ => by
    show (if D v < 10000 then 1 else 0) ≤ 1
    split <;> omega
  rw [sm_c] at this
  exact this
theorem sm_upd1 {g h : Nat → Nat} {t : Nat} : ∀ (k : Nat), t < k → (∀ v, v ≠ t → h v = g v) → h t = g t + 1 → sm k h = sm k g + 1
  | 0, ht, _, _ => absurd ht (Nat.not_lt_zero t)
  | k + 1, ht, H, e => by
    show sm k h + h k = sm k g + g k + 1
    by_cases hk : t = k
    · subst hk
      rw [sm_eq t fun v hv => H v (by omega), e]
      omega
    · rw [sm_upd1 k (by omega) H e, H k (fun h => hk h.symm)]
      omega
theorem fin_new {D : Nat → Nat} {t c : Nat} (ht : t < 151) (hD : ¬ D t < 10000) (hc : c < 10000) : fin (dRx D t c) = fin D + 1 := by
  refine sm_upd1 151 ht (fun v hv => ?_) ?_
  · rw [dRx_ne hv]
  · show (if dRx D t c t < 10000 then 1 else 0) = (if D t < 10000 then 1 else 0) + 1
    rw [dRx_t, if_neg hD, if_pos (Nat.lt_of_le_of_lt (Nat.min_le_right _ _) hc)]
theorem fin_old {D : Nat → Nat} {t c : Nat} (hD : D t < 10000) : fin (dRx D t c) = fin D := by
  refine sm_eq 151 fun v _ => ?_
  by_cases h : v = t
  · subst h
    rw [dRx_t, if_pos hD, if_pos (Nat.lt_of_le_of_lt (Nat.min_le_left _ _) hD)]
  · rw [dRx_ne h]
/-- one is put between those that are not farther and those that are not nearer -/
theorem pw_ins {D D' : Nat → Nat} {t c : Nat} {A B : List Nat} (h : (A ++ B).Pairwise (Bf D)) (hne : ∀ a ∈ A ++ B, a ≠ t) (hD : ∀ v, v ≠ t → D' v = D v) (ht : D' t = c) (hA : ∀ a ∈ A, D a ≤ c) (hB : ∀ b ∈ B, c ≤ D b) : (A ++ t :: B).Pairwise (Bf D') := by
  have mv : ∀ {L : List Nat}, (∀ a ∈ L, a ≠ t) → L.Pairwise (Bf D) → L.Pairwise (Bf D') := fun {L} hL hp => hp.imp_of_mem fun {a b} ha hb h => ⟨by rw [hD a (hL a ha), hD b (hL b hb)]; exact h.1, h.2⟩
  obtain ⟨h1, h2, h3⟩ := List.pairwise_append.mp h
  have nA : ∀ a ∈ A, a ≠ t := fun a ha => hne a (List.mem_append.mpr (Or.inl ha))
  have nB : ∀ a ∈ B, a ≠ t := fun a ha => hne a (List.mem_append.mpr (Or.inr ha))
  refine List.pairwise_append.mpr ⟨mv nA h1, List.pairwise_cons.mpr ⟨fun b hb => ⟨?_, (nB b hb).symm⟩, mv nB h2⟩, fun a ha b hb => ?_⟩
  · rw [ht, hD b (nB b hb)]; exact hB b hb
  · rcases List.mem_cons.mp hb with rfl | hb
    · exact ⟨by rw [ht, hD a (nA a ha)]; exact hA a ha, nA a ha⟩
    · exact ⟨by rw [hD a (nA a ha), hD b (nB b hb)]; exact (h3 a ha b hb).1, (h3 a ha b hb).2⟩
/-- only the queue has changed -/
def Q28 (s s' : DS) : Prop := s'.1 = s.1 ∧ ∀ k, k ≠ 28 → s'.2 k = s.2 k
section QUEUE
variable {n m q e : Nat} {σ : DS} {τ : MS}
/-- the hole goes forward -/
theorem mv_loop {P : List Nat} {t c : Nat} (ht : t < 151) {D' : Nat → Nat} (hc : D' t = c) (hc2 : c < 10000) : ∀ (d : Nat) (X Y : List Nat) (N : Nat) (s : DS), X.length = d → d < N → P.length + X.length + Y.length < 151 → (∀ x ∈ X, x < 151 ∧ D' x < 10000) → s.1 6 = nI P.length → SDd (s.2 27) D' → Occ (s.2 28) 0 ((P ++ X).map nI) → Occ (s.2 28) (P.length + X.length + 1) (Y.map nI) → ∃ s' X1 X2, X = X1 ++ X2 ∧ L_X4_moveForward_28 N s (nI t) (nI (P.length + X.length)) = some (.inl (), s') ∧ Q28 s s' ∧ Occ (s'.2 28) 0 ((P ++ X1 ++ t :: (X2 ++ Y)).map nI) ∧ (∀ x ∈ X2, c < D' x) ∧ (X1 = [] ∨ ∃ Z u, X1 = Z ++ [u] ∧ D' u ≤ c) := by
  have stop : ∀ (X Y : List Nat) (s : DS), P.length + X.length + Y.length < 151 → Occ (s.2 28) 0 ((P ++ X).map nI) → Occ (s.2 28) (P.length + X.length + 1) (Y.map nI) → Q28 s (sR s 28 (rput 151 (s.2 28) (nI (P.length + X.length)) (nI t))) ∧ Occ ((sR s 28 (rput 151 (s.2 28) (nI (P.length + X.length)) (nI t))).2 28) 0 ((P ++ X ++ t :: ([] ++ Y)).map nI) := fun X Y s hl o1 o2 => by
    refine ⟨⟨rfl, fun k hk => by rw [sR_2, if_neg hk]⟩, ?_⟩
    rw [sR_2, if_pos rfl, rput_in (by omega) (by decide), List.map_append]
    have hlen : ((P ++ X).map nI).length = P.length + X.length := by rw [List.length_map, List.length_append]
    refine occ_app.mpr ⟨occ_ext o1 fun j _ hj => upd_ne _ (by rw [hlen] at hj; omega) _, ?_, ?_⟩
    · rw [hlen, Nat.zero_add]; exact upd_eq _ _ _
    · rw [hlen, Nat.zero_add]
      exact occ_ext o2 fun j hj _ => upd_ne _ (by omega) _
  intro d
  induction d with
  | zero =>
    intro X Y N s hX hN hl hx h6 hD o1 o2
    obtain ⟨N, rfl⟩ : ∃ M, N = M + 1 := ⟨N - 1, by omega⟩
    have : X = [] := List.eq_nil_of_length_eq_zero hX
    subst this
    obtain ⟨s1, s2⟩ := stop [] Y s hl o1 o2
    refine ⟨_, [], [], rfl, ?_, s1, s2, fun x hx => absurd hx (List.not_mem_nil), Or.inl rfl⟩
    show B_X4_moveForward_28 _ s (nI t) (nI (P.length + 0)) = _
    unfold B_X4_moveForward_28
    have hl0 : P.length + 0 + Y.length < 151 := hl
    rw [h6, Nat.add_zero, if_pos (nI_le (Nat.le_refl P.length) (by omega)), lt_def]
    rfl
  | succ d ih =>
    intro X Y N s hX hN hl hx h6 hD o1 o2
    obtain ⟨N, rfl⟩ : ∃ M, N = M + 1 := ⟨N - 1, by omega⟩
    rcases List.eq_nil_or_concat X with rfl | ⟨Z, u, rfl⟩
    · exact absurd hX.symm (Nat.succ_ne_zero d)
    · rw [List.concat_eq_append] at hX hl hx o1 o2 ⊢
      have hZ : (Z ++ [u]).length = Z.length + 1 := by rw [List.length_append]; rfl
      rw [hZ] at hX hl o2 ⊢
      obtain ⟨hu1, hu2⟩ := hx u (List.mem_append.mpr (Or.inr (List.mem_singleton.mpr rfl)))
      have ou : s.2 28 (P.length + Z.length) = nI u := by
        rw [← List.append_assoc, List.map_append] at o1
        obtain ⟨-, o, -⟩ := occ_app.mp o1
        rw [List.length_map, List.length_append, Nat.zero_add] at o
        exact o
      have e0 : L_X4_moveForward_28 (N + 1) s (nI t) (nI (P.length + (Z.length + 1))) = if D' u ≤ c then some (.inl (), sR s 28 (rput 151 (s.2 28) (nI (P.length + (Z.length + 1))) (nI t))) else L_X4_moveForward_28 N (sR s 28 (upd (s.2 28) (P.length + Z.length + 1) (nI u))) (nI t) (nI (P.length + Z.length)) := by
        show B_X4_moveForward_28 _ s (nI t) (nI (P.length + (Z.length + 1))) = _
        unfold B_X4_moveForward_28
        simp only [lt_def]
        rw [h6, if_neg (nI_ge (by omega) (by omega)), ni_am1, ni_sub1 (by omega), show P.length + (Z.length + 1) - 1 = P.length + Z.length by omega, rat_in (show P.length + Z.length < 151 by omega) (by decide), ou, rat_in hu1 (by decide), rat_in ht (by decide), (hD u hu1).1, (hD t ht).1, hc, ec_lt hu2, ec_lt hc2, rput_in (show P.length + (Z.length + 1) < 151 by omega) (by decide), rput_in (show P.length + (Z.length + 1) < 151 by omega) (by decide)]
        by_cases h : D' u ≤ c
        · rw [if_pos h, if_pos (nI_le h (by omega))]
        · rw [if_neg h, if_neg (nI_ge (by omega) (by omega))]
          rfl
      rw [e0]
      by_cases h : D' u ≤ c
      · rw [if_pos h]
        obtain ⟨s1, s2⟩ := stop (Z ++ [u]) Y s (by rw [hZ]; exact hl) o1 (by rw [hZ]; exact o2)
        rw [hZ] at s1 s2
        exact ⟨_, Z ++ [u], [], (List.append_nil _).symm, rfl, s1, s2, fun x hx => absurd hx (List.not_mem_nil), Or.inr ⟨Z, u, rfl, h⟩⟩
      · rw [if_neg h]
        have o1' : Occ (s.2 28) 0 ((P ++ Z).map nI) := by
          rw [← List.append_assoc, List.map_append] at o1
          exact (occ_app.mp o1).1
        obtain ⟨s', X1, X2, g1, g2, g3, g4, g5, g6⟩ := ih Z (u :: Y) N (sR s 28 (upd (s.2 28) (P.length + Z.length + 1) (nI u))) (by omega) (by omega) (by rw [List.length_cons]; omega) (fun x hx' => hx x (List.mem_append.mpr (Or.inl hx'))) h6 hD (by
          rw [sR_2, if_pos rfl]
          refine occ_ext o1' fun j _ hj => upd_ne _ ?_ _
          rw [List.length_map, List.length_append] at hj
          omega) (by
          rw [sR_2, if_pos rfl]
          exact ⟨upd_eq _ _ _, occ_ext o2 fun j hj _ => upd_ne _ (by omega) _⟩)
        refine ⟨s', X1, X2 ++ [u], by rw [← List.append_assoc, ← g1], g2, ⟨g3.1, fun k hk => by rw [g3.2 k hk, sR_2, if_neg hk]⟩, ?_, fun x hx => ?_, g6⟩
        · rw [List.append_assoc X2]
          exact g4
        · rcases List.mem_append.mp hx with hx | hx
          · exact g5 x hx
          · rw [List.mem_singleton] at hx
            subst hx
            omega
/-- a place is found -/
theorem place_loop {t : Nat} (ht : t < 151) : ∀ (X Z A : List Nat) (N : Nat) (s : DS), X.length < N → A.length + X.length + Z.length < 151 → (∀ x ∈ X, x < 151 ∧ x ≠ t) → s.1 7 = nI (A.length + X.length + Z.length + 1) → Occ (s.2 28) A.length ((X ++ t :: Z).map nI) → L_X4_placeInQueue_5 N s (nI t) (nI A.length) = some (.inl (nI (A.length + X.length)), s)
  | [], Z, A, N, s, hN, hl, hx, h7, ho => by
    obtain ⟨N, rfl⟩ : ∃ M, N = M + 1 := ⟨N - 1, by omega⟩
    have hl : A.length + 0 + Z.length < 151 := hl
    have h7 : s.1 7 = nI (A.length + 0 + Z.length + 1) := h7
    show B_X4_placeInQueue_5 _ s (nI t) (nI A.length) = _
    unfold B_X4_placeInQueue_5
    rw [h7, if_neg (nI_ge (by omega) (by omega)), rat_in (by omega) (by decide), if_pos ho.1]
    rfl
  | x :: X, Z, A, N, s, hN, hl, hx, h7, ho => by
    obtain ⟨N, rfl⟩ : ∃ M, N = M + 1 := ⟨N - 1, by omega⟩
    rw [List.length_cons] at hl h7 hN
    obtain ⟨hx1, hx2⟩ := hx x (List.mem_cons_self ..)
    have ih := place_loop ht X Z (A ++ [x]) N s (by omega) (by rw [List.length_append, List.length_singleton]; omega) (fun y hy => hx y (List.mem_cons_of_mem _ hy)) (by rw [h7, List.length_append, List.length_singleton]; congr 1; omega) (by rw [List.length_append, List.length_singleton]; exact ho.2)
    rw [List.length_append, List.length_singleton] at ih
    rw [List.length_cons, show A.length + (X.length + 1) = A.length + 1 + X.length by omega, ← ih]
    show B_X4_placeInQueue_5 _ s (nI t) (nI A.length) = _
    unfold B_X4_placeInQueue_5
    rw [h7, if_neg (nI_ge (by omega) (by omega)), rat_in (by omega) (by decide), show s.2 28 A.length = nI x from ho.1, if_neg (by rw [ni_eq (by omega) (by omega)]; exact hx2), lt_def, ni_add1]
/-- an offer, with the queue -/
theorem off_q {s : DS} {D : Nat → Nat} {P U : List Nat} (h27 : SDd (s.2 27) D) (h8 : s.1 8 = 1) (hQ : QU s D P U) {t c : Nat} (ht : t < 151) (hP : c < D t → (∀ v ∈ P, D v ≤ c) ∧ t ∉ P) : ∃ s' U', P_X4_offer s (nI t) (ec c) = some (.inl (), s') ∧ SDd (s'.2 27) (dRx D t c) ∧ QU s' (dRx D t c) P U' ∧ (∀ k, k ≠ 7 → k ≠ 10 → s'.1 k = s.1 k) ∧ ∀ k, k ≠ 27 → k ≠ 28 → s'.2 k = s.2 k := by
  rcases offer_cases h27 ht c with ⟨g1, g2⟩ | ⟨g1, g2, g3⟩
  · exact ⟨s, U, g2, by rw [dRx_id g1]; exact h27, by rw [dRx_id g1]; exact hQ, fun _ _ _ => rfl, fun _ _ _ => rfl⟩
  · obtain ⟨q1, q2, q3, q4, q5, q6, q7⟩ := hQ
    obtain ⟨p1, p2⟩ := hP g1
    have hfl := fin_le D
    have hD' : SDd (upd (s.2 27) t (nI c)) (dRx D t c) := put_sd h27 g1 g2
    have hct : dRx D t c t = c := by rw [dRx_t]; exact Nat.min_eq_right (Nat.le_of_lt g1)
    rw [g3]
    unfold B_X4_offer_24
    rw [lt_def, lt_def, rput_in ht (by decide)]
    obtain ⟨s1, hs1⟩ : ∃ s1, s1 = sI (sR s 27 (upd (s.2 27) t (nI c))) 10 ((sR s 27 (upd (s.2 27) t (nI c))).1 10 + 1) := ⟨_, rfl⟩
    rw [← hs1]
    have a1 : ∀ k, k ≠ 10 → s1.1 k = s.1 k := fun k hk => by rw [hs1, sI_1, if_neg hk]; rfl
    have a2 : ∀ k, k ≠ 27 → s1.2 k = s.2 k := fun k hk => by rw [hs1, sI_2, sR_2, if_neg hk]
    have a27 : s1.2 27 = upd (s.2 27) t (nI c) := by rw [hs1, sI_2, sR_2, if_pos rfl]
    rw [if_neg (by rw [a1 8 (by decide), h8]; decide)]
    obtain ⟨w1, w2, w3⟩ := List.pairwise_append.mp q4
    by_cases hnew : D t < 10000
    · -- it waits already
      have hin : t ∈ P ++ U := (q5 t ht).mp hnew
      have hU : t ∈ U := by
        rcases List.mem_append.mp hin with h | h
        · exact absurd h p2
        · exact h
      obtain ⟨X, Z, rfl⟩ := List.append_of_mem hU
      have hlen : (X ++ t :: Z).length = X.length + Z.length + 1 := by rw [List.length_append, List.length_cons]; omega
      rw [hlen] at q2 q7
      obtain ⟨x1, x2, x3⟩ := List.pairwise_append.mp w2
      obtain ⟨x4, x5⟩ := List.pairwise_cons.mp x2
      have hXt : ∀ x ∈ X, x < 151 ∧ x ≠ t := fun x hx => ⟨q6 x (List.mem_append.mpr (Or.inr (List.mem_append.mpr (Or.inl hx)))), (x3 x hx t (List.mem_cons_self ..)).2⟩
      have hZt : ∀ z ∈ Z, z ≠ t := fun z hz => (x4 z hz).2.symm
      have hPt : ∀ v ∈ P, v ≠ t := fun v hv h => p2 (h ▸ hv)
      have o1 : Occ (s1.2 28) 0 ((P ++ (X ++ t :: Z)).map nI) := by rw [a2 28 (by decide)]; exact q3
      have oP := o1
      rw [List.map_append] at oP
      have oU := (occ_app.mp oP).2
      rw [List.length_map, Nat.zero_add] at oU
      have hpl := place_loop ht X Z P FU s1 (by unfold FU; omega) (by omega) hXt (by rw [a1 7 (by decide), q2]; congr 1; omega) oU
      have oX : Occ (s1.2 28) 0 ((P ++ X).map nI) := by
        rw [← List.append_assoc, List.map_append] at o1
        exact (occ_app.mp o1).1
      have oZ : Occ (s1.2 28) (P.length + X.length + 1) (Z.map nI) := by
        rw [← List.append_assoc, List.map_append] at o1
        have := (occ_app.mp o1).2.2
        rw [List.length_map, List.length_append, Nat.zero_add] at this
        exact this
      obtain ⟨s2, X1, X2, m1, m2, m3, m4, m5, m6⟩ := mv_loop (P := P) ht hct g2 X.length X Z FU s1 rfl (by unfold FU; omega) (by omega) (fun x hx => ⟨(hXt x hx).1, by rw [dRx_ne (hXt x hx).2]; exact (q5 x (hXt x hx).1).mpr (List.mem_append.mpr (Or.inr (List.mem_append.mpr (Or.inl hx))))⟩) (by rw [a1 6 (by decide)]; exact q1) (by rw [a27]; exact hD') oX oZ
      rw [ec_lt hnew, if_neg (ni_ne (by omega))]
      unfold P_X4_moveForward P_X4_placeInQueue
      rw [lt_def, if_pos rfl, lt_def, a1 6 (by decide), q1, hpl, bd_some, lt_def, m2, bd_some]
      subst m1
      have hX1 : ∀ x ∈ X1, x ≠ t := fun x hx => (hXt x (List.mem_append.mpr (Or.inl hx))).2
      have hX2 : ∀ x ∈ X2, x ≠ t := fun x hx => (hXt x (List.mem_append.mpr (Or.inr hx))).2
      obtain ⟨y1, y2, y3⟩ := List.pairwise_append.mp x1
      -- the queue without t
      have hno : (P ++ X1 ++ (X2 ++ Z)).Pairwise (Bf D) := by
        have hsub : (P ++ X1 ++ (X2 ++ Z)).Sublist (P ++ (X1 ++ X2 ++ t :: Z)) := by
          rw [List.append_assoc, List.append_assoc]
          exact (List.Sublist.refl P).append ((List.Sublist.refl X1).append ((List.Sublist.refl X2).append (List.sublist_cons_self t Z)))
        exact q4.sublist hsub
      have hmem : ∀ v, v ∈ P ++ (X1 ++ t :: (X2 ++ Z)) ↔ v ∈ P ++ (X1 ++ X2 ++ t :: Z) := fun v => by
        simp only [List.mem_append, List.mem_cons]
        constructor
        · rintro (h | h | h | h | h)
          · exact Or.inl h
          · exact Or.inr (Or.inl (Or.inl h))
          · exact Or.inr (Or.inr (Or.inl h))
          · exact Or.inr (Or.inl (Or.inr h))
          · exact Or.inr (Or.inr (Or.inr h))
        · rintro (h | (h | h) | h | h)
          · exact Or.inl h
          · exact Or.inr (Or.inl h)
          · exact Or.inr (Or.inr (Or.inr (Or.inl h)))
          · exact Or.inr (Or.inr (Or.inl h))
          · exact Or.inr (Or.inr (Or.inr (Or.inr h)))
      refine ⟨s2, X1 ++ t :: (X2 ++ Z), rfl, ?_, ⟨?_, ?_, ?_, ?_, fun v hv => ?_, fun v hv => q6 v ((hmem v).mp hv), ?_⟩, fun k h7 h10 => ?_, fun k h27' h28 => ?_⟩
      · rw [m3.2 27 (by decide), a27]; exact hD'
      · rw [m3.1, a1 6 (by decide)]; exact q1
      · rw [m3.1, a1 7 (by decide), q2]
        congr 1
        simp only [List.length_append, List.length_cons]
        omega
      · rw [← List.append_assoc]; exact m4
      · rw [← List.append_assoc]
        refine pw_ins hno (fun a ha => ?_) (fun v hv => dRx_ne hv) hct (fun a ha => ?_) (fun b hb => ?_)
        · rcases List.mem_append.mp ha with ha | ha
          · rcases List.mem_append.mp ha with ha | ha
            · exact hPt a ha
            · exact hX1 a ha
          · rcases List.mem_append.mp ha with ha | ha
            · exact hX2 a ha
            · exact hZt a ha
        · rcases List.mem_append.mp ha with ha | ha
          · exact p1 a ha
          · rcases m6 with rfl | ⟨Z1, u, rfl, hu⟩
            · exact absurd ha (List.not_mem_nil)
            · have hut : u ≠ t := hX1 u (List.mem_append.mpr (Or.inr (List.mem_singleton.mpr rfl)))
              rw [dRx_ne hut] at hu
              rcases List.mem_append.mp ha with ha | ha
              · have := ((List.pairwise_append.mp y1).2.2 a ha u (List.mem_singleton.mpr rfl)).1
                omega
              · rw [List.mem_singleton] at ha
                subst ha; exact hu
        · rcases List.mem_append.mp hb with hb | hb
          · have := m5 b hb
            rw [dRx_ne (hX2 b hb)] at this
            omega
          · have := (x4 b hb).1
            omega
      · rw [hmem v, ← q5 v hv]
        by_cases hvt : v = t
        · subst hvt
          rw [hct]
          exact ⟨fun _ => hnew, fun _ => g2⟩
        · rw [dRx_ne hvt]
      · rw [fin_old hnew, ← q7]
        simp only [List.length_append, List.length_cons]
        omega
      · rw [m3.1, a1 k h10]
      · rw [m3.2 k h28, a2 k h27']
    · -- it is new
      have hout : ∀ v ∈ P ++ U, v ≠ t := fun v hv h => by
        subst h
        exact hnew ((q5 v ht).mpr hv)
      have hfn := fin_new ht hnew g2
      have hfl' := fin_le (dRx D t c)
      rw [ec_ge hnew, if_pos rfl]
      unfold P_X4_moveForward
      rw [lt_def, if_neg i10, lt_def, a1 7 (by decide), q2]
      obtain ⟨s2, hs2⟩ : ∃ s2, s2 = sI s1 7 (nI (P.length + U.length) + 1) := ⟨_, rfl⟩
      rw [← hs2]
      have c1 : ∀ k, k ≠ 7 → s2.1 k = s1.1 k := fun k hk => by rw [hs2, sI_1, if_neg hk]
      have c2 : s2.2 = s1.2 := by rw [hs2]; rfl
      have c7 : s2.1 7 = nI (P.length + U.length + 1) := by rw [hs2, sI_1, if_pos rfl, ni_add1]
      obtain ⟨s3, X1, X2, m1, m2, m3, m4, m5, m6⟩ := mv_loop (P := P) ht hct g2 U.length U [] FU s2 rfl (by unfold FU; omega) (by show P.length + U.length + 0 < 151; omega) (fun x hx => ⟨q6 x (List.mem_append.mpr (Or.inr hx)), by rw [dRx_ne (hout x (List.mem_append.mpr (Or.inr hx)))]; exact (q5 x (q6 x (List.mem_append.mpr (Or.inr hx)))).mpr (List.mem_append.mpr (Or.inr hx))⟩) (by rw [c1 6 (by decide), a1 6 (by decide)]; exact q1) (by rw [c2, a27]; exact hD') (by rw [c2, a2 28 (by decide)]; exact q3) trivial
      rw [m2, bd_some]
      subst m1
      rw [List.append_nil] at m4
      refine ⟨s3, X1 ++ t :: X2, rfl, ?_, ⟨?_, ?_, ?_, ?_, fun v hv => ?_, fun v hv => ?_, ?_⟩, fun k h7 h10 => ?_, fun k h27' h28 => ?_⟩
      · rw [m3.2 27 (by decide), c2, a27]; exact hD'
      · rw [m3.1, c1 6 (by decide), a1 6 (by decide)]; exact q1
      · rw [m3.1, c7]
        congr 1
        simp only [List.length_append, List.length_cons]
        omega
      · rw [← List.append_assoc]; exact m4
      · rw [← List.append_assoc]
        refine pw_ins (by rw [List.append_assoc]; exact q4) (fun a ha => hout a (by rw [List.append_assoc] at ha; exact ha)) (fun v hv => dRx_ne hv) hct (fun a ha => ?_) (fun b hb => ?_)
        · rcases List.mem_append.mp ha with ha | ha
          · exact p1 a ha
          · rcases m6 with rfl | ⟨Z1, u, rfl, hu⟩
            · exact absurd ha (List.not_mem_nil)
            · have hut : u ≠ t := hout u (List.mem_append.mpr (Or.inr (List.mem_append.mpr (Or.inl (List.mem_append.mpr (Or.inr (List.mem_singleton.mpr rfl)))))))
              rw [dRx_ne hut] at hu
              rcases List.mem_append.mp ha with ha | ha
              · have := ((List.pairwise_append.mp (List.pairwise_append.mp w2).1).2.2 a ha u (List.mem_singleton.mpr rfl)).1
                omega
              · rw [List.mem_singleton] at ha
                subst ha; exact hu
        · have := m5 b hb
          rw [dRx_ne (hout b (List.mem_append.mpr (Or.inr (List.mem_append.mpr (Or.inr hb)))))] at this
          omega
      · by_cases hvt : v = t
        · subst hvt
          rw [hct]
          exact ⟨fun _ => by simp, fun _ => g2⟩
        · rw [dRx_ne hvt, q5 v hv]
          simp only [List.mem_append, List.mem_cons, hvt, false_or]
      · simp only [List.mem_append, List.mem_cons] at hv
        rcases hv with h | h | h | h
        · exact q6 v (List.mem_append.mpr (Or.inl h))
        · exact q6 v (List.mem_append.mpr (Or.inr (List.mem_append.mpr (Or.inl h))))
        · rw [h]; exact ht
        · exact q6 v (List.mem_append.mpr (Or.inr (List.mem_append.mpr (Or.inr h))))
      · rw [hfn, ← q7]
        simp only [List.length_append, List.length_cons]
        omega
      · rw [m3.1, c1 k h7, a1 k h10]
      · rw [m3.2 k h28, c2, a2 k h27']
end QUEUE
