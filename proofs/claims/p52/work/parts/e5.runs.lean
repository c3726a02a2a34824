/-! STEPS: what they keep, and how many they are -/
theorem tRun_no {t : TT} (e : tSt t = none) : ∀ (k : Nat), tRun k t = (0, t)
  | 0 => rfl
  | k + 1 => by
    show (match tSt t with | none => (0, t) | some t' => ((tRun k t').1 + 1, (tRun k t').2)) = _
    rw [e]
theorem tRun_s {t t' : TT} (e : tSt t = some t') (k : Nat) : tRun (k + 1) t = ((tRun k t').1 + 1, (tRun k t').2) := by
  show (match tSt t with | none => (0, t) | some t' => ((tRun k t').1 + 1, (tRun k t').2)) = _
  rw [e]
theorem tRun_st : ∀ (g g' : Nat) {t : TT}, tOk t → tG t true ≤ g → tG t true ≤ g' → tRun g t = tRun g' t
  | 0, g', t, ht, h, h' => by
    cases e : tSt t with
    | none => rw [tRun_no e, tRun_no e]
    | some t' => have := (tSt_ok ht e).2.2; omega
  | g + 1, 0, t, ht, h, h' => by
    cases e : tSt t with
    | none => rw [tRun_no e, tRun_no e]
    | some t' => have := (tSt_ok ht e).2.2; omega
  | g + 1, g' + 1, t, ht, h, h' => by
    cases e : tSt t with
    | none => rw [tRun_no e, tRun_no e]
    | some t' =>
      obtain ⟨i1, -, i3⟩ := tSt_ok ht e
      rw [tRun_s e, tRun_s e, tRun_st g g' i1 (by omega) (by omega)]
theorem tRun_end : ∀ (g : Nat) {t : TT}, tOk t → tG t true ≤ g → tSt (tRun g t).2 = none
  | 0, t, ht, h => by
    cases e : tSt t with
    | none => rw [tRun_no e]; exact e
    | some t' => have := (tSt_ok ht e).2.2; omega
  | g + 1, t, ht, h => by
    cases e : tSt t with
    | none => rw [tRun_no e]; exact e
    | some t' =>
      obtain ⟨i1, -, i3⟩ := tSt_ok ht e
      rw [tRun_s e]
      exact tRun_end g i1 (by omega)
/-- the steps and the normal form of a tree -/
def tCnt (t : TT) : Nat := (tRun (tG t true) t).1
def tNf (t : TT) : TT := (tRun (tG t true) t).2
theorem tCnt_0 {t : TT} (e : tSt t = none) : tCnt t = 0 := by unfold tCnt; rw [tRun_no e]
theorem tNf_0 {t : TT} (e : tSt t = none) : tNf t = t := by unfold tNf; rw [tRun_no e]
theorem tCnt_s {t t' : TT} (ht : tOk t) (e : tSt t = some t') : tCnt t = tCnt t' + 1 := by
  obtain ⟨i1, -, i3⟩ := tSt_ok ht e
  obtain ⟨k, hk⟩ : ∃ k, tG t true = k + 1 := ⟨tG t true - 1, by omega⟩
  unfold tCnt
  rw [hk, tRun_s e, tRun_st k (tG t' true) i1 (by omega) (Nat.le_refl _)]
theorem tNf_end {t : TT} (ht : tOk t) : tSt (tNf t) = none := tRun_end _ ht (Nat.le_refl _)
theorem tNf_ok {t : TT} (ht : tOk t) : tOk (tNf t) := (tRun_ok _ ht).1
/-- a step keeps what is true -/
theorem ev_step {L : Int32 → Bool} : ∀ {t t' : TT}, tOk t → tSt t = some t' → tEv L t' = tEv L t
  | .leaf c, _, _, e => by cases e
  | .branch p a b, t', h, e => by
    rcases tOk_c h with ⟨rfl, ha⟩ | ⟨rfl, h1, h2⟩ | ⟨hp, h1, h2⟩
    · rw [tSt_N] at e
      cases a with
      | leaf c => cases e
      | branch q x y =>
        have e : some _ = some t' := e
        rcases tOk_c ha with ⟨rfl, hx⟩ | ⟨rfl, h1, h2⟩ | ⟨rfl | rfl, h1, h2⟩
        · rw [if_pos rfl] at e
          cases e
          rw [tEv_N, tEv_N, Bool.not_not]
        · rw [if_neg (by decide), if_neg (by decide), if_neg (by decide)] at e
          cases e
          rw [tEv_tN, tEv_A, tEv_tN, tEv_N, tEv_C]
        · rw [if_neg (by decide), if_pos rfl] at e
          cases e
          rw [tEv_A, tEv_tN, tEv_tN, tEv_N, tEv_K, Bool.not_and]
        · rw [if_neg (by decide), if_neg (by decide), if_pos rfl] at e
          cases e
          rw [tEv_K, tEv_tN, tEv_tN, tEv_N, tEv_A, Bool.not_or]
    · rw [tSt_C] at e
      cases e
      rw [tEv_A, tEv_tN, tEv_C]
    · rw [tSt_B a b (by omega) (by omega)] at e
      cases ea : tSt a with
      | some a' =>
        rw [ea] at e
        have e : some (.branch p a' b) = some t' := e
        cases e
        have i := ev_step (L := L) h1 ea
        rcases hp with rfl | rfl
        · rw [tEv_K, tEv_K, i]
        · rw [tEv_A, tEv_A, i]
      | none =>
        cases eb : tSt b with
        | some b' =>
          rw [ea, eb] at e
          have e : some (.branch p a b') = some t' := e
          cases e
          have i := ev_step (L := L) h2 eb
          rcases hp with rfl | rfl
          · rw [tEv_K, tEv_K, i]
          · rw [tEv_A, tEv_A, i]
        | none =>
          rw [ea, eb] at e
          cases e
theorem ev_run {L : Int32 → Bool} : ∀ (g : Nat) {t : TT}, tOk t → tEv L (tRun g t).2 = tEv L t
  | 0, _, _ => rfl
  | g + 1, t, ht => by
    cases e : tSt t with
    | none => rw [tRun_no e]
    | some t' => rw [tRun_s e]; exact (ev_run g (tSt_ok ht e).1).trans (ev_step ht e)
theorem ev_nf {L : Int32 → Bool} {t : TT} (ht : tOk t) : tEv L (tNf t) = tEv L t := ev_run _ ht
/-! A TEXT THAT IS KNOWN is read -/
theorem tW_pre {t t' : TT} {u u' : List Int32} (h : tOk t) (h' : tOk t') (e : tW t ++ u = tW t' ++ u') : tW t = tW t' ∧ u = u' := by
  have := (ev_pre (L := fun _ => true) h h' e).2
  subst this
  exact ⟨List.append_cancel_right e, rfl⟩
section KNOWN
variable {n m q e : Nat} {σ σ' : DS} {τ τ' : MS}
theorem sw_leafI {k g : Nat} {c : Int32} (hc : leafK c) (h : Sw τ k g [c]) : Kn τ g = c ∧ Lf τ g = -1 ∧ Rt τ g = -1 := by
  cases k with
  | zero => exact h.elim
  | succ k =>
    rcases h with ⟨k1, k2, k3, k4⟩ | ⟨a, u, k1, -, -, -, -, k4⟩ | ⟨a, b, u, v, k1, -, -, -, -, -, -, k4⟩
    · exact ⟨(List.cons.inj k4).1.symm, k2, k3⟩
    · rw [← (List.cons.inj k4).1] at k1
      subst k1
      exact absurd hc (leaf_nop (p := 78) (Or.inl rfl))
    · rw [← (List.cons.inj k4).1] at k1
      exfalso
      rcases k1 with rfl | rfl | rfl
      · exact leaf_nop (p := 75) (Or.inr (Or.inl rfl)) hc
      · exact leaf_nop (p := 65) (Or.inr (Or.inr (Or.inl rfl))) hc
      · exact leaf_nop (p := 67) (Or.inr (Or.inr (Or.inr rfl))) hc
theorem sw_negI {k g : Nat} {w : List Int32} (h : Sw τ k g (78 :: w)) : ∃ a k', a < g ∧ Kn τ g = 78 ∧ Lf τ g = nI a ∧ Rt τ g = -1 ∧ Sw τ k' a w := by
  cases k with
  | zero => exact h.elim
  | succ k =>
    rcases h with ⟨k1, k2, k3, k4⟩ | ⟨a, u, k1, k2, k3, k5, k6, k4⟩ | ⟨a, b, u, v, k1, -, -, -, -, -, -, k4⟩
    · rw [← (List.cons.inj k4).1] at k1
      exact absurd k1 (leaf_nop (p := 78) (Or.inl rfl))
    · obtain ⟨-, rfl⟩ := List.cons.inj k4
      exact ⟨a, k, k2, k1, k3, k5, k6⟩
    · rw [← (List.cons.inj k4).1] at k1
      rcases k1 with k1 | k1 | k1 <;> exact absurd k1 (by decide)
theorem sw_binI {k g : Nat} {c : Int32} {a b : TT} (hc : binK c) (ha : tOk a) (hb : tOk b) (h : Sw τ k g (c :: (tW a ++ tW b))) : ∃ x y k', x < g ∧ y < g ∧ Kn τ g = c ∧ Lf τ g = nI x ∧ Rt τ g = nI y ∧ Sw τ k' x (tW a) ∧ Sw τ k' y (tW b) := by
  cases k with
  | zero => exact h.elim
  | succ k =>
    rcases h with ⟨k1, k2, k3, k4⟩ | ⟨x, u, k1, k2, k3, k5, k6, k4⟩ | ⟨x, y, u, v, k1, k2, k3, k5, k6, k7, k8, k4⟩
    · rw [← (List.cons.inj k4).1] at k1
      exfalso
      rcases hc with rfl | rfl | rfl
      · exact leaf_nop (p := 75) (Or.inr (Or.inl rfl)) k1
      · exact leaf_nop (p := 65) (Or.inr (Or.inr (Or.inl rfl))) k1
      · exact leaf_nop (p := 67) (Or.inr (Or.inr (Or.inr rfl))) k1
    · rw [← (List.cons.inj k4).1] at k1
      subst k1
      rcases hc with k1 | k1 | k1 <;> exact absurd k1 (by decide)
    · obtain ⟨e1, e2⟩ := List.cons.inj k4
      obtain ⟨ta, ha', rfl⟩ := sw_tree k7
      obtain ⟨z1, z2⟩ := tW_pre ha ha' e2
      rw [← z1] at k7
      rw [← z2] at k8
      exact ⟨x, y, k, k2, k3, e1.symm, k5, k6, k7, k8⟩
theorem made_known (h : FW n σ τ) {g : Nat} (hg : g < n) {c l r : Int32} (ec : Kn τ g = c) (el : Lf τ g = l) (er : Rt τ g = r) : P_X7_made τ c l r = some (.inl (nI g), τ) := by
  have hle := h.le
  have hs : Shp n c l r := by
    rcases (h.ent hg).sh with ⟨k, k1, k2⟩ | ⟨a, k, ha, k1, k2⟩ | ⟨a, b, k, ha, hb, k1, k2⟩
    · exact Or.inl ⟨by rw [← ec]; exact k, el.symm.trans k1, er.symm.trans k2⟩
    · exact Or.inr (Or.inl ⟨a, ec.symm.trans k, by omega, el.symm.trans k1, er.symm.trans k2⟩)
    · exact Or.inr (Or.inr ⟨a, b, by rw [← ec]; exact k, by omega, by omega, el.symm.trans k1, er.symm.trans k2⟩)
  obtain ⟨wl, hl, -⟩ := WdI.of h hs.l
  obtain ⟨wr, hr, -⟩ := WdI.of h hs.r
  have ll := (size_wd h hl).2
  have lr := (size_wd h hr).2
  obtain ⟨w, q1, q2, -⟩ := h.ent hg
  have q3 := Sw.mk hle hs hl hr ec el er (fun a ha ha2 => by
    rcases part_l h hg with z | ⟨b, hb, z⟩
    · rw [el, ha] at z; exact absurd z (ni_ne (by omega))
    · rw [el, ha, ni_eq (by omega) (by omega)] at z; omega) (fun a ha ha2 => by
    rcases part_r h hg with z | ⟨b, hb, z⟩
    · rw [er, ha] at z; exact absurd z (ni_ne (by omega))
    · rw [er, ha, ni_eq (by omega) (by omega)] at z; omega)
  have q4 := q1.det (by omega) q3
  have q5 : 1 + wl.length + wr.length ≤ 30 := by
    rw [q4, List.length_cons, List.length_append] at q2
    omega
  obtain ⟨v, -, f2, f3⟩ := find_ok h c l r
  rw [made_32 h hl hr]
  unfold B_X7_made_32
  rw [lt_def, f2, bd_some, lt_def, ni_add, show (30 : Int32) = nI 30 from rfl, if_neg (nI_nlt q5 (by decide))]
  rcases f3 with ⟨-, hno⟩ | ⟨f, hf, rfl, ek, el', er'⟩
  · exact absurd ⟨ec, el, er⟩ (hno g hg)
  · have : f = g := h.2.2.2.2 f g hf hg (ek.trans ec.symm) (el'.trans el.symm) (er'.trans er.symm)
    subst this
    unfold B_X7_made_69
    rw [if_neg (ni_ne (by omega)), if_neg (ni_ne (by omega))]
/-- the ghost reads a word that it knows -/
def R7 (τ τ' : MS) : Prop := τ'.2 = τ.2 ∧ ∀ k, k ≠ 7 → τ'.1 k = τ.1 k
theorem R7.sw (h : R7 τ τ') {k f : Nat} {w : List Int32} (hs : Sw τ k f w) : Sw τ' k f w := Sw.ext (n := f + 1) (fun _ _ => by show τ'.2.1 0 _ = _; rw [h.1]) (fun _ _ => by show τ'.2.1 1 _ = _; rw [h.1]) (fun _ _ => by show τ'.2.1 2 _ = _; rw [h.1]) (Nat.lt_succ_self f) hs
theorem R7.fw (h : R7 τ τ') (hF : FW n σ τ) : FW n σ τ' := hF.scr rfl (fun _ _ => rfl) (h.2 0 (by decide)) (fun k _ => by rw [h.1])
theorem R7.tr {τ2 : MS} (h : R7 τ τ') (h2 : R7 τ' τ2) : R7 τ τ2 := ⟨h2.1.trans h.1, fun k hk => (h2.2 k hk).trans (h.2 k hk)⟩
theorem r7_mk (x : Int32) : R7 τ (tI τ 7 x) := ⟨rfl, fun k hk => by rw [tI1, if_neg hk]⟩
theorem reads_known : ∀ (t : TT), tOk t → ∀ (τ : MS) (i Nr g k : Nat), FW n σ τ → Occ (τ.2.1 15) i (tW t) → τ.1 7 = nI i → i + (tW t).length ≤ 30 → (tW t).length ≤ Nr → g < n → Sw τ k g (tW t) → ∃ τ', P_X7_reads Nr τ = some (.inl (nI g), τ') ∧ R7 τ τ' ∧ τ'.1 7 = nI (i + (tW t).length)
  | .leaf c, ht, τ, i, Nr, g, k, hF, ho, h7, hi, hN, hg, hs => by
    have hi : i + 1 ≤ 30 := hi
    have hN : 1 ≤ Nr := hN
    obtain ⟨N, rfl⟩ : ∃ M, Nr = M + 1 := ⟨Nr - 1, by omega⟩
    have ht : leafK c := ht
    have k7 : R7 τ (tI τ 7 (nI (i + 1))) := r7_mk _
    obtain ⟨e1, e2, e3⟩ := sw_leafI ht (k7.sw hs)
    exact ⟨_, by rw [reads_leaf ht (by omega) h7 ho.1, made_known (k7.fw hF) hg e1 e2 e3], k7, by rw [tI1, if_pos rfl]; rfl⟩
  | .branch p a b, ht, τ, i, Nr, g, k, hF, ho, h7, hi, hN, hg, hs => by
    have hle := hF.le
    have hp4 : p = 78 ∨ p = 75 ∨ p = 65 ∨ p = 67 := by
      rcases ht with ⟨rfl, -⟩ | ⟨hp, -⟩
      · exact Or.inl rfl
      · exact Or.inr hp
    have hpos := tW_pos a
    have k7 : R7 τ (tI τ 7 (nI (i + 1))) := r7_mk _
    rcases ht with ⟨rfl, ha⟩ | ⟨hp, ha, hb⟩
    · rw [tW_N] at ho hi hN hs ⊢
      rw [List.length_cons] at hi hN ⊢
      obtain ⟨N, rfl⟩ : ∃ M, Nr = M + 1 := ⟨Nr - 1, by omega⟩
      obtain ⟨x, k', hx, e1, e2, e3, hs'⟩ := sw_negI hs
      obtain ⟨τ1, r1, r2, r3⟩ := reads_known a ha (tI τ 7 (nI (i + 1))) (i + 1) N x k' (k7.fw hF) ho.2 (by rw [tI1, if_pos rfl]) (by omega) (by omega) (by omega) (k7.sw hs')
      have r4 := k7.tr r2
      refine ⟨τ1, ?_, r4, by rw [r3, show i + 1 + (tW a).length = i + ((tW a).length + 1) by omega]⟩
      rw [reads_op hp4 (by omega) h7 ho.1, r1, bd_some, if_neg (ni_ne (by omega)), if_pos rfl]
      exact made_known (r4.fw hF) hg (by show τ1.2.1 0 g = _; rw [r4.1]; exact e1) (by show τ1.2.1 1 g = _; rw [r4.1]; exact e2) (by show τ1.2.1 2 g = _; rw [r4.1]; exact e3)
    · have hp78 : p ≠ 78 := by omega
      have hpk : binK (nI p) := by
        unfold binK
        rcases hp with rfl | rfl | rfl
        · exact Or.inl rfl
        · exact Or.inr (Or.inl rfl)
        · exact Or.inr (Or.inr rfl)
      rw [tW_B a b hp78] at ho hi hN hs ⊢
      rw [List.length_cons, List.length_append] at hi hN ⊢
      obtain ⟨ho0, ho⟩ := ho
      obtain ⟨hoa, hob⟩ := occ_app.mp ho
      obtain ⟨N, rfl⟩ : ∃ M, Nr = M + 1 := ⟨Nr - 1, by omega⟩
      obtain ⟨x, y, k', hx, hy, e1, e2, e3, hs1, hs2⟩ := sw_binI hpk ha hb hs
      obtain ⟨τ1, r1, r2, r3⟩ := reads_known a ha (tI τ 7 (nI (i + 1))) (i + 1) N x k' (k7.fw hF) hoa (by rw [tI1, if_pos rfl]) (by omega) (by omega) (by omega) (k7.sw hs1)
      have r4 := k7.tr r2
      obtain ⟨τ2, u1, u2, u3⟩ := reads_known b hb τ1 (i + 1 + (tW a).length) N y k' (r4.fw hF) (by rw [r4.1]; exact hob) r3 (by omega) (by omega) (by omega) (r4.sw hs2)
      have u4 := r4.tr u2
      refine ⟨τ2, ?_, u4, by rw [u3, show i + 1 + (tW a).length + (tW b).length = i + ((tW a).length + (tW b).length + 1) by omega]⟩
      rw [reads_op hp4 (by omega) h7 ho0, r1, bd_some, if_neg (ni_ne (by omega)), if_neg hp78, u1, bd_some, if_neg (ni_ne (by omega))]
      exact made_known (u4.fw hF) hg (by show τ2.2.1 0 g = _; rw [u4.1]; exact e1) (by show τ2.2.1 1 g = _; rw [u4.1]; exact e2) (by show τ2.2.1 2 g = _; rw [u4.1]; exact e3)
/-- the class reads a word that it knows -/
theorem read_K (h : FW n σ τ) (hr : RW n m q e σ τ) {t : TT} (ht : tOk t) (hs : TxS (tW t) σ) {g k : Nat} (hg : g < n) (hw : Sw τ k g (tW t)) (hl : (tW t).length ≤ 30) : ∃ (σ' : DS) (τ' : MS), P_X0_read σ = some (.inl (nI g), σ') ∧ Rel σ' τ' ∧ Ext n τ τ' := by
  have hle := h.le
  have hG : FW n σ (txG τ (tW t)) := h.scr rfl (fun _ _ => rfl) (txG_i _ (by decide)) (fun k hk => txG_a _ (by omega))
  obtain ⟨v, n', σ', τ', g1, g2, g3, g4, g5, g6, g7, -⟩ := read_ok2 hG ht hs (txG_x _) (by omega)
  have x : Ext n τ τ' := ⟨fun k hk f hf => by rw [g7 k hk f hf, txG_a _ (by omega)], fun k h1 h2 => by rw [g6.1 k (by omega) (by omega), txG_i _ (by omega)], fun k h1 h2 => by rw [g6.2.1 k h1, txG_a _ (by omega)], by rw [g6.2.2]; rfl⟩
  have hw2 : Sw (txG τ (tW t)) k g (tW t) := Sw.ext (τ := τ) (τ' := txG τ (tW t)) (n := g + 1) (fun _ _ => rfl) (fun _ _ => rfl) (fun _ _ => rfl) (Nat.lt_succ_self g) hw
  have k7 : R7 (txG τ (tW t)) (tI (txG τ (tW t)) 7 0) := r7_mk _
  obtain ⟨τ2, f1, f2, f3⟩ := reads_known t ht (tI (txG τ (tW t)) 7 0) 0 40 g k (k7.fw hG) (txG_x (τ := τ) (tW t)).occ (by rw [tI1, if_pos rfl]; rfl) (by omega) (by omega) hg (k7.sw hw2)
  have ev : v = nI g := by
    unfold P_X7_makesWork B_X7_makesWork_27 at g2
    simp only [lt_def] at g2
    rw [show (tI (txG τ (tW t)) 7 0).1 6 = nI (tW t).length from rfl, show (30 : Int32) = nI 30 from rfl, if_pos (nI_le hl (by decide)), f1, bd_some, if_neg (ni_ne (by omega))] at g2
    exact (Sum.inl.inj (congrArg Prod.fst (Option.some.inj g2))).symm
  subst ev
  exact ⟨σ', τ', g1, Rel.of g3 (hr.of g4 g5.pp x.2), x⟩
end KNOWN
