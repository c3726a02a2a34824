/-! TREES ARE TRUE OR FALSE -/
def tEv (L : Int32 → Bool) : TT → Bool
  | .leaf c => L c
  | .branch p a b => if p = 78 then !(tEv L a) else if p = 75 then (tEv L a && tEv L b) else if p = 65 then (tEv L a || tEv L b) else (!(tEv L a) || tEv L b)
theorem tEv_N (L : Int32 → Bool) (a b : TT) : tEv L (.branch 78 a b) = !(tEv L a) := rfl
theorem tEv_tN (L : Int32 → Bool) (a : TT) : tEv L (tN a) = !(tEv L a) := rfl
theorem tEv_K (L : Int32 → Bool) (a b : TT) : tEv L (.branch 75 a b) = (tEv L a && tEv L b) := rfl
theorem tEv_A (L : Int32 → Bool) (a b : TT) : tEv L (.branch 65 a b) = (tEv L a || tEv L b) := rfl
theorem tEv_C (L : Int32 → Bool) (a b : TT) : tEv L (.branch 67 a b) = (!(tEv L a) || tEv L b) := rfl
/-- the letters at v -/
def lv (v : Nat) (c : Int32) : Bool := if c = 70 then false else tbt (ltab (c - 97).toNatClampNeg 32) v
theorem head_B {p : Nat} {a b : TT} (h : tOk (.branch p a b)) : (p = 78 ∨ p = 75 ∨ p = 65 ∨ p = 67) ∧ ∃ z, tW (.branch p a b) = nI p :: z := by
  rcases tOk_c h with ⟨rfl, -⟩ | ⟨rfl, -⟩ | ⟨h | h, -⟩
  · exact ⟨Or.inl rfl, _, tW_N a b⟩
  · exact ⟨Or.inr (Or.inr (Or.inr rfl)), _, tW_B a b (by decide)⟩
  · subst h; exact ⟨Or.inr (Or.inl rfl), _, tW_B a b (by decide)⟩
  · subst h; exact ⟨Or.inr (Or.inr (Or.inl rfl)), _, tW_B a b (by decide)⟩
theorem leaf_nop {p : Nat} (hp : p = 78 ∨ p = 75 ∨ p = 65 ∨ p = 67) : ¬ leafK (nI p) := by
  unfold leafK
  rcases hp with rfl | rfl | rfl | rfl <;> decide
/-- a word has one tree only -/
theorem ev_pre {L : Int32 → Bool} : ∀ {t t' : TT} {u u' : List Int32}, tOk t → tOk t' → tW t ++ u = tW t' ++ u' → tEv L t = tEv L t' ∧ u = u'
  | .leaf c, .leaf d, u, u', _, _, e => by
    rw [tW_leaf, tW_leaf] at e
    have e : c :: u = d :: u' := e
    obtain ⟨rfl, rfl⟩ := List.cons.inj e
    exact ⟨rfl, rfl⟩
  | .leaf c, .branch p a b, u, u', h, h', e => by
    obtain ⟨hp, z, ez⟩ := head_B h'
    rw [tW_leaf, ez] at e
    have e : c :: u = nI p :: (z ++ u') := e
    obtain ⟨rfl, -⟩ := List.cons.inj e
    exact absurd h (leaf_nop hp)
  | .branch p a b, .leaf c, u, u', h, h', e => by
    obtain ⟨hp, z, ez⟩ := head_B h
    rw [tW_leaf, ez] at e
    have e : nI p :: (z ++ u) = c :: u' := e
    obtain ⟨rfl, -⟩ := List.cons.inj e
    exact absurd h' (leaf_nop hp)
  | .branch p a b, .branch p' a' b', u, u', h, h', e => by
    have hpp : p = p' := by
      obtain ⟨hp, z, ez⟩ := head_B h
      obtain ⟨hp', z', ez'⟩ := head_B h'
      rw [ez, ez'] at e
      have e : nI p :: (z ++ u) = nI p' :: (z' ++ u') := e
      have e1 := (List.cons.inj e).1
      rwa [ni_eq (by omega) (by omega)] at e1
    subst hpp
    by_cases h78 : p = 78
    · subst h78
      rw [tW_N, tW_N] at e
      have e : 78 :: (tW a ++ u) = 78 :: (tW a' ++ u') := e
      have h1 : tOk a := by rcases tOk_c h with ⟨-, z⟩ | ⟨z, -⟩ | ⟨z, -⟩ <;> first | exact z | omega
      have h2 : tOk a' := by rcases tOk_c h' with ⟨-, z⟩ | ⟨z, -⟩ | ⟨z, -⟩ <;> first | exact z | omega
      obtain ⟨i1, i2⟩ := ev_pre (L := L) h1 h2 (List.cons.inj e).2
      exact ⟨by rw [tEv_N, tEv_N, i1], i2⟩
    · rw [tW_B a b h78, tW_B a' b' h78] at e
      have e : nI p :: ((tW a ++ tW b) ++ u) = nI p :: ((tW a' ++ tW b') ++ u') := e
      have e := (List.cons.inj e).2
      rw [List.append_assoc, List.append_assoc] at e
      have h1 : (p = 67 ∨ p = 75 ∨ p = 65) ∧ tOk a ∧ tOk b := by rcases tOk_c h with ⟨z, -⟩ | ⟨z, z'⟩ | ⟨z, z'⟩ <;> first | exact absurd z h78 | exact ⟨by omega, z'⟩
      have h2 : tOk a' ∧ tOk b' := by rcases tOk_c h' with ⟨z, -⟩ | ⟨z, z'⟩ | ⟨z, z'⟩ <;> first | exact absurd z h78 | exact z'
      obtain ⟨i1, i2⟩ := ev_pre (L := L) h1.2.1 h2.1 e
      obtain ⟨j1, j2⟩ := ev_pre (L := L) h1.2.2 h2.2 i2
      refine ⟨?_, j2⟩
      rcases h1.1 with rfl | rfl | rfl
      · rw [tEv_C, tEv_C, i1, j1]
      · rw [tEv_K, tEv_K, i1, j1]
      · rw [tEv_A, tEv_A, i1, j1]
theorem ev_uni {L : Int32 → Bool} {t t' : TT} (h : tOk t) (h' : tOk t') (e : tW t = tW t') : tEv L t = tEv L t' := (ev_pre (u := []) (u' := []) h h' (by rw [e])).1
section EVAL
variable {n : Nat} {σ : DS} {τ : MS}
theorem ev_of (hF : FW n σ τ) {v : Nat} (hv : v < 32) : ∀ {h f : Nat} {w : List Int32}, f < n → Sw τ h f w → ∃ t, tOk t ∧ tW t = w ∧ (Tr τ f v ↔ tEv (lv v) t = true)
  | 0, _, _, _, q => q.elim
  | h + 1, f, w, hf, q => by
    have hle := hF.le
    rcases q with ⟨k, -, -, rfl⟩ | ⟨a, u, k, k1, k2, -, z, rfl⟩ | ⟨a, b, u, v, k, k1, k2, k3, k4, z, z', rfl⟩
    · refine ⟨.leaf (Kn τ f), k, rfl, ?_⟩
      show _ ↔ lv v (Kn τ f) = true
      by_cases h70 : Kn τ f = 70
      · unfold lv
        rw [if_pos h70]
        exact ⟨fun x => absurd x (tr_F hF hf h70 v), fun x => absurd x Bool.false_ne_true⟩
      · have hl : letK (Kn τ f) := by
          rcases k with k | k | k | k | k | k
          · exact Or.inl k
          · exact Or.inr (Or.inl k)
          · exact Or.inr (Or.inr (Or.inl k))
          · exact Or.inr (Or.inr (Or.inr (Or.inl k)))
          · exact Or.inr (Or.inr (Or.inr (Or.inr k)))
          · exact absurd k h70
        obtain ⟨j, hj, e1, e2⟩ := letK_ix hl
        rw [tr_let hF hf hj e2]
        unfold lv
        rw [if_neg h70, e1, ni_cl (by omega)]
    · obtain ⟨t, h1, rfl, h2⟩ := ev_of hF hv (show a < n by omega) z
      refine ⟨tN t, tOk_tN h1, by rw [tW_tN, k], ?_⟩
      rw [tr_N hF hf k (by omega) k2 hv, h2, tEv_tN]
      cases tEv (lv v) t <;> simp
    · obtain ⟨t, h1, rfl, h2⟩ := ev_of hF hv (show a < n by omega) z
      obtain ⟨t', h1', rfl, h2'⟩ := ev_of hF hv (show b < n by omega) z'
      rcases k with k | k | k
      · refine ⟨.branch 75 t t', tOk_B (by decide) h1 h1', by rw [tW_B _ _ (by decide), k]; rfl, ?_⟩
        rw [tr_K hF hf k (by omega) (by omega) k3 k4, h2, h2', tEv_K, Bool.and_eq_true]
      · refine ⟨.branch 65 t t', tOk_B (by decide) h1 h1', by rw [tW_B _ _ (by decide), k]; rfl, ?_⟩
        rw [tr_A hF hf k (by omega) (by omega) k3 k4, h2, h2', tEv_A, Bool.or_eq_true]
      · refine ⟨.branch 67 t t', tOk_B (by decide) h1 h1', by rw [tW_B _ _ (by decide), k]; rfl, ?_⟩
        rw [tr_C hF hf k (by omega) (by omega) k3 k4 hv, h2, h2', tEv_C]
        cases tEv (lv _) t <;> cases tEv (lv _) t' <;> simp
/-- a formula is true where its tree is -/
theorem tr_ev (hF : FW n σ τ) {v : Nat} (hv : v < 32) {f h : Nat} {t : TT} (hf : f < n) (ht : tOk t) (hw : Sw τ h f (tW t)) : Tr τ f v ↔ tEv (lv v) t = true := by
  obtain ⟨t', h1, h2, h3⟩ := ev_of hF hv hf hw
  rw [h3, ev_uni h1 ht h2]
theorem ev_sub {L L' : Int32 → Bool} {T : Int32 → TT} (h70 : L 70 = L' 70) : ∀ {t : TT}, tOk t → (∀ c ∈ tW t, letK c → tEv L (T c) = L' c) → tEv L (tSub T t) = tEv L' t
  | .leaf c, ht, hc => by
    by_cases h : letK c
    · have e : tSub T (.leaf c) = T c := if_pos h
      rw [e]
      exact hc c (by rw [tW_leaf]; exact List.mem_singleton.mpr rfl) h
    · have e : tSub T (.leaf c) = .leaf c := if_neg h
      rw [e]
      have ht : leafK c := ht
      have : c = 70 := by
        rcases ht with k | k | k | k | k | k
        · exact absurd (Or.inl k) h
        · exact absurd (Or.inr (Or.inl k)) h
        · exact absurd (Or.inr (Or.inr (Or.inl k))) h
        · exact absurd (Or.inr (Or.inr (Or.inr (Or.inl k)))) h
        · exact absurd (Or.inr (Or.inr (Or.inr (Or.inr k)))) h
        · exact k
      subst this
      exact h70
  | .branch p a b, ht, hc => by
    show tEv L (.branch p (tSub T a) (tSub T b)) = _
    rcases tOk_c ht with ⟨rfl, ha⟩ | ⟨rfl, ha, hb⟩ | ⟨rfl | rfl, ha, hb⟩
    · rw [tEv_N, tEv_N, ev_sub h70 ha (fun c hx => hc c (by rw [tW_N]; exact List.mem_cons_of_mem _ hx))]
    · rw [tEv_C, tEv_C, ev_sub h70 ha (fun c hx => hc c (by rw [tW_B _ _ (by decide)]; exact List.mem_cons_of_mem _ (List.mem_append_left _ hx))), ev_sub h70 hb (fun c hx => hc c (by rw [tW_B _ _ (by decide)]; exact List.mem_cons_of_mem _ (List.mem_append_right _ hx)))]
    · rw [tEv_K, tEv_K, ev_sub h70 ha (fun c hx => hc c (by rw [tW_B _ _ (by decide)]; exact List.mem_cons_of_mem _ (List.mem_append_left _ hx))), ev_sub h70 hb (fun c hx => hc c (by rw [tW_B _ _ (by decide)]; exact List.mem_cons_of_mem _ (List.mem_append_right _ hx)))]
    · rw [tEv_A, tEv_A, ev_sub h70 ha (fun c hx => hc c (by rw [tW_B _ _ (by decide)]; exact List.mem_cons_of_mem _ (List.mem_append_left _ hx))), ev_sub h70 hb (fun c hx => hc c (by rw [tW_B _ _ (by decide)]; exact List.mem_cons_of_mem _ (List.mem_append_right _ hx)))]
/-- any five values -/
def b5k (b0 b1 b2 b3 b4 : Bool) (v : Nat) : Bool := tbt (ltab 0 32) v == b0 && (tbt (ltab 1 32) v == b1 && (tbt (ltab 2 32) v == b2 && (tbt (ltab 3 32) v == b3 && tbt (ltab 4 32) v == b4)))
theorem b5_all : ∀ b0 b1 b2 b3 b4 : Bool, (List.range 32).any (b5k b0 b1 b2 b3 b4) = true := by decide +kernel
theorem vals5 (P : Nat → Prop) : ∃ v, v < 32 ∧ ∀ k, k < 5 → (tbt (ltab k 32) v = true ↔ P k) := by
  obtain ⟨B, hB⟩ : ∃ B : Nat → Bool, ∀ k, B k = true ↔ P k := Classical.axiomOfChoice (r := fun k (b : Bool) => b = true ↔ P k) fun k => by
    by_cases h : P k
    · exact ⟨true, fun _ => h, fun _ => rfl⟩
    · exact ⟨false, fun z => absurd z Bool.false_ne_true, fun z => absurd z h⟩
  obtain ⟨v, hv, h⟩ := List.any_eq_true.mp (b5_all (B 0) (B 1) (B 2) (B 3) (B 4))
  rw [List.mem_range] at hv
  unfold b5k at h
  simp only [Bool.and_eq_true, beq_iff_eq] at h
  obtain ⟨h0, h1, h2, h3, h4⟩ := h
  refine ⟨v, hv, fun k hk => ?_⟩
  rw [← hB k]
  have h5 : k = 0 ∨ k = 1 ∨ k = 2 ∨ k = 3 ∨ k = 4 := by omega
  rcases h5 with rfl | rfl | rfl | rfl | rfl
  · rw [h0]
  · rw [h1]
  · rw [h2]
  · rw [h3]
  · rw [h4]
/-- an image is true as what it stands for -/
theorem img_tr (hF : FW n σ τ) {I : Nat → Int32} (h2 : IS2 n τ 0 I) {v v' : Nat} (hv : v < 32) (hv' : v' < 32) (hL : ∀ g k r, g < n → k < 5 → Kn τ g = 97 + nI k → r < n → I g = nI r → (Tr τ g v' ↔ Tr τ r v)) : ∀ (d p g : Nat), p < d → p < n → g < n → I p = nI g → (Tr τ p v' ↔ Tr τ g v) := by
  have hle := hF.le
  intro d
  induction d with
  | zero => exact fun p _ hp => absurd hp (Nat.not_lt_zero p)
  | succ d ih =>
    intro p g hpd hp hg e
    rcases h2 p (Nat.zero_le _) hp g hg e with hl | ⟨hk, hl, hr⟩
    · obtain ⟨k, hk, -, ek⟩ := letK_ix hl
      exact hL p k g hp hk ek hg e
    · have key : ∀ {x y : Nat}, x < p → Lf τ p = nI x → y < n → Lf τ g = nI y → (Tr τ x v' ↔ Tr τ y v) := fun {x y} hx ex hy ey => ih x y (by omega) (by omega) hy ((hl x (by omega) ex).trans ey)
      have key2 : ∀ {x y : Nat}, x < p → Rt τ p = nI x → y < n → Rt τ g = nI y → (Tr τ x v' ↔ Tr τ y v) := fun {x y} hx ex hy ey => ih x y (by omega) (by omega) hy ((hr x (by omega) ex).trans ey)
      rcases kinds_let (hF.ent hp).kn with hl | h70 | h78 | hb
      · obtain ⟨k, hk, -, ek⟩ := letK_ix hl
        exact hL p k g hp hk ek hg e
      · exact ⟨fun x => absurd x (tr_F hF hp h70 v'), fun x => absurd x (tr_F hF hg (hk.trans h70) v)⟩
      · obtain ⟨x, hx, ex, -⟩ := parts_N hF hp h78
        obtain ⟨y, hy, ey, -⟩ := parts_N hF hg (hk.trans h78)
        rw [tr_N hF hp h78 (by omega) ex hv', tr_N hF hg (hk.trans h78) (by omega) ey hv, key hx ex (by omega) ey]
      · obtain ⟨x, x', hx, hx', ex, ex'⟩ := parts_B hF hp hb
        obtain ⟨y, y', hy, hy', ey, ey'⟩ := parts_B hF hg (by rw [hk]; exact hb)
        have i1 := key hx ex (by omega) ey
        have i2 := key2 hx' ex' (by omega) ey'
        rcases hb with hb | hb | hb
        · rw [tr_K hF hp hb (by omega) (by omega) ex ex', tr_K hF hg (hk.trans hb) (by omega) (by omega) ey ey', i1, i2]
        · rw [tr_A hF hp hb (by omega) (by omega) ex ex', tr_A hF hg (hk.trans hb) (by omega) (by omega) ey ey', i1, i2]
        · rw [tr_C hF hp hb (by omega) (by omega) ex ex' hv', tr_C hF hg (hk.trans hb) (by omega) (by omega) ey ey' hv, i1, i2]
end EVAL
