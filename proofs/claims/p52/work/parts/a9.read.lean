/-! A TEXT IS READ: the class's stack, the reference's recursion -/
section READ
variable {n m q e : Nat} {σ : DS} {τ : MS}
/-- all but the formulas and the stack stays -/
def RFs (σ σ' : DS) : Prop := (∀ k, 2 ≤ k → σ'.1 k = σ.1 k) ∧ ∀ k, 8 ≤ k → σ'.2 k = σ.2 k
def RFt (τ τ' : MS) : Prop := (∀ k, k ≠ 0 → k ≠ 7 → τ'.1 k = τ.1 k) ∧ (∀ k, 5 ≤ k → τ'.2.1 k = τ.2.1 k) ∧ τ'.2.2 = τ.2.2
theorem RFs.rf : RFs σ σ := ⟨fun _ _ => rfl, fun _ _ => rfl⟩
theorem RFt.rf : RFt τ τ := ⟨fun _ _ _ => rfl, fun _ _ => rfl, rfl⟩
theorem RFs.tr {σ1 σ2 : DS} (h1 : RFs σ σ1) (h2 : RFs σ1 σ2) : RFs σ σ2 := ⟨fun k hk => (h2.1 k hk).trans (h1.1 k hk), fun k hk => (h2.2 k hk).trans (h1.2 k hk)⟩
theorem RFt.tr {τ1 τ2 : MS} (h1 : RFt τ τ1) (h2 : RFt τ1 τ2) : RFt τ τ2 := ⟨fun k hk h7 => (h2.1 k hk h7).trans (h1.1 k hk h7), fun k hk => (h2.2.1 k hk).trans (h1.2.1 k hk), h2.2.2.trans h1.2.2⟩
theorem RFs.pp {σ' : DS} (h : RFs σ σ') : PPs σ σ' := ⟨fun k h1 _ => h.1 k h1, fun k h1 _ => h.2 k h1, fun k h1 _ => h.2 k (by omega)⟩
theorem RFt.pp {τ' : MS} (h : RFt τ τ') : PPt τ τ' := ⟨fun k h1 _ => h.1 k (by omega) (by omega), fun k h1 _ => h.2.1 k h1, h.2.2⟩
theorem PFs.rd {σ' : DS} (h : PFs σ σ') : RFs σ σ' := ⟨fun k hk => h.1 k (by omega), fun k hk => h.2 k (by omega)⟩
theorem PFt.rd {τ' : MS} (h : PFt n τ τ') : RFt τ τ' := ⟨fun k hk _ => h.1 k hk, fun k hk => h.2.1 k hk, h.2.2.1⟩
/-- what the class does behind a formula that is handed to the stack -/
def rdK (K : Nat) (bef : Int32) (i : Nat) (x : Res DS Int32) : Res DS Int32 := bd x fun r98 s98 => (if r98 = (-1 : Int32) then some (.inl (-1 : Int32), sI s98 1 bef) else L_X0_read_26 K s98 bef r98 (nI i))
theorem rdK_no (K : Nat) (bef : Int32) (i M : Nat) (s : DS) (l : Int32) (hM : 0 < M) : rdK K bef i (L_X0_complete_9 M s (-1) l) = some (.inl (-1), sI s 1 bef) := by
  obtain ⟨M, rfl⟩ : ∃ N, M = N + 1 := ⟨M - 1, by omega⟩
  have e : L_X0_complete_9 (M + 1) s (-1) l = some (.inl (-1), s) := by
    show B_X0_complete_9 _ s (-1) l = _
    unfold B_X0_complete_9
    by_cases h : l < 0
    · rw [if_pos h]
    · rw [if_neg h, if_pos rfl]
  unfold rdK
  rw [e, bd_some, if_pos rfl]
/-- a connective is put on the stack -/
def psh (σ : DS) (h : Nat) (c : Int32) : DS := sI (sR (sR σ 6 (upd (σ.2 6) h c)) 7 (upd (σ.2 7) h (-1))) 0 (nI (h + 1))
theorem psh_rf (h : Nat) (c : Int32) : RFs σ (psh σ h c) := ⟨fun k hk => by unfold psh; rw [sI_1, if_neg (by omega)]; rfl, fun k hk => by unfold psh; rw [sI_2, sR_2, if_neg (by omega), sR_2, if_neg (by omega)]⟩
theorem psh_fw (hF : FW n σ τ) (h : Nat) (c : Int32) : FW n (psh σ h c) τ := hF.scr (by unfold psh; rw [sI_1, if_neg (by decide)]; rfl) (fun k hk => by unfold psh; rw [sI_2, sR_2, if_neg (by omega), sR_2, if_neg (by omega)]) rfl (fun _ _ => rfl)
theorem psh_6 (h : Nat) (c : Int32) : (psh σ h c).2 6 = upd (σ.2 6) h c := rfl
theorem psh_7 (h : Nat) (c : Int32) : (psh σ h c).2 7 = upd (σ.2 7) h (-1) := rfl
theorem read_push {p h i L : Nat} (hp : p = 78 ∨ p = 75 ∨ p = 65 ∨ p = 67) (h11 : σ.1 11 = nI L) (hL : L ≤ 30) (hi : i < L) (ho : σ.2 29 i = nI p) (h0 : σ.1 0 = nI h) (hh : h ≤ i) (bef l3 : Int32) (N : Nat) : L_X0_read_26 (N + 1) σ bef l3 (nI i) = L_X0_read_26 N (psh σ h (nI p)) bef l3 (nI (i + 1)) := by
  show B_X0_read_26 _ σ bef l3 (nI i) = _
  unfold B_X0_read_26
  rw [h11, if_neg (nI_ge hi (by omega)), lt_def, atS h11 (by omega) hi ho (kind_p hp), leafS_n hp, if_pos rfl]
  simp only [lt_def]
  rw [h0, ni_add1]
  rw [rput_in (show h < 30 by omega) (by decide)]
  rw [show (sR σ 6 (upd (σ.2 6) h (nI p))).1 0 = nI h from h0, show (sR σ 6 (upd (σ.2 6) h (nI p))).2 7 = σ.2 7 from rfl, rput_in (show h < 30 by omega) (by decide)]
  rw [show (sR (sR σ 6 (upd (σ.2 6) h (nI p))) 7 (upd (σ.2 7) h (-1))).1 0 = nI h from h0, ni_add1]
  rfl
theorem reads_leaf {c : Int32} (hc : leafK c) {i N : Nat} (hi : i < 30) (h7 : τ.1 7 = nI i) (ho : τ.2.1 15 i = c) : P_X7_reads (N + 1) τ = P_X7_made (tI τ 7 (nI (i + 1))) c (-1) (-1) := by
  show D_X7_reads _ τ = _
  unfold D_X7_reads
  simp only [lt_def]
  rw [h7, gd_in (show i < 1000 by omega) (by decide), ni_cl (show i < 2147483648 by omega), ho, ni_add1]
  have hb : ∀ x : Res MS Int32, (bd x fun r76 s76 => (some (.inl r76, s76) : Res MS Int32)) = x := fun x => by
    rcases x with _ | ⟨r | E, s⟩ <;> rfl
  rw [hb]
  rcases hc with rfl | rfl | rfl | rfl | rfl | rfl
  · rw [if_neg (by decide), if_neg (by decide), if_pos (by decide)]
  · rw [if_neg (by decide), if_neg (by decide), if_pos (by decide)]
  · rw [if_neg (by decide), if_neg (by decide), if_pos (by decide)]
  · rw [if_neg (by decide), if_neg (by decide), if_pos (by decide)]
  · rw [if_neg (by decide), if_neg (by decide), if_pos (by decide)]
  · rw [if_neg (by decide), if_pos rfl]
theorem bd_id {S ρ : Type} (x : Res S ρ) : (bd x fun r s => (some (.inl r, s) : Res S ρ)) = x := by
  rcases x with _ | ⟨r | E, s⟩ <;> rfl
theorem reads_op {p : Nat} (hp : p = 78 ∨ p = 75 ∨ p = 65 ∨ p = 67) {i N : Nat} (hi : i < 30) (h7 : τ.1 7 = nI i) (ho : τ.2.1 15 i = nI p) : P_X7_reads (N + 1) τ = bd (P_X7_reads N (tI τ 7 (nI (i + 1)))) fun r43 s43 => (if r43 = (-1 : Int32) then some (.inl (-1 : Int32), s43) else if p = 78 then P_X7_made s43 78 r43 (-1) else bd (P_X7_reads N s43) fun r61 s61 => (if r61 = (-1 : Int32) then some (.inl (-1 : Int32), s61) else P_X7_made s61 (nI p) r43 r61)) := by
  show D_X7_reads _ τ = _
  unfold D_X7_reads
  simp only [lt_def, bd_id]
  rw [h7, gd_in (show i < 1000 by omega) (by decide), ni_cl (show i < 2147483648 by omega), ho, ni_add1]
  rcases hp with rfl | rfl | rfl | rfl
  · rw [if_neg (by decide), if_neg (by decide), if_neg (by decide)]
    simp only [if_pos (show nI 78 = 78 from rfl), if_pos (show (78 : Nat) = 78 from rfl)]
    rfl
  · rw [if_neg (by decide), if_neg (by decide), if_neg (by decide)]
    simp only [if_neg (show ¬ nI 75 = 78 by decide), if_neg (show ¬ (75 : Nat) = 78 by decide)]
  · rw [if_neg (by decide), if_neg (by decide), if_neg (by decide)]
    simp only [if_neg (show ¬ nI 65 = 78 by decide), if_neg (show ¬ (65 : Nat) = 78 by decide)]
  · rw [if_neg (by decide), if_neg (by decide), if_neg (by decide)]
    simp only [if_neg (show ¬ nI 67 = 78 by decide), if_neg (show ¬ (67 : Nat) = 78 by decide)]
theorem occ_s {σ' : DS} (hr : RFs σ σ') {i : Nat} {u : List Int32} (h : Occ (σ.2 29) i u) : Occ (σ'.2 29) i u := by rw [hr.2 29 (by decide)]; exact h
theorem occ_t {τ' : MS} (hr : RFt τ τ') {i : Nat} {u : List Int32} (h : Occ (τ.2.1 15) i u) : Occ (τ'.2.1 15) i u := by rw [hr.2.1 15 (by decide)]; exact h
/-- the entries of the formulas below n stay -/
def Xt (n : Nat) (τ τ' : MS) : Prop := ∀ k, k < 5 → ∀ f, f < n → τ'.2.1 k f = τ.2.1 k f
theorem Xt.tr {n n' : Nat} {τ τ1 τ2 : MS} (hn : n ≤ n') (h1 : Xt n τ τ1) (h2 : Xt n' τ1 τ2) : Xt n τ τ2 := fun k hk f hf => (h2 k hk f (by omega)).trans (h1 k hk f hf)
theorem PFt.xt {n : Nat} {τ τ' : MS} (h : PFt n τ τ') : Xt n τ τ' := h.2.2.2
theorem Xt.of2 {n : Nat} {τ τ' : MS} (h : τ'.2 = τ.2) : Xt n τ τ' := fun k _ f _ => by rw [h]
theorem Xt.sw {n : Nat} {τ τ' : MS} (h : Xt n τ τ') {k f : Nat} {w : List Int32} (hf : f < n) (hs : Sw τ k f w) : Sw τ' k f w := Sw.ext (fun f hf => h 0 (by decide) f hf) (fun f hf => h 1 (by decide) f hf) (fun f hf => h 2 (by decide) f hf) hf hs
theorem sw_leaf {σ : DS} {τ : MS} {f : Nat} {c : Int32} (hc : leafK c) (e : Kn τ f = c) (el : Lf τ f = -1) (er : Rt τ f = -1) : Sw τ [c].length f [c] := Or.inl ⟨by rw [e]; exact hc, el, er, by rw [e]⟩
theorem sw_neg {n : Nat} {σ : DS} {τ : MS} (hF : FW n σ τ) {f a : Nat} {w : List Int32} (hf : f < n) (e : Kn τ f = 78) (el : Lf τ f = nI a) (er : Rt τ f = -1) (ha : a < n) (hs : Sw τ w.length a w) : Sw τ (78 :: w).length f (78 :: w) := by
  have hle := hF.le
  have hl : a < f := by
    rcases (hF.ent hf).sh with ⟨-, q, -⟩ | ⟨a', -, q1, q2, -⟩ | ⟨a', b', q, -⟩
    · rw [q] at el; exact absurd el.symm (ni_ne (by omega))
    · rw [el, ni_eq (by omega) (by omega)] at q2; omega
    · rw [e] at q; unfold binK at q; rcases q with q | q | q <;> exact absurd q (by decide)
  exact Or.inr (Or.inl ⟨a, w, e, hl, el, er, hs, by rw [e]⟩)
theorem sw_bin {n : Nat} {σ : DS} {τ : MS} (hF : FW n σ τ) {f a b : Nat} {c : Int32} {u w : List Int32} (hf : f < n) (hc : binK c) (e : Kn τ f = c) (el : Lf τ f = nI a) (er : Rt τ f = nI b) (ha : a < n) (hb : b < n) (hs : Sw τ u.length a u) (ht : Sw τ w.length b w) : Sw τ (c :: (u ++ w)).length f (c :: (u ++ w)) := by
  have hle := hF.le
  have hl : a < f ∧ b < f := by
    rcases (hF.ent hf).sh with ⟨-, q, -⟩ | ⟨a', q, -⟩ | ⟨a', b', -, q1, q2, q3, q4⟩
    · rw [q] at el; exact absurd el.symm (ni_ne (by omega))
    · rw [e] at q; unfold binK at hc; subst q; rcases hc with q | q | q <;> exact absurd q (by decide)
    · rw [el, ni_eq (by omega) (by omega)] at q3
      rw [er, ni_eq (by omega) (by omega)] at q4
      omega
  exact Or.inr (Or.inr ⟨a, b, u, w, by rw [e]; exact hc, hl.1, hl.2, el, er, Sw.mono (by rw [List.length_append]; omega) hs, Sw.mono (by rw [List.length_append]; omega) ht, by rw [e]⟩)
/-- where a tree's word is read: the reference makes its formula (or can't), the class too, and hands it to the stack -/
def RdP (n : Nat) (σ : DS) (τ : MS) (t : TT) (h i Nr : Nat) (bef l3 : Int32) : Prop := ∃ (v : Int32) (n' : Nat) (σ' : DS) (τ' : MS), P_X7_reads Nr τ = some (.inl v, τ') ∧ FW n' σ' τ' ∧ n ≤ n' ∧ RFs σ σ' ∧ RFt τ τ' ∧ Xt n τ τ' ∧ ((v = -1 ∧ ∀ K, L_X0_read_26 (K + (tW t).length) σ bef l3 (nI i) = some (.inl (-1), sI σ' 1 bef)) ∨ (∃ f M, f < n' ∧ v = nI f ∧ Sw τ' (tW t).length f (tW t) ∧ τ'.1 7 = nI (i + (tW t).length) ∧ σ'.1 0 = nI h ∧ (∀ j, j < h → σ'.2 6 j = σ.2 6 j ∧ σ'.2 7 j = σ.2 7 j) ∧ FU ≤ M + (tW t).length ∧ ∀ K, L_X0_read_26 (K + (tW t).length) σ bef l3 (nI i) = rdK K bef (i + (tW t).length) (L_X0_complete_9 M σ' (nI f) (nI h - 1))))
theorem rd_ok : ∀ (t : TT), tOk t → ∀ (n : Nat) (σ : DS) (τ : MS) (h i L Nr : Nat) (bef l3 : Int32), FW n σ τ → σ.1 11 = nI L → L ≤ 30 → i + (tW t).length ≤ L → Occ (σ.2 29) i (tW t) → Occ (τ.2.1 15) i (tW t) → σ.1 0 = nI h → h ≤ i → τ.1 7 = nI i → (tW t).length ≤ Nr → RdP n σ τ t h i Nr bef l3
  | .leaf c, ht, n, σ, τ, h, i, L, Nr, bef, l3, hF, h11, hL, hi, os, ot, h0, hh, h7, hN => by
    have ht : leafK c := ht
    have hi : i + 1 ≤ L := hi
    have hN : 1 ≤ Nr := hN
    obtain ⟨N, rfl⟩ : ∃ M, Nr = M + 1 := ⟨Nr - 1, by omega⟩
    have h7r : RFt τ (tI τ 7 (nI (i + 1))) := ⟨fun k _ hk => by rw [tI1, if_neg hk], fun _ _ => rfl, rfl⟩
    have hF7 : FW n σ (tI τ 7 (nI (i + 1))) := hF.scr rfl (fun _ _ => rfl) (by rw [tI1, if_neg (by decide)]) (fun _ _ => rfl)
    obtain ⟨v, n', σ', τ', e1, e2, e3, e4, e5, e6, e7⟩ := enter_ok hF7 (c := c) (l := -1) (r := -1) (Or.inl ⟨ht, rfl, rfl⟩)
    have key : ∀ K, L_X0_read_26 (K + 1) σ bef l3 (nI i) = rdK K bef (i + 1) (L_X0_complete_9 FU σ' v (σ'.1 0 - 1)) := fun K => by
      show B_X0_read_26 _ σ bef l3 (nI i) = _
      unfold B_X0_read_26
      rw [h11, if_neg (nI_ge (by omega) (by omega)), lt_def, atS h11 (by omega) (by omega) os.1 (kind_l ht), leafS_y ht, if_neg i10, e1, bd_some]
      unfold P_X0_complete rdK
      simp only [lt_def]
      rw [ni_add1]
    refine ⟨v, n', σ', τ', by rw [reads_leaf ht (by omega) h7 ot.1]; exact e2, e3, e4, e5.rd, h7r.tr e6.rd, Xt.tr (Nat.le_refl n) (Xt.of2 rfl) e6.xt, ?_⟩
    have hle := e3.le
    rcases e7 with rfl | ⟨f, hf, rfl, w1, w2, w3⟩
    · exact Or.inl ⟨rfl, fun K => by rw [show K + (tW (.leaf c)).length = K + 1 from rfl, key, rdK_no _ _ _ _ _ _ (by unfold FU; omega)]⟩
    · refine Or.inr ⟨f, FU, hf, rfl, sw_leaf (σ := σ') ht w1 w2 w3, ?_, ?_, fun j hj => ⟨?_, ?_⟩, by omega, fun K => ?_⟩
      · rw [e6.1 7 (by decide), tI1, if_pos rfl]; rfl
      · rw [e5.1 0 (by decide), h0]
      · rw [e5.2 6 (by decide)]
      · rw [e5.2 7 (by decide)]
      · rw [show K + (tW (.leaf c)).length = K + 1 from rfl, key, e5.1 0 (by decide), h0]
        rfl
  | .branch p a b, ht, n, σ, τ, h, i, L, Nr, bef, l3, hF, h11, hL, hi, os, ot, h0, hh, h7, hN => by
    have hp4 : p = 78 ∨ p = 75 ∨ p = 65 ∨ p = 67 := by
      rcases ht with ⟨rfl, -⟩ | ⟨hp, -⟩
      · exact Or.inl rfl
      · exact Or.inr hp
    have hpos := tW_pos a
    have h7r : RFt τ (tI τ 7 (nI (i + 1))) := ⟨fun k _ hk => by rw [tI1, if_neg hk], fun _ _ => rfl, rfl⟩
    have hF7 : FW n (psh σ h (nI p)) (tI τ 7 (nI (i + 1))) := (psh_fw hF h (nI p)).scr rfl (fun _ _ => rfl) (by rw [tI1, if_neg (by decide)]) (fun _ _ => rfl)
    have kpsh : RFs σ (psh σ h (nI p)) := psh_rf h (nI p)
    rcases ht with ⟨rfl, ha⟩ | ⟨hp, ha, hb⟩
    · unfold RdP
      rw [tW_N] at hi os ot hN ⊢
      rw [List.length_cons] at hi hN ⊢
      obtain ⟨N, rfl⟩ : ∃ M, Nr = M + 1 := ⟨Nr - 1, by omega⟩
      have e78 : (78 : Int32) = nI 78 := rfl
      obtain ⟨v, n1, σ1, τ1, r1, r2, r3, r4, r5, rx, r6⟩ := rd_ok a ha n (psh σ h (nI 78)) (tI τ 7 (nI (i + 1))) (h + 1) (i + 1) L N bef l3 hF7 (by rw [kpsh.1 11 (by decide)]; exact h11) hL (by omega) (occ_s kpsh os.2) (occ_t h7r ot.2) rfl (by omega) (by rw [tI1, if_pos rfl]) (by omega)
      have rx0 : Xt n τ τ1 := Xt.tr (Nat.le_refl n) (Xt.of2 rfl) rx
      have hpush : ∀ K, L_X0_read_26 (K + ((tW a).length + 1)) σ bef l3 (nI i) = L_X0_read_26 (K + (tW a).length) (psh σ h (nI 78)) bef l3 (nI (i + 1)) := fun K => read_push hp4 h11 hL (by omega) os.1 h0 hh bef l3 (K + (tW a).length)
      rw [reads_op hp4 (by omega) h7 ot.1, r1, bd_some]
      have hle1 := r2.le
      rcases r6 with ⟨rfl, r6⟩ | ⟨f, M, hf, rfl, gw, g1, g2, g3, g4, g5⟩
      · exact ⟨-1, n1, σ1, τ1, by rw [if_pos rfl], r2, r3, kpsh.tr r4, h7r.tr r5, rx0, Or.inl ⟨rfl, fun K => by rw [hpush, r6]⟩⟩
      · rw [if_neg (ni_ne (by omega)), if_pos rfl]
        have kI : RFs σ1 (sI σ1 0 (nI h)) := ⟨fun k hk => by rw [sI_1, if_neg (by omega)], fun _ _ => rfl⟩
        have hF1 : FW n1 (sI σ1 0 (nI h)) τ1 := r2.scr (by rw [sI_1, if_neg (by decide)]) (fun _ _ => rfl) rfl (fun _ _ => rfl)
        obtain ⟨v, n2, σ2, τ2, e1, e2, e3, e4, e5, e6, e7⟩ := enter_ok hF1 (c := 78) (l := nI f) (r := -1) (Or.inr (Or.inl ⟨f, rfl, hf, rfl, rfl⟩))
        obtain ⟨M, rfl⟩ : ∃ N, M = N + 1 := ⟨M - 1, by unfold FU at g4; omega⟩
        have w6 : σ1.2 6 h = 78 := by rw [(g3 h (by omega)).1, psh_6, upd_eq]; rfl
        have hc : L_X0_complete_9 (M + 1) σ1 (nI f) (nI (h + 1) - 1) = L_X0_complete_9 M σ2 v (nI h - 1) := by
          rw [ni_sub1 (by omega)]
          show B_X0_complete_9 _ σ1 (nI f) (nI h) = _
          unfold B_X0_complete_9 B_X0_complete_63
          simp only [lt_def]
          rw [if_neg (nI_pos (by omega)), if_neg (ni_ne (by omega)), rat_in (show h < 30 by omega) (by decide), w6, if_pos (by decide), if_pos (by decide), e1, bd_some, ni_am1]
        refine ⟨v, n2, σ2, τ2, e2, e3, by omega, kpsh.tr (r4.tr (kI.tr e5.rd)), h7r.tr (r5.tr e6.rd), rx0.tr r3 e6.xt, ?_⟩
        have hle2 := e3.le
        rcases e7 with rfl | ⟨f2, hf2, rfl, w1, w2, w3⟩
        · refine Or.inl ⟨rfl, fun K => ?_⟩
          rw [hpush, g5, hc, rdK_no _ _ _ _ _ _ (by unfold FU at g4; omega)]
        · refine Or.inr ⟨f2, M, hf2, rfl, sw_neg e3 hf2 w1 w2 w3 (by omega) (e6.xt.sw hf gw), ?_, ?_, fun j hj => ⟨?_, ?_⟩, by omega, fun K => ?_⟩
          · rw [e6.1 7 (by decide), g1, show i + 1 + (tW a).length = i + ((tW a).length + 1) by omega]
          · rw [e5.1 0 (by decide), sI_1, if_pos rfl]
          · rw [e5.2 6 (by decide), sI_2, (g3 j (by omega)).1, psh_6, upd_ne _ (by omega)]
          · rw [e5.2 7 (by decide), sI_2, (g3 j (by omega)).2, psh_7, upd_ne _ (by omega)]
          · rw [hpush, g5, hc, show i + 1 + (tW a).length = i + ((tW a).length + 1) by omega]
    · have hp78 : p ≠ 78 := by omega
      have hpk : binK (nI p) := by
        unfold binK
        rcases hp with rfl | rfl | rfl
        · exact Or.inl rfl
        · exact Or.inr (Or.inl rfl)
        · exact Or.inr (Or.inr rfl)
      have hpn : ¬ nI p = 78 := by rcases hp with rfl | rfl | rfl <;> decide
      have hpc : ((nI p).toUInt32 % 65536).toInt32 = nI p := kind_ch _ (kind_p hp4)
      unfold RdP
      rw [tW_B a b hp78] at hi os ot hN ⊢
      rw [List.length_cons, List.length_append] at hi hN ⊢
      obtain ⟨os0, os⟩ := os
      obtain ⟨osa, osb⟩ := occ_app.mp os
      obtain ⟨ot0, ot⟩ := ot
      obtain ⟨ota, otb⟩ := occ_app.mp ot
      obtain ⟨N, rfl⟩ : ∃ M, Nr = M + 1 := ⟨Nr - 1, by omega⟩
      obtain ⟨v, n1, σ1, τ1, r1, r2, r3, r4, r5, rx, r6⟩ := rd_ok a ha n (psh σ h (nI p)) (tI τ 7 (nI (i + 1))) (h + 1) (i + 1) L N bef l3 hF7 (by rw [kpsh.1 11 (by decide)]; exact h11) hL (by omega) (occ_s kpsh osa) (occ_t h7r ota) rfl (by omega) (by rw [tI1, if_pos rfl]) (by omega)
      have rx0 : Xt n τ τ1 := Xt.tr (Nat.le_refl n) (Xt.of2 rfl) rx
      have hpush : ∀ K, L_X0_read_26 (K + ((tW a).length + (tW b).length + 1)) σ bef l3 (nI i) = L_X0_read_26 (K + (tW b).length + (tW a).length) (psh σ h (nI p)) bef l3 (nI (i + 1)) := fun K => by
        rw [show K + ((tW a).length + (tW b).length + 1) = K + (tW b).length + (tW a).length + 1 by omega]
        exact read_push hp4 h11 hL (by omega) os0 h0 hh bef l3 _
      rw [reads_op hp4 (by omega) h7 ot0, r1, bd_some]
      have hle1 := r2.le
      rcases r6 with ⟨rfl, r6⟩ | ⟨f, M, hf, rfl, gw, g1, g2, g3, g4, g5⟩
      · exact ⟨-1, n1, σ1, τ1, by rw [if_pos rfl], r2, r3, kpsh.tr r4, h7r.tr r5, rx0, Or.inl ⟨rfl, fun K => by rw [hpush, r6]⟩⟩
      · rw [if_neg (ni_ne (by omega)), if_neg hp78]
        obtain ⟨M, rfl⟩ : ∃ N, M = N + 1 := ⟨M - 1, by unfold FU at g4; omega⟩
        have w6 : σ1.2 6 h = nI p := by rw [(g3 h (by omega)).1, psh_6, upd_eq]
        have w7 : σ1.2 7 h = -1 := by rw [(g3 h (by omega)).2, psh_7, upd_eq]
        obtain ⟨s2, hs2⟩ : ∃ s2, s2 = sR σ1 7 (upd (σ1.2 7) h (nI f)) := ⟨_, rfl⟩
        have hc : L_X0_complete_9 (M + 1) σ1 (nI f) (nI (h + 1) - 1) = some (.inl (nI f), s2) := by
          rw [ni_sub1 (by omega)]
          show B_X0_complete_9 _ σ1 (nI f) (nI h) = _
          unfold B_X0_complete_9
          simp only [lt_def]
          rw [if_neg (nI_pos (by omega)), if_neg (ni_ne (by omega)), rat_in (show h < 30 by omega) (by decide), rat_in (show h < 30 by omega) (by decide), w6, w7, hpc, if_neg hpn, if_pos rfl, rput_in (show h < 30 by omega) (by decide), ← hs2]
        have kS : RFs σ1 s2 := ⟨fun k hk => by rw [hs2]; rfl, fun k hk => by rw [hs2, sR_2, if_neg (by omega)]⟩
        have hF2 : FW n1 s2 τ1 := r2.scr (by rw [hs2]; rfl) (fun k hk => by rw [hs2, sR_2, if_neg (by omega)]) rfl (fun _ _ => rfl)
        have k2s : RFs σ s2 := kpsh.tr (r4.tr kS)
        have k1t : RFt τ τ1 := h7r.tr r5
        have hnext : ∀ K, L_X0_read_26 (K + ((tW a).length + (tW b).length + 1)) σ bef l3 (nI i) = L_X0_read_26 (K + (tW b).length) s2 bef (nI f) (nI (i + 1 + (tW a).length)) := fun K => by
          rw [hpush, g5, hc]
          unfold rdK
          rw [bd_some, if_neg (ni_ne (by omega))]
        obtain ⟨v, n3, σ3, τ3, u1, u2, u3, u4, u5, ux, u6⟩ := rd_ok b hb n1 s2 τ1 (h + 1) (i + 1 + (tW a).length) L N bef (nI f) hF2 (by rw [k2s.1 11 (by decide)]; exact h11) hL (by omega) (occ_s k2s osb) (occ_t k1t otb) (by rw [hs2, sR_1]; exact g2) (by omega) g1 (by omega)
        rw [u1, bd_some]
        have hle3 := u2.le
        rcases u6 with ⟨rfl, u6⟩ | ⟨f3, M3, hf3, rfl, xw, x1, x2, x3, x4, x5⟩
        · exact ⟨-1, n3, σ3, τ3, by rw [if_pos rfl], u2, by omega, k2s.tr u4, k1t.tr u5, rx0.tr r3 ux, Or.inl ⟨rfl, fun K => by rw [hnext, u6]⟩⟩
        · rw [if_neg (ni_ne (by omega))]
          have kI : RFs σ3 (sI σ3 0 (nI h)) := ⟨fun k hk => by rw [sI_1, if_neg (by omega)], fun _ _ => rfl⟩
          have hF3 : FW n3 (sI σ3 0 (nI h)) τ3 := u2.scr (by rw [sI_1, if_neg (by decide)]) (fun _ _ => rfl) rfl (fun _ _ => rfl)
          obtain ⟨v, n4, σ4, τ4, e1, e2, e3, e4, e5, e6, e7⟩ := enter_ok hF3 (c := nI p) (l := nI f) (r := nI f3) (Or.inr (Or.inr ⟨f, f3, hpk, by omega, hf3, rfl, rfl⟩))
          obtain ⟨M3, rfl⟩ : ∃ N, M3 = N + 1 := ⟨M3 - 1, by unfold FU at x4; omega⟩
          have y6 : σ3.2 6 h = nI p := by rw [(x3 h (by omega)).1, hs2, sR_2, if_neg (by decide), w6]
          have y7 : σ3.2 7 h = nI f := by rw [(x3 h (by omega)).2, hs2, sR_2, if_pos rfl, upd_eq]
          have hc3 : L_X0_complete_9 (M3 + 1) σ3 (nI f3) (nI (h + 1) - 1) = L_X0_complete_9 M3 σ4 v (nI h - 1) := by
            rw [ni_sub1 (by omega)]
            show B_X0_complete_9 _ σ3 (nI f3) (nI h) = _
            unfold B_X0_complete_9 B_X0_complete_63
            simp only [lt_def]
            rw [if_neg (nI_pos (by omega)), if_neg (ni_ne (by omega)), rat_in (show h < 30 by omega) (by decide), rat_in (show h < 30 by omega) (by decide), y6, y7, hpc, if_neg hpn, if_neg (ni_ne (by omega)), if_neg hpn, e1, bd_some, ni_am1]
          refine ⟨v, n4, σ4, τ4, e2, e3, by omega, k2s.tr (u4.tr (kI.tr e5.rd)), k1t.tr (u5.tr e6.rd), (rx0.tr r3 ux).tr (by omega) e6.xt, ?_⟩
          have hle4 := e3.le
          rcases e7 with rfl | ⟨f4, hf4, rfl, w1, w2, w3⟩
          · refine Or.inl ⟨rfl, fun K => ?_⟩
            rw [hnext, x5, hc3, rdK_no _ _ _ _ _ _ (by unfold FU at x4; omega)]
          · refine Or.inr ⟨f4, M3, hf4, rfl, (by have z := sw_bin e3 hf4 hpk w1 w2 w3 (by omega) (by omega) (e6.xt.sw (by omega) (ux.sw hf gw)) (e6.xt.sw hf3 xw); rw [List.length_cons, List.length_append] at z; exact z), ?_, ?_, fun j hj => ⟨?_, ?_⟩, by omega, fun K => ?_⟩
            · rw [e6.1 7 (by decide), x1, show i + 1 + (tW a).length + (tW b).length = i + ((tW a).length + (tW b).length + 1) by omega]
            · rw [e5.1 0 (by decide), sI_1, if_pos rfl]
            · rw [e5.2 6 (by decide), sI_2, (x3 j (by omega)).1, hs2, sR_2, if_neg (by decide), (g3 j (by omega)).1, psh_6, upd_ne _ (by omega)]
            · rw [e5.2 7 (by decide), sI_2, (x3 j (by omega)).2, hs2, sR_2, if_pos rfl, upd_ne _ (by omega), (g3 j (by omega)).2, psh_7, upd_ne _ (by omega)]
            · rw [hnext, x5, hc3, show i + 1 + (tW a).length + (tW b).length = i + ((tW a).length + (tW b).length + 1) by omega]
/-- a text is read: the same on both sides -/
theorem read_ok2 (hF : FW n σ τ) {t : TT} (ht : tOk t) (hs : TxS (tW t) σ) (htx : TxT (tW t) τ) (hl : (tW t).length < 1000) : ∃ (v : Int32) (n' : Nat) (σ' : DS) (τ' : MS), P_X0_read σ = some (.inl v, σ') ∧ P_X7_makesWork τ = some (.inl v, τ') ∧ FW n' σ' τ' ∧ n ≤ n' ∧ RFs σ σ' ∧ RFt τ τ' ∧ Xt n τ τ' ∧ ((v = -1 ∧ n' = n) ∨ ∃ f, f < n' ∧ v = nI f ∧ Sw τ' (tW t).length f (tW t)) := by
  have hle := hF.le
  unfold P_X0_read P_X7_makesWork B_X7_makesWork_27
  simp only [lt_def]
  have h7r : RFt τ (tI τ 7 0) := ⟨fun k _ hk => by rw [tI1, if_neg hk], fun _ _ => rfl, rfl⟩
  have hF7 : FW n σ (tI τ 7 0) := hF.scr rfl (fun _ _ => rfl) (by rw [tI1, if_neg (by decide)]) (fun _ _ => rfl)
  rw [hs.1, show (tI τ 7 0).1 6 = nI (tW t).length by rw [tI1, if_neg (by decide), htx.1], hF.cnt, hF.cnt7, show (30 : Int32) = nI 30 from rfl]
  by_cases h30 : (tW t).length ≤ 30
  · rw [if_pos (nI_le h30 (by decide)), if_pos (nI_le h30 (by decide))]
    have k0 : RFs σ (sI σ 0 0) := ⟨fun k hk => by rw [sI_1, if_neg (by omega)], fun _ _ => rfl⟩
    have hF0 : FW n (sI σ 0 0) (tI τ 7 0) := hF7.scr (by rw [sI_1, if_neg (by decide)]) (fun _ _ => rfl) rfl (fun _ _ => rfl)
    obtain ⟨v, n', σ', τ', r1, r2, r3, r4, r5, rx, r6⟩ := rd_ok t ht n (sI σ 0 0) (tI τ 7 0) 0 0 (tW t).length 40 (nI n) (-1) hF0 (by rw [sI_1, if_neg (by decide)]; exact hs.1) h30 (by omega) hs.occ htx.occ (by rw [sI_1, if_pos rfl]; rfl) (Nat.le_refl _) (by rw [tI1, if_pos rfl]; rfl) (by omega)
    rw [r1, bd_some]
    have hle' := r2.le
    have eF : FU = FU - (tW t).length + (tW t).length := by unfold FU; omega
    rcases r6 with ⟨rfl, r6⟩ | ⟨f, M, hf, rfl, gw, g1, g2, g3, g4, g5⟩
    · have r6' := r6 (FU - (tW t).length)
      rw [← eF] at r6'
      rw [if_pos rfl, show L_X0_read_26 FU (sI σ 0 0) (nI n) (-1) 0 = _ from r6']
      refine ⟨-1, n, _, _, rfl, rfl, r2.less (by omega) (by rw [sI_1, if_pos rfl]) (by rw [tI1, if_pos rfl]) rfl rfl, Nat.le_refl _, ?_, ?_, (Xt.of2 rfl : Xt n τ (tI τ 7 0)).tr (Nat.le_refl n) (rx.tr (Nat.le_refl n) (Xt.of2 rfl)), Or.inl ⟨rfl, rfl⟩⟩
      · exact k0.tr (r4.tr ⟨fun k hk => by rw [sI_1, if_neg (by omega)], fun _ _ => rfl⟩)
      · exact h7r.tr (r5.tr ⟨fun k hk _ => by rw [tI1, if_neg hk], fun _ _ => rfl, rfl⟩)
    · have g5' := g5 (FU - (tW t).length)
      rw [← eF] at g5'
      rw [if_neg (ni_ne (by omega)), show L_X0_read_26 FU (sI σ 0 0) (nI n) (-1) 0 = _ from g5']
      obtain ⟨M, rfl⟩ : ∃ N, M = N + 1 := ⟨M - 1, by unfold FU at g4; omega⟩
      obtain ⟨K, hK⟩ : ∃ N, FU - (tW t).length = N + 1 := ⟨FU - (tW t).length - 1, by unfold FU; omega⟩
      have ec : L_X0_complete_9 (M + 1) σ' (nI f) (nI 0 - 1) = some (.inl (nI f), σ') := by
        show B_X0_complete_9 _ σ' (nI f) (nI 0 - 1) = _
        unfold B_X0_complete_9
        rw [if_pos (by decide)]
      have er : rdK (FU - (tW t).length) (nI n) (0 + (tW t).length) (L_X0_complete_9 (M + 1) σ' (nI f) (nI 0 - 1)) = some (.inl (nI f), σ') := by
        unfold rdK
        rw [ec, bd_some, if_neg (ni_ne (by omega)), hK]
        show B_X0_read_26 _ σ' (nI n) (nI f) (nI (0 + (tW t).length)) = _
        unfold B_X0_read_26
        rw [r4.1 11 (by decide), sI_1, if_neg (show ¬ (11 : Nat) = 0 by decide), hs.1, Nat.zero_add, if_pos (nI_le (Nat.le_refl _) (by omega))]
      rw [er]
      refine ⟨nI f, n', σ', _, rfl, rfl, r2.scr rfl (fun _ _ => rfl) (by rw [tI1, if_pos rfl]) (fun _ _ => rfl), r3, k0.tr r4, ?_, (Xt.of2 rfl : Xt n τ (tI τ 7 0)).tr (Nat.le_refl n) (rx.tr (Nat.le_refl n) (Xt.of2 rfl)), Or.inr ⟨f, hf, rfl, (Xt.of2 rfl : Xt n' τ' (tI τ' 0 (τ'.1 0))).sw hf gw⟩⟩
      exact h7r.tr (r5.tr ⟨fun k hk _ => by rw [tI1, if_neg hk], fun _ _ => rfl, rfl⟩)
  · rw [if_neg (nI_ge (by omega) (by omega)), if_neg (nI_ge (by omega) (by omega)), if_pos (by decide)]
    exact ⟨-1, n, σ, _, rfl, rfl, hF7.scr rfl (fun _ _ => rfl) (by rw [tI1, if_pos rfl]; exact hF.cnt7.symm) (fun _ _ => rfl), Nat.le_refl _, RFs.rf, h7r.tr ⟨fun k hk _ => by rw [tI1, if_neg hk], fun _ _ => rfl, rfl⟩, Xt.of2 rfl, Or.inl ⟨rfl, rfl⟩⟩
theorem read_ok (hF : FW n σ τ) {t : TT} (ht : tOk t) (hs : TxS (tW t) σ) (htx : TxT (tW t) τ) (hl : (tW t).length < 1000) : ∃ (v : Int32) (n' : Nat) (σ' : DS) (τ' : MS), P_X0_read σ = some (.inl v, σ') ∧ P_X7_makesWork τ = some (.inl v, τ') ∧ FW n' σ' τ' ∧ n ≤ n' ∧ RFs σ σ' ∧ RFt τ τ' ∧ (v = -1 ∨ ∃ f, f < n' ∧ v = nI f) := by
  obtain ⟨v, n', σ', τ', r1, r2, r3, r4, r5, r6, -, r7⟩ := read_ok2 hF ht hs htx hl
  exact ⟨v, n', σ', τ', r1, r2, r3, r4, r5, r6, r7.elim (fun q => Or.inl q.1) (fun ⟨f, h1, h2, _⟩ => Or.inr ⟨f, h1, h2⟩)⟩
end READ
