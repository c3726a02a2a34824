/-! A LEMMA IS KEPT: it is true -/
section KEEPL
variable {n m q e : Nat} {σ σ' : DS} {τ τ' : MS}
/-- the ghost with one lemma more -/
def KF (m e c : Nat) (τ t : MS) : Prop := (∀ k, k ≠ 4 → t.1 k = τ.1 k) ∧ t.1 4 = nI (e + 1) ∧ (∀ k, k ≠ 13 → k ≠ 14 → t.2.1 k = τ.2.1 k) ∧ t.2.1 13 e = nI c ∧ (∀ j, j ≠ e → t.2.1 13 j = τ.2.1 13 j) ∧ t.2.1 14 = upd (τ.2.1 14) e (τ.2.1 6 (m - 1)) ∧ (∀ j, j ≠ e → t.2.2.2 j = τ.2.2.2 j) ∧ c ≤ 2 ∧ ∀ j, j < m → τ.2.1 7 j = 80 → ∃ i, i < c ∧ t.2.2.2 e i = τ.2.1 6 j
theorem keepT (h : RW n m q e σ τ) (h0 : 0 < m) (he : e < 8) : ∀ (d k N c : Nat) (t : MS), k + d = m → d < N → c + cntP τ k d ≤ 2 → KT e c τ t → (∀ j, j < k → τ.2.1 7 j = 80 → ∃ i, i < c ∧ t.2.2.2 e i = τ.2.1 6 j) → ∃ c' t', L_X7_keepLemma_111 N t (nI k) = some (.inl (nI e), t') ∧ KF m e c' τ t' := by
  have hm := h.m60
  intro d
  induction d with
  | zero =>
    intro k N c t hk hN hc ht hl
    obtain ⟨N, rfl⟩ : ∃ M, N = M + 1 := ⟨N - 1, by omega⟩
    have hk : k = m := hk
    subst hk
    obtain ⟨t1, t2, t3, t4, t5, t6⟩ := ht
    have hc : c ≤ 2 := by have : c + 0 ≤ 2 := hc; omega
    obtain ⟨f, hf, ef⟩ := form_ix h (show k - 1 < k by omega)
    refine ⟨c, tI (tA t 14 (upd (t.2.1 14) e (nI f))) 4 (nI (e + 1)), ?_, fun j hj => ?_, rfl, fun j h1 h2 => ?_, t3, t4, ?_, t6, hc, hl⟩
    · show B_X7_keepLemma_111 _ t (nI k) = _
      unfold B_X7_keepLemma_111
      rw [t1, h.mc7, h.ec7, if_pos (nI_le (Nat.le_refl _) (by omega)), ni_sub1 h0, gd_in (show k - 1 < 60 by omega) (by decide), gd_in he (by decide), lt_def, lt_def, ni_cl (show e < 2147483648 by omega), ni_cl (show k - 1 < 2147483648 by omega), t2 6 (by decide), ef, show (tA t 14 (upd (t.2.1 14) e (nI f))).1 4 = nI e by show t.1 4 = _; rw [t1, h.ec7], ni_add1, show (tI (tA t 14 (upd (t.2.1 14) e (nI f))) 4 (nI (e + 1))).1 4 = nI (e + 1) from rfl, nI_pred]
    · rw [tI1, if_neg hj, tA1, t1]
    · rw [tI2, tA2, if_neg h2]; exact t2 j h1
    · show upd (t.2.1 14) e (nI f) = _
      rw [t2 14 (by decide), ef]
  | succ d ih =>
    intro k N c t hk hN hc ht hl
    obtain ⟨N, rfl⟩ : ∃ M, N = M + 1 := ⟨N - 1, by omega⟩
    have hkm : k < m := by omega
    obtain ⟨f, hf, ef⟩ := form_ix h hkm
    have hc : c + ((if τ.2.1 7 k = 80 then 1 else 0) + cntP τ (k + 1) d) ≤ 2 := hc
    obtain ⟨t1, t2, t3, t4, t5, t6⟩ := id ht
    by_cases hp : τ.2.1 7 k = 80
    · rw [if_pos hp] at hc
      have hc2 : c < 2 := by omega
      obtain ⟨t9, ht9⟩ : ∃ t9, t9 = tA (tP t e (upd (t.2.2.2 e) c (nI f))) 13 (upd (t.2.1 13) e (nI (c + 1))) := ⟨_, rfl⟩
      have g2 : L_X7_keepLemma_111 (N + 1) t (nI k) = L_X7_keepLemma_111 N t9 (nI (k + 1)) := by
        show B_X7_keepLemma_111 _ t (nI k) = _
        unfold B_X7_keepLemma_111
        rw [t1, h.mc7, h.ec7, if_neg (nI_ge hkm (by omega)), gd_in (show k < 60 by omega) (by decide), ni_cl (show k < 2147483648 by omega), t2 7 (by decide), if_pos hp, gd_in he (by decide), gd_in he (by decide), gd_in (show k < 60 by omega) (by decide), ni_cl (show e < 2147483648 by omega), t3, gd_in hc2 (by decide), ni_cl (show c < 2147483648 by omega), t2 6 (by decide), ef, lt_def, show (tP t e (upd (t.2.2.2 e) c (nI f))).1 4 = nI e by show t.1 4 = _; rw [t1, h.ec7], gd_in he (by decide), gd_in he (by decide), ni_cl (show e < 2147483648 by omega), show (tP t e (upd (t.2.2.2 e) c (nI f))).2.1 13 e = nI c from t3, lt_def, lt_def, ni_add1, ni_add1, ht9]
        rfl
      have pe : t9.2.2.2 e = upd (t.2.2.2 e) c (nI f) := by subst ht9; show up1 t.2.2.2 e _ e = _; rw [up1_at, if_pos rfl]
      have ht' : KT e (c + 1) τ t9 := by
        subst ht9
        refine ⟨t1, fun j a => by rw [tA2, if_neg a]; exact t2 j a, ?_, fun j hj => ?_, t5, fun j hj => ?_⟩
        · show upd (t.2.1 13) e (nI (c + 1)) e = _; rw [upd_eq]
        · show upd (t.2.1 13) e (nI (c + 1)) j = _; rw [upd_ne _ hj]; exact t4 j hj
        · show up1 t.2.2.2 e _ j = _; rw [up1_at, if_neg hj]; exact t6 j hj
      rw [g2]
      refine ih (k + 1) N (c + 1) t9 (by omega) (by omega) (by omega) ht' (fun j hj h80 => ?_)
      rw [pe]
      by_cases hjk : j = k
      · subst hjk
        exact ⟨c, by omega, by rw [upd_eq, ef]⟩
      · obtain ⟨i, hi, ei⟩ := hl j (by omega) h80
        exact ⟨i, by omega, by rw [upd_ne _ (by omega)]; exact ei⟩
    · rw [if_neg hp, Nat.zero_add] at hc
      have g2 : L_X7_keepLemma_111 (N + 1) t (nI k) = L_X7_keepLemma_111 N t (nI (k + 1)) := by
        show B_X7_keepLemma_111 _ t (nI k) = _
        unfold B_X7_keepLemma_111
        rw [t1, h.mc7, if_neg (nI_ge hkm (by omega)), gd_in (show k < 60 by omega) (by decide), ni_cl (show k < 2147483648 by omega), t2 7 (by decide), if_neg hp, lt_def, ni_add1]
      rw [g2]
      refine ih (k + 1) N c t (by omega) (by omega) hc ht (fun j hj h80 => ?_)
      by_cases hjk : j = k
      · subst hjk; exact absurd h80 hp
      · exact hl j (by omega) h80
theorem SI.keep (hF : FW n σ τ) (hr : RW n m q e σ τ) (h0 : 0 < m) {c : Nat} (h : KF m e c τ τ') (hi : τ.2.1 8 (m - 1) = -1) (hS : SI τ) : SI τ' := by
  have hm := hr.m60
  have hq := hr.q60
  have he := hr.e8
  have hle := hF.le
  obtain ⟨-, e2, e3, e4⟩ := Rel.nn hF hr
  obtain ⟨t1, t4, t2, t13, t13', t14, tp, hc, hl⟩ := h
  have l2 : nLn τ' = m := by show (τ'.1 1).toNatClampNeg = _; rw [t1 1 (by decide)]; exact e2
  have l3 : nBx τ' = q := by show (τ'.1 2).toNatClampNeg = _; rw [t1 2 (by decide)]; exact e3
  have l4 : nLm τ' = e + 1 := by show (τ'.1 4).toNatClampNeg = _; rw [t4, ni_cl (by omega)]
  have i3 : τ'.1 3 = τ.1 3 := t1 3 (by decide)
  have a : Agr n m q τ τ' := ⟨fun f _ => by rw [show Tb τ' f = τ'.2.1 4 f from rfl, t2 4 (by decide) (by decide)], fun k hk => ⟨by rw [t2 6 (by decide) (by decide)], by rw [t2 7 (by decide) (by decide)], by rw [t2 8 (by decide) (by decide)]⟩, fun b _ => ⟨by rw [t2 9 (by decide) (by decide)], by rw [t2 11 (by decide) (by decide)]⟩⟩
  obtain ⟨s1, s2, s3, s4, s5⟩ := hS
  have pm : ∀ v, Pm τ' v → Pm τ v := fun v hp j hj h80 => by
    have hj : j < m := by omega
    have := hp j (by omega) (by rw [(a.2.1 j hj).2.1]; exact h80)
    rw [a.fo9 hj] at this
    exact (a.tr9 (fo_lt hr hj hF.le)).mp this
  refine ⟨fun k hk v hv hp hg => ?_, fun b hb ho => ?_, fun b hb => ?_, fun j hj v hv hp => ?_, fun c hc => ?_⟩
  · have hk : k < m := by omega
    obtain ⟨-, -, -, -, -, hb, -⟩ := hr.ln hk
    rw [a.fo9 hk]
    refine (a.tr9 (fo_lt hr hk hF.le)).mpr (s1 k (by omega) v hv (pm v hp) ?_)
    rw [(a.2.1 k hk).2.2] at hg
    exact (Gd.agr hF hr a hb v).mp hg
  · rw [i3]
    refine (CH.agr hr a hr.inx).mpr (s2 b (by omega) ?_)
    rw [t2 10 (by decide) (by decide)] at ho
    exact ho
  · rw [t2 8 (by decide) (by decide), t2 12 (by decide) (by decide)]
    exact s3 b (by omega)
  · rw [t14]
    by_cases hje : j = e
    · subst hje
      rw [upd_eq]
      have x := s1 (m - 1) (by omega) v hv (fun k hk h80 => ?_) (by rw [hi]; exact Gd.nil v)
      · show tbt (τ'.2.1 4 _) v = true
        rw [t2 4 (by decide) (by decide)]
        exact x
      · have hk : k < m := by omega
        obtain ⟨i, hi2, ei⟩ := hl k hk h80
        have y := hp i (by omega) (by rw [t13, ni_lt (by omega) (by omega)]; exact hi2)
        rw [ei] at y
        have y : tbt (τ'.2.1 4 (fo τ k)) v = true := y
        rw [t2 4 (by decide) (by decide)] at y
        exact y
    · rw [upd_ne _ hje]
      show tbt (τ'.2.1 4 _) v = true
      rw [t2 4 (by decide) (by decide)]
      refine s4 j (by omega) v hv (fun i hi hlt => ?_)
      have y := hp i hi (by rw [t13' j hje]; exact hlt)
      rw [tp j hje] at y
      have y : tbt (τ'.2.1 4 _) v = true := y
      rw [t2 4 (by decide) (by decide)] at y
      exact y
  · rw [i3] at hc
    rw [t2 10 (by decide) (by decide)]
    exact s5 c ((CH.agr hr a hr.inx).mp hc)
theorem op_keep (hσ : Rel σ τ) (hS : SI τ) : (∃ E σ', P_X6_keepLemma σ = some (.inr E, σ') ∧ E ∈ XE ∧ Rel σ' τ) ∨ ∃ e σ' τ', e < 8 ∧ P_X6_keepLemma σ = some (.inl (nI e), σ') ∧ Rel σ' τ' ∧ SI τ' := by
  obtain ⟨h, hr⟩ := hσ.at
  have hm := hr.m60
  have he8 := hr.e8
  unfold P_X6_keepLemma P_X6_requireLines
  by_cases h0 : nLn τ = 0
  · have hz : σ.1 2 = 0 := by rw [hr.mc, h0]; rfl
    exact Or.inl ⟨_, σ, by rw [if_pos hz, bd_exc], by decide, hσ⟩
  · have n1 : ¬ σ.1 2 = 0 := by rw [hr.mc, ni_eq0 (by omega)]; exact h0
    have hk : nLn τ - 1 < nLn τ := by omega
    rw [if_neg n1, bd_some, hr.mc, ni_sub1 (by omega), inn_in hr hk]
    unfold B_X6_keepLemma_30 B_X6_keepLemma_50 P_X2_premiseCount
    by_cases hi : τ.2.1 8 (nLn τ - 1) = -1
    · have cs := cnt_s hr (nLn τ) 0 FU 0 (by omega) (by unfold FU; omega)
      rw [nI_0, Nat.zero_add] at cs
      have cl := cntP_le τ (nLn τ) 0
      rw [if_pos hi, shape_1, bd_some, lt_def, lt_def, cs, bd_some]
      by_cases hc : cntP τ 0 (nLn τ) ≤ 2
      · rw [if_neg (show ¬ (2 : Int32) < nI (cntP τ 0 (nLn τ)) from (show ¬ nI 2 < nI (cntP τ 0 (nLn τ)) from nI_nlt hc (by decide))), shape_1, bd_some]
        by_cases he : nLm τ < 8
        · rw [hr.ec, if_pos (show nI (nLm τ) < (8 : Int32) from nI_lt he (by decide))]
          unfold P_X1_keep
          rw [lt_def, lt_def, lt_def, hr.ec]
          have k0 : KT (nLm τ) 0 (tI τ 5 0) (tA (tI τ 5 0) 13 (upd ((tI τ 5 0).2.1 13) (nLm τ) 0)) := ⟨rfl, fun k hk => by rw [tA2, if_neg hk], by rw [tA2, if_pos rfl, upd_eq]; rfl, fun j hj => by rw [tA2, if_pos rfl, upd_ne _ hj], rfl, fun _ _ => rfl⟩
          obtain ⟨s', t', r1, r2, r3, r4⟩ := keep_loop (h.thr 0) (hr.thr 0) (by omega) he rfl (nLn τ) 0 FU FU 0 σ _ (by omega) (by unfold FU; omega) (by unfold FU; omega) (by rw [Nat.zero_add, cntP_thr]; exact hc) ⟨rfl, fun _ _ _ => rfl, fun _ _ => ⟨rfl, rfl⟩⟩ k0 ⟨fun z => absurd z (by omega), fun z => absurd z (by omega)⟩
          obtain ⟨c', t2, f1, f2⟩ := keepT (hr.thr 0) (by omega) he (nLn τ) 0 FU 0 _ (by omega) (by unfold FU; omega) (by rw [Nat.zero_add, cntP_thr]; exact hc) k0 (fun j hj => absurd hj (Nat.not_lt_zero j))
          rw [r2] at f1
          cases f1
          rw [nI_0] at r1
          refine Or.inr ⟨nLm τ, s', t', he, by rw [r1, bd_some], r4, SI.keep (h.thr 0) (hr.thr 0) (by omega) f2 hi ?_⟩
          exact hS.ext h hr ⟨fun _ _ _ _ => rfl, PPt.thr⟩
        · have e9 : nLm τ = 8 := by omega
          exact Or.inl ⟨_, σ, by rw [hr.ec, e9, if_neg (show ¬ nI 8 < (8 : Int32) by decide)], by decide, hσ⟩
      · exact Or.inl ⟨_, σ, by rw [if_pos (show (2 : Int32) < nI (cntP τ 0 (nLn τ)) from nI_lt (a := 2) (by omega) (by omega)), shape_0, bd_exc], by decide, hσ⟩
    · exact Or.inl ⟨_, σ, by rw [if_neg hi, shape_0, bd_exc], by decide, hσ⟩
end KEEPL
