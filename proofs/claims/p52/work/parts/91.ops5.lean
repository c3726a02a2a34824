/-! ASSUME, THE RULE OF TWO BOXES -/
theorem LnE.mono {n q q' : Nat} {σ : DS} {τ : MS} {k : Nat} (h : LnE n q σ τ k) (hq : q ≤ q') : LnE n q' σ τ k := by
  obtain ⟨p1, p2, p3, p4, p5, p6, p7, p8, p9, p10, p11, p12, p13, p14⟩ := h
  exact ⟨p1, p2, p3, p4, p5, p6.mono hq, p7, p8, p9, p10, p11, p12, p13.mono hq, p14.mono hq⟩
theorem ag11 : AG11 Rel := by
  intro σ τ w a hI
  obtain ⟨n, m, q, e, h, hr⟩ := id hI
  have hm := hr.m60
  have hle := h.le
  unfold W_L_assume P_X6_assume P_X7_assume B_X7_assume_27
  rcases ix_cases n (by omega) a with ⟨f, hf, rfl⟩ | ha
  · rw [reqF_in h hf, bd_some, isF_in h hf, if_neg i10]
    by_cases hm2 : m < 60
    · have hq : q < 60 := by have := hr.1.2.1; omega
      rw [room_ok hr hm2, bd_some, if_neg (full_no hr hm2), lt_def, thr_le]
      unfold P_X2_open
      rw [lt_def, hr.qc]
      simp only [lt_def, rput_in (show q < 60 from hq) (by decide : (60 : Nat) < 2147483648)]
      generalize hs50 : sI (sI (sR (sR (sR σ 18 (upd (σ.2 18) q (σ.1 4))) 19 (upd ((sR σ 18 (upd (σ.2 18) q (σ.1 4))).2 19) q 1)) 16 (upd ((sR (sR σ 18 (upd (σ.2 18) q (σ.1 4))) 19 (upd ((sR σ 18 (upd (σ.2 18) q (σ.1 4))).2 19) q 1)).2 16) q ((sR (sR σ 18 (upd (σ.2 18) q (σ.1 4))) 19 (upd ((sR σ 18 (upd (σ.2 18) q (σ.1 4))).2 19) q 1)).1 2))) 4 (nI q)) 3 ((sI (sR (sR (sR σ 18 (upd (σ.2 18) q (σ.1 4))) 19 (upd ((sR σ 18 (upd (σ.2 18) q (σ.1 4))).2 19) q 1)) 16 (upd ((sR (sR σ 18 (upd (σ.2 18) q (σ.1 4))) 19 (upd ((sR σ 18 (upd (σ.2 18) q (σ.1 4))).2 19) q 1)).2 16) q ((sR (sR σ 18 (upd (σ.2 18) q (σ.1 4))) 19 (upd ((sR σ 18 (upd (σ.2 18) q (σ.1 4))).2 19) q 1)).1 2))) 4 (nI q)).1 3 + 1) = s50
      have a1 : s50.1 2 = nI m := by rw [← hs50]; exact hr.mc
      have a2 : s50.1 3 = nI (q + 1) := by rw [← hs50]; show σ.1 3 + 1 = _; rw [hr.qc, ni_add1]
      have a3 : s50.1 4 = nI q := by rw [← hs50]; rfl
      have a4 : s50.1 5 = σ.1 5 := by rw [← hs50]; rfl
      have a5 : s50.1 1 = σ.1 1 := by rw [← hs50]; rfl
      have b18 : s50.2 18 = upd (σ.2 18) q (σ.1 4) := by rw [← hs50]; rfl
      have b19 : s50.2 19 = upd (σ.2 19) q 1 := by rw [← hs50]; rfl
      have b16 : s50.2 16 = upd (σ.2 16) q (nI m) := by rw [← hs50]; show upd (σ.2 16) q (σ.1 2) = _; rw [hr.mc]
      have b9 : ∀ k, k ≠ 16 → k ≠ 18 → k ≠ 19 → s50.2 k = σ.2 k := fun k h1 h2 h3 => by
        rw [← hs50, sI_2, sI_2, sR_2, if_neg h1, sR_2, if_neg h3, sR_2, if_neg h2]
      obtain ⟨σ', e1, n1⟩ := enter_c a1 hm2 (nI f) 72
      rw [e1, bd_some]
      simp only [show (tI τ 5 0).1 2 = nI q from hr.qc7, gd_in (show q < 60 from hq) (by decide : (60 : Nat) < 2147483648), ni_cl (show q < 2147483648 by omega), tA1]
      generalize ht80 : tI (tI (tA (tA (tA (tI τ 5 0) 9 (upd ((tI τ 5 0).2.1 9) q ((tI τ 5 0).1 3))) 10 (upd ((tA (tI τ 5 0) 9 (upd ((tI τ 5 0).2.1 9) q ((tI τ 5 0).1 3))).2.1 10) q (vp_nar .boolean 1))) 11 (upd ((tA (tA (tI τ 5 0) 9 (upd ((tI τ 5 0).2.1 9) q ((tI τ 5 0).1 3))) 10 (upd ((tA (tI τ 5 0) 9 (upd ((tI τ 5 0).2.1 9) q ((tI τ 5 0).1 3))).2.1 10) q (vp_nar .boolean 1))).2.1 11) q ((tI τ 5 0).1 1))) 3 (nI q)) 2 ((tI (tA (tA (tA (tI τ 5 0) 9 (upd ((tI τ 5 0).2.1 9) q ((tI τ 5 0).1 3))) 10 (upd ((tA (tI τ 5 0) 9 (upd ((tI τ 5 0).2.1 9) q ((tI τ 5 0).1 3))).2.1 10) q (vp_nar .boolean 1))) 11 (upd ((tA (tA (tI τ 5 0) 9 (upd ((tI τ 5 0).2.1 9) q ((tI τ 5 0).1 3))) 10 (upd ((tA (tI τ 5 0) 9 (upd ((tI τ 5 0).2.1 9) q ((tI τ 5 0).1 3))).2.1 10) q (vp_nar .boolean 1))).2.1 11) q ((tI τ 5 0).1 1))) 3 (nI q)).1 2 + 1) = t80
      have c1 : t80.1 1 = nI m := by rw [← ht80]; exact hr.mc7
      have c2 : t80.1 2 = nI (q + 1) := by rw [← ht80]; show τ.1 2 + 1 = _; rw [hr.qc7, ni_add1]
      have c3 : t80.1 3 = nI q := by rw [← ht80]; rfl
      have c4 : t80.1 4 = τ.1 4 := by rw [← ht80]; rfl
      have c5 : t80.1 0 = τ.1 0 := by rw [← ht80]; rfl
      have d9 : t80.2.1 9 = upd (τ.2.1 9) q (τ.1 3) := by rw [← ht80]; rfl
      have d10 : t80.2.1 10 = upd (τ.2.1 10) q 1 := by rw [← ht80]; rfl
      have d11 : t80.2.1 11 = upd (τ.2.1 11) q (nI m) := by rw [← ht80]; show upd (τ.2.1 11) q (τ.1 1) = _; rw [hr.mc7]
      have d99 : ∀ k, k ≠ 9 → k ≠ 10 → k ≠ 11 → t80.2.1 k = τ.2.1 k := fun k h1 h2 h3 => by
        rw [← ht80]
        show up1 (up1 (up1 τ.2.1 9 _) 10 _) 11 _ k = _
        rw [up1_at, if_neg h3, up1_at, if_neg h2, up1_at, if_neg h1]
      have d2 : t80.2.2 = τ.2.2 := by rw [← ht80]; rfl
      obtain ⟨τ', e2, n2⟩ := enters_t c1 hm2 (Or.inr ⟨q, hq, c3⟩) (nI f) (c := 72) (by decide) (-1) (-1) (-1) (-1)
      rw [e2, bd_some]
      obtain ⟨p1, p2, p3, p4, p5, p6, p7, p8, p9, p10, p11, p12, p13, p14⟩ := n1
      obtain ⟨t1, t2, t3, t4, t5, t6, t7, t8, t9, t10, t11, t12, t13, t14, t15, t16⟩ := n2
      obtain ⟨l1, l2, l3, l4, l5, l6, l7, l8, l9, l10⟩ := hr.1
      obtain ⟨m1, m2, m3, m4⟩ := hr.2.1
      refine ag_ret rfl rfl t15 ⟨n, m + 1, q + 1, e, h.scr (by rw [p13, a5]) (fun k hk => by rw [p14 k hk, b9 k (by omega) (by omega) (by omega)]) (by rw [t14, c5]) (fun k hk => by rw [t16 k hk, d99 k (by omega) (by omega) (by omega)]), ⟨by omega, by omega, p1, t1, by rw [p2 3 (by decide) (by decide), a2], by rw [t2 2 (by decide) (by decide), c2], by rw [p2 4 (by decide) (by decide), a3, t2 3 (by decide) (by decide), c3], by rw [t2 3 (by decide) (by decide), c3]; exact Or.inr ⟨q, by omega, rfl⟩, fun k hk => ?_, fun b hb => ?_⟩, ⟨m1, by rw [p2 5 (by decide) (by decide), a4]; exact m2, by rw [t2 4 (by decide) (by decide), c4]; exact m3, fun j hj => ?_⟩, fun j hj => ?_⟩
      · by_cases hkm : k = m
        · subst hkm
          unfold LnE
          rw [p3, p4, p5, p6, p7, p8, p9, t3, t4, t5, t9, t10, t11, t12, upd_eq, upd_eq, upd_eq, upd_eq, upd_eq, upd_eq, upd_eq, upd_eq, upd_eq, upd_eq, a3, c3]
          exact ⟨rfl, ⟨f, hf, rfl⟩, rfl, by decide, rfl, Or.inr ⟨q, by omega, rfl⟩, rfl, rfl, rfl, rfl, Or.inl rfl, Or.inl rfl, Or.inl rfl, Or.inl rfl⟩
        · have hk' := (l9 k (by omega)).mono (Nat.le_succ q)
          unfold LnE at hk' ⊢
          rw [p3, p4, p5, p6, p7, p8, p9, t3, t4, t5, t8 k hkm, upd_ne _ hkm, upd_ne _ hkm, upd_ne _ hkm, upd_ne _ hkm, upd_ne _ hkm, upd_ne _ hkm, upd_ne _ hkm, upd_ne _ hkm, upd_ne _ hkm, upd_ne _ hkm, d2, b9 8 (by decide) (by decide) (by decide), b9 9 (by decide) (by decide) (by decide), b9 10 (by decide) (by decide) (by decide), b9 11 (by decide) (by decide) (by decide), b9 12 (by decide) (by decide) (by decide), b9 13 (by decide) (by decide) (by decide), b9 14 (by decide) (by decide) (by decide), d99 6 (by decide) (by decide) (by decide), d99 7 (by decide) (by decide) (by decide), d99 8 (by decide) (by decide) (by decide)]
          exact hk'
      · unfold BxE
        rw [p10, p11, p12 18 (by decide) (by decide), p12 19 (by decide) (by decide), t6, t7 11 (by decide), t7 9 (by decide), t7 10 (by decide), a3, c3, rput_in (by omega) (by decide), if_neg (ni_ne (by omega)), ni_cl (by omega), b16, b18, b19, d9, d10, d11]
        by_cases hbq : b = q
        · subst hbq
          rw [upd_eq, upd_eq, upd_eq, upd_eq, upd_eq, upd_eq, upd_eq, upd_eq]
          exact ⟨rfl, ⟨m, by omega, rfl⟩, rfl, ⟨m, by omega, rfl⟩, l7, l8, rfl, Or.inr rfl⟩
        · rw [upd_ne _ hbq, upd_ne _ hbq, upd_ne _ hbq, upd_ne _ hbq, upd_ne _ hbq, upd_ne _ hbq, upd_ne _ hbq, upd_ne _ hbq, b9 17 (by decide) (by decide) (by decide), d99 12 (by decide) (by decide) (by decide)]
          obtain ⟨r1, ⟨k1, hk1, r2⟩, r3, ⟨k2, hk2, r4⟩, r5⟩ := l10 b (by omega)
          exact ⟨r1, ⟨k1, by omega, r2⟩, r3, ⟨k2, by omega, r4⟩, r5⟩
      · have hj' := m4 j hj
        unfold LmE at hj' ⊢
        rw [p12 20 (by decide) (by decide), p12 21 (by decide) (by decide), p12 22 (by decide) (by decide), p12 23 (by decide) (by decide), t7 13 (by decide), t7 14 (by decide), t13, d2, b9 20 (by decide) (by decide) (by decide), b9 21 (by decide) (by decide) (by decide), b9 22 (by decide) (by decide) (by decide), b9 23 (by decide) (by decide) (by decide), d99 13 (by decide) (by decide) (by decide), d99 14 (by decide) (by decide) (by decide)]
        exact hj'
      · rw [p12 24 (by decide) (by decide), t7 5 (by decide), b9 24 (by decide) (by decide) (by decide), d99 5 (by decide) (by decide) (by decide)]
        exact hr.2.2 j hj
    · rw [room_no hr hm2, bd_exc, if_pos (full_yes hr hm2), lt_def, thr_2]
      exact ag_exc rfl rfl rfl rfl (by decide) (hI.thr 2)
  · rw [reqF_no h ha, bd_exc, isF_no h ha, if_pos rfl, lt_def, thr_1]
    exact ag_exc rfl rfl rfl rfl (by decide) (hI.thr 1)
