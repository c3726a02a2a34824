/-! BOXES are begun and closed, and cited -/
section BOXES
variable {n m q e : Nat} {σ σ' : DS} {τ τ' : MS}
/-- a box is begun -/
def NewB (m q : Nat) (τ t : MS) : Prop := t.1 1 = nI m ∧ t.1 2 = nI (q + 1) ∧ t.1 3 = nI q ∧ t.1 4 = τ.1 4 ∧ t.1 0 = τ.1 0 ∧ t.2.1 9 = upd (τ.2.1 9) q (τ.1 3) ∧ t.2.1 10 = upd (τ.2.1 10) q 1 ∧ t.2.1 11 = upd (τ.2.1 11) q (nI m) ∧ (∀ k, k ≠ 9 → k ≠ 10 → k ≠ 11 → t.2.1 k = τ.2.1 k) ∧ t.2.2 = τ.2.2
theorem assume_rel (h : FW n σ τ) (hr : RW n m q e σ τ) (hm2 : m < 60) {f : Nat} (hf : f < n) : ∃ (σ' : DS) (τ' t80 : MS), P_X2_open σ (nI f) = some (.inl (nI m), σ') ∧ Rel σ' τ' ∧ NewB m q τ t80 ∧ NewT m (nI f) 72 (-1) (-1) (-1) (-1) t80 τ' := by
  have hm := hr.m60
  have hle := h.le
  have hq : q < 60 := by have := hr.1.2.1; omega
  unfold P_X2_open
  rw [lt_def, hr.qc]
  simp only [lt_def, rput_in (show q < 60 from hq) (by decide : (60 : Nat) < 2147483648)]
  generalize hs50 : sI (sI (sR (sR (sR σ 18 (upd (σ.2 18) q (σ.1 4))) 19 (upd ((sR σ 18 (upd (σ.2 18) q (σ.1 4))).2 19) q 1)) 16 (upd ((sR (sR σ 18 (upd (σ.2 18) q (σ.1 4))) 19 (upd ((sR σ 18 (upd (σ.2 18) q (σ.1 4))).2 19) q 1)).2 16) q ((sR (sR σ 18 (upd (σ.2 18) q (σ.1 4))) 19 (upd ((sR σ 18 (upd (σ.2 18) q (σ.1 4))).2 19) q 1)).1 2))) 4 (nI q)) 3 ((sI (sR (sR (sR σ 18 (upd (σ.2 18) q (σ.1 4))) 19 (upd ((sR σ 18 (upd (σ.2 18) q (σ.1 4))).2 19) q 1)) 16 (upd ((sR (sR σ 18 (upd (σ.2 18) q (σ.1 4))) 19 (upd ((sR σ 18 (upd (σ.2 18) q (σ.1 4))).2 19) q 1)).2 16) q ((sR (sR σ 18 (upd (σ.2 18) q (σ.1 4))) 19 (upd ((sR σ 18 (upd (σ.2 18) q (σ.1 4))).2 19) q 1)).1 2))) 4 (nI q)).1 3 + 1) = s50
  have a1 : s50.1 2 = nI m := by rw [← hs50]; exact hr.mc
  have a2 : s50.1 3 = nI (q + 1) := by rw [← hs50]; show σ.1 3 + 1 = _; rw [hr.qc, ni_add1]
  have a3 : s50.1 4 = nI q := by rw [← hs50]; rfl
  have a4 : s50.1 5 = σ.1 5 := by rw [← hs50]; rfl
  have a5 : s50.1 1 = σ.1 1 := by rw [← hs50]; rfl
  have b18 : s50.2 18 = upd (σ.2 18) q (σ.1 4) := by rw [← hs50]; rfl
  have b19 : s50.2 19 = upd (σ.2 19) q 1 := by rw [← hs50]; rfl
  have b16 : s50.2 16 = upd (σ.2 16) q (nI m) := by rw [← hs50]; show upd (σ.2 16) q (σ.1 2) = _; rw [hr.mc]
  have b9 : ∀ k, k ≠ 16 → k ≠ 18 → k ≠ 19 → s50.2 k = σ.2 k := fun k h1 h2 h3 => by
    rw [← hs50, sI_2, sI_2, sR_2, if_neg h1, sR_2, if_neg h3, sR_2, if_neg h2]
  obtain ⟨σ', e1, n1⟩ := enter_c a1 hm2 (nI f) 72
  obtain ⟨t80, ht80⟩ : ∃ t, t = tI (tI (tA (tA (tA τ 9 (upd (τ.2.1 9) q (τ.1 3))) 10 (upd (τ.2.1 10) q 1)) 11 (upd (τ.2.1 11) q (nI m))) 3 (nI q)) 2 (nI (q + 1)) := ⟨_, rfl⟩
  have c1 : t80.1 1 = nI m := by rw [ht80]; exact hr.mc7
  have c2 : t80.1 2 = nI (q + 1) := by rw [ht80]; rfl
  have c3 : t80.1 3 = nI q := by rw [ht80]; rfl
  have c4 : t80.1 4 = τ.1 4 := by rw [ht80]; rfl
  have c5 : t80.1 0 = τ.1 0 := by rw [ht80]; rfl
  have d9 : t80.2.1 9 = upd (τ.2.1 9) q (τ.1 3) := by rw [ht80]; rfl
  have d10 : t80.2.1 10 = upd (τ.2.1 10) q 1 := by rw [ht80]; rfl
  have d11 : t80.2.1 11 = upd (τ.2.1 11) q (nI m) := by rw [ht80]; rfl
  have d99 : ∀ k, k ≠ 9 → k ≠ 10 → k ≠ 11 → t80.2.1 k = τ.2.1 k := fun k h1 h2 h3 => by
    rw [ht80]
    show up1 (up1 (up1 τ.2.1 9 _) 10 _) 11 _ k = _
    rw [up1_at, if_neg h3, up1_at, if_neg h2, up1_at, if_neg h1]
  have d2 : t80.2.2 = τ.2.2 := by rw [ht80]; rfl
  obtain ⟨τ', e2, n2⟩ := enters_t c1 hm2 (Or.inr ⟨q, hq, c3⟩) (nI f) (c := 72) (by decide) (-1) (-1) (-1) (-1)
  have n2' := n2
  obtain ⟨p1, p2, p3, p4, p5, p6, p7, p8, p9, p10, p11, p12, p13, p14⟩ := n1
  obtain ⟨t1, t2, t3, t4, t5, t6, t7, t8, t9, t10, t11, t12, t13, t14, t15, t16⟩ := n2
  obtain ⟨l1, l2, l3, l4, l5, l6, l7, l8, l9, l10⟩ := hr.1
  obtain ⟨m1, m2, m3, m4⟩ := hr.2.1
  refine ⟨σ', τ', t80, by rw [e1, bd_some], ⟨n, m + 1, q + 1, e, h.scr (by rw [p13, a5]) (fun k hk => by rw [p14 k hk, b9 k (by omega) (by omega) (by omega)]) (by rw [t14, c5]) (fun k hk => by rw [t16 k hk, d99 k (by omega) (by omega) (by omega)]), ⟨by omega, by omega, p1, t1, by rw [p2 3 (by decide) (by decide), a2], by rw [t2 2 (by decide) (by decide), c2], by rw [p2 4 (by decide) (by decide), a3, t2 3 (by decide) (by decide), c3], by rw [t2 3 (by decide) (by decide), c3]; exact Or.inr ⟨q, by omega, rfl⟩, fun k hk => ?_, fun b hb => ?_⟩, ⟨m1, by rw [p2 5 (by decide) (by decide), a4]; exact m2, by rw [t2 4 (by decide) (by decide), c4]; exact m3, fun j hj => ?_⟩, fun j hj => ?_⟩, ⟨c1, c2, c3, c4, c5, d9, d10, d11, d99, d2⟩, n2'⟩
  · by_cases hkm : k = m
    · subst hkm
      unfold LnE
      rw [p3, p4, p5, p6, p7, p8, p9, t3, t4, t5, t9, t10, t11, t12, upd_eq, upd_eq, upd_eq, upd_eq, upd_eq, upd_eq, upd_eq, upd_eq, upd_eq, upd_eq, a3, c3]
      exact ⟨rfl, ⟨f, hf, rfl⟩, rfl, by decide, rfl, Or.inr ⟨q, by omega, rfl⟩, rfl, rfl, rfl, rfl, Or.inl rfl, Or.inl rfl, Or.inl rfl, Or.inl rfl⟩
    · have hk' := (l9 k (by omega)).mono (Nat.le_succ q)
      unfold LnE at hk' ⊢
      rw [p3, p4, p5, p6, p7, p8, p9, t3, t4, t5, t8 k hkm, upd_ne _ hkm, upd_ne _ hkm, upd_ne _ hkm, upd_ne _ hkm, upd_ne _ hkm, upd_ne _ hkm, upd_ne _ hkm, upd_ne _ hkm, upd_ne _ hkm, upd_ne _ hkm, d2, b9 8 (by decide) (by decide) (by decide), b9 9 (by decide) (by decide) (by decide), b9 10 (by decide) (by decide) (by decide), b9 11 (by decide) (by decide) (by decide), b9 12 (by decide) (by decide) (by decide), b9 13 (by decide) (by decide) (by decide), b9 14 (by decide) (by decide) (by decide), d99 6 (by decide) (by decide) (by decide), d99 7 (by decide) (by decide) (by decide), d99 8 (by decide) (by decide) (by decide)]
      exact hk'
  · unfold BxE
    rw [p10, p11, p12 18 (by decide) (by decide), p12 19 (by decide) (by decide), t6, t7 11 (by decide), t7 9 (by decide), t7 10 (by decide), a3, c3, rput_in (by omega) (by decide), if_neg (ni_ne (by omega)), ni_cl (by omega), b16, b18, b19, d9, d10, d11]
    by_cases hbq : b = q
    · subst hbq
      rw [upd_eq, upd_eq, upd_eq, upd_eq, upd_eq, upd_eq, upd_eq, upd_eq]
      exact ⟨rfl, ⟨m, by omega, rfl⟩, rfl, ⟨m, by omega, rfl⟩, l7, l8, rfl, Or.inr rfl⟩
    · rw [upd_ne _ hbq, upd_ne _ hbq, upd_ne _ hbq, upd_ne _ hbq, upd_ne _ hbq, upd_ne _ hbq, upd_ne _ hbq, upd_ne _ hbq, b9 17 (by decide) (by decide) (by decide), d99 12 (by decide) (by decide) (by decide)]
      obtain ⟨r1, ⟨k1, hk1, r2⟩, r3, ⟨k2, hk2, r4⟩, r5⟩ := l10 b (by omega)
      exact ⟨r1, ⟨k1, by omega, r2⟩, r3, ⟨k2, by omega, r4⟩, r5⟩
  · have hj' := m4 j hj
    unfold LmE at hj' ⊢
    rw [p12 20 (by decide) (by decide), p12 21 (by decide) (by decide), p12 22 (by decide) (by decide), p12 23 (by decide) (by decide), t7 13 (by decide), t7 14 (by decide), t13, d2, b9 20 (by decide) (by decide) (by decide), b9 21 (by decide) (by decide) (by decide), b9 22 (by decide) (by decide) (by decide), b9 23 (by decide) (by decide) (by decide), d99 13 (by decide) (by decide) (by decide), d99 14 (by decide) (by decide) (by decide)]
    exact hj'
  · rw [p12 24 (by decide) (by decide), t7 5 (by decide), b9 24 (by decide) (by decide) (by decide), d99 5 (by decide) (by decide) (by decide)]
    exact hr.2.2 j hj
theorem SI.assume (hF : FW n σ τ) (hr : RW n m q e σ τ) (hm60 : m < 60) {f : Nat} (hf : f < n) {t : MS} (hB : NewB m q τ t) (h : NewT m (nI f) 72 (-1) (-1) (-1) (-1) t τ') (hS : SI τ) : SI τ' ∧ nLn τ' = m + 1 ∧ citT τ' m = true := by
  have hm := hr.m60
  have hq : q < 60 := by have := hr.1.2.1; omega
  have hle := hF.le
  obtain ⟨-, e2, e3, e4⟩ := Rel.nn hF hr
  obtain ⟨b1, b2, b3, b4, b0, b9, b10, b11, b99, b22⟩ := hB
  obtain ⟨t1, t2, t6, t7, t8, t12, tk, tc, -, -, -, -, tp, -, -, t04⟩ := h
  have l2 : nLn τ' = m + 1 := by show (τ'.1 1).toNatClampNeg = _; rw [t1, ni_cl (by omega)]
  have l3 : nBx τ' = q + 1 := by show (τ'.1 2).toNatClampNeg = _; rw [t2 2 (by decide) (by decide), b2, ni_cl (by omega)]
  have l4 : nLm τ' = e := by show (τ'.1 4).toNatClampNeg = _; rw [t2 4 (by decide) (by decide), b4]; exact e4
  have i3 : τ'.1 3 = nI q := by rw [t2 3 (by decide) (by decide), b3]
  have a : Agr n m q τ τ' := ⟨fun f _ => by rw [show Tb τ' f = τ'.2.1 4 f from rfl, t04 4 (by decide), b99 4 (by decide) (by decide) (by decide)], fun k hk => ⟨by rw [t6, upd_ne _ (by omega), b99 6 (by decide) (by decide) (by decide)], by rw [t7, upd_ne _ (by omega), b99 7 (by decide) (by decide) (by decide)], by rw [t8, upd_ne _ (by omega), b99 8 (by decide) (by decide) (by decide)]⟩, fun b hb => ⟨by rw [tk 9 (by decide), b9, upd_ne _ (by omega)], by rw [tk 11 (by decide), b11, upd_ne _ (by omega)]⟩⟩
  have fm : fo τ' m = f := by show (τ'.2.1 6 m).toNatClampNeg = f; rw [t6, upd_eq, ni_cl (by omega)]
  have bm : τ'.2.1 8 m = nI q := by rw [t8, upd_eq, b3]
  have o9 : τ'.2.1 9 q = τ.1 3 := by rw [tk 9 (by decide), b9, upd_eq]
  obtain ⟨s1, s2, s3, s4, s5⟩ := hS
  have pm : ∀ v, Pm τ' v → Pm τ v := fun v hp j hj h80 => by
    have hj : j < m := by omega
    have := hp j (by omega) (by rw [(a.2.1 j hj).2.1]; exact h80)
    rw [a.fo9 hj] at this
    exact (a.tr9 (fo_lt hr hj hF.le)).mp this
  refine ⟨⟨fun k hk v hv hp hg => ?_, fun b hb ho => ?_, fun b hb => ?_, fun j hj v hv hp => ?_, fun c hc => ?_⟩, l2, ?_⟩
  · rcases Nat.lt_or_ge k m with hk | hk'
    · obtain ⟨-, -, -, -, -, hb, -⟩ := hr.ln hk
      rw [a.fo9 hk]
      refine (a.tr9 (fo_lt hr hk hF.le)).mpr (s1 k (by omega) v hv (pm v hp) ?_)
      rw [(a.2.1 k hk).2.2] at hg
      exact (Gd.agr hF hr a hb v).mp hg
    · have : k = m := by omega
      subst this
      rw [bm] at hg
      have := (Gd.out hq hg).1
      rw [tk 11 (by decide), b11, upd_eq, ni_cl (by omega)] at this
      exact this
  · rw [i3]
    by_cases hbq : b = q
    · subst hbq; exact CH.self hq
    · rw [tk 10 (by decide), b10, upd_ne _ hbq] at ho
      have := (CH.agr hr a hr.inx).mpr (s2 b (by omega) ho)
      exact CH.up hq (by rw [o9]; exact this)
  · rw [t12, b3, if_neg (ni_ne (by omega)), ni_cl (show q < 2147483648 by omega)]
    by_cases hbq : b = q
    · subst hbq; rw [upd_eq, ni_cl (by omega), bm]
    · have hb : b < q := by omega
      rw [upd_ne _ hbq, b99 12 (by decide) (by decide) (by decide), (a.2.1 _ (ll_lt hr hb)).2.2]
      exact s3 b (by omega)
  · have hj : j < e := by omega
    exact (con_agr hF hr a.1 (by rw [tk 14 (by decide), b99 14 (by decide) (by decide) (by decide)]) hj).mpr (s4 j (by omega) v hv ((Lp.agr hF hr a.1 (by rw [tk 13 (by decide), b99 13 (by decide) (by decide) (by decide)]) (by rw [tp, b22]) hj).mp hp))
  · rw [i3] at hc
    rw [tk 10 (by decide), b10]
    rcases hc.inv hq with rfl | hc
    · exact upd_eq _ _ _
    · rw [o9] at hc
      have hc := (CH.agr hr a hr.inx).mp hc
      have := hc.lt hr hr.inx
      rw [upd_ne _ (by omega)]
      exact s5 c hc
  · unfold citT
    rw [bm, ni_cl (show q < 2147483648 by omega), tk 10 (by decide), b10, upd_eq, Bool.or_eq_true, decide_eq_true_eq, decide_eq_true_eq]
    exact Or.inr rfl
theorem op_assume (hσ : Rel σ τ) (hS : SI τ) (a : Int32) : OpR τ (P_X6_assume σ a) := by
  obtain ⟨h, hr⟩ := hσ.at
  unfold P_X6_assume
  rcases reqF_cases h a with ⟨f, hf, rfl, q1⟩ | q1
  · by_cases hm2 : nLn τ < 60
    · obtain ⟨σ', τ', t, e1, e2, e3, e4⟩ := assume_rel h hr hm2 hf
      exact Or.inr ⟨σ', τ', by rw [q1, bd_some, room_ok hr hm2, bd_some, e1, bd_some], e2, SI.assume h hr hm2 hf e3 e4 hS⟩
    · exact OpR.xs hσ (by rw [q1, bd_some, room_no hr hm2, bd_exc])
  · exact OpR.xi hσ (by rw [q1, bd_exc])
/-- a box is closed -/
def clB (τ : MS) (b : Nat) : MS := tI (tA τ 10 (upd (τ.2.1 10) b 0)) 3 (τ.2.1 9 b)
theorem close_ok (hσ : Rel σ τ) (hS : SI τ) : (∃ σ', P_X6_closeBox σ = some (.inr "java/lang/IllegalStateException", σ') ∧ Rel σ' τ) ∨ ∃ b σ' τ', b < nBx τ ∧ P_X6_closeBox σ = some (.inl (nI b), σ') ∧ Rel σ' τ' ∧ SI τ' := by
  obtain ⟨h, hr⟩ := hσ.at
  have hq := hr.q60
  have hle := h.le
  have hin := hr.inn
  unfold P_X6_closeBox
  rcases hr.inx with hi | ⟨b, hb, hi⟩
  · exact Or.inl ⟨σ, by rw [hin, if_pos hi], hσ⟩
  · obtain ⟨p1, p2, p3, p4, p5, p6, p7, p8⟩ := hr.bx hb
    refine Or.inr ⟨b, sI (sR σ 19 (upd (σ.2 19) b 0)) 4 (τ.2.1 9 b), clB τ b, hb, ?_, ?_, ?_⟩
    · rw [hin, hi, if_neg (ni_ne (by omega))]
      unfold P_X2_close
      rw [lt_def, hin, hi, lt_def, rput_in (by omega) (by decide), lt_def, show (sR σ 19 (upd (σ.2 19) b 0)).2 18 = σ.2 18 from rfl, rat_in (by omega) (by decide), bd_some, p5]
    · refine Rel.of (n := nF τ) (m := nLn τ) (q := nBx τ) (e := nLm τ) (h.scr rfl (fun k hk => ?_) rfl (fun k hk => ?_)) ⟨⟨hr.1.1, hr.1.2.1, hr.mc, hr.mc7, hr.qc, hr.qc7, rfl, p6.mono (by omega), fun k hk => hr.ln hk, fun b' hb' => ?_⟩, hr.2.1, hr.2.2⟩
      · rw [sI_2, sR_2, if_neg (by omega)]
      · unfold clB; rw [tI2, tA2, if_neg (by omega)]
      · obtain ⟨r1, r2, r3, r4, r5, r6, r7, r8⟩ := hr.bx hb'
        refine ⟨r1, r2, r3, r4, r5, r6, ?_, ?_⟩
        · show upd (σ.2 19) b 0 b' = upd (τ.2.1 10) b 0 b'
          by_cases hbb : b' = b
          · subst hbb; rw [upd_eq, upd_eq]
          · rw [upd_ne _ hbb, upd_ne _ hbb]; exact r7
        · show upd (τ.2.1 10) b 0 b' = 0 ∨ upd (τ.2.1 10) b 0 b' = 1
          by_cases hbb : b' = b
          · subst hbb; rw [upd_eq]; exact Or.inl rfl
          · rw [upd_ne _ hbb]; exact r8
    · have a : Agr (nF τ) (nLn τ) (nBx τ) τ (clB τ b) := ⟨fun _ _ => rfl, fun _ _ => ⟨rfl, rfl, rfl⟩, fun _ _ => ⟨rfl, rfl⟩⟩
      obtain ⟨s1, s2, s3, s4, s5⟩ := hS
      have i3 : (clB τ b).1 3 = τ.2.1 9 b := rfl
      have p6' : IxN (nBx τ) (τ.2.1 9 b) := p6.mono (by omega)
      refine ⟨fun k hk v hv hp hg => ?_, fun b' hb' ho => ?_, fun b' hb' => s3 b' hb', fun j hj v hv hp => ?_, fun c hc => ?_⟩
      · obtain ⟨-, -, -, -, -, hb, -⟩ := hr.ln hk
        exact s1 k hk v hv hp ((Gd.agr h hr a hb v).mp hg)
      · have ho : upd (τ.2.1 10) b 0 b' ≠ 0 := ho
        by_cases hbb : b' = b
        · subst hbb; rw [upd_eq] at ho; exact absurd rfl ho
        · rw [upd_ne _ hbb] at ho
          have := s2 b' hb' ho
          rw [hi] at this
          rcases this.inv (by omega) with z | z
          · exact absurd z hbb
          · rw [i3]; exact (CH.agr hr a p6').mpr z
      · exact s4 j hj v hv hp
      · rw [i3] at hc
        have hc := (CH.agr hr a p6').mp hc
        have hcb : c < b := hc.elim fun _ z => ch_ltd hr (by omega) p6 z
        show upd (τ.2.1 10) b 0 c = 1
        rw [upd_ne _ (by omega)]
        exact s5 c (by rw [hi]; exact CH.up (by omega) hc)
/-- what a box gives that is cited -/
theorem boxed (hr : RW n m q e σ τ) (hS : SI τ) {b : Nat} (hb : b < q) (hc : citB τ b = true) {v : Nat} (hv : v < 32) (hp : Pm τ v) (hg : Gd τ (τ.1 3) v) (h1 : Tr τ (fo τ (τ.2.1 11 b).toNatClampNeg) v) : Tr τ (fo τ (τ.2.1 12 b).toNatClampNeg) v := by
  have hq := hr.q60
  have hm := hr.m60
  have e2 : nLn τ = m := by show (τ.1 1).toNatClampNeg = m; rw [hr.mc7, ni_cl (by omega)]
  have e3 : nBx τ = q := by show (τ.1 2).toNatClampNeg = q; rw [hr.qc7, ni_cl (by omega)]
  obtain ⟨-, -, -, -, -, o2, -⟩ := hr.bx hb
  unfold citB at hc
  rw [Bool.and_eq_true, Bool.or_eq_true, decide_eq_true_eq, decide_eq_true_eq, decide_eq_true_eq] at hc
  have hlt := ll_lt hr hb
  refine hS.1 _ (by omega) v hv hp ?_
  rw [hS.2.2.1 b (by omega)]
  exact Gd.mk (by omega) h1 (hS.opn hr (o2.mono (by omega)) hc.2 hg)
theorem res_eq (hr : RW n m q e σ τ) {b : Nat} (hb : b < q) (hn : n ≤ 150) : ∃ f, f < n ∧ F_X2_result σ (nI b) = nI f ∧ fo τ (τ.2.1 12 b).toNatClampNeg = f := by
  have hq := hr.q60
  have hm := hr.m60
  obtain ⟨-, -, x3, ⟨k, hk, x4⟩, -⟩ := hr.bx hb
  obtain ⟨f, hf, ef⟩ := form_ix hr hk
  refine ⟨f, hf, ?_, ?_⟩
  · unfold F_X2_result
    rw [rat_in (show b < 60 by omega) (by decide), x3, x4, form_in hr hk, ef]
  · rw [x4, ni_cl (by omega)]
    exact fo_eq ef (by omega)
theorem beg_eq (hr : RW n m q e σ τ) {b : Nat} (hb : b < q) (hn : n ≤ 150) : ∃ f, f < n ∧ F_X2_begin σ (nI b) = nI f ∧ fo τ (τ.2.1 11 b).toNatClampNeg = f := by
  have hm := hr.m60
  obtain ⟨k1, f1, hk1, hf1, y1, y2, y3⟩ := begin_in hr hb
  refine ⟨f1, hf1, y3, ?_⟩
  rw [y1, ni_cl (by omega)]
  exact fo_eq y2 (by omega)
theorem citB_ext (h : PPt τ τ') (k : Nat) : citB τ' k = citB τ k := by
  unfold citB
  rw [h.2.1 9 (by decide) (by decide), h.2.1 10 (by decide) (by decide)]
theorem op_makeI (hσ : Rel σ τ) (hS : SI τ) (a : Int32) : OpR τ (P_X6_makeImplication σ a) := by
  obtain ⟨h, hr⟩ := hσ.at
  have hm := hr.m60
  have hq := hr.q60
  have hle := h.le
  unfold P_X6_makeImplication
  rcases cgateB hr a with ⟨b, hb, rfl, e1, e2, e3⟩ | ⟨b, hb, rfl, e1, e2⟩ | e1
  · obtain ⟨f1, hf1, y1, y2⟩ := beg_eq hr hb hle
    obtain ⟨f2, hf2, z1, z2⟩ := res_eq hr hb hle
    rw [e1, bd_some, e2, bd_some]
    by_cases hm2 : nLn τ < 60
    · rw [room_ok hr hm2, bd_some, y1, z1]
      rcases ent_ok h hr (c := 67) (l := nI f1) (r := nI f2) (Or.inr (Or.inr ⟨f1, f2, Or.inr (Or.inr rfl), hf1, hf2, rfl, rfl⟩)) with ⟨σ1, τ1, n', g, p1, hg, hn, F1, R1, X1, k1, k2, k3⟩ | p1
      · have S1 : SI τ1 := hS.ext h hr X1
        have hle1 := F1.le
        have ag := X1.agr (m := nLn τ) (q := nBx τ)
        obtain ⟨s, σ', τ', g1, g2, g3⟩ := plainB_R F1 R1 hm2 S1 hg (c := 99) (a5 := nI b) (a6 := -1) (by decide) (Or.inr ⟨b, hb, rfl⟩) (Or.inl rfl) (fun v hv hp hgd => by
          refine (tr_C F1 hg k1 (by omega) (by omega) k2 k3 hv).mpr fun hx => ?_
          have := boxed R1 S1 hb (by rw [citB_ext X1.2]; exact e3) hv hp hgd
          rw [X1.2.2.1 11 (by decide) (by decide), X1.2.2.1 12 (by decide) (by decide)] at this
          obtain ⟨-, ⟨k4, hk4, y4⟩, -, ⟨k5, hk5, y5⟩, -⟩ := hr.bx hb
          rw [y4, ni_cl (by omega), ag.fo9 hk4, y5, ni_cl (by omega), ag.fo9 hk5] at this
          rw [y4, ni_cl (by omega)] at y2
          rw [y5, ni_cl (by omega)] at z2
          rw [y2, z2] at this
          exact this hx)
        exact Or.inr ⟨σ', τ', by rw [p1, bd_some, made_in (by omega), bd_some, lt_def, g1, bd_some, lt_def, g2, bd_some], g3⟩
      · exact OpR.xs hσ (by rw [p1, bd_some, made_no, bd_exc])
    · exact OpR.xs hσ (by rw [room_no hr hm2, bd_exc])
  · exact OpR.xn hσ (by rw [e1, bd_some, e2, bd_exc])
  · exact OpR.xi hσ (by rw [e1, bd_exc])
theorem op_makeN (hσ : Rel σ τ) (hS : SI τ) (a : Int32) : OpR τ (P_X6_makeNegation σ a) := by
  obtain ⟨h, hr⟩ := hσ.at
  have hm := hr.m60
  have hq := hr.q60
  have hle := h.le
  unfold P_X6_makeNegation
  rcases cgateB hr a with ⟨b, hb, rfl, e1, e2, e3⟩ | ⟨b, hb, rfl, e1, e2⟩ | e1
  · obtain ⟨f1, hf1, y1, y2⟩ := beg_eq hr hb hle
    obtain ⟨f2, hf2, z1, z2⟩ := res_eq hr hb hle
    rw [e1, bd_some, e2, bd_some, z1, kind_in h hf2]
    unfold B_X6_makeNegation_36
    by_cases kk : Kn τ f2 = 70
    · rw [if_pos kk, shape_1, bd_some]
      by_cases hm2 : nLn τ < 60
      · rw [room_ok hr hm2, bd_some, y1]
        rcases ent_ok h hr (c := 78) (l := nI f1) (r := -1) (Or.inr (Or.inl ⟨f1, rfl, hf1, rfl, rfl⟩)) with ⟨σ1, τ1, n', g, p1, hg, hn, F1, R1, X1, k1, k2, k3⟩ | p1
        · have S1 : SI τ1 := hS.ext h hr X1
          have hle1 := F1.le
          have ag := X1.agr (m := nLn τ) (q := nBx τ)
          obtain ⟨s, σ', τ', g1, g2, g3⟩ := plainB_R F1 R1 hm2 S1 hg (c := 105) (a5 := nI b) (a6 := -1) (by decide) (Or.inr ⟨b, hb, rfl⟩) (Or.inl rfl) (fun v hv hp hgd => by
            refine (tr_N F1 hg k1 (by omega) k2 hv).mpr fun hx => ?_
            have := boxed R1 S1 hb (by rw [citB_ext X1.2]; exact e3) hv hp hgd
            rw [X1.2.2.1 11 (by decide) (by decide), X1.2.2.1 12 (by decide) (by decide)] at this
            obtain ⟨-, ⟨k4, hk4, y4⟩, -, ⟨k5, hk5, y5⟩, -⟩ := hr.bx hb
            rw [y4, ni_cl (by omega), ag.fo9 hk4, y5, ni_cl (by omega), ag.fo9 hk5] at this
            rw [y4, ni_cl (by omega)] at y2
            rw [y5, ni_cl (by omega)] at z2
            rw [y2, z2, ag.tr9 hf2] at this
            exact tr_F h hf2 kk v (this hx))
          exact Or.inr ⟨σ', τ', by rw [p1, bd_some, made_in (by omega), bd_some, lt_def, g1, bd_some, lt_def, g2, bd_some], g3⟩
        · exact OpR.xs hσ (by rw [p1, bd_some, made_no, bd_exc])
      · exact OpR.xs hσ (by rw [room_no hr hm2, bd_exc])
    · exact OpR.xu hσ (by rw [if_neg kk, shape_0, bd_exc])
  · exact OpR.xn hσ (by rw [e1, bd_some, e2, bd_exc])
  · exact OpR.xi hσ (by rw [e1, bd_exc])
theorem op_useD (hσ : Rel σ τ) (hS : SI τ) (a b c : Int32) : OpR τ (P_X6_useDisjunction σ a b c) := by
  obtain ⟨h, hr⟩ := hσ.at
  have hm := hr.m60
  have hq := hr.q60
  have hle := h.le
  unfold P_X6_useDisjunction
  rcases cgate hr a with ⟨k, hk, rfl, e1, e2, e3⟩ | ⟨k, hk, rfl, e1, e2⟩ | e1
  · rcases cgateB hr b with ⟨b, hb, rfl, q1, q2, q3⟩ | ⟨b, hb, rfl, q1, q2⟩ | q1
    · rcases cgateB hr c with ⟨c, hc, rfl, r1, r2, r3⟩ | ⟨c, hc, rfl, r1, r2⟩ | r1
      · obtain ⟨f, hf, ef⟩ := form_ix hr hk
        obtain ⟨f1, hf1, y1, y2⟩ := beg_eq hr hb hle
        obtain ⟨f2, hf2, z1, z2⟩ := res_eq hr hb hle
        obtain ⟨g1, hg1, u1, u2⟩ := beg_eq hr hc hle
        obtain ⟨g2, hg2, w1, w2⟩ := res_eq hr hc hle
        rw [e1, bd_some, q1, bd_some, r1, bd_some, e2, bd_some, q2, bd_some, r2, bd_some, lt_def, form_in hr hk, ef, kind_in h hf]
        unfold B_X6_useDisjunction_60 B_X6_useDisjunction_108 B_X6_useDisjunction_109 B_X6_useDisjunction_137
        by_cases kk : Kn τ f = 65
        · obtain ⟨x, y, hx, hy, ex, ey⟩ := bin_of (h.ent hf) (Or.inr (Or.inl kk))
          rw [if_pos kk, shape_1, bd_some, y1, u1, left_in h hf, right_in h hf, ex, ey]
          by_cases v1 : nI f1 = nI x
          · by_cases v2 : nI g1 = nI y
            · by_cases v3 : nI f2 = nI g2
              · rw [if_pos v1, if_pos v2, shape_1, bd_some, z1, w1, if_pos v3, shape_1, bd_some]
                rw [ni_eq (by omega) (by omega)] at v1 v2 v3
                subst v1; subst v2; subst v3
                by_cases hm2 : nLn τ < 60
                · obtain ⟨s, σ', τ', o1, o2, o3⟩ := citeB_R h hr hm2 hS hf2 (c := 118) (a3 := nI k) (a4 := -1) (a5 := nI b) (a6 := nI c) (by decide) (ix60 hr hk) (Or.inl rfl) (Or.inr ⟨b, hb, rfl⟩) (Or.inr ⟨c, hc, rfl⟩) (fun v hv hp hg => by
                    have x1 := hS.cited hr hk e3 hv hp hg
                    rw [fo_eq ef (by omega)] at x1
                    rcases (tr_A h hf kk (by omega) (by omega) ex ey).mp x1 with x1 | x1
                    · have := boxed hr hS hb q3 hv hp hg (by rw [y2]; exact x1)
                      rwa [z2] at this
                    · have := boxed hr hS hc r3 hv hp hg (by rw [u2]; exact x1)
                      rwa [w2] at this)
                  exact Or.inr ⟨σ', τ', by rw [room_ok hr hm2, bd_some, z1, o1, bd_some, lt_def, o2, bd_some], o3⟩
                · exact OpR.xs hσ (by rw [room_no hr hm2, bd_exc])
              · exact OpR.xu hσ (by rw [if_pos v1, if_pos v2, shape_1, bd_some, z1, w1, if_neg v3, shape_0, bd_exc])
            · exact OpR.xu hσ (by rw [if_pos v1, if_neg v2, shape_0, bd_exc])
          · exact OpR.xu hσ (by rw [if_neg v1, shape_0, bd_exc])
        · exact OpR.xu hσ (by rw [if_neg kk, shape_0, bd_exc])
      · exact OpR.xn hσ (by rw [e1, bd_some, q1, bd_some, r1, bd_some, e2, bd_some, q2, bd_some, r2, bd_exc])
      · exact OpR.xi hσ (by rw [e1, bd_some, q1, bd_some, r1, bd_exc])
    · rcases cgateB hr c with ⟨c, hc, rfl, r1, r2, r3⟩ | ⟨c, hc, rfl, r1, r2⟩ | r1
      · exact OpR.xn hσ (by rw [e1, bd_some, q1, bd_some, r1, bd_some, e2, bd_some, q2, bd_exc])
      · exact OpR.xn hσ (by rw [e1, bd_some, q1, bd_some, r1, bd_some, e2, bd_some, q2, bd_exc])
      · exact OpR.xi hσ (by rw [e1, bd_some, q1, bd_some, r1, bd_exc])
    · exact OpR.xi hσ (by rw [e1, bd_some, q1, bd_exc])
  · rcases cgateB hr b with ⟨b, hb, rfl, q1, q2, q3⟩ | ⟨b, hb, rfl, q1, q2⟩ | q1
    · rcases cgateB hr c with ⟨c, hc, rfl, r1, r2, r3⟩ | ⟨c, hc, rfl, r1, r2⟩ | r1
      · exact OpR.xn hσ (by rw [e1, bd_some, q1, bd_some, r1, bd_some, e2, bd_exc])
      · exact OpR.xn hσ (by rw [e1, bd_some, q1, bd_some, r1, bd_some, e2, bd_exc])
      · exact OpR.xi hσ (by rw [e1, bd_some, q1, bd_some, r1, bd_exc])
    · rcases cgateB hr c with ⟨c, hc, rfl, r1, r2, r3⟩ | ⟨c, hc, rfl, r1, r2⟩ | r1
      · exact OpR.xn hσ (by rw [e1, bd_some, q1, bd_some, r1, bd_some, e2, bd_exc])
      · exact OpR.xn hσ (by rw [e1, bd_some, q1, bd_some, r1, bd_some, e2, bd_exc])
      · exact OpR.xi hσ (by rw [e1, bd_some, q1, bd_some, r1, bd_exc])
    · exact OpR.xi hσ (by rw [e1, bd_some, q1, bd_exc])
  · exact OpR.xi hσ (by rw [e1, bd_exc])
end BOXES
