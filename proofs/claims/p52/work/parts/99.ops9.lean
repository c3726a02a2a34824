/-! THE MEAN SIZE, both sides -/
section MEAN
variable {n m q e : Nat} {σ : DS} {τ : MS}
theorem mean_loop (hF : FW n σ τ) (h : RW n m q e σ τ) : ∀ (d k N N' : Nat) (acc : Int32), k + d = m → d < N → d < N' → ∃ r, L_X2_sizeSum_4 N σ acc (nI k) = some (.inl r, σ) ∧ L_X7_meanSize_24 N' τ acc (nI k) = gc ((FP.ddiv (FP.i2d r) (FP.i2d (nI m))) &&& 0x7fffffffffffffff ≤ (0x7ff0000000000000 : UInt64)) (some (.inl (FP.ddiv (FP.i2d r) (FP.i2d (nI m))), τ)) := by
  have hm := h.m60
  have hle := hF.le
  intro d
  induction d with
  | zero =>
    intro k N N' acc hk hN hN'
    obtain ⟨N, rfl⟩ : ∃ M, N = M + 1 := ⟨N - 1, by omega⟩
    obtain ⟨N', rfl⟩ : ∃ M, N' = M + 1 := ⟨N' - 1, by omega⟩
    have hk : k = m := hk
    subst hk
    refine ⟨acc, ?_, ?_⟩
    · show B_X2_sizeSum_4 _ σ acc (nI k) = _
      unfold B_X2_sizeSum_4
      rw [h.mc, if_pos (nI_le (Nat.le_refl _) (by omega))]
    · show B_X7_meanSize_24 _ τ acc (nI k) = _
      unfold B_X7_meanSize_24
      rw [h.mc7, if_pos (nI_le (Nat.le_refl _) (by omega))]
  | succ d ih =>
    intro k N N' acc hk hN hN'
    obtain ⟨N, rfl⟩ : ∃ M, N = M + 1 := ⟨N - 1, by omega⟩
    obtain ⟨N', rfl⟩ : ∃ M, N' = M + 1 := ⟨N' - 1, by omega⟩
    have hkm : k < m := by omega
    obtain ⟨f, hf, ef⟩ := form_ix h hkm
    obtain ⟨r, r1, r2⟩ := ih (k + 1) N N' (acc + Sz τ f) (by omega) (by omega) (by omega)
    refine ⟨r, ?_, ?_⟩
    · show B_X2_sizeSum_4 _ σ acc (nI k) = _
      unfold B_X2_sizeSum_4
      rw [h.mc, if_neg (nI_ge hkm (by omega)), lt_def, lt_def, ni_add1, form_in h hkm, ef, size_in hF hf]
      exact r1
    · show B_X7_meanSize_24 _ τ acc (nI k) = _
      unfold B_X7_meanSize_24
      rw [h.mc7, if_neg (nI_ge hkm (by omega)), gd_in (show k < 60 by omega) (by decide), ni_cl (show k < 2147483648 by omega), ef, gd_in (show f < 150 by omega) (by decide), ni_cl (show f < 2147483648 by omega), lt_def, lt_def, ni_add1]
      exact r2
end MEAN
theorem ag48 : AG48 Rel := by
  intro σ τ w hI
  obtain ⟨n, m, q, e, h, hr⟩ := id hI
  have hm := hr.m60
  unfold W_L_meanSize P_X6_meanSize P_X7_meanSize P_X2_sizeSum
  by_cases h0 : m = 0
  · subst h0
    rw [if_pos (show σ.1 2 = 0 from hr.mc), if_pos (show τ.1 1 = 0 from hr.mc7), raises_eq, bd_some]
    exact ag_exc rfl rfl rfl rfl (by decide) (hI.thr 1)
  · obtain ⟨r, r1, r2⟩ := mean_loop (h.thr 0) (hr.thr 0) m 0 FU FU 0 (by omega) (by unfold FU; omega) (by unfold FU; omega)
    obtain ⟨g1, g2⟩ := mean_num r (by omega : 0 < m) hm
    rw [nI_0] at r1 r2
    have n1 : ¬ σ.1 2 = 0 := by rw [hr.mc, ni_eq0 (by omega)]; exact h0
    have n2 : ¬ τ.1 1 = 0 := by rw [hr.mc7, ni_eq0 (by omega)]; exact h0
    rw [if_neg n1, if_neg n2, lt_def, lt_def, lt_def, lt_def, lt_def, r1, bd_some, hr.mc, gc_t g1, r2, gc_t g1]
    refine ⟨0, σ, (w.1, vf_upd w.2 (0 : Int32).toNatClampNeg (FP.ddiv (FP.i2d r) (FP.i2d (nI m)))), _, tI τ 5 0, rfl, rfl, rfl, fun _ => ?_, hI.thr 0⟩
    show Op.cmpValue (FP.dcmp (vf_upd w.2 (0 : Int32).toNatClampNeg _ (0 : Int32).toNatClampNeg) _) .l = 0
    unfold vf_upd
    rw [if_pos rfl]
    exact g2
