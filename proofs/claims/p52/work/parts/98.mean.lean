/-! THE MEAN SIZE -/
theorem mean_num (r : Int32) {m : Nat} (h0 : 0 < m) (hm : m ≤ 60) : (FP.ddiv (FP.i2d r) (FP.i2d (nI m)) &&& 0x7fffffffffffffff ≤ (0x7ff0000000000000 : UInt64)) ∧ Op.cmpValue (FP.dcmp (FP.ddiv (FP.i2d r) (FP.i2d (nI m))) (FP.ddiv (FP.i2d r) (FP.i2d (nI m)))) .l = 0 := by
  have hz : nI m ≠ 0 := fun h => by rw [ni_eq0 (by omega)] at h; omega
  have hfin := FP.Core.i2d_fin (nI m)
  have hnz : ¬ FP.Core.DZero (FP.Core.i2d (nI m)) := fun h => FP.Core.i2d_ne_zero hz ((FP.Core.zero_bits2 _).mp h)
  have hr : FP.Core.dIsNaN (FP.Core.i2d r) = false := (FP.Core.notNaN_iff _).mpr ((FP.Core.i2d_fin r).ne_nan)
  have hn : FP.Core.dIsNaN (FP.Core.ddiv (FP.Core.i2d r) (FP.Core.i2d (nI m))) = false := FP.Core.ddiv_out hr hfin hnz
  have e : FP.ddiv (FP.i2d r) (FP.i2d (nI m)) = FP.Core.ddiv (FP.Core.i2d r) (FP.Core.i2d (nI m)) := by
    show FP.ddiv (FP.Core.i2d r) (FP.Core.i2d (nI m)) = _
    unfold FP.ddiv
    simp [hn]
  rw [e]
  refine ⟨?_, ?_⟩
  · have h2 := (FP.Core.ne_nan _).mp ((FP.Core.notNaN_iff _).mp hn)
    rw [UInt64.le_iff_toNat_le, UInt64.toNat_and]
    rw [show (0x7fffffffffffffff : UInt64).toNat = 2 ^ 63 - 1 by decide, Nat.and_two_pow_sub_one_eq_mod]
    exact h2
  · rw [show FP.dcmp _ _ = some .eq from FP.Core.dcmp_self ((FP.Core.notNaN_iff _).mp hn)]
    rfl
