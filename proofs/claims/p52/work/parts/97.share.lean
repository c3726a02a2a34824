/-! THE SHARE OF TRUE ROWS -/
theorem and63 (x : Int32) : ∃ c, c < 64 ∧ x &&& (63 : Int32) = nI c := by
  refine ⟨(x &&& (63 : Int32)).toBitVec.toNat, ?_, ?_⟩
  · rw [Int32.toBitVec_and, BitVec.toNat_and]
    have h : ((63 : Int32).toBitVec.toNat) = 63 := by decide
    rw [h]
    have := @Nat.and_le_right x.toBitVec.toNat 63
    omega
  · apply Int32.toBitVec_inj.mp
    apply BitVec.eq_of_toNat_eq
    show _ = (Int32.ofNat _).toBitVec.toNat
    rw [Int32.toBitVec_ofNat', BitVec.toNat_ofNat]
    exact (Nat.mod_eq_of_lt (BitVec.isLt _)).symm
theorem bitc (t : Int32) : ∃ c, c < 64 ∧ F_J6_bitCount_0f7a4 t = nI c := by
  unfold F_J6_bitCount_0f7a4
  simp only [lt_def]
  exact and63 _
theorem share_guard : ∀ c, c < 64 → (FP.fdiv (FP.i2f (nI c)) (1107296256 : UInt32)) &&& 0x7fffffff ≤ (0x7f800000 : UInt32) ∧ (FP.f2d (FP.fdiv (FP.i2f (nI c)) (1107296256 : UInt32)) &&& 0x7fffffffffffffff ≤ (0x7ff0000000000000 : UInt64)) ∧ Op.cmpValue (FP.dcmp (FP.f2d (FP.fdiv (FP.i2f (nI c)) (1107296256 : UInt32))) (FP.f2d (FP.fdiv (FP.i2f (nI c)) (1107296256 : UInt32)))) .l = 0 := by decide +kernel
theorem ag47 : AG47 Rel := by
  intro σ τ w a hI
  obtain ⟨n, m, q, e, h, hr⟩ := id hI
  have hle := h.le
  unfold W_L_share P_X6_share P_X7_share
  rcases ix_cases n (by omega) a with ⟨f, hf, rfl⟩ | ha
  · obtain ⟨c, hc, ec⟩ := bitc (Tb τ f)
    obtain ⟨g1, g2, g3⟩ := share_guard c hc
    rw [reqF_in h hf, bd_some, lacks_in h hf, bd_some, if_pos rfl, gd_in (by omega) (by decide), ni_cl (by omega), table_in h hf, show (tI τ 5 0).2.1 4 f = Tb τ f from rfl, ec, gc_t g1, gc_t g1]
    refine ⟨0, σ, (w.1, vf_upd w.2 (0 : Int32).toNatClampNeg (FP.f2d (FP.fdiv (FP.i2f (nI c)) (1107296256 : UInt32)))), _, tI τ 5 0, ?_, rfl, rfl, fun _ => ⟨g2, ?_⟩, hI.thr 0⟩
    · unfold wrT stF
      dsimp only
      rw [if_pos g2]
    · show Op.cmpValue (FP.dcmp (vf_upd w.2 (0 : Int32).toNatClampNeg _ (0 : Int32).toNatClampNeg) _) .l = 0
      unfold vf_upd
      rw [if_pos rfl]
      exact g3
  · rw [reqF_no h ha, bd_exc, lacks_no h ha, bd_some, if_neg i10]
    exact ag_exc rfl rfl rfl rfl (by decide) (hI.thr 1)
