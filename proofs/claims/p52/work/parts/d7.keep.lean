/-! WHAT KEEPS THE LINES SOUND -/
section KEEPSI
variable {n m q e : Nat} {σ σ' : DS} {τ τ' : MS}
/-- the same formulas, lines and boxes, as far as they were there -/
def Agr (n m q : Nat) (τ τ' : MS) : Prop := (∀ f, f < n → Tb τ' f = Tb τ f) ∧ (∀ k, k < m → τ'.2.1 6 k = τ.2.1 6 k ∧ τ'.2.1 7 k = τ.2.1 7 k ∧ τ'.2.1 8 k = τ.2.1 8 k) ∧ ∀ b, b < q → τ'.2.1 9 b = τ.2.1 9 b ∧ τ'.2.1 11 b = τ.2.1 11 b
theorem Agr.tr9 (h : Agr n m q τ τ') {f v : Nat} (hf : f < n) : Tr τ' f v ↔ Tr τ f v := by
  show tbt (Tb τ' f) v = true ↔ tbt (Tb τ f) v = true
  rw [h.1 f hf]
theorem fo_lt (hr : RW n m q e σ τ) {k : Nat} (hk : k < m) (hn : n ≤ 150) : fo τ k < n := by
  obtain ⟨f, hf, ef⟩ := form_ix hr hk
  show (τ.2.1 6 k).toNatClampNeg < n
  rw [ef, ni_cl (by omega)]
  exact hf
theorem Agr.fo9 (h : Agr n m q τ τ') {k : Nat} (hk : k < m) : fo τ' k = fo τ k := by
  show (τ'.2.1 6 k).toNatClampNeg = _
  rw [(h.2.1 k hk).1]
theorem ch_ltd (hr : RW n m q e σ τ) {c d : Nat} (hd : d ≤ q) : ∀ {k : Nat} {b : Int32}, IxN d b → Ch τ k b c → c < d
  | 0, _, _, h => h.elim
  | k + 1, b, hb, h => by
    have hq := hr.q60
    rcases h with ⟨h, hc⟩ | ⟨h1, h2⟩
    · rcases hb with rfl | ⟨b', hb', rfl⟩
      · exact absurd h.symm (ni_ne (by omega))
      · rw [ni_eq (by omega) (by omega)] at h; omega
    · rcases hb with rfl | ⟨b', hb', rfl⟩
      · exact absurd rfl h1
      · rw [ni_cl (by omega)] at h2
        obtain ⟨-, -, -, -, -, o2, -⟩ := hr.bx (show b' < q by omega)
        exact ch_ltd hr hd (o2.mono (by omega)) h2
theorem ch_lt (hr : RW n m q e σ τ) {c k : Nat} {b : Int32} (hb : IxN q b) (h : Ch τ k b c) : c < q := ch_ltd hr (Nat.le_refl q) hb h
theorem ch_agr (hr : RW n m q e σ τ) (h : Agr n m q τ τ') {c : Nat} : ∀ {k : Nat} {b : Int32}, IxN q b → (Ch τ' k b c ↔ Ch τ k b c)
  | 0, _, _ => Iff.rfl
  | k + 1, b, hb => by
    have hq := hr.q60
    show ((b = nI c ∧ c < 60) ∨ (b ≠ -1 ∧ Ch τ' k (τ'.2.1 9 b.toNatClampNeg) c)) ↔ ((b = nI c ∧ c < 60) ∨ (b ≠ -1 ∧ Ch τ k (τ.2.1 9 b.toNatClampNeg) c))
    rcases hb with rfl | ⟨b', hb', rfl⟩
    · constructor
      · rintro (q | ⟨q, -⟩)
        · exact Or.inl q
        · exact absurd rfl q
      · rintro (q | ⟨q, -⟩)
        · exact Or.inl q
        · exact absurd rfl q
    · obtain ⟨-, -, -, -, -, o2, -⟩ := hr.bx hb'
      rw [ni_cl (show b' < 2147483648 by omega), (h.2.2 b' hb').1, ch_agr hr h (k := k) (o2.mono (by omega))]
theorem CH.agr (hr : RW n m q e σ τ) (h : Agr n m q τ τ') {b : Int32} {c : Nat} (hb : IxN q b) : CH τ' b c ↔ CH τ b c :=
  ⟨fun ⟨k, z⟩ => ⟨k, (ch_agr hr h hb).mp z⟩, fun ⟨k, z⟩ => ⟨k, (ch_agr hr h hb).mpr z⟩⟩
theorem CH.lt (hr : RW n m q e σ τ) {b : Int32} {c : Nat} (hb : IxN q b) (h : CH τ b c) : c < q := h.elim fun _ z => ch_lt hr hb z
theorem first_fo (hF : FW n σ τ) (hr : RW n m q e σ τ) (h : Agr n m q τ τ') {c : Nat} (hc : c < q) (v : Nat) : Tr τ' (fo τ' (τ'.2.1 11 c).toNatClampNeg) v ↔ Tr τ (fo τ (τ.2.1 11 c).toNatClampNeg) v := by
  have hm := hr.m60
  obtain ⟨-, ⟨k, hk, x2⟩, -⟩ := hr.bx hc
  rw [(h.2.2 c hc).2, x2, ni_cl (show k < 2147483648 by omega), h.fo9 hk]
  exact h.tr9 (fo_lt hr hk hF.le)
theorem Gd.agr (hF : FW n σ τ) (hr : RW n m q e σ τ) (h : Agr n m q τ τ') {b : Int32} (hb : IxN q b) (v : Nat) : Gd τ' b v ↔ Gd τ b v := by
  constructor
  · intro g c hc
    exact (first_fo hF hr h (hc.lt hr hb) v).mp (g c ((CH.agr hr h hb).mpr hc))
  · intro g c hc
    have hc := (CH.agr hr h hb).mp hc
    exact (first_fo hF hr h (hc.lt hr hb) v).mpr (g c hc)
theorem ll_lt (hr : RW n m q e σ τ) {b : Nat} (hb : b < q) : (τ.2.1 12 b).toNatClampNeg < m := by
  have hm := hr.m60
  obtain ⟨-, -, -, ⟨k, hk, x⟩, -⟩ := hr.bx hb
  rw [x, ni_cl (by omega)]
  exact hk
theorem Lp.agr (hF : FW n σ τ) (hr : RW n m q e σ τ) (h : ∀ f, f < n → Tb τ' f = Tb τ f) (h13 : τ'.2.1 13 = τ.2.1 13) (h2 : τ'.2.2.2 = τ.2.2.2) {j v : Nat} (hj : j < e) : Lp τ' j v ↔ Lp τ j v := by
  have hle := hF.le
  obtain ⟨c, c1, -, c3, c4, c5, -⟩ := hr.2.1.2.2.2 j hj
  have key : ∀ i, i < 2 → nI i < τ.2.1 13 j → (Tr τ' (τ'.2.2.2 j i).toNatClampNeg v ↔ Tr τ (τ.2.2.2 j i).toNatClampNeg v) := fun i hi hlt => by
    rw [h2]
    have : ∃ f, f < n ∧ τ.2.2.2 j i = nI f := by
      rw [c3, ni_lt (by omega) (by omega)] at hlt
      have hi2 : i = 0 ∨ i = 1 := by omega
      rcases hi2 with rfl | rfl
      · exact (c4 (by omega)).2
      · exact (c5 (by omega)).2
    obtain ⟨f, hf, ef⟩ := this
    rw [ef, ni_cl (by omega)]
    show tbt (Tb τ' f) v = true ↔ tbt (Tb τ f) v = true
    rw [h f hf]
  constructor
  · intro g i hi hlt
    exact (key i hi hlt).mp (g i hi (by rw [h13]; exact hlt))
  · intro g i hi hlt
    rw [h13] at hlt
    exact (key i hi hlt).mpr (g i hi hlt)
theorem con_agr (hF : FW n σ τ) (hr : RW n m q e σ τ) (h : ∀ f, f < n → Tb τ' f = Tb τ f) (h14 : τ'.2.1 14 = τ.2.1 14) {j v : Nat} (hj : j < e) : Tr τ' (τ'.2.1 14 j).toNatClampNeg v ↔ Tr τ (τ.2.1 14 j).toNatClampNeg v := by
  have hle := hF.le
  obtain ⟨c, -, -, -, -, -, -, f, hf, ef⟩ := hr.2.1.2.2.2 j hj
  rw [h14, ef, ni_cl (by omega)]
  show tbt (Tb τ' f) v = true ↔ tbt (Tb τ f) v = true
  rw [h f hf]
/-- more formulas, nothing else -/
def Ext (n : Nat) (τ τ' : MS) : Prop := Xt n τ τ' ∧ PPt τ τ'
theorem Ext.agr (h : Ext n τ τ') : Agr n m q τ τ' := ⟨fun f hf => h.1 4 (by decide) f hf, fun k _ => ⟨by rw [h.2.2.1 6 (by decide) (by decide)], by rw [h.2.2.1 7 (by decide) (by decide)], by rw [h.2.2.1 8 (by decide) (by decide)]⟩, fun b _ => ⟨by rw [h.2.2.1 9 (by decide) (by decide)], by rw [h.2.2.1 11 (by decide) (by decide)]⟩⟩
theorem SI.ext (hF : FW n σ τ) (hr : RW n m q e σ τ) (h : Ext n τ τ') (hS : SI τ) : SI τ' := by
  have hm := hr.m60
  have hq := hr.q60
  obtain ⟨-, e2, e3, e4⟩ := Rel.nn hF hr
  have a : Agr n m q τ τ' := h.agr
  have l2 : nLn τ' = nLn τ := by show (τ'.1 1).toNatClampNeg = _; rw [h.2.1 1 (by decide) (by decide)]
  have l3 : nBx τ' = nBx τ := by show (τ'.1 2).toNatClampNeg = _; rw [h.2.1 2 (by decide) (by decide)]
  have l4 : nLm τ' = nLm τ := by show (τ'.1 4).toNatClampNeg = _; rw [h.2.1 4 (by decide) (by decide)]
  have i3 : τ'.1 3 = τ.1 3 := h.2.1 3 (by decide) (by decide)
  obtain ⟨s1, s2, s3, s4, s5⟩ := hS
  refine ⟨fun k hk v hv hp hg => ?_, fun b hb ho => ?_, fun b hb => ?_, fun j hj v hv hp => ?_, ?_⟩
  · have hk : k < m := by omega
    obtain ⟨-, -, -, -, -, hb, -⟩ := hr.ln hk
    rw [a.fo9 hk]
    refine (a.tr9 (fo_lt hr hk hF.le)).mpr (s1 k (by omega) v hv (fun j hj h80 => ?_) ?_)
    · have hj : j < m := by omega
      have := hp j (by omega) (by rw [(a.2.1 j hj).2.1]; exact h80)
      rw [a.fo9 hj] at this
      exact (a.tr9 (fo_lt hr hj hF.le)).mp this
    · rw [(a.2.1 k hk).2.2] at hg
      exact (Gd.agr hF hr a hb v).mp hg
  · rw [i3]
    refine (CH.agr hr a hr.inx).mpr (s2 b (by omega) ?_)
    rw [h.2.2.1 10 (by decide) (by decide)] at ho
    exact ho
  · rw [h.2.2.1 8 (by decide) (by decide), h.2.2.1 12 (by decide) (by decide)]
    exact s3 b (by omega)
  · have hj : j < e := by omega
    exact (con_agr hF hr a.1 (h.2.2.1 14 (by decide) (by decide)) hj).mpr (s4 j (by omega) v hv ((Lp.agr hF hr a.1 (h.2.2.1 13 (by decide) (by decide)) (by rw [h.2.2.2]) hj).mp hp))
  · intro c hc
    rw [i3] at hc
    rw [h.2.2.1 10 (by decide) (by decide)]
    exact s5 c ((CH.agr hr a hr.inx).mp hc)
/-- a line is entered -/
theorem SI.line (hF : FW n σ τ) (hr : RW n m q e σ τ) (hm60 : m < 60) {f : Nat} (hf : f < n) {c a3 a4 a5 a6 : Int32} (h : NewT m (nI f) c a3 a4 a5 a6 τ τ') (hS : SI τ) (hs : c ≠ 80 → ∀ v, v < 32 → Pm τ v → Gd τ (τ.1 3) v → Tr τ f v) : SI τ' ∧ nLn τ' = m + 1 ∧ citT τ' m = true := by
  have hm := hr.m60
  have hq := hr.q60
  have hle := hF.le
  obtain ⟨-, e2, e3, e4⟩ := Rel.nn hF hr
  obtain ⟨t1, t2, t6, t7, t8, t12, tk, tc, -, -, -, -, tp, -, -, t04⟩ := h
  have l2 : nLn τ' = m + 1 := by show (τ'.1 1).toNatClampNeg = _; rw [t1, ni_cl (by omega)]
  have l3 : nBx τ' = q := by show (τ'.1 2).toNatClampNeg = _; rw [t2 2 (by decide) (by decide)]; exact e3
  have l4 : nLm τ' = e := by show (τ'.1 4).toNatClampNeg = _; rw [t2 4 (by decide) (by decide)]; exact e4
  have i3 : τ'.1 3 = τ.1 3 := t2 3 (by decide) (by decide)
  have a : Agr n m q τ τ' := ⟨fun f _ => by rw [show Tb τ' f = τ'.2.1 4 f from rfl, t04 4 (by decide)], fun k hk => ⟨by rw [t6, upd_ne _ (by omega)], by rw [t7, upd_ne _ (by omega)], by rw [t8, upd_ne _ (by omega)]⟩, fun b _ => ⟨by rw [tk 9 (by decide)], by rw [tk 11 (by decide)]⟩⟩
  have fm : fo τ' m = f := by show (τ'.2.1 6 m).toNatClampNeg = f; rw [t6, upd_eq, ni_cl (by omega)]
  have bm : τ'.2.1 8 m = τ.1 3 := by rw [t8, upd_eq]
  have s6 := hS.inn hr
  obtain ⟨s1, s2, s3, s4, s5⟩ := hS
  have pm : ∀ v, Pm τ' v → Pm τ v := fun v hp j hj h80 => by
    have hj : j < m := by omega
    have := hp j (by omega) (by rw [(a.2.1 j hj).2.1]; exact h80)
    rw [a.fo9 hj] at this
    exact (a.tr9 (fo_lt hr hj hF.le)).mp this
  refine ⟨⟨fun k hk v hv hp hg => ?_, fun b hb ho => ?_, fun b hb => ?_, fun j hj v hv hp => ?_, ?_⟩, l2, ?_⟩
  · rcases Nat.lt_or_ge k m with hk | hk'
    · obtain ⟨-, -, -, -, -, hb, -⟩ := hr.ln hk
      rw [a.fo9 hk]
      refine (a.tr9 (fo_lt hr hk hF.le)).mpr (s1 k (by omega) v hv (pm v hp) ?_)
      rw [(a.2.1 k hk).2.2] at hg
      exact (Gd.agr hF hr a hb v).mp hg
    · have : k = m := by omega
      subst this
      by_cases h80 : c = 80
      · have := hp k (by omega) (by rw [t7, upd_eq]; exact h80)
        exact this
      · rw [fm]
        refine (a.tr9 hf).mpr (hs h80 v hv (pm v hp) ?_)
        rw [bm] at hg
        exact (Gd.agr hF hr a hr.inx v).mp hg
  · rw [i3]
    refine (CH.agr hr a hr.inx).mpr (s2 b (by omega) ?_)
    rw [tk 10 (by decide)] at ho
    exact ho
  · have hb : b < q := by omega
    rw [t12]
    by_cases h1 : τ.1 3 = -1
    · rw [if_pos h1, (a.2.1 _ (ll_lt hr hb)).2.2]
      exact s3 b (by omega)
    · rw [if_neg h1]
      by_cases h2 : b = (τ.1 3).toNatClampNeg
      · rw [h2, upd_eq, ni_cl (by omega), bm]
        rcases hr.inx with z | ⟨b', hb', z⟩
        · exact absurd z h1
        · rw [z, ni_cl (by omega)]
      · rw [upd_ne _ h2, (a.2.1 _ (ll_lt hr hb)).2.2]
        exact s3 b (by omega)
  · have hj : j < e := by omega
    exact (con_agr hF hr a.1 (tk 14 (by decide)) hj).mpr (s4 j (by omega) v hv ((Lp.agr hF hr a.1 (tk 13 (by decide)) tp hj).mp hp))
  · intro c hc
    rw [i3] at hc
    rw [tk 10 (by decide)]
    exact s5 c ((CH.agr hr a hr.inx).mp hc)
  · unfold citT
    rw [bm, tk 10 (by decide), Bool.or_eq_true, decide_eq_true_eq, decide_eq_true_eq]
    exact s6
end KEEPSI
