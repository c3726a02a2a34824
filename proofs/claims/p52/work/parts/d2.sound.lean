/-! WHAT THE LINES, THE BOXES AND THE LEMMAS MEAN -/
abbrev fo (τ : MS) (k : Nat) : Nat := (τ.2.1 6 k).toNatClampNeg
abbrev Tr (τ : MS) (f v : Nat) : Prop := tbt (Tb τ f) v = true
/-- all premises are true -/
def Pm (τ : MS) (v : Nat) : Prop := ∀ k, k < nLn τ → τ.2.1 7 k = 80 → Tr τ (fo τ k) v
/-- the box c is b or lies around it -/
def Ch (τ : MS) : Nat → Int32 → Nat → Prop
  | 0, _, _ => False
  | k + 1, b, c => (b = nI c ∧ c < 60) ∨ (b ≠ -1 ∧ Ch τ k (τ.2.1 9 b.toNatClampNeg) c)
def CH (τ : MS) (b : Int32) (c : Nat) : Prop := ∃ k, Ch τ k b c
/-- the assumptions of b and of the boxes around it are true -/
def Gd (τ : MS) (b : Int32) (v : Nat) : Prop := ∀ c, CH τ b c → Tr τ (fo τ (τ.2.1 11 c).toNatClampNeg) v
/-- the premises of the lemma j are true -/
def Lp (τ : MS) (j v : Nat) : Prop := ∀ i, i < 2 → nI i < τ.2.1 13 j → Tr τ (τ.2.2.2 j i).toNatClampNeg v
def SI (τ : MS) : Prop :=
  (∀ k, k < nLn τ → ∀ v, v < 32 → Pm τ v → Gd τ (τ.2.1 8 k) v → Tr τ (fo τ k) v) ∧
  (∀ b, b < nBx τ → τ.2.1 10 b ≠ 0 → CH τ (τ.1 3) b) ∧
  (∀ b, b < nBx τ → τ.2.1 8 (τ.2.1 12 b).toNatClampNeg = nI b) ∧
  (∀ j, j < nLm τ → ∀ v, v < 32 → Lp τ j v → Tr τ (τ.2.1 14 j).toNatClampNeg v) ∧
  (∀ c, CH τ (τ.1 3) c → τ.2.1 10 c = 1)
section SOUND
variable {n m q e : Nat} {σ : DS} {τ τ' : MS}
theorem Ch.tr {c d : Nat} (h2 : CH τ (nI c) d) : ∀ {k : Nat} {b : Int32}, Ch τ k b c → CH τ b d
  | 0, _, h => h.elim
  | k + 1, b, h => by
    rcases h with ⟨rfl, -⟩ | ⟨h1, h3⟩
    · exact h2
    · obtain ⟨k', hk'⟩ := Ch.tr h2 h3
      exact ⟨k' + 1, Or.inr ⟨h1, hk'⟩⟩
theorem CH.tr {b : Int32} {c d : Nat} (h1 : CH τ b c) (h2 : CH τ (nI c) d) : CH τ b d := h1.elim fun _ h => Ch.tr h2 h
theorem CH.nil {c : Nat} (h : CH τ (-1) c) : False := by
  obtain ⟨k, h⟩ := h
  cases k with
  | zero => exact h
  | succ k =>
    rcases h with ⟨h, hc⟩ | ⟨h, -⟩
    · exact ni_ne (show c < 2147483648 by omega) h.symm
    · exact h rfl
theorem CH.self {b : Nat} (hb : b < 60) : CH τ (nI b) b := ⟨1, Or.inl ⟨rfl, hb⟩⟩
theorem CH.up {b c : Nat} (hb : b < 60) (h : CH τ (τ.2.1 9 b) c) : CH τ (nI b) c := by
  obtain ⟨k, h⟩ := h
  exact ⟨k + 1, Or.inr ⟨ni_ne (by omega), by rw [ni_cl (by omega)]; exact h⟩⟩
theorem CH.inv {b c : Nat} (hb : b < 60) (h : CH τ (nI b) c) : c = b ∨ CH τ (τ.2.1 9 b) c := by
  obtain ⟨k, h⟩ := h
  cases k with
  | zero => exact h.elim
  | succ k =>
    rcases h with ⟨h, hc⟩ | ⟨-, h⟩
    · rw [ni_eq (by omega) (by omega)] at h; exact Or.inl h.symm
    · rw [ni_cl (by omega)] at h; exact Or.inr ⟨k, h⟩
theorem Gd.nil (v : Nat) : Gd τ (-1) v := fun _ h => h.nil.elim
theorem Gd.mk {b v : Nat} (hb : b < 60) (h1 : Tr τ (fo τ (τ.2.1 11 b).toNatClampNeg) v) (h2 : Gd τ (τ.2.1 9 b) v) : Gd τ (nI b) v := fun c hc => by
  rcases hc.inv hb with rfl | hc
  · exact h1
  · exact h2 c hc
theorem Gd.out {b v : Nat} (hb : b < 60) (h : Gd τ (nI b) v) : Tr τ (fo τ (τ.2.1 11 b).toNatClampNeg) v ∧ Gd τ (τ.2.1 9 b) v := ⟨h b (CH.self hb), fun c hc => h c (CH.up hb hc)⟩
theorem Gd.sub {b : Int32} {c v : Nat} (h1 : CH τ b c) (h : Gd τ b v) : Gd τ (nI c) v := fun d hd => h d (h1.tr hd)
/-- a box not closed: what holds inside holds there -/
theorem SI.opn (h : SI τ) (hr : RW n m q e σ τ) {b : Int32} (hb : IxN q b) (ho : b = -1 ∨ τ.2.1 10 b.toNatClampNeg = 1) {v : Nat} (hg : Gd τ (τ.1 3) v) : Gd τ b v := by
  have hq := hr.q60
  have en : nBx τ = q := by show (τ.1 2).toNatClampNeg = q; rw [hr.qc7, ni_cl (by omega)]
  rcases hb with rfl | ⟨c, hc, rfl⟩
  · exact Gd.nil v
  · rcases ho with ho | ho
    · exact absurd ho (ni_ne (by omega))
    · rw [ni_cl (by omega)] at ho
      exact Gd.sub (h.2.1 c (by omega) (by rw [ho]; decide)) hg
theorem SI.inn (h : SI τ) (hr : RW n m q e σ τ) : τ.1 3 = -1 ∨ τ.2.1 10 (τ.1 3).toNatClampNeg = 1 := by
  have hq := hr.q60
  rcases hr.inx with z | ⟨b, hb, z⟩
  · exact Or.inl z
  · refine Or.inr (h.2.2.2.2 _ ?_)
    rw [z, ni_cl (by omega)]
    exact CH.self (by omega)
/-- a line that can be cited is true inside -/
theorem SI.cited (h : SI τ) (hr : RW n m q e σ τ) {k : Nat} (hk : k < m) (hc : citT τ k = true) {v : Nat} (hv : v < 32) (hp : Pm τ v) (hg : Gd τ (τ.1 3) v) : Tr τ (fo τ k) v := by
  have hm := hr.m60
  have en : nLn τ = m := by show (τ.1 1).toNatClampNeg = m; rw [hr.mc7, ni_cl (by omega)]
  obtain ⟨-, -, -, -, -, hb, -⟩ := hr.ln hk
  refine h.1 k (by omega) v hv hp (h.opn hr hb ?_ hg)
  unfold citT at hc
  rw [Bool.or_eq_true, decide_eq_true_eq, decide_eq_true_eq] at hc
  exact hc
/-- the tables of the premises -/
theorem pt_loop (hF : FW n σ τ) (h : RW n m q e σ τ) : ∀ (d k N : Nat) (acc : Int32), k + d = m → d < N → ∃ r, L_X2_premiseTable_4 N σ acc (nI k) = some (.inl r, σ) ∧ ∀ v, tbt r v = true → tbt acc v = true ∧ ∀ j, k ≤ j → j < m → τ.2.1 7 j = 80 → Tr τ (fo τ j) v := by
  have hm := h.m60
  have hle := hF.le
  intro d
  induction d with
  | zero =>
    intro k N acc hk hN
    obtain ⟨N, rfl⟩ : ∃ M, N = M + 1 := ⟨N - 1, by omega⟩
    have hk : k = m := hk
    subst hk
    refine ⟨acc, ?_, fun v hv => ⟨hv, fun j h1 h2 => absurd h2 (by omega)⟩⟩
    show B_X2_premiseTable_4 _ σ acc (nI k) = _
    unfold B_X2_premiseTable_4
    rw [h.mc, if_pos (nI_le (Nat.le_refl _) (by omega))]
  | succ d ih =>
    intro k N acc hk hN
    obtain ⟨N, rfl⟩ : ∃ M, N = M + 1 := ⟨N - 1, by omega⟩
    have hkm : k < m := by omega
    obtain ⟨f, hf, ef⟩ := form_ix h hkm
    have g1 : L_X2_premiseTable_4 (N + 1) σ acc (nI k) = if τ.2.1 7 k = 80 then L_X2_premiseTable_4 N σ (acc &&& Tb τ f) (nI (k + 1)) else L_X2_premiseTable_4 N σ acc (nI (k + 1)) := by
      show B_X2_premiseTable_4 _ σ acc (nI k) = _
      unfold B_X2_premiseTable_4 F_X2_isPremise
      rw [h.mc, if_neg (nI_ge hkm (by omega)), rule_in h hkm, lt_def, lt_def, lt_def, ni_add1, form_in h hkm, ef, table_in hF hf]
      by_cases z : τ.2.1 7 k = 80
      · rw [if_pos z, if_neg i10, if_pos z]
      · rw [if_neg z, if_pos rfl, if_neg z]
    by_cases z : τ.2.1 7 k = 80
    · obtain ⟨r, r1, r2⟩ := ih (k + 1) N (acc &&& Tb τ f) (by omega) (by omega)
      refine ⟨r, by rw [g1, if_pos z]; exact r1, fun v hv => ?_⟩
      obtain ⟨s1, s2⟩ := r2 v hv
      rw [tbt_and, Bool.and_eq_true] at s1
      refine ⟨s1.1, fun j h1 h2 h3 => ?_⟩
      rcases Nat.lt_or_ge k j with g | g
      · exact s2 j (by omega) h2 h3
      · have : j = k := by omega
        subst this
        show tbt (Tb τ (τ.2.1 6 j).toNatClampNeg) v = true
        rw [ef, ni_cl (by omega)]
        exact s1.2
    · obtain ⟨r, r1, r2⟩ := ih (k + 1) N acc (by omega) (by omega)
      refine ⟨r, by rw [g1, if_neg z]; exact r1, fun v hv => ?_⟩
      obtain ⟨s1, s2⟩ := r2 v hv
      refine ⟨s1, fun j h1 h2 h3 => ?_⟩
      rcases Nat.lt_or_ge k j with g | g
      · exact s2 j (by omega) h2 h3
      · have : j = k := by omega
        subst this
        exact absurd h3 z
/-- the tables of what can be cited -/
theorem ct_loop (hF : FW n σ τ) (h : RW n m q e σ τ) : ∀ (d k N : Nat) (acc : Int32), k + d = m → d < N → ∃ r, L_X2_citableTable_4 N σ acc (nI k) = some (.inl r, σ) ∧ ∀ v, tbt r v = true → tbt acc v = true ∧ ∀ j, k ≤ j → j < m → citT τ j = true → Tr τ (fo τ j) v := by
  have hm := h.m60
  have hle := hF.le
  intro d
  induction d with
  | zero =>
    intro k N acc hk hN
    obtain ⟨N, rfl⟩ : ∃ M, N = M + 1 := ⟨N - 1, by omega⟩
    have hk : k = m := hk
    subst hk
    refine ⟨acc, ?_, fun v hv => ⟨hv, fun j h1 h2 => absurd h2 (by omega)⟩⟩
    show B_X2_citableTable_4 _ σ acc (nI k) = _
    unfold B_X2_citableTable_4
    rw [h.mc, if_pos (nI_le (Nat.le_refl _) (by omega))]
  | succ d ih =>
    intro k N acc hk hN
    obtain ⟨N, rfl⟩ : ∃ M, N = M + 1 := ⟨N - 1, by omega⟩
    have hkm : k < m := by omega
    obtain ⟨f, hf, ef⟩ := form_ix h hkm
    have g1 : L_X2_citableTable_4 (N + 1) σ acc (nI k) = if citT τ k = true then L_X2_citableTable_4 N σ (acc &&& Tb τ f) (nI (k + 1)) else L_X2_citableTable_4 N σ acc (nI (k + 1)) := by
      show B_X2_citableTable_4 _ σ acc (nI k) = _
      unfold B_X2_citableTable_4
      rw [h.mc, if_neg (nI_ge hkm (by omega)), cit_val h hkm, lt_def, lt_def, lt_def, ni_add1, form_in h hkm, ef, table_in hF hf]
      by_cases z : citT τ k = true
      · rw [if_pos z, if_neg i10, if_pos z]
      · rw [if_neg z, if_pos rfl, if_neg z]
    by_cases z : citT τ k = true
    · obtain ⟨r, r1, r2⟩ := ih (k + 1) N (acc &&& Tb τ f) (by omega) (by omega)
      refine ⟨r, by rw [g1, if_pos z]; exact r1, fun v hv => ?_⟩
      obtain ⟨s1, s2⟩ := r2 v hv
      rw [tbt_and, Bool.and_eq_true] at s1
      refine ⟨s1.1, fun j h1 h2 h3 => ?_⟩
      rcases Nat.lt_or_ge k j with g | g
      · exact s2 j (by omega) h2 h3
      · have : j = k := by omega
        subst this
        show tbt (Tb τ (τ.2.1 6 j).toNatClampNeg) v = true
        rw [ef, ni_cl (by omega)]
        exact s1.2
    · obtain ⟨r, r1, r2⟩ := ih (k + 1) N acc (by omega) (by omega)
      refine ⟨r, by rw [g1, if_neg z]; exact r1, fun v hv => ?_⟩
      obtain ⟨s1, s2⟩ := r2 v hv
      refine ⟨s1, fun j h1 h2 h3 => ?_⟩
      rcases Nat.lt_or_ge k j with g | g
      · exact s2 j (by omega) h2 h3
      · have : j = k := by omega
        subst this
        exact absurd h3 z
/-- the tables of the assumptions around -/
theorem at_loop (hF : FW n σ τ) (h : RW n m q e σ τ) : ∀ (d : Nat) (b : Int32) (c N : Nat) (acc : Int32), IxN d b → d ≤ q → c + d ≤ 60 → d < N → ∃ r, L_X2_assumptionTable_11 N σ acc b (nI c) = some (.inl r, σ) ∧ ∀ v, tbt r v = true → tbt acc v = true ∧ Gd τ b v := by
  have hm := h.m60
  have hq := h.q60
  have hle := hF.le
  intro d
  have base : ∀ (c N : Nat) (acc : Int32), ∃ r, L_X2_assumptionTable_11 (N + 1) σ acc (-1) (nI c) = some (.inl r, σ) ∧ ∀ v, tbt r v = true → tbt acc v = true ∧ Gd τ (-1) v := by
    intro c N acc
    refine ⟨acc, ?_, fun v hv => ⟨hv, Gd.nil v⟩⟩
    show B_X2_assumptionTable_11 _ σ acc (-1) (nI c) = _
    unfold B_X2_assumptionTable_11
    rw [if_pos rfl]
  induction d with
  | zero =>
    intro b c N acc hb hd hc hN
    obtain ⟨N, rfl⟩ : ∃ M, N = M + 1 := ⟨N - 1, by omega⟩
    rcases hb with rfl | ⟨b, hb, -⟩
    · exact base c N acc
    · exact absurd hb (Nat.not_lt_zero _)
  | succ d ih =>
    intro b c N acc hb hd hc hN
    obtain ⟨N, rfl⟩ : ∃ M, N = M + 1 := ⟨N - 1, by omega⟩
    rcases hb with rfl | ⟨b, hb, rfl⟩
    · exact base c N acc
    · have hbq : b < q := by omega
      obtain ⟨-, -, -, -, o1, o2, -⟩ := h.bx hbq
      obtain ⟨k1, x1, hk1, hx1, y1, y2, y3⟩ := begin_in h hbq
      have g1 : L_X2_assumptionTable_11 (N + 1) σ acc (nI b) (nI c) = L_X2_assumptionTable_11 N σ (acc &&& Tb τ x1) (τ.2.1 9 b) (nI (c + 1)) := by
        show B_X2_assumptionTable_11 _ σ acc (nI b) (nI c) = _
        unfold B_X2_assumptionTable_11
        rw [if_neg (ni_ne (by omega)), if_neg (show ¬ (60 : Int32) ≤ nI c from nI_ge (show c < 60 by omega) (by decide)), lt_def, lt_def, lt_def, y3, table_in hF hx1, rat_in (show b < 60 by omega) (by decide), o1, ni_add1]
      obtain ⟨r, r1, r2⟩ := ih (τ.2.1 9 b) (c + 1) N (acc &&& Tb τ x1) (o2.mono (by omega)) (by omega) (by omega) (by omega)
      refine ⟨r, by rw [g1]; exact r1, fun v hv => ?_⟩
      obtain ⟨s1, s2⟩ := r2 v hv
      rw [tbt_and, Bool.and_eq_true] at s1
      refine ⟨s1.1, Gd.mk (by omega) ?_ s2⟩
      show tbt (Tb τ (τ.2.1 6 (τ.2.1 11 b).toNatClampNeg).toNatClampNeg) v = true
      rw [y1, ni_cl (show k1 < 2147483648 by omega), y2, ni_cl (by omega)]
      exact s1.2
theorem bits0 {x : Int32} (h : ∀ v, v < 32 → tbt x v = false) : x = 0 := by
  apply Int32.toBitVec_inj.mp
  apply BitVec.eq_of_getLsbD_eq
  intro i hi
  exact (h i hi).trans (BitVec.getLsbD_zero).symm
theorem covered (hF : FW n σ τ) {f : Nat} (hf : f < n) {x : Int32} (h : ∀ v, v < 32 → tbt x v = true → Tr τ f v) : F_X6_isCovered σ x (nI f) = 1 := by
  unfold F_X6_isCovered
  rw [table_in hF hf]
  refine if_pos (bits0 fun v hv => ?_)
  rw [tbt_and, tbt_not _ hv]
  by_cases z : tbt x v = true
  · rw [z, h v hv z]; rfl
  · rw [Bool.not_eq_true] at z; rw [z]; rfl
theorem tbt_m1 {v : Nat} (hv : v < 32) : tbt (-1) v = true := by
  unfold tbt
  rw [show ((-1 : Int32).toBitVec) = BitVec.allOnes 32 by decide, BitVec.getLsbD_allOnes, decide_eq_true hv]
/-- EACH LINE IS SOUND -/
theorem v_line4 {k : Nat} (hS : SI τ) (hk : k < nLn τ) : Val τ (fun σ => P_L_line σ (nI k) 4) 1 := fun σ hσ => by
  obtain ⟨h, hr⟩ := hσ.at
  have hq := hr.q60
  have hm := hr.m60
  have hle := h.le
  obtain ⟨f, hf, ef⟩ := form_ix hr hk
  obtain ⟨-, -, -, -, -, hb, -⟩ := hr.ln hk
  obtain ⟨r, r1, r2⟩ := pt_loop h hr (nLn τ) 0 FU (-1) (by omega) (by unfold FU; omega)
  obtain ⟨s, s1, s2⟩ := at_loop h hr (nBx τ) (τ.2.1 8 k) 0 FU (-1) hb (Nat.le_refl _) (by omega) (by unfold FU; omega)
  refine ⟨σ, ?_, hσ⟩
  show P_L_line σ (nI k) 4 = _
  unfold P_L_line P_X6_isSound P_X2_premiseTable P_X2_assumptionTable
  simp only [lt_def]
  rw [if_neg (by decide), if_neg (by decide), if_neg (by decide), if_neg (by decide), reqL_in hr hk, bd_some, show (0 : Int32) = nI 0 from rfl, r1, bd_some, inn_in hr hk, s1, bd_some, form_in hr hk, ef, covered h hf (fun v hv z => ?_)]
  · rfl
  · rw [tbt_and, Bool.and_eq_true] at z
    have := hS.1 k hk v hv (fun j hj hj2 => (r2 v z.1).2 j (Nat.zero_le _) hj hj2) (s2 v z.2).2
    rw [show fo τ k = f by show (τ.2.1 6 k).toNatClampNeg = f; rw [ef, ni_cl (by omega)]] at this
    exact this
/-- what follows from what can be cited -/
def Fol (τ : MS) (f : Nat) : Prop := ∀ v, v < 32 → (∀ j, j < nLn τ → citT τ j = true → Tr τ (fo τ j) v) → Tr τ f v
theorem v_follows {f : Nat} (hf : f < nF τ) (hS : Fol τ f) : Val τ (fun σ => P_X6_follows σ (nI f)) 1 := fun σ hσ => by
  obtain ⟨h, hr⟩ := hσ.at
  have hm := hr.m60
  obtain ⟨r, r1, r2⟩ := ct_loop h hr (nLn τ) 0 FU (-1) (by omega) (by unfold FU; omega)
  refine ⟨σ, ?_, hσ⟩
  show P_X6_follows σ (nI f) = _
  unfold P_X6_follows P_X2_citableTable
  simp only [lt_def]
  rw [reqF_in h hf, bd_some, show (0 : Int32) = nI 0 from rfl, r1, bd_some, covered h hf (fun v hv z => hS v hv (fun j hj hc => (r2 v z).2 j (Nat.zero_le _) hj hc))]
end SOUND
