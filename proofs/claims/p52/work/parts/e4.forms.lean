/-! FORMULAS ARE MADE, A LETTER IS BOUND, A PROOF BEGUN ANEW -/
theorem m1k_le {f : Nat} (hf : f < 2147483648) : (-1000 : Int32) ≤ nI f := Int32.le_trans (show (-1000 : Int32) ≤ 0 by decide) (Int32.not_lt.mp (nI_pos hf))
/-- a call of the law: below -1000 nothing has changed -/
def OpW (τ : MS) (x : Res DS Int32) : Prop := (∃ z σ', x = some (.inl z, σ') ∧ z < -1000 ∧ Rel σ' τ) ∨ ∃ z σ' τ', x = some (.inl z, σ') ∧ (-1000 : Int32) ≤ z ∧ Rel σ' τ' ∧ SI τ'
section FORMSI
variable {n m q e : Nat} {σ σ' : DS} {τ τ' : MS}
theorem OpW.exc {cs : List (String × Int32)} {x : Res DS Int32} {E : String} {v : Int32} {K : Int32 → DS → Res DS Int32} (h : x = some (.inr E, σ')) (hk : cs.lookup E = some v) (hv : v < -1000) (hR : Rel σ' τ) : OpW τ (hdl cs x K) := Or.inl ⟨v, σ', by rw [h, hdl_exc cs hk], hv, hR⟩
theorem OpW.ret {cs : List (String × Int32)} {x : Res DS Int32} {v : Int32} (h : x = some (.inl v, σ')) (hv : (-1000 : Int32) ≤ v) (hR : Rel σ' τ') (hS : SI τ') : OpW τ (hdl cs x fun r s => some (.inl r, s)) := Or.inr ⟨v, σ', τ', by rw [h, hdl_ret], hv, hR, hS⟩
theorem w_ent {cs : List (String × Int32)} {v : Int32} (h : FW n σ τ) (hr : RW n m q e σ τ) (hS : SI τ) {c l r : Int32} (hs : Shp n c l r) (hc : cs.lookup "java/lang/IllegalStateException" = some v) (hv : v < -1000) : OpW τ (hdl cs (bd (P_X0_enter σ c l r) fun r16 s16 => (bd (P_X6_made s16 r16) fun r19 s19 => (some (.inl r19, s19)))) fun r s => some (.inl r, s)) := by
  rcases ent_ok h hr hs with ⟨σ1, τ1, n', f, e1, hf, hn, F1, R1, X1, -⟩ | e1
  · have hle := F1.le
    exact OpW.ret (by rw [e1, bd_some, made_in (by omega), bd_some]) (m1k_le (by omega)) (Rel.of F1 R1) (hS.ext h hr X1)
  · exact OpW.exc (by rw [e1, bd_some, made_no, bd_exc]) hc hv (Rel.of h hr)
theorem reqLt_in {j : Nat} (hj : j < 5) : P_X6_requireLetter σ (nI j) = some (.inl (), σ) := by
  unfold P_X6_requireLetter
  rw [if_neg (nI_pos (show j < 2147483648 by omega)), if_pos (show nI j < 5 from nI_lt hj (by decide))]
theorem reqLt_no {a : Int32} (ha : a < 0 ∨ (¬ a < 0 ∧ nI 5 ≤ a)) : P_X6_requireLetter σ a = some (.inr "java/lang/IllegalArgumentException", σ) := by
  unfold P_X6_requireLetter
  rcases ha with ha | ⟨h0, ha⟩
  · rw [if_pos ha]
  · rw [if_neg h0, if_neg]
    obtain ⟨j, hj, rfl⟩ := nI_of h0
    exact nI_nlt ((nI_leI (by decide) hj).mp ha) hj
theorem w_letter (hσ : Rel σ τ) (hS : SI τ) (a : Int32) : OpW τ (P_L_letter σ a) := by
  obtain ⟨h, hr⟩ := hσ.at
  unfold P_L_letter P_X6_letter
  rcases ix_cases 5 (by decide) a with ⟨f, hf, rfl⟩ | ha
  · rw [reqLt_in hf, bd_some, (ch97 f hf).1]
    exact w_ent h hr hS (Or.inl ⟨(ch97 f hf).2, rfl, rfl⟩) rfl (by decide)
  · exact OpW.exc (by rw [reqLt_no ha, bd_exc]) rfl (by decide) hσ
theorem w_falsum (hσ : Rel σ τ) (hS : SI τ) : OpW τ (P_L_falsum σ) := by
  obtain ⟨h, hr⟩ := hσ.at
  exact w_ent h hr hS (Or.inl ⟨by unfold leafK; decide, rfl, rfl⟩) rfl (by decide)
theorem w_two {cs : List (String × Int32)} {v w : Int32} (hσ : Rel σ τ) (hS : SI τ) {c : Int32} (hc : binK c) (a b : Int32) (h1 : cs.lookup "java/lang/IllegalStateException" = some v) (hv : v < -1000) (h2 : cs.lookup "java/lang/IndexOutOfBoundsException" = some w) (hw : w < -1000) : OpW τ (hdl cs (bd (P_X6_connected σ c a b) fun r5 s5 => (some (.inl r5, s5))) fun r s => some (.inl r, s)) := by
  obtain ⟨h, hr⟩ := hσ.at
  have hle := h.le
  rw [bd_id]
  unfold P_X6_connected
  rcases ix_cases (nF τ) (by omega) a with ⟨f, hf, rfl⟩ | ha
  · rcases ix_cases (nF τ) (by omega) b with ⟨g, hg, rfl⟩ | hb
    · rw [reqF_in h hf, bd_some, reqF_in h hg, bd_some]
      exact w_ent h hr hS (Or.inr (Or.inr ⟨f, g, hc, hf, hg, rfl, rfl⟩)) h1 hv
    · exact OpW.exc (by rw [reqF_in h hf, bd_some, reqF_no h hb, bd_exc]) h2 hw hσ
  · exact OpW.exc (by rw [reqF_no h ha, bd_exc]) h2 hw hσ
theorem w_joins (hσ : Rel σ τ) (hS : SI τ) (c a b : Int32) : OpW τ (P_L_joins σ c a b) := by
  obtain ⟨h, hr⟩ := hσ.at
  have hle := h.le
  unfold P_L_joins
  by_cases h1 : c = 78
  · rw [if_pos h1]
    unfold P_X6_negation
    rcases ix_cases (nF τ) (by omega) a with ⟨f, hf, rfl⟩ | ha
    · rw [reqF_in h hf, bd_some]
      exact w_ent h hr hS (Or.inr (Or.inl ⟨f, rfl, hf, rfl, rfl⟩)) rfl (by decide)
    · exact OpW.exc (by rw [reqF_no h ha, bd_exc]) rfl (by decide) hσ
  · rw [if_neg h1]
    by_cases h2 : c = 75
    · rw [if_pos h2]
      exact w_two hσ hS (Or.inl rfl) a b rfl (by decide) rfl (by decide)
    · rw [if_neg h2]
      by_cases h3 : c = 65
      · rw [if_pos h3]
        exact w_two hσ hS (Or.inr (Or.inl rfl)) a b rfl (by decide) rfl (by decide)
      · rw [if_neg h3]
        exact w_two hσ hS (Or.inr (Or.inr rfl)) a b rfl (by decide) rfl (by decide)
theorem SI.bnd (hF : FW n σ τ) (hr : RW n m q e σ τ) (g : Nat → Int32) (hS : SI τ) : SI (tA τ 5 g) := by
  obtain ⟨-, e2, e3, e4⟩ := Rel.nn hF hr
  have a : Agr n m q τ (tA τ 5 g) := ⟨fun _ _ => rfl, fun _ _ => ⟨rfl, rfl, rfl⟩, fun _ _ => ⟨rfl, rfl⟩⟩
  obtain ⟨s1, s2, s3, s4, s5⟩ := hS
  refine ⟨fun k hk v hv hp hg => ?_, fun b hb ho => ?_, s3, s4, fun c hc => s5 c ((CH.agr hr a hr.inx).mp hc)⟩
  · have hk' : k < m := by
      have : k < nLn τ := hk
      omega
    obtain ⟨-, -, -, -, -, hb, -⟩ := hr.ln hk'
    exact s1 k hk v hv hp ((Gd.agr hF hr a hb v).mp hg)
  · exact (CH.agr hr a hr.inx).mpr (s2 b hb ho)
theorem w_binds (hσ : Rel σ τ) (hS : SI τ) (a b : Int32) : OpW τ (P_L_binds σ a b) := by
  obtain ⟨h, hr⟩ := hσ.at
  have hle := h.le
  unfold P_L_binds P_X6_bind
  rcases ix_cases 5 (by decide) a with ⟨j, hj, rfl⟩ | ha
  · rcases ix_cases (nF τ) (by omega) b with ⟨g, hg, rfl⟩ | hb
    · refine OpW.ret (σ' := sR σ 24 (upd (σ.2 24) j (nI g))) (τ' := tA τ 5 (upd (τ.2.1 5) j (nI g))) (by rw [reqLt_in hj, bd_some, reqF_in h hg, bd_some, lt_def, lt_def, rput_in hj (by decide), rat_in hj (by decide), (hr.2.2 j hj).1]) ?_ ⟨nF τ, nLn τ, nBx τ, nLm τ, h.scr rfl (fun k hk => ?_) rfl (fun k hk => ?_), hr.1, hr.2.1, fun i hi => ?_⟩ (SI.bnd h hr _ hS)
      · rcases (hr.2.2 j hj).2 with z | ⟨f, hf, z⟩
        · rw [z]; decide
        · rw [z]; exact m1k_le (by omega)
      · rw [sR_2, if_neg (by omega)]
      · rw [tA2, if_neg (by omega)]
      · show upd (σ.2 24) j (nI g) i = upd (τ.2.1 5) j (nI g) i ∧ IxN (nF τ) (upd (τ.2.1 5) j (nI g) i)
        by_cases hij : i = j
        · subst hij
          rw [upd_eq, upd_eq]
          exact ⟨rfl, Or.inr ⟨g, hg, rfl⟩⟩
        · rw [upd_ne _ hij, upd_ne _ hij]
          exact hr.2.2 i hi
    · exact OpW.exc (by rw [reqLt_in hj, bd_some, reqF_no h hb, bd_exc]) rfl (by decide) hσ
  · exact OpW.exc (by rw [reqLt_no ha, bd_exc]) rfl (by decide) hσ
/-- the ghost with no lines -/
def noL (τ : MS) : MS := tI (tI (tI τ 1 0) 2 0) 3 (-1)
theorem w_new (hσ : Rel σ τ) (hS : SI τ) : ∃ z σ' τ', P_X6_newProof σ = some (.inl z, σ') ∧ (-1000 : Int32) ≤ z ∧ Rel σ' τ' ∧ SI τ' := by
  obtain ⟨h, hr⟩ := hσ.at
  have hm := hr.m60
  refine ⟨σ.1 2, sI (sI (sI σ 2 0) 3 0) 4 (-1), noL τ, rfl, by rw [hr.mc]; exact m1k_le (by omega), ⟨nF τ, 0, 0, nLm τ, h.scr rfl (fun k hk => rfl) rfl (fun k hk => rfl), ⟨by decide, by decide, rfl, rfl, rfl, rfl, rfl, Or.inl rfl, fun k hk => absurd hk (Nat.not_lt_zero _), fun k hk => absurd hk (Nat.not_lt_zero _)⟩, hr.2.1, hr.2.2⟩, fun k hk => absurd hk (Nat.not_lt_zero _), fun k hk => absurd hk (Nat.not_lt_zero _), fun k hk => absurd hk (Nat.not_lt_zero _), hS.2.2.2.1, fun c hc => (CH.nil hc).elim⟩
end FORMSI
