/-! A FORMULA'S SYMBOLS -/
theorem sw_all {τ : MS} : ∀ {h f : Nat} {w : List Int32}, Sw τ h f w → ∀ c ∈ w, c ∈ kinds
  | 0, _, _, q => q.elim
  | h + 1, f, w, q => by
    have hk := sw_kn q
    rcases q with ⟨-, -, -, rfl⟩ | ⟨a, u, -, -, -, -, z, rfl⟩ | ⟨a, b, u, v, -, -, -, -, -, z, z', rfl⟩
    · intro c hc
      rw [List.mem_singleton] at hc
      subst hc; exact hk
    · intro c hc
      rcases List.mem_cons.mp hc with rfl | hc
      · exact hk
      · exact sw_all z c hc
    · intro c hc
      rcases List.mem_cons.mp hc with rfl | hc
      · exact hk
      · rcases List.mem_append.mp hc with hc | hc
        · exact sw_all z c hc
        · exact sw_all z' c hc
theorem getD_mem {w : List Int32} {i : Nat} (h : i < w.length) : w.getD i 0 ∈ w := by
  rw [List.getD_eq_getElem?_getD, List.getElem?_eq_getElem h]
  exact List.getElem_mem h
section SYM
variable {n m q e : Nat} {σ : DS} {τ : MS}
/-- a formula's word, as both sides have it -/
theorem word_of (h : FW n σ τ) {f : Nat} (hf : f < n) : ∃ w, Sw τ w.length f w ∧ 0 < w.length ∧ w.length ≤ 30 ∧ F_X0_size σ (nI f) = nI w.length ∧ (∀ c ∈ w, c ∈ kinds) ∧ ∀ i, i < w.length → F_X0_symbol σ (nI f) (nI i) = w.getD i 0 := by
  have hle := h.le
  obtain ⟨w, q1, q2, q3, -, -, -, -, q8, -⟩ := h.ent hf
  have hsz : F_X0_size σ (nI f) = nI w.length := by rw [size_in h hf]; exact q3
  refine ⟨w, q1, ?_, q2, hsz, sw_all q1, fun i hi => ?_⟩
  · obtain ⟨u, hu⟩ := q1.pos
    rw [hu]; simp
  · unfold F_X0_symbol
    rw [if_neg (nI_pos (by omega)), hsz, if_neg (nI_ge hi (by omega)), show (30 : Int32) = nI 30 from rfl, ni_mul, ni_add, rat_in (by omega) (by decide), q8 i hi]
    exact kind_ch _ (sw_all q1 _ (getD_mem hi))
/-- the reference's word of a formula, written from the start -/
theorem writes_f (h : FW n σ τ) {f : Nat} (hf : f < n) {w : List Int32} (hw : Sw τ w.length f w) (hl : w.length ≤ 30) : ∃ τ', P_X7_writes 40 (tI τ 6 0) (nI f) = some (.inl (), τ') ∧ WrT 0 w (tI τ 6 0) τ' := by
  have hle := h.le
  exact writes_ok w.length f 40 0 w (tI τ 6 0) (by omega) (Sw.ext (τ := τ) (τ' := tI τ 6 0) (n := 150) (fun _ _ => rfl) (fun _ _ => rfl) (fun _ _ => rfl) (by omega) hw) (by omega) rfl (by omega)
end SYM
theorem ag8 : AG8 Rel := by
  intro σ τ w9 a b hI
  obtain ⟨n, m, q, e, h, hr⟩ := id hI
  have hle := h.le
  unfold W_L_symbolAt P_X6_symbolAt P_X7_symbolAt B_X7_symbolAt_41
  rcases ix_cases n (by omega) a with ⟨f, hf, rfl⟩ | ha
  · obtain ⟨w, q1, q2, q3, q4, q5, q6⟩ := word_of h hf
    obtain ⟨τ', g1, g2⟩ := writes_f (h.thr 0) hf (w := w) (Sw.ext (τ := τ) (τ' := tI τ 5 0) (n := 150) (fun _ _ => rfl) (fun _ _ => rfl) (fun _ _ => rfl) (by omega) q1) q3
    have hR : Rel σ τ' := g2.rel ((hI.thr 0).int (by decide) 0)
    have h6 : τ'.1 6 = nI w.length := by rw [g2.1, Nat.zero_add]
    rw [reqF_in h hf, bd_some, lacks_in h hf, bd_some, if_pos rfl, lt_def, g1, bd_some, q4, h6]
    rcases ix_cases w.length (by omega) b with ⟨i, hi, rfl⟩ | hb
    · have ec : τ'.2.1 15 i = w.getD i 0 := by rw [g2.2.2.2.2, if_pos (by omega), Nat.sub_zero]
      rw [in_yes hi (by omega), if_neg i10, if_neg (nI_pos (by omega)), if_pos (nI_lt hi (by omega)), q6 i hi, lt_def, thr_le, gd_in (by omega) (by decide), ni_cl (by omega), show (tI τ' 5 0).2.1 15 i = w.getD i 0 from ec, gc_t (kind_ch _ (q5 _ (getD_mem hi)))]
      exact ag_ret rfl rfl rfl (hR.thr 0)
    · rw [in_no (by omega) hb, if_pos rfl, lt_def, thr_2]
      have e1 : (if b < 0 then (some (.inr "java/util/NoSuchElementException", σ) : Res DS Int32) else if b < nI w.length then some (.inl (F_X0_symbol σ (nI f) b), σ) else some (.inr "java/util/NoSuchElementException", σ)) = some (.inr "java/util/NoSuchElementException", σ) := by
        rcases hb with hb | ⟨h0, hb⟩
        · rw [if_pos hb]
        · rw [if_neg h0, if_neg]
          obtain ⟨j, hj, rfl⟩ := nI_of h0
          exact nI_nlt ((nI_leI (by omega) hj).mp hb) hj
      rw [e1]
      exact ag_exc rfl rfl rfl rfl (by decide) (hR.thr 2)
  · rw [reqF_no h ha, bd_exc, lacks_no h ha, bd_some, if_neg i10]
    exact ag_exc rfl rfl rfl rfl (by decide) (hI.thr 1)
