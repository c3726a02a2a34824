/-! THE REFERENCE WRITES A FORMULA'S WORD -/
/-- behind L symbols the word w has been written -/
def WrT (L : Nat) (w : List Int32) (τ τ' : MS) : Prop := τ'.1 6 = nI (L + w.length) ∧ (∀ k, k ≠ 6 → τ'.1 k = τ.1 k) ∧ (∀ k, k ≠ 15 → τ'.2.1 k = τ.2.1 k) ∧ τ'.2.2 = τ.2.2 ∧ ∀ j, τ'.2.1 15 j = if L ≤ j ∧ j < L + w.length then w.getD (j - L) 0 else τ.2.1 15 j
theorem WrT.nil {L : Nat} {τ : MS} (h : τ.1 6 = nI L) : WrT L [] τ τ := ⟨h, fun _ _ => rfl, fun _ _ => rfl, rfl, fun j => by rw [if_neg (by simp <;> omega)]⟩
theorem WrT.app {L : Nat} {u v : List Int32} {τ τ1 τ2 : MS} (h1 : WrT L u τ τ1) (h2 : WrT (L + u.length) v τ1 τ2) : WrT L (u ++ v) τ τ2 := by
  obtain ⟨a1, a2, a3, a4, a5⟩ := h1
  obtain ⟨b1, b2, b3, b4, b5⟩ := h2
  refine ⟨by rw [b1, List.length_append, Nat.add_assoc], fun k hk => (b2 k hk).trans (a2 k hk), fun k hk => (b3 k hk).trans (a3 k hk), b4.trans a4, fun j => ?_⟩
  rw [b5, a5, List.length_append]
  by_cases c1 : L + u.length ≤ j ∧ j < L + u.length + v.length
  · rw [if_pos c1, if_pos (by omega), getD_r (by omega)]
    congr 1
    omega
  · rw [if_neg c1]
    by_cases c2 : L ≤ j ∧ j < L + u.length
    · rw [if_pos c2, if_pos (by omega), getD_l (by omega)]
    · rw [if_neg c2, if_neg (by omega)]
theorem sw_kn {τ : MS} {h f : Nat} {w : List Int32} (q : Sw τ h f w) : Kn τ f ∈ kinds := by
  cases h with
  | zero => exact q.elim
  | succ h =>
    rcases q with ⟨k, -⟩ | ⟨a, u, k, -⟩ | ⟨a, b, u, v, k, -⟩
    · rcases k with k | k | k | k | k | k <;> rw [k] <;> decide
    · rw [k]; decide
    · rcases k with k | k | k <;> rw [k] <;> decide
theorem writes_ok : ∀ (h f N L : Nat) (w : List Int32) (τ : MS), f < 150 → Sw τ h f w → h ≤ N → τ.1 6 = nI L → L + w.length ≤ 1000 → ∃ τ', P_X7_writes N τ (nI f) = some (.inl (), τ') ∧ WrT L w τ τ' := by
  intro h
  induction h with
  | zero => intro f N L w τ hf q; exact q.elim
  | succ h ih =>
    intro f N L w τ hf q hN hL hw
    obtain ⟨N, rfl⟩ : ∃ M, N = M + 1 := ⟨N - 1, by omega⟩
    have hk := sw_kn q
    obtain ⟨u0, hu0⟩ := q.pos
    have hL2 : L < 1000 := by rw [hu0] at hw; simp at hw; omega
    obtain ⟨s22, hs22⟩ : ∃ s22, s22 = tI (tA τ 15 (upd (τ.2.1 15) L (Kn τ f))) 6 (nI (L + 1)) := ⟨_, rfl⟩
    have w1 : WrT L [Kn τ f] τ s22 := by
      subst hs22
      refine ⟨rfl, fun k hk => by rw [tI1, if_neg hk]; rfl, fun k hk => by rw [tI2, tA2, if_neg hk], rfl, fun j => ?_⟩
      rw [tI2, tA2, if_pos rfl]
      by_cases hj : j = L
      · subst hj; rw [upd_eq, if_pos (by simp), Nat.sub_self]; rfl
      · rw [upd_ne _ hj, if_neg (by simp; omega)]
    have ar : ∀ k, k ≠ 15 → s22.2.1 k = τ.2.1 k := w1.2.2.1
    have hgo : P_X7_writes (N + 1) τ (nI f) = (if Lf τ f = -1 then (if Rt τ f = -1 then some (.inl (), s22) else bd (P_X7_writes N s22 (Rt τ f)) fun _ s62 => some (.inl (), s62)) else bd (P_X7_writes N s22 (Lf τ f)) fun _ s42 => gd (nI f) 150 (if s42.2.1 2 f = -1 then some (.inl (), s42) else gd (nI f) 150 (bd (P_X7_writes N s42 (s42.2.1 2 f)) fun _ s62 => some (.inl (), s62)))) := by
      show D_X7_writes (P_X7_writes N) τ (nI f) = _
      unfold D_X7_writes
      simp only [gd_in (show f < 150 from hf) (by decide : (150 : Nat) < 2147483648), ni_cl (show f < 2147483648 by omega), lt_def]
      rw [hL, gd_in hL2 (by decide), ni_cl (by omega), show (τ.2.1 0 f) = Kn τ f from rfl, kind_nar _ hk]
      rw [show (tA τ 15 (upd (τ.2.1 15) L (Kn τ f))).1 6 + 1 = nI (L + 1) by rw [tA1, hL, ni_add1], ← hs22, ar 1 (by decide), ar 2 (by decide)]
    have sx : ∀ {k g : Nat} {u : List Int32}, g < 150 → Sw τ k g u → Sw s22 k g u := fun hg z => Sw.ext (n := 150) (fun f _ => by show s22.2.1 0 f = _; rw [ar 0 (by decide)]) (fun f _ => by show s22.2.1 1 f = _; rw [ar 1 (by decide)]) (fun f _ => by show s22.2.1 2 f = _; rw [ar 2 (by decide)]) hg z
    rw [hgo]
    rcases q with ⟨k, e1, e2, rfl⟩ | ⟨a, u, k, ha, e1, e2, z, rfl⟩ | ⟨a, b, u, v, k, ha, hb, e1, e2, z, z', rfl⟩
    · rw [if_pos e1, if_pos e2]
      exact ⟨s22, rfl, w1⟩
    · rw [if_neg (by rw [e1]; exact ni_ne (by omega)), e1]
      obtain ⟨τ', g1, g2⟩ := ih a N (L + 1) u s22 (by omega) (sx (by omega) z) (by omega) w1.1 (by simp at hw; omega)
      rw [g1, bd_some, gd_in hf (by decide), g2.2.2.1 2 (by decide), ar 2 (by decide), if_pos e2]
      exact ⟨τ', rfl, WrT.app w1 g2⟩
    · rw [if_neg (by rw [e1]; exact ni_ne (by omega)), e1]
      simp only [List.length_cons, List.length_append] at hw
      obtain ⟨τ1, g1, g2⟩ := ih a N (L + 1) u s22 (by omega) (sx (by omega) z) (by omega) w1.1 (by omega)
      have sy : Sw τ1 h b v := Sw.ext (n := 150) (fun f _ => by show τ1.2.1 0 f = s22.2.1 0 f; rw [g2.2.2.1 0 (by decide)]) (fun f _ => by show τ1.2.1 1 f = s22.2.1 1 f; rw [g2.2.2.1 1 (by decide)]) (fun f _ => by show τ1.2.1 2 f = s22.2.1 2 f; rw [g2.2.2.1 2 (by decide)]) (by omega) (sx (by omega) z')
      obtain ⟨τ2, g3, g4⟩ := ih b N (L + 1 + u.length) v τ1 (by omega) sy (by omega) g2.1 (by omega)
      rw [g1, bd_some, gd_in hf (by decide), g2.2.2.1 2 (by decide), ar 2 (by decide), show τ.2.1 2 f = nI b from e2, if_neg (ni_ne (by omega)), gd_in hf (by decide), g3, bd_some]
      exact ⟨τ2, rfl, WrT.app (u := [Kn τ f]) w1 (WrT.app g2 g4)⟩
section WRR
variable {n m q e : Nat} {σ : DS} {τ : MS}
theorem WrT.fw {L : Nat} {w : List Int32} {τ' : MS} (h : WrT L w τ τ') (hF : FW n σ τ) : FW n σ τ' := hF.scr rfl (fun _ _ => rfl) (h.2.1 0 (by decide)) (fun k hk => h.2.2.1 k (by omega))
theorem WrT.rw9 {L : Nat} {w : List Int32} {τ' : MS} (h : WrT L w τ τ') (hR : RW n m q e σ τ) : RW n m q e σ τ' := hR.of (Nat.le_refl n) PPs.rf ⟨fun k h1 h2 => h.2.1 k (by omega), fun k h1 h2 => h.2.2.1 k (by omega), h.2.2.2.1⟩
theorem WrT.rel {L : Nat} {w : List Int32} {τ' : MS} (h : WrT L w τ τ') (hI : Rel σ τ) : Rel σ τ' := by
  obtain ⟨n, m, q, e, h1, h2⟩ := hI
  exact ⟨n, m, q, e, h.fw h1, h.rw9 h2⟩
theorem Rel.int {k : Nat} (hI : Rel σ τ) (hk : 5 ≤ k) (v : Int32) : Rel σ (tI τ k v) := by
  obtain ⟨n, m, q, e, h1, h2⟩ := hI
  refine ⟨n, m, q, e, h1.scr rfl (fun _ _ => rfl) (by rw [tI1, if_neg (by omega)]) (fun _ _ => rfl), h2.of (Nat.le_refl n) PPs.rf ⟨fun j a b => by rw [tI1, if_neg (by omega)], fun _ _ _ => rfl, rfl⟩⟩
end WRR
