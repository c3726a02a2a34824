/-! DISTANCES: the reference's view and its beginning -/
/-- only the view and the distances have changed -/
def TFt (τ τ' : MS) : Prop := τ'.1 = τ.1 ∧ (∀ k, k ≠ 17 → k ≠ 18 → τ'.2.1 k = τ.2.1 k) ∧ τ'.2.2 = τ.2.2
section VIEWS
variable {n m q e : Nat} {σ : DS} {τ : MS}
theorem TFt.rf : TFt τ τ := ⟨rfl, fun _ _ _ => rfl, rfl⟩
theorem TFt.tr {τ1 τ2 : MS} (h1 : TFt τ τ1) (h2 : TFt τ1 τ2) : TFt τ τ2 := ⟨h2.1.trans h1.1, fun k h h' => (h2.2.1 k h h').trans (h1.2.1 k h h'), h2.2.2.trans h1.2.2⟩
theorem TFt.fw {τ' : MS} (h : TFt τ τ') (hF : FW n σ τ) : FW n σ τ' := hF.scr rfl (fun _ _ => rfl) (by rw [h.1]) (fun k hk => h.2.1 k (by omega) (by omega))
theorem TFt.rw9 {τ' : MS} (h : TFt τ τ') (hR : RW n m q e σ τ) : RW n m q e σ τ' := hR.of (Nat.le_refl n) PPs.rf ⟨fun k _ _ => by rw [h.1], fun k _ _ => h.2.1 k (by omega) (by omega), h.2.2⟩
theorem TFt.kn {τ' : MS} (h : TFt τ τ') (f : Nat) : Kn τ' f = Kn τ f := by show τ'.2.1 0 f = _; rw [h.2.1 0 (by decide) (by decide)]
theorem TFt.lf {τ' : MS} (h : TFt τ τ') (f : Nat) : Lf τ' f = Lf τ f := by show τ'.2.1 1 f = _; rw [h.2.1 1 (by decide) (by decide)]
theorem TFt.rt {τ' : MS} (h : TFt τ τ') (f : Nat) : Rt τ' f = Rt τ f := by show τ'.2.1 2 f = _; rw [h.2.1 2 (by decide) (by decide)]
theorem tA17 (τ : MS) (w : Nat → Int32) : TFt τ (tA τ 17 w) := ⟨rfl, fun k h _ => by rw [tA2, if_neg h], rfl⟩
theorem tA18 (τ : MS) (w : Nat → Int32) : TFt τ (tA τ 18 w) := ⟨rfl, fun k _ h => by rw [tA2, if_neg h], rfl⟩
theorem TFt.sw {τ' : MS} (h : TFt τ τ') {k f : Nat} {w : List Int32} (hf : f < 150) (z : Sw τ k f w) : Sw τ' k f w := Sw.ext (n := 150) (fun f _ => h.kn f) (fun f _ => h.lf f) (fun f _ => h.rt f) hf z
theorem VClo.ext {τ' : MS} (h : TFt τ τ') {T : Nat → Prop} (hT : VClo n τ T) : VClo n τ' T := fun f hf hTf => ⟨fun a ha ea => (hT f hf hTf).1 a ha (by rw [← h.lf]; exact ea), fun a ha ea => (hT f hf hTf).2 a ha (by rw [← h.rt]; exact ea)⟩
/-- what a call of views leaves -/
def VwE (n F : Nat) (τ τ' : MS) (T0 : (Nat → Prop) → Prop) : Prop := TFt τ τ' ∧ τ'.2.1 18 = τ.2.1 18 ∧ Vw01 n F (τ'.2.1 17) ∧ (∀ v, τ.2.1 17 v = 1 → τ'.2.1 17 v = 1) ∧ (∀ g, g < n → τ'.2.1 17 g = 1 → τ.2.1 17 g = 1 ∨ ((∀ a, a < n → Lf τ g = nI a → τ'.2.1 17 a = 1) ∧ ∀ b, b < n → Rt τ g = nI b → τ'.2.1 17 b = 1)) ∧ ∀ T, VClo n τ T → T0 T → (∀ v, v < 151 → τ.2.1 17 v = 1 → T v) → ∀ v, v < 151 → τ'.2.1 17 v = 1 → T v
theorem vw_id {F : Nat} (hw : Vw01 n F (τ.2.1 17)) (T0 : (Nat → Prop) → Prop) : VwE n F τ τ T0 := ⟨TFt.rf, rfl, hw, fun _ h => h, fun g _ h => Or.inl h, fun T _ _ h => h⟩
theorem views_ok (hn : n ≤ 150) {F : Nat} : ∀ (h f N : Nat) (w : List Int32) (τ : MS), Sw τ h f w → h + 1 ≤ N → f < n → Vw01 n F (τ.2.1 17) → ∃ τ', P_X7_views N τ (nI f) = some (.inl (), τ') ∧ VwE n F τ τ' (fun T => T f) ∧ τ'.2.1 17 f = 1 := by
  intro h
  induction h with
  | zero => intro f N w τ q; exact q.elim
  | succ h ih =>
    intro f N w τ q hN hf hw
    obtain ⟨N, rfl⟩ : ∃ M, N = M + 1 := ⟨N - 1, by omega⟩
    have e0 : P_X7_views (N + 1) τ (nI f) = if τ.2.1 17 f = 0 then (bd (P_X7_views N (tA τ 17 (upd (τ.2.1 17) f 1)) (Lf τ f)) fun _ s28 => (gd (nI f) 150 (bd (P_X7_views N s28 (s28.2.1 2 f)) fun _ s38 => (some (.inl (), s38) : Res MS Unit)))) else some (.inl (), τ) := by
      show D_X7_views _ τ (nI f) = _
      unfold D_X7_views
      rw [if_neg (ni_ne (by omega)), gd_in (show f < 151 by omega) (by decide), gd_in (show f < 151 by omega) (by decide), lt_def, gd_in (show f < 150 by omega) (by decide), ni_cl (show f < 2147483648 by omega), show vp_nar .boolean (1 : Int32) = 1 by decide]
      rfl
    rw [e0]
    rcases (hw f (by omega)).1 with h0 | h1
    · rw [if_pos h0]
      -- a part
      have part : ∀ (τ1 : MS) (v : Int32), TFt τ τ1 → Vw01 n F (τ1.2.1 17) → (v = -1 ∨ ∃ a u, a < f ∧ v = nI a ∧ Sw τ h a u) → ∃ τ', P_X7_views N τ1 v = some (.inl (), τ') ∧ VwE n F τ1 τ' (fun T => ∀ a, a < n → v = nI a → T a) ∧ ∀ a, a < n → v = nI a → τ'.2.1 17 a = 1 := fun τ1 v k1 hw1 hv => by
        rcases hv with rfl | ⟨a, u, ha, rfl, z⟩
        · obtain ⟨N, rfl⟩ : ∃ M, N = M + 1 := ⟨N - 1, by omega⟩
          refine ⟨τ1, ?_, vw_id hw1 _, fun a ha h => absurd h.symm (ni_ne (by omega))⟩
          show D_X7_views _ τ1 (-1) = _
          unfold D_X7_views
          rw [if_pos rfl]
        · obtain ⟨τ', g1, ⟨g2, g3, g4, g5, g6, g7⟩, g8⟩ := ih a N u τ1 (k1.sw (by omega) z) (by omega) (by omega) hw1
          refine ⟨τ', g1, ⟨g2, g3, g4, g5, g6, fun T hT h => g7 T hT (h a (by omega) rfl)⟩, fun a' ha' h => ?_⟩
          rw [ni_eq (by omega) (by omega)] at h
          subst h
          exact g8
      have k0 : TFt τ (tA τ 17 (upd (τ.2.1 17) f 1)) := tA17 τ _
      have hw0 : Vw01 n F ((tA τ 17 (upd (τ.2.1 17) f 1)).2.1 17) := by rw [tA2, if_pos rfl]; exact vw_put hw (Or.inl hf)
      have v0 : ∀ v, (tA τ 17 (upd (τ.2.1 17) f 1)).2.1 17 v = 1 ↔ v = f ∨ τ.2.1 17 v = 1 := fun v => by
        rw [tA2, if_pos rfl]
        by_cases hv : v = f
        · subst hv; rw [upd_eq]; exact ⟨fun _ => Or.inl rfl, fun _ => rfl⟩
        · rw [upd_ne _ hv]; exact ⟨Or.inr, fun h => h.elim (fun h => absurd h hv) id⟩
      have pl : Lf τ f = -1 ∨ ∃ a u, a < f ∧ Lf τ f = nI a ∧ Sw τ h a u := by
        rcases q with ⟨-, l, -, -⟩ | ⟨a, u, -, ha, l, -, z, -⟩ | ⟨a, b, u, v, -, ha, hb, l, r, z, z', -⟩
        · exact Or.inl l
        · exact Or.inr ⟨a, u, ha, l, z⟩
        · exact Or.inr ⟨a, u, ha, l, z⟩
      have pr : Rt τ f = -1 ∨ ∃ a u, a < f ∧ Rt τ f = nI a ∧ Sw τ h a u := by
        rcases q with ⟨-, -, r, -⟩ | ⟨a, u, -, ha, -, r, z, -⟩ | ⟨a, b, u, v, -, ha, hb, l, r, z, z', -⟩
        · exact Or.inl r
        · exact Or.inl r
        · exact Or.inr ⟨b, v, hb, r, z'⟩
      have e18 : (tA τ 17 (upd (τ.2.1 17) f 1)).2.1 18 = τ.2.1 18 := by rw [tA2, if_neg (by decide)]
      generalize tA τ 17 (upd (τ.2.1 17) f 1) = s20 at k0 hw0 v0 e18 ⊢
      obtain ⟨s28, p1, ⟨a2, a3, a4, a5, a6, a7⟩, a8⟩ := part s20 (Lf τ f) k0 hw0 pl
      have k1 := k0.tr a2
      obtain ⟨s38, p2, ⟨b2, b3, b4, b5, b6, b7⟩, b8⟩ := part s28 (Rt τ f) k1 a4 pr
      rw [p1, bd_some, gd_in (show f < 150 by omega) (by decide), show s28.2.1 2 f = Rt τ f from k1.rt f, p2, bd_some]
      have k2 := k1.tr b2
      refine ⟨s38, rfl, ⟨k2, ?_, b4, fun v hv => b5 v (a5 v ((v0 v).mpr (Or.inr hv))), fun g hg hg1 => ?_, fun T hT hTf hT1 v hv hv1 => ?_⟩, b5 f (a5 f ((v0 f).mpr (Or.inl rfl)))⟩
      · rw [b3, a3]
        exact e18
      · rcases b6 g hg hg1 with h | ⟨h, h'⟩
        · rcases a6 g hg h with h | ⟨h, h'⟩
          · rcases (v0 g).mp h with rfl | h
            · exact Or.inr ⟨fun a ha ea => b5 a (a8 a ha ea), b8⟩
            · exact Or.inl h
          · exact Or.inr ⟨fun a ha ea => b5 a (h a ha (by rw [k0.lf]; exact ea)), fun a ha ea => b5 a (h' a ha (by rw [k0.rt]; exact ea))⟩
        · exact Or.inr ⟨fun a ha ea => h a ha (by rw [k1.lf]; exact ea), fun a ha ea => h' a ha (by rw [k1.rt]; exact ea)⟩
      · refine b7 T (hT.ext k1) (fun a ha ea => (hT f hf hTf).2 a ha ea) (fun u hu hu1 => ?_) v hv hv1
        refine a7 T (hT.ext k0) (fun a ha ea => (hT f hf hTf).1 a ha ea) (fun u' hu' hu1' => ?_) u hu hu1
        rcases (v0 u').mp hu1' with rfl | h
        · exact hTf
        · exact hT1 u' hu' h
    · rw [if_neg (by rw [h1]; decide)]
      exact ⟨τ, rfl, vw_id hw _, h1⟩
end VIEWS
