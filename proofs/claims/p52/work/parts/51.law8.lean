def P_L_law (L : Nat) (xs : Nat → Int32) (σ : DS) : Res DS Int32 := (gc (¬ (0 : Int32) < 0) (bd (P_L_some σ (xat L xs (0 : Int32)) (54 : Int32)) fun r15 s15 => (lt r15 fun z18 => (lt (0 : Int32) fun z20 => (L_L_law_21 L xs 54 s15 z18 z20)))))
set_option maxRecDepth 100000 in
theorem law_8 {l : Launch} (hl : l.stackTraces = false) {p : Program} {e : Env} {s : State} {m : MethodId} {args : Array Value} {below : List Frame} {meth : Method} {c : Code} {g : Gy} {ad : Nat → Nat} {rst : va_W} {A : Nat → Prop} {Q : State → Prop} {b L tA : Nat} {xs : Nat → Int32} (C : Cx p l s m args meth c g A RL cL_law 16) (hL : L ≤ 260) (hX : va_X b L xs s s.heap) (hbA : ¬ A b) (hT : TX tA A s) {v9 : Int32} {σ9 : DS} (hend : ∀ (cells slots : Nat), cells ≤ 640334 → slots ≤ 7169287 → ∀ (pc : Nat) (lv : List (Nat × Value)) (v : Int32) (σ : DS), decode cL_law pc = .ok (.ireturn, 1) → some ((.inl v, σ) : (Int32 ⊕ String) × DS) = some (.inl v9, σ9) → J p l e room_1 s m args below meth c g A 16 cells slots Q pc lv [.int v] (dkh g ad rst σ)) (cells slots : Nat) (hcl : cells + 243209 ≤ 640334) (hsl : slots + 1459254 ≤ 7169287) (σ : DS) (H : P_L_law L xs σ = some (.inl v9, σ9)) : J p l e room_1 s m args below meth c g A 16 cells slots Q 8 [(0, .ref b), (1, .ref (ad 0))] [] (dkh g ad rst σ) := by
  unfold P_L_law at H
  refine J.widen (k := cells + 0) (n := slots + 0) (Nat.le_refl _) (Nat.le_refl _) ?_
  refine J.aload_n (i := 0) C dL_law_8 rfl rfl ?_
  refine J.iconst C (0) dL_law_9 (by decide) ?_
  obtain ⟨hz_10, H⟩ := gc_some H
  refine J.at C hl hL hX hbA hz_10 kMl_L_223 ⟨(Nat.le_of_ble_eq_true rfl), (Nat.le_of_ble_eq_true rfl)⟩ (Nat.le_of_ble_eq_true rfl) ⟨ceR0 hcl rfl, ceR0 hsl rfl⟩ dL_law_10 ?_
  refine J.bipush C (54) dL_law_13 (by decide) ?_
  refine J.callS9 (hp := (dkh g ad rst)) C rfl (sp_L_some hl _ _) rfl kMl_L_227 mdL_some ⟨(Nat.le_of_ble_eq_true rfl), (Nat.le_of_ble_eq_true rfl)⟩ rfl (Nat.le_of_ble_eq_true rfl) dL_law_15 ⟨ceA0 hcl rfl, ceA0 hsl rfl⟩ H (fun E z e9 => by cases e9) (fun r15 s15 H => ?_)
  refine J.widen (Nat.le_of_eq (Nat.add_assoc ..)) (Nat.le_of_eq (Nat.add_assoc ..)) ?_
  refine J.istore_nL (i := 2) C dL_law_18 rfl (by decide) H (fun z18 H => ?_)
  refine J.iconst C (0) dL_law_19 (by decide) ?_
  refine J.istore_nL (i := 3) C dL_law_20 rfl (by decide) H (fun z20 H => ?_)
  refine J.lw (lv' := [(0, .ref b), (1, .ref (ad 0)), (2, .int z18), (3, .int z20)]) ⟨rfl, rfl, rfl, rfl, trivial⟩ ?_
  exact lp_L_law_21 hl C hL hX hbA hT hend 54 _ _ (ceA0 hcl (by decide +kernel)) (ceA0 hsl (by decide +kernel)) _ _ _ H
