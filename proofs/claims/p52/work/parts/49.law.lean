/-! L_law -/
def B_L_law_508 (L : Nat) (xs : Nat → Int32)  (k_21 : DS → Int32 → Int32 → Res DS Int32) (σ : DS) (l2 : Int32) (l3 : Int32) : Res DS Int32 := (if (irm l3 (18 : Int32)) = (17 : Int32) then (bd (P_L_isSound σ ) fun r518 s518 => (if r518 = 0 then (some (.inl (0 : Int32), s518)) else (lt (l3 + (1 : Int32)) fun z526 => (k_21 s518 l2 z526)))) else (lt (l3 + (1 : Int32)) fun z526 => (k_21 σ l2 z526)))
set_option maxRecDepth 100000 in
set_option maxHeartbeats 4000000 in
theorem bl_L_law_508 {l : Launch} (hl : l.stackTraces = false) {p : Program} {e : Env} {s : State} {m : MethodId} {args : Array Value} {below : List Frame} {meth : Method} {c : Code} {g : Gy} {ad : Nat → Nat} {rst : va_W} {A : Nat → Prop} {Q : State → Prop} {b L tA : Nat} {xs : Nat → Int32} (C : Cx p l s m args meth c g A RL cL_law 16) (hL : L ≤ 260) (hX : va_X b L xs s s.heap) (hbA : ¬ A b) (hT : TX tA A s) {v9 : Int32} {σ9 : DS} (hend : ∀ (cells slots : Nat), cells ≤ 640334 → slots ≤ 7169287 → ∀ (pc : Nat) (lv : List (Nat × Value)) (v : Int32) (σ : DS), decode cL_law pc = .ok (.ireturn, 1) → some ((.inl v, σ) : (Int32 ⊕ String) × DS) = some (.inl v9, σ9) → J p l e room_1 s m args below meth c g A 16 cells slots Q pc lv [.int v] (dkh g ad rst σ)) (n : Nat) (k_21 : DS → Int32 → Int32 → Res DS Int32) (hk_21 : ∀ (cells slots : Nat), cells + (n * 4419 + 4583) ≤ 640334 → slots + (n * 26514 + 27498) ≤ 7169287 → ∀ (σ : DS) (l2 : Int32) (l3 : Int32), k_21 σ l2 l3 = some (.inl v9, σ9) → J p l e room_1 s m args below meth c g A 16 cells slots Q 21 [(0, .ref b), (1, .ref (ad 0)), (2, .int l2), (3, .int l3)] [] (dkh g ad rst σ)) (cells slots : Nat) (hcl : cells + (n * 4419 + 7047) ≤ 640334) (hsl : slots + (n * 26514 + 42282) ≤ 7169287) (σ : DS) (l2 : Int32) (l3 : Int32) (H : B_L_law_508 L xs k_21 σ l2 l3 = some (.inl v9, σ9)) : J p l e room_1 s m args below meth c g A 16 cells slots Q 508 [(0, .ref b), (1, .ref (ad 0)), (2, .int l2), (3, .int l3)] [] (dkh g ad rst σ) := by
  unfold B_L_law_508 at H
  refine J.widen (k := cells + 0) (n := slots + 0) (Nat.le_refl _) (Nat.le_refl _) ?_
  refine J.iload_n (i := 3) C dL_law_508 rfl rfl ?_
  refine J.bipush C (18) dL_law_509 (by decide) ?_
  refine J.irem C dL_law_511 (by decide) ?_
  refine J.bipush C (17) dL_law_512 (by decide) ?_
  refine J.icmp_neL (tgt := 526) C dL_law_514 (by decide) H (fun c_514 H => ?_) (fun c_514 H => ?_)
  · refine J.iincL C (l3 + (1 : Int32)) dL_law_526 rfl rfl (by decide) H (fun z526 H => ?_)
    refine J.goto (tgt := 21) C dL_law_529 (by decide) ?_
    refine J.lw (lv' := [(0, .ref b), (1, .ref (ad 0)), (2, .int l2), (3, .int z526)]) ⟨rfl, rfl, rfl, rfl, trivial⟩ ?_
    exact hk_21 _ _ (ceB hcl rfl) (ceB hsl rfl) _ _ _ H
  · refine J.aload_n (i := 1) C dL_law_517 rfl rfl ?_
    refine J.callS9 (hp := (dkh g ad rst)) C rfl (sp_L_isSound hl ) rfl kMl_L_269 mdL_isSound ⟨(Nat.le_of_ble_eq_true rfl), (Nat.le_of_ble_eq_true rfl)⟩ rfl (Nat.le_of_ble_eq_true rfl) dL_law_518 ⟨ceA hcl rfl, ceA hsl rfl⟩ H (fun E z e9 => by cases e9) (fun r518 s518 H => ?_)
    refine J.widen (Nat.le_of_eq (Nat.add_assoc ..)) (Nat.le_of_eq (Nat.add_assoc ..)) ?_
    refine J.if_neL (tgt := 526) C dL_law_521 (by decide) H (fun c_521 H => ?_) (fun c_521 H => ?_)
    · refine J.iincL C (l3 + (1 : Int32)) dL_law_526 rfl rfl (by decide) H (fun z526 H => ?_)
      refine J.goto (tgt := 21) C dL_law_529 (by decide) ?_
      refine J.lw (lv' := [(0, .ref b), (1, .ref (ad 0)), (2, .int l2), (3, .int z526)]) ⟨rfl, rfl, rfl, rfl, trivial⟩ ?_
      exact hk_21 _ _ (ceB hcl rfl) (ceB hsl rfl) _ _ _ H
    · refine J.iconst C (0) dL_law_524 (by decide) ?_
      exact hend _ _ (ceR hcl rfl) (ceR hsl rfl) _ _ _ _ dL_law_525 H
def B_L_law_490 (L : Nat) (xs : Nat → Int32)  (k_21 : DS → Int32 → Int32 → Res DS Int32) (σ : DS) (l2 : Int32) (l3 : Int32) (l9 : Int64) (l11 : Int32) : Res DS Int32 := (if (-1000 : Int32) ≤ l11 then (B_L_law_508 L xs k_21 σ l2 l3) else (bd (P_L_sum σ ) fun r499 s499 => (if (lg_cmp r499 l9) = 0 then (B_L_law_508 L xs k_21 s499 l2 l3) else (some (.inl (0 : Int32), s499)))))
set_option maxRecDepth 100000 in
set_option maxHeartbeats 4000000 in
theorem bl_L_law_490 {l : Launch} (hl : l.stackTraces = false) {p : Program} {e : Env} {s : State} {m : MethodId} {args : Array Value} {below : List Frame} {meth : Method} {c : Code} {g : Gy} {ad : Nat → Nat} {rst : va_W} {A : Nat → Prop} {Q : State → Prop} {b L tA : Nat} {xs : Nat → Int32} (C : Cx p l s m args meth c g A RL cL_law 16) (hL : L ≤ 260) (hX : va_X b L xs s s.heap) (hbA : ¬ A b) (hT : TX tA A s) {v9 : Int32} {σ9 : DS} (hend : ∀ (cells slots : Nat), cells ≤ 640334 → slots ≤ 7169287 → ∀ (pc : Nat) (lv : List (Nat × Value)) (v : Int32) (σ : DS), decode cL_law pc = .ok (.ireturn, 1) → some ((.inl v, σ) : (Int32 ⊕ String) × DS) = some (.inl v9, σ9) → J p l e room_1 s m args below meth c g A 16 cells slots Q pc lv [.int v] (dkh g ad rst σ)) (n : Nat) (k_21 : DS → Int32 → Int32 → Res DS Int32) (hk_21 : ∀ (cells slots : Nat), cells + (n * 4419 + 4583) ≤ 640334 → slots + (n * 26514 + 27498) ≤ 7169287 → ∀ (σ : DS) (l2 : Int32) (l3 : Int32), k_21 σ l2 l3 = some (.inl v9, σ9) → J p l e room_1 s m args below meth c g A 16 cells slots Q 21 [(0, .ref b), (1, .ref (ad 0)), (2, .int l2), (3, .int l3)] [] (dkh g ad rst σ)) (cells slots : Nat) (hcl : cells + (n * 4419 + 8018) ≤ 640334) (hsl : slots + (n * 26514 + 48108) ≤ 7169287) (σ : DS) (l2 : Int32) (l3 : Int32) (l9 : Int64) (l11 : Int32) (H : B_L_law_490 L xs k_21 σ l2 l3 l9 l11 = some (.inl v9, σ9)) : J p l e room_1 s m args below meth c g A 16 cells slots Q 490 [(0, .ref b), (1, .ref (ad 0)), (2, .int l2), (3, .int l3), (9, .long l9), (11, .int l11)] [] (dkh g ad rst σ) := by
  unfold B_L_law_490 at H
  refine J.widen (k := cells + 0) (n := slots + 0) (Nat.le_refl _) (Nat.le_refl _) ?_
  refine J.iload C dL_law_490 rfl ?_
  refine J.sipush C (-1000) dL_law_492 (by decide) ?_
  refine J.icmp_geL (tgt := 508) C dL_law_495 (by decide) H (fun c_495 H => ?_) (fun c_495 H => ?_)
  · refine J.lw (lv' := [(0, .ref b), (1, .ref (ad 0)), (2, .int l2), (3, .int l3)]) ⟨rfl, rfl, rfl, rfl, trivial⟩ ?_
    exact bl_L_law_508 hl C hL hX hbA hT hend n k_21 hk_21 _ _ (ceB hcl rfl) (ceB hsl rfl) _ _ _ H
  · refine J.aload_n (i := 1) C dL_law_498 rfl rfl ?_
    refine J.callS9 (hp := (dkh g ad rst)) C rfl (sp_L_sum hl ) rfl kMl_L_236 mdL_sum ⟨(Nat.le_of_ble_eq_true rfl), (Nat.le_of_ble_eq_true rfl)⟩ rfl (Nat.le_of_ble_eq_true rfl) dL_law_499 ⟨ceA hcl rfl, ceA hsl rfl⟩ H (fun E z e9 => by cases e9) (fun r499 s499 H => ?_)
    refine J.widen (Nat.le_of_eq (Nat.add_assoc ..)) (Nat.le_of_eq (Nat.add_assoc ..)) ?_
    refine J.lload C dL_law_502 rfl ?_
    refine J.lcmp C dL_law_504 ?_
    refine J.if_neL (tgt := 524) C dL_law_505 (by decide) H (fun c_505 H => ?_) (fun c_505 H => ?_)
    · refine J.iconst C (0) dL_law_524 (by decide) ?_
      exact hend _ _ (ceR hcl rfl) (ceR hsl rfl) _ _ _ _ dL_law_525 H
    · refine J.lw (lv' := [(0, .ref b), (1, .ref (ad 0)), (2, .int l2), (3, .int l3)]) ⟨rfl, rfl, rfl, rfl, trivial⟩ ?_
      exact bl_L_law_508 hl C hL hX hbA hT hend n k_21 hk_21 _ _ (ceB hcl rfl) (ceB hsl rfl) _ _ _ H
def B_L_law_99 (L : Nat) (xs : Nat → Int32)  (k_21 : DS → Int32 → Int32 → Res DS Int32) (σ : DS) (l2 : Int32) (l3 : Int32) (l5 : Int32) (l9 : Int64) : Res DS Int32 := (bd (P_L_letter σ (irm l5 (5 : Int32))) fun r104 s104 => (lt r104 fun z107 => (B_L_law_490 L xs k_21 s104 l2 l3 l9 z107)))
set_option maxRecDepth 100000 in
set_option maxHeartbeats 4000000 in
theorem bl_L_law_99 {l : Launch} (hl : l.stackTraces = false) {p : Program} {e : Env} {s : State} {m : MethodId} {args : Array Value} {below : List Frame} {meth : Method} {c : Code} {g : Gy} {ad : Nat → Nat} {rst : va_W} {A : Nat → Prop} {Q : State → Prop} {b L tA : Nat} {xs : Nat → Int32} (C : Cx p l s m args meth c g A RL cL_law 16) (hL : L ≤ 260) (hX : va_X b L xs s s.heap) (hbA : ¬ A b) (hT : TX tA A s) {v9 : Int32} {σ9 : DS} (hend : ∀ (cells slots : Nat), cells ≤ 640334 → slots ≤ 7169287 → ∀ (pc : Nat) (lv : List (Nat × Value)) (v : Int32) (σ : DS), decode cL_law pc = .ok (.ireturn, 1) → some ((.inl v, σ) : (Int32 ⊕ String) × DS) = some (.inl v9, σ9) → J p l e room_1 s m args below meth c g A 16 cells slots Q pc lv [.int v] (dkh g ad rst σ)) (n : Nat) (k_21 : DS → Int32 → Int32 → Res DS Int32) (hk_21 : ∀ (cells slots : Nat), cells + (n * 4419 + 4583) ≤ 640334 → slots + (n * 26514 + 27498) ≤ 7169287 → ∀ (σ : DS) (l2 : Int32) (l3 : Int32), k_21 σ l2 l3 = some (.inl v9, σ9) → J p l e room_1 s m args below meth c g A 16 cells slots Q 21 [(0, .ref b), (1, .ref (ad 0)), (2, .int l2), (3, .int l3)] [] (dkh g ad rst σ)) (cells slots : Nat) (hcl : cells + (n * 4419 + 8020) ≤ 640334) (hsl : slots + (n * 26514 + 48120) ≤ 7169287) (σ : DS) (l2 : Int32) (l3 : Int32) (l5 : Int32) (l9 : Int64) (H : B_L_law_99 L xs k_21 σ l2 l3 l5 l9 = some (.inl v9, σ9)) : J p l e room_1 s m args below meth c g A 16 cells slots Q 99 [(0, .ref b), (1, .ref (ad 0)), (2, .int l2), (3, .int l3), (5, .int l5), (9, .long l9)] [] (dkh g ad rst σ) := by
  unfold B_L_law_99 at H
  refine J.widen (k := cells + 0) (n := slots + 0) (Nat.le_refl _) (Nat.le_refl _) ?_
  refine J.aload_n (i := 1) C dL_law_99 rfl rfl ?_
  refine J.iload C dL_law_100 rfl ?_
  refine J.iconst C (5) dL_law_102 (by decide) ?_
  refine J.irem C dL_law_103 (by decide) ?_
  refine J.callH9 (hp := (dkh g ad rst)) C rfl (sp_L_letter hl _) rfl kMl_L_240 mdL_letter ⟨(Nat.le_of_ble_eq_true rfl), (Nat.le_of_ble_eq_true rfl)⟩ rfl (Nat.le_of_ble_eq_true rfl) dL_law_104 ⟨ceA hcl rfl, ceA hsl rfl⟩ H (fun E z e9 => by cases e9) (fun r104 s104 H => ?_)
  refine J.widen (Nat.le_of_eq (Nat.add_assoc ..)) (Nat.le_of_eq (Nat.add_assoc ..)) ?_
  refine J.istoreL C dL_law_107 (by decide) H (fun z107 H => ?_)
  refine J.goto (tgt := 490) C dL_law_109 (by decide) ?_
  refine J.lw (lv' := [(0, .ref b), (1, .ref (ad 0)), (2, .int l2), (3, .int l3), (9, .long l9), (11, .int z107)]) ⟨rfl, rfl, rfl, rfl, rfl, rfl, trivial⟩ ?_
  exact bl_L_law_490 hl C hL hX hbA hT hend n k_21 hk_21 _ _ (ceB hcl rfl) (ceB hsl rfl) _ _ _ _ _ H
def B_L_law_202 (L : Nat) (xs : Nat → Int32)  (k_21 : DS → Int32 → Int32 → Res DS Int32) (σ : DS) (l2 : Int32) (l3 : Int32) (l5 : Int32) (l6 : Int32) (l9 : Int64) (l11 : Int32) : Res DS Int32 := (if (F_X6_formulas σ ) ≤ 0 then (B_L_law_490 L xs k_21 σ l2 l3 l9 l11) else (gc (¬ l6 = 0) (bd (P_L_isNormal σ (irm l5 l6)) fun r215 s215 => (if r215 = 0 then (some (.inl (0 : Int32), s215)) else (B_L_law_490 L xs k_21 s215 l2 l3 l9 l11)))))
set_option maxRecDepth 100000 in
set_option maxHeartbeats 4000000 in
theorem bl_L_law_202 {l : Launch} (hl : l.stackTraces = false) {p : Program} {e : Env} {s : State} {m : MethodId} {args : Array Value} {below : List Frame} {meth : Method} {c : Code} {g : Gy} {ad : Nat → Nat} {rst : va_W} {A : Nat → Prop} {Q : State → Prop} {b L tA : Nat} {xs : Nat → Int32} (C : Cx p l s m args meth c g A RL cL_law 16) (hL : L ≤ 260) (hX : va_X b L xs s s.heap) (hbA : ¬ A b) (hT : TX tA A s) {v9 : Int32} {σ9 : DS} (hend : ∀ (cells slots : Nat), cells ≤ 640334 → slots ≤ 7169287 → ∀ (pc : Nat) (lv : List (Nat × Value)) (v : Int32) (σ : DS), decode cL_law pc = .ok (.ireturn, 1) → some ((.inl v, σ) : (Int32 ⊕ String) × DS) = some (.inl v9, σ9) → J p l e room_1 s m args below meth c g A 16 cells slots Q pc lv [.int v] (dkh g ad rst σ)) (n : Nat) (k_21 : DS → Int32 → Int32 → Res DS Int32) (hk_21 : ∀ (cells slots : Nat), cells + (n * 4419 + 4583) ≤ 640334 → slots + (n * 26514 + 27498) ≤ 7169287 → ∀ (σ : DS) (l2 : Int32) (l3 : Int32), k_21 σ l2 l3 = some (.inl v9, σ9) → J p l e room_1 s m args below meth c g A 16 cells slots Q 21 [(0, .ref b), (1, .ref (ad 0)), (2, .int l2), (3, .int l3)] [] (dkh g ad rst σ)) (cells slots : Nat) (hcl : cells + (n * 4419 + 8031) ≤ 640334) (hsl : slots + (n * 26514 + 48186) ≤ 7169287) (σ : DS) (l2 : Int32) (l3 : Int32) (l5 : Int32) (l6 : Int32) (l9 : Int64) (l11 : Int32) (H : B_L_law_202 L xs k_21 σ l2 l3 l5 l6 l9 l11 = some (.inl v9, σ9)) : J p l e room_1 s m args below meth c g A 16 cells slots Q 202 [(0, .ref b), (1, .ref (ad 0)), (2, .int l2), (3, .int l3), (5, .int l5), (6, .int l6), (9, .long l9), (11, .int l11)] [] (dkh g ad rst σ) := by
  unfold B_L_law_202 at H
  refine J.widen (k := cells + 0) (n := slots + 0) (Nat.le_refl _) (Nat.le_refl _) ?_
  refine J.aload_n (i := 1) C dL_law_202 rfl rfl ?_
  refine J.callVI C (sp_X6_formulas hl ) rfl kMl_L_156 mdX6_formulas ⟨(Nat.le_of_ble_eq_true rfl), (Nat.le_of_ble_eq_true rfl)⟩ dk_0 rfl rfl (Nat.le_of_ble_eq_true rfl) dL_law_203 ⟨ceA hcl rfl, ceA hsl rfl⟩ ?_
  refine J.widen (Nat.le_of_eq (Nat.add_assoc ..)) (Nat.le_of_eq (Nat.add_assoc ..)) ?_
  refine J.if_leL (tgt := 490) C dL_law_206 (by decide) H (fun c_206 H => ?_) (fun c_206 H => ?_)
  · refine J.lw (lv' := [(0, .ref b), (1, .ref (ad 0)), (2, .int l2), (3, .int l3), (9, .long l9), (11, .int l11)]) ⟨rfl, rfl, rfl, rfl, rfl, rfl, trivial⟩ ?_
    exact bl_L_law_490 hl C hL hX hbA hT hend n k_21 hk_21 _ _ (ceB hcl rfl) (ceB hsl rfl) _ _ _ _ _ H
  · refine J.aload_n (i := 1) C dL_law_209 rfl rfl ?_
    refine J.iload C dL_law_210 rfl ?_
    refine J.iload C dL_law_212 rfl ?_
    refine J.iremL C dL_law_214 H (fun H => ?_)
    refine J.callS9 (hp := (dkh g ad rst)) C rfl (sp_L_isNormal hl _) rfl kMl_L_258 mdL_isNormal ⟨(Nat.le_of_ble_eq_true rfl), (Nat.le_of_ble_eq_true rfl)⟩ rfl (Nat.le_of_ble_eq_true rfl) dL_law_215 ⟨ceA hcl rfl, ceA hsl rfl⟩ H (fun E z e9 => by cases e9) (fun r215 s215 H => ?_)
    refine J.widen (Nat.le_of_eq (Nat.add_assoc ..)) (Nat.le_of_eq (Nat.add_assoc ..)) ?_
    refine J.if_neL (tgt := 490) C dL_law_218 (by decide) H (fun c_218 H => ?_) (fun c_218 H => ?_)
    · refine J.lw (lv' := [(0, .ref b), (1, .ref (ad 0)), (2, .int l2), (3, .int l3), (9, .long l9), (11, .int l11)]) ⟨rfl, rfl, rfl, rfl, rfl, rfl, trivial⟩ ?_
      exact bl_L_law_490 hl C hL hX hbA hT hend n k_21 hk_21 _ _ (ceB hcl rfl) (ceB hsl rfl) _ _ _ _ _ H
    · refine J.iconst C (0) dL_law_221 (by decide) ?_
      exact hend _ _ (ceR hcl rfl) (ceR hsl rfl) _ _ _ _ dL_law_222 H
def B_L_law_443 (L : Nat) (xs : Nat → Int32)  (k_21 : DS → Int32 → Int32 → Res DS Int32) (σ : DS) (l2 : Int32) (l3 : Int32) (l9 : Int64) (l13 : Int32) (t0 : Int32) (t1 : Int32) (t2 : Int32) (t3 : Int32) : Res DS Int32 := (bd (P_L_does σ t3 t2 t1 t0) fun r443 s443 => (lt r443 fun z446 => (if z446 < 0 then (B_L_law_490 L xs k_21 s443 l2 l3 l9 z446) else (if l13 = (2 : Int32) then (B_L_law_490 L xs k_21 s443 l2 l3 l9 z446) else (if l13 = (14 : Int32) then (B_L_law_490 L xs k_21 s443 l2 l3 l9 z446) else (if (F_X6_lines s443 ) = (z446 + (1 : Int32)) then (bd (P_L_line s443 z446 (3 : Int32)) fun r481 s481 => (if r481 = (1 : Int32) then (B_L_law_490 L xs k_21 s481 l2 l3 l9 z446) else (some (.inl (0 : Int32), s481)))) else (some (.inl (0 : Int32), s443))))))))
set_option maxRecDepth 100000 in
set_option maxHeartbeats 4000000 in
theorem bl_L_law_443 {l : Launch} (hl : l.stackTraces = false) {p : Program} {e : Env} {s : State} {m : MethodId} {args : Array Value} {below : List Frame} {meth : Method} {c : Code} {g : Gy} {ad : Nat → Nat} {rst : va_W} {A : Nat → Prop} {Q : State → Prop} {b L tA : Nat} {xs : Nat → Int32} (C : Cx p l s m args meth c g A RL cL_law 16) (hL : L ≤ 260) (hX : va_X b L xs s s.heap) (hbA : ¬ A b) (hT : TX tA A s) {v9 : Int32} {σ9 : DS} (hend : ∀ (cells slots : Nat), cells ≤ 640334 → slots ≤ 7169287 → ∀ (pc : Nat) (lv : List (Nat × Value)) (v : Int32) (σ : DS), decode cL_law pc = .ok (.ireturn, 1) → some ((.inl v, σ) : (Int32 ⊕ String) × DS) = some (.inl v9, σ9) → J p l e room_1 s m args below meth c g A 16 cells slots Q pc lv [.int v] (dkh g ad rst σ)) (n : Nat) (k_21 : DS → Int32 → Int32 → Res DS Int32) (hk_21 : ∀ (cells slots : Nat), cells + (n * 4419 + 4583) ≤ 640334 → slots + (n * 26514 + 27498) ≤ 7169287 → ∀ (σ : DS) (l2 : Int32) (l3 : Int32), k_21 σ l2 l3 = some (.inl v9, σ9) → J p l e room_1 s m args below meth c g A 16 cells slots Q 21 [(0, .ref b), (1, .ref (ad 0)), (2, .int l2), (3, .int l3)] [] (dkh g ad rst σ)) (cells slots : Nat) (hcl : cells + (n * 4419 + 8029) ≤ 640334) (hsl : slots + (n * 26514 + 48174) ≤ 7169287) (σ : DS) (l2 : Int32) (l3 : Int32) (l9 : Int64) (l13 : Int32) (t0 : Int32) (t1 : Int32) (t2 : Int32) (t3 : Int32) (H : B_L_law_443 L xs k_21 σ l2 l3 l9 l13 t0 t1 t2 t3 = some (.inl v9, σ9)) : J p l e room_1 s m args below meth c g A 16 cells slots Q 443 [(0, .ref b), (1, .ref (ad 0)), (2, .int l2), (3, .int l3), (9, .long l9), (13, .int l13)] [.int t0, .int t1, .int t2, .int t3, .ref (ad 0)] (dkh g ad rst σ) := by
  unfold B_L_law_443 at H
  refine J.widen (k := cells + 0) (n := slots + 0) (Nat.le_refl _) (Nat.le_refl _) ?_
  refine J.callH9 (hp := (dkh g ad rst)) C rfl (sp_L_does hl _ _ _ _) rfl kMl_L_265 mdL_does ⟨(Nat.le_of_ble_eq_true rfl), (Nat.le_of_ble_eq_true rfl)⟩ rfl (Nat.le_of_ble_eq_true rfl) dL_law_443 ⟨ceA hcl rfl, ceA hsl rfl⟩ H (fun E z e9 => by cases e9) (fun r443 s443 H => ?_)
  refine J.widen (Nat.le_of_eq (Nat.add_assoc ..)) (Nat.le_of_eq (Nat.add_assoc ..)) ?_
  refine J.istoreL C dL_law_446 (by decide) H (fun z446 H => ?_)
  refine J.iload C dL_law_448 rfl ?_
  refine J.if_ltL (tgt := 490) C dL_law_450 (by decide) H (fun c_450 H => ?_) (fun c_450 H => ?_)
  · refine J.lw (lv' := [(0, .ref b), (1, .ref (ad 0)), (2, .int l2), (3, .int l3), (9, .long l9), (11, .int z446)]) ⟨rfl, rfl, rfl, rfl, rfl, rfl, trivial⟩ ?_
    exact bl_L_law_490 hl C hL hX hbA hT hend n k_21 hk_21 _ _ (ceB hcl rfl) (ceB hsl rfl) _ _ _ _ _ H
  · refine J.iload C dL_law_453 rfl ?_
    refine J.iconst C (2) dL_law_455 (by decide) ?_
    refine J.icmp_eqL (tgt := 490) C dL_law_456 (by decide) H (fun c_456 H => ?_) (fun c_456 H => ?_)
    · refine J.lw (lv' := [(0, .ref b), (1, .ref (ad 0)), (2, .int l2), (3, .int l3), (9, .long l9), (11, .int z446)]) ⟨rfl, rfl, rfl, rfl, rfl, rfl, trivial⟩ ?_
      exact bl_L_law_490 hl C hL hX hbA hT hend n k_21 hk_21 _ _ (ceB hcl rfl) (ceB hsl rfl) _ _ _ _ _ H
    · refine J.iload C dL_law_459 rfl ?_
      refine J.bipush C (14) dL_law_461 (by decide) ?_
      refine J.icmp_eqL (tgt := 490) C dL_law_463 (by decide) H (fun c_463 H => ?_) (fun c_463 H => ?_)
      · refine J.lw (lv' := [(0, .ref b), (1, .ref (ad 0)), (2, .int l2), (3, .int l3), (9, .long l9), (11, .int z446)]) ⟨rfl, rfl, rfl, rfl, rfl, rfl, trivial⟩ ?_
        exact bl_L_law_490 hl C hL hX hbA hT hend n k_21 hk_21 _ _ (ceB hcl rfl) (ceB hsl rfl) _ _ _ _ _ H
      · refine J.aload_n (i := 1) C dL_law_466 rfl rfl ?_
        refine J.callVI C (sp_X6_lines hl ) rfl kMl_L_161 mdX6_lines ⟨(Nat.le_of_ble_eq_true rfl), (Nat.le_of_ble_eq_true rfl)⟩ dk_0 rfl rfl (Nat.le_of_ble_eq_true rfl) dL_law_467 ⟨ceA hcl rfl, ceA hsl rfl⟩ ?_
        refine J.widen (Nat.le_of_eq (Nat.add_assoc ..)) (Nat.le_of_eq (Nat.add_assoc ..)) ?_
        refine J.iload C dL_law_470 rfl ?_
        refine J.iconst C (1) dL_law_472 (by decide) ?_
        refine J.iadd C dL_law_473 ?_
        refine J.icmp_neL (tgt := 488) C dL_law_474 (by decide) H (fun c_474 H => ?_) (fun c_474 H => ?_)
        · refine J.iconst C (0) dL_law_488 (by decide) ?_
          exact hend _ _ (ceR hcl rfl) (ceR hsl rfl) _ _ _ _ dL_law_489 H
        · refine J.aload_n (i := 1) C dL_law_477 rfl rfl ?_
          refine J.iload C dL_law_478 rfl ?_
          refine J.iconst C (3) dL_law_480 (by decide) ?_
          refine J.callH9 (hp := (dkh g ad rst)) C rfl (sp_L_line hl _ _) rfl kMl_L_190 mdL_line ⟨(Nat.le_of_ble_eq_true rfl), (Nat.le_of_ble_eq_true rfl)⟩ rfl (Nat.le_of_ble_eq_true rfl) dL_law_481 ⟨ceA hcl rfl, ceA hsl rfl⟩ H (fun E z e9 => by cases e9) (fun r481 s481 H => ?_)
          refine J.widen (Nat.le_of_eq (Nat.add_assoc ..)) (Nat.le_of_eq (Nat.add_assoc ..)) ?_
          refine J.iconst C (1) dL_law_484 (by decide) ?_
          refine J.icmp_eqL (tgt := 490) C dL_law_485 (by decide) H (fun c_485 H => ?_) (fun c_485 H => ?_)
          · refine J.lw (lv' := [(0, .ref b), (1, .ref (ad 0)), (2, .int l2), (3, .int l3), (9, .long l9), (11, .int z446)]) ⟨rfl, rfl, rfl, rfl, rfl, rfl, trivial⟩ ?_
            exact bl_L_law_490 hl C hL hX hbA hT hend n k_21 hk_21 _ _ (ceB hcl rfl) (ceB hsl rfl) _ _ _ _ _ H
          · refine J.iconst C (0) dL_law_488 (by decide) ?_
            exact hend _ _ (ceR hcl rfl) (ceR hsl rfl) _ _ _ _ dL_law_489 H
def B_L_law_406 (L : Nat) (xs : Nat → Int32)  (k_21 : DS → Int32 → Int32 → Res DS Int32) (σ : DS) (l2 : Int32) (l3 : Int32) (l5 : Int32) (l7 : Int32) (l8 : Int32) (l9 : Int64) (l13 : Int32) (l14 : Int32) (t0 : Int32) : Res DS Int32 := (lt t0 fun z406 => (if l13 = (7 : Int32) then (gc (¬ l8 = 0) (B_L_law_443 L xs k_21 σ l2 l3 l9 l13 (irm (l5 / (3600 : Int32)) l8) z406 l14 l13)) else (gc (¬ l7 = 0) (B_L_law_443 L xs k_21 σ l2 l3 l9 l13 (irm (l5 / (3600 : Int32)) l7) z406 l14 l13))))
set_option maxRecDepth 100000 in
set_option maxHeartbeats 4000000 in
theorem bl_L_law_406 {l : Launch} (hl : l.stackTraces = false) {p : Program} {e : Env} {s : State} {m : MethodId} {args : Array Value} {below : List Frame} {meth : Method} {c : Code} {g : Gy} {ad : Nat → Nat} {rst : va_W} {A : Nat → Prop} {Q : State → Prop} {b L tA : Nat} {xs : Nat → Int32} (C : Cx p l s m args meth c g A RL cL_law 16) (hL : L ≤ 260) (hX : va_X b L xs s s.heap) (hbA : ¬ A b) (hT : TX tA A s) {v9 : Int32} {σ9 : DS} (hend : ∀ (cells slots : Nat), cells ≤ 640334 → slots ≤ 7169287 → ∀ (pc : Nat) (lv : List (Nat × Value)) (v : Int32) (σ : DS), decode cL_law pc = .ok (.ireturn, 1) → some ((.inl v, σ) : (Int32 ⊕ String) × DS) = some (.inl v9, σ9) → J p l e room_1 s m args below meth c g A 16 cells slots Q pc lv [.int v] (dkh g ad rst σ)) (n : Nat) (k_21 : DS → Int32 → Int32 → Res DS Int32) (hk_21 : ∀ (cells slots : Nat), cells + (n * 4419 + 4583) ≤ 640334 → slots + (n * 26514 + 27498) ≤ 7169287 → ∀ (σ : DS) (l2 : Int32) (l3 : Int32), k_21 σ l2 l3 = some (.inl v9, σ9) → J p l e room_1 s m args below meth c g A 16 cells slots Q 21 [(0, .ref b), (1, .ref (ad 0)), (2, .int l2), (3, .int l3)] [] (dkh g ad rst σ)) (cells slots : Nat) (hcl : cells + (n * 4419 + 8029) ≤ 640334) (hsl : slots + (n * 26514 + 48174) ≤ 7169287) (σ : DS) (l2 : Int32) (l3 : Int32) (l5 : Int32) (l7 : Int32) (l8 : Int32) (l9 : Int64) (l13 : Int32) (l14 : Int32) (t0 : Int32) (H : B_L_law_406 L xs k_21 σ l2 l3 l5 l7 l8 l9 l13 l14 t0 = some (.inl v9, σ9)) : J p l e room_1 s m args below meth c g A 16 cells slots Q 406 [(0, .ref b), (1, .ref (ad 0)), (2, .int l2), (3, .int l3), (5, .int l5), (7, .int l7), (8, .int l8), (9, .long l9), (13, .int l13), (14, .int l14)] [.int t0] (dkh g ad rst σ) := by
  unfold B_L_law_406 at H
  refine J.widen (k := cells + 0) (n := slots + 0) (Nat.le_refl _) (Nat.le_refl _) ?_
  refine J.istoreL C dL_law_406 (by decide) H (fun z406 H => ?_)
  refine J.aload_n (i := 1) C dL_law_408 rfl rfl ?_
  refine J.iload C dL_law_409 rfl ?_
  refine J.iload C dL_law_411 rfl ?_
  refine J.iload C dL_law_413 rfl ?_
  refine J.iload C dL_law_415 rfl ?_
  refine J.bipush C (7) dL_law_417 (by decide) ?_
  refine J.icmp_neL (tgt := 434) C dL_law_419 (by decide) H (fun c_419 H => ?_) (fun c_419 H => ?_)
  · refine J.iload C dL_law_434 rfl ?_
    refine J.sipush C (3600) dL_law_436 (by decide) ?_
    refine J.idiv C dL_law_439 (by decide) ?_
    refine J.iload C dL_law_440 rfl ?_
    refine J.iremL C dL_law_442 H (fun H => ?_)
    refine J.lw (lv' := [(0, .ref b), (1, .ref (ad 0)), (2, .int l2), (3, .int l3), (9, .long l9), (13, .int l13)]) ⟨rfl, rfl, rfl, rfl, rfl, rfl, trivial⟩ ?_
    exact bl_L_law_443 hl C hL hX hbA hT hend n k_21 hk_21 _ _ (ceB hcl rfl) (ceB hsl rfl) _ _ _ _ _ _ _ _ _ H
  · refine J.iload C dL_law_422 rfl ?_
    refine J.sipush C (3600) dL_law_424 (by decide) ?_
    refine J.idiv C dL_law_427 (by decide) ?_
    refine J.iload C dL_law_428 rfl ?_
    refine J.iremL C dL_law_430 H (fun H => ?_)
    refine J.goto (tgt := 443) C dL_law_431 (by decide) ?_
    refine J.lw (lv' := [(0, .ref b), (1, .ref (ad 0)), (2, .int l2), (3, .int l3), (9, .long l9), (13, .int l13)]) ⟨rfl, rfl, rfl, rfl, rfl, rfl, trivial⟩ ?_
    exact bl_L_law_443 hl C hL hX hbA hT hend n k_21 hk_21 _ _ (ceB hcl rfl) (ceB hsl rfl) _ _ _ _ _ _ _ _ _ H
def B_L_law_369 (L : Nat) (xs : Nat → Int32)  (k_21 : DS → Int32 → Int32 → Res DS Int32) (σ : DS) (l2 : Int32) (l3 : Int32) (l5 : Int32) (l6 : Int32) (l7 : Int32) (l8 : Int32) (l9 : Int64) (l13 : Int32) (l14 : Int32) : Res DS Int32 := (gc (¬ l6 = 0) (B_L_law_406 L xs k_21 σ l2 l3 l5 l7 l8 l9 l13 l14 (irm (l5 / (60 : Int32)) l6)))
set_option maxRecDepth 100000 in
set_option maxHeartbeats 4000000 in
theorem bl_L_law_369 {l : Launch} (hl : l.stackTraces = false) {p : Program} {e : Env} {s : State} {m : MethodId} {args : Array Value} {below : List Frame} {meth : Method} {c : Code} {g : Gy} {ad : Nat → Nat} {rst : va_W} {A : Nat → Prop} {Q : State → Prop} {b L tA : Nat} {xs : Nat → Int32} (C : Cx p l s m args meth c g A RL cL_law 16) (hL : L ≤ 260) (hX : va_X b L xs s s.heap) (hbA : ¬ A b) (hT : TX tA A s) {v9 : Int32} {σ9 : DS} (hend : ∀ (cells slots : Nat), cells ≤ 640334 → slots ≤ 7169287 → ∀ (pc : Nat) (lv : List (Nat × Value)) (v : Int32) (σ : DS), decode cL_law pc = .ok (.ireturn, 1) → some ((.inl v, σ) : (Int32 ⊕ String) × DS) = some (.inl v9, σ9) → J p l e room_1 s m args below meth c g A 16 cells slots Q pc lv [.int v] (dkh g ad rst σ)) (n : Nat) (k_21 : DS → Int32 → Int32 → Res DS Int32) (hk_21 : ∀ (cells slots : Nat), cells + (n * 4419 + 4583) ≤ 640334 → slots + (n * 26514 + 27498) ≤ 7169287 → ∀ (σ : DS) (l2 : Int32) (l3 : Int32), k_21 σ l2 l3 = some (.inl v9, σ9) → J p l e room_1 s m args below meth c g A 16 cells slots Q 21 [(0, .ref b), (1, .ref (ad 0)), (2, .int l2), (3, .int l3)] [] (dkh g ad rst σ)) (cells slots : Nat) (hcl : cells + (n * 4419 + 8029) ≤ 640334) (hsl : slots + (n * 26514 + 48174) ≤ 7169287) (σ : DS) (l2 : Int32) (l3 : Int32) (l5 : Int32) (l6 : Int32) (l7 : Int32) (l8 : Int32) (l9 : Int64) (l13 : Int32) (l14 : Int32) (H : B_L_law_369 L xs k_21 σ l2 l3 l5 l6 l7 l8 l9 l13 l14 = some (.inl v9, σ9)) : J p l e room_1 s m args below meth c g A 16 cells slots Q 369 [(0, .ref b), (1, .ref (ad 0)), (2, .int l2), (3, .int l3), (5, .int l5), (6, .int l6), (7, .int l7), (8, .int l8), (9, .long l9), (13, .int l13), (14, .int l14)] [] (dkh g ad rst σ) := by
  unfold B_L_law_369 at H
  refine J.widen (k := cells + 0) (n := slots + 0) (Nat.le_refl _) (Nat.le_refl _) ?_
  refine J.iload C dL_law_369 rfl ?_
  refine J.bipush C (60) dL_law_371 (by decide) ?_
  refine J.idiv C dL_law_373 (by decide) ?_
  refine J.iload C dL_law_374 rfl ?_
  refine J.iremL C dL_law_376 H (fun H => ?_)
  refine J.goto (tgt := 406) C dL_law_377 (by decide) ?_
  refine J.lw (lv' := [(0, .ref b), (1, .ref (ad 0)), (2, .int l2), (3, .int l3), (5, .int l5), (7, .int l7), (8, .int l8), (9, .long l9), (13, .int l13), (14, .int l14)]) ⟨rfl, rfl, rfl, rfl, rfl, rfl, rfl, rfl, rfl, rfl, trivial⟩ ?_
  exact bl_L_law_406 hl C hL hX hbA hT hend n k_21 hk_21 _ _ (ceB hcl rfl) (ceB hsl rfl) _ _ _ _ _ _ _ _ _ _ H
def B_L_law_353 (L : Nat) (xs : Nat → Int32)  (k_21 : DS → Int32 → Int32 → Res DS Int32) (σ : DS) (l2 : Int32) (l3 : Int32) (l5 : Int32) (l6 : Int32) (l7 : Int32) (l8 : Int32) (l9 : Int64) (l13 : Int32) (t0 : Int32) : Res DS Int32 := (lt t0 fun z353 => (if l13 = (6 : Int32) then (B_L_law_369 L xs k_21 σ l2 l3 l5 l6 l7 l8 l9 l13 z353) else (if l13 = (12 : Int32) then (B_L_law_369 L xs k_21 σ l2 l3 l5 l6 l7 l8 l9 l13 z353) else (if l13 = (7 : Int32) then (gc (¬ l8 = 0) (B_L_law_406 L xs k_21 σ l2 l3 l5 l7 l8 l9 l13 z353 (irm (l5 / (60 : Int32)) l8))) else (gc (¬ l7 = 0) (B_L_law_406 L xs k_21 σ l2 l3 l5 l7 l8 l9 l13 z353 (irm (l5 / (60 : Int32)) l7)))))))
set_option maxRecDepth 100000 in
set_option maxHeartbeats 4000000 in
theorem bl_L_law_353 {l : Launch} (hl : l.stackTraces = false) {p : Program} {e : Env} {s : State} {m : MethodId} {args : Array Value} {below : List Frame} {meth : Method} {c : Code} {g : Gy} {ad : Nat → Nat} {rst : va_W} {A : Nat → Prop} {Q : State → Prop} {b L tA : Nat} {xs : Nat → Int32} (C : Cx p l s m args meth c g A RL cL_law 16) (hL : L ≤ 260) (hX : va_X b L xs s s.heap) (hbA : ¬ A b) (hT : TX tA A s) {v9 : Int32} {σ9 : DS} (hend : ∀ (cells slots : Nat), cells ≤ 640334 → slots ≤ 7169287 → ∀ (pc : Nat) (lv : List (Nat × Value)) (v : Int32) (σ : DS), decode cL_law pc = .ok (.ireturn, 1) → some ((.inl v, σ) : (Int32 ⊕ String) × DS) = some (.inl v9, σ9) → J p l e room_1 s m args below meth c g A 16 cells slots Q pc lv [.int v] (dkh g ad rst σ)) (n : Nat) (k_21 : DS → Int32 → Int32 → Res DS Int32) (hk_21 : ∀ (cells slots : Nat), cells + (n * 4419 + 4583) ≤ 640334 → slots + (n * 26514 + 27498) ≤ 7169287 → ∀ (σ : DS) (l2 : Int32) (l3 : Int32), k_21 σ l2 l3 = some (.inl v9, σ9) → J p l e room_1 s m args below meth c g A 16 cells slots Q 21 [(0, .ref b), (1, .ref (ad 0)), (2, .int l2), (3, .int l3)] [] (dkh g ad rst σ)) (cells slots : Nat) (hcl : cells + (n * 4419 + 8029) ≤ 640334) (hsl : slots + (n * 26514 + 48174) ≤ 7169287) (σ : DS) (l2 : Int32) (l3 : Int32) (l5 : Int32) (l6 : Int32) (l7 : Int32) (l8 : Int32) (l9 : Int64) (l13 : Int32) (t0 : Int32) (H : B_L_law_353 L xs k_21 σ l2 l3 l5 l6 l7 l8 l9 l13 t0 = some (.inl v9, σ9)) : J p l e room_1 s m args below meth c g A 16 cells slots Q 353 [(0, .ref b), (1, .ref (ad 0)), (2, .int l2), (3, .int l3), (5, .int l5), (6, .int l6), (7, .int l7), (8, .int l8), (9, .long l9), (13, .int l13)] [.int t0] (dkh g ad rst σ) := by
  unfold B_L_law_353 at H
  refine J.widen (k := cells + 0) (n := slots + 0) (Nat.le_refl _) (Nat.le_refl _) ?_
  refine J.istoreL C dL_law_353 (by decide) H (fun z353 H => ?_)
  refine J.iload C dL_law_355 rfl ?_
  refine J.bipush C (6) dL_law_357 (by decide) ?_
  refine J.icmp_eqL (tgt := 369) C dL_law_359 (by decide) H (fun c_359 H => ?_) (fun c_359 H => ?_)
  · refine J.lw (lv' := [(0, .ref b), (1, .ref (ad 0)), (2, .int l2), (3, .int l3), (5, .int l5), (6, .int l6), (7, .int l7), (8, .int l8), (9, .long l9), (13, .int l13), (14, .int z353)]) ⟨rfl, rfl, rfl, rfl, rfl, rfl, rfl, rfl, rfl, rfl, rfl, trivial⟩ ?_
    exact bl_L_law_369 hl C hL hX hbA hT hend n k_21 hk_21 _ _ (ceB hcl rfl) (ceB hsl rfl) _ _ _ _ _ _ _ _ _ _ H
  · refine J.iload C dL_law_362 rfl ?_
    refine J.bipush C (12) dL_law_364 (by decide) ?_
    refine J.icmp_neL (tgt := 380) C dL_law_366 (by decide) H (fun c_366 H => ?_) (fun c_366 H => ?_)
    · refine J.iload C dL_law_380 rfl ?_
      refine J.bipush C (7) dL_law_382 (by decide) ?_
      refine J.icmp_neL (tgt := 398) C dL_law_384 (by decide) H (fun c_384 H => ?_) (fun c_384 H => ?_)
      · refine J.iload C dL_law_398 rfl ?_
        refine J.bipush C (60) dL_law_400 (by decide) ?_
        refine J.idiv C dL_law_402 (by decide) ?_
        refine J.iload C dL_law_403 rfl ?_
        refine J.iremL C dL_law_405 H (fun H => ?_)
        refine J.lw (lv' := [(0, .ref b), (1, .ref (ad 0)), (2, .int l2), (3, .int l3), (5, .int l5), (7, .int l7), (8, .int l8), (9, .long l9), (13, .int l13), (14, .int z353)]) ⟨rfl, rfl, rfl, rfl, rfl, rfl, rfl, rfl, rfl, rfl, trivial⟩ ?_
        exact bl_L_law_406 hl C hL hX hbA hT hend n k_21 hk_21 _ _ (ceB hcl rfl) (ceB hsl rfl) _ _ _ _ _ _ _ _ _ _ H
      · refine J.iload C dL_law_387 rfl ?_
        refine J.bipush C (60) dL_law_389 (by decide) ?_
        refine J.idiv C dL_law_391 (by decide) ?_
        refine J.iload C dL_law_392 rfl ?_
        refine J.iremL C dL_law_394 H (fun H => ?_)
        refine J.goto (tgt := 406) C dL_law_395 (by decide) ?_
        refine J.lw (lv' := [(0, .ref b), (1, .ref (ad 0)), (2, .int l2), (3, .int l3), (5, .int l5), (7, .int l7), (8, .int l8), (9, .long l9), (13, .int l13), (14, .int z353)]) ⟨rfl, rfl, rfl, rfl, rfl, rfl, rfl, rfl, rfl, rfl, trivial⟩ ?_
        exact bl_L_law_406 hl C hL hX hbA hT hend n k_21 hk_21 _ _ (ceB hcl rfl) (ceB hsl rfl) _ _ _ _ _ _ _ _ _ _ H
    · refine J.lw (lv' := [(0, .ref b), (1, .ref (ad 0)), (2, .int l2), (3, .int l3), (5, .int l5), (6, .int l6), (7, .int l7), (8, .int l8), (9, .long l9), (13, .int l13), (14, .int z353)]) ⟨rfl, rfl, rfl, rfl, rfl, rfl, rfl, rfl, rfl, rfl, rfl, trivial⟩ ?_
      exact bl_L_law_369 hl C hL hX hbA hT hend n k_21 hk_21 _ _ (ceB hcl rfl) (ceB hsl rfl) _ _ _ _ _ _ _ _ _ _ H
def B_L_law_316 (L : Nat) (xs : Nat → Int32)  (k_21 : DS → Int32 → Int32 → Res DS Int32) (σ : DS) (l2 : Int32) (l3 : Int32) (l5 : Int32) (l6 : Int32) (l7 : Int32) (l8 : Int32) (l9 : Int64) (l13 : Int32) : Res DS Int32 := (gc (¬ l8 = 0) (B_L_law_353 L xs k_21 σ l2 l3 l5 l6 l7 l8 l9 l13 ((l8 - (1 : Int32)) - (irm l5 l8))))
set_option maxRecDepth 100000 in
set_option maxHeartbeats 4000000 in
theorem bl_L_law_316 {l : Launch} (hl : l.stackTraces = false) {p : Program} {e : Env} {s : State} {m : MethodId} {args : Array Value} {below : List Frame} {meth : Method} {c : Code} {g : Gy} {ad : Nat → Nat} {rst : va_W} {A : Nat → Prop} {Q : State → Prop} {b L tA : Nat} {xs : Nat → Int32} (C : Cx p l s m args meth c g A RL cL_law 16) (hL : L ≤ 260) (hX : va_X b L xs s s.heap) (hbA : ¬ A b) (hT : TX tA A s) {v9 : Int32} {σ9 : DS} (hend : ∀ (cells slots : Nat), cells ≤ 640334 → slots ≤ 7169287 → ∀ (pc : Nat) (lv : List (Nat × Value)) (v : Int32) (σ : DS), decode cL_law pc = .ok (.ireturn, 1) → some ((.inl v, σ) : (Int32 ⊕ String) × DS) = some (.inl v9, σ9) → J p l e room_1 s m args below meth c g A 16 cells slots Q pc lv [.int v] (dkh g ad rst σ)) (n : Nat) (k_21 : DS → Int32 → Int32 → Res DS Int32) (hk_21 : ∀ (cells slots : Nat), cells + (n * 4419 + 4583) ≤ 640334 → slots + (n * 26514 + 27498) ≤ 7169287 → ∀ (σ : DS) (l2 : Int32) (l3 : Int32), k_21 σ l2 l3 = some (.inl v9, σ9) → J p l e room_1 s m args below meth c g A 16 cells slots Q 21 [(0, .ref b), (1, .ref (ad 0)), (2, .int l2), (3, .int l3)] [] (dkh g ad rst σ)) (cells slots : Nat) (hcl : cells + (n * 4419 + 8029) ≤ 640334) (hsl : slots + (n * 26514 + 48174) ≤ 7169287) (σ : DS) (l2 : Int32) (l3 : Int32) (l5 : Int32) (l6 : Int32) (l7 : Int32) (l8 : Int32) (l9 : Int64) (l13 : Int32) (H : B_L_law_316 L xs k_21 σ l2 l3 l5 l6 l7 l8 l9 l13 = some (.inl v9, σ9)) : J p l e room_1 s m args below meth c g A 16 cells slots Q 316 [(0, .ref b), (1, .ref (ad 0)), (2, .int l2), (3, .int l3), (5, .int l5), (6, .int l6), (7, .int l7), (8, .int l8), (9, .long l9), (13, .int l13)] [] (dkh g ad rst σ) := by
  unfold B_L_law_316 at H
  refine J.widen (k := cells + 0) (n := slots + 0) (Nat.le_refl _) (Nat.le_refl _) ?_
  refine J.iload C dL_law_316 rfl ?_
  refine J.iconst C (1) dL_law_318 (by decide) ?_
  refine J.isub C dL_law_319 ?_
  refine J.iload C dL_law_320 rfl ?_
  refine J.iload C dL_law_322 rfl ?_
  refine J.iremL C dL_law_324 H (fun H => ?_)
  refine J.isub C dL_law_325 ?_
  refine J.goto (tgt := 353) C dL_law_326 (by decide) ?_
  refine J.lw (lv' := [(0, .ref b), (1, .ref (ad 0)), (2, .int l2), (3, .int l3), (5, .int l5), (6, .int l6), (7, .int l7), (8, .int l8), (9, .long l9), (13, .int l13)]) ⟨rfl, rfl, rfl, rfl, rfl, rfl, rfl, rfl, rfl, rfl, trivial⟩ ?_
  exact bl_L_law_353 hl C hL hX hbA hT hend n k_21 hk_21 _ _ (ceB hcl rfl) (ceB hsl rfl) _ _ _ _ _ _ _ _ _ _ H
def B_L_law_286 (L : Nat) (xs : Nat → Int32)  (k_21 : DS → Int32 → Int32 → Res DS Int32) (σ : DS) (l2 : Int32) (l3 : Int32) (l5 : Int32) (l6 : Int32) (l7 : Int32) (l8 : Int32) (l9 : Int64) (t0 : Int32) : Res DS Int32 := (lt t0 fun z286 => (if (2 : Int32) ≤ z286 then (if z286 = (8 : Int32) then (B_L_law_316 L xs k_21 σ l2 l3 l5 l6 l7 l8 l9 z286) else (if z286 = (10 : Int32) then (B_L_law_316 L xs k_21 σ l2 l3 l5 l6 l7 l8 l9 z286) else (if z286 = (15 : Int32) then (B_L_law_353 L xs k_21 σ l2 l3 l5 l6 l7 l8 l9 z286 (irm l5 (3 : Int32))) else (gc (¬ l7 = 0) (B_L_law_353 L xs k_21 σ l2 l3 l5 l6 l7 l8 l9 z286 ((l7 - (1 : Int32)) - (irm l5 l7))))))) else (gc (¬ l6 = 0) (B_L_law_353 L xs k_21 σ l2 l3 l5 l6 l7 l8 l9 z286 (irm l5 l6)))))
set_option maxRecDepth 100000 in
set_option maxHeartbeats 4000000 in
theorem bl_L_law_286 {l : Launch} (hl : l.stackTraces = false) {p : Program} {e : Env} {s : State} {m : MethodId} {args : Array Value} {below : List Frame} {meth : Method} {c : Code} {g : Gy} {ad : Nat → Nat} {rst : va_W} {A : Nat → Prop} {Q : State → Prop} {b L tA : Nat} {xs : Nat → Int32} (C : Cx p l s m args meth c g A RL cL_law 16) (hL : L ≤ 260) (hX : va_X b L xs s s.heap) (hbA : ¬ A b) (hT : TX tA A s) {v9 : Int32} {σ9 : DS} (hend : ∀ (cells slots : Nat), cells ≤ 640334 → slots ≤ 7169287 → ∀ (pc : Nat) (lv : List (Nat × Value)) (v : Int32) (σ : DS), decode cL_law pc = .ok (.ireturn, 1) → some ((.inl v, σ) : (Int32 ⊕ String) × DS) = some (.inl v9, σ9) → J p l e room_1 s m args below meth c g A 16 cells slots Q pc lv [.int v] (dkh g ad rst σ)) (n : Nat) (k_21 : DS → Int32 → Int32 → Res DS Int32) (hk_21 : ∀ (cells slots : Nat), cells + (n * 4419 + 4583) ≤ 640334 → slots + (n * 26514 + 27498) ≤ 7169287 → ∀ (σ : DS) (l2 : Int32) (l3 : Int32), k_21 σ l2 l3 = some (.inl v9, σ9) → J p l e room_1 s m args below meth c g A 16 cells slots Q 21 [(0, .ref b), (1, .ref (ad 0)), (2, .int l2), (3, .int l3)] [] (dkh g ad rst σ)) (cells slots : Nat) (hcl : cells + (n * 4419 + 8029) ≤ 640334) (hsl : slots + (n * 26514 + 48174) ≤ 7169287) (σ : DS) (l2 : Int32) (l3 : Int32) (l5 : Int32) (l6 : Int32) (l7 : Int32) (l8 : Int32) (l9 : Int64) (t0 : Int32) (H : B_L_law_286 L xs k_21 σ l2 l3 l5 l6 l7 l8 l9 t0 = some (.inl v9, σ9)) : J p l e room_1 s m args below meth c g A 16 cells slots Q 286 [(0, .ref b), (1, .ref (ad 0)), (2, .int l2), (3, .int l3), (5, .int l5), (6, .int l6), (7, .int l7), (8, .int l8), (9, .long l9)] [.int t0] (dkh g ad rst σ) := by
  unfold B_L_law_286 at H
  refine J.widen (k := cells + 0) (n := slots + 0) (Nat.le_refl _) (Nat.le_refl _) ?_
  refine J.istoreL C dL_law_286 (by decide) H (fun z286 H => ?_)
  refine J.iload C dL_law_288 rfl ?_
  refine J.iconst C (2) dL_law_290 (by decide) ?_
  refine J.icmp_geL (tgt := 302) C dL_law_291 (by decide) H (fun c_291 H => ?_) (fun c_291 H => ?_)
  · refine J.iload C dL_law_302 rfl ?_
    refine J.bipush C (8) dL_law_304 (by decide) ?_
    refine J.icmp_eqL (tgt := 316) C dL_law_306 (by decide) H (fun c_306 H => ?_) (fun c_306 H => ?_)
    · refine J.lw (lv' := [(0, .ref b), (1, .ref (ad 0)), (2, .int l2), (3, .int l3), (5, .int l5), (6, .int l6), (7, .int l7), (8, .int l8), (9, .long l9), (13, .int z286)]) ⟨rfl, rfl, rfl, rfl, rfl, rfl, rfl, rfl, rfl, rfl, trivial⟩ ?_
      exact bl_L_law_316 hl C hL hX hbA hT hend n k_21 hk_21 _ _ (ceB hcl rfl) (ceB hsl rfl) _ _ _ _ _ _ _ _ _ H
    · refine J.iload C dL_law_309 rfl ?_
      refine J.bipush C (10) dL_law_311 (by decide) ?_
      refine J.icmp_neL (tgt := 329) C dL_law_313 (by decide) H (fun c_313 H => ?_) (fun c_313 H => ?_)
      · refine J.iload C dL_law_329 rfl ?_
        refine J.bipush C (15) dL_law_331 (by decide) ?_
        refine J.icmp_neL (tgt := 343) C dL_law_333 (by decide) H (fun c_333 H => ?_) (fun c_333 H => ?_)
        · refine J.iload C dL_law_343 rfl ?_
          refine J.iconst C (1) dL_law_345 (by decide) ?_
          refine J.isub C dL_law_346 ?_
          refine J.iload C dL_law_347 rfl ?_
          refine J.iload C dL_law_349 rfl ?_
          refine J.iremL C dL_law_351 H (fun H => ?_)
          refine J.isub C dL_law_352 ?_
          refine J.lw (lv' := [(0, .ref b), (1, .ref (ad 0)), (2, .int l2), (3, .int l3), (5, .int l5), (6, .int l6), (7, .int l7), (8, .int l8), (9, .long l9), (13, .int z286)]) ⟨rfl, rfl, rfl, rfl, rfl, rfl, rfl, rfl, rfl, rfl, trivial⟩ ?_
          exact bl_L_law_353 hl C hL hX hbA hT hend n k_21 hk_21 _ _ (ceB hcl rfl) (ceB hsl rfl) _ _ _ _ _ _ _ _ _ _ H
        · refine J.iload C dL_law_336 rfl ?_
          refine J.iconst C (3) dL_law_338 (by decide) ?_
          refine J.irem C dL_law_339 (by decide) ?_
          refine J.goto (tgt := 353) C dL_law_340 (by decide) ?_
          refine J.lw (lv' := [(0, .ref b), (1, .ref (ad 0)), (2, .int l2), (3, .int l3), (5, .int l5), (6, .int l6), (7, .int l7), (8, .int l8), (9, .long l9), (13, .int z286)]) ⟨rfl, rfl, rfl, rfl, rfl, rfl, rfl, rfl, rfl, rfl, trivial⟩ ?_
          exact bl_L_law_353 hl C hL hX hbA hT hend n k_21 hk_21 _ _ (ceB hcl rfl) (ceB hsl rfl) _ _ _ _ _ _ _ _ _ _ H
      · refine J.lw (lv' := [(0, .ref b), (1, .ref (ad 0)), (2, .int l2), (3, .int l3), (5, .int l5), (6, .int l6), (7, .int l7), (8, .int l8), (9, .long l9), (13, .int z286)]) ⟨rfl, rfl, rfl, rfl, rfl, rfl, rfl, rfl, rfl, rfl, trivial⟩ ?_
        exact bl_L_law_316 hl C hL hX hbA hT hend n k_21 hk_21 _ _ (ceB hcl rfl) (ceB hsl rfl) _ _ _ _ _ _ _ _ _ H
  · refine J.iload C dL_law_294 rfl ?_
    refine J.iload C dL_law_296 rfl ?_
    refine J.iremL C dL_law_298 H (fun H => ?_)
    refine J.goto (tgt := 353) C dL_law_299 (by decide) ?_
    refine J.lw (lv' := [(0, .ref b), (1, .ref (ad 0)), (2, .int l2), (3, .int l3), (5, .int l5), (6, .int l6), (7, .int l7), (8, .int l8), (9, .long l9), (13, .int z286)]) ⟨rfl, rfl, rfl, rfl, rfl, rfl, rfl, rfl, rfl, rfl, trivial⟩ ?_
    exact bl_L_law_353 hl C hL hX hbA hT hend n k_21 hk_21 _ _ (ceB hcl rfl) (ceB hsl rfl) _ _ _ _ _ _ _ _ _ _ H
def B_L_law_246 (L : Nat) (xs : Nat → Int32)  (k_21 : DS → Int32 → Int32 → Res DS Int32) (σ : DS) (l2 : Int32) (l3 : Int32) (l5 : Int32) (l6 : Int32) (l7 : Int32) (l8 : Int32) (l9 : Int64) (l12 : Int32) : Res DS Int32 := (if (22 : Int32) ≤ l12 then (if (26 : Int32) ≤ l12 then (if (30 : Int32) ≤ l12 then (B_L_law_286 L xs k_21 σ l2 l3 l5 l6 l7 l8 l9 ((3 : Int32) + (irm l12 (13 : Int32)))) else (B_L_law_286 L xs k_21 σ l2 l3 l5 l6 l7 l8 l9 (2 : Int32))) else (B_L_law_286 L xs k_21 σ l2 l3 l5 l6 l7 l8 l9 (1 : Int32))) else (B_L_law_286 L xs k_21 σ l2 l3 l5 l6 l7 l8 l9 (0 : Int32)))
set_option maxRecDepth 100000 in
set_option maxHeartbeats 4000000 in
theorem bl_L_law_246 {l : Launch} (hl : l.stackTraces = false) {p : Program} {e : Env} {s : State} {m : MethodId} {args : Array Value} {below : List Frame} {meth : Method} {c : Code} {g : Gy} {ad : Nat → Nat} {rst : va_W} {A : Nat → Prop} {Q : State → Prop} {b L tA : Nat} {xs : Nat → Int32} (C : Cx p l s m args meth c g A RL cL_law 16) (hL : L ≤ 260) (hX : va_X b L xs s s.heap) (hbA : ¬ A b) (hT : TX tA A s) {v9 : Int32} {σ9 : DS} (hend : ∀ (cells slots : Nat), cells ≤ 640334 → slots ≤ 7169287 → ∀ (pc : Nat) (lv : List (Nat × Value)) (v : Int32) (σ : DS), decode cL_law pc = .ok (.ireturn, 1) → some ((.inl v, σ) : (Int32 ⊕ String) × DS) = some (.inl v9, σ9) → J p l e room_1 s m args below meth c g A 16 cells slots Q pc lv [.int v] (dkh g ad rst σ)) (n : Nat) (k_21 : DS → Int32 → Int32 → Res DS Int32) (hk_21 : ∀ (cells slots : Nat), cells + (n * 4419 + 4583) ≤ 640334 → slots + (n * 26514 + 27498) ≤ 7169287 → ∀ (σ : DS) (l2 : Int32) (l3 : Int32), k_21 σ l2 l3 = some (.inl v9, σ9) → J p l e room_1 s m args below meth c g A 16 cells slots Q 21 [(0, .ref b), (1, .ref (ad 0)), (2, .int l2), (3, .int l3)] [] (dkh g ad rst σ)) (cells slots : Nat) (hcl : cells + (n * 4419 + 8029) ≤ 640334) (hsl : slots + (n * 26514 + 48174) ≤ 7169287) (σ : DS) (l2 : Int32) (l3 : Int32) (l5 : Int32) (l6 : Int32) (l7 : Int32) (l8 : Int32) (l9 : Int64) (l12 : Int32) (H : B_L_law_246 L xs k_21 σ l2 l3 l5 l6 l7 l8 l9 l12 = some (.inl v9, σ9)) : J p l e room_1 s m args below meth c g A 16 cells slots Q 246 [(0, .ref b), (1, .ref (ad 0)), (2, .int l2), (3, .int l3), (5, .int l5), (6, .int l6), (7, .int l7), (8, .int l8), (9, .long l9), (12, .int l12)] [] (dkh g ad rst σ) := by
  unfold B_L_law_246 at H
  refine J.widen (k := cells + 0) (n := slots + 0) (Nat.le_refl _) (Nat.le_refl _) ?_
  refine J.iload C dL_law_246 rfl ?_
  refine J.bipush C (22) dL_law_248 (by decide) ?_
  refine J.icmp_geL (tgt := 257) C dL_law_250 (by decide) H (fun c_250 H => ?_) (fun c_250 H => ?_)
  · refine J.iload C dL_law_257 rfl ?_
    refine J.bipush C (26) dL_law_259 (by decide) ?_
    refine J.icmp_geL (tgt := 268) C dL_law_261 (by decide) H (fun c_261 H => ?_) (fun c_261 H => ?_)
    · refine J.iload C dL_law_268 rfl ?_
      refine J.bipush C (30) dL_law_270 (by decide) ?_
      refine J.icmp_geL (tgt := 279) C dL_law_272 (by decide) H (fun c_272 H => ?_) (fun c_272 H => ?_)
      · refine J.iconst C (3) dL_law_279 (by decide) ?_
        refine J.iload C dL_law_280 rfl ?_
        refine J.bipush C (13) dL_law_282 (by decide) ?_
        refine J.irem C dL_law_284 (by decide) ?_
        refine J.iadd C dL_law_285 ?_
        refine J.lw (lv' := [(0, .ref b), (1, .ref (ad 0)), (2, .int l2), (3, .int l3), (5, .int l5), (6, .int l6), (7, .int l7), (8, .int l8), (9, .long l9)]) ⟨rfl, rfl, rfl, rfl, rfl, rfl, rfl, rfl, rfl, trivial⟩ ?_
        exact bl_L_law_286 hl C hL hX hbA hT hend n k_21 hk_21 _ _ (ceB hcl rfl) (ceB hsl rfl) _ _ _ _ _ _ _ _ _ H
      · refine J.iconst C (2) dL_law_275 (by decide) ?_
        refine J.goto (tgt := 286) C dL_law_276 (by decide) ?_
        refine J.lw (lv' := [(0, .ref b), (1, .ref (ad 0)), (2, .int l2), (3, .int l3), (5, .int l5), (6, .int l6), (7, .int l7), (8, .int l8), (9, .long l9)]) ⟨rfl, rfl, rfl, rfl, rfl, rfl, rfl, rfl, rfl, trivial⟩ ?_
        exact bl_L_law_286 hl C hL hX hbA hT hend n k_21 hk_21 _ _ (ceB hcl rfl) (ceB hsl rfl) _ _ _ _ _ _ _ _ _ H
    · refine J.iconst C (1) dL_law_264 (by decide) ?_
      refine J.goto (tgt := 286) C dL_law_265 (by decide) ?_
      refine J.lw (lv' := [(0, .ref b), (1, .ref (ad 0)), (2, .int l2), (3, .int l3), (5, .int l5), (6, .int l6), (7, .int l7), (8, .int l8), (9, .long l9)]) ⟨rfl, rfl, rfl, rfl, rfl, rfl, rfl, rfl, rfl, trivial⟩ ?_
      exact bl_L_law_286 hl C hL hX hbA hT hend n k_21 hk_21 _ _ (ceB hcl rfl) (ceB hsl rfl) _ _ _ _ _ _ _ _ _ H
  · refine J.iconst C (0) dL_law_253 (by decide) ?_
    refine J.goto (tgt := 286) C dL_law_254 (by decide) ?_
    refine J.lw (lv' := [(0, .ref b), (1, .ref (ad 0)), (2, .int l2), (3, .int l3), (5, .int l5), (6, .int l6), (7, .int l7), (8, .int l8), (9, .long l9)]) ⟨rfl, rfl, rfl, rfl, rfl, rfl, rfl, rfl, rfl, trivial⟩ ?_
    exact bl_L_law_286 hl C hL hX hbA hT hend n k_21 hk_21 _ _ (ceB hcl rfl) (ceB hsl rfl) _ _ _ _ _ _ _ _ _ H
def B_L_law_230 (L : Nat) (xs : Nat → Int32)  (k_21 : DS → Int32 → Int32 → Res DS Int32) (σ : DS) (l2 : Int32) (l3 : Int32) (l5 : Int32) (l6 : Int32) (l7 : Int32) (l8 : Int32) (l9 : Int64) (l12 : Int32) : Res DS Int32 := (if (irm l5 (5 : Int32)) = 0 then (bd (P_X6_newProof σ ) fun r238 s238 => (lt r238 fun z241 => (B_L_law_490 L xs k_21 s238 l2 l3 l9 z241))) else (B_L_law_246 L xs k_21 σ l2 l3 l5 l6 l7 l8 l9 l12))
set_option maxRecDepth 100000 in
set_option maxHeartbeats 4000000 in
theorem bl_L_law_230 {l : Launch} (hl : l.stackTraces = false) {p : Program} {e : Env} {s : State} {m : MethodId} {args : Array Value} {below : List Frame} {meth : Method} {c : Code} {g : Gy} {ad : Nat → Nat} {rst : va_W} {A : Nat → Prop} {Q : State → Prop} {b L tA : Nat} {xs : Nat → Int32} (C : Cx p l s m args meth c g A RL cL_law 16) (hL : L ≤ 260) (hX : va_X b L xs s s.heap) (hbA : ¬ A b) (hT : TX tA A s) {v9 : Int32} {σ9 : DS} (hend : ∀ (cells slots : Nat), cells ≤ 640334 → slots ≤ 7169287 → ∀ (pc : Nat) (lv : List (Nat × Value)) (v : Int32) (σ : DS), decode cL_law pc = .ok (.ireturn, 1) → some ((.inl v, σ) : (Int32 ⊕ String) × DS) = some (.inl v9, σ9) → J p l e room_1 s m args below meth c g A 16 cells slots Q pc lv [.int v] (dkh g ad rst σ)) (n : Nat) (k_21 : DS → Int32 → Int32 → Res DS Int32) (hk_21 : ∀ (cells slots : Nat), cells + (n * 4419 + 4583) ≤ 640334 → slots + (n * 26514 + 27498) ≤ 7169287 → ∀ (σ : DS) (l2 : Int32) (l3 : Int32), k_21 σ l2 l3 = some (.inl v9, σ9) → J p l e room_1 s m args below meth c g A 16 cells slots Q 21 [(0, .ref b), (1, .ref (ad 0)), (2, .int l2), (3, .int l3)] [] (dkh g ad rst σ)) (cells slots : Nat) (hcl : cells + (n * 4419 + 8029) ≤ 640334) (hsl : slots + (n * 26514 + 48174) ≤ 7169287) (σ : DS) (l2 : Int32) (l3 : Int32) (l5 : Int32) (l6 : Int32) (l7 : Int32) (l8 : Int32) (l9 : Int64) (l12 : Int32) (H : B_L_law_230 L xs k_21 σ l2 l3 l5 l6 l7 l8 l9 l12 = some (.inl v9, σ9)) : J p l e room_1 s m args below meth c g A 16 cells slots Q 230 [(0, .ref b), (1, .ref (ad 0)), (2, .int l2), (3, .int l3), (5, .int l5), (6, .int l6), (7, .int l7), (8, .int l8), (9, .long l9), (12, .int l12)] [] (dkh g ad rst σ) := by
  unfold B_L_law_230 at H
  refine J.widen (k := cells + 0) (n := slots + 0) (Nat.le_refl _) (Nat.le_refl _) ?_
  refine J.iload C dL_law_230 rfl ?_
  refine J.iconst C (5) dL_law_232 (by decide) ?_
  refine J.irem C dL_law_233 (by decide) ?_
  refine J.if_neL (tgt := 246) C dL_law_234 (by decide) H (fun c_234 H => ?_) (fun c_234 H => ?_)
  · refine J.lw (lv' := [(0, .ref b), (1, .ref (ad 0)), (2, .int l2), (3, .int l3), (5, .int l5), (6, .int l6), (7, .int l7), (8, .int l8), (9, .long l9), (12, .int l12)]) ⟨rfl, rfl, rfl, rfl, rfl, rfl, rfl, rfl, rfl, rfl, trivial⟩ ?_
    exact bl_L_law_246 hl C hL hX hbA hT hend n k_21 hk_21 _ _ (ceB hcl rfl) (ceB hsl rfl) _ _ _ _ _ _ _ _ _ H
  · refine J.aload_n (i := 1) C dL_law_237 rfl rfl ?_
    refine J.callV9 (hp := (dkh g ad rst)) C rfl (sp_X6_newProof hl ) rfl kMl_L_262 mdX6_newProof ⟨(Nat.le_of_ble_eq_true rfl), (Nat.le_of_ble_eq_true rfl)⟩ dk_0 rfl rfl (Nat.le_of_ble_eq_true rfl) dL_law_238 ⟨ceA hcl rfl, ceA hsl rfl⟩ H (fun E z e9 => by cases e9) (fun r238 s238 H => ?_)
    refine J.widen (Nat.le_of_eq (Nat.add_assoc ..)) (Nat.le_of_eq (Nat.add_assoc ..)) ?_
    refine J.istoreL C dL_law_241 (by decide) H (fun z241 H => ?_)
    refine J.goto (tgt := 490) C dL_law_243 (by decide) ?_
    refine J.lw (lv' := [(0, .ref b), (1, .ref (ad 0)), (2, .int l2), (3, .int l3), (9, .long l9), (11, .int z241)]) ⟨rfl, rfl, rfl, rfl, rfl, rfl, trivial⟩ ?_
    exact bl_L_law_490 hl C hL hX hbA hT hend n k_21 hk_21 _ _ (ceB hcl rfl) (ceB hsl rfl) _ _ _ _ _ H
def B_L_law_168 (L : Nat) (xs : Nat → Int32)  (k_21 : DS → Int32 → Int32 → Res DS Int32) (σ : DS) (l2 : Int32) (l3 : Int32) (l5 : Int32) (l6 : Int32) (l7 : Int32) (l8 : Int32) (l9 : Int64) (l11 : Int32) (l12 : Int32) : Res DS Int32 := (if (16 : Int32) ≤ l12 then (if (17 : Int32) ≤ l12 then (if (18 : Int32) ≤ l12 then (B_L_law_246 L xs k_21 σ l2 l3 l5 l6 l7 l8 l9 l12) else (B_L_law_230 L xs k_21 σ l2 l3 l5 l6 l7 l8 l9 l12)) else (B_L_law_202 L xs k_21 σ l2 l3 l5 l6 l9 l11)) else (gc (¬ l6 = 0) (bd (P_L_binds σ (irm l5 (5 : Int32)) (irm (l5 / (5 : Int32)) l6)) fun r187 s187 => (lt r187 fun z190 => (B_L_law_490 L xs k_21 s187 l2 l3 l9 z190)))))
set_option maxRecDepth 100000 in
set_option maxHeartbeats 4000000 in
theorem bl_L_law_168 {l : Launch} (hl : l.stackTraces = false) {p : Program} {e : Env} {s : State} {m : MethodId} {args : Array Value} {below : List Frame} {meth : Method} {c : Code} {g : Gy} {ad : Nat → Nat} {rst : va_W} {A : Nat → Prop} {Q : State → Prop} {b L tA : Nat} {xs : Nat → Int32} (C : Cx p l s m args meth c g A RL cL_law 16) (hL : L ≤ 260) (hX : va_X b L xs s s.heap) (hbA : ¬ A b) (hT : TX tA A s) {v9 : Int32} {σ9 : DS} (hend : ∀ (cells slots : Nat), cells ≤ 640334 → slots ≤ 7169287 → ∀ (pc : Nat) (lv : List (Nat × Value)) (v : Int32) (σ : DS), decode cL_law pc = .ok (.ireturn, 1) → some ((.inl v, σ) : (Int32 ⊕ String) × DS) = some (.inl v9, σ9) → J p l e room_1 s m args below meth c g A 16 cells slots Q pc lv [.int v] (dkh g ad rst σ)) (n : Nat) (k_21 : DS → Int32 → Int32 → Res DS Int32) (hk_21 : ∀ (cells slots : Nat), cells + (n * 4419 + 4583) ≤ 640334 → slots + (n * 26514 + 27498) ≤ 7169287 → ∀ (σ : DS) (l2 : Int32) (l3 : Int32), k_21 σ l2 l3 = some (.inl v9, σ9) → J p l e room_1 s m args below meth c g A 16 cells slots Q 21 [(0, .ref b), (1, .ref (ad 0)), (2, .int l2), (3, .int l3)] [] (dkh g ad rst σ)) (cells slots : Nat) (hcl : cells + (n * 4419 + 8031) ≤ 640334) (hsl : slots + (n * 26514 + 48186) ≤ 7169287) (σ : DS) (l2 : Int32) (l3 : Int32) (l5 : Int32) (l6 : Int32) (l7 : Int32) (l8 : Int32) (l9 : Int64) (l11 : Int32) (l12 : Int32) (H : B_L_law_168 L xs k_21 σ l2 l3 l5 l6 l7 l8 l9 l11 l12 = some (.inl v9, σ9)) : J p l e room_1 s m args below meth c g A 16 cells slots Q 168 [(0, .ref b), (1, .ref (ad 0)), (2, .int l2), (3, .int l3), (5, .int l5), (6, .int l6), (7, .int l7), (8, .int l8), (9, .long l9), (11, .int l11), (12, .int l12)] [] (dkh g ad rst σ) := by
  unfold B_L_law_168 at H
  refine J.widen (k := cells + 0) (n := slots + 0) (Nat.le_refl _) (Nat.le_refl _) ?_
  refine J.iload C dL_law_168 rfl ?_
  refine J.bipush C (16) dL_law_170 (by decide) ?_
  refine J.icmp_geL (tgt := 195) C dL_law_172 (by decide) H (fun c_172 H => ?_) (fun c_172 H => ?_)
  · refine J.iload C dL_law_195 rfl ?_
    refine J.bipush C (17) dL_law_197 (by decide) ?_
    refine J.icmp_geL (tgt := 223) C dL_law_199 (by decide) H (fun c_199 H => ?_) (fun c_199 H => ?_)
    · refine J.iload C dL_law_223 rfl ?_
      refine J.bipush C (18) dL_law_225 (by decide) ?_
      refine J.icmp_geL (tgt := 246) C dL_law_227 (by decide) H (fun c_227 H => ?_) (fun c_227 H => ?_)
      · refine J.lw (lv' := [(0, .ref b), (1, .ref (ad 0)), (2, .int l2), (3, .int l3), (5, .int l5), (6, .int l6), (7, .int l7), (8, .int l8), (9, .long l9), (12, .int l12)]) ⟨rfl, rfl, rfl, rfl, rfl, rfl, rfl, rfl, rfl, rfl, trivial⟩ ?_
        exact bl_L_law_246 hl C hL hX hbA hT hend n k_21 hk_21 _ _ (ceB hcl rfl) (ceB hsl rfl) _ _ _ _ _ _ _ _ _ H
      · refine J.lw (lv' := [(0, .ref b), (1, .ref (ad 0)), (2, .int l2), (3, .int l3), (5, .int l5), (6, .int l6), (7, .int l7), (8, .int l8), (9, .long l9), (12, .int l12)]) ⟨rfl, rfl, rfl, rfl, rfl, rfl, rfl, rfl, rfl, rfl, trivial⟩ ?_
        exact bl_L_law_230 hl C hL hX hbA hT hend n k_21 hk_21 _ _ (ceB hcl rfl) (ceB hsl rfl) _ _ _ _ _ _ _ _ _ H
    · refine J.lw (lv' := [(0, .ref b), (1, .ref (ad 0)), (2, .int l2), (3, .int l3), (5, .int l5), (6, .int l6), (9, .long l9), (11, .int l11)]) ⟨rfl, rfl, rfl, rfl, rfl, rfl, rfl, rfl, trivial⟩ ?_
      exact bl_L_law_202 hl C hL hX hbA hT hend n k_21 hk_21 _ _ (ceB hcl rfl) (ceB hsl rfl) _ _ _ _ _ _ _ H
  · refine J.aload_n (i := 1) C dL_law_175 rfl rfl ?_
    refine J.iload C dL_law_176 rfl ?_
    refine J.iconst C (5) dL_law_178 (by decide) ?_
    refine J.irem C dL_law_179 (by decide) ?_
    refine J.iload C dL_law_180 rfl ?_
    refine J.iconst C (5) dL_law_182 (by decide) ?_
    refine J.idiv C dL_law_183 (by decide) ?_
    refine J.iload C dL_law_184 rfl ?_
    refine J.iremL C dL_law_186 H (fun H => ?_)
    refine J.callH9 (hp := (dkh g ad rst)) C rfl (sp_L_binds hl _ _) rfl kMl_L_255 mdL_binds ⟨(Nat.le_of_ble_eq_true rfl), (Nat.le_of_ble_eq_true rfl)⟩ rfl (Nat.le_of_ble_eq_true rfl) dL_law_187 ⟨ceA hcl rfl, ceA hsl rfl⟩ H (fun E z e9 => by cases e9) (fun r187 s187 H => ?_)
    refine J.widen (Nat.le_of_eq (Nat.add_assoc ..)) (Nat.le_of_eq (Nat.add_assoc ..)) ?_
    refine J.istoreL C dL_law_190 (by decide) H (fun z190 H => ?_)
    refine J.goto (tgt := 490) C dL_law_192 (by decide) ?_
    refine J.lw (lv' := [(0, .ref b), (1, .ref (ad 0)), (2, .int l2), (3, .int l3), (9, .long l9), (11, .int z190)]) ⟨rfl, rfl, rfl, rfl, rfl, rfl, trivial⟩ ?_
    exact bl_L_law_490 hl C hL hX hbA hT hend n k_21 hk_21 _ _ (ceB hcl rfl) (ceB hsl rfl) _ _ _ _ _ H
def B_L_law_127 (L : Nat) (xs : Nat → Int32)  (k_21 : DS → Int32 → Int32 → Res DS Int32) (σ : DS) (l2 : Int32) (l3 : Int32) (l5 : Int32) (l6 : Int32) (l7 : Int32) (l8 : Int32) (l9 : Int64) (l11 : Int32) (l12 : Int32) : Res DS Int32 := (if (14 : Int32) ≤ l12 then (B_L_law_168 L xs k_21 σ l2 l3 l5 l6 l7 l8 l9 l11 l12) else (gd (irm l5 (4 : Int32)) 4 (gc (¬ l6 = 0) (gc (¬ l6 = 0) (bd (P_L_joins σ (ch4 (irm l5 (4 : Int32))) (irm (l5 / (4 : Int32)) l6) (irm (l5 / (400 : Int32)) l6)) fun r160 s160 => (lt r160 fun z163 => (B_L_law_490 L xs k_21 s160 l2 l3 l9 z163)))))))
set_option maxRecDepth 100000 in
set_option maxHeartbeats 4000000 in
theorem bl_L_law_127 {l : Launch} (hl : l.stackTraces = false) {p : Program} {e : Env} {s : State} {m : MethodId} {args : Array Value} {below : List Frame} {meth : Method} {c : Code} {g : Gy} {ad : Nat → Nat} {rst : va_W} {A : Nat → Prop} {Q : State → Prop} {b L tA : Nat} {xs : Nat → Int32} (C : Cx p l s m args meth c g A RL cL_law 16) (hL : L ≤ 260) (hX : va_X b L xs s s.heap) (hbA : ¬ A b) (hT : TX tA A s) {v9 : Int32} {σ9 : DS} (hend : ∀ (cells slots : Nat), cells ≤ 640334 → slots ≤ 7169287 → ∀ (pc : Nat) (lv : List (Nat × Value)) (v : Int32) (σ : DS), decode cL_law pc = .ok (.ireturn, 1) → some ((.inl v, σ) : (Int32 ⊕ String) × DS) = some (.inl v9, σ9) → J p l e room_1 s m args below meth c g A 16 cells slots Q pc lv [.int v] (dkh g ad rst σ)) (n : Nat) (k_21 : DS → Int32 → Int32 → Res DS Int32) (hk_21 : ∀ (cells slots : Nat), cells + (n * 4419 + 4583) ≤ 640334 → slots + (n * 26514 + 27498) ≤ 7169287 → ∀ (σ : DS) (l2 : Int32) (l3 : Int32), k_21 σ l2 l3 = some (.inl v9, σ9) → J p l e room_1 s m args below meth c g A 16 cells slots Q 21 [(0, .ref b), (1, .ref (ad 0)), (2, .int l2), (3, .int l3)] [] (dkh g ad rst σ)) (cells slots : Nat) (hcl : cells + (n * 4419 + 8031) ≤ 640334) (hsl : slots + (n * 26514 + 48186) ≤ 7169287) (σ : DS) (l2 : Int32) (l3 : Int32) (l5 : Int32) (l6 : Int32) (l7 : Int32) (l8 : Int32) (l9 : Int64) (l11 : Int32) (l12 : Int32) (H : B_L_law_127 L xs k_21 σ l2 l3 l5 l6 l7 l8 l9 l11 l12 = some (.inl v9, σ9)) : J p l e room_1 s m args below meth c g A 16 cells slots Q 127 [(0, .ref b), (1, .ref (ad 0)), (2, .int l2), (3, .int l3), (5, .int l5), (6, .int l6), (7, .int l7), (8, .int l8), (9, .long l9), (11, .int l11), (12, .int l12)] [] (dkh g ad rst σ) := by
  unfold B_L_law_127 at H
  refine J.widen (k := cells + 0) (n := slots + 0) (Nat.le_refl _) (Nat.le_refl _) ?_
  refine J.iload C dL_law_127 rfl ?_
  refine J.bipush C (14) dL_law_129 (by decide) ?_
  refine J.icmp_geL (tgt := 168) C dL_law_131 (by decide) H (fun c_131 H => ?_) (fun c_131 H => ?_)
  · refine J.lw (lv' := [(0, .ref b), (1, .ref (ad 0)), (2, .int l2), (3, .int l3), (5, .int l5), (6, .int l6), (7, .int l7), (8, .int l8), (9, .long l9), (11, .int l11), (12, .int l12)]) ⟨rfl, rfl, rfl, rfl, rfl, rfl, rfl, rfl, rfl, rfl, rfl, trivial⟩ ?_
    exact bl_L_law_168 hl C hL hX hbA hT hend n k_21 hk_21 _ _ (ceB hcl rfl) (ceB hsl rfl) _ _ _ _ _ _ _ _ _ _ H
  · refine J.aload_n (i := 1) C dL_law_134 rfl rfl ?_
    refine J.ldcT C hT.1 dL_law_135 ?_
    refine J.iload C dL_law_137 rfl ?_
    refine J.iconst C (4) dL_law_139 (by decide) ?_
    refine J.irem C dL_law_140 (by decide) ?_
    obtain ⟨hz_141, H⟩ := gd_some H
    refine J.charAt C hl hT hz_141 kMl_L_246 ⟨(Nat.le_of_ble_eq_true rfl), (Nat.le_of_ble_eq_true rfl)⟩ (Nat.le_of_ble_eq_true rfl) ⟨ceR hcl rfl, ceR hsl rfl⟩ dL_law_141 ?_
    refine J.iload C dL_law_144 rfl ?_
    refine J.iconst C (4) dL_law_146 (by decide) ?_
    refine J.idiv C dL_law_147 (by decide) ?_
    refine J.iload C dL_law_148 rfl ?_
    refine J.iremL C dL_law_150 H (fun H => ?_)
    refine J.iload C dL_law_151 rfl ?_
    refine J.sipush C (400) dL_law_153 (by decide) ?_
    refine J.idiv C dL_law_156 (by decide) ?_
    refine J.iload C dL_law_157 rfl ?_
    refine J.iremL C dL_law_159 H (fun H => ?_)
    refine J.callH9 (hp := (dkh g ad rst)) C rfl (sp_L_joins hl _ _ _) rfl kMl_L_251 mdL_joins ⟨(Nat.le_of_ble_eq_true rfl), (Nat.le_of_ble_eq_true rfl)⟩ rfl (Nat.le_of_ble_eq_true rfl) dL_law_160 ⟨ceA hcl rfl, ceA hsl rfl⟩ H (fun E z e9 => by cases e9) (fun r160 s160 H => ?_)
    refine J.widen (Nat.le_of_eq (Nat.add_assoc ..)) (Nat.le_of_eq (Nat.add_assoc ..)) ?_
    refine J.istoreL C dL_law_163 (by decide) H (fun z163 H => ?_)
    refine J.goto (tgt := 490) C dL_law_165 (by decide) ?_
    refine J.lw (lv' := [(0, .ref b), (1, .ref (ad 0)), (2, .int l2), (3, .int l3), (9, .long l9), (11, .int z163)]) ⟨rfl, rfl, rfl, rfl, rfl, rfl, trivial⟩ ?_
    exact bl_L_law_490 hl C hL hX hbA hT hend n k_21 hk_21 _ _ (ceB hcl rfl) (ceB hsl rfl) _ _ _ _ _ H
def B_L_law_112 (L : Nat) (xs : Nat → Int32)  (k_21 : DS → Int32 → Int32 → Res DS Int32) (σ : DS) (l2 : Int32) (l3 : Int32) (l5 : Int32) (l6 : Int32) (l7 : Int32) (l8 : Int32) (l9 : Int64) (l11 : Int32) (l12 : Int32) : Res DS Int32 := (if (5 : Int32) ≤ l12 then (B_L_law_127 L xs k_21 σ l2 l3 l5 l6 l7 l8 l9 l11 l12) else (bd (P_L_falsum σ ) fun r119 s119 => (lt r119 fun z122 => (B_L_law_490 L xs k_21 s119 l2 l3 l9 z122))))
set_option maxRecDepth 100000 in
set_option maxHeartbeats 4000000 in
theorem bl_L_law_112 {l : Launch} (hl : l.stackTraces = false) {p : Program} {e : Env} {s : State} {m : MethodId} {args : Array Value} {below : List Frame} {meth : Method} {c : Code} {g : Gy} {ad : Nat → Nat} {rst : va_W} {A : Nat → Prop} {Q : State → Prop} {b L tA : Nat} {xs : Nat → Int32} (C : Cx p l s m args meth c g A RL cL_law 16) (hL : L ≤ 260) (hX : va_X b L xs s s.heap) (hbA : ¬ A b) (hT : TX tA A s) {v9 : Int32} {σ9 : DS} (hend : ∀ (cells slots : Nat), cells ≤ 640334 → slots ≤ 7169287 → ∀ (pc : Nat) (lv : List (Nat × Value)) (v : Int32) (σ : DS), decode cL_law pc = .ok (.ireturn, 1) → some ((.inl v, σ) : (Int32 ⊕ String) × DS) = some (.inl v9, σ9) → J p l e room_1 s m args below meth c g A 16 cells slots Q pc lv [.int v] (dkh g ad rst σ)) (n : Nat) (k_21 : DS → Int32 → Int32 → Res DS Int32) (hk_21 : ∀ (cells slots : Nat), cells + (n * 4419 + 4583) ≤ 640334 → slots + (n * 26514 + 27498) ≤ 7169287 → ∀ (σ : DS) (l2 : Int32) (l3 : Int32), k_21 σ l2 l3 = some (.inl v9, σ9) → J p l e room_1 s m args below meth c g A 16 cells slots Q 21 [(0, .ref b), (1, .ref (ad 0)), (2, .int l2), (3, .int l3)] [] (dkh g ad rst σ)) (cells slots : Nat) (hcl : cells + (n * 4419 + 8031) ≤ 640334) (hsl : slots + (n * 26514 + 48186) ≤ 7169287) (σ : DS) (l2 : Int32) (l3 : Int32) (l5 : Int32) (l6 : Int32) (l7 : Int32) (l8 : Int32) (l9 : Int64) (l11 : Int32) (l12 : Int32) (H : B_L_law_112 L xs k_21 σ l2 l3 l5 l6 l7 l8 l9 l11 l12 = some (.inl v9, σ9)) : J p l e room_1 s m args below meth c g A 16 cells slots Q 112 [(0, .ref b), (1, .ref (ad 0)), (2, .int l2), (3, .int l3), (5, .int l5), (6, .int l6), (7, .int l7), (8, .int l8), (9, .long l9), (11, .int l11), (12, .int l12)] [] (dkh g ad rst σ) := by
  unfold B_L_law_112 at H
  refine J.widen (k := cells + 0) (n := slots + 0) (Nat.le_refl _) (Nat.le_refl _) ?_
  refine J.iload C dL_law_112 rfl ?_
  refine J.iconst C (5) dL_law_114 (by decide) ?_
  refine J.icmp_geL (tgt := 127) C dL_law_115 (by decide) H (fun c_115 H => ?_) (fun c_115 H => ?_)
  · refine J.lw (lv' := [(0, .ref b), (1, .ref (ad 0)), (2, .int l2), (3, .int l3), (5, .int l5), (6, .int l6), (7, .int l7), (8, .int l8), (9, .long l9), (11, .int l11), (12, .int l12)]) ⟨rfl, rfl, rfl, rfl, rfl, rfl, rfl, rfl, rfl, rfl, rfl, trivial⟩ ?_
    exact bl_L_law_127 hl C hL hX hbA hT hend n k_21 hk_21 _ _ (ceB hcl rfl) (ceB hsl rfl) _ _ _ _ _ _ _ _ _ _ H
  · refine J.aload_n (i := 1) C dL_law_118 rfl rfl ?_
    refine J.callH9 (hp := (dkh g ad rst)) C rfl (sp_L_falsum hl ) rfl kMl_L_242 mdL_falsum ⟨(Nat.le_of_ble_eq_true rfl), (Nat.le_of_ble_eq_true rfl)⟩ rfl (Nat.le_of_ble_eq_true rfl) dL_law_119 ⟨ceA hcl rfl, ceA hsl rfl⟩ H (fun E z e9 => by cases e9) (fun r119 s119 H => ?_)
    refine J.widen (Nat.le_of_eq (Nat.add_assoc ..)) (Nat.le_of_eq (Nat.add_assoc ..)) ?_
    refine J.istoreL C dL_law_122 (by decide) H (fun z122 H => ?_)
    refine J.goto (tgt := 490) C dL_law_124 (by decide) ?_
    refine J.lw (lv' := [(0, .ref b), (1, .ref (ad 0)), (2, .int l2), (3, .int l3), (9, .long l9), (11, .int z122)]) ⟨rfl, rfl, rfl, rfl, rfl, rfl, trivial⟩ ?_
    exact bl_L_law_490 hl C hL hX hbA hT hend n k_21 hk_21 _ _ (ceB hcl rfl) (ceB hsl rfl) _ _ _ _ _ H
def B_L_law_945 (L : Nat) (xs : Nat → Int32)  (σ : DS) (l3 : Int64) (l6 : Int32) (l7 : Int32) : Res DS Int32 := (bd (P_L_line σ l6 (0 : Int32)) fun r949 s949 => (if r949 = (-1001 : Int32) then (bd (P_L_line s949 (-1 : Int32) (4 : Int32)) fun r961 s961 => (if r961 = (-1001 : Int32) then (bd (P_L_box s961 l7 (1 : Int32)) fun r974 s974 => (if r974 = (-1001 : Int32) then (bd (P_L_box s974 (-1 : Int32) (0 : Int32)) fun r986 s986 => (if r986 = (-1001 : Int32) then (bd (P_L_sum s986 ) fun r996 s996 => (if (lg_cmp r996 l3) = 0 then (some (.inl (1 : Int32), s996)) else (some (.inl (0 : Int32), s996)))) else (some (.inl (0 : Int32), s986)))) else (some (.inl (0 : Int32), s974)))) else (some (.inl (0 : Int32), s961)))) else (some (.inl (0 : Int32), s949))))
set_option maxRecDepth 100000 in
set_option maxHeartbeats 4000000 in
theorem bl_L_law_945 {l : Launch} (hl : l.stackTraces = false) {p : Program} {e : Env} {s : State} {m : MethodId} {args : Array Value} {below : List Frame} {meth : Method} {c : Code} {g : Gy} {ad : Nat → Nat} {rst : va_W} {A : Nat → Prop} {Q : State → Prop} {b L tA : Nat} {xs : Nat → Int32} (C : Cx p l s m args meth c g A RL cL_law 16) (hL : L ≤ 260) (hX : va_X b L xs s s.heap) (hbA : ¬ A b) (hT : TX tA A s) {v9 : Int32} {σ9 : DS} (hend : ∀ (cells slots : Nat), cells ≤ 640334 → slots ≤ 7169287 → ∀ (pc : Nat) (lv : List (Nat × Value)) (v : Int32) (σ : DS), decode cL_law pc = .ok (.ireturn, 1) → some ((.inl v, σ) : (Int32 ⊕ String) × DS) = some (.inl v9, σ9) → J p l e room_1 s m args below meth c g A 16 cells slots Q pc lv [.int v] (dkh g ad rst σ)) (cells slots : Nat) (hcl : cells + 975 ≤ 640334) (hsl : slots + 5850 ≤ 7169287) (σ : DS) (l3 : Int64) (l6 : Int32) (l7 : Int32) (H : B_L_law_945 L xs σ l3 l6 l7 = some (.inl v9, σ9)) : J p l e room_1 s m args below meth c g A 16 cells slots Q 945 [(1, .ref (ad 0)), (3, .long l3), (6, .int l6), (7, .int l7)] [] (dkh g ad rst σ) := by
  unfold B_L_law_945 at H
  refine J.widen (k := cells + 0) (n := slots + 0) (Nat.le_refl _) (Nat.le_refl _) ?_
  refine J.aload_n (i := 1) C dL_law_945 rfl rfl ?_
  refine J.iload C dL_law_946 rfl ?_
  refine J.iconst C (0) dL_law_948 (by decide) ?_
  refine J.callH9 (hp := (dkh g ad rst)) C rfl (sp_L_line hl _ _) rfl kMl_L_190 mdL_line ⟨(Nat.le_of_ble_eq_true rfl), (Nat.le_of_ble_eq_true rfl)⟩ rfl (Nat.le_of_ble_eq_true rfl) dL_law_949 ⟨ceA0 hcl rfl, ceA0 hsl rfl⟩ H (fun E z e9 => by cases e9) (fun r949 s949 H => ?_)
  refine J.widen (Nat.le_of_eq (Nat.add_assoc ..)) (Nat.le_of_eq (Nat.add_assoc ..)) ?_
  refine J.sipush C (-1001) dL_law_952 (by decide) ?_
  refine J.icmp_neL (tgt := 1008) C dL_law_955 (by decide) H (fun c_955 H => ?_) (fun c_955 H => ?_)
  · refine J.iconst C (0) dL_law_1008 (by decide) ?_
    exact hend _ _ (ceR0 hcl rfl) (ceR0 hsl rfl) _ _ _ _ dL_law_1009 H
  · refine J.aload_n (i := 1) C dL_law_958 rfl rfl ?_
    refine J.iconst C (-1) dL_law_959 (by decide) ?_
    refine J.iconst C (4) dL_law_960 (by decide) ?_
    refine J.callH9 (hp := (dkh g ad rst)) C rfl (sp_L_line hl _ _) rfl kMl_L_190 mdL_line ⟨(Nat.le_of_ble_eq_true rfl), (Nat.le_of_ble_eq_true rfl)⟩ rfl (Nat.le_of_ble_eq_true rfl) dL_law_961 ⟨ceA0 hcl rfl, ceA0 hsl rfl⟩ H (fun E z e9 => by cases e9) (fun r961 s961 H => ?_)
    refine J.widen (Nat.le_of_eq (Nat.add_assoc ..)) (Nat.le_of_eq (Nat.add_assoc ..)) ?_
    refine J.sipush C (-1001) dL_law_964 (by decide) ?_
    refine J.icmp_neL (tgt := 1008) C dL_law_967 (by decide) H (fun c_967 H => ?_) (fun c_967 H => ?_)
    · refine J.iconst C (0) dL_law_1008 (by decide) ?_
      exact hend _ _ (ceR0 hcl rfl) (ceR0 hsl rfl) _ _ _ _ dL_law_1009 H
    · refine J.aload_n (i := 1) C dL_law_970 rfl rfl ?_
      refine J.iload C dL_law_971 rfl ?_
      refine J.iconst C (1) dL_law_973 (by decide) ?_
      refine J.callH9 (hp := (dkh g ad rst)) C rfl (sp_L_box hl _ _) rfl kMl_L_195 mdL_box ⟨(Nat.le_of_ble_eq_true rfl), (Nat.le_of_ble_eq_true rfl)⟩ rfl (Nat.le_of_ble_eq_true rfl) dL_law_974 ⟨ceA0 hcl rfl, ceA0 hsl rfl⟩ H (fun E z e9 => by cases e9) (fun r974 s974 H => ?_)
      refine J.widen (Nat.le_of_eq (Nat.add_assoc ..)) (Nat.le_of_eq (Nat.add_assoc ..)) ?_
      refine J.sipush C (-1001) dL_law_977 (by decide) ?_
      refine J.icmp_neL (tgt := 1008) C dL_law_980 (by decide) H (fun c_980 H => ?_) (fun c_980 H => ?_)
      · refine J.iconst C (0) dL_law_1008 (by decide) ?_
        exact hend _ _ (ceR0 hcl rfl) (ceR0 hsl rfl) _ _ _ _ dL_law_1009 H
      · refine J.aload_n (i := 1) C dL_law_983 rfl rfl ?_
        refine J.iconst C (-1) dL_law_984 (by decide) ?_
        refine J.iconst C (0) dL_law_985 (by decide) ?_
        refine J.callH9 (hp := (dkh g ad rst)) C rfl (sp_L_box hl _ _) rfl kMl_L_195 mdL_box ⟨(Nat.le_of_ble_eq_true rfl), (Nat.le_of_ble_eq_true rfl)⟩ rfl (Nat.le_of_ble_eq_true rfl) dL_law_986 ⟨ceA0 hcl rfl, ceA0 hsl rfl⟩ H (fun E z e9 => by cases e9) (fun r986 s986 H => ?_)
        refine J.widen (Nat.le_of_eq (Nat.add_assoc ..)) (Nat.le_of_eq (Nat.add_assoc ..)) ?_
        refine J.sipush C (-1001) dL_law_989 (by decide) ?_
        refine J.icmp_neL (tgt := 1008) C dL_law_992 (by decide) H (fun c_992 H => ?_) (fun c_992 H => ?_)
        · refine J.iconst C (0) dL_law_1008 (by decide) ?_
          exact hend _ _ (ceR0 hcl rfl) (ceR0 hsl rfl) _ _ _ _ dL_law_1009 H
        · refine J.aload_n (i := 1) C dL_law_995 rfl rfl ?_
          refine J.callS9 (hp := (dkh g ad rst)) C rfl (sp_L_sum hl ) rfl kMl_L_236 mdL_sum ⟨(Nat.le_of_ble_eq_true rfl), (Nat.le_of_ble_eq_true rfl)⟩ rfl (Nat.le_of_ble_eq_true rfl) dL_law_996 ⟨ceA0 hcl rfl, ceA0 hsl rfl⟩ H (fun E z e9 => by cases e9) (fun r996 s996 H => ?_)
          refine J.widen (Nat.le_of_eq (Nat.add_assoc ..)) (Nat.le_of_eq (Nat.add_assoc ..)) ?_
          refine J.lload_n (i := 3) C dL_law_999 rfl rfl ?_
          refine J.lcmp C dL_law_1000 ?_
          refine J.if_neL (tgt := 1008) C dL_law_1001 (by decide) H (fun c_1001 H => ?_) (fun c_1001 H => ?_)
          · refine J.iconst C (0) dL_law_1008 (by decide) ?_
            exact hend _ _ (ceR0 hcl rfl) (ceR0 hsl rfl) _ _ _ _ dL_law_1009 H
          · refine J.iconst C (1) dL_law_1004 (by decide) ?_
            refine J.goto (tgt := 1009) C dL_law_1005 (by decide) ?_
            exact hend _ _ (ceR0 hcl rfl) (ceR0 hsl rfl) _ _ _ _ dL_law_1009 H
def B_L_law_905 (L : Nat) (xs : Nat → Int32)  (σ : DS) (l3 : Int64) (l6 : Int32) (l7 : Int32) : Res DS Int32 := (bd (P_L_does σ (15 : Int32) (F_X6_lemmas σ ) (0 : Int32) (0 : Int32)) fun r914 s914 => (if r914 = (-1001 : Int32) then (if l6 = 0 then (bd (P_L_does s914 (14 : Int32) (0 : Int32) (0 : Int32) (0 : Int32)) fun r934 s934 => (if r934 = (-1002 : Int32) then (B_L_law_945 L xs s934 l3 l6 l7) else (some (.inl (0 : Int32), s934)))) else (B_L_law_945 L xs s914 l3 l6 l7)) else (some (.inl (0 : Int32), s914))))
set_option maxRecDepth 100000 in
set_option maxHeartbeats 4000000 in
theorem bl_L_law_905 {l : Launch} (hl : l.stackTraces = false) {p : Program} {e : Env} {s : State} {m : MethodId} {args : Array Value} {below : List Frame} {meth : Method} {c : Code} {g : Gy} {ad : Nat → Nat} {rst : va_W} {A : Nat → Prop} {Q : State → Prop} {b L tA : Nat} {xs : Nat → Int32} (C : Cx p l s m args meth c g A RL cL_law 16) (hL : L ≤ 260) (hX : va_X b L xs s s.heap) (hbA : ¬ A b) (hT : TX tA A s) {v9 : Int32} {σ9 : DS} (hend : ∀ (cells slots : Nat), cells ≤ 640334 → slots ≤ 7169287 → ∀ (pc : Nat) (lv : List (Nat × Value)) (v : Int32) (σ : DS), decode cL_law pc = .ok (.ireturn, 1) → some ((.inl v, σ) : (Int32 ⊕ String) × DS) = some (.inl v9, σ9) → J p l e room_1 s m args below meth c g A 16 cells slots Q pc lv [.int v] (dkh g ad rst σ)) (cells slots : Nat) (hcl : cells + 995 ≤ 640334) (hsl : slots + 5970 ≤ 7169287) (σ : DS) (l3 : Int64) (l6 : Int32) (l7 : Int32) (H : B_L_law_905 L xs σ l3 l6 l7 = some (.inl v9, σ9)) : J p l e room_1 s m args below meth c g A 16 cells slots Q 905 [(1, .ref (ad 0)), (3, .long l3), (6, .int l6), (7, .int l7)] [] (dkh g ad rst σ) := by
  unfold B_L_law_905 at H
  refine J.widen (k := cells + 0) (n := slots + 0) (Nat.le_refl _) (Nat.le_refl _) ?_
  refine J.aload_n (i := 1) C dL_law_905 rfl rfl ?_
  refine J.bipush C (15) dL_law_906 (by decide) ?_
  refine J.aload_n (i := 1) C dL_law_908 rfl rfl ?_
  refine J.callVI C (sp_X6_lemmas hl ) rfl kMl_L_171 mdX6_lemmas ⟨(Nat.le_of_ble_eq_true rfl), (Nat.le_of_ble_eq_true rfl)⟩ dk_0 rfl rfl (Nat.le_of_ble_eq_true rfl) dL_law_909 ⟨ceA0 hcl rfl, ceA0 hsl rfl⟩ ?_
  refine J.widen (Nat.le_of_eq (Nat.add_assoc ..)) (Nat.le_of_eq (Nat.add_assoc ..)) ?_
  refine J.iconst C (0) dL_law_912 (by decide) ?_
  refine J.iconst C (0) dL_law_913 (by decide) ?_
  refine J.callH9 (hp := (dkh g ad rst)) C rfl (sp_L_does hl _ _ _ _) rfl kMl_L_265 mdL_does ⟨(Nat.le_of_ble_eq_true rfl), (Nat.le_of_ble_eq_true rfl)⟩ rfl (Nat.le_of_ble_eq_true rfl) dL_law_914 ⟨ceA0 hcl rfl, ceA0 hsl rfl⟩ H (fun E z e9 => by cases e9) (fun r914 s914 H => ?_)
  refine J.widen (Nat.le_of_eq (Nat.add_assoc ..)) (Nat.le_of_eq (Nat.add_assoc ..)) ?_
  refine J.sipush C (-1001) dL_law_917 (by decide) ?_
  refine J.icmp_neL (tgt := 943) C dL_law_920 (by decide) H (fun c_920 H => ?_) (fun c_920 H => ?_)
  · refine J.iconst C (0) dL_law_943 (by decide) ?_
    exact hend _ _ (ceR0 hcl rfl) (ceR0 hsl rfl) _ _ _ _ dL_law_944 H
  · refine J.iload C dL_law_923 rfl ?_
    refine J.if_neL (tgt := 945) C dL_law_925 (by decide) H (fun c_925 H => ?_) (fun c_925 H => ?_)
    · refine J.lw (lv' := [(1, .ref (ad 0)), (3, .long l3), (6, .int l6), (7, .int l7)]) ⟨rfl, rfl, rfl, rfl, trivial⟩ ?_
      exact bl_L_law_945 hl C hL hX hbA hT hend _ _ (ceA0 hcl rfl) (ceA0 hsl rfl) _ _ _ _ H
    · refine J.aload_n (i := 1) C dL_law_928 rfl rfl ?_
      refine J.bipush C (14) dL_law_929 (by decide) ?_
      refine J.iconst C (0) dL_law_931 (by decide) ?_
      refine J.iconst C (0) dL_law_932 (by decide) ?_
      refine J.iconst C (0) dL_law_933 (by decide) ?_
      refine J.callH9 (hp := (dkh g ad rst)) C rfl (sp_L_does hl _ _ _ _) rfl kMl_L_265 mdL_does ⟨(Nat.le_of_ble_eq_true rfl), (Nat.le_of_ble_eq_true rfl)⟩ rfl (Nat.le_of_ble_eq_true rfl) dL_law_934 ⟨ceA0 hcl rfl, ceA0 hsl rfl⟩ H (fun E z e9 => by cases e9) (fun r934 s934 H => ?_)
      refine J.widen (Nat.le_of_eq (Nat.add_assoc ..)) (Nat.le_of_eq (Nat.add_assoc ..)) ?_
      refine J.sipush C (-1002) dL_law_937 (by decide) ?_
      refine J.icmp_eqL (tgt := 945) C dL_law_940 (by decide) H (fun c_940 H => ?_) (fun c_940 H => ?_)
      · refine J.lw (lv' := [(1, .ref (ad 0)), (3, .long l3), (6, .int l6), (7, .int l7)]) ⟨rfl, rfl, rfl, rfl, trivial⟩ ?_
        exact bl_L_law_945 hl C hL hX hbA hT hend _ _ (ceA0 hcl rfl) (ceA0 hsl rfl) _ _ _ _ H
      · refine J.iconst C (0) dL_law_943 (by decide) ?_
        exact hend _ _ (ceR0 hcl rfl) (ceR0 hsl rfl) _ _ _ _ dL_law_944 H
def B_L_law_842 (L : Nat) (xs : Nat → Int32)  (σ : DS) (l3 : Int64) (l6 : Int32) (l7 : Int32) : Res DS Int32 := (bd (P_L_does σ (10 : Int32) (-1 : Int32) (0 : Int32) (0 : Int32)) fun r848 s848 => (if r848 = (-1001 : Int32) then (bd (P_L_does s848 (11 : Int32) l6 (0 : Int32) (0 : Int32)) fun r864 s864 => (if r864 = (-1001 : Int32) then (bd (P_L_does s864 (12 : Int32) l6 (0 : Int32) (0 : Int32)) fun r880 s880 => (if r880 = (-1001 : Int32) then (bd (P_L_does s880 (13 : Int32) l6 (0 : Int32) (0 : Int32)) fun r896 s896 => (if r896 = (-1001 : Int32) then (B_L_law_905 L xs s896 l3 l6 l7) else (some (.inl (0 : Int32), s896)))) else (some (.inl (0 : Int32), s880)))) else (some (.inl (0 : Int32), s864)))) else (some (.inl (0 : Int32), s848))))
set_option maxRecDepth 100000 in
set_option maxHeartbeats 4000000 in
theorem bl_L_law_842 {l : Launch} (hl : l.stackTraces = false) {p : Program} {e : Env} {s : State} {m : MethodId} {args : Array Value} {below : List Frame} {meth : Method} {c : Code} {g : Gy} {ad : Nat → Nat} {rst : va_W} {A : Nat → Prop} {Q : State → Prop} {b L tA : Nat} {xs : Nat → Int32} (C : Cx p l s m args meth c g A RL cL_law 16) (hL : L ≤ 260) (hX : va_X b L xs s s.heap) (hbA : ¬ A b) (hT : TX tA A s) {v9 : Int32} {σ9 : DS} (hend : ∀ (cells slots : Nat), cells ≤ 640334 → slots ≤ 7169287 → ∀ (pc : Nat) (lv : List (Nat × Value)) (v : Int32) (σ : DS), decode cL_law pc = .ok (.ireturn, 1) → some ((.inl v, σ) : (Int32 ⊕ String) × DS) = some (.inl v9, σ9) → J p l e room_1 s m args below meth c g A 16 cells slots Q pc lv [.int v] (dkh g ad rst σ)) (cells slots : Nat) (hcl : cells + 1035 ≤ 640334) (hsl : slots + 6210 ≤ 7169287) (σ : DS) (l3 : Int64) (l6 : Int32) (l7 : Int32) (H : B_L_law_842 L xs σ l3 l6 l7 = some (.inl v9, σ9)) : J p l e room_1 s m args below meth c g A 16 cells slots Q 842 [(1, .ref (ad 0)), (3, .long l3), (6, .int l6), (7, .int l7)] [] (dkh g ad rst σ) := by
  unfold B_L_law_842 at H
  refine J.widen (k := cells + 0) (n := slots + 0) (Nat.le_refl _) (Nat.le_refl _) ?_
  refine J.aload_n (i := 1) C dL_law_842 rfl rfl ?_
  refine J.bipush C (10) dL_law_843 (by decide) ?_
  refine J.iconst C (-1) dL_law_845 (by decide) ?_
  refine J.iconst C (0) dL_law_846 (by decide) ?_
  refine J.iconst C (0) dL_law_847 (by decide) ?_
  refine J.callH9 (hp := (dkh g ad rst)) C rfl (sp_L_does hl _ _ _ _) rfl kMl_L_265 mdL_does ⟨(Nat.le_of_ble_eq_true rfl), (Nat.le_of_ble_eq_true rfl)⟩ rfl (Nat.le_of_ble_eq_true rfl) dL_law_848 ⟨ceA0 hcl rfl, ceA0 hsl rfl⟩ H (fun E z e9 => by cases e9) (fun r848 s848 H => ?_)
  refine J.widen (Nat.le_of_eq (Nat.add_assoc ..)) (Nat.le_of_eq (Nat.add_assoc ..)) ?_
  refine J.sipush C (-1001) dL_law_851 (by decide) ?_
  refine J.icmp_neL (tgt := 943) C dL_law_854 (by decide) H (fun c_854 H => ?_) (fun c_854 H => ?_)
  · refine J.iconst C (0) dL_law_943 (by decide) ?_
    exact hend _ _ (ceR0 hcl rfl) (ceR0 hsl rfl) _ _ _ _ dL_law_944 H
  · refine J.aload_n (i := 1) C dL_law_857 rfl rfl ?_
    refine J.bipush C (11) dL_law_858 (by decide) ?_
    refine J.iload C dL_law_860 rfl ?_
    refine J.iconst C (0) dL_law_862 (by decide) ?_
    refine J.iconst C (0) dL_law_863 (by decide) ?_
    refine J.callH9 (hp := (dkh g ad rst)) C rfl (sp_L_does hl _ _ _ _) rfl kMl_L_265 mdL_does ⟨(Nat.le_of_ble_eq_true rfl), (Nat.le_of_ble_eq_true rfl)⟩ rfl (Nat.le_of_ble_eq_true rfl) dL_law_864 ⟨ceA0 hcl rfl, ceA0 hsl rfl⟩ H (fun E z e9 => by cases e9) (fun r864 s864 H => ?_)
    refine J.widen (Nat.le_of_eq (Nat.add_assoc ..)) (Nat.le_of_eq (Nat.add_assoc ..)) ?_
    refine J.sipush C (-1001) dL_law_867 (by decide) ?_
    refine J.icmp_neL (tgt := 943) C dL_law_870 (by decide) H (fun c_870 H => ?_) (fun c_870 H => ?_)
    · refine J.iconst C (0) dL_law_943 (by decide) ?_
      exact hend _ _ (ceR0 hcl rfl) (ceR0 hsl rfl) _ _ _ _ dL_law_944 H
    · refine J.aload_n (i := 1) C dL_law_873 rfl rfl ?_
      refine J.bipush C (12) dL_law_874 (by decide) ?_
      refine J.iload C dL_law_876 rfl ?_
      refine J.iconst C (0) dL_law_878 (by decide) ?_
      refine J.iconst C (0) dL_law_879 (by decide) ?_
      refine J.callH9 (hp := (dkh g ad rst)) C rfl (sp_L_does hl _ _ _ _) rfl kMl_L_265 mdL_does ⟨(Nat.le_of_ble_eq_true rfl), (Nat.le_of_ble_eq_true rfl)⟩ rfl (Nat.le_of_ble_eq_true rfl) dL_law_880 ⟨ceA0 hcl rfl, ceA0 hsl rfl⟩ H (fun E z e9 => by cases e9) (fun r880 s880 H => ?_)
      refine J.widen (Nat.le_of_eq (Nat.add_assoc ..)) (Nat.le_of_eq (Nat.add_assoc ..)) ?_
      refine J.sipush C (-1001) dL_law_883 (by decide) ?_
      refine J.icmp_neL (tgt := 943) C dL_law_886 (by decide) H (fun c_886 H => ?_) (fun c_886 H => ?_)
      · refine J.iconst C (0) dL_law_943 (by decide) ?_
        exact hend _ _ (ceR0 hcl rfl) (ceR0 hsl rfl) _ _ _ _ dL_law_944 H
      · refine J.aload_n (i := 1) C dL_law_889 rfl rfl ?_
        refine J.bipush C (13) dL_law_890 (by decide) ?_
        refine J.iload C dL_law_892 rfl ?_
        refine J.iconst C (0) dL_law_894 (by decide) ?_
        refine J.iconst C (0) dL_law_895 (by decide) ?_
        refine J.callH9 (hp := (dkh g ad rst)) C rfl (sp_L_does hl _ _ _ _) rfl kMl_L_265 mdL_does ⟨(Nat.le_of_ble_eq_true rfl), (Nat.le_of_ble_eq_true rfl)⟩ rfl (Nat.le_of_ble_eq_true rfl) dL_law_896 ⟨ceA0 hcl rfl, ceA0 hsl rfl⟩ H (fun E z e9 => by cases e9) (fun r896 s896 H => ?_)
        refine J.widen (Nat.le_of_eq (Nat.add_assoc ..)) (Nat.le_of_eq (Nat.add_assoc ..)) ?_
        refine J.sipush C (-1001) dL_law_899 (by decide) ?_
        refine J.icmp_neL (tgt := 943) C dL_law_902 (by decide) H (fun c_902 H => ?_) (fun c_902 H => ?_)
        · refine J.iconst C (0) dL_law_943 (by decide) ?_
          exact hend _ _ (ceR0 hcl rfl) (ceR0 hsl rfl) _ _ _ _ dL_law_944 H
        · refine J.lw (lv' := [(1, .ref (ad 0)), (3, .long l3), (6, .int l6), (7, .int l7)]) ⟨rfl, rfl, rfl, rfl, trivial⟩ ?_
          exact bl_L_law_905 hl C hL hX hbA hT hend _ _ (ceA0 hcl rfl) (ceA0 hsl rfl) _ _ _ _ H
def B_L_law_778 (L : Nat) (xs : Nat → Int32)  (σ : DS) (l3 : Int64) (l6 : Int32) (l7 : Int32) : Res DS Int32 := (bd (P_L_does σ (6 : Int32) l6 (0 : Int32) (0 : Int32)) fun r785 s785 => (if r785 = (-1001 : Int32) then (bd (P_L_does s785 (7 : Int32) l6 (0 : Int32) (0 : Int32)) fun r801 s801 => (if r801 = (-1001 : Int32) then (bd (P_L_does s801 (8 : Int32) l7 (0 : Int32) (0 : Int32)) fun r817 s817 => (if r817 = (-1001 : Int32) then (bd (P_L_does s817 (9 : Int32) l6 (0 : Int32) (0 : Int32)) fun r833 s833 => (if r833 = (-1001 : Int32) then (B_L_law_842 L xs s833 l3 l6 l7) else (some (.inl (0 : Int32), s833)))) else (some (.inl (0 : Int32), s817)))) else (some (.inl (0 : Int32), s801)))) else (some (.inl (0 : Int32), s785))))
set_option maxRecDepth 100000 in
set_option maxHeartbeats 4000000 in
theorem bl_L_law_778 {l : Launch} (hl : l.stackTraces = false) {p : Program} {e : Env} {s : State} {m : MethodId} {args : Array Value} {below : List Frame} {meth : Method} {c : Code} {g : Gy} {ad : Nat → Nat} {rst : va_W} {A : Nat → Prop} {Q : State → Prop} {b L tA : Nat} {xs : Nat → Int32} (C : Cx p l s m args meth c g A RL cL_law 16) (hL : L ≤ 260) (hX : va_X b L xs s s.heap) (hbA : ¬ A b) (hT : TX tA A s) {v9 : Int32} {σ9 : DS} (hend : ∀ (cells slots : Nat), cells ≤ 640334 → slots ≤ 7169287 → ∀ (pc : Nat) (lv : List (Nat × Value)) (v : Int32) (σ : DS), decode cL_law pc = .ok (.ireturn, 1) → some ((.inl v, σ) : (Int32 ⊕ String) × DS) = some (.inl v9, σ9) → J p l e room_1 s m args below meth c g A 16 cells slots Q pc lv [.int v] (dkh g ad rst σ)) (cells slots : Nat) (hcl : cells + 1075 ≤ 640334) (hsl : slots + 6450 ≤ 7169287) (σ : DS) (l3 : Int64) (l6 : Int32) (l7 : Int32) (H : B_L_law_778 L xs σ l3 l6 l7 = some (.inl v9, σ9)) : J p l e room_1 s m args below meth c g A 16 cells slots Q 778 [(1, .ref (ad 0)), (3, .long l3), (6, .int l6), (7, .int l7)] [] (dkh g ad rst σ) := by
  unfold B_L_law_778 at H
  refine J.widen (k := cells + 0) (n := slots + 0) (Nat.le_refl _) (Nat.le_refl _) ?_
  refine J.aload_n (i := 1) C dL_law_778 rfl rfl ?_
  refine J.bipush C (6) dL_law_779 (by decide) ?_
  refine J.iload C dL_law_781 rfl ?_
  refine J.iconst C (0) dL_law_783 (by decide) ?_
  refine J.iconst C (0) dL_law_784 (by decide) ?_
  refine J.callH9 (hp := (dkh g ad rst)) C rfl (sp_L_does hl _ _ _ _) rfl kMl_L_265 mdL_does ⟨(Nat.le_of_ble_eq_true rfl), (Nat.le_of_ble_eq_true rfl)⟩ rfl (Nat.le_of_ble_eq_true rfl) dL_law_785 ⟨ceA0 hcl rfl, ceA0 hsl rfl⟩ H (fun E z e9 => by cases e9) (fun r785 s785 H => ?_)
  refine J.widen (Nat.le_of_eq (Nat.add_assoc ..)) (Nat.le_of_eq (Nat.add_assoc ..)) ?_
  refine J.sipush C (-1001) dL_law_788 (by decide) ?_
  refine J.icmp_neL (tgt := 943) C dL_law_791 (by decide) H (fun c_791 H => ?_) (fun c_791 H => ?_)
  · refine J.iconst C (0) dL_law_943 (by decide) ?_
    exact hend _ _ (ceR0 hcl rfl) (ceR0 hsl rfl) _ _ _ _ dL_law_944 H
  · refine J.aload_n (i := 1) C dL_law_794 rfl rfl ?_
    refine J.bipush C (7) dL_law_795 (by decide) ?_
    refine J.iload C dL_law_797 rfl ?_
    refine J.iconst C (0) dL_law_799 (by decide) ?_
    refine J.iconst C (0) dL_law_800 (by decide) ?_
    refine J.callH9 (hp := (dkh g ad rst)) C rfl (sp_L_does hl _ _ _ _) rfl kMl_L_265 mdL_does ⟨(Nat.le_of_ble_eq_true rfl), (Nat.le_of_ble_eq_true rfl)⟩ rfl (Nat.le_of_ble_eq_true rfl) dL_law_801 ⟨ceA0 hcl rfl, ceA0 hsl rfl⟩ H (fun E z e9 => by cases e9) (fun r801 s801 H => ?_)
    refine J.widen (Nat.le_of_eq (Nat.add_assoc ..)) (Nat.le_of_eq (Nat.add_assoc ..)) ?_
    refine J.sipush C (-1001) dL_law_804 (by decide) ?_
    refine J.icmp_neL (tgt := 943) C dL_law_807 (by decide) H (fun c_807 H => ?_) (fun c_807 H => ?_)
    · refine J.iconst C (0) dL_law_943 (by decide) ?_
      exact hend _ _ (ceR0 hcl rfl) (ceR0 hsl rfl) _ _ _ _ dL_law_944 H
    · refine J.aload_n (i := 1) C dL_law_810 rfl rfl ?_
      refine J.bipush C (8) dL_law_811 (by decide) ?_
      refine J.iload C dL_law_813 rfl ?_
      refine J.iconst C (0) dL_law_815 (by decide) ?_
      refine J.iconst C (0) dL_law_816 (by decide) ?_
      refine J.callH9 (hp := (dkh g ad rst)) C rfl (sp_L_does hl _ _ _ _) rfl kMl_L_265 mdL_does ⟨(Nat.le_of_ble_eq_true rfl), (Nat.le_of_ble_eq_true rfl)⟩ rfl (Nat.le_of_ble_eq_true rfl) dL_law_817 ⟨ceA0 hcl rfl, ceA0 hsl rfl⟩ H (fun E z e9 => by cases e9) (fun r817 s817 H => ?_)
      refine J.widen (Nat.le_of_eq (Nat.add_assoc ..)) (Nat.le_of_eq (Nat.add_assoc ..)) ?_
      refine J.sipush C (-1001) dL_law_820 (by decide) ?_
      refine J.icmp_neL (tgt := 943) C dL_law_823 (by decide) H (fun c_823 H => ?_) (fun c_823 H => ?_)
      · refine J.iconst C (0) dL_law_943 (by decide) ?_
        exact hend _ _ (ceR0 hcl rfl) (ceR0 hsl rfl) _ _ _ _ dL_law_944 H
      · refine J.aload_n (i := 1) C dL_law_826 rfl rfl ?_
        refine J.bipush C (9) dL_law_827 (by decide) ?_
        refine J.iload C dL_law_829 rfl ?_
        refine J.iconst C (0) dL_law_831 (by decide) ?_
        refine J.iconst C (0) dL_law_832 (by decide) ?_
        refine J.callH9 (hp := (dkh g ad rst)) C rfl (sp_L_does hl _ _ _ _) rfl kMl_L_265 mdL_does ⟨(Nat.le_of_ble_eq_true rfl), (Nat.le_of_ble_eq_true rfl)⟩ rfl (Nat.le_of_ble_eq_true rfl) dL_law_833 ⟨ceA0 hcl rfl, ceA0 hsl rfl⟩ H (fun E z e9 => by cases e9) (fun r833 s833 H => ?_)
        refine J.widen (Nat.le_of_eq (Nat.add_assoc ..)) (Nat.le_of_eq (Nat.add_assoc ..)) ?_
        refine J.sipush C (-1001) dL_law_836 (by decide) ?_
        refine J.icmp_neL (tgt := 943) C dL_law_839 (by decide) H (fun c_839 H => ?_) (fun c_839 H => ?_)
        · refine J.iconst C (0) dL_law_943 (by decide) ?_
          exact hend _ _ (ceR0 hcl rfl) (ceR0 hsl rfl) _ _ _ _ dL_law_944 H
        · refine J.lw (lv' := [(1, .ref (ad 0)), (3, .long l3), (6, .int l6), (7, .int l7)]) ⟨rfl, rfl, rfl, rfl, trivial⟩ ?_
          exact bl_L_law_842 hl C hL hX hbA hT hend _ _ (ceA0 hcl rfl) (ceA0 hsl rfl) _ _ _ _ H
def B_L_law_720 (L : Nat) (xs : Nat → Int32)  (σ : DS) (l3 : Int64) (l6 : Int32) (l7 : Int32) : Res DS Int32 := (bd (P_L_does σ (1 : Int32) (-1 : Int32) (0 : Int32) (0 : Int32)) fun r725 s725 => (if r725 = (-1001 : Int32) then (bd (P_L_does s725 (3 : Int32) l6 (0 : Int32) (0 : Int32)) fun r740 s740 => (if r740 = (-1001 : Int32) then (bd (P_L_does s740 (4 : Int32) l6 (-1 : Int32) (0 : Int32)) fun r755 s755 => (if r755 = (-1001 : Int32) then (bd (P_L_does s755 (5 : Int32) (-1 : Int32) (0 : Int32) (0 : Int32)) fun r769 s769 => (if r769 = (-1001 : Int32) then (B_L_law_778 L xs s769 l3 l6 l7) else (some (.inl (0 : Int32), s769)))) else (some (.inl (0 : Int32), s755)))) else (some (.inl (0 : Int32), s740)))) else (some (.inl (0 : Int32), s725))))
set_option maxRecDepth 100000 in
set_option maxHeartbeats 4000000 in
theorem bl_L_law_720 {l : Launch} (hl : l.stackTraces = false) {p : Program} {e : Env} {s : State} {m : MethodId} {args : Array Value} {below : List Frame} {meth : Method} {c : Code} {g : Gy} {ad : Nat → Nat} {rst : va_W} {A : Nat → Prop} {Q : State → Prop} {b L tA : Nat} {xs : Nat → Int32} (C : Cx p l s m args meth c g A RL cL_law 16) (hL : L ≤ 260) (hX : va_X b L xs s s.heap) (hbA : ¬ A b) (hT : TX tA A s) {v9 : Int32} {σ9 : DS} (hend : ∀ (cells slots : Nat), cells ≤ 640334 → slots ≤ 7169287 → ∀ (pc : Nat) (lv : List (Nat × Value)) (v : Int32) (σ : DS), decode cL_law pc = .ok (.ireturn, 1) → some ((.inl v, σ) : (Int32 ⊕ String) × DS) = some (.inl v9, σ9) → J p l e room_1 s m args below meth c g A 16 cells slots Q pc lv [.int v] (dkh g ad rst σ)) (cells slots : Nat) (hcl : cells + 1115 ≤ 640334) (hsl : slots + 6690 ≤ 7169287) (σ : DS) (l3 : Int64) (l6 : Int32) (l7 : Int32) (H : B_L_law_720 L xs σ l3 l6 l7 = some (.inl v9, σ9)) : J p l e room_1 s m args below meth c g A 16 cells slots Q 720 [(1, .ref (ad 0)), (3, .long l3), (6, .int l6), (7, .int l7)] [] (dkh g ad rst σ) := by
  unfold B_L_law_720 at H
  refine J.widen (k := cells + 0) (n := slots + 0) (Nat.le_refl _) (Nat.le_refl _) ?_
  refine J.aload_n (i := 1) C dL_law_720 rfl rfl ?_
  refine J.iconst C (1) dL_law_721 (by decide) ?_
  refine J.iconst C (-1) dL_law_722 (by decide) ?_
  refine J.iconst C (0) dL_law_723 (by decide) ?_
  refine J.iconst C (0) dL_law_724 (by decide) ?_
  refine J.callH9 (hp := (dkh g ad rst)) C rfl (sp_L_does hl _ _ _ _) rfl kMl_L_265 mdL_does ⟨(Nat.le_of_ble_eq_true rfl), (Nat.le_of_ble_eq_true rfl)⟩ rfl (Nat.le_of_ble_eq_true rfl) dL_law_725 ⟨ceA0 hcl rfl, ceA0 hsl rfl⟩ H (fun E z e9 => by cases e9) (fun r725 s725 H => ?_)
  refine J.widen (Nat.le_of_eq (Nat.add_assoc ..)) (Nat.le_of_eq (Nat.add_assoc ..)) ?_
  refine J.sipush C (-1001) dL_law_728 (by decide) ?_
  refine J.icmp_neL (tgt := 943) C dL_law_731 (by decide) H (fun c_731 H => ?_) (fun c_731 H => ?_)
  · refine J.iconst C (0) dL_law_943 (by decide) ?_
    exact hend _ _ (ceR0 hcl rfl) (ceR0 hsl rfl) _ _ _ _ dL_law_944 H
  · refine J.aload_n (i := 1) C dL_law_734 rfl rfl ?_
    refine J.iconst C (3) dL_law_735 (by decide) ?_
    refine J.iload C dL_law_736 rfl ?_
    refine J.iconst C (0) dL_law_738 (by decide) ?_
    refine J.iconst C (0) dL_law_739 (by decide) ?_
    refine J.callH9 (hp := (dkh g ad rst)) C rfl (sp_L_does hl _ _ _ _) rfl kMl_L_265 mdL_does ⟨(Nat.le_of_ble_eq_true rfl), (Nat.le_of_ble_eq_true rfl)⟩ rfl (Nat.le_of_ble_eq_true rfl) dL_law_740 ⟨ceA0 hcl rfl, ceA0 hsl rfl⟩ H (fun E z e9 => by cases e9) (fun r740 s740 H => ?_)
    refine J.widen (Nat.le_of_eq (Nat.add_assoc ..)) (Nat.le_of_eq (Nat.add_assoc ..)) ?_
    refine J.sipush C (-1001) dL_law_743 (by decide) ?_
    refine J.icmp_neL (tgt := 943) C dL_law_746 (by decide) H (fun c_746 H => ?_) (fun c_746 H => ?_)
    · refine J.iconst C (0) dL_law_943 (by decide) ?_
      exact hend _ _ (ceR0 hcl rfl) (ceR0 hsl rfl) _ _ _ _ dL_law_944 H
    · refine J.aload_n (i := 1) C dL_law_749 rfl rfl ?_
      refine J.iconst C (4) dL_law_750 (by decide) ?_
      refine J.iload C dL_law_751 rfl ?_
      refine J.iconst C (-1) dL_law_753 (by decide) ?_
      refine J.iconst C (0) dL_law_754 (by decide) ?_
      refine J.callH9 (hp := (dkh g ad rst)) C rfl (sp_L_does hl _ _ _ _) rfl kMl_L_265 mdL_does ⟨(Nat.le_of_ble_eq_true rfl), (Nat.le_of_ble_eq_true rfl)⟩ rfl (Nat.le_of_ble_eq_true rfl) dL_law_755 ⟨ceA0 hcl rfl, ceA0 hsl rfl⟩ H (fun E z e9 => by cases e9) (fun r755 s755 H => ?_)
      refine J.widen (Nat.le_of_eq (Nat.add_assoc ..)) (Nat.le_of_eq (Nat.add_assoc ..)) ?_
      refine J.sipush C (-1001) dL_law_758 (by decide) ?_
      refine J.icmp_neL (tgt := 943) C dL_law_761 (by decide) H (fun c_761 H => ?_) (fun c_761 H => ?_)
      · refine J.iconst C (0) dL_law_943 (by decide) ?_
        exact hend _ _ (ceR0 hcl rfl) (ceR0 hsl rfl) _ _ _ _ dL_law_944 H
      · refine J.aload_n (i := 1) C dL_law_764 rfl rfl ?_
        refine J.iconst C (5) dL_law_765 (by decide) ?_
        refine J.iconst C (-1) dL_law_766 (by decide) ?_
        refine J.iconst C (0) dL_law_767 (by decide) ?_
        refine J.iconst C (0) dL_law_768 (by decide) ?_
        refine J.callH9 (hp := (dkh g ad rst)) C rfl (sp_L_does hl _ _ _ _) rfl kMl_L_265 mdL_does ⟨(Nat.le_of_ble_eq_true rfl), (Nat.le_of_ble_eq_true rfl)⟩ rfl (Nat.le_of_ble_eq_true rfl) dL_law_769 ⟨ceA0 hcl rfl, ceA0 hsl rfl⟩ H (fun E z e9 => by cases e9) (fun r769 s769 H => ?_)
        refine J.widen (Nat.le_of_eq (Nat.add_assoc ..)) (Nat.le_of_eq (Nat.add_assoc ..)) ?_
        refine J.sipush C (-1001) dL_law_772 (by decide) ?_
        refine J.icmp_neL (tgt := 943) C dL_law_775 (by decide) H (fun c_775 H => ?_) (fun c_775 H => ?_)
        · refine J.iconst C (0) dL_law_943 (by decide) ?_
          exact hend _ _ (ceR0 hcl rfl) (ceR0 hsl rfl) _ _ _ _ dL_law_944 H
        · refine J.lw (lv' := [(1, .ref (ad 0)), (3, .long l3), (6, .int l6), (7, .int l7)]) ⟨rfl, rfl, rfl, rfl, trivial⟩ ?_
          exact bl_L_law_778 hl C hL hX hbA hT hend _ _ (ceA0 hcl rfl) (ceA0 hsl rfl) _ _ _ _ H
def B_L_law_666 (L : Nat) (xs : Nat → Int32)  (σ : DS) (l3 : Int64) (l5 : Int32) (l6 : Int32) (l7 : Int32) : Res DS Int32 := (bd (P_L_form σ (-1 : Int32)) fun r668 s668 => (if r668 = (-1001 : Int32) then (bd (P_L_tells s668 l5 (3 : Int32)) fun r681 s681 => (if r681 = (-1001 : Int32) then (bd (P_L_distance s681 l5 (1 : Int32)) fun r694 s694 => (if r694 = (-1001 : Int32) then (bd (P_L_does s694 (0 : Int32) l5 (0 : Int32) (0 : Int32)) fun r711 s711 => (if r711 = (-1001 : Int32) then (B_L_law_720 L xs s711 l3 l6 l7) else (some (.inl (0 : Int32), s711)))) else (some (.inl (0 : Int32), s694)))) else (some (.inl (0 : Int32), s681)))) else (some (.inl (0 : Int32), s668))))
set_option maxRecDepth 100000 in
set_option maxHeartbeats 4000000 in
theorem bl_L_law_666 {l : Launch} (hl : l.stackTraces = false) {p : Program} {e : Env} {s : State} {m : MethodId} {args : Array Value} {below : List Frame} {meth : Method} {c : Code} {g : Gy} {ad : Nat → Nat} {rst : va_W} {A : Nat → Prop} {Q : State → Prop} {b L tA : Nat} {xs : Nat → Int32} (C : Cx p l s m args meth c g A RL cL_law 16) (hL : L ≤ 260) (hX : va_X b L xs s s.heap) (hbA : ¬ A b) (hT : TX tA A s) {v9 : Int32} {σ9 : DS} (hend : ∀ (cells slots : Nat), cells ≤ 640334 → slots ≤ 7169287 → ∀ (pc : Nat) (lv : List (Nat × Value)) (v : Int32) (σ : DS), decode cL_law pc = .ok (.ireturn, 1) → some ((.inl v, σ) : (Int32 ⊕ String) × DS) = some (.inl v9, σ9) → J p l e room_1 s m args below meth c g A 16 cells slots Q pc lv [.int v] (dkh g ad rst σ)) (cells slots : Nat) (hcl : cells + 1130 ≤ 640334) (hsl : slots + 6780 ≤ 7169287) (σ : DS) (l3 : Int64) (l5 : Int32) (l6 : Int32) (l7 : Int32) (H : B_L_law_666 L xs σ l3 l5 l6 l7 = some (.inl v9, σ9)) : J p l e room_1 s m args below meth c g A 16 cells slots Q 666 [(1, .ref (ad 0)), (3, .long l3), (5, .int l5), (6, .int l6), (7, .int l7)] [] (dkh g ad rst σ) := by
  unfold B_L_law_666 at H
  refine J.widen (k := cells + 0) (n := slots + 0) (Nat.le_refl _) (Nat.le_refl _) ?_
  refine J.aload_n (i := 1) C dL_law_666 rfl rfl ?_
  refine J.iconst C (-1) dL_law_667 (by decide) ?_
  refine J.callH9 (hp := (dkh g ad rst)) C rfl (sp_L_form hl _) rfl kMl_L_219 mdL_form ⟨(Nat.le_of_ble_eq_true rfl), (Nat.le_of_ble_eq_true rfl)⟩ rfl (Nat.le_of_ble_eq_true rfl) dL_law_668 ⟨ceA0 hcl rfl, ceA0 hsl rfl⟩ H (fun E z e9 => by cases e9) (fun r668 s668 H => ?_)
  refine J.widen (Nat.le_of_eq (Nat.add_assoc ..)) (Nat.le_of_eq (Nat.add_assoc ..)) ?_
  refine J.sipush C (-1001) dL_law_671 (by decide) ?_
  refine J.icmp_neL (tgt := 703) C dL_law_674 (by decide) H (fun c_674 H => ?_) (fun c_674 H => ?_)
  · refine J.iconst C (0) dL_law_703 (by decide) ?_
    exact hend _ _ (ceR0 hcl rfl) (ceR0 hsl rfl) _ _ _ _ dL_law_704 H
  · refine J.aload_n (i := 1) C dL_law_677 rfl rfl ?_
    refine J.iload C dL_law_678 rfl ?_
    refine J.iconst C (3) dL_law_680 (by decide) ?_
    refine J.callH9 (hp := (dkh g ad rst)) C rfl (sp_L_tells hl _ _) rfl kMl_L_181 mdL_tells ⟨(Nat.le_of_ble_eq_true rfl), (Nat.le_of_ble_eq_true rfl)⟩ rfl (Nat.le_of_ble_eq_true rfl) dL_law_681 ⟨ceA0 hcl rfl, ceA0 hsl rfl⟩ H (fun E z e9 => by cases e9) (fun r681 s681 H => ?_)
    refine J.widen (Nat.le_of_eq (Nat.add_assoc ..)) (Nat.le_of_eq (Nat.add_assoc ..)) ?_
    refine J.sipush C (-1001) dL_law_684 (by decide) ?_
    refine J.icmp_neL (tgt := 703) C dL_law_687 (by decide) H (fun c_687 H => ?_) (fun c_687 H => ?_)
    · refine J.iconst C (0) dL_law_703 (by decide) ?_
      exact hend _ _ (ceR0 hcl rfl) (ceR0 hsl rfl) _ _ _ _ dL_law_704 H
    · refine J.aload_n (i := 1) C dL_law_690 rfl rfl ?_
      refine J.iload C dL_law_691 rfl ?_
      refine J.iconst C (1) dL_law_693 (by decide) ?_
      refine J.callH9 (hp := (dkh g ad rst)) C rfl (sp_L_distance hl _ _) rfl kMl_L_202 mdL_distance ⟨(Nat.le_of_ble_eq_true rfl), (Nat.le_of_ble_eq_true rfl)⟩ rfl (Nat.le_of_ble_eq_true rfl) dL_law_694 ⟨ceA0 hcl rfl, ceA0 hsl rfl⟩ H (fun E z e9 => by cases e9) (fun r694 s694 H => ?_)
      refine J.widen (Nat.le_of_eq (Nat.add_assoc ..)) (Nat.le_of_eq (Nat.add_assoc ..)) ?_
      refine J.sipush C (-1001) dL_law_697 (by decide) ?_
      refine J.icmp_eqL (tgt := 705) C dL_law_700 (by decide) H (fun c_700 H => ?_) (fun c_700 H => ?_)
      · refine J.aload_n (i := 1) C dL_law_705 rfl rfl ?_
        refine J.iconst C (0) dL_law_706 (by decide) ?_
        refine J.iload C dL_law_707 rfl ?_
        refine J.iconst C (0) dL_law_709 (by decide) ?_
        refine J.iconst C (0) dL_law_710 (by decide) ?_
        refine J.callH9 (hp := (dkh g ad rst)) C rfl (sp_L_does hl _ _ _ _) rfl kMl_L_265 mdL_does ⟨(Nat.le_of_ble_eq_true rfl), (Nat.le_of_ble_eq_true rfl)⟩ rfl (Nat.le_of_ble_eq_true rfl) dL_law_711 ⟨ceA0 hcl rfl, ceA0 hsl rfl⟩ H (fun E z e9 => by cases e9) (fun r711 s711 H => ?_)
        refine J.widen (Nat.le_of_eq (Nat.add_assoc ..)) (Nat.le_of_eq (Nat.add_assoc ..)) ?_
        refine J.sipush C (-1001) dL_law_714 (by decide) ?_
        refine J.icmp_neL (tgt := 943) C dL_law_717 (by decide) H (fun c_717 H => ?_) (fun c_717 H => ?_)
        · refine J.iconst C (0) dL_law_943 (by decide) ?_
          exact hend _ _ (ceR0 hcl rfl) (ceR0 hsl rfl) _ _ _ _ dL_law_944 H
        · refine J.lw (lv' := [(1, .ref (ad 0)), (3, .long l3), (6, .int l6), (7, .int l7)]) ⟨rfl, rfl, rfl, rfl, trivial⟩ ?_
          exact bl_L_law_720 hl C hL hX hbA hT hend _ _ (ceA0 hcl rfl) (ceA0 hsl rfl) _ _ _ _ H
      · refine J.iconst C (0) dL_law_703 (by decide) ?_
        exact hend _ _ (ceR0 hcl rfl) (ceR0 hsl rfl) _ _ _ _ dL_law_704 H
def B_L_law_615 (L : Nat) (xs : Nat → Int32)  (σ : DS) (l3 : Int64) (l5 : Int32) (l6 : Int32) (l7 : Int32) : Res DS Int32 := (bd (P_L_symbol σ l5 (0 : Int32)) fun r619 s619 => (if r619 = (-1001 : Int32) then (bd (P_L_binds s619 (5 : Int32) l5) fun r632 s632 => (if r632 = (-1001 : Int32) then (bd (P_L_binds s632 (0 : Int32) l5) fun r645 s645 => (if r645 = (-1002 : Int32) then (bd (P_L_step s645 l5) fun r657 s657 => (if r657 = (-1001 : Int32) then (B_L_law_666 L xs s657 l3 l5 l6 l7) else (some (.inl (0 : Int32), s657)))) else (some (.inl (0 : Int32), s645)))) else (some (.inl (0 : Int32), s632)))) else (some (.inl (0 : Int32), s619))))
set_option maxRecDepth 100000 in
set_option maxHeartbeats 4000000 in
theorem bl_L_law_615 {l : Launch} (hl : l.stackTraces = false) {p : Program} {e : Env} {s : State} {m : MethodId} {args : Array Value} {below : List Frame} {meth : Method} {c : Code} {g : Gy} {ad : Nat → Nat} {rst : va_W} {A : Nat → Prop} {Q : State → Prop} {b L tA : Nat} {xs : Nat → Int32} (C : Cx p l s m args meth c g A RL cL_law 16) (hL : L ≤ 260) (hX : va_X b L xs s s.heap) (hbA : ¬ A b) (hT : TX tA A s) {v9 : Int32} {σ9 : DS} (hend : ∀ (cells slots : Nat), cells ≤ 640334 → slots ≤ 7169287 → ∀ (pc : Nat) (lv : List (Nat × Value)) (v : Int32) (σ : DS), decode cL_law pc = .ok (.ireturn, 1) → some ((.inl v, σ) : (Int32 ⊕ String) × DS) = some (.inl v9, σ9) → J p l e room_1 s m args below meth c g A 16 cells slots Q pc lv [.int v] (dkh g ad rst σ)) (cells slots : Nat) (hcl : cells + 1138 ≤ 640334) (hsl : slots + 6828 ≤ 7169287) (σ : DS) (l3 : Int64) (l5 : Int32) (l6 : Int32) (l7 : Int32) (H : B_L_law_615 L xs σ l3 l5 l6 l7 = some (.inl v9, σ9)) : J p l e room_1 s m args below meth c g A 16 cells slots Q 615 [(1, .ref (ad 0)), (3, .long l3), (5, .int l5), (6, .int l6), (7, .int l7)] [] (dkh g ad rst σ) := by
  unfold B_L_law_615 at H
  refine J.widen (k := cells + 0) (n := slots + 0) (Nat.le_refl _) (Nat.le_refl _) ?_
  refine J.aload_n (i := 1) C dL_law_615 rfl rfl ?_
  refine J.iload C dL_law_616 rfl ?_
  refine J.iconst C (0) dL_law_618 (by decide) ?_
  refine J.callH9 (hp := (dkh g ad rst)) C rfl (sp_L_symbol hl _ _) rfl kMl_L_187 mdL_symbol ⟨(Nat.le_of_ble_eq_true rfl), (Nat.le_of_ble_eq_true rfl)⟩ rfl (Nat.le_of_ble_eq_true rfl) dL_law_619 ⟨ceA0 hcl rfl, ceA0 hsl rfl⟩ H (fun E z e9 => by cases e9) (fun r619 s619 H => ?_)
  refine J.widen (Nat.le_of_eq (Nat.add_assoc ..)) (Nat.le_of_eq (Nat.add_assoc ..)) ?_
  refine J.sipush C (-1001) dL_law_622 (by decide) ?_
  refine J.icmp_neL (tgt := 703) C dL_law_625 (by decide) H (fun c_625 H => ?_) (fun c_625 H => ?_)
  · refine J.iconst C (0) dL_law_703 (by decide) ?_
    exact hend _ _ (ceR0 hcl rfl) (ceR0 hsl rfl) _ _ _ _ dL_law_704 H
  · refine J.aload_n (i := 1) C dL_law_628 rfl rfl ?_
    refine J.iconst C (5) dL_law_629 (by decide) ?_
    refine J.iload C dL_law_630 rfl ?_
    refine J.callH9 (hp := (dkh g ad rst)) C rfl (sp_L_binds hl _ _) rfl kMl_L_255 mdL_binds ⟨(Nat.le_of_ble_eq_true rfl), (Nat.le_of_ble_eq_true rfl)⟩ rfl (Nat.le_of_ble_eq_true rfl) dL_law_632 ⟨ceA0 hcl rfl, ceA0 hsl rfl⟩ H (fun E z e9 => by cases e9) (fun r632 s632 H => ?_)
    refine J.widen (Nat.le_of_eq (Nat.add_assoc ..)) (Nat.le_of_eq (Nat.add_assoc ..)) ?_
    refine J.sipush C (-1001) dL_law_635 (by decide) ?_
    refine J.icmp_neL (tgt := 703) C dL_law_638 (by decide) H (fun c_638 H => ?_) (fun c_638 H => ?_)
    · refine J.iconst C (0) dL_law_703 (by decide) ?_
      exact hend _ _ (ceR0 hcl rfl) (ceR0 hsl rfl) _ _ _ _ dL_law_704 H
    · refine J.aload_n (i := 1) C dL_law_641 rfl rfl ?_
      refine J.iconst C (0) dL_law_642 (by decide) ?_
      refine J.iload C dL_law_643 rfl ?_
      refine J.callH9 (hp := (dkh g ad rst)) C rfl (sp_L_binds hl _ _) rfl kMl_L_255 mdL_binds ⟨(Nat.le_of_ble_eq_true rfl), (Nat.le_of_ble_eq_true rfl)⟩ rfl (Nat.le_of_ble_eq_true rfl) dL_law_645 ⟨ceA0 hcl rfl, ceA0 hsl rfl⟩ H (fun E z e9 => by cases e9) (fun r645 s645 H => ?_)
      refine J.widen (Nat.le_of_eq (Nat.add_assoc ..)) (Nat.le_of_eq (Nat.add_assoc ..)) ?_
      refine J.sipush C (-1002) dL_law_648 (by decide) ?_
      refine J.icmp_neL (tgt := 703) C dL_law_651 (by decide) H (fun c_651 H => ?_) (fun c_651 H => ?_)
      · refine J.iconst C (0) dL_law_703 (by decide) ?_
        exact hend _ _ (ceR0 hcl rfl) (ceR0 hsl rfl) _ _ _ _ dL_law_704 H
      · refine J.aload_n (i := 1) C dL_law_654 rfl rfl ?_
        refine J.iload C dL_law_655 rfl ?_
        refine J.callH9 (hp := (dkh g ad rst)) C rfl (sp_L_step hl _) rfl kMl_L_215 mdL_step ⟨(Nat.le_of_ble_eq_true rfl), (Nat.le_of_ble_eq_true rfl)⟩ rfl (Nat.le_of_ble_eq_true rfl) dL_law_657 ⟨ceA0 hcl rfl, ceA0 hsl rfl⟩ H (fun E z e9 => by cases e9) (fun r657 s657 H => ?_)
        refine J.widen (Nat.le_of_eq (Nat.add_assoc ..)) (Nat.le_of_eq (Nat.add_assoc ..)) ?_
        refine J.sipush C (-1001) dL_law_660 (by decide) ?_
        refine J.icmp_neL (tgt := 703) C dL_law_663 (by decide) H (fun c_663 H => ?_) (fun c_663 H => ?_)
        · refine J.iconst C (0) dL_law_703 (by decide) ?_
          exact hend _ _ (ceR0 hcl rfl) (ceR0 hsl rfl) _ _ _ _ dL_law_704 H
        · refine J.lw (lv' := [(1, .ref (ad 0)), (3, .long l3), (5, .int l5), (6, .int l6), (7, .int l7)]) ⟨rfl, rfl, rfl, rfl, rfl, trivial⟩ ?_
          exact bl_L_law_666 hl C hL hX hbA hT hend _ _ (ceA0 hcl rfl) (ceA0 hsl rfl) _ _ _ _ _ H
def B_L_law_541 (L : Nat) (xs : Nat → Int32)  (σ : DS) : Res DS Int32 := (bd (P_L_sum σ ) fun r542 s542 => (lt r542 fun z545 => (lt (F_X6_formulas s542 ) fun z550 => (lt (F_X6_lines s542 ) fun z556 => (lt (F_X6_boxes s542 ) fun z562 => (bd (P_L_letter s542 (-1 : Int32)) fun r566 s566 => (if r566 = (-1001 : Int32) then (bd (P_L_letter s566 (5 : Int32)) fun r577 s577 => (if r577 = (-1001 : Int32) then (bd (P_L_joins s577 (78 : Int32) z550 (0 : Int32)) fun r592 s592 => (if r592 = (-1001 : Int32) then (bd (P_L_joins s592 (75 : Int32) (-1 : Int32) (0 : Int32)) fun r606 s606 => (if r606 = (-1001 : Int32) then (B_L_law_615 L xs s606 z545 z550 z556 z562) else (some (.inl (0 : Int32), s606)))) else (some (.inl (0 : Int32), s592)))) else (some (.inl (0 : Int32), s577)))) else (some (.inl (0 : Int32), s566)))))))))
set_option maxRecDepth 100000 in
set_option maxHeartbeats 4000000 in
theorem bl_L_law_541 {l : Launch} (hl : l.stackTraces = false) {p : Program} {e : Env} {s : State} {m : MethodId} {args : Array Value} {below : List Frame} {meth : Method} {c : Code} {g : Gy} {ad : Nat → Nat} {rst : va_W} {A : Nat → Prop} {Q : State → Prop} {b L tA : Nat} {xs : Nat → Int32} (C : Cx p l s m args meth c g A RL cL_law 16) (hL : L ≤ 260) (hX : va_X b L xs s s.heap) (hbA : ¬ A b) (hT : TX tA A s) {v9 : Int32} {σ9 : DS} (hend : ∀ (cells slots : Nat), cells ≤ 640334 → slots ≤ 7169287 → ∀ (pc : Nat) (lv : List (Nat × Value)) (v : Int32) (σ : DS), decode cL_law pc = .ok (.ireturn, 1) → some ((.inl v, σ) : (Int32 ⊕ String) × DS) = some (.inl v9, σ9) → J p l e room_1 s m args below meth c g A 16 cells slots Q pc lv [.int v] (dkh g ad rst σ)) (cells slots : Nat) (hcl : cells + 2119 ≤ 640334) (hsl : slots + 12714 ≤ 7169287) (σ : DS) (H : B_L_law_541 L xs σ = some (.inl v9, σ9)) : J p l e room_1 s m args below meth c g A 16 cells slots Q 541 [(1, .ref (ad 0))] [] (dkh g ad rst σ) := by
  unfold B_L_law_541 at H
  refine J.widen (k := cells + 0) (n := slots + 0) (Nat.le_refl _) (Nat.le_refl _) ?_
  refine J.aload_n (i := 1) C dL_law_541 rfl rfl ?_
  refine J.callS9 (hp := (dkh g ad rst)) C rfl (sp_L_sum hl ) rfl kMl_L_236 mdL_sum ⟨(Nat.le_of_ble_eq_true rfl), (Nat.le_of_ble_eq_true rfl)⟩ rfl (Nat.le_of_ble_eq_true rfl) dL_law_542 ⟨ceA0 hcl rfl, ceA0 hsl rfl⟩ H (fun E z e9 => by cases e9) (fun r542 s542 H => ?_)
  refine J.widen (Nat.le_of_eq (Nat.add_assoc ..)) (Nat.le_of_eq (Nat.add_assoc ..)) ?_
  refine J.lstore_nL (i := 3) C dL_law_545 rfl (by decide) H (fun z545 H => ?_)
  refine J.aload_n (i := 1) C dL_law_546 rfl rfl ?_
  refine J.callVI C (sp_X6_formulas hl ) rfl kMl_L_156 mdX6_formulas ⟨(Nat.le_of_ble_eq_true rfl), (Nat.le_of_ble_eq_true rfl)⟩ dk_0 rfl rfl (Nat.le_of_ble_eq_true rfl) dL_law_547 ⟨ceA0 hcl rfl, ceA0 hsl rfl⟩ ?_
  refine J.widen (Nat.le_of_eq (Nat.add_assoc ..)) (Nat.le_of_eq (Nat.add_assoc ..)) ?_
  refine J.istoreL C dL_law_550 (by decide) H (fun z550 H => ?_)
  refine J.aload_n (i := 1) C dL_law_552 rfl rfl ?_
  refine J.callVI C (sp_X6_lines hl ) rfl kMl_L_161 mdX6_lines ⟨(Nat.le_of_ble_eq_true rfl), (Nat.le_of_ble_eq_true rfl)⟩ dk_0 rfl rfl (Nat.le_of_ble_eq_true rfl) dL_law_553 ⟨ceA0 hcl rfl, ceA0 hsl rfl⟩ ?_
  refine J.widen (Nat.le_of_eq (Nat.add_assoc ..)) (Nat.le_of_eq (Nat.add_assoc ..)) ?_
  refine J.istoreL C dL_law_556 (by decide) H (fun z556 H => ?_)
  refine J.aload_n (i := 1) C dL_law_558 rfl rfl ?_
  refine J.callVI C (sp_X6_boxes hl ) rfl kMl_L_166 mdX6_boxes ⟨(Nat.le_of_ble_eq_true rfl), (Nat.le_of_ble_eq_true rfl)⟩ dk_0 rfl rfl (Nat.le_of_ble_eq_true rfl) dL_law_559 ⟨ceA0 hcl rfl, ceA0 hsl rfl⟩ ?_
  refine J.widen (Nat.le_of_eq (Nat.add_assoc ..)) (Nat.le_of_eq (Nat.add_assoc ..)) ?_
  refine J.istoreL C dL_law_562 (by decide) H (fun z562 H => ?_)
  refine J.aload_n (i := 1) C dL_law_564 rfl rfl ?_
  refine J.iconst C (-1) dL_law_565 (by decide) ?_
  refine J.callH9 (hp := (dkh g ad rst)) C rfl (sp_L_letter hl _) rfl kMl_L_240 mdL_letter ⟨(Nat.le_of_ble_eq_true rfl), (Nat.le_of_ble_eq_true rfl)⟩ rfl (Nat.le_of_ble_eq_true rfl) dL_law_566 ⟨ceA0 hcl rfl, ceA0 hsl rfl⟩ H (fun E z e9 => by cases e9) (fun r566 s566 H => ?_)
  refine J.widen (Nat.le_of_eq (Nat.add_assoc ..)) (Nat.le_of_eq (Nat.add_assoc ..)) ?_
  refine J.sipush C (-1001) dL_law_569 (by decide) ?_
  refine J.icmp_neL (tgt := 703) C dL_law_572 (by decide) H (fun c_572 H => ?_) (fun c_572 H => ?_)
  · refine J.iconst C (0) dL_law_703 (by decide) ?_
    exact hend _ _ (ceR0 hcl rfl) (ceR0 hsl rfl) _ _ _ _ dL_law_704 H
  · refine J.aload_n (i := 1) C dL_law_575 rfl rfl ?_
    refine J.iconst C (5) dL_law_576 (by decide) ?_
    refine J.callH9 (hp := (dkh g ad rst)) C rfl (sp_L_letter hl _) rfl kMl_L_240 mdL_letter ⟨(Nat.le_of_ble_eq_true rfl), (Nat.le_of_ble_eq_true rfl)⟩ rfl (Nat.le_of_ble_eq_true rfl) dL_law_577 ⟨ceA0 hcl rfl, ceA0 hsl rfl⟩ H (fun E z e9 => by cases e9) (fun r577 s577 H => ?_)
    refine J.widen (Nat.le_of_eq (Nat.add_assoc ..)) (Nat.le_of_eq (Nat.add_assoc ..)) ?_
    refine J.sipush C (-1001) dL_law_580 (by decide) ?_
    refine J.icmp_neL (tgt := 703) C dL_law_583 (by decide) H (fun c_583 H => ?_) (fun c_583 H => ?_)
    · refine J.iconst C (0) dL_law_703 (by decide) ?_
      exact hend _ _ (ceR0 hcl rfl) (ceR0 hsl rfl) _ _ _ _ dL_law_704 H
    · refine J.aload_n (i := 1) C dL_law_586 rfl rfl ?_
      refine J.bipush C (78) dL_law_587 (by decide) ?_
      refine J.iload C dL_law_589 rfl ?_
      refine J.iconst C (0) dL_law_591 (by decide) ?_
      refine J.callH9 (hp := (dkh g ad rst)) C rfl (sp_L_joins hl _ _ _) rfl kMl_L_251 mdL_joins ⟨(Nat.le_of_ble_eq_true rfl), (Nat.le_of_ble_eq_true rfl)⟩ rfl (Nat.le_of_ble_eq_true rfl) dL_law_592 ⟨ceA0 hcl rfl, ceA0 hsl rfl⟩ H (fun E z e9 => by cases e9) (fun r592 s592 H => ?_)
      refine J.widen (Nat.le_of_eq (Nat.add_assoc ..)) (Nat.le_of_eq (Nat.add_assoc ..)) ?_
      refine J.sipush C (-1001) dL_law_595 (by decide) ?_
      refine J.icmp_neL (tgt := 703) C dL_law_598 (by decide) H (fun c_598 H => ?_) (fun c_598 H => ?_)
      · refine J.iconst C (0) dL_law_703 (by decide) ?_
        exact hend _ _ (ceR0 hcl rfl) (ceR0 hsl rfl) _ _ _ _ dL_law_704 H
      · refine J.aload_n (i := 1) C dL_law_601 rfl rfl ?_
        refine J.bipush C (75) dL_law_602 (by decide) ?_
        refine J.iconst C (-1) dL_law_604 (by decide) ?_
        refine J.iconst C (0) dL_law_605 (by decide) ?_
        refine J.callH9 (hp := (dkh g ad rst)) C rfl (sp_L_joins hl _ _ _) rfl kMl_L_251 mdL_joins ⟨(Nat.le_of_ble_eq_true rfl), (Nat.le_of_ble_eq_true rfl)⟩ rfl (Nat.le_of_ble_eq_true rfl) dL_law_606 ⟨ceA0 hcl rfl, ceA0 hsl rfl⟩ H (fun E z e9 => by cases e9) (fun r606 s606 H => ?_)
        refine J.widen (Nat.le_of_eq (Nat.add_assoc ..)) (Nat.le_of_eq (Nat.add_assoc ..)) ?_
        refine J.sipush C (-1001) dL_law_609 (by decide) ?_
        refine J.icmp_neL (tgt := 703) C dL_law_612 (by decide) H (fun c_612 H => ?_) (fun c_612 H => ?_)
        · refine J.iconst C (0) dL_law_703 (by decide) ?_
          exact hend _ _ (ceR0 hcl rfl) (ceR0 hsl rfl) _ _ _ _ dL_law_704 H
        · refine J.lw (lv' := [(1, .ref (ad 0)), (3, .long z545), (5, .int z550), (6, .int z556), (7, .int z562)]) ⟨rfl, rfl, rfl, rfl, rfl, trivial⟩ ?_
          exact bl_L_law_615 hl C hL hX hbA hT hend _ _ (ceA0 hcl rfl) (ceA0 hsl rfl) _ _ _ _ _ H
def B_L_law_21 (L : Nat) (xs : Nat → Int32)  (k_21 : DS → Int32 → Int32 → Res DS Int32) (σ : DS) (l2 : Int32) (l3 : Int32) : Res DS Int32 := (if l2 ≤ l3 then (bd (P_L_isSound σ ) fun r533 s533 => (if r533 = 0 then (some (.inl (0 : Int32), s533)) else (B_L_law_541 L xs s533))) else (gc (¬ ((1 : Int32) + l3) < 0) (bd (P_L_some σ (xat L xs ((1 : Int32) + l3)) (100000000 : Int32)) fun r35 s35 => (lt r35 fun z38 => (lt (z38 / (48 : Int32)) fun z45 => (lt (imx (1 : Int32) (F_X6_formulas s35 )) fun z55 => (lt (imx (1 : Int32) (F_X6_lines s35 )) fun z65 => (lt (imx (1 : Int32) (F_X6_boxes s35 )) fun z75 => (bd (P_L_sum s35 ) fun r78 s78 => (lt r78 fun z81 => (lt (0 : Int32) fun z84 => (lt (irm z38 (48 : Int32)) fun z91 => (if (4 : Int32) ≤ z91 then (B_L_law_112 L xs k_21 s78 l2 l3 z45 z55 z65 z75 z81 z84 z91) else (B_L_law_99 L xs k_21 s78 l2 l3 z45 z81))))))))))))))
set_option maxRecDepth 100000 in
set_option maxHeartbeats 4000000 in
theorem bl_L_law_21 {l : Launch} (hl : l.stackTraces = false) {p : Program} {e : Env} {s : State} {m : MethodId} {args : Array Value} {below : List Frame} {meth : Method} {c : Code} {g : Gy} {ad : Nat → Nat} {rst : va_W} {A : Nat → Prop} {Q : State → Prop} {b L tA : Nat} {xs : Nat → Int32} (C : Cx p l s m args meth c g A RL cL_law 16) (hL : L ≤ 260) (hX : va_X b L xs s s.heap) (hbA : ¬ A b) (hT : TX tA A s) {v9 : Int32} {σ9 : DS} (hend : ∀ (cells slots : Nat), cells ≤ 640334 → slots ≤ 7169287 → ∀ (pc : Nat) (lv : List (Nat × Value)) (v : Int32) (σ : DS), decode cL_law pc = .ok (.ireturn, 1) → some ((.inl v, σ) : (Int32 ⊕ String) × DS) = some (.inl v9, σ9) → J p l e room_1 s m args below meth c g A 16 cells slots Q pc lv [.int v] (dkh g ad rst σ)) (n : Nat) (k_21 : DS → Int32 → Int32 → Res DS Int32) (hk_21 : ∀ (cells slots : Nat), cells + (n * 4419 + 4583) ≤ 640334 → slots + (n * 26514 + 27498) ≤ 7169287 → ∀ (σ : DS) (l2 : Int32) (l3 : Int32), k_21 σ l2 l3 = some (.inl v9, σ9) → J p l e room_1 s m args below meth c g A 16 cells slots Q 21 [(0, .ref b), (1, .ref (ad 0)), (2, .int l2), (3, .int l3)] [] (dkh g ad rst σ)) (cells slots : Nat) (hcl : cells + (n * 4419 + 9002) ≤ 640334) (hsl : slots + (n * 26514 + 54012) ≤ 7169287) (σ : DS) (l2 : Int32) (l3 : Int32) (H : B_L_law_21 L xs k_21 σ l2 l3 = some (.inl v9, σ9)) : J p l e room_1 s m args below meth c g A 16 cells slots Q 21 [(0, .ref b), (1, .ref (ad 0)), (2, .int l2), (3, .int l3)] [] (dkh g ad rst σ) := by
  unfold B_L_law_21 at H
  refine J.widen (k := cells + 0) (n := slots + 0) (Nat.le_refl _) (Nat.le_refl _) ?_
  refine J.iload_n (i := 3) C dL_law_21 rfl rfl ?_
  refine J.iload_n (i := 2) C dL_law_22 rfl rfl ?_
  refine J.icmp_geL (tgt := 532) C dL_law_23 (by decide) H (fun c_23 H => ?_) (fun c_23 H => ?_)
  · refine J.aload_n (i := 1) C dL_law_532 rfl rfl ?_
    refine J.callS9 (hp := (dkh g ad rst)) C rfl (sp_L_isSound hl ) rfl kMl_L_269 mdL_isSound ⟨(Nat.le_of_ble_eq_true rfl), (Nat.le_of_ble_eq_true rfl)⟩ rfl (Nat.le_of_ble_eq_true rfl) dL_law_533 ⟨ceA hcl rfl, ceA hsl rfl⟩ H (fun E z e9 => by cases e9) (fun r533 s533 H => ?_)
    refine J.widen (Nat.le_of_eq (Nat.add_assoc ..)) (Nat.le_of_eq (Nat.add_assoc ..)) ?_
    refine J.if_neL (tgt := 541) C dL_law_536 (by decide) H (fun c_536 H => ?_) (fun c_536 H => ?_)
    · refine J.lw (lv' := [(1, .ref (ad 0))]) ⟨rfl, trivial⟩ ?_
      exact bl_L_law_541 hl C hL hX hbA hT hend _ _ (ceA hcl rfl) (ceA hsl rfl) _ H
    · refine J.iconst C (0) dL_law_539 (by decide) ?_
      exact hend _ _ (ceR hcl rfl) (ceR hsl rfl) _ _ _ _ dL_law_540 H
  · refine J.aload_n (i := 0) C dL_law_26 rfl rfl ?_
    refine J.iconst C (1) dL_law_27 (by decide) ?_
    refine J.iload_n (i := 3) C dL_law_28 rfl rfl ?_
    refine J.iadd C dL_law_29 ?_
    obtain ⟨hz_30, H⟩ := gc_some H
    refine J.at C hl hL hX hbA hz_30 kMl_L_223 ⟨(Nat.le_of_ble_eq_true rfl), (Nat.le_of_ble_eq_true rfl)⟩ (Nat.le_of_ble_eq_true rfl) ⟨ceR hcl rfl, ceR hsl rfl⟩ dL_law_30 ?_
    refine J.ldci C kCn_L_230 dL_law_33 ?_
    refine J.callS9 (hp := (dkh g ad rst)) C rfl (sp_L_some hl _ _) rfl kMl_L_227 mdL_some ⟨(Nat.le_of_ble_eq_true rfl), (Nat.le_of_ble_eq_true rfl)⟩ rfl (Nat.le_of_ble_eq_true rfl) dL_law_35 ⟨ceA hcl rfl, ceA hsl rfl⟩ H (fun E z e9 => by cases e9) (fun r35 s35 H => ?_)
    refine J.widen (Nat.le_of_eq (Nat.add_assoc ..)) (Nat.le_of_eq (Nat.add_assoc ..)) ?_
    refine J.istoreL C dL_law_38 (by decide) H (fun z38 H => ?_)
    refine J.iload C dL_law_40 rfl ?_
    refine J.bipush C (48) dL_law_42 (by decide) ?_
    refine J.idiv C dL_law_44 (by decide) ?_
    refine J.istoreL C dL_law_45 (by decide) H (fun z45 H => ?_)
    refine J.iconst C (1) dL_law_47 (by decide) ?_
    refine J.aload_n (i := 1) C dL_law_48 rfl rfl ?_
    refine J.callVI C (sp_X6_formulas hl ) rfl kMl_L_156 mdX6_formulas ⟨(Nat.le_of_ble_eq_true rfl), (Nat.le_of_ble_eq_true rfl)⟩ dk_0 rfl rfl (Nat.le_of_ble_eq_true rfl) dL_law_49 ⟨ceA hcl rfl, ceA hsl rfl⟩ ?_
    refine J.widen (Nat.le_of_eq (Nat.add_assoc ..)) (Nat.le_of_eq (Nat.add_assoc ..)) ?_
    refine J.mmax C kMl_L_231 ⟨(Nat.le_of_ble_eq_true rfl), (Nat.le_of_ble_eq_true rfl), ceR hcl rfl, ceR hsl rfl⟩ dL_law_52 ?_
    refine J.istoreL C dL_law_55 (by decide) H (fun z55 H => ?_)
    refine J.iconst C (1) dL_law_57 (by decide) ?_
    refine J.aload_n (i := 1) C dL_law_58 rfl rfl ?_
    refine J.callVI C (sp_X6_lines hl ) rfl kMl_L_161 mdX6_lines ⟨(Nat.le_of_ble_eq_true rfl), (Nat.le_of_ble_eq_true rfl)⟩ dk_0 rfl rfl (Nat.le_of_ble_eq_true rfl) dL_law_59 ⟨ceA hcl rfl, ceA hsl rfl⟩ ?_
    refine J.widen (Nat.le_of_eq (Nat.add_assoc ..)) (Nat.le_of_eq (Nat.add_assoc ..)) ?_
    refine J.mmax C kMl_L_231 ⟨(Nat.le_of_ble_eq_true rfl), (Nat.le_of_ble_eq_true rfl), ceR hcl rfl, ceR hsl rfl⟩ dL_law_62 ?_
    refine J.istoreL C dL_law_65 (by decide) H (fun z65 H => ?_)
    refine J.iconst C (1) dL_law_67 (by decide) ?_
    refine J.aload_n (i := 1) C dL_law_68 rfl rfl ?_
    refine J.callVI C (sp_X6_boxes hl ) rfl kMl_L_166 mdX6_boxes ⟨(Nat.le_of_ble_eq_true rfl), (Nat.le_of_ble_eq_true rfl)⟩ dk_0 rfl rfl (Nat.le_of_ble_eq_true rfl) dL_law_69 ⟨ceA hcl rfl, ceA hsl rfl⟩ ?_
    refine J.widen (Nat.le_of_eq (Nat.add_assoc ..)) (Nat.le_of_eq (Nat.add_assoc ..)) ?_
    refine J.mmax C kMl_L_231 ⟨(Nat.le_of_ble_eq_true rfl), (Nat.le_of_ble_eq_true rfl), ceR hcl rfl, ceR hsl rfl⟩ dL_law_72 ?_
    refine J.istoreL C dL_law_75 (by decide) H (fun z75 H => ?_)
    refine J.aload_n (i := 1) C dL_law_77 rfl rfl ?_
    refine J.callS9 (hp := (dkh g ad rst)) C rfl (sp_L_sum hl ) rfl kMl_L_236 mdL_sum ⟨(Nat.le_of_ble_eq_true rfl), (Nat.le_of_ble_eq_true rfl)⟩ rfl (Nat.le_of_ble_eq_true rfl) dL_law_78 ⟨ceA hcl rfl, ceA hsl rfl⟩ H (fun E z e9 => by cases e9) (fun r78 s78 H => ?_)
    refine J.widen (Nat.le_of_eq (Nat.add_assoc ..)) (Nat.le_of_eq (Nat.add_assoc ..)) ?_
    refine J.lstoreL C dL_law_81 (by decide) H (fun z81 H => ?_)
    refine J.iconst C (0) dL_law_83 (by decide) ?_
    refine J.istoreL C dL_law_84 (by decide) H (fun z84 H => ?_)
    refine J.iload C dL_law_86 rfl ?_
    refine J.bipush C (48) dL_law_88 (by decide) ?_
    refine J.irem C dL_law_90 (by decide) ?_
    refine J.istoreL C dL_law_91 (by decide) H (fun z91 H => ?_)
    refine J.iload C dL_law_93 rfl ?_
    refine J.iconst C (4) dL_law_95 (by decide) ?_
    refine J.icmp_geL (tgt := 112) C dL_law_96 (by decide) H (fun c_96 H => ?_) (fun c_96 H => ?_)
    · refine J.lw (lv' := [(0, .ref b), (1, .ref (ad 0)), (2, .int l2), (3, .int l3), (5, .int z45), (6, .int z55), (7, .int z65), (8, .int z75), (9, .long z81), (11, .int z84), (12, .int z91)]) ⟨rfl, rfl, rfl, rfl, rfl, rfl, rfl, rfl, rfl, rfl, rfl, trivial⟩ ?_
      exact bl_L_law_112 hl C hL hX hbA hT hend n k_21 hk_21 _ _ (ceB hcl rfl) (ceB hsl rfl) _ _ _ _ _ _ _ _ _ _ H
    · refine J.lw (lv' := [(0, .ref b), (1, .ref (ad 0)), (2, .int l2), (3, .int l3), (5, .int z45), (9, .long z81)]) ⟨rfl, rfl, rfl, rfl, rfl, rfl, trivial⟩ ?_
      exact bl_L_law_99 hl C hL hX hbA hT hend n k_21 hk_21 _ _ (ceB hcl rfl) (ceB hsl rfl) _ _ _ _ _ H
def L_L_law_21 (L : Nat) (xs : Nat → Int32) : Nat → DS → Int32 → Int32 → Res DS Int32
  | 0, _, _, _ => none
  | n + 1, σ, l2, l3 => B_L_law_21 L xs (L_L_law_21 L xs n) σ l2 l3
set_option maxRecDepth 100000 in
theorem lp_L_law_21 {l : Launch} (hl : l.stackTraces = false) {p : Program} {e : Env} {s : State} {m : MethodId} {args : Array Value} {below : List Frame} {meth : Method} {c : Code} {g : Gy} {ad : Nat → Nat} {rst : va_W} {A : Nat → Prop} {Q : State → Prop} {b L tA : Nat} {xs : Nat → Int32} (C : Cx p l s m args meth c g A RL cL_law 16) (hL : L ≤ 260) (hX : va_X b L xs s s.heap) (hbA : ¬ A b) (hT : TX tA A s) {v9 : Int32} {σ9 : DS} (hend : ∀ (cells slots : Nat), cells ≤ 640334 → slots ≤ 7169287 → ∀ (pc : Nat) (lv : List (Nat × Value)) (v : Int32) (σ : DS), decode cL_law pc = .ok (.ireturn, 1) → some ((.inl v, σ) : (Int32 ⊕ String) × DS) = some (.inl v9, σ9) → J p l e room_1 s m args below meth c g A 16 cells slots Q pc lv [.int v] (dkh g ad rst σ)) : ∀ (n : Nat) (cells slots : Nat), cells + (n * 4419 + 4583) ≤ 640334 → slots + (n * 26514 + 27498) ≤ 7169287 → ∀ (σ : DS) (l2 : Int32) (l3 : Int32), L_L_law_21 L xs n σ l2 l3 = some (.inl v9, σ9) → J p l e room_1 s m args below meth c g A 16 cells slots Q 21 [(0, .ref b), (1, .ref (ad 0)), (2, .int l2), (3, .int l3)] [] (dkh g ad rst σ) := by
  intro n
  induction n with
  | zero => intro cells slots _ _ σ l2 l3 H; cases H
  | succ n ih => intro cells slots hcl hsl σ l2 l3 H; exact bl_L_law_21 hl C hL hX hbA hT hend n _ ih _ _ (ceS hcl rfl) (ceS hsl rfl) _ _ _ H
