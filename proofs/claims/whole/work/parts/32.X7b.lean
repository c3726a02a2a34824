/-! X7_keepLemma -/
def B_X7_keepLemma_111 (k_111 : MS → Int32 → Res MS Int32) (σ : MS) (l2 : Int32) : Res MS Int32 := (if (σ.1 1) ≤ l2 then (gd ((σ.1 1) - (1 : Int32)) 60 (gd (σ.1 4) 8 (lt (tA σ 14 (upd (σ.2.1 14) (σ.1 4).toNatClampNeg (σ.2.1 6 ((σ.1 1) - (1 : Int32)).toNatClampNeg))) fun s193 => (lt (tI s193 4 ((s193.1 4) + (1 : Int32))) fun s201 => (some (.inl ((s201.1 4) - (1 : Int32)), s201)))))) else (gd l2 60 (if (σ.2.1 7 l2.toNatClampNeg) = (80 : Int32) then (gd (σ.1 4) 8 (gd (σ.1 4) 8 (gd l2 60 (gd (σ.2.1 13 (σ.1 4).toNatClampNeg) 2 (lt (tP σ (σ.1 4).toNatClampNeg (upd (σ.2.2.2 (σ.1 4).toNatClampNeg) (σ.2.1 13 (σ.1 4).toNatClampNeg).toNatClampNeg (σ.2.1 6 l2.toNatClampNeg))) fun s154 => (gd (s154.1 4) 8 (gd (s154.1 4) 8 (lt (tA s154 13 (upd (s154.2.1 13) (s154.1 4).toNatClampNeg ((s154.2.1 13 (s154.1 4).toNatClampNeg) + (1 : Int32)))) fun s167 => (lt (l2 + (1 : Int32)) fun z168 => (k_111 s167 z168)))))))))) else (lt (l2 + (1 : Int32)) fun z168 => (k_111 σ z168)))))
set_option maxRecDepth 100000 in
theorem bl_X7_keepLemma_111 {l : Launch} (hl : l.stackTraces = false) {g : Gy} {bd : Nat → Nat} {pre rst : va_W} {p : Program} {e : Env} {s : State} {m : MethodId} {args : Array Value} {below : List Frame} {meth : Method} {c : Code} {A : Nat → Prop} (C : Cx p l s m args meth c g A yX7_keepLemma.cls cX7_keepLemma 3) (hr : meth.sig.returnType = some .int) (hx : ∀ x ∈ c.exceptionTable.toList, False) {rr : (Int32 ⊕ String) × MS} (k_111 : MS → Int32 → Res MS Int32) (hk_111 : ∀ (σ : MS) (l2 : Int32), k_111 σ l2 = some rr → J p l e (rmOf 1 0 0) s m args below meth c g A 3 0 0 (QR mI g A (mkh g bd pre rst) rr below args s 0 0) 111 [(0, .ref (bd 0)), (2, .int l2)] [] ((mkh g bd pre rst) σ)) (σ : MS) (l2 : Int32) (H : B_X7_keepLemma_111 k_111 σ l2 = some rr) : J p l e (rmOf 1 0 0) s m args below meth c g A 3 0 0 (QR mI g A (mkh g bd pre rst) rr below args s 0 0) 111 [(0, .ref (bd 0)), (2, .int l2)] [] ((mkh g bd pre rst) σ) := by
  unfold B_X7_keepLemma_111 at H
  refine J.iload_n (i := 2) C dX7_keepLemma_111 rfl rfl ?_
  refine J.aload_n (i := 0) C dX7_keepLemma_112 rfl rfl ?_
  refine J.get C (pre.length + 0) 11 mk_0 rfl (by decide) kFl_X7_94 inB_X7 rfl dX7_keepLemma_113 ?_
  refine J.icmp_geL (tgt := 174) C dX7_keepLemma_116 (by decide) H (fun c_116 H => ?_) (fun c_116 H => ?_)
  · refine J.aload_n (i := 0) C dX7_keepLemma_174 rfl rfl ?_
    refine J.get C (pre.length + 0) 20 mk_0 rfl (by decide) kFl_X7_66 inB_X7 rfl dX7_keepLemma_175 ?_
    refine J.aload_n (i := 0) C dX7_keepLemma_178 rfl rfl ?_
    refine J.get C (pre.length + 0) 21 mk_0 rfl (by decide) kFl_X7_177 inB_X7 rfl dX7_keepLemma_179 ?_
    refine J.aload_n (i := 0) C dX7_keepLemma_182 rfl rfl ?_
    refine J.get C (pre.length + 0) 7 mk_0 rfl (by decide) kFl_X7_29 inB_X7 rfl dX7_keepLemma_183 ?_
    refine J.aload_n (i := 0) C dX7_keepLemma_186 rfl rfl ?_
    refine J.get C (pre.length + 0) 11 mk_0 rfl (by decide) kFl_X7_94 inB_X7 rfl dX7_keepLemma_187 ?_
    refine J.iconst C (1) dX7_keepLemma_190 (by decide) ?_
    refine J.isub C dX7_keepLemma_191 ?_
    refine J.ialdL C (pre.length + 7) mk_7 dX7_keepLemma_192 H (fun H => ?_)
    refine J.iastL (hp := (mkh g bd pre rst)) C (pre.length + 15) mk_15 dX7_keepLemma_193 (mkA_14 _) H (fun s193 H => ?_)
    refine J.aload_n (i := 0) C dX7_keepLemma_194 rfl rfl ?_
    refine J.dup C dX7_keepLemma_195 rfl ?_
    refine J.get C (pre.length + 0) 21 mk_0 rfl (by decide) kFl_X7_177 inB_X7 rfl dX7_keepLemma_196 ?_
    refine J.iconst C (1) dX7_keepLemma_199 (by decide) ?_
    refine J.iadd C dX7_keepLemma_200 ?_
    refine J.putL (hp := (mkh g bd pre rst)) C (pre.length + 0) 21 mk_0 rfl (by decide) kFl_X7_177 inB_X7 tyX7 tyX7_ok nmX7 rfl rfl rfl rfl (Nat.le_of_ble_eq_true rfl) dX7_keepLemma_201 (mkI_4 _) H (fun s201 H => ?_)
    refine J.aload_n (i := 0) C dX7_keepLemma_204 rfl rfl ?_
    refine J.get C (pre.length + 0) 21 mk_0 rfl (by decide) kFl_X7_177 inB_X7 rfl dX7_keepLemma_205 ?_
    refine J.iconst C (1) dX7_keepLemma_208 (by decide) ?_
    refine J.isub C dX7_keepLemma_209 ?_
    exact J.iretL C hr (Nat.le_of_ble_eq_true rfl) (Nat.le_of_ble_eq_true rfl) dX7_keepLemma_210 H
  · refine J.aload_n (i := 0) C dX7_keepLemma_119 rfl rfl ?_
    refine J.get C (pre.length + 0) 8 mk_0 rfl (by decide) kFl_X7_32 inB_X7 rfl dX7_keepLemma_120 ?_
    refine J.iload_n (i := 2) C dX7_keepLemma_123 rfl rfl ?_
    refine J.caldL C (pre.length + 8) mk_8 dX7_keepLemma_124 H (fun H => ?_)
    refine J.bipush C (80) dX7_keepLemma_125 (by decide) ?_
    refine J.icmp_neL (tgt := 168) C dX7_keepLemma_127 (by decide) H (fun c_127 H => ?_) (fun c_127 H => ?_)
    · refine J.iincL C (l2 + (1 : Int32)) dX7_keepLemma_168 rfl rfl (by decide) H (fun z168 H => ?_)
      refine J.goto (tgt := 111) C dX7_keepLemma_171 (by decide) ?_
      refine J.widen (k := 0) (n := 0) (Nat.le_of_ble_eq_true rfl) (Nat.le_of_ble_eq_true rfl) ?_
      refine J.lw (lv' := [(0, .ref (bd 0)), (2, .int z168)]) ⟨rfl, rfl, trivial⟩ ?_
      exact hk_111 _ _  H
    · refine J.aload_n (i := 0) C dX7_keepLemma_130 rfl rfl ?_
      refine J.get C (pre.length + 0) 18 mk_0 rfl (by decide) kFl_X7_60 inB_X7 rfl dX7_keepLemma_131 ?_
      refine J.aload_n (i := 0) C dX7_keepLemma_134 rfl rfl ?_
      refine J.get C (pre.length + 0) 21 mk_0 rfl (by decide) kFl_X7_177 inB_X7 rfl dX7_keepLemma_135 ?_
      refine J.aaldR C (pre.length + 22) mk_22 (fun j hj => if_pos hj) dX7_keepLemma_138 H (fun hi_138_42 H => ?_)
      refine J.aload_n (i := 0) C dX7_keepLemma_139 rfl rfl ?_
      refine J.get C (pre.length + 0) 19 mk_0 rfl (by decide) kFl_X7_63 inB_X7 rfl dX7_keepLemma_140 ?_
      refine J.aload_n (i := 0) C dX7_keepLemma_143 rfl rfl ?_
      refine J.get C (pre.length + 0) 21 mk_0 rfl (by decide) kFl_X7_177 inB_X7 rfl dX7_keepLemma_144 ?_
      refine J.ialdL C (pre.length + 14) mk_14 dX7_keepLemma_147 H (fun H => ?_)
      refine J.aload_n (i := 0) C dX7_keepLemma_148 rfl rfl ?_
      refine J.get C (pre.length + 0) 7 mk_0 rfl (by decide) kFl_X7_29 inB_X7 rfl dX7_keepLemma_149 ?_
      refine J.iload_n (i := 2) C dX7_keepLemma_152 rfl rfl ?_
      refine J.ialdL C (pre.length + 7) mk_7 dX7_keepLemma_153 H (fun H => ?_)
      refine J.iastL (hp := (mkh g bd pre rst)) C (pre.length + (83 + (σ.1 4).toNatClampNeg)) (gP_get (vp_lt hi_138_42)) dX7_keepLemma_154 (gP_set (vp_lt hi_138_42) _) H (fun s154 H => ?_)
      refine J.aload_n (i := 0) C dX7_keepLemma_155 rfl rfl ?_
      refine J.get C (pre.length + 0) 19 mk_0 rfl (by decide) kFl_X7_63 inB_X7 rfl dX7_keepLemma_156 ?_
      refine J.aload_n (i := 0) C dX7_keepLemma_159 rfl rfl ?_
      refine J.get C (pre.length + 0) 21 mk_0 rfl (by decide) kFl_X7_177 inB_X7 rfl dX7_keepLemma_160 ?_
      refine J.dup2 C dX7_keepLemma_163 rfl rfl ?_
      refine J.ialdL C (pre.length + 14) mk_14 dX7_keepLemma_164 H (fun H => ?_)
      refine J.iconst C (1) dX7_keepLemma_165 (by decide) ?_
      refine J.iadd C dX7_keepLemma_166 ?_
      refine J.iastL (hp := (mkh g bd pre rst)) C (pre.length + 14) mk_14 dX7_keepLemma_167 (mkA_13 _) H (fun s167 H => ?_)
      refine J.iincL C (l2 + (1 : Int32)) dX7_keepLemma_168 rfl rfl (by decide) H (fun z168 H => ?_)
      refine J.goto (tgt := 111) C dX7_keepLemma_171 (by decide) ?_
      refine J.widen (k := 0) (n := 0) (Nat.le_of_ble_eq_true rfl) (Nat.le_of_ble_eq_true rfl) ?_
      refine J.lw (lv' := [(0, .ref (bd 0)), (2, .int z168)]) ⟨rfl, rfl, trivial⟩ ?_
      exact hk_111 _ _  H
def L_X7_keepLemma_111 : Nat → MS → Int32 → Res MS Int32
  | 0, _, _ => none
  | n + 1, σ, l2 => B_X7_keepLemma_111 (L_X7_keepLemma_111 n) σ l2
set_option maxRecDepth 100000 in
theorem lp_X7_keepLemma_111 {l : Launch} (hl : l.stackTraces = false) {g : Gy} {bd : Nat → Nat} {pre rst : va_W} {p : Program} {e : Env} {s : State} {m : MethodId} {args : Array Value} {below : List Frame} {meth : Method} {c : Code} {A : Nat → Prop} (C : Cx p l s m args meth c g A yX7_keepLemma.cls cX7_keepLemma 3) (hr : meth.sig.returnType = some .int) (hx : ∀ x ∈ c.exceptionTable.toList, False) {rr : (Int32 ⊕ String) × MS} : ∀ (n : Nat) (σ : MS) (l2 : Int32), L_X7_keepLemma_111 n σ l2 = some rr → J p l e (rmOf 1 0 0) s m args below meth c g A 3 0 0 (QR mI g A (mkh g bd pre rst) rr below args s 0 0) 111 [(0, .ref (bd 0)), (2, .int l2)] [] ((mkh g bd pre rst) σ) := by
  intro n
  induction n with
  | zero => intro σ l2 H; cases H
  | succ n ih => intro σ l2 H; exact bl_X7_keepLemma_111 hl C hr hx _ ih _ _ H
def B_X7_keepLemma_87 (σ : MS) (t0 : Int32) : Res MS Int32 := (lt (tI σ 5 t0) fun s87 => (if (s87.1 5) ≤ 0 then (gd (s87.1 4) 8 (lt (tA s87 13 (upd (s87.2.1 13) (s87.1 4).toNatClampNeg (0 : Int32))) fun s108 => (lt (0 : Int32) fun z110 => (L_X7_keepLemma_111 FU s108 z110)))) else (some (.inl (0 : Int32), s87))))
set_option maxRecDepth 100000 in
theorem bl_X7_keepLemma_87 {l : Launch} (hl : l.stackTraces = false) {g : Gy} {bd : Nat → Nat} {pre rst : va_W} {p : Program} {e : Env} {s : State} {m : MethodId} {args : Array Value} {below : List Frame} {meth : Method} {c : Code} {A : Nat → Prop} (C : Cx p l s m args meth c g A yX7_keepLemma.cls cX7_keepLemma 3) (hr : meth.sig.returnType = some .int) (hx : ∀ x ∈ c.exceptionTable.toList, False) {rr : (Int32 ⊕ String) × MS} (σ : MS) (t0 : Int32) (H : B_X7_keepLemma_87 σ t0 = some rr) : J p l e (rmOf 1 0 0) s m args below meth c g A 3 0 0 (QR mI g A (mkh g bd pre rst) rr below args s 0 0) 87 [(0, .ref (bd 0))] [.int t0, .ref (bd 0)] ((mkh g bd pre rst) σ) := by
  unfold B_X7_keepLemma_87 at H
  refine J.putL (hp := (mkh g bd pre rst)) C (pre.length + 0) 22 mk_0 rfl (by decide) kFl_X7_84 inB_X7 tyX7 tyX7_ok nmX7 rfl rfl rfl rfl (Nat.le_of_ble_eq_true rfl) dX7_keepLemma_87 (mkI_5 _) H (fun s87 H => ?_)
  refine J.aload_n (i := 0) C dX7_keepLemma_90 rfl rfl ?_
  refine J.get C (pre.length + 0) 22 mk_0 rfl (by decide) kFl_X7_84 inB_X7 rfl dX7_keepLemma_91 ?_
  refine J.if_leL (tgt := 99) C dX7_keepLemma_94 (by decide) H (fun c_94 H => ?_) (fun c_94 H => ?_)
  · refine J.aload_n (i := 0) C dX7_keepLemma_99 rfl rfl ?_
    refine J.get C (pre.length + 0) 19 mk_0 rfl (by decide) kFl_X7_63 inB_X7 rfl dX7_keepLemma_100 ?_
    refine J.aload_n (i := 0) C dX7_keepLemma_103 rfl rfl ?_
    refine J.get C (pre.length + 0) 21 mk_0 rfl (by decide) kFl_X7_177 inB_X7 rfl dX7_keepLemma_104 ?_
    refine J.iconst C (0) dX7_keepLemma_107 (by decide) ?_
    refine J.iastL (hp := (mkh g bd pre rst)) C (pre.length + 14) mk_14 dX7_keepLemma_108 (mkA_13 _) H (fun s108 H => ?_)
    refine J.iconst C (0) dX7_keepLemma_109 (by decide) ?_
    refine J.istore_nL (i := 2) C dX7_keepLemma_110 rfl (by decide) H (fun z110 H => ?_)
    refine J.widen (k := 0) (n := 0) (Nat.le_of_ble_eq_true rfl) (Nat.le_of_ble_eq_true rfl) ?_
    refine J.lw (lv' := [(0, .ref (bd 0)), (2, .int z110)]) ⟨rfl, rfl, trivial⟩ ?_
    exact lp_X7_keepLemma_111 hl C hr hx  FU _ _  H
  · refine J.iconst C (0) dX7_keepLemma_97 (by decide) ?_
    exact J.iretL C hr (Nat.le_of_ble_eq_true rfl) (Nat.le_of_ble_eq_true rfl) dX7_keepLemma_98 H
def B_X7_keepLemma_69 (σ : MS) : Res MS Int32 := (B_X7_keepLemma_87 σ (2 : Int32))
set_option maxRecDepth 100000 in
theorem bl_X7_keepLemma_69 {l : Launch} (hl : l.stackTraces = false) {g : Gy} {bd : Nat → Nat} {pre rst : va_W} {p : Program} {e : Env} {s : State} {m : MethodId} {args : Array Value} {below : List Frame} {meth : Method} {c : Code} {A : Nat → Prop} (C : Cx p l s m args meth c g A yX7_keepLemma.cls cX7_keepLemma 3) (hr : meth.sig.returnType = some .int) (hx : ∀ x ∈ c.exceptionTable.toList, False) {rr : (Int32 ⊕ String) × MS} (σ : MS) (H : B_X7_keepLemma_69 σ = some rr) : J p l e (rmOf 1 0 0) s m args below meth c g A 3 0 0 (QR mI g A (mkh g bd pre rst) rr below args s 0 0) 69 [(0, .ref (bd 0))] [.ref (bd 0)] ((mkh g bd pre rst) σ) := by
  unfold B_X7_keepLemma_69 at H
  refine J.iconst C (2) dX7_keepLemma_69 (by decide) ?_
  refine J.goto (tgt := 87) C dX7_keepLemma_70 (by decide) ?_
  refine J.widen (k := 0) (n := 0) (Nat.le_of_ble_eq_true rfl) (Nat.le_of_ble_eq_true rfl) ?_
  refine J.lw (lv' := [(0, .ref (bd 0))]) ⟨rfl, trivial⟩ ?_
  exact bl_X7_keepLemma_87 hl C hr hx  _ _  H
def B_X7_keepLemma_4 (k_4 : MS → Int32 → Int32 → Res MS Int32) (σ : MS) (l1 : Int32) (l2 : Int32) : Res MS Int32 := (if (σ.1 1) ≤ l2 then (if (σ.1 1) = 0 then (B_X7_keepLemma_87 σ (1 : Int32)) else (gd ((σ.1 1) - (1 : Int32)) 60 (if (σ.2.1 8 ((σ.1 1) - (1 : Int32)).toNatClampNeg) = (-1 : Int32) then (if l1 ≤ (2 : Int32) then (if (σ.1 4) = (8 : Int32) then (B_X7_keepLemma_87 σ (3 : Int32)) else (B_X7_keepLemma_87 σ (0 : Int32))) else (B_X7_keepLemma_69 σ)) else (B_X7_keepLemma_69 σ)))) else (gd l2 60 (if (σ.2.1 7 l2.toNatClampNeg) = (80 : Int32) then (lt (l1 + (1 : Int32)) fun z30 => (lt (l2 + (1 : Int32)) fun z31 => (k_4 σ z30 z31))) else (lt (l1 + (0 : Int32)) fun z30 => (lt (l2 + (1 : Int32)) fun z31 => (k_4 σ z30 z31))))))
set_option maxRecDepth 100000 in
theorem bl_X7_keepLemma_4 {l : Launch} (hl : l.stackTraces = false) {g : Gy} {bd : Nat → Nat} {pre rst : va_W} {p : Program} {e : Env} {s : State} {m : MethodId} {args : Array Value} {below : List Frame} {meth : Method} {c : Code} {A : Nat → Prop} (C : Cx p l s m args meth c g A yX7_keepLemma.cls cX7_keepLemma 3) (hr : meth.sig.returnType = some .int) (hx : ∀ x ∈ c.exceptionTable.toList, False) {rr : (Int32 ⊕ String) × MS} (k_4 : MS → Int32 → Int32 → Res MS Int32) (hk_4 : ∀ (σ : MS) (l1 : Int32) (l2 : Int32), k_4 σ l1 l2 = some rr → J p l e (rmOf 1 0 0) s m args below meth c g A 3 0 0 (QR mI g A (mkh g bd pre rst) rr below args s 0 0) 4 [(0, .ref (bd 0)), (1, .int l1), (2, .int l2)] [] ((mkh g bd pre rst) σ)) (σ : MS) (l1 : Int32) (l2 : Int32) (H : B_X7_keepLemma_4 k_4 σ l1 l2 = some rr) : J p l e (rmOf 1 0 0) s m args below meth c g A 3 0 0 (QR mI g A (mkh g bd pre rst) rr below args s 0 0) 4 [(0, .ref (bd 0)), (1, .int l1), (2, .int l2)] [] ((mkh g bd pre rst) σ) := by
  unfold B_X7_keepLemma_4 at H
  refine J.iload_n (i := 2) C dX7_keepLemma_4 rfl rfl ?_
  refine J.aload_n (i := 0) C dX7_keepLemma_5 rfl rfl ?_
  refine J.get C (pre.length + 0) 11 mk_0 rfl (by decide) kFl_X7_94 inB_X7 rfl dX7_keepLemma_6 ?_
  refine J.icmp_geL (tgt := 37) C dX7_keepLemma_9 (by decide) H (fun c_9 H => ?_) (fun c_9 H => ?_)
  · refine J.aload_n (i := 0) C dX7_keepLemma_37 rfl rfl ?_
    refine J.aload_n (i := 0) C dX7_keepLemma_38 rfl rfl ?_
    refine J.get C (pre.length + 0) 11 mk_0 rfl (by decide) kFl_X7_94 inB_X7 rfl dX7_keepLemma_39 ?_
    refine J.if_neL (tgt := 49) C dX7_keepLemma_42 (by decide) H (fun c_42 H => ?_) (fun c_42 H => ?_)
    · refine J.aload_n (i := 0) C dX7_keepLemma_49 rfl rfl ?_
      refine J.get C (pre.length + 0) 9 mk_0 rfl (by decide) kFl_X7_35 inB_X7 rfl dX7_keepLemma_50 ?_
      refine J.aload_n (i := 0) C dX7_keepLemma_53 rfl rfl ?_
      refine J.get C (pre.length + 0) 11 mk_0 rfl (by decide) kFl_X7_94 inB_X7 rfl dX7_keepLemma_54 ?_
      refine J.iconst C (1) dX7_keepLemma_57 (by decide) ?_
      refine J.isub C dX7_keepLemma_58 ?_
      refine J.ialdL C (pre.length + 9) mk_9 dX7_keepLemma_59 H (fun H => ?_)
      refine J.iconst C (-1) dX7_keepLemma_60 (by decide) ?_
      refine J.icmp_neL (tgt := 69) C dX7_keepLemma_61 (by decide) H (fun c_61 H => ?_) (fun c_61 H => ?_)
      · refine J.widen (k := 0) (n := 0) (Nat.le_of_ble_eq_true rfl) (Nat.le_of_ble_eq_true rfl) ?_
        refine J.lw (lv' := [(0, .ref (bd 0))]) ⟨rfl, trivial⟩ ?_
        exact bl_X7_keepLemma_69 hl C hr hx  _  H
      · refine J.iload_n (i := 1) C dX7_keepLemma_64 rfl rfl ?_
        refine J.iconst C (2) dX7_keepLemma_65 (by decide) ?_
        refine J.icmp_leL (tgt := 73) C dX7_keepLemma_66 (by decide) H (fun c_66 H => ?_) (fun c_66 H => ?_)
        · refine J.aload_n (i := 0) C dX7_keepLemma_73 rfl rfl ?_
          refine J.get C (pre.length + 0) 21 mk_0 rfl (by decide) kFl_X7_177 inB_X7 rfl dX7_keepLemma_74 ?_
          refine J.bipush C (8) dX7_keepLemma_77 (by decide) ?_
          refine J.icmp_neL (tgt := 86) C dX7_keepLemma_79 (by decide) H (fun c_79 H => ?_) (fun c_79 H => ?_)
          · refine J.iconst C (0) dX7_keepLemma_86 (by decide) ?_
            refine J.widen (k := 0) (n := 0) (Nat.le_of_ble_eq_true rfl) (Nat.le_of_ble_eq_true rfl) ?_
            refine J.lw (lv' := [(0, .ref (bd 0))]) ⟨rfl, trivial⟩ ?_
            exact bl_X7_keepLemma_87 hl C hr hx  _ _  H
          · refine J.iconst C (3) dX7_keepLemma_82 (by decide) ?_
            refine J.goto (tgt := 87) C dX7_keepLemma_83 (by decide) ?_
            refine J.widen (k := 0) (n := 0) (Nat.le_of_ble_eq_true rfl) (Nat.le_of_ble_eq_true rfl) ?_
            refine J.lw (lv' := [(0, .ref (bd 0))]) ⟨rfl, trivial⟩ ?_
            exact bl_X7_keepLemma_87 hl C hr hx  _ _  H
        · refine J.widen (k := 0) (n := 0) (Nat.le_of_ble_eq_true rfl) (Nat.le_of_ble_eq_true rfl) ?_
          refine J.lw (lv' := [(0, .ref (bd 0))]) ⟨rfl, trivial⟩ ?_
          exact bl_X7_keepLemma_69 hl C hr hx  _  H
    · refine J.iconst C (1) dX7_keepLemma_45 (by decide) ?_
      refine J.goto (tgt := 87) C dX7_keepLemma_46 (by decide) ?_
      refine J.widen (k := 0) (n := 0) (Nat.le_of_ble_eq_true rfl) (Nat.le_of_ble_eq_true rfl) ?_
      refine J.lw (lv' := [(0, .ref (bd 0))]) ⟨rfl, trivial⟩ ?_
      exact bl_X7_keepLemma_87 hl C hr hx  _ _  H
  · refine J.iload_n (i := 1) C dX7_keepLemma_12 rfl rfl ?_
    refine J.aload_n (i := 0) C dX7_keepLemma_13 rfl rfl ?_
    refine J.get C (pre.length + 0) 8 mk_0 rfl (by decide) kFl_X7_32 inB_X7 rfl dX7_keepLemma_14 ?_
    refine J.iload_n (i := 2) C dX7_keepLemma_17 rfl rfl ?_
    refine J.caldL C (pre.length + 8) mk_8 dX7_keepLemma_18 H (fun H => ?_)
    refine J.bipush C (80) dX7_keepLemma_19 (by decide) ?_
    refine J.icmp_neL (tgt := 28) C dX7_keepLemma_21 (by decide) H (fun c_21 H => ?_) (fun c_21 H => ?_)
    · refine J.iconst C (0) dX7_keepLemma_28 (by decide) ?_
      refine J.iadd C dX7_keepLemma_29 ?_
      refine J.istore_nL (i := 1) C dX7_keepLemma_30 rfl (by decide) H (fun z30 H => ?_)
      refine J.iincL C (l2 + (1 : Int32)) dX7_keepLemma_31 rfl rfl (by decide) H (fun z31 H => ?_)
      refine J.goto (tgt := 4) C dX7_keepLemma_34 (by decide) ?_
      refine J.widen (k := 0) (n := 0) (Nat.le_of_ble_eq_true rfl) (Nat.le_of_ble_eq_true rfl) ?_
      refine J.lw (lv' := [(0, .ref (bd 0)), (1, .int z30), (2, .int z31)]) ⟨rfl, rfl, rfl, trivial⟩ ?_
      exact hk_4 _ _ _  H
    · refine J.iconst C (1) dX7_keepLemma_24 (by decide) ?_
      refine J.goto (tgt := 29) C dX7_keepLemma_25 (by decide) ?_
      refine J.iadd C dX7_keepLemma_29 ?_
      refine J.istore_nL (i := 1) C dX7_keepLemma_30 rfl (by decide) H (fun z30 H => ?_)
      refine J.iincL C (l2 + (1 : Int32)) dX7_keepLemma_31 rfl rfl (by decide) H (fun z31 H => ?_)
      refine J.goto (tgt := 4) C dX7_keepLemma_34 (by decide) ?_
      refine J.widen (k := 0) (n := 0) (Nat.le_of_ble_eq_true rfl) (Nat.le_of_ble_eq_true rfl) ?_
      refine J.lw (lv' := [(0, .ref (bd 0)), (1, .int z30), (2, .int z31)]) ⟨rfl, rfl, rfl, trivial⟩ ?_
      exact hk_4 _ _ _  H
def L_X7_keepLemma_4 : Nat → MS → Int32 → Int32 → Res MS Int32
  | 0, _, _, _ => none
  | n + 1, σ, l1, l2 => B_X7_keepLemma_4 (L_X7_keepLemma_4 n) σ l1 l2
set_option maxRecDepth 100000 in
theorem lp_X7_keepLemma_4 {l : Launch} (hl : l.stackTraces = false) {g : Gy} {bd : Nat → Nat} {pre rst : va_W} {p : Program} {e : Env} {s : State} {m : MethodId} {args : Array Value} {below : List Frame} {meth : Method} {c : Code} {A : Nat → Prop} (C : Cx p l s m args meth c g A yX7_keepLemma.cls cX7_keepLemma 3) (hr : meth.sig.returnType = some .int) (hx : ∀ x ∈ c.exceptionTable.toList, False) {rr : (Int32 ⊕ String) × MS} : ∀ (n : Nat) (σ : MS) (l1 : Int32) (l2 : Int32), L_X7_keepLemma_4 n σ l1 l2 = some rr → J p l e (rmOf 1 0 0) s m args below meth c g A 3 0 0 (QR mI g A (mkh g bd pre rst) rr below args s 0 0) 4 [(0, .ref (bd 0)), (1, .int l1), (2, .int l2)] [] ((mkh g bd pre rst) σ) := by
  intro n
  induction n with
  | zero => intro σ l1 l2 H; cases H
  | succ n ih => intro σ l1 l2 H; exact bl_X7_keepLemma_4 hl C hr hx _ ih _ _ _ H
abbrev mX7_keepLemma : MD := (yX7_keepLemma, cX7_keepLemma, 3, some .int)
theorem mdX7_keepLemma : MDv mX7_keepLemma RX7 0 := ⟨kIm_X7_keepLemma, kSe_X7_keepLemma, kIn_X7, kCo_X7_keepLemma, by decide +kernel⟩
def P_X7_keepLemma (σ : MS)  : Res MS Int32 := (lt (0 : Int32) fun z1 => (lt (0 : Int32) fun z3 => (L_X7_keepLemma_4 FU σ z1 z3)))
set_option maxRecDepth 100000 in
theorem sp_X7_keepLemma {l : Launch} (hl : l.stackTraces = false) {g : Gy} {bd : Nat → Nat} {pre rst : va_W} {σ : MS}  : SpR l mX7_keepLemma 1 0 0 mI g [.ref (bd 0)] (mkh g bd pre rst) σ (P_X7_keepLemma σ ) := by
  refine SpR.of hl (by decide) (Nat.le_of_ble_eq_true rfl) (fun rr H p e s m args below meth c A C hr hx => ?_)
  unfold P_X7_keepLemma at H
  refine J.lw (lv' := [(0, .ref (bd 0))]) ⟨rfl, trivial⟩ ?_
  refine J.iconst C (0) dX7_keepLemma_0 (by decide) ?_
  refine J.istore_nL (i := 1) C dX7_keepLemma_1 rfl (by decide) H (fun z1 H => ?_)
  refine J.iconst C (0) dX7_keepLemma_2 (by decide) ?_
  refine J.istore_nL (i := 2) C dX7_keepLemma_3 rfl (by decide) H (fun z3 H => ?_)
  refine J.widen (k := 0) (n := 0) (Nat.le_of_ble_eq_true rfl) (Nat.le_of_ble_eq_true rfl) ?_
  refine J.lw (lv' := [(0, .ref (bd 0)), (1, .int z1), (2, .int z3)]) ⟨rfl, rfl, rfl, trivial⟩ ?_
  exact lp_X7_keepLemma_4 hl C hr hx  FU _ _ _  H

/-! X7_isLetter -/
abbrev mX7_isLetter : MD := (yX7_isLetter, cX7_isLetter, 1, some .boolean)
theorem mdX7_isLetter : MDs mX7_isLetter 1 := ⟨kSt_X7_isLetter, kIn_X7, kCo_X7_isLetter, by decide +kernel⟩
def F_X7_isLetter (σ : MS) (a0 : Int32) : Int32 := (if a0 < (97 : Int32) then (0 : Int32) else (if (101 : Int32) < a0 then (0 : Int32) else (1 : Int32)))
set_option maxRecDepth 100000 in
theorem sp_X7_isLetter {l : Launch} (hl : l.stackTraces = false) {g : Gy} {bd : Nat → Nat} {pre rst : va_W} {σ : MS} (a0 : Int32) : SpF l mX7_isLetter 1 0 0 mI g [.int a0] ((mkh g bd pre rst) σ) (F_X7_isLetter σ a0) ((mkh g bd pre rst) σ) := by
  generalize H : F_X7_isLetter σ a0 = r0
  unfold F_X7_isLetter at H
  refine Sp.of hl (by decide) (Nat.le_of_ble_eq_true rfl) (fun p e s m args below meth c A C hr hx => ?_)
  refine J.lw (lv' := [(0, .int a0)]) ⟨rfl, trivial⟩ ?_
  refine J.iload_n (i := 0) C dX7_isLetter_0 rfl rfl ?_
  refine J.bipush C (97) dX7_isLetter_1 (by decide) ?_
  refine J.icmp_ltL (tgt := 16) C dX7_isLetter_3 (by decide) H (fun c_3 H => ?_) (fun c_3 H => ?_)
  · refine J.iconst C (0) dX7_isLetter_16 (by decide) ?_
    exact J.zretA C hr rfl (Nat.le_refl _) (Nat.le_refl _) dX7_isLetter_17 H
  · refine J.iload_n (i := 0) C dX7_isLetter_6 rfl rfl ?_
    refine J.bipush C (101) dX7_isLetter_7 (by decide) ?_
    refine J.icmp_gtL (tgt := 16) C dX7_isLetter_9 (by decide) H (fun c_9 H => ?_) (fun c_9 H => ?_)
    · refine J.iconst C (0) dX7_isLetter_16 (by decide) ?_
      exact J.zretA C hr rfl (Nat.le_refl _) (Nat.le_refl _) dX7_isLetter_17 H
    · refine J.iconst C (1) dX7_isLetter_12 (by decide) ?_
      refine J.goto (tgt := 17) C dX7_isLetter_13 (by decide) ?_
      exact J.zretA C hr rfl (Nat.le_refl _) (Nat.le_refl _) dX7_isLetter_17 H
theorem nr_X7_isLetter (σ : MS) (a0 : Int32) : narrow .boolean (.int (F_X7_isLetter σ a0)) = .int (F_X7_isLetter σ a0) := by
  unfold F_X7_isLetter
  try simp only [lt]
  repeat' split
  all_goals first | rfl | exact pk_nc _ | (first | rfl)

/-! X7_fits -/
abbrev mX7_fits : MD := (yX7_fits, cX7_fits, 4, some .boolean)
theorem mdX7_fits : MDv mX7_fits RX7 2 := ⟨kIm_X7_fits, kSe_X7_fits, kIn_X7, kCo_X7_fits, by decide +kernel⟩
def D_X7_fits (self : MS → Int32 → Int32 → Res MS Int32) (σ : MS) (a1 : Int32) (a2 : Int32) : Res MS Int32 := (gd a1 150 (if (F_X7_isLetter σ (σ.2.1 0 a1.toNatClampNeg)) = 0 then (gd a1 150 (gd a2 150 (if (σ.2.1 0 a1.toNatClampNeg) = (σ.2.1 0 a2.toNatClampNeg) then (gd a1 150 (if (σ.2.1 1 a1.toNatClampNeg) = (-1 : Int32) then (lt (1 : Int32) fun z115 => (if z115 = 0 then (some (.inl (0 : Int32), σ)) else (gd a1 150 (if (σ.2.1 2 a1.toNatClampNeg) = (-1 : Int32) then (some (.inl (1 : Int32), σ)) else (gd a1 150 (gd a2 150 (bd (self σ (σ.2.1 2 a1.toNatClampNeg) (σ.2.1 2 a2.toNatClampNeg)) fun r143 s143 => (if r143 = 0 then (some (.inl (0 : Int32), s143)) else (some (.inl (1 : Int32), s143)))))))))) else (gd a1 150 (gd a2 150 (bd (self σ (σ.2.1 1 a1.toNatClampNeg) (σ.2.1 1 a2.toNatClampNeg)) fun r104 s104 => (if r104 = 0 then (lt (0 : Int32) fun z115 => (if z115 = 0 then (some (.inl (0 : Int32), s104)) else (gd a1 150 (if (s104.2.1 2 a1.toNatClampNeg) = (-1 : Int32) then (some (.inl (1 : Int32), s104)) else (gd a1 150 (gd a2 150 (bd (self s104 (s104.2.1 2 a1.toNatClampNeg) (s104.2.1 2 a2.toNatClampNeg)) fun r143 s143 => (if r143 = 0 then (some (.inl (0 : Int32), s143)) else (some (.inl (1 : Int32), s143)))))))))) else (lt (1 : Int32) fun z115 => (if z115 = 0 then (some (.inl (0 : Int32), s104)) else (gd a1 150 (if (s104.2.1 2 a1.toNatClampNeg) = (-1 : Int32) then (some (.inl (1 : Int32), s104)) else (gd a1 150 (gd a2 150 (bd (self s104 (s104.2.1 2 a1.toNatClampNeg) (s104.2.1 2 a2.toNatClampNeg)) fun r143 s143 => (if r143 = 0 then (some (.inl (0 : Int32), s143)) else (some (.inl (1 : Int32), s143)))))))))))))))) else (some (.inl (0 : Int32), σ))))) else (gd a1 150 (lt ((σ.2.1 0 a1.toNatClampNeg) - (97 : Int32)) fun z21 => (gd z21 5 (if (σ.2.1 16 z21.toNatClampNeg) = (-1 : Int32) then (gd z21 5 (lt (tA σ 16 (upd (σ.2.1 16) z21.toNatClampNeg a2)) fun s47 => (gd z21 5 (if (s47.2.1 16 z21.toNatClampNeg) = a2 then (some (.inl (1 : Int32), s47)) else (some (.inl (0 : Int32), s47)))))) else (gd z21 5 (gd z21 5 (lt (tA σ 16 (upd (σ.2.1 16) z21.toNatClampNeg (σ.2.1 16 z21.toNatClampNeg))) fun s47 => (gd z21 5 (if (s47.2.1 16 z21.toNatClampNeg) = a2 then (some (.inl (1 : Int32), s47)) else (some (.inl (0 : Int32), s47)))))))))))))
def P_X7_fits : Nat → MS → Int32 → Int32 → Res MS Int32
  | 0, _, _, _ => none
  | n + 1, σ, a1, a2 => D_X7_fits (P_X7_fits n) σ a1 a2
set_option maxRecDepth 100000 in
theorem sp_X7_fits {l : Launch} (hl : l.stackTraces = false) {g : Gy} {bd : Nat → Nat} {pre rst : va_W} : ∀ (n : Nat) (σ : MS) (a1 : Int32) (a2 : Int32), SpR l mX7_fits (2 + n) 0 0 mI g [.ref (bd 0), .int a1, .int a2] (mkh g bd pre rst) σ (P_X7_fits n σ a1 a2) := by
  intro n
  induction n with
  | zero => intro σ a1 a2 rr H; cases H
  | succ n ih =>
    intro σ a1 a2
    refine SpR.of hl (by decide) (Nat.le_of_ble_eq_true rfl) (fun rr H p e s m args below meth c A C hr hx => ?_)
    generalize hself : P_X7_fits n = self at ih
    have H : D_X7_fits self σ a1 a2 = some rr := by rw [← hself]; exact H
    unfold D_X7_fits at H
    refine J.lw (lv' := [(0, .ref (bd 0)), (1, .int a1), (2, .int a2)]) ⟨rfl, rfl, rfl, trivial⟩ ?_
    refine J.aload_n (i := 0) C dX7_fits_0 rfl rfl ?_
    refine J.get C (pre.length + 0) 0 mk_0 rfl (by decide) kFl_X7_9 inB_X7 rfl dX7_fits_1 ?_
    refine J.iload_n (i := 1) C dX7_fits_4 rfl rfl ?_
    refine J.caldL C (pre.length + 1) mk_1 dX7_fits_5 H (fun H => ?_)
    refine J.callSI C (sp_X7_isLetter hl _) rfl kMl_X7_180 mdX7_isLetter (rm_lo (Nat.le_of_ble_eq_true rfl) (Nat.le_of_ble_eq_true rfl)) rfl (Nat.le_of_ble_eq_true rfl) dX7_fits_6 ⟨(Nat.le_of_ble_eq_true rfl), (Nat.le_of_ble_eq_true rfl)⟩ ?_
    refine J.if_eqL (tgt := 64) C dX7_fits_9 (by decide) H (fun c_9 H => ?_) (fun c_9 H => ?_)
    · refine J.aload_n (i := 0) C dX7_fits_64 rfl rfl ?_
      refine J.get C (pre.length + 0) 0 mk_0 rfl (by decide) kFl_X7_9 inB_X7 rfl dX7_fits_65 ?_
      refine J.iload_n (i := 1) C dX7_fits_68 rfl rfl ?_
      refine J.caldL C (pre.length + 1) mk_1 dX7_fits_69 H (fun H => ?_)
      refine J.aload_n (i := 0) C dX7_fits_70 rfl rfl ?_
      refine J.get C (pre.length + 0) 0 mk_0 rfl (by decide) kFl_X7_9 inB_X7 rfl dX7_fits_71 ?_
      refine J.iload_n (i := 2) C dX7_fits_74 rfl rfl ?_
      refine J.caldL C (pre.length + 1) mk_1 dX7_fits_75 H (fun H => ?_)
      refine J.icmp_eqL (tgt := 81) C dX7_fits_76 (by decide) H (fun c_76 H => ?_) (fun c_76 H => ?_)
      · refine J.aload_n (i := 0) C dX7_fits_81 rfl rfl ?_
        refine J.get C (pre.length + 0) 1 mk_0 rfl (by decide) kFl_X7_13 inB_X7 rfl dX7_fits_82 ?_
        refine J.iload_n (i := 1) C dX7_fits_85 rfl rfl ?_
        refine J.ialdL C (pre.length + 2) mk_2 dX7_fits_86 H (fun H => ?_)
        refine J.iconst C (-1) dX7_fits_87 (by decide) ?_
        refine J.icmp_eqL (tgt := 110) C dX7_fits_88 (by decide) H (fun c_88 H => ?_) (fun c_88 H => ?_)
        · refine J.iconst C (1) dX7_fits_110 (by decide) ?_
          refine J.goto (tgt := 115) C dX7_fits_111 (by decide) ?_
          refine J.istore_nL (i := 3) C dX7_fits_115 rfl (by decide) H (fun z115 H => ?_)
          refine J.iload_n (i := 3) C dX7_fits_116 rfl rfl ?_
          refine J.if_eqL (tgt := 153) C dX7_fits_117 (by decide) H (fun c_117 H => ?_) (fun c_117 H => ?_)
          · refine J.iconst C (0) dX7_fits_153 (by decide) ?_
            exact J.zretL C hr rfl (Nat.le_of_ble_eq_true rfl) (Nat.le_of_ble_eq_true rfl) dX7_fits_154 H
          · refine J.aload_n (i := 0) C dX7_fits_120 rfl rfl ?_
            refine J.get C (pre.length + 0) 2 mk_0 rfl (by decide) kFl_X7_17 inB_X7 rfl dX7_fits_121 ?_
            refine J.iload_n (i := 1) C dX7_fits_124 rfl rfl ?_
            refine J.ialdL C (pre.length + 3) mk_3 dX7_fits_125 H (fun H => ?_)
            refine J.iconst C (-1) dX7_fits_126 (by decide) ?_
            refine J.icmp_eqL (tgt := 149) C dX7_fits_127 (by decide) H (fun c_127 H => ?_) (fun c_127 H => ?_)
            · refine J.iconst C (1) dX7_fits_149 (by decide) ?_
              refine J.goto (tgt := 154) C dX7_fits_150 (by decide) ?_
              exact J.zretL C hr rfl (Nat.le_of_ble_eq_true rfl) (Nat.le_of_ble_eq_true rfl) dX7_fits_154 H
            · refine J.aload_n (i := 0) C dX7_fits_130 rfl rfl ?_
              refine J.aload_n (i := 0) C dX7_fits_131 rfl rfl ?_
              refine J.get C (pre.length + 0) 2 mk_0 rfl (by decide) kFl_X7_17 inB_X7 rfl dX7_fits_132 ?_
              refine J.iload_n (i := 1) C dX7_fits_135 rfl rfl ?_
              refine J.ialdL C (pre.length + 3) mk_3 dX7_fits_136 H (fun H => ?_)
              refine J.aload_n (i := 0) C dX7_fits_137 rfl rfl ?_
              refine J.get C (pre.length + 0) 2 mk_0 rfl (by decide) kFl_X7_17 inB_X7 rfl dX7_fits_138 ?_
              refine J.iload_n (i := 2) C dX7_fits_141 rfl rfl ?_
              refine J.ialdL C (pre.length + 3) mk_3 dX7_fits_142 H (fun H => ?_)
              refine J.callVBI (hp := (mkh g bd pre rst)) C rfl (ih _ _ _) rfl kMl_X7_184 mdX7_fits (rm_ok (Nat.le_of_ble_eq_true rfl)) mk_0 rfl rfl (Nat.le_of_ble_eq_true rfl) dX7_fits_143 ⟨(Nat.le_of_ble_eq_true rfl), (Nat.le_of_ble_eq_true rfl)⟩ hx (Nat.le_of_ble_eq_true rfl) (Nat.le_of_ble_eq_true rfl) H (fun r143 s143 H => ?_)
              refine J.if_eqL (tgt := 153) C dX7_fits_146 (by decide) H (fun c_146 H => ?_) (fun c_146 H => ?_)
              · refine J.iconst C (0) dX7_fits_153 (by decide) ?_
                exact J.zretL C hr rfl (Nat.le_of_ble_eq_true rfl) (Nat.le_of_ble_eq_true rfl) dX7_fits_154 H
              · refine J.iconst C (1) dX7_fits_149 (by decide) ?_
                refine J.goto (tgt := 154) C dX7_fits_150 (by decide) ?_
                exact J.zretL C hr rfl (Nat.le_of_ble_eq_true rfl) (Nat.le_of_ble_eq_true rfl) dX7_fits_154 H
        · refine J.aload_n (i := 0) C dX7_fits_91 rfl rfl ?_
          refine J.aload_n (i := 0) C dX7_fits_92 rfl rfl ?_
          refine J.get C (pre.length + 0) 1 mk_0 rfl (by decide) kFl_X7_13 inB_X7 rfl dX7_fits_93 ?_
          refine J.iload_n (i := 1) C dX7_fits_96 rfl rfl ?_
          refine J.ialdL C (pre.length + 2) mk_2 dX7_fits_97 H (fun H => ?_)
          refine J.aload_n (i := 0) C dX7_fits_98 rfl rfl ?_
          refine J.get C (pre.length + 0) 1 mk_0 rfl (by decide) kFl_X7_13 inB_X7 rfl dX7_fits_99 ?_
          refine J.iload_n (i := 2) C dX7_fits_102 rfl rfl ?_
          refine J.ialdL C (pre.length + 2) mk_2 dX7_fits_103 H (fun H => ?_)
          refine J.callVBI (hp := (mkh g bd pre rst)) C rfl (ih _ _ _) rfl kMl_X7_184 mdX7_fits (rm_ok (Nat.le_of_ble_eq_true rfl)) mk_0 rfl rfl (Nat.le_of_ble_eq_true rfl) dX7_fits_104 ⟨(Nat.le_of_ble_eq_true rfl), (Nat.le_of_ble_eq_true rfl)⟩ hx (Nat.le_of_ble_eq_true rfl) (Nat.le_of_ble_eq_true rfl) H (fun r104 s104 H => ?_)
          refine J.if_eqL (tgt := 114) C dX7_fits_107 (by decide) H (fun c_107 H => ?_) (fun c_107 H => ?_)
          · refine J.iconst C (0) dX7_fits_114 (by decide) ?_
            refine J.istore_nL (i := 3) C dX7_fits_115 rfl (by decide) H (fun z115 H => ?_)
            refine J.iload_n (i := 3) C dX7_fits_116 rfl rfl ?_
            refine J.if_eqL (tgt := 153) C dX7_fits_117 (by decide) H (fun c_117 H => ?_) (fun c_117 H => ?_)
            · refine J.iconst C (0) dX7_fits_153 (by decide) ?_
              exact J.zretL C hr rfl (Nat.le_of_ble_eq_true rfl) (Nat.le_of_ble_eq_true rfl) dX7_fits_154 H
            · refine J.aload_n (i := 0) C dX7_fits_120 rfl rfl ?_
              refine J.get C (pre.length + 0) 2 mk_0 rfl (by decide) kFl_X7_17 inB_X7 rfl dX7_fits_121 ?_
              refine J.iload_n (i := 1) C dX7_fits_124 rfl rfl ?_
              refine J.ialdL C (pre.length + 3) mk_3 dX7_fits_125 H (fun H => ?_)
              refine J.iconst C (-1) dX7_fits_126 (by decide) ?_
              refine J.icmp_eqL (tgt := 149) C dX7_fits_127 (by decide) H (fun c_127 H => ?_) (fun c_127 H => ?_)
              · refine J.iconst C (1) dX7_fits_149 (by decide) ?_
                refine J.goto (tgt := 154) C dX7_fits_150 (by decide) ?_
                exact J.zretL C hr rfl (Nat.le_of_ble_eq_true rfl) (Nat.le_of_ble_eq_true rfl) dX7_fits_154 H
              · refine J.aload_n (i := 0) C dX7_fits_130 rfl rfl ?_
                refine J.aload_n (i := 0) C dX7_fits_131 rfl rfl ?_
                refine J.get C (pre.length + 0) 2 mk_0 rfl (by decide) kFl_X7_17 inB_X7 rfl dX7_fits_132 ?_
                refine J.iload_n (i := 1) C dX7_fits_135 rfl rfl ?_
                refine J.ialdL C (pre.length + 3) mk_3 dX7_fits_136 H (fun H => ?_)
                refine J.aload_n (i := 0) C dX7_fits_137 rfl rfl ?_
                refine J.get C (pre.length + 0) 2 mk_0 rfl (by decide) kFl_X7_17 inB_X7 rfl dX7_fits_138 ?_
                refine J.iload_n (i := 2) C dX7_fits_141 rfl rfl ?_
                refine J.ialdL C (pre.length + 3) mk_3 dX7_fits_142 H (fun H => ?_)
                refine J.callVBI (hp := (mkh g bd pre rst)) C rfl (ih _ _ _) rfl kMl_X7_184 mdX7_fits (rm_ok (Nat.le_of_ble_eq_true rfl)) mk_0 rfl rfl (Nat.le_of_ble_eq_true rfl) dX7_fits_143 ⟨(Nat.le_of_ble_eq_true rfl), (Nat.le_of_ble_eq_true rfl)⟩ hx (Nat.le_of_ble_eq_true rfl) (Nat.le_of_ble_eq_true rfl) H (fun r143 s143 H => ?_)
                refine J.if_eqL (tgt := 153) C dX7_fits_146 (by decide) H (fun c_146 H => ?_) (fun c_146 H => ?_)
                · refine J.iconst C (0) dX7_fits_153 (by decide) ?_
                  exact J.zretL C hr rfl (Nat.le_of_ble_eq_true rfl) (Nat.le_of_ble_eq_true rfl) dX7_fits_154 H
                · refine J.iconst C (1) dX7_fits_149 (by decide) ?_
                  refine J.goto (tgt := 154) C dX7_fits_150 (by decide) ?_
                  exact J.zretL C hr rfl (Nat.le_of_ble_eq_true rfl) (Nat.le_of_ble_eq_true rfl) dX7_fits_154 H
          · refine J.iconst C (1) dX7_fits_110 (by decide) ?_
            refine J.goto (tgt := 115) C dX7_fits_111 (by decide) ?_
            refine J.istore_nL (i := 3) C dX7_fits_115 rfl (by decide) H (fun z115 H => ?_)
            refine J.iload_n (i := 3) C dX7_fits_116 rfl rfl ?_
            refine J.if_eqL (tgt := 153) C dX7_fits_117 (by decide) H (fun c_117 H => ?_) (fun c_117 H => ?_)
            · refine J.iconst C (0) dX7_fits_153 (by decide) ?_
              exact J.zretL C hr rfl (Nat.le_of_ble_eq_true rfl) (Nat.le_of_ble_eq_true rfl) dX7_fits_154 H
            · refine J.aload_n (i := 0) C dX7_fits_120 rfl rfl ?_
              refine J.get C (pre.length + 0) 2 mk_0 rfl (by decide) kFl_X7_17 inB_X7 rfl dX7_fits_121 ?_
              refine J.iload_n (i := 1) C dX7_fits_124 rfl rfl ?_
              refine J.ialdL C (pre.length + 3) mk_3 dX7_fits_125 H (fun H => ?_)
              refine J.iconst C (-1) dX7_fits_126 (by decide) ?_
              refine J.icmp_eqL (tgt := 149) C dX7_fits_127 (by decide) H (fun c_127 H => ?_) (fun c_127 H => ?_)
              · refine J.iconst C (1) dX7_fits_149 (by decide) ?_
                refine J.goto (tgt := 154) C dX7_fits_150 (by decide) ?_
                exact J.zretL C hr rfl (Nat.le_of_ble_eq_true rfl) (Nat.le_of_ble_eq_true rfl) dX7_fits_154 H
              · refine J.aload_n (i := 0) C dX7_fits_130 rfl rfl ?_
                refine J.aload_n (i := 0) C dX7_fits_131 rfl rfl ?_
                refine J.get C (pre.length + 0) 2 mk_0 rfl (by decide) kFl_X7_17 inB_X7 rfl dX7_fits_132 ?_
                refine J.iload_n (i := 1) C dX7_fits_135 rfl rfl ?_
                refine J.ialdL C (pre.length + 3) mk_3 dX7_fits_136 H (fun H => ?_)
                refine J.aload_n (i := 0) C dX7_fits_137 rfl rfl ?_
                refine J.get C (pre.length + 0) 2 mk_0 rfl (by decide) kFl_X7_17 inB_X7 rfl dX7_fits_138 ?_
                refine J.iload_n (i := 2) C dX7_fits_141 rfl rfl ?_
                refine J.ialdL C (pre.length + 3) mk_3 dX7_fits_142 H (fun H => ?_)
                refine J.callVBI (hp := (mkh g bd pre rst)) C rfl (ih _ _ _) rfl kMl_X7_184 mdX7_fits (rm_ok (Nat.le_of_ble_eq_true rfl)) mk_0 rfl rfl (Nat.le_of_ble_eq_true rfl) dX7_fits_143 ⟨(Nat.le_of_ble_eq_true rfl), (Nat.le_of_ble_eq_true rfl)⟩ hx (Nat.le_of_ble_eq_true rfl) (Nat.le_of_ble_eq_true rfl) H (fun r143 s143 H => ?_)
                refine J.if_eqL (tgt := 153) C dX7_fits_146 (by decide) H (fun c_146 H => ?_) (fun c_146 H => ?_)
                · refine J.iconst C (0) dX7_fits_153 (by decide) ?_
                  exact J.zretL C hr rfl (Nat.le_of_ble_eq_true rfl) (Nat.le_of_ble_eq_true rfl) dX7_fits_154 H
                · refine J.iconst C (1) dX7_fits_149 (by decide) ?_
                  refine J.goto (tgt := 154) C dX7_fits_150 (by decide) ?_
                  exact J.zretL C hr rfl (Nat.le_of_ble_eq_true rfl) (Nat.le_of_ble_eq_true rfl) dX7_fits_154 H
      · refine J.iconst C (0) dX7_fits_79 (by decide) ?_
        exact J.zretL C hr rfl (Nat.le_of_ble_eq_true rfl) (Nat.le_of_ble_eq_true rfl) dX7_fits_80 H
    · refine J.aload_n (i := 0) C dX7_fits_12 rfl rfl ?_
      refine J.get C (pre.length + 0) 0 mk_0 rfl (by decide) kFl_X7_9 inB_X7 rfl dX7_fits_13 ?_
      refine J.iload_n (i := 1) C dX7_fits_16 rfl rfl ?_
      refine J.caldL C (pre.length + 1) mk_1 dX7_fits_17 H (fun H => ?_)
      refine J.bipush C (97) dX7_fits_18 (by decide) ?_
      refine J.isub C dX7_fits_20 ?_
      refine J.istore_nL (i := 3) C dX7_fits_21 rfl (by decide) H (fun z21 H => ?_)
      refine J.aload_n (i := 0) C dX7_fits_22 rfl rfl ?_
      refine J.get C (pre.length + 0) 26 mk_0 rfl (by decide) kFl_X7_72 inB_X7 rfl dX7_fits_23 ?_
      refine J.iload_n (i := 3) C dX7_fits_26 rfl rfl ?_
      refine J.aload_n (i := 0) C dX7_fits_27 rfl rfl ?_
      refine J.get C (pre.length + 0) 26 mk_0 rfl (by decide) kFl_X7_72 inB_X7 rfl dX7_fits_28 ?_
      refine J.iload_n (i := 3) C dX7_fits_31 rfl rfl ?_
      refine J.ialdL C (pre.length + 17) mk_17 dX7_fits_32 H (fun H => ?_)
      refine J.iconst C (-1) dX7_fits_33 (by decide) ?_
      refine J.icmp_neL (tgt := 41) C dX7_fits_34 (by decide) H (fun c_34 H => ?_) (fun c_34 H => ?_)
      · refine J.aload_n (i := 0) C dX7_fits_41 rfl rfl ?_
        refine J.get C (pre.length + 0) 26 mk_0 rfl (by decide) kFl_X7_72 inB_X7 rfl dX7_fits_42 ?_
        refine J.iload_n (i := 3) C dX7_fits_45 rfl rfl ?_
        refine J.ialdL C (pre.length + 17) mk_17 dX7_fits_46 H (fun H => ?_)
        refine J.iastL (hp := (mkh g bd pre rst)) C (pre.length + 17) mk_17 dX7_fits_47 (mkA_16 _) H (fun s47 H => ?_)
        refine J.aload_n (i := 0) C dX7_fits_48 rfl rfl ?_
        refine J.get C (pre.length + 0) 26 mk_0 rfl (by decide) kFl_X7_72 inB_X7 rfl dX7_fits_49 ?_
        refine J.iload_n (i := 3) C dX7_fits_52 rfl rfl ?_
        refine J.ialdL C (pre.length + 17) mk_17 dX7_fits_53 H (fun H => ?_)
        refine J.iload_n (i := 2) C dX7_fits_54 rfl rfl ?_
        refine J.icmp_neL (tgt := 62) C dX7_fits_55 (by decide) H (fun c_55 H => ?_) (fun c_55 H => ?_)
        · refine J.iconst C (0) dX7_fits_62 (by decide) ?_
          exact J.zretL C hr rfl (Nat.le_of_ble_eq_true rfl) (Nat.le_of_ble_eq_true rfl) dX7_fits_63 H
        · refine J.iconst C (1) dX7_fits_58 (by decide) ?_
          refine J.goto (tgt := 63) C dX7_fits_59 (by decide) ?_
          exact J.zretL C hr rfl (Nat.le_of_ble_eq_true rfl) (Nat.le_of_ble_eq_true rfl) dX7_fits_63 H
      · refine J.iload_n (i := 2) C dX7_fits_37 rfl rfl ?_
        refine J.goto (tgt := 47) C dX7_fits_38 (by decide) ?_
        refine J.iastL (hp := (mkh g bd pre rst)) C (pre.length + 17) mk_17 dX7_fits_47 (mkA_16 _) H (fun s47 H => ?_)
        refine J.aload_n (i := 0) C dX7_fits_48 rfl rfl ?_
        refine J.get C (pre.length + 0) 26 mk_0 rfl (by decide) kFl_X7_72 inB_X7 rfl dX7_fits_49 ?_
        refine J.iload_n (i := 3) C dX7_fits_52 rfl rfl ?_
        refine J.ialdL C (pre.length + 17) mk_17 dX7_fits_53 H (fun H => ?_)
        refine J.iload_n (i := 2) C dX7_fits_54 rfl rfl ?_
        refine J.icmp_neL (tgt := 62) C dX7_fits_55 (by decide) H (fun c_55 H => ?_) (fun c_55 H => ?_)
        · refine J.iconst C (0) dX7_fits_62 (by decide) ?_
          exact J.zretL C hr rfl (Nat.le_of_ble_eq_true rfl) (Nat.le_of_ble_eq_true rfl) dX7_fits_63 H
        · refine J.iconst C (1) dX7_fits_58 (by decide) ?_
          refine J.goto (tgt := 63) C dX7_fits_59 (by decide) ?_
          exact J.zretL C hr rfl (Nat.le_of_ble_eq_true rfl) (Nat.le_of_ble_eq_true rfl) dX7_fits_63 H

/-! X7_writesInstance -/
abbrev mX7_writesInstance : MD := (yX7_writesInstance, cX7_writesInstance, 3, none)
theorem mdX7_writesInstance : MDv mX7_writesInstance RX7 1 := ⟨kIm_X7_writesInstance, kSe_X7_writesInstance, kIn_X7, kCo_X7_writesInstance, by decide +kernel⟩
def D_X7_writesInstance (self : MS → Int32 → Res MS Unit) (σ : MS) (a1 : Int32) : Res MS Unit := (gd a1 150 (if (F_X7_isLetter σ (σ.2.1 0 a1.toNatClampNeg)) = 0 then (gd a1 150 (gd (σ.1 6) 1000 (lt (tA σ 15 (upd (σ.2.1 15) (σ.1 6).toNatClampNeg (vp_nar .char (σ.2.1 0 a1.toNatClampNeg)))) fun s80 => (lt (tI s80 6 ((s80.1 6) + (1 : Int32))) fun s88 => (gd a1 150 (if (s88.2.1 1 a1.toNatClampNeg) = (-1 : Int32) then (gd a1 150 (if (s88.2.1 2 a1.toNatClampNeg) = (-1 : Int32) then (some (.inl (), s88)) else (gd a1 150 (bd (self s88 (s88.2.1 2 a1.toNatClampNeg)) fun _ s128 => (some (.inl (), s128)))))) else (gd a1 150 (bd (self s88 (s88.2.1 1 a1.toNatClampNeg)) fun _ s108 => (gd a1 150 (if (s108.2.1 2 a1.toNatClampNeg) = (-1 : Int32) then (some (.inl (), s108)) else (gd a1 150 (bd (self s108 (s108.2.1 2 a1.toNatClampNeg)) fun _ s128 => (some (.inl (), s128)))))))))))))) else (gd a1 150 (lt ((σ.2.1 0 a1.toNatClampNeg) - (97 : Int32)) fun z21 => (gd z21 5 (if (σ.2.1 16 z21.toNatClampNeg) = (-1 : Int32) then (gd z21 5 (if (σ.2.1 5 z21.toNatClampNeg) = (-1 : Int32) then (bd (P_X7_writes 40 σ a1) fun _ s62 => (some (.inl (), s62))) else (gd z21 5 (bd (P_X7_writes 40 σ (σ.2.1 5 z21.toNatClampNeg)) fun _ s62 => (some (.inl (), s62)))))) else (gd z21 5 (bd (P_X7_writes 40 σ (σ.2.1 16 z21.toNatClampNeg)) fun _ s62 => (some (.inl (), s62))))))))))
def P_X7_writesInstance : Nat → MS → Int32 → Res MS Unit
  | 0, _, _ => none
  | n + 1, σ, a1 => D_X7_writesInstance (P_X7_writesInstance n) σ a1
set_option maxRecDepth 100000 in
theorem sp_X7_writesInstance {l : Launch} (hl : l.stackTraces = false) {g : Gy} {bd : Nat → Nat} {pre rst : va_W} : ∀ (n : Nat) (σ : MS) (a1 : Int32), SpR l mX7_writesInstance (42 + n) 0 0 mV g [.ref (bd 0), .int a1] (mkh g bd pre rst) σ (P_X7_writesInstance n σ a1) := by
  intro n
  induction n with
  | zero => intro σ a1 rr H; cases H
  | succ n ih =>
    intro σ a1
    refine SpR.of hl (by decide) (Nat.le_of_ble_eq_true rfl) (fun rr H p e s m args below meth c A C hr hx => ?_)
    generalize hself : P_X7_writesInstance n = self at ih
    have H : D_X7_writesInstance self σ a1 = some rr := by rw [← hself]; exact H
    unfold D_X7_writesInstance at H
    refine J.lw (lv' := [(0, .ref (bd 0)), (1, .int a1)]) ⟨rfl, rfl, trivial⟩ ?_
    refine J.aload_n (i := 0) C dX7_writesInstance_0 rfl rfl ?_
    refine J.get C (pre.length + 0) 0 mk_0 rfl (by decide) kFl_X7_9 inB_X7 rfl dX7_writesInstance_1 ?_
    refine J.iload_n (i := 1) C dX7_writesInstance_4 rfl rfl ?_
    refine J.caldL C (pre.length + 1) mk_1 dX7_writesInstance_5 H (fun H => ?_)
    refine J.callSI C (sp_X7_isLetter hl _) rfl kMl_X7_180 mdX7_isLetter (rm_lo (Nat.le_of_ble_eq_true rfl) (Nat.le_of_ble_eq_true rfl)) rfl (Nat.le_of_ble_eq_true rfl) dX7_writesInstance_6 ⟨(Nat.le_of_ble_eq_true rfl), (Nat.le_of_ble_eq_true rfl)⟩ ?_
    refine J.if_eqL (tgt := 66) C dX7_writesInstance_9 (by decide) H (fun c_9 H => ?_) (fun c_9 H => ?_)
    · refine J.aload_n (i := 0) C dX7_writesInstance_66 rfl rfl ?_
      refine J.get C (pre.length + 0) 23 mk_0 rfl (by decide) kFl_X7_69 inB_X7 rfl dX7_writesInstance_67 ?_
      refine J.aload_n (i := 0) C dX7_writesInstance_70 rfl rfl ?_
      refine J.get C (pre.length + 0) 24 mk_0 rfl (by decide) kFl_X7_114 inB_X7 rfl dX7_writesInstance_71 ?_
      refine J.aload_n (i := 0) C dX7_writesInstance_74 rfl rfl ?_
      refine J.get C (pre.length + 0) 0 mk_0 rfl (by decide) kFl_X7_9 inB_X7 rfl dX7_writesInstance_75 ?_
      refine J.iload_n (i := 1) C dX7_writesInstance_78 rfl rfl ?_
      refine J.caldL C (pre.length + 1) mk_1 dX7_writesInstance_79 H (fun H => ?_)
      refine J.castL (hp := (mkh g bd pre rst)) C (pre.length + 16) mk_16 dX7_writesInstance_80 (mkA_15 _) H (fun s80 H => ?_)
      refine J.aload_n (i := 0) C dX7_writesInstance_81 rfl rfl ?_
      refine J.dup C dX7_writesInstance_82 rfl ?_
      refine J.get C (pre.length + 0) 24 mk_0 rfl (by decide) kFl_X7_114 inB_X7 rfl dX7_writesInstance_83 ?_
      refine J.iconst C (1) dX7_writesInstance_86 (by decide) ?_
      refine J.iadd C dX7_writesInstance_87 ?_
      refine J.putL (hp := (mkh g bd pre rst)) C (pre.length + 0) 24 mk_0 rfl (by decide) kFl_X7_114 inB_X7 tyX7 tyX7_ok nmX7 rfl rfl rfl rfl (Nat.le_of_ble_eq_true rfl) dX7_writesInstance_88 (mkI_6 _) H (fun s88 H => ?_)
      refine J.aload_n (i := 0) C dX7_writesInstance_91 rfl rfl ?_
      refine J.get C (pre.length + 0) 1 mk_0 rfl (by decide) kFl_X7_13 inB_X7 rfl dX7_writesInstance_92 ?_
      refine J.iload_n (i := 1) C dX7_writesInstance_95 rfl rfl ?_
      refine J.ialdL C (pre.length + 2) mk_2 dX7_writesInstance_96 H (fun H => ?_)
      refine J.iconst C (-1) dX7_writesInstance_97 (by decide) ?_
      refine J.icmp_eqL (tgt := 111) C dX7_writesInstance_98 (by decide) H (fun c_98 H => ?_) (fun c_98 H => ?_)
      · refine J.aload_n (i := 0) C dX7_writesInstance_111 rfl rfl ?_
        refine J.get C (pre.length + 0) 2 mk_0 rfl (by decide) kFl_X7_17 inB_X7 rfl dX7_writesInstance_112 ?_
        refine J.iload_n (i := 1) C dX7_writesInstance_115 rfl rfl ?_
        refine J.ialdL C (pre.length + 3) mk_3 dX7_writesInstance_116 H (fun H => ?_)
        refine J.iconst C (-1) dX7_writesInstance_117 (by decide) ?_
        refine J.icmp_eqL (tgt := 131) C dX7_writesInstance_118 (by decide) H (fun c_118 H => ?_) (fun c_118 H => ?_)
        · exact J.vretL C hr (Nat.le_of_ble_eq_true rfl) (Nat.le_of_ble_eq_true rfl) dX7_writesInstance_131 H
        · refine J.aload_n (i := 0) C dX7_writesInstance_121 rfl rfl ?_
          refine J.aload_n (i := 0) C dX7_writesInstance_122 rfl rfl ?_
          refine J.get C (pre.length + 0) 2 mk_0 rfl (by decide) kFl_X7_17 inB_X7 rfl dX7_writesInstance_123 ?_
          refine J.iload_n (i := 1) C dX7_writesInstance_126 rfl rfl ?_
          refine J.ialdL C (pre.length + 3) mk_3 dX7_writesInstance_127 H (fun H => ?_)
          refine J.callVBV (hp := (mkh g bd pre rst)) C rfl (ih _ _) rfl kMl_X7_187 mdX7_writesInstance (rm_ok (Nat.le_of_ble_eq_true rfl)) mk_0 rfl rfl (Nat.le_of_ble_eq_true rfl) dX7_writesInstance_128 ⟨(Nat.le_of_ble_eq_true rfl), (Nat.le_of_ble_eq_true rfl)⟩ hx (Nat.le_of_ble_eq_true rfl) (Nat.le_of_ble_eq_true rfl) H (fun _ s128 H => ?_)
          exact J.vretL C hr (Nat.le_of_ble_eq_true rfl) (Nat.le_of_ble_eq_true rfl) dX7_writesInstance_131 H
      · refine J.aload_n (i := 0) C dX7_writesInstance_101 rfl rfl ?_
        refine J.aload_n (i := 0) C dX7_writesInstance_102 rfl rfl ?_
        refine J.get C (pre.length + 0) 1 mk_0 rfl (by decide) kFl_X7_13 inB_X7 rfl dX7_writesInstance_103 ?_
        refine J.iload_n (i := 1) C dX7_writesInstance_106 rfl rfl ?_
        refine J.ialdL C (pre.length + 2) mk_2 dX7_writesInstance_107 H (fun H => ?_)
        refine J.callVBV (hp := (mkh g bd pre rst)) C rfl (ih _ _) rfl kMl_X7_187 mdX7_writesInstance (rm_ok (Nat.le_of_ble_eq_true rfl)) mk_0 rfl rfl (Nat.le_of_ble_eq_true rfl) dX7_writesInstance_108 ⟨(Nat.le_of_ble_eq_true rfl), (Nat.le_of_ble_eq_true rfl)⟩ hx (Nat.le_of_ble_eq_true rfl) (Nat.le_of_ble_eq_true rfl) H (fun _ s108 H => ?_)
        refine J.aload_n (i := 0) C dX7_writesInstance_111 rfl rfl ?_
        refine J.get C (pre.length + 0) 2 mk_0 rfl (by decide) kFl_X7_17 inB_X7 rfl dX7_writesInstance_112 ?_
        refine J.iload_n (i := 1) C dX7_writesInstance_115 rfl rfl ?_
        refine J.ialdL C (pre.length + 3) mk_3 dX7_writesInstance_116 H (fun H => ?_)
        refine J.iconst C (-1) dX7_writesInstance_117 (by decide) ?_
        refine J.icmp_eqL (tgt := 131) C dX7_writesInstance_118 (by decide) H (fun c_118 H => ?_) (fun c_118 H => ?_)
        · exact J.vretL C hr (Nat.le_of_ble_eq_true rfl) (Nat.le_of_ble_eq_true rfl) dX7_writesInstance_131 H
        · refine J.aload_n (i := 0) C dX7_writesInstance_121 rfl rfl ?_
          refine J.aload_n (i := 0) C dX7_writesInstance_122 rfl rfl ?_
          refine J.get C (pre.length + 0) 2 mk_0 rfl (by decide) kFl_X7_17 inB_X7 rfl dX7_writesInstance_123 ?_
          refine J.iload_n (i := 1) C dX7_writesInstance_126 rfl rfl ?_
          refine J.ialdL C (pre.length + 3) mk_3 dX7_writesInstance_127 H (fun H => ?_)
          refine J.callVBV (hp := (mkh g bd pre rst)) C rfl (ih _ _) rfl kMl_X7_187 mdX7_writesInstance (rm_ok (Nat.le_of_ble_eq_true rfl)) mk_0 rfl rfl (Nat.le_of_ble_eq_true rfl) dX7_writesInstance_128 ⟨(Nat.le_of_ble_eq_true rfl), (Nat.le_of_ble_eq_true rfl)⟩ hx (Nat.le_of_ble_eq_true rfl) (Nat.le_of_ble_eq_true rfl) H (fun _ s128 H => ?_)
          exact J.vretL C hr (Nat.le_of_ble_eq_true rfl) (Nat.le_of_ble_eq_true rfl) dX7_writesInstance_131 H
    · refine J.aload_n (i := 0) C dX7_writesInstance_12 rfl rfl ?_
      refine J.get C (pre.length + 0) 0 mk_0 rfl (by decide) kFl_X7_9 inB_X7 rfl dX7_writesInstance_13 ?_
      refine J.iload_n (i := 1) C dX7_writesInstance_16 rfl rfl ?_
      refine J.caldL C (pre.length + 1) mk_1 dX7_writesInstance_17 H (fun H => ?_)
      refine J.bipush C (97) dX7_writesInstance_18 (by decide) ?_
      refine J.isub C dX7_writesInstance_20 ?_
      refine J.istore_nL (i := 2) C dX7_writesInstance_21 rfl (by decide) H (fun z21 H => ?_)
      refine J.aload_n (i := 0) C dX7_writesInstance_22 rfl rfl ?_
      refine J.aload_n (i := 0) C dX7_writesInstance_23 rfl rfl ?_
      refine J.get C (pre.length + 0) 26 mk_0 rfl (by decide) kFl_X7_72 inB_X7 rfl dX7_writesInstance_24 ?_
      refine J.iload_n (i := 2) C dX7_writesInstance_27 rfl rfl ?_
      refine J.ialdL C (pre.length + 17) mk_17 dX7_writesInstance_28 H (fun H => ?_)
      refine J.iconst C (-1) dX7_writesInstance_29 (by decide) ?_
      refine J.icmp_eqL (tgt := 42) C dX7_writesInstance_30 (by decide) H (fun c_30 H => ?_) (fun c_30 H => ?_)
      · refine J.aload_n (i := 0) C dX7_writesInstance_42 rfl rfl ?_
        refine J.get C (pre.length + 0) 6 mk_0 rfl (by decide) kFl_X7_26 inB_X7 rfl dX7_writesInstance_43 ?_
        refine J.iload_n (i := 2) C dX7_writesInstance_46 rfl rfl ?_
        refine J.ialdL C (pre.length + 6) mk_6 dX7_writesInstance_47 H (fun H => ?_)
        refine J.iconst C (-1) dX7_writesInstance_48 (by decide) ?_
        refine J.icmp_eqL (tgt := 61) C dX7_writesInstance_49 (by decide) H (fun c_49 H => ?_) (fun c_49 H => ?_)
        · refine J.iload_n (i := 1) C dX7_writesInstance_61 rfl rfl ?_
          refine J.callVBV (hp := (mkh g bd pre rst)) C rfl (sp_X7_writes hl 40 _ _) rfl kMl_X7_117 mdX7_writes (rm_lo (Nat.le_of_ble_eq_true rfl) (Nat.le_of_ble_eq_true rfl)) mk_0 rfl rfl (Nat.le_of_ble_eq_true rfl) dX7_writesInstance_62 ⟨(Nat.le_of_ble_eq_true rfl), (Nat.le_of_ble_eq_true rfl)⟩ hx (Nat.le_of_ble_eq_true rfl) (Nat.le_of_ble_eq_true rfl) H (fun _ s62 H => ?_)
          exact J.vretL C hr (Nat.le_of_ble_eq_true rfl) (Nat.le_of_ble_eq_true rfl) dX7_writesInstance_65 H
        · refine J.aload_n (i := 0) C dX7_writesInstance_52 rfl rfl ?_
          refine J.get C (pre.length + 0) 6 mk_0 rfl (by decide) kFl_X7_26 inB_X7 rfl dX7_writesInstance_53 ?_
          refine J.iload_n (i := 2) C dX7_writesInstance_56 rfl rfl ?_
          refine J.ialdL C (pre.length + 6) mk_6 dX7_writesInstance_57 H (fun H => ?_)
          refine J.goto (tgt := 62) C dX7_writesInstance_58 (by decide) ?_
          refine J.callVBV (hp := (mkh g bd pre rst)) C rfl (sp_X7_writes hl 40 _ _) rfl kMl_X7_117 mdX7_writes (rm_lo (Nat.le_of_ble_eq_true rfl) (Nat.le_of_ble_eq_true rfl)) mk_0 rfl rfl (Nat.le_of_ble_eq_true rfl) dX7_writesInstance_62 ⟨(Nat.le_of_ble_eq_true rfl), (Nat.le_of_ble_eq_true rfl)⟩ hx (Nat.le_of_ble_eq_true rfl) (Nat.le_of_ble_eq_true rfl) H (fun _ s62 H => ?_)
          exact J.vretL C hr (Nat.le_of_ble_eq_true rfl) (Nat.le_of_ble_eq_true rfl) dX7_writesInstance_65 H
      · refine J.aload_n (i := 0) C dX7_writesInstance_33 rfl rfl ?_
        refine J.get C (pre.length + 0) 26 mk_0 rfl (by decide) kFl_X7_72 inB_X7 rfl dX7_writesInstance_34 ?_
        refine J.iload_n (i := 2) C dX7_writesInstance_37 rfl rfl ?_
        refine J.ialdL C (pre.length + 17) mk_17 dX7_writesInstance_38 H (fun H => ?_)
        refine J.goto (tgt := 62) C dX7_writesInstance_39 (by decide) ?_
        refine J.callVBV (hp := (mkh g bd pre rst)) C rfl (sp_X7_writes hl 40 _ _) rfl kMl_X7_117 mdX7_writes (rm_lo (Nat.le_of_ble_eq_true rfl) (Nat.le_of_ble_eq_true rfl)) mk_0 rfl rfl (Nat.le_of_ble_eq_true rfl) dX7_writesInstance_62 ⟨(Nat.le_of_ble_eq_true rfl), (Nat.le_of_ble_eq_true rfl)⟩ hx (Nat.le_of_ble_eq_true rfl) (Nat.le_of_ble_eq_true rfl) H (fun _ s62 H => ?_)
        exact J.vretL C hr (Nat.le_of_ble_eq_true rfl) (Nat.le_of_ble_eq_true rfl) dX7_writesInstance_65 H

/-! X7_useLemma -/
def B_X7_useLemma_245 (σ : MS) (l3 : Int32) (l4 : Int32) (t0 : Int32) (t1 : Int32) (t2 : Int32) : Res MS Int32 := (if l4 ≤ (1 : Int32) then (bd (P_X7_enters σ t2 t1 t0 (-1 : Int32) (-1 : Int32) (-1 : Int32)) fun r258 s258 => (some (.inl r258, s258))) else (bd (P_X7_enters σ t2 t1 t0 l3 (-1 : Int32) (-1 : Int32)) fun r258 s258 => (some (.inl r258, s258))))
set_option maxRecDepth 100000 in
theorem bl_X7_useLemma_245 {l : Launch} (hl : l.stackTraces = false) {g : Gy} {bd : Nat → Nat} {pre rst : va_W} {p : Program} {e : Env} {s : State} {m : MethodId} {args : Array Value} {below : List Frame} {meth : Method} {c : Code} {A : Nat → Prop} (C : Cx p l s m args meth c g A yX7_useLemma.cls cX7_useLemma 6) (hr : meth.sig.returnType = some .int) (hx : ∀ x ∈ c.exceptionTable.toList, False) {rr : (Int32 ⊕ String) × MS} (σ : MS) (l3 : Int32) (l4 : Int32) (t0 : Int32) (t1 : Int32) (t2 : Int32) (H : B_X7_useLemma_245 σ l3 l4 t0 t1 t2 = some rr) : J p l e (rmOf 83 0 0) s m args below meth c g A 6 0 0 (QR mI g A (mkh g bd pre rst) rr below args s 0 0) 245 [(3, .int l3), (4, .int l4)] [.int t0, .int t1, .int t2, .ref (bd 0)] ((mkh g bd pre rst) σ) := by
  unfold B_X7_useLemma_245 at H
  refine J.iload C dX7_useLemma_245 rfl ?_
  refine J.iconst C (1) dX7_useLemma_247 (by decide) ?_
  refine J.icmp_leL (tgt := 255) C dX7_useLemma_248 (by decide) H (fun c_248 H => ?_) (fun c_248 H => ?_)
  · refine J.iconst C (-1) dX7_useLemma_255 (by decide) ?_
    refine J.iconst C (-1) dX7_useLemma_256 (by decide) ?_
    refine J.iconst C (-1) dX7_useLemma_257 (by decide) ?_
    refine J.callVBI (hp := (mkh g bd pre rst)) C rfl (sp_X7_enters hl _ _ _ _ _ _) rfl kMl_X7_145 mdX7_enters ⟨(Nat.le_of_ble_eq_true rfl), (Nat.le_of_ble_eq_true rfl)⟩ mk_0 rfl rfl (Nat.le_of_ble_eq_true rfl) dX7_useLemma_258 ⟨(Nat.le_of_ble_eq_true rfl), (Nat.le_of_ble_eq_true rfl)⟩ hx (Nat.le_of_ble_eq_true rfl) (Nat.le_of_ble_eq_true rfl) H (fun r258 s258 H => ?_)
    exact J.iretL C hr (Nat.le_of_ble_eq_true rfl) (Nat.le_of_ble_eq_true rfl) dX7_useLemma_261 H
  · refine J.iload_n (i := 3) C dX7_useLemma_251 rfl rfl ?_
    refine J.goto (tgt := 256) C dX7_useLemma_252 (by decide) ?_
    refine J.iconst C (-1) dX7_useLemma_256 (by decide) ?_
    refine J.iconst C (-1) dX7_useLemma_257 (by decide) ?_
    refine J.callVBI (hp := (mkh g bd pre rst)) C rfl (sp_X7_enters hl _ _ _ _ _ _) rfl kMl_X7_145 mdX7_enters ⟨(Nat.le_of_ble_eq_true rfl), (Nat.le_of_ble_eq_true rfl)⟩ mk_0 rfl rfl (Nat.le_of_ble_eq_true rfl) dX7_useLemma_258 ⟨(Nat.le_of_ble_eq_true rfl), (Nat.le_of_ble_eq_true rfl)⟩ hx (Nat.le_of_ble_eq_true rfl) (Nat.le_of_ble_eq_true rfl) H (fun r258 s258 H => ?_)
    exact J.iretL C hr (Nat.le_of_ble_eq_true rfl) (Nat.le_of_ble_eq_true rfl) dX7_useLemma_261 H
def B_X7_useLemma_180 (σ : MS) (l1 : Int32) (l2 : Int32) (l3 : Int32) (l4 : Int32) : Res MS Int32 := (if (σ.1 1) = (60 : Int32) then (bd (P_X7_raises σ (4 : Int32)) fun r191 s191 => (some (.inl r191, s191))) else (lt (tI σ 6 (0 : Int32)) fun s197 => (gd l1 8 (bd (P_X7_writesInstance 40 s197 (s197.2.1 14 l1.toNatClampNeg)) fun _ s207 => (bd (P_X7_makesWork s207 ) fun r211 s211 => (lt r211 fun z214 => (if z214 = (-1 : Int32) then (bd (P_X7_raises s211 (4 : Int32)) fun r224 s224 => (some (.inl r224, s224))) else (if l4 ≤ 0 then (B_X7_useLemma_245 s211 l3 l4 (-1 : Int32) (76 : Int32) z214) else (B_X7_useLemma_245 s211 l3 l4 l2 (76 : Int32) z214)))))))))
set_option maxRecDepth 100000 in
theorem bl_X7_useLemma_180 {l : Launch} (hl : l.stackTraces = false) {g : Gy} {bd : Nat → Nat} {pre rst : va_W} {p : Program} {e : Env} {s : State} {m : MethodId} {args : Array Value} {below : List Frame} {meth : Method} {c : Code} {A : Nat → Prop} (C : Cx p l s m args meth c g A yX7_useLemma.cls cX7_useLemma 6) (hr : meth.sig.returnType = some .int) (hx : ∀ x ∈ c.exceptionTable.toList, False) {rr : (Int32 ⊕ String) × MS} (σ : MS) (l1 : Int32) (l2 : Int32) (l3 : Int32) (l4 : Int32) (H : B_X7_useLemma_180 σ l1 l2 l3 l4 = some rr) : J p l e (rmOf 83 0 0) s m args below meth c g A 6 0 0 (QR mI g A (mkh g bd pre rst) rr below args s 0 0) 180 [(0, .ref (bd 0)), (1, .int l1), (2, .int l2), (3, .int l3), (4, .int l4)] [] ((mkh g bd pre rst) σ) := by
  unfold B_X7_useLemma_180 at H
  refine J.aload_n (i := 0) C dX7_useLemma_180 rfl rfl ?_
  refine J.get C (pre.length + 0) 11 mk_0 rfl (by decide) kFl_X7_94 inB_X7 rfl dX7_useLemma_181 ?_
  refine J.bipush C (60) dX7_useLemma_184 (by decide) ?_
  refine J.icmp_neL (tgt := 195) C dX7_useLemma_186 (by decide) H (fun c_186 H => ?_) (fun c_186 H => ?_)
  · refine J.aload_n (i := 0) C dX7_useLemma_195 rfl rfl ?_
    refine J.iconst C (0) dX7_useLemma_196 (by decide) ?_
    refine J.putL (hp := (mkh g bd pre rst)) C (pre.length + 0) 24 mk_0 rfl (by decide) kFl_X7_114 inB_X7 tyX7 tyX7_ok nmX7 rfl rfl rfl rfl (Nat.le_of_ble_eq_true rfl) dX7_useLemma_197 (mkI_6 _) H (fun s197 H => ?_)
    refine J.aload_n (i := 0) C dX7_useLemma_200 rfl rfl ?_
    refine J.aload_n (i := 0) C dX7_useLemma_201 rfl rfl ?_
    refine J.get C (pre.length + 0) 20 mk_0 rfl (by decide) kFl_X7_66 inB_X7 rfl dX7_useLemma_202 ?_
    refine J.iload_n (i := 1) C dX7_useLemma_205 rfl rfl ?_
    refine J.ialdL C (pre.length + 15) mk_15 dX7_useLemma_206 H (fun H => ?_)
    refine J.callVBV (hp := (mkh g bd pre rst)) C rfl (sp_X7_writesInstance hl 40 _ _) rfl kMl_X7_187 mdX7_writesInstance ⟨(Nat.le_of_ble_eq_true rfl), (Nat.le_of_ble_eq_true rfl)⟩ mk_0 rfl rfl (Nat.le_of_ble_eq_true rfl) dX7_useLemma_207 ⟨(Nat.le_of_ble_eq_true rfl), (Nat.le_of_ble_eq_true rfl)⟩ hx (Nat.le_of_ble_eq_true rfl) (Nat.le_of_ble_eq_true rfl) H (fun _ s207 H => ?_)
    refine J.aload_n (i := 0) C dX7_useLemma_210 rfl rfl ?_
    refine J.callVBI (hp := (mkh g bd pre rst)) C rfl (sp_X7_makesWork hl ) rfl kMl_X7_190 mdX7_makesWork ⟨(Nat.le_of_ble_eq_true rfl), (Nat.le_of_ble_eq_true rfl)⟩ mk_0 rfl rfl (Nat.le_of_ble_eq_true rfl) dX7_useLemma_211 ⟨(Nat.le_of_ble_eq_true rfl), (Nat.le_of_ble_eq_true rfl)⟩ hx (Nat.le_of_ble_eq_true rfl) (Nat.le_of_ble_eq_true rfl) H (fun r211 s211 H => ?_)
    refine J.istoreL C dX7_useLemma_214 (by decide) H (fun z214 H => ?_)
    refine J.iload C dX7_useLemma_216 rfl ?_
    refine J.iconst C (-1) dX7_useLemma_218 (by decide) ?_
    refine J.icmp_neL (tgt := 230) C dX7_useLemma_219 (by decide) H (fun c_219 H => ?_) (fun c_219 H => ?_)
    · refine J.aload_n (i := 0) C dX7_useLemma_230 rfl rfl ?_
      refine J.iload C dX7_useLemma_231 rfl ?_
      refine J.bipush C (76) dX7_useLemma_233 (by decide) ?_
      refine J.iload C dX7_useLemma_235 rfl ?_
      refine J.if_leL (tgt := 244) C dX7_useLemma_237 (by decide) H (fun c_237 H => ?_) (fun c_237 H => ?_)
      · refine J.iconst C (-1) dX7_useLemma_244 (by decide) ?_
        refine J.widen (k := 0) (n := 0) (Nat.le_of_ble_eq_true rfl) (Nat.le_of_ble_eq_true rfl) ?_
        refine J.lw (lv' := [(3, .int l3), (4, .int l4)]) ⟨rfl, rfl, trivial⟩ ?_
        exact bl_X7_useLemma_245 hl C hr hx  _ _ _ _ _ _  H
      · refine J.iload_n (i := 2) C dX7_useLemma_240 rfl rfl ?_
        refine J.goto (tgt := 245) C dX7_useLemma_241 (by decide) ?_
        refine J.widen (k := 0) (n := 0) (Nat.le_of_ble_eq_true rfl) (Nat.le_of_ble_eq_true rfl) ?_
        refine J.lw (lv' := [(3, .int l3), (4, .int l4)]) ⟨rfl, rfl, trivial⟩ ?_
        exact bl_X7_useLemma_245 hl C hr hx  _ _ _ _ _ _  H
    · refine J.aload_n (i := 0) C dX7_useLemma_222 rfl rfl ?_
      refine J.iconst C (4) dX7_useLemma_223 (by decide) ?_
      refine J.callVBI (hp := (mkh g bd pre rst)) C rfl (sp_X7_raises hl _) rfl kMl_X7_132 mdX7_raises ⟨(Nat.le_of_ble_eq_true rfl), (Nat.le_of_ble_eq_true rfl)⟩ mk_0 rfl rfl (Nat.le_of_ble_eq_true rfl) dX7_useLemma_224 ⟨(Nat.le_of_ble_eq_true rfl), (Nat.le_of_ble_eq_true rfl)⟩ hx (Nat.le_of_ble_eq_true rfl) (Nat.le_of_ble_eq_true rfl) H (fun r224 s224 H => ?_)
      refine J.goto (tgt := 261) C dX7_useLemma_227 (by decide) ?_
      exact J.iretL C hr (Nat.le_of_ble_eq_true rfl) (Nat.le_of_ble_eq_true rfl) dX7_useLemma_261 H
  · refine J.aload_n (i := 0) C dX7_useLemma_189 rfl rfl ?_
    refine J.iconst C (4) dX7_useLemma_190 (by decide) ?_
    refine J.callVBI (hp := (mkh g bd pre rst)) C rfl (sp_X7_raises hl _) rfl kMl_X7_132 mdX7_raises ⟨(Nat.le_of_ble_eq_true rfl), (Nat.le_of_ble_eq_true rfl)⟩ mk_0 rfl rfl (Nat.le_of_ble_eq_true rfl) dX7_useLemma_191 ⟨(Nat.le_of_ble_eq_true rfl), (Nat.le_of_ble_eq_true rfl)⟩ hx (Nat.le_of_ble_eq_true rfl) (Nat.le_of_ble_eq_true rfl) H (fun r191 s191 H => ?_)
    exact J.iretL C hr (Nat.le_of_ble_eq_true rfl) (Nat.le_of_ble_eq_true rfl) dX7_useLemma_194 H
def B_X7_useLemma_147 (σ : MS) (l1 : Int32) (l2 : Int32) (l3 : Int32) (l4 : Int32) : Res MS Int32 := (if l4 ≤ (1 : Int32) then (B_X7_useLemma_180 σ l1 l2 l3 l4) else (gd l1 8 (gd (1 : Int32) 2 (gd l3 60 (bd (P_X7_fits 40 σ (σ.2.2.2 l1.toNatClampNeg (1 : Int32).toNatClampNeg) (σ.2.1 6 l3.toNatClampNeg)) fun r168 s168 => (if r168 = 0 then (bd (P_X7_raises s168 (3 : Int32)) fun r176 s176 => (some (.inl r176, s176))) else (B_X7_useLemma_180 s168 l1 l2 l3 l4)))))))
set_option maxRecDepth 100000 in
theorem bl_X7_useLemma_147 {l : Launch} (hl : l.stackTraces = false) {g : Gy} {bd : Nat → Nat} {pre rst : va_W} {p : Program} {e : Env} {s : State} {m : MethodId} {args : Array Value} {below : List Frame} {meth : Method} {c : Code} {A : Nat → Prop} (C : Cx p l s m args meth c g A yX7_useLemma.cls cX7_useLemma 6) (hr : meth.sig.returnType = some .int) (hx : ∀ x ∈ c.exceptionTable.toList, False) {rr : (Int32 ⊕ String) × MS} (σ : MS) (l1 : Int32) (l2 : Int32) (l3 : Int32) (l4 : Int32) (H : B_X7_useLemma_147 σ l1 l2 l3 l4 = some rr) : J p l e (rmOf 83 0 0) s m args below meth c g A 6 0 0 (QR mI g A (mkh g bd pre rst) rr below args s 0 0) 147 [(0, .ref (bd 0)), (1, .int l1), (2, .int l2), (3, .int l3), (4, .int l4)] [] ((mkh g bd pre rst) σ) := by
  unfold B_X7_useLemma_147 at H
  refine J.iload C dX7_useLemma_147 rfl ?_
  refine J.iconst C (1) dX7_useLemma_149 (by decide) ?_
  refine J.icmp_leL (tgt := 180) C dX7_useLemma_150 (by decide) H (fun c_150 H => ?_) (fun c_150 H => ?_)
  · refine J.widen (k := 0) (n := 0) (Nat.le_of_ble_eq_true rfl) (Nat.le_of_ble_eq_true rfl) ?_
    refine J.lw (lv' := [(0, .ref (bd 0)), (1, .int l1), (2, .int l2), (3, .int l3), (4, .int l4)]) ⟨rfl, rfl, rfl, rfl, rfl, trivial⟩ ?_
    exact bl_X7_useLemma_180 hl C hr hx  _ _ _ _ _  H
  · refine J.aload_n (i := 0) C dX7_useLemma_153 rfl rfl ?_
    refine J.aload_n (i := 0) C dX7_useLemma_154 rfl rfl ?_
    refine J.get C (pre.length + 0) 18 mk_0 rfl (by decide) kFl_X7_60 inB_X7 rfl dX7_useLemma_155 ?_
    refine J.iload_n (i := 1) C dX7_useLemma_158 rfl rfl ?_
    refine J.aaldR C (pre.length + 22) mk_22 (fun j hj => if_pos hj) dX7_useLemma_159 H (fun hi_159_10 H => ?_)
    refine J.iconst C (1) dX7_useLemma_160 (by decide) ?_
    refine J.ialdL C (pre.length + (83 + l1.toNatClampNeg)) (gP_get (vp_lt hi_159_10)) dX7_useLemma_161 H (fun H => ?_)
    refine J.aload_n (i := 0) C dX7_useLemma_162 rfl rfl ?_
    refine J.get C (pre.length + 0) 7 mk_0 rfl (by decide) kFl_X7_29 inB_X7 rfl dX7_useLemma_163 ?_
    refine J.iload_n (i := 3) C dX7_useLemma_166 rfl rfl ?_
    refine J.ialdL C (pre.length + 7) mk_7 dX7_useLemma_167 H (fun H => ?_)
    refine J.callVBI (hp := (mkh g bd pre rst)) C rfl (sp_X7_fits hl 40 _ _ _) rfl kMl_X7_184 mdX7_fits ⟨(Nat.le_of_ble_eq_true rfl), (Nat.le_of_ble_eq_true rfl)⟩ mk_0 rfl rfl (Nat.le_of_ble_eq_true rfl) dX7_useLemma_168 ⟨(Nat.le_of_ble_eq_true rfl), (Nat.le_of_ble_eq_true rfl)⟩ hx (Nat.le_of_ble_eq_true rfl) (Nat.le_of_ble_eq_true rfl) H (fun r168 s168 H => ?_)
    refine J.if_neL (tgt := 180) C dX7_useLemma_171 (by decide) H (fun c_171 H => ?_) (fun c_171 H => ?_)
    · refine J.widen (k := 0) (n := 0) (Nat.le_of_ble_eq_true rfl) (Nat.le_of_ble_eq_true rfl) ?_
      refine J.lw (lv' := [(0, .ref (bd 0)), (1, .int l1), (2, .int l2), (3, .int l3), (4, .int l4)]) ⟨rfl, rfl, rfl, rfl, rfl, trivial⟩ ?_
      exact bl_X7_useLemma_180 hl C hr hx  _ _ _ _ _  H
    · refine J.aload_n (i := 0) C dX7_useLemma_174 rfl rfl ?_
      refine J.iconst C (3) dX7_useLemma_175 (by decide) ?_
      refine J.callVBI (hp := (mkh g bd pre rst)) C rfl (sp_X7_raises hl _) rfl kMl_X7_132 mdX7_raises ⟨(Nat.le_of_ble_eq_true rfl), (Nat.le_of_ble_eq_true rfl)⟩ mk_0 rfl rfl (Nat.le_of_ble_eq_true rfl) dX7_useLemma_176 ⟨(Nat.le_of_ble_eq_true rfl), (Nat.le_of_ble_eq_true rfl)⟩ hx (Nat.le_of_ble_eq_true rfl) (Nat.le_of_ble_eq_true rfl) H (fun r176 s176 H => ?_)
      exact J.iretL C hr (Nat.le_of_ble_eq_true rfl) (Nat.le_of_ble_eq_true rfl) dX7_useLemma_179 H
def B_X7_useLemma_101 (k_101 : MS → Int32 → Int32 → Int32 → Int32 → Int32 → Res MS Int32) (σ : MS) (l1 : Int32) (l2 : Int32) (l3 : Int32) (l4 : Int32) (l5 : Int32) : Res MS Int32 := (if (5 : Int32) ≤ l5 then (if l4 ≤ 0 then (B_X7_useLemma_147 σ l1 l2 l3 l4) else (gd l1 8 (gd (0 : Int32) 2 (gd l2 60 (bd (P_X7_fits 40 σ (σ.2.2.2 l1.toNatClampNeg (0 : Int32).toNatClampNeg) (σ.2.1 6 l2.toNatClampNeg)) fun r141 s141 => (if r141 = 0 then (bd (P_X7_raises s141 (3 : Int32)) fun r176 s176 => (some (.inl r176, s176))) else (B_X7_useLemma_147 s141 l1 l2 l3 l4))))))) else (gd l5 5 (lt (tA σ 16 (upd (σ.2.1 16) l5.toNatClampNeg (-1 : Int32))) fun s114 => (lt (l5 + (1 : Int32)) fun z115 => (k_101 s114 l1 l2 l3 l4 z115)))))
set_option maxRecDepth 100000 in
theorem bl_X7_useLemma_101 {l : Launch} (hl : l.stackTraces = false) {g : Gy} {bd : Nat → Nat} {pre rst : va_W} {p : Program} {e : Env} {s : State} {m : MethodId} {args : Array Value} {below : List Frame} {meth : Method} {c : Code} {A : Nat → Prop} (C : Cx p l s m args meth c g A yX7_useLemma.cls cX7_useLemma 6) (hr : meth.sig.returnType = some .int) (hx : ∀ x ∈ c.exceptionTable.toList, False) {rr : (Int32 ⊕ String) × MS} (k_101 : MS → Int32 → Int32 → Int32 → Int32 → Int32 → Res MS Int32) (hk_101 : ∀ (σ : MS) (l1 : Int32) (l2 : Int32) (l3 : Int32) (l4 : Int32) (l5 : Int32), k_101 σ l1 l2 l3 l4 l5 = some rr → J p l e (rmOf 83 0 0) s m args below meth c g A 6 0 0 (QR mI g A (mkh g bd pre rst) rr below args s 0 0) 101 [(0, .ref (bd 0)), (1, .int l1), (2, .int l2), (3, .int l3), (4, .int l4), (5, .int l5)] [] ((mkh g bd pre rst) σ)) (σ : MS) (l1 : Int32) (l2 : Int32) (l3 : Int32) (l4 : Int32) (l5 : Int32) (H : B_X7_useLemma_101 k_101 σ l1 l2 l3 l4 l5 = some rr) : J p l e (rmOf 83 0 0) s m args below meth c g A 6 0 0 (QR mI g A (mkh g bd pre rst) rr below args s 0 0) 101 [(0, .ref (bd 0)), (1, .int l1), (2, .int l2), (3, .int l3), (4, .int l4), (5, .int l5)] [] ((mkh g bd pre rst) σ) := by
  unfold B_X7_useLemma_101 at H
  refine J.iload C dX7_useLemma_101 rfl ?_
  refine J.iconst C (5) dX7_useLemma_103 (by decide) ?_
  refine J.icmp_geL (tgt := 121) C dX7_useLemma_104 (by decide) H (fun c_104 H => ?_) (fun c_104 H => ?_)
  · refine J.iload C dX7_useLemma_121 rfl ?_
    refine J.if_leL (tgt := 147) C dX7_useLemma_123 (by decide) H (fun c_123 H => ?_) (fun c_123 H => ?_)
    · refine J.widen (k := 0) (n := 0) (Nat.le_of_ble_eq_true rfl) (Nat.le_of_ble_eq_true rfl) ?_
      refine J.lw (lv' := [(0, .ref (bd 0)), (1, .int l1), (2, .int l2), (3, .int l3), (4, .int l4)]) ⟨rfl, rfl, rfl, rfl, rfl, trivial⟩ ?_
      exact bl_X7_useLemma_147 hl C hr hx  _ _ _ _ _  H
    · refine J.aload_n (i := 0) C dX7_useLemma_126 rfl rfl ?_
      refine J.aload_n (i := 0) C dX7_useLemma_127 rfl rfl ?_
      refine J.get C (pre.length + 0) 18 mk_0 rfl (by decide) kFl_X7_60 inB_X7 rfl dX7_useLemma_128 ?_
      refine J.iload_n (i := 1) C dX7_useLemma_131 rfl rfl ?_
      refine J.aaldR C (pre.length + 22) mk_22 (fun j hj => if_pos hj) dX7_useLemma_132 H (fun hi_132_12 H => ?_)
      refine J.iconst C (0) dX7_useLemma_133 (by decide) ?_
      refine J.ialdL C (pre.length + (83 + l1.toNatClampNeg)) (gP_get (vp_lt hi_132_12)) dX7_useLemma_134 H (fun H => ?_)
      refine J.aload_n (i := 0) C dX7_useLemma_135 rfl rfl ?_
      refine J.get C (pre.length + 0) 7 mk_0 rfl (by decide) kFl_X7_29 inB_X7 rfl dX7_useLemma_136 ?_
      refine J.iload_n (i := 2) C dX7_useLemma_139 rfl rfl ?_
      refine J.ialdL C (pre.length + 7) mk_7 dX7_useLemma_140 H (fun H => ?_)
      refine J.callVBI (hp := (mkh g bd pre rst)) C rfl (sp_X7_fits hl 40 _ _ _) rfl kMl_X7_184 mdX7_fits ⟨(Nat.le_of_ble_eq_true rfl), (Nat.le_of_ble_eq_true rfl)⟩ mk_0 rfl rfl (Nat.le_of_ble_eq_true rfl) dX7_useLemma_141 ⟨(Nat.le_of_ble_eq_true rfl), (Nat.le_of_ble_eq_true rfl)⟩ hx (Nat.le_of_ble_eq_true rfl) (Nat.le_of_ble_eq_true rfl) H (fun r141 s141 H => ?_)
      refine J.if_eqL (tgt := 174) C dX7_useLemma_144 (by decide) H (fun c_144 H => ?_) (fun c_144 H => ?_)
      · refine J.aload_n (i := 0) C dX7_useLemma_174 rfl rfl ?_
        refine J.iconst C (3) dX7_useLemma_175 (by decide) ?_
        refine J.callVBI (hp := (mkh g bd pre rst)) C rfl (sp_X7_raises hl _) rfl kMl_X7_132 mdX7_raises ⟨(Nat.le_of_ble_eq_true rfl), (Nat.le_of_ble_eq_true rfl)⟩ mk_0 rfl rfl (Nat.le_of_ble_eq_true rfl) dX7_useLemma_176 ⟨(Nat.le_of_ble_eq_true rfl), (Nat.le_of_ble_eq_true rfl)⟩ hx (Nat.le_of_ble_eq_true rfl) (Nat.le_of_ble_eq_true rfl) H (fun r176 s176 H => ?_)
        exact J.iretL C hr (Nat.le_of_ble_eq_true rfl) (Nat.le_of_ble_eq_true rfl) dX7_useLemma_179 H
      · refine J.widen (k := 0) (n := 0) (Nat.le_of_ble_eq_true rfl) (Nat.le_of_ble_eq_true rfl) ?_
        refine J.lw (lv' := [(0, .ref (bd 0)), (1, .int l1), (2, .int l2), (3, .int l3), (4, .int l4)]) ⟨rfl, rfl, rfl, rfl, rfl, trivial⟩ ?_
        exact bl_X7_useLemma_147 hl C hr hx  _ _ _ _ _  H
  · refine J.aload_n (i := 0) C dX7_useLemma_107 rfl rfl ?_
    refine J.get C (pre.length + 0) 26 mk_0 rfl (by decide) kFl_X7_72 inB_X7 rfl dX7_useLemma_108 ?_
    refine J.iload C dX7_useLemma_111 rfl ?_
    refine J.iconst C (-1) dX7_useLemma_113 (by decide) ?_
    refine J.iastL (hp := (mkh g bd pre rst)) C (pre.length + 17) mk_17 dX7_useLemma_114 (mkA_16 _) H (fun s114 H => ?_)
    refine J.iincL C (l5 + (1 : Int32)) dX7_useLemma_115 rfl rfl (by decide) H (fun z115 H => ?_)
    refine J.goto (tgt := 101) C dX7_useLemma_118 (by decide) ?_
    refine J.widen (k := 0) (n := 0) (Nat.le_of_ble_eq_true rfl) (Nat.le_of_ble_eq_true rfl) ?_
    refine J.lw (lv' := [(0, .ref (bd 0)), (1, .int l1), (2, .int l2), (3, .int l3), (4, .int l4), (5, .int z115)]) ⟨rfl, rfl, rfl, rfl, rfl, rfl, trivial⟩ ?_
    exact hk_101 _ _ _ _ _ _  H
def L_X7_useLemma_101 : Nat → MS → Int32 → Int32 → Int32 → Int32 → Int32 → Res MS Int32
  | 0, _, _, _, _, _, _ => none
  | n + 1, σ, l1, l2, l3, l4, l5 => B_X7_useLemma_101 (L_X7_useLemma_101 n) σ l1 l2 l3 l4 l5
set_option maxRecDepth 100000 in
theorem lp_X7_useLemma_101 {l : Launch} (hl : l.stackTraces = false) {g : Gy} {bd : Nat → Nat} {pre rst : va_W} {p : Program} {e : Env} {s : State} {m : MethodId} {args : Array Value} {below : List Frame} {meth : Method} {c : Code} {A : Nat → Prop} (C : Cx p l s m args meth c g A yX7_useLemma.cls cX7_useLemma 6) (hr : meth.sig.returnType = some .int) (hx : ∀ x ∈ c.exceptionTable.toList, False) {rr : (Int32 ⊕ String) × MS} : ∀ (n : Nat) (σ : MS) (l1 : Int32) (l2 : Int32) (l3 : Int32) (l4 : Int32) (l5 : Int32), L_X7_useLemma_101 n σ l1 l2 l3 l4 l5 = some rr → J p l e (rmOf 83 0 0) s m args below meth c g A 6 0 0 (QR mI g A (mkh g bd pre rst) rr below args s 0 0) 101 [(0, .ref (bd 0)), (1, .int l1), (2, .int l2), (3, .int l3), (4, .int l4), (5, .int l5)] [] ((mkh g bd pre rst) σ) := by
  intro n
  induction n with
  | zero => intro σ l1 l2 l3 l4 l5 H; cases H
  | succ n ih => intro σ l1 l2 l3 l4 l5 H; exact bl_X7_useLemma_101 hl C hr hx _ ih _ _ _ _ _ _ H
def B_X7_useLemma_78 (σ : MS) (l1 : Int32) (l2 : Int32) (l3 : Int32) (l4 : Int32) : Res MS Int32 := (if l4 ≤ (1 : Int32) then (lt (0 : Int32) fun z99 => (L_X7_useLemma_101 FU σ l1 l2 l3 l4 z99)) else (bd (P_X7_mayCite σ l3) fun r86 s86 => (if r86 = 0 then (bd (P_X7_raises s86 (2 : Int32)) fun r94 s94 => (some (.inl r94, s94))) else (lt (0 : Int32) fun z99 => (L_X7_useLemma_101 FU s86 l1 l2 l3 l4 z99)))))
set_option maxRecDepth 100000 in
theorem bl_X7_useLemma_78 {l : Launch} (hl : l.stackTraces = false) {g : Gy} {bd : Nat → Nat} {pre rst : va_W} {p : Program} {e : Env} {s : State} {m : MethodId} {args : Array Value} {below : List Frame} {meth : Method} {c : Code} {A : Nat → Prop} (C : Cx p l s m args meth c g A yX7_useLemma.cls cX7_useLemma 6) (hr : meth.sig.returnType = some .int) (hx : ∀ x ∈ c.exceptionTable.toList, False) {rr : (Int32 ⊕ String) × MS} (σ : MS) (l1 : Int32) (l2 : Int32) (l3 : Int32) (l4 : Int32) (H : B_X7_useLemma_78 σ l1 l2 l3 l4 = some rr) : J p l e (rmOf 83 0 0) s m args below meth c g A 6 0 0 (QR mI g A (mkh g bd pre rst) rr below args s 0 0) 78 [(0, .ref (bd 0)), (1, .int l1), (2, .int l2), (3, .int l3), (4, .int l4)] [] ((mkh g bd pre rst) σ) := by
  unfold B_X7_useLemma_78 at H
  refine J.iload C dX7_useLemma_78 rfl ?_
  refine J.iconst C (1) dX7_useLemma_80 (by decide) ?_
  refine J.icmp_leL (tgt := 98) C dX7_useLemma_81 (by decide) H (fun c_81 H => ?_) (fun c_81 H => ?_)
  · refine J.iconst C (0) dX7_useLemma_98 (by decide) ?_
    refine J.istoreL C dX7_useLemma_99 (by decide) H (fun z99 H => ?_)
    refine J.widen (k := 0) (n := 0) (Nat.le_of_ble_eq_true rfl) (Nat.le_of_ble_eq_true rfl) ?_
    refine J.lw (lv' := [(0, .ref (bd 0)), (1, .int l1), (2, .int l2), (3, .int l3), (4, .int l4), (5, .int z99)]) ⟨rfl, rfl, rfl, rfl, rfl, rfl, trivial⟩ ?_
    exact lp_X7_useLemma_101 hl C hr hx  FU _ _ _ _ _ _  H
  · refine J.aload_n (i := 0) C dX7_useLemma_84 rfl rfl ?_
    refine J.iload_n (i := 3) C dX7_useLemma_85 rfl rfl ?_
    refine J.callVBI (hp := (mkh g bd pre rst)) C rfl (sp_X7_mayCite hl _) rfl kMl_X7_152 mdX7_mayCite ⟨(Nat.le_of_ble_eq_true rfl), (Nat.le_of_ble_eq_true rfl)⟩ mk_0 rfl rfl (Nat.le_of_ble_eq_true rfl) dX7_useLemma_86 ⟨(Nat.le_of_ble_eq_true rfl), (Nat.le_of_ble_eq_true rfl)⟩ hx (Nat.le_of_ble_eq_true rfl) (Nat.le_of_ble_eq_true rfl) H (fun r86 s86 H => ?_)
    refine J.if_neL (tgt := 98) C dX7_useLemma_89 (by decide) H (fun c_89 H => ?_) (fun c_89 H => ?_)
    · refine J.iconst C (0) dX7_useLemma_98 (by decide) ?_
      refine J.istoreL C dX7_useLemma_99 (by decide) H (fun z99 H => ?_)
      refine J.widen (k := 0) (n := 0) (Nat.le_of_ble_eq_true rfl) (Nat.le_of_ble_eq_true rfl) ?_
      refine J.lw (lv' := [(0, .ref (bd 0)), (1, .int l1), (2, .int l2), (3, .int l3), (4, .int l4), (5, .int z99)]) ⟨rfl, rfl, rfl, rfl, rfl, rfl, trivial⟩ ?_
      exact lp_X7_useLemma_101 hl C hr hx  FU _ _ _ _ _ _  H
    · refine J.aload_n (i := 0) C dX7_useLemma_92 rfl rfl ?_
      refine J.iconst C (2) dX7_useLemma_93 (by decide) ?_
      refine J.callVBI (hp := (mkh g bd pre rst)) C rfl (sp_X7_raises hl _) rfl kMl_X7_132 mdX7_raises ⟨(Nat.le_of_ble_eq_true rfl), (Nat.le_of_ble_eq_true rfl)⟩ mk_0 rfl rfl (Nat.le_of_ble_eq_true rfl) dX7_useLemma_94 ⟨(Nat.le_of_ble_eq_true rfl), (Nat.le_of_ble_eq_true rfl)⟩ hx (Nat.le_of_ble_eq_true rfl) (Nat.le_of_ble_eq_true rfl) H (fun r94 s94 H => ?_)
      exact J.iretL C hr (Nat.le_of_ble_eq_true rfl) (Nat.le_of_ble_eq_true rfl) dX7_useLemma_97 H
def B_X7_useLemma_65 (σ : MS) (l1 : Int32) (l2 : Int32) (l3 : Int32) (l4 : Int32) : Res MS Int32 := (if l4 ≤ 0 then (B_X7_useLemma_78 σ l1 l2 l3 l4) else (bd (P_X7_mayCite σ l2) fun r72 s72 => (if r72 = 0 then (bd (P_X7_raises s72 (2 : Int32)) fun r94 s94 => (some (.inl r94, s94))) else (B_X7_useLemma_78 s72 l1 l2 l3 l4))))
set_option maxRecDepth 100000 in
theorem bl_X7_useLemma_65 {l : Launch} (hl : l.stackTraces = false) {g : Gy} {bd : Nat → Nat} {pre rst : va_W} {p : Program} {e : Env} {s : State} {m : MethodId} {args : Array Value} {below : List Frame} {meth : Method} {c : Code} {A : Nat → Prop} (C : Cx p l s m args meth c g A yX7_useLemma.cls cX7_useLemma 6) (hr : meth.sig.returnType = some .int) (hx : ∀ x ∈ c.exceptionTable.toList, False) {rr : (Int32 ⊕ String) × MS} (σ : MS) (l1 : Int32) (l2 : Int32) (l3 : Int32) (l4 : Int32) (H : B_X7_useLemma_65 σ l1 l2 l3 l4 = some rr) : J p l e (rmOf 83 0 0) s m args below meth c g A 6 0 0 (QR mI g A (mkh g bd pre rst) rr below args s 0 0) 65 [(0, .ref (bd 0)), (1, .int l1), (2, .int l2), (3, .int l3), (4, .int l4)] [] ((mkh g bd pre rst) σ) := by
  unfold B_X7_useLemma_65 at H
  refine J.iload C dX7_useLemma_65 rfl ?_
  refine J.if_leL (tgt := 78) C dX7_useLemma_67 (by decide) H (fun c_67 H => ?_) (fun c_67 H => ?_)
  · refine J.widen (k := 0) (n := 0) (Nat.le_of_ble_eq_true rfl) (Nat.le_of_ble_eq_true rfl) ?_
    refine J.lw (lv' := [(0, .ref (bd 0)), (1, .int l1), (2, .int l2), (3, .int l3), (4, .int l4)]) ⟨rfl, rfl, rfl, rfl, rfl, trivial⟩ ?_
    exact bl_X7_useLemma_78 hl C hr hx  _ _ _ _ _  H
  · refine J.aload_n (i := 0) C dX7_useLemma_70 rfl rfl ?_
    refine J.iload_n (i := 2) C dX7_useLemma_71 rfl rfl ?_
    refine J.callVBI (hp := (mkh g bd pre rst)) C rfl (sp_X7_mayCite hl _) rfl kMl_X7_152 mdX7_mayCite ⟨(Nat.le_of_ble_eq_true rfl), (Nat.le_of_ble_eq_true rfl)⟩ mk_0 rfl rfl (Nat.le_of_ble_eq_true rfl) dX7_useLemma_72 ⟨(Nat.le_of_ble_eq_true rfl), (Nat.le_of_ble_eq_true rfl)⟩ hx (Nat.le_of_ble_eq_true rfl) (Nat.le_of_ble_eq_true rfl) H (fun r72 s72 H => ?_)
    refine J.if_eqL (tgt := 92) C dX7_useLemma_75 (by decide) H (fun c_75 H => ?_) (fun c_75 H => ?_)
    · refine J.aload_n (i := 0) C dX7_useLemma_92 rfl rfl ?_
      refine J.iconst C (2) dX7_useLemma_93 (by decide) ?_
      refine J.callVBI (hp := (mkh g bd pre rst)) C rfl (sp_X7_raises hl _) rfl kMl_X7_132 mdX7_raises ⟨(Nat.le_of_ble_eq_true rfl), (Nat.le_of_ble_eq_true rfl)⟩ mk_0 rfl rfl (Nat.le_of_ble_eq_true rfl) dX7_useLemma_94 ⟨(Nat.le_of_ble_eq_true rfl), (Nat.le_of_ble_eq_true rfl)⟩ hx (Nat.le_of_ble_eq_true rfl) (Nat.le_of_ble_eq_true rfl) H (fun r94 s94 H => ?_)
      exact J.iretL C hr (Nat.le_of_ble_eq_true rfl) (Nat.le_of_ble_eq_true rfl) dX7_useLemma_97 H
    · refine J.widen (k := 0) (n := 0) (Nat.le_of_ble_eq_true rfl) (Nat.le_of_ble_eq_true rfl) ?_
      refine J.lw (lv' := [(0, .ref (bd 0)), (1, .int l1), (2, .int l2), (3, .int l3), (4, .int l4)]) ⟨rfl, rfl, rfl, rfl, rfl, trivial⟩ ?_
      exact bl_X7_useLemma_78 hl C hr hx  _ _ _ _ _  H
def B_X7_useLemma_45 (σ : MS) (l1 : Int32) (l2 : Int32) (l3 : Int32) (l4 : Int32) : Res MS Int32 := (if l4 ≤ (1 : Int32) then (B_X7_useLemma_65 σ l1 l2 l3 l4) else (if (F_X7_isLine σ l3) = 0 then (bd (P_X7_raises σ (1 : Int32)) fun r61 s61 => (some (.inl r61, s61))) else (B_X7_useLemma_65 σ l1 l2 l3 l4)))
set_option maxRecDepth 100000 in
theorem bl_X7_useLemma_45 {l : Launch} (hl : l.stackTraces = false) {g : Gy} {bd : Nat → Nat} {pre rst : va_W} {p : Program} {e : Env} {s : State} {m : MethodId} {args : Array Value} {below : List Frame} {meth : Method} {c : Code} {A : Nat → Prop} (C : Cx p l s m args meth c g A yX7_useLemma.cls cX7_useLemma 6) (hr : meth.sig.returnType = some .int) (hx : ∀ x ∈ c.exceptionTable.toList, False) {rr : (Int32 ⊕ String) × MS} (σ : MS) (l1 : Int32) (l2 : Int32) (l3 : Int32) (l4 : Int32) (H : B_X7_useLemma_45 σ l1 l2 l3 l4 = some rr) : J p l e (rmOf 83 0 0) s m args below meth c g A 6 0 0 (QR mI g A (mkh g bd pre rst) rr below args s 0 0) 45 [(0, .ref (bd 0)), (1, .int l1), (2, .int l2), (3, .int l3), (4, .int l4)] [] ((mkh g bd pre rst) σ) := by
  unfold B_X7_useLemma_45 at H
  refine J.iload C dX7_useLemma_45 rfl ?_
  refine J.iconst C (1) dX7_useLemma_47 (by decide) ?_
  refine J.icmp_leL (tgt := 65) C dX7_useLemma_48 (by decide) H (fun c_48 H => ?_) (fun c_48 H => ?_)
  · refine J.widen (k := 0) (n := 0) (Nat.le_of_ble_eq_true rfl) (Nat.le_of_ble_eq_true rfl) ?_
    refine J.lw (lv' := [(0, .ref (bd 0)), (1, .int l1), (2, .int l2), (3, .int l3), (4, .int l4)]) ⟨rfl, rfl, rfl, rfl, rfl, trivial⟩ ?_
    exact bl_X7_useLemma_65 hl C hr hx  _ _ _ _ _  H
  · refine J.aload_n (i := 0) C dX7_useLemma_51 rfl rfl ?_
    refine J.iload_n (i := 3) C dX7_useLemma_52 rfl rfl ?_
    refine J.callVI C (sp_X7_isLine hl _) rfl kMl_X7_149 mdX7_isLine ⟨(Nat.le_of_ble_eq_true rfl), (Nat.le_of_ble_eq_true rfl)⟩ mk_0 rfl rfl (Nat.le_of_ble_eq_true rfl) dX7_useLemma_53 ⟨(Nat.le_of_ble_eq_true rfl), (Nat.le_of_ble_eq_true rfl)⟩ ?_
    refine J.if_neL (tgt := 65) C dX7_useLemma_56 (by decide) H (fun c_56 H => ?_) (fun c_56 H => ?_)
    · refine J.widen (k := 0) (n := 0) (Nat.le_of_ble_eq_true rfl) (Nat.le_of_ble_eq_true rfl) ?_
      refine J.lw (lv' := [(0, .ref (bd 0)), (1, .int l1), (2, .int l2), (3, .int l3), (4, .int l4)]) ⟨rfl, rfl, rfl, rfl, rfl, trivial⟩ ?_
      exact bl_X7_useLemma_65 hl C hr hx  _ _ _ _ _  H
    · refine J.aload_n (i := 0) C dX7_useLemma_59 rfl rfl ?_
      refine J.iconst C (1) dX7_useLemma_60 (by decide) ?_
      refine J.callVBI (hp := (mkh g bd pre rst)) C rfl (sp_X7_raises hl _) rfl kMl_X7_132 mdX7_raises ⟨(Nat.le_of_ble_eq_true rfl), (Nat.le_of_ble_eq_true rfl)⟩ mk_0 rfl rfl (Nat.le_of_ble_eq_true rfl) dX7_useLemma_61 ⟨(Nat.le_of_ble_eq_true rfl), (Nat.le_of_ble_eq_true rfl)⟩ hx (Nat.le_of_ble_eq_true rfl) (Nat.le_of_ble_eq_true rfl) H (fun r61 s61 H => ?_)
      exact J.iretL C hr (Nat.le_of_ble_eq_true rfl) (Nat.le_of_ble_eq_true rfl) dX7_useLemma_64 H
def B_X7_useLemma_24 (σ : MS) (l1 : Int32) (l2 : Int32) (l3 : Int32) (t0 : Int32) : Res MS Int32 := (lt t0 fun z24 => (if z24 = (-1 : Int32) then (bd (P_X7_raises σ (1 : Int32)) fun r61 s61 => (some (.inl r61, s61))) else (if z24 ≤ 0 then (B_X7_useLemma_45 σ l1 l2 l3 z24) else (if (F_X7_isLine σ l2) = 0 then (bd (P_X7_raises σ (1 : Int32)) fun r61 s61 => (some (.inl r61, s61))) else (B_X7_useLemma_45 σ l1 l2 l3 z24)))))
set_option maxRecDepth 100000 in
theorem bl_X7_useLemma_24 {l : Launch} (hl : l.stackTraces = false) {g : Gy} {bd : Nat → Nat} {pre rst : va_W} {p : Program} {e : Env} {s : State} {m : MethodId} {args : Array Value} {below : List Frame} {meth : Method} {c : Code} {A : Nat → Prop} (C : Cx p l s m args meth c g A yX7_useLemma.cls cX7_useLemma 6) (hr : meth.sig.returnType = some .int) (hx : ∀ x ∈ c.exceptionTable.toList, False) {rr : (Int32 ⊕ String) × MS} (σ : MS) (l1 : Int32) (l2 : Int32) (l3 : Int32) (t0 : Int32) (H : B_X7_useLemma_24 σ l1 l2 l3 t0 = some rr) : J p l e (rmOf 83 0 0) s m args below meth c g A 6 0 0 (QR mI g A (mkh g bd pre rst) rr below args s 0 0) 24 [(0, .ref (bd 0)), (1, .int l1), (2, .int l2), (3, .int l3)] [.int t0] ((mkh g bd pre rst) σ) := by
  unfold B_X7_useLemma_24 at H
  refine J.istoreL C dX7_useLemma_24 (by decide) H (fun z24 H => ?_)
  refine J.iload C dX7_useLemma_26 rfl ?_
  refine J.iconst C (-1) dX7_useLemma_28 (by decide) ?_
  refine J.icmp_eqL (tgt := 59) C dX7_useLemma_29 (by decide) H (fun c_29 H => ?_) (fun c_29 H => ?_)
  · refine J.aload_n (i := 0) C dX7_useLemma_59 rfl rfl ?_
    refine J.iconst C (1) dX7_useLemma_60 (by decide) ?_
    refine J.callVBI (hp := (mkh g bd pre rst)) C rfl (sp_X7_raises hl _) rfl kMl_X7_132 mdX7_raises ⟨(Nat.le_of_ble_eq_true rfl), (Nat.le_of_ble_eq_true rfl)⟩ mk_0 rfl rfl (Nat.le_of_ble_eq_true rfl) dX7_useLemma_61 ⟨(Nat.le_of_ble_eq_true rfl), (Nat.le_of_ble_eq_true rfl)⟩ hx (Nat.le_of_ble_eq_true rfl) (Nat.le_of_ble_eq_true rfl) H (fun r61 s61 H => ?_)
    exact J.iretL C hr (Nat.le_of_ble_eq_true rfl) (Nat.le_of_ble_eq_true rfl) dX7_useLemma_64 H
  · refine J.iload C dX7_useLemma_32 rfl ?_
    refine J.if_leL (tgt := 45) C dX7_useLemma_34 (by decide) H (fun c_34 H => ?_) (fun c_34 H => ?_)
    · refine J.widen (k := 0) (n := 0) (Nat.le_of_ble_eq_true rfl) (Nat.le_of_ble_eq_true rfl) ?_
      refine J.lw (lv' := [(0, .ref (bd 0)), (1, .int l1), (2, .int l2), (3, .int l3), (4, .int z24)]) ⟨rfl, rfl, rfl, rfl, rfl, trivial⟩ ?_
      exact bl_X7_useLemma_45 hl C hr hx  _ _ _ _ _  H
    · refine J.aload_n (i := 0) C dX7_useLemma_37 rfl rfl ?_
      refine J.iload_n (i := 2) C dX7_useLemma_38 rfl rfl ?_
      refine J.callVI C (sp_X7_isLine hl _) rfl kMl_X7_149 mdX7_isLine ⟨(Nat.le_of_ble_eq_true rfl), (Nat.le_of_ble_eq_true rfl)⟩ mk_0 rfl rfl (Nat.le_of_ble_eq_true rfl) dX7_useLemma_39 ⟨(Nat.le_of_ble_eq_true rfl), (Nat.le_of_ble_eq_true rfl)⟩ ?_
      refine J.if_eqL (tgt := 59) C dX7_useLemma_42 (by decide) H (fun c_42 H => ?_) (fun c_42 H => ?_)
      · refine J.aload_n (i := 0) C dX7_useLemma_59 rfl rfl ?_
        refine J.iconst C (1) dX7_useLemma_60 (by decide) ?_
        refine J.callVBI (hp := (mkh g bd pre rst)) C rfl (sp_X7_raises hl _) rfl kMl_X7_132 mdX7_raises ⟨(Nat.le_of_ble_eq_true rfl), (Nat.le_of_ble_eq_true rfl)⟩ mk_0 rfl rfl (Nat.le_of_ble_eq_true rfl) dX7_useLemma_61 ⟨(Nat.le_of_ble_eq_true rfl), (Nat.le_of_ble_eq_true rfl)⟩ hx (Nat.le_of_ble_eq_true rfl) (Nat.le_of_ble_eq_true rfl) H (fun r61 s61 H => ?_)
        exact J.iretL C hr (Nat.le_of_ble_eq_true rfl) (Nat.le_of_ble_eq_true rfl) dX7_useLemma_64 H
      · refine J.widen (k := 0) (n := 0) (Nat.le_of_ble_eq_true rfl) (Nat.le_of_ble_eq_true rfl) ?_
        refine J.lw (lv' := [(0, .ref (bd 0)), (1, .int l1), (2, .int l2), (3, .int l3), (4, .int z24)]) ⟨rfl, rfl, rfl, rfl, rfl, trivial⟩ ?_
        exact bl_X7_useLemma_45 hl C hr hx  _ _ _ _ _  H
abbrev mX7_useLemma : MD := (yX7_useLemma, cX7_useLemma, 6, some .int)
theorem mdX7_useLemma : MDv mX7_useLemma RX7 3 := ⟨kIm_X7_useLemma, kSe_X7_useLemma, kIn_X7, kCo_X7_useLemma, by decide +kernel⟩
def P_X7_useLemma (σ : MS) (a1 : Int32) (a2 : Int32) (a3 : Int32) : Res MS Int32 := (if (F_X7_in σ a1 (0 : Int32) ((σ.1 4) - (1 : Int32))) = 0 then (B_X7_useLemma_24 σ a1 a2 a3 (-1 : Int32)) else (gd a1 8 (B_X7_useLemma_24 σ a1 a2 a3 (σ.2.1 13 a1.toNatClampNeg))))
set_option maxRecDepth 100000 in
theorem sp_X7_useLemma {l : Launch} (hl : l.stackTraces = false) {g : Gy} {bd : Nat → Nat} {pre rst : va_W} {σ : MS} (a1 : Int32) (a2 : Int32) (a3 : Int32) : SpR l mX7_useLemma 83 0 0 mI g [.ref (bd 0), .int a1, .int a2, .int a3] (mkh g bd pre rst) σ (P_X7_useLemma σ a1 a2 a3) := by
  refine SpR.of hl (by decide) (Nat.le_of_ble_eq_true rfl) (fun rr H p e s m args below meth c A C hr hx => ?_)
  unfold P_X7_useLemma at H
  refine J.lw (lv' := [(0, .ref (bd 0)), (1, .int a1), (2, .int a2), (3, .int a3)]) ⟨rfl, rfl, rfl, rfl, trivial⟩ ?_
  refine J.iload_n (i := 1) C dX7_useLemma_0 rfl rfl ?_
  refine J.iconst C (0) dX7_useLemma_1 (by decide) ?_
  refine J.aload_n (i := 0) C dX7_useLemma_2 rfl rfl ?_
  refine J.get C (pre.length + 0) 21 mk_0 rfl (by decide) kFl_X7_177 inB_X7 rfl dX7_useLemma_3 ?_
  refine J.iconst C (1) dX7_useLemma_6 (by decide) ?_
  refine J.isub C dX7_useLemma_7 ?_
  refine J.callSI C (sp_X7_in hl _ _ _) rfl kMl_X7_90 mdX7_in ⟨(Nat.le_of_ble_eq_true rfl), (Nat.le_of_ble_eq_true rfl)⟩ rfl (Nat.le_of_ble_eq_true rfl) dX7_useLemma_8 ⟨(Nat.le_of_ble_eq_true rfl), (Nat.le_of_ble_eq_true rfl)⟩ ?_
  refine J.if_eqL (tgt := 23) C dX7_useLemma_11 (by decide) H (fun c_11 H => ?_) (fun c_11 H => ?_)
  · refine J.iconst C (-1) dX7_useLemma_23 (by decide) ?_
    refine J.widen (k := 0) (n := 0) (Nat.le_of_ble_eq_true rfl) (Nat.le_of_ble_eq_true rfl) ?_
    refine J.lw (lv' := [(0, .ref (bd 0)), (1, .int a1), (2, .int a2), (3, .int a3)]) ⟨rfl, rfl, rfl, rfl, trivial⟩ ?_
    exact bl_X7_useLemma_24 hl C hr hx  _ _ _ _ _  H
  · refine J.aload_n (i := 0) C dX7_useLemma_14 rfl rfl ?_
    refine J.get C (pre.length + 0) 19 mk_0 rfl (by decide) kFl_X7_63 inB_X7 rfl dX7_useLemma_15 ?_
    refine J.iload_n (i := 1) C dX7_useLemma_18 rfl rfl ?_
    refine J.ialdL C (pre.length + 14) mk_14 dX7_useLemma_19 H (fun H => ?_)
    refine J.goto (tgt := 24) C dX7_useLemma_20 (by decide) ?_
    refine J.widen (k := 0) (n := 0) (Nat.le_of_ble_eq_true rfl) (Nat.le_of_ble_eq_true rfl) ?_
    refine J.lw (lv' := [(0, .ref (bd 0)), (1, .int a1), (2, .int a2), (3, .int a3)]) ⟨rfl, rfl, rfl, rfl, trivial⟩ ?_
    exact bl_X7_useLemma_24 hl C hr hx  _ _ _ _ _  H

/-! X7_lemmas -/
abbrev mX7_lemmas : MD := (yX7_lemmas, cX7_lemmas, 1, some .int)
theorem mdX7_lemmas : MDv mX7_lemmas RX7 0 := ⟨kIm_X7_lemmas, kSe_X7_lemmas, kIn_X7, kCo_X7_lemmas, by decide +kernel⟩
def P_X7_lemmas (σ : MS)  : Res MS Int32 := (lt (tI σ 5 (0 : Int32)) fun s2 => (some (.inl (s2.1 4), s2)))
set_option maxRecDepth 100000 in
theorem sp_X7_lemmas {l : Launch} (hl : l.stackTraces = false) {g : Gy} {bd : Nat → Nat} {pre rst : va_W} {σ : MS}  : SpR l mX7_lemmas 1 0 0 mI g [.ref (bd 0)] (mkh g bd pre rst) σ (P_X7_lemmas σ ) := by
  refine SpR.of hl (by decide) (Nat.le_of_ble_eq_true rfl) (fun rr H p e s m args below meth c A C hr hx => ?_)
  unfold P_X7_lemmas at H
  refine J.lw (lv' := [(0, .ref (bd 0))]) ⟨rfl, trivial⟩ ?_
  refine J.aload_n (i := 0) C dX7_lemmas_0 rfl rfl ?_
  refine J.iconst C (0) dX7_lemmas_1 (by decide) ?_
  refine J.putL (hp := (mkh g bd pre rst)) C (pre.length + 0) 22 mk_0 rfl (by decide) kFl_X7_84 inB_X7 tyX7 tyX7_ok nmX7 rfl rfl rfl rfl (Nat.le_of_ble_eq_true rfl) dX7_lemmas_2 (mkI_5 _) H (fun s2 H => ?_)
  refine J.aload_n (i := 0) C dX7_lemmas_5 rfl rfl ?_
  refine J.get C (pre.length + 0) 21 mk_0 rfl (by decide) kFl_X7_177 inB_X7 rfl dX7_lemmas_6 ?_
  exact J.iretL C hr (Nat.le_of_ble_eq_true rfl) (Nat.le_of_ble_eq_true rfl) dX7_lemmas_9 H

/-! X7_conclusionOf -/
def B_X7_conclusionOf_20 (σ : MS) (l1 : Int32) (t0 : Int32) : Res MS Int32 := (lt (tI σ 5 t0) fun s20 => (if (s20.1 5) ≤ 0 then (gd l1 8 (some (.inl (s20.2.1 14 l1.toNatClampNeg), s20))) else (some (.inl (0 : Int32), s20))))
set_option maxRecDepth 100000 in
theorem bl_X7_conclusionOf_20 {l : Launch} (hl : l.stackTraces = false) {g : Gy} {bd : Nat → Nat} {pre rst : va_W} {p : Program} {e : Env} {s : State} {m : MethodId} {args : Array Value} {below : List Frame} {meth : Method} {c : Code} {A : Nat → Prop} (C : Cx p l s m args meth c g A yX7_conclusionOf.cls cX7_conclusionOf 2) (hr : meth.sig.returnType = some .int) (hx : ∀ x ∈ c.exceptionTable.toList, False) {rr : (Int32 ⊕ String) × MS} (σ : MS) (l1 : Int32) (t0 : Int32) (H : B_X7_conclusionOf_20 σ l1 t0 = some rr) : J p l e (rmOf 2 0 0) s m args below meth c g A 2 0 0 (QR mI g A (mkh g bd pre rst) rr below args s 0 0) 20 [(0, .ref (bd 0)), (1, .int l1)] [.int t0, .ref (bd 0)] ((mkh g bd pre rst) σ) := by
  unfold B_X7_conclusionOf_20 at H
  refine J.putL (hp := (mkh g bd pre rst)) C (pre.length + 0) 22 mk_0 rfl (by decide) kFl_X7_84 inB_X7 tyX7 tyX7_ok nmX7 rfl rfl rfl rfl (Nat.le_of_ble_eq_true rfl) dX7_conclusionOf_20 (mkI_5 _) H (fun s20 H => ?_)
  refine J.aload_n (i := 0) C dX7_conclusionOf_23 rfl rfl ?_
  refine J.get C (pre.length + 0) 22 mk_0 rfl (by decide) kFl_X7_84 inB_X7 rfl dX7_conclusionOf_24 ?_
  refine J.if_leL (tgt := 34) C dX7_conclusionOf_27 (by decide) H (fun c_27 H => ?_) (fun c_27 H => ?_)
  · refine J.aload_n (i := 0) C dX7_conclusionOf_34 rfl rfl ?_
    refine J.get C (pre.length + 0) 20 mk_0 rfl (by decide) kFl_X7_66 inB_X7 rfl dX7_conclusionOf_35 ?_
    refine J.iload_n (i := 1) C dX7_conclusionOf_38 rfl rfl ?_
    refine J.ialdL C (pre.length + 15) mk_15 dX7_conclusionOf_39 H (fun H => ?_)
    exact J.iretL C hr (Nat.le_of_ble_eq_true rfl) (Nat.le_of_ble_eq_true rfl) dX7_conclusionOf_40 H
  · refine J.iconst C (0) dX7_conclusionOf_30 (by decide) ?_
    refine J.goto (tgt := 40) C dX7_conclusionOf_31 (by decide) ?_
    exact J.iretL C hr (Nat.le_of_ble_eq_true rfl) (Nat.le_of_ble_eq_true rfl) dX7_conclusionOf_40 H
abbrev mX7_conclusionOf : MD := (yX7_conclusionOf, cX7_conclusionOf, 2, some .int)
theorem mdX7_conclusionOf : MDv mX7_conclusionOf RX7 1 := ⟨kIm_X7_conclusionOf, kSe_X7_conclusionOf, kIn_X7, kCo_X7_conclusionOf, by decide +kernel⟩
def P_X7_conclusionOf (σ : MS) (a1 : Int32) : Res MS Int32 := (if (F_X7_in σ a1 (0 : Int32) ((σ.1 4) - (1 : Int32))) = 0 then (B_X7_conclusionOf_20 σ a1 (1 : Int32)) else (B_X7_conclusionOf_20 σ a1 (0 : Int32)))
set_option maxRecDepth 100000 in
theorem sp_X7_conclusionOf {l : Launch} (hl : l.stackTraces = false) {g : Gy} {bd : Nat → Nat} {pre rst : va_W} {σ : MS} (a1 : Int32) : SpR l mX7_conclusionOf 2 0 0 mI g [.ref (bd 0), .int a1] (mkh g bd pre rst) σ (P_X7_conclusionOf σ a1) := by
  refine SpR.of hl (by decide) (Nat.le_of_ble_eq_true rfl) (fun rr H p e s m args below meth c A C hr hx => ?_)
  unfold P_X7_conclusionOf at H
  refine J.lw (lv' := [(0, .ref (bd 0)), (1, .int a1)]) ⟨rfl, rfl, trivial⟩ ?_
  refine J.aload_n (i := 0) C dX7_conclusionOf_0 rfl rfl ?_
  refine J.iload_n (i := 1) C dX7_conclusionOf_1 rfl rfl ?_
  refine J.iconst C (0) dX7_conclusionOf_2 (by decide) ?_
  refine J.aload_n (i := 0) C dX7_conclusionOf_3 rfl rfl ?_
  refine J.get C (pre.length + 0) 21 mk_0 rfl (by decide) kFl_X7_177 inB_X7 rfl dX7_conclusionOf_4 ?_
  refine J.iconst C (1) dX7_conclusionOf_7 (by decide) ?_
  refine J.isub C dX7_conclusionOf_8 ?_
  refine J.callSI C (sp_X7_in hl _ _ _) rfl kMl_X7_90 mdX7_in ⟨(Nat.le_of_ble_eq_true rfl), (Nat.le_of_ble_eq_true rfl)⟩ rfl (Nat.le_of_ble_eq_true rfl) dX7_conclusionOf_9 ⟨(Nat.le_of_ble_eq_true rfl), (Nat.le_of_ble_eq_true rfl)⟩ ?_
  refine J.if_eqL (tgt := 19) C dX7_conclusionOf_12 (by decide) H (fun c_12 H => ?_) (fun c_12 H => ?_)
  · refine J.iconst C (1) dX7_conclusionOf_19 (by decide) ?_
    refine J.widen (k := 0) (n := 0) (Nat.le_of_ble_eq_true rfl) (Nat.le_of_ble_eq_true rfl) ?_
    refine J.lw (lv' := [(0, .ref (bd 0)), (1, .int a1)]) ⟨rfl, rfl, trivial⟩ ?_
    exact bl_X7_conclusionOf_20 hl C hr hx  _ _ _  H
  · refine J.iconst C (0) dX7_conclusionOf_15 (by decide) ?_
    refine J.goto (tgt := 20) C dX7_conclusionOf_16 (by decide) ?_
    refine J.widen (k := 0) (n := 0) (Nat.le_of_ble_eq_true rfl) (Nat.le_of_ble_eq_true rfl) ?_
    refine J.lw (lv' := [(0, .ref (bd 0)), (1, .int a1)]) ⟨rfl, rfl, trivial⟩ ?_
    exact bl_X7_conclusionOf_20 hl C hr hx  _ _ _  H

/-! X7_lines -/
abbrev mX7_lines : MD := (yX7_lines, cX7_lines, 1, some .int)
theorem mdX7_lines : MDv mX7_lines RX7 0 := ⟨kIm_X7_lines, kSe_X7_lines, kIn_X7, kCo_X7_lines, by decide +kernel⟩
def P_X7_lines (σ : MS)  : Res MS Int32 := (lt (tI σ 5 (0 : Int32)) fun s2 => (some (.inl (s2.1 1), s2)))
set_option maxRecDepth 100000 in
theorem sp_X7_lines {l : Launch} (hl : l.stackTraces = false) {g : Gy} {bd : Nat → Nat} {pre rst : va_W} {σ : MS}  : SpR l mX7_lines 1 0 0 mI g [.ref (bd 0)] (mkh g bd pre rst) σ (P_X7_lines σ ) := by
  refine SpR.of hl (by decide) (Nat.le_of_ble_eq_true rfl) (fun rr H p e s m args below meth c A C hr hx => ?_)
  unfold P_X7_lines at H
  refine J.lw (lv' := [(0, .ref (bd 0))]) ⟨rfl, trivial⟩ ?_
  refine J.aload_n (i := 0) C dX7_lines_0 rfl rfl ?_
  refine J.iconst C (0) dX7_lines_1 (by decide) ?_
  refine J.putL (hp := (mkh g bd pre rst)) C (pre.length + 0) 22 mk_0 rfl (by decide) kFl_X7_84 inB_X7 tyX7 tyX7_ok nmX7 rfl rfl rfl rfl (Nat.le_of_ble_eq_true rfl) dX7_lines_2 (mkI_5 _) H (fun s2 H => ?_)
  refine J.aload_n (i := 0) C dX7_lines_5 rfl rfl ?_
  refine J.get C (pre.length + 0) 11 mk_0 rfl (by decide) kFl_X7_94 inB_X7 rfl dX7_lines_6 ?_
  exact J.iretL C hr (Nat.le_of_ble_eq_true rfl) (Nat.le_of_ble_eq_true rfl) dX7_lines_9 H

/-! X7_lacksLine -/
abbrev mX7_lacksLine : MD := (yX7_lacksLine, cX7_lacksLine, 2, some .boolean)
theorem mdX7_lacksLine : MDv mX7_lacksLine RX7 1 := ⟨kIm_X7_lacksLine, kSe_X7_lacksLine, kIn_X7, kCo_X7_lacksLine, by decide +kernel⟩
def P_X7_lacksLine (σ : MS) (a1 : Int32) : Res MS Int32 := (if (F_X7_isLine σ a1) = 0 then (lt (tI σ 5 (1 : Int32)) fun s14 => (if (s14.1 5) ≤ 0 then (some (.inl (0 : Int32), s14)) else (some (.inl (1 : Int32), s14)))) else (lt (tI σ 5 (0 : Int32)) fun s14 => (if (s14.1 5) ≤ 0 then (some (.inl (0 : Int32), s14)) else (some (.inl (1 : Int32), s14)))))
set_option maxRecDepth 100000 in
theorem sp_X7_lacksLine {l : Launch} (hl : l.stackTraces = false) {g : Gy} {bd : Nat → Nat} {pre rst : va_W} {σ : MS} (a1 : Int32) : SpR l mX7_lacksLine 3 0 0 mI g [.ref (bd 0), .int a1] (mkh g bd pre rst) σ (P_X7_lacksLine σ a1) := by
  refine SpR.of hl (by decide) (Nat.le_of_ble_eq_true rfl) (fun rr H p e s m args below meth c A C hr hx => ?_)
  unfold P_X7_lacksLine at H
  refine J.lw (lv' := [(0, .ref (bd 0)), (1, .int a1)]) ⟨rfl, rfl, trivial⟩ ?_
  refine J.aload_n (i := 0) C dX7_lacksLine_0 rfl rfl ?_
  refine J.aload_n (i := 0) C dX7_lacksLine_1 rfl rfl ?_
  refine J.iload_n (i := 1) C dX7_lacksLine_2 rfl rfl ?_
  refine J.callVI C (sp_X7_isLine hl _) rfl kMl_X7_149 mdX7_isLine ⟨(Nat.le_of_ble_eq_true rfl), (Nat.le_of_ble_eq_true rfl)⟩ mk_0 rfl rfl (Nat.le_of_ble_eq_true rfl) dX7_lacksLine_3 ⟨(Nat.le_of_ble_eq_true rfl), (Nat.le_of_ble_eq_true rfl)⟩ ?_
  refine J.if_eqL (tgt := 13) C dX7_lacksLine_6 (by decide) H (fun c_6 H => ?_) (fun c_6 H => ?_)
  · refine J.iconst C (1) dX7_lacksLine_13 (by decide) ?_
    refine J.putL (hp := (mkh g bd pre rst)) C (pre.length + 0) 22 mk_0 rfl (by decide) kFl_X7_84 inB_X7 tyX7 tyX7_ok nmX7 rfl rfl rfl rfl (Nat.le_of_ble_eq_true rfl) dX7_lacksLine_14 (mkI_5 _) H (fun s14 H => ?_)
    refine J.aload_n (i := 0) C dX7_lacksLine_17 rfl rfl ?_
    refine J.get C (pre.length + 0) 22 mk_0 rfl (by decide) kFl_X7_84 inB_X7 rfl dX7_lacksLine_18 ?_
    refine J.if_leL (tgt := 28) C dX7_lacksLine_21 (by decide) H (fun c_21 H => ?_) (fun c_21 H => ?_)
    · refine J.iconst C (0) dX7_lacksLine_28 (by decide) ?_
      exact J.zretL C hr rfl (Nat.le_of_ble_eq_true rfl) (Nat.le_of_ble_eq_true rfl) dX7_lacksLine_29 H
    · refine J.iconst C (1) dX7_lacksLine_24 (by decide) ?_
      refine J.goto (tgt := 29) C dX7_lacksLine_25 (by decide) ?_
      exact J.zretL C hr rfl (Nat.le_of_ble_eq_true rfl) (Nat.le_of_ble_eq_true rfl) dX7_lacksLine_29 H
  · refine J.iconst C (0) dX7_lacksLine_9 (by decide) ?_
    refine J.goto (tgt := 14) C dX7_lacksLine_10 (by decide) ?_
    refine J.putL (hp := (mkh g bd pre rst)) C (pre.length + 0) 22 mk_0 rfl (by decide) kFl_X7_84 inB_X7 tyX7 tyX7_ok nmX7 rfl rfl rfl rfl (Nat.le_of_ble_eq_true rfl) dX7_lacksLine_14 (mkI_5 _) H (fun s14 H => ?_)
    refine J.aload_n (i := 0) C dX7_lacksLine_17 rfl rfl ?_
    refine J.get C (pre.length + 0) 22 mk_0 rfl (by decide) kFl_X7_84 inB_X7 rfl dX7_lacksLine_18 ?_
    refine J.if_leL (tgt := 28) C dX7_lacksLine_21 (by decide) H (fun c_21 H => ?_) (fun c_21 H => ?_)
    · refine J.iconst C (0) dX7_lacksLine_28 (by decide) ?_
      exact J.zretL C hr rfl (Nat.le_of_ble_eq_true rfl) (Nat.le_of_ble_eq_true rfl) dX7_lacksLine_29 H
    · refine J.iconst C (1) dX7_lacksLine_24 (by decide) ?_
      refine J.goto (tgt := 29) C dX7_lacksLine_25 (by decide) ?_
      exact J.zretL C hr rfl (Nat.le_of_ble_eq_true rfl) (Nat.le_of_ble_eq_true rfl) dX7_lacksLine_29 H

/-! X7_formulaOf -/
abbrev mX7_formulaOf : MD := (yX7_formulaOf, cX7_formulaOf, 2, some .int)
theorem mdX7_formulaOf : MDv mX7_formulaOf RX7 1 := ⟨kIm_X7_formulaOf, kSe_X7_formulaOf, kIn_X7, kCo_X7_formulaOf, by decide +kernel⟩
def P_X7_formulaOf (σ : MS) (a1 : Int32) : Res MS Int32 := (bd (P_X7_lacksLine σ a1) fun r2 s2 => (if r2 = 0 then (gd a1 60 (some (.inl (s2.2.1 6 a1.toNatClampNeg), s2))) else (some (.inl (0 : Int32), s2))))
set_option maxRecDepth 100000 in
theorem sp_X7_formulaOf {l : Launch} (hl : l.stackTraces = false) {g : Gy} {bd : Nat → Nat} {pre rst : va_W} {σ : MS} (a1 : Int32) : SpR l mX7_formulaOf 4 0 0 mI g [.ref (bd 0), .int a1] (mkh g bd pre rst) σ (P_X7_formulaOf σ a1) := by
  refine SpR.of hl (by decide) (Nat.le_of_ble_eq_true rfl) (fun rr H p e s m args below meth c A C hr hx => ?_)
  unfold P_X7_formulaOf at H
  refine J.lw (lv' := [(0, .ref (bd 0)), (1, .int a1)]) ⟨rfl, rfl, trivial⟩ ?_
  refine J.aload_n (i := 0) C dX7_formulaOf_0 rfl rfl ?_
  refine J.iload_n (i := 1) C dX7_formulaOf_1 rfl rfl ?_
  refine J.callVBI (hp := (mkh g bd pre rst)) C rfl (sp_X7_lacksLine hl _) rfl kMl_X7_193 mdX7_lacksLine ⟨(Nat.le_of_ble_eq_true rfl), (Nat.le_of_ble_eq_true rfl)⟩ mk_0 rfl rfl (Nat.le_of_ble_eq_true rfl) dX7_formulaOf_2 ⟨(Nat.le_of_ble_eq_true rfl), (Nat.le_of_ble_eq_true rfl)⟩ hx (Nat.le_of_ble_eq_true rfl) (Nat.le_of_ble_eq_true rfl) H (fun r2 s2 H => ?_)
  refine J.if_eqL (tgt := 12) C dX7_formulaOf_5 (by decide) H (fun c_5 H => ?_) (fun c_5 H => ?_)
  · refine J.aload_n (i := 0) C dX7_formulaOf_12 rfl rfl ?_
    refine J.get C (pre.length + 0) 7 mk_0 rfl (by decide) kFl_X7_29 inB_X7 rfl dX7_formulaOf_13 ?_
    refine J.iload_n (i := 1) C dX7_formulaOf_16 rfl rfl ?_
    refine J.ialdL C (pre.length + 7) mk_7 dX7_formulaOf_17 H (fun H => ?_)
    exact J.iretL C hr (Nat.le_of_ble_eq_true rfl) (Nat.le_of_ble_eq_true rfl) dX7_formulaOf_18 H
  · refine J.iconst C (0) dX7_formulaOf_8 (by decide) ?_
    refine J.goto (tgt := 18) C dX7_formulaOf_9 (by decide) ?_
    exact J.iretL C hr (Nat.le_of_ble_eq_true rfl) (Nat.le_of_ble_eq_true rfl) dX7_formulaOf_18 H

/-! X7_ruleOf -/
abbrev mX7_ruleOf : MD := (yX7_ruleOf, cX7_ruleOf, 2, some .char)
theorem mdX7_ruleOf : MDv mX7_ruleOf RX7 1 := ⟨kIm_X7_ruleOf, kSe_X7_ruleOf, kIn_X7, kCo_X7_ruleOf, by decide +kernel⟩
def P_X7_ruleOf (σ : MS) (a1 : Int32) : Res MS Int32 := (bd (P_X7_lacksLine σ a1) fun r2 s2 => (if r2 = 0 then (gd a1 60 (gc ((((s2.2.1 7 a1.toNatClampNeg)).toUInt32 % 65536).toInt32 = (s2.2.1 7 a1.toNatClampNeg)) (some (.inl (s2.2.1 7 a1.toNatClampNeg), s2)))) else (some (.inl (32 : Int32), s2))))
set_option maxRecDepth 100000 in
theorem sp_X7_ruleOf {l : Launch} (hl : l.stackTraces = false) {g : Gy} {bd : Nat → Nat} {pre rst : va_W} {σ : MS} (a1 : Int32) : SpR l mX7_ruleOf 4 0 0 mI g [.ref (bd 0), .int a1] (mkh g bd pre rst) σ (P_X7_ruleOf σ a1) := by
  refine SpR.of hl (by decide) (Nat.le_of_ble_eq_true rfl) (fun rr H p e s m args below meth c A C hr hx => ?_)
  unfold P_X7_ruleOf at H
  refine J.lw (lv' := [(0, .ref (bd 0)), (1, .int a1)]) ⟨rfl, rfl, trivial⟩ ?_
  refine J.aload_n (i := 0) C dX7_ruleOf_0 rfl rfl ?_
  refine J.iload_n (i := 1) C dX7_ruleOf_1 rfl rfl ?_
  refine J.callVBI (hp := (mkh g bd pre rst)) C rfl (sp_X7_lacksLine hl _) rfl kMl_X7_193 mdX7_lacksLine ⟨(Nat.le_of_ble_eq_true rfl), (Nat.le_of_ble_eq_true rfl)⟩ mk_0 rfl rfl (Nat.le_of_ble_eq_true rfl) dX7_ruleOf_2 ⟨(Nat.le_of_ble_eq_true rfl), (Nat.le_of_ble_eq_true rfl)⟩ hx (Nat.le_of_ble_eq_true rfl) (Nat.le_of_ble_eq_true rfl) H (fun r2 s2 H => ?_)
  refine J.if_eqL (tgt := 13) C dX7_ruleOf_5 (by decide) H (fun c_5 H => ?_) (fun c_5 H => ?_)
  · refine J.aload_n (i := 0) C dX7_ruleOf_13 rfl rfl ?_
    refine J.get C (pre.length + 0) 8 mk_0 rfl (by decide) kFl_X7_32 inB_X7 rfl dX7_ruleOf_14 ?_
    refine J.iload_n (i := 1) C dX7_ruleOf_17 rfl rfl ?_
    refine J.caldL C (pre.length + 8) mk_8 dX7_ruleOf_18 H (fun H => ?_)
    obtain ⟨hz, H⟩ := gc_some H
    exact J.zretL C hr (ncb hz) (Nat.le_of_ble_eq_true rfl) (Nat.le_of_ble_eq_true rfl) dX7_ruleOf_19 H
  · refine J.bipush C (32) dX7_ruleOf_8 (by decide) ?_
    refine J.goto (tgt := 19) C dX7_ruleOf_10 (by decide) ?_
    exact J.zretL C hr rfl (Nat.le_of_ble_eq_true rfl) (Nat.le_of_ble_eq_true rfl) dX7_ruleOf_19 H

/-! X7_depthOf -/
def B_X7_depthOf_17 (k_17 : MS → Int32 → Int32 → Res MS Int32) (σ : MS) (l2 : Int32) (l3 : Int32) : Res MS Int32 := (if l3 = (-1 : Int32) then (some (.inl l2, σ)) else (lt (l2 + (1 : Int32)) fun z22 => (gd l3 60 (lt (σ.2.1 9 l3.toNatClampNeg) fun z31 => (k_17 σ z22 z31)))))
set_option maxRecDepth 100000 in
theorem bl_X7_depthOf_17 {l : Launch} (hl : l.stackTraces = false) {g : Gy} {bd : Nat → Nat} {pre rst : va_W} {p : Program} {e : Env} {s : State} {m : MethodId} {args : Array Value} {below : List Frame} {meth : Method} {c : Code} {A : Nat → Prop} (C : Cx p l s m args meth c g A yX7_depthOf.cls cX7_depthOf 4) (hr : meth.sig.returnType = some .int) (hx : ∀ x ∈ c.exceptionTable.toList, False) {rr : (Int32 ⊕ String) × MS} (k_17 : MS → Int32 → Int32 → Res MS Int32) (hk_17 : ∀ (σ : MS) (l2 : Int32) (l3 : Int32), k_17 σ l2 l3 = some rr → J p l e (rmOf 4 0 0) s m args below meth c g A 4 0 0 (QR mI g A (mkh g bd pre rst) rr below args s 0 0) 17 [(0, .ref (bd 0)), (2, .int l2), (3, .int l3)] [] ((mkh g bd pre rst) σ)) (σ : MS) (l2 : Int32) (l3 : Int32) (H : B_X7_depthOf_17 k_17 σ l2 l3 = some rr) : J p l e (rmOf 4 0 0) s m args below meth c g A 4 0 0 (QR mI g A (mkh g bd pre rst) rr below args s 0 0) 17 [(0, .ref (bd 0)), (2, .int l2), (3, .int l3)] [] ((mkh g bd pre rst) σ) := by
  unfold B_X7_depthOf_17 at H
  refine J.iload_n (i := 3) C dX7_depthOf_17 rfl rfl ?_
  refine J.iconst C (-1) dX7_depthOf_18 (by decide) ?_
  refine J.icmp_eqL (tgt := 35) C dX7_depthOf_19 (by decide) H (fun c_19 H => ?_) (fun c_19 H => ?_)
  · refine J.iload_n (i := 2) C dX7_depthOf_35 rfl rfl ?_
    exact J.iretL C hr (Nat.le_of_ble_eq_true rfl) (Nat.le_of_ble_eq_true rfl) dX7_depthOf_36 H
  · refine J.iincL C (l2 + (1 : Int32)) dX7_depthOf_22 rfl rfl (by decide) H (fun z22 H => ?_)
    refine J.aload_n (i := 0) C dX7_depthOf_25 rfl rfl ?_
    refine J.get C (pre.length + 0) 12 mk_0 rfl (by decide) kFl_X7_43 inB_X7 rfl dX7_depthOf_26 ?_
    refine J.iload_n (i := 3) C dX7_depthOf_29 rfl rfl ?_
    refine J.ialdL C (pre.length + 10) mk_10 dX7_depthOf_30 H (fun H => ?_)
    refine J.istore_nL (i := 3) C dX7_depthOf_31 rfl (by decide) H (fun z31 H => ?_)
    refine J.goto (tgt := 17) C dX7_depthOf_32 (by decide) ?_
    refine J.widen (k := 0) (n := 0) (Nat.le_of_ble_eq_true rfl) (Nat.le_of_ble_eq_true rfl) ?_
    refine J.lw (lv' := [(0, .ref (bd 0)), (2, .int z22), (3, .int z31)]) ⟨rfl, rfl, rfl, trivial⟩ ?_
    exact hk_17 _ _ _  H
def L_X7_depthOf_17 : Nat → MS → Int32 → Int32 → Res MS Int32
  | 0, _, _, _ => none
  | n + 1, σ, l2, l3 => B_X7_depthOf_17 (L_X7_depthOf_17 n) σ l2 l3
set_option maxRecDepth 100000 in
theorem lp_X7_depthOf_17 {l : Launch} (hl : l.stackTraces = false) {g : Gy} {bd : Nat → Nat} {pre rst : va_W} {p : Program} {e : Env} {s : State} {m : MethodId} {args : Array Value} {below : List Frame} {meth : Method} {c : Code} {A : Nat → Prop} (C : Cx p l s m args meth c g A yX7_depthOf.cls cX7_depthOf 4) (hr : meth.sig.returnType = some .int) (hx : ∀ x ∈ c.exceptionTable.toList, False) {rr : (Int32 ⊕ String) × MS} : ∀ (n : Nat) (σ : MS) (l2 : Int32) (l3 : Int32), L_X7_depthOf_17 n σ l2 l3 = some rr → J p l e (rmOf 4 0 0) s m args below meth c g A 4 0 0 (QR mI g A (mkh g bd pre rst) rr below args s 0 0) 17 [(0, .ref (bd 0)), (2, .int l2), (3, .int l3)] [] ((mkh g bd pre rst) σ) := by
  intro n
  induction n with
  | zero => intro σ l2 l3 H; cases H
  | succ n ih => intro σ l2 l3 H; exact bl_X7_depthOf_17 hl C hr hx _ ih _ _ _ H
abbrev mX7_depthOf : MD := (yX7_depthOf, cX7_depthOf, 4, some .int)
theorem mdX7_depthOf : MDv mX7_depthOf RX7 1 := ⟨kIm_X7_depthOf, kSe_X7_depthOf, kIn_X7, kCo_X7_depthOf, by decide +kernel⟩
def P_X7_depthOf (σ : MS) (a1 : Int32) : Res MS Int32 := (lt (0 : Int32) fun z1 => (bd (P_X7_lacksLine σ a1) fun r4 s4 => (if r4 = 0 then (gd a1 60 (lt (s4.2.1 8 a1.toNatClampNeg) fun z16 => (L_X7_depthOf_17 FU s4 z1 z16))) else (some (.inl z1, s4)))))
set_option maxRecDepth 100000 in
theorem sp_X7_depthOf {l : Launch} (hl : l.stackTraces = false) {g : Gy} {bd : Nat → Nat} {pre rst : va_W} {σ : MS} (a1 : Int32) : SpR l mX7_depthOf 4 0 0 mI g [.ref (bd 0), .int a1] (mkh g bd pre rst) σ (P_X7_depthOf σ a1) := by
  refine SpR.of hl (by decide) (Nat.le_of_ble_eq_true rfl) (fun rr H p e s m args below meth c A C hr hx => ?_)
  unfold P_X7_depthOf at H
  refine J.lw (lv' := [(0, .ref (bd 0)), (1, .int a1)]) ⟨rfl, rfl, trivial⟩ ?_
  refine J.iconst C (0) dX7_depthOf_0 (by decide) ?_
  refine J.istore_nL (i := 2) C dX7_depthOf_1 rfl (by decide) H (fun z1 H => ?_)
  refine J.aload_n (i := 0) C dX7_depthOf_2 rfl rfl ?_
  refine J.iload_n (i := 1) C dX7_depthOf_3 rfl rfl ?_
  refine J.callVBI (hp := (mkh g bd pre rst)) C rfl (sp_X7_lacksLine hl _) rfl kMl_X7_193 mdX7_lacksLine ⟨(Nat.le_of_ble_eq_true rfl), (Nat.le_of_ble_eq_true rfl)⟩ mk_0 rfl rfl (Nat.le_of_ble_eq_true rfl) dX7_depthOf_4 ⟨(Nat.le_of_ble_eq_true rfl), (Nat.le_of_ble_eq_true rfl)⟩ hx (Nat.le_of_ble_eq_true rfl) (Nat.le_of_ble_eq_true rfl) H (fun r4 s4 H => ?_)
  refine J.if_neL (tgt := 35) C dX7_depthOf_7 (by decide) H (fun c_7 H => ?_) (fun c_7 H => ?_)
  · refine J.iload_n (i := 2) C dX7_depthOf_35 rfl rfl ?_
    exact J.iretL C hr (Nat.le_of_ble_eq_true rfl) (Nat.le_of_ble_eq_true rfl) dX7_depthOf_36 H
  · refine J.aload_n (i := 0) C dX7_depthOf_10 rfl rfl ?_
    refine J.get C (pre.length + 0) 9 mk_0 rfl (by decide) kFl_X7_35 inB_X7 rfl dX7_depthOf_11 ?_
    refine J.iload_n (i := 1) C dX7_depthOf_14 rfl rfl ?_
    refine J.ialdL C (pre.length + 9) mk_9 dX7_depthOf_15 H (fun H => ?_)
    refine J.istore_nL (i := 3) C dX7_depthOf_16 rfl (by decide) H (fun z16 H => ?_)
    refine J.widen (k := 0) (n := 0) (Nat.le_of_ble_eq_true rfl) (Nat.le_of_ble_eq_true rfl) ?_
    refine J.lw (lv' := [(0, .ref (bd 0)), (2, .int z1), (3, .int z16)]) ⟨rfl, rfl, rfl, trivial⟩ ?_
    exact lp_X7_depthOf_17 hl C hr hx  FU _ _ _  H

/-! X7_canCite -/
abbrev mX7_canCite : MD := (yX7_canCite, cX7_canCite, 2, some .boolean)
theorem mdX7_canCite : MDv mX7_canCite RX7 1 := ⟨kIm_X7_canCite, kSe_X7_canCite, kIn_X7, kCo_X7_canCite, by decide +kernel⟩
def P_X7_canCite (σ : MS) (a1 : Int32) : Res MS Int32 := (bd (P_X7_lacksLine σ a1) fun r2 s2 => (if r2 = 0 then (bd (P_X7_mayCite s2 a1) fun r10 s10 => (if r10 = 0 then (some (.inl (0 : Int32), s10)) else (some (.inl (1 : Int32), s10)))) else (some (.inl (0 : Int32), s2))))
set_option maxRecDepth 100000 in
theorem sp_X7_canCite {l : Launch} (hl : l.stackTraces = false) {g : Gy} {bd : Nat → Nat} {pre rst : va_W} {σ : MS} (a1 : Int32) : SpR l mX7_canCite 4 0 0 mI g [.ref (bd 0), .int a1] (mkh g bd pre rst) σ (P_X7_canCite σ a1) := by
  refine SpR.of hl (by decide) (Nat.le_of_ble_eq_true rfl) (fun rr H p e s m args below meth c A C hr hx => ?_)
  unfold P_X7_canCite at H
  refine J.lw (lv' := [(0, .ref (bd 0)), (1, .int a1)]) ⟨rfl, rfl, trivial⟩ ?_
  refine J.aload_n (i := 0) C dX7_canCite_0 rfl rfl ?_
  refine J.iload_n (i := 1) C dX7_canCite_1 rfl rfl ?_
  refine J.callVBI (hp := (mkh g bd pre rst)) C rfl (sp_X7_lacksLine hl _) rfl kMl_X7_193 mdX7_lacksLine ⟨(Nat.le_of_ble_eq_true rfl), (Nat.le_of_ble_eq_true rfl)⟩ mk_0 rfl rfl (Nat.le_of_ble_eq_true rfl) dX7_canCite_2 ⟨(Nat.le_of_ble_eq_true rfl), (Nat.le_of_ble_eq_true rfl)⟩ hx (Nat.le_of_ble_eq_true rfl) (Nat.le_of_ble_eq_true rfl) H (fun r2 s2 H => ?_)
  refine J.if_neL (tgt := 20) C dX7_canCite_5 (by decide) H (fun c_5 H => ?_) (fun c_5 H => ?_)
  · refine J.iconst C (0) dX7_canCite_20 (by decide) ?_
    exact J.zretL C hr rfl (Nat.le_of_ble_eq_true rfl) (Nat.le_of_ble_eq_true rfl) dX7_canCite_21 H
  · refine J.aload_n (i := 0) C dX7_canCite_8 rfl rfl ?_
    refine J.iload_n (i := 1) C dX7_canCite_9 rfl rfl ?_
    refine J.callVBI (hp := (mkh g bd pre rst)) C rfl (sp_X7_mayCite hl _) rfl kMl_X7_152 mdX7_mayCite ⟨(Nat.le_of_ble_eq_true rfl), (Nat.le_of_ble_eq_true rfl)⟩ mk_0 rfl rfl (Nat.le_of_ble_eq_true rfl) dX7_canCite_10 ⟨(Nat.le_of_ble_eq_true rfl), (Nat.le_of_ble_eq_true rfl)⟩ hx (Nat.le_of_ble_eq_true rfl) (Nat.le_of_ble_eq_true rfl) H (fun r10 s10 H => ?_)
    refine J.if_eqL (tgt := 20) C dX7_canCite_13 (by decide) H (fun c_13 H => ?_) (fun c_13 H => ?_)
    · refine J.iconst C (0) dX7_canCite_20 (by decide) ?_
      exact J.zretL C hr rfl (Nat.le_of_ble_eq_true rfl) (Nat.le_of_ble_eq_true rfl) dX7_canCite_21 H
    · refine J.iconst C (1) dX7_canCite_16 (by decide) ?_
      refine J.goto (tgt := 21) C dX7_canCite_17 (by decide) ?_
      exact J.zretL C hr rfl (Nat.le_of_ble_eq_true rfl) (Nat.le_of_ble_eq_true rfl) dX7_canCite_21 H

/-! X7_boxes -/
abbrev mX7_boxes : MD := (yX7_boxes, cX7_boxes, 1, some .int)
theorem mdX7_boxes : MDv mX7_boxes RX7 0 := ⟨kIm_X7_boxes, kSe_X7_boxes, kIn_X7, kCo_X7_boxes, by decide +kernel⟩
def P_X7_boxes (σ : MS)  : Res MS Int32 := (lt (tI σ 5 (0 : Int32)) fun s2 => (some (.inl (s2.1 2), s2)))
set_option maxRecDepth 100000 in
theorem sp_X7_boxes {l : Launch} (hl : l.stackTraces = false) {g : Gy} {bd : Nat → Nat} {pre rst : va_W} {σ : MS}  : SpR l mX7_boxes 1 0 0 mI g [.ref (bd 0)] (mkh g bd pre rst) σ (P_X7_boxes σ ) := by
  refine SpR.of hl (by decide) (Nat.le_of_ble_eq_true rfl) (fun rr H p e s m args below meth c A C hr hx => ?_)
  unfold P_X7_boxes at H
  refine J.lw (lv' := [(0, .ref (bd 0))]) ⟨rfl, trivial⟩ ?_
  refine J.aload_n (i := 0) C dX7_boxes_0 rfl rfl ?_
  refine J.iconst C (0) dX7_boxes_1 (by decide) ?_
  refine J.putL (hp := (mkh g bd pre rst)) C (pre.length + 0) 22 mk_0 rfl (by decide) kFl_X7_84 inB_X7 tyX7 tyX7_ok nmX7 rfl rfl rfl rfl (Nat.le_of_ble_eq_true rfl) dX7_boxes_2 (mkI_5 _) H (fun s2 H => ?_)
  refine J.aload_n (i := 0) C dX7_boxes_5 rfl rfl ?_
  refine J.get C (pre.length + 0) 16 mk_0 rfl (by decide) kFl_X7_97 inB_X7 rfl dX7_boxes_6 ?_
  exact J.iretL C hr (Nat.le_of_ble_eq_true rfl) (Nat.le_of_ble_eq_true rfl) dX7_boxes_9 H

/-! X7_lacksBox -/
abbrev mX7_lacksBox : MD := (yX7_lacksBox, cX7_lacksBox, 2, some .boolean)
theorem mdX7_lacksBox : MDv mX7_lacksBox RX7 1 := ⟨kIm_X7_lacksBox, kSe_X7_lacksBox, kIn_X7, kCo_X7_lacksBox, by decide +kernel⟩
def P_X7_lacksBox (σ : MS) (a1 : Int32) : Res MS Int32 := (if (F_X7_isBox σ a1) = 0 then (lt (tI σ 5 (1 : Int32)) fun s14 => (if (s14.1 5) ≤ 0 then (some (.inl (0 : Int32), s14)) else (some (.inl (1 : Int32), s14)))) else (lt (tI σ 5 (0 : Int32)) fun s14 => (if (s14.1 5) ≤ 0 then (some (.inl (0 : Int32), s14)) else (some (.inl (1 : Int32), s14)))))
set_option maxRecDepth 100000 in
theorem sp_X7_lacksBox {l : Launch} (hl : l.stackTraces = false) {g : Gy} {bd : Nat → Nat} {pre rst : va_W} {σ : MS} (a1 : Int32) : SpR l mX7_lacksBox 3 0 0 mI g [.ref (bd 0), .int a1] (mkh g bd pre rst) σ (P_X7_lacksBox σ a1) := by
  refine SpR.of hl (by decide) (Nat.le_of_ble_eq_true rfl) (fun rr H p e s m args below meth c A C hr hx => ?_)
  unfold P_X7_lacksBox at H
  refine J.lw (lv' := [(0, .ref (bd 0)), (1, .int a1)]) ⟨rfl, rfl, trivial⟩ ?_
  refine J.aload_n (i := 0) C dX7_lacksBox_0 rfl rfl ?_
  refine J.aload_n (i := 0) C dX7_lacksBox_1 rfl rfl ?_
  refine J.iload_n (i := 1) C dX7_lacksBox_2 rfl rfl ?_
  refine J.callVI C (sp_X7_isBox hl _) rfl kMl_X7_155 mdX7_isBox ⟨(Nat.le_of_ble_eq_true rfl), (Nat.le_of_ble_eq_true rfl)⟩ mk_0 rfl rfl (Nat.le_of_ble_eq_true rfl) dX7_lacksBox_3 ⟨(Nat.le_of_ble_eq_true rfl), (Nat.le_of_ble_eq_true rfl)⟩ ?_
  refine J.if_eqL (tgt := 13) C dX7_lacksBox_6 (by decide) H (fun c_6 H => ?_) (fun c_6 H => ?_)
  · refine J.iconst C (1) dX7_lacksBox_13 (by decide) ?_
    refine J.putL (hp := (mkh g bd pre rst)) C (pre.length + 0) 22 mk_0 rfl (by decide) kFl_X7_84 inB_X7 tyX7 tyX7_ok nmX7 rfl rfl rfl rfl (Nat.le_of_ble_eq_true rfl) dX7_lacksBox_14 (mkI_5 _) H (fun s14 H => ?_)
    refine J.aload_n (i := 0) C dX7_lacksBox_17 rfl rfl ?_
    refine J.get C (pre.length + 0) 22 mk_0 rfl (by decide) kFl_X7_84 inB_X7 rfl dX7_lacksBox_18 ?_
    refine J.if_leL (tgt := 28) C dX7_lacksBox_21 (by decide) H (fun c_21 H => ?_) (fun c_21 H => ?_)
    · refine J.iconst C (0) dX7_lacksBox_28 (by decide) ?_
      exact J.zretL C hr rfl (Nat.le_of_ble_eq_true rfl) (Nat.le_of_ble_eq_true rfl) dX7_lacksBox_29 H
    · refine J.iconst C (1) dX7_lacksBox_24 (by decide) ?_
      refine J.goto (tgt := 29) C dX7_lacksBox_25 (by decide) ?_
      exact J.zretL C hr rfl (Nat.le_of_ble_eq_true rfl) (Nat.le_of_ble_eq_true rfl) dX7_lacksBox_29 H
  · refine J.iconst C (0) dX7_lacksBox_9 (by decide) ?_
    refine J.goto (tgt := 14) C dX7_lacksBox_10 (by decide) ?_
    refine J.putL (hp := (mkh g bd pre rst)) C (pre.length + 0) 22 mk_0 rfl (by decide) kFl_X7_84 inB_X7 tyX7 tyX7_ok nmX7 rfl rfl rfl rfl (Nat.le_of_ble_eq_true rfl) dX7_lacksBox_14 (mkI_5 _) H (fun s14 H => ?_)
    refine J.aload_n (i := 0) C dX7_lacksBox_17 rfl rfl ?_
    refine J.get C (pre.length + 0) 22 mk_0 rfl (by decide) kFl_X7_84 inB_X7 rfl dX7_lacksBox_18 ?_
    refine J.if_leL (tgt := 28) C dX7_lacksBox_21 (by decide) H (fun c_21 H => ?_) (fun c_21 H => ?_)
    · refine J.iconst C (0) dX7_lacksBox_28 (by decide) ?_
      exact J.zretL C hr rfl (Nat.le_of_ble_eq_true rfl) (Nat.le_of_ble_eq_true rfl) dX7_lacksBox_29 H
    · refine J.iconst C (1) dX7_lacksBox_24 (by decide) ?_
      refine J.goto (tgt := 29) C dX7_lacksBox_25 (by decide) ?_
      exact J.zretL C hr rfl (Nat.le_of_ble_eq_true rfl) (Nat.le_of_ble_eq_true rfl) dX7_lacksBox_29 H

/-! X7_canCiteBox -/
abbrev mX7_canCiteBox : MD := (yX7_canCiteBox, cX7_canCiteBox, 2, some .boolean)
theorem mdX7_canCiteBox : MDv mX7_canCiteBox RX7 1 := ⟨kIm_X7_canCiteBox, kSe_X7_canCiteBox, kIn_X7, kCo_X7_canCiteBox, by decide +kernel⟩
def P_X7_canCiteBox (σ : MS) (a1 : Int32) : Res MS Int32 := (bd (P_X7_lacksBox σ a1) fun r2 s2 => (if r2 = 0 then (bd (P_X7_mayCiteBox s2 a1) fun r10 s10 => (if r10 = 0 then (some (.inl (0 : Int32), s10)) else (some (.inl (1 : Int32), s10)))) else (some (.inl (0 : Int32), s2))))
set_option maxRecDepth 100000 in
theorem sp_X7_canCiteBox {l : Launch} (hl : l.stackTraces = false) {g : Gy} {bd : Nat → Nat} {pre rst : va_W} {σ : MS} (a1 : Int32) : SpR l mX7_canCiteBox 4 0 0 mI g [.ref (bd 0), .int a1] (mkh g bd pre rst) σ (P_X7_canCiteBox σ a1) := by
  refine SpR.of hl (by decide) (Nat.le_of_ble_eq_true rfl) (fun rr H p e s m args below meth c A C hr hx => ?_)
  unfold P_X7_canCiteBox at H
  refine J.lw (lv' := [(0, .ref (bd 0)), (1, .int a1)]) ⟨rfl, rfl, trivial⟩ ?_
  refine J.aload_n (i := 0) C dX7_canCiteBox_0 rfl rfl ?_
  refine J.iload_n (i := 1) C dX7_canCiteBox_1 rfl rfl ?_
  refine J.callVBI (hp := (mkh g bd pre rst)) C rfl (sp_X7_lacksBox hl _) rfl kMl_X7_196 mdX7_lacksBox ⟨(Nat.le_of_ble_eq_true rfl), (Nat.le_of_ble_eq_true rfl)⟩ mk_0 rfl rfl (Nat.le_of_ble_eq_true rfl) dX7_canCiteBox_2 ⟨(Nat.le_of_ble_eq_true rfl), (Nat.le_of_ble_eq_true rfl)⟩ hx (Nat.le_of_ble_eq_true rfl) (Nat.le_of_ble_eq_true rfl) H (fun r2 s2 H => ?_)
  refine J.if_neL (tgt := 20) C dX7_canCiteBox_5 (by decide) H (fun c_5 H => ?_) (fun c_5 H => ?_)
  · refine J.iconst C (0) dX7_canCiteBox_20 (by decide) ?_
    exact J.zretL C hr rfl (Nat.le_of_ble_eq_true rfl) (Nat.le_of_ble_eq_true rfl) dX7_canCiteBox_21 H
  · refine J.aload_n (i := 0) C dX7_canCiteBox_8 rfl rfl ?_
    refine J.iload_n (i := 1) C dX7_canCiteBox_9 rfl rfl ?_
    refine J.callVBI (hp := (mkh g bd pre rst)) C rfl (sp_X7_mayCiteBox hl _) rfl kMl_X7_158 mdX7_mayCiteBox ⟨(Nat.le_of_ble_eq_true rfl), (Nat.le_of_ble_eq_true rfl)⟩ mk_0 rfl rfl (Nat.le_of_ble_eq_true rfl) dX7_canCiteBox_10 ⟨(Nat.le_of_ble_eq_true rfl), (Nat.le_of_ble_eq_true rfl)⟩ hx (Nat.le_of_ble_eq_true rfl) (Nat.le_of_ble_eq_true rfl) H (fun r10 s10 H => ?_)
    refine J.if_eqL (tgt := 20) C dX7_canCiteBox_13 (by decide) H (fun c_13 H => ?_) (fun c_13 H => ?_)
    · refine J.iconst C (0) dX7_canCiteBox_20 (by decide) ?_
      exact J.zretL C hr rfl (Nat.le_of_ble_eq_true rfl) (Nat.le_of_ble_eq_true rfl) dX7_canCiteBox_21 H
    · refine J.iconst C (1) dX7_canCiteBox_16 (by decide) ?_
      refine J.goto (tgt := 21) C dX7_canCiteBox_17 (by decide) ?_
      exact J.zretL C hr rfl (Nat.le_of_ble_eq_true rfl) (Nat.le_of_ble_eq_true rfl) dX7_canCiteBox_21 H

/-! X7_resultOf -/
abbrev mX7_resultOf : MD := (yX7_resultOf, cX7_resultOf, 2, some .int)
theorem mdX7_resultOf : MDv mX7_resultOf RX7 1 := ⟨kIm_X7_resultOf, kSe_X7_resultOf, kIn_X7, kCo_X7_resultOf, by decide +kernel⟩
def P_X7_resultOf (σ : MS) (a1 : Int32) : Res MS Int32 := (bd (P_X7_lacksBox σ a1) fun r2 s2 => (if r2 = 0 then (bd (P_X7_result s2 a1) fun r14 s14 => (some (.inl r14, s14))) else (some (.inl (0 : Int32), s2))))
set_option maxRecDepth 100000 in
theorem sp_X7_resultOf {l : Launch} (hl : l.stackTraces = false) {g : Gy} {bd : Nat → Nat} {pre rst : va_W} {σ : MS} (a1 : Int32) : SpR l mX7_resultOf 4 0 0 mI g [.ref (bd 0), .int a1] (mkh g bd pre rst) σ (P_X7_resultOf σ a1) := by
  refine SpR.of hl (by decide) (Nat.le_of_ble_eq_true rfl) (fun rr H p e s m args below meth c A C hr hx => ?_)
  unfold P_X7_resultOf at H
  refine J.lw (lv' := [(0, .ref (bd 0)), (1, .int a1)]) ⟨rfl, rfl, trivial⟩ ?_
  refine J.aload_n (i := 0) C dX7_resultOf_0 rfl rfl ?_
  refine J.iload_n (i := 1) C dX7_resultOf_1 rfl rfl ?_
  refine J.callVBI (hp := (mkh g bd pre rst)) C rfl (sp_X7_lacksBox hl _) rfl kMl_X7_196 mdX7_lacksBox ⟨(Nat.le_of_ble_eq_true rfl), (Nat.le_of_ble_eq_true rfl)⟩ mk_0 rfl rfl (Nat.le_of_ble_eq_true rfl) dX7_resultOf_2 ⟨(Nat.le_of_ble_eq_true rfl), (Nat.le_of_ble_eq_true rfl)⟩ hx (Nat.le_of_ble_eq_true rfl) (Nat.le_of_ble_eq_true rfl) H (fun r2 s2 H => ?_)
  refine J.if_eqL (tgt := 12) C dX7_resultOf_5 (by decide) H (fun c_5 H => ?_) (fun c_5 H => ?_)
  · refine J.aload_n (i := 0) C dX7_resultOf_12 rfl rfl ?_
    refine J.iload_n (i := 1) C dX7_resultOf_13 rfl rfl ?_
    refine J.callVBI (hp := (mkh g bd pre rst)) C rfl (sp_X7_result hl _) rfl kMl_X7_171 mdX7_result ⟨(Nat.le_of_ble_eq_true rfl), (Nat.le_of_ble_eq_true rfl)⟩ mk_0 rfl rfl (Nat.le_of_ble_eq_true rfl) dX7_resultOf_14 ⟨(Nat.le_of_ble_eq_true rfl), (Nat.le_of_ble_eq_true rfl)⟩ hx (Nat.le_of_ble_eq_true rfl) (Nat.le_of_ble_eq_true rfl) H (fun r14 s14 H => ?_)
    exact J.iretL C hr (Nat.le_of_ble_eq_true rfl) (Nat.le_of_ble_eq_true rfl) dX7_resultOf_17 H
  · refine J.iconst C (0) dX7_resultOf_8 (by decide) ?_
    refine J.goto (tgt := 17) C dX7_resultOf_9 (by decide) ?_
    exact J.iretL C hr (Nat.le_of_ble_eq_true rfl) (Nat.le_of_ble_eq_true rfl) dX7_resultOf_17 H

/-! X7_needed -/
def B_X7_needed_113 (k_64 : MS → Int32 → Int32 → Res MS Int32) (k_82 : MS → Int32 → Int32 → Int32 → Res MS Int32) (σ : MS) (l1 : Int32) (l2 : Int32) (l3 : Int32) : Res MS Int32 := (gd l2 60 (gd ((2 : Int32) + l3) 4 (lt (σ.2.2.1 l2.toNatClampNeg ((2 : Int32) + l3).toNatClampNeg) fun z123 => (if z123 = (-1 : Int32) then (lt (l3 + (1 : Int32)) fun z157 => (k_82 σ l1 l2 z157)) else (gd z123 60 (gd (σ.2.1 11 z123.toNatClampNeg) 60 (lt (tA σ 19 (upd (σ.2.1 19) (σ.2.1 11 z123.toNatClampNeg).toNatClampNeg (vp_nar .boolean (1 : Int32)))) fun s143 => (gd z123 60 (gd (s143.2.1 12 z123.toNatClampNeg) 60 (lt (tA s143 19 (upd (s143.2.1 19) (s143.2.1 12 z123.toNatClampNeg).toNatClampNeg (vp_nar .boolean (1 : Int32)))) fun s156 => (lt (l3 + (1 : Int32)) fun z157 => (k_82 s156 l1 l2 z157))))))))))))
set_option maxRecDepth 100000 in
theorem bl_X7_needed_113 {l : Launch} (hl : l.stackTraces = false) {g : Gy} {bd : Nat → Nat} {pre rst : va_W} {p : Program} {e : Env} {s : State} {m : MethodId} {args : Array Value} {below : List Frame} {meth : Method} {c : Code} {A : Nat → Prop} (C : Cx p l s m args meth c g A yX7_needed.cls cX7_needed 5) (hr : meth.sig.returnType = some .int) (hx : ∀ x ∈ c.exceptionTable.toList, False) {rr : (Int32 ⊕ String) × MS} (k_64 : MS → Int32 → Int32 → Res MS Int32) (hk_64 : ∀ (σ : MS) (l1 : Int32) (l2 : Int32), k_64 σ l1 l2 = some rr → J p l e (rmOf 2 0 0) s m args below meth c g A 5 0 0 (QR mI g A (mkh g bd pre rst) rr below args s 0 0) 64 [(0, .ref (bd 0)), (1, .int l1), (2, .int l2)] [] ((mkh g bd pre rst) σ)) (k_82 : MS → Int32 → Int32 → Int32 → Res MS Int32) (hk_82 : ∀ (σ : MS) (l1 : Int32) (l2 : Int32) (l3 : Int32), k_82 σ l1 l2 l3 = some rr → J p l e (rmOf 2 0 0) s m args below meth c g A 5 0 0 (QR mI g A (mkh g bd pre rst) rr below args s 0 0) 82 [(0, .ref (bd 0)), (1, .int l1), (2, .int l2), (3, .int l3)] [] ((mkh g bd pre rst) σ)) (σ : MS) (l1 : Int32) (l2 : Int32) (l3 : Int32) (H : B_X7_needed_113 k_64 k_82 σ l1 l2 l3 = some rr) : J p l e (rmOf 2 0 0) s m args below meth c g A 5 0 0 (QR mI g A (mkh g bd pre rst) rr below args s 0 0) 113 [(0, .ref (bd 0)), (1, .int l1), (2, .int l2), (3, .int l3)] [] ((mkh g bd pre rst) σ) := by
  unfold B_X7_needed_113 at H
  refine J.aload_n (i := 0) C dX7_needed_113 rfl rfl ?_
  refine J.get C (pre.length + 0) 10 mk_0 rfl (by decide) kFl_X7_40 inB_X7 rfl dX7_needed_114 ?_
  refine J.iload_n (i := 2) C dX7_needed_117 rfl rfl ?_
  refine J.aaldR C (pre.length + 21) mk_21 (fun j hj => if_pos hj) dX7_needed_118 H (fun hi_118_3 H => ?_)
  refine J.iconst C (2) dX7_needed_119 (by decide) ?_
  refine J.iload_n (i := 3) C dX7_needed_120 rfl rfl ?_
  refine J.iadd C dX7_needed_121 ?_
  refine J.ialdL C (pre.length + (23 + l2.toNatClampNeg)) (gC_get (vp_lt hi_118_3)) dX7_needed_122 H (fun H => ?_)
  refine J.istoreL C dX7_needed_123 (by decide) H (fun z123 H => ?_)
  refine J.iload C dX7_needed_125 rfl ?_
  refine J.iconst C (-1) dX7_needed_127 (by decide) ?_
  refine J.icmp_eqL (tgt := 157) C dX7_needed_128 (by decide) H (fun c_128 H => ?_) (fun c_128 H => ?_)
  · refine J.iincL C (l3 + (1 : Int32)) dX7_needed_157 rfl rfl (by decide) H (fun z157 H => ?_)
    refine J.goto (tgt := 82) C dX7_needed_160 (by decide) ?_
    refine J.widen (k := 0) (n := 0) (Nat.le_of_ble_eq_true rfl) (Nat.le_of_ble_eq_true rfl) ?_
    refine J.lw (lv' := [(0, .ref (bd 0)), (1, .int l1), (2, .int l2), (3, .int z157)]) ⟨rfl, rfl, rfl, rfl, trivial⟩ ?_
    exact hk_82 _ _ _ _  H
  · refine J.aload_n (i := 0) C dX7_needed_131 rfl rfl ?_
    refine J.get C (pre.length + 0) 29 mk_0 rfl (by decide) kFl_X7_81 inB_X7 rfl dX7_needed_132 ?_
    refine J.aload_n (i := 0) C dX7_needed_135 rfl rfl ?_
    refine J.get C (pre.length + 0) 14 mk_0 rfl (by decide) kFl_X7_50 inB_X7 rfl dX7_needed_136 ?_
    refine J.iload C dX7_needed_139 rfl ?_
    refine J.ialdL C (pre.length + 12) mk_12 dX7_needed_141 H (fun H => ?_)
    refine J.iconst C (1) dX7_needed_142 (by decide) ?_
    refine J.zastL (hp := (mkh g bd pre rst)) C (pre.length + 20) mk_20 dX7_needed_143 (mkA_19 _) H (fun s143 H => ?_)
    refine J.aload_n (i := 0) C dX7_needed_144 rfl rfl ?_
    refine J.get C (pre.length + 0) 29 mk_0 rfl (by decide) kFl_X7_81 inB_X7 rfl dX7_needed_145 ?_
    refine J.aload_n (i := 0) C dX7_needed_148 rfl rfl ?_
    refine J.get C (pre.length + 0) 15 mk_0 rfl (by decide) kFl_X7_53 inB_X7 rfl dX7_needed_149 ?_
    refine J.iload C dX7_needed_152 rfl ?_
    refine J.ialdL C (pre.length + 13) mk_13 dX7_needed_154 H (fun H => ?_)
    refine J.iconst C (1) dX7_needed_155 (by decide) ?_
    refine J.zastL (hp := (mkh g bd pre rst)) C (pre.length + 20) mk_20 dX7_needed_156 (mkA_19 _) H (fun s156 H => ?_)
    refine J.iincL C (l3 + (1 : Int32)) dX7_needed_157 rfl rfl (by decide) H (fun z157 H => ?_)
    refine J.goto (tgt := 82) C dX7_needed_160 (by decide) ?_
    refine J.widen (k := 0) (n := 0) (Nat.le_of_ble_eq_true rfl) (Nat.le_of_ble_eq_true rfl) ?_
    refine J.lw (lv' := [(0, .ref (bd 0)), (1, .int l1), (2, .int l2), (3, .int z157)]) ⟨rfl, rfl, rfl, rfl, trivial⟩ ?_
    exact hk_82 _ _ _ _  H
def B_X7_needed_82 (k_64 : MS → Int32 → Int32 → Res MS Int32) (k_82 : MS → Int32 → Int32 → Int32 → Res MS Int32) (σ : MS) (l1 : Int32) (l2 : Int32) (l3 : Int32) : Res MS Int32 := (if (2 : Int32) ≤ l3 then (lt (l2 + (-1 : Int32)) fun z163 => (k_64 σ l1 z163)) else (gd l2 60 (gd l3 4 (if (σ.2.2.1 l2.toNatClampNeg l3.toNatClampNeg) = (-1 : Int32) then (B_X7_needed_113 k_64 k_82 σ l1 l2 l3) else (gd l2 60 (gd l3 4 (gd (σ.2.2.1 l2.toNatClampNeg l3.toNatClampNeg) 60 (lt (tA σ 19 (upd (σ.2.1 19) (σ.2.2.1 l2.toNatClampNeg l3.toNatClampNeg).toNatClampNeg (vp_nar .boolean (1 : Int32)))) fun s112 => (B_X7_needed_113 k_64 k_82 s112 l1 l2 l3)))))))))
set_option maxRecDepth 100000 in
theorem bl_X7_needed_82 {l : Launch} (hl : l.stackTraces = false) {g : Gy} {bd : Nat → Nat} {pre rst : va_W} {p : Program} {e : Env} {s : State} {m : MethodId} {args : Array Value} {below : List Frame} {meth : Method} {c : Code} {A : Nat → Prop} (C : Cx p l s m args meth c g A yX7_needed.cls cX7_needed 5) (hr : meth.sig.returnType = some .int) (hx : ∀ x ∈ c.exceptionTable.toList, False) {rr : (Int32 ⊕ String) × MS} (k_64 : MS → Int32 → Int32 → Res MS Int32) (hk_64 : ∀ (σ : MS) (l1 : Int32) (l2 : Int32), k_64 σ l1 l2 = some rr → J p l e (rmOf 2 0 0) s m args below meth c g A 5 0 0 (QR mI g A (mkh g bd pre rst) rr below args s 0 0) 64 [(0, .ref (bd 0)), (1, .int l1), (2, .int l2)] [] ((mkh g bd pre rst) σ)) (k_82 : MS → Int32 → Int32 → Int32 → Res MS Int32) (hk_82 : ∀ (σ : MS) (l1 : Int32) (l2 : Int32) (l3 : Int32), k_82 σ l1 l2 l3 = some rr → J p l e (rmOf 2 0 0) s m args below meth c g A 5 0 0 (QR mI g A (mkh g bd pre rst) rr below args s 0 0) 82 [(0, .ref (bd 0)), (1, .int l1), (2, .int l2), (3, .int l3)] [] ((mkh g bd pre rst) σ)) (σ : MS) (l1 : Int32) (l2 : Int32) (l3 : Int32) (H : B_X7_needed_82 k_64 k_82 σ l1 l2 l3 = some rr) : J p l e (rmOf 2 0 0) s m args below meth c g A 5 0 0 (QR mI g A (mkh g bd pre rst) rr below args s 0 0) 82 [(0, .ref (bd 0)), (1, .int l1), (2, .int l2), (3, .int l3)] [] ((mkh g bd pre rst) σ) := by
  unfold B_X7_needed_82 at H
  refine J.iload_n (i := 3) C dX7_needed_82 rfl rfl ?_
  refine J.iconst C (2) dX7_needed_83 (by decide) ?_
  refine J.icmp_geL (tgt := 163) C dX7_needed_84 (by decide) H (fun c_84 H => ?_) (fun c_84 H => ?_)
  · refine J.iincL C (l2 + (-1 : Int32)) dX7_needed_163 rfl rfl (by decide) H (fun z163 H => ?_)
    refine J.goto (tgt := 64) C dX7_needed_166 (by decide) ?_
    refine J.widen (k := 0) (n := 0) (Nat.le_of_ble_eq_true rfl) (Nat.le_of_ble_eq_true rfl) ?_
    refine J.lw (lv' := [(0, .ref (bd 0)), (1, .int l1), (2, .int z163)]) ⟨rfl, rfl, rfl, trivial⟩ ?_
    exact hk_64 _ _ _  H
  · refine J.aload_n (i := 0) C dX7_needed_87 rfl rfl ?_
    refine J.get C (pre.length + 0) 10 mk_0 rfl (by decide) kFl_X7_40 inB_X7 rfl dX7_needed_88 ?_
    refine J.iload_n (i := 2) C dX7_needed_91 rfl rfl ?_
    refine J.aaldR C (pre.length + 21) mk_21 (fun j hj => if_pos hj) dX7_needed_92 H (fun hi_92_11 H => ?_)
    refine J.iload_n (i := 3) C dX7_needed_93 rfl rfl ?_
    refine J.ialdL C (pre.length + (23 + l2.toNatClampNeg)) (gC_get (vp_lt hi_92_11)) dX7_needed_94 H (fun H => ?_)
    refine J.iconst C (-1) dX7_needed_95 (by decide) ?_
    refine J.icmp_eqL (tgt := 113) C dX7_needed_96 (by decide) H (fun c_96 H => ?_) (fun c_96 H => ?_)
    · refine J.widen (k := 0) (n := 0) (Nat.le_of_ble_eq_true rfl) (Nat.le_of_ble_eq_true rfl) ?_
      refine J.lw (lv' := [(0, .ref (bd 0)), (1, .int l1), (2, .int l2), (3, .int l3)]) ⟨rfl, rfl, rfl, rfl, trivial⟩ ?_
      exact bl_X7_needed_113 hl C hr hx k_64 hk_64 k_82 hk_82 _ _ _ _  H
    · refine J.aload_n (i := 0) C dX7_needed_99 rfl rfl ?_
      refine J.get C (pre.length + 0) 29 mk_0 rfl (by decide) kFl_X7_81 inB_X7 rfl dX7_needed_100 ?_
      refine J.aload_n (i := 0) C dX7_needed_103 rfl rfl ?_
      refine J.get C (pre.length + 0) 10 mk_0 rfl (by decide) kFl_X7_40 inB_X7 rfl dX7_needed_104 ?_
      refine J.iload_n (i := 2) C dX7_needed_107 rfl rfl ?_
      refine J.aaldR C (pre.length + 21) mk_21 (fun j hj => if_pos hj) dX7_needed_108 H (fun hi_108_24 H => ?_)
      refine J.iload_n (i := 3) C dX7_needed_109 rfl rfl ?_
      refine J.ialdL C (pre.length + (23 + l2.toNatClampNeg)) (gC_get (vp_lt hi_108_24)) dX7_needed_110 H (fun H => ?_)
      refine J.iconst C (1) dX7_needed_111 (by decide) ?_
      refine J.zastL (hp := (mkh g bd pre rst)) C (pre.length + 20) mk_20 dX7_needed_112 (mkA_19 _) H (fun s112 H => ?_)
      refine J.widen (k := 0) (n := 0) (Nat.le_of_ble_eq_true rfl) (Nat.le_of_ble_eq_true rfl) ?_
      refine J.lw (lv' := [(0, .ref (bd 0)), (1, .int l1), (2, .int l2), (3, .int l3)]) ⟨rfl, rfl, rfl, rfl, trivial⟩ ?_
      exact bl_X7_needed_113 hl C hr hx k_64 hk_64 k_82 hk_82 _ _ _ _  H
def L_X7_needed_82 (k_64 : MS → Int32 → Int32 → Res MS Int32) : Nat → MS → Int32 → Int32 → Int32 → Res MS Int32
  | 0, _, _, _, _ => none
  | n + 1, σ, l1, l2, l3 => B_X7_needed_82 k_64 (L_X7_needed_82 k_64 n) σ l1 l2 l3
set_option maxRecDepth 100000 in
theorem lp_X7_needed_82 {l : Launch} (hl : l.stackTraces = false) {g : Gy} {bd : Nat → Nat} {pre rst : va_W} {p : Program} {e : Env} {s : State} {m : MethodId} {args : Array Value} {below : List Frame} {meth : Method} {c : Code} {A : Nat → Prop} (C : Cx p l s m args meth c g A yX7_needed.cls cX7_needed 5) (hr : meth.sig.returnType = some .int) (hx : ∀ x ∈ c.exceptionTable.toList, False) {rr : (Int32 ⊕ String) × MS} (k_64 : MS → Int32 → Int32 → Res MS Int32) (hk_64 : ∀ (σ : MS) (l1 : Int32) (l2 : Int32), k_64 σ l1 l2 = some rr → J p l e (rmOf 2 0 0) s m args below meth c g A 5 0 0 (QR mI g A (mkh g bd pre rst) rr below args s 0 0) 64 [(0, .ref (bd 0)), (1, .int l1), (2, .int l2)] [] ((mkh g bd pre rst) σ)) : ∀ (n : Nat) (σ : MS) (l1 : Int32) (l2 : Int32) (l3 : Int32), L_X7_needed_82 k_64 n σ l1 l2 l3 = some rr → J p l e (rmOf 2 0 0) s m args below meth c g A 5 0 0 (QR mI g A (mkh g bd pre rst) rr below args s 0 0) 82 [(0, .ref (bd 0)), (1, .int l1), (2, .int l2), (3, .int l3)] [] ((mkh g bd pre rst) σ) := by
  intro n
  induction n with
  | zero => intro σ l1 l2 l3 H; cases H
  | succ n ih => intro σ l1 l2 l3 H; exact bl_X7_needed_82 hl C hr hx k_64 hk_64 _ ih _ _ _ _ H
def B_X7_needed_64 (k_64 : MS → Int32 → Int32 → Res MS Int32) (σ : MS) (l1 : Int32) (l2 : Int32) : Res MS Int32 := (if l2 < 0 then (some (.inl l1, σ)) else (gd l2 60 (if (σ.2.1 19 l2.toNatClampNeg) = 0 then (lt (l2 + (-1 : Int32)) fun z163 => (k_64 σ l1 z163)) else (lt (l1 + (1 : Int32)) fun z77 => (lt (0 : Int32) fun z81 => (L_X7_needed_82 k_64 FU σ z77 l2 z81))))))
set_option maxRecDepth 100000 in
theorem bl_X7_needed_64 {l : Launch} (hl : l.stackTraces = false) {g : Gy} {bd : Nat → Nat} {pre rst : va_W} {p : Program} {e : Env} {s : State} {m : MethodId} {args : Array Value} {below : List Frame} {meth : Method} {c : Code} {A : Nat → Prop} (C : Cx p l s m args meth c g A yX7_needed.cls cX7_needed 5) (hr : meth.sig.returnType = some .int) (hx : ∀ x ∈ c.exceptionTable.toList, False) {rr : (Int32 ⊕ String) × MS} (k_64 : MS → Int32 → Int32 → Res MS Int32) (hk_64 : ∀ (σ : MS) (l1 : Int32) (l2 : Int32), k_64 σ l1 l2 = some rr → J p l e (rmOf 2 0 0) s m args below meth c g A 5 0 0 (QR mI g A (mkh g bd pre rst) rr below args s 0 0) 64 [(0, .ref (bd 0)), (1, .int l1), (2, .int l2)] [] ((mkh g bd pre rst) σ)) (σ : MS) (l1 : Int32) (l2 : Int32) (H : B_X7_needed_64 k_64 σ l1 l2 = some rr) : J p l e (rmOf 2 0 0) s m args below meth c g A 5 0 0 (QR mI g A (mkh g bd pre rst) rr below args s 0 0) 64 [(0, .ref (bd 0)), (1, .int l1), (2, .int l2)] [] ((mkh g bd pre rst) σ) := by
  unfold B_X7_needed_64 at H
  refine J.iload_n (i := 2) C dX7_needed_64 rfl rfl ?_
  refine J.if_ltL (tgt := 169) C dX7_needed_65 (by decide) H (fun c_65 H => ?_) (fun c_65 H => ?_)
  · refine J.iload_n (i := 1) C dX7_needed_169 rfl rfl ?_
    exact J.iretL C hr (Nat.le_of_ble_eq_true rfl) (Nat.le_of_ble_eq_true rfl) dX7_needed_170 H
  · refine J.aload_n (i := 0) C dX7_needed_68 rfl rfl ?_
    refine J.get C (pre.length + 0) 29 mk_0 rfl (by decide) kFl_X7_81 inB_X7 rfl dX7_needed_69 ?_
    refine J.iload_n (i := 2) C dX7_needed_72 rfl rfl ?_
    refine J.zaldL C (pre.length + 20) mk_20 dX7_needed_73 H (fun H => ?_)
    refine J.if_eqL (tgt := 163) C dX7_needed_74 (by decide) H (fun c_74 H => ?_) (fun c_74 H => ?_)
    · refine J.iincL C (l2 + (-1 : Int32)) dX7_needed_163 rfl rfl (by decide) H (fun z163 H => ?_)
      refine J.goto (tgt := 64) C dX7_needed_166 (by decide) ?_
      refine J.widen (k := 0) (n := 0) (Nat.le_of_ble_eq_true rfl) (Nat.le_of_ble_eq_true rfl) ?_
      refine J.lw (lv' := [(0, .ref (bd 0)), (1, .int l1), (2, .int z163)]) ⟨rfl, rfl, rfl, trivial⟩ ?_
      exact hk_64 _ _ _  H
    · refine J.iincL C (l1 + (1 : Int32)) dX7_needed_77 rfl rfl (by decide) H (fun z77 H => ?_)
      refine J.iconst C (0) dX7_needed_80 (by decide) ?_
      refine J.istore_nL (i := 3) C dX7_needed_81 rfl (by decide) H (fun z81 H => ?_)
      refine J.widen (k := 0) (n := 0) (Nat.le_of_ble_eq_true rfl) (Nat.le_of_ble_eq_true rfl) ?_
      refine J.lw (lv' := [(0, .ref (bd 0)), (1, .int z77), (2, .int l2), (3, .int z81)]) ⟨rfl, rfl, rfl, rfl, trivial⟩ ?_
      exact lp_X7_needed_82 hl C hr hx k_64 hk_64 FU _ _ _ _  H
def L_X7_needed_64 : Nat → MS → Int32 → Int32 → Res MS Int32
  | 0, _, _, _ => none
  | n + 1, σ, l1, l2 => B_X7_needed_64 (L_X7_needed_64 n) σ l1 l2
set_option maxRecDepth 100000 in
theorem lp_X7_needed_64 {l : Launch} (hl : l.stackTraces = false) {g : Gy} {bd : Nat → Nat} {pre rst : va_W} {p : Program} {e : Env} {s : State} {m : MethodId} {args : Array Value} {below : List Frame} {meth : Method} {c : Code} {A : Nat → Prop} (C : Cx p l s m args meth c g A yX7_needed.cls cX7_needed 5) (hr : meth.sig.returnType = some .int) (hx : ∀ x ∈ c.exceptionTable.toList, False) {rr : (Int32 ⊕ String) × MS} : ∀ (n : Nat) (σ : MS) (l1 : Int32) (l2 : Int32), L_X7_needed_64 n σ l1 l2 = some rr → J p l e (rmOf 2 0 0) s m args below meth c g A 5 0 0 (QR mI g A (mkh g bd pre rst) rr below args s 0 0) 64 [(0, .ref (bd 0)), (1, .int l1), (2, .int l2)] [] ((mkh g bd pre rst) σ) := by
  intro n
  induction n with
  | zero => intro σ l1 l2 H; cases H
  | succ n ih => intro σ l1 l2 H; exact bl_X7_needed_64 hl C hr hx _ ih _ _ _ H
def B_X7_needed_20 (k_20 : MS → Int32 → Res MS Int32) (σ : MS) (l1 : Int32) : Res MS Int32 := (if (σ.1 1) ≤ l1 then (lt (0 : Int32) fun z56 => (lt ((σ.1 1) - (1 : Int32)) fun z63 => (L_X7_needed_64 FU σ z56 z63))) else (if l1 = ((σ.1 1) - (1 : Int32)) then (gd l1 60 (lt (tA σ 19 (upd (σ.2.1 19) l1.toNatClampNeg (vp_nar .boolean (1 : Int32)))) fun s48 => (lt (l1 + (1 : Int32)) fun z49 => (k_20 s48 z49)))) else (gd l1 60 (lt (tA σ 19 (upd (σ.2.1 19) l1.toNatClampNeg (vp_nar .boolean (0 : Int32)))) fun s48 => (lt (l1 + (1 : Int32)) fun z49 => (k_20 s48 z49))))))
set_option maxRecDepth 100000 in
theorem bl_X7_needed_20 {l : Launch} (hl : l.stackTraces = false) {g : Gy} {bd : Nat → Nat} {pre rst : va_W} {p : Program} {e : Env} {s : State} {m : MethodId} {args : Array Value} {below : List Frame} {meth : Method} {c : Code} {A : Nat → Prop} (C : Cx p l s m args meth c g A yX7_needed.cls cX7_needed 5) (hr : meth.sig.returnType = some .int) (hx : ∀ x ∈ c.exceptionTable.toList, False) {rr : (Int32 ⊕ String) × MS} (k_20 : MS → Int32 → Res MS Int32) (hk_20 : ∀ (σ : MS) (l1 : Int32), k_20 σ l1 = some rr → J p l e (rmOf 2 0 0) s m args below meth c g A 5 0 0 (QR mI g A (mkh g bd pre rst) rr below args s 0 0) 20 [(0, .ref (bd 0)), (1, .int l1)] [] ((mkh g bd pre rst) σ)) (σ : MS) (l1 : Int32) (H : B_X7_needed_20 k_20 σ l1 = some rr) : J p l e (rmOf 2 0 0) s m args below meth c g A 5 0 0 (QR mI g A (mkh g bd pre rst) rr below args s 0 0) 20 [(0, .ref (bd 0)), (1, .int l1)] [] ((mkh g bd pre rst) σ) := by
  unfold B_X7_needed_20 at H
  refine J.iload_n (i := 1) C dX7_needed_20 rfl rfl ?_
  refine J.aload_n (i := 0) C dX7_needed_21 rfl rfl ?_
  refine J.get C (pre.length + 0) 11 mk_0 rfl (by decide) kFl_X7_94 inB_X7 rfl dX7_needed_22 ?_
  refine J.icmp_geL (tgt := 55) C dX7_needed_25 (by decide) H (fun c_25 H => ?_) (fun c_25 H => ?_)
  · refine J.iconst C (0) dX7_needed_55 (by decide) ?_
    refine J.istore_nL (i := 1) C dX7_needed_56 rfl (by decide) H (fun z56 H => ?_)
    refine J.aload_n (i := 0) C dX7_needed_57 rfl rfl ?_
    refine J.get C (pre.length + 0) 11 mk_0 rfl (by decide) kFl_X7_94 inB_X7 rfl dX7_needed_58 ?_
    refine J.iconst C (1) dX7_needed_61 (by decide) ?_
    refine J.isub C dX7_needed_62 ?_
    refine J.istore_nL (i := 2) C dX7_needed_63 rfl (by decide) H (fun z63 H => ?_)
    refine J.widen (k := 0) (n := 0) (Nat.le_of_ble_eq_true rfl) (Nat.le_of_ble_eq_true rfl) ?_
    refine J.lw (lv' := [(0, .ref (bd 0)), (1, .int z56), (2, .int z63)]) ⟨rfl, rfl, rfl, trivial⟩ ?_
    exact lp_X7_needed_64 hl C hr hx  FU _ _ _  H
  · refine J.aload_n (i := 0) C dX7_needed_28 rfl rfl ?_
    refine J.get C (pre.length + 0) 29 mk_0 rfl (by decide) kFl_X7_81 inB_X7 rfl dX7_needed_29 ?_
    refine J.iload_n (i := 1) C dX7_needed_32 rfl rfl ?_
    refine J.iload_n (i := 1) C dX7_needed_33 rfl rfl ?_
    refine J.aload_n (i := 0) C dX7_needed_34 rfl rfl ?_
    refine J.get C (pre.length + 0) 11 mk_0 rfl (by decide) kFl_X7_94 inB_X7 rfl dX7_needed_35 ?_
    refine J.iconst C (1) dX7_needed_38 (by decide) ?_
    refine J.isub C dX7_needed_39 ?_
    refine J.icmp_neL (tgt := 47) C dX7_needed_40 (by decide) H (fun c_40 H => ?_) (fun c_40 H => ?_)
    · refine J.iconst C (0) dX7_needed_47 (by decide) ?_
      refine J.zastL (hp := (mkh g bd pre rst)) C (pre.length + 20) mk_20 dX7_needed_48 (mkA_19 _) H (fun s48 H => ?_)
      refine J.iincL C (l1 + (1 : Int32)) dX7_needed_49 rfl rfl (by decide) H (fun z49 H => ?_)
      refine J.goto (tgt := 20) C dX7_needed_52 (by decide) ?_
      refine J.widen (k := 0) (n := 0) (Nat.le_of_ble_eq_true rfl) (Nat.le_of_ble_eq_true rfl) ?_
      refine J.lw (lv' := [(0, .ref (bd 0)), (1, .int z49)]) ⟨rfl, rfl, trivial⟩ ?_
      exact hk_20 _ _  H
    · refine J.iconst C (1) dX7_needed_43 (by decide) ?_
      refine J.goto (tgt := 48) C dX7_needed_44 (by decide) ?_
      refine J.zastL (hp := (mkh g bd pre rst)) C (pre.length + 20) mk_20 dX7_needed_48 (mkA_19 _) H (fun s48 H => ?_)
      refine J.iincL C (l1 + (1 : Int32)) dX7_needed_49 rfl rfl (by decide) H (fun z49 H => ?_)
      refine J.goto (tgt := 20) C dX7_needed_52 (by decide) ?_
      refine J.widen (k := 0) (n := 0) (Nat.le_of_ble_eq_true rfl) (Nat.le_of_ble_eq_true rfl) ?_
      refine J.lw (lv' := [(0, .ref (bd 0)), (1, .int z49)]) ⟨rfl, rfl, trivial⟩ ?_
      exact hk_20 _ _  H
def L_X7_needed_20 : Nat → MS → Int32 → Res MS Int32
  | 0, _, _ => none
  | n + 1, σ, l1 => B_X7_needed_20 (L_X7_needed_20 n) σ l1
set_option maxRecDepth 100000 in
theorem lp_X7_needed_20 {l : Launch} (hl : l.stackTraces = false) {g : Gy} {bd : Nat → Nat} {pre rst : va_W} {p : Program} {e : Env} {s : State} {m : MethodId} {args : Array Value} {below : List Frame} {meth : Method} {c : Code} {A : Nat → Prop} (C : Cx p l s m args meth c g A yX7_needed.cls cX7_needed 5) (hr : meth.sig.returnType = some .int) (hx : ∀ x ∈ c.exceptionTable.toList, False) {rr : (Int32 ⊕ String) × MS} : ∀ (n : Nat) (σ : MS) (l1 : Int32), L_X7_needed_20 n σ l1 = some rr → J p l e (rmOf 2 0 0) s m args below meth c g A 5 0 0 (QR mI g A (mkh g bd pre rst) rr below args s 0 0) 20 [(0, .ref (bd 0)), (1, .int l1)] [] ((mkh g bd pre rst) σ) := by
  intro n
  induction n with
  | zero => intro σ l1 H; cases H
  | succ n ih => intro σ l1 H; exact bl_X7_needed_20 hl C hr hx _ ih _ _ H
abbrev mX7_needed : MD := (yX7_needed, cX7_needed, 5, some .int)
theorem mdX7_needed : MDv mX7_needed RX7 0 := ⟨kIm_X7_needed, kSe_X7_needed, kIn_X7, kCo_X7_needed, by decide +kernel⟩
def P_X7_needed (σ : MS)  : Res MS Int32 := (if (σ.1 1) = 0 then (bd (P_X7_raises σ (1 : Int32)) fun r9 s9 => (some (.inl r9, s9))) else (lt (tI σ 5 (0 : Int32)) fun s15 => (lt (0 : Int32) fun z19 => (L_X7_needed_20 FU s15 z19))))
set_option maxRecDepth 100000 in
theorem sp_X7_needed {l : Launch} (hl : l.stackTraces = false) {g : Gy} {bd : Nat → Nat} {pre rst : va_W} {σ : MS}  : SpR l mX7_needed 2 0 0 mI g [.ref (bd 0)] (mkh g bd pre rst) σ (P_X7_needed σ ) := by
  refine SpR.of hl (by decide) (Nat.le_of_ble_eq_true rfl) (fun rr H p e s m args below meth c A C hr hx => ?_)
  unfold P_X7_needed at H
  refine J.lw (lv' := [(0, .ref (bd 0))]) ⟨rfl, trivial⟩ ?_
  refine J.aload_n (i := 0) C dX7_needed_0 rfl rfl ?_
  refine J.get C (pre.length + 0) 11 mk_0 rfl (by decide) kFl_X7_94 inB_X7 rfl dX7_needed_1 ?_
  refine J.if_neL (tgt := 13) C dX7_needed_4 (by decide) H (fun c_4 H => ?_) (fun c_4 H => ?_)
  · refine J.aload_n (i := 0) C dX7_needed_13 rfl rfl ?_
    refine J.iconst C (0) dX7_needed_14 (by decide) ?_
    refine J.putL (hp := (mkh g bd pre rst)) C (pre.length + 0) 22 mk_0 rfl (by decide) kFl_X7_84 inB_X7 tyX7 tyX7_ok nmX7 rfl rfl rfl rfl (Nat.le_of_ble_eq_true rfl) dX7_needed_15 (mkI_5 _) H (fun s15 H => ?_)
    refine J.iconst C (0) dX7_needed_18 (by decide) ?_
    refine J.istore_nL (i := 1) C dX7_needed_19 rfl (by decide) H (fun z19 H => ?_)
    refine J.widen (k := 0) (n := 0) (Nat.le_of_ble_eq_true rfl) (Nat.le_of_ble_eq_true rfl) ?_
    refine J.lw (lv' := [(0, .ref (bd 0)), (1, .int z19)]) ⟨rfl, rfl, trivial⟩ ?_
    exact lp_X7_needed_20 hl C hr hx  FU _ _  H
  · refine J.aload_n (i := 0) C dX7_needed_7 rfl rfl ?_
    refine J.iconst C (1) dX7_needed_8 (by decide) ?_
    refine J.callVBI (hp := (mkh g bd pre rst)) C rfl (sp_X7_raises hl _) rfl kMl_X7_132 mdX7_raises ⟨(Nat.le_of_ble_eq_true rfl), (Nat.le_of_ble_eq_true rfl)⟩ mk_0 rfl rfl (Nat.le_of_ble_eq_true rfl) dX7_needed_9 ⟨(Nat.le_of_ble_eq_true rfl), (Nat.le_of_ble_eq_true rfl)⟩ hx (Nat.le_of_ble_eq_true rfl) (Nat.le_of_ble_eq_true rfl) H (fun r9 s9 H => ?_)
    exact J.iretL C hr (Nat.le_of_ble_eq_true rfl) (Nat.le_of_ble_eq_true rfl) dX7_needed_12 H

/-! X7_views -/
abbrev mX7_views : MD := (yX7_views, cX7_views, 2, none)
theorem mdX7_views : MDv mX7_views RX7 1 := ⟨kIm_X7_views, kSe_X7_views, kIn_X7, kCo_X7_views, by decide +kernel⟩
def D_X7_views (self : MS → Int32 → Res MS Unit) (σ : MS) (a1 : Int32) : Res MS Unit := (if a1 = (-1 : Int32) then (some (.inl (), σ)) else (gd a1 151 (if (σ.2.1 17 a1.toNatClampNeg) = 0 then (gd a1 151 (lt (tA σ 17 (upd (σ.2.1 17) a1.toNatClampNeg (vp_nar .boolean (1 : Int32)))) fun s20 => (gd a1 150 (bd (self s20 (s20.2.1 1 a1.toNatClampNeg)) fun _ s28 => (gd a1 150 (bd (self s28 (s28.2.1 2 a1.toNatClampNeg)) fun _ s38 => (some (.inl (), s38)))))))) else (some (.inl (), σ)))))
def P_X7_views : Nat → MS → Int32 → Res MS Unit
  | 0, _, _ => none
  | n + 1, σ, a1 => D_X7_views (P_X7_views n) σ a1
set_option maxRecDepth 100000 in
theorem sp_X7_views {l : Launch} (hl : l.stackTraces = false) {g : Gy} {bd : Nat → Nat} {pre rst : va_W} : ∀ (n : Nat) (σ : MS) (a1 : Int32), SpR l mX7_views (1 + n) 0 0 mV g [.ref (bd 0), .int a1] (mkh g bd pre rst) σ (P_X7_views n σ a1) := by
  intro n
  induction n with
  | zero => intro σ a1 rr H; cases H
  | succ n ih =>
    intro σ a1
    refine SpR.of hl (by decide) (Nat.le_of_ble_eq_true rfl) (fun rr H p e s m args below meth c A C hr hx => ?_)
    generalize hself : P_X7_views n = self at ih
    have H : D_X7_views self σ a1 = some rr := by rw [← hself]; exact H
    unfold D_X7_views at H
    refine J.lw (lv' := [(0, .ref (bd 0)), (1, .int a1)]) ⟨rfl, rfl, trivial⟩ ?_
    refine J.iload_n (i := 1) C dX7_views_0 rfl rfl ?_
    refine J.iconst C (-1) dX7_views_1 (by decide) ?_
    refine J.icmp_eqL (tgt := 41) C dX7_views_2 (by decide) H (fun c_2 H => ?_) (fun c_2 H => ?_)
    · exact J.vretL C hr (Nat.le_of_ble_eq_true rfl) (Nat.le_of_ble_eq_true rfl) dX7_views_41 H
    · refine J.aload_n (i := 0) C dX7_views_5 rfl rfl ?_
      refine J.get C (pre.length + 0) 27 mk_0 rfl (by decide) kFl_X7_75 inB_X7 rfl dX7_views_6 ?_
      refine J.iload_n (i := 1) C dX7_views_9 rfl rfl ?_
      refine J.zaldL C (pre.length + 18) mk_18 dX7_views_10 H (fun H => ?_)
      refine J.if_neL (tgt := 41) C dX7_views_11 (by decide) H (fun c_11 H => ?_) (fun c_11 H => ?_)
      · exact J.vretL C hr (Nat.le_of_ble_eq_true rfl) (Nat.le_of_ble_eq_true rfl) dX7_views_41 H
      · refine J.aload_n (i := 0) C dX7_views_14 rfl rfl ?_
        refine J.get C (pre.length + 0) 27 mk_0 rfl (by decide) kFl_X7_75 inB_X7 rfl dX7_views_15 ?_
        refine J.iload_n (i := 1) C dX7_views_18 rfl rfl ?_
        refine J.iconst C (1) dX7_views_19 (by decide) ?_
        refine J.zastL (hp := (mkh g bd pre rst)) C (pre.length + 18) mk_18 dX7_views_20 (mkA_17 _) H (fun s20 H => ?_)
        refine J.aload_n (i := 0) C dX7_views_21 rfl rfl ?_
        refine J.aload_n (i := 0) C dX7_views_22 rfl rfl ?_
        refine J.get C (pre.length + 0) 1 mk_0 rfl (by decide) kFl_X7_13 inB_X7 rfl dX7_views_23 ?_
        refine J.iload_n (i := 1) C dX7_views_26 rfl rfl ?_
        refine J.ialdL C (pre.length + 2) mk_2 dX7_views_27 H (fun H => ?_)
        refine J.callVBV (hp := (mkh g bd pre rst)) C rfl (ih _ _) rfl kMl_X7_199 mdX7_views (rm_ok (Nat.le_of_ble_eq_true rfl)) mk_0 rfl rfl (Nat.le_of_ble_eq_true rfl) dX7_views_28 ⟨(Nat.le_of_ble_eq_true rfl), (Nat.le_of_ble_eq_true rfl)⟩ hx (Nat.le_of_ble_eq_true rfl) (Nat.le_of_ble_eq_true rfl) H (fun _ s28 H => ?_)
        refine J.aload_n (i := 0) C dX7_views_31 rfl rfl ?_
        refine J.aload_n (i := 0) C dX7_views_32 rfl rfl ?_
        refine J.get C (pre.length + 0) 2 mk_0 rfl (by decide) kFl_X7_17 inB_X7 rfl dX7_views_33 ?_
        refine J.iload_n (i := 1) C dX7_views_36 rfl rfl ?_
        refine J.ialdL C (pre.length + 3) mk_3 dX7_views_37 H (fun H => ?_)
        refine J.callVBV (hp := (mkh g bd pre rst)) C rfl (ih _ _) rfl kMl_X7_199 mdX7_views (rm_ok (Nat.le_of_ble_eq_true rfl)) mk_0 rfl rfl (Nat.le_of_ble_eq_true rfl) dX7_views_38 ⟨(Nat.le_of_ble_eq_true rfl), (Nat.le_of_ble_eq_true rfl)⟩ hx (Nat.le_of_ble_eq_true rfl) (Nat.le_of_ble_eq_true rfl) H (fun _ s38 H => ?_)
        exact J.vretL C hr (Nat.le_of_ble_eq_true rfl) (Nat.le_of_ble_eq_true rfl) dX7_views_41 H

/-! X7_lessens -/
def B_X7_lessens_15 (σ : MS) (l1 : Int32) (l2 : Int32) (t0 : Int32) : Res MS Int32 := (lt t0 fun z15 => (if z15 = 0 then (gd l1 151 (gd l1 151 (lt (tA σ 18 (upd (σ.2.1 18) l1.toNatClampNeg (σ.2.1 18 l1.toNatClampNeg))) fun s35 => (gc (z15 = 0 ∨ z15 = 1) (some (.inl z15, s35)))))) else (gd l1 151 (lt (tA σ 18 (upd (σ.2.1 18) l1.toNatClampNeg l2)) fun s35 => (gc (z15 = 0 ∨ z15 = 1) (some (.inl z15, s35)))))))
set_option maxRecDepth 100000 in
theorem bl_X7_lessens_15 {l : Launch} (hl : l.stackTraces = false) {g : Gy} {bd : Nat → Nat} {pre rst : va_W} {p : Program} {e : Env} {s : State} {m : MethodId} {args : Array Value} {below : List Frame} {meth : Method} {c : Code} {A : Nat → Prop} (C : Cx p l s m args meth c g A yX7_lessens.cls cX7_lessens 4) (hr : meth.sig.returnType = some .boolean) (hx : ∀ x ∈ c.exceptionTable.toList, False) {rr : (Int32 ⊕ String) × MS} (σ : MS) (l1 : Int32) (l2 : Int32) (t0 : Int32) (H : B_X7_lessens_15 σ l1 l2 t0 = some rr) : J p l e (rmOf 1 0 0) s m args below meth c g A 4 0 0 (QR mI g A (mkh g bd pre rst) rr below args s 0 0) 15 [(0, .ref (bd 0)), (1, .int l1), (2, .int l2)] [.int t0] ((mkh g bd pre rst) σ) := by
  unfold B_X7_lessens_15 at H
  refine J.istore_nL (i := 3) C dX7_lessens_15 rfl (by decide) H (fun z15 H => ?_)
  refine J.aload_n (i := 0) C dX7_lessens_16 rfl rfl ?_
  refine J.get C (pre.length + 0) 28 mk_0 rfl (by decide) kFl_X7_78 inB_X7 rfl dX7_lessens_17 ?_
  refine J.iload_n (i := 1) C dX7_lessens_20 rfl rfl ?_
  refine J.iload_n (i := 3) C dX7_lessens_21 rfl rfl ?_
  refine J.if_eqL (tgt := 29) C dX7_lessens_22 (by decide) H (fun c_22 H => ?_) (fun c_22 H => ?_)
  · refine J.aload_n (i := 0) C dX7_lessens_29 rfl rfl ?_
    refine J.get C (pre.length + 0) 28 mk_0 rfl (by decide) kFl_X7_78 inB_X7 rfl dX7_lessens_30 ?_
    refine J.iload_n (i := 1) C dX7_lessens_33 rfl rfl ?_
    refine J.ialdL C (pre.length + 19) mk_19 dX7_lessens_34 H (fun H => ?_)
    refine J.iastL (hp := (mkh g bd pre rst)) C (pre.length + 19) mk_19 dX7_lessens_35 (mkA_18 _) H (fun s35 H => ?_)
    refine J.iload_n (i := 3) C dX7_lessens_36 rfl rfl ?_
    obtain ⟨hz, H⟩ := gc_some H
    exact J.zretL C hr (nzb hz) (Nat.le_of_ble_eq_true rfl) (Nat.le_of_ble_eq_true rfl) dX7_lessens_37 H
  · refine J.iload_n (i := 2) C dX7_lessens_25 rfl rfl ?_
    refine J.goto (tgt := 35) C dX7_lessens_26 (by decide) ?_
    refine J.iastL (hp := (mkh g bd pre rst)) C (pre.length + 19) mk_19 dX7_lessens_35 (mkA_18 _) H (fun s35 H => ?_)
    refine J.iload_n (i := 3) C dX7_lessens_36 rfl rfl ?_
    obtain ⟨hz, H⟩ := gc_some H
    exact J.zretL C hr (nzb hz) (Nat.le_of_ble_eq_true rfl) (Nat.le_of_ble_eq_true rfl) dX7_lessens_37 H
abbrev mX7_lessens : MD := (yX7_lessens, cX7_lessens, 4, some .boolean)
theorem mdX7_lessens : MDv mX7_lessens RX7 2 := ⟨kIm_X7_lessens, kSe_X7_lessens, kIn_X7, kCo_X7_lessens, by decide +kernel⟩
def P_X7_lessens (σ : MS) (a1 : Int32) (a2 : Int32) : Res MS Int32 := (gd a1 151 (if (σ.2.1 18 a1.toNatClampNeg) ≤ a2 then (B_X7_lessens_15 σ a1 a2 (0 : Int32)) else (B_X7_lessens_15 σ a1 a2 (1 : Int32))))
set_option maxRecDepth 100000 in
theorem sp_X7_lessens {l : Launch} (hl : l.stackTraces = false) {g : Gy} {bd : Nat → Nat} {pre rst : va_W} {σ : MS} (a1 : Int32) (a2 : Int32) : SpR l mX7_lessens 1 0 0 mI g [.ref (bd 0), .int a1, .int a2] (mkh g bd pre rst) σ (P_X7_lessens σ a1 a2) := by
  refine SpR.of hl (by decide) (Nat.le_of_ble_eq_true rfl) (fun rr H p e s m args below meth c A C hr hx => ?_)
  unfold P_X7_lessens at H
  refine J.lw (lv' := [(0, .ref (bd 0)), (1, .int a1), (2, .int a2)]) ⟨rfl, rfl, rfl, trivial⟩ ?_
  refine J.iload_n (i := 2) C dX7_lessens_0 rfl rfl ?_
  refine J.aload_n (i := 0) C dX7_lessens_1 rfl rfl ?_
  refine J.get C (pre.length + 0) 28 mk_0 rfl (by decide) kFl_X7_78 inB_X7 rfl dX7_lessens_2 ?_
  refine J.iload_n (i := 1) C dX7_lessens_5 rfl rfl ?_
  refine J.ialdL C (pre.length + 19) mk_19 dX7_lessens_6 H (fun H => ?_)
  refine J.icmp_geL (tgt := 14) C dX7_lessens_7 (by decide) H (fun c_7 H => ?_) (fun c_7 H => ?_)
  · refine J.iconst C (0) dX7_lessens_14 (by decide) ?_
    refine J.widen (k := 0) (n := 0) (Nat.le_of_ble_eq_true rfl) (Nat.le_of_ble_eq_true rfl) ?_
    refine J.lw (lv' := [(0, .ref (bd 0)), (1, .int a1), (2, .int a2)]) ⟨rfl, rfl, rfl, trivial⟩ ?_
    exact bl_X7_lessens_15 hl C hr hx  _ _ _ _  H
  · refine J.iconst C (1) dX7_lessens_10 (by decide) ?_
    refine J.goto (tgt := 15) C dX7_lessens_11 (by decide) ?_
    refine J.widen (k := 0) (n := 0) (Nat.le_of_ble_eq_true rfl) (Nat.le_of_ble_eq_true rfl) ?_
    refine J.lw (lv' := [(0, .ref (bd 0)), (1, .int a1), (2, .int a2)]) ⟨rfl, rfl, rfl, trivial⟩ ?_
    exact bl_X7_lessens_15 hl C hr hx  _ _ _ _  H

/-! X7_knownFalsum -/
abbrev mX7_knownFalsum : MD := (yX7_knownFalsum, cX7_knownFalsum, 2, some .int)
theorem mdX7_knownFalsum : MDv mX7_knownFalsum RX7 0 := ⟨kIm_X7_knownFalsum, kSe_X7_knownFalsum, kIn_X7, kCo_X7_knownFalsum, by decide +kernel⟩
def P_X7_knownFalsum (σ : MS)  : Res MS Int32 := (bd (P_X7_known σ (70 : Int32) (-1 : Int32) (-1 : Int32)) fun r5 s5 => (lt r5 fun z8 => (if z8 = (-1 : Int32) then (some (.inl (150 : Int32), s5)) else (some (.inl z8, s5)))))
set_option maxRecDepth 100000 in
theorem sp_X7_knownFalsum {l : Launch} (hl : l.stackTraces = false) {g : Gy} {bd : Nat → Nat} {pre rst : va_W} {σ : MS}  : SpR l mX7_knownFalsum 2 0 0 mI g [.ref (bd 0)] (mkh g bd pre rst) σ (P_X7_knownFalsum σ ) := by
  refine SpR.of hl (by decide) (Nat.le_of_ble_eq_true rfl) (fun rr H p e s m args below meth c A C hr hx => ?_)
  unfold P_X7_knownFalsum at H
  refine J.lw (lv' := [(0, .ref (bd 0))]) ⟨rfl, trivial⟩ ?_
  refine J.aload_n (i := 0) C dX7_knownFalsum_0 rfl rfl ?_
  refine J.bipush C (70) dX7_knownFalsum_1 (by decide) ?_
  refine J.iconst C (-1) dX7_knownFalsum_3 (by decide) ?_
  refine J.iconst C (-1) dX7_knownFalsum_4 (by decide) ?_
  refine J.callVBI (hp := (mkh g bd pre rst)) C rfl (sp_X7_known hl _ _ _) rfl kMl_X7_104 mdX7_known ⟨(Nat.le_of_ble_eq_true rfl), (Nat.le_of_ble_eq_true rfl)⟩ mk_0 rfl rfl (Nat.le_of_ble_eq_true rfl) dX7_knownFalsum_5 ⟨(Nat.le_of_ble_eq_true rfl), (Nat.le_of_ble_eq_true rfl)⟩ hx (Nat.le_of_ble_eq_true rfl) (Nat.le_of_ble_eq_true rfl) H (fun r5 s5 H => ?_)
  refine J.istore_nL (i := 1) C dX7_knownFalsum_8 rfl (by decide) H (fun z8 H => ?_)
  refine J.iload_n (i := 1) C dX7_knownFalsum_9 rfl rfl ?_
  refine J.iconst C (-1) dX7_knownFalsum_10 (by decide) ?_
  refine J.icmp_neL (tgt := 20) C dX7_knownFalsum_11 (by decide) H (fun c_11 H => ?_) (fun c_11 H => ?_)
  · refine J.iload_n (i := 1) C dX7_knownFalsum_20 rfl rfl ?_
    exact J.iretL C hr (Nat.le_of_ble_eq_true rfl) (Nat.le_of_ble_eq_true rfl) dX7_knownFalsum_21 H
  · refine J.sipush C (150) dX7_knownFalsum_14 (by decide) ?_
    refine J.goto (tgt := 21) C dX7_knownFalsum_17 (by decide) ?_
    exact J.iretL C hr (Nat.le_of_ble_eq_true rfl) (Nat.le_of_ble_eq_true rfl) dX7_knownFalsum_21 H

/-! X7_rounds -/
def B_X7_rounds_57 (k_4 : MS → Int32 → Int32 → Int32 → Res MS Int32) (σ : MS) (l1 : Int32) (l2 : Int32) (l3 : Int32) (t0 : Int32) : Res MS Int32 := (lt t0 fun z57 => (if z57 = (75 : Int32) then (gd l3 150 (gd (σ.2.1 1 l3.toNatClampNeg) 151 (gd l3 150 (gd (σ.2.1 2 l3.toNatClampNeg) 151 (bd (P_X7_lessens σ l3 (((1 : Int32) + (σ.2.1 18 (σ.2.1 1 l3.toNatClampNeg).toNatClampNeg)) + (σ.2.1 18 (σ.2.1 2 l3.toNatClampNeg).toNatClampNeg))) fun r94 s94 => (lt (l2 ||| r94) fun z98 => (gd l3 150 (gd l3 151 (bd (P_X7_lessens s94 (s94.2.1 1 l3.toNatClampNeg) ((1 : Int32) + (s94.2.1 18 l3.toNatClampNeg))) fun r115 s115 => (lt (z98 ||| r115) fun z119 => (gd l3 150 (gd l3 151 (bd (P_X7_lessens s115 (s115.2.1 2 l3.toNatClampNeg) ((1 : Int32) + (s115.2.1 18 l3.toNatClampNeg))) fun r136 s136 => (lt (z119 ||| r136) fun z140 => (lt (l3 + (1 : Int32)) fun z309 => (k_4 s136 l1 z140 z309)))))))))))))))) else (if z57 = (65 : Int32) then (gd l3 150 (gd (σ.2.1 1 l3.toNatClampNeg) 151 (gd l3 150 (gd (σ.2.1 2 l3.toNatClampNeg) 151 (bd (P_X7_lessens σ l3 ((1 : Int32) + (if (σ.2.1 18 (σ.2.1 2 l3.toNatClampNeg).toNatClampNeg) < (σ.2.1 18 (σ.2.1 1 l3.toNatClampNeg).toNatClampNeg) then (σ.2.1 18 (σ.2.1 2 l3.toNatClampNeg).toNatClampNeg) else (σ.2.1 18 (σ.2.1 1 l3.toNatClampNeg).toNatClampNeg)))) fun r181 s181 => (lt (l2 ||| r181) fun z185 => (lt (l3 + (1 : Int32)) fun z309 => (k_4 s181 l1 z185 z309)))))))) else (if z57 = (67 : Int32) then (gd l3 150 (gd l3 151 (gd l3 150 (gd (σ.2.1 1 l3.toNatClampNeg) 151 (bd (P_X7_lessens σ (σ.2.1 2 l3.toNatClampNeg) (((1 : Int32) + (σ.2.1 18 l3.toNatClampNeg)) + (σ.2.1 18 (σ.2.1 1 l3.toNatClampNeg).toNatClampNeg))) fun r224 s224 => (lt (l2 ||| r224) fun z228 => (lt (l3 + (1 : Int32)) fun z309 => (k_4 s224 l1 z228 z309)))))))) else (if z57 = (78 : Int32) then (gd l3 151 (gd l3 150 (gd (σ.2.1 1 l3.toNatClampNeg) 151 (bd (P_X7_lessens σ l1 (((1 : Int32) + (σ.2.1 18 l3.toNatClampNeg)) + (σ.2.1 18 (σ.2.1 1 l3.toNatClampNeg).toNatClampNeg))) fun r262 s262 => (lt (l2 ||| r262) fun z266 => (gd l3 150 (gd (s262.2.1 1 l3.toNatClampNeg) 150 (if (s262.2.1 0 (s262.2.1 1 l3.toNatClampNeg).toNatClampNeg) = (78 : Int32) then (gd l3 150 (gd (s262.2.1 1 l3.toNatClampNeg) 150 (gd l3 151 (bd (P_X7_lessens s262 (s262.2.1 1 (s262.2.1 1 l3.toNatClampNeg).toNatClampNeg) ((1 : Int32) + (s262.2.1 18 l3.toNatClampNeg))) fun r304 s304 => (lt (z266 ||| r304) fun z308 => (lt (l3 + (1 : Int32)) fun z309 => (k_4 s304 l1 z308 z309))))))) else (lt (l3 + (1 : Int32)) fun z309 => (k_4 s262 l1 z266 z309)))))))))) else (lt (l3 + (1 : Int32)) fun z309 => (k_4 σ l1 l2 z309)))))))
set_option maxRecDepth 100000 in
theorem bl_X7_rounds_57 {l : Launch} (hl : l.stackTraces = false) {g : Gy} {bd : Nat → Nat} {pre rst : va_W} {p : Program} {e : Env} {s : State} {m : MethodId} {args : Array Value} {below : List Frame} {meth : Method} {c : Code} {A : Nat → Prop} (C : Cx p l s m args meth c g A yX7_rounds.cls cX7_rounds 5) (hr : meth.sig.returnType = some .boolean) (hx : ∀ x ∈ c.exceptionTable.toList, False) {rr : (Int32 ⊕ String) × MS} (k_4 : MS → Int32 → Int32 → Int32 → Res MS Int32) (hk_4 : ∀ (σ : MS) (l1 : Int32) (l2 : Int32) (l3 : Int32), k_4 σ l1 l2 l3 = some rr → J p l e (rmOf 2 0 0) s m args below meth c g A 5 0 0 (QR mI g A (mkh g bd pre rst) rr below args s 0 0) 4 [(0, .ref (bd 0)), (1, .int l1), (2, .int l2), (3, .int l3)] [] ((mkh g bd pre rst) σ)) (σ : MS) (l1 : Int32) (l2 : Int32) (l3 : Int32) (t0 : Int32) (H : B_X7_rounds_57 k_4 σ l1 l2 l3 t0 = some rr) : J p l e (rmOf 2 0 0) s m args below meth c g A 5 0 0 (QR mI g A (mkh g bd pre rst) rr below args s 0 0) 57 [(0, .ref (bd 0)), (1, .int l1), (2, .int l2), (3, .int l3)] [.int t0] ((mkh g bd pre rst) σ) := by
  unfold B_X7_rounds_57 at H
  refine J.istoreL C dX7_rounds_57 (by decide) H (fun z57 H => ?_)
  refine J.iload C dX7_rounds_59 rfl ?_
  refine J.bipush C (75) dX7_rounds_61 (by decide) ?_
  refine J.icmp_neL (tgt := 144) C dX7_rounds_63 (by decide) H (fun c_63 H => ?_) (fun c_63 H => ?_)
  · refine J.iload C dX7_rounds_144 rfl ?_
    refine J.bipush C (65) dX7_rounds_146 (by decide) ?_
    refine J.icmp_neL (tgt := 189) C dX7_rounds_148 (by decide) H (fun c_148 H => ?_) (fun c_148 H => ?_)
    · refine J.iload C dX7_rounds_189 rfl ?_
      refine J.bipush C (67) dX7_rounds_191 (by decide) ?_
      refine J.icmp_neL (tgt := 232) C dX7_rounds_193 (by decide) H (fun c_193 H => ?_) (fun c_193 H => ?_)
      · refine J.iload C dX7_rounds_232 rfl ?_
        refine J.bipush C (78) dX7_rounds_234 (by decide) ?_
        refine J.icmp_neL (tgt := 309) C dX7_rounds_236 (by decide) H (fun c_236 H => ?_) (fun c_236 H => ?_)
        · refine J.iincL C (l3 + (1 : Int32)) dX7_rounds_309 rfl rfl (by decide) H (fun z309 H => ?_)
          refine J.goto (tgt := 4) C dX7_rounds_312 (by decide) ?_
          refine J.widen (k := 0) (n := 0) (Nat.le_of_ble_eq_true rfl) (Nat.le_of_ble_eq_true rfl) ?_
          refine J.lw (lv' := [(0, .ref (bd 0)), (1, .int l1), (2, .int l2), (3, .int z309)]) ⟨rfl, rfl, rfl, rfl, trivial⟩ ?_
          exact hk_4 _ _ _ _  H
        · refine J.iload_n (i := 2) C dX7_rounds_239 rfl rfl ?_
          refine J.aload_n (i := 0) C dX7_rounds_240 rfl rfl ?_
          refine J.iload_n (i := 1) C dX7_rounds_241 rfl rfl ?_
          refine J.iconst C (1) dX7_rounds_242 (by decide) ?_
          refine J.aload_n (i := 0) C dX7_rounds_243 rfl rfl ?_
          refine J.get C (pre.length + 0) 28 mk_0 rfl (by decide) kFl_X7_78 inB_X7 rfl dX7_rounds_244 ?_
          refine J.iload_n (i := 3) C dX7_rounds_247 rfl rfl ?_
          refine J.ialdL C (pre.length + 19) mk_19 dX7_rounds_248 H (fun H => ?_)
          refine J.iadd C dX7_rounds_249 ?_
          refine J.aload_n (i := 0) C dX7_rounds_250 rfl rfl ?_
          refine J.get C (pre.length + 0) 28 mk_0 rfl (by decide) kFl_X7_78 inB_X7 rfl dX7_rounds_251 ?_
          refine J.aload_n (i := 0) C dX7_rounds_254 rfl rfl ?_
          refine J.get C (pre.length + 0) 1 mk_0 rfl (by decide) kFl_X7_13 inB_X7 rfl dX7_rounds_255 ?_
          refine J.iload_n (i := 3) C dX7_rounds_258 rfl rfl ?_
          refine J.ialdL C (pre.length + 2) mk_2 dX7_rounds_259 H (fun H => ?_)
          refine J.ialdL C (pre.length + 19) mk_19 dX7_rounds_260 H (fun H => ?_)
          refine J.iadd C dX7_rounds_261 ?_
          refine J.callVBI (hp := (mkh g bd pre rst)) C rfl (sp_X7_lessens hl _ _) rfl kMl_X7_202 mdX7_lessens ⟨(Nat.le_of_ble_eq_true rfl), (Nat.le_of_ble_eq_true rfl)⟩ mk_0 rfl rfl (Nat.le_of_ble_eq_true rfl) dX7_rounds_262 ⟨(Nat.le_of_ble_eq_true rfl), (Nat.le_of_ble_eq_true rfl)⟩ hx (Nat.le_of_ble_eq_true rfl) (Nat.le_of_ble_eq_true rfl) H (fun r262 s262 H => ?_)
          refine J.ior C dX7_rounds_265 ?_
          refine J.istore_nL (i := 2) C dX7_rounds_266 rfl (by decide) H (fun z266 H => ?_)
          refine J.aload_n (i := 0) C dX7_rounds_267 rfl rfl ?_
          refine J.get C (pre.length + 0) 0 mk_0 rfl (by decide) kFl_X7_9 inB_X7 rfl dX7_rounds_268 ?_
          refine J.aload_n (i := 0) C dX7_rounds_271 rfl rfl ?_
          refine J.get C (pre.length + 0) 1 mk_0 rfl (by decide) kFl_X7_13 inB_X7 rfl dX7_rounds_272 ?_
          refine J.iload_n (i := 3) C dX7_rounds_275 rfl rfl ?_
          refine J.ialdL C (pre.length + 2) mk_2 dX7_rounds_276 H (fun H => ?_)
          refine J.caldL C (pre.length + 1) mk_1 dX7_rounds_277 H (fun H => ?_)
          refine J.bipush C (78) dX7_rounds_278 (by decide) ?_
          refine J.icmp_neL (tgt := 309) C dX7_rounds_280 (by decide) H (fun c_280 H => ?_) (fun c_280 H => ?_)
          · refine J.iincL C (l3 + (1 : Int32)) dX7_rounds_309 rfl rfl (by decide) H (fun z309 H => ?_)
            refine J.goto (tgt := 4) C dX7_rounds_312 (by decide) ?_
            refine J.widen (k := 0) (n := 0) (Nat.le_of_ble_eq_true rfl) (Nat.le_of_ble_eq_true rfl) ?_
            refine J.lw (lv' := [(0, .ref (bd 0)), (1, .int l1), (2, .int z266), (3, .int z309)]) ⟨rfl, rfl, rfl, rfl, trivial⟩ ?_
            exact hk_4 _ _ _ _  H
          · refine J.iload_n (i := 2) C dX7_rounds_283 rfl rfl ?_
            refine J.aload_n (i := 0) C dX7_rounds_284 rfl rfl ?_
            refine J.aload_n (i := 0) C dX7_rounds_285 rfl rfl ?_
            refine J.get C (pre.length + 0) 1 mk_0 rfl (by decide) kFl_X7_13 inB_X7 rfl dX7_rounds_286 ?_
            refine J.aload_n (i := 0) C dX7_rounds_289 rfl rfl ?_
            refine J.get C (pre.length + 0) 1 mk_0 rfl (by decide) kFl_X7_13 inB_X7 rfl dX7_rounds_290 ?_
            refine J.iload_n (i := 3) C dX7_rounds_293 rfl rfl ?_
            refine J.ialdL C (pre.length + 2) mk_2 dX7_rounds_294 H (fun H => ?_)
            refine J.ialdL C (pre.length + 2) mk_2 dX7_rounds_295 H (fun H => ?_)
            refine J.iconst C (1) dX7_rounds_296 (by decide) ?_
            refine J.aload_n (i := 0) C dX7_rounds_297 rfl rfl ?_
            refine J.get C (pre.length + 0) 28 mk_0 rfl (by decide) kFl_X7_78 inB_X7 rfl dX7_rounds_298 ?_
            refine J.iload_n (i := 3) C dX7_rounds_301 rfl rfl ?_
            refine J.ialdL C (pre.length + 19) mk_19 dX7_rounds_302 H (fun H => ?_)
            refine J.iadd C dX7_rounds_303 ?_
            refine J.callVBI (hp := (mkh g bd pre rst)) C rfl (sp_X7_lessens hl _ _) rfl kMl_X7_202 mdX7_lessens ⟨(Nat.le_of_ble_eq_true rfl), (Nat.le_of_ble_eq_true rfl)⟩ mk_0 rfl rfl (Nat.le_of_ble_eq_true rfl) dX7_rounds_304 ⟨(Nat.le_of_ble_eq_true rfl), (Nat.le_of_ble_eq_true rfl)⟩ hx (Nat.le_of_ble_eq_true rfl) (Nat.le_of_ble_eq_true rfl) H (fun r304 s304 H => ?_)
            refine J.ior C dX7_rounds_307 ?_
            refine J.istore_nL (i := 2) C dX7_rounds_308 rfl (by decide) H (fun z308 H => ?_)
            refine J.iincL C (l3 + (1 : Int32)) dX7_rounds_309 rfl rfl (by decide) H (fun z309 H => ?_)
            refine J.goto (tgt := 4) C dX7_rounds_312 (by decide) ?_
            refine J.widen (k := 0) (n := 0) (Nat.le_of_ble_eq_true rfl) (Nat.le_of_ble_eq_true rfl) ?_
            refine J.lw (lv' := [(0, .ref (bd 0)), (1, .int l1), (2, .int z308), (3, .int z309)]) ⟨rfl, rfl, rfl, rfl, trivial⟩ ?_
            exact hk_4 _ _ _ _  H
      · refine J.iload_n (i := 2) C dX7_rounds_196 rfl rfl ?_
        refine J.aload_n (i := 0) C dX7_rounds_197 rfl rfl ?_
        refine J.aload_n (i := 0) C dX7_rounds_198 rfl rfl ?_
        refine J.get C (pre.length + 0) 2 mk_0 rfl (by decide) kFl_X7_17 inB_X7 rfl dX7_rounds_199 ?_
        refine J.iload_n (i := 3) C dX7_rounds_202 rfl rfl ?_
        refine J.ialdL C (pre.length + 3) mk_3 dX7_rounds_203 H (fun H => ?_)
        refine J.iconst C (1) dX7_rounds_204 (by decide) ?_
        refine J.aload_n (i := 0) C dX7_rounds_205 rfl rfl ?_
        refine J.get C (pre.length + 0) 28 mk_0 rfl (by decide) kFl_X7_78 inB_X7 rfl dX7_rounds_206 ?_
        refine J.iload_n (i := 3) C dX7_rounds_209 rfl rfl ?_
        refine J.ialdL C (pre.length + 19) mk_19 dX7_rounds_210 H (fun H => ?_)
        refine J.iadd C dX7_rounds_211 ?_
        refine J.aload_n (i := 0) C dX7_rounds_212 rfl rfl ?_
        refine J.get C (pre.length + 0) 28 mk_0 rfl (by decide) kFl_X7_78 inB_X7 rfl dX7_rounds_213 ?_
        refine J.aload_n (i := 0) C dX7_rounds_216 rfl rfl ?_
        refine J.get C (pre.length + 0) 1 mk_0 rfl (by decide) kFl_X7_13 inB_X7 rfl dX7_rounds_217 ?_
        refine J.iload_n (i := 3) C dX7_rounds_220 rfl rfl ?_
        refine J.ialdL C (pre.length + 2) mk_2 dX7_rounds_221 H (fun H => ?_)
        refine J.ialdL C (pre.length + 19) mk_19 dX7_rounds_222 H (fun H => ?_)
        refine J.iadd C dX7_rounds_223 ?_
        refine J.callVBI (hp := (mkh g bd pre rst)) C rfl (sp_X7_lessens hl _ _) rfl kMl_X7_202 mdX7_lessens ⟨(Nat.le_of_ble_eq_true rfl), (Nat.le_of_ble_eq_true rfl)⟩ mk_0 rfl rfl (Nat.le_of_ble_eq_true rfl) dX7_rounds_224 ⟨(Nat.le_of_ble_eq_true rfl), (Nat.le_of_ble_eq_true rfl)⟩ hx (Nat.le_of_ble_eq_true rfl) (Nat.le_of_ble_eq_true rfl) H (fun r224 s224 H => ?_)
        refine J.ior C dX7_rounds_227 ?_
        refine J.istore_nL (i := 2) C dX7_rounds_228 rfl (by decide) H (fun z228 H => ?_)
        refine J.goto (tgt := 309) C dX7_rounds_229 (by decide) ?_
        refine J.iincL C (l3 + (1 : Int32)) dX7_rounds_309 rfl rfl (by decide) H (fun z309 H => ?_)
        refine J.goto (tgt := 4) C dX7_rounds_312 (by decide) ?_
        refine J.widen (k := 0) (n := 0) (Nat.le_of_ble_eq_true rfl) (Nat.le_of_ble_eq_true rfl) ?_
        refine J.lw (lv' := [(0, .ref (bd 0)), (1, .int l1), (2, .int z228), (3, .int z309)]) ⟨rfl, rfl, rfl, rfl, trivial⟩ ?_
        exact hk_4 _ _ _ _  H
    · refine J.iload_n (i := 2) C dX7_rounds_151 rfl rfl ?_
      refine J.aload_n (i := 0) C dX7_rounds_152 rfl rfl ?_
      refine J.iload_n (i := 3) C dX7_rounds_153 rfl rfl ?_
      refine J.iconst C (1) dX7_rounds_154 (by decide) ?_
      refine J.aload_n (i := 0) C dX7_rounds_155 rfl rfl ?_
      refine J.get C (pre.length + 0) 28 mk_0 rfl (by decide) kFl_X7_78 inB_X7 rfl dX7_rounds_156 ?_
      refine J.aload_n (i := 0) C dX7_rounds_159 rfl rfl ?_
      refine J.get C (pre.length + 0) 1 mk_0 rfl (by decide) kFl_X7_13 inB_X7 rfl dX7_rounds_160 ?_
      refine J.iload_n (i := 3) C dX7_rounds_163 rfl rfl ?_
      refine J.ialdL C (pre.length + 2) mk_2 dX7_rounds_164 H (fun H => ?_)
      refine J.ialdL C (pre.length + 19) mk_19 dX7_rounds_165 H (fun H => ?_)
      refine J.aload_n (i := 0) C dX7_rounds_166 rfl rfl ?_
      refine J.get C (pre.length + 0) 28 mk_0 rfl (by decide) kFl_X7_78 inB_X7 rfl dX7_rounds_167 ?_
      refine J.aload_n (i := 0) C dX7_rounds_170 rfl rfl ?_
      refine J.get C (pre.length + 0) 2 mk_0 rfl (by decide) kFl_X7_17 inB_X7 rfl dX7_rounds_171 ?_
      refine J.iload_n (i := 3) C dX7_rounds_174 rfl rfl ?_
      refine J.ialdL C (pre.length + 3) mk_3 dX7_rounds_175 H (fun H => ?_)
      refine J.ialdL C (pre.length + 19) mk_19 dX7_rounds_176 H (fun H => ?_)
      refine J.mmin C kMl_X7_205 ⟨(Nat.le_of_ble_eq_true rfl), (Nat.le_of_ble_eq_true rfl), (Nat.le_of_ble_eq_true rfl), (Nat.le_of_ble_eq_true rfl)⟩ dX7_rounds_177 ?_
      refine J.iadd C dX7_rounds_180 ?_
      refine J.callVBI (hp := (mkh g bd pre rst)) C rfl (sp_X7_lessens hl _ _) rfl kMl_X7_202 mdX7_lessens ⟨(Nat.le_of_ble_eq_true rfl), (Nat.le_of_ble_eq_true rfl)⟩ mk_0 rfl rfl (Nat.le_of_ble_eq_true rfl) dX7_rounds_181 ⟨(Nat.le_of_ble_eq_true rfl), (Nat.le_of_ble_eq_true rfl)⟩ hx (Nat.le_of_ble_eq_true rfl) (Nat.le_of_ble_eq_true rfl) H (fun r181 s181 H => ?_)
      refine J.ior C dX7_rounds_184 ?_
      refine J.istore_nL (i := 2) C dX7_rounds_185 rfl (by decide) H (fun z185 H => ?_)
      refine J.goto (tgt := 309) C dX7_rounds_186 (by decide) ?_
      refine J.iincL C (l3 + (1 : Int32)) dX7_rounds_309 rfl rfl (by decide) H (fun z309 H => ?_)
      refine J.goto (tgt := 4) C dX7_rounds_312 (by decide) ?_
      refine J.widen (k := 0) (n := 0) (Nat.le_of_ble_eq_true rfl) (Nat.le_of_ble_eq_true rfl) ?_
      refine J.lw (lv' := [(0, .ref (bd 0)), (1, .int l1), (2, .int z185), (3, .int z309)]) ⟨rfl, rfl, rfl, rfl, trivial⟩ ?_
      exact hk_4 _ _ _ _  H
  · refine J.iload_n (i := 2) C dX7_rounds_66 rfl rfl ?_
    refine J.aload_n (i := 0) C dX7_rounds_67 rfl rfl ?_
    refine J.iload_n (i := 3) C dX7_rounds_68 rfl rfl ?_
    refine J.iconst C (1) dX7_rounds_69 (by decide) ?_
    refine J.aload_n (i := 0) C dX7_rounds_70 rfl rfl ?_
    refine J.get C (pre.length + 0) 28 mk_0 rfl (by decide) kFl_X7_78 inB_X7 rfl dX7_rounds_71 ?_
    refine J.aload_n (i := 0) C dX7_rounds_74 rfl rfl ?_
    refine J.get C (pre.length + 0) 1 mk_0 rfl (by decide) kFl_X7_13 inB_X7 rfl dX7_rounds_75 ?_
    refine J.iload_n (i := 3) C dX7_rounds_78 rfl rfl ?_
    refine J.ialdL C (pre.length + 2) mk_2 dX7_rounds_79 H (fun H => ?_)
    refine J.ialdL C (pre.length + 19) mk_19 dX7_rounds_80 H (fun H => ?_)
    refine J.iadd C dX7_rounds_81 ?_
    refine J.aload_n (i := 0) C dX7_rounds_82 rfl rfl ?_
    refine J.get C (pre.length + 0) 28 mk_0 rfl (by decide) kFl_X7_78 inB_X7 rfl dX7_rounds_83 ?_
    refine J.aload_n (i := 0) C dX7_rounds_86 rfl rfl ?_
    refine J.get C (pre.length + 0) 2 mk_0 rfl (by decide) kFl_X7_17 inB_X7 rfl dX7_rounds_87 ?_
    refine J.iload_n (i := 3) C dX7_rounds_90 rfl rfl ?_
    refine J.ialdL C (pre.length + 3) mk_3 dX7_rounds_91 H (fun H => ?_)
    refine J.ialdL C (pre.length + 19) mk_19 dX7_rounds_92 H (fun H => ?_)
    refine J.iadd C dX7_rounds_93 ?_
    refine J.callVBI (hp := (mkh g bd pre rst)) C rfl (sp_X7_lessens hl _ _) rfl kMl_X7_202 mdX7_lessens ⟨(Nat.le_of_ble_eq_true rfl), (Nat.le_of_ble_eq_true rfl)⟩ mk_0 rfl rfl (Nat.le_of_ble_eq_true rfl) dX7_rounds_94 ⟨(Nat.le_of_ble_eq_true rfl), (Nat.le_of_ble_eq_true rfl)⟩ hx (Nat.le_of_ble_eq_true rfl) (Nat.le_of_ble_eq_true rfl) H (fun r94 s94 H => ?_)
    refine J.ior C dX7_rounds_97 ?_
    refine J.istore_nL (i := 2) C dX7_rounds_98 rfl (by decide) H (fun z98 H => ?_)
    refine J.iload_n (i := 2) C dX7_rounds_99 rfl rfl ?_
    refine J.aload_n (i := 0) C dX7_rounds_100 rfl rfl ?_
    refine J.aload_n (i := 0) C dX7_rounds_101 rfl rfl ?_
    refine J.get C (pre.length + 0) 1 mk_0 rfl (by decide) kFl_X7_13 inB_X7 rfl dX7_rounds_102 ?_
    refine J.iload_n (i := 3) C dX7_rounds_105 rfl rfl ?_
    refine J.ialdL C (pre.length + 2) mk_2 dX7_rounds_106 H (fun H => ?_)
    refine J.iconst C (1) dX7_rounds_107 (by decide) ?_
    refine J.aload_n (i := 0) C dX7_rounds_108 rfl rfl ?_
    refine J.get C (pre.length + 0) 28 mk_0 rfl (by decide) kFl_X7_78 inB_X7 rfl dX7_rounds_109 ?_
    refine J.iload_n (i := 3) C dX7_rounds_112 rfl rfl ?_
    refine J.ialdL C (pre.length + 19) mk_19 dX7_rounds_113 H (fun H => ?_)
    refine J.iadd C dX7_rounds_114 ?_
    refine J.callVBI (hp := (mkh g bd pre rst)) C rfl (sp_X7_lessens hl _ _) rfl kMl_X7_202 mdX7_lessens ⟨(Nat.le_of_ble_eq_true rfl), (Nat.le_of_ble_eq_true rfl)⟩ mk_0 rfl rfl (Nat.le_of_ble_eq_true rfl) dX7_rounds_115 ⟨(Nat.le_of_ble_eq_true rfl), (Nat.le_of_ble_eq_true rfl)⟩ hx (Nat.le_of_ble_eq_true rfl) (Nat.le_of_ble_eq_true rfl) H (fun r115 s115 H => ?_)
    refine J.ior C dX7_rounds_118 ?_
    refine J.istore_nL (i := 2) C dX7_rounds_119 rfl (by decide) H (fun z119 H => ?_)
    refine J.iload_n (i := 2) C dX7_rounds_120 rfl rfl ?_
    refine J.aload_n (i := 0) C dX7_rounds_121 rfl rfl ?_
    refine J.aload_n (i := 0) C dX7_rounds_122 rfl rfl ?_
    refine J.get C (pre.length + 0) 2 mk_0 rfl (by decide) kFl_X7_17 inB_X7 rfl dX7_rounds_123 ?_
    refine J.iload_n (i := 3) C dX7_rounds_126 rfl rfl ?_
    refine J.ialdL C (pre.length + 3) mk_3 dX7_rounds_127 H (fun H => ?_)
    refine J.iconst C (1) dX7_rounds_128 (by decide) ?_
    refine J.aload_n (i := 0) C dX7_rounds_129 rfl rfl ?_
    refine J.get C (pre.length + 0) 28 mk_0 rfl (by decide) kFl_X7_78 inB_X7 rfl dX7_rounds_130 ?_
    refine J.iload_n (i := 3) C dX7_rounds_133 rfl rfl ?_
    refine J.ialdL C (pre.length + 19) mk_19 dX7_rounds_134 H (fun H => ?_)
    refine J.iadd C dX7_rounds_135 ?_
    refine J.callVBI (hp := (mkh g bd pre rst)) C rfl (sp_X7_lessens hl _ _) rfl kMl_X7_202 mdX7_lessens ⟨(Nat.le_of_ble_eq_true rfl), (Nat.le_of_ble_eq_true rfl)⟩ mk_0 rfl rfl (Nat.le_of_ble_eq_true rfl) dX7_rounds_136 ⟨(Nat.le_of_ble_eq_true rfl), (Nat.le_of_ble_eq_true rfl)⟩ hx (Nat.le_of_ble_eq_true rfl) (Nat.le_of_ble_eq_true rfl) H (fun r136 s136 H => ?_)
    refine J.ior C dX7_rounds_139 ?_
    refine J.istore_nL (i := 2) C dX7_rounds_140 rfl (by decide) H (fun z140 H => ?_)
    refine J.goto (tgt := 309) C dX7_rounds_141 (by decide) ?_
    refine J.iincL C (l3 + (1 : Int32)) dX7_rounds_309 rfl rfl (by decide) H (fun z309 H => ?_)
    refine J.goto (tgt := 4) C dX7_rounds_312 (by decide) ?_
    refine J.widen (k := 0) (n := 0) (Nat.le_of_ble_eq_true rfl) (Nat.le_of_ble_eq_true rfl) ?_
    refine J.lw (lv' := [(0, .ref (bd 0)), (1, .int l1), (2, .int z140), (3, .int z309)]) ⟨rfl, rfl, rfl, rfl, trivial⟩ ?_
    exact hk_4 _ _ _ _  H
def B_X7_rounds_4 (k_4 : MS → Int32 → Int32 → Int32 → Res MS Int32) (σ : MS) (l1 : Int32) (l2 : Int32) (l3 : Int32) : Res MS Int32 := (if (150 : Int32) < l3 then (gc (l2 = 0 ∨ l2 = 1) (some (.inl l2, σ))) else (gd l3 151 (if (σ.2.1 17 l3.toNatClampNeg) = 0 then (lt (l3 + (1 : Int32)) fun z309 => (k_4 σ l1 l2 z309)) else (gd l1 151 (bd (P_X7_lessens σ l3 ((1 : Int32) + (σ.2.1 18 l1.toNatClampNeg))) fun r34 s34 => (lt (l2 ||| r34) fun z38 => (if l3 = (150 : Int32) then (B_X7_rounds_57 k_4 s34 l1 z38 l3 (70 : Int32)) else (gd l3 150 (B_X7_rounds_57 k_4 s34 l1 z38 l3 (s34.2.1 0 l3.toNatClampNeg))))))))))
set_option maxRecDepth 100000 in
theorem bl_X7_rounds_4 {l : Launch} (hl : l.stackTraces = false) {g : Gy} {bd : Nat → Nat} {pre rst : va_W} {p : Program} {e : Env} {s : State} {m : MethodId} {args : Array Value} {below : List Frame} {meth : Method} {c : Code} {A : Nat → Prop} (C : Cx p l s m args meth c g A yX7_rounds.cls cX7_rounds 5) (hr : meth.sig.returnType = some .boolean) (hx : ∀ x ∈ c.exceptionTable.toList, False) {rr : (Int32 ⊕ String) × MS} (k_4 : MS → Int32 → Int32 → Int32 → Res MS Int32) (hk_4 : ∀ (σ : MS) (l1 : Int32) (l2 : Int32) (l3 : Int32), k_4 σ l1 l2 l3 = some rr → J p l e (rmOf 2 0 0) s m args below meth c g A 5 0 0 (QR mI g A (mkh g bd pre rst) rr below args s 0 0) 4 [(0, .ref (bd 0)), (1, .int l1), (2, .int l2), (3, .int l3)] [] ((mkh g bd pre rst) σ)) (σ : MS) (l1 : Int32) (l2 : Int32) (l3 : Int32) (H : B_X7_rounds_4 k_4 σ l1 l2 l3 = some rr) : J p l e (rmOf 2 0 0) s m args below meth c g A 5 0 0 (QR mI g A (mkh g bd pre rst) rr below args s 0 0) 4 [(0, .ref (bd 0)), (1, .int l1), (2, .int l2), (3, .int l3)] [] ((mkh g bd pre rst) σ) := by
  unfold B_X7_rounds_4 at H
  refine J.iload_n (i := 3) C dX7_rounds_4 rfl rfl ?_
  refine J.sipush C (150) dX7_rounds_5 (by decide) ?_
  refine J.icmp_gtL (tgt := 315) C dX7_rounds_8 (by decide) H (fun c_8 H => ?_) (fun c_8 H => ?_)
  · refine J.iload_n (i := 2) C dX7_rounds_315 rfl rfl ?_
    obtain ⟨hz, H⟩ := gc_some H
    exact J.zretL C hr (nzb hz) (Nat.le_of_ble_eq_true rfl) (Nat.le_of_ble_eq_true rfl) dX7_rounds_316 H
  · refine J.aload_n (i := 0) C dX7_rounds_11 rfl rfl ?_
    refine J.get C (pre.length + 0) 27 mk_0 rfl (by decide) kFl_X7_75 inB_X7 rfl dX7_rounds_12 ?_
    refine J.iload_n (i := 3) C dX7_rounds_15 rfl rfl ?_
    refine J.zaldL C (pre.length + 18) mk_18 dX7_rounds_16 H (fun H => ?_)
    refine J.if_neL (tgt := 23) C dX7_rounds_17 (by decide) H (fun c_17 H => ?_) (fun c_17 H => ?_)
    · refine J.iload_n (i := 2) C dX7_rounds_23 rfl rfl ?_
      refine J.aload_n (i := 0) C dX7_rounds_24 rfl rfl ?_
      refine J.iload_n (i := 3) C dX7_rounds_25 rfl rfl ?_
      refine J.iconst C (1) dX7_rounds_26 (by decide) ?_
      refine J.aload_n (i := 0) C dX7_rounds_27 rfl rfl ?_
      refine J.get C (pre.length + 0) 28 mk_0 rfl (by decide) kFl_X7_78 inB_X7 rfl dX7_rounds_28 ?_
      refine J.iload_n (i := 1) C dX7_rounds_31 rfl rfl ?_
      refine J.ialdL C (pre.length + 19) mk_19 dX7_rounds_32 H (fun H => ?_)
      refine J.iadd C dX7_rounds_33 ?_
      refine J.callVBI (hp := (mkh g bd pre rst)) C rfl (sp_X7_lessens hl _ _) rfl kMl_X7_202 mdX7_lessens ⟨(Nat.le_of_ble_eq_true rfl), (Nat.le_of_ble_eq_true rfl)⟩ mk_0 rfl rfl (Nat.le_of_ble_eq_true rfl) dX7_rounds_34 ⟨(Nat.le_of_ble_eq_true rfl), (Nat.le_of_ble_eq_true rfl)⟩ hx (Nat.le_of_ble_eq_true rfl) (Nat.le_of_ble_eq_true rfl) H (fun r34 s34 H => ?_)
      refine J.ior C dX7_rounds_37 ?_
      refine J.istore_nL (i := 2) C dX7_rounds_38 rfl (by decide) H (fun z38 H => ?_)
      refine J.iload_n (i := 3) C dX7_rounds_39 rfl rfl ?_
      refine J.sipush C (150) dX7_rounds_40 (by decide) ?_
      refine J.icmp_neL (tgt := 51) C dX7_rounds_43 (by decide) H (fun c_43 H => ?_) (fun c_43 H => ?_)
      · refine J.aload_n (i := 0) C dX7_rounds_51 rfl rfl ?_
        refine J.get C (pre.length + 0) 0 mk_0 rfl (by decide) kFl_X7_9 inB_X7 rfl dX7_rounds_52 ?_
        refine J.iload_n (i := 3) C dX7_rounds_55 rfl rfl ?_
        refine J.caldL C (pre.length + 1) mk_1 dX7_rounds_56 H (fun H => ?_)
        refine J.widen (k := 0) (n := 0) (Nat.le_of_ble_eq_true rfl) (Nat.le_of_ble_eq_true rfl) ?_
        refine J.lw (lv' := [(0, .ref (bd 0)), (1, .int l1), (2, .int z38), (3, .int l3)]) ⟨rfl, rfl, rfl, rfl, trivial⟩ ?_
        exact bl_X7_rounds_57 hl C hr hx k_4 hk_4 _ _ _ _ _  H
      · refine J.bipush C (70) dX7_rounds_46 (by decide) ?_
        refine J.goto (tgt := 57) C dX7_rounds_48 (by decide) ?_
        refine J.widen (k := 0) (n := 0) (Nat.le_of_ble_eq_true rfl) (Nat.le_of_ble_eq_true rfl) ?_
        refine J.lw (lv' := [(0, .ref (bd 0)), (1, .int l1), (2, .int z38), (3, .int l3)]) ⟨rfl, rfl, rfl, rfl, trivial⟩ ?_
        exact bl_X7_rounds_57 hl C hr hx k_4 hk_4 _ _ _ _ _  H
    · refine J.goto (tgt := 309) C dX7_rounds_20 (by decide) ?_
      refine J.iincL C (l3 + (1 : Int32)) dX7_rounds_309 rfl rfl (by decide) H (fun z309 H => ?_)
      refine J.goto (tgt := 4) C dX7_rounds_312 (by decide) ?_
      refine J.widen (k := 0) (n := 0) (Nat.le_of_ble_eq_true rfl) (Nat.le_of_ble_eq_true rfl) ?_
      refine J.lw (lv' := [(0, .ref (bd 0)), (1, .int l1), (2, .int l2), (3, .int z309)]) ⟨rfl, rfl, rfl, rfl, trivial⟩ ?_
      exact hk_4 _ _ _ _  H
def L_X7_rounds_4 : Nat → MS → Int32 → Int32 → Int32 → Res MS Int32
  | 0, _, _, _, _ => none
  | n + 1, σ, l1, l2, l3 => B_X7_rounds_4 (L_X7_rounds_4 n) σ l1 l2 l3
set_option maxRecDepth 100000 in
theorem lp_X7_rounds_4 {l : Launch} (hl : l.stackTraces = false) {g : Gy} {bd : Nat → Nat} {pre rst : va_W} {p : Program} {e : Env} {s : State} {m : MethodId} {args : Array Value} {below : List Frame} {meth : Method} {c : Code} {A : Nat → Prop} (C : Cx p l s m args meth c g A yX7_rounds.cls cX7_rounds 5) (hr : meth.sig.returnType = some .boolean) (hx : ∀ x ∈ c.exceptionTable.toList, False) {rr : (Int32 ⊕ String) × MS} : ∀ (n : Nat) (σ : MS) (l1 : Int32) (l2 : Int32) (l3 : Int32), L_X7_rounds_4 n σ l1 l2 l3 = some rr → J p l e (rmOf 2 0 0) s m args below meth c g A 5 0 0 (QR mI g A (mkh g bd pre rst) rr below args s 0 0) 4 [(0, .ref (bd 0)), (1, .int l1), (2, .int l2), (3, .int l3)] [] ((mkh g bd pre rst) σ) := by
  intro n
  induction n with
  | zero => intro σ l1 l2 l3 H; cases H
  | succ n ih => intro σ l1 l2 l3 H; exact bl_X7_rounds_4 hl C hr hx _ ih _ _ _ _ H
abbrev mX7_rounds : MD := (yX7_rounds, cX7_rounds, 5, some .boolean)
theorem mdX7_rounds : MDv mX7_rounds RX7 1 := ⟨kIm_X7_rounds, kSe_X7_rounds, kIn_X7, kCo_X7_rounds, by decide +kernel⟩
def P_X7_rounds (σ : MS) (a1 : Int32) : Res MS Int32 := (lt (0 : Int32) fun z1 => (lt (0 : Int32) fun z3 => (L_X7_rounds_4 FU σ a1 z1 z3)))
set_option maxRecDepth 100000 in
theorem sp_X7_rounds {l : Launch} (hl : l.stackTraces = false) {g : Gy} {bd : Nat → Nat} {pre rst : va_W} {σ : MS} (a1 : Int32) : SpR l mX7_rounds 2 0 0 mI g [.ref (bd 0), .int a1] (mkh g bd pre rst) σ (P_X7_rounds σ a1) := by
  refine SpR.of hl (by decide) (Nat.le_of_ble_eq_true rfl) (fun rr H p e s m args below meth c A C hr hx => ?_)
  unfold P_X7_rounds at H
  refine J.lw (lv' := [(0, .ref (bd 0)), (1, .int a1)]) ⟨rfl, rfl, trivial⟩ ?_
  refine J.iconst C (0) dX7_rounds_0 (by decide) ?_
  refine J.istore_nL (i := 2) C dX7_rounds_1 rfl (by decide) H (fun z1 H => ?_)
  refine J.iconst C (0) dX7_rounds_2 (by decide) ?_
  refine J.istore_nL (i := 3) C dX7_rounds_3 rfl (by decide) H (fun z3 H => ?_)
  refine J.widen (k := 0) (n := 0) (Nat.le_of_ble_eq_true rfl) (Nat.le_of_ble_eq_true rfl) ?_
  refine J.lw (lv' := [(0, .ref (bd 0)), (1, .int a1), (2, .int z1), (3, .int z3)]) ⟨rfl, rfl, rfl, rfl, trivial⟩ ?_
  exact lp_X7_rounds_4 hl C hr hx  FU _ _ _ _  H

/-! X7_distance -/
def B_X7_distance_106 (k_106 : MS → Int32 → Int32 → Int32 → Res MS Int32) (σ : MS) (l1 : Int32) (l2 : Int32) (l3 : Int32) : Res MS Int32 := (if l3 = 0 then (gd l1 151 (if (10000 : Int32) ≤ (σ.2.1 18 l1.toNatClampNeg) then (bd (P_X7_raises σ (2 : Int32)) fun r142 s142 => (some (.inl r142, s142))) else (gd l1 151 (some (.inl (σ.2.1 18 l1.toNatClampNeg), σ))))) else (bd (P_X7_rounds σ l2) fun r112 s112 => (lt r112 fun z115 => (k_106 s112 l1 l2 z115))))
set_option maxRecDepth 100000 in
theorem bl_X7_distance_106 {l : Launch} (hl : l.stackTraces = false) {g : Gy} {bd : Nat → Nat} {pre rst : va_W} {p : Program} {e : Env} {s : State} {m : MethodId} {args : Array Value} {below : List Frame} {meth : Method} {c : Code} {A : Nat → Prop} (C : Cx p l s m args meth c g A yX7_distance.cls cX7_distance 4) (hr : meth.sig.returnType = some .int) (hx : ∀ x ∈ c.exceptionTable.toList, False) {rr : (Int32 ⊕ String) × MS} (k_106 : MS → Int32 → Int32 → Int32 → Res MS Int32) (hk_106 : ∀ (σ : MS) (l1 : Int32) (l2 : Int32) (l3 : Int32), k_106 σ l1 l2 l3 = some rr → J p l e (rmOf 42 0 0) s m args below meth c g A 4 0 0 (QR mI g A (mkh g bd pre rst) rr below args s 0 0) 106 [(0, .ref (bd 0)), (1, .int l1), (2, .int l2), (3, .int l3)] [] ((mkh g bd pre rst) σ)) (σ : MS) (l1 : Int32) (l2 : Int32) (l3 : Int32) (H : B_X7_distance_106 k_106 σ l1 l2 l3 = some rr) : J p l e (rmOf 42 0 0) s m args below meth c g A 4 0 0 (QR mI g A (mkh g bd pre rst) rr below args s 0 0) 106 [(0, .ref (bd 0)), (1, .int l1), (2, .int l2), (3, .int l3)] [] ((mkh g bd pre rst) σ) := by
  unfold B_X7_distance_106 at H
  refine J.iload_n (i := 3) C dX7_distance_106 rfl rfl ?_
  refine J.if_eqL (tgt := 119) C dX7_distance_107 (by decide) H (fun c_107 H => ?_) (fun c_107 H => ?_)
  · refine J.aload_n (i := 0) C dX7_distance_119 rfl rfl ?_
    refine J.get C (pre.length + 0) 28 mk_0 rfl (by decide) kFl_X7_78 inB_X7 rfl dX7_distance_120 ?_
    refine J.iload_n (i := 1) C dX7_distance_123 rfl rfl ?_
    refine J.ialdL C (pre.length + 19) mk_19 dX7_distance_124 H (fun H => ?_)
    refine J.sipush C (10000) dX7_distance_125 (by decide) ?_
    refine J.icmp_geL (tgt := 140) C dX7_distance_128 (by decide) H (fun c_128 H => ?_) (fun c_128 H => ?_)
    · refine J.aload_n (i := 0) C dX7_distance_140 rfl rfl ?_
      refine J.iconst C (2) dX7_distance_141 (by decide) ?_
      refine J.callVBI (hp := (mkh g bd pre rst)) C rfl (sp_X7_raises hl _) rfl kMl_X7_132 mdX7_raises ⟨(Nat.le_of_ble_eq_true rfl), (Nat.le_of_ble_eq_true rfl)⟩ mk_0 rfl rfl (Nat.le_of_ble_eq_true rfl) dX7_distance_142 ⟨(Nat.le_of_ble_eq_true rfl), (Nat.le_of_ble_eq_true rfl)⟩ hx (Nat.le_of_ble_eq_true rfl) (Nat.le_of_ble_eq_true rfl) H (fun r142 s142 H => ?_)
      exact J.iretL C hr (Nat.le_of_ble_eq_true rfl) (Nat.le_of_ble_eq_true rfl) dX7_distance_145 H
    · refine J.aload_n (i := 0) C dX7_distance_131 rfl rfl ?_
      refine J.get C (pre.length + 0) 28 mk_0 rfl (by decide) kFl_X7_78 inB_X7 rfl dX7_distance_132 ?_
      refine J.iload_n (i := 1) C dX7_distance_135 rfl rfl ?_
      refine J.ialdL C (pre.length + 19) mk_19 dX7_distance_136 H (fun H => ?_)
      refine J.goto (tgt := 145) C dX7_distance_137 (by decide) ?_
      exact J.iretL C hr (Nat.le_of_ble_eq_true rfl) (Nat.le_of_ble_eq_true rfl) dX7_distance_145 H
  · refine J.aload_n (i := 0) C dX7_distance_110 rfl rfl ?_
    refine J.iload_n (i := 2) C dX7_distance_111 rfl rfl ?_
    refine J.callVBI (hp := (mkh g bd pre rst)) C rfl (sp_X7_rounds hl _) rfl kMl_X7_214 mdX7_rounds ⟨(Nat.le_of_ble_eq_true rfl), (Nat.le_of_ble_eq_true rfl)⟩ mk_0 rfl rfl (Nat.le_of_ble_eq_true rfl) dX7_distance_112 ⟨(Nat.le_of_ble_eq_true rfl), (Nat.le_of_ble_eq_true rfl)⟩ hx (Nat.le_of_ble_eq_true rfl) (Nat.le_of_ble_eq_true rfl) H (fun r112 s112 H => ?_)
    refine J.istore_nL (i := 3) C dX7_distance_115 rfl (by decide) H (fun z115 H => ?_)
    refine J.goto (tgt := 106) C dX7_distance_116 (by decide) ?_
    refine J.widen (k := 0) (n := 0) (Nat.le_of_ble_eq_true rfl) (Nat.le_of_ble_eq_true rfl) ?_
    refine J.lw (lv' := [(0, .ref (bd 0)), (1, .int l1), (2, .int l2), (3, .int z115)]) ⟨rfl, rfl, rfl, rfl, trivial⟩ ?_
    exact hk_106 _ _ _ _  H
def L_X7_distance_106 : Nat → MS → Int32 → Int32 → Int32 → Res MS Int32
  | 0, _, _, _, _ => none
  | n + 1, σ, l1, l2, l3 => B_X7_distance_106 (L_X7_distance_106 n) σ l1 l2 l3
set_option maxRecDepth 100000 in
theorem lp_X7_distance_106 {l : Launch} (hl : l.stackTraces = false) {g : Gy} {bd : Nat → Nat} {pre rst : va_W} {p : Program} {e : Env} {s : State} {m : MethodId} {args : Array Value} {below : List Frame} {meth : Method} {c : Code} {A : Nat → Prop} (C : Cx p l s m args meth c g A yX7_distance.cls cX7_distance 4) (hr : meth.sig.returnType = some .int) (hx : ∀ x ∈ c.exceptionTable.toList, False) {rr : (Int32 ⊕ String) × MS} : ∀ (n : Nat) (σ : MS) (l1 : Int32) (l2 : Int32) (l3 : Int32), L_X7_distance_106 n σ l1 l2 l3 = some rr → J p l e (rmOf 42 0 0) s m args below meth c g A 4 0 0 (QR mI g A (mkh g bd pre rst) rr below args s 0 0) 106 [(0, .ref (bd 0)), (1, .int l1), (2, .int l2), (3, .int l3)] [] ((mkh g bd pre rst) σ) := by
  intro n
  induction n with
  | zero => intro σ l1 l2 l3 H; cases H
  | succ n ih => intro σ l1 l2 l3 H; exact bl_X7_distance_106 hl C hr hx _ ih _ _ _ _ H
def B_X7_distance_60 (k_60 : MS → Int32 → Int32 → Int32 → Res MS Int32) (σ : MS) (l1 : Int32) (l2 : Int32) (l3 : Int32) : Res MS Int32 := (if (σ.1 1) ≤ l3 then (lt (1 : Int32) fun z105 => (L_X7_distance_106 FU σ l1 l2 z105)) else (bd (P_X7_mayCite σ l3) fun r70 s70 => (if r70 = 0 then (lt (l3 + (1 : Int32)) fun z98 => (k_60 s70 l1 l2 z98)) else (gd l3 60 (bd (P_X7_views 40 s70 (s70.2.1 6 l3.toNatClampNeg)) fun _ s83 => (gd l3 60 (gd (s83.2.1 6 l3.toNatClampNeg) 151 (lt (tA s83 18 (upd (s83.2.1 18) (s83.2.1 6 l3.toNatClampNeg).toNatClampNeg (0 : Int32))) fun s97 => (lt (l3 + (1 : Int32)) fun z98 => (k_60 s97 l1 l2 z98))))))))))
set_option maxRecDepth 100000 in
theorem bl_X7_distance_60 {l : Launch} (hl : l.stackTraces = false) {g : Gy} {bd : Nat → Nat} {pre rst : va_W} {p : Program} {e : Env} {s : State} {m : MethodId} {args : Array Value} {below : List Frame} {meth : Method} {c : Code} {A : Nat → Prop} (C : Cx p l s m args meth c g A yX7_distance.cls cX7_distance 4) (hr : meth.sig.returnType = some .int) (hx : ∀ x ∈ c.exceptionTable.toList, False) {rr : (Int32 ⊕ String) × MS} (k_60 : MS → Int32 → Int32 → Int32 → Res MS Int32) (hk_60 : ∀ (σ : MS) (l1 : Int32) (l2 : Int32) (l3 : Int32), k_60 σ l1 l2 l3 = some rr → J p l e (rmOf 42 0 0) s m args below meth c g A 4 0 0 (QR mI g A (mkh g bd pre rst) rr below args s 0 0) 60 [(0, .ref (bd 0)), (1, .int l1), (2, .int l2), (3, .int l3)] [] ((mkh g bd pre rst) σ)) (σ : MS) (l1 : Int32) (l2 : Int32) (l3 : Int32) (H : B_X7_distance_60 k_60 σ l1 l2 l3 = some rr) : J p l e (rmOf 42 0 0) s m args below meth c g A 4 0 0 (QR mI g A (mkh g bd pre rst) rr below args s 0 0) 60 [(0, .ref (bd 0)), (1, .int l1), (2, .int l2), (3, .int l3)] [] ((mkh g bd pre rst) σ) := by
  unfold B_X7_distance_60 at H
  refine J.iload_n (i := 3) C dX7_distance_60 rfl rfl ?_
  refine J.aload_n (i := 0) C dX7_distance_61 rfl rfl ?_
  refine J.get C (pre.length + 0) 11 mk_0 rfl (by decide) kFl_X7_94 inB_X7 rfl dX7_distance_62 ?_
  refine J.icmp_geL (tgt := 104) C dX7_distance_65 (by decide) H (fun c_65 H => ?_) (fun c_65 H => ?_)
  · refine J.iconst C (1) dX7_distance_104 (by decide) ?_
    refine J.istore_nL (i := 3) C dX7_distance_105 rfl (by decide) H (fun z105 H => ?_)
    refine J.widen (k := 0) (n := 0) (Nat.le_of_ble_eq_true rfl) (Nat.le_of_ble_eq_true rfl) ?_
    refine J.lw (lv' := [(0, .ref (bd 0)), (1, .int l1), (2, .int l2), (3, .int z105)]) ⟨rfl, rfl, rfl, rfl, trivial⟩ ?_
    exact lp_X7_distance_106 hl C hr hx  FU _ _ _ _  H
  · refine J.aload_n (i := 0) C dX7_distance_68 rfl rfl ?_
    refine J.iload_n (i := 3) C dX7_distance_69 rfl rfl ?_
    refine J.callVBI (hp := (mkh g bd pre rst)) C rfl (sp_X7_mayCite hl _) rfl kMl_X7_152 mdX7_mayCite ⟨(Nat.le_of_ble_eq_true rfl), (Nat.le_of_ble_eq_true rfl)⟩ mk_0 rfl rfl (Nat.le_of_ble_eq_true rfl) dX7_distance_70 ⟨(Nat.le_of_ble_eq_true rfl), (Nat.le_of_ble_eq_true rfl)⟩ hx (Nat.le_of_ble_eq_true rfl) (Nat.le_of_ble_eq_true rfl) H (fun r70 s70 H => ?_)
    refine J.if_eqL (tgt := 98) C dX7_distance_73 (by decide) H (fun c_73 H => ?_) (fun c_73 H => ?_)
    · refine J.iincL C (l3 + (1 : Int32)) dX7_distance_98 rfl rfl (by decide) H (fun z98 H => ?_)
      refine J.goto (tgt := 60) C dX7_distance_101 (by decide) ?_
      refine J.widen (k := 0) (n := 0) (Nat.le_of_ble_eq_true rfl) (Nat.le_of_ble_eq_true rfl) ?_
      refine J.lw (lv' := [(0, .ref (bd 0)), (1, .int l1), (2, .int l2), (3, .int z98)]) ⟨rfl, rfl, rfl, rfl, trivial⟩ ?_
      exact hk_60 _ _ _ _  H
    · refine J.aload_n (i := 0) C dX7_distance_76 rfl rfl ?_
      refine J.aload_n (i := 0) C dX7_distance_77 rfl rfl ?_
      refine J.get C (pre.length + 0) 7 mk_0 rfl (by decide) kFl_X7_29 inB_X7 rfl dX7_distance_78 ?_
      refine J.iload_n (i := 3) C dX7_distance_81 rfl rfl ?_
      refine J.ialdL C (pre.length + 7) mk_7 dX7_distance_82 H (fun H => ?_)
      refine J.callVBV (hp := (mkh g bd pre rst)) C rfl (sp_X7_views hl 40 _ _) rfl kMl_X7_199 mdX7_views ⟨(Nat.le_of_ble_eq_true rfl), (Nat.le_of_ble_eq_true rfl)⟩ mk_0 rfl rfl (Nat.le_of_ble_eq_true rfl) dX7_distance_83 ⟨(Nat.le_of_ble_eq_true rfl), (Nat.le_of_ble_eq_true rfl)⟩ hx (Nat.le_of_ble_eq_true rfl) (Nat.le_of_ble_eq_true rfl) H (fun _ s83 H => ?_)
      refine J.aload_n (i := 0) C dX7_distance_86 rfl rfl ?_
      refine J.get C (pre.length + 0) 28 mk_0 rfl (by decide) kFl_X7_78 inB_X7 rfl dX7_distance_87 ?_
      refine J.aload_n (i := 0) C dX7_distance_90 rfl rfl ?_
      refine J.get C (pre.length + 0) 7 mk_0 rfl (by decide) kFl_X7_29 inB_X7 rfl dX7_distance_91 ?_
      refine J.iload_n (i := 3) C dX7_distance_94 rfl rfl ?_
      refine J.ialdL C (pre.length + 7) mk_7 dX7_distance_95 H (fun H => ?_)
      refine J.iconst C (0) dX7_distance_96 (by decide) ?_
      refine J.iastL (hp := (mkh g bd pre rst)) C (pre.length + 19) mk_19 dX7_distance_97 (mkA_18 _) H (fun s97 H => ?_)
      refine J.iincL C (l3 + (1 : Int32)) dX7_distance_98 rfl rfl (by decide) H (fun z98 H => ?_)
      refine J.goto (tgt := 60) C dX7_distance_101 (by decide) ?_
      refine J.widen (k := 0) (n := 0) (Nat.le_of_ble_eq_true rfl) (Nat.le_of_ble_eq_true rfl) ?_
      refine J.lw (lv' := [(0, .ref (bd 0)), (1, .int l1), (2, .int l2), (3, .int z98)]) ⟨rfl, rfl, rfl, rfl, trivial⟩ ?_
      exact hk_60 _ _ _ _  H
def L_X7_distance_60 : Nat → MS → Int32 → Int32 → Int32 → Res MS Int32
  | 0, _, _, _, _ => none
  | n + 1, σ, l1, l2, l3 => B_X7_distance_60 (L_X7_distance_60 n) σ l1 l2 l3
set_option maxRecDepth 100000 in
theorem lp_X7_distance_60 {l : Launch} (hl : l.stackTraces = false) {g : Gy} {bd : Nat → Nat} {pre rst : va_W} {p : Program} {e : Env} {s : State} {m : MethodId} {args : Array Value} {below : List Frame} {meth : Method} {c : Code} {A : Nat → Prop} (C : Cx p l s m args meth c g A yX7_distance.cls cX7_distance 4) (hr : meth.sig.returnType = some .int) (hx : ∀ x ∈ c.exceptionTable.toList, False) {rr : (Int32 ⊕ String) × MS} : ∀ (n : Nat) (σ : MS) (l1 : Int32) (l2 : Int32) (l3 : Int32), L_X7_distance_60 n σ l1 l2 l3 = some rr → J p l e (rmOf 42 0 0) s m args below meth c g A 4 0 0 (QR mI g A (mkh g bd pre rst) rr below args s 0 0) 60 [(0, .ref (bd 0)), (1, .int l1), (2, .int l2), (3, .int l3)] [] ((mkh g bd pre rst) σ) := by
  intro n
  induction n with
  | zero => intro σ l1 l2 l3 H; cases H
  | succ n ih => intro σ l1 l2 l3 H; exact bl_X7_distance_60 hl C hr hx _ ih _ _ _ _ H
def B_X7_distance_12 (k_12 : MS → Int32 → Int32 → Res MS Int32) (σ : MS) (l1 : Int32) (l2 : Int32) : Res MS Int32 := (if (150 : Int32) < l2 then (bd (P_X7_knownFalsum σ ) fun r42 s42 => (lt r42 fun z45 => (gd z45 151 (lt (tA s42 17 (upd (s42.2.1 17) z45.toNatClampNeg (vp_nar .boolean (1 : Int32)))) fun s52 => (bd (P_X7_views 40 s52 l1) fun _ s55 => (lt (0 : Int32) fun z59 => (L_X7_distance_60 FU s55 l1 z45 z59))))))) else (gd l2 151 (lt (tA σ 17 (upd (σ.2.1 17) l2.toNatClampNeg (vp_nar .boolean (0 : Int32)))) fun s25 => (gd l2 151 (lt (tA s25 18 (upd (s25.2.1 18) l2.toNatClampNeg (10000 : Int32))) fun s34 => (lt (l2 + (1 : Int32)) fun z35 => (k_12 s34 l1 z35)))))))
set_option maxRecDepth 100000 in
theorem bl_X7_distance_12 {l : Launch} (hl : l.stackTraces = false) {g : Gy} {bd : Nat → Nat} {pre rst : va_W} {p : Program} {e : Env} {s : State} {m : MethodId} {args : Array Value} {below : List Frame} {meth : Method} {c : Code} {A : Nat → Prop} (C : Cx p l s m args meth c g A yX7_distance.cls cX7_distance 4) (hr : meth.sig.returnType = some .int) (hx : ∀ x ∈ c.exceptionTable.toList, False) {rr : (Int32 ⊕ String) × MS} (k_12 : MS → Int32 → Int32 → Res MS Int32) (hk_12 : ∀ (σ : MS) (l1 : Int32) (l2 : Int32), k_12 σ l1 l2 = some rr → J p l e (rmOf 42 0 0) s m args below meth c g A 4 0 0 (QR mI g A (mkh g bd pre rst) rr below args s 0 0) 12 [(0, .ref (bd 0)), (1, .int l1), (2, .int l2)] [] ((mkh g bd pre rst) σ)) (σ : MS) (l1 : Int32) (l2 : Int32) (H : B_X7_distance_12 k_12 σ l1 l2 = some rr) : J p l e (rmOf 42 0 0) s m args below meth c g A 4 0 0 (QR mI g A (mkh g bd pre rst) rr below args s 0 0) 12 [(0, .ref (bd 0)), (1, .int l1), (2, .int l2)] [] ((mkh g bd pre rst) σ) := by
  unfold B_X7_distance_12 at H
  refine J.iload_n (i := 2) C dX7_distance_12 rfl rfl ?_
  refine J.sipush C (150) dX7_distance_13 (by decide) ?_
  refine J.icmp_gtL (tgt := 41) C dX7_distance_16 (by decide) H (fun c_16 H => ?_) (fun c_16 H => ?_)
  · refine J.aload_n (i := 0) C dX7_distance_41 rfl rfl ?_
    refine J.callVBI (hp := (mkh g bd pre rst)) C rfl (sp_X7_knownFalsum hl ) rfl kMl_X7_211 mdX7_knownFalsum ⟨(Nat.le_of_ble_eq_true rfl), (Nat.le_of_ble_eq_true rfl)⟩ mk_0 rfl rfl (Nat.le_of_ble_eq_true rfl) dX7_distance_42 ⟨(Nat.le_of_ble_eq_true rfl), (Nat.le_of_ble_eq_true rfl)⟩ hx (Nat.le_of_ble_eq_true rfl) (Nat.le_of_ble_eq_true rfl) H (fun r42 s42 H => ?_)
    refine J.istore_nL (i := 2) C dX7_distance_45 rfl (by decide) H (fun z45 H => ?_)
    refine J.aload_n (i := 0) C dX7_distance_46 rfl rfl ?_
    refine J.get C (pre.length + 0) 27 mk_0 rfl (by decide) kFl_X7_75 inB_X7 rfl dX7_distance_47 ?_
    refine J.iload_n (i := 2) C dX7_distance_50 rfl rfl ?_
    refine J.iconst C (1) dX7_distance_51 (by decide) ?_
    refine J.zastL (hp := (mkh g bd pre rst)) C (pre.length + 18) mk_18 dX7_distance_52 (mkA_17 _) H (fun s52 H => ?_)
    refine J.aload_n (i := 0) C dX7_distance_53 rfl rfl ?_
    refine J.iload_n (i := 1) C dX7_distance_54 rfl rfl ?_
    refine J.callVBV (hp := (mkh g bd pre rst)) C rfl (sp_X7_views hl 40 _ _) rfl kMl_X7_199 mdX7_views ⟨(Nat.le_of_ble_eq_true rfl), (Nat.le_of_ble_eq_true rfl)⟩ mk_0 rfl rfl (Nat.le_of_ble_eq_true rfl) dX7_distance_55 ⟨(Nat.le_of_ble_eq_true rfl), (Nat.le_of_ble_eq_true rfl)⟩ hx (Nat.le_of_ble_eq_true rfl) (Nat.le_of_ble_eq_true rfl) H (fun _ s55 H => ?_)
    refine J.iconst C (0) dX7_distance_58 (by decide) ?_
    refine J.istore_nL (i := 3) C dX7_distance_59 rfl (by decide) H (fun z59 H => ?_)
    refine J.widen (k := 0) (n := 0) (Nat.le_of_ble_eq_true rfl) (Nat.le_of_ble_eq_true rfl) ?_
    refine J.lw (lv' := [(0, .ref (bd 0)), (1, .int l1), (2, .int z45), (3, .int z59)]) ⟨rfl, rfl, rfl, rfl, trivial⟩ ?_
    exact lp_X7_distance_60 hl C hr hx  FU _ _ _ _  H
  · refine J.aload_n (i := 0) C dX7_distance_19 rfl rfl ?_
    refine J.get C (pre.length + 0) 27 mk_0 rfl (by decide) kFl_X7_75 inB_X7 rfl dX7_distance_20 ?_
    refine J.iload_n (i := 2) C dX7_distance_23 rfl rfl ?_
    refine J.iconst C (0) dX7_distance_24 (by decide) ?_
    refine J.zastL (hp := (mkh g bd pre rst)) C (pre.length + 18) mk_18 dX7_distance_25 (mkA_17 _) H (fun s25 H => ?_)
    refine J.aload_n (i := 0) C dX7_distance_26 rfl rfl ?_
    refine J.get C (pre.length + 0) 28 mk_0 rfl (by decide) kFl_X7_78 inB_X7 rfl dX7_distance_27 ?_
    refine J.iload_n (i := 2) C dX7_distance_30 rfl rfl ?_
    refine J.sipush C (10000) dX7_distance_31 (by decide) ?_
    refine J.iastL (hp := (mkh g bd pre rst)) C (pre.length + 19) mk_19 dX7_distance_34 (mkA_18 _) H (fun s34 H => ?_)
    refine J.iincL C (l2 + (1 : Int32)) dX7_distance_35 rfl rfl (by decide) H (fun z35 H => ?_)
    refine J.goto (tgt := 12) C dX7_distance_38 (by decide) ?_
    refine J.widen (k := 0) (n := 0) (Nat.le_of_ble_eq_true rfl) (Nat.le_of_ble_eq_true rfl) ?_
    refine J.lw (lv' := [(0, .ref (bd 0)), (1, .int l1), (2, .int z35)]) ⟨rfl, rfl, rfl, trivial⟩ ?_
    exact hk_12 _ _ _  H
def L_X7_distance_12 : Nat → MS → Int32 → Int32 → Res MS Int32
  | 0, _, _, _ => none
  | n + 1, σ, l1, l2 => B_X7_distance_12 (L_X7_distance_12 n) σ l1 l2
set_option maxRecDepth 100000 in
theorem lp_X7_distance_12 {l : Launch} (hl : l.stackTraces = false) {g : Gy} {bd : Nat → Nat} {pre rst : va_W} {p : Program} {e : Env} {s : State} {m : MethodId} {args : Array Value} {below : List Frame} {meth : Method} {c : Code} {A : Nat → Prop} (C : Cx p l s m args meth c g A yX7_distance.cls cX7_distance 4) (hr : meth.sig.returnType = some .int) (hx : ∀ x ∈ c.exceptionTable.toList, False) {rr : (Int32 ⊕ String) × MS} : ∀ (n : Nat) (σ : MS) (l1 : Int32) (l2 : Int32), L_X7_distance_12 n σ l1 l2 = some rr → J p l e (rmOf 42 0 0) s m args below meth c g A 4 0 0 (QR mI g A (mkh g bd pre rst) rr below args s 0 0) 12 [(0, .ref (bd 0)), (1, .int l1), (2, .int l2)] [] ((mkh g bd pre rst) σ) := by
  intro n
  induction n with
  | zero => intro σ l1 l2 H; cases H
  | succ n ih => intro σ l1 l2 H; exact bl_X7_distance_12 hl C hr hx _ ih _ _ _ H
abbrev mX7_distance : MD := (yX7_distance, cX7_distance, 4, some .int)
theorem mdX7_distance : MDv mX7_distance RX7 1 := ⟨kIm_X7_distance, kSe_X7_distance, kIn_X7, kCo_X7_distance, by decide +kernel⟩
def P_X7_distance (σ : MS) (a1 : Int32) : Res MS Int32 := (bd (P_X7_lacks σ a1) fun r2 s2 => (if r2 = 0 then (lt (0 : Int32) fun z11 => (L_X7_distance_12 FU s2 a1 z11)) else (some (.inl (0 : Int32), s2))))
set_option maxRecDepth 100000 in
theorem sp_X7_distance {l : Launch} (hl : l.stackTraces = false) {g : Gy} {bd : Nat → Nat} {pre rst : va_W} {σ : MS} (a1 : Int32) : SpR l mX7_distance 42 0 0 mI g [.ref (bd 0), .int a1] (mkh g bd pre rst) σ (P_X7_distance σ a1) := by
  refine SpR.of hl (by decide) (Nat.le_of_ble_eq_true rfl) (fun rr H p e s m args below meth c A C hr hx => ?_)
  unfold P_X7_distance at H
  refine J.lw (lv' := [(0, .ref (bd 0)), (1, .int a1)]) ⟨rfl, rfl, trivial⟩ ?_
  refine J.aload_n (i := 0) C dX7_distance_0 rfl rfl ?_
  refine J.iload_n (i := 1) C dX7_distance_1 rfl rfl ?_
  refine J.callVBI (hp := (mkh g bd pre rst)) C rfl (sp_X7_lacks hl _) rfl kMl_X7_142 mdX7_lacks ⟨(Nat.le_of_ble_eq_true rfl), (Nat.le_of_ble_eq_true rfl)⟩ mk_0 rfl rfl (Nat.le_of_ble_eq_true rfl) dX7_distance_2 ⟨(Nat.le_of_ble_eq_true rfl), (Nat.le_of_ble_eq_true rfl)⟩ hx (Nat.le_of_ble_eq_true rfl) (Nat.le_of_ble_eq_true rfl) H (fun r2 s2 H => ?_)
  refine J.if_eqL (tgt := 10) C dX7_distance_5 (by decide) H (fun c_5 H => ?_) (fun c_5 H => ?_)
  · refine J.iconst C (0) dX7_distance_10 (by decide) ?_
    refine J.istore_nL (i := 2) C dX7_distance_11 rfl (by decide) H (fun z11 H => ?_)
    refine J.widen (k := 0) (n := 0) (Nat.le_of_ble_eq_true rfl) (Nat.le_of_ble_eq_true rfl) ?_
    refine J.lw (lv' := [(0, .ref (bd 0)), (1, .int a1), (2, .int z11)]) ⟨rfl, rfl, rfl, trivial⟩ ?_
    exact lp_X7_distance_12 hl C hr hx  FU _ _ _  H
  · refine J.iconst C (0) dX7_distance_8 (by decide) ?_
    exact J.iretL C hr (Nat.le_of_ble_eq_true rfl) (Nat.le_of_ble_eq_true rfl) dX7_distance_9 H

/-! X7_distanceByRounds -/
abbrev mX7_distanceByRounds : MD := (yX7_distanceByRounds, cX7_distanceByRounds, 2, some .int)
theorem mdX7_distanceByRounds : MDv mX7_distanceByRounds RX7 1 := ⟨kIm_X7_distanceByRounds, kSe_X7_distanceByRounds, kIn_X7, kCo_X7_distanceByRounds, by decide +kernel⟩
def P_X7_distanceByRounds (σ : MS) (a1 : Int32) : Res MS Int32 := (bd (P_X7_distance σ a1) fun r2 s2 => (some (.inl r2, s2)))
set_option maxRecDepth 100000 in
theorem sp_X7_distanceByRounds {l : Launch} (hl : l.stackTraces = false) {g : Gy} {bd : Nat → Nat} {pre rst : va_W} {σ : MS} (a1 : Int32) : SpR l mX7_distanceByRounds 43 0 0 mI g [.ref (bd 0), .int a1] (mkh g bd pre rst) σ (P_X7_distanceByRounds σ a1) := by
  refine SpR.of hl (by decide) (Nat.le_of_ble_eq_true rfl) (fun rr H p e s m args below meth c A C hr hx => ?_)
  unfold P_X7_distanceByRounds at H
  refine J.lw (lv' := [(0, .ref (bd 0)), (1, .int a1)]) ⟨rfl, rfl, trivial⟩ ?_
  refine J.aload_n (i := 0) C dX7_distanceByRounds_0 rfl rfl ?_
  refine J.iload_n (i := 1) C dX7_distanceByRounds_1 rfl rfl ?_
  refine J.callVBI (hp := (mkh g bd pre rst)) C rfl (sp_X7_distance hl _) rfl kMl_X7_217 mdX7_distance ⟨(Nat.le_of_ble_eq_true rfl), (Nat.le_of_ble_eq_true rfl)⟩ mk_0 rfl rfl (Nat.le_of_ble_eq_true rfl) dX7_distanceByRounds_2 ⟨(Nat.le_of_ble_eq_true rfl), (Nat.le_of_ble_eq_true rfl)⟩ hx (Nat.le_of_ble_eq_true rfl) (Nat.le_of_ble_eq_true rfl) H (fun r2 s2 H => ?_)
  exact J.iretL C hr (Nat.le_of_ble_eq_true rfl) (Nat.le_of_ble_eq_true rfl) dX7_distanceByRounds_5 H

/-! X7_behind -/
def B_X7_behind_4 (k_4 : MS → Int32 → Int32 → Res MS Int32) (σ : MS) (l2 : Int32) (l3 : Int32) : Res MS Int32 := (if l2 ≤ 0 then (some (.inl l3, σ)) else (gd l3 1000 (lt (σ.2.1 15 l3.toNatClampNeg) fun z14 => (if z14 = (75 : Int32) then (lt (l2 + (1 : Int32)) fun z55 => (lt (l3 + (1 : Int32)) fun z56 => (k_4 σ z55 z56))) else (if z14 = (65 : Int32) then (lt (l2 + (1 : Int32)) fun z55 => (lt (l3 + (1 : Int32)) fun z56 => (k_4 σ z55 z56))) else (if z14 = (67 : Int32) then (lt (l2 + (1 : Int32)) fun z55 => (lt (l3 + (1 : Int32)) fun z56 => (k_4 σ z55 z56))) else (if z14 = (78 : Int32) then (lt (l2 + (0 : Int32)) fun z55 => (lt (l3 + (1 : Int32)) fun z56 => (k_4 σ z55 z56))) else (lt (l2 + (-1 : Int32)) fun z55 => (lt (l3 + (1 : Int32)) fun z56 => (k_4 σ z55 z56))))))))))
set_option maxRecDepth 100000 in
theorem bl_X7_behind_4 {l : Launch} (hl : l.stackTraces = false) {g : Gy} {bd : Nat → Nat} {pre rst : va_W} {p : Program} {e : Env} {s : State} {m : MethodId} {args : Array Value} {below : List Frame} {meth : Method} {c : Code} {A : Nat → Prop} (C : Cx p l s m args meth c g A yX7_behind.cls cX7_behind 5) (hr : meth.sig.returnType = some .int) (hx : ∀ x ∈ c.exceptionTable.toList, False) {rr : (Int32 ⊕ String) × MS} (k_4 : MS → Int32 → Int32 → Res MS Int32) (hk_4 : ∀ (σ : MS) (l2 : Int32) (l3 : Int32), k_4 σ l2 l3 = some rr → J p l e (rmOf 1 0 0) s m args below meth c g A 5 0 0 (QR mI g A (mkh g bd pre rst) rr below args s 0 0) 4 [(0, .ref (bd 0)), (2, .int l2), (3, .int l3)] [] ((mkh g bd pre rst) σ)) (σ : MS) (l2 : Int32) (l3 : Int32) (H : B_X7_behind_4 k_4 σ l2 l3 = some rr) : J p l e (rmOf 1 0 0) s m args below meth c g A 5 0 0 (QR mI g A (mkh g bd pre rst) rr below args s 0 0) 4 [(0, .ref (bd 0)), (2, .int l2), (3, .int l3)] [] ((mkh g bd pre rst) σ) := by
  unfold B_X7_behind_4 at H
  refine J.iload_n (i := 2) C dX7_behind_4 rfl rfl ?_
  refine J.if_leL (tgt := 62) C dX7_behind_5 (by decide) H (fun c_5 H => ?_) (fun c_5 H => ?_)
  · refine J.iload_n (i := 3) C dX7_behind_62 rfl rfl ?_
    exact J.iretL C hr (Nat.le_of_ble_eq_true rfl) (Nat.le_of_ble_eq_true rfl) dX7_behind_63 H
  · refine J.aload_n (i := 0) C dX7_behind_8 rfl rfl ?_
    refine J.get C (pre.length + 0) 23 mk_0 rfl (by decide) kFl_X7_69 inB_X7 rfl dX7_behind_9 ?_
    refine J.iload_n (i := 3) C dX7_behind_12 rfl rfl ?_
    refine J.caldL C (pre.length + 16) mk_16 dX7_behind_13 H (fun H => ?_)
    refine J.istoreL C dX7_behind_14 (by decide) H (fun z14 H => ?_)
    refine J.iload_n (i := 2) C dX7_behind_16 rfl rfl ?_
    refine J.iload C dX7_behind_17 rfl ?_
    refine J.bipush C (75) dX7_behind_19 (by decide) ?_
    refine J.icmp_eqL (tgt := 38) C dX7_behind_21 (by decide) H (fun c_21 H => ?_) (fun c_21 H => ?_)
    · refine J.iconst C (1) dX7_behind_38 (by decide) ?_
      refine J.goto (tgt := 54) C dX7_behind_39 (by decide) ?_
      refine J.iadd C dX7_behind_54 ?_
      refine J.istore_nL (i := 2) C dX7_behind_55 rfl (by decide) H (fun z55 H => ?_)
      refine J.iincL C (l3 + (1 : Int32)) dX7_behind_56 rfl rfl (by decide) H (fun z56 H => ?_)
      refine J.goto (tgt := 4) C dX7_behind_59 (by decide) ?_
      refine J.widen (k := 0) (n := 0) (Nat.le_of_ble_eq_true rfl) (Nat.le_of_ble_eq_true rfl) ?_
      refine J.lw (lv' := [(0, .ref (bd 0)), (2, .int z55), (3, .int z56)]) ⟨rfl, rfl, rfl, trivial⟩ ?_
      exact hk_4 _ _ _  H
    · refine J.iload C dX7_behind_24 rfl ?_
      refine J.bipush C (65) dX7_behind_26 (by decide) ?_
      refine J.icmp_eqL (tgt := 38) C dX7_behind_28 (by decide) H (fun c_28 H => ?_) (fun c_28 H => ?_)
      · refine J.iconst C (1) dX7_behind_38 (by decide) ?_
        refine J.goto (tgt := 54) C dX7_behind_39 (by decide) ?_
        refine J.iadd C dX7_behind_54 ?_
        refine J.istore_nL (i := 2) C dX7_behind_55 rfl (by decide) H (fun z55 H => ?_)
        refine J.iincL C (l3 + (1 : Int32)) dX7_behind_56 rfl rfl (by decide) H (fun z56 H => ?_)
        refine J.goto (tgt := 4) C dX7_behind_59 (by decide) ?_
        refine J.widen (k := 0) (n := 0) (Nat.le_of_ble_eq_true rfl) (Nat.le_of_ble_eq_true rfl) ?_
        refine J.lw (lv' := [(0, .ref (bd 0)), (2, .int z55), (3, .int z56)]) ⟨rfl, rfl, rfl, trivial⟩ ?_
        exact hk_4 _ _ _  H
      · refine J.iload C dX7_behind_31 rfl ?_
        refine J.bipush C (67) dX7_behind_33 (by decide) ?_
        refine J.icmp_neL (tgt := 42) C dX7_behind_35 (by decide) H (fun c_35 H => ?_) (fun c_35 H => ?_)
        · refine J.iload C dX7_behind_42 rfl ?_
          refine J.bipush C (78) dX7_behind_44 (by decide) ?_
          refine J.icmp_neL (tgt := 53) C dX7_behind_46 (by decide) H (fun c_46 H => ?_) (fun c_46 H => ?_)
          · refine J.iconst C (-1) dX7_behind_53 (by decide) ?_
            refine J.iadd C dX7_behind_54 ?_
            refine J.istore_nL (i := 2) C dX7_behind_55 rfl (by decide) H (fun z55 H => ?_)
            refine J.iincL C (l3 + (1 : Int32)) dX7_behind_56 rfl rfl (by decide) H (fun z56 H => ?_)
            refine J.goto (tgt := 4) C dX7_behind_59 (by decide) ?_
            refine J.widen (k := 0) (n := 0) (Nat.le_of_ble_eq_true rfl) (Nat.le_of_ble_eq_true rfl) ?_
            refine J.lw (lv' := [(0, .ref (bd 0)), (2, .int z55), (3, .int z56)]) ⟨rfl, rfl, rfl, trivial⟩ ?_
            exact hk_4 _ _ _  H
          · refine J.iconst C (0) dX7_behind_49 (by decide) ?_
            refine J.goto (tgt := 54) C dX7_behind_50 (by decide) ?_
            refine J.iadd C dX7_behind_54 ?_
            refine J.istore_nL (i := 2) C dX7_behind_55 rfl (by decide) H (fun z55 H => ?_)
            refine J.iincL C (l3 + (1 : Int32)) dX7_behind_56 rfl rfl (by decide) H (fun z56 H => ?_)
            refine J.goto (tgt := 4) C dX7_behind_59 (by decide) ?_
            refine J.widen (k := 0) (n := 0) (Nat.le_of_ble_eq_true rfl) (Nat.le_of_ble_eq_true rfl) ?_
            refine J.lw (lv' := [(0, .ref (bd 0)), (2, .int z55), (3, .int z56)]) ⟨rfl, rfl, rfl, trivial⟩ ?_
            exact hk_4 _ _ _  H
        · refine J.iconst C (1) dX7_behind_38 (by decide) ?_
          refine J.goto (tgt := 54) C dX7_behind_39 (by decide) ?_
          refine J.iadd C dX7_behind_54 ?_
          refine J.istore_nL (i := 2) C dX7_behind_55 rfl (by decide) H (fun z55 H => ?_)
          refine J.iincL C (l3 + (1 : Int32)) dX7_behind_56 rfl rfl (by decide) H (fun z56 H => ?_)
          refine J.goto (tgt := 4) C dX7_behind_59 (by decide) ?_
          refine J.widen (k := 0) (n := 0) (Nat.le_of_ble_eq_true rfl) (Nat.le_of_ble_eq_true rfl) ?_
          refine J.lw (lv' := [(0, .ref (bd 0)), (2, .int z55), (3, .int z56)]) ⟨rfl, rfl, rfl, trivial⟩ ?_
          exact hk_4 _ _ _  H
def L_X7_behind_4 : Nat → MS → Int32 → Int32 → Res MS Int32
  | 0, _, _, _ => none
  | n + 1, σ, l2, l3 => B_X7_behind_4 (L_X7_behind_4 n) σ l2 l3
set_option maxRecDepth 100000 in
theorem lp_X7_behind_4 {l : Launch} (hl : l.stackTraces = false) {g : Gy} {bd : Nat → Nat} {pre rst : va_W} {p : Program} {e : Env} {s : State} {m : MethodId} {args : Array Value} {below : List Frame} {meth : Method} {c : Code} {A : Nat → Prop} (C : Cx p l s m args meth c g A yX7_behind.cls cX7_behind 5) (hr : meth.sig.returnType = some .int) (hx : ∀ x ∈ c.exceptionTable.toList, False) {rr : (Int32 ⊕ String) × MS} : ∀ (n : Nat) (σ : MS) (l2 : Int32) (l3 : Int32), L_X7_behind_4 n σ l2 l3 = some rr → J p l e (rmOf 1 0 0) s m args below meth c g A 5 0 0 (QR mI g A (mkh g bd pre rst) rr below args s 0 0) 4 [(0, .ref (bd 0)), (2, .int l2), (3, .int l3)] [] ((mkh g bd pre rst) σ) := by
  intro n
  induction n with
  | zero => intro σ l2 l3 H; cases H
  | succ n ih => intro σ l2 l3 H; exact bl_X7_behind_4 hl C hr hx _ ih _ _ _ H
abbrev mX7_behind : MD := (yX7_behind, cX7_behind, 5, some .int)
theorem mdX7_behind : MDv mX7_behind RX7 1 := ⟨kIm_X7_behind, kSe_X7_behind, kIn_X7, kCo_X7_behind, by decide +kernel⟩
def P_X7_behind (σ : MS) (a1 : Int32) : Res MS Int32 := (lt (1 : Int32) fun z1 => (lt a1 fun z3 => (L_X7_behind_4 FU σ z1 z3)))
set_option maxRecDepth 100000 in
theorem sp_X7_behind {l : Launch} (hl : l.stackTraces = false) {g : Gy} {bd : Nat → Nat} {pre rst : va_W} {σ : MS} (a1 : Int32) : SpR l mX7_behind 1 0 0 mI g [.ref (bd 0), .int a1] (mkh g bd pre rst) σ (P_X7_behind σ a1) := by
  refine SpR.of hl (by decide) (Nat.le_of_ble_eq_true rfl) (fun rr H p e s m args below meth c A C hr hx => ?_)
  unfold P_X7_behind at H
  refine J.lw (lv' := [(0, .ref (bd 0)), (1, .int a1)]) ⟨rfl, rfl, trivial⟩ ?_
  refine J.iconst C (1) dX7_behind_0 (by decide) ?_
  refine J.istore_nL (i := 2) C dX7_behind_1 rfl (by decide) H (fun z1 H => ?_)
  refine J.iload_n (i := 1) C dX7_behind_2 rfl rfl ?_
  refine J.istore_nL (i := 3) C dX7_behind_3 rfl (by decide) H (fun z3 H => ?_)
  refine J.widen (k := 0) (n := 0) (Nat.le_of_ble_eq_true rfl) (Nat.le_of_ble_eq_true rfl) ?_
  refine J.lw (lv' := [(0, .ref (bd 0)), (2, .int z1), (3, .int z3)]) ⟨rfl, rfl, rfl, trivial⟩ ?_
  exact lp_X7_behind_4 hl C hr hx  FU _ _ _  H

/-! X7_inserts -/
def B_X7_inserts_5 (k_5 : MS → Int32 → Int32 → Res MS Unit) (σ : MS) (l1 : Int32) (l2 : Int32) : Res MS Unit := (if l2 ≤ l1 then (gd l1 1000 (lt (tA σ 15 (upd (σ.2.1 15) l1.toNatClampNeg (vp_nar .char (78 : Int32)))) fun s37 => (lt (tI s37 6 ((s37.1 6) + (1 : Int32))) fun s45 => (some (.inl (), s45))))) else (gd (l2 - (1 : Int32)) 1000 (gd l2 1000 (lt (tA σ 15 (upd (σ.2.1 15) l2.toNatClampNeg (vp_nar .char (σ.2.1 15 (l2 - (1 : Int32)).toNatClampNeg)))) fun s23 => (lt (l2 + (-1 : Int32)) fun z24 => (k_5 s23 l1 z24))))))
set_option maxRecDepth 100000 in
theorem bl_X7_inserts_5 {l : Launch} (hl : l.stackTraces = false) {g : Gy} {bd : Nat → Nat} {pre rst : va_W} {p : Program} {e : Env} {s : State} {m : MethodId} {args : Array Value} {below : List Frame} {meth : Method} {c : Code} {A : Nat → Prop} (C : Cx p l s m args meth c g A yX7_inserts.cls cX7_inserts 3) (hr : meth.sig.returnType = none) (hx : ∀ x ∈ c.exceptionTable.toList, False) {rr : (Unit ⊕ String) × MS} (k_5 : MS → Int32 → Int32 → Res MS Unit) (hk_5 : ∀ (σ : MS) (l1 : Int32) (l2 : Int32), k_5 σ l1 l2 = some rr → J p l e (rmOf 1 0 0) s m args below meth c g A 3 0 0 (QR mV g A (mkh g bd pre rst) rr below args s 0 0) 5 [(0, .ref (bd 0)), (1, .int l1), (2, .int l2)] [] ((mkh g bd pre rst) σ)) (σ : MS) (l1 : Int32) (l2 : Int32) (H : B_X7_inserts_5 k_5 σ l1 l2 = some rr) : J p l e (rmOf 1 0 0) s m args below meth c g A 3 0 0 (QR mV g A (mkh g bd pre rst) rr below args s 0 0) 5 [(0, .ref (bd 0)), (1, .int l1), (2, .int l2)] [] ((mkh g bd pre rst) σ) := by
  unfold B_X7_inserts_5 at H
  refine J.iload_n (i := 2) C dX7_inserts_5 rfl rfl ?_
  refine J.iload_n (i := 1) C dX7_inserts_6 rfl rfl ?_
  refine J.icmp_leL (tgt := 30) C dX7_inserts_7 (by decide) H (fun c_7 H => ?_) (fun c_7 H => ?_)
  · refine J.aload_n (i := 0) C dX7_inserts_30 rfl rfl ?_
    refine J.get C (pre.length + 0) 23 mk_0 rfl (by decide) kFl_X7_69 inB_X7 rfl dX7_inserts_31 ?_
    refine J.iload_n (i := 1) C dX7_inserts_34 rfl rfl ?_
    refine J.bipush C (78) dX7_inserts_35 (by decide) ?_
    refine J.castL (hp := (mkh g bd pre rst)) C (pre.length + 16) mk_16 dX7_inserts_37 (mkA_15 _) H (fun s37 H => ?_)
    refine J.aload_n (i := 0) C dX7_inserts_38 rfl rfl ?_
    refine J.dup C dX7_inserts_39 rfl ?_
    refine J.get C (pre.length + 0) 24 mk_0 rfl (by decide) kFl_X7_114 inB_X7 rfl dX7_inserts_40 ?_
    refine J.iconst C (1) dX7_inserts_43 (by decide) ?_
    refine J.iadd C dX7_inserts_44 ?_
    refine J.putL (hp := (mkh g bd pre rst)) C (pre.length + 0) 24 mk_0 rfl (by decide) kFl_X7_114 inB_X7 tyX7 tyX7_ok nmX7 rfl rfl rfl rfl (Nat.le_of_ble_eq_true rfl) dX7_inserts_45 (mkI_6 _) H (fun s45 H => ?_)
    exact J.vretL C hr (Nat.le_of_ble_eq_true rfl) (Nat.le_of_ble_eq_true rfl) dX7_inserts_48 H
  · refine J.aload_n (i := 0) C dX7_inserts_10 rfl rfl ?_
    refine J.get C (pre.length + 0) 23 mk_0 rfl (by decide) kFl_X7_69 inB_X7 rfl dX7_inserts_11 ?_
    refine J.iload_n (i := 2) C dX7_inserts_14 rfl rfl ?_
    refine J.aload_n (i := 0) C dX7_inserts_15 rfl rfl ?_
    refine J.get C (pre.length + 0) 23 mk_0 rfl (by decide) kFl_X7_69 inB_X7 rfl dX7_inserts_16 ?_
    refine J.iload_n (i := 2) C dX7_inserts_19 rfl rfl ?_
    refine J.iconst C (1) dX7_inserts_20 (by decide) ?_
    refine J.isub C dX7_inserts_21 ?_
    refine J.caldL C (pre.length + 16) mk_16 dX7_inserts_22 H (fun H => ?_)
    refine J.castL (hp := (mkh g bd pre rst)) C (pre.length + 16) mk_16 dX7_inserts_23 (mkA_15 _) H (fun s23 H => ?_)
    refine J.iincL C (l2 + (-1 : Int32)) dX7_inserts_24 rfl rfl (by decide) H (fun z24 H => ?_)
    refine J.goto (tgt := 5) C dX7_inserts_27 (by decide) ?_
    refine J.widen (k := 0) (n := 0) (Nat.le_of_ble_eq_true rfl) (Nat.le_of_ble_eq_true rfl) ?_
    refine J.lw (lv' := [(0, .ref (bd 0)), (1, .int l1), (2, .int z24)]) ⟨rfl, rfl, rfl, trivial⟩ ?_
    exact hk_5 _ _ _  H
def L_X7_inserts_5 : Nat → MS → Int32 → Int32 → Res MS Unit
  | 0, _, _, _ => none
  | n + 1, σ, l1, l2 => B_X7_inserts_5 (L_X7_inserts_5 n) σ l1 l2
set_option maxRecDepth 100000 in
theorem lp_X7_inserts_5 {l : Launch} (hl : l.stackTraces = false) {g : Gy} {bd : Nat → Nat} {pre rst : va_W} {p : Program} {e : Env} {s : State} {m : MethodId} {args : Array Value} {below : List Frame} {meth : Method} {c : Code} {A : Nat → Prop} (C : Cx p l s m args meth c g A yX7_inserts.cls cX7_inserts 3) (hr : meth.sig.returnType = none) (hx : ∀ x ∈ c.exceptionTable.toList, False) {rr : (Unit ⊕ String) × MS} : ∀ (n : Nat) (σ : MS) (l1 : Int32) (l2 : Int32), L_X7_inserts_5 n σ l1 l2 = some rr → J p l e (rmOf 1 0 0) s m args below meth c g A 3 0 0 (QR mV g A (mkh g bd pre rst) rr below args s 0 0) 5 [(0, .ref (bd 0)), (1, .int l1), (2, .int l2)] [] ((mkh g bd pre rst) σ) := by
  intro n
  induction n with
  | zero => intro σ l1 l2 H; cases H
  | succ n ih => intro σ l1 l2 H; exact bl_X7_inserts_5 hl C hr hx _ ih _ _ _ H
abbrev mX7_inserts : MD := (yX7_inserts, cX7_inserts, 3, none)
theorem mdX7_inserts : MDv mX7_inserts RX7 1 := ⟨kIm_X7_inserts, kSe_X7_inserts, kIn_X7, kCo_X7_inserts, by decide +kernel⟩
def P_X7_inserts (σ : MS) (a1 : Int32) : Res MS Unit := (lt (σ.1 6) fun z4 => (L_X7_inserts_5 FU σ a1 z4))
set_option maxRecDepth 100000 in
theorem sp_X7_inserts {l : Launch} (hl : l.stackTraces = false) {g : Gy} {bd : Nat → Nat} {pre rst : va_W} {σ : MS} (a1 : Int32) : SpR l mX7_inserts 1 0 0 mV g [.ref (bd 0), .int a1] (mkh g bd pre rst) σ (P_X7_inserts σ a1) := by
  refine SpR.of hl (by decide) (Nat.le_of_ble_eq_true rfl) (fun rr H p e s m args below meth c A C hr hx => ?_)
  unfold P_X7_inserts at H
  refine J.lw (lv' := [(0, .ref (bd 0)), (1, .int a1)]) ⟨rfl, rfl, trivial⟩ ?_
  refine J.aload_n (i := 0) C dX7_inserts_0 rfl rfl ?_
  refine J.get C (pre.length + 0) 24 mk_0 rfl (by decide) kFl_X7_114 inB_X7 rfl dX7_inserts_1 ?_
  refine J.istore_nL (i := 2) C dX7_inserts_4 rfl (by decide) H (fun z4 H => ?_)
  refine J.widen (k := 0) (n := 0) (Nat.le_of_ble_eq_true rfl) (Nat.le_of_ble_eq_true rfl) ?_
  refine J.lw (lv' := [(0, .ref (bd 0)), (1, .int a1), (2, .int z4)]) ⟨rfl, rfl, rfl, trivial⟩ ?_
  exact lp_X7_inserts_5 hl C hr hx  FU _ _ _  H

/-! X7_steps -/
def B_X7_steps_81 (k_81 : MS → Int32 → Res MS Int32) (σ : MS) (l3 : Int32) : Res MS Int32 := (if (σ.1 6) ≤ (l3 + (2 : Int32)) then (lt (tI σ 6 ((σ.1 6) - (2 : Int32))) fun s118 => (some (.inl (1 : Int32), s118))) else (gd (l3 + (2 : Int32)) 1000 (gd l3 1000 (lt (tA σ 15 (upd (σ.2.1 15) l3.toNatClampNeg (vp_nar .char (σ.2.1 15 (l3 + (2 : Int32)).toNatClampNeg)))) fun s104 => (lt (l3 + (1 : Int32)) fun z105 => (k_81 s104 z105))))))
set_option maxRecDepth 100000 in
theorem bl_X7_steps_81 {l : Launch} (hl : l.stackTraces = false) {g : Gy} {bd : Nat → Nat} {pre rst : va_W} {p : Program} {e : Env} {s : State} {m : MethodId} {args : Array Value} {below : List Frame} {meth : Method} {c : Code} {A : Nat → Prop} (C : Cx p l s m args meth c g A yX7_steps.cls cX7_steps 4) (hr : meth.sig.returnType = some .boolean) (hx : ∀ x ∈ c.exceptionTable.toList, False) {rr : (Int32 ⊕ String) × MS} (k_81 : MS → Int32 → Res MS Int32) (hk_81 : ∀ (σ : MS) (l3 : Int32), k_81 σ l3 = some rr → J p l e (rmOf 2 0 0) s m args below meth c g A 4 0 0 (QR mI g A (mkh g bd pre rst) rr below args s 0 0) 81 [(0, .ref (bd 0)), (3, .int l3)] [] ((mkh g bd pre rst) σ)) (σ : MS) (l3 : Int32) (H : B_X7_steps_81 k_81 σ l3 = some rr) : J p l e (rmOf 2 0 0) s m args below meth c g A 4 0 0 (QR mI g A (mkh g bd pre rst) rr below args s 0 0) 81 [(0, .ref (bd 0)), (3, .int l3)] [] ((mkh g bd pre rst) σ) := by
  unfold B_X7_steps_81 at H
  refine J.iload_n (i := 3) C dX7_steps_81 rfl rfl ?_
  refine J.iconst C (2) dX7_steps_82 (by decide) ?_
  refine J.iadd C dX7_steps_83 ?_
  refine J.aload_n (i := 0) C dX7_steps_84 rfl rfl ?_
  refine J.get C (pre.length + 0) 24 mk_0 rfl (by decide) kFl_X7_114 inB_X7 rfl dX7_steps_85 ?_
  refine J.icmp_geL (tgt := 111) C dX7_steps_88 (by decide) H (fun c_88 H => ?_) (fun c_88 H => ?_)
  · refine J.aload_n (i := 0) C dX7_steps_111 rfl rfl ?_
    refine J.dup C dX7_steps_112 rfl ?_
    refine J.get C (pre.length + 0) 24 mk_0 rfl (by decide) kFl_X7_114 inB_X7 rfl dX7_steps_113 ?_
    refine J.iconst C (2) dX7_steps_116 (by decide) ?_
    refine J.isub C dX7_steps_117 ?_
    refine J.putL (hp := (mkh g bd pre rst)) C (pre.length + 0) 24 mk_0 rfl (by decide) kFl_X7_114 inB_X7 tyX7 tyX7_ok nmX7 rfl rfl rfl rfl (Nat.le_of_ble_eq_true rfl) dX7_steps_118 (mkI_6 _) H (fun s118 H => ?_)
    refine J.iconst C (1) dX7_steps_121 (by decide) ?_
    exact J.zretL C hr rfl (Nat.le_of_ble_eq_true rfl) (Nat.le_of_ble_eq_true rfl) dX7_steps_122 H
  · refine J.aload_n (i := 0) C dX7_steps_91 rfl rfl ?_
    refine J.get C (pre.length + 0) 23 mk_0 rfl (by decide) kFl_X7_69 inB_X7 rfl dX7_steps_92 ?_
    refine J.iload_n (i := 3) C dX7_steps_95 rfl rfl ?_
    refine J.aload_n (i := 0) C dX7_steps_96 rfl rfl ?_
    refine J.get C (pre.length + 0) 23 mk_0 rfl (by decide) kFl_X7_69 inB_X7 rfl dX7_steps_97 ?_
    refine J.iload_n (i := 3) C dX7_steps_100 rfl rfl ?_
    refine J.iconst C (2) dX7_steps_101 (by decide) ?_
    refine J.iadd C dX7_steps_102 ?_
    refine J.caldL C (pre.length + 16) mk_16 dX7_steps_103 H (fun H => ?_)
    refine J.castL (hp := (mkh g bd pre rst)) C (pre.length + 16) mk_16 dX7_steps_104 (mkA_15 _) H (fun s104 H => ?_)
    refine J.iincL C (l3 + (1 : Int32)) dX7_steps_105 rfl rfl (by decide) H (fun z105 H => ?_)
    refine J.goto (tgt := 81) C dX7_steps_108 (by decide) ?_
    refine J.widen (k := 0) (n := 0) (Nat.le_of_ble_eq_true rfl) (Nat.le_of_ble_eq_true rfl) ?_
    refine J.lw (lv' := [(0, .ref (bd 0)), (3, .int z105)]) ⟨rfl, rfl, trivial⟩ ?_
    exact hk_81 _ _  H
def L_X7_steps_81 : Nat → MS → Int32 → Res MS Int32
  | 0, _, _ => none
  | n + 1, σ, l3 => B_X7_steps_81 (L_X7_steps_81 n) σ l3
set_option maxRecDepth 100000 in
theorem lp_X7_steps_81 {l : Launch} (hl : l.stackTraces = false) {g : Gy} {bd : Nat → Nat} {pre rst : va_W} {p : Program} {e : Env} {s : State} {m : MethodId} {args : Array Value} {below : List Frame} {meth : Method} {c : Code} {A : Nat → Prop} (C : Cx p l s m args meth c g A yX7_steps.cls cX7_steps 4) (hr : meth.sig.returnType = some .boolean) (hx : ∀ x ∈ c.exceptionTable.toList, False) {rr : (Int32 ⊕ String) × MS} : ∀ (n : Nat) (σ : MS) (l3 : Int32), L_X7_steps_81 n σ l3 = some rr → J p l e (rmOf 2 0 0) s m args below meth c g A 4 0 0 (QR mI g A (mkh g bd pre rst) rr below args s 0 0) 81 [(0, .ref (bd 0)), (3, .int l3)] [] ((mkh g bd pre rst) σ) := by
  intro n
  induction n with
  | zero => intro σ l3 H; cases H
  | succ n ih => intro σ l3 H; exact bl_X7_steps_81 hl C hr hx _ ih _ _ H
def B_X7_steps_164 (σ : MS) (l1 : Int32) (t0 : Int32) (t1 : Int32) : Res MS Int32 := (gd t1 1000 (lt (tA σ 15 (upd (σ.2.1 15) t1.toNatClampNeg (vp_nar .char t0))) fun s164 => (gd (l1 + (1 : Int32)) 1000 (lt (tA s164 15 (upd (s164.2.1 15) (l1 + (1 : Int32)).toNatClampNeg (vp_nar .char (78 : Int32)))) fun s174 => (bd (P_X7_behind s174 (l1 + (2 : Int32))) fun r180 s180 => (bd (P_X7_inserts s180 r180) fun _ s183 => (some (.inl (1 : Int32), s183))))))))
set_option maxRecDepth 100000 in
theorem bl_X7_steps_164 {l : Launch} (hl : l.stackTraces = false) {g : Gy} {bd : Nat → Nat} {pre rst : va_W} {p : Program} {e : Env} {s : State} {m : MethodId} {args : Array Value} {below : List Frame} {meth : Method} {c : Code} {A : Nat → Prop} (C : Cx p l s m args meth c g A yX7_steps.cls cX7_steps 4) (hr : meth.sig.returnType = some .boolean) (hx : ∀ x ∈ c.exceptionTable.toList, False) {rr : (Int32 ⊕ String) × MS} (σ : MS) (l1 : Int32) (t0 : Int32) (t1 : Int32) (H : B_X7_steps_164 σ l1 t0 t1 = some rr) : J p l e (rmOf 2 0 0) s m args below meth c g A 4 0 0 (QR mI g A (mkh g bd pre rst) rr below args s 0 0) 164 [(0, .ref (bd 0)), (1, .int l1)] [.int t0, .int t1, .ref (bd 16)] ((mkh g bd pre rst) σ) := by
  unfold B_X7_steps_164 at H
  refine J.castL (hp := (mkh g bd pre rst)) C (pre.length + 16) mk_16 dX7_steps_164 (mkA_15 _) H (fun s164 H => ?_)
  refine J.aload_n (i := 0) C dX7_steps_165 rfl rfl ?_
  refine J.get C (pre.length + 0) 23 mk_0 rfl (by decide) kFl_X7_69 inB_X7 rfl dX7_steps_166 ?_
  refine J.iload_n (i := 1) C dX7_steps_169 rfl rfl ?_
  refine J.iconst C (1) dX7_steps_170 (by decide) ?_
  refine J.iadd C dX7_steps_171 ?_
  refine J.bipush C (78) dX7_steps_172 (by decide) ?_
  refine J.castL (hp := (mkh g bd pre rst)) C (pre.length + 16) mk_16 dX7_steps_174 (mkA_15 _) H (fun s174 H => ?_)
  refine J.aload_n (i := 0) C dX7_steps_175 rfl rfl ?_
  refine J.aload_n (i := 0) C dX7_steps_176 rfl rfl ?_
  refine J.iload_n (i := 1) C dX7_steps_177 rfl rfl ?_
  refine J.iconst C (2) dX7_steps_178 (by decide) ?_
  refine J.iadd C dX7_steps_179 ?_
  refine J.callVBI (hp := (mkh g bd pre rst)) C rfl (sp_X7_behind hl _) rfl kMl_X7_223 mdX7_behind ⟨(Nat.le_of_ble_eq_true rfl), (Nat.le_of_ble_eq_true rfl)⟩ mk_0 rfl rfl (Nat.le_of_ble_eq_true rfl) dX7_steps_180 ⟨(Nat.le_of_ble_eq_true rfl), (Nat.le_of_ble_eq_true rfl)⟩ hx (Nat.le_of_ble_eq_true rfl) (Nat.le_of_ble_eq_true rfl) H (fun r180 s180 H => ?_)
  refine J.callVBV (hp := (mkh g bd pre rst)) C rfl (sp_X7_inserts hl _) rfl kMl_X7_220 mdX7_inserts ⟨(Nat.le_of_ble_eq_true rfl), (Nat.le_of_ble_eq_true rfl)⟩ mk_0 rfl rfl (Nat.le_of_ble_eq_true rfl) dX7_steps_183 ⟨(Nat.le_of_ble_eq_true rfl), (Nat.le_of_ble_eq_true rfl)⟩ hx (Nat.le_of_ble_eq_true rfl) (Nat.le_of_ble_eq_true rfl) H (fun _ s183 H => ?_)
  refine J.iconst C (1) dX7_steps_186 (by decide) ?_
  exact J.zretL C hr rfl (Nat.le_of_ble_eq_true rfl) (Nat.le_of_ble_eq_true rfl) dX7_steps_187 H
def B_X7_steps_146 (σ : MS) (l1 : Int32) (l2 : Int32) : Res MS Int32 := (if l2 = (75 : Int32) then (B_X7_steps_164 σ l1 (65 : Int32) l1) else (B_X7_steps_164 σ l1 (75 : Int32) l1))
set_option maxRecDepth 100000 in
theorem bl_X7_steps_146 {l : Launch} (hl : l.stackTraces = false) {g : Gy} {bd : Nat → Nat} {pre rst : va_W} {p : Program} {e : Env} {s : State} {m : MethodId} {args : Array Value} {below : List Frame} {meth : Method} {c : Code} {A : Nat → Prop} (C : Cx p l s m args meth c g A yX7_steps.cls cX7_steps 4) (hr : meth.sig.returnType = some .boolean) (hx : ∀ x ∈ c.exceptionTable.toList, False) {rr : (Int32 ⊕ String) × MS} (σ : MS) (l1 : Int32) (l2 : Int32) (H : B_X7_steps_146 σ l1 l2 = some rr) : J p l e (rmOf 2 0 0) s m args below meth c g A 4 0 0 (QR mI g A (mkh g bd pre rst) rr below args s 0 0) 146 [(0, .ref (bd 0)), (1, .int l1), (2, .int l2)] [] ((mkh g bd pre rst) σ) := by
  unfold B_X7_steps_146 at H
  refine J.aload_n (i := 0) C dX7_steps_146 rfl rfl ?_
  refine J.get C (pre.length + 0) 23 mk_0 rfl (by decide) kFl_X7_69 inB_X7 rfl dX7_steps_147 ?_
  refine J.iload_n (i := 1) C dX7_steps_150 rfl rfl ?_
  refine J.iload_n (i := 2) C dX7_steps_151 rfl rfl ?_
  refine J.bipush C (75) dX7_steps_152 (by decide) ?_
  refine J.icmp_neL (tgt := 162) C dX7_steps_154 (by decide) H (fun c_154 H => ?_) (fun c_154 H => ?_)
  · refine J.bipush C (75) dX7_steps_162 (by decide) ?_
    refine J.widen (k := 0) (n := 0) (Nat.le_of_ble_eq_true rfl) (Nat.le_of_ble_eq_true rfl) ?_
    refine J.lw (lv' := [(0, .ref (bd 0)), (1, .int l1)]) ⟨rfl, rfl, trivial⟩ ?_
    exact bl_X7_steps_164 hl C hr hx  _ _ _ _  H
  · refine J.bipush C (65) dX7_steps_157 (by decide) ?_
    refine J.goto (tgt := 164) C dX7_steps_159 (by decide) ?_
    refine J.widen (k := 0) (n := 0) (Nat.le_of_ble_eq_true rfl) (Nat.le_of_ble_eq_true rfl) ?_
    refine J.lw (lv' := [(0, .ref (bd 0)), (1, .int l1)]) ⟨rfl, rfl, trivial⟩ ?_
    exact bl_X7_steps_164 hl C hr hx  _ _ _ _  H
def B_X7_steps_123 (k_2 : MS → Int32 → Res MS Int32) (σ : MS) (l1 : Int32) (l2 : Int32) : Res MS Int32 := (gd l1 1000 (if (σ.2.1 15 l1.toNatClampNeg) = (78 : Int32) then (if l2 = (75 : Int32) then (B_X7_steps_146 σ l1 l2) else (if l2 = (65 : Int32) then (B_X7_steps_146 σ l1 l2) else (lt (l1 + (1 : Int32)) fun z188 => (k_2 σ z188)))) else (lt (l1 + (1 : Int32)) fun z188 => (k_2 σ z188))))
set_option maxRecDepth 100000 in
theorem bl_X7_steps_123 {l : Launch} (hl : l.stackTraces = false) {g : Gy} {bd : Nat → Nat} {pre rst : va_W} {p : Program} {e : Env} {s : State} {m : MethodId} {args : Array Value} {below : List Frame} {meth : Method} {c : Code} {A : Nat → Prop} (C : Cx p l s m args meth c g A yX7_steps.cls cX7_steps 4) (hr : meth.sig.returnType = some .boolean) (hx : ∀ x ∈ c.exceptionTable.toList, False) {rr : (Int32 ⊕ String) × MS} (k_2 : MS → Int32 → Res MS Int32) (hk_2 : ∀ (σ : MS) (l1 : Int32), k_2 σ l1 = some rr → J p l e (rmOf 2 0 0) s m args below meth c g A 4 0 0 (QR mI g A (mkh g bd pre rst) rr below args s 0 0) 2 [(0, .ref (bd 0)), (1, .int l1)] [] ((mkh g bd pre rst) σ)) (σ : MS) (l1 : Int32) (l2 : Int32) (H : B_X7_steps_123 k_2 σ l1 l2 = some rr) : J p l e (rmOf 2 0 0) s m args below meth c g A 4 0 0 (QR mI g A (mkh g bd pre rst) rr below args s 0 0) 123 [(0, .ref (bd 0)), (1, .int l1), (2, .int l2)] [] ((mkh g bd pre rst) σ) := by
  unfold B_X7_steps_123 at H
  refine J.aload_n (i := 0) C dX7_steps_123 rfl rfl ?_
  refine J.get C (pre.length + 0) 23 mk_0 rfl (by decide) kFl_X7_69 inB_X7 rfl dX7_steps_124 ?_
  refine J.iload_n (i := 1) C dX7_steps_127 rfl rfl ?_
  refine J.caldL C (pre.length + 16) mk_16 dX7_steps_128 H (fun H => ?_)
  refine J.bipush C (78) dX7_steps_129 (by decide) ?_
  refine J.icmp_neL (tgt := 188) C dX7_steps_131 (by decide) H (fun c_131 H => ?_) (fun c_131 H => ?_)
  · refine J.iincL C (l1 + (1 : Int32)) dX7_steps_188 rfl rfl (by decide) H (fun z188 H => ?_)
    refine J.goto (tgt := 2) C dX7_steps_191 (by decide) ?_
    refine J.widen (k := 0) (n := 0) (Nat.le_of_ble_eq_true rfl) (Nat.le_of_ble_eq_true rfl) ?_
    refine J.lw (lv' := [(0, .ref (bd 0)), (1, .int z188)]) ⟨rfl, rfl, trivial⟩ ?_
    exact hk_2 _ _  H
  · refine J.iload_n (i := 2) C dX7_steps_134 rfl rfl ?_
    refine J.bipush C (75) dX7_steps_135 (by decide) ?_
    refine J.icmp_eqL (tgt := 146) C dX7_steps_137 (by decide) H (fun c_137 H => ?_) (fun c_137 H => ?_)
    · refine J.widen (k := 0) (n := 0) (Nat.le_of_ble_eq_true rfl) (Nat.le_of_ble_eq_true rfl) ?_
      refine J.lw (lv' := [(0, .ref (bd 0)), (1, .int l1), (2, .int l2)]) ⟨rfl, rfl, rfl, trivial⟩ ?_
      exact bl_X7_steps_146 hl C hr hx  _ _ _  H
    · refine J.iload_n (i := 2) C dX7_steps_140 rfl rfl ?_
      refine J.bipush C (65) dX7_steps_141 (by decide) ?_
      refine J.icmp_neL (tgt := 188) C dX7_steps_143 (by decide) H (fun c_143 H => ?_) (fun c_143 H => ?_)
      · refine J.iincL C (l1 + (1 : Int32)) dX7_steps_188 rfl rfl (by decide) H (fun z188 H => ?_)
        refine J.goto (tgt := 2) C dX7_steps_191 (by decide) ?_
        refine J.widen (k := 0) (n := 0) (Nat.le_of_ble_eq_true rfl) (Nat.le_of_ble_eq_true rfl) ?_
        refine J.lw (lv' := [(0, .ref (bd 0)), (1, .int z188)]) ⟨rfl, rfl, trivial⟩ ?_
        exact hk_2 _ _  H
      · refine J.widen (k := 0) (n := 0) (Nat.le_of_ble_eq_true rfl) (Nat.le_of_ble_eq_true rfl) ?_
        refine J.lw (lv' := [(0, .ref (bd 0)), (1, .int l1), (2, .int l2)]) ⟨rfl, rfl, rfl, trivial⟩ ?_
        exact bl_X7_steps_146 hl C hr hx  _ _ _  H
def B_X7_steps_33 (k_2 : MS → Int32 → Res MS Int32) (σ : MS) (l1 : Int32) (t0 : Int32) : Res MS Int32 := (lt t0 fun z33 => (gd l1 1000 (if (σ.2.1 15 l1.toNatClampNeg) = (67 : Int32) then (gd l1 1000 (lt (tA σ 15 (upd (σ.2.1 15) l1.toNatClampNeg (vp_nar .char (65 : Int32)))) fun s52 => (bd (P_X7_inserts s52 (l1 + (1 : Int32))) fun _ s57 => (some (.inl (1 : Int32), s57))))) else (gd l1 1000 (if (σ.2.1 15 l1.toNatClampNeg) = (78 : Int32) then (if z33 = (78 : Int32) then (lt l1 fun z80 => (L_X7_steps_81 FU σ z80)) else (B_X7_steps_123 k_2 σ l1 z33)) else (B_X7_steps_123 k_2 σ l1 z33))))))
set_option maxRecDepth 100000 in
theorem bl_X7_steps_33 {l : Launch} (hl : l.stackTraces = false) {g : Gy} {bd : Nat → Nat} {pre rst : va_W} {p : Program} {e : Env} {s : State} {m : MethodId} {args : Array Value} {below : List Frame} {meth : Method} {c : Code} {A : Nat → Prop} (C : Cx p l s m args meth c g A yX7_steps.cls cX7_steps 4) (hr : meth.sig.returnType = some .boolean) (hx : ∀ x ∈ c.exceptionTable.toList, False) {rr : (Int32 ⊕ String) × MS} (k_2 : MS → Int32 → Res MS Int32) (hk_2 : ∀ (σ : MS) (l1 : Int32), k_2 σ l1 = some rr → J p l e (rmOf 2 0 0) s m args below meth c g A 4 0 0 (QR mI g A (mkh g bd pre rst) rr below args s 0 0) 2 [(0, .ref (bd 0)), (1, .int l1)] [] ((mkh g bd pre rst) σ)) (σ : MS) (l1 : Int32) (t0 : Int32) (H : B_X7_steps_33 k_2 σ l1 t0 = some rr) : J p l e (rmOf 2 0 0) s m args below meth c g A 4 0 0 (QR mI g A (mkh g bd pre rst) rr below args s 0 0) 33 [(0, .ref (bd 0)), (1, .int l1)] [.int t0] ((mkh g bd pre rst) σ) := by
  unfold B_X7_steps_33 at H
  refine J.istore_nL (i := 2) C dX7_steps_33 rfl (by decide) H (fun z33 H => ?_)
  refine J.aload_n (i := 0) C dX7_steps_34 rfl rfl ?_
  refine J.get C (pre.length + 0) 23 mk_0 rfl (by decide) kFl_X7_69 inB_X7 rfl dX7_steps_35 ?_
  refine J.iload_n (i := 1) C dX7_steps_38 rfl rfl ?_
  refine J.caldL C (pre.length + 16) mk_16 dX7_steps_39 H (fun H => ?_)
  refine J.bipush C (67) dX7_steps_40 (by decide) ?_
  refine J.icmp_neL (tgt := 62) C dX7_steps_42 (by decide) H (fun c_42 H => ?_) (fun c_42 H => ?_)
  · refine J.aload_n (i := 0) C dX7_steps_62 rfl rfl ?_
    refine J.get C (pre.length + 0) 23 mk_0 rfl (by decide) kFl_X7_69 inB_X7 rfl dX7_steps_63 ?_
    refine J.iload_n (i := 1) C dX7_steps_66 rfl rfl ?_
    refine J.caldL C (pre.length + 16) mk_16 dX7_steps_67 H (fun H => ?_)
    refine J.bipush C (78) dX7_steps_68 (by decide) ?_
    refine J.icmp_neL (tgt := 123) C dX7_steps_70 (by decide) H (fun c_70 H => ?_) (fun c_70 H => ?_)
    · refine J.widen (k := 0) (n := 0) (Nat.le_of_ble_eq_true rfl) (Nat.le_of_ble_eq_true rfl) ?_
      refine J.lw (lv' := [(0, .ref (bd 0)), (1, .int l1), (2, .int z33)]) ⟨rfl, rfl, rfl, trivial⟩ ?_
      exact bl_X7_steps_123 hl C hr hx k_2 hk_2 _ _ _  H
    · refine J.iload_n (i := 2) C dX7_steps_73 rfl rfl ?_
      refine J.bipush C (78) dX7_steps_74 (by decide) ?_
      refine J.icmp_neL (tgt := 123) C dX7_steps_76 (by decide) H (fun c_76 H => ?_) (fun c_76 H => ?_)
      · refine J.widen (k := 0) (n := 0) (Nat.le_of_ble_eq_true rfl) (Nat.le_of_ble_eq_true rfl) ?_
        refine J.lw (lv' := [(0, .ref (bd 0)), (1, .int l1), (2, .int z33)]) ⟨rfl, rfl, rfl, trivial⟩ ?_
        exact bl_X7_steps_123 hl C hr hx k_2 hk_2 _ _ _  H
      · refine J.iload_n (i := 1) C dX7_steps_79 rfl rfl ?_
        refine J.istore_nL (i := 3) C dX7_steps_80 rfl (by decide) H (fun z80 H => ?_)
        refine J.widen (k := 0) (n := 0) (Nat.le_of_ble_eq_true rfl) (Nat.le_of_ble_eq_true rfl) ?_
        refine J.lw (lv' := [(0, .ref (bd 0)), (3, .int z80)]) ⟨rfl, rfl, trivial⟩ ?_
        exact lp_X7_steps_81 hl C hr hx  FU _ _  H
  · refine J.aload_n (i := 0) C dX7_steps_45 rfl rfl ?_
    refine J.get C (pre.length + 0) 23 mk_0 rfl (by decide) kFl_X7_69 inB_X7 rfl dX7_steps_46 ?_
    refine J.iload_n (i := 1) C dX7_steps_49 rfl rfl ?_
    refine J.bipush C (65) dX7_steps_50 (by decide) ?_
    refine J.castL (hp := (mkh g bd pre rst)) C (pre.length + 16) mk_16 dX7_steps_52 (mkA_15 _) H (fun s52 H => ?_)
    refine J.aload_n (i := 0) C dX7_steps_53 rfl rfl ?_
    refine J.iload_n (i := 1) C dX7_steps_54 rfl rfl ?_
    refine J.iconst C (1) dX7_steps_55 (by decide) ?_
    refine J.iadd C dX7_steps_56 ?_
    refine J.callVBV (hp := (mkh g bd pre rst)) C rfl (sp_X7_inserts hl _) rfl kMl_X7_220 mdX7_inserts ⟨(Nat.le_of_ble_eq_true rfl), (Nat.le_of_ble_eq_true rfl)⟩ mk_0 rfl rfl (Nat.le_of_ble_eq_true rfl) dX7_steps_57 ⟨(Nat.le_of_ble_eq_true rfl), (Nat.le_of_ble_eq_true rfl)⟩ hx (Nat.le_of_ble_eq_true rfl) (Nat.le_of_ble_eq_true rfl) H (fun _ s57 H => ?_)
    refine J.iconst C (1) dX7_steps_60 (by decide) ?_
    exact J.zretL C hr rfl (Nat.le_of_ble_eq_true rfl) (Nat.le_of_ble_eq_true rfl) dX7_steps_61 H
def B_X7_steps_2 (k_2 : MS → Int32 → Res MS Int32) (σ : MS) (l1 : Int32) : Res MS Int32 := (if (σ.1 6) ≤ l1 then (some (.inl (0 : Int32), σ)) else (if (σ.1 6) ≤ (l1 + (1 : Int32)) then (B_X7_steps_33 k_2 σ l1 (32 : Int32)) else (gd (l1 + (1 : Int32)) 1000 (B_X7_steps_33 k_2 σ l1 (σ.2.1 15 (l1 + (1 : Int32)).toNatClampNeg)))))
set_option maxRecDepth 100000 in
theorem bl_X7_steps_2 {l : Launch} (hl : l.stackTraces = false) {g : Gy} {bd : Nat → Nat} {pre rst : va_W} {p : Program} {e : Env} {s : State} {m : MethodId} {args : Array Value} {below : List Frame} {meth : Method} {c : Code} {A : Nat → Prop} (C : Cx p l s m args meth c g A yX7_steps.cls cX7_steps 4) (hr : meth.sig.returnType = some .boolean) (hx : ∀ x ∈ c.exceptionTable.toList, False) {rr : (Int32 ⊕ String) × MS} (k_2 : MS → Int32 → Res MS Int32) (hk_2 : ∀ (σ : MS) (l1 : Int32), k_2 σ l1 = some rr → J p l e (rmOf 2 0 0) s m args below meth c g A 4 0 0 (QR mI g A (mkh g bd pre rst) rr below args s 0 0) 2 [(0, .ref (bd 0)), (1, .int l1)] [] ((mkh g bd pre rst) σ)) (σ : MS) (l1 : Int32) (H : B_X7_steps_2 k_2 σ l1 = some rr) : J p l e (rmOf 2 0 0) s m args below meth c g A 4 0 0 (QR mI g A (mkh g bd pre rst) rr below args s 0 0) 2 [(0, .ref (bd 0)), (1, .int l1)] [] ((mkh g bd pre rst) σ) := by
  unfold B_X7_steps_2 at H
  refine J.iload_n (i := 1) C dX7_steps_2 rfl rfl ?_
  refine J.aload_n (i := 0) C dX7_steps_3 rfl rfl ?_
  refine J.get C (pre.length + 0) 24 mk_0 rfl (by decide) kFl_X7_114 inB_X7 rfl dX7_steps_4 ?_
  refine J.icmp_geL (tgt := 194) C dX7_steps_7 (by decide) H (fun c_7 H => ?_) (fun c_7 H => ?_)
  · refine J.iconst C (0) dX7_steps_194 (by decide) ?_
    exact J.zretL C hr rfl (Nat.le_of_ble_eq_true rfl) (Nat.le_of_ble_eq_true rfl) dX7_steps_195 H
  · refine J.iload_n (i := 1) C dX7_steps_10 rfl rfl ?_
    refine J.iconst C (1) dX7_steps_11 (by decide) ?_
    refine J.iadd C dX7_steps_12 ?_
    refine J.aload_n (i := 0) C dX7_steps_13 rfl rfl ?_
    refine J.get C (pre.length + 0) 24 mk_0 rfl (by decide) kFl_X7_114 inB_X7 rfl dX7_steps_14 ?_
    refine J.icmp_geL (tgt := 31) C dX7_steps_17 (by decide) H (fun c_17 H => ?_) (fun c_17 H => ?_)
    · refine J.bipush C (32) dX7_steps_31 (by decide) ?_
      refine J.widen (k := 0) (n := 0) (Nat.le_of_ble_eq_true rfl) (Nat.le_of_ble_eq_true rfl) ?_
      refine J.lw (lv' := [(0, .ref (bd 0)), (1, .int l1)]) ⟨rfl, rfl, trivial⟩ ?_
      exact bl_X7_steps_33 hl C hr hx k_2 hk_2 _ _ _  H
    · refine J.aload_n (i := 0) C dX7_steps_20 rfl rfl ?_
      refine J.get C (pre.length + 0) 23 mk_0 rfl (by decide) kFl_X7_69 inB_X7 rfl dX7_steps_21 ?_
      refine J.iload_n (i := 1) C dX7_steps_24 rfl rfl ?_
      refine J.iconst C (1) dX7_steps_25 (by decide) ?_
      refine J.iadd C dX7_steps_26 ?_
      refine J.caldL C (pre.length + 16) mk_16 dX7_steps_27 H (fun H => ?_)
      refine J.goto (tgt := 33) C dX7_steps_28 (by decide) ?_
      refine J.widen (k := 0) (n := 0) (Nat.le_of_ble_eq_true rfl) (Nat.le_of_ble_eq_true rfl) ?_
      refine J.lw (lv' := [(0, .ref (bd 0)), (1, .int l1)]) ⟨rfl, rfl, trivial⟩ ?_
      exact bl_X7_steps_33 hl C hr hx k_2 hk_2 _ _ _  H
def L_X7_steps_2 : Nat → MS → Int32 → Res MS Int32
  | 0, _, _ => none
  | n + 1, σ, l1 => B_X7_steps_2 (L_X7_steps_2 n) σ l1
set_option maxRecDepth 100000 in
theorem lp_X7_steps_2 {l : Launch} (hl : l.stackTraces = false) {g : Gy} {bd : Nat → Nat} {pre rst : va_W} {p : Program} {e : Env} {s : State} {m : MethodId} {args : Array Value} {below : List Frame} {meth : Method} {c : Code} {A : Nat → Prop} (C : Cx p l s m args meth c g A yX7_steps.cls cX7_steps 4) (hr : meth.sig.returnType = some .boolean) (hx : ∀ x ∈ c.exceptionTable.toList, False) {rr : (Int32 ⊕ String) × MS} : ∀ (n : Nat) (σ : MS) (l1 : Int32), L_X7_steps_2 n σ l1 = some rr → J p l e (rmOf 2 0 0) s m args below meth c g A 4 0 0 (QR mI g A (mkh g bd pre rst) rr below args s 0 0) 2 [(0, .ref (bd 0)), (1, .int l1)] [] ((mkh g bd pre rst) σ) := by
  intro n
  induction n with
  | zero => intro σ l1 H; cases H
  | succ n ih => intro σ l1 H; exact bl_X7_steps_2 hl C hr hx _ ih _ _ H
abbrev mX7_steps : MD := (yX7_steps, cX7_steps, 4, some .boolean)
theorem mdX7_steps : MDv mX7_steps RX7 0 := ⟨kIm_X7_steps, kSe_X7_steps, kIn_X7, kCo_X7_steps, by decide +kernel⟩
def P_X7_steps (σ : MS)  : Res MS Int32 := (lt (0 : Int32) fun z1 => (L_X7_steps_2 FU σ z1))
set_option maxRecDepth 100000 in
theorem sp_X7_steps {l : Launch} (hl : l.stackTraces = false) {g : Gy} {bd : Nat → Nat} {pre rst : va_W} {σ : MS}  : SpR l mX7_steps 2 0 0 mI g [.ref (bd 0)] (mkh g bd pre rst) σ (P_X7_steps σ ) := by
  refine SpR.of hl (by decide) (Nat.le_of_ble_eq_true rfl) (fun rr H p e s m args below meth c A C hr hx => ?_)
  unfold P_X7_steps at H
  refine J.lw (lv' := [(0, .ref (bd 0))]) ⟨rfl, trivial⟩ ?_
  refine J.iconst C (0) dX7_steps_0 (by decide) ?_
  refine J.istore_nL (i := 1) C dX7_steps_1 rfl (by decide) H (fun z1 H => ?_)
  refine J.widen (k := 0) (n := 0) (Nat.le_of_ble_eq_true rfl) (Nat.le_of_ble_eq_true rfl) ?_
  refine J.lw (lv' := [(0, .ref (bd 0)), (1, .int z1)]) ⟨rfl, rfl, trivial⟩ ?_
  exact lp_X7_steps_2 hl C hr hx  FU _ _  H

/-! X7_begins -/
abbrev mX7_begins : MD := (yX7_begins, cX7_begins, 2, some .boolean)
theorem mdX7_begins : MDv mX7_begins RX7 1 := ⟨kIm_X7_begins, kSe_X7_begins, kIn_X7, kCo_X7_begins, by decide +kernel⟩
def P_X7_begins (σ : MS) (a1 : Int32) : Res MS Int32 := (bd (P_X7_lacks σ a1) fun r2 s2 => (if r2 = 0 then (lt (tI s2 6 (0 : Int32)) fun s12 => (bd (P_X7_writes 40 s12 a1) fun _ s17 => (some (.inl (1 : Int32), s17)))) else (some (.inl (0 : Int32), s2))))
set_option maxRecDepth 100000 in
theorem sp_X7_begins {l : Launch} (hl : l.stackTraces = false) {g : Gy} {bd : Nat → Nat} {pre rst : va_W} {σ : MS} (a1 : Int32) : SpR l mX7_begins 42 0 0 mI g [.ref (bd 0), .int a1] (mkh g bd pre rst) σ (P_X7_begins σ a1) := by
  refine SpR.of hl (by decide) (Nat.le_of_ble_eq_true rfl) (fun rr H p e s m args below meth c A C hr hx => ?_)
  unfold P_X7_begins at H
  refine J.lw (lv' := [(0, .ref (bd 0)), (1, .int a1)]) ⟨rfl, rfl, trivial⟩ ?_
  refine J.aload_n (i := 0) C dX7_begins_0 rfl rfl ?_
  refine J.iload_n (i := 1) C dX7_begins_1 rfl rfl ?_
  refine J.callVBI (hp := (mkh g bd pre rst)) C rfl (sp_X7_lacks hl _) rfl kMl_X7_142 mdX7_lacks ⟨(Nat.le_of_ble_eq_true rfl), (Nat.le_of_ble_eq_true rfl)⟩ mk_0 rfl rfl (Nat.le_of_ble_eq_true rfl) dX7_begins_2 ⟨(Nat.le_of_ble_eq_true rfl), (Nat.le_of_ble_eq_true rfl)⟩ hx (Nat.le_of_ble_eq_true rfl) (Nat.le_of_ble_eq_true rfl) H (fun r2 s2 H => ?_)
  refine J.if_eqL (tgt := 10) C dX7_begins_5 (by decide) H (fun c_5 H => ?_) (fun c_5 H => ?_)
  · refine J.aload_n (i := 0) C dX7_begins_10 rfl rfl ?_
    refine J.iconst C (0) dX7_begins_11 (by decide) ?_
    refine J.putL (hp := (mkh g bd pre rst)) C (pre.length + 0) 24 mk_0 rfl (by decide) kFl_X7_114 inB_X7 tyX7 tyX7_ok nmX7 rfl rfl rfl rfl (Nat.le_of_ble_eq_true rfl) dX7_begins_12 (mkI_6 _) H (fun s12 H => ?_)
    refine J.aload_n (i := 0) C dX7_begins_15 rfl rfl ?_
    refine J.iload_n (i := 1) C dX7_begins_16 rfl rfl ?_
    refine J.callVBV (hp := (mkh g bd pre rst)) C rfl (sp_X7_writes hl 40 _ _) rfl kMl_X7_117 mdX7_writes ⟨(Nat.le_of_ble_eq_true rfl), (Nat.le_of_ble_eq_true rfl)⟩ mk_0 rfl rfl (Nat.le_of_ble_eq_true rfl) dX7_begins_17 ⟨(Nat.le_of_ble_eq_true rfl), (Nat.le_of_ble_eq_true rfl)⟩ hx (Nat.le_of_ble_eq_true rfl) (Nat.le_of_ble_eq_true rfl) H (fun _ s17 H => ?_)
    refine J.iconst C (1) dX7_begins_20 (by decide) ?_
    exact J.zretL C hr rfl (Nat.le_of_ble_eq_true rfl) (Nat.le_of_ble_eq_true rfl) dX7_begins_21 H
  · refine J.iconst C (0) dX7_begins_8 (by decide) ?_
    exact J.zretL C hr rfl (Nat.le_of_ble_eq_true rfl) (Nat.le_of_ble_eq_true rfl) dX7_begins_9 H

/-! X7_normalStep -/
abbrev mX7_normalStep : MD := (yX7_normalStep, cX7_normalStep, 3, some .int)
theorem mdX7_normalStep : MDv mX7_normalStep RX7 1 := ⟨kIm_X7_normalStep, kSe_X7_normalStep, kIn_X7, kCo_X7_normalStep, by decide +kernel⟩
def P_X7_normalStep (σ : MS) (a1 : Int32) : Res MS Int32 := (bd (P_X7_begins σ a1) fun r2 s2 => (if r2 = 0 then (some (.inl (0 : Int32), s2)) else (bd (P_X7_steps s2 ) fun r11 s11 => (if r11 = 0 then (bd (P_X7_raises s11 (2 : Int32)) fun r19 s19 => (some (.inl r19, s19))) else (bd (P_X7_makesWork s11 ) fun r24 s24 => (lt r24 fun z27 => (if z27 = (-1 : Int32) then (bd (P_X7_raises s24 (3 : Int32)) fun r35 s35 => (some (.inl r35, s35))) else (some (.inl z27, s24)))))))))
set_option maxRecDepth 100000 in
theorem sp_X7_normalStep {l : Launch} (hl : l.stackTraces = false) {g : Gy} {bd : Nat → Nat} {pre rst : va_W} {σ : MS} (a1 : Int32) : SpR l mX7_normalStep 46 0 0 mI g [.ref (bd 0), .int a1] (mkh g bd pre rst) σ (P_X7_normalStep σ a1) := by
  refine SpR.of hl (by decide) (Nat.le_of_ble_eq_true rfl) (fun rr H p e s m args below meth c A C hr hx => ?_)
  unfold P_X7_normalStep at H
  refine J.lw (lv' := [(0, .ref (bd 0)), (1, .int a1)]) ⟨rfl, rfl, trivial⟩ ?_
  refine J.aload_n (i := 0) C dX7_normalStep_0 rfl rfl ?_
  refine J.iload_n (i := 1) C dX7_normalStep_1 rfl rfl ?_
  refine J.callVBI (hp := (mkh g bd pre rst)) C rfl (sp_X7_begins hl _) rfl kMl_X7_226 mdX7_begins ⟨(Nat.le_of_ble_eq_true rfl), (Nat.le_of_ble_eq_true rfl)⟩ mk_0 rfl rfl (Nat.le_of_ble_eq_true rfl) dX7_normalStep_2 ⟨(Nat.le_of_ble_eq_true rfl), (Nat.le_of_ble_eq_true rfl)⟩ hx (Nat.le_of_ble_eq_true rfl) (Nat.le_of_ble_eq_true rfl) H (fun r2 s2 H => ?_)
  refine J.if_neL (tgt := 10) C dX7_normalStep_5 (by decide) H (fun c_5 H => ?_) (fun c_5 H => ?_)
  · refine J.aload_n (i := 0) C dX7_normalStep_10 rfl rfl ?_
    refine J.callVBI (hp := (mkh g bd pre rst)) C rfl (sp_X7_steps hl ) rfl kMl_X7_229 mdX7_steps ⟨(Nat.le_of_ble_eq_true rfl), (Nat.le_of_ble_eq_true rfl)⟩ mk_0 rfl rfl (Nat.le_of_ble_eq_true rfl) dX7_normalStep_11 ⟨(Nat.le_of_ble_eq_true rfl), (Nat.le_of_ble_eq_true rfl)⟩ hx (Nat.le_of_ble_eq_true rfl) (Nat.le_of_ble_eq_true rfl) H (fun r11 s11 H => ?_)
    refine J.if_neL (tgt := 23) C dX7_normalStep_14 (by decide) H (fun c_14 H => ?_) (fun c_14 H => ?_)
    · refine J.aload_n (i := 0) C dX7_normalStep_23 rfl rfl ?_
      refine J.callVBI (hp := (mkh g bd pre rst)) C rfl (sp_X7_makesWork hl ) rfl kMl_X7_190 mdX7_makesWork ⟨(Nat.le_of_ble_eq_true rfl), (Nat.le_of_ble_eq_true rfl)⟩ mk_0 rfl rfl (Nat.le_of_ble_eq_true rfl) dX7_normalStep_24 ⟨(Nat.le_of_ble_eq_true rfl), (Nat.le_of_ble_eq_true rfl)⟩ hx (Nat.le_of_ble_eq_true rfl) (Nat.le_of_ble_eq_true rfl) H (fun r24 s24 H => ?_)
      refine J.istore_nL (i := 2) C dX7_normalStep_27 rfl (by decide) H (fun z27 H => ?_)
      refine J.iload_n (i := 2) C dX7_normalStep_28 rfl rfl ?_
      refine J.iconst C (-1) dX7_normalStep_29 (by decide) ?_
      refine J.icmp_neL (tgt := 41) C dX7_normalStep_30 (by decide) H (fun c_30 H => ?_) (fun c_30 H => ?_)
      · refine J.iload_n (i := 2) C dX7_normalStep_41 rfl rfl ?_
        exact J.iretL C hr (Nat.le_of_ble_eq_true rfl) (Nat.le_of_ble_eq_true rfl) dX7_normalStep_42 H
      · refine J.aload_n (i := 0) C dX7_normalStep_33 rfl rfl ?_
        refine J.iconst C (3) dX7_normalStep_34 (by decide) ?_
        refine J.callVBI (hp := (mkh g bd pre rst)) C rfl (sp_X7_raises hl _) rfl kMl_X7_132 mdX7_raises ⟨(Nat.le_of_ble_eq_true rfl), (Nat.le_of_ble_eq_true rfl)⟩ mk_0 rfl rfl (Nat.le_of_ble_eq_true rfl) dX7_normalStep_35 ⟨(Nat.le_of_ble_eq_true rfl), (Nat.le_of_ble_eq_true rfl)⟩ hx (Nat.le_of_ble_eq_true rfl) (Nat.le_of_ble_eq_true rfl) H (fun r35 s35 H => ?_)
        refine J.goto (tgt := 42) C dX7_normalStep_38 (by decide) ?_
        exact J.iretL C hr (Nat.le_of_ble_eq_true rfl) (Nat.le_of_ble_eq_true rfl) dX7_normalStep_42 H
    · refine J.aload_n (i := 0) C dX7_normalStep_17 rfl rfl ?_
      refine J.iconst C (2) dX7_normalStep_18 (by decide) ?_
      refine J.callVBI (hp := (mkh g bd pre rst)) C rfl (sp_X7_raises hl _) rfl kMl_X7_132 mdX7_raises ⟨(Nat.le_of_ble_eq_true rfl), (Nat.le_of_ble_eq_true rfl)⟩ mk_0 rfl rfl (Nat.le_of_ble_eq_true rfl) dX7_normalStep_19 ⟨(Nat.le_of_ble_eq_true rfl), (Nat.le_of_ble_eq_true rfl)⟩ hx (Nat.le_of_ble_eq_true rfl) (Nat.le_of_ble_eq_true rfl) H (fun r19 s19 H => ?_)
      exact J.iretL C hr (Nat.le_of_ble_eq_true rfl) (Nat.le_of_ble_eq_true rfl) dX7_normalStep_22 H
  · refine J.iconst C (0) dX7_normalStep_8 (by decide) ?_
    exact J.iretL C hr (Nat.le_of_ble_eq_true rfl) (Nat.le_of_ble_eq_true rfl) dX7_normalStep_9 H

/-! X7_normalSteps -/
def B_X7_normalSteps_10 (k_10 : MS → Int32 → Res MS Int32) (σ : MS) (l2 : Int32) : Res MS Int32 := (bd (P_X7_steps σ ) fun r11 s11 => (if r11 = 0 then (some (.inl l2, s11)) else (lt (l2 + (1 : Int32)) fun z17 => (k_10 s11 z17))))
set_option maxRecDepth 100000 in
theorem bl_X7_normalSteps_10 {l : Launch} (hl : l.stackTraces = false) {g : Gy} {bd : Nat → Nat} {pre rst : va_W} {p : Program} {e : Env} {s : State} {m : MethodId} {args : Array Value} {below : List Frame} {meth : Method} {c : Code} {A : Nat → Prop} (C : Cx p l s m args meth c g A yX7_normalSteps.cls cX7_normalSteps 3) (hr : meth.sig.returnType = some .int) (hx : ∀ x ∈ c.exceptionTable.toList, False) {rr : (Int32 ⊕ String) × MS} (k_10 : MS → Int32 → Res MS Int32) (hk_10 : ∀ (σ : MS) (l2 : Int32), k_10 σ l2 = some rr → J p l e (rmOf 43 0 0) s m args below meth c g A 3 0 0 (QR mI g A (mkh g bd pre rst) rr below args s 0 0) 10 [(0, .ref (bd 0)), (2, .int l2)] [] ((mkh g bd pre rst) σ)) (σ : MS) (l2 : Int32) (H : B_X7_normalSteps_10 k_10 σ l2 = some rr) : J p l e (rmOf 43 0 0) s m args below meth c g A 3 0 0 (QR mI g A (mkh g bd pre rst) rr below args s 0 0) 10 [(0, .ref (bd 0)), (2, .int l2)] [] ((mkh g bd pre rst) σ) := by
  unfold B_X7_normalSteps_10 at H
  refine J.aload_n (i := 0) C dX7_normalSteps_10 rfl rfl ?_
  refine J.callVBI (hp := (mkh g bd pre rst)) C rfl (sp_X7_steps hl ) rfl kMl_X7_229 mdX7_steps ⟨(Nat.le_of_ble_eq_true rfl), (Nat.le_of_ble_eq_true rfl)⟩ mk_0 rfl rfl (Nat.le_of_ble_eq_true rfl) dX7_normalSteps_11 ⟨(Nat.le_of_ble_eq_true rfl), (Nat.le_of_ble_eq_true rfl)⟩ hx (Nat.le_of_ble_eq_true rfl) (Nat.le_of_ble_eq_true rfl) H (fun r11 s11 H => ?_)
  refine J.if_eqL (tgt := 23) C dX7_normalSteps_14 (by decide) H (fun c_14 H => ?_) (fun c_14 H => ?_)
  · refine J.iload_n (i := 2) C dX7_normalSteps_23 rfl rfl ?_
    exact J.iretL C hr (Nat.le_of_ble_eq_true rfl) (Nat.le_of_ble_eq_true rfl) dX7_normalSteps_24 H
  · refine J.iincL C (l2 + (1 : Int32)) dX7_normalSteps_17 rfl rfl (by decide) H (fun z17 H => ?_)
    refine J.goto (tgt := 10) C dX7_normalSteps_20 (by decide) ?_
    refine J.widen (k := 0) (n := 0) (Nat.le_of_ble_eq_true rfl) (Nat.le_of_ble_eq_true rfl) ?_
    refine J.lw (lv' := [(0, .ref (bd 0)), (2, .int z17)]) ⟨rfl, rfl, trivial⟩ ?_
    exact hk_10 _ _  H
def L_X7_normalSteps_10 : Nat → MS → Int32 → Res MS Int32
  | 0, _, _ => none
  | n + 1, σ, l2 => B_X7_normalSteps_10 (L_X7_normalSteps_10 n) σ l2
set_option maxRecDepth 100000 in
theorem lp_X7_normalSteps_10 {l : Launch} (hl : l.stackTraces = false) {g : Gy} {bd : Nat → Nat} {pre rst : va_W} {p : Program} {e : Env} {s : State} {m : MethodId} {args : Array Value} {below : List Frame} {meth : Method} {c : Code} {A : Nat → Prop} (C : Cx p l s m args meth c g A yX7_normalSteps.cls cX7_normalSteps 3) (hr : meth.sig.returnType = some .int) (hx : ∀ x ∈ c.exceptionTable.toList, False) {rr : (Int32 ⊕ String) × MS} : ∀ (n : Nat) (σ : MS) (l2 : Int32), L_X7_normalSteps_10 n σ l2 = some rr → J p l e (rmOf 43 0 0) s m args below meth c g A 3 0 0 (QR mI g A (mkh g bd pre rst) rr below args s 0 0) 10 [(0, .ref (bd 0)), (2, .int l2)] [] ((mkh g bd pre rst) σ) := by
  intro n
  induction n with
  | zero => intro σ l2 H; cases H
  | succ n ih => intro σ l2 H; exact bl_X7_normalSteps_10 hl C hr hx _ ih _ _ H
abbrev mX7_normalSteps : MD := (yX7_normalSteps, cX7_normalSteps, 3, some .int)
theorem mdX7_normalSteps : MDv mX7_normalSteps RX7 1 := ⟨kIm_X7_normalSteps, kSe_X7_normalSteps, kIn_X7, kCo_X7_normalSteps, by decide +kernel⟩
def P_X7_normalSteps (σ : MS) (a1 : Int32) : Res MS Int32 := (lt (0 : Int32) fun z1 => (bd (P_X7_begins σ a1) fun r4 s4 => (if r4 = 0 then (some (.inl z1, s4)) else (L_X7_normalSteps_10 FU s4 z1))))
set_option maxRecDepth 100000 in
theorem sp_X7_normalSteps {l : Launch} (hl : l.stackTraces = false) {g : Gy} {bd : Nat → Nat} {pre rst : va_W} {σ : MS} (a1 : Int32) : SpR l mX7_normalSteps 43 0 0 mI g [.ref (bd 0), .int a1] (mkh g bd pre rst) σ (P_X7_normalSteps σ a1) := by
  refine SpR.of hl (by decide) (Nat.le_of_ble_eq_true rfl) (fun rr H p e s m args below meth c A C hr hx => ?_)
  unfold P_X7_normalSteps at H
  refine J.lw (lv' := [(0, .ref (bd 0)), (1, .int a1)]) ⟨rfl, rfl, trivial⟩ ?_
  refine J.iconst C (0) dX7_normalSteps_0 (by decide) ?_
  refine J.istore_nL (i := 2) C dX7_normalSteps_1 rfl (by decide) H (fun z1 H => ?_)
  refine J.aload_n (i := 0) C dX7_normalSteps_2 rfl rfl ?_
  refine J.iload_n (i := 1) C dX7_normalSteps_3 rfl rfl ?_
  refine J.callVBI (hp := (mkh g bd pre rst)) C rfl (sp_X7_begins hl _) rfl kMl_X7_226 mdX7_begins ⟨(Nat.le_of_ble_eq_true rfl), (Nat.le_of_ble_eq_true rfl)⟩ mk_0 rfl rfl (Nat.le_of_ble_eq_true rfl) dX7_normalSteps_4 ⟨(Nat.le_of_ble_eq_true rfl), (Nat.le_of_ble_eq_true rfl)⟩ hx (Nat.le_of_ble_eq_true rfl) (Nat.le_of_ble_eq_true rfl) H (fun r4 s4 H => ?_)
  refine J.if_eqL (tgt := 23) C dX7_normalSteps_7 (by decide) H (fun c_7 H => ?_) (fun c_7 H => ?_)
  · refine J.iload_n (i := 2) C dX7_normalSteps_23 rfl rfl ?_
    exact J.iretL C hr (Nat.le_of_ble_eq_true rfl) (Nat.le_of_ble_eq_true rfl) dX7_normalSteps_24 H
  · refine J.widen (k := 0) (n := 0) (Nat.le_of_ble_eq_true rfl) (Nat.le_of_ble_eq_true rfl) ?_
    refine J.lw (lv' := [(0, .ref (bd 0)), (2, .int z1)]) ⟨rfl, rfl, trivial⟩ ?_
    exact lp_X7_normalSteps_10 hl C hr hx  FU _ _  H

/-! X7_normalForm -/
def B_X7_normalForm_12 (k_12 : MS → Int32 → Res MS Int32) (σ : MS) (l2 : Int32) : Res MS Int32 := (if l2 = 0 then (bd (P_X7_makesWork σ ) fun r25 s25 => (lt r25 fun z28 => (if z28 = (-1 : Int32) then (bd (P_X7_raises s25 (2 : Int32)) fun r36 s36 => (some (.inl r36, s36))) else (some (.inl z28, s25))))) else (bd (P_X7_steps σ ) fun r17 s17 => (lt r17 fun z20 => (k_12 s17 z20))))
set_option maxRecDepth 100000 in
theorem bl_X7_normalForm_12 {l : Launch} (hl : l.stackTraces = false) {g : Gy} {bd : Nat → Nat} {pre rst : va_W} {p : Program} {e : Env} {s : State} {m : MethodId} {args : Array Value} {below : List Frame} {meth : Method} {c : Code} {A : Nat → Prop} (C : Cx p l s m args meth c g A yX7_normalForm.cls cX7_normalForm 4) (hr : meth.sig.returnType = some .int) (hx : ∀ x ∈ c.exceptionTable.toList, False) {rr : (Int32 ⊕ String) × MS} (k_12 : MS → Int32 → Res MS Int32) (hk_12 : ∀ (σ : MS) (l2 : Int32), k_12 σ l2 = some rr → J p l e (rmOf 46 0 0) s m args below meth c g A 4 0 0 (QR mI g A (mkh g bd pre rst) rr below args s 0 0) 12 [(0, .ref (bd 0)), (2, .int l2)] [] ((mkh g bd pre rst) σ)) (σ : MS) (l2 : Int32) (H : B_X7_normalForm_12 k_12 σ l2 = some rr) : J p l e (rmOf 46 0 0) s m args below meth c g A 4 0 0 (QR mI g A (mkh g bd pre rst) rr below args s 0 0) 12 [(0, .ref (bd 0)), (2, .int l2)] [] ((mkh g bd pre rst) σ) := by
  unfold B_X7_normalForm_12 at H
  refine J.iload_n (i := 2) C dX7_normalForm_12 rfl rfl ?_
  refine J.if_eqL (tgt := 24) C dX7_normalForm_13 (by decide) H (fun c_13 H => ?_) (fun c_13 H => ?_)
  · refine J.aload_n (i := 0) C dX7_normalForm_24 rfl rfl ?_
    refine J.callVBI (hp := (mkh g bd pre rst)) C rfl (sp_X7_makesWork hl ) rfl kMl_X7_190 mdX7_makesWork ⟨(Nat.le_of_ble_eq_true rfl), (Nat.le_of_ble_eq_true rfl)⟩ mk_0 rfl rfl (Nat.le_of_ble_eq_true rfl) dX7_normalForm_25 ⟨(Nat.le_of_ble_eq_true rfl), (Nat.le_of_ble_eq_true rfl)⟩ hx (Nat.le_of_ble_eq_true rfl) (Nat.le_of_ble_eq_true rfl) H (fun r25 s25 H => ?_)
    refine J.istore_nL (i := 3) C dX7_normalForm_28 rfl (by decide) H (fun z28 H => ?_)
    refine J.iload_n (i := 3) C dX7_normalForm_29 rfl rfl ?_
    refine J.iconst C (-1) dX7_normalForm_30 (by decide) ?_
    refine J.icmp_neL (tgt := 42) C dX7_normalForm_31 (by decide) H (fun c_31 H => ?_) (fun c_31 H => ?_)
    · refine J.iload_n (i := 3) C dX7_normalForm_42 rfl rfl ?_
      exact J.iretL C hr (Nat.le_of_ble_eq_true rfl) (Nat.le_of_ble_eq_true rfl) dX7_normalForm_43 H
    · refine J.aload_n (i := 0) C dX7_normalForm_34 rfl rfl ?_
      refine J.iconst C (2) dX7_normalForm_35 (by decide) ?_
      refine J.callVBI (hp := (mkh g bd pre rst)) C rfl (sp_X7_raises hl _) rfl kMl_X7_132 mdX7_raises ⟨(Nat.le_of_ble_eq_true rfl), (Nat.le_of_ble_eq_true rfl)⟩ mk_0 rfl rfl (Nat.le_of_ble_eq_true rfl) dX7_normalForm_36 ⟨(Nat.le_of_ble_eq_true rfl), (Nat.le_of_ble_eq_true rfl)⟩ hx (Nat.le_of_ble_eq_true rfl) (Nat.le_of_ble_eq_true rfl) H (fun r36 s36 H => ?_)
      refine J.goto (tgt := 43) C dX7_normalForm_39 (by decide) ?_
      exact J.iretL C hr (Nat.le_of_ble_eq_true rfl) (Nat.le_of_ble_eq_true rfl) dX7_normalForm_43 H
  · refine J.aload_n (i := 0) C dX7_normalForm_16 rfl rfl ?_
    refine J.callVBI (hp := (mkh g bd pre rst)) C rfl (sp_X7_steps hl ) rfl kMl_X7_229 mdX7_steps ⟨(Nat.le_of_ble_eq_true rfl), (Nat.le_of_ble_eq_true rfl)⟩ mk_0 rfl rfl (Nat.le_of_ble_eq_true rfl) dX7_normalForm_17 ⟨(Nat.le_of_ble_eq_true rfl), (Nat.le_of_ble_eq_true rfl)⟩ hx (Nat.le_of_ble_eq_true rfl) (Nat.le_of_ble_eq_true rfl) H (fun r17 s17 H => ?_)
    refine J.istore_nL (i := 2) C dX7_normalForm_20 rfl (by decide) H (fun z20 H => ?_)
    refine J.goto (tgt := 12) C dX7_normalForm_21 (by decide) ?_
    refine J.widen (k := 0) (n := 0) (Nat.le_of_ble_eq_true rfl) (Nat.le_of_ble_eq_true rfl) ?_
    refine J.lw (lv' := [(0, .ref (bd 0)), (2, .int z20)]) ⟨rfl, rfl, trivial⟩ ?_
    exact hk_12 _ _  H
def L_X7_normalForm_12 : Nat → MS → Int32 → Res MS Int32
  | 0, _, _ => none
  | n + 1, σ, l2 => B_X7_normalForm_12 (L_X7_normalForm_12 n) σ l2
set_option maxRecDepth 100000 in
theorem lp_X7_normalForm_12 {l : Launch} (hl : l.stackTraces = false) {g : Gy} {bd : Nat → Nat} {pre rst : va_W} {p : Program} {e : Env} {s : State} {m : MethodId} {args : Array Value} {below : List Frame} {meth : Method} {c : Code} {A : Nat → Prop} (C : Cx p l s m args meth c g A yX7_normalForm.cls cX7_normalForm 4) (hr : meth.sig.returnType = some .int) (hx : ∀ x ∈ c.exceptionTable.toList, False) {rr : (Int32 ⊕ String) × MS} : ∀ (n : Nat) (σ : MS) (l2 : Int32), L_X7_normalForm_12 n σ l2 = some rr → J p l e (rmOf 46 0 0) s m args below meth c g A 4 0 0 (QR mI g A (mkh g bd pre rst) rr below args s 0 0) 12 [(0, .ref (bd 0)), (2, .int l2)] [] ((mkh g bd pre rst) σ) := by
  intro n
  induction n with
  | zero => intro σ l2 H; cases H
  | succ n ih => intro σ l2 H; exact bl_X7_normalForm_12 hl C hr hx _ ih _ _ H
abbrev mX7_normalForm : MD := (yX7_normalForm, cX7_normalForm, 4, some .int)
theorem mdX7_normalForm : MDv mX7_normalForm RX7 1 := ⟨kIm_X7_normalForm, kSe_X7_normalForm, kIn_X7, kCo_X7_normalForm, by decide +kernel⟩
def P_X7_normalForm (σ : MS) (a1 : Int32) : Res MS Int32 := (bd (P_X7_begins σ a1) fun r2 s2 => (if r2 = 0 then (some (.inl (0 : Int32), s2)) else (lt (1 : Int32) fun z11 => (L_X7_normalForm_12 FU s2 z11))))
set_option maxRecDepth 100000 in
theorem sp_X7_normalForm {l : Launch} (hl : l.stackTraces = false) {g : Gy} {bd : Nat → Nat} {pre rst : va_W} {σ : MS} (a1 : Int32) : SpR l mX7_normalForm 46 0 0 mI g [.ref (bd 0), .int a1] (mkh g bd pre rst) σ (P_X7_normalForm σ a1) := by
  refine SpR.of hl (by decide) (Nat.le_of_ble_eq_true rfl) (fun rr H p e s m args below meth c A C hr hx => ?_)
  unfold P_X7_normalForm at H
  refine J.lw (lv' := [(0, .ref (bd 0)), (1, .int a1)]) ⟨rfl, rfl, trivial⟩ ?_
  refine J.aload_n (i := 0) C dX7_normalForm_0 rfl rfl ?_
  refine J.iload_n (i := 1) C dX7_normalForm_1 rfl rfl ?_
  refine J.callVBI (hp := (mkh g bd pre rst)) C rfl (sp_X7_begins hl _) rfl kMl_X7_226 mdX7_begins ⟨(Nat.le_of_ble_eq_true rfl), (Nat.le_of_ble_eq_true rfl)⟩ mk_0 rfl rfl (Nat.le_of_ble_eq_true rfl) dX7_normalForm_2 ⟨(Nat.le_of_ble_eq_true rfl), (Nat.le_of_ble_eq_true rfl)⟩ hx (Nat.le_of_ble_eq_true rfl) (Nat.le_of_ble_eq_true rfl) H (fun r2 s2 H => ?_)
  refine J.if_neL (tgt := 10) C dX7_normalForm_5 (by decide) H (fun c_5 H => ?_) (fun c_5 H => ?_)
  · refine J.iconst C (1) dX7_normalForm_10 (by decide) ?_
    refine J.istore_nL (i := 2) C dX7_normalForm_11 rfl (by decide) H (fun z11 H => ?_)
    refine J.widen (k := 0) (n := 0) (Nat.le_of_ble_eq_true rfl) (Nat.le_of_ble_eq_true rfl) ?_
    refine J.lw (lv' := [(0, .ref (bd 0)), (2, .int z11)]) ⟨rfl, rfl, trivial⟩ ?_
    exact lp_X7_normalForm_12 hl C hr hx  FU _ _  H
  · refine J.iconst C (0) dX7_normalForm_8 (by decide) ?_
    exact J.iretL C hr (Nat.le_of_ble_eq_true rfl) (Nat.le_of_ble_eq_true rfl) dX7_normalForm_9 H

/-! X7_models -/
abbrev mX7_models : MD := (yX7_models, cX7_models, 2, some .int)
theorem mdX7_models : MDv mX7_models RX7 1 := ⟨kIm_X7_models, kSe_X7_models, kIn_X7, kCo_X7_models, by decide +kernel⟩
def P_X7_models (σ : MS) (a1 : Int32) : Res MS Int32 := (bd (P_X7_lacks σ a1) fun r2 s2 => (if r2 = 0 then (gd a1 150 (some (.inl (F_J6_bitCount_0f7a4 (s2.2.1 4 a1.toNatClampNeg)), s2))) else (some (.inl (0 : Int32), s2))))
set_option maxRecDepth 100000 in
theorem sp_X7_models {l : Launch} (hl : l.stackTraces = false) {g : Gy} {bd : Nat → Nat} {pre rst : va_W} {σ : MS} (a1 : Int32) : SpR l mX7_models 4 0 0 mI g [.ref (bd 0), .int a1] (mkh g bd pre rst) σ (P_X7_models σ a1) := by
  refine SpR.of hl (by decide) (Nat.le_of_ble_eq_true rfl) (fun rr H p e s m args below meth c A C hr hx => ?_)
  unfold P_X7_models at H
  refine J.lw (lv' := [(0, .ref (bd 0)), (1, .int a1)]) ⟨rfl, rfl, trivial⟩ ?_
  refine J.aload_n (i := 0) C dX7_models_0 rfl rfl ?_
  refine J.iload_n (i := 1) C dX7_models_1 rfl rfl ?_
  refine J.callVBI (hp := (mkh g bd pre rst)) C rfl (sp_X7_lacks hl _) rfl kMl_X7_142 mdX7_lacks ⟨(Nat.le_of_ble_eq_true rfl), (Nat.le_of_ble_eq_true rfl)⟩ mk_0 rfl rfl (Nat.le_of_ble_eq_true rfl) dX7_models_2 ⟨(Nat.le_of_ble_eq_true rfl), (Nat.le_of_ble_eq_true rfl)⟩ hx (Nat.le_of_ble_eq_true rfl) (Nat.le_of_ble_eq_true rfl) H (fun r2 s2 H => ?_)
  refine J.if_eqL (tgt := 12) C dX7_models_5 (by decide) H (fun c_5 H => ?_) (fun c_5 H => ?_)
  · refine J.aload_n (i := 0) C dX7_models_12 rfl rfl ?_
    refine J.get C (pre.length + 0) 4 mk_0 rfl (by decide) kFl_X7_23 inB_X7 rfl dX7_models_13 ?_
    refine J.iload_n (i := 1) C dX7_models_16 rfl rfl ?_
    refine J.ialdL C (pre.length + 5) mk_5 dX7_models_17 H (fun H => ?_)
    refine J.callSI C (sp_J6_bitCount_0f7a4 hl _) rfl kMl_X7_233 mdJ6_bitCount_0f7a4 ⟨(Nat.le_of_ble_eq_true rfl), (Nat.le_of_ble_eq_true rfl)⟩ rfl (Nat.le_of_ble_eq_true rfl) dX7_models_18 ⟨(Nat.le_of_ble_eq_true rfl), (Nat.le_of_ble_eq_true rfl)⟩ ?_
    exact J.iretL C hr (Nat.le_of_ble_eq_true rfl) (Nat.le_of_ble_eq_true rfl) dX7_models_21 H
  · refine J.iconst C (0) dX7_models_8 (by decide) ?_
    refine J.goto (tgt := 21) C dX7_models_9 (by decide) ?_
    exact J.iretL C hr (Nat.le_of_ble_eq_true rfl) (Nat.le_of_ble_eq_true rfl) dX7_models_21 H

/-! X7_modelsByRows -/
abbrev mX7_modelsByRows : MD := (yX7_modelsByRows, cX7_modelsByRows, 2, some .int)
theorem mdX7_modelsByRows : MDv mX7_modelsByRows RX7 1 := ⟨kIm_X7_modelsByRows, kSe_X7_modelsByRows, kIn_X7, kCo_X7_modelsByRows, by decide +kernel⟩
def P_X7_modelsByRows (σ : MS) (a1 : Int32) : Res MS Int32 := (bd (P_X7_models σ a1) fun r2 s2 => (some (.inl r2, s2)))
set_option maxRecDepth 100000 in
theorem sp_X7_modelsByRows {l : Launch} (hl : l.stackTraces = false) {g : Gy} {bd : Nat → Nat} {pre rst : va_W} {σ : MS} (a1 : Int32) : SpR l mX7_modelsByRows 5 0 0 mI g [.ref (bd 0), .int a1] (mkh g bd pre rst) σ (P_X7_modelsByRows σ a1) := by
  refine SpR.of hl (by decide) (Nat.le_of_ble_eq_true rfl) (fun rr H p e s m args below meth c A C hr hx => ?_)
  unfold P_X7_modelsByRows at H
  refine J.lw (lv' := [(0, .ref (bd 0)), (1, .int a1)]) ⟨rfl, rfl, trivial⟩ ?_
  refine J.aload_n (i := 0) C dX7_modelsByRows_0 rfl rfl ?_
  refine J.iload_n (i := 1) C dX7_modelsByRows_1 rfl rfl ?_
  refine J.callVBI (hp := (mkh g bd pre rst)) C rfl (sp_X7_models hl _) rfl kMl_X7_238 mdX7_models ⟨(Nat.le_of_ble_eq_true rfl), (Nat.le_of_ble_eq_true rfl)⟩ mk_0 rfl rfl (Nat.le_of_ble_eq_true rfl) dX7_modelsByRows_2 ⟨(Nat.le_of_ble_eq_true rfl), (Nat.le_of_ble_eq_true rfl)⟩ hx (Nat.le_of_ble_eq_true rfl) (Nat.le_of_ble_eq_true rfl) H (fun r2 s2 H => ?_)
  exact J.iretL C hr (Nat.le_of_ble_eq_true rfl) (Nat.le_of_ble_eq_true rfl) dX7_modelsByRows_5 H

/-! X7_follows -/
def B_X7_follows_14 (k_14 : MS → Int32 → Int32 → Int32 → Res MS Int32) (σ : MS) (l1 : Int32) (l2 : Int32) (l3 : Int32) : Res MS Int32 := (if (σ.1 1) ≤ l3 then (gd l1 150 (if (l2 &&& ((σ.2.1 4 l1.toNatClampNeg) ^^^ (-1 : Int32))) = 0 then (some (.inl (1 : Int32), σ)) else (some (.inl (0 : Int32), σ)))) else (bd (P_X7_mayCite σ l3) fun r25 s25 => (if r25 = 0 then (lt (l2 &&& (-1 : Int32)) fun z47 => (lt (l3 + (1 : Int32)) fun z48 => (k_14 s25 l1 z47 z48))) else (gd l3 60 (gd (s25.2.1 6 l3.toNatClampNeg) 150 (lt (l2 &&& (s25.2.1 4 (s25.2.1 6 l3.toNatClampNeg).toNatClampNeg)) fun z47 => (lt (l3 + (1 : Int32)) fun z48 => (k_14 s25 l1 z47 z48))))))))
set_option maxRecDepth 100000 in
theorem bl_X7_follows_14 {l : Launch} (hl : l.stackTraces = false) {g : Gy} {bd : Nat → Nat} {pre rst : va_W} {p : Program} {e : Env} {s : State} {m : MethodId} {args : Array Value} {below : List Frame} {meth : Method} {c : Code} {A : Nat → Prop} (C : Cx p l s m args meth c g A yX7_follows.cls cX7_follows 4) (hr : meth.sig.returnType = some .boolean) (hx : ∀ x ∈ c.exceptionTable.toList, False) {rr : (Int32 ⊕ String) × MS} (k_14 : MS → Int32 → Int32 → Int32 → Res MS Int32) (hk_14 : ∀ (σ : MS) (l1 : Int32) (l2 : Int32) (l3 : Int32), k_14 σ l1 l2 l3 = some rr → J p l e (rmOf 4 0 0) s m args below meth c g A 4 0 0 (QR mI g A (mkh g bd pre rst) rr below args s 0 0) 14 [(0, .ref (bd 0)), (1, .int l1), (2, .int l2), (3, .int l3)] [] ((mkh g bd pre rst) σ)) (σ : MS) (l1 : Int32) (l2 : Int32) (l3 : Int32) (H : B_X7_follows_14 k_14 σ l1 l2 l3 = some rr) : J p l e (rmOf 4 0 0) s m args below meth c g A 4 0 0 (QR mI g A (mkh g bd pre rst) rr below args s 0 0) 14 [(0, .ref (bd 0)), (1, .int l1), (2, .int l2), (3, .int l3)] [] ((mkh g bd pre rst) σ) := by
  unfold B_X7_follows_14 at H
  refine J.iload_n (i := 3) C dX7_follows_14 rfl rfl ?_
  refine J.aload_n (i := 0) C dX7_follows_15 rfl rfl ?_
  refine J.get C (pre.length + 0) 11 mk_0 rfl (by decide) kFl_X7_94 inB_X7 rfl dX7_follows_16 ?_
  refine J.icmp_geL (tgt := 54) C dX7_follows_19 (by decide) H (fun c_19 H => ?_) (fun c_19 H => ?_)
  · refine J.iload_n (i := 2) C dX7_follows_54 rfl rfl ?_
    refine J.aload_n (i := 0) C dX7_follows_55 rfl rfl ?_
    refine J.get C (pre.length + 0) 4 mk_0 rfl (by decide) kFl_X7_23 inB_X7 rfl dX7_follows_56 ?_
    refine J.iload_n (i := 1) C dX7_follows_59 rfl rfl ?_
    refine J.ialdL C (pre.length + 5) mk_5 dX7_follows_60 H (fun H => ?_)
    refine J.iconst C (-1) dX7_follows_61 (by decide) ?_
    refine J.ixor C dX7_follows_62 ?_
    refine J.iand C dX7_follows_63 ?_
    refine J.if_neL (tgt := 71) C dX7_follows_64 (by decide) H (fun c_64 H => ?_) (fun c_64 H => ?_)
    · refine J.iconst C (0) dX7_follows_71 (by decide) ?_
      exact J.zretL C hr rfl (Nat.le_of_ble_eq_true rfl) (Nat.le_of_ble_eq_true rfl) dX7_follows_72 H
    · refine J.iconst C (1) dX7_follows_67 (by decide) ?_
      refine J.goto (tgt := 72) C dX7_follows_68 (by decide) ?_
      exact J.zretL C hr rfl (Nat.le_of_ble_eq_true rfl) (Nat.le_of_ble_eq_true rfl) dX7_follows_72 H
  · refine J.iload_n (i := 2) C dX7_follows_22 rfl rfl ?_
    refine J.aload_n (i := 0) C dX7_follows_23 rfl rfl ?_
    refine J.iload_n (i := 3) C dX7_follows_24 rfl rfl ?_
    refine J.callVBI (hp := (mkh g bd pre rst)) C rfl (sp_X7_mayCite hl _) rfl kMl_X7_152 mdX7_mayCite ⟨(Nat.le_of_ble_eq_true rfl), (Nat.le_of_ble_eq_true rfl)⟩ mk_0 rfl rfl (Nat.le_of_ble_eq_true rfl) dX7_follows_25 ⟨(Nat.le_of_ble_eq_true rfl), (Nat.le_of_ble_eq_true rfl)⟩ hx (Nat.le_of_ble_eq_true rfl) (Nat.le_of_ble_eq_true rfl) H (fun r25 s25 H => ?_)
    refine J.if_eqL (tgt := 45) C dX7_follows_28 (by decide) H (fun c_28 H => ?_) (fun c_28 H => ?_)
    · refine J.iconst C (-1) dX7_follows_45 (by decide) ?_
      refine J.iand C dX7_follows_46 ?_
      refine J.istore_nL (i := 2) C dX7_follows_47 rfl (by decide) H (fun z47 H => ?_)
      refine J.iincL C (l3 + (1 : Int32)) dX7_follows_48 rfl rfl (by decide) H (fun z48 H => ?_)
      refine J.goto (tgt := 14) C dX7_follows_51 (by decide) ?_
      refine J.widen (k := 0) (n := 0) (Nat.le_of_ble_eq_true rfl) (Nat.le_of_ble_eq_true rfl) ?_
      refine J.lw (lv' := [(0, .ref (bd 0)), (1, .int l1), (2, .int z47), (3, .int z48)]) ⟨rfl, rfl, rfl, rfl, trivial⟩ ?_
      exact hk_14 _ _ _ _  H
    · refine J.aload_n (i := 0) C dX7_follows_31 rfl rfl ?_
      refine J.get C (pre.length + 0) 4 mk_0 rfl (by decide) kFl_X7_23 inB_X7 rfl dX7_follows_32 ?_
      refine J.aload_n (i := 0) C dX7_follows_35 rfl rfl ?_
      refine J.get C (pre.length + 0) 7 mk_0 rfl (by decide) kFl_X7_29 inB_X7 rfl dX7_follows_36 ?_
      refine J.iload_n (i := 3) C dX7_follows_39 rfl rfl ?_
      refine J.ialdL C (pre.length + 7) mk_7 dX7_follows_40 H (fun H => ?_)
      refine J.ialdL C (pre.length + 5) mk_5 dX7_follows_41 H (fun H => ?_)
      refine J.goto (tgt := 46) C dX7_follows_42 (by decide) ?_
      refine J.iand C dX7_follows_46 ?_
      refine J.istore_nL (i := 2) C dX7_follows_47 rfl (by decide) H (fun z47 H => ?_)
      refine J.iincL C (l3 + (1 : Int32)) dX7_follows_48 rfl rfl (by decide) H (fun z48 H => ?_)
      refine J.goto (tgt := 14) C dX7_follows_51 (by decide) ?_
      refine J.widen (k := 0) (n := 0) (Nat.le_of_ble_eq_true rfl) (Nat.le_of_ble_eq_true rfl) ?_
      refine J.lw (lv' := [(0, .ref (bd 0)), (1, .int l1), (2, .int z47), (3, .int z48)]) ⟨rfl, rfl, rfl, rfl, trivial⟩ ?_
      exact hk_14 _ _ _ _  H
def L_X7_follows_14 : Nat → MS → Int32 → Int32 → Int32 → Res MS Int32
  | 0, _, _, _, _ => none
  | n + 1, σ, l1, l2, l3 => B_X7_follows_14 (L_X7_follows_14 n) σ l1 l2 l3
set_option maxRecDepth 100000 in
theorem lp_X7_follows_14 {l : Launch} (hl : l.stackTraces = false) {g : Gy} {bd : Nat → Nat} {pre rst : va_W} {p : Program} {e : Env} {s : State} {m : MethodId} {args : Array Value} {below : List Frame} {meth : Method} {c : Code} {A : Nat → Prop} (C : Cx p l s m args meth c g A yX7_follows.cls cX7_follows 4) (hr : meth.sig.returnType = some .boolean) (hx : ∀ x ∈ c.exceptionTable.toList, False) {rr : (Int32 ⊕ String) × MS} : ∀ (n : Nat) (σ : MS) (l1 : Int32) (l2 : Int32) (l3 : Int32), L_X7_follows_14 n σ l1 l2 l3 = some rr → J p l e (rmOf 4 0 0) s m args below meth c g A 4 0 0 (QR mI g A (mkh g bd pre rst) rr below args s 0 0) 14 [(0, .ref (bd 0)), (1, .int l1), (2, .int l2), (3, .int l3)] [] ((mkh g bd pre rst) σ) := by
  intro n
  induction n with
  | zero => intro σ l1 l2 l3 H; cases H
  | succ n ih => intro σ l1 l2 l3 H; exact bl_X7_follows_14 hl C hr hx _ ih _ _ _ _ H
abbrev mX7_follows : MD := (yX7_follows, cX7_follows, 4, some .boolean)
theorem mdX7_follows : MDv mX7_follows RX7 1 := ⟨kIm_X7_follows, kSe_X7_follows, kIn_X7, kCo_X7_follows, by decide +kernel⟩
def P_X7_follows (σ : MS) (a1 : Int32) : Res MS Int32 := (bd (P_X7_lacks σ a1) fun r2 s2 => (if r2 = 0 then (lt (-1 : Int32) fun z11 => (lt (0 : Int32) fun z13 => (L_X7_follows_14 FU s2 a1 z11 z13))) else (some (.inl (0 : Int32), s2))))
set_option maxRecDepth 100000 in
theorem sp_X7_follows {l : Launch} (hl : l.stackTraces = false) {g : Gy} {bd : Nat → Nat} {pre rst : va_W} {σ : MS} (a1 : Int32) : SpR l mX7_follows 4 0 0 mI g [.ref (bd 0), .int a1] (mkh g bd pre rst) σ (P_X7_follows σ a1) := by
  refine SpR.of hl (by decide) (Nat.le_of_ble_eq_true rfl) (fun rr H p e s m args below meth c A C hr hx => ?_)
  unfold P_X7_follows at H
  refine J.lw (lv' := [(0, .ref (bd 0)), (1, .int a1)]) ⟨rfl, rfl, trivial⟩ ?_
  refine J.aload_n (i := 0) C dX7_follows_0 rfl rfl ?_
  refine J.iload_n (i := 1) C dX7_follows_1 rfl rfl ?_
  refine J.callVBI (hp := (mkh g bd pre rst)) C rfl (sp_X7_lacks hl _) rfl kMl_X7_142 mdX7_lacks ⟨(Nat.le_of_ble_eq_true rfl), (Nat.le_of_ble_eq_true rfl)⟩ mk_0 rfl rfl (Nat.le_of_ble_eq_true rfl) dX7_follows_2 ⟨(Nat.le_of_ble_eq_true rfl), (Nat.le_of_ble_eq_true rfl)⟩ hx (Nat.le_of_ble_eq_true rfl) (Nat.le_of_ble_eq_true rfl) H (fun r2 s2 H => ?_)
  refine J.if_eqL (tgt := 10) C dX7_follows_5 (by decide) H (fun c_5 H => ?_) (fun c_5 H => ?_)
  · refine J.iconst C (-1) dX7_follows_10 (by decide) ?_
    refine J.istore_nL (i := 2) C dX7_follows_11 rfl (by decide) H (fun z11 H => ?_)
    refine J.iconst C (0) dX7_follows_12 (by decide) ?_
    refine J.istore_nL (i := 3) C dX7_follows_13 rfl (by decide) H (fun z13 H => ?_)
    refine J.widen (k := 0) (n := 0) (Nat.le_of_ble_eq_true rfl) (Nat.le_of_ble_eq_true rfl) ?_
    refine J.lw (lv' := [(0, .ref (bd 0)), (1, .int a1), (2, .int z11), (3, .int z13)]) ⟨rfl, rfl, rfl, rfl, trivial⟩ ?_
    exact lp_X7_follows_14 hl C hr hx  FU _ _ _ _  H
  · refine J.iconst C (0) dX7_follows_8 (by decide) ?_
    exact J.zretL C hr rfl (Nat.le_of_ble_eq_true rfl) (Nat.le_of_ble_eq_true rfl) dX7_follows_9 H

/-! X7_isSound -/
def B_X7_isSound_64 (k_64 : MS → Int32 → Int32 → Int32 → Res MS Int32) (σ : MS) (l1 : Int32) (l2 : Int32) (l3 : Int32) : Res MS Int32 := (if l3 = (-1 : Int32) then (gd l1 60 (gd (σ.2.1 6 l1.toNatClampNeg) 150 (if (l2 &&& ((σ.2.1 4 (σ.2.1 6 l1.toNatClampNeg).toNatClampNeg) ^^^ (-1 : Int32))) = 0 then (some (.inl (1 : Int32), σ)) else (some (.inl (0 : Int32), σ))))) else (gd l3 60 (gd (σ.2.1 11 l3.toNatClampNeg) 60 (gd (σ.2.1 6 (σ.2.1 11 l3.toNatClampNeg).toNatClampNeg) 150 (lt (l2 &&& (σ.2.1 4 (σ.2.1 6 (σ.2.1 11 l3.toNatClampNeg).toNatClampNeg).toNatClampNeg)) fun z87 => (gd l3 60 (lt (σ.2.1 9 l3.toNatClampNeg) fun z94 => (k_64 σ l1 z87 z94))))))))
set_option maxRecDepth 100000 in
theorem bl_X7_isSound_64 {l : Launch} (hl : l.stackTraces = false) {g : Gy} {bd : Nat → Nat} {pre rst : va_W} {p : Program} {e : Env} {s : State} {m : MethodId} {args : Array Value} {below : List Frame} {meth : Method} {c : Code} {A : Nat → Prop} (C : Cx p l s m args meth c g A yX7_isSound.cls cX7_isSound 4) (hr : meth.sig.returnType = some .boolean) (hx : ∀ x ∈ c.exceptionTable.toList, False) {rr : (Int32 ⊕ String) × MS} (k_64 : MS → Int32 → Int32 → Int32 → Res MS Int32) (hk_64 : ∀ (σ : MS) (l1 : Int32) (l2 : Int32) (l3 : Int32), k_64 σ l1 l2 l3 = some rr → J p l e (rmOf 4 0 0) s m args below meth c g A 4 0 0 (QR mI g A (mkh g bd pre rst) rr below args s 0 0) 64 [(0, .ref (bd 0)), (1, .int l1), (2, .int l2), (3, .int l3)] [] ((mkh g bd pre rst) σ)) (σ : MS) (l1 : Int32) (l2 : Int32) (l3 : Int32) (H : B_X7_isSound_64 k_64 σ l1 l2 l3 = some rr) : J p l e (rmOf 4 0 0) s m args below meth c g A 4 0 0 (QR mI g A (mkh g bd pre rst) rr below args s 0 0) 64 [(0, .ref (bd 0)), (1, .int l1), (2, .int l2), (3, .int l3)] [] ((mkh g bd pre rst) σ) := by
  unfold B_X7_isSound_64 at H
  refine J.iload_n (i := 3) C dX7_isSound_64 rfl rfl ?_
  refine J.iconst C (-1) dX7_isSound_65 (by decide) ?_
  refine J.icmp_eqL (tgt := 98) C dX7_isSound_66 (by decide) H (fun c_66 H => ?_) (fun c_66 H => ?_)
  · refine J.iload_n (i := 2) C dX7_isSound_98 rfl rfl ?_
    refine J.aload_n (i := 0) C dX7_isSound_99 rfl rfl ?_
    refine J.get C (pre.length + 0) 4 mk_0 rfl (by decide) kFl_X7_23 inB_X7 rfl dX7_isSound_100 ?_
    refine J.aload_n (i := 0) C dX7_isSound_103 rfl rfl ?_
    refine J.get C (pre.length + 0) 7 mk_0 rfl (by decide) kFl_X7_29 inB_X7 rfl dX7_isSound_104 ?_
    refine J.iload_n (i := 1) C dX7_isSound_107 rfl rfl ?_
    refine J.ialdL C (pre.length + 7) mk_7 dX7_isSound_108 H (fun H => ?_)
    refine J.ialdL C (pre.length + 5) mk_5 dX7_isSound_109 H (fun H => ?_)
    refine J.iconst C (-1) dX7_isSound_110 (by decide) ?_
    refine J.ixor C dX7_isSound_111 ?_
    refine J.iand C dX7_isSound_112 ?_
    refine J.if_neL (tgt := 120) C dX7_isSound_113 (by decide) H (fun c_113 H => ?_) (fun c_113 H => ?_)
    · refine J.iconst C (0) dX7_isSound_120 (by decide) ?_
      exact J.zretL C hr rfl (Nat.le_of_ble_eq_true rfl) (Nat.le_of_ble_eq_true rfl) dX7_isSound_121 H
    · refine J.iconst C (1) dX7_isSound_116 (by decide) ?_
      refine J.goto (tgt := 121) C dX7_isSound_117 (by decide) ?_
      exact J.zretL C hr rfl (Nat.le_of_ble_eq_true rfl) (Nat.le_of_ble_eq_true rfl) dX7_isSound_121 H
  · refine J.iload_n (i := 2) C dX7_isSound_69 rfl rfl ?_
    refine J.aload_n (i := 0) C dX7_isSound_70 rfl rfl ?_
    refine J.get C (pre.length + 0) 4 mk_0 rfl (by decide) kFl_X7_23 inB_X7 rfl dX7_isSound_71 ?_
    refine J.aload_n (i := 0) C dX7_isSound_74 rfl rfl ?_
    refine J.get C (pre.length + 0) 7 mk_0 rfl (by decide) kFl_X7_29 inB_X7 rfl dX7_isSound_75 ?_
    refine J.aload_n (i := 0) C dX7_isSound_78 rfl rfl ?_
    refine J.get C (pre.length + 0) 14 mk_0 rfl (by decide) kFl_X7_50 inB_X7 rfl dX7_isSound_79 ?_
    refine J.iload_n (i := 3) C dX7_isSound_82 rfl rfl ?_
    refine J.ialdL C (pre.length + 12) mk_12 dX7_isSound_83 H (fun H => ?_)
    refine J.ialdL C (pre.length + 7) mk_7 dX7_isSound_84 H (fun H => ?_)
    refine J.ialdL C (pre.length + 5) mk_5 dX7_isSound_85 H (fun H => ?_)
    refine J.iand C dX7_isSound_86 ?_
    refine J.istore_nL (i := 2) C dX7_isSound_87 rfl (by decide) H (fun z87 H => ?_)
    refine J.aload_n (i := 0) C dX7_isSound_88 rfl rfl ?_
    refine J.get C (pre.length + 0) 12 mk_0 rfl (by decide) kFl_X7_43 inB_X7 rfl dX7_isSound_89 ?_
    refine J.iload_n (i := 3) C dX7_isSound_92 rfl rfl ?_
    refine J.ialdL C (pre.length + 10) mk_10 dX7_isSound_93 H (fun H => ?_)
    refine J.istore_nL (i := 3) C dX7_isSound_94 rfl (by decide) H (fun z94 H => ?_)
    refine J.goto (tgt := 64) C dX7_isSound_95 (by decide) ?_
    refine J.widen (k := 0) (n := 0) (Nat.le_of_ble_eq_true rfl) (Nat.le_of_ble_eq_true rfl) ?_
    refine J.lw (lv' := [(0, .ref (bd 0)), (1, .int l1), (2, .int z87), (3, .int z94)]) ⟨rfl, rfl, rfl, rfl, trivial⟩ ?_
    exact hk_64 _ _ _ _  H
def L_X7_isSound_64 : Nat → MS → Int32 → Int32 → Int32 → Res MS Int32
  | 0, _, _, _, _ => none
  | n + 1, σ, l1, l2, l3 => B_X7_isSound_64 (L_X7_isSound_64 n) σ l1 l2 l3
set_option maxRecDepth 100000 in
theorem lp_X7_isSound_64 {l : Launch} (hl : l.stackTraces = false) {g : Gy} {bd : Nat → Nat} {pre rst : va_W} {p : Program} {e : Env} {s : State} {m : MethodId} {args : Array Value} {below : List Frame} {meth : Method} {c : Code} {A : Nat → Prop} (C : Cx p l s m args meth c g A yX7_isSound.cls cX7_isSound 4) (hr : meth.sig.returnType = some .boolean) (hx : ∀ x ∈ c.exceptionTable.toList, False) {rr : (Int32 ⊕ String) × MS} : ∀ (n : Nat) (σ : MS) (l1 : Int32) (l2 : Int32) (l3 : Int32), L_X7_isSound_64 n σ l1 l2 l3 = some rr → J p l e (rmOf 4 0 0) s m args below meth c g A 4 0 0 (QR mI g A (mkh g bd pre rst) rr below args s 0 0) 64 [(0, .ref (bd 0)), (1, .int l1), (2, .int l2), (3, .int l3)] [] ((mkh g bd pre rst) σ) := by
  intro n
  induction n with
  | zero => intro σ l1 l2 l3 H; cases H
  | succ n ih => intro σ l1 l2 l3 H; exact bl_X7_isSound_64 hl C hr hx _ ih _ _ _ _ H
def B_X7_isSound_14 (k_14 : MS → Int32 → Int32 → Int32 → Res MS Int32) (σ : MS) (l1 : Int32) (l2 : Int32) (l3 : Int32) : Res MS Int32 := (if (σ.1 1) ≤ l3 then (gd l1 60 (lt (σ.2.1 8 l1.toNatClampNeg) fun z63 => (L_X7_isSound_64 FU σ l1 l2 z63))) else (gd l3 60 (if (σ.2.1 7 l3.toNatClampNeg) = (80 : Int32) then (gd l3 60 (gd (σ.2.1 6 l3.toNatClampNeg) 150 (lt (l2 &&& (σ.2.1 4 (σ.2.1 6 l3.toNatClampNeg).toNatClampNeg)) fun z50 => (lt (l3 + (1 : Int32)) fun z51 => (k_14 σ l1 z50 z51))))) else (lt (l2 &&& (-1 : Int32)) fun z50 => (lt (l3 + (1 : Int32)) fun z51 => (k_14 σ l1 z50 z51))))))
set_option maxRecDepth 100000 in
theorem bl_X7_isSound_14 {l : Launch} (hl : l.stackTraces = false) {g : Gy} {bd : Nat → Nat} {pre rst : va_W} {p : Program} {e : Env} {s : State} {m : MethodId} {args : Array Value} {below : List Frame} {meth : Method} {c : Code} {A : Nat → Prop} (C : Cx p l s m args meth c g A yX7_isSound.cls cX7_isSound 4) (hr : meth.sig.returnType = some .boolean) (hx : ∀ x ∈ c.exceptionTable.toList, False) {rr : (Int32 ⊕ String) × MS} (k_14 : MS → Int32 → Int32 → Int32 → Res MS Int32) (hk_14 : ∀ (σ : MS) (l1 : Int32) (l2 : Int32) (l3 : Int32), k_14 σ l1 l2 l3 = some rr → J p l e (rmOf 4 0 0) s m args below meth c g A 4 0 0 (QR mI g A (mkh g bd pre rst) rr below args s 0 0) 14 [(0, .ref (bd 0)), (1, .int l1), (2, .int l2), (3, .int l3)] [] ((mkh g bd pre rst) σ)) (σ : MS) (l1 : Int32) (l2 : Int32) (l3 : Int32) (H : B_X7_isSound_14 k_14 σ l1 l2 l3 = some rr) : J p l e (rmOf 4 0 0) s m args below meth c g A 4 0 0 (QR mI g A (mkh g bd pre rst) rr below args s 0 0) 14 [(0, .ref (bd 0)), (1, .int l1), (2, .int l2), (3, .int l3)] [] ((mkh g bd pre rst) σ) := by
  unfold B_X7_isSound_14 at H
  refine J.iload_n (i := 3) C dX7_isSound_14 rfl rfl ?_
  refine J.aload_n (i := 0) C dX7_isSound_15 rfl rfl ?_
  refine J.get C (pre.length + 0) 11 mk_0 rfl (by decide) kFl_X7_94 inB_X7 rfl dX7_isSound_16 ?_
  refine J.icmp_geL (tgt := 57) C dX7_isSound_19 (by decide) H (fun c_19 H => ?_) (fun c_19 H => ?_)
  · refine J.aload_n (i := 0) C dX7_isSound_57 rfl rfl ?_
    refine J.get C (pre.length + 0) 9 mk_0 rfl (by decide) kFl_X7_35 inB_X7 rfl dX7_isSound_58 ?_
    refine J.iload_n (i := 1) C dX7_isSound_61 rfl rfl ?_
    refine J.ialdL C (pre.length + 9) mk_9 dX7_isSound_62 H (fun H => ?_)
    refine J.istore_nL (i := 3) C dX7_isSound_63 rfl (by decide) H (fun z63 H => ?_)
    refine J.widen (k := 0) (n := 0) (Nat.le_of_ble_eq_true rfl) (Nat.le_of_ble_eq_true rfl) ?_
    refine J.lw (lv' := [(0, .ref (bd 0)), (1, .int l1), (2, .int l2), (3, .int z63)]) ⟨rfl, rfl, rfl, rfl, trivial⟩ ?_
    exact lp_X7_isSound_64 hl C hr hx  FU _ _ _ _  H
  · refine J.iload_n (i := 2) C dX7_isSound_22 rfl rfl ?_
    refine J.aload_n (i := 0) C dX7_isSound_23 rfl rfl ?_
    refine J.get C (pre.length + 0) 8 mk_0 rfl (by decide) kFl_X7_32 inB_X7 rfl dX7_isSound_24 ?_
    refine J.iload_n (i := 3) C dX7_isSound_27 rfl rfl ?_
    refine J.caldL C (pre.length + 8) mk_8 dX7_isSound_28 H (fun H => ?_)
    refine J.bipush C (80) dX7_isSound_29 (by decide) ?_
    refine J.icmp_neL (tgt := 48) C dX7_isSound_31 (by decide) H (fun c_31 H => ?_) (fun c_31 H => ?_)
    · refine J.iconst C (-1) dX7_isSound_48 (by decide) ?_
      refine J.iand C dX7_isSound_49 ?_
      refine J.istore_nL (i := 2) C dX7_isSound_50 rfl (by decide) H (fun z50 H => ?_)
      refine J.iincL C (l3 + (1 : Int32)) dX7_isSound_51 rfl rfl (by decide) H (fun z51 H => ?_)
      refine J.goto (tgt := 14) C dX7_isSound_54 (by decide) ?_
      refine J.widen (k := 0) (n := 0) (Nat.le_of_ble_eq_true rfl) (Nat.le_of_ble_eq_true rfl) ?_
      refine J.lw (lv' := [(0, .ref (bd 0)), (1, .int l1), (2, .int z50), (3, .int z51)]) ⟨rfl, rfl, rfl, rfl, trivial⟩ ?_
      exact hk_14 _ _ _ _  H
    · refine J.aload_n (i := 0) C dX7_isSound_34 rfl rfl ?_
      refine J.get C (pre.length + 0) 4 mk_0 rfl (by decide) kFl_X7_23 inB_X7 rfl dX7_isSound_35 ?_
      refine J.aload_n (i := 0) C dX7_isSound_38 rfl rfl ?_
      refine J.get C (pre.length + 0) 7 mk_0 rfl (by decide) kFl_X7_29 inB_X7 rfl dX7_isSound_39 ?_
      refine J.iload_n (i := 3) C dX7_isSound_42 rfl rfl ?_
      refine J.ialdL C (pre.length + 7) mk_7 dX7_isSound_43 H (fun H => ?_)
      refine J.ialdL C (pre.length + 5) mk_5 dX7_isSound_44 H (fun H => ?_)
      refine J.goto (tgt := 49) C dX7_isSound_45 (by decide) ?_
      refine J.iand C dX7_isSound_49 ?_
      refine J.istore_nL (i := 2) C dX7_isSound_50 rfl (by decide) H (fun z50 H => ?_)
      refine J.iincL C (l3 + (1 : Int32)) dX7_isSound_51 rfl rfl (by decide) H (fun z51 H => ?_)
      refine J.goto (tgt := 14) C dX7_isSound_54 (by decide) ?_
      refine J.widen (k := 0) (n := 0) (Nat.le_of_ble_eq_true rfl) (Nat.le_of_ble_eq_true rfl) ?_
      refine J.lw (lv' := [(0, .ref (bd 0)), (1, .int l1), (2, .int z50), (3, .int z51)]) ⟨rfl, rfl, rfl, rfl, trivial⟩ ?_
      exact hk_14 _ _ _ _  H
def L_X7_isSound_14 : Nat → MS → Int32 → Int32 → Int32 → Res MS Int32
  | 0, _, _, _, _ => none
  | n + 1, σ, l1, l2, l3 => B_X7_isSound_14 (L_X7_isSound_14 n) σ l1 l2 l3
set_option maxRecDepth 100000 in
theorem lp_X7_isSound_14 {l : Launch} (hl : l.stackTraces = false) {g : Gy} {bd : Nat → Nat} {pre rst : va_W} {p : Program} {e : Env} {s : State} {m : MethodId} {args : Array Value} {below : List Frame} {meth : Method} {c : Code} {A : Nat → Prop} (C : Cx p l s m args meth c g A yX7_isSound.cls cX7_isSound 4) (hr : meth.sig.returnType = some .boolean) (hx : ∀ x ∈ c.exceptionTable.toList, False) {rr : (Int32 ⊕ String) × MS} : ∀ (n : Nat) (σ : MS) (l1 : Int32) (l2 : Int32) (l3 : Int32), L_X7_isSound_14 n σ l1 l2 l3 = some rr → J p l e (rmOf 4 0 0) s m args below meth c g A 4 0 0 (QR mI g A (mkh g bd pre rst) rr below args s 0 0) 14 [(0, .ref (bd 0)), (1, .int l1), (2, .int l2), (3, .int l3)] [] ((mkh g bd pre rst) σ) := by
  intro n
  induction n with
  | zero => intro σ l1 l2 l3 H; cases H
  | succ n ih => intro σ l1 l2 l3 H; exact bl_X7_isSound_14 hl C hr hx _ ih _ _ _ _ H
abbrev mX7_isSound : MD := (yX7_isSound, cX7_isSound, 4, some .boolean)
theorem mdX7_isSound : MDv mX7_isSound RX7 1 := ⟨kIm_X7_isSound, kSe_X7_isSound, kIn_X7, kCo_X7_isSound, by decide +kernel⟩
def P_X7_isSound (σ : MS) (a1 : Int32) : Res MS Int32 := (bd (P_X7_lacksLine σ a1) fun r2 s2 => (if r2 = 0 then (lt (-1 : Int32) fun z11 => (lt (0 : Int32) fun z13 => (L_X7_isSound_14 FU s2 a1 z11 z13))) else (some (.inl (0 : Int32), s2))))
set_option maxRecDepth 100000 in
theorem sp_X7_isSound {l : Launch} (hl : l.stackTraces = false) {g : Gy} {bd : Nat → Nat} {pre rst : va_W} {σ : MS} (a1 : Int32) : SpR l mX7_isSound 4 0 0 mI g [.ref (bd 0), .int a1] (mkh g bd pre rst) σ (P_X7_isSound σ a1) := by
  refine SpR.of hl (by decide) (Nat.le_of_ble_eq_true rfl) (fun rr H p e s m args below meth c A C hr hx => ?_)
  unfold P_X7_isSound at H
  refine J.lw (lv' := [(0, .ref (bd 0)), (1, .int a1)]) ⟨rfl, rfl, trivial⟩ ?_
  refine J.aload_n (i := 0) C dX7_isSound_0 rfl rfl ?_
  refine J.iload_n (i := 1) C dX7_isSound_1 rfl rfl ?_
  refine J.callVBI (hp := (mkh g bd pre rst)) C rfl (sp_X7_lacksLine hl _) rfl kMl_X7_193 mdX7_lacksLine ⟨(Nat.le_of_ble_eq_true rfl), (Nat.le_of_ble_eq_true rfl)⟩ mk_0 rfl rfl (Nat.le_of_ble_eq_true rfl) dX7_isSound_2 ⟨(Nat.le_of_ble_eq_true rfl), (Nat.le_of_ble_eq_true rfl)⟩ hx (Nat.le_of_ble_eq_true rfl) (Nat.le_of_ble_eq_true rfl) H (fun r2 s2 H => ?_)
  refine J.if_eqL (tgt := 10) C dX7_isSound_5 (by decide) H (fun c_5 H => ?_) (fun c_5 H => ?_)
  · refine J.iconst C (-1) dX7_isSound_10 (by decide) ?_
    refine J.istore_nL (i := 2) C dX7_isSound_11 rfl (by decide) H (fun z11 H => ?_)
    refine J.iconst C (0) dX7_isSound_12 (by decide) ?_
    refine J.istore_nL (i := 3) C dX7_isSound_13 rfl (by decide) H (fun z13 H => ?_)
    refine J.widen (k := 0) (n := 0) (Nat.le_of_ble_eq_true rfl) (Nat.le_of_ble_eq_true rfl) ?_
    refine J.lw (lv' := [(0, .ref (bd 0)), (1, .int a1), (2, .int z11), (3, .int z13)]) ⟨rfl, rfl, rfl, rfl, trivial⟩ ?_
    exact lp_X7_isSound_14 hl C hr hx  FU _ _ _ _  H
  · refine J.iconst C (0) dX7_isSound_8 (by decide) ?_
    exact J.zretL C hr rfl (Nat.le_of_ble_eq_true rfl) (Nat.le_of_ble_eq_true rfl) dX7_isSound_9 H

/-! X7_share -/
abbrev mX7_share : MD := (yX7_share, cX7_share, 2, some .float)
theorem mdX7_share : MDv mX7_share RX7 1 := ⟨kIm_X7_share, kSe_X7_share, kIn_X7, kCo_X7_share, by decide +kernel⟩
def P_X7_share (σ : MS) (a1 : Int32) : Res MS UInt32 := (bd (P_X7_lacks σ a1) fun r2 s2 => (if r2 = 0 then (gd a1 150 (gc ((FP.fdiv (FP.i2f (F_J6_bitCount_0f7a4 (s2.2.1 4 a1.toNatClampNeg))) (1107296256 : UInt32)) &&& 0x7fffffff ≤ (0x7f800000 : UInt32)) (some (.inl (FP.fdiv (FP.i2f (F_J6_bitCount_0f7a4 (s2.2.1 4 a1.toNatClampNeg))) (1107296256 : UInt32)), s2)))) else (some (.inl (0 : UInt32), s2))))
set_option maxRecDepth 100000 in
theorem sp_X7_share {l : Launch} (hl : l.stackTraces = false) {g : Gy} {bd : Nat → Nat} {pre rst : va_W} {σ : MS} (a1 : Int32) : SpR l mX7_share 4 0 0 mF g [.ref (bd 0), .int a1] (mkh g bd pre rst) σ (P_X7_share σ a1) := by
  refine SpR.of hl (by decide) (Nat.le_of_ble_eq_true rfl) (fun rr H p e s m args below meth c A C hr hx => ?_)
  unfold P_X7_share at H
  refine J.lw (lv' := [(0, .ref (bd 0)), (1, .int a1)]) ⟨rfl, rfl, trivial⟩ ?_
  refine J.aload_n (i := 0) C dX7_share_0 rfl rfl ?_
  refine J.iload_n (i := 1) C dX7_share_1 rfl rfl ?_
  refine J.callVBI (hp := (mkh g bd pre rst)) C rfl (sp_X7_lacks hl _) rfl kMl_X7_142 mdX7_lacks ⟨(Nat.le_of_ble_eq_true rfl), (Nat.le_of_ble_eq_true rfl)⟩ mk_0 rfl rfl (Nat.le_of_ble_eq_true rfl) dX7_share_2 ⟨(Nat.le_of_ble_eq_true rfl), (Nat.le_of_ble_eq_true rfl)⟩ hx (Nat.le_of_ble_eq_true rfl) (Nat.le_of_ble_eq_true rfl) H (fun r2 s2 H => ?_)
  refine J.if_eqL (tgt := 12) C dX7_share_5 (by decide) H (fun c_5 H => ?_) (fun c_5 H => ?_)
  · refine J.aload_n (i := 0) C dX7_share_12 rfl rfl ?_
    refine J.get C (pre.length + 0) 4 mk_0 rfl (by decide) kFl_X7_23 inB_X7 rfl dX7_share_13 ?_
    refine J.iload_n (i := 1) C dX7_share_16 rfl rfl ?_
    refine J.ialdL C (pre.length + 5) mk_5 dX7_share_17 H (fun H => ?_)
    refine J.callSI C (sp_J6_bitCount_0f7a4 hl _) rfl kMl_X7_233 mdJ6_bitCount_0f7a4 ⟨(Nat.le_of_ble_eq_true rfl), (Nat.le_of_ble_eq_true rfl)⟩ rfl (Nat.le_of_ble_eq_true rfl) dX7_share_18 ⟨(Nat.le_of_ble_eq_true rfl), (Nat.le_of_ble_eq_true rfl)⟩ ?_
    refine J.i2f C dX7_share_21 ?_
    refine J.ldcf C kCn_X7_241 dX7_share_22 ?_
    obtain ⟨hz_24, H⟩ := gc_some H
    refine J.fdiv C dX7_share_24 hz_24 ?_
    exact J.fretL C hr (Nat.le_of_ble_eq_true rfl) (Nat.le_of_ble_eq_true rfl) dX7_share_25 H
  · refine J.fconst0 C dX7_share_8 ?_
    refine J.goto (tgt := 25) C dX7_share_9 (by decide) ?_
    exact J.fretL C hr (Nat.le_of_ble_eq_true rfl) (Nat.le_of_ble_eq_true rfl) dX7_share_25 H

/-! X7_meanSize -/
def B_X7_meanSize_24 (k_24 : MS → Int32 → Int32 → Res MS UInt64) (σ : MS) (l1 : Int32) (l2 : Int32) : Res MS UInt64 := (if (σ.1 1) ≤ l2 then (gc ((FP.ddiv (FP.i2d l1) (FP.i2d (σ.1 1))) &&& 0x7fffffffffffffff ≤ (0x7ff0000000000000 : UInt64)) (some (.inl (FP.ddiv (FP.i2d l1) (FP.i2d (σ.1 1))), σ))) else (gd l2 60 (gd (σ.2.1 6 l2.toNatClampNeg) 150 (lt (l1 + (σ.2.1 3 (σ.2.1 6 l2.toNatClampNeg).toNatClampNeg)) fun z45 => (lt (l2 + (1 : Int32)) fun z46 => (k_24 σ z45 z46))))))
set_option maxRecDepth 100000 in
theorem bl_X7_meanSize_24 {l : Launch} (hl : l.stackTraces = false) {g : Gy} {bd : Nat → Nat} {pre rst : va_W} {p : Program} {e : Env} {s : State} {m : MethodId} {args : Array Value} {below : List Frame} {meth : Method} {c : Code} {A : Nat → Prop} (C : Cx p l s m args meth c g A yX7_meanSize.cls cX7_meanSize 3) (hr : meth.sig.returnType = some .double) (hx : ∀ x ∈ c.exceptionTable.toList, False) {rr : (UInt64 ⊕ String) × MS} (k_24 : MS → Int32 → Int32 → Res MS UInt64) (hk_24 : ∀ (σ : MS) (l1 : Int32) (l2 : Int32), k_24 σ l1 l2 = some rr → J p l e (rmOf 2 0 0) s m args below meth c g A 3 0 0 (QR mD g A (mkh g bd pre rst) rr below args s 0 0) 24 [(0, .ref (bd 0)), (1, .int l1), (2, .int l2)] [] ((mkh g bd pre rst) σ)) (σ : MS) (l1 : Int32) (l2 : Int32) (H : B_X7_meanSize_24 k_24 σ l1 l2 = some rr) : J p l e (rmOf 2 0 0) s m args below meth c g A 3 0 0 (QR mD g A (mkh g bd pre rst) rr below args s 0 0) 24 [(0, .ref (bd 0)), (1, .int l1), (2, .int l2)] [] ((mkh g bd pre rst) σ) := by
  unfold B_X7_meanSize_24 at H
  refine J.iload_n (i := 2) C dX7_meanSize_24 rfl rfl ?_
  refine J.aload_n (i := 0) C dX7_meanSize_25 rfl rfl ?_
  refine J.get C (pre.length + 0) 11 mk_0 rfl (by decide) kFl_X7_94 inB_X7 rfl dX7_meanSize_26 ?_
  refine J.icmp_geL (tgt := 52) C dX7_meanSize_29 (by decide) H (fun c_29 H => ?_) (fun c_29 H => ?_)
  · refine J.iload_n (i := 1) C dX7_meanSize_52 rfl rfl ?_
    refine J.i2d C dX7_meanSize_53 ?_
    refine J.aload_n (i := 0) C dX7_meanSize_54 rfl rfl ?_
    refine J.get C (pre.length + 0) 11 mk_0 rfl (by decide) kFl_X7_94 inB_X7 rfl dX7_meanSize_55 ?_
    refine J.i2d C dX7_meanSize_58 ?_
    obtain ⟨hz_59, H⟩ := gc_some H
    refine J.ddiv C dX7_meanSize_59 hz_59 ?_
    exact J.dretL C hr (Nat.le_of_ble_eq_true rfl) (Nat.le_of_ble_eq_true rfl) dX7_meanSize_60 H
  · refine J.iload_n (i := 1) C dX7_meanSize_32 rfl rfl ?_
    refine J.aload_n (i := 0) C dX7_meanSize_33 rfl rfl ?_
    refine J.get C (pre.length + 0) 3 mk_0 rfl (by decide) kFl_X7_20 inB_X7 rfl dX7_meanSize_34 ?_
    refine J.aload_n (i := 0) C dX7_meanSize_37 rfl rfl ?_
    refine J.get C (pre.length + 0) 7 mk_0 rfl (by decide) kFl_X7_29 inB_X7 rfl dX7_meanSize_38 ?_
    refine J.iload_n (i := 2) C dX7_meanSize_41 rfl rfl ?_
    refine J.ialdL C (pre.length + 7) mk_7 dX7_meanSize_42 H (fun H => ?_)
    refine J.ialdL C (pre.length + 4) mk_4 dX7_meanSize_43 H (fun H => ?_)
    refine J.iadd C dX7_meanSize_44 ?_
    refine J.istore_nL (i := 1) C dX7_meanSize_45 rfl (by decide) H (fun z45 H => ?_)
    refine J.iincL C (l2 + (1 : Int32)) dX7_meanSize_46 rfl rfl (by decide) H (fun z46 H => ?_)
    refine J.goto (tgt := 24) C dX7_meanSize_49 (by decide) ?_
    refine J.widen (k := 0) (n := 0) (Nat.le_of_ble_eq_true rfl) (Nat.le_of_ble_eq_true rfl) ?_
    refine J.lw (lv' := [(0, .ref (bd 0)), (1, .int z45), (2, .int z46)]) ⟨rfl, rfl, rfl, trivial⟩ ?_
    exact hk_24 _ _ _  H
def L_X7_meanSize_24 : Nat → MS → Int32 → Int32 → Res MS UInt64
  | 0, _, _, _ => none
  | n + 1, σ, l1, l2 => B_X7_meanSize_24 (L_X7_meanSize_24 n) σ l1 l2
set_option maxRecDepth 100000 in
theorem lp_X7_meanSize_24 {l : Launch} (hl : l.stackTraces = false) {g : Gy} {bd : Nat → Nat} {pre rst : va_W} {p : Program} {e : Env} {s : State} {m : MethodId} {args : Array Value} {below : List Frame} {meth : Method} {c : Code} {A : Nat → Prop} (C : Cx p l s m args meth c g A yX7_meanSize.cls cX7_meanSize 3) (hr : meth.sig.returnType = some .double) (hx : ∀ x ∈ c.exceptionTable.toList, False) {rr : (UInt64 ⊕ String) × MS} : ∀ (n : Nat) (σ : MS) (l1 : Int32) (l2 : Int32), L_X7_meanSize_24 n σ l1 l2 = some rr → J p l e (rmOf 2 0 0) s m args below meth c g A 3 0 0 (QR mD g A (mkh g bd pre rst) rr below args s 0 0) 24 [(0, .ref (bd 0)), (1, .int l1), (2, .int l2)] [] ((mkh g bd pre rst) σ) := by
  intro n
  induction n with
  | zero => intro σ l1 l2 H; cases H
  | succ n ih => intro σ l1 l2 H; exact bl_X7_meanSize_24 hl C hr hx _ ih _ _ _ H
abbrev mX7_meanSize : MD := (yX7_meanSize, cX7_meanSize, 3, some .double)
theorem mdX7_meanSize : MDv mX7_meanSize RX7 0 := ⟨kIm_X7_meanSize, kSe_X7_meanSize, kIn_X7, kCo_X7_meanSize, by decide +kernel⟩
def P_X7_meanSize (σ : MS)  : Res MS UInt64 := (if (σ.1 1) = 0 then (bd (P_X7_raises σ (1 : Int32)) fun r9 s9 => (some (.inl (0 : UInt64), s9))) else (lt (tI σ 5 (0 : Int32)) fun s17 => (lt (0 : Int32) fun z21 => (lt (0 : Int32) fun z23 => (L_X7_meanSize_24 FU s17 z21 z23)))))
set_option maxRecDepth 100000 in
theorem sp_X7_meanSize {l : Launch} (hl : l.stackTraces = false) {g : Gy} {bd : Nat → Nat} {pre rst : va_W} {σ : MS}  : SpR l mX7_meanSize 2 0 0 mD g [.ref (bd 0)] (mkh g bd pre rst) σ (P_X7_meanSize σ ) := by
  refine SpR.of hl (by decide) (Nat.le_of_ble_eq_true rfl) (fun rr H p e s m args below meth c A C hr hx => ?_)
  unfold P_X7_meanSize at H
  refine J.lw (lv' := [(0, .ref (bd 0))]) ⟨rfl, trivial⟩ ?_
  refine J.aload_n (i := 0) C dX7_meanSize_0 rfl rfl ?_
  refine J.get C (pre.length + 0) 11 mk_0 rfl (by decide) kFl_X7_94 inB_X7 rfl dX7_meanSize_1 ?_
  refine J.if_neL (tgt := 15) C dX7_meanSize_4 (by decide) H (fun c_4 H => ?_) (fun c_4 H => ?_)
  · refine J.aload_n (i := 0) C dX7_meanSize_15 rfl rfl ?_
    refine J.iconst C (0) dX7_meanSize_16 (by decide) ?_
    refine J.putL (hp := (mkh g bd pre rst)) C (pre.length + 0) 22 mk_0 rfl (by decide) kFl_X7_84 inB_X7 tyX7 tyX7_ok nmX7 rfl rfl rfl rfl (Nat.le_of_ble_eq_true rfl) dX7_meanSize_17 (mkI_5 _) H (fun s17 H => ?_)
    refine J.iconst C (0) dX7_meanSize_20 (by decide) ?_
    refine J.istore_nL (i := 1) C dX7_meanSize_21 rfl (by decide) H (fun z21 H => ?_)
    refine J.iconst C (0) dX7_meanSize_22 (by decide) ?_
    refine J.istore_nL (i := 2) C dX7_meanSize_23 rfl (by decide) H (fun z23 H => ?_)
    refine J.widen (k := 0) (n := 0) (Nat.le_of_ble_eq_true rfl) (Nat.le_of_ble_eq_true rfl) ?_
    refine J.lw (lv' := [(0, .ref (bd 0)), (1, .int z21), (2, .int z23)]) ⟨rfl, rfl, rfl, trivial⟩ ?_
    exact lp_X7_meanSize_24 hl C hr hx  FU _ _ _  H
  · refine J.aload_n (i := 0) C dX7_meanSize_7 rfl rfl ?_
    refine J.iconst C (1) dX7_meanSize_8 (by decide) ?_
    refine J.callVBI (hp := (mkh g bd pre rst)) C rfl (sp_X7_raises hl _) rfl kMl_X7_132 mdX7_raises ⟨(Nat.le_of_ble_eq_true rfl), (Nat.le_of_ble_eq_true rfl)⟩ mk_0 rfl rfl (Nat.le_of_ble_eq_true rfl) dX7_meanSize_9 ⟨(Nat.le_of_ble_eq_true rfl), (Nat.le_of_ble_eq_true rfl)⟩ hx (Nat.le_of_ble_eq_true rfl) (Nat.le_of_ble_eq_true rfl) H (fun r9 s9 H => ?_)
    refine J.pop C dX7_meanSize_12 rfl ?_
    refine J.dconst0 C dX7_meanSize_13 ?_
    exact J.dretL C hr (Nat.le_of_ble_eq_true rfl) (Nat.le_of_ble_eq_true rfl) dX7_meanSize_14 H

