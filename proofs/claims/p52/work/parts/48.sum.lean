/-! L_sum -/
def B_L_sum_164  (k_164 : DS → Int64 → Int32 → Res DS Int64) (σ : DS) (l1 : Int64) (l3 : Int32) : Res DS Int64 := (if (F_X6_boxes σ ) ≤ l3 then (some (.inl l1, σ)) else (bd (P_L_box σ l3 (1 : Int32)) fun r180 s180 => (bd (P_L_box s180 l3 (0 : Int32)) fun r191 s191 => (lt ((((31 : Int64) * l1) + (r180).toInt64) + ((3 : Int64) * (r191).toInt64)) fun z197 => (lt (l3 + (1 : Int32)) fun z198 => (k_164 s191 z197 z198))))))
set_option maxRecDepth 100000 in
theorem bl_L_sum_164 {l : Launch} (hl : l.stackTraces = false) {p : Program} {e : Env} {s : State} {m : MethodId} {args : Array Value} {below : List Frame} {meth : Method} {c : Code} {g : Gy} {ad : Nat → Nat} {rst : va_W} {A : Nat → Prop} (C : Cx p l s m args meth c g A yL_sum.cls cL_sum 4) (hr : meth.sig.returnType = some .long) (hx : ∀ x ∈ c.exceptionTable.toList, False) {rr : (Int64 ⊕ String) × DS} (n : Nat) (k_164 : DS → Int64 → Int32 → Res DS Int64) (hk_164 : ∀ (cells slots : Nat), cells + (n * 2 + 0) ≤ 971 → slots + (n * 12 + 0) ≤ 5826 → ∀ (σ : DS) (l1 : Int64) (l3 : Int32), k_164 σ l1 l3 = some rr → J p l e (rmOf 10 971 5826) s m args below meth c g A 4 cells slots (QR mL g A (dkh g ad rst) rr below args s 971 5826) 164 [(0, .ref (ad 0)), (1, .long l1), (3, .int l3)] [] (dkh g ad rst σ)) (cells slots : Nat) (hcl : cells + (n * 2 + 2) ≤ 971) (hsl : slots + (n * 12 + 12) ≤ 5826) (σ : DS) (l1 : Int64) (l3 : Int32) (H : B_L_sum_164  k_164 σ l1 l3 = some rr) : J p l e (rmOf 10 971 5826) s m args below meth c g A 4 cells slots (QR mL g A (dkh g ad rst) rr below args s 971 5826) 164 [(0, .ref (ad 0)), (1, .long l1), (3, .int l3)] [] (dkh g ad rst σ) := by
  unfold B_L_sum_164 at H
  refine J.iload_n (i := 3) C dL_sum_164 rfl rfl ?_
  refine J.aload_n (i := 0) C dL_sum_165 rfl rfl ?_
  refine J.callVI C (sp_X6_boxes hl ) rfl kMl_L_166 mdX6_boxes ⟨(Nat.le_of_ble_eq_true rfl), (Nat.le_of_ble_eq_true rfl)⟩ dk_0 rfl rfl (Nat.le_of_ble_eq_true rfl) dL_sum_166 ⟨by show _ ≤ (971 : Nat); omega, by show _ ≤ (5826 : Nat); omega⟩ ?_
  refine J.icmp_geL (tgt := 204) C dL_sum_169 (by decide) H (fun c_169 H => ?_) (fun c_169 H => ?_)
  · refine J.lload_n (i := 1) C dL_sum_204 rfl rfl ?_
    exact J.lretL C hr (by omega) (by omega) dL_sum_205 H
  · refine J.ldc2 C kCL_L_159 dL_sum_172 ?_
    refine J.lload_n (i := 1) C dL_sum_175 rfl rfl ?_
    refine J.lmul C dL_sum_176 ?_
    refine J.aload_n (i := 0) C dL_sum_177 rfl rfl ?_
    refine J.iload_n (i := 3) C dL_sum_178 rfl rfl ?_
    refine J.iconst C (1) dL_sum_179 (by decide) ?_
    refine J.callH9 (hp := (dkh g ad rst)) C rfl (sp_L_box hl _ _) rfl kMl_L_195 mdL_box ⟨(Nat.le_of_ble_eq_true rfl), (Nat.le_of_ble_eq_true rfl)⟩ rfl (Nat.le_of_ble_eq_true rfl) dL_sum_180 ⟨by show _ ≤ (971 : Nat); omega, by show _ ≤ (5826 : Nat); omega⟩ H (fun E z e9 => J.outR C hx (by omega) (by omega) e9) (fun r180 s180 H => ?_)
    refine J.i2l C dL_sum_183 ?_
    refine J.ladd C dL_sum_184 ?_
    refine J.ldc2 C kCL_L_185 dL_sum_185 ?_
    refine J.aload_n (i := 0) C dL_sum_188 rfl rfl ?_
    refine J.iload_n (i := 3) C dL_sum_189 rfl rfl ?_
    refine J.iconst C (0) dL_sum_190 (by decide) ?_
    refine J.callH9 (hp := (dkh g ad rst)) C rfl (sp_L_box hl _ _) rfl kMl_L_195 mdL_box ⟨(Nat.le_of_ble_eq_true rfl), (Nat.le_of_ble_eq_true rfl)⟩ rfl (Nat.le_of_ble_eq_true rfl) dL_sum_191 ⟨by show _ ≤ (971 : Nat); omega, by show _ ≤ (5826 : Nat); omega⟩ H (fun E z e9 => J.outR C hx (by omega) (by omega) e9) (fun r191 s191 H => ?_)
    refine J.i2l C dL_sum_194 ?_
    refine J.lmul C dL_sum_195 ?_
    refine J.ladd C dL_sum_196 ?_
    refine J.lstore_nL (i := 1) C dL_sum_197 rfl (by decide) H (fun z197 H => ?_)
    refine J.iincL C (l3 + (1 : Int32)) dL_sum_198 rfl rfl (by decide) H (fun z198 H => ?_)
    refine J.goto (tgt := 164) C dL_sum_201 (by decide) ?_
    refine J.lw (lv' := [(0, .ref (ad 0)), (1, .long z197), (3, .int z198)]) ⟨rfl, rfl, rfl, trivial⟩ ?_
    exact hk_164 _ _ (by omega) (by omega) _ _ _ H
def L_L_sum_164 : Nat → DS → Int64 → Int32 → Res DS Int64
  | 0, _, _, _ => none
  | n + 1, σ, l1, l3 => B_L_sum_164 (L_L_sum_164 n) σ l1 l3
set_option maxRecDepth 100000 in
theorem lp_L_sum_164 {l : Launch} (hl : l.stackTraces = false) {p : Program} {e : Env} {s : State} {m : MethodId} {args : Array Value} {below : List Frame} {meth : Method} {c : Code} {g : Gy} {ad : Nat → Nat} {rst : va_W} {A : Nat → Prop} (C : Cx p l s m args meth c g A yL_sum.cls cL_sum 4) (hr : meth.sig.returnType = some .long) (hx : ∀ x ∈ c.exceptionTable.toList, False) {rr : (Int64 ⊕ String) × DS} : ∀ (n : Nat) (cells slots : Nat), cells + (n * 2 + 0) ≤ 971 → slots + (n * 12 + 0) ≤ 5826 → ∀ (σ : DS) (l1 : Int64) (l3 : Int32), L_L_sum_164 n σ l1 l3 = some rr → J p l e (rmOf 10 971 5826) s m args below meth c g A 4 cells slots (QR mL g A (dkh g ad rst) rr below args s 971 5826) 164 [(0, .ref (ad 0)), (1, .long l1), (3, .int l3)] [] (dkh g ad rst σ) := by
  intro n
  induction n with
  | zero => intro cells slots _ _ σ l1 l3 H; cases H
  | succ n ih => intro cells slots hcl hsl σ l1 l3 H; exact bl_L_sum_164 hl C hr hx n _ ih _ _ (by omega) (by omega) _ _ _ H
def B_L_sum_98  (k_98 : DS → Int64 → Int32 → Res DS Int64) (σ : DS) (l1 : Int64) (l3 : Int32) : Res DS Int64 := (if (F_X6_lines σ ) ≤ l3 then (lt (0 : Int32) fun z163 => (L_L_sum_164 61 σ l1 z163)) else (bd (P_L_line σ l3 (0 : Int32)) fun r114 s114 => (bd (P_L_line s114 l3 (1 : Int32)) fun r125 s125 => (bd (P_L_line s125 l3 (2 : Int32)) fun r137 s137 => (bd (P_L_line s137 l3 (3 : Int32)) fun r149 s149 => (lt ((((((31 : Int64) * l1) + (r114).toInt64) + ((3 : Int64) * (r125).toInt64)) + ((5 : Int64) * (r137).toInt64)) + ((7 : Int64) * (r149).toInt64)) fun z155 => (lt (l3 + (1 : Int32)) fun z156 => (k_98 s149 z155 z156))))))))
set_option maxRecDepth 100000 in
theorem bl_L_sum_98 {l : Launch} (hl : l.stackTraces = false) {p : Program} {e : Env} {s : State} {m : MethodId} {args : Array Value} {below : List Frame} {meth : Method} {c : Code} {g : Gy} {ad : Nat → Nat} {rst : va_W} {A : Nat → Prop} (C : Cx p l s m args meth c g A yL_sum.cls cL_sum 4) (hr : meth.sig.returnType = some .long) (hx : ∀ x ∈ c.exceptionTable.toList, False) {rr : (Int64 ⊕ String) × DS} (n : Nat) (k_98 : DS → Int64 → Int32 → Res DS Int64) (hk_98 : ∀ (cells slots : Nat), cells + (n * 4 + 122) ≤ 971 → slots + (n * 24 + 732) ≤ 5826 → ∀ (σ : DS) (l1 : Int64) (l3 : Int32), k_98 σ l1 l3 = some rr → J p l e (rmOf 10 971 5826) s m args below meth c g A 4 cells slots (QR mL g A (dkh g ad rst) rr below args s 971 5826) 98 [(0, .ref (ad 0)), (1, .long l1), (3, .int l3)] [] (dkh g ad rst σ)) (cells slots : Nat) (hcl : cells + (n * 4 + 126) ≤ 971) (hsl : slots + (n * 24 + 756) ≤ 5826) (σ : DS) (l1 : Int64) (l3 : Int32) (H : B_L_sum_98  k_98 σ l1 l3 = some rr) : J p l e (rmOf 10 971 5826) s m args below meth c g A 4 cells slots (QR mL g A (dkh g ad rst) rr below args s 971 5826) 98 [(0, .ref (ad 0)), (1, .long l1), (3, .int l3)] [] (dkh g ad rst σ) := by
  unfold B_L_sum_98 at H
  refine J.iload_n (i := 3) C dL_sum_98 rfl rfl ?_
  refine J.aload_n (i := 0) C dL_sum_99 rfl rfl ?_
  refine J.callVI C (sp_X6_lines hl ) rfl kMl_L_161 mdX6_lines ⟨(Nat.le_of_ble_eq_true rfl), (Nat.le_of_ble_eq_true rfl)⟩ dk_0 rfl rfl (Nat.le_of_ble_eq_true rfl) dL_sum_100 ⟨by show _ ≤ (971 : Nat); omega, by show _ ≤ (5826 : Nat); omega⟩ ?_
  refine J.icmp_geL (tgt := 162) C dL_sum_103 (by decide) H (fun c_103 H => ?_) (fun c_103 H => ?_)
  · refine J.iconst C (0) dL_sum_162 (by decide) ?_
    refine J.istore_nL (i := 3) C dL_sum_163 rfl (by decide) H (fun z163 H => ?_)
    refine J.lw (lv' := [(0, .ref (ad 0)), (1, .long l1), (3, .int z163)]) ⟨rfl, rfl, rfl, trivial⟩ ?_
    exact lp_L_sum_164 hl C hr hx 61 _ _ (by omega) (by omega) _ _ _ H
  · refine J.ldc2 C kCL_L_159 dL_sum_106 ?_
    refine J.lload_n (i := 1) C dL_sum_109 rfl rfl ?_
    refine J.lmul C dL_sum_110 ?_
    refine J.aload_n (i := 0) C dL_sum_111 rfl rfl ?_
    refine J.iload_n (i := 3) C dL_sum_112 rfl rfl ?_
    refine J.iconst C (0) dL_sum_113 (by decide) ?_
    refine J.callH9 (hp := (dkh g ad rst)) C rfl (sp_L_line hl _ _) rfl kMl_L_190 mdL_line ⟨(Nat.le_of_ble_eq_true rfl), (Nat.le_of_ble_eq_true rfl)⟩ rfl (Nat.le_of_ble_eq_true rfl) dL_sum_114 ⟨by show _ ≤ (971 : Nat); omega, by show _ ≤ (5826 : Nat); omega⟩ H (fun E z e9 => J.outR C hx (by omega) (by omega) e9) (fun r114 s114 H => ?_)
    refine J.i2l C dL_sum_117 ?_
    refine J.ladd C dL_sum_118 ?_
    refine J.ldc2 C kCL_L_185 dL_sum_119 ?_
    refine J.aload_n (i := 0) C dL_sum_122 rfl rfl ?_
    refine J.iload_n (i := 3) C dL_sum_123 rfl rfl ?_
    refine J.iconst C (1) dL_sum_124 (by decide) ?_
    refine J.callH9 (hp := (dkh g ad rst)) C rfl (sp_L_line hl _ _) rfl kMl_L_190 mdL_line ⟨(Nat.le_of_ble_eq_true rfl), (Nat.le_of_ble_eq_true rfl)⟩ rfl (Nat.le_of_ble_eq_true rfl) dL_sum_125 ⟨by show _ ≤ (971 : Nat); omega, by show _ ≤ (5826 : Nat); omega⟩ H (fun E z e9 => J.outR C hx (by omega) (by omega) e9) (fun r125 s125 H => ?_)
    refine J.i2l C dL_sum_128 ?_
    refine J.lmul C dL_sum_129 ?_
    refine J.ladd C dL_sum_130 ?_
    refine J.ldc2 C kCL_L_193 dL_sum_131 ?_
    refine J.aload_n (i := 0) C dL_sum_134 rfl rfl ?_
    refine J.iload_n (i := 3) C dL_sum_135 rfl rfl ?_
    refine J.iconst C (2) dL_sum_136 (by decide) ?_
    refine J.callH9 (hp := (dkh g ad rst)) C rfl (sp_L_line hl _ _) rfl kMl_L_190 mdL_line ⟨(Nat.le_of_ble_eq_true rfl), (Nat.le_of_ble_eq_true rfl)⟩ rfl (Nat.le_of_ble_eq_true rfl) dL_sum_137 ⟨by show _ ≤ (971 : Nat); omega, by show _ ≤ (5826 : Nat); omega⟩ H (fun E z e9 => J.outR C hx (by omega) (by omega) e9) (fun r137 s137 H => ?_)
    refine J.i2l C dL_sum_140 ?_
    refine J.lmul C dL_sum_141 ?_
    refine J.ladd C dL_sum_142 ?_
    refine J.ldc2 C kCL_L_169 dL_sum_143 ?_
    refine J.aload_n (i := 0) C dL_sum_146 rfl rfl ?_
    refine J.iload_n (i := 3) C dL_sum_147 rfl rfl ?_
    refine J.iconst C (3) dL_sum_148 (by decide) ?_
    refine J.callH9 (hp := (dkh g ad rst)) C rfl (sp_L_line hl _ _) rfl kMl_L_190 mdL_line ⟨(Nat.le_of_ble_eq_true rfl), (Nat.le_of_ble_eq_true rfl)⟩ rfl (Nat.le_of_ble_eq_true rfl) dL_sum_149 ⟨by show _ ≤ (971 : Nat); omega, by show _ ≤ (5826 : Nat); omega⟩ H (fun E z e9 => J.outR C hx (by omega) (by omega) e9) (fun r149 s149 H => ?_)
    refine J.i2l C dL_sum_152 ?_
    refine J.lmul C dL_sum_153 ?_
    refine J.ladd C dL_sum_154 ?_
    refine J.lstore_nL (i := 1) C dL_sum_155 rfl (by decide) H (fun z155 H => ?_)
    refine J.iincL C (l3 + (1 : Int32)) dL_sum_156 rfl rfl (by decide) H (fun z156 H => ?_)
    refine J.goto (tgt := 98) C dL_sum_159 (by decide) ?_
    refine J.lw (lv' := [(0, .ref (ad 0)), (1, .long z155), (3, .int z156)]) ⟨rfl, rfl, rfl, trivial⟩ ?_
    exact hk_98 _ _ (by omega) (by omega) _ _ _ H
def L_L_sum_98 : Nat → DS → Int64 → Int32 → Res DS Int64
  | 0, _, _, _ => none
  | n + 1, σ, l1, l3 => B_L_sum_98 (L_L_sum_98 n) σ l1 l3
set_option maxRecDepth 100000 in
theorem lp_L_sum_98 {l : Launch} (hl : l.stackTraces = false) {p : Program} {e : Env} {s : State} {m : MethodId} {args : Array Value} {below : List Frame} {meth : Method} {c : Code} {g : Gy} {ad : Nat → Nat} {rst : va_W} {A : Nat → Prop} (C : Cx p l s m args meth c g A yL_sum.cls cL_sum 4) (hr : meth.sig.returnType = some .long) (hx : ∀ x ∈ c.exceptionTable.toList, False) {rr : (Int64 ⊕ String) × DS} : ∀ (n : Nat) (cells slots : Nat), cells + (n * 4 + 122) ≤ 971 → slots + (n * 24 + 732) ≤ 5826 → ∀ (σ : DS) (l1 : Int64) (l3 : Int32), L_L_sum_98 n σ l1 l3 = some rr → J p l e (rmOf 10 971 5826) s m args below meth c g A 4 cells slots (QR mL g A (dkh g ad rst) rr below args s 971 5826) 98 [(0, .ref (ad 0)), (1, .long l1), (3, .int l3)] [] (dkh g ad rst σ) := by
  intro n
  induction n with
  | zero => intro cells slots _ _ σ l1 l3 H; cases H
  | succ n ih => intro cells slots hcl hsl σ l1 l3 H; exact bl_L_sum_98 hl C hr hx n _ ih _ _ (by omega) (by omega) _ _ _ H
def B_L_sum_48  (k_48 : DS → Int64 → Int32 → Res DS Int64) (σ : DS) (l1 : Int64) (l3 : Int32) : Res DS Int64 := (if (F_X6_formulas σ ) ≤ l3 then (lt (0 : Int32) fun z97 => (L_L_sum_98 61 σ l1 z97)) else (bd (P_L_tells σ l3 (0 : Int32)) fun r64 s64 => (bd (P_L_tells s64 l3 (1 : Int32)) fun r75 s75 => (bd (P_L_symbol s75 l3 (1 : Int32)) fun r84 s84 => (lt (((((31 : Int64) * l1) + (r64).toInt64) + ((3 : Int64) * (r75).toInt64)) + (r84).toInt64) fun z89 => (lt (l3 + (1 : Int32)) fun z90 => (k_48 s84 z89 z90)))))))
set_option maxRecDepth 100000 in
theorem bl_L_sum_48 {l : Launch} (hl : l.stackTraces = false) {p : Program} {e : Env} {s : State} {m : MethodId} {args : Array Value} {below : List Frame} {meth : Method} {c : Code} {g : Gy} {ad : Nat → Nat} {rst : va_W} {A : Nat → Prop} (C : Cx p l s m args meth c g A yL_sum.cls cL_sum 4) (hr : meth.sig.returnType = some .long) (hx : ∀ x ∈ c.exceptionTable.toList, False) {rr : (Int64 ⊕ String) × DS} (n : Nat) (k_48 : DS → Int64 → Int32 → Res DS Int64) (hk_48 : ∀ (cells slots : Nat), cells + (n * 4 + 366) ≤ 971 → slots + (n * 24 + 2196) ≤ 5826 → ∀ (σ : DS) (l1 : Int64) (l3 : Int32), k_48 σ l1 l3 = some rr → J p l e (rmOf 10 971 5826) s m args below meth c g A 4 cells slots (QR mL g A (dkh g ad rst) rr below args s 971 5826) 48 [(0, .ref (ad 0)), (1, .long l1), (3, .int l3)] [] (dkh g ad rst σ)) (cells slots : Nat) (hcl : cells + (n * 4 + 370) ≤ 971) (hsl : slots + (n * 24 + 2220) ≤ 5826) (σ : DS) (l1 : Int64) (l3 : Int32) (H : B_L_sum_48  k_48 σ l1 l3 = some rr) : J p l e (rmOf 10 971 5826) s m args below meth c g A 4 cells slots (QR mL g A (dkh g ad rst) rr below args s 971 5826) 48 [(0, .ref (ad 0)), (1, .long l1), (3, .int l3)] [] (dkh g ad rst σ) := by
  unfold B_L_sum_48 at H
  refine J.iload_n (i := 3) C dL_sum_48 rfl rfl ?_
  refine J.aload_n (i := 0) C dL_sum_49 rfl rfl ?_
  refine J.callVI C (sp_X6_formulas hl ) rfl kMl_L_156 mdX6_formulas ⟨(Nat.le_of_ble_eq_true rfl), (Nat.le_of_ble_eq_true rfl)⟩ dk_0 rfl rfl (Nat.le_of_ble_eq_true rfl) dL_sum_50 ⟨by show _ ≤ (971 : Nat); omega, by show _ ≤ (5826 : Nat); omega⟩ ?_
  refine J.icmp_geL (tgt := 96) C dL_sum_53 (by decide) H (fun c_53 H => ?_) (fun c_53 H => ?_)
  · refine J.iconst C (0) dL_sum_96 (by decide) ?_
    refine J.istore_nL (i := 3) C dL_sum_97 rfl (by decide) H (fun z97 H => ?_)
    refine J.lw (lv' := [(0, .ref (ad 0)), (1, .long l1), (3, .int z97)]) ⟨rfl, rfl, rfl, trivial⟩ ?_
    exact lp_L_sum_98 hl C hr hx 61 _ _ (by omega) (by omega) _ _ _ H
  · refine J.ldc2 C kCL_L_159 dL_sum_56 ?_
    refine J.lload_n (i := 1) C dL_sum_59 rfl rfl ?_
    refine J.lmul C dL_sum_60 ?_
    refine J.aload_n (i := 0) C dL_sum_61 rfl rfl ?_
    refine J.iload_n (i := 3) C dL_sum_62 rfl rfl ?_
    refine J.iconst C (0) dL_sum_63 (by decide) ?_
    refine J.callH9 (hp := (dkh g ad rst)) C rfl (sp_L_tells hl _ _) rfl kMl_L_181 mdL_tells ⟨(Nat.le_of_ble_eq_true rfl), (Nat.le_of_ble_eq_true rfl)⟩ rfl (Nat.le_of_ble_eq_true rfl) dL_sum_64 ⟨by show _ ≤ (971 : Nat); omega, by show _ ≤ (5826 : Nat); omega⟩ H (fun E z e9 => J.outR C hx (by omega) (by omega) e9) (fun r64 s64 H => ?_)
    refine J.i2l C dL_sum_67 ?_
    refine J.ladd C dL_sum_68 ?_
    refine J.ldc2 C kCL_L_185 dL_sum_69 ?_
    refine J.aload_n (i := 0) C dL_sum_72 rfl rfl ?_
    refine J.iload_n (i := 3) C dL_sum_73 rfl rfl ?_
    refine J.iconst C (1) dL_sum_74 (by decide) ?_
    refine J.callH9 (hp := (dkh g ad rst)) C rfl (sp_L_tells hl _ _) rfl kMl_L_181 mdL_tells ⟨(Nat.le_of_ble_eq_true rfl), (Nat.le_of_ble_eq_true rfl)⟩ rfl (Nat.le_of_ble_eq_true rfl) dL_sum_75 ⟨by show _ ≤ (971 : Nat); omega, by show _ ≤ (5826 : Nat); omega⟩ H (fun E z e9 => J.outR C hx (by omega) (by omega) e9) (fun r75 s75 H => ?_)
    refine J.i2l C dL_sum_78 ?_
    refine J.lmul C dL_sum_79 ?_
    refine J.ladd C dL_sum_80 ?_
    refine J.aload_n (i := 0) C dL_sum_81 rfl rfl ?_
    refine J.iload_n (i := 3) C dL_sum_82 rfl rfl ?_
    refine J.iconst C (1) dL_sum_83 (by decide) ?_
    refine J.callH9 (hp := (dkh g ad rst)) C rfl (sp_L_symbol hl _ _) rfl kMl_L_187 mdL_symbol ⟨(Nat.le_of_ble_eq_true rfl), (Nat.le_of_ble_eq_true rfl)⟩ rfl (Nat.le_of_ble_eq_true rfl) dL_sum_84 ⟨by show _ ≤ (971 : Nat); omega, by show _ ≤ (5826 : Nat); omega⟩ H (fun E z e9 => J.outR C hx (by omega) (by omega) e9) (fun r84 s84 H => ?_)
    refine J.i2l C dL_sum_87 ?_
    refine J.ladd C dL_sum_88 ?_
    refine J.lstore_nL (i := 1) C dL_sum_89 rfl (by decide) H (fun z89 H => ?_)
    refine J.iincL C (l3 + (1 : Int32)) dL_sum_90 rfl rfl (by decide) H (fun z90 H => ?_)
    refine J.goto (tgt := 48) C dL_sum_93 (by decide) ?_
    refine J.lw (lv' := [(0, .ref (ad 0)), (1, .long z89), (3, .int z90)]) ⟨rfl, rfl, rfl, trivial⟩ ?_
    exact hk_48 _ _ (by omega) (by omega) _ _ _ H
def L_L_sum_48 : Nat → DS → Int64 → Int32 → Res DS Int64
  | 0, _, _, _ => none
  | n + 1, σ, l1, l3 => B_L_sum_48 (L_L_sum_48 n) σ l1 l3
set_option maxRecDepth 100000 in
theorem lp_L_sum_48 {l : Launch} (hl : l.stackTraces = false) {p : Program} {e : Env} {s : State} {m : MethodId} {args : Array Value} {below : List Frame} {meth : Method} {c : Code} {g : Gy} {ad : Nat → Nat} {rst : va_W} {A : Nat → Prop} (C : Cx p l s m args meth c g A yL_sum.cls cL_sum 4) (hr : meth.sig.returnType = some .long) (hx : ∀ x ∈ c.exceptionTable.toList, False) {rr : (Int64 ⊕ String) × DS} : ∀ (n : Nat) (cells slots : Nat), cells + (n * 4 + 366) ≤ 971 → slots + (n * 24 + 2196) ≤ 5826 → ∀ (σ : DS) (l1 : Int64) (l3 : Int32), L_L_sum_48 n σ l1 l3 = some rr → J p l e (rmOf 10 971 5826) s m args below meth c g A 4 cells slots (QR mL g A (dkh g ad rst) rr below args s 971 5826) 48 [(0, .ref (ad 0)), (1, .long l1), (3, .int l3)] [] (dkh g ad rst σ) := by
  intro n
  induction n with
  | zero => intro cells slots _ _ σ l1 l3 H; cases H
  | succ n ih => intro cells slots hcl hsl σ l1 l3 H; exact bl_L_sum_48 hl C hr hx n _ ih _ _ (by omega) (by omega) _ _ _ H
abbrev mL_sum : MD := (yL_sum, cL_sum, 4, some .long)
theorem mdL_sum : MDs mL_sum 1 := ⟨kSt_L_sum, kIn_L, kCo_L_sum, by decide +kernel⟩
def P_L_sum (σ : DS)  : Res DS Int64 := (bd (P_L_needed σ ) fun r39 s39 => (lt ((((((F_X6_formulas σ )).toInt64 + ((31 : Int64) * ((F_X6_lines σ )).toInt64)) + ((961 : Int64) * ((F_X6_boxes σ )).toInt64)) + ((7 : Int64) * ((F_X6_lemmas σ )).toInt64)) + ((11 : Int64) * (r39).toInt64)) fun z45 => (lt (0 : Int32) fun z47 => (L_L_sum_48 151 s39 z45 z47))))
set_option maxRecDepth 100000 in
theorem sp_L_sum {l : Launch} (hl : l.stackTraces = false) {g : Gy} {ad : Nat → Nat} {rst : va_W} {σ : DS}  : SpR l mL_sum 10 971 5826 mL g [.ref (ad 0)] (dkh g ad rst) σ (P_L_sum σ ) := by
  refine SpR.of hl (by decide) (Nat.le_of_ble_eq_true rfl) (fun rr H p e s m args below meth c A C hr hx => ?_)
  unfold P_L_sum at H
  refine J.lw (lv' := [(0, .ref (ad 0))]) ⟨rfl, trivial⟩ ?_
  refine J.aload_n (i := 0) C dL_sum_0 rfl rfl ?_
  refine J.callVI C (sp_X6_formulas hl ) rfl kMl_L_156 mdX6_formulas ⟨(Nat.le_of_ble_eq_true rfl), (Nat.le_of_ble_eq_true rfl)⟩ dk_0 rfl rfl (Nat.le_of_ble_eq_true rfl) dL_sum_1 ⟨by show _ ≤ (971 : Nat); omega, by show _ ≤ (5826 : Nat); omega⟩ ?_
  refine J.i2l C dL_sum_4 ?_
  refine J.ldc2 C kCL_L_159 dL_sum_5 ?_
  refine J.aload_n (i := 0) C dL_sum_8 rfl rfl ?_
  refine J.callVI C (sp_X6_lines hl ) rfl kMl_L_161 mdX6_lines ⟨(Nat.le_of_ble_eq_true rfl), (Nat.le_of_ble_eq_true rfl)⟩ dk_0 rfl rfl (Nat.le_of_ble_eq_true rfl) dL_sum_9 ⟨by show _ ≤ (971 : Nat); omega, by show _ ≤ (5826 : Nat); omega⟩ ?_
  refine J.i2l C dL_sum_12 ?_
  refine J.lmul C dL_sum_13 ?_
  refine J.ladd C dL_sum_14 ?_
  refine J.ldc2 C kCL_L_164 dL_sum_15 ?_
  refine J.aload_n (i := 0) C dL_sum_18 rfl rfl ?_
  refine J.callVI C (sp_X6_boxes hl ) rfl kMl_L_166 mdX6_boxes ⟨(Nat.le_of_ble_eq_true rfl), (Nat.le_of_ble_eq_true rfl)⟩ dk_0 rfl rfl (Nat.le_of_ble_eq_true rfl) dL_sum_19 ⟨by show _ ≤ (971 : Nat); omega, by show _ ≤ (5826 : Nat); omega⟩ ?_
  refine J.i2l C dL_sum_22 ?_
  refine J.lmul C dL_sum_23 ?_
  refine J.ladd C dL_sum_24 ?_
  refine J.ldc2 C kCL_L_169 dL_sum_25 ?_
  refine J.aload_n (i := 0) C dL_sum_28 rfl rfl ?_
  refine J.callVI C (sp_X6_lemmas hl ) rfl kMl_L_171 mdX6_lemmas ⟨(Nat.le_of_ble_eq_true rfl), (Nat.le_of_ble_eq_true rfl)⟩ dk_0 rfl rfl (Nat.le_of_ble_eq_true rfl) dL_sum_29 ⟨by show _ ≤ (971 : Nat); omega, by show _ ≤ (5826 : Nat); omega⟩ ?_
  refine J.i2l C dL_sum_32 ?_
  refine J.lmul C dL_sum_33 ?_
  refine J.ladd C dL_sum_34 ?_
  refine J.ldc2 C kCL_L_174 dL_sum_35 ?_
  refine J.aload_n (i := 0) C dL_sum_38 rfl rfl ?_
  refine J.callH9 (hp := (dkh g ad rst)) C rfl (sp_L_needed hl ) rfl kMl_L_176 mdL_needed ⟨(Nat.le_of_ble_eq_true rfl), (Nat.le_of_ble_eq_true rfl)⟩ rfl (Nat.le_of_ble_eq_true rfl) dL_sum_39 ⟨by show _ ≤ (971 : Nat); omega, by show _ ≤ (5826 : Nat); omega⟩ H (fun E z e9 => J.outR C hx (by omega) (by omega) e9) (fun r39 s39 H => ?_)
  refine J.i2l C dL_sum_42 ?_
  refine J.lmul C dL_sum_43 ?_
  refine J.ladd C dL_sum_44 ?_
  refine J.lstore_nL (i := 1) C dL_sum_45 rfl (by decide) H (fun z45 H => ?_)
  refine J.iconst C (0) dL_sum_46 (by decide) ?_
  refine J.istore_nL (i := 3) C dL_sum_47 rfl (by decide) H (fun z47 H => ?_)
  refine J.lw (lv' := [(0, .ref (ad 0)), (1, .long z45), (3, .int z47)]) ⟨rfl, rfl, rfl, trivial⟩ ?_
  exact lp_L_sum_48 hl C hr hx 151 _ _ (by omega) (by omega) _ _ _ H

/-! L_isSound -/
def B_L_isSound_127  (k_73 : DS → Int32 → Res DS Int32) (σ : DS) (l1 : Int32) (l2 : Int32) : Res DS Int32 := (bd (P_L_tells σ l1 (0 : Int32)) fun r130 s130 => (if r130 < (1 : Int32) then (some (.inl (0 : Int32), s130)) else (bd (P_L_tells s130 l1 (0 : Int32)) fun r140 s140 => (if (30 : Int32) < r140 then (some (.inl (0 : Int32), s140)) else (bd (P_L_tells s140 l1 (0 : Int32)) fun r153 s153 => (bd (P_L_symbol s153 l1 r153) fun r156 s156 => (if r156 = (-1002 : Int32) then (bd (P_X6_share s156 l1) fun r167 s167 => (gc ((FP.fdiv (FP.i2f l2) (1107296256 : UInt32)) &&& 0x7fffffff ≤ (0x7f800000 : UInt32)) (if (Op.cmpValue (FP.fcmp r167 (FP.fdiv (FP.i2f l2) (1107296256 : UInt32))) .l) = 0 then (lt (l1 + (1 : Int32)) fun z181 => (k_73 s167 z181)) else (some (.inl (0 : Int32), s167))))) else (some (.inl (0 : Int32), s156)))))))))
set_option maxRecDepth 100000 in
theorem bl_L_isSound_127 {l : Launch} (hl : l.stackTraces = false) {p : Program} {e : Env} {s : State} {m : MethodId} {args : Array Value} {below : List Frame} {meth : Method} {c : Code} {g : Gy} {ad : Nat → Nat} {rst : va_W} {A : Nat → Prop} (C : Cx p l s m args meth c g A yL_isSound.cls cL_isSound 4) (hr : meth.sig.returnType = some .boolean) (hx : ∀ x ∈ c.exceptionTable.toList, False) {rr : (Int32 ⊕ String) × DS} (n : Nat) (k_73 : DS → Int32 → Res DS Int32) (hk_73 : ∀ (cells slots : Nat), cells + (n * 13 + 13) ≤ 2464 → slots + (n * 78 + 78) ≤ 14784 → ∀ (σ : DS) (l1 : Int32), k_73 σ l1 = some rr → J p l e (rmOf 10 2464 14784) s m args below meth c g A 4 cells slots (QR mI g A (dkh g ad rst) rr below args s 2464 14784) 73 [(0, .ref (ad 0)), (1, .int l1)] [] (dkh g ad rst σ)) (cells slots : Nat) (hcl : cells + (n * 13 + 19) ≤ 2464) (hsl : slots + (n * 78 + 114) ≤ 14784) (σ : DS) (l1 : Int32) (l2 : Int32) (H : B_L_isSound_127  k_73 σ l1 l2 = some rr) : J p l e (rmOf 10 2464 14784) s m args below meth c g A 4 cells slots (QR mI g A (dkh g ad rst) rr below args s 2464 14784) 127 [(0, .ref (ad 0)), (1, .int l1), (2, .int l2)] [] (dkh g ad rst σ) := by
  unfold B_L_isSound_127 at H
  refine J.aload_n (i := 0) C dL_isSound_127 rfl rfl ?_
  refine J.iload_n (i := 1) C dL_isSound_128 rfl rfl ?_
  refine J.iconst C (0) dL_isSound_129 (by decide) ?_
  refine J.callH9 (hp := (dkh g ad rst)) C rfl (sp_L_tells hl _ _) rfl kMl_L_181 mdL_tells ⟨(Nat.le_of_ble_eq_true rfl), (Nat.le_of_ble_eq_true rfl)⟩ rfl (Nat.le_of_ble_eq_true rfl) dL_isSound_130 ⟨by show _ ≤ (2464 : Nat); omega, by show _ ≤ (14784 : Nat); omega⟩ H (fun E z e9 => J.outR C hx (by omega) (by omega) e9) (fun r130 s130 H => ?_)
  refine J.iconst C (1) dL_isSound_133 (by decide) ?_
  refine J.icmp_ltL (tgt := 179) C dL_isSound_134 (by decide) H (fun c_134 H => ?_) (fun c_134 H => ?_)
  · refine J.iconst C (0) dL_isSound_179 (by decide) ?_
    exact J.zretL C hr rfl (by omega) (by omega) dL_isSound_180 H
  · refine J.aload_n (i := 0) C dL_isSound_137 rfl rfl ?_
    refine J.iload_n (i := 1) C dL_isSound_138 rfl rfl ?_
    refine J.iconst C (0) dL_isSound_139 (by decide) ?_
    refine J.callH9 (hp := (dkh g ad rst)) C rfl (sp_L_tells hl _ _) rfl kMl_L_181 mdL_tells ⟨(Nat.le_of_ble_eq_true rfl), (Nat.le_of_ble_eq_true rfl)⟩ rfl (Nat.le_of_ble_eq_true rfl) dL_isSound_140 ⟨by show _ ≤ (2464 : Nat); omega, by show _ ≤ (14784 : Nat); omega⟩ H (fun E z e9 => J.outR C hx (by omega) (by omega) e9) (fun r140 s140 H => ?_)
    refine J.bipush C (30) dL_isSound_143 (by decide) ?_
    refine J.icmp_gtL (tgt := 179) C dL_isSound_145 (by decide) H (fun c_145 H => ?_) (fun c_145 H => ?_)
    · refine J.iconst C (0) dL_isSound_179 (by decide) ?_
      exact J.zretL C hr rfl (by omega) (by omega) dL_isSound_180 H
    · refine J.aload_n (i := 0) C dL_isSound_148 rfl rfl ?_
      refine J.iload_n (i := 1) C dL_isSound_149 rfl rfl ?_
      refine J.aload_n (i := 0) C dL_isSound_150 rfl rfl ?_
      refine J.iload_n (i := 1) C dL_isSound_151 rfl rfl ?_
      refine J.iconst C (0) dL_isSound_152 (by decide) ?_
      refine J.callH9 (hp := (dkh g ad rst)) C rfl (sp_L_tells hl _ _) rfl kMl_L_181 mdL_tells ⟨(Nat.le_of_ble_eq_true rfl), (Nat.le_of_ble_eq_true rfl)⟩ rfl (Nat.le_of_ble_eq_true rfl) dL_isSound_153 ⟨by show _ ≤ (2464 : Nat); omega, by show _ ≤ (14784 : Nat); omega⟩ H (fun E z e9 => J.outR C hx (by omega) (by omega) e9) (fun r153 s153 H => ?_)
      refine J.callH9 (hp := (dkh g ad rst)) C rfl (sp_L_symbol hl _ _) rfl kMl_L_187 mdL_symbol ⟨(Nat.le_of_ble_eq_true rfl), (Nat.le_of_ble_eq_true rfl)⟩ rfl (Nat.le_of_ble_eq_true rfl) dL_isSound_156 ⟨by show _ ≤ (2464 : Nat); omega, by show _ ≤ (14784 : Nat); omega⟩ H (fun E z e9 => J.outR C hx (by omega) (by omega) e9) (fun r156 s156 H => ?_)
      refine J.sipush C (-1002) dL_isSound_159 (by decide) ?_
      refine J.icmp_neL (tgt := 179) C dL_isSound_162 (by decide) H (fun c_162 H => ?_) (fun c_162 H => ?_)
      · refine J.iconst C (0) dL_isSound_179 (by decide) ?_
        exact J.zretL C hr rfl (by omega) (by omega) dL_isSound_180 H
      · refine J.aload_n (i := 0) C dL_isSound_165 rfl rfl ?_
        refine J.iload_n (i := 1) C dL_isSound_166 rfl rfl ?_
        refine J.callV9 (hp := (dkh g ad rst)) C rfl (sp_X6_share hl _) rfl kMl_L_204 mdX6_share ⟨(Nat.le_of_ble_eq_true rfl), (Nat.le_of_ble_eq_true rfl)⟩ dk_0 rfl rfl (Nat.le_of_ble_eq_true rfl) dL_isSound_167 ⟨by show _ ≤ (2464 : Nat); omega, by show _ ≤ (14784 : Nat); omega⟩ H (fun E z e9 => J.outR C hx (by omega) (by omega) e9) (fun r167 s167 H => ?_)
        refine J.iload_n (i := 2) C dL_isSound_170 rfl rfl ?_
        refine J.i2f C dL_isSound_171 ?_
        refine J.ldcf C kCn_L_208 dL_isSound_172 ?_
        obtain ⟨hz_174, H⟩ := gc_some H
        refine J.fdiv C dL_isSound_174 hz_174 ?_
        refine J.fcmp C dL_isSound_175 ?_
        refine J.if_eqL (tgt := 181) C dL_isSound_176 (by decide) H (fun c_176 H => ?_) (fun c_176 H => ?_)
        · refine J.iincL C (l1 + (1 : Int32)) dL_isSound_181 rfl rfl (by decide) H (fun z181 H => ?_)
          refine J.goto (tgt := 73) C dL_isSound_184 (by decide) ?_
          refine J.lw (lv' := [(0, .ref (ad 0)), (1, .int z181)]) ⟨rfl, rfl, trivial⟩ ?_
          exact hk_73 _ _ (by omega) (by omega) _ _ H
        · refine J.iconst C (0) dL_isSound_179 (by decide) ?_
          exact J.zretL C hr rfl (by omega) (by omega) dL_isSound_180 H
def B_L_isSound_73  (k_73 : DS → Int32 → Res DS Int32) (σ : DS) (l1 : Int32) : Res DS Int32 := (if (F_X6_formulas σ ) ≤ l1 then (if (F_X6_lines σ ) = 0 then (bd (P_L_needed σ ) fun r195 s195 => (if r195 = (-1001 : Int32) then (bd (P_L_mean s195 ) fun r205 s205 => (if (Op.cmpValue (FP.dcmp r205 (13830554455654793216 : UInt64)) .l) = 0 then (some (.inl (1 : Int32), s205)) else (some (.inl (0 : Int32), s205)))) else (some (.inl (0 : Int32), s195)))) else (bd (P_L_needed σ ) fun r224 s224 => (if r224 < (1 : Int32) then (some (.inl (0 : Int32), s224)) else (bd (P_L_needed s224 ) fun r232 s232 => (if (F_X6_lines s232 ) < r232 then (some (.inl (0 : Int32), s232)) else (bd (P_L_mean s232 ) fun r243 s243 => (if (Op.cmpValue (FP.dcmp r243 FP.dconst1) .l) < 0 then (some (.inl (0 : Int32), s243)) else (bd (P_L_mean s243 ) fun r252 s252 => (if 0 < (Op.cmpValue (FP.dcmp r252 (4629137466983448576 : UInt64)) .g) then (some (.inl (0 : Int32), s252)) else (some (.inl (1 : Int32), s252))))))))))) else (bd (P_L_tells σ l1 (1 : Int32)) fun r84 s84 => (lt r84 fun z87 => (bd (P_L_distance s84 l1 (0 : Int32)) fun r91 s91 => (lt r91 fun z94 => (bd (P_L_tells s91 l1 (2 : Int32)) fun r99 s99 => (if z87 = r99 then (bd (P_L_distance s99 l1 (1 : Int32)) fun r109 s109 => (if z94 = r109 then (if z94 < 0 then (B_L_isSound_127 k_73 s109 l1 z87) else (bd (P_X6_follows s109 l1) fun r121 s121 => (if r121 = 0 then (some (.inl (0 : Int32), s121)) else (B_L_isSound_127 k_73 s121 l1 z87)))) else (some (.inl (0 : Int32), s109)))) else (some (.inl (0 : Int32), s99)))))))))
set_option maxRecDepth 100000 in
theorem bl_L_isSound_73 {l : Launch} (hl : l.stackTraces = false) {p : Program} {e : Env} {s : State} {m : MethodId} {args : Array Value} {below : List Frame} {meth : Method} {c : Code} {g : Gy} {ad : Nat → Nat} {rst : va_W} {A : Nat → Prop} (C : Cx p l s m args meth c g A yL_isSound.cls cL_isSound 4) (hr : meth.sig.returnType = some .boolean) (hx : ∀ x ∈ c.exceptionTable.toList, False) {rr : (Int32 ⊕ String) × DS} (n : Nat) (k_73 : DS → Int32 → Res DS Int32) (hk_73 : ∀ (cells slots : Nat), cells + (n * 13 + 13) ≤ 2464 → slots + (n * 78 + 78) ≤ 14784 → ∀ (σ : DS) (l1 : Int32), k_73 σ l1 = some rr → J p l e (rmOf 10 2464 14784) s m args below meth c g A 4 cells slots (QR mI g A (dkh g ad rst) rr below args s 2464 14784) 73 [(0, .ref (ad 0)), (1, .int l1)] [] (dkh g ad rst σ)) (cells slots : Nat) (hcl : cells + (n * 13 + 26) ≤ 2464) (hsl : slots + (n * 78 + 156) ≤ 14784) (σ : DS) (l1 : Int32) (H : B_L_isSound_73  k_73 σ l1 = some rr) : J p l e (rmOf 10 2464 14784) s m args below meth c g A 4 cells slots (QR mI g A (dkh g ad rst) rr below args s 2464 14784) 73 [(0, .ref (ad 0)), (1, .int l1)] [] (dkh g ad rst σ) := by
  unfold B_L_isSound_73 at H
  refine J.iload_n (i := 1) C dL_isSound_73 rfl rfl ?_
  refine J.aload_n (i := 0) C dL_isSound_74 rfl rfl ?_
  refine J.callVI C (sp_X6_formulas hl ) rfl kMl_L_156 mdX6_formulas ⟨(Nat.le_of_ble_eq_true rfl), (Nat.le_of_ble_eq_true rfl)⟩ dk_0 rfl rfl (Nat.le_of_ble_eq_true rfl) dL_isSound_75 ⟨by show _ ≤ (2464 : Nat); omega, by show _ ≤ (14784 : Nat); omega⟩ ?_
  refine J.icmp_geL (tgt := 187) C dL_isSound_78 (by decide) H (fun c_78 H => ?_) (fun c_78 H => ?_)
  · refine J.aload_n (i := 0) C dL_isSound_187 rfl rfl ?_
    refine J.callVI C (sp_X6_lines hl ) rfl kMl_L_161 mdX6_lines ⟨(Nat.le_of_ble_eq_true rfl), (Nat.le_of_ble_eq_true rfl)⟩ dk_0 rfl rfl (Nat.le_of_ble_eq_true rfl) dL_isSound_188 ⟨by show _ ≤ (2464 : Nat); omega, by show _ ≤ (14784 : Nat); omega⟩ ?_
    refine J.if_neL (tgt := 223) C dL_isSound_191 (by decide) H (fun c_191 H => ?_) (fun c_191 H => ?_)
    · refine J.aload_n (i := 0) C dL_isSound_223 rfl rfl ?_
      refine J.callH9 (hp := (dkh g ad rst)) C rfl (sp_L_needed hl ) rfl kMl_L_176 mdL_needed ⟨(Nat.le_of_ble_eq_true rfl), (Nat.le_of_ble_eq_true rfl)⟩ rfl (Nat.le_of_ble_eq_true rfl) dL_isSound_224 ⟨by show _ ≤ (2464 : Nat); omega, by show _ ≤ (14784 : Nat); omega⟩ H (fun E z e9 => J.outR C hx (by omega) (by omega) e9) (fun r224 s224 H => ?_)
      refine J.iconst C (1) dL_isSound_227 (by decide) ?_
      refine J.icmp_ltL (tgt := 266) C dL_isSound_228 (by decide) H (fun c_228 H => ?_) (fun c_228 H => ?_)
      · refine J.iconst C (0) dL_isSound_266 (by decide) ?_
        exact J.zretL C hr rfl (by omega) (by omega) dL_isSound_267 H
      · refine J.aload_n (i := 0) C dL_isSound_231 rfl rfl ?_
        refine J.callH9 (hp := (dkh g ad rst)) C rfl (sp_L_needed hl ) rfl kMl_L_176 mdL_needed ⟨(Nat.le_of_ble_eq_true rfl), (Nat.le_of_ble_eq_true rfl)⟩ rfl (Nat.le_of_ble_eq_true rfl) dL_isSound_232 ⟨by show _ ≤ (2464 : Nat); omega, by show _ ≤ (14784 : Nat); omega⟩ H (fun E z e9 => J.outR C hx (by omega) (by omega) e9) (fun r232 s232 H => ?_)
        refine J.aload_n (i := 0) C dL_isSound_235 rfl rfl ?_
        refine J.callVI C (sp_X6_lines hl ) rfl kMl_L_161 mdX6_lines ⟨(Nat.le_of_ble_eq_true rfl), (Nat.le_of_ble_eq_true rfl)⟩ dk_0 rfl rfl (Nat.le_of_ble_eq_true rfl) dL_isSound_236 ⟨by show _ ≤ (2464 : Nat); omega, by show _ ≤ (14784 : Nat); omega⟩ ?_
        refine J.icmp_gtL (tgt := 266) C dL_isSound_239 (by decide) H (fun c_239 H => ?_) (fun c_239 H => ?_)
        · refine J.iconst C (0) dL_isSound_266 (by decide) ?_
          exact J.zretL C hr rfl (by omega) (by omega) dL_isSound_267 H
        · refine J.aload_n (i := 0) C dL_isSound_242 rfl rfl ?_
          refine J.callH9 (hp := (dkh g ad rst)) C rfl (sp_L_mean hl ) rfl kMl_L_209 mdL_mean ⟨(Nat.le_of_ble_eq_true rfl), (Nat.le_of_ble_eq_true rfl)⟩ rfl (Nat.le_of_ble_eq_true rfl) dL_isSound_243 ⟨by show _ ≤ (2464 : Nat); omega, by show _ ≤ (14784 : Nat); omega⟩ H (fun E z e9 => J.outR C hx (by omega) (by omega) e9) (fun r243 s243 H => ?_)
          refine J.dconst1 C dL_isSound_246 ?_
          refine J.dcmp C dL_isSound_247 ?_
          refine J.if_ltL (tgt := 266) C dL_isSound_248 (by decide) H (fun c_248 H => ?_) (fun c_248 H => ?_)
          · refine J.iconst C (0) dL_isSound_266 (by decide) ?_
            exact J.zretL C hr rfl (by omega) (by omega) dL_isSound_267 H
          · refine J.aload_n (i := 0) C dL_isSound_251 rfl rfl ?_
            refine J.callH9 (hp := (dkh g ad rst)) C rfl (sp_L_mean hl ) rfl kMl_L_209 mdL_mean ⟨(Nat.le_of_ble_eq_true rfl), (Nat.le_of_ble_eq_true rfl)⟩ rfl (Nat.le_of_ble_eq_true rfl) dL_isSound_252 ⟨by show _ ≤ (2464 : Nat); omega, by show _ ≤ (14784 : Nat); omega⟩ H (fun E z e9 => J.outR C hx (by omega) (by omega) e9) (fun r252 s252 H => ?_)
            refine J.ldc2d C kCD_L_213 dL_isSound_255 ?_
            refine J.dcmp C dL_isSound_258 ?_
            refine J.if_gtL (tgt := 266) C dL_isSound_259 (by decide) H (fun c_259 H => ?_) (fun c_259 H => ?_)
            · refine J.iconst C (0) dL_isSound_266 (by decide) ?_
              exact J.zretL C hr rfl (by omega) (by omega) dL_isSound_267 H
            · refine J.iconst C (1) dL_isSound_262 (by decide) ?_
              refine J.goto (tgt := 267) C dL_isSound_263 (by decide) ?_
              exact J.zretL C hr rfl (by omega) (by omega) dL_isSound_267 H
    · refine J.aload_n (i := 0) C dL_isSound_194 rfl rfl ?_
      refine J.callH9 (hp := (dkh g ad rst)) C rfl (sp_L_needed hl ) rfl kMl_L_176 mdL_needed ⟨(Nat.le_of_ble_eq_true rfl), (Nat.le_of_ble_eq_true rfl)⟩ rfl (Nat.le_of_ble_eq_true rfl) dL_isSound_195 ⟨by show _ ≤ (2464 : Nat); omega, by show _ ≤ (14784 : Nat); omega⟩ H (fun E z e9 => J.outR C hx (by omega) (by omega) e9) (fun r195 s195 H => ?_)
      refine J.sipush C (-1001) dL_isSound_198 (by decide) ?_
      refine J.icmp_neL (tgt := 219) C dL_isSound_201 (by decide) H (fun c_201 H => ?_) (fun c_201 H => ?_)
      · refine J.iconst C (0) dL_isSound_219 (by decide) ?_
        refine J.goto (tgt := 267) C dL_isSound_220 (by decide) ?_
        exact J.zretL C hr rfl (by omega) (by omega) dL_isSound_267 H
      · refine J.aload_n (i := 0) C dL_isSound_204 rfl rfl ?_
        refine J.callH9 (hp := (dkh g ad rst)) C rfl (sp_L_mean hl ) rfl kMl_L_209 mdL_mean ⟨(Nat.le_of_ble_eq_true rfl), (Nat.le_of_ble_eq_true rfl)⟩ rfl (Nat.le_of_ble_eq_true rfl) dL_isSound_205 ⟨by show _ ≤ (2464 : Nat); omega, by show _ ≤ (14784 : Nat); omega⟩ H (fun E z e9 => J.outR C hx (by omega) (by omega) e9) (fun r205 s205 H => ?_)
        refine J.ldc2d C kCD_L_131 dL_isSound_208 ?_
        refine J.dcmp C dL_isSound_211 ?_
        refine J.if_neL (tgt := 219) C dL_isSound_212 (by decide) H (fun c_212 H => ?_) (fun c_212 H => ?_)
        · refine J.iconst C (0) dL_isSound_219 (by decide) ?_
          refine J.goto (tgt := 267) C dL_isSound_220 (by decide) ?_
          exact J.zretL C hr rfl (by omega) (by omega) dL_isSound_267 H
        · refine J.iconst C (1) dL_isSound_215 (by decide) ?_
          refine J.goto (tgt := 267) C dL_isSound_216 (by decide) ?_
          exact J.zretL C hr rfl (by omega) (by omega) dL_isSound_267 H
  · refine J.aload_n (i := 0) C dL_isSound_81 rfl rfl ?_
    refine J.iload_n (i := 1) C dL_isSound_82 rfl rfl ?_
    refine J.iconst C (1) dL_isSound_83 (by decide) ?_
    refine J.callH9 (hp := (dkh g ad rst)) C rfl (sp_L_tells hl _ _) rfl kMl_L_181 mdL_tells ⟨(Nat.le_of_ble_eq_true rfl), (Nat.le_of_ble_eq_true rfl)⟩ rfl (Nat.le_of_ble_eq_true rfl) dL_isSound_84 ⟨by show _ ≤ (2464 : Nat); omega, by show _ ≤ (14784 : Nat); omega⟩ H (fun E z e9 => J.outR C hx (by omega) (by omega) e9) (fun r84 s84 H => ?_)
    refine J.istore_nL (i := 2) C dL_isSound_87 rfl (by decide) H (fun z87 H => ?_)
    refine J.aload_n (i := 0) C dL_isSound_88 rfl rfl ?_
    refine J.iload_n (i := 1) C dL_isSound_89 rfl rfl ?_
    refine J.iconst C (0) dL_isSound_90 (by decide) ?_
    refine J.callH9 (hp := (dkh g ad rst)) C rfl (sp_L_distance hl _ _) rfl kMl_L_202 mdL_distance ⟨(Nat.le_of_ble_eq_true rfl), (Nat.le_of_ble_eq_true rfl)⟩ rfl (Nat.le_of_ble_eq_true rfl) dL_isSound_91 ⟨by show _ ≤ (2464 : Nat); omega, by show _ ≤ (14784 : Nat); omega⟩ H (fun E z e9 => J.outR C hx (by omega) (by omega) e9) (fun r91 s91 H => ?_)
    refine J.istore_nL (i := 3) C dL_isSound_94 rfl (by decide) H (fun z94 H => ?_)
    refine J.iload_n (i := 2) C dL_isSound_95 rfl rfl ?_
    refine J.aload_n (i := 0) C dL_isSound_96 rfl rfl ?_
    refine J.iload_n (i := 1) C dL_isSound_97 rfl rfl ?_
    refine J.iconst C (2) dL_isSound_98 (by decide) ?_
    refine J.callH9 (hp := (dkh g ad rst)) C rfl (sp_L_tells hl _ _) rfl kMl_L_181 mdL_tells ⟨(Nat.le_of_ble_eq_true rfl), (Nat.le_of_ble_eq_true rfl)⟩ rfl (Nat.le_of_ble_eq_true rfl) dL_isSound_99 ⟨by show _ ≤ (2464 : Nat); omega, by show _ ≤ (14784 : Nat); omega⟩ H (fun E z e9 => J.outR C hx (by omega) (by omega) e9) (fun r99 s99 H => ?_)
    refine J.icmp_neL (tgt := 179) C dL_isSound_102 (by decide) H (fun c_102 H => ?_) (fun c_102 H => ?_)
    · refine J.iconst C (0) dL_isSound_179 (by decide) ?_
      exact J.zretL C hr rfl (by omega) (by omega) dL_isSound_180 H
    · refine J.iload_n (i := 3) C dL_isSound_105 rfl rfl ?_
      refine J.aload_n (i := 0) C dL_isSound_106 rfl rfl ?_
      refine J.iload_n (i := 1) C dL_isSound_107 rfl rfl ?_
      refine J.iconst C (1) dL_isSound_108 (by decide) ?_
      refine J.callH9 (hp := (dkh g ad rst)) C rfl (sp_L_distance hl _ _) rfl kMl_L_202 mdL_distance ⟨(Nat.le_of_ble_eq_true rfl), (Nat.le_of_ble_eq_true rfl)⟩ rfl (Nat.le_of_ble_eq_true rfl) dL_isSound_109 ⟨by show _ ≤ (2464 : Nat); omega, by show _ ≤ (14784 : Nat); omega⟩ H (fun E z e9 => J.outR C hx (by omega) (by omega) e9) (fun r109 s109 H => ?_)
      refine J.icmp_neL (tgt := 179) C dL_isSound_112 (by decide) H (fun c_112 H => ?_) (fun c_112 H => ?_)
      · refine J.iconst C (0) dL_isSound_179 (by decide) ?_
        exact J.zretL C hr rfl (by omega) (by omega) dL_isSound_180 H
      · refine J.iload_n (i := 3) C dL_isSound_115 rfl rfl ?_
        refine J.if_ltL (tgt := 127) C dL_isSound_116 (by decide) H (fun c_116 H => ?_) (fun c_116 H => ?_)
        · refine J.lw (lv' := [(0, .ref (ad 0)), (1, .int l1), (2, .int z87)]) ⟨rfl, rfl, rfl, trivial⟩ ?_
          exact bl_L_isSound_127 hl C hr hx n k_73 hk_73 _ _ (by omega) (by omega) _ _ _ H
        · refine J.aload_n (i := 0) C dL_isSound_119 rfl rfl ?_
          refine J.iload_n (i := 1) C dL_isSound_120 rfl rfl ?_
          refine J.callV9 (hp := (dkh g ad rst)) C rfl (sp_X6_follows hl _) rfl kMl_L_199 mdX6_follows ⟨(Nat.le_of_ble_eq_true rfl), (Nat.le_of_ble_eq_true rfl)⟩ dk_0 rfl rfl (Nat.le_of_ble_eq_true rfl) dL_isSound_121 ⟨by show _ ≤ (2464 : Nat); omega, by show _ ≤ (14784 : Nat); omega⟩ H (fun E z e9 => J.outR C hx (by omega) (by omega) e9) (fun r121 s121 H => ?_)
          refine J.if_eqL (tgt := 179) C dL_isSound_124 (by decide) H (fun c_124 H => ?_) (fun c_124 H => ?_)
          · refine J.iconst C (0) dL_isSound_179 (by decide) ?_
            exact J.zretL C hr rfl (by omega) (by omega) dL_isSound_180 H
          · refine J.lw (lv' := [(0, .ref (ad 0)), (1, .int l1), (2, .int z87)]) ⟨rfl, rfl, rfl, trivial⟩ ?_
            exact bl_L_isSound_127 hl C hr hx n k_73 hk_73 _ _ (by omega) (by omega) _ _ _ H
def L_L_isSound_73 : Nat → DS → Int32 → Res DS Int32
  | 0, _, _ => none
  | n + 1, σ, l1 => B_L_isSound_73 (L_L_isSound_73 n) σ l1
set_option maxRecDepth 100000 in
theorem lp_L_isSound_73 {l : Launch} (hl : l.stackTraces = false) {p : Program} {e : Env} {s : State} {m : MethodId} {args : Array Value} {below : List Frame} {meth : Method} {c : Code} {g : Gy} {ad : Nat → Nat} {rst : va_W} {A : Nat → Prop} (C : Cx p l s m args meth c g A yL_isSound.cls cL_isSound 4) (hr : meth.sig.returnType = some .boolean) (hx : ∀ x ∈ c.exceptionTable.toList, False) {rr : (Int32 ⊕ String) × DS} : ∀ (n : Nat) (cells slots : Nat), cells + (n * 13 + 13) ≤ 2464 → slots + (n * 78 + 78) ≤ 14784 → ∀ (σ : DS) (l1 : Int32), L_L_isSound_73 n σ l1 = some rr → J p l e (rmOf 10 2464 14784) s m args below meth c g A 4 cells slots (QR mI g A (dkh g ad rst) rr below args s 2464 14784) 73 [(0, .ref (ad 0)), (1, .int l1)] [] (dkh g ad rst σ) := by
  intro n
  induction n with
  | zero => intro cells slots _ _ σ l1 H; cases H
  | succ n ih => intro cells slots hcl hsl σ l1 H; exact bl_L_isSound_73 hl C hr hx n _ ih _ _ (by omega) (by omega) _ _ H
def B_L_isSound_2  (k_2 : DS → Int32 → Res DS Int32) (σ : DS) (l1 : Int32) : Res DS Int32 := (if (F_X6_lines σ ) ≤ l1 then (lt (0 : Int32) fun z72 => (L_L_isSound_73 151 σ z72)) else (bd (P_L_line σ l1 (0 : Int32)) fun r13 s13 => (lt r13 fun z16 => (bd (P_L_line s13 l1 (4 : Int32)) fun r20 s20 => (if r20 = (1 : Int32) then (bd (P_L_line s20 l1 (3 : Int32)) fun r30 s30 => (if r30 = (1 : Int32) then (bd (P_X6_follows s30 z16) fun r39 s39 => (if r39 = 0 then (some (.inl (0 : Int32), s39)) else (bd (P_L_distance s39 z16 (0 : Int32)) fun r48 s48 => (if r48 = 0 then (bd (P_L_distance s48 z16 (1 : Int32)) fun r57 s57 => (if r57 = 0 then (lt (l1 + (1 : Int32)) fun z65 => (k_2 s57 z65)) else (some (.inl (0 : Int32), s57)))) else (some (.inl (0 : Int32), s48)))))) else (lt (l1 + (1 : Int32)) fun z65 => (k_2 s30 z65)))) else (some (.inl (0 : Int32), s20)))))))
set_option maxRecDepth 100000 in
theorem bl_L_isSound_2 {l : Launch} (hl : l.stackTraces = false) {p : Program} {e : Env} {s : State} {m : MethodId} {args : Array Value} {below : List Frame} {meth : Method} {c : Code} {g : Gy} {ad : Nat → Nat} {rst : va_W} {A : Nat → Prop} (C : Cx p l s m args meth c g A yL_isSound.cls cL_isSound 4) (hr : meth.sig.returnType = some .boolean) (hx : ∀ x ∈ c.exceptionTable.toList, False) {rr : (Int32 ⊕ String) × DS} (n : Nat) (k_2 : DS → Int32 → Res DS Int32) (hk_2 : ∀ (cells slots : Nat), cells + (n * 8 + 1976) ≤ 2464 → slots + (n * 48 + 11856) ≤ 14784 → ∀ (σ : DS) (l1 : Int32), k_2 σ l1 = some rr → J p l e (rmOf 10 2464 14784) s m args below meth c g A 4 cells slots (QR mI g A (dkh g ad rst) rr below args s 2464 14784) 2 [(0, .ref (ad 0)), (1, .int l1)] [] (dkh g ad rst σ)) (cells slots : Nat) (hcl : cells + (n * 8 + 1984) ≤ 2464) (hsl : slots + (n * 48 + 11904) ≤ 14784) (σ : DS) (l1 : Int32) (H : B_L_isSound_2  k_2 σ l1 = some rr) : J p l e (rmOf 10 2464 14784) s m args below meth c g A 4 cells slots (QR mI g A (dkh g ad rst) rr below args s 2464 14784) 2 [(0, .ref (ad 0)), (1, .int l1)] [] (dkh g ad rst σ) := by
  unfold B_L_isSound_2 at H
  refine J.iload_n (i := 1) C dL_isSound_2 rfl rfl ?_
  refine J.aload_n (i := 0) C dL_isSound_3 rfl rfl ?_
  refine J.callVI C (sp_X6_lines hl ) rfl kMl_L_161 mdX6_lines ⟨(Nat.le_of_ble_eq_true rfl), (Nat.le_of_ble_eq_true rfl)⟩ dk_0 rfl rfl (Nat.le_of_ble_eq_true rfl) dL_isSound_4 ⟨by show _ ≤ (2464 : Nat); omega, by show _ ≤ (14784 : Nat); omega⟩ ?_
  refine J.icmp_geL (tgt := 71) C dL_isSound_7 (by decide) H (fun c_7 H => ?_) (fun c_7 H => ?_)
  · refine J.iconst C (0) dL_isSound_71 (by decide) ?_
    refine J.istore_nL (i := 1) C dL_isSound_72 rfl (by decide) H (fun z72 H => ?_)
    refine J.lw (lv' := [(0, .ref (ad 0)), (1, .int z72)]) ⟨rfl, rfl, trivial⟩ ?_
    exact lp_L_isSound_73 hl C hr hx 151 _ _ (by omega) (by omega) _ _ H
  · refine J.aload_n (i := 0) C dL_isSound_10 rfl rfl ?_
    refine J.iload_n (i := 1) C dL_isSound_11 rfl rfl ?_
    refine J.iconst C (0) dL_isSound_12 (by decide) ?_
    refine J.callH9 (hp := (dkh g ad rst)) C rfl (sp_L_line hl _ _) rfl kMl_L_190 mdL_line ⟨(Nat.le_of_ble_eq_true rfl), (Nat.le_of_ble_eq_true rfl)⟩ rfl (Nat.le_of_ble_eq_true rfl) dL_isSound_13 ⟨by show _ ≤ (2464 : Nat); omega, by show _ ≤ (14784 : Nat); omega⟩ H (fun E z e9 => J.outR C hx (by omega) (by omega) e9) (fun r13 s13 H => ?_)
    refine J.istore_nL (i := 2) C dL_isSound_16 rfl (by decide) H (fun z16 H => ?_)
    refine J.aload_n (i := 0) C dL_isSound_17 rfl rfl ?_
    refine J.iload_n (i := 1) C dL_isSound_18 rfl rfl ?_
    refine J.iconst C (4) dL_isSound_19 (by decide) ?_
    refine J.callH9 (hp := (dkh g ad rst)) C rfl (sp_L_line hl _ _) rfl kMl_L_190 mdL_line ⟨(Nat.le_of_ble_eq_true rfl), (Nat.le_of_ble_eq_true rfl)⟩ rfl (Nat.le_of_ble_eq_true rfl) dL_isSound_20 ⟨by show _ ≤ (2464 : Nat); omega, by show _ ≤ (14784 : Nat); omega⟩ H (fun E z e9 => J.outR C hx (by omega) (by omega) e9) (fun r20 s20 H => ?_)
    refine J.iconst C (1) dL_isSound_23 (by decide) ?_
    refine J.icmp_neL (tgt := 63) C dL_isSound_24 (by decide) H (fun c_24 H => ?_) (fun c_24 H => ?_)
    · refine J.iconst C (0) dL_isSound_63 (by decide) ?_
      exact J.zretL C hr rfl (by omega) (by omega) dL_isSound_64 H
    · refine J.aload_n (i := 0) C dL_isSound_27 rfl rfl ?_
      refine J.iload_n (i := 1) C dL_isSound_28 rfl rfl ?_
      refine J.iconst C (3) dL_isSound_29 (by decide) ?_
      refine J.callH9 (hp := (dkh g ad rst)) C rfl (sp_L_line hl _ _) rfl kMl_L_190 mdL_line ⟨(Nat.le_of_ble_eq_true rfl), (Nat.le_of_ble_eq_true rfl)⟩ rfl (Nat.le_of_ble_eq_true rfl) dL_isSound_30 ⟨by show _ ≤ (2464 : Nat); omega, by show _ ≤ (14784 : Nat); omega⟩ H (fun E z e9 => J.outR C hx (by omega) (by omega) e9) (fun r30 s30 H => ?_)
      refine J.iconst C (1) dL_isSound_33 (by decide) ?_
      refine J.icmp_neL (tgt := 65) C dL_isSound_34 (by decide) H (fun c_34 H => ?_) (fun c_34 H => ?_)
      · refine J.iincL C (l1 + (1 : Int32)) dL_isSound_65 rfl rfl (by decide) H (fun z65 H => ?_)
        refine J.goto (tgt := 2) C dL_isSound_68 (by decide) ?_
        refine J.lw (lv' := [(0, .ref (ad 0)), (1, .int z65)]) ⟨rfl, rfl, trivial⟩ ?_
        exact hk_2 _ _ (by omega) (by omega) _ _ H
      · refine J.aload_n (i := 0) C dL_isSound_37 rfl rfl ?_
        refine J.iload_n (i := 2) C dL_isSound_38 rfl rfl ?_
        refine J.callV9 (hp := (dkh g ad rst)) C rfl (sp_X6_follows hl _) rfl kMl_L_199 mdX6_follows ⟨(Nat.le_of_ble_eq_true rfl), (Nat.le_of_ble_eq_true rfl)⟩ dk_0 rfl rfl (Nat.le_of_ble_eq_true rfl) dL_isSound_39 ⟨by show _ ≤ (2464 : Nat); omega, by show _ ≤ (14784 : Nat); omega⟩ H (fun E z e9 => J.outR C hx (by omega) (by omega) e9) (fun r39 s39 H => ?_)
        refine J.if_eqL (tgt := 63) C dL_isSound_42 (by decide) H (fun c_42 H => ?_) (fun c_42 H => ?_)
        · refine J.iconst C (0) dL_isSound_63 (by decide) ?_
          exact J.zretL C hr rfl (by omega) (by omega) dL_isSound_64 H
        · refine J.aload_n (i := 0) C dL_isSound_45 rfl rfl ?_
          refine J.iload_n (i := 2) C dL_isSound_46 rfl rfl ?_
          refine J.iconst C (0) dL_isSound_47 (by decide) ?_
          refine J.callH9 (hp := (dkh g ad rst)) C rfl (sp_L_distance hl _ _) rfl kMl_L_202 mdL_distance ⟨(Nat.le_of_ble_eq_true rfl), (Nat.le_of_ble_eq_true rfl)⟩ rfl (Nat.le_of_ble_eq_true rfl) dL_isSound_48 ⟨by show _ ≤ (2464 : Nat); omega, by show _ ≤ (14784 : Nat); omega⟩ H (fun E z e9 => J.outR C hx (by omega) (by omega) e9) (fun r48 s48 H => ?_)
          refine J.if_neL (tgt := 63) C dL_isSound_51 (by decide) H (fun c_51 H => ?_) (fun c_51 H => ?_)
          · refine J.iconst C (0) dL_isSound_63 (by decide) ?_
            exact J.zretL C hr rfl (by omega) (by omega) dL_isSound_64 H
          · refine J.aload_n (i := 0) C dL_isSound_54 rfl rfl ?_
            refine J.iload_n (i := 2) C dL_isSound_55 rfl rfl ?_
            refine J.iconst C (1) dL_isSound_56 (by decide) ?_
            refine J.callH9 (hp := (dkh g ad rst)) C rfl (sp_L_distance hl _ _) rfl kMl_L_202 mdL_distance ⟨(Nat.le_of_ble_eq_true rfl), (Nat.le_of_ble_eq_true rfl)⟩ rfl (Nat.le_of_ble_eq_true rfl) dL_isSound_57 ⟨by show _ ≤ (2464 : Nat); omega, by show _ ≤ (14784 : Nat); omega⟩ H (fun E z e9 => J.outR C hx (by omega) (by omega) e9) (fun r57 s57 H => ?_)
            refine J.if_eqL (tgt := 65) C dL_isSound_60 (by decide) H (fun c_60 H => ?_) (fun c_60 H => ?_)
            · refine J.iincL C (l1 + (1 : Int32)) dL_isSound_65 rfl rfl (by decide) H (fun z65 H => ?_)
              refine J.goto (tgt := 2) C dL_isSound_68 (by decide) ?_
              refine J.lw (lv' := [(0, .ref (ad 0)), (1, .int z65)]) ⟨rfl, rfl, trivial⟩ ?_
              exact hk_2 _ _ (by omega) (by omega) _ _ H
            · refine J.iconst C (0) dL_isSound_63 (by decide) ?_
              exact J.zretL C hr rfl (by omega) (by omega) dL_isSound_64 H
def L_L_isSound_2 : Nat → DS → Int32 → Res DS Int32
  | 0, _, _ => none
  | n + 1, σ, l1 => B_L_isSound_2 (L_L_isSound_2 n) σ l1
set_option maxRecDepth 100000 in
theorem lp_L_isSound_2 {l : Launch} (hl : l.stackTraces = false) {p : Program} {e : Env} {s : State} {m : MethodId} {args : Array Value} {below : List Frame} {meth : Method} {c : Code} {g : Gy} {ad : Nat → Nat} {rst : va_W} {A : Nat → Prop} (C : Cx p l s m args meth c g A yL_isSound.cls cL_isSound 4) (hr : meth.sig.returnType = some .boolean) (hx : ∀ x ∈ c.exceptionTable.toList, False) {rr : (Int32 ⊕ String) × DS} : ∀ (n : Nat) (cells slots : Nat), cells + (n * 8 + 1976) ≤ 2464 → slots + (n * 48 + 11856) ≤ 14784 → ∀ (σ : DS) (l1 : Int32), L_L_isSound_2 n σ l1 = some rr → J p l e (rmOf 10 2464 14784) s m args below meth c g A 4 cells slots (QR mI g A (dkh g ad rst) rr below args s 2464 14784) 2 [(0, .ref (ad 0)), (1, .int l1)] [] (dkh g ad rst σ) := by
  intro n
  induction n with
  | zero => intro cells slots _ _ σ l1 H; cases H
  | succ n ih => intro cells slots hcl hsl σ l1 H; exact bl_L_isSound_2 hl C hr hx n _ ih _ _ (by omega) (by omega) _ _ H
abbrev mL_isSound : MD := (yL_isSound, cL_isSound, 4, some .boolean)
theorem mdL_isSound : MDs mL_isSound 1 := ⟨kSt_L_isSound, kIn_L, kCo_L_isSound, by decide +kernel⟩
def P_L_isSound (σ : DS)  : Res DS Int32 := (lt (0 : Int32) fun z1 => (L_L_isSound_2 61 σ z1))
set_option maxRecDepth 100000 in
theorem sp_L_isSound {l : Launch} (hl : l.stackTraces = false) {g : Gy} {ad : Nat → Nat} {rst : va_W} {σ : DS}  : SpR l mL_isSound 10 2464 14784 mI g [.ref (ad 0)] (dkh g ad rst) σ (P_L_isSound σ ) := by
  refine SpR.of hl (by decide) (Nat.le_of_ble_eq_true rfl) (fun rr H p e s m args below meth c A C hr hx => ?_)
  unfold P_L_isSound at H
  refine J.lw (lv' := [(0, .ref (ad 0))]) ⟨rfl, trivial⟩ ?_
  refine J.iconst C (0) dL_isSound_0 (by decide) ?_
  refine J.istore_nL (i := 1) C dL_isSound_1 rfl (by decide) H (fun z1 H => ?_)
  refine J.lw (lv' := [(0, .ref (ad 0)), (1, .int z1)]) ⟨rfl, rfl, trivial⟩ ?_
  exact lp_L_isSound_2 hl C hr hx 61 _ _ (by omega) (by omega) _ _ H

/-! L_isNormal -/
def B_L_isNormal_72  (σ : DS) (l1 : Int32) (l3 : Int32) : Res DS Int32 := (bd (P_L_form σ l1) fun r74 s74 => (lt r74 fun z77 => (if l3 = (-1002 : Int32) then (some (.inl (0 : Int32), s74)) else (if z77 < 0 then (some (.inl (1 : Int32), s74)) else (bd (P_L_tells s74 z77 (3 : Int32)) fun r99 s99 => (if r99 = 0 then (bd (P_L_tells s99 z77 (1 : Int32)) fun r109 s109 => (bd (P_L_tells s109 l1 (1 : Int32)) fun r115 s115 => (if r109 = r115 then (bd (P_L_form s115 z77) fun r124 s124 => (if r124 = z77 then (some (.inl (1 : Int32), s124)) else (some (.inl (0 : Int32), s124)))) else (some (.inl (0 : Int32), s115))))) else (some (.inl (0 : Int32), s99))))))))
set_option maxRecDepth 100000 in
theorem bl_L_isNormal_72 {l : Launch} (hl : l.stackTraces = false) {p : Program} {e : Env} {s : State} {m : MethodId} {args : Array Value} {below : List Frame} {meth : Method} {c : Code} {g : Gy} {ad : Nat → Nat} {rst : va_W} {A : Nat → Prop} (C : Cx p l s m args meth c g A yL_isNormal.cls cL_isNormal 5) (hr : meth.sig.returnType = some .boolean) (hx : ∀ x ∈ c.exceptionTable.toList, False) {rr : (Int32 ⊕ String) × DS} (cells slots : Nat) (hcl : cells + 7 ≤ 13) (hsl : slots + 42 ≤ 78) (σ : DS) (l1 : Int32) (l3 : Int32) (H : B_L_isNormal_72  σ l1 l3 = some rr) : J p l e (rmOf 10 13 78) s m args below meth c g A 5 cells slots (QR mI g A (dkh g ad rst) rr below args s 13 78) 72 [(0, .ref (ad 0)), (1, .int l1), (3, .int l3)] [] (dkh g ad rst σ) := by
  unfold B_L_isNormal_72 at H
  refine J.aload_n (i := 0) C dL_isNormal_72 rfl rfl ?_
  refine J.iload_n (i := 1) C dL_isNormal_73 rfl rfl ?_
  refine J.callH9 (hp := (dkh g ad rst)) C rfl (sp_L_form hl _) rfl kMl_L_219 mdL_form ⟨(Nat.le_of_ble_eq_true rfl), (Nat.le_of_ble_eq_true rfl)⟩ rfl (Nat.le_of_ble_eq_true rfl) dL_isNormal_74 ⟨by show _ ≤ (13 : Nat); omega, by show _ ≤ (78 : Nat); omega⟩ H (fun E z e9 => J.outR C hx (by omega) (by omega) e9) (fun r74 s74 H => ?_)
  refine J.istoreL C dL_isNormal_77 (by decide) H (fun z77 H => ?_)
  refine J.iload_n (i := 3) C dL_isNormal_79 rfl rfl ?_
  refine J.sipush C (-1002) dL_isNormal_80 (by decide) ?_
  refine J.icmp_neL (tgt := 90) C dL_isNormal_83 (by decide) H (fun c_83 H => ?_) (fun c_83 H => ?_)
  · refine J.iload C dL_isNormal_90 rfl ?_
    refine J.if_ltL (tgt := 132) C dL_isNormal_92 (by decide) H (fun c_92 H => ?_) (fun c_92 H => ?_)
    · refine J.iconst C (1) dL_isNormal_132 (by decide) ?_
      refine J.goto (tgt := 137) C dL_isNormal_133 (by decide) ?_
      exact J.zretL C hr rfl (by omega) (by omega) dL_isNormal_137 H
    · refine J.aload_n (i := 0) C dL_isNormal_95 rfl rfl ?_
      refine J.iload C dL_isNormal_96 rfl ?_
      refine J.iconst C (3) dL_isNormal_98 (by decide) ?_
      refine J.callH9 (hp := (dkh g ad rst)) C rfl (sp_L_tells hl _ _) rfl kMl_L_181 mdL_tells ⟨(Nat.le_of_ble_eq_true rfl), (Nat.le_of_ble_eq_true rfl)⟩ rfl (Nat.le_of_ble_eq_true rfl) dL_isNormal_99 ⟨by show _ ≤ (13 : Nat); omega, by show _ ≤ (78 : Nat); omega⟩ H (fun E z e9 => J.outR C hx (by omega) (by omega) e9) (fun r99 s99 H => ?_)
      refine J.if_neL (tgt := 136) C dL_isNormal_102 (by decide) H (fun c_102 H => ?_) (fun c_102 H => ?_)
      · refine J.iconst C (0) dL_isNormal_136 (by decide) ?_
        exact J.zretL C hr rfl (by omega) (by omega) dL_isNormal_137 H
      · refine J.aload_n (i := 0) C dL_isNormal_105 rfl rfl ?_
        refine J.iload C dL_isNormal_106 rfl ?_
        refine J.iconst C (1) dL_isNormal_108 (by decide) ?_
        refine J.callH9 (hp := (dkh g ad rst)) C rfl (sp_L_tells hl _ _) rfl kMl_L_181 mdL_tells ⟨(Nat.le_of_ble_eq_true rfl), (Nat.le_of_ble_eq_true rfl)⟩ rfl (Nat.le_of_ble_eq_true rfl) dL_isNormal_109 ⟨by show _ ≤ (13 : Nat); omega, by show _ ≤ (78 : Nat); omega⟩ H (fun E z e9 => J.outR C hx (by omega) (by omega) e9) (fun r109 s109 H => ?_)
        refine J.aload_n (i := 0) C dL_isNormal_112 rfl rfl ?_
        refine J.iload_n (i := 1) C dL_isNormal_113 rfl rfl ?_
        refine J.iconst C (1) dL_isNormal_114 (by decide) ?_
        refine J.callH9 (hp := (dkh g ad rst)) C rfl (sp_L_tells hl _ _) rfl kMl_L_181 mdL_tells ⟨(Nat.le_of_ble_eq_true rfl), (Nat.le_of_ble_eq_true rfl)⟩ rfl (Nat.le_of_ble_eq_true rfl) dL_isNormal_115 ⟨by show _ ≤ (13 : Nat); omega, by show _ ≤ (78 : Nat); omega⟩ H (fun E z e9 => J.outR C hx (by omega) (by omega) e9) (fun r115 s115 H => ?_)
        refine J.icmp_neL (tgt := 136) C dL_isNormal_118 (by decide) H (fun c_118 H => ?_) (fun c_118 H => ?_)
        · refine J.iconst C (0) dL_isNormal_136 (by decide) ?_
          exact J.zretL C hr rfl (by omega) (by omega) dL_isNormal_137 H
        · refine J.aload_n (i := 0) C dL_isNormal_121 rfl rfl ?_
          refine J.iload C dL_isNormal_122 rfl ?_
          refine J.callH9 (hp := (dkh g ad rst)) C rfl (sp_L_form hl _) rfl kMl_L_219 mdL_form ⟨(Nat.le_of_ble_eq_true rfl), (Nat.le_of_ble_eq_true rfl)⟩ rfl (Nat.le_of_ble_eq_true rfl) dL_isNormal_124 ⟨by show _ ≤ (13 : Nat); omega, by show _ ≤ (78 : Nat); omega⟩ H (fun E z e9 => J.outR C hx (by omega) (by omega) e9) (fun r124 s124 H => ?_)
          refine J.iload C dL_isNormal_127 rfl ?_
          refine J.icmp_neL (tgt := 136) C dL_isNormal_129 (by decide) H (fun c_129 H => ?_) (fun c_129 H => ?_)
          · refine J.iconst C (0) dL_isNormal_136 (by decide) ?_
            exact J.zretL C hr rfl (by omega) (by omega) dL_isNormal_137 H
          · refine J.iconst C (1) dL_isNormal_132 (by decide) ?_
            refine J.goto (tgt := 137) C dL_isNormal_133 (by decide) ?_
            exact J.zretL C hr rfl (by omega) (by omega) dL_isNormal_137 H
  · refine J.iconst C (0) dL_isNormal_86 (by decide) ?_
    refine J.goto (tgt := 137) C dL_isNormal_87 (by decide) ?_
    exact J.zretL C hr rfl (by omega) (by omega) dL_isNormal_137 H
abbrev mL_isNormal : MD := (yL_isNormal, cL_isNormal, 5, some .boolean)
theorem mdL_isNormal : MDs mL_isNormal 2 := ⟨kSt_L_isNormal, kIn_L, kCo_L_isNormal, by decide +kernel⟩
def P_L_isNormal (σ : DS) (a1 : Int32) : Res DS Int32 := (bd (P_L_tells σ a1 (3 : Int32)) fun r3 s3 => (lt r3 fun z6 => (bd (P_L_step s3 a1) fun r9 s9 => (lt r9 fun z12 => (if z6 = 0 then (if z12 = (-1002 : Int32) then (bd (P_L_form s9 a1) fun r26 s26 => (if r26 = a1 then (some (.inl (1 : Int32), s26)) else (some (.inl (0 : Int32), s26)))) else (some (.inl (0 : Int32), s9))) else (if z12 < 0 then (B_L_isNormal_72 s9 a1 z12) else (bd (P_L_tells s9 z12 (1 : Int32)) fun r46 s46 => (bd (P_L_tells s46 a1 (1 : Int32)) fun r52 s52 => (if r46 = r52 then (bd (P_L_tells s52 z12 (3 : Int32)) fun r61 s61 => (if r61 = (z6 - (1 : Int32)) then (B_L_isNormal_72 s61 a1 z12) else (some (.inl (0 : Int32), s61)))) else (some (.inl (0 : Int32), s52)))))))))))
set_option maxRecDepth 100000 in
theorem sp_L_isNormal {l : Launch} (hl : l.stackTraces = false) {g : Gy} {ad : Nat → Nat} {rst : va_W} {σ : DS} (a1 : Int32) : SpR l mL_isNormal 10 13 78 mI g [.ref (ad 0), .int a1] (dkh g ad rst) σ (P_L_isNormal σ a1) := by
  refine SpR.of hl (by decide) (Nat.le_of_ble_eq_true rfl) (fun rr H p e s m args below meth c A C hr hx => ?_)
  unfold P_L_isNormal at H
  refine J.lw (lv' := [(0, .ref (ad 0)), (1, .int a1)]) ⟨rfl, rfl, trivial⟩ ?_
  refine J.aload_n (i := 0) C dL_isNormal_0 rfl rfl ?_
  refine J.iload_n (i := 1) C dL_isNormal_1 rfl rfl ?_
  refine J.iconst C (3) dL_isNormal_2 (by decide) ?_
  refine J.callH9 (hp := (dkh g ad rst)) C rfl (sp_L_tells hl _ _) rfl kMl_L_181 mdL_tells ⟨(Nat.le_of_ble_eq_true rfl), (Nat.le_of_ble_eq_true rfl)⟩ rfl (Nat.le_of_ble_eq_true rfl) dL_isNormal_3 ⟨by show _ ≤ (13 : Nat); omega, by show _ ≤ (78 : Nat); omega⟩ H (fun E z e9 => J.outR C hx (by omega) (by omega) e9) (fun r3 s3 H => ?_)
  refine J.istore_nL (i := 2) C dL_isNormal_6 rfl (by decide) H (fun z6 H => ?_)
  refine J.aload_n (i := 0) C dL_isNormal_7 rfl rfl ?_
  refine J.iload_n (i := 1) C dL_isNormal_8 rfl rfl ?_
  refine J.callH9 (hp := (dkh g ad rst)) C rfl (sp_L_step hl _) rfl kMl_L_215 mdL_step ⟨(Nat.le_of_ble_eq_true rfl), (Nat.le_of_ble_eq_true rfl)⟩ rfl (Nat.le_of_ble_eq_true rfl) dL_isNormal_9 ⟨by show _ ≤ (13 : Nat); omega, by show _ ≤ (78 : Nat); omega⟩ H (fun E z e9 => J.outR C hx (by omega) (by omega) e9) (fun r9 s9 H => ?_)
  refine J.istore_nL (i := 3) C dL_isNormal_12 rfl (by decide) H (fun z12 H => ?_)
  refine J.iload_n (i := 2) C dL_isNormal_13 rfl rfl ?_
  refine J.if_neL (tgt := 39) C dL_isNormal_14 (by decide) H (fun c_14 H => ?_) (fun c_14 H => ?_)
  · refine J.iload_n (i := 3) C dL_isNormal_39 rfl rfl ?_
    refine J.if_ltL (tgt := 72) C dL_isNormal_40 (by decide) H (fun c_40 H => ?_) (fun c_40 H => ?_)
    · refine J.lw (lv' := [(0, .ref (ad 0)), (1, .int a1), (3, .int z12)]) ⟨rfl, rfl, rfl, trivial⟩ ?_
      exact bl_L_isNormal_72 hl C hr hx _ _ (by omega) (by omega) _ _ _ H
    · refine J.aload_n (i := 0) C dL_isNormal_43 rfl rfl ?_
      refine J.iload_n (i := 3) C dL_isNormal_44 rfl rfl ?_
      refine J.iconst C (1) dL_isNormal_45 (by decide) ?_
      refine J.callH9 (hp := (dkh g ad rst)) C rfl (sp_L_tells hl _ _) rfl kMl_L_181 mdL_tells ⟨(Nat.le_of_ble_eq_true rfl), (Nat.le_of_ble_eq_true rfl)⟩ rfl (Nat.le_of_ble_eq_true rfl) dL_isNormal_46 ⟨by show _ ≤ (13 : Nat); omega, by show _ ≤ (78 : Nat); omega⟩ H (fun E z e9 => J.outR C hx (by omega) (by omega) e9) (fun r46 s46 H => ?_)
      refine J.aload_n (i := 0) C dL_isNormal_49 rfl rfl ?_
      refine J.iload_n (i := 1) C dL_isNormal_50 rfl rfl ?_
      refine J.iconst C (1) dL_isNormal_51 (by decide) ?_
      refine J.callH9 (hp := (dkh g ad rst)) C rfl (sp_L_tells hl _ _) rfl kMl_L_181 mdL_tells ⟨(Nat.le_of_ble_eq_true rfl), (Nat.le_of_ble_eq_true rfl)⟩ rfl (Nat.le_of_ble_eq_true rfl) dL_isNormal_52 ⟨by show _ ≤ (13 : Nat); omega, by show _ ≤ (78 : Nat); omega⟩ H (fun E z e9 => J.outR C hx (by omega) (by omega) e9) (fun r52 s52 H => ?_)
      refine J.icmp_neL (tgt := 70) C dL_isNormal_55 (by decide) H (fun c_55 H => ?_) (fun c_55 H => ?_)
      · refine J.iconst C (0) dL_isNormal_70 (by decide) ?_
        exact J.zretL C hr rfl (by omega) (by omega) dL_isNormal_71 H
      · refine J.aload_n (i := 0) C dL_isNormal_58 rfl rfl ?_
        refine J.iload_n (i := 3) C dL_isNormal_59 rfl rfl ?_
        refine J.iconst C (3) dL_isNormal_60 (by decide) ?_
        refine J.callH9 (hp := (dkh g ad rst)) C rfl (sp_L_tells hl _ _) rfl kMl_L_181 mdL_tells ⟨(Nat.le_of_ble_eq_true rfl), (Nat.le_of_ble_eq_true rfl)⟩ rfl (Nat.le_of_ble_eq_true rfl) dL_isNormal_61 ⟨by show _ ≤ (13 : Nat); omega, by show _ ≤ (78 : Nat); omega⟩ H (fun E z e9 => J.outR C hx (by omega) (by omega) e9) (fun r61 s61 H => ?_)
        refine J.iload_n (i := 2) C dL_isNormal_64 rfl rfl ?_
        refine J.iconst C (1) dL_isNormal_65 (by decide) ?_
        refine J.isub C dL_isNormal_66 ?_
        refine J.icmp_eqL (tgt := 72) C dL_isNormal_67 (by decide) H (fun c_67 H => ?_) (fun c_67 H => ?_)
        · refine J.lw (lv' := [(0, .ref (ad 0)), (1, .int a1), (3, .int z12)]) ⟨rfl, rfl, rfl, trivial⟩ ?_
          exact bl_L_isNormal_72 hl C hr hx _ _ (by omega) (by omega) _ _ _ H
        · refine J.iconst C (0) dL_isNormal_70 (by decide) ?_
          exact J.zretL C hr rfl (by omega) (by omega) dL_isNormal_71 H
  · refine J.iload_n (i := 3) C dL_isNormal_17 rfl rfl ?_
    refine J.sipush C (-1002) dL_isNormal_18 (by decide) ?_
    refine J.icmp_neL (tgt := 37) C dL_isNormal_21 (by decide) H (fun c_21 H => ?_) (fun c_21 H => ?_)
    · refine J.iconst C (0) dL_isNormal_37 (by decide) ?_
      exact J.zretL C hr rfl (by omega) (by omega) dL_isNormal_38 H
    · refine J.aload_n (i := 0) C dL_isNormal_24 rfl rfl ?_
      refine J.iload_n (i := 1) C dL_isNormal_25 rfl rfl ?_
      refine J.callH9 (hp := (dkh g ad rst)) C rfl (sp_L_form hl _) rfl kMl_L_219 mdL_form ⟨(Nat.le_of_ble_eq_true rfl), (Nat.le_of_ble_eq_true rfl)⟩ rfl (Nat.le_of_ble_eq_true rfl) dL_isNormal_26 ⟨by show _ ≤ (13 : Nat); omega, by show _ ≤ (78 : Nat); omega⟩ H (fun E z e9 => J.outR C hx (by omega) (by omega) e9) (fun r26 s26 H => ?_)
      refine J.iload_n (i := 1) C dL_isNormal_29 rfl rfl ?_
      refine J.icmp_neL (tgt := 37) C dL_isNormal_30 (by decide) H (fun c_30 H => ?_) (fun c_30 H => ?_)
      · refine J.iconst C (0) dL_isNormal_37 (by decide) ?_
        exact J.zretL C hr rfl (by omega) (by omega) dL_isNormal_38 H
      · refine J.iconst C (1) dL_isNormal_33 (by decide) ?_
        refine J.goto (tgt := 38) C dL_isNormal_34 (by decide) ?_
        exact J.zretL C hr rfl (by omega) (by omega) dL_isNormal_38 H
