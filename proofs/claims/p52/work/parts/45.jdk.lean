/-! THE SCRIPT AND THE TEXT CONSTANT: contracts with one more fact at the start -/
def xat (L : Nat) (xs : Nat → Int32) (k : Int32) : Int32 := if nI L ≤ k then 0 else xs k.toNatClampNeg
def ch4 (i : Int32) : Int32 := ([78, 75, 65, 67] : List Int32).getD i.toNatClampNeg 0
abbrev XF : Type := (Nat → Prop) → State → Heap → Prop
def XOK (X : XF) : Prop := (∀ (A : Nat → Prop) (u U : State) (H : Heap), u.vm.Alike U.vm → X A u H → X A U H) ∧ (∀ (A : Nat → Prop) (U : State) (H H1 : Heap), (∀ a : Nat, a < H.size → ¬ A a → H1[a]? = H[a]?) → X A U H → X A U H1) ∧ ∀ (A B : Nat → Prop) (U : State) (H : Heap), (∀ q, B q → A q) → X A U H → X B U H
/-- the script -/
def XS (b L : Nat) (xs : Nat → Int32) : XF := fun A U H => va_T .int b L (fun j => .int (xs j)) A U H
theorem XS.ok {b L : Nat} {xs : Nat → Int32} : XOK (XS b L xs) := ⟨fun _ _ _ _ hv h => va_T.moved hv h, fun _ _ _ _ hq h => va_T.kept h hq, fun _ _ _ _ hAB h => va_T.narrow h hAB⟩
/-- the text -/
def XT (a b : Nat) : XF := fun A U H => va_O "java/lang/String" a A U H ∧ va_OF "java/lang/String" "coder" "B" (.int 0) a A U H ∧ va_OF "java/lang/String" "value" "[B" (.ref b) a A U H ∧ va_T .byte b 4 (fun j => .int (([78, 75, 65, 67] : List Int32).getD j 0)) A U H
theorem XT.ok {a b : Nat} : XOK (XT a b) := ⟨fun _ _ _ _ hv h => ⟨va_O.moved hv h.1, va_OF.moved hv h.2.1, va_OF.moved hv h.2.2.1, va_T.moved hv h.2.2.2⟩, fun _ _ _ _ hq h => ⟨va_O.kept h.1 hq, va_OF.kept h.2.1 hq, va_OF.kept h.2.2.1 hq, va_T.kept h.2.2.2 hq⟩, fun _ _ _ _ hAB h => ⟨va_O.narrow h.1 hAB, va_OF.narrow h.2.1 hAB, va_OF.narrow h.2.2.1 hAB, va_T.narrow h.2.2.2 hAB⟩⟩
def PcX (X : XF) (g : Gy) (as : List Value) (h : va_W) (sz : Nat) : Array Value → State → Prop :=
  va_Pc as (fun U => U.heap.size = sz ∧ va_P g.1 vwCl h U.heap ∧ WK g U ∧ va_D (fun _ => True) h ∧ TW (va_A h sz) U U.heap ∧ X (va_A h sz) U U.heap)
theorem PcX.blind {X : XF} (hX : XOK X) {g : Gy} {as : List Value} {h : va_W} {sz : Nat} : FrameBlind (PcX X g as h sz) := fun a U f mk q => by
  obtain ⟨q0, q1, qP, qK, qD, qT, qX⟩ := q
  exact ⟨q0, q1, qP, va_K.moved (u := U) (U := U.calling f mk a) (Vm.Alike.refl U.vm) qK, qD, qT.same rfl, hX.1 _ U (U.calling f mk a) _ (Vm.Alike.refl U.vm) qX⟩
def SpX {ρ : Type} (X : XF) (l : Launch) (d : MD) (lev : Nat) (mk : ρ → Option Value) (g : Gy) (as : List Value) (h : va_W) (post : ρ → va_W → Prop) : Prop :=
  ∀ sz : Nat, vx_Met l d.1 d.ws (rmOf lev 0 0) (PcX X g as h sz) (Qg mk post g (va_A h sz)) (XQ (fun _ _ => False) g (va_A h sz)) 0 0 (va_A h sz)
theorem SpX.of {ρ : Type} {X : XF} {l : Launch} {d : MD} {lev : Nat} {mk : ρ → Option Value} {g : Gy} {as : List Value} {h : va_W} {post : ρ → va_W → Prop}
    (hl : l.stackTraces = false) (hy : plainName d.1.cls = true) (hlen : (lg_sl as).length ≤ d.2.2.1)
    (body : ∀ (p : Program) (e : Env) (s : State) (m : MethodId) (args : Array Value) (below : List Frame) (meth : Method) (c : Code) (A : Nat → Prop), Cx p l s m args meth c g A d.1.cls d.2.1 d.2.2.1 → meth.sig.returnType = d.2.2.2 → (∀ x ∈ c.exceptionTable.toList, False) → X A s s.heap →
      J p l e (rmOf lev 0 0) s m args below meth c g A d.2.2.1 0 0 (vx_MQ below (Qg mk post g A) (XQ (fun _ _ => False) g A) args s 0 0 A) 0 (lv_args 0 as) [] h) : SpX X l d lev mk g as h post := by
  intro sz
  refine vx_ofW hy (rfl : d.ws = _) ?_
  intro p e s m args below meth c s₁ B hml htab hv
  obtain ⟨rfl, hsz, hP, hK, hD0, hT, hX⟩ := hv
  subst hsz
  have hts : ∀ w ∈ d.ws, w.before as.toArray s = true := atoms_spec (ws := d.ws) B.pre
  have hb9 := body p e s m as.toArray below meth c (va_A h s.heap.size) ⟨B.exec, B.bytes, hml, findClass_of_methodNamed B.named, fun w hw => hts w (List.mem_cons_of_mem _ hw), B.notSynchronized, hK, fun q hq => Or.inr hq, hT, hl⟩ B.returns htab hX
  rw [lg_entry_eq]
  exact hb9 s.heap [] _ hP (hD0.self (sz := s.heap.size)) va_S.rf (lv_entry as hlen)
section CALLX
variable {p : Program} {l : Launch} {e : Env} {R : Room} {s : State} {m : MethodId} {args : Array Value} {below : List Frame} {meth : Method} {c : Code} {g : Gy} {A : Nat → Prop} {own : String} {cc : ByteArray} {nL : Nat} {cells slots : Nat} {Q : State → Prop} {pc : Nat} {lv : List (Nat × Value)} {st rest : List Value} {h : va_W}
theorem Cx.startX (C : Cx p l s m args meth c g A own cc nL) {X : XF} (hO : XOK X) (hX : X A s s.heap) {H : Heap} {locs : List Loc} {as : List Value} (hP : va_P g.1 vwCl h H) (hD : va_D A h) (hS : va_S A s.heap H locs) : PreS s H (PcX X g as h H.size) as :=
  ⟨PcX.blind hO, fun U hU hW => ⟨rfl, by rw [hU], by rw [hU]; exact hP, WK.go C.2.2.2.2.2.2.1 hW.alike, hD.weaken (fun _ _ _ _ => trivial), by rw [hU]; exact C.2.2.2.2.2.2.2.2.1.go hW hS.2.1 (C.free hD hS), by rw [hU]; exact hO.2.2 A _ U H (C.free hD hS) (hO.1 A s U H hW.alike (hO.2.1 A s _ H hS.2.1 hX))⟩⟩
theorem J.callSX {ρ : Type} {X : XF} {mk : ρ → Option Value} {post : ρ → va_W → Prop} {d : MD} {lev n idx : Nat} {as : List Value} (C : Cx p l s m args meth c g A own cc nL) (hO : XOK X) (hX : X A s s.heap) (sp : SpX X l d lev mk g as h post) (hst : st = as.reverse ++ rest) (hl : Cond.methodLink own idx d.1 ∈ BIG) (hd : MDs d n) (hR : lev + 1 ≤ R.frames ∧ 8 + (d.2.2.1 + 11) + 64 * lev ≤ R.locals)
    (hn : as.length = n) (hW : (rest.map fun v => v.category).sum ≤ 8) (hdg : decode cc pc = .ok (.invokestatic idx, 3)) (hf : cells ≤ R.cells ∧ slots ≤ R.slots)
    (kk : ∀ (r : ρ) (u : va_W), post r u → J p l e R s m args below meth c g A nL cells slots Q (pc + 3) lv ((mk r).toList ++ rest) u) : J p l e R s m args below meth c g A nL cells slots Q pc lv st h := by
  subst hst
  exact J.run (mc := 0) (ms := 0) C (fun H locs ls hP hD hS hlv => vx_runS ⟨C.1, C.2.1, C.2.2.1, C.2.2.2.1, C.2.2.2.2.1⟩ (sp H.size) (va_cwS n C.2.2.2.2.1 (hd.good hl) (rfl : d.ws = _) rfl rfl hd.2.2.2 hR) (C.startX hO hX hP hD hS) rfl hn hlv.1 rfl (lv_room hW) hdg hf) (fun _ _ z => z.elim) kk
theorem J.callVX {ρ : Type} {X : XF} {mk : ρ → Option Value} {post : ρ → va_W → Prop} {d : MD} {lev n idx b0 : Nat} {Cn : String} {as : List Value} (C : Cx p l s m args meth c g A own cc nL) (hO : XOK X) (hX : X A s s.heap) (ho : va_O Cn b0 A s s.heap) (sp : SpX X l d lev mk g (.ref b0 :: as) h post) (hst : st = as.reverse ++ .ref b0 :: rest) (hl : Cond.methodLink own idx d.1 ∈ BIG) (hd : MDv d Cn n) (hR : lev + 1 ≤ R.frames ∧ 8 + (d.2.2.1 + 11) + 64 * lev ≤ R.locals)
    (hn : as.length = n) (hW : (rest.map fun v => v.category).sum ≤ 8) (hdg : decode cc pc = .ok (.invokevirtual idx, 3)) (hf : cells ≤ R.cells ∧ slots ≤ R.slots)
    (kk : ∀ (r : ρ) (u : va_W), post r u → J p l e R s m args below meth c g A nL cells slots Q (pc + 3) lv ((mk r).toList ++ rest) u) : J p l e R s m args below meth c g A nL cells slots Q pc lv st h := by
  subst hst
  exact J.run (mc := 0) (ms := 0) C (fun H locs ls hP hD hS hlv => vx_runV ⟨C.1, C.2.1, C.2.2.1, C.2.2.2.1, C.2.2.2.2.1⟩ (sp H.size) (cwV n C.2.2.2.2.1 (hd.good hl) (rfl : d.ws = _) rfl rfl hd.2.2.2.2 hR) ⟨PcX.blind hO, (ho.kept hS.2.1).elim fun cell q => ⟨cell, q.1, q.2.1, q.2.2.1⟩, (C.startX hO hX hP hD hS).2⟩ rfl hn hlv.1 rfl (lv_room hW) hdg hf) (fun _ _ z => z.elim) kk
theorem J.gets (C : Cx p l s m args meth c g A own cc nL) {Cn n d : String} {idx : Nat} {v : Value} (hZ : va_Z Cn n d v A s s.heap) (hlink : Cond.fieldLink own idx Cn n d ∈ BIG) (hdg : decode cc pc = .ok (.getstatic idx, 3)) (k : J p l e R s m args below meth c g A nL cells slots Q (pc + 3) lv (v :: rest) h) : J p l e R s m args below meth c g A nL cells slots Q pc lv rest h := fun H locs ls hP hD hS hl => va_gets C.1 C.2.1 hZ hS C.2.2.2.1 (C.2.2.2.2.1 _ hlink) (fun _ h => h) hdg (k H locs ls hP hD hS hl)
theorem J.getO (C : Cx p l s m args meth c g A own cc nL) {o n d : String} {idx q : Nat} {v : Value} (hE : va_OF o n d v q A s s.heap) (hlink : Cond.fieldLink own idx o n d ∈ BIG) (hdg : decode cc pc = .ok (.getfield idx, 3)) (k : J p l e R s m args below meth c g A nL cells slots Q (pc + 3) lv (v :: rest) h) : J p l e R s m args below meth c g A nL cells slots Q pc lv (.ref q :: rest) h := fun H locs ls hP hD hS hl => vk_getf C.1 C.2.1 hE hS C.2.2.2.1 (C.2.2.2.2.1 _ hlink) (fun _ h => h) hdg (k H locs ls hP hD hS hl)
theorem J.tlen (C : Cx p l s m args meth c g A own cc nL) {ty : FieldType} {t N : Nat} {f : Nat → Value} (hT : va_T ty t N f A s s.heap) (hdg : decode cc pc = .ok (.arraylength, 1)) (k : J p l e R s m args below meth c g A nL cells slots Q (pc + 1) lv (.int (nI N) :: rest) h) : J p l e R s m args below meth c g A nL cells slots Q pc lv (.ref t :: rest) h := fun H locs ls hP hD hS hl => va_tlen C.1 C.2.1 hT hS (rfl : Int32.ofNat N = nI N) hdg (k H locs ls hP hD hS hl)
theorem J.ti (C : Cx p l s m args meth c g A own cc nL) {t N : Nat} {f : Nat → Value} (hT : va_T .int t N f A s s.heap) {i : Int32} (hin : vp_in i N) {v : Value} (hv : f i.toNatClampNeg = v) (hdg : decode cc pc = .ok (.iaload, 1)) (k : J p l e R s m args below meth c g A nL cells slots Q (pc + 1) lv (v :: rest) h) : J p l e R s m args below meth c g A nL cells slots Q pc lv (.int i :: .ref t :: rest) h := fun H locs ls hP hD hS hl => va_ti C.1 C.2.1 hT hS hin hv hdg (k H locs ls hP hD hS hl)
theorem J.tb (C : Cx p l s m args meth c g A own cc nL) {t N : Nat} {f : Nat → Value} (hT : va_T .byte t N f A s s.heap) {i : Int32} (hin : vp_in i N) {v : Value} (hv : f i.toNatClampNeg = v) (hdg : decode cc pc = .ok (.baload, 1)) (k : J p l e R s m args below meth c g A nL cells slots Q (pc + 1) lv (v :: rest) h) : J p l e R s m args below meth c g A nL cells slots Q pc lv (.int i :: .ref t :: rest) h := fun H locs ls hP hD hS hl => va_tb C.1 C.2.1 hT hS hin hv hdg (k H locs ls hP hD hS hl)
theorem J.ldcT (C : Cx p l s m args meth c g A own cc nL) {tx : String} {idx q : Nat} (hZ : vk_R own idx tx q s) (hdg : decode cc pc = .ok (.ldc idx, 2)) (k : J p l e R s m args below meth c g A nL cells slots Q (pc + 2) lv (.ref q :: rest) h) : J p l e R s m args below meth c g A nL cells slots Q pc lv rest h := fun H locs ls hP hD hS hl => va_ldcS C.1 C.2.1 C.2.2.2.1 hZ hdg (k H locs ls hP hD hS hl)
end CALLX
/-! the JDK's charAt on it -/
abbrev mJ3_checkIndex : MD := (yJ3_checkIndex_8e157, cJ3_checkIndex_8e157, 3, some .int)
theorem mdJ3_checkIndex : MDs mJ3_checkIndex 3 := ⟨kSt_J3_checkIndex_8e157, kIn_J3, kCo_J3_checkIndex_8e157, by decide +kernel⟩
theorem sp_J3_checkIndex {l : Launch} (hl : l.stackTraces = false) {g : Gy} {h : va_W} {i n : Int32} (h0 : ¬ i < 0) (h1 : i < n) {v : Value} (hv : v = .null ∨ ∃ q, v = .ref q) : SpF l mJ3_checkIndex 1 0 0 mI g [.int i, .int n, v] h i h := by
  rcases hv with rfl | ⟨q, rfl⟩
  all_goals
    refine Sp.of hl (by decide) (Nat.le_of_ble_eq_true rfl) (fun p e s m args below meth c A C hr hx => ?_)
    refine J.lw (lv' := [(0, .int i), (1, .int n)]) ⟨rfl, rfl, trivial⟩ ?_
    refine J.iload_n (i := 0) C dJ3_checkIndex_8e157_0 rfl rfl ?_
    refine J.if_lt (tgt := 9) C dJ3_checkIndex_8e157_1 (by decide) (fun z => absurd z h0) (fun _ => ?_)
    refine J.iload_n (i := 0) C dJ3_checkIndex_8e157_4 rfl rfl ?_
    refine J.iload_n (i := 1) C dJ3_checkIndex_8e157_5 rfl rfl ?_
    refine J.icmp_lt (tgt := 16) C dJ3_checkIndex_8e157_6 (by decide) (fun _ => ?_) (fun z => absurd h1 z)
    refine J.iload_n (i := 0) C dJ3_checkIndex_8e157_16 rfl rfl ?_
    exact J.iretA C hr (Nat.le_refl _) (Nat.le_refl _) dJ3_checkIndex_8e157_17 rfl
abbrev mJ0_checkIndex : MD := (yJ0_checkIndex_df160, cJ0_checkIndex_df160, 2, none)
theorem mdJ0_checkIndex : MDs mJ0_checkIndex 2 := ⟨kSt_J0_checkIndex_df160, kIn_J0, kCo_J0_checkIndex_df160, by decide +kernel⟩
theorem sp_J0_checkIndex {l : Launch} (hl : l.stackTraces = false) {g : Gy} {h : va_W} {i n : Int32} (h0 : ¬ i < 0) (h1 : i < n) : SpF l mJ0_checkIndex 2 0 0 mV g [.int i, .int n] h () h := by
  refine Sp.of hl (by decide) (Nat.le_of_ble_eq_true rfl) (fun p e s m args below meth c A C hr hx => ?_)
  refine J.lw (lv' := [(0, .int i), (1, .int n)]) ⟨rfl, rfl, trivial⟩ ?_
  refine J.iload_n (i := 0) C dJ0_checkIndex_df160_0 rfl rfl ?_
  refine J.iload_n (i := 1) C dJ0_checkIndex_df160_1 rfl rfl ?_
  rcases C.2.2.2.2.2.2.2.2.1.2.2.2.2.2.2.1 with hz | ⟨t, hz⟩
  all_goals
    refine J.gets C hz kFl_J0_1053 dJ0_checkIndex_df160_2 ?_
    refine J.callSI C (sp_J3_checkIndex hl h0 h1 (by first | exact Or.inl rfl | exact Or.inr ⟨_, rfl⟩)) rfl kMl_J0_1059 mdJ3_checkIndex ⟨(Nat.le_of_ble_eq_true rfl), (Nat.le_of_ble_eq_true rfl)⟩ rfl (Nat.le_of_ble_eq_true rfl) dJ0_checkIndex_df160_5 ⟨(Nat.le_of_ble_eq_true rfl), (Nat.le_of_ble_eq_true rfl)⟩ ?_
    refine J.pop C dJ0_checkIndex_df160_8 rfl ?_
    exact J.vret C hr (Nat.le_refl _) (Nat.le_refl _) dJ0_checkIndex_df160_9 ⟨rfl, rfl⟩
abbrev mJ1_charAt : MD := (yJ1_charAt_3b067, cJ1_charAt_3b067, 2, some .char)
theorem mdJ1_charAt : MDs mJ1_charAt 2 := ⟨kSt_J1_charAt_3b067, kIn_J1, kCo_J1_charAt_3b067, by decide +kernel⟩
theorem ch4_val {i : Int32} (h : vp_in i 4) : (((([78, 75, 65, 67] : List Int32).getD i.toNatClampNeg 0) &&& 255).toUInt32 % 65536).toInt32 = ch4 i := by
  have h4 : i.toNatClampNeg < 4 := Nat.not_le.mp fun q => h (Or.inr q)
  unfold ch4
  have : i.toNatClampNeg = 0 ∨ i.toNatClampNeg = 1 ∨ i.toNatClampNeg = 2 ∨ i.toNatClampNeg = 3 := by omega
  rcases this with e | e | e | e <;> rw [e] <;> decide
theorem vp4 {i : Int32} (h : vp_in i 4) : ¬ i < 0 ∧ i < nI 4 := by
  have h0 : ¬ i < 0 := fun q => h (Or.inl q)
  refine ⟨h0, ?_⟩
  obtain ⟨j, hj, rfl⟩ := nI_of h0
  have h4 : (nI j).toNatClampNeg < 4 := Nat.not_le.mp fun q => h (Or.inr q)
  rw [nI_clamp hj] at h4
  exact nI_lt h4 (by decide)
theorem sp_J1_charAt {l : Launch} (hl : l.stackTraces = false) {g : Gy} {h : va_W} {a b : Nat} {i : Int32} (hi : vp_in i 4) : SpX (XT a b) l mJ1_charAt 3 mI g [.ref b, .int i] h (fun r u => r = ch4 i ∧ u = h) := by
  refine SpX.of hl (by decide) (Nat.le_of_ble_eq_true rfl) (fun p e s m args below meth c A C hr hx hX => ?_)
  refine J.lw (lv' := [(0, .ref b), (1, .int i)]) ⟨rfl, rfl, trivial⟩ ?_
  refine J.iload_n (i := 1) C dJ1_charAt_3b067_0 rfl rfl ?_
  refine J.aload_n (i := 0) C dJ1_charAt_3b067_1 rfl rfl ?_
  refine J.tlen C hX.2.2.2 dJ1_charAt_3b067_2 ?_
  refine J.callS C (sp_J0_checkIndex hl (vp4 hi).1 (vp4 hi).2) rfl kMl_J1_9 mdJ0_checkIndex ⟨(Nat.le_of_ble_eq_true rfl), (Nat.le_of_ble_eq_true rfl)⟩ rfl (Nat.le_of_ble_eq_true rfl) dJ1_charAt_3b067_3 ⟨(Nat.le_of_ble_eq_true rfl), (Nat.le_of_ble_eq_true rfl)⟩ (fun _ _ z => z.elim) (fun r u hu => ?_)
  obtain ⟨-, rfl⟩ := hu
  refine J.aload_n (i := 0) C dJ1_charAt_3b067_6 rfl rfl ?_
  refine J.iload_n (i := 1) C dJ1_charAt_3b067_7 rfl rfl ?_
  refine J.tb C hX.2.2.2 hi rfl dJ1_charAt_3b067_8 ?_
  refine J.sipush C (255) dJ1_charAt_3b067_9 (by decide) ?_
  refine J.iand C dJ1_charAt_3b067_12 ?_
  refine J.i2c C _ dJ1_charAt_3b067_13 rfl ?_
  exact J.zret C hr (pk_nc _) (Nat.le_refl _) (Nat.le_refl _) dJ1_charAt_3b067_14 ⟨ch4_val hi, rfl⟩
abbrev mJ0_isLatin1 : MD := (yJ0_isLatin1_aae02, cJ0_isLatin1_aae02, 1, some .boolean)
theorem mdJ0_isLatin1 : MDv mJ0_isLatin1 "java/lang/String" 0 := ⟨kIm_J0_isLatin1_aae02, kSe_J0_isLatin1_aae02, kIn_J0, kCo_J0_isLatin1_aae02, by decide +kernel⟩
theorem sp_J0_isLatin1 {l : Launch} (hl : l.stackTraces = false) {g : Gy} {h : va_W} {a b : Nat} : SpX (XT a b) l mJ0_isLatin1 1 mI g [.ref a] h (fun r u => r = 1 ∧ u = h) := by
  refine SpX.of hl (by decide) (Nat.le_of_ble_eq_true rfl) (fun p e s m args below meth c A C hr hx hX => ?_)
  refine J.lw (lv' := [(0, .ref a)]) ⟨rfl, trivial⟩ ?_
  refine J.gets C C.2.2.2.2.2.2.2.2.1.2.2.2.2.2.1 kFl_J0_38 dJ0_isLatin1_aae02_0 ?_
  refine J.if_eq (tgt := 17) C dJ0_isLatin1_aae02_3 (by decide) (fun z => absurd z (by decide)) (fun _ => ?_)
  refine J.aload_n (i := 0) C dJ0_isLatin1_aae02_6 rfl rfl ?_
  refine J.getO C hX.2.1 kFl_J0_15 dJ0_isLatin1_aae02_7 ?_
  refine J.if_ne (tgt := 17) C dJ0_isLatin1_aae02_10 (by decide) (fun z => absurd rfl z) (fun _ => ?_)
  refine J.iconst C (1) dJ0_isLatin1_aae02_13 (by decide) ?_
  refine J.goto (tgt := 18) C dJ0_isLatin1_aae02_14 (by decide) ?_
  exact J.zret C hr rfl (Nat.le_refl _) (Nat.le_refl _) dJ0_isLatin1_aae02_18 ⟨rfl, rfl⟩
abbrev mJ0_charAt : MD := (yJ0_charAt_5068e, cJ0_charAt_5068e, 2, some .char)
theorem mdJ0_charAt : MDv mJ0_charAt "java/lang/String" 1 := ⟨kIm_J0_charAt_5068e, kSe_J0_charAt_5068e, kIn_J0, kCo_J0_charAt_5068e, by decide +kernel⟩
theorem sp_J0_charAt {l : Launch} (hl : l.stackTraces = false) {g : Gy} {h : va_W} {a b : Nat} {i : Int32} (hi : vp_in i 4) : SpX (XT a b) l mJ0_charAt 4 mI g [.ref a, .int i] h (fun r u => r = ch4 i ∧ u = h) := by
  refine SpX.of hl (by decide) (Nat.le_of_ble_eq_true rfl) (fun p e s m args below meth c A C hr hx hX => ?_)
  refine J.lw (lv' := [(0, .ref a), (1, .int i)]) ⟨rfl, rfl, trivial⟩ ?_
  refine J.aload_n (i := 0) C dJ0_charAt_5068e_0 rfl rfl ?_
  refine J.callVX C XT.ok hX hX.1 (sp_J0_isLatin1 hl) rfl kMl_J0_492 mdJ0_isLatin1 ⟨(Nat.le_of_ble_eq_true rfl), (Nat.le_of_ble_eq_true rfl)⟩ rfl (Nat.le_of_ble_eq_true rfl) dJ0_charAt_5068e_1 ⟨(Nat.le_of_ble_eq_true rfl), (Nat.le_of_ble_eq_true rfl)⟩ (fun r u hu => ?_)
  obtain ⟨rfl, rfl⟩ := hu
  refine J.if_eq (tgt := 16) C dJ0_charAt_5068e_4 (by decide) (fun z => absurd z (by decide)) (fun _ => ?_)
  refine J.aload_n (i := 0) C dJ0_charAt_5068e_7 rfl rfl ?_
  refine J.getO C hX.2.2.1 kFl_J0_9 dJ0_charAt_5068e_8 ?_
  refine J.iload_n (i := 1) C dJ0_charAt_5068e_11 rfl rfl ?_
  refine J.callSX C XT.ok hX (sp_J1_charAt hl hi) rfl kMl_J0_495 mdJ1_charAt ⟨(Nat.le_of_ble_eq_true rfl), (Nat.le_of_ble_eq_true rfl)⟩ rfl (Nat.le_of_ble_eq_true rfl) dJ0_charAt_5068e_12 ⟨(Nat.le_of_ble_eq_true rfl), (Nat.le_of_ble_eq_true rfl)⟩ (fun r u hu => ?_)
  obtain ⟨rfl, rfl⟩ := hu
  have hnar : narrow .char (.int (ch4 i)) = .int (ch4 i) := by rw [← ch4_val hi]; exact pk_nc _
  exact J.zret C hr hnar (Nat.le_refl _) (Nat.le_refl _) dJ0_charAt_5068e_15 ⟨rfl, rfl⟩
/-! the law's own reading of its script -/
abbrev mL_at : MD := (yL_at, cL_at, 2, some .int)
theorem mdL_at : MDs mL_at 2 := ⟨kSt_L_at, kIn_L, kCo_L_at, by decide +kernel⟩
theorem sp_L_at {l : Launch} (hl : l.stackTraces = false) {g : Gy} {h : va_W} {b L : Nat} {xs : Nat → Int32} (hL : L ≤ 260) {k : Int32} (h0 : ¬ k < 0) : SpX (XS b L xs) l mL_at 1 mI g [.ref b, .int k] h (fun r u => r = xat L xs k ∧ u = h) := by
  refine SpX.of hl (by decide) (Nat.le_of_ble_eq_true rfl) (fun p e s m args below meth c A C hr hx hX => ?_)
  refine J.lw (lv' := [(0, .ref b), (1, .int k)]) ⟨rfl, rfl, trivial⟩ ?_
  refine J.iload_n (i := 1) C dL_at_0 rfl rfl ?_
  refine J.aload_n (i := 0) C dL_at_1 rfl rfl ?_
  refine J.tlen C hX dL_at_2 ?_
  refine J.icmp_ge (tgt := 12) C dL_at_3 (by decide) (fun z => ?_) (fun z => ?_)
  · refine J.iconst C (0) dL_at_12 (by decide) ?_
    exact J.iret C hr (Nat.le_refl _) (Nat.le_refl _) dL_at_13 ⟨by unfold xat; rw [if_pos z], rfl⟩
  · refine J.aload_n (i := 0) C dL_at_6 rfl rfl ?_
    refine J.iload_n (i := 1) C dL_at_7 rfl rfl ?_
    have hin : vp_in k L := by
      obtain ⟨j, hj, rfl⟩ := nI_of h0
      have hjL : j < L := Nat.not_le.mp fun q => z ((nI_leI (by omega) hj).mpr q)
      exact nI_in hjL (by omega)
    refine J.ti C hX hin rfl dL_at_8 ?_
    refine J.goto (tgt := 13) C dL_at_9 (by decide) ?_
    exact J.iret C hr (Nat.le_refl _) (Nat.le_refl _) dL_at_13 ⟨by unfold xat; rw [if_neg z], rfl⟩
/-- what the law's walk knows of its text -/
def TX (tA : Nat) (A : Nat → Prop) (s : State) : Prop := vk_R "DeductionDeskLaw" 244 "NKAC" tA s ∧ ∃ b : Nat, XT tA b A s s.heap
section LAWX
variable {p : Program} {l : Launch} {e : Env} {R : Room} {s : State} {m : MethodId} {args : Array Value} {below : List Frame} {meth : Method} {c : Code} {g : Gy} {A : Nat → Prop} {own : String} {cc : ByteArray} {nL : Nat} {cells slots : Nat} {Q : State → Prop} {pc : Nat} {lv : List (Nat × Value)} {st rest : List Value} {h : va_W}
theorem J.charAt (C : Cx p l s m args meth c g A own cc nL) (hl : l.stackTraces = false) {tA idx : Nat} (hT : TX tA A s) {i : Int32} (hi : vp_in i 4) (hl9 : Cond.methodLink own idx yJ0_charAt_5068e ∈ BIG) (hR : 4 + 1 ≤ R.frames ∧ 8 + (2 + 11) + 64 * 4 ≤ R.locals) (hW : (rest.map fun v => v.category).sum ≤ 8) (hf : cells ≤ R.cells ∧ slots ≤ R.slots) (hdg : decode cc pc = .ok (.invokevirtual idx, 3)) (k : J p l e R s m args below meth c g A nL cells slots Q (pc + 3) lv (.int (ch4 i) :: rest) h) : J p l e R s m args below meth c g A nL cells slots Q pc lv (.int i :: .ref tA :: rest) h := by
  obtain ⟨-, b, hX⟩ := hT
  refine J.callVX C XT.ok hX hX.1 (sp_J0_charAt hl hi) rfl hl9 mdJ0_charAt hR rfl hW hdg hf (fun r u hu => ?_)
  obtain ⟨rfl, rfl⟩ := hu
  exact k
theorem J.at (C : Cx p l s m args meth c g A own cc nL) (hl : l.stackTraces = false) {b L idx : Nat} {xs : Nat → Int32} (hL : L ≤ 260) (hX : va_X b L xs s s.heap) (hbA : ¬ A b) {i : Int32} (h0 : ¬ i < 0) (hl9 : Cond.methodLink own idx yL_at ∈ BIG) (hR : 1 + 1 ≤ R.frames ∧ 8 + (2 + 11) + 64 * 1 ≤ R.locals) (hW : (rest.map fun v => v.category).sum ≤ 8) (hf : cells ≤ R.cells ∧ slots ≤ R.slots) (hdg : decode cc pc = .ok (.invokestatic idx, 3)) (k : J p l e R s m args below meth c g A nL cells slots Q (pc + 3) lv (.int (xat L xs i) :: rest) h) : J p l e R s m args below meth c g A nL cells slots Q pc lv (.int i :: .ref b :: rest) h := by
  have hX2 : XS b L xs A s s.heap := by
    obtain ⟨scr, h1, h2, h3, h4, h5⟩ := hX
    exact ⟨scr, h1, h2, h3, by rw [h4]; exact Nat.le_refl _, by rw [h4], h5, hbA⟩
  refine J.callSX C XS.ok hX2 (sp_L_at hl hL h0) rfl hl9 mdL_at hR rfl hW hdg hf (fun r u hu => ?_)
  obtain ⟨rfl, rfl⟩ := hu
  exact k
end LAWX
