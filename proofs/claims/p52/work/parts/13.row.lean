/-! ROWS: DeductionDesk$Row -/
/-- a method that answers f and leaves u, whatever happens -/
abbrev SpF {ρ : Type} (l : Launch) (d : MD) (lev mc ms : Nat) (mk : ρ → Option Value) (g : Gy) (as : List Value) (h : va_W) (f : ρ) (u : va_W) : Prop := Sp l d lev mc ms mk g as h (fun r w => r = f ∧ w = u) (fun _ _ => False)
section CALLF
variable {p : Program} {l : Launch} {e : Env} {R : Room} {s : State} {m : MethodId} {args : Array Value} {below : List Frame} {meth : Method} {c : Code} {g : Gy} {A : Nat → Prop} {own : String} {cc : ByteArray} {nL : Nat} {cells slots : Nat} {Q : State → Prop} {pc : Nat} {lv : List (Nat × Value)} {st rest : List Value} {h u : va_W}
variable {d : MD} {lev mc ms n idx ci q0 N b : Nat} {Cn : String} {T : u_T} {fs as : List Value}
theorem J.callVI {r : Int32} (C : Cx p l s m args meth c g A own cc nL) (sp : SpF l d lev mc ms mI g (.ref b :: as) h r u) (hst : st = as.reverse ++ .ref b :: rest) (hl : Cond.methodLink own idx d.1 ∈ BIG) (hd : MDv d Cn n) (hR : lev + 1 ≤ R.frames ∧ 8 + (d.2.2.1 + 11) + 64 * lev ≤ R.locals)
    (he : h[q0]? = some (b, .inr (ci, fs))) (hc : vwCl[ci]? = some (Cn, T, N)) (hn : as.length = n) (hW : (rest.map fun v => v.category).sum ≤ 8) (hdg : decode cc pc = .ok (.invokevirtual idx, 3)) (hf : cells + mc ≤ R.cells ∧ slots + ms ≤ R.slots)
    (k : J p l e R s m args below meth c g A nL (cells + mc) (slots + ms) Q (pc + 3) lv (.int r :: rest) u) : J p l e R s m args below meth c g A nL cells slots Q pc lv st h :=
  J.callV C sp hst hl hd hR he hc hn hW hdg hf (fun _ _ hx => hx.elim) (fun r9 u9 h9 => by obtain ⟨rfl, rfl⟩ := h9; exact k)
theorem J.callVV {r : Unit} (C : Cx p l s m args meth c g A own cc nL) (sp : SpF l d lev mc ms mV g (.ref b :: as) h r u) (hst : st = as.reverse ++ .ref b :: rest) (hl : Cond.methodLink own idx d.1 ∈ BIG) (hd : MDv d Cn n) (hR : lev + 1 ≤ R.frames ∧ 8 + (d.2.2.1 + 11) + 64 * lev ≤ R.locals)
    (he : h[q0]? = some (b, .inr (ci, fs))) (hc : vwCl[ci]? = some (Cn, T, N)) (hn : as.length = n) (hW : (rest.map fun v => v.category).sum ≤ 8) (hdg : decode cc pc = .ok (.invokevirtual idx, 3)) (hf : cells + mc ≤ R.cells ∧ slots + ms ≤ R.slots)
    (k : J p l e R s m args below meth c g A nL (cells + mc) (slots + ms) Q (pc + 3) lv rest u) : J p l e R s m args below meth c g A nL cells slots Q pc lv st h :=
  J.callV C sp hst hl hd hR he hc hn hW hdg hf (fun _ _ hx => hx.elim) (fun r9 u9 h9 => by obtain ⟨rfl, rfl⟩ := h9; exact k)
theorem J.callSI {r : Int32} (C : Cx p l s m args meth c g A own cc nL) (sp : SpF l d lev mc ms mI g as h r u) (hst : st = as.reverse ++ rest) (hl : Cond.methodLink own idx d.1 ∈ BIG) (hd : MDs d n) (hR : lev + 1 ≤ R.frames ∧ 8 + (d.2.2.1 + 11) + 64 * lev ≤ R.locals)
    (hn : as.length = n) (hW : (rest.map fun v => v.category).sum ≤ 8) (hdg : decode cc pc = .ok (.invokestatic idx, 3)) (hf : cells + mc ≤ R.cells ∧ slots + ms ≤ R.slots)
    (k : J p l e R s m args below meth c g A nL (cells + mc) (slots + ms) Q (pc + 3) lv (.int r :: rest) u) : J p l e R s m args below meth c g A nL cells slots Q pc lv st h :=
  J.callS C sp hst hl hd hR hn hW hdg hf (fun _ _ hx => hx.elim) (fun r9 u9 h9 => by obtain ⟨rfl, rfl⟩ := h9; exact k)
end CALLF
theorem vp_in2 {i : Int32} {n : Nat} (hn : n < 2 ^ 31) (h1 : ¬ i < 0) (h2 : ¬ nI n ≤ i) : vp_in i n := by
  obtain ⟨j, hj, rfl⟩ := nI_of h1
  refine vp_in_nI ?_ hn
  rcases Nat.lt_or_ge j n with q | q
  · exact q
  · exact absurd (nI_le q hj) h2
theorem set_self {α : Type} {l : List α} {i : Nat} {x : α} (h : l[i]? = some x) : l.set i x = l := by
  apply List.ext_getElem?
  intro j
  rw [List.getElem?_set]
  by_cases e : i = j
  · subst e
    rw [if_pos rfl]
    have := (List.getElem?_eq_some_iff.mp h).1
    rw [if_pos this, h]
  · rw [if_neg e]
/-- Row.at -/
def rat (n : Nat) (f : Nat → Int32) (i : Int32) : Int32 := if ¬ i < 0 ∧ ¬ nI n ≤ i then f i.toNatClampNeg else -1
/-- Row.put -/
def rput (n : Nat) (f : Nat → Int32) (i x : Int32) : Nat → Int32 := if ¬ i < 0 ∧ ¬ nI n ≤ i then upd f i.toNatClampNeg x else f
/-- Row.fill -/
def rfill (n : Nat) (f : Nat → Int32) (x : Int32) : Nat → Int32 := fun k => if k < n then x else f k
abbrev mX3_at : MD := (yX3_at, cX3_at, 2, some .int)
theorem mdX3_at : MDv mX3_at RX3 1 := ⟨kIm_X3_at, kSe_X3_at, kIn_X3, kCo_X3_at, by decide +kernel⟩
abbrev mX3_put : MD := (yX3_put, cX3_put, 3, none)
theorem mdX3_put : MDv mX3_put RX3 2 := ⟨kIm_X3_put, kSe_X3_put, kIn_X3, kCo_X3_put, by decide +kernel⟩
abbrev mX3_fill : MD := (yX3_fill, cX3_fill, 3, none)
theorem mdX3_fill : MDv mX3_fill RX3 1 := ⟨kIm_X3_fill, kSe_X3_fill, kIn_X3, kCo_X3_fill, by decide +kernel⟩
set_option maxRecDepth 100000 in
theorem sp_X3_at {l : Launch} (hl : l.stackTraces = false) {g : Gy} {h : va_W} (q r : Nat) {b c0 n : Nat} {f : Nat → Int32} (he : h[q]? = some (b, .inr (5, [.ref c0]))) (ha : h[r]? = some (c0, .inl (g.2 0, n, .inl f))) (hn : n < 2 ^ 31) (i : Int32) : SpF l mX3_at 1 0 0 mI g [.ref b, .int i] h (rat n f i) h := by
  refine Sp.of hl (by decide) (Nat.le_of_ble_eq_true rfl) (fun p e s m args below meth c A C hr hx => ?_)
  refine J.lw (lv' := [(0, .ref b), (1, .int i)]) ⟨rfl, rfl, trivial⟩ ?_
  refine J.iload_n (i := 1) C dX3_at_0 rfl rfl ?_
  refine J.if_lt (tgt := 22) C dX3_at_1 (by decide) (fun c_1 => ?_) (fun c_1 => ?_)
  · refine J.iconst C (-1) dX3_at_22 (by decide) ?_
    exact J.iret C hr (Nat.le_refl _) (Nat.le_refl _) dX3_at_23 ⟨(if_neg (fun z => z.1 c_1)).symm, rfl⟩
  · refine J.iload_n (i := 1) C dX3_at_4 rfl rfl ?_
    refine J.aload_n (i := 0) C dX3_at_5 rfl rfl ?_
    refine J.get C q 0 he rfl (by decide) kFl_X3_9 inB_X3 rfl dX3_at_6 ?_
    refine J.alen C r ha dX3_at_9 ?_
    refine J.icmp_ge (tgt := 22) C dX3_at_10 (by decide) (fun c_10 => ?_) (fun c_10 => ?_)
    · refine J.iconst C (-1) dX3_at_22 (by decide) ?_
      exact J.iret C hr (Nat.le_refl _) (Nat.le_refl _) dX3_at_23 ⟨(if_neg (fun z => z.2 c_10)).symm, rfl⟩
    · refine J.aload_n (i := 0) C dX3_at_13 rfl rfl ?_
      refine J.get C q 0 he rfl (by decide) kFl_X3_9 inB_X3 rfl dX3_at_14 ?_
      refine J.iload_n (i := 1) C dX3_at_17 rfl rfl ?_
      refine J.iald C r ha (vp_in2 hn c_1 c_10) dX3_at_18 ?_
      refine J.goto (tgt := 23) C dX3_at_19 (by decide) ?_
      exact J.iret C hr (Nat.le_refl _) (Nat.le_refl _) dX3_at_23 ⟨(if_pos ⟨c_1, c_10⟩).symm, rfl⟩
set_option maxRecDepth 100000 in
theorem sp_X3_put {l : Launch} (hl : l.stackTraces = false) {g : Gy} {h : va_W} (q r : Nat) {b c0 n : Nat} {f : Nat → Int32} (he : h[q]? = some (b, .inr (5, [.ref c0]))) (ha : h[r]? = some (c0, .inl (g.2 0, n, .inl f))) (hn : n < 2 ^ 31) (i x : Int32) : SpF l mX3_put 1 0 0 mV g [.ref b, .int i, .int x] h () (h.set r (c0, .inl (g.2 0, n, .inl (rput n f i x)))) := by
  refine Sp.of hl (by decide) (Nat.le_of_ble_eq_true rfl) (fun p e s m args below meth c A C hr hx => ?_)
  refine J.lw (lv' := [(0, .ref b), (1, .int i), (2, .int x)]) ⟨rfl, rfl, rfl, trivial⟩ ?_
  refine J.iload_n (i := 1) C dX3_put_0 rfl rfl ?_
  refine J.if_lt (tgt := 20) C dX3_put_1 (by decide) (fun c_1 => ?_) (fun c_1 => ?_)
  · exact J.vret C hr (Nat.le_refl _) (Nat.le_refl _) dX3_put_20 ⟨rfl, (by rw [rput, if_neg (fun z => z.1 c_1)]; exact (set_self ha).symm)⟩
  · refine J.iload_n (i := 1) C dX3_put_4 rfl rfl ?_
    refine J.aload_n (i := 0) C dX3_put_5 rfl rfl ?_
    refine J.get C q 0 he rfl (by decide) kFl_X3_9 inB_X3 rfl dX3_put_6 ?_
    refine J.alen C r ha dX3_put_9 ?_
    refine J.icmp_ge (tgt := 20) C dX3_put_10 (by decide) (fun c_10 => ?_) (fun c_10 => ?_)
    · exact J.vret C hr (Nat.le_refl _) (Nat.le_refl _) dX3_put_20 ⟨rfl, (by rw [rput, if_neg (fun z => z.2 c_10)]; exact (set_self ha).symm)⟩
    · refine J.aload_n (i := 0) C dX3_put_13 rfl rfl ?_
      refine J.get C q 0 he rfl (by decide) kFl_X3_9 inB_X3 rfl dX3_put_14 ?_
      refine J.iload_n (i := 1) C dX3_put_17 rfl rfl ?_
      refine J.iload_n (i := 2) C dX3_put_18 rfl rfl ?_
      refine J.iast C r ha (vp_in2 hn c_1 c_10) dX3_put_19 ?_
      exact J.vret C hr (Nat.le_refl _) (Nat.le_refl _) dX3_put_20 ⟨rfl, by rw [rput, if_pos ⟨c_1, c_10⟩]⟩
set_option maxRecDepth 100000 in
theorem sp_X3_fill {l : Launch} (hl : l.stackTraces = false) {g : Gy} {h : va_W} (q r0 : Nat) {b c0 n : Nat} {f : Nat → Int32} (he : h[q]? = some (b, .inr (5, [.ref c0]))) (ha : h[r0]? = some (c0, .inl (g.2 0, n, .inl f))) (hn : n < 2 ^ 31) (x : Int32) : SpF l mX3_fill 1 0 0 mV g [.ref b, .int x] h () (h.set r0 (c0, .inl (g.2 0, n, .inl (rfill n f x)))) := by
  refine Sp.of hl (by decide) (Nat.le_of_ble_eq_true rfl) (fun p e s m args below meth c A C hr hx => ?_)
  refine J.lw (lv' := [(0, .ref b), (1, .int x)]) ⟨rfl, rfl, trivial⟩ ?_
  refine J.iconst C 0 dX3_fill_0 (by decide) ?_
  refine J.istore_n (i := 2) C dX3_fill_1 rfl (by decide) ?_
  refine J.lw (lv' := [(0, .ref b), (1, .int x), (2, .int (nI 0))]) ⟨rfl, rfl, rfl, trivial⟩ ?_
  have K : ∀ k j, j ≤ n → n - j = k → J p l e (rmOf 1 0 0) s m args below meth c g A 3 0 0 (vx_MQ below (Qg mV (fun r w => r = () ∧ w = h.set r0 (c0, .inl (g.2 0, n, .inl (rfill n f x)))) g A) (XQ (fun _ _ => False) g A) args s 0 0 A) 2 [(0, .ref b), (1, .int x), (2, .int (nI j))] [] (h.set r0 (c0, .inl (g.2 0, n, .inl (rfill j f x)))) := by
    intro k
    induction k with
    | zero =>
      intro j h1 h2
      have hqr : q ≠ r0 := fun z => by subst z; rw [he] at ha; cases ha
      have he1 : (h.set r0 (c0, .inl (g.2 0, n, .inl (rfill j f x))))[q]? = some (b, .inr (5, [.ref c0])) := by rw [List.getElem?_set, if_neg (Ne.symm hqr)]; exact he
      have ha1 : (h.set r0 (c0, .inl (g.2 0, n, .inl (rfill j f x))))[r0]? = some (c0, .inl (g.2 0, n, .inl (rfill j f x))) := by rw [List.getElem?_set, if_pos rfl, if_pos (List.getElem?_eq_some_iff.mp ha).1]
      refine J.iload_n (i := 2) C dX3_fill_2 rfl rfl ?_
      refine J.aload_n (i := 0) C dX3_fill_3 rfl rfl ?_
      refine J.get C q 0 he1 rfl (by decide) kFl_X3_9 inB_X3 rfl dX3_fill_4 ?_
      refine J.alen C r0 ha1 dX3_fill_7 ?_
      refine J.icmp_ge (tgt := 24) C dX3_fill_8 (by decide) (fun c_8 => ?_) (fun c_8 => ?_)
      · exact J.vret C hr (Nat.le_refl _) (Nat.le_refl _) dX3_fill_24 ⟨rfl, by rw [show j = n by omega]⟩
      · exact absurd (nI_le (by omega) (by omega)) c_8
    | succ k ih =>
      intro j h1 h2
      have hqr : q ≠ r0 := fun z => by subst z; rw [he] at ha; cases ha
      have he1 : (h.set r0 (c0, .inl (g.2 0, n, .inl (rfill j f x))))[q]? = some (b, .inr (5, [.ref c0])) := by rw [List.getElem?_set, if_neg (Ne.symm hqr)]; exact he
      have ha1 : (h.set r0 (c0, .inl (g.2 0, n, .inl (rfill j f x))))[r0]? = some (c0, .inl (g.2 0, n, .inl (rfill j f x))) := by rw [List.getElem?_set, if_pos rfl, if_pos (List.getElem?_eq_some_iff.mp ha).1]
      refine J.iload_n (i := 2) C dX3_fill_2 rfl rfl ?_
      refine J.aload_n (i := 0) C dX3_fill_3 rfl rfl ?_
      refine J.get C q 0 he1 rfl (by decide) kFl_X3_9 inB_X3 rfl dX3_fill_4 ?_
      refine J.alen C r0 ha1 dX3_fill_7 ?_
      refine J.icmp_ge (tgt := 24) C dX3_fill_8 (by decide) (fun c_8 => ?_) (fun c_8 => ?_)
      · exact absurd c_8 (nI_ge (by omega) (by omega))
      · have hj : j < n := by omega
        refine J.aload_n (i := 0) C dX3_fill_11 rfl rfl ?_
        refine J.get C q 0 he1 rfl (by decide) kFl_X3_9 inB_X3 rfl dX3_fill_12 ?_
        refine J.iload_n (i := 2) C dX3_fill_15 rfl rfl ?_
        refine J.iload_n (i := 1) C dX3_fill_16 rfl rfl ?_
        refine J.iast C r0 ha1 (vp_in_nI hj hn) dX3_fill_17 ?_
        refine J.iinc C dX3_fill_18 rfl rfl (by decide) ?_
        refine J.goto (tgt := 2) C dX3_fill_21 (by decide) ?_
        refine J.lw (lv' := [(0, .ref b), (1, .int x), (2, .int (nI (j + 1)))]) ⟨rfl, rfl, congrArg (fun z => some (Value.int z)) (nI_1 j), trivial⟩ ?_
        have e1 : upd (rfill j f x) (nI j).toNatClampNeg x = rfill (j + 1) f x := by
          rw [nI_clamp (by omega)]
          funext k
          show (if k = j then x else if k < j then x else f k) = if k < j + 1 then x else f k
          by_cases e : k = j
          · subst e
            rw [if_pos rfl, if_pos (by omega)]
          · rw [if_neg e]
            by_cases e2 : k < j
            · rw [if_pos e2, if_pos (by omega)]
            · rw [if_neg e2, if_neg (by omega)]
        rw [List.set_set, e1]
        exact ih (j + 1) (by omega) (by omega)
  have K0 := K (n - 0) 0 (Nat.zero_le _) rfl
  have e0 : rfill 0 f x = f := funext fun k => if_neg (Nat.not_lt_zero k)
  rw [e0, set_self ha] at K0
  exact K0
