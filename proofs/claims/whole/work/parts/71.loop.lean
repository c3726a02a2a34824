/-! THE LAW'S LOOP -/
theorem li_lt {a L : Nat} (ha : a ≤ 4096) (hL : L ≤ 2048) (h : ¬ nI L - 4 < nI a) : a + 4 ≤ L := by
  by_cases h4 : 4 ≤ L
  · obtain ⟨d, rfl⟩ : ∃ d, L = d + 4 := ⟨L - 4, by omega⟩
    have e1 : nI (d + 4) - 4 = nI d := by
      rw [← nI_add, show nI 4 = 4 by decide]
      exact Int32.add_sub_cancel _ _
    rw [e1] at h
    rcases Nat.lt_or_ge d a with q | q
    · exact absurd (nI_lt q (by omega)) h
    · omega
  · exfalso
    apply h
    have h3 : L = 0 ∨ L = 1 ∨ L = 2 ∨ L = 3 := by omega
    have h5 : ¬ nI a < 0 := nI_pos (by omega)
    rw [Int32.lt_iff_toInt_lt] at h5 ⊢
    rcases h3 with rfl | rfl | rfl | rfl
    · have e : (nI 0 - 4 : Int32).toInt = -4 := by decide
      rw [e]; rw [show (0 : Int32).toInt = 0 by decide] at h5; omega
    · have e : (nI 1 - 4 : Int32).toInt = -3 := by decide
      rw [e]; rw [show (0 : Int32).toInt = 0 by decide] at h5; omega
    · have e : (nI 2 - 4 : Int32).toInt = -2 := by decide
      rw [e]; rw [show (0 : Int32).toInt = 0 by decide] at h5; omega
    · have e : (nI 3 - 4 : Int32).toInt = -1 := by decide
      rw [e]; rw [show (0 : Int32).toInt = 0 by decide] at h5; omega
theorem vp_inI {a L k : Nat} (h : a + 4 ≤ L) (hL : L ≤ 2048) (hk : k < 4) : vp_in (nI a + nI k) L := by
  rw [nI_add]
  exact vp_in_nI (by omega) (by omega)
section LOOP
variable {p : Program} {l : Launch} {e : Env} {s : State} {m : MethodId} {args : Array Value} {below : List Frame} {meth : Method} {c : Code} {g : Gy} {A : Nat → Prop} {Q : State → Prop} {b L o1 o2 : Nat} {xs : Nat → Int32} {ad bd : Nat → Nat} {Inv : DS → MS → Prop}
/-- where the law stands between two calls -/
abbrev lvL (b : Nat) (ad bd : Nat → Nat) (o1 o2 : Nat) (i : Int32) : List (Nat × Value) := [(0, .ref b), (1, .ref (ad 0)), (2, .ref (bd 0)), (3, .ref o1), (4, .ref o2), (5, .int i)]
set_option maxRecDepth 100000 in
theorem law_turn (hl : l.stackTraces = false) (C : Cx p l s m args meth c g A RL cL_law 9) (hX : va_X b L xs s s.heap) (hbl : b < s.heap.size) (hbA : ¬ A b) (hA : AG Inv) {cells slots : Nat} {i x : Int32} {σ : DS} {τ : MS} {w : OS} (hI : Inv σ τ) (hf : cells + 10 ≤ room_1.cells ∧ slots + 60 ≤ room_1.slots) (h1 : vp_in (i + 1) L) (h2 : vp_in (i + 2) L) (h3 : vp_in (i + 3) L)
    (kk : ∀ (σ' : DS) (τ' : MS) (w' : OS), Inv σ' τ' → J p l e room_1 s m args below meth c g A 9 (cells + 10) (slots + 60) Q 3020 (lvL b ad bd o1 o2 i) [] (lz g ad bd o1 o2 σ' τ' w')) : J p l e room_1 s m args below meth c g A 9 cells slots Q 44 (lvL b ad bd o1 o2 i) [.int x] (lz g ad bd o1 o2 σ τ w) := by
  by_cases sw_0 : x = (0 : Int32)
  · exact J.tabV (off := 212) (tgt := 256) C (0 : Int32) sw_0 dL_law_44 (by decide) (case_0 hl C hX hbl hbA hf h1 (hA.1 σ τ w _ hI) kk)
  by_cases sw_1 : x = (1 : Int32)
  · exact J.tabV (off := 268) (tgt := 312) C (1 : Int32) sw_1 dL_law_44 (by decide) (case_1 hl C hX hbl hbA hf  (hA.2.1 σ τ w  hI) kk)
  by_cases sw_2 : x = (2 : Int32)
  · exact J.tabV (off := 312) (tgt := 356) C (2 : Int32) sw_2 dL_law_44 (by decide) (case_2 hl C hX hbl hbA hf h1 (hA.2.2.1 σ τ w _ hI) kk)
  by_cases sw_3 : x = (3 : Int32)
  · exact J.tabV (off := 368) (tgt := 412) C (3 : Int32) sw_3 dL_law_44 (by decide) (case_3 hl C hX hbl hbA hf h1 h2 (hA.2.2.2.1 σ τ w _ _ hI) kk)
  by_cases sw_4 : x = (4 : Int32)
  · exact J.tabV (off := 436) (tgt := 480) C (4 : Int32) sw_4 dL_law_44 (by decide) (case_4 hl C hX hbl hbA hf h1 h2 (hA.2.2.2.2.1 σ τ w _ _ hI) kk)
  by_cases sw_5 : x = (5 : Int32)
  · exact J.tabV (off := 504) (tgt := 548) C (5 : Int32) sw_5 dL_law_44 (by decide) (case_5 hl C hX hbl hbA hf h1 h2 (hA.2.2.2.2.2.1 σ τ w _ _ hI) kk)
  by_cases sw_6 : x = (6 : Int32)
  · exact J.tabV (off := 572) (tgt := 616) C (6 : Int32) sw_6 dL_law_44 (by decide) (case_6 hl C hX hbl hbA hf  (hA.2.2.2.2.2.2.1 σ τ  hI) kk)
  by_cases sw_7 : x = (7 : Int32)
  · exact J.tabV (off := 585) (tgt := 629) C (7 : Int32) sw_7 dL_law_44 (by decide) (case_7 hl C hX hbl hbA hf h1 (hA.2.2.2.2.2.2.2.1 σ τ w _ hI) kk)
  by_cases sw_8 : x = (8 : Int32)
  · exact J.tabV (off := 641) (tgt := 685) C (8 : Int32) sw_8 dL_law_44 (by decide) (case_8 hl C hX hbl hbA hf h1 h2 (hA.2.2.2.2.2.2.2.2.1 σ τ w _ _ hI) kk)
  by_cases sw_9 : x = (9 : Int32)
  · exact J.tabV (off := 709) (tgt := 753) C (9 : Int32) sw_9 dL_law_44 (by decide) (case_9 hl C hX hbl hbA hf h1 h2 (hA.2.2.2.2.2.2.2.2.2.1 σ τ w _ _ hI) kk)
  by_cases sw_10 : x = (10 : Int32)
  · exact J.tabV (off := 777) (tgt := 821) C (10 : Int32) sw_10 dL_law_44 (by decide) (case_10 hl C hX hbl hbA hf h1 (hA.2.2.2.2.2.2.2.2.2.2.1 σ τ w _ hI) kk)
  by_cases sw_11 : x = (11 : Int32)
  · exact J.tabV (off := 833) (tgt := 877) C (11 : Int32) sw_11 dL_law_44 (by decide) (case_11 hl C hX hbl hbA hf h1 (hA.2.2.2.2.2.2.2.2.2.2.2.1 σ τ w _ hI) kk)
  by_cases sw_12 : x = (12 : Int32)
  · exact J.tabV (off := 889) (tgt := 933) C (12 : Int32) sw_12 dL_law_44 (by decide) (case_12 hl C hX hbl hbA hf  (hA.2.2.2.2.2.2.2.2.2.2.2.2.1 σ τ w  hI) kk)
  by_cases sw_13 : x = (13 : Int32)
  · exact J.tabV (off := 933) (tgt := 977) C (13 : Int32) sw_13 dL_law_44 (by decide) (case_13 hl C hX hbl hbA hf h1 (hA.2.2.2.2.2.2.2.2.2.2.2.2.2.1 σ τ w _ hI) kk)
  by_cases sw_14 : x = (14 : Int32)
  · exact J.tabV (off := 989) (tgt := 1033) C (14 : Int32) sw_14 dL_law_44 (by decide) (case_14 hl C hX hbl hbA hf h1 h2 (hA.2.2.2.2.2.2.2.2.2.2.2.2.2.2.1 σ τ w _ _ hI) kk)
  by_cases sw_15 : x = (15 : Int32)
  · exact J.tabV (off := 1057) (tgt := 1101) C (15 : Int32) sw_15 dL_law_44 (by decide) (case_15 hl C hX hbl hbA hf h1 h2 (hA.2.2.2.2.2.2.2.2.2.2.2.2.2.2.2.1 σ τ w _ _ hI) kk)
  by_cases sw_16 : x = (16 : Int32)
  · exact J.tabV (off := 1141) (tgt := 1185) C (16 : Int32) sw_16 dL_law_44 (by decide) (case_16 hl C hX hbl hbA hf h1 h2 h3 (hA.2.2.2.2.2.2.2.2.2.2.2.2.2.2.2.2.1 σ τ w _ _ _ hI) kk)
  by_cases sw_17 : x = (17 : Int32)
  · exact J.tabV (off := 1237) (tgt := 1281) C (17 : Int32) sw_17 dL_law_44 (by decide) (case_17 hl C hX hbl hbA hf h1 h2 h3 (hA.2.2.2.2.2.2.2.2.2.2.2.2.2.2.2.2.2.1 σ τ w _ _ _ hI) kk)
  by_cases sw_18 : x = (18 : Int32)
  · exact J.tabV (off := 1317) (tgt := 1361) C (18 : Int32) sw_18 dL_law_44 (by decide) (case_18 hl C hX hbl hbA hf h1 (hA.2.2.2.2.2.2.2.2.2.2.2.2.2.2.2.2.2.2.1 σ τ w _ hI) kk)
  by_cases sw_19 : x = (19 : Int32)
  · exact J.tabV (off := 1373) (tgt := 1417) C (19 : Int32) sw_19 dL_law_44 (by decide) (case_19 hl C hX hbl hbA hf h1 h2 (hA.2.2.2.2.2.2.2.2.2.2.2.2.2.2.2.2.2.2.2.1 σ τ w _ _ hI) kk)
  by_cases sw_20 : x = (20 : Int32)
  · exact J.tabV (off := 1441) (tgt := 1485) C (20 : Int32) sw_20 dL_law_44 (by decide) (case_20 hl C hX hbl hbA hf h1 (hA.2.2.2.2.2.2.2.2.2.2.2.2.2.2.2.2.2.2.2.2.1 σ τ w _ hI) kk)
  by_cases sw_21 : x = (21 : Int32)
  · exact J.tabV (off := 1497) (tgt := 1541) C (21 : Int32) sw_21 dL_law_44 (by decide) (case_21 hl C hX hbl hbA hf h1 h2 (hA.2.2.2.2.2.2.2.2.2.2.2.2.2.2.2.2.2.2.2.2.2.1 σ τ w _ _ hI) kk)
  by_cases sw_22 : x = (22 : Int32)
  · exact J.tabV (off := 1565) (tgt := 1609) C (22 : Int32) sw_22 dL_law_44 (by decide) (case_22 hl C hX hbl hbA hf h1 h2 (hA.2.2.2.2.2.2.2.2.2.2.2.2.2.2.2.2.2.2.2.2.2.2.1 σ τ w _ _ hI) kk)
  by_cases sw_23 : x = (23 : Int32)
  · exact J.tabV (off := 1633) (tgt := 1677) C (23 : Int32) sw_23 dL_law_44 (by decide) (case_23 hl C hX hbl hbA hf h1 (hA.2.2.2.2.2.2.2.2.2.2.2.2.2.2.2.2.2.2.2.2.2.2.2.1 σ τ w _ hI) kk)
  by_cases sw_24 : x = (24 : Int32)
  · exact J.tabV (off := 1689) (tgt := 1733) C (24 : Int32) sw_24 dL_law_44 (by decide) (case_24 hl C hX hbl hbA hf  (hA.2.2.2.2.2.2.2.2.2.2.2.2.2.2.2.2.2.2.2.2.2.2.2.2.1 σ τ  hI) kk)
  by_cases sw_25 : x = (25 : Int32)
  · exact J.tabV (off := 1702) (tgt := 1746) C (25 : Int32) sw_25 dL_law_44 (by decide) (case_25 hl C hX hbl hbA hf  (hA.2.2.2.2.2.2.2.2.2.2.2.2.2.2.2.2.2.2.2.2.2.2.2.2.2.1 σ τ w  hI) kk)
  by_cases sw_26 : x = (26 : Int32)
  · exact J.tabV (off := 1746) (tgt := 1790) C (26 : Int32) sw_26 dL_law_44 (by decide) (case_26 hl C hX hbl hbA hf h1 h2 h3 (hA.2.2.2.2.2.2.2.2.2.2.2.2.2.2.2.2.2.2.2.2.2.2.2.2.2.2.1 σ τ w _ _ _ hI) kk)
  by_cases sw_27 : x = (27 : Int32)
  · exact J.tabV (off := 1826) (tgt := 1870) C (27 : Int32) sw_27 dL_law_44 (by decide) (case_27 hl C hX hbl hbA hf  (hA.2.2.2.2.2.2.2.2.2.2.2.2.2.2.2.2.2.2.2.2.2.2.2.2.2.2.2.1 σ τ  hI) kk)
  by_cases sw_28 : x = (28 : Int32)
  · exact J.tabV (off := 1839) (tgt := 1883) C (28 : Int32) sw_28 dL_law_44 (by decide) (case_28 hl C hX hbl hbA hf h1 (hA.2.2.2.2.2.2.2.2.2.2.2.2.2.2.2.2.2.2.2.2.2.2.2.2.2.2.2.2.1 σ τ w _ hI) kk)
  by_cases sw_29 : x = (29 : Int32)
  · exact J.tabV (off := 1895) (tgt := 1939) C (29 : Int32) sw_29 dL_law_44 (by decide) (case_29 hl C hX hbl hbA hf  (hA.2.2.2.2.2.2.2.2.2.2.2.2.2.2.2.2.2.2.2.2.2.2.2.2.2.2.2.2.2.1 σ τ  hI) kk)
  by_cases sw_30 : x = (30 : Int32)
  · exact J.tabV (off := 1908) (tgt := 1952) C (30 : Int32) sw_30 dL_law_44 (by decide) (case_30 hl C hX hbl hbA hf h1 (hA.2.2.2.2.2.2.2.2.2.2.2.2.2.2.2.2.2.2.2.2.2.2.2.2.2.2.2.2.2.2.1 σ τ w _ hI) kk)
  by_cases sw_31 : x = (31 : Int32)
  · exact J.tabV (off := 1964) (tgt := 2008) C (31 : Int32) sw_31 dL_law_44 (by decide) (case_31 hl C hX hbl hbA hf h1 (hA.2.2.2.2.2.2.2.2.2.2.2.2.2.2.2.2.2.2.2.2.2.2.2.2.2.2.2.2.2.2.2.1 σ τ w _ hI) kk)
  by_cases sw_32 : x = (32 : Int32)
  · exact J.tabV (off := 2020) (tgt := 2064) C (32 : Int32) sw_32 dL_law_44 (by decide) (case_32 hl C hX hbl hbA hf h1 (hA.2.2.2.2.2.2.2.2.2.2.2.2.2.2.2.2.2.2.2.2.2.2.2.2.2.2.2.2.2.2.2.2.1 σ τ w _ hI) kk)
  by_cases sw_33 : x = (33 : Int32)
  · exact J.tabV (off := 2076) (tgt := 2120) C (33 : Int32) sw_33 dL_law_44 (by decide) (case_33 hl C hX hbl hbA hf h1 (hA.2.2.2.2.2.2.2.2.2.2.2.2.2.2.2.2.2.2.2.2.2.2.2.2.2.2.2.2.2.2.2.2.2.1 σ τ w _ hI) kk)
  by_cases sw_34 : x = (34 : Int32)
  · exact J.tabV (off := 2139) (tgt := 2183) C (34 : Int32) sw_34 dL_law_44 (by decide) (case_34 hl C hX hbl hbA hf  (hA.2.2.2.2.2.2.2.2.2.2.2.2.2.2.2.2.2.2.2.2.2.2.2.2.2.2.2.2.2.2.2.2.2.2.1 σ τ  hI) kk)
  by_cases sw_35 : x = (35 : Int32)
  · exact J.tabV (off := 2152) (tgt := 2196) C (35 : Int32) sw_35 dL_law_44 (by decide) (case_35 hl C hX hbl hbA hf h1 (hA.2.2.2.2.2.2.2.2.2.2.2.2.2.2.2.2.2.2.2.2.2.2.2.2.2.2.2.2.2.2.2.2.2.2.2.1 σ τ w _ hI) kk)
  by_cases sw_36 : x = (36 : Int32)
  · exact J.tabV (off := 2215) (tgt := 2259) C (36 : Int32) sw_36 dL_law_44 (by decide) (case_36 hl C hX hbl hbA hf h1 (hA.2.2.2.2.2.2.2.2.2.2.2.2.2.2.2.2.2.2.2.2.2.2.2.2.2.2.2.2.2.2.2.2.2.2.2.2.1 σ τ w _ hI) kk)
  by_cases sw_37 : x = (37 : Int32)
  · exact J.tabV (off := 2271) (tgt := 2315) C (37 : Int32) sw_37 dL_law_44 (by decide) (case_37 hl C hX hbl hbA hf  (hA.2.2.2.2.2.2.2.2.2.2.2.2.2.2.2.2.2.2.2.2.2.2.2.2.2.2.2.2.2.2.2.2.2.2.2.2.2.1 σ τ w  hI) kk)
  by_cases sw_38 : x = (38 : Int32)
  · exact J.tabV (off := 2315) (tgt := 2359) C (38 : Int32) sw_38 dL_law_44 (by decide) (case_38 hl C hX hbl hbA hf h1 (hA.2.2.2.2.2.2.2.2.2.2.2.2.2.2.2.2.2.2.2.2.2.2.2.2.2.2.2.2.2.2.2.2.2.2.2.2.2.2.1 σ τ w _ hI) kk)
  by_cases sw_39 : x = (39 : Int32)
  · exact J.tabV (off := 2371) (tgt := 2415) C (39 : Int32) sw_39 dL_law_44 (by decide) (case_39 hl C hX hbl hbA hf h1 (hA.2.2.2.2.2.2.2.2.2.2.2.2.2.2.2.2.2.2.2.2.2.2.2.2.2.2.2.2.2.2.2.2.2.2.2.2.2.2.2.1 σ τ w _ hI) kk)
  by_cases sw_40 : x = (40 : Int32)
  · exact J.tabV (off := 2427) (tgt := 2471) C (40 : Int32) sw_40 dL_law_44 (by decide) (case_40 hl C hX hbl hbA hf h1 (hA.2.2.2.2.2.2.2.2.2.2.2.2.2.2.2.2.2.2.2.2.2.2.2.2.2.2.2.2.2.2.2.2.2.2.2.2.2.2.2.2.1 σ τ w _ hI) kk)
  by_cases sw_41 : x = (41 : Int32)
  · exact J.tabV (off := 2483) (tgt := 2527) C (41 : Int32) sw_41 dL_law_44 (by decide) (case_41 hl C hX hbl hbA hf h1 (hA.2.2.2.2.2.2.2.2.2.2.2.2.2.2.2.2.2.2.2.2.2.2.2.2.2.2.2.2.2.2.2.2.2.2.2.2.2.2.2.2.2.1 σ τ w _ hI) kk)
  by_cases sw_42 : x = (42 : Int32)
  · exact J.tabV (off := 2539) (tgt := 2583) C (42 : Int32) sw_42 dL_law_44 (by decide) (case_42 hl C hX hbl hbA hf h1 (hA.2.2.2.2.2.2.2.2.2.2.2.2.2.2.2.2.2.2.2.2.2.2.2.2.2.2.2.2.2.2.2.2.2.2.2.2.2.2.2.2.2.2.1 σ τ w _ hI) kk)
  by_cases sw_43 : x = (43 : Int32)
  · exact J.tabV (off := 2595) (tgt := 2639) C (43 : Int32) sw_43 dL_law_44 (by decide) (case_43 hl C hX hbl hbA hf h1 (hA.2.2.2.2.2.2.2.2.2.2.2.2.2.2.2.2.2.2.2.2.2.2.2.2.2.2.2.2.2.2.2.2.2.2.2.2.2.2.2.2.2.2.2.1 σ τ w _ hI) kk)
  by_cases sw_44 : x = (44 : Int32)
  · exact J.tabV (off := 2651) (tgt := 2695) C (44 : Int32) sw_44 dL_law_44 (by decide) (case_44 hl C hX hbl hbA hf h1 (hA.2.2.2.2.2.2.2.2.2.2.2.2.2.2.2.2.2.2.2.2.2.2.2.2.2.2.2.2.2.2.2.2.2.2.2.2.2.2.2.2.2.2.2.2.1 σ τ w _ hI) kk)
  by_cases sw_45 : x = (45 : Int32)
  · exact J.tabV (off := 2707) (tgt := 2751) C (45 : Int32) sw_45 dL_law_44 (by decide) (case_45 hl C hX hbl hbA hf h1 (hA.2.2.2.2.2.2.2.2.2.2.2.2.2.2.2.2.2.2.2.2.2.2.2.2.2.2.2.2.2.2.2.2.2.2.2.2.2.2.2.2.2.2.2.2.2.1 σ τ w _ hI) kk)
  by_cases sw_46 : x = (46 : Int32)
  · exact J.tabV (off := 2770) (tgt := 2814) C (46 : Int32) sw_46 dL_law_44 (by decide) (case_46 hl C hX hbl hbA hf h1 (hA.2.2.2.2.2.2.2.2.2.2.2.2.2.2.2.2.2.2.2.2.2.2.2.2.2.2.2.2.2.2.2.2.2.2.2.2.2.2.2.2.2.2.2.2.2.2.1 σ τ w _ hI) kk)
  by_cases sw_47 : x = (47 : Int32)
  · exact J.tabV (off := 2833) (tgt := 2877) C (47 : Int32) sw_47 dL_law_44 (by decide) (case_47 hl C hX hbl hbA hf h1 (hA.2.2.2.2.2.2.2.2.2.2.2.2.2.2.2.2.2.2.2.2.2.2.2.2.2.2.2.2.2.2.2.2.2.2.2.2.2.2.2.2.2.2.2.2.2.2.2.1 σ τ w _ hI) kk)
  by_cases sw_48 : x = (48 : Int32)
  · exact J.tabV (off := 2911) (tgt := 2955) C (48 : Int32) sw_48 dL_law_44 (by decide) (case_48 hl C hX hbl hbA hf  (hA.2.2.2.2.2.2.2.2.2.2.2.2.2.2.2.2.2.2.2.2.2.2.2.2.2.2.2.2.2.2.2.2.2.2.2.2.2.2.2.2.2.2.2.2.2.2.2.2 σ τ w  hI) kk)
  refine J.tabD (tgt := 3020) C [0, 1, 2, 3, 4, 5, 6, 7, 8, 9, 10, 11, 12, 13, 14, 15, 16, 17, 18, 19, 20, 21, 22, 23, 24, 25, 26, 27, 28, 29, 30, 31, 32, 33, 34, 35, 36, 37, 38, 39, 40, 41, 42, 43, 44, 45, 46, 47, 48] 49 (by intro v hv; simp only [List.mem_cons, List.not_mem_nil, or_false] at hv; rcases hv with rfl | rfl | rfl | rfl | rfl | rfl | rfl | rfl | rfl | rfl | rfl | rfl | rfl | rfl | rfl | rfl | rfl | rfl | rfl | rfl | rfl | rfl | rfl | rfl | rfl | rfl | rfl | rfl | rfl | rfl | rfl | rfl | rfl | rfl | rfl | rfl | rfl | rfl | rfl | rfl | rfl | rfl | rfl | rfl | rfl | rfl | rfl | rfl | rfl <;> assumption) dL_law_44 (by decide) (by decide) (by decide) ?_
  exact J.widen (Nat.le_add_right _ _) (Nat.le_add_right _ _) (kk σ τ w hI)
theorem law_loop (hl : l.stackTraces = false) (C : Cx p l s m args meth c g A RL cL_law 9) (hL : L ≤ 2048) (hX : va_X b L xs s s.heap) (hbl : b < s.heap.size) (hbA : ¬ A b) (hA : AG Inv)
    (kend : ∀ (cells slots : Nat) (i : Int32) (h : va_W), cells ≤ 603072 → slots ≤ 7198826 → J p l e room_1 s m args below meth c g A 9 cells slots Q 3026 (lvL b ad bd o1 o2 i) [] h) :
    ∀ (n j : Nat) (σ : DS) (τ : MS) (w : OS), 4 * j ≤ L → L < 4 * (j + n) → Inv σ τ → J p l e room_1 s m args below meth c g A 9 (200 + 10 * j) (20000 + 60 * j) Q 28 (lvL b ad bd o1 o2 (nI (4 * j))) [] (lz g ad bd o1 o2 σ τ w) := by
  intro n
  induction n with
  | zero => intro j σ τ w h1 h2; exact absurd h2 (by omega)
  | succ n ih =>
    intro j σ τ w h1 h2 hI
    refine J.iload C dL_law_28 rfl ?_
    refine J.aload_n (i := 0) C dL_law_30 rfl rfl ?_
    refine J.slen C hX hbl hbA dL_law_31 ?_
    refine J.iconst C 4 dL_law_32 (by decide) ?_
    refine J.isub C dL_law_33 ?_
    refine J.icmp_gt (tgt := 3026) C dL_law_34 (by decide) (fun _ => ?_) (fun c9 => ?_)
    · exact kend _ _ _ _ (by omega) (by omega)
    · have h4 := li_lt (a := 4 * j) (by omega) hL c9
      refine J.aload_n (i := 0) C dL_law_37 rfl rfl ?_
      refine J.iload C dL_law_38 rfl ?_
      refine J.sld C hX hbl hbA (vp_in_nI (by omega) (by omega)) dL_law_40 ?_
      refine J.bipush C 63 dL_law_41 (by decide) ?_
      refine J.iand C dL_law_43 ?_
      refine law_turn hl C hX hbl hbA hA hI ⟨show 200 + 10 * j + 10 ≤ 603072 by omega, show 20000 + 60 * j + 60 ≤ 7198826 by omega⟩ (vp_inI (k := 1) h4 hL (by omega)) (vp_inI (k := 2) h4 hL (by omega)) (vp_inI (k := 3) h4 hL (by omega)) (fun σ' τ' w' hI' => ?_)
      refine J.iinc (v := nI (4 * (j + 1))) C dL_law_3020 rfl (by rw [show 4 * (j + 1) = 4 * j + 4 by omega, ← nI_add]; rfl) (by decide) ?_
      refine J.lw (lv' := lvL b ad bd o1 o2 (nI (4 * (j + 1)))) ⟨rfl, rfl, rfl, rfl, rfl, rfl, trivial⟩ ?_
      refine J.goto (tgt := 28) C dL_law_3023 (by decide) ?_
      have k := ih (j + 1) σ' τ' w' (by omega) (by omega) hI'
      rw [show 200 + 10 * (j + 1) = 200 + 10 * j + 10 by omega, show 20000 + 60 * (j + 1) = 20000 + 60 * j + 60 by omega] at k
      exact k
end LOOP
