/-! THE DESK AS A LIST OF CELLS: its numbers and its rows -/
abbrev DS : Type := (Nat → Int32) × (Nat → Nat → Int32)
def sI (σ : DS) (k : Nat) (v : Int32) : DS := (fun j => bif Nat.beq j k then v else σ.1 j, σ.2)
def sR (σ : DS) (k : Nat) (f : Nat → Int32) : DS := (σ.1, fun j => bif Nat.beq j k then f else σ.2 j)
theorem sI_1 (σ : DS) (k : Nat) (v : Int32) (j : Nat) : (sI σ k v).1 j = if j = k then v else σ.1 j := by
  show (bif Nat.beq j k then v else σ.1 j) = _
  by_cases h : j = k
  · subst h; rw [if_pos rfl, show Nat.beq j j = true from Nat.beq_refl j]; rfl
  · rw [if_neg h, show Nat.beq j k = false from Bool.eq_false_iff.mpr (fun q => h (Nat.eq_of_beq_eq_true q))]; rfl
theorem sI_2 (σ : DS) (k : Nat) (v : Int32) : (sI σ k v).2 = σ.2 := rfl
theorem sR_1 (σ : DS) (k : Nat) (f : Nat → Int32) : (sR σ k f).1 = σ.1 := rfl
theorem sR_2 (σ : DS) (k : Nat) (f : Nat → Int32) (j : Nat) : (sR σ k f).2 j = if j = k then f else σ.2 j := by
  show (bif Nat.beq j k then f else σ.2 j) = _
  by_cases h : j = k
  · subst h; rw [if_pos rfl, show Nat.beq j j = true from Nat.beq_refl j]; rfl
  · rw [if_neg h, show Nat.beq j k = false from Bool.eq_false_iff.mpr (fun q => h (Nat.eq_of_beq_eq_true q))]; rfl
def dk (g : Gy) (ad : Nat → Nat) (σ : DS) : va_W := [(ad 0, .inr (8, [.ref (ad 1), .ref (ad 2), .ref (ad 3), .ref (ad 4), .ref (ad 5)])),
  (ad 1, .inr (2, [.ref (ad 6), .ref (ad 8), .ref (ad 10), .ref (ad 12), .ref (ad 14), .ref (ad 16), .ref (ad 18), .ref (ad 20), .int (σ.1 0), .int (σ.1 1)])),
  (ad 2, .inr (4, [.ref (ad 1), .ref (ad 22), .ref (ad 24), .ref (ad 26), .ref (ad 28), .ref (ad 30), .ref (ad 32), .ref (ad 34), .ref (ad 36), .ref (ad 38), .ref (ad 40), .ref (ad 42), .ref (ad 44), .int (σ.1 2), .int (σ.1 3), .int (σ.1 4)])),
  (ad 3, .inr (3, [.ref (ad 1), .ref (ad 46), .ref (ad 48), .ref (ad 50), .ref (ad 52), .ref (ad 54), .ref (ad 56), .int (σ.1 5)])),
  (ad 4, .inr (6, [.ref (ad 1), .ref (ad 2), .ref (ad 58), .ref (ad 60), .ref (ad 62), .int (σ.1 6), .int (σ.1 7), .int (σ.1 8), .int (σ.1 9), .int (σ.1 10)])),
  (ad 5, .inr (7, [.ref (ad 64), .int (σ.1 11)])),
  (ad 6, .inr (5, [.ref (ad 7)])),
  (ad 7, .inl (g.2 0, 150, .inl (σ.2 0))),
  (ad 8, .inr (5, [.ref (ad 9)])),
  (ad 9, .inl (g.2 0, 150, .inl (σ.2 1))),
  (ad 10, .inr (5, [.ref (ad 11)])),
  (ad 11, .inl (g.2 0, 150, .inl (σ.2 2))),
  (ad 12, .inr (5, [.ref (ad 13)])),
  (ad 13, .inl (g.2 0, 150, .inl (σ.2 3))),
  (ad 14, .inr (5, [.ref (ad 15)])),
  (ad 15, .inl (g.2 0, 4500, .inl (σ.2 4))),
  (ad 16, .inr (5, [.ref (ad 17)])),
  (ad 17, .inl (g.2 0, 150, .inl (σ.2 5))),
  (ad 18, .inr (5, [.ref (ad 19)])),
  (ad 19, .inl (g.2 0, 30, .inl (σ.2 6))),
  (ad 20, .inr (5, [.ref (ad 21)])),
  (ad 21, .inl (g.2 0, 30, .inl (σ.2 7))),
  (ad 22, .inr (5, [.ref (ad 23)])),
  (ad 23, .inl (g.2 0, 60, .inl (σ.2 8))),
  (ad 24, .inr (5, [.ref (ad 25)])),
  (ad 25, .inl (g.2 0, 60, .inl (σ.2 9))),
  (ad 26, .inr (5, [.ref (ad 27)])),
  (ad 27, .inl (g.2 0, 60, .inl (σ.2 10))),
  (ad 28, .inr (5, [.ref (ad 29)])),
  (ad 29, .inl (g.2 0, 60, .inl (σ.2 11))),
  (ad 30, .inr (5, [.ref (ad 31)])),
  (ad 31, .inl (g.2 0, 60, .inl (σ.2 12))),
  (ad 32, .inr (5, [.ref (ad 33)])),
  (ad 33, .inl (g.2 0, 60, .inl (σ.2 13))),
  (ad 34, .inr (5, [.ref (ad 35)])),
  (ad 35, .inl (g.2 0, 60, .inl (σ.2 14))),
  (ad 36, .inr (5, [.ref (ad 37)])),
  (ad 37, .inl (g.2 0, 60, .inl (σ.2 15))),
  (ad 38, .inr (5, [.ref (ad 39)])),
  (ad 39, .inl (g.2 0, 60, .inl (σ.2 16))),
  (ad 40, .inr (5, [.ref (ad 41)])),
  (ad 41, .inl (g.2 0, 60, .inl (σ.2 17))),
  (ad 42, .inr (5, [.ref (ad 43)])),
  (ad 43, .inl (g.2 0, 60, .inl (σ.2 18))),
  (ad 44, .inr (5, [.ref (ad 45)])),
  (ad 45, .inl (g.2 0, 60, .inl (σ.2 19))),
  (ad 46, .inr (5, [.ref (ad 47)])),
  (ad 47, .inl (g.2 0, 8, .inl (σ.2 20))),
  (ad 48, .inr (5, [.ref (ad 49)])),
  (ad 49, .inl (g.2 0, 8, .inl (σ.2 21))),
  (ad 50, .inr (5, [.ref (ad 51)])),
  (ad 51, .inl (g.2 0, 8, .inl (σ.2 22))),
  (ad 52, .inr (5, [.ref (ad 53)])),
  (ad 53, .inl (g.2 0, 8, .inl (σ.2 23))),
  (ad 54, .inr (5, [.ref (ad 55)])),
  (ad 55, .inl (g.2 0, 5, .inl (σ.2 24))),
  (ad 56, .inr (5, [.ref (ad 57)])),
  (ad 57, .inl (g.2 0, 150, .inl (σ.2 25))),
  (ad 58, .inr (5, [.ref (ad 59)])),
  (ad 59, .inl (g.2 0, 151, .inl (σ.2 26))),
  (ad 60, .inr (5, [.ref (ad 61)])),
  (ad 61, .inl (g.2 0, 151, .inl (σ.2 27))),
  (ad 62, .inr (5, [.ref (ad 63)])),
  (ad 63, .inl (g.2 0, 151, .inl (σ.2 28))),
  (ad 64, .inr (5, [.ref (ad 65)])),
  (ad 65, .inl (g.2 0, 64, .inl (σ.2 29)))]
abbrev dkh (g : Gy) (ad : Nat → Nat) (rst : va_W) (σ : DS) : va_W := dk g ad σ ++ rst
section DESK
variable {g : Gy} {ad : Nat → Nat} {rst : va_W} {σ : DS}
theorem dk_0 : (dkh g ad rst σ)[0]? = some (ad 0, .inr (8, [.ref (ad 1), .ref (ad 2), .ref (ad 3), .ref (ad 4), .ref (ad 5)])) := rfl
theorem dk_1 : (dkh g ad rst σ)[1]? = some (ad 1, .inr (2, [.ref (ad 6), .ref (ad 8), .ref (ad 10), .ref (ad 12), .ref (ad 14), .ref (ad 16), .ref (ad 18), .ref (ad 20), .int (σ.1 0), .int (σ.1 1)])) := rfl
theorem dk_2 : (dkh g ad rst σ)[2]? = some (ad 2, .inr (4, [.ref (ad 1), .ref (ad 22), .ref (ad 24), .ref (ad 26), .ref (ad 28), .ref (ad 30), .ref (ad 32), .ref (ad 34), .ref (ad 36), .ref (ad 38), .ref (ad 40), .ref (ad 42), .ref (ad 44), .int (σ.1 2), .int (σ.1 3), .int (σ.1 4)])) := rfl
theorem dk_3 : (dkh g ad rst σ)[3]? = some (ad 3, .inr (3, [.ref (ad 1), .ref (ad 46), .ref (ad 48), .ref (ad 50), .ref (ad 52), .ref (ad 54), .ref (ad 56), .int (σ.1 5)])) := rfl
theorem dk_4 : (dkh g ad rst σ)[4]? = some (ad 4, .inr (6, [.ref (ad 1), .ref (ad 2), .ref (ad 58), .ref (ad 60), .ref (ad 62), .int (σ.1 6), .int (σ.1 7), .int (σ.1 8), .int (σ.1 9), .int (σ.1 10)])) := rfl
theorem dk_5 : (dkh g ad rst σ)[5]? = some (ad 5, .inr (7, [.ref (ad 64), .int (σ.1 11)])) := rfl
theorem dk_6 : (dkh g ad rst σ)[6]? = some (ad 6, .inr (5, [.ref (ad 7)])) := rfl
theorem dk_7 : (dkh g ad rst σ)[7]? = some (ad 7, .inl (g.2 0, 150, .inl (σ.2 0))) := rfl
theorem dk_8 : (dkh g ad rst σ)[8]? = some (ad 8, .inr (5, [.ref (ad 9)])) := rfl
theorem dk_9 : (dkh g ad rst σ)[9]? = some (ad 9, .inl (g.2 0, 150, .inl (σ.2 1))) := rfl
theorem dk_10 : (dkh g ad rst σ)[10]? = some (ad 10, .inr (5, [.ref (ad 11)])) := rfl
theorem dk_11 : (dkh g ad rst σ)[11]? = some (ad 11, .inl (g.2 0, 150, .inl (σ.2 2))) := rfl
theorem dk_12 : (dkh g ad rst σ)[12]? = some (ad 12, .inr (5, [.ref (ad 13)])) := rfl
theorem dk_13 : (dkh g ad rst σ)[13]? = some (ad 13, .inl (g.2 0, 150, .inl (σ.2 3))) := rfl
theorem dk_14 : (dkh g ad rst σ)[14]? = some (ad 14, .inr (5, [.ref (ad 15)])) := rfl
theorem dk_15 : (dkh g ad rst σ)[15]? = some (ad 15, .inl (g.2 0, 4500, .inl (σ.2 4))) := rfl
theorem dk_16 : (dkh g ad rst σ)[16]? = some (ad 16, .inr (5, [.ref (ad 17)])) := rfl
theorem dk_17 : (dkh g ad rst σ)[17]? = some (ad 17, .inl (g.2 0, 150, .inl (σ.2 5))) := rfl
theorem dk_18 : (dkh g ad rst σ)[18]? = some (ad 18, .inr (5, [.ref (ad 19)])) := rfl
theorem dk_19 : (dkh g ad rst σ)[19]? = some (ad 19, .inl (g.2 0, 30, .inl (σ.2 6))) := rfl
theorem dk_20 : (dkh g ad rst σ)[20]? = some (ad 20, .inr (5, [.ref (ad 21)])) := rfl
theorem dk_21 : (dkh g ad rst σ)[21]? = some (ad 21, .inl (g.2 0, 30, .inl (σ.2 7))) := rfl
theorem dk_22 : (dkh g ad rst σ)[22]? = some (ad 22, .inr (5, [.ref (ad 23)])) := rfl
theorem dk_23 : (dkh g ad rst σ)[23]? = some (ad 23, .inl (g.2 0, 60, .inl (σ.2 8))) := rfl
theorem dk_24 : (dkh g ad rst σ)[24]? = some (ad 24, .inr (5, [.ref (ad 25)])) := rfl
theorem dk_25 : (dkh g ad rst σ)[25]? = some (ad 25, .inl (g.2 0, 60, .inl (σ.2 9))) := rfl
theorem dk_26 : (dkh g ad rst σ)[26]? = some (ad 26, .inr (5, [.ref (ad 27)])) := rfl
theorem dk_27 : (dkh g ad rst σ)[27]? = some (ad 27, .inl (g.2 0, 60, .inl (σ.2 10))) := rfl
theorem dk_28 : (dkh g ad rst σ)[28]? = some (ad 28, .inr (5, [.ref (ad 29)])) := rfl
theorem dk_29 : (dkh g ad rst σ)[29]? = some (ad 29, .inl (g.2 0, 60, .inl (σ.2 11))) := rfl
theorem dk_30 : (dkh g ad rst σ)[30]? = some (ad 30, .inr (5, [.ref (ad 31)])) := rfl
theorem dk_31 : (dkh g ad rst σ)[31]? = some (ad 31, .inl (g.2 0, 60, .inl (σ.2 12))) := rfl
theorem dk_32 : (dkh g ad rst σ)[32]? = some (ad 32, .inr (5, [.ref (ad 33)])) := rfl
theorem dk_33 : (dkh g ad rst σ)[33]? = some (ad 33, .inl (g.2 0, 60, .inl (σ.2 13))) := rfl
theorem dk_34 : (dkh g ad rst σ)[34]? = some (ad 34, .inr (5, [.ref (ad 35)])) := rfl
theorem dk_35 : (dkh g ad rst σ)[35]? = some (ad 35, .inl (g.2 0, 60, .inl (σ.2 14))) := rfl
theorem dk_36 : (dkh g ad rst σ)[36]? = some (ad 36, .inr (5, [.ref (ad 37)])) := rfl
theorem dk_37 : (dkh g ad rst σ)[37]? = some (ad 37, .inl (g.2 0, 60, .inl (σ.2 15))) := rfl
theorem dk_38 : (dkh g ad rst σ)[38]? = some (ad 38, .inr (5, [.ref (ad 39)])) := rfl
theorem dk_39 : (dkh g ad rst σ)[39]? = some (ad 39, .inl (g.2 0, 60, .inl (σ.2 16))) := rfl
theorem dk_40 : (dkh g ad rst σ)[40]? = some (ad 40, .inr (5, [.ref (ad 41)])) := rfl
theorem dk_41 : (dkh g ad rst σ)[41]? = some (ad 41, .inl (g.2 0, 60, .inl (σ.2 17))) := rfl
theorem dk_42 : (dkh g ad rst σ)[42]? = some (ad 42, .inr (5, [.ref (ad 43)])) := rfl
theorem dk_43 : (dkh g ad rst σ)[43]? = some (ad 43, .inl (g.2 0, 60, .inl (σ.2 18))) := rfl
theorem dk_44 : (dkh g ad rst σ)[44]? = some (ad 44, .inr (5, [.ref (ad 45)])) := rfl
theorem dk_45 : (dkh g ad rst σ)[45]? = some (ad 45, .inl (g.2 0, 60, .inl (σ.2 19))) := rfl
theorem dk_46 : (dkh g ad rst σ)[46]? = some (ad 46, .inr (5, [.ref (ad 47)])) := rfl
theorem dk_47 : (dkh g ad rst σ)[47]? = some (ad 47, .inl (g.2 0, 8, .inl (σ.2 20))) := rfl
theorem dk_48 : (dkh g ad rst σ)[48]? = some (ad 48, .inr (5, [.ref (ad 49)])) := rfl
theorem dk_49 : (dkh g ad rst σ)[49]? = some (ad 49, .inl (g.2 0, 8, .inl (σ.2 21))) := rfl
theorem dk_50 : (dkh g ad rst σ)[50]? = some (ad 50, .inr (5, [.ref (ad 51)])) := rfl
theorem dk_51 : (dkh g ad rst σ)[51]? = some (ad 51, .inl (g.2 0, 8, .inl (σ.2 22))) := rfl
theorem dk_52 : (dkh g ad rst σ)[52]? = some (ad 52, .inr (5, [.ref (ad 53)])) := rfl
theorem dk_53 : (dkh g ad rst σ)[53]? = some (ad 53, .inl (g.2 0, 8, .inl (σ.2 23))) := rfl
theorem dk_54 : (dkh g ad rst σ)[54]? = some (ad 54, .inr (5, [.ref (ad 55)])) := rfl
theorem dk_55 : (dkh g ad rst σ)[55]? = some (ad 55, .inl (g.2 0, 5, .inl (σ.2 24))) := rfl
theorem dk_56 : (dkh g ad rst σ)[56]? = some (ad 56, .inr (5, [.ref (ad 57)])) := rfl
theorem dk_57 : (dkh g ad rst σ)[57]? = some (ad 57, .inl (g.2 0, 150, .inl (σ.2 25))) := rfl
theorem dk_58 : (dkh g ad rst σ)[58]? = some (ad 58, .inr (5, [.ref (ad 59)])) := rfl
theorem dk_59 : (dkh g ad rst σ)[59]? = some (ad 59, .inl (g.2 0, 151, .inl (σ.2 26))) := rfl
theorem dk_60 : (dkh g ad rst σ)[60]? = some (ad 60, .inr (5, [.ref (ad 61)])) := rfl
theorem dk_61 : (dkh g ad rst σ)[61]? = some (ad 61, .inl (g.2 0, 151, .inl (σ.2 27))) := rfl
theorem dk_62 : (dkh g ad rst σ)[62]? = some (ad 62, .inr (5, [.ref (ad 63)])) := rfl
theorem dk_63 : (dkh g ad rst σ)[63]? = some (ad 63, .inl (g.2 0, 151, .inl (σ.2 28))) := rfl
theorem dk_64 : (dkh g ad rst σ)[64]? = some (ad 64, .inr (5, [.ref (ad 65)])) := rfl
theorem dk_65 : (dkh g ad rst σ)[65]? = some (ad 65, .inl (g.2 0, 64, .inl (σ.2 29))) := rfl
theorem dkI_0 (v : Int32) : (dkh g ad rst σ).set 1 (ad 1, .inr (2, [.ref (ad 6), .ref (ad 8), .ref (ad 10), .ref (ad 12), .ref (ad 14), .ref (ad 16), .ref (ad 18), .ref (ad 20), .int v, .int (σ.1 1)])) = dkh g ad rst (sI σ 0 v) := rfl
theorem dkI_1 (v : Int32) : (dkh g ad rst σ).set 1 (ad 1, .inr (2, [.ref (ad 6), .ref (ad 8), .ref (ad 10), .ref (ad 12), .ref (ad 14), .ref (ad 16), .ref (ad 18), .ref (ad 20), .int (σ.1 0), .int v])) = dkh g ad rst (sI σ 1 v) := rfl
theorem dkI_2 (v : Int32) : (dkh g ad rst σ).set 2 (ad 2, .inr (4, [.ref (ad 1), .ref (ad 22), .ref (ad 24), .ref (ad 26), .ref (ad 28), .ref (ad 30), .ref (ad 32), .ref (ad 34), .ref (ad 36), .ref (ad 38), .ref (ad 40), .ref (ad 42), .ref (ad 44), .int v, .int (σ.1 3), .int (σ.1 4)])) = dkh g ad rst (sI σ 2 v) := rfl
theorem dkI_3 (v : Int32) : (dkh g ad rst σ).set 2 (ad 2, .inr (4, [.ref (ad 1), .ref (ad 22), .ref (ad 24), .ref (ad 26), .ref (ad 28), .ref (ad 30), .ref (ad 32), .ref (ad 34), .ref (ad 36), .ref (ad 38), .ref (ad 40), .ref (ad 42), .ref (ad 44), .int (σ.1 2), .int v, .int (σ.1 4)])) = dkh g ad rst (sI σ 3 v) := rfl
theorem dkI_4 (v : Int32) : (dkh g ad rst σ).set 2 (ad 2, .inr (4, [.ref (ad 1), .ref (ad 22), .ref (ad 24), .ref (ad 26), .ref (ad 28), .ref (ad 30), .ref (ad 32), .ref (ad 34), .ref (ad 36), .ref (ad 38), .ref (ad 40), .ref (ad 42), .ref (ad 44), .int (σ.1 2), .int (σ.1 3), .int v])) = dkh g ad rst (sI σ 4 v) := rfl
theorem dkI_5 (v : Int32) : (dkh g ad rst σ).set 3 (ad 3, .inr (3, [.ref (ad 1), .ref (ad 46), .ref (ad 48), .ref (ad 50), .ref (ad 52), .ref (ad 54), .ref (ad 56), .int v])) = dkh g ad rst (sI σ 5 v) := rfl
theorem dkI_6 (v : Int32) : (dkh g ad rst σ).set 4 (ad 4, .inr (6, [.ref (ad 1), .ref (ad 2), .ref (ad 58), .ref (ad 60), .ref (ad 62), .int v, .int (σ.1 7), .int (σ.1 8), .int (σ.1 9), .int (σ.1 10)])) = dkh g ad rst (sI σ 6 v) := rfl
theorem dkI_7 (v : Int32) : (dkh g ad rst σ).set 4 (ad 4, .inr (6, [.ref (ad 1), .ref (ad 2), .ref (ad 58), .ref (ad 60), .ref (ad 62), .int (σ.1 6), .int v, .int (σ.1 8), .int (σ.1 9), .int (σ.1 10)])) = dkh g ad rst (sI σ 7 v) := rfl
theorem dkI_8 (v : Int32) : (dkh g ad rst σ).set 4 (ad 4, .inr (6, [.ref (ad 1), .ref (ad 2), .ref (ad 58), .ref (ad 60), .ref (ad 62), .int (σ.1 6), .int (σ.1 7), .int v, .int (σ.1 9), .int (σ.1 10)])) = dkh g ad rst (sI σ 8 v) := rfl
theorem dkI_9 (v : Int32) : (dkh g ad rst σ).set 4 (ad 4, .inr (6, [.ref (ad 1), .ref (ad 2), .ref (ad 58), .ref (ad 60), .ref (ad 62), .int (σ.1 6), .int (σ.1 7), .int (σ.1 8), .int v, .int (σ.1 10)])) = dkh g ad rst (sI σ 9 v) := rfl
theorem dkI_10 (v : Int32) : (dkh g ad rst σ).set 4 (ad 4, .inr (6, [.ref (ad 1), .ref (ad 2), .ref (ad 58), .ref (ad 60), .ref (ad 62), .int (σ.1 6), .int (σ.1 7), .int (σ.1 8), .int (σ.1 9), .int v])) = dkh g ad rst (sI σ 10 v) := rfl
theorem dkI_11 (v : Int32) : (dkh g ad rst σ).set 5 (ad 5, .inr (7, [.ref (ad 64), .int v])) = dkh g ad rst (sI σ 11 v) := rfl
theorem dkR_0 (f : Nat → Int32) : (dkh g ad rst σ).set 7 (ad 7, .inl (g.2 0, 150, .inl f)) = dkh g ad rst (sR σ 0 f) := rfl
theorem dkR_1 (f : Nat → Int32) : (dkh g ad rst σ).set 9 (ad 9, .inl (g.2 0, 150, .inl f)) = dkh g ad rst (sR σ 1 f) := rfl
theorem dkR_2 (f : Nat → Int32) : (dkh g ad rst σ).set 11 (ad 11, .inl (g.2 0, 150, .inl f)) = dkh g ad rst (sR σ 2 f) := rfl
theorem dkR_3 (f : Nat → Int32) : (dkh g ad rst σ).set 13 (ad 13, .inl (g.2 0, 150, .inl f)) = dkh g ad rst (sR σ 3 f) := rfl
theorem dkR_4 (f : Nat → Int32) : (dkh g ad rst σ).set 15 (ad 15, .inl (g.2 0, 4500, .inl f)) = dkh g ad rst (sR σ 4 f) := rfl
theorem dkR_5 (f : Nat → Int32) : (dkh g ad rst σ).set 17 (ad 17, .inl (g.2 0, 150, .inl f)) = dkh g ad rst (sR σ 5 f) := rfl
theorem dkR_6 (f : Nat → Int32) : (dkh g ad rst σ).set 19 (ad 19, .inl (g.2 0, 30, .inl f)) = dkh g ad rst (sR σ 6 f) := rfl
theorem dkR_7 (f : Nat → Int32) : (dkh g ad rst σ).set 21 (ad 21, .inl (g.2 0, 30, .inl f)) = dkh g ad rst (sR σ 7 f) := rfl
theorem dkR_8 (f : Nat → Int32) : (dkh g ad rst σ).set 23 (ad 23, .inl (g.2 0, 60, .inl f)) = dkh g ad rst (sR σ 8 f) := rfl
theorem dkR_9 (f : Nat → Int32) : (dkh g ad rst σ).set 25 (ad 25, .inl (g.2 0, 60, .inl f)) = dkh g ad rst (sR σ 9 f) := rfl
theorem dkR_10 (f : Nat → Int32) : (dkh g ad rst σ).set 27 (ad 27, .inl (g.2 0, 60, .inl f)) = dkh g ad rst (sR σ 10 f) := rfl
theorem dkR_11 (f : Nat → Int32) : (dkh g ad rst σ).set 29 (ad 29, .inl (g.2 0, 60, .inl f)) = dkh g ad rst (sR σ 11 f) := rfl
theorem dkR_12 (f : Nat → Int32) : (dkh g ad rst σ).set 31 (ad 31, .inl (g.2 0, 60, .inl f)) = dkh g ad rst (sR σ 12 f) := rfl
theorem dkR_13 (f : Nat → Int32) : (dkh g ad rst σ).set 33 (ad 33, .inl (g.2 0, 60, .inl f)) = dkh g ad rst (sR σ 13 f) := rfl
theorem dkR_14 (f : Nat → Int32) : (dkh g ad rst σ).set 35 (ad 35, .inl (g.2 0, 60, .inl f)) = dkh g ad rst (sR σ 14 f) := rfl
theorem dkR_15 (f : Nat → Int32) : (dkh g ad rst σ).set 37 (ad 37, .inl (g.2 0, 60, .inl f)) = dkh g ad rst (sR σ 15 f) := rfl
theorem dkR_16 (f : Nat → Int32) : (dkh g ad rst σ).set 39 (ad 39, .inl (g.2 0, 60, .inl f)) = dkh g ad rst (sR σ 16 f) := rfl
theorem dkR_17 (f : Nat → Int32) : (dkh g ad rst σ).set 41 (ad 41, .inl (g.2 0, 60, .inl f)) = dkh g ad rst (sR σ 17 f) := rfl
theorem dkR_18 (f : Nat → Int32) : (dkh g ad rst σ).set 43 (ad 43, .inl (g.2 0, 60, .inl f)) = dkh g ad rst (sR σ 18 f) := rfl
theorem dkR_19 (f : Nat → Int32) : (dkh g ad rst σ).set 45 (ad 45, .inl (g.2 0, 60, .inl f)) = dkh g ad rst (sR σ 19 f) := rfl
theorem dkR_20 (f : Nat → Int32) : (dkh g ad rst σ).set 47 (ad 47, .inl (g.2 0, 8, .inl f)) = dkh g ad rst (sR σ 20 f) := rfl
theorem dkR_21 (f : Nat → Int32) : (dkh g ad rst σ).set 49 (ad 49, .inl (g.2 0, 8, .inl f)) = dkh g ad rst (sR σ 21 f) := rfl
theorem dkR_22 (f : Nat → Int32) : (dkh g ad rst σ).set 51 (ad 51, .inl (g.2 0, 8, .inl f)) = dkh g ad rst (sR σ 22 f) := rfl
theorem dkR_23 (f : Nat → Int32) : (dkh g ad rst σ).set 53 (ad 53, .inl (g.2 0, 8, .inl f)) = dkh g ad rst (sR σ 23 f) := rfl
theorem dkR_24 (f : Nat → Int32) : (dkh g ad rst σ).set 55 (ad 55, .inl (g.2 0, 5, .inl f)) = dkh g ad rst (sR σ 24 f) := rfl
theorem dkR_25 (f : Nat → Int32) : (dkh g ad rst σ).set 57 (ad 57, .inl (g.2 0, 150, .inl f)) = dkh g ad rst (sR σ 25 f) := rfl
theorem dkR_26 (f : Nat → Int32) : (dkh g ad rst σ).set 59 (ad 59, .inl (g.2 0, 151, .inl f)) = dkh g ad rst (sR σ 26 f) := rfl
theorem dkR_27 (f : Nat → Int32) : (dkh g ad rst σ).set 61 (ad 61, .inl (g.2 0, 151, .inl f)) = dkh g ad rst (sR σ 27 f) := rfl
theorem dkR_28 (f : Nat → Int32) : (dkh g ad rst σ).set 63 (ad 63, .inl (g.2 0, 151, .inl f)) = dkh g ad rst (sR σ 28 f) := rfl
theorem dkR_29 (f : Nat → Int32) : (dkh g ad rst σ).set 65 (ad 65, .inl (g.2 0, 64, .inl f)) = dkh g ad rst (sR σ 29 f) := rfl
theorem at_0 {l : Launch} (hl : l.stackTraces = false) (i : Int32) : SpF l mX3_at 1 0 0 mI g [.ref (ad 6), .int i] (dkh g ad rst σ) (rat 150 (σ.2 0) i) (dkh g ad rst σ) := sp_X3_at hl 6 7 dk_6 dk_7 (by decide) i
theorem put_0 {l : Launch} (hl : l.stackTraces = false) (i x : Int32) : SpF l mX3_put 1 0 0 mV g [.ref (ad 6), .int i, .int x] (dkh g ad rst σ) () (dkh g ad rst (sR σ 0 (rput 150 (σ.2 0) i x))) := dkR_0 (rput 150 (σ.2 0) i x) ▸ sp_X3_put hl 6 7 dk_6 dk_7 (by decide) i x
theorem fill_0 {l : Launch} (hl : l.stackTraces = false) (x : Int32) : SpF l mX3_fill 1 0 0 mV g [.ref (ad 6), .int x] (dkh g ad rst σ) () (dkh g ad rst (sR σ 0 (rfill 150 (σ.2 0) x))) := dkR_0 (rfill 150 (σ.2 0) x) ▸ sp_X3_fill hl 6 7 dk_6 dk_7 (by decide) x
theorem at_1 {l : Launch} (hl : l.stackTraces = false) (i : Int32) : SpF l mX3_at 1 0 0 mI g [.ref (ad 8), .int i] (dkh g ad rst σ) (rat 150 (σ.2 1) i) (dkh g ad rst σ) := sp_X3_at hl 8 9 dk_8 dk_9 (by decide) i
theorem put_1 {l : Launch} (hl : l.stackTraces = false) (i x : Int32) : SpF l mX3_put 1 0 0 mV g [.ref (ad 8), .int i, .int x] (dkh g ad rst σ) () (dkh g ad rst (sR σ 1 (rput 150 (σ.2 1) i x))) := dkR_1 (rput 150 (σ.2 1) i x) ▸ sp_X3_put hl 8 9 dk_8 dk_9 (by decide) i x
theorem fill_1 {l : Launch} (hl : l.stackTraces = false) (x : Int32) : SpF l mX3_fill 1 0 0 mV g [.ref (ad 8), .int x] (dkh g ad rst σ) () (dkh g ad rst (sR σ 1 (rfill 150 (σ.2 1) x))) := dkR_1 (rfill 150 (σ.2 1) x) ▸ sp_X3_fill hl 8 9 dk_8 dk_9 (by decide) x
theorem at_2 {l : Launch} (hl : l.stackTraces = false) (i : Int32) : SpF l mX3_at 1 0 0 mI g [.ref (ad 10), .int i] (dkh g ad rst σ) (rat 150 (σ.2 2) i) (dkh g ad rst σ) := sp_X3_at hl 10 11 dk_10 dk_11 (by decide) i
theorem put_2 {l : Launch} (hl : l.stackTraces = false) (i x : Int32) : SpF l mX3_put 1 0 0 mV g [.ref (ad 10), .int i, .int x] (dkh g ad rst σ) () (dkh g ad rst (sR σ 2 (rput 150 (σ.2 2) i x))) := dkR_2 (rput 150 (σ.2 2) i x) ▸ sp_X3_put hl 10 11 dk_10 dk_11 (by decide) i x
theorem fill_2 {l : Launch} (hl : l.stackTraces = false) (x : Int32) : SpF l mX3_fill 1 0 0 mV g [.ref (ad 10), .int x] (dkh g ad rst σ) () (dkh g ad rst (sR σ 2 (rfill 150 (σ.2 2) x))) := dkR_2 (rfill 150 (σ.2 2) x) ▸ sp_X3_fill hl 10 11 dk_10 dk_11 (by decide) x
theorem at_3 {l : Launch} (hl : l.stackTraces = false) (i : Int32) : SpF l mX3_at 1 0 0 mI g [.ref (ad 12), .int i] (dkh g ad rst σ) (rat 150 (σ.2 3) i) (dkh g ad rst σ) := sp_X3_at hl 12 13 dk_12 dk_13 (by decide) i
theorem put_3 {l : Launch} (hl : l.stackTraces = false) (i x : Int32) : SpF l mX3_put 1 0 0 mV g [.ref (ad 12), .int i, .int x] (dkh g ad rst σ) () (dkh g ad rst (sR σ 3 (rput 150 (σ.2 3) i x))) := dkR_3 (rput 150 (σ.2 3) i x) ▸ sp_X3_put hl 12 13 dk_12 dk_13 (by decide) i x
theorem fill_3 {l : Launch} (hl : l.stackTraces = false) (x : Int32) : SpF l mX3_fill 1 0 0 mV g [.ref (ad 12), .int x] (dkh g ad rst σ) () (dkh g ad rst (sR σ 3 (rfill 150 (σ.2 3) x))) := dkR_3 (rfill 150 (σ.2 3) x) ▸ sp_X3_fill hl 12 13 dk_12 dk_13 (by decide) x
theorem at_4 {l : Launch} (hl : l.stackTraces = false) (i : Int32) : SpF l mX3_at 1 0 0 mI g [.ref (ad 14), .int i] (dkh g ad rst σ) (rat 4500 (σ.2 4) i) (dkh g ad rst σ) := sp_X3_at hl 14 15 dk_14 dk_15 (by decide) i
theorem put_4 {l : Launch} (hl : l.stackTraces = false) (i x : Int32) : SpF l mX3_put 1 0 0 mV g [.ref (ad 14), .int i, .int x] (dkh g ad rst σ) () (dkh g ad rst (sR σ 4 (rput 4500 (σ.2 4) i x))) := dkR_4 (rput 4500 (σ.2 4) i x) ▸ sp_X3_put hl 14 15 dk_14 dk_15 (by decide) i x
theorem fill_4 {l : Launch} (hl : l.stackTraces = false) (x : Int32) : SpF l mX3_fill 1 0 0 mV g [.ref (ad 14), .int x] (dkh g ad rst σ) () (dkh g ad rst (sR σ 4 (rfill 4500 (σ.2 4) x))) := dkR_4 (rfill 4500 (σ.2 4) x) ▸ sp_X3_fill hl 14 15 dk_14 dk_15 (by decide) x
theorem at_5 {l : Launch} (hl : l.stackTraces = false) (i : Int32) : SpF l mX3_at 1 0 0 mI g [.ref (ad 16), .int i] (dkh g ad rst σ) (rat 150 (σ.2 5) i) (dkh g ad rst σ) := sp_X3_at hl 16 17 dk_16 dk_17 (by decide) i
theorem put_5 {l : Launch} (hl : l.stackTraces = false) (i x : Int32) : SpF l mX3_put 1 0 0 mV g [.ref (ad 16), .int i, .int x] (dkh g ad rst σ) () (dkh g ad rst (sR σ 5 (rput 150 (σ.2 5) i x))) := dkR_5 (rput 150 (σ.2 5) i x) ▸ sp_X3_put hl 16 17 dk_16 dk_17 (by decide) i x
theorem fill_5 {l : Launch} (hl : l.stackTraces = false) (x : Int32) : SpF l mX3_fill 1 0 0 mV g [.ref (ad 16), .int x] (dkh g ad rst σ) () (dkh g ad rst (sR σ 5 (rfill 150 (σ.2 5) x))) := dkR_5 (rfill 150 (σ.2 5) x) ▸ sp_X3_fill hl 16 17 dk_16 dk_17 (by decide) x
theorem at_6 {l : Launch} (hl : l.stackTraces = false) (i : Int32) : SpF l mX3_at 1 0 0 mI g [.ref (ad 18), .int i] (dkh g ad rst σ) (rat 30 (σ.2 6) i) (dkh g ad rst σ) := sp_X3_at hl 18 19 dk_18 dk_19 (by decide) i
theorem put_6 {l : Launch} (hl : l.stackTraces = false) (i x : Int32) : SpF l mX3_put 1 0 0 mV g [.ref (ad 18), .int i, .int x] (dkh g ad rst σ) () (dkh g ad rst (sR σ 6 (rput 30 (σ.2 6) i x))) := dkR_6 (rput 30 (σ.2 6) i x) ▸ sp_X3_put hl 18 19 dk_18 dk_19 (by decide) i x
theorem fill_6 {l : Launch} (hl : l.stackTraces = false) (x : Int32) : SpF l mX3_fill 1 0 0 mV g [.ref (ad 18), .int x] (dkh g ad rst σ) () (dkh g ad rst (sR σ 6 (rfill 30 (σ.2 6) x))) := dkR_6 (rfill 30 (σ.2 6) x) ▸ sp_X3_fill hl 18 19 dk_18 dk_19 (by decide) x
theorem at_7 {l : Launch} (hl : l.stackTraces = false) (i : Int32) : SpF l mX3_at 1 0 0 mI g [.ref (ad 20), .int i] (dkh g ad rst σ) (rat 30 (σ.2 7) i) (dkh g ad rst σ) := sp_X3_at hl 20 21 dk_20 dk_21 (by decide) i
theorem put_7 {l : Launch} (hl : l.stackTraces = false) (i x : Int32) : SpF l mX3_put 1 0 0 mV g [.ref (ad 20), .int i, .int x] (dkh g ad rst σ) () (dkh g ad rst (sR σ 7 (rput 30 (σ.2 7) i x))) := dkR_7 (rput 30 (σ.2 7) i x) ▸ sp_X3_put hl 20 21 dk_20 dk_21 (by decide) i x
theorem fill_7 {l : Launch} (hl : l.stackTraces = false) (x : Int32) : SpF l mX3_fill 1 0 0 mV g [.ref (ad 20), .int x] (dkh g ad rst σ) () (dkh g ad rst (sR σ 7 (rfill 30 (σ.2 7) x))) := dkR_7 (rfill 30 (σ.2 7) x) ▸ sp_X3_fill hl 20 21 dk_20 dk_21 (by decide) x
theorem at_8 {l : Launch} (hl : l.stackTraces = false) (i : Int32) : SpF l mX3_at 1 0 0 mI g [.ref (ad 22), .int i] (dkh g ad rst σ) (rat 60 (σ.2 8) i) (dkh g ad rst σ) := sp_X3_at hl 22 23 dk_22 dk_23 (by decide) i
theorem put_8 {l : Launch} (hl : l.stackTraces = false) (i x : Int32) : SpF l mX3_put 1 0 0 mV g [.ref (ad 22), .int i, .int x] (dkh g ad rst σ) () (dkh g ad rst (sR σ 8 (rput 60 (σ.2 8) i x))) := dkR_8 (rput 60 (σ.2 8) i x) ▸ sp_X3_put hl 22 23 dk_22 dk_23 (by decide) i x
theorem fill_8 {l : Launch} (hl : l.stackTraces = false) (x : Int32) : SpF l mX3_fill 1 0 0 mV g [.ref (ad 22), .int x] (dkh g ad rst σ) () (dkh g ad rst (sR σ 8 (rfill 60 (σ.2 8) x))) := dkR_8 (rfill 60 (σ.2 8) x) ▸ sp_X3_fill hl 22 23 dk_22 dk_23 (by decide) x
theorem at_9 {l : Launch} (hl : l.stackTraces = false) (i : Int32) : SpF l mX3_at 1 0 0 mI g [.ref (ad 24), .int i] (dkh g ad rst σ) (rat 60 (σ.2 9) i) (dkh g ad rst σ) := sp_X3_at hl 24 25 dk_24 dk_25 (by decide) i
theorem put_9 {l : Launch} (hl : l.stackTraces = false) (i x : Int32) : SpF l mX3_put 1 0 0 mV g [.ref (ad 24), .int i, .int x] (dkh g ad rst σ) () (dkh g ad rst (sR σ 9 (rput 60 (σ.2 9) i x))) := dkR_9 (rput 60 (σ.2 9) i x) ▸ sp_X3_put hl 24 25 dk_24 dk_25 (by decide) i x
theorem fill_9 {l : Launch} (hl : l.stackTraces = false) (x : Int32) : SpF l mX3_fill 1 0 0 mV g [.ref (ad 24), .int x] (dkh g ad rst σ) () (dkh g ad rst (sR σ 9 (rfill 60 (σ.2 9) x))) := dkR_9 (rfill 60 (σ.2 9) x) ▸ sp_X3_fill hl 24 25 dk_24 dk_25 (by decide) x
theorem at_10 {l : Launch} (hl : l.stackTraces = false) (i : Int32) : SpF l mX3_at 1 0 0 mI g [.ref (ad 26), .int i] (dkh g ad rst σ) (rat 60 (σ.2 10) i) (dkh g ad rst σ) := sp_X3_at hl 26 27 dk_26 dk_27 (by decide) i
theorem put_10 {l : Launch} (hl : l.stackTraces = false) (i x : Int32) : SpF l mX3_put 1 0 0 mV g [.ref (ad 26), .int i, .int x] (dkh g ad rst σ) () (dkh g ad rst (sR σ 10 (rput 60 (σ.2 10) i x))) := dkR_10 (rput 60 (σ.2 10) i x) ▸ sp_X3_put hl 26 27 dk_26 dk_27 (by decide) i x
theorem fill_10 {l : Launch} (hl : l.stackTraces = false) (x : Int32) : SpF l mX3_fill 1 0 0 mV g [.ref (ad 26), .int x] (dkh g ad rst σ) () (dkh g ad rst (sR σ 10 (rfill 60 (σ.2 10) x))) := dkR_10 (rfill 60 (σ.2 10) x) ▸ sp_X3_fill hl 26 27 dk_26 dk_27 (by decide) x
theorem at_11 {l : Launch} (hl : l.stackTraces = false) (i : Int32) : SpF l mX3_at 1 0 0 mI g [.ref (ad 28), .int i] (dkh g ad rst σ) (rat 60 (σ.2 11) i) (dkh g ad rst σ) := sp_X3_at hl 28 29 dk_28 dk_29 (by decide) i
theorem put_11 {l : Launch} (hl : l.stackTraces = false) (i x : Int32) : SpF l mX3_put 1 0 0 mV g [.ref (ad 28), .int i, .int x] (dkh g ad rst σ) () (dkh g ad rst (sR σ 11 (rput 60 (σ.2 11) i x))) := dkR_11 (rput 60 (σ.2 11) i x) ▸ sp_X3_put hl 28 29 dk_28 dk_29 (by decide) i x
theorem fill_11 {l : Launch} (hl : l.stackTraces = false) (x : Int32) : SpF l mX3_fill 1 0 0 mV g [.ref (ad 28), .int x] (dkh g ad rst σ) () (dkh g ad rst (sR σ 11 (rfill 60 (σ.2 11) x))) := dkR_11 (rfill 60 (σ.2 11) x) ▸ sp_X3_fill hl 28 29 dk_28 dk_29 (by decide) x
theorem at_12 {l : Launch} (hl : l.stackTraces = false) (i : Int32) : SpF l mX3_at 1 0 0 mI g [.ref (ad 30), .int i] (dkh g ad rst σ) (rat 60 (σ.2 12) i) (dkh g ad rst σ) := sp_X3_at hl 30 31 dk_30 dk_31 (by decide) i
theorem put_12 {l : Launch} (hl : l.stackTraces = false) (i x : Int32) : SpF l mX3_put 1 0 0 mV g [.ref (ad 30), .int i, .int x] (dkh g ad rst σ) () (dkh g ad rst (sR σ 12 (rput 60 (σ.2 12) i x))) := dkR_12 (rput 60 (σ.2 12) i x) ▸ sp_X3_put hl 30 31 dk_30 dk_31 (by decide) i x
theorem fill_12 {l : Launch} (hl : l.stackTraces = false) (x : Int32) : SpF l mX3_fill 1 0 0 mV g [.ref (ad 30), .int x] (dkh g ad rst σ) () (dkh g ad rst (sR σ 12 (rfill 60 (σ.2 12) x))) := dkR_12 (rfill 60 (σ.2 12) x) ▸ sp_X3_fill hl 30 31 dk_30 dk_31 (by decide) x
theorem at_13 {l : Launch} (hl : l.stackTraces = false) (i : Int32) : SpF l mX3_at 1 0 0 mI g [.ref (ad 32), .int i] (dkh g ad rst σ) (rat 60 (σ.2 13) i) (dkh g ad rst σ) := sp_X3_at hl 32 33 dk_32 dk_33 (by decide) i
theorem put_13 {l : Launch} (hl : l.stackTraces = false) (i x : Int32) : SpF l mX3_put 1 0 0 mV g [.ref (ad 32), .int i, .int x] (dkh g ad rst σ) () (dkh g ad rst (sR σ 13 (rput 60 (σ.2 13) i x))) := dkR_13 (rput 60 (σ.2 13) i x) ▸ sp_X3_put hl 32 33 dk_32 dk_33 (by decide) i x
theorem fill_13 {l : Launch} (hl : l.stackTraces = false) (x : Int32) : SpF l mX3_fill 1 0 0 mV g [.ref (ad 32), .int x] (dkh g ad rst σ) () (dkh g ad rst (sR σ 13 (rfill 60 (σ.2 13) x))) := dkR_13 (rfill 60 (σ.2 13) x) ▸ sp_X3_fill hl 32 33 dk_32 dk_33 (by decide) x
theorem at_14 {l : Launch} (hl : l.stackTraces = false) (i : Int32) : SpF l mX3_at 1 0 0 mI g [.ref (ad 34), .int i] (dkh g ad rst σ) (rat 60 (σ.2 14) i) (dkh g ad rst σ) := sp_X3_at hl 34 35 dk_34 dk_35 (by decide) i
theorem put_14 {l : Launch} (hl : l.stackTraces = false) (i x : Int32) : SpF l mX3_put 1 0 0 mV g [.ref (ad 34), .int i, .int x] (dkh g ad rst σ) () (dkh g ad rst (sR σ 14 (rput 60 (σ.2 14) i x))) := dkR_14 (rput 60 (σ.2 14) i x) ▸ sp_X3_put hl 34 35 dk_34 dk_35 (by decide) i x
theorem fill_14 {l : Launch} (hl : l.stackTraces = false) (x : Int32) : SpF l mX3_fill 1 0 0 mV g [.ref (ad 34), .int x] (dkh g ad rst σ) () (dkh g ad rst (sR σ 14 (rfill 60 (σ.2 14) x))) := dkR_14 (rfill 60 (σ.2 14) x) ▸ sp_X3_fill hl 34 35 dk_34 dk_35 (by decide) x
theorem at_15 {l : Launch} (hl : l.stackTraces = false) (i : Int32) : SpF l mX3_at 1 0 0 mI g [.ref (ad 36), .int i] (dkh g ad rst σ) (rat 60 (σ.2 15) i) (dkh g ad rst σ) := sp_X3_at hl 36 37 dk_36 dk_37 (by decide) i
theorem put_15 {l : Launch} (hl : l.stackTraces = false) (i x : Int32) : SpF l mX3_put 1 0 0 mV g [.ref (ad 36), .int i, .int x] (dkh g ad rst σ) () (dkh g ad rst (sR σ 15 (rput 60 (σ.2 15) i x))) := dkR_15 (rput 60 (σ.2 15) i x) ▸ sp_X3_put hl 36 37 dk_36 dk_37 (by decide) i x
theorem fill_15 {l : Launch} (hl : l.stackTraces = false) (x : Int32) : SpF l mX3_fill 1 0 0 mV g [.ref (ad 36), .int x] (dkh g ad rst σ) () (dkh g ad rst (sR σ 15 (rfill 60 (σ.2 15) x))) := dkR_15 (rfill 60 (σ.2 15) x) ▸ sp_X3_fill hl 36 37 dk_36 dk_37 (by decide) x
theorem at_16 {l : Launch} (hl : l.stackTraces = false) (i : Int32) : SpF l mX3_at 1 0 0 mI g [.ref (ad 38), .int i] (dkh g ad rst σ) (rat 60 (σ.2 16) i) (dkh g ad rst σ) := sp_X3_at hl 38 39 dk_38 dk_39 (by decide) i
theorem put_16 {l : Launch} (hl : l.stackTraces = false) (i x : Int32) : SpF l mX3_put 1 0 0 mV g [.ref (ad 38), .int i, .int x] (dkh g ad rst σ) () (dkh g ad rst (sR σ 16 (rput 60 (σ.2 16) i x))) := dkR_16 (rput 60 (σ.2 16) i x) ▸ sp_X3_put hl 38 39 dk_38 dk_39 (by decide) i x
theorem fill_16 {l : Launch} (hl : l.stackTraces = false) (x : Int32) : SpF l mX3_fill 1 0 0 mV g [.ref (ad 38), .int x] (dkh g ad rst σ) () (dkh g ad rst (sR σ 16 (rfill 60 (σ.2 16) x))) := dkR_16 (rfill 60 (σ.2 16) x) ▸ sp_X3_fill hl 38 39 dk_38 dk_39 (by decide) x
theorem at_17 {l : Launch} (hl : l.stackTraces = false) (i : Int32) : SpF l mX3_at 1 0 0 mI g [.ref (ad 40), .int i] (dkh g ad rst σ) (rat 60 (σ.2 17) i) (dkh g ad rst σ) := sp_X3_at hl 40 41 dk_40 dk_41 (by decide) i
theorem put_17 {l : Launch} (hl : l.stackTraces = false) (i x : Int32) : SpF l mX3_put 1 0 0 mV g [.ref (ad 40), .int i, .int x] (dkh g ad rst σ) () (dkh g ad rst (sR σ 17 (rput 60 (σ.2 17) i x))) := dkR_17 (rput 60 (σ.2 17) i x) ▸ sp_X3_put hl 40 41 dk_40 dk_41 (by decide) i x
theorem fill_17 {l : Launch} (hl : l.stackTraces = false) (x : Int32) : SpF l mX3_fill 1 0 0 mV g [.ref (ad 40), .int x] (dkh g ad rst σ) () (dkh g ad rst (sR σ 17 (rfill 60 (σ.2 17) x))) := dkR_17 (rfill 60 (σ.2 17) x) ▸ sp_X3_fill hl 40 41 dk_40 dk_41 (by decide) x
theorem at_18 {l : Launch} (hl : l.stackTraces = false) (i : Int32) : SpF l mX3_at 1 0 0 mI g [.ref (ad 42), .int i] (dkh g ad rst σ) (rat 60 (σ.2 18) i) (dkh g ad rst σ) := sp_X3_at hl 42 43 dk_42 dk_43 (by decide) i
theorem put_18 {l : Launch} (hl : l.stackTraces = false) (i x : Int32) : SpF l mX3_put 1 0 0 mV g [.ref (ad 42), .int i, .int x] (dkh g ad rst σ) () (dkh g ad rst (sR σ 18 (rput 60 (σ.2 18) i x))) := dkR_18 (rput 60 (σ.2 18) i x) ▸ sp_X3_put hl 42 43 dk_42 dk_43 (by decide) i x
theorem fill_18 {l : Launch} (hl : l.stackTraces = false) (x : Int32) : SpF l mX3_fill 1 0 0 mV g [.ref (ad 42), .int x] (dkh g ad rst σ) () (dkh g ad rst (sR σ 18 (rfill 60 (σ.2 18) x))) := dkR_18 (rfill 60 (σ.2 18) x) ▸ sp_X3_fill hl 42 43 dk_42 dk_43 (by decide) x
theorem at_19 {l : Launch} (hl : l.stackTraces = false) (i : Int32) : SpF l mX3_at 1 0 0 mI g [.ref (ad 44), .int i] (dkh g ad rst σ) (rat 60 (σ.2 19) i) (dkh g ad rst σ) := sp_X3_at hl 44 45 dk_44 dk_45 (by decide) i
theorem put_19 {l : Launch} (hl : l.stackTraces = false) (i x : Int32) : SpF l mX3_put 1 0 0 mV g [.ref (ad 44), .int i, .int x] (dkh g ad rst σ) () (dkh g ad rst (sR σ 19 (rput 60 (σ.2 19) i x))) := dkR_19 (rput 60 (σ.2 19) i x) ▸ sp_X3_put hl 44 45 dk_44 dk_45 (by decide) i x
theorem fill_19 {l : Launch} (hl : l.stackTraces = false) (x : Int32) : SpF l mX3_fill 1 0 0 mV g [.ref (ad 44), .int x] (dkh g ad rst σ) () (dkh g ad rst (sR σ 19 (rfill 60 (σ.2 19) x))) := dkR_19 (rfill 60 (σ.2 19) x) ▸ sp_X3_fill hl 44 45 dk_44 dk_45 (by decide) x
theorem at_20 {l : Launch} (hl : l.stackTraces = false) (i : Int32) : SpF l mX3_at 1 0 0 mI g [.ref (ad 46), .int i] (dkh g ad rst σ) (rat 8 (σ.2 20) i) (dkh g ad rst σ) := sp_X3_at hl 46 47 dk_46 dk_47 (by decide) i
theorem put_20 {l : Launch} (hl : l.stackTraces = false) (i x : Int32) : SpF l mX3_put 1 0 0 mV g [.ref (ad 46), .int i, .int x] (dkh g ad rst σ) () (dkh g ad rst (sR σ 20 (rput 8 (σ.2 20) i x))) := dkR_20 (rput 8 (σ.2 20) i x) ▸ sp_X3_put hl 46 47 dk_46 dk_47 (by decide) i x
theorem fill_20 {l : Launch} (hl : l.stackTraces = false) (x : Int32) : SpF l mX3_fill 1 0 0 mV g [.ref (ad 46), .int x] (dkh g ad rst σ) () (dkh g ad rst (sR σ 20 (rfill 8 (σ.2 20) x))) := dkR_20 (rfill 8 (σ.2 20) x) ▸ sp_X3_fill hl 46 47 dk_46 dk_47 (by decide) x
theorem at_21 {l : Launch} (hl : l.stackTraces = false) (i : Int32) : SpF l mX3_at 1 0 0 mI g [.ref (ad 48), .int i] (dkh g ad rst σ) (rat 8 (σ.2 21) i) (dkh g ad rst σ) := sp_X3_at hl 48 49 dk_48 dk_49 (by decide) i
theorem put_21 {l : Launch} (hl : l.stackTraces = false) (i x : Int32) : SpF l mX3_put 1 0 0 mV g [.ref (ad 48), .int i, .int x] (dkh g ad rst σ) () (dkh g ad rst (sR σ 21 (rput 8 (σ.2 21) i x))) := dkR_21 (rput 8 (σ.2 21) i x) ▸ sp_X3_put hl 48 49 dk_48 dk_49 (by decide) i x
theorem fill_21 {l : Launch} (hl : l.stackTraces = false) (x : Int32) : SpF l mX3_fill 1 0 0 mV g [.ref (ad 48), .int x] (dkh g ad rst σ) () (dkh g ad rst (sR σ 21 (rfill 8 (σ.2 21) x))) := dkR_21 (rfill 8 (σ.2 21) x) ▸ sp_X3_fill hl 48 49 dk_48 dk_49 (by decide) x
theorem at_22 {l : Launch} (hl : l.stackTraces = false) (i : Int32) : SpF l mX3_at 1 0 0 mI g [.ref (ad 50), .int i] (dkh g ad rst σ) (rat 8 (σ.2 22) i) (dkh g ad rst σ) := sp_X3_at hl 50 51 dk_50 dk_51 (by decide) i
theorem put_22 {l : Launch} (hl : l.stackTraces = false) (i x : Int32) : SpF l mX3_put 1 0 0 mV g [.ref (ad 50), .int i, .int x] (dkh g ad rst σ) () (dkh g ad rst (sR σ 22 (rput 8 (σ.2 22) i x))) := dkR_22 (rput 8 (σ.2 22) i x) ▸ sp_X3_put hl 50 51 dk_50 dk_51 (by decide) i x
theorem fill_22 {l : Launch} (hl : l.stackTraces = false) (x : Int32) : SpF l mX3_fill 1 0 0 mV g [.ref (ad 50), .int x] (dkh g ad rst σ) () (dkh g ad rst (sR σ 22 (rfill 8 (σ.2 22) x))) := dkR_22 (rfill 8 (σ.2 22) x) ▸ sp_X3_fill hl 50 51 dk_50 dk_51 (by decide) x
theorem at_23 {l : Launch} (hl : l.stackTraces = false) (i : Int32) : SpF l mX3_at 1 0 0 mI g [.ref (ad 52), .int i] (dkh g ad rst σ) (rat 8 (σ.2 23) i) (dkh g ad rst σ) := sp_X3_at hl 52 53 dk_52 dk_53 (by decide) i
theorem put_23 {l : Launch} (hl : l.stackTraces = false) (i x : Int32) : SpF l mX3_put 1 0 0 mV g [.ref (ad 52), .int i, .int x] (dkh g ad rst σ) () (dkh g ad rst (sR σ 23 (rput 8 (σ.2 23) i x))) := dkR_23 (rput 8 (σ.2 23) i x) ▸ sp_X3_put hl 52 53 dk_52 dk_53 (by decide) i x
theorem fill_23 {l : Launch} (hl : l.stackTraces = false) (x : Int32) : SpF l mX3_fill 1 0 0 mV g [.ref (ad 52), .int x] (dkh g ad rst σ) () (dkh g ad rst (sR σ 23 (rfill 8 (σ.2 23) x))) := dkR_23 (rfill 8 (σ.2 23) x) ▸ sp_X3_fill hl 52 53 dk_52 dk_53 (by decide) x
theorem at_24 {l : Launch} (hl : l.stackTraces = false) (i : Int32) : SpF l mX3_at 1 0 0 mI g [.ref (ad 54), .int i] (dkh g ad rst σ) (rat 5 (σ.2 24) i) (dkh g ad rst σ) := sp_X3_at hl 54 55 dk_54 dk_55 (by decide) i
theorem put_24 {l : Launch} (hl : l.stackTraces = false) (i x : Int32) : SpF l mX3_put 1 0 0 mV g [.ref (ad 54), .int i, .int x] (dkh g ad rst σ) () (dkh g ad rst (sR σ 24 (rput 5 (σ.2 24) i x))) := dkR_24 (rput 5 (σ.2 24) i x) ▸ sp_X3_put hl 54 55 dk_54 dk_55 (by decide) i x
theorem fill_24 {l : Launch} (hl : l.stackTraces = false) (x : Int32) : SpF l mX3_fill 1 0 0 mV g [.ref (ad 54), .int x] (dkh g ad rst σ) () (dkh g ad rst (sR σ 24 (rfill 5 (σ.2 24) x))) := dkR_24 (rfill 5 (σ.2 24) x) ▸ sp_X3_fill hl 54 55 dk_54 dk_55 (by decide) x
theorem at_25 {l : Launch} (hl : l.stackTraces = false) (i : Int32) : SpF l mX3_at 1 0 0 mI g [.ref (ad 56), .int i] (dkh g ad rst σ) (rat 150 (σ.2 25) i) (dkh g ad rst σ) := sp_X3_at hl 56 57 dk_56 dk_57 (by decide) i
theorem put_25 {l : Launch} (hl : l.stackTraces = false) (i x : Int32) : SpF l mX3_put 1 0 0 mV g [.ref (ad 56), .int i, .int x] (dkh g ad rst σ) () (dkh g ad rst (sR σ 25 (rput 150 (σ.2 25) i x))) := dkR_25 (rput 150 (σ.2 25) i x) ▸ sp_X3_put hl 56 57 dk_56 dk_57 (by decide) i x
theorem fill_25 {l : Launch} (hl : l.stackTraces = false) (x : Int32) : SpF l mX3_fill 1 0 0 mV g [.ref (ad 56), .int x] (dkh g ad rst σ) () (dkh g ad rst (sR σ 25 (rfill 150 (σ.2 25) x))) := dkR_25 (rfill 150 (σ.2 25) x) ▸ sp_X3_fill hl 56 57 dk_56 dk_57 (by decide) x
theorem at_26 {l : Launch} (hl : l.stackTraces = false) (i : Int32) : SpF l mX3_at 1 0 0 mI g [.ref (ad 58), .int i] (dkh g ad rst σ) (rat 151 (σ.2 26) i) (dkh g ad rst σ) := sp_X3_at hl 58 59 dk_58 dk_59 (by decide) i
theorem put_26 {l : Launch} (hl : l.stackTraces = false) (i x : Int32) : SpF l mX3_put 1 0 0 mV g [.ref (ad 58), .int i, .int x] (dkh g ad rst σ) () (dkh g ad rst (sR σ 26 (rput 151 (σ.2 26) i x))) := dkR_26 (rput 151 (σ.2 26) i x) ▸ sp_X3_put hl 58 59 dk_58 dk_59 (by decide) i x
theorem fill_26 {l : Launch} (hl : l.stackTraces = false) (x : Int32) : SpF l mX3_fill 1 0 0 mV g [.ref (ad 58), .int x] (dkh g ad rst σ) () (dkh g ad rst (sR σ 26 (rfill 151 (σ.2 26) x))) := dkR_26 (rfill 151 (σ.2 26) x) ▸ sp_X3_fill hl 58 59 dk_58 dk_59 (by decide) x
theorem at_27 {l : Launch} (hl : l.stackTraces = false) (i : Int32) : SpF l mX3_at 1 0 0 mI g [.ref (ad 60), .int i] (dkh g ad rst σ) (rat 151 (σ.2 27) i) (dkh g ad rst σ) := sp_X3_at hl 60 61 dk_60 dk_61 (by decide) i
theorem put_27 {l : Launch} (hl : l.stackTraces = false) (i x : Int32) : SpF l mX3_put 1 0 0 mV g [.ref (ad 60), .int i, .int x] (dkh g ad rst σ) () (dkh g ad rst (sR σ 27 (rput 151 (σ.2 27) i x))) := dkR_27 (rput 151 (σ.2 27) i x) ▸ sp_X3_put hl 60 61 dk_60 dk_61 (by decide) i x
theorem fill_27 {l : Launch} (hl : l.stackTraces = false) (x : Int32) : SpF l mX3_fill 1 0 0 mV g [.ref (ad 60), .int x] (dkh g ad rst σ) () (dkh g ad rst (sR σ 27 (rfill 151 (σ.2 27) x))) := dkR_27 (rfill 151 (σ.2 27) x) ▸ sp_X3_fill hl 60 61 dk_60 dk_61 (by decide) x
theorem at_28 {l : Launch} (hl : l.stackTraces = false) (i : Int32) : SpF l mX3_at 1 0 0 mI g [.ref (ad 62), .int i] (dkh g ad rst σ) (rat 151 (σ.2 28) i) (dkh g ad rst σ) := sp_X3_at hl 62 63 dk_62 dk_63 (by decide) i
theorem put_28 {l : Launch} (hl : l.stackTraces = false) (i x : Int32) : SpF l mX3_put 1 0 0 mV g [.ref (ad 62), .int i, .int x] (dkh g ad rst σ) () (dkh g ad rst (sR σ 28 (rput 151 (σ.2 28) i x))) := dkR_28 (rput 151 (σ.2 28) i x) ▸ sp_X3_put hl 62 63 dk_62 dk_63 (by decide) i x
theorem fill_28 {l : Launch} (hl : l.stackTraces = false) (x : Int32) : SpF l mX3_fill 1 0 0 mV g [.ref (ad 62), .int x] (dkh g ad rst σ) () (dkh g ad rst (sR σ 28 (rfill 151 (σ.2 28) x))) := dkR_28 (rfill 151 (σ.2 28) x) ▸ sp_X3_fill hl 62 63 dk_62 dk_63 (by decide) x
theorem at_29 {l : Launch} (hl : l.stackTraces = false) (i : Int32) : SpF l mX3_at 1 0 0 mI g [.ref (ad 64), .int i] (dkh g ad rst σ) (rat 64 (σ.2 29) i) (dkh g ad rst σ) := sp_X3_at hl 64 65 dk_64 dk_65 (by decide) i
theorem put_29 {l : Launch} (hl : l.stackTraces = false) (i x : Int32) : SpF l mX3_put 1 0 0 mV g [.ref (ad 64), .int i, .int x] (dkh g ad rst σ) () (dkh g ad rst (sR σ 29 (rput 64 (σ.2 29) i x))) := dkR_29 (rput 64 (σ.2 29) i x) ▸ sp_X3_put hl 64 65 dk_64 dk_65 (by decide) i x
theorem fill_29 {l : Launch} (hl : l.stackTraces = false) (x : Int32) : SpF l mX3_fill 1 0 0 mV g [.ref (ad 64), .int x] (dkh g ad rst σ) () (dkh g ad rst (sR σ 29 (rfill 64 (σ.2 29) x))) := dkR_29 (rfill 64 (σ.2 29) x) ▸ sp_X3_fill hl 64 65 dk_64 dk_65 (by decide) x
theorem nest_X4_94 : Cond.fieldLinkNest RX4 94 "DeductionDesk$Formulas" "count" "I" "DeductionDesk" ∈ tables_1 := List.mem_of_getElem? (i := 59) (by decide +kernel)
theorem nest_X1_73 : Cond.fieldLinkNest RX1 73 "DeductionDesk$Formulas" "count" "I" "DeductionDesk" ∈ tables_1 := List.mem_of_getElem? (i := 60) (by decide +kernel)
theorem nest_X6_66 : Cond.fieldLinkNest RX6 66 "DeductionDesk$Formulas" "count" "I" "DeductionDesk" ∈ tables_1 := List.mem_of_getElem? (i := 61) (by decide +kernel)
theorem nest_X4_79 : Cond.fieldLinkNest RX4 79 "DeductionDesk$Proof" "lineCount" "I" "DeductionDesk" ∈ tables_1 := List.mem_of_getElem? (i := 105) (by decide +kernel)
theorem nest_X1_50 : Cond.fieldLinkNest RX1 50 "DeductionDesk$Proof" "lineCount" "I" "DeductionDesk" ∈ tables_1 := List.mem_of_getElem? (i := 106) (by decide +kernel)
theorem nest_X6_164 : Cond.fieldLinkNest RX6 164 "DeductionDesk$Proof" "lineCount" "I" "DeductionDesk" ∈ tables_1 := List.mem_of_getElem? (i := 107) (by decide +kernel)
theorem nest_X6_216 : Cond.fieldLinkNest RX6 216 "DeductionDesk$Proof" "boxCount" "I" "DeductionDesk" ∈ tables_1 := List.mem_of_getElem? (i := 109) (by decide +kernel)
theorem nest_X6_97 : Cond.fieldLinkNest RX6 97 "DeductionDesk$Proof" "innermost" "I" "DeductionDesk" ∈ tables_1 := List.mem_of_getElem? (i := 111) (by decide +kernel)
theorem nest_X6_84 : Cond.fieldLinkNest RX6 84 "DeductionDesk$Lemmas" "bindings" "LDeductionDesk$Row;" "DeductionDesk" ∈ tables_1 := List.mem_of_getElem? (i := 163) (by decide +kernel)
theorem nest_X6_179 : Cond.fieldLinkNest RX6 179 "DeductionDesk$Lemmas" "count" "I" "DeductionDesk" ∈ tables_1 := List.mem_of_getElem? (i := 166) (by decide +kernel)
theorem nest_X1_104 : Cond.fieldLinkNest RX1 104 "DeductionDesk$Text" "length" "I" "DeductionDesk" ∈ tables_1 := List.mem_of_getElem? (i := 233) (by decide +kernel)
theorem nest_X0_67 : Cond.fieldLinkNest RX0 67 "DeductionDesk$Text" "length" "I" "DeductionDesk" ∈ tables_1 := List.mem_of_getElem? (i := 234) (by decide +kernel)
end DESK
