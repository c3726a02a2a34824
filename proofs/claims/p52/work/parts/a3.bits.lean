/-! BITS: the number of ones in a word -/
theorem and_split {n : Nat} (a m : Nat) {b k : Nat} (hb : b < 2 ^ n) (hk : k < 2 ^ n) : (2 ^ n * a + b) &&& (2 ^ n * m + k) = 2 ^ n * (a &&& m) + (b &&& k) := by
  apply Nat.eq_of_testBit_eq
  intro j
  have hbk : b &&& k < 2 ^ n := Nat.and_lt_two_pow _ hk
  rw [Nat.testBit_and, Nat.testBit_two_pow_mul_add _ hb, Nat.testBit_two_pow_mul_add _ hk, Nat.testBit_two_pow_mul_add _ hbk]
  by_cases h : j < n
  · rw [if_pos h, if_pos h, if_pos h, Nat.testBit_and]
  · rw [if_neg h, if_neg h, if_neg h, Nat.testBit_and]
theorem and4 (a m b : Nat) (hb : b < 4) : (4 * a + b) &&& (4 * m + 1) = 4 * (a &&& m) + b % 2 := by
  have := and_split (n := 2) a m (b := b) (k := 1) hb (by decide)
  rw [Nat.and_one_is_mod] at this
  exact this
theorem and16 (a m b : Nat) (hb : b < 16) : (16 * a + b) &&& (16 * m + 3) = 16 * (a &&& m) + b % 4 := by
  have := and_split (n := 4) a m (b := b) (k := 3) hb (by decide)
  rw [show (3 : Nat) = 2 ^ 2 - 1 from rfl, Nat.and_two_pow_sub_one_eq_mod] at this
  exact this
theorem and256 (a m b : Nat) (hb : b < 256) : (256 * a + b) &&& (256 * m + 15) = 256 * (a &&& m) + b % 16 := by
  have := and_split (n := 8) a m (b := b) (k := 15) hb (by decide)
  rw [show (15 : Nat) = 2 ^ 4 - 1 from rfl, Nat.and_two_pow_sub_one_eq_mod] at this
  exact this
def bM1 : Nat → Nat
  | 0 => 0
  | n + 1 => 4 * bM1 n + 1
def bM2 : Nat → Nat
  | 0 => 0
  | n + 1 => 16 * bM2 n + 3
def bM3 : Nat → Nat
  | 0 => 0
  | n + 1 => 256 * bM3 n + 15
def bS1 : Nat → Nat → Nat
  | 0, _ => 0
  | n + 1, x => 4 * bS1 n (x / 4) + (x % 2 + x / 2 % 2)
def bS2 : Nat → Nat → Nat
  | 0, _ => 0
  | n + 1, x => 16 * bS2 n (x / 16) + (x % 4 + x / 4 % 4)
def bS3 : Nat → Nat → Nat
  | 0, _ => 0
  | n + 1, x => 256 * bS3 n (x / 256) + (x % 16 + x / 16 % 16)
def bNb : Nat → Nat → Prop
  | 0, _ => True
  | n + 1, z => z % 16 ≤ 4 ∧ z / 16 % 16 ≤ 4 ∧ bNb n (z / 256)
theorem bs1_ok : ∀ n x, x < 4 ^ n → (x / 2 &&& bM1 n) + bS1 n x = x
  | 0, x, h => by
    have h0 : x = 0 := by rw [Nat.pow_zero] at h; omega
    subst h0; rfl
  | n + 1, x, h => by
    have h4 : x / 4 < 4 ^ n := by rw [Nat.pow_succ] at h; omega
    have ih := bs1_ok n (x / 4) h4
    have k := and4 (x / 4 / 2) (bM1 n) (2 * (x / 4 % 2) + x / 2 % 2) (by omega)
    rw [show 4 * (x / 4 / 2) + (2 * (x / 4 % 2) + x / 2 % 2) = x / 2 by omega] at k
    show (x / 2 &&& (4 * bM1 n + 1)) + (4 * bS1 n (x / 4) + (x % 2 + x / 2 % 2)) = x
    rw [k]
    generalize (x / 4 / 2 &&& bM1 n) = p at *
    generalize bS1 n (x / 4) = q at *
    omega
theorem bs2_ok : ∀ n z, z < 16 ^ n → (z &&& bM2 n) + (z / 4 &&& bM2 n) = bS2 n z
  | 0, z, h => by
    have h0 : z = 0 := by rw [Nat.pow_zero] at h; omega
    subst h0; rfl
  | n + 1, z, h => by
    have h4 : z / 16 < 16 ^ n := by rw [Nat.pow_succ] at h; omega
    have ih := bs2_ok n (z / 16) h4
    have k1 := and16 (z / 16) (bM2 n) (z % 16) (by omega)
    have k2 := and16 (z / 16 / 4) (bM2 n) (4 * (z / 16 % 4) + z / 4 % 4) (by omega)
    rw [show 16 * (z / 16) + z % 16 = z by omega] at k1
    rw [show 16 * (z / 16 / 4) + (4 * (z / 16 % 4) + z / 4 % 4) = z / 4 by omega] at k2
    show (z &&& (16 * bM2 n + 3)) + (z / 4 &&& (16 * bM2 n + 3)) = 16 * bS2 n (z / 16) + (z % 4 + z / 4 % 4)
    rw [k1, k2]
    generalize (z / 16 &&& bM2 n) = p at *
    generalize (z / 16 / 4 &&& bM2 n) = p' at *
    generalize bS2 n (z / 16) = q at *
    omega
theorem bs3_ok : ∀ n z, z < 256 ^ n → bNb n z → ((z + z / 16) &&& bM3 n) = bS3 n z
  | 0, z, h, _ => by
    have h0 : z = 0 := by rw [Nat.pow_zero] at h; omega
    subst h0; rfl
  | n + 1, z, h, hb => by
    obtain ⟨b1, b2, b3⟩ := hb
    have h4 : z / 256 < 256 ^ n := by rw [Nat.pow_succ] at h; omega
    have ih := bs3_ok n (z / 256) h4 b3
    have b4 : z / 256 % 16 ≤ 4 := by
      cases n with
      | zero => rw [Nat.pow_zero] at h4; omega
      | succ n => exact b3.1
    have k := and256 (z / 256 + z / 256 / 16) (bM3 n) (z % 256 + 16 * (z / 256 % 16) + z % 256 / 16) (by omega)
    rw [show 256 * (z / 256 + z / 256 / 16) + (z % 256 + 16 * (z / 256 % 16) + z % 256 / 16) = z + z / 16 by omega] at k
    show ((z + z / 16) &&& (256 * bM3 n + 15)) = 256 * bS3 n (z / 256) + (z % 16 + z / 16 % 16)
    rw [k, ih]
    omega
def bu (x : Nat) : Nat := x % 2 + x / 2 % 2 + (x / 4 % 2 + x / 8 % 2)
def bU : Nat → Nat → Nat
  | 0, _ => 0
  | n + 1, x => 16 * bU n (x / 16) + bu x
def bV : Nat → Nat → Nat
  | 0, _ => 0
  | n + 1, x => 256 * bV n (x / 256) + (bu x + bu (x / 16))
theorem bu_le (x : Nat) : bu x ≤ 4 := by unfold bu; omega
theorem bs21 : ∀ n x, bS2 n (bS1 (2 * n) x) = bU n x
  | 0, _ => rfl
  | n + 1, x => by
    have ih := bs21 n (x / 16)
    have e : bS1 (2 * (n + 1)) x = 4 * (4 * bS1 (2 * n) (x / 4 / 4) + (x / 4 % 2 + x / 4 / 2 % 2)) + (x % 2 + x / 2 % 2) := rfl
    rw [Nat.div_div_eq_div_mul x 4 4, show 4 * 4 = 16 from rfl] at e
    rw [e]
    show 16 * bS2 n ((4 * (4 * bS1 (2 * n) (x / 16) + (x / 4 % 2 + x / 4 / 2 % 2)) + (x % 2 + x / 2 % 2)) / 16) + ((4 * (4 * bS1 (2 * n) (x / 16) + (x / 4 % 2 + x / 4 / 2 % 2)) + (x % 2 + x / 2 % 2)) % 4 + (4 * (4 * bS1 (2 * n) (x / 16) + (x / 4 % 2 + x / 4 / 2 % 2)) + (x % 2 + x / 2 % 2)) / 4 % 4) = 16 * bU n (x / 16) + bu x
    generalize bS1 (2 * n) (x / 16) = t at *
    rw [show (4 * (4 * t + (x / 4 % 2 + x / 4 / 2 % 2)) + (x % 2 + x / 2 % 2)) / 16 = t by omega, ih]
    unfold bu
    omega
theorem bs3u : ∀ n x, bS3 n (bU (2 * n) x) = bV n x ∧ bNb n (bU (2 * n) x)
  | 0, _ => ⟨rfl, trivial⟩
  | n + 1, x => by
    obtain ⟨ih1, ih2⟩ := bs3u n (x / 256)
    have e : bU (2 * (n + 1)) x = 16 * (16 * bU (2 * n) (x / 16 / 16) + bu (x / 16)) + bu x := rfl
    rw [Nat.div_div_eq_div_mul x 16 16, show 16 * 16 = 256 from rfl] at e
    have h1 := bu_le x
    have h2 := bu_le (x / 16)
    rw [e]
    generalize bU (2 * n) (x / 256) = t at *
    have e1 : (16 * (16 * t + bu (x / 16)) + bu x) / 256 = t := by omega
    refine ⟨?_, ?_, ?_, ?_⟩
    · show 256 * bS3 n ((16 * (16 * t + bu (x / 16)) + bu x) / 256) + ((16 * (16 * t + bu (x / 16)) + bu x) % 16 + (16 * (16 * t + bu (x / 16)) + bu x) / 16 % 16) = 256 * bV n (x / 256) + (bu x + bu (x / 16))
      rw [e1, ih1]
      omega
    · omega
    · omega
    · rw [e1]; exact ih2
theorem bU_lt : ∀ n x, bU n x < 16 ^ n
  | 0, _ => Nat.one_pos
  | n + 1, x => by
    have ih := bU_lt n (x / 16)
    have := bu_le x
    show 16 * bU n (x / 16) + bu x < 16 ^ (n + 1)
    rw [Nat.pow_succ]
    omega
theorem bS1_lt : ∀ n x, bS1 n x < 4 ^ n
  | 0, _ => Nat.one_pos
  | n + 1, x => by
    have ih := bS1_lt n (x / 4)
    show 4 * bS1 n (x / 4) + (x % 2 + x / 2 % 2) < 4 ^ (n + 1)
    rw [Nat.pow_succ]
    omega
/-- the number of ones below bit k -/
def bN : Nat → Nat → Nat
  | 0, _ => 0
  | k + 1, x => bN k x + x / 2 ^ k % 2
theorem bV_sum (x : Nat) : bV 4 x = 16777216 * (bu (x / 16777216) + bu (x / 268435456)) + (65536 * (bu (x / 65536) + bu (x / 1048576)) + (256 * (bu (x / 256) + bu (x / 4096)) + (bu x + bu (x / 16)))) := by
  show 256 * (256 * (256 * (256 * 0 + (bu (x / 256 / 256 / 256) + bu (x / 256 / 256 / 256 / 16))) + (bu (x / 256 / 256) + bu (x / 256 / 256 / 16))) + (bu (x / 256) + bu (x / 256 / 16))) + (bu x + bu (x / 16)) = _
  simp only [Nat.div_div_eq_div_mul, Nat.reduceMul]
  omega
theorem bN_sum (x : Nat) : bN 32 x = bu x + bu (x / 16) + (bu (x / 256) + bu (x / 4096)) + (bu (x / 65536) + bu (x / 1048576)) + (bu (x / 16777216) + bu (x / 268435456)) := by
  simp only [bN, bu, Nat.div_div_eq_div_mul, Nat.reduceMul, Nat.reducePow, Nat.div_one]
  omega
def bcN (x : Nat) : Nat :=
  let y := x - (x / 2 &&& 1431655765)
  let z := (y &&& 858993459) + (y / 4 &&& 858993459)
  let u := (z + z / 16) &&& 252645135
  let v := u + u / 256
  let w := v + v / 65536
  w % 64
theorem bcN_ok (x : Nat) (hx : x < 4294967296) : bcN x = bN 32 x := by
  have e1 : x - (x / 2 &&& 1431655765) = bS1 16 x := by
    have := bs1_ok 16 x hx
    rw [show bM1 16 = 1431655765 from rfl] at this
    omega
  have e2 : (bS1 16 x &&& 858993459) + (bS1 16 x / 4 &&& 858993459) = bU 8 x := by
    have := bs2_ok 8 (bS1 16 x) (Nat.lt_of_lt_of_le (bS1_lt 16 x) (by decide))
    rw [show bM2 8 = 858993459 from rfl, bs21 8 x] at this
    exact this
  have e3 : (bU 8 x + bU 8 x / 16) &&& 252645135 = bV 4 x := by
    have := bs3_ok 4 (bU 8 x) (Nat.lt_of_lt_of_le (bU_lt 8 x) (by decide)) (bs3u 4 x).2
    rw [show bM3 4 = 252645135 from rfl, (bs3u 4 x).1] at this
    exact this
  unfold bcN
  dsimp only
  rw [e1, e2, e3, bV_sum, bN_sum]
  have h1 := bu_le x
  have h2 := bu_le (x / 16)
  have h3 := bu_le (x / 256)
  have h4 := bu_le (x / 4096)
  have h5 := bu_le (x / 65536)
  have h6 := bu_le (x / 1048576)
  have h7 := bu_le (x / 16777216)
  have h8 := bu_le (x / 268435456)
  generalize bu x = c1 at *
  generalize bu (x / 16) = c2 at *
  generalize bu (x / 256) = c3 at *
  generalize bu (x / 4096) = c4 at *
  generalize bu (x / 65536) = c5 at *
  generalize bu (x / 1048576) = c6 at *
  generalize bu (x / 16777216) = c7 at *
  generalize bu (x / 268435456) = c8 at *
  obtain ⟨w0, hw0⟩ : ∃ w, w = c1 + c2 := ⟨_, rfl⟩
  obtain ⟨w1, hw1⟩ : ∃ w, w = c3 + c4 := ⟨_, rfl⟩
  obtain ⟨w2, hw2⟩ : ∃ w, w = c5 + c6 := ⟨_, rfl⟩
  obtain ⟨w3, hw3⟩ : ∃ w, w = c7 + c8 := ⟨_, rfl⟩
  rw [← hw0, ← hw1, ← hw2, ← hw3]
  have b0 : w0 ≤ 8 := by omega
  have b1 : w1 ≤ 8 := by omega
  have b2 : w2 ≤ 8 := by omega
  have b3 : w3 ≤ 8 := by omega
  clear e1 e2 e3 hx h1 h2 h3 h4 h5 h6 h7 h8 hw0 hw1 hw2 hw3
  have d1 : (16777216 * w3 + (65536 * w2 + (256 * w1 + w0))) / 256 = 65536 * w3 + 256 * w2 + w1 := by omega
  rw [d1]
  have d2 : (16777216 * w3 + (65536 * w2 + (256 * w1 + w0)) + (65536 * w3 + 256 * w2 + w1)) / 65536 = 257 * w3 + w2 := by omega
  rw [d2]
  have d3 : 16777216 * w3 + (65536 * w2 + (256 * w1 + w0)) + (65536 * w3 + 256 * w2 + w1) + (257 * w3 + w2) = 64 * (262144 * w3 + 1024 * w3 + 4 * w3 + 1024 * w2 + 4 * w2 + 4 * w1) + (w0 + w1 + w2 + w3) := by omega
  rw [d3, Nat.mul_add_mod]
  exact Nat.mod_eq_of_lt (by omega)
theorem sh_n (a k : Int32) (j : Nat) (h : (k.toUInt32 &&& Int32.toUInt32 31).toNat % 32 = j) : ((a.toUInt32 >>> (k.toUInt32 &&& Int32.toUInt32 31)).toInt32).toBitVec.toNat = a.toBitVec.toNat / 2 ^ j := by
  show (a.toUInt32 >>> (k.toUInt32 &&& Int32.toUInt32 31)).toNat = _
  rw [UInt32.toNat_shiftRight, h, Nat.shiftRight_eq_div_pow]
  rfl
theorem and_n (a b : Int32) (c : Nat) (h : b.toBitVec.toNat = c) : (a &&& b).toBitVec.toNat = a.toBitVec.toNat &&& c := by
  rw [Int32.toBitVec_and, BitVec.toNat_and, h]
theorem add_n (a b : Int32) (h : a.toBitVec.toNat + b.toBitVec.toNat < 4294967296) : (a + b).toBitVec.toNat = a.toBitVec.toNat + b.toBitVec.toNat := by
  rw [Int32.toBitVec_add, BitVec.toNat_add]
  exact Nat.mod_eq_of_lt h
theorem bc_ok (a : Int32) : F_J6_bitCount_0f7a4 a = nI (bN 32 a.toBitVec.toNat) := by
  have hx : a.toBitVec.toNat < 4294967296 := a.toBitVec.isLt
  have hle : ∀ p q : Nat, p &&& q ≤ q := fun p q => Nat.and_le_right
  rw [← bcN_ok _ hx]
  unfold F_J6_bitCount_0f7a4 bcN
  simp only [lt_def]
  generalize hy : a - ((a.toUInt32 >>> ((1 : Int32).toUInt32 &&& Int32.toUInt32 31)).toInt32 &&& (1431655765 : Int32)) = y
  have ey : y.toBitVec.toNat = a.toBitVec.toNat - (a.toBitVec.toNat / 2 &&& 1431655765) := by
    have e := and_n (a.toUInt32 >>> ((1 : Int32).toUInt32 &&& Int32.toUInt32 31)).toInt32 1431655765 1431655765 (by decide)
    rw [sh_n a 1 1 (by decide)] at e
    have hl : (a.toBitVec.toNat / 2 &&& 1431655765) ≤ a.toBitVec.toNat / 2 := Nat.and_le_left
    rw [← hy, Int32.toBitVec_sub, BitVec.toNat_sub_of_le, e]
    rw [BitVec.le_def, e]
    show (a.toBitVec.toNat / 2 &&& 1431655765) ≤ _
    omega
  rw [← ey]
  generalize hz : (y &&& (858993459 : Int32)) + ((y.toUInt32 >>> ((2 : Int32).toUInt32 &&& Int32.toUInt32 31)).toInt32 &&& (858993459 : Int32)) = z
  have ez : z.toBitVec.toNat = (y.toBitVec.toNat &&& 858993459) + (y.toBitVec.toNat / 4 &&& 858993459) := by
    have e1 := and_n y 858993459 858993459 (by decide)
    have e2 := and_n (y.toUInt32 >>> ((2 : Int32).toUInt32 &&& Int32.toUInt32 31)).toInt32 858993459 858993459 (by decide)
    rw [sh_n y 2 2 (by decide)] at e2
    have h1 := hle y.toBitVec.toNat 858993459
    have h2 := hle (y.toBitVec.toNat / 2 ^ 2) 858993459
    rw [← hz, add_n _ _ (by rw [e1, e2]; omega), e1, e2]
  rw [← ez]
  have hz2 : z.toBitVec.toNat ≤ 1717986918 := by
    have h1 := hle y.toBitVec.toNat 858993459
    have h2 := hle (y.toBitVec.toNat / 4) 858993459
    omega
  generalize hu : (z + (z.toUInt32 >>> ((4 : Int32).toUInt32 &&& Int32.toUInt32 31)).toInt32) &&& (252645135 : Int32) = u
  have eu : u.toBitVec.toNat = (z.toBitVec.toNat + z.toBitVec.toNat / 16) &&& 252645135 := by
    have e2 := sh_n z 4 4 (by decide)
    rw [← hu, and_n _ 252645135 252645135 (by decide), add_n _ _ (by rw [e2]; omega), e2]
  rw [← eu]
  have hu2 : u.toBitVec.toNat ≤ 252645135 := by
    have h1 := hle (z.toBitVec.toNat + z.toBitVec.toNat / 16) 252645135
    omega
  generalize hv : u + (u.toUInt32 >>> ((8 : Int32).toUInt32 &&& Int32.toUInt32 31)).toInt32 = v
  have ev : v.toBitVec.toNat = u.toBitVec.toNat + u.toBitVec.toNat / 256 := by
    have e2 := sh_n u 8 8 (by decide)
    rw [← hv, add_n _ _ (by rw [e2]; omega), e2]
  rw [← ev]
  generalize hw : v + (v.toUInt32 >>> ((16 : Int32).toUInt32 &&& Int32.toUInt32 31)).toInt32 = w
  have ew : w.toBitVec.toNat = v.toBitVec.toNat + v.toBitVec.toNat / 65536 := by
    have e2 := sh_n v 16 16 (by decide)
    rw [← hw, add_n _ _ (by rw [e2]; omega), e2]
  rw [← ew]
  apply Int32.toBitVec_inj.mp
  apply BitVec.eq_of_toNat_eq
  show _ = (Int32.ofNat _).toBitVec.toNat
  rw [and_n _ 63 63 (by decide), show (63 : Nat) = 2 ^ 6 - 1 from rfl, Nat.and_two_pow_sub_one_eq_mod, Int32.toBitVec_ofNat', BitVec.toNat_ofNat]
  omega
