/-! BITS of a set counted -/
def un (v : Int32) : Nat := v.toBitVec.toNat
theorem un_inj {a b : Int32} (h : un a = un b) : a = b := Int32.toBitVec_inj.mp (BitVec.eq_of_toNat_eq h)
theorem un_jv {z : Nat} (h : z < 4294967296) : un (jv z) = z := by
  rw [← jv_nI]
  show (BitVec.ofNat 32 z).toNat = z
  rw [BitVec.toNat_ofNat]
  exact Nat.mod_eq_of_lt h
theorem un_and (a b : Int32) : un (a &&& b) = un a &&& un b := by
  show (a.toBitVec &&& b.toBitVec).toNat = _
  rw [BitVec.toNat_and]
  rfl
theorem un_or (a b : Int32) : un (a ||| b) = un a ||| un b := by
  show (a.toBitVec ||| b.toBitVec).toNat = _
  rw [BitVec.toNat_or]
  rfl
theorem un_add {a b : Int32} (h : un a + un b < 4294967296) : un (a + b) = un a + un b := by
  show (a.toBitVec + b.toBitVec).toNat = _
  rw [BitVec.toNat_add]
  exact Nat.mod_eq_of_lt h
theorem un_sub {a b : Int32} (h : un b ≤ un a) : un (a - b) = un a - un b := by
  have h1 : a.toBitVec.toNat < 2 ^ 32 := a.toBitVec.isLt
  have h2 : b.toBitVec.toNat < 2 ^ 32 := b.toBitVec.isLt
  show (a.toBitVec - b.toBitVec).toNat = _
  rw [BitVec.toNat_sub]
  unfold un at *
  omega
theorem un_shr (a : Int32) (K : UInt32) {k : Nat} (hk : (K % 32).toNat = k) : un ((a.toUInt32 >>> K).toInt32) = un a / 2 ^ k := by
  rw [← hk]
  show (a.toBitVec >>> (K % 32).toBitVec.toNat).toNat = _
  rw [BitVec.toNat_ushiftRight, Nat.shiftRight_eq_div_pow]
  rfl
theorem la2 {a b c d : Nat} (ha : a < 256) (hc : c < 256) : (256 * b + a) &&& (256 * d + c) = 256 * (b &&& d) + (a &&& c) := by
  have hac : a &&& c < 2 ^ 8 := Nat.and_lt_two_pow _ (by omega)
  apply Nat.eq_of_testBit_eq
  intro j
  rw [Nat.testBit_and, show (256 : Nat) = 2 ^ 8 from rfl, Nat.testBit_two_pow_mul_add _ (show a < 2 ^ 8 by omega), Nat.testBit_two_pow_mul_add _ (show c < 2 ^ 8 by omega), Nat.testBit_two_pow_mul_add _ hac]
  by_cases h : j < 8
  · rw [if_pos h, if_pos h, if_pos h, Nat.testBit_and]
  · rw [if_neg h, if_neg h, if_neg h, Nat.testBit_and]
/-- three bytes -/
abbrev b3 (x y z : Nat) : Nat := 256 * (256 * z + y) + x
theorem la3 {x y z m : Nat} (hx : x < 256) (hy : y < 256) (hm : m < 256) : b3 x y z &&& (256 * (256 * (256 * m + m) + m) + m) = b3 (x &&& m) (y &&& m) (z &&& (256 * m + m)) := by
  rw [la2 hx hm, la2 hy hm]
theorem la1 {z m : Nat} (hz : z < 256) (hm : m < 256) : z &&& (256 * m + m) = z &&& m := by
  have := la2 (a := z) (b := 0) (c := m) (d := m) hz hm
  rw [Nat.mul_zero, Nat.zero_add, Nat.zero_and, Nat.mul_zero, Nat.zero_add] at this
  exact this
theorem lm3 {x y z m : Nat} (hx : x < 256) (hy : y < 256) (hz : z < 256) (hm : m < 256) : b3 x y z &&& (256 * (256 * (256 * m + m) + m) + m) = b3 (x &&& m) (y &&& m) (z &&& m) := by
  rw [la3 hx hy hm, la1 hz hm]
def pf1 (b : Nat) : Nat := b - (b / 2 &&& 85)
def pf2 (b : Nat) : Nat := (b &&& 51) + (b / 4 &&& 51)
def pf3 (b : Nat) : Nat := (b + b / 16) % 16
def pc8 (b : Nat) : Nat := b % 2 + b / 2 % 2 + b / 4 % 2 + b / 8 % 2 + b / 16 % 2 + b / 32 % 2 + b / 64 % 2 + b / 128 % 2
theorem by1 : ∀ b, b < 256 → (b / 2 &&& 85) ≤ b ∧ (b / 2 + 128 &&& 85) = (b / 2 &&& 85) ∧ pf1 b < 256 ∧ pf2 (pf1 b) < 256 ∧ (pf1 b &&& 51) + (pf1 b / 4 &&& 51) < 256 ∧ pf3 (pf2 (pf1 b)) = pc8 b ∧ pc8 b ≤ 8 ∧ pf2 (pf1 b) + pf2 (pf1 b) / 16 + 64 < 256 ∧ pf2 (pf1 b) % 16 ≤ 4 := by decide +kernel
theorem by2 : ∀ b, b < 64 → ∀ c, c < 4 → (b + 64 * c &&& 51) = (b &&& 51) := by decide +kernel
theorem by3 : ∀ b, b < 256 → (b &&& 15) = b % 16 := by decide +kernel
theorem pcN {x y z : Nat} (hx : x < 256) (hy : y < 256) (hz : z < 256) (μ : Mm) : sh_J6_bitCount_0f7a4 (jv (b3 x y z : Nat)) μ = some (jv (pc8 x + pc8 y + pc8 z : Nat)) := by
  obtain ⟨x1, x2, x3, x4, x5, x6, x7, x8, x9⟩ := by1 x hx
  obtain ⟨y1, y2, y3, y4, y5, y6, y7, y8, y9⟩ := by1 y hy
  obtain ⟨z1, z2, z3, z4, z5, z6, z7, z8, z9⟩ := by1 z hz
  have m5 : un (1431655765 : Int32) = 256 * (256 * (256 * 85 + 85) + 85) + 85 := by decide +kernel
  have m3 : un (858993459 : Int32) = 256 * (256 * (256 * 51 + 51) + 51) + 51 := by decide +kernel
  have mf : un (252645135 : Int32) = 256 * (256 * (256 * 15 + 15) + 15) + 15 := by decide +kernel
  have m63 : un (63 : Int32) = 63 := by decide +kernel
  have u0 : un (jv (b3 x y z : Nat)) = b3 x y z := un_jv (by unfold b3; omega)
  unfold sh_J6_bitCount_0f7a4
  simp only [nm_eq]
  generalize hv0 : jv (b3 x y z : Nat) = v0 at *
  -- pairs
  have half : ∀ w, w < 256 → ∀ r, (w / 2 + 128 * (r % 2) &&& 85) = (w / 2 &&& 85) := by
    intro w hw r
    rcases Nat.mod_two_eq_zero_or_one r with q | q
    · rw [q, Nat.mul_zero, Nat.add_zero]
    · rw [q, Nat.mul_one]
      exact (by1 w hw).2.1
  have u1 : un (v0 - ((v0.toUInt32 >>> ((1 : Int32).toUInt32 &&& Int32.toUInt32 31)).toInt32 &&& (1431655765 : Int32))) = b3 (pf1 x) (pf1 y) (pf1 z) := by
    have e : un ((v0.toUInt32 >>> ((1 : Int32).toUInt32 &&& Int32.toUInt32 31)).toInt32 &&& (1431655765 : Int32)) = b3 (x / 2 &&& 85) (y / 2 &&& 85) (z / 2 &&& 85) := by
      rw [un_and, un_shr v0 _ (k := 1) (by decide +kernel), u0, m5, show b3 x y z / 2 ^ 1 = b3 (x / 2 + 128 * (y % 2)) (y / 2 + 128 * (z % 2)) (z / 2) by unfold b3; omega, lm3 (by omega) (by omega) (by omega) (by omega), half x hx, half y hy]
    rw [un_sub (by rw [e, u0]; unfold b3; omega), e, u0]
    unfold b3 pf1
    omega
  generalize (v0 - ((v0.toUInt32 >>> ((1 : Int32).toUInt32 &&& Int32.toUInt32 31)).toInt32 &&& (1431655765 : Int32))) = v1 at *
  generalize hx1 : pf1 x = X at *
  generalize hy1 : pf1 y = Y at *
  generalize hz1 : pf1 z = Z at *
  have u2 : un ((v1 &&& (858993459 : Int32)) + ((v1.toUInt32 >>> ((2 : Int32).toUInt32 &&& Int32.toUInt32 31)).toInt32 &&& (858993459 : Int32))) = b3 (pf2 X) (pf2 Y) (pf2 Z) := by
    have e1 : un (v1 &&& (858993459 : Int32)) = b3 (X &&& 51) (Y &&& 51) (Z &&& 51) := by
      rw [un_and, u1, m3, lm3 x3 y3 z3 (by omega)]
    have e2 : un ((v1.toUInt32 >>> ((2 : Int32).toUInt32 &&& Int32.toUInt32 31)).toInt32 &&& (858993459 : Int32)) = b3 (X / 4 &&& 51) (Y / 4 &&& 51) (Z / 4 &&& 51) := by
      rw [un_and, un_shr v1 _ (k := 2) (by decide +kernel), u1, m3, show b3 X Y Z / 2 ^ 2 = b3 (X / 4 + 64 * (Y % 4)) (Y / 4 + 64 * (Z % 4)) (Z / 4) by unfold b3; omega, lm3 (by omega) (by omega) (by omega) (by omega), by2 _ (by omega) _ (by omega), by2 _ (by omega) _ (by omega)]
    rw [un_add (by rw [e1, e2]; unfold b3; omega), e1, e2]
    unfold b3 pf2
    omega
  generalize ((v1 &&& (858993459 : Int32)) + ((v1.toUInt32 >>> ((2 : Int32).toUInt32 &&& Int32.toUInt32 31)).toInt32 &&& (858993459 : Int32))) = v2 at *
  generalize hx2 : pf2 X = X2 at *
  generalize hy2 : pf2 Y = Y2 at *
  generalize hz2 : pf2 Z = Z2 at *
  have u3 : un ((v2 + (v2.toUInt32 >>> ((4 : Int32).toUInt32 &&& Int32.toUInt32 31)).toInt32) &&& (252645135 : Int32)) = b3 (pc8 x) (pc8 y) (pc8 z) := by
    have e2 : un ((v2.toUInt32 >>> ((4 : Int32).toUInt32 &&& Int32.toUInt32 31)).toInt32) = b3 (X2 / 16 + 16 * (Y2 % 16)) (Y2 / 16 + 16 * (Z2 % 16)) (Z2 / 16) := by
      rw [un_shr v2 _ (k := 4) (by decide +kernel), u2]
      unfold b3
      omega
    rw [un_and, un_add (by rw [u2, e2]; unfold b3; omega), u2, e2, mf, show b3 X2 Y2 Z2 + b3 (X2 / 16 + 16 * (Y2 % 16)) (Y2 / 16 + 16 * (Z2 % 16)) (Z2 / 16) = b3 (X2 + X2 / 16 + 16 * (Y2 % 16)) (Y2 + Y2 / 16 + 16 * (Z2 % 16)) (Z2 + Z2 / 16) by unfold b3; omega, lm3 (by omega) (by omega) (by omega) (by omega), by3 _ (by omega), by3 _ (by omega), by3 _ (by omega), ← x6, ← y6, ← z6]
    have q1 : (X2 + X2 / 16 + 16 * (Y2 % 16)) % 16 = (X2 + X2 / 16) % 16 := by omega
    have q2 : (Y2 + Y2 / 16 + 16 * (Z2 % 16)) % 16 = (Y2 + Y2 / 16) % 16 := by omega
    rw [q1, q2]
    rfl
  generalize ((v2 + (v2.toUInt32 >>> ((4 : Int32).toUInt32 &&& Int32.toUInt32 31)).toInt32) &&& (252645135 : Int32)) = v3 at *
  have u4 : un (v3 + (v3.toUInt32 >>> ((8 : Int32).toUInt32 &&& Int32.toUInt32 31)).toInt32) = b3 (pc8 x + pc8 y) (pc8 y + pc8 z) (pc8 z) := by
    have e2 : un ((v3.toUInt32 >>> ((8 : Int32).toUInt32 &&& Int32.toUInt32 31)).toInt32) = b3 (pc8 y) (pc8 z) 0 := by
      rw [un_shr v3 _ (k := 8) (by decide +kernel), u3]
      unfold b3
      omega
    rw [un_add (by rw [u3, e2]; unfold b3; omega), u3, e2]
    unfold b3
    omega
  generalize (v3 + (v3.toUInt32 >>> ((8 : Int32).toUInt32 &&& Int32.toUInt32 31)).toInt32) = v4 at *
  have u5 : un (v4 + (v4.toUInt32 >>> ((16 : Int32).toUInt32 &&& Int32.toUInt32 31)).toInt32) = b3 (pc8 x + pc8 y + pc8 z) (pc8 y + pc8 z) (pc8 z) := by
    have e2 : un ((v4.toUInt32 >>> ((16 : Int32).toUInt32 &&& Int32.toUInt32 31)).toInt32) = pc8 z := by
      rw [un_shr v4 _ (k := 16) (by decide +kernel), u4]
      unfold b3
      omega
    rw [un_add (by rw [u4, e2]; unfold b3; omega), u4, e2]
    unfold b3
    omega
  refine congrArg some (un_inj ?_)
  rw [un_and, u5, m63, un_jv (by omega)]
  have h6 : ∀ b, b < 64 → (b &&& 63) = b := by decide +kernel
  have := la2 (a := pc8 x + pc8 y + pc8 z) (b := 256 * pc8 z + (pc8 y + pc8 z)) (c := 63) (d := 0) (by omega) (by omega)
  rw [h6 (pc8 x + pc8 y + pc8 z) (by omega), Nat.and_zero] at this
  exact this.trans (by omega)
/-- a number's bits -/
def bsm (u : Nat) : Nat → Nat
  | 0 => 0
  | i + 1 => bsm u i + u / 2 ^ i % 2
theorem bsm_hi {u N : Nat} (h : u < 2 ^ N) : ∀ k, bsm u (N + k) = bsm u N := by
  intro k
  induction k with
  | zero => rfl
  | succ k ih =>
    have : u / 2 ^ (N + k) = 0 := Nat.div_eq_of_lt (Nat.lt_of_lt_of_le h (Nat.pow_le_pow_right (by omega) (by omega)))
    show bsm u (N + k) + u / 2 ^ (N + k) % 2 = _
    rw [ih, this]
    rfl
theorem lo8 (a b : Nat) : (256 * a + b) % 2 = b % 2 ∧ (256 * a + b) / 2 % 2 = b / 2 % 2 ∧ (256 * a + b) / 4 % 2 = b / 4 % 2 ∧ (256 * a + b) / 8 % 2 = b / 8 % 2 ∧ (256 * a + b) / 16 % 2 = b / 16 % 2 ∧ (256 * a + b) / 32 % 2 = b / 32 % 2 ∧ (256 * a + b) / 64 % 2 = b / 64 % 2 ∧ (256 * a + b) / 128 % 2 = b / 128 % 2 := ⟨by omega, by omega, by omega, by omega, by omega, by omega, by omega, by omega⟩
theorem bsm24 {x y z : Nat} (hx : x < 256) (hy : y < 256) : bsm (b3 x y z) 24 = pc8 x + pc8 y + pc8 z := by
  have d8 : b3 x y z / 256 = 256 * z + y := by unfold b3; omega
  have d16 : b3 x y z / 65536 = z := by unfold b3; omega
  obtain ⟨a0, a1, a2, a3, a4, a5, a6, a7⟩ := lo8 (256 * z + y) x
  obtain ⟨c0, c1, c2, c3, c4, c5, c6, c7⟩ := lo8 z y
  have t0 : b3 x y z / 1 % 2 = x % 2 := by rw [Nat.div_one]; exact a0
  have t1 : b3 x y z / 2 % 2 = x / 2 % 2 := a1
  have t2 : b3 x y z / 4 % 2 = x / 4 % 2 := a2
  have t3 : b3 x y z / 8 % 2 = x / 8 % 2 := a3
  have t4 : b3 x y z / 16 % 2 = x / 16 % 2 := a4
  have t5 : b3 x y z / 32 % 2 = x / 32 % 2 := a5
  have t6 : b3 x y z / 64 % 2 = x / 64 % 2 := a6
  have t7 : b3 x y z / 128 % 2 = x / 128 % 2 := a7
  have t8 : b3 x y z / 256 % 2 = y % 2 := by rw [d8]; exact c0
  have t9 : b3 x y z / 512 % 2 = y / 2 % 2 := by rw [show 512 = 256 * 2 from rfl, ← Nat.div_div_eq_div_mul, d8]; exact c1
  have t10 : b3 x y z / 1024 % 2 = y / 4 % 2 := by rw [show 1024 = 256 * 4 from rfl, ← Nat.div_div_eq_div_mul, d8]; exact c2
  have t11 : b3 x y z / 2048 % 2 = y / 8 % 2 := by rw [show 2048 = 256 * 8 from rfl, ← Nat.div_div_eq_div_mul, d8]; exact c3
  have t12 : b3 x y z / 4096 % 2 = y / 16 % 2 := by rw [show 4096 = 256 * 16 from rfl, ← Nat.div_div_eq_div_mul, d8]; exact c4
  have t13 : b3 x y z / 8192 % 2 = y / 32 % 2 := by rw [show 8192 = 256 * 32 from rfl, ← Nat.div_div_eq_div_mul, d8]; exact c5
  have t14 : b3 x y z / 16384 % 2 = y / 64 % 2 := by rw [show 16384 = 256 * 64 from rfl, ← Nat.div_div_eq_div_mul, d8]; exact c6
  have t15 : b3 x y z / 32768 % 2 = y / 128 % 2 := by rw [show 32768 = 256 * 128 from rfl, ← Nat.div_div_eq_div_mul, d8]; exact c7
  have t16 : b3 x y z / 65536 % 2 = z % 2 := by rw [d16]
  have t17 : b3 x y z / 131072 % 2 = z / 2 % 2 := by rw [show 131072 = 65536 * 2 from rfl, ← Nat.div_div_eq_div_mul, d16]
  have t18 : b3 x y z / 262144 % 2 = z / 4 % 2 := by rw [show 262144 = 65536 * 4 from rfl, ← Nat.div_div_eq_div_mul, d16]
  have t19 : b3 x y z / 524288 % 2 = z / 8 % 2 := by rw [show 524288 = 65536 * 8 from rfl, ← Nat.div_div_eq_div_mul, d16]
  have t20 : b3 x y z / 1048576 % 2 = z / 16 % 2 := by rw [show 1048576 = 65536 * 16 from rfl, ← Nat.div_div_eq_div_mul, d16]
  have t21 : b3 x y z / 2097152 % 2 = z / 32 % 2 := by rw [show 2097152 = 65536 * 32 from rfl, ← Nat.div_div_eq_div_mul, d16]
  have t22 : b3 x y z / 4194304 % 2 = z / 64 % 2 := by rw [show 4194304 = 65536 * 64 from rfl, ← Nat.div_div_eq_div_mul, d16]
  have t23 : b3 x y z / 8388608 % 2 = z / 128 % 2 := by rw [show 8388608 = 65536 * 128 from rfl, ← Nat.div_div_eq_div_mul, d16]
  simp only [bsm, Nat.reducePow]
  rw [t0, t1, t2, t3, t4, t5, t6, t7, t8, t9, t10, t11, t12, t13, t14, t15, t16, t17, t18, t19, t20, t21, t22, t23]
  simp only [pc8, Nat.add_assoc, Nat.zero_add]
theorem bcnt {u : Nat} (h : u < 16777216) (μ : Mm) : sh_J6_bitCount_0f7a4 (jv u) μ = some (jv (bsm u 24 : Nat)) := by
  have e : u = b3 (u % 256) (u / 256 % 256) (u / 65536) := by unfold b3; omega
  rw [e, pcN (by omega) (by omega) (by omega), bsm24 (by omega) (by omega)]
