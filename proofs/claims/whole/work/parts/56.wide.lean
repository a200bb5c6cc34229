/-! WIDE: 128 bits -/
/-- the bits of a long as a number from 0 -/
def U6 (a : Int64) : Nat := a.toBitVec.toNat
theorem U6_lt (a : Int64) : U6 a < 18446744073709551616 := a.toBitVec.isLt
theorem U6_int (a : Int64) : a.toInt = if U6 a < 9223372036854775808 then (U6 a : Int) else (U6 a : Int) - 18446744073709551616 := by
  show a.toBitVec.toInt = _
  rw [BitVec.toInt_eq_toNat_cond]
  unfold U6
  split <;> split <;> omega
theorem U6_of {a : Int64} (h : 0 ≤ a.toInt) : (U6 a : Int) = a.toInt := by
  have h1 := U6_int a
  have h2 := U6_lt a
  split at h1 <;> omega
theorem shr32 (a : Int64) : (a >>> (Int32.toInt64 32 &&& 63)).toInt = a.toInt / 4294967296 := by
  rw [show (Int32.toInt64 32 &&& 63) = (32 : Int64) by decide]
  show (a >>> (32 : Int64)).toBitVec.toInt = _
  rw [Int64.toBitVec_shiftRight]
  rw [show BitVec.smod (Int64.toBitVec 32) 64 = 32#64 by decide]
  show (BitVec.sshiftRight a.toBitVec (32#64).toNat).toInt = _
  rw [BitVec.toInt_sshiftRight, Int.shiftRight_eq_div_pow]
  rfl
theorem and_low (a : Int64) : (a &&& 4294967295).toInt = a.toInt % 4294967296 := by
  have e : U6 (a &&& 4294967295) = U6 a % 4294967296 := by
    unfold U6
    rw [Int64.toBitVec_and, BitVec.toNat_and]
    exact Nat.and_two_pow_sub_one_eq_mod (a.toBitVec.toNat) 32
  have h1 := U6_int (a &&& 4294967295)
  have h2 := U6_int a
  rw [e] at h1
  rw [if_pos (by omega)] at h1
  rw [h1, h2]
  split <;> omega
theorem ushr32 (a : Int64) : (UInt64.toInt64 (Int64.toUInt64 a >>> (Int64.toUInt64 (Int32.toInt64 32) &&& Int64.toUInt64 63))).toInt = (U6 a / 4294967296 : Nat) := by
  rw [show (Int64.toUInt64 (Int32.toInt64 32) &&& Int64.toUInt64 63) = (32 : UInt64) by decide]
  have e : U6 (UInt64.toInt64 (Int64.toUInt64 a >>> 32)) = U6 a / 4294967296 := by
    show (Int64.toUInt64 a >>> 32).toNat = _
    rw [UInt64.toNat_shiftRight, show (32 : UInt64).toNat % 64 = 32 by decide, Nat.shiftRight_eq_div_pow]
    rfl
  have h1 := U6_int (UInt64.toInt64 (Int64.toUInt64 a >>> 32))
  have h2 := U6_lt a
  rw [e, if_pos (by omega)] at h1
  exact h1
theorem U6_add (a b : Int64) : U6 (a + b) = (U6 a + U6 b) % 18446744073709551616 := by
  unfold U6
  rw [Int64.toBitVec_add, BitVec.toNat_add]
theorem U6_mul (a b : Int64) : U6 (a * b) = (U6 a * U6 b) % 18446744073709551616 := by
  unfold U6
  rw [Int64.toBitVec_mul, BitVec.toNat_mul]
theorem U6_mod (a : Int64) : (U6 a : Int) = a.toInt % 18446744073709551616 := by
  have h1 := U6_int a
  have h2 := U6_lt a
  split at h1 <;> omega
theorem carry63 (x y z : Int64) (hz : z = x + y) : (UInt64.toInt64 (Int64.toUInt64 ((x &&& y) ||| ((x ||| y) &&& (z ^^^ (-1)))) >>> (Int64.toUInt64 (Int32.toInt64 63) &&& Int64.toUInt64 63))).toInt = ((U6 x + U6 y) / 18446744073709551616 : Nat) := by
  rw [show (Int64.toUInt64 (Int32.toInt64 63) &&& Int64.toUInt64 63) = (63 : UInt64) by decide]
  generalize hw : ((x &&& y) ||| ((x ||| y) &&& (z ^^^ (-1)))) = w
  have e : U6 (UInt64.toInt64 (Int64.toUInt64 w >>> 63)) = U6 w / 9223372036854775808 := by
    show (Int64.toUInt64 w >>> 63).toNat = _
    rw [UInt64.toNat_shiftRight, show (63 : UInt64).toNat % 64 = 63 by decide, Nat.shiftRight_eq_div_pow]
    rfl
  have h1 := U6_int (UInt64.toInt64 (Int64.toUInt64 w >>> 63))
  have hwl := U6_lt w
  rw [e, if_pos (by omega)] at h1
  rw [h1]
  have hm : w.toBitVec.msb = ((x.toBitVec.msb && y.toBitVec.msb) || ((x.toBitVec.msb || y.toBitVec.msb) && !z.toBitVec.msb)) := by
    rw [← hw, Int64.toBitVec_or, Int64.toBitVec_and, Int64.toBitVec_and, Int64.toBitVec_or, Int64.toBitVec_xor, BitVec.msb_or, BitVec.msb_and, BitVec.msb_and, BitVec.msb_or, BitVec.msb_xor]
    have : (-1 : Int64).toBitVec.msb = true := by decide
    rw [this]
    cases x.toBitVec.msb <;> cases y.toBitVec.msb <;> cases z.toBitVec.msb <;> rfl
  have md : ∀ v : Int64, v.toBitVec.msb = decide (9223372036854775808 ≤ U6 v) := fun v => by
    rw [BitVec.msb_eq_decide]
    rfl
  rw [md, md, md, md] at hm
  have hx := U6_lt x
  have hy := U6_lt y
  have hzz : U6 z = (U6 x + U6 y) % 18446744073709551616 := by rw [hz, U6_add]
  have key : U6 w / 9223372036854775808 = (U6 x + U6 y) / 18446744073709551616 := by
    by_cases c1 : 9223372036854775808 ≤ U6 x <;> by_cases c2 : 9223372036854775808 ≤ U6 y <;> by_cases c3 : 9223372036854775808 ≤ U6 z <;> by_cases c4 : 9223372036854775808 ≤ U6 w <;> simp [c1, c2, c3, c4] at hm <;> omega
  rw [key]
/-- what a high and a low long say together -/
def v128 (h l : Int64) : Int := h.toInt * 18446744073709551616 + (U6 l : Int)
theorem wide_add {a b h l : Int64} (h1 : -170141183460469231731687303715884105728 ≤ v128 h l + a.toInt * b.toInt) (h2 : v128 h l + a.toInt * b.toInt < 170141183460469231731687303715884105728)
    {ah al bh bl fi se ph pl su ca : Int64} (eah : ah.toInt = a.toInt / 4294967296) (eal : al.toInt = a.toInt % 4294967296) (ebh : bh.toInt = b.toInt / 4294967296) (ebl : bl.toInt = b.toInt % 4294967296)
    {lo : Int64} (elo : lo.toInt = (U6 (al * bl) / 4294967296 : Nat)) (efi : fi = ah * bl + lo) (ese : se = al * bh + (fi &&& 4294967295))
    {f1 s1 : Int64} (ef1 : f1.toInt = fi.toInt / 4294967296) (es1 : s1.toInt = se.toInt / 4294967296) (eph : ph = ah * bh + f1 + s1) (epl : pl = a * b) (esu : su = l + pl) (eca : ca.toInt = ((U6 l + U6 pl) / 18446744073709551616 : Nat)) :
    v128 (h + ph + ca) su = v128 h l + a.toInt * b.toInt := by
  have ra1 := a.le_toInt
  have ra2 := a.toInt_lt
  have rb1 := b.le_toInt
  have rb2 := b.toInt_lt
  -- the four halves
  have qa : a.toInt = 4294967296 * ah.toInt + al.toInt := by omega
  have qb : b.toInt = 4294967296 * bh.toInt + bl.toInt := by omega
  have ah1 : -2147483648 ≤ ah.toInt ∧ ah.toInt ≤ 2147483647 := by omega
  have bh1 : -2147483648 ≤ bh.toInt ∧ bh.toInt ≤ 2147483647 := by omega
  have al1 : 0 ≤ al.toInt ∧ al.toInt ≤ 4294967295 := by omega
  have bl1 : 0 ≤ bl.toInt ∧ bl.toInt ≤ 4294967295 := by omega
  have m0 : 0 ≤ al.toInt * bl.toInt ∧ al.toInt * bl.toInt ≤ 4294967295 * 4294967295 := ⟨Int.mul_nonneg al1.1 bl1.1, Int.mul_le_mul al1.2 bl1.2 bl1.1 (by decide)⟩
  have ul : (U6 (al * bl) : Int) = al.toInt * bl.toInt := by
    rw [U6_mul]
    have e1 := U6_of al1.1
    have e2 := U6_of bl1.1
    have e3 : ((U6 al * U6 bl : Nat) : Int) = al.toInt * bl.toInt := by rw [Int.natCast_mul, e1, e2]
    omega
  have lo1 : lo.toInt = al.toInt * bl.toInt / 4294967296 := by rw [elo, ← ul]; omega
  have m1 : -(2147483648 * 4294967295) ≤ ah.toInt * bl.toInt ∧ ah.toInt * bl.toInt ≤ 2147483647 * 4294967295 := by
    constructor
    · have := Int.mul_le_mul_of_nonneg_right ah1.1 bl1.1
      have q := Int.mul_le_mul_of_nonneg_left bl1.2 (show (0 : Int) ≤ 2147483648 by decide)
      rw [Int.neg_mul] at this
      omega
    · have := Int.mul_le_mul_of_nonneg_right ah1.2 bl1.1
      have q := Int.mul_le_mul_of_nonneg_left bl1.2 (show (0 : Int) ≤ 2147483647 by decide)
      omega
  have m2 : -(2147483648 * 4294967295) ≤ al.toInt * bh.toInt ∧ al.toInt * bh.toInt ≤ 2147483647 * 4294967295 := by
    rw [Int.mul_comm al.toInt bh.toInt]
    constructor
    · have := Int.mul_le_mul_of_nonneg_right bh1.1 al1.1
      have q := Int.mul_le_mul_of_nonneg_left al1.2 (show (0 : Int) ≤ 2147483648 by decide)
      rw [Int.neg_mul] at this
      omega
    · have := Int.mul_le_mul_of_nonneg_right bh1.2 al1.1
      have q := Int.mul_le_mul_of_nonneg_left al1.2 (show (0 : Int) ≤ 2147483647 by decide)
      omega
  have b64 : ∀ {z : Int}, -9223372036854775808 ≤ z → z ≤ 9223372036854775807 → z.bmod (2 ^ 64) = z := fun p q => Int.bmod_eq_of_le (by omega) (by omega)
  have ahbl : (ah * bl).toInt = ah.toInt * bl.toInt := by rw [Int64.toInt_mul, b64 (by omega) (by omega)]
  have albh : (al * bh).toInt = al.toInt * bh.toInt := by rw [Int64.toInt_mul, b64 (by omega) (by omega)]
  have fi1 : fi.toInt = ah.toInt * bl.toInt + lo.toInt := by
    rw [efi, Int64.toInt_add, ahbl, b64 (by omega) (by omega)]
  have flow : (fi &&& 4294967295).toInt = fi.toInt % 4294967296 := and_low fi
  have se1 : se.toInt = al.toInt * bh.toInt + fi.toInt % 4294967296 := by
    rw [ese, Int64.toInt_add, albh, flow, b64 (by omega) (by omega)]
  have m3 : -4611686018427387904 ≤ ah.toInt * bh.toInt ∧ ah.toInt * bh.toInt ≤ 4611686018427387904 := by
    have q1 : 0 ≤ (2147483648 - ah.toInt) * (2147483648 - bh.toInt) := Int.mul_nonneg (by omega) (by omega)
    have q2 : 0 ≤ (2147483648 + ah.toInt) * (2147483648 + bh.toInt) := Int.mul_nonneg (by omega) (by omega)
    have q3 : 0 ≤ (2147483648 - ah.toInt) * (2147483648 + bh.toInt) := Int.mul_nonneg (by omega) (by omega)
    have q4 : 0 ≤ (2147483648 + ah.toInt) * (2147483648 - bh.toInt) := Int.mul_nonneg (by omega) (by omega)
    constructor <;> grind
  have ahbh : (ah * bh).toInt = ah.toInt * bh.toInt := by rw [Int64.toInt_mul, b64 (by omega) (by omega)]
  have ph1 : ph.toInt = ah.toInt * bh.toInt + f1.toInt + s1.toInt := by
    have e1 : (ah * bh + f1).toInt = ah.toInt * bh.toInt + f1.toInt := by rw [Int64.toInt_add, ahbh, b64 (by omega) (by omega)]
    rw [eph, Int64.toInt_add, e1, b64 (by omega) (by omega)]
  -- the whole product
  have prod : a.toInt * b.toInt = 18446744073709551616 * (ah.toInt * bh.toInt) + 4294967296 * (ah.toInt * bl.toInt) + 4294967296 * (al.toInt * bh.toInt) + al.toInt * bl.toInt := by
    rw [qa, qb]
    grind
  generalize hX : a.toInt * b.toInt = X at *
  have pl1 : (U6 pl : Int) = X % 18446744073709551616 := by
    rw [U6_mod, epl, Int64.toInt_mul, hX]
    exact Int.bmod_emod (x := X) (m := 18446744073709551616)
  have low : X = 18446744073709551616 * ph.toInt + (U6 pl : Int) := by omega
  have su1 : (U6 su : Int) = ((U6 l : Int) + U6 pl) % 18446744073709551616 := by
    rw [esu, U6_add]
    omega
  have hsum : h.toInt + ph.toInt + ca.toInt = (v128 h l + X) / 18446744073709551616 := by
    unfold v128
    omega
  have rng : -9223372036854775808 ≤ h.toInt + ph.toInt + ca.toInt ∧ h.toInt + ph.toInt + ca.toInt ≤ 9223372036854775807 := by
    rw [hsum]
    omega
  have hh : (h + ph + ca).toInt = h.toInt + ph.toInt + ca.toInt := by
    rw [Int64.toInt_add, Int64.toInt_add]
    have e : ((h.toInt + ph.toInt).bmod (2 ^ 64) + ca.toInt).bmod (2 ^ 64) = (h.toInt + ph.toInt + ca.toInt).bmod (2 ^ 64) := Int.bmod_add_bmod
    rw [e, b64 rng.1 rng.2]
  unfold v128 at *
  rw [hh]
  omega
