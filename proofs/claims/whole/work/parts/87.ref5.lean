/-! THE REFERENCE'S SIDE, 5: the test of a circle, in five limbs -/
theorem shr21 (a : Int64) : (a >>> (Int32.toInt64 21 &&& 63)).toInt = a.toInt / 2097152 := by
  rw [show (Int32.toInt64 21 &&& 63) = (21 : Int64) by decide]
  show (a >>> (21 : Int64)).toBitVec.toInt = _
  rw [Int64.toBitVec_shiftRight]
  rw [show BitVec.smod (Int64.toBitVec 21) 64 = 21#64 by decide]
  show (BitVec.sshiftRight a.toBitVec (21#64).toNat).toInt = _
  rw [BitVec.toInt_sshiftRight, Int.shiftRight_eq_div_pow]
  rfl
theorem shr42 (a : Int64) : (a >>> (Int32.toInt64 42 &&& 63)).toInt = a.toInt / 4398046511104 := by
  rw [show (Int32.toInt64 42 &&& 63) = (42 : Int64) by decide]
  show (a >>> (42 : Int64)).toBitVec.toInt = _
  rw [Int64.toBitVec_shiftRight]
  rw [show BitVec.smod (Int64.toBitVec 42) 64 = 42#64 by decide]
  show (BitVec.sshiftRight a.toBitVec (42#64).toNat).toInt = _
  rw [BitVec.toInt_sshiftRight, Int.shiftRight_eq_div_pow]
  rfl
theorem and21 (a : Int64) : (a &&& 2097151).toInt = a.toInt % 2097152 := by
  have e : U6 (a &&& 2097151) = U6 a % 2097152 := by
    unfold U6
    rw [Int64.toBitVec_and, BitVec.toNat_and]
    exact Nat.and_two_pow_sub_one_eq_mod (a.toBitVec.toNat) 21
  have h1 := U6_int (a &&& 2097151)
  have h2 := U6_int a
  rw [e] at h1
  rw [if_pos (by omega)] at h1
  rw [h1, h2]
  split <;> omega
theorem mulB {x y : Int64} (hx : -2097152 ≤ x.toInt ∧ x.toInt ≤ 2097152) (hy : -2097152 ≤ y.toInt ∧ y.toInt ≤ 2097152) : (x * y).toInt = x.toInt * y.toInt ∧ -4398046511104 ≤ x.toInt * y.toInt ∧ x.toInt * y.toInt ≤ 4398046511104 := by
  have b := prod_b (u := x.toInt) (v := y.toInt) (B := 2097152) hx.1 hx.2 hy.1 hy.2
  exact ⟨l_mul (by omega) (by omega), by omega, by omega⟩
theorem i64_range (x : Int64) : -9223372036854775808 ≤ x.toInt ∧ x.toInt ≤ 9223372036854775807 := by
  have h1 := U6_int x
  have h2 := U6_lt x
  split at h1 <;> omega
theorem gl_setl (S : St) (k : Nat) (v : Int64) : gl (setl S k v) k = v := up1_same _ _ _
theorem gl_setl_ne (S : St) {k j : Nat} (v : Int64) (h : j ≠ k) : gl (setl S k v) j = gl S j := up1_ne _ _ h
/-- what the limbs are worth -/
def vs (S : St) : Int := (gl S 0).toInt + (gl S 1).toInt * 2097152 + (gl S 2).toInt * 4398046511104 + (gl S 3).toInt * 9223372036854775808 + (gl S 4).toInt * 19342813113834066795298816
def vsB (S : St) (C : Int) : Prop := (-C ≤ (gl S 0).toInt ∧ (gl S 0).toInt ≤ C) ∧ (-C ≤ (gl S 1).toInt ∧ (gl S 1).toInt ≤ C) ∧ (-C ≤ (gl S 2).toInt ∧ (gl S 2).toInt ≤ C) ∧ (-C ≤ (gl S 3).toInt ∧ (gl S 3).toInt ≤ C) ∧ (-C ≤ (gl S 4).toInt ∧ (gl S 4).toInt ≤ C)
def frL (S T : St) : Prop := T.1 = S.1 ∧ T.2.2 = S.2.2
theorem frL.trans {S T R : St} (h : frL S T) (g : frL T R) : frL S R := ⟨g.1.trans h.1, g.2.trans h.2⟩
theorem frL.mp {S T : St} {n : Nat} {X Y : Nat → Int} (f : frL S T) (h : MP S n X Y) : MP T n X Y := h.of (by show T.1 2 = S.1 2; rw [f.1]) (by rw [f.2]) (by show T.2.2.2 1 = S.2.2.2 1; rw [f.2]) (by show T.2.2.2 2 = S.2.2.2 2; rw [f.2])
theorem m_product (a b : Int64) (S : St) {C : Int} (hS : vsB S C) (hC : C ≤ 1000000000000000) : ∃ T, f_Md_product a b S = some T ∧ frL S T ∧ vs T = vs S + a.toInt * b.toInt ∧ vsB T (C + 13194139533312) := by
  have ra := i64_range a
  have rb := i64_range b
  have A2 := shr42 a
  have A1 := and21 (a >>> (Int32.toInt64 21 &&& 63))
  rw [shr21] at A1
  have A0 := and21 a
  have B2 := shr42 b
  have B1 := and21 (b >>> (Int32.toInt64 21 &&& 63))
  rw [shr21] at B1
  have B0 := and21 b
  unfold f_Md_product f_Md_product_0
  simp only [bn_s]
  generalize (a >>> (Int32.toInt64 42 &&& 63)) = a2 at *
  generalize ((a >>> (Int32.toInt64 21 &&& 63)) &&& 2097151) = a1 at *
  generalize (a &&& 2097151) = a0 at *
  generalize (b >>> (Int32.toInt64 42 &&& 63)) = b2 at *
  generalize ((b >>> (Int32.toInt64 21 &&& 63)) &&& 2097151) = b1 at *
  generalize (b &&& 2097151) = b0 at *
  have ea : a.toInt = a2.toInt * 4398046511104 + a1.toInt * 2097152 + a0.toInt := by omega
  have eb : b.toInt = b2.toInt * 4398046511104 + b1.toInt * 2097152 + b0.toInt := by omega
  have ka2 : -2097152 ≤ a2.toInt ∧ a2.toInt ≤ 2097152 := by omega
  have ka1 : -2097152 ≤ a1.toInt ∧ a1.toInt ≤ 2097152 := by omega
  have ka0 : -2097152 ≤ a0.toInt ∧ a0.toInt ≤ 2097152 := by omega
  have kb2 : -2097152 ≤ b2.toInt ∧ b2.toInt ≤ 2097152 := by omega
  have kb1 : -2097152 ≤ b1.toInt ∧ b1.toInt ≤ 2097152 := by omega
  have kb0 : -2097152 ≤ b0.toInt ∧ b0.toInt ≤ 2097152 := by omega
  have p00 := mulB ka0 kb0
  have p10 := mulB ka1 kb0
  have p01 := mulB ka0 kb1
  have p20 := mulB ka2 kb0
  have p11 := mulB ka1 kb1
  have p02 := mulB ka0 kb2
  have p21 := mulB ka2 kb1
  have p12 := mulB ka1 kb2
  have p22 := mulB ka2 kb2
  obtain ⟨s0, s1, s2, s3, s4⟩ := hS
  refine ⟨_, rfl, ⟨rfl, rfl⟩, ?_⟩
  -- the five limbs, one by one
  have L0 : (gl S 0 + a0 * b0).toInt = (gl S 0).toInt + a0.toInt * b0.toInt := by rw [l_add (by omega) (by omega), p00.1]
  have L1a : (a1 * b0 + a0 * b1).toInt = a1.toInt * b0.toInt + a0.toInt * b1.toInt := by rw [l_add (by omega) (by omega), p10.1, p01.1]
  have L1 : (gl S 1 + (a1 * b0 + a0 * b1)).toInt = (gl S 1).toInt + (a1.toInt * b0.toInt + a0.toInt * b1.toInt) := by rw [l_add (by omega) (by omega), L1a]
  have L2a : (a2 * b0 + a1 * b1).toInt = a2.toInt * b0.toInt + a1.toInt * b1.toInt := by rw [l_add (by omega) (by omega), p20.1, p11.1]
  have L2b : (a2 * b0 + a1 * b1 + a0 * b2).toInt = a2.toInt * b0.toInt + a1.toInt * b1.toInt + a0.toInt * b2.toInt := by rw [l_add (by omega) (by omega), L2a, p02.1]
  have L2 : (gl S 2 + (a2 * b0 + a1 * b1 + a0 * b2)).toInt = (gl S 2).toInt + (a2.toInt * b0.toInt + a1.toInt * b1.toInt + a0.toInt * b2.toInt) := by rw [l_add (by omega) (by omega), L2b]
  have L3a : (a2 * b1 + a1 * b2).toInt = a2.toInt * b1.toInt + a1.toInt * b2.toInt := by rw [l_add (by omega) (by omega), p21.1, p12.1]
  have L3 : (gl S 3 + (a2 * b1 + a1 * b2)).toInt = (gl S 3).toInt + (a2.toInt * b1.toInt + a1.toInt * b2.toInt) := by rw [l_add (by omega) (by omega), L3a]
  have L4 : (gl S 4 + a2 * b2).toInt = (gl S 4).toInt + a2.toInt * b2.toInt := by rw [l_add (by omega) (by omega), p22.1]
  have e : vs (setl (setl (setl (setl (setl S 0 (gl S 0 + a0 * b0)) 1 (gl S 1 + (a1 * b0 + a0 * b1))) 2 (gl S 2 + (a2 * b0 + a1 * b1 + a0 * b2))) 3 (gl S 3 + (a2 * b1 + a1 * b2))) 4 (gl S 4 + a2 * b2)) = (gl S 0 + a0 * b0).toInt + (gl S 1 + (a1 * b0 + a0 * b1)).toInt * 2097152 + (gl S 2 + (a2 * b0 + a1 * b1 + a0 * b2)).toInt * 4398046511104 + (gl S 3 + (a2 * b1 + a1 * b2)).toInt * 9223372036854775808 + (gl S 4 + a2 * b2).toInt * 19342813113834066795298816 := rfl
  refine ⟨e.trans ?_, ?_⟩
  · rw [L0, L1, L2, L3, L4, ea, eb]
    unfold vs
    grind
  · show (-(C + 13194139533312) ≤ (gl S 0 + a0 * b0).toInt ∧ (gl S 0 + a0 * b0).toInt ≤ C + 13194139533312) ∧ (-(C + 13194139533312) ≤ (gl S 1 + (a1 * b0 + a0 * b1)).toInt ∧ (gl S 1 + (a1 * b0 + a0 * b1)).toInt ≤ C + 13194139533312) ∧ (-(C + 13194139533312) ≤ (gl S 2 + (a2 * b0 + a1 * b1 + a0 * b2)).toInt ∧ (gl S 2 + (a2 * b0 + a1 * b1 + a0 * b2)).toInt ≤ C + 13194139533312) ∧ (-(C + 13194139533312) ≤ (gl S 3 + (a2 * b1 + a1 * b2)).toInt ∧ (gl S 3 + (a2 * b1 + a1 * b2)).toInt ≤ C + 13194139533312) ∧ (-(C + 13194139533312) ≤ (gl S 4 + a2 * b2).toInt ∧ (gl S 4 + a2 * b2).toInt ≤ C + 13194139533312)
    rw [L0, L1, L2, L3, L4]
    omega
theorem sg_congr {a b : Int} (h1 : 0 < a ↔ 0 < b) (h2 : a < 0 ↔ b < 0) : sg a = sg b := by
  unfold sg
  simp only [h1, h2]
theorem m_signOfSum (S : St) (hS : vsB S 1000000000000000) : ∃ T, f_Md_signOfSum S = some (sg (vs S), T) ∧ frL S T := by
  obtain ⟨s0, s1, s2, s3, s4⟩ := hS
  have H0 := shr21 (gl S 0)
  have K0 := and21 (gl S 0)
  have L1 : (gl S 1 + (gl S 0 >>> (Int32.toInt64 21 &&& 63))).toInt = (gl S 1).toInt + (gl S 0).toInt / 2097152 := by rw [l_add (by omega) (by omega), H0]
  have H1 := shr21 (gl S 1 + (gl S 0 >>> (Int32.toInt64 21 &&& 63)))
  have K1 := and21 (gl S 1 + (gl S 0 >>> (Int32.toInt64 21 &&& 63)))
  have z : (0 : Int64).toInt = 0 := rfl
  unfold f_Md_signOfSum f_Md_signOfSum_0
  simp only [bn_s]
  -- the limbs of the state at last
  generalize hq : (gl S 1 + (gl S 0 >>> (Int32.toInt64 21 &&& 63))) = u1 at *
  have L2 : (gl S 2 + (u1 >>> (Int32.toInt64 21 &&& 63))).toInt = (gl S 2).toInt + u1.toInt / 2097152 := by rw [l_add (by omega) (by omega), H1]
  generalize hr : (gl S 2 + (u1 >>> (Int32.toInt64 21 &&& 63))) = u2 at *
  have H2 := shr21 u2
  have K2 := and21 u2
  have L3 : (gl S 3 + (u2 >>> (Int32.toInt64 21 &&& 63))).toInt = (gl S 3).toInt + u2.toInt / 2097152 := by rw [l_add (by omega) (by omega), H2]
  generalize ht : (gl S 3 + (u2 >>> (Int32.toInt64 21 &&& 63))) = u3 at *
  have H3 := shr21 u3
  have K3 := and21 u3
  have L4 : (gl S 4 + (u3 >>> (Int32.toInt64 21 &&& 63))).toInt = (gl S 4).toInt + u3.toInt / 2097152 := by rw [l_add (by omega) (by omega), H3]
  generalize hv : (gl S 4 + (u3 >>> (Int32.toInt64 21 &&& 63))) = u4 at *
  generalize hS : setl (setl (setl (setl (setl (setl (setl (setl S 1 _) 0 _) 2 _) 1 _) 3 _) 2 _) 4 _) 3 _ = S8
  have g4 : gl S8 4 = u4 := by rw [← hS, ← hv, ← ht, ← hr, ← hq]; rfl
  have g3 : gl S8 3 = u3 &&& 2097151 := by rw [← hS, ← ht, ← hr, ← hq]; rfl
  have g2 : gl S8 2 = u2 &&& 2097151 := by rw [← hS, ← hr, ← hq]; rfl
  have g1 : gl S8 1 = u1 &&& 2097151 := by rw [← hS, ← hq]; rfl
  have g0 : gl S8 0 = gl S 0 &&& 2097151 := by rw [← hS]; rfl
  have fr : frL S S8 := by rw [← hS]; exact ⟨rfl, rfl⟩
  have ev : vs S = (gl S 0).toInt + (gl S 1).toInt * 2097152 + (gl S 2).toInt * 4398046511104 + (gl S 3).toInt * 9223372036854775808 + (gl S 4).toInt * 19342813113834066795298816 := rfl
  have eu : vs S = (gl S 0 &&& 2097151).toInt + (u1 &&& 2097151).toInt * 2097152 + (u2 &&& 2097151).toInt * 4398046511104 + (u3 &&& 2097151).toInt * 9223372036854775808 + u4.toInt * 19342813113834066795298816 := by rw [ev]; omega
  rw [g4]
  by_cases c : u4.toInt = 0
  · rw [if_pos ((cmp_z _ _).mpr (by rw [c, z])), g0, g1, g2, g3]
    have a1 : ((gl S 0 &&& 2097151) + (u1 &&& 2097151)).toInt = (gl S 0 &&& 2097151).toInt + (u1 &&& 2097151).toInt := l_add (by omega) (by omega)
    have a2 : ((gl S 0 &&& 2097151) + (u1 &&& 2097151) + (u2 &&& 2097151)).toInt = (gl S 0 &&& 2097151).toInt + (u1 &&& 2097151).toInt + (u2 &&& 2097151).toInt := by rw [l_add (by omega) (by omega), a1]
    have a3 : ((gl S 0 &&& 2097151) + (u1 &&& 2097151) + (u2 &&& 2097151) + (u3 &&& 2097151)).toInt = (gl S 0 &&& 2097151).toInt + (u1 &&& 2097151).toInt + (u2 &&& 2097151).toInt + (u3 &&& 2097151).toInt := by rw [l_add (by omega) (by omega), a2]
    rcases cmp_cases ((gl S 0 &&& 2097151) + (u1 &&& 2097151) + (u2 &&& 2097151) + (u3 &&& 2097151)) 0 with ⟨k1, k2⟩ | ⟨k1, k2⟩ | ⟨k1, k2⟩
    · rw [z] at k1; omega
    · rw [z] at k1
      rw [k2, if_pos (by decide), show sg (vs S) = 0 from sg_zero.mpr (by omega)]
      exact ⟨_, rfl, fr⟩
    · rw [z] at k1
      rw [k2, if_neg (by decide), show sg (vs S) = 1 by unfold sg; rw [if_pos (by omega)]]
      exact ⟨_, rfl, fr⟩
  · rw [if_neg (fun q => c (by have := (cmp_z _ _).mp q; rw [z] at this; exact this)), m_sign, bd_s]
    dsimp only
    rw [sg_congr (a := u4.toInt) (b := vs S) (by omega) (by omega)]
    exact ⟨_, rfl, fr⟩
section
variable {S : St} {n : Nat} {X Y : Nat → Int}
theorem m_part (h : MP S n X Y) {a b c p : Nat} (ha : a < n) (hb : b < n) (hc : c < n) (hp : p < n) {C : Int} (hS : vsB S C) (hC : C ≤ 1000000000000000) : ∃ T, f_Md_part (nI a) (nI b) (nI c) (nI p) S = some T ∧ frL S T ∧ vs T = vs S + gD X Y c p * gO X Y p a b ∧ vsB T (C + 13194139533312) := by
  have ia := h.in ha
  have ib := h.in hb
  have ic := h.in hc
  have ip := h.in hp
  unfold inR at ia ib ic ip
  have dcx := l_sub32 (ga S 1 (Int32.toNatClampNeg (nI c))) (ga S 1 (Int32.toNatClampNeg (nI p)))
  have dcy := l_sub32 (ga S 2 (Int32.toNatClampNeg (nI c))) (ga S 2 (Int32.toNatClampNeg (nI p)))
  have dax := l_sub32 (ga S 1 (Int32.toNatClampNeg (nI a))) (ga S 1 (Int32.toNatClampNeg (nI p)))
  have day := l_sub32 (ga S 2 (Int32.toNatClampNeg (nI a))) (ga S 2 (Int32.toNatClampNeg (nI p)))
  have dbx := l_sub32 (ga S 1 (Int32.toNatClampNeg (nI b))) (ga S 1 (Int32.toNatClampNeg (nI p)))
  have dby := l_sub32 (ga S 2 (Int32.toNatClampNeg (nI b))) (ga S 2 (Int32.toNatClampNeg (nI p)))
  rw [h.x hc, h.x hp] at dcx
  rw [h.y hc, h.y hp] at dcy
  rw [h.x ha, h.x hp] at dax
  rw [h.y ha, h.y hp] at day
  rw [h.x hb, h.x hp] at dbx
  rw [h.y hb, h.y hp] at dby
  unfold f_Md_part f_Md_part_0 f_Md_cross f_Md_cross_0
  simp only [h.b1 ha, h.b1 hb, h.b1 hc, h.b1 hp, h.b2 ha, h.b2 hb, h.b2 hc, h.b2 hp, as_s, bn_s, bd_s]
  generalize Int32.toInt64 (ga S 1 (Int32.toNatClampNeg (nI c))) - Int32.toInt64 (ga S 1 (Int32.toNatClampNeg (nI p))) = cx at *
  generalize Int32.toInt64 (ga S 2 (Int32.toNatClampNeg (nI c))) - Int32.toInt64 (ga S 2 (Int32.toNatClampNeg (nI p))) = cy at *
  generalize Int32.toInt64 (ga S 1 (Int32.toNatClampNeg (nI a))) - Int32.toInt64 (ga S 1 (Int32.toNatClampNeg (nI p))) = ax at *
  generalize Int32.toInt64 (ga S 2 (Int32.toNatClampNeg (nI a))) - Int32.toInt64 (ga S 2 (Int32.toNatClampNeg (nI p))) = ay at *
  generalize Int32.toInt64 (ga S 1 (Int32.toNatClampNeg (nI b))) - Int32.toInt64 (ga S 1 (Int32.toNatClampNeg (nI p))) = bx at *
  generalize Int32.toInt64 (ga S 2 (Int32.toNatClampNeg (nI b))) - Int32.toInt64 (ga S 2 (Int32.toNatClampNeg (nI p))) = by' at *
  obtain ⟨T, e1, e2, e3, e4⟩ := m_product (cx * cx + cy * cy) (ax * by' - ay * bx) S hS hC
  rw [e1, bd_s]
  refine ⟨T, rfl, e2, ?_, e4⟩
  have b1 := prod_b (u := cx.toInt) (v := cx.toInt) (B := 2000000000) (by omega) (by omega) (by omega) (by omega)
  have b2 := prod_b (u := cy.toInt) (v := cy.toInt) (B := 2000000000) (by omega) (by omega) (by omega) (by omega)
  have m1 := l_mul (x := cx) (y := cx) (by omega) (by omega)
  have m2 := l_mul (x := cy) (y := cy) (by omega) (by omega)
  have m3 := cross_b (x0 := ax) (x2 := ay) (x4 := bx) (x6 := by') (by omega) (by omega) (by omega) (by omega)
  rw [e3, m3, l_add (by rw [m1, m2]; omega) (by rw [m1, m2]; omega), m1, m2, dcx, dcy, dax, day, dbx, dby]
  rfl
theorem gV_limbs (X Y : Nat → Int) (a b c p : Nat) : gV X Y (gQ X Y) a b c p = gD X Y c p * gO X Y p a b + gD X Y a p * gO X Y p b c + gD X Y b p * gO X Y p c a := by unfold gV gD gO gQ; grind
/-- the test of a circle -/
theorem m_inCircle (h : MP S n X Y) {a b c p : Nat} (ha : a < n) (hb : b < n) (hc : c < n) (hp : p < n) : ∃ T, f_Md_inCircle (nI a) (nI b) (nI c) (nI p) S = some (sg (gV X Y (gQ X Y) a b c p), T) ∧ frL S T := by
  unfold f_Md_inCircle f_Md_inCircle_0
  simp only [bn_s]
  generalize hT : setl (setl (setl (setl (setl S 0 0) 1 0) 2 0) 3 0) 4 0 = T0
  have f0 : frL S T0 := by rw [← hT]; exact ⟨rfl, rfl⟩
  have z : (0 : Int64).toInt = 0 := rfl
  have g0 : gl T0 0 = 0 := by rw [← hT]; rfl
  have g1 : gl T0 1 = 0 := by rw [← hT]; rfl
  have g2 : gl T0 2 = 0 := by rw [← hT]; rfl
  have g3 : gl T0 3 = 0 := by rw [← hT]; rfl
  have g4 : gl T0 4 = 0 := by rw [← hT]; rfl
  have v0 : vs T0 = 0 := by unfold vs; rw [g0, g1, g2, g3, g4, z]; decide
  have b0 : vsB T0 0 := by unfold vsB; rw [g0, g1, g2, g3, g4, z]; decide
  obtain ⟨T1, e1, f1, v1, b1⟩ := m_part (f0.mp h) ha hb hc hp b0 (by decide)
  rw [e1, bd_s]
  obtain ⟨T2, e2, f2, v2, b2⟩ := m_part ((f0.trans f1).mp h) hb hc ha hp b1 (by decide)
  rw [e2, bd_s]
  obtain ⟨T3, e3, f3, v3, b3⟩ := m_part (((f0.trans f1).trans f2).mp h) hc ha hb hp b2 (by decide)
  rw [e3, bd_s]
  have b4 : vsB T3 1000000000000000 := by
    unfold vsB at b3 ⊢
    omega
  obtain ⟨T4, e4, f4⟩ := m_signOfSum T3 b4
  rw [e4, bd_s]
  refine ⟨T4, ?_, ((f0.trans f1).trans f2).trans (f3.trans f4)⟩
  rw [v3, v2, v1, v0, Int.zero_add, ← gV_limbs]
end
