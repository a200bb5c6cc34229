/-! GEOMETRY 3: the least point's share decides -/
theorem share_bound {w o B : Int} (hw : 0 < w) (h1 : -B ≤ o) (h2 : o ≤ B) : -(w * B) ≤ w * o ∧ w * o ≤ w * B := by
  have q1 := Int.mul_le_mul_of_nonneg_left h1 (Int.le_of_lt hw)
  have q2 := Int.mul_le_mul_of_nonneg_left h2 (Int.le_of_lt hw)
  rw [Int.mul_neg] at q1
  exact ⟨q1, q2⟩
/-- three shares together stay below the first one's weight -/
theorem shares_small {w wb wc wd ob oc od B K : Int} (hb : 0 < wb) (hc : 0 < wc) (hd : 0 < wd) (kb : wb * K ≤ w) (kc : wc * K ≤ w) (kd : wd * K ≤ w) (hK : 3 * B < K) (b1 : -B ≤ ob) (b2 : ob ≤ B) (c1 : -B ≤ oc) (c2 : oc ≤ B) (d1 : -B ≤ od) (d2 : od ≤ B) :
    -w < wb * ob + wc * oc + wd * od ∧ wb * ob + wc * oc + wd * od < w := by
  have q1 := share_bound hb b1 b2
  have q2 := share_bound hc c1 c2
  have q3 := share_bound hd d1 d2
  have r1 := Int.mul_lt_mul_of_pos_left hK hb
  have r2 := Int.mul_lt_mul_of_pos_left hK hc
  have r3 := Int.mul_lt_mul_of_pos_left hK hd
  have e1 : wb * (3 * B) = 3 * (wb * B) := by grind
  have e2 : wc * (3 * B) = 3 * (wc * B) := by grind
  have e3 : wd * (3 * B) = 3 * (wd * B) := by grind
  rw [e1] at r1
  rw [e2] at r2
  rw [e3] at r3
  omega
theorem share_pos {w oa r : Int} (hw : 0 < w) (h : 0 < oa) (h1 : -w < r) : 0 < w * oa + r := by
  have q := Int.mul_le_mul_of_nonneg_left (show (1 : Int) ≤ oa by omega) (Int.le_of_lt hw)
  rw [Int.mul_one] at q
  omega
theorem share_neg {w oa r : Int} (hw : 0 < w) (h : oa < 0) (h1 : r < w) : w * oa + r < 0 := by
  have q := Int.mul_le_mul_of_nonneg_left (show oa ≤ -1 by omega) (Int.le_of_lt hw)
  rw [Int.mul_neg, Int.mul_one] at q
  omega
/-- turns of points of the plane as the document has it -/
theorem gO_bound {X Y : Nat → Int} {a b c : Nat} (hX : ∀ i ∈ [a, b, c], -1000000000 ≤ X i ∧ X i ≤ 1000000000) (hY : ∀ i ∈ [a, b, c], -1000000000 ≤ Y i ∧ Y i ≤ 1000000000) : -8000000000000000000 ≤ gO X Y a b c ∧ gO X Y a b c ≤ 8000000000000000000 := by
  have xa := hX a (by simp)
  have xb := hX b (by simp)
  have xc := hX c (by simp)
  have ya := hY a (by simp)
  have yb := hY b (by simp)
  have yc := hY c (by simp)
  have pr : ∀ u v : Int, -2000000000 ≤ u → u ≤ 2000000000 → -2000000000 ≤ v → v ≤ 2000000000 → -4000000000000000000 ≤ u * v ∧ u * v ≤ 4000000000000000000 := by
    intro u v h1 h2 h3 h4
    have q1 : 0 ≤ (2000000000 - u) * (2000000000 - v) := Int.mul_nonneg (by omega) (by omega)
    have q2 : 0 ≤ (2000000000 + u) * (2000000000 + v) := Int.mul_nonneg (by omega) (by omega)
    have q3 : 0 ≤ (2000000000 - u) * (2000000000 + v) := Int.mul_nonneg (by omega) (by omega)
    have q4 : 0 ≤ (2000000000 + u) * (2000000000 - v) := Int.mul_nonneg (by omega) (by omega)
    constructor <;> grind
  have q1 := pr (X b - X a) (Y c - Y a) (by omega) (by omega) (by omega) (by omega)
  have q2 := pr (Y b - Y a) (X c - X a) (by omega) (by omega) (by omega) (by omega)
  unfold gO
  omega
