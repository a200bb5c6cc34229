/-! GEOMETRY 2: walks and new triangles. gV X Y Z a b c p > 0: p takes the triangle a, b, c away. -/
section
variable {X Y Z : Nat → Int} {a b c d p x : Nat}
/-- across an edge with p beyond, the plane over p is higher -/
theorem walk_grows (h1 : gV X Y Z a b c d < 0) (h2 : gO X Y b c p < 0) : gV X Y Z a b c p * gO X Y c b d < gV X Y Z c b d p * gO X Y a b c := by
  have e := gV_turns X Y Z b c a d p
  rw [gV_rot X Y Z a b c d, gV_rot X Y Z a b c p, gO_rot X Y a b c, gO_swap X Y c b d, gV_swap X Y Z c b d p] at e
  have hp : 0 < gV X Y Z a b c d * gO X Y b c p := Int.mul_pos_of_neg_of_neg h1 h2
  rw [e] at hp
  rw [Int.mul_neg, Int.neg_mul] at hp
  omega
/-- p lies left of an edge between a triangle that it takes away and one that it does not -/
theorem rim_left (hL : 0 < gV X Y Z a b c p) (hR : gV X Y Z b a d p < 0) (hd : gV X Y Z a b c d < 0) (h1 : 0 < gO X Y a b c) (h2 : 0 < gO X Y b a d) : 0 < gO X Y a b p := by
  have e := gV_turns X Y Z a b c d p
  have s1 : gO X Y a b d = - gO X Y b a d := gO_swap X Y b a d
  have s2 : gV X Y Z a b d p = - gV X Y Z b a d p := gV_swap X Y Z b a d p
  rw [s1, s2, Int.mul_neg, Int.neg_mul] at e
  have q1 : 0 < gV X Y Z a b c p * gO X Y b a d := Int.mul_pos hL h2
  have q2 : gV X Y Z b a d p * gO X Y a b c < 0 := Int.mul_neg_of_neg_of_pos hR h1
  have hneg : gV X Y Z a b c d * gO X Y a b p < 0 := by omega
  rcases Int.lt_trichotomy (gO X Y a b p) 0 with h | h | h
  · have := Int.mul_pos_of_neg_of_neg hd h
    omega
  · rw [h, Int.mul_zero] at hneg
    omega
  · exact h
/-- over such an edge the new triangle has no point below -/
theorem rim_empty (hL : 0 < gV X Y Z a b c p) (hR : gV X Y Z b a d p < 0) (hd : gV X Y Z a b c d < 0) (hx1 : gV X Y Z a b c x < 0) (hx2 : gV X Y Z b a d x < 0) : gV X Y Z a b p x < 0 := by
  have e := gV_pencil X Y Z a b c d p x
  have s1 : gV X Y Z a b x d = gV X Y Z b a d x := by rw [gV_swap' X Y Z a b d x, gV_swap X Y Z b a d x, Int.neg_neg]
  have s2 : gV X Y Z a b p c = - gV X Y Z a b c p := gV_swap' X Y Z a b c p
  have s3 : gV X Y Z a b p d = gV X Y Z b a d p := by rw [gV_swap' X Y Z a b d p, gV_swap X Y Z b a d p, Int.neg_neg]
  rw [s1, s2, s3] at e
  have q1 : 0 < gV X Y Z b a d x * - gV X Y Z a b c p := Int.mul_pos_of_neg_of_neg hx2 (by omega)
  have q2 : 0 < gV X Y Z a b c x * gV X Y Z b a d p := Int.mul_pos_of_neg_of_neg hx1 hR
  have hpos : 0 < gV X Y Z a b p x * gV X Y Z a b c d := by omega
  rcases Int.lt_trichotomy (gV X Y Z a b p x) 0 with h | h | h
  · exact h
  · rw [h, Int.zero_mul] at hpos
    omega
  · have := Int.mul_neg_of_pos_of_neg h hd
    omega
theorem gV_affine (u v w : Int) : gV X Y (fun i => Z i - (u * X i + v * Y i + w)) a b c d = gV X Y Z a b c d := by unfold gV; grind
/-- the hidden vertex: a plane (u, v, w) lies below the heights of a, b, p and touches at c; then p does not see both edges at c of a triangle that it takes away -/
theorem hidden {u v w : Int} (hc : Z c = u * X c + v * Y c + w) (ha : u * X a + v * Y a + w < Z a) (hb : u * X b + v * Y b + w < Z b) (hp : u * X p + v * Y p + w < Z p)
    (h0 : 0 < gO X Y a b c) (hV : 0 < gV X Y Z a b c p) : 0 < gO X Y b c p ∨ 0 < gO X Y c a p := by
  by_cases h : 0 < gO X Y b c p
  · exact Or.inl h
  by_cases h' : 0 < gO X Y c a p
  · exact Or.inr h'
  have e := gV_heights X Y (fun i => Z i - (u * X i + v * Y i + w)) a b c p
  rw [gV_affine u v w] at e
  have q1 : (Z a - (u * X a + v * Y a + w)) * gO X Y b c p ≤ 0 := Int.mul_nonpos_of_nonneg_of_nonpos (by omega) (by omega)
  have q2 : (Z b - (u * X b + v * Y b + w)) * gO X Y c a p ≤ 0 := Int.mul_nonpos_of_nonneg_of_nonpos (by omega) (by omega)
  have q3 : 0 < (Z p - (u * X p + v * Y p + w)) * gO X Y a b c := Int.mul_pos (by omega) h0
  have q4 : (Z c - (u * X c + v * Y c + w)) * gO X Y a b p = 0 := by rw [hc, Int.sub_self, Int.zero_mul]
  omega
end
