/-! GEOMETRY 5: heights -/
def gQ (X Y : Nat → Int) (i : Nat) : Int := X i * X i + Y i * Y i
/-- the circle's test with heights of weight: linear -/
theorem gV_lin (X Y U V : Nat → Int) (M : Int) (a b c d : Nat) : gV X Y (fun i => M * U i - V i) a b c d = M * gV X Y U a b c d - gV X Y V a b c d := by unfold gV; grind
/-- a line meets a circle in two points at most -/
theorem circle_line {X Y : Nat → Int} {a b c d : Nat} (h0 : gV X Y (gQ X Y) a b c d = 0) (h1 : gO X Y a b c ≠ 0) (h2 : gO X Y b c d = 0) : gDot X Y d b c = 0 := by
  have e := gV_circle X Y b c a d
  have r : gV X Y (fun i => X i * X i + Y i * Y i) b c a d = gV X Y (gQ X Y) a b c d := gV_rot X Y (gQ X Y) a b c d
  rw [r, h0] at e
  have s1 : gO X Y a b c * gDot X Y d b c + gO X Y d c b * gDot X Y a b c = 0 := by simpa using e
  have s2 : gO X Y d c b = 0 := by
    have := gO_rot X Y d c b
    have := gO_swap X Y b c d
    have := gO_rot X Y b c d
    have := gO_rot X Y c d b
    have := gO_swap X Y c d b
    unfold gO at *; grind
  rw [s2, Int.zero_mul, Int.add_zero] at s1
  rcases Int.mul_eq_zero.mp s1 with h | h
  · exact absurd h h1
  · exact h
theorem sq_zero {u v : Int} (h : u * u + v * v = 0) : u = 0 ∧ v = 0 := by
  have h1 : 0 ≤ u * u := by
    rcases Int.le_total 0 u with h | h
    · exact Int.mul_nonneg h h
    · exact Int.mul_nonneg_of_nonpos_of_nonpos h h
  have h2 : 0 ≤ v * v := by
    rcases Int.le_total 0 v with h | h
    · exact Int.mul_nonneg h h
    · exact Int.mul_nonneg_of_nonpos_of_nonpos h h
  have e1 : u * u = 0 := by omega
  have e2 : v * v = 0 := by omega
  refine ⟨?_, ?_⟩
  · rcases Int.mul_eq_zero.mp e1 with h | h <;> exact h
  · rcases Int.mul_eq_zero.mp e2 with h | h <;> exact h
/-- of four points on one circle no three are on a line -/
theorem circle_ncol {X Y : Nat → Int} {a b c d : Nat} (h0 : gV X Y (gQ X Y) a b c d = 0) (h1 : gO X Y a b c ≠ 0) (hb : ¬ (X b = X d ∧ Y b = Y d)) (hc : ¬ (X c = X d ∧ Y c = Y d)) : gO X Y b c d ≠ 0 := by
  intro h2
  have h3 := circle_line h0 h1 h2
  have e : ((X b - X d) * (X b - X d) + (Y b - Y d) * (Y b - Y d)) * ((X c - X d) * (X c - X d) + (Y c - Y d) * (Y c - Y d)) = gDot X Y d b c * gDot X Y d b c + gO X Y b c d * gO X Y b c d := by unfold gDot gO; grind
  rw [h2, h3, Int.mul_zero, Int.add_zero] at e
  rcases Int.mul_eq_zero.mp e with h | h
  · have := sq_zero h
    exact hb (by omega)
  · have := sq_zero h
    exact hc (by omega)
