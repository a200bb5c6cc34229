/-! THE OUTLINE: from outer point to outer point -/
/-- two ways alike -/
def sdir (u1 u2 w1 w2 : Int) : Prop := u1 * w2 - u2 * w1 = 0 ∧ 0 < u1 * w1 + u2 * w2
theorem sdir.n1 {u1 u2 w1 w2 : Int} (h : sdir u1 u2 w1 w2) : 0 < u1 * u1 + u2 * u2 := by
  have := sq_pos (u := u1) (v := u2) (fun q => by have := h.2; rw [q.1, q.2] at this; simp at this)
  omega
theorem sdir.symm {u1 u2 w1 w2 : Int} (h : sdir u1 u2 w1 w2) : sdir w1 w2 u1 u2 := by
  unfold sdir at *
  have e1 : w1 * u2 - w2 * u1 = -(u1 * w2 - u2 * w1) := by grind
  have e2 : w1 * u1 + w2 * u2 = u1 * w1 + u2 * w2 := by grind
  omega
theorem sdir.trans {u1 u2 w1 w2 z1 z2 : Int} (h : sdir u1 u2 w1 w2) (g : sdir w1 w2 z1 z2) : sdir u1 u2 z1 z2 := by
  have n := g.n1
  have e1 : (w1 * w1 + w2 * w2) * (u1 * z2 - u2 * z1) = (u1 * w2 - u2 * w1) * (w1 * z1 + w2 * z2) + (u1 * w1 + u2 * w2) * (w1 * z2 - w2 * z1) := by grind
  have e2 : (w1 * w1 + w2 * w2) * (u1 * z1 + u2 * z2) = (u1 * w1 + u2 * w2) * (w1 * z1 + w2 * z2) - (u1 * w2 - u2 * w1) * (w1 * z2 - w2 * z1) := by grind
  rw [h.1, g.1, Int.zero_mul, Int.mul_zero, Int.add_zero] at e1
  rw [h.1, g.1, Int.zero_mul, Int.sub_zero] at e2
  have p := Int.mul_pos h.2 g.2
  refine ⟨?_, Int.pos_of_mul_pos_right (a := w1 * w1 + w2 * w2) (by omega) n⟩
  rcases Int.mul_eq_zero.mp e1 with q | q
  · omega
  · exact q
theorem sdir.add {u1 u2 w1 w2 z1 z2 : Int} (h : sdir u1 u2 w1 w2) (g : sdir u1 u2 z1 z2) : sdir u1 u2 (w1 + z1) (w2 + z2) := by
  unfold sdir at *
  have e1 : u1 * (w2 + z2) - u2 * (w1 + z1) = (u1 * w2 - u2 * w1) + (u1 * z2 - u2 * z1) := by grind
  have e2 : u1 * (w1 + z1) + u2 * (w2 + z2) = (u1 * w1 + u2 * w2) + (u1 * z1 + u2 * z2) := by grind
  omega
theorem sdir.refl {u1 u2 : Int} (h : ¬ (u1 = 0 ∧ u2 = 0)) : sdir u1 u2 u1 u2 := by
  have := sq_pos h
  exact ⟨by grind, by omega⟩
/-- a turn from the one is as from the other -/
theorem sdir.cross {u1 u2 w1 w2 : Int} (h : sdir u1 u2 w1 w2) (z1 z2 : Int) : (0 < u1 * z2 - u2 * z1 ↔ 0 < w1 * z2 - w2 * z1) ∧ (u1 * z2 - u2 * z1 = 0 ↔ w1 * z2 - w2 * z1 = 0) := by
  have e : (u1 * u1 + u2 * u2) * (w1 * z2 - w2 * z1) = (u1 * w1 + u2 * w2) * (u1 * z2 - u2 * z1) - (u1 * w2 - u2 * w1) * (u1 * z1 + u2 * z2) := by grind
  rw [h.1, Int.zero_mul, Int.sub_zero] at e
  have n := h.n1
  have d := h.2
  generalize u1 * z2 - u2 * z1 = A at *
  generalize w1 * z2 - w2 * z1 = B at *
  generalize u1 * u1 + u2 * u2 = U at *
  generalize u1 * w1 + u2 * w2 = D at *
  refine ⟨⟨fun q => ?_, fun q => ?_⟩, fun q => ?_, fun q => ?_⟩
  · have := Int.mul_pos d q
    exact Int.pos_of_mul_pos_right (a := U) (by omega) n
  · have := Int.mul_pos n q
    exact Int.pos_of_mul_pos_right (a := D) (by omega) d
  · rw [q, Int.mul_zero] at e
    rcases Int.mul_eq_zero.mp e with r | r
    · omega
    · exact r
  · rw [q, Int.mul_zero] at e
    rcases Int.mul_eq_zero.mp e.symm with r | r
    · omega
    · exact r
/-- on one line: alike or against -/
theorem par_or {w1 w2 z1 z2 : Int} (h : w1 * z2 - w2 * z1 = 0) (hw : ¬ (w1 = 0 ∧ w2 = 0)) (hz : ¬ (z1 = 0 ∧ z2 = 0)) : sdir w1 w2 z1 z2 ∨ w1 * z1 + w2 * z2 < 0 := by
  have e : (w1 * w1 + w2 * w2) * (z1 * z1 + z2 * z2) = (w1 * z1 + w2 * z2) * (w1 * z1 + w2 * z2) + (w1 * z2 - w2 * z1) * (w1 * z2 - w2 * z1) := by grind
  have a := sq_pos hw
  have b := sq_pos hz
  have p : 0 < (w1 * w1 + w2 * w2) * (z1 * z1 + z2 * z2) := Int.mul_pos (by omega) (by omega)
  rcases Int.lt_trichotomy (w1 * z1 + w2 * z2) 0 with q | q | q
  · exact Or.inr q
  · rw [q, h] at e; omega
  · exact Or.inl ⟨h, q⟩
/-- with a corner between two ways, nothing is against the second behind it -/
theorem turn_behind {d1 d2 u1 u2 z1 z2 : Int} (h : 0 < d1 * u2 - d2 * u1) (hz : 0 ≤ d1 * z2 - d2 * z1) (h0 : u1 * z2 - u2 * z1 = 0) : ¬ u1 * z1 + u2 * z2 < 0 := by
  intro q
  have e : (u1 * u1 + u2 * u2) * (d1 * z2 - d2 * z1) = (d1 * u2 - d2 * u1) * (u1 * z1 + u2 * z2) + (d1 * u1 + d2 * u2) * (u1 * z2 - u2 * z1) := by grind
  rw [h0, Int.mul_zero, Int.add_zero] at e
  have m1 := Int.mul_neg_of_pos_of_neg h q
  have n := sq_pos (u := u1) (v := u2) (fun r => by rw [r.1, r.2] at h; simp at h)
  have := Int.mul_nonneg (show 0 ≤ u1 * u1 + u2 * u2 by omega) hz
  omega
theorem turn_beyond {d1 d2 u1 u2 z1 z2 : Int} (h : 0 < d1 * u2 - d2 * u1) (hz : 0 ≤ u1 * z2 - u2 * z1) : ¬ sdir d1 d2 z1 z2 := by
  intro q
  have e : (d1 * d1 + d2 * d2) * (u1 * z2 - u2 * z1) = - ((d1 * u2 - d2 * u1) * (d1 * z1 + d2 * z2)) + (d1 * u1 + d2 * u2) * (d1 * z2 - d2 * z1) := by grind
  rw [q.1, Int.mul_zero, Int.add_zero] at e
  have m1 := Int.mul_pos h q.2
  have := Int.mul_nonneg (Int.le_of_lt q.n1) hz
  omega
theorem shorter {w1 w2 z1 z2 : Int} (h : sdir w1 w2 z1 z2) (h2 : w1 * (z1 - w1) + w2 * (z2 - w2) < 0) : z1 * z1 + z2 * z2 < w1 * w1 + w2 * w2 := by
  have n := h.n1
  have e : (w1 * w1 + w2 * w2) * (z1 * z1 + z2 * z2) = (w1 * z1 + w2 * z2) * (w1 * z1 + w2 * z2) + (w1 * z2 - w2 * z1) * (w1 * z2 - w2 * z1) := by grind
  rw [h.1, Int.mul_zero, Int.add_zero] at e
  have e2 : w1 * (z1 - w1) + w2 * (z2 - w2) = (w1 * z1 + w2 * z2) - (w1 * w1 + w2 * w2) := by grind
  have hd := h.2
  generalize w1 * z1 + w2 * z2 = D at *
  generalize w1 * w1 + w2 * w2 = W at *
  generalize z1 * z1 + z2 * z2 = Z at *
  have a1 : D * D < D * W := Int.mul_lt_mul_of_pos_left (by omega) hd
  have a2 : D * W < W * W := Int.mul_lt_mul_of_pos_right (by omega) n
  have a3 : W * Z < W * W := by omega
  exact Int.lt_of_mul_lt_mul_left a3 (Int.le_of_lt n)
/-- a row of outer points -/
def OUT (X Y : Nat → Int) (n L : Nat) (v : Nat → Nat) : Prop := 0 < L ∧ (∀ i, v (i + L) = v i) ∧ (∀ i, v i < n) ∧ (∀ i j, i < j → j < L → v i ≠ v j) ∧ (∀ i, v i ≠ v (i + 1)) ∧ (∀ i k, k < n → 0 ≤ gO X Y (v i) (v (i + 1)) k) ∧ (∀ i k, k < n → k ≠ v i → k ≠ v (i + 1) → gO X Y (v i) (v (i + 1)) k = 0 → 0 < gDot X Y k (v i) (v (i + 1))) ∧ leastP X Y n (v 0) ∧ ∃ i j k, i < n ∧ j < n ∧ k < n ∧ gO X Y i j k ≠ 0
def kept (X Y : Nat → Int) (v : Nat → Nat) (t : Nat) : Prop := gO X Y (v t) (v (t + 1)) (v (t + 2)) ≠ 0
section
variable {X Y : Nat → Int} {n L : Nat} {v : Nat → Nat}
theorem OUT.three (h : OUT X Y n L v) (hd : ∀ i, i < n → ∀ j, j < n → i ≠ j → dif X Y i j) (t : Nat) : v t ≠ v (t + 2) := by
  intro q
  obtain ⟨-, -, h3, -, h5, h6, -, -, i, j, k, hi, hj, hk, ne⟩ := h
  obtain ⟨x, hx, hne⟩ := off_line (P := [i, j, k]) (hd _ (h3 t) _ (h3 (t + 1)) (h5 t)) ⟨i, by simp, j, by simp, k, by simp, ne⟩
  have hxn : x < n := by
    simp only [List.mem_cons, List.not_mem_nil, or_false] at hx
    omega
  have a := h6 t x hxn
  have b := h6 (t + 1) x hxn
  rw [show t + 1 + 1 = t + 2 by omega, ← q, gO_swap] at b
  omega
/-- not kept: straight on -/
theorem OUT.straight (h : OUT X Y n L v) (hd : ∀ i, i < n → ∀ j, j < n → i ≠ j → dif X Y i j) {t : Nat} (hk : ¬ kept X Y v t) : sdir (X (v (t + 1)) - X (v t)) (Y (v (t + 1)) - Y (v t)) (X (v (t + 2)) - X (v (t + 1))) (Y (v (t + 2)) - Y (v (t + 1))) := by
  have h0 : gO X Y (v t) (v (t + 1)) (v (t + 2)) = 0 := Classical.not_not.mp hk
  have n3 := h.three hd t
  have n1 := h.2.2.2.2.1 t
  have n2 := h.2.2.2.2.1 (t + 1)
  rw [show t + 1 + 1 = t + 2 by omega] at n2
  have b1 := h.2.2.2.2.2.2.1 t (v (t + 2)) (h.2.2.1 _) (fun q => n3 q.symm) (fun q => n2 q.symm) h0
  have b2 := h.2.2.2.2.2.2.1 (t + 1) (v t) (h.2.2.1 _) n1 (by rw [show t + 1 + 1 = t + 2 by omega]; exact n3) (by rw [show t + 1 + 1 = t + 2 by omega, gO_rot]; exact h0)
  rw [show t + 1 + 1 = t + 2 by omega] at b2
  have c : (X (v (t + 1)) - X (v t)) * (Y (v (t + 2)) - Y (v (t + 1))) - (Y (v (t + 1)) - Y (v t)) * (X (v (t + 2)) - X (v (t + 1))) = 0 := by
    rw [← h0]; unfold gO; grind
  have dA := hd _ (h.2.2.1 t) _ (h.2.2.1 (t + 1)) n1
  have dB := hd _ (h.2.2.1 (t + 1)) _ (h.2.2.1 (t + 2)) n2
  rcases par_or c (fun q => dA ⟨by omega, by omega⟩) (fun q => dB ⟨by omega, by omega⟩) with r | r
  · exact r
  · exfalso
    -- against each other: one of the two is between
    have i1 : gDot X Y (v (t + 2)) (v t) (v (t + 1)) + gDot X Y (v t) (v (t + 1)) (v (t + 2)) = gD X Y (v t) (v (t + 2)) := by unfold gDot gD; grind
    have i2 : gDot X Y (v (t + 2)) (v t) (v (t + 1)) = (X (v (t + 1)) - X (v t)) * (X (v (t + 2)) - X (v (t + 1))) + (Y (v (t + 1)) - Y (v t)) * (Y (v (t + 2)) - Y (v (t + 1))) + ((X (v (t + 2)) - X (v (t + 1))) * (X (v (t + 2)) - X (v (t + 1))) + (Y (v (t + 2)) - Y (v (t + 1))) * (Y (v (t + 2)) - Y (v (t + 1)))) := by unfold gDot; grind
    have i3 : gDot X Y (v t) (v (t + 1)) (v (t + 2)) = (X (v (t + 1)) - X (v t)) * (X (v (t + 2)) - X (v (t + 1))) + (Y (v (t + 1)) - Y (v t)) * (Y (v (t + 2)) - Y (v (t + 1))) + ((X (v (t + 1)) - X (v t)) * (X (v (t + 1)) - X (v t)) + (Y (v (t + 1)) - Y (v t)) * (Y (v (t + 1)) - Y (v t))) := by unfold gDot; grind
    have i4 : ((X (v (t + 1)) - X (v t)) * (X (v (t + 1)) - X (v t)) + (Y (v (t + 1)) - Y (v t)) * (Y (v (t + 1)) - Y (v t))) * ((X (v (t + 2)) - X (v (t + 1))) * (X (v (t + 2)) - X (v (t + 1))) + (Y (v (t + 2)) - Y (v (t + 1))) * (Y (v (t + 2)) - Y (v (t + 1)))) = ((X (v (t + 1)) - X (v t)) * (X (v (t + 2)) - X (v (t + 1))) + (Y (v (t + 1)) - Y (v t)) * (Y (v (t + 2)) - Y (v (t + 1)))) * ((X (v (t + 1)) - X (v t)) * (X (v (t + 2)) - X (v (t + 1))) + (Y (v (t + 1)) - Y (v t)) * (Y (v (t + 2)) - Y (v (t + 1)))) + ((X (v (t + 1)) - X (v t)) * (Y (v (t + 2)) - Y (v (t + 1))) - (Y (v (t + 1)) - Y (v t)) * (X (v (t + 2)) - X (v (t + 1)))) * ((X (v (t + 1)) - X (v t)) * (Y (v (t + 2)) - Y (v (t + 1))) - (Y (v (t + 1)) - Y (v t)) * (X (v (t + 2)) - X (v (t + 1)))) := by grind
    rw [c, Int.mul_zero, Int.add_zero] at i4
    generalize (X (v (t + 1)) - X (v t)) * (X (v (t + 2)) - X (v (t + 1))) + (Y (v (t + 1)) - Y (v t)) * (Y (v (t + 2)) - Y (v (t + 1))) = D at *
    generalize (X (v (t + 2)) - X (v (t + 1))) * (X (v (t + 2)) - X (v (t + 1))) + (Y (v (t + 2)) - Y (v (t + 1))) * (Y (v (t + 2)) - Y (v (t + 1))) = B at *
    generalize (X (v (t + 1)) - X (v t)) * (X (v (t + 1)) - X (v t)) + (Y (v (t + 1)) - Y (v t)) * (Y (v (t + 1)) - Y (v t)) = A at *
    -- -D < B and -D < A, but A B = D D
    have hD : 0 < -D := by omega
    have p1 : (-D) * (-D) < (-D) * B := Int.mul_lt_mul_of_pos_left (by omega) hD
    have p2 : (-D) * B < A * B := Int.mul_lt_mul_of_pos_right (by omega) (by omega)
    rw [Int.neg_mul_neg] at p1
    omega
theorem OUT.pos (h : OUT X Y n L v) {t : Nat} (hk : kept X Y v t) : 0 < gO X Y (v t) (v (t + 1)) (v (t + 2)) := by
  have := h.2.2.2.2.2.1 t (v (t + 2)) (h.2.2.1 _)
  unfold kept at hk
  omega
/-- the least point is kept -/
theorem OUT.first (h : OUT X Y n L v) (hd : ∀ i, i < n → ∀ j, j < n → i ≠ j → dif X Y i j) {t : Nat} (ht : t + 1 = L) : kept X Y v t := by
  by_cases hk : kept X Y v t
  · exact hk
  exfalso
  have s := h.straight hd hk
  have e0 : v (t + 1) = v 0 := by rw [ht, ← Nat.zero_add L]; exact h.2.1 0
  have n1 := h.2.2.2.2.1 t
  have n2 := h.2.2.2.2.1 (t + 1)
  rw [show t + 1 + 1 = t + 2 by omega] at n2
  rw [e0] at s n1 n2
  have l := h.2.2.2.2.2.2.2.1
  have l1 := l.2 (v t) (h.2.2.1 _) n1
  have l2 := l.2 (v (t + 2)) (h.2.2.1 _) (fun q => n2 q.symm)
  unfold gLess at l1 l2
  obtain ⟨-, s2⟩ := s
  have p1 : X (v 0) - X (v t) ≤ 0 := by omega
  have p2 : 0 ≤ X (v (t + 2)) - X (v 0) := by omega
  have m1 := Int.mul_nonpos_of_nonpos_of_nonneg p1 p2
  have m2 : (Y (v 0) - Y (v t)) * (Y (v (t + 2)) - Y (v 0)) ≤ 0 ∨ (X (v 0) - X (v t)) * (X (v (t + 2)) - X (v 0)) < 0 ∨ X (v 0) = X (v t) ∨ X (v 0) = X (v (t + 2)) := by
    by_cases c1 : X (v 0) = X (v t)
    · exact Or.inr (Or.inr (Or.inl c1))
    by_cases c2 : X (v 0) = X (v (t + 2))
    · exact Or.inr (Or.inr (Or.inr c2))
    exact Or.inr (Or.inl (Int.mul_neg_of_neg_of_pos (by omega) (by omega)))
  have s1 := (h.straight hd hk).1
  rw [e0] at s1
  by_cases c1 : X (v 0) = X (v t)
  · -- upright: the other is upright too
    have y1 : Y (v 0) - Y (v t) < 0 := by omega
    have e1 : X (v 0) - X (v t) = 0 := by omega
    rw [e1, Int.zero_mul] at s1
    have z : X (v (t + 2)) - X (v 0) = 0 := by
      rcases Int.mul_eq_zero.mp (show (Y (v 0) - Y (v t)) * (X (v (t + 2)) - X (v 0)) = 0 by omega) with r | r
      · omega
      · exact r
    have y2 : 0 < Y (v (t + 2)) - Y (v 0) := by omega
    have := Int.mul_neg_of_neg_of_pos y1 y2
    rw [e1, Int.zero_mul] at s2
    omega
  by_cases c2 : X (v 0) = X (v (t + 2))
  · have e1 : X (v (t + 2)) - X (v 0) = 0 := by omega
    have y2 : 0 < Y (v (t + 2)) - Y (v 0) := by omega
    rw [e1, Int.mul_zero] at s1
    rcases Int.mul_eq_zero.mp (show (X (v 0) - X (v t)) * (Y (v (t + 2)) - Y (v 0)) = 0 by omega) with r | r
    · omega
    · omega
  -- both aslant: their y go as their x
  have x1 : X (v 0) - X (v t) < 0 := by omega
  have x2 : 0 < X (v (t + 2)) - X (v 0) := by omega
  generalize X (v 0) - X (v t) = a at *
  generalize Y (v 0) - Y (v t) = b at *
  generalize X (v (t + 2)) - X (v 0) = c at *
  generalize Y (v (t + 2)) - Y (v 0) = d at *
  -- a d = b c, a < 0 < c, a c + b d > 0
  have e : c * (b * d) = a * (d * d) := by
    have : b * c = a * d := by omega
    calc c * (b * d) = (b * c) * d := by grind
      _ = (a * d) * d := by rw [this]
      _ = a * (d * d) := by grind
  have dd : 0 ≤ d * d := by
    rcases Int.le_total 0 d with q | q
    · exact Int.mul_nonneg q q
    · exact Int.mul_nonneg_of_nonpos_of_nonpos q q
  have ad := Int.mul_nonpos_of_nonpos_of_nonneg (Int.le_of_lt x1) dd
  have ac := Int.mul_neg_of_neg_of_pos x1 x2
  have bd : 0 < b * d := by omega
  have := Int.mul_pos x2 bd
  omega
end
section
variable {X Y : Nat → Int} {n L : Nat} {v : Nat → Nat}
/-- from one corner to the next -/
theorem OUT.next (h : OUT X Y n L v) (hd : ∀ i, i < n → ∀ j, j < n → i ≠ j → dif X Y i j) {i j : Nat} (hij : i < j) (hi : kept X Y v i) (hj : kept X Y v j) (hb : ∀ t, i < t → t < j → ¬ kept X Y v t) : nextC X Y n (v (i + 1)) (v (j + 1)) := by
  have ne := fun t => hd _ (h.2.2.1 t) _ (h.2.2.1 (t + 1)) (h.2.2.2.2.1 t)
  have A : ∀ k, i + 1 + k ≤ j → sdir (X (v (i + 1 + 1)) - X (v (i + 1))) (Y (v (i + 1 + 1)) - Y (v (i + 1))) (X (v (i + 1 + k + 1)) - X (v (i + 1 + k))) (Y (v (i + 1 + k + 1)) - Y (v (i + 1 + k))) := by
    intro k
    induction k with
    | zero =>
      intro _
      exact sdir.refl (fun q => ne (i + 1) ⟨by omega, by omega⟩)
    | succ k ih =>
      intro hk
      exact (ih (by omega)).trans (h.straight hd (hb (i + 1 + k) (by omega) (by omega)))
  have B : ∀ k, i + 1 + k ≤ j → sdir (X (v (i + 1 + 1)) - X (v (i + 1))) (Y (v (i + 1 + 1)) - Y (v (i + 1))) (X (v (i + 1 + k + 1)) - X (v (i + 1))) (Y (v (i + 1 + k + 1)) - Y (v (i + 1))) := by
    intro k
    induction k with
    | zero => intro hk; exact A 0 hk
    | succ k ih =>
      intro hk
      have t := (ih (by omega)).add (A (k + 1) hk)
      rw [show i + 1 + (k + 1) = i + 1 + k + 1 by omega] at t ⊢
      have e1 : X (v (i + 1 + k + 1)) - X (v (i + 1)) + (X (v (i + 1 + k + 1 + 1)) - X (v (i + 1 + k + 1))) = X (v (i + 1 + k + 1 + 1)) - X (v (i + 1)) := by omega
      have e2 : Y (v (i + 1 + k + 1)) - Y (v (i + 1)) + (Y (v (i + 1 + k + 1 + 1)) - Y (v (i + 1 + k + 1))) = Y (v (i + 1 + k + 1 + 1)) - Y (v (i + 1)) := by omega
      rw [e1, e2] at t
      exact t
  have a := A (j - (i + 1)) (by omega)
  have b := B (j - (i + 1)) (by omega)
  rw [show i + 1 + (j - (i + 1)) = j by omega] at a b
  have hi := h.pos hi
  have hj := h.pos hj
  refine ⟨h.2.2.1 _, fun q => ?_, fun k hk n1 n2 => ?_⟩
  · rw [q] at b
    have := b.2
    simp at this
  have dk1 := hd _ hk _ (h.2.2.1 (i + 1)) n1
  have dk2 := hd _ hk _ (h.2.2.1 (j + 1)) n2
  have g1 := h.2.2.2.2.2.1 (i + 1) k hk
  have g2 := h.2.2.2.2.2.1 i k hk
  have g3 := h.2.2.2.2.2.1 (j + 1) k hk
  have w0 : ¬ (X (v (j + 1)) - X (v (i + 1)) = 0 ∧ Y (v (j + 1)) - Y (v (i + 1)) = 0) := fun q => by have := b.2; rw [q.1, q.2] at this; simp at this
  have u0 : ¬ (X (v (i + 1 + 1)) - X (v (i + 1)) = 0 ∧ Y (v (i + 1 + 1)) - Y (v (i + 1)) = 0) := fun q => ne (i + 1) ⟨by omega, by omega⟩
  have z0 : ¬ (X k - X (v (i + 1)) = 0 ∧ Y k - Y (v (i + 1)) = 0) := fun q => dk1 ⟨by omega, by omega⟩
  have cr := b.cross (X k - X (v (i + 1))) (Y k - Y (v (i + 1)))
  have G1 : gO X Y (v (i + 1)) (v (i + 1 + 1)) k = (X (v (i + 1 + 1)) - X (v (i + 1))) * (Y k - Y (v (i + 1))) - (Y (v (i + 1 + 1)) - Y (v (i + 1))) * (X k - X (v (i + 1))) := rfl
  have G2 : gO X Y (v (i + 1)) (v (j + 1)) k = (X (v (j + 1)) - X (v (i + 1))) * (Y k - Y (v (i + 1))) - (Y (v (j + 1)) - Y (v (i + 1))) * (X k - X (v (i + 1))) := rfl
  rw [← G1, ← G2] at cr
  by_cases c : 0 < gO X Y (v (i + 1)) (v (i + 1 + 1)) k
  · exact Or.inl (cr.1.mp c)
  have c0 : gO X Y (v (i + 1)) (v (i + 1 + 1)) k = 0 := by omega
  have c1 := cr.2.mp c0
  refine Or.inr ⟨c1, ?_⟩
  have uz : sdir (X (v (i + 1 + 1)) - X (v (i + 1))) (Y (v (i + 1 + 1)) - Y (v (i + 1))) (X k - X (v (i + 1))) (Y k - Y (v (i + 1))) := by
    rcases par_or (G1.symm.trans c0) u0 z0 with r | r
    · exact r
    · exfalso
      refine turn_behind (d1 := X (v (i + 1)) - X (v i)) (d2 := Y (v (i + 1)) - Y (v i)) ?_ ?_ (G1.symm.trans c0) r
      · have e : gO X Y (v i) (v (i + 1)) (v (i + 2)) = (X (v (i + 1)) - X (v i)) * (Y (v (i + 1 + 1)) - Y (v (i + 1))) - (Y (v (i + 1)) - Y (v i)) * (X (v (i + 1 + 1)) - X (v (i + 1))) := by
          show gO X Y (v i) (v (i + 1)) (v (i + 1 + 1)) = _
          unfold gO; grind
        omega
      · have e : gO X Y (v i) (v (i + 1)) k = (X (v (i + 1)) - X (v i)) * (Y k - Y (v (i + 1))) - (Y (v (i + 1)) - Y (v i)) * (X k - X (v (i + 1))) := by unfold gO; grind
        omega
  have wz := b.symm.trans uz
  have zw0 : ¬ (X k - X (v (i + 1)) - (X (v (j + 1)) - X (v (i + 1))) = 0 ∧ Y k - Y (v (i + 1)) - (Y (v (j + 1)) - Y (v (i + 1))) = 0) := fun q => dk2 ⟨by omega, by omega⟩
  have cz : (X (v (j + 1)) - X (v (i + 1))) * (Y k - Y (v (i + 1)) - (Y (v (j + 1)) - Y (v (i + 1)))) - (Y (v (j + 1)) - Y (v (i + 1))) * (X k - X (v (i + 1)) - (X (v (j + 1)) - X (v (i + 1)))) = 0 := by
    rw [← G2.symm.trans c1]; grind
  have sh : (X (v (j + 1)) - X (v (i + 1))) * (X k - X (v (i + 1)) - (X (v (j + 1)) - X (v (i + 1)))) + (Y (v (j + 1)) - Y (v (i + 1))) * (Y k - Y (v (i + 1)) - (Y (v (j + 1)) - Y (v (i + 1)))) < 0 := by
    rcases par_or cz w0 zw0 with r | r
    · exfalso
      refine turn_beyond (d1 := X (v (j + 1)) - X (v j)) (d2 := Y (v (j + 1)) - Y (v j)) (u1 := X (v (j + 1 + 1)) - X (v (j + 1))) (u2 := Y (v (j + 1 + 1)) - Y (v (j + 1))) ?_ ?_ (a.symm.trans (b.trans r))
      · have e : gO X Y (v j) (v (j + 1)) (v (j + 2)) = (X (v (j + 1)) - X (v j)) * (Y (v (j + 1 + 1)) - Y (v (j + 1))) - (Y (v (j + 1)) - Y (v j)) * (X (v (j + 1 + 1)) - X (v (j + 1))) := by
          show gO X Y (v j) (v (j + 1)) (v (j + 1 + 1)) = _
          unfold gO; grind
        omega
      · have e : gO X Y (v (j + 1)) (v (j + 1 + 1)) k = (X (v (j + 1 + 1)) - X (v (j + 1))) * (Y k - Y (v (i + 1)) - (Y (v (j + 1)) - Y (v (i + 1)))) - (Y (v (j + 1 + 1)) - Y (v (j + 1))) * (X k - X (v (i + 1)) - (X (v (j + 1)) - X (v (i + 1)))) := by unfold gO; grind
        omega
    · exact r
  have s := shorter wz sh
  have e1 : D2 X Y (v (i + 1)) (X k) (Y k) = (X k - X (v (i + 1))) * (X k - X (v (i + 1))) + (Y k - Y (v (i + 1))) * (Y k - Y (v (i + 1))) := by unfold D2; grind
  have e2 : D2 X Y (v (i + 1)) (X (v (j + 1))) (Y (v (j + 1))) = (X (v (j + 1)) - X (v (i + 1))) * (X (v (j + 1)) - X (v (i + 1))) + (Y (v (j + 1)) - Y (v (i + 1))) * (Y (v (j + 1)) - Y (v (i + 1))) := by unfold D2; grind
  rw [e1, e2]
  exact s
/-- the corners among them, from the t-th on -/
def rowC (X Y : Nat → Int) (v : Nat → Nat) : Nat → Nat → List Nat
  | 0, _ => []
  | d + 1, t => if gO X Y (v t) (v (t + 1)) (v (t + 2)) ≠ 0 then v (t + 1) :: rowC X Y v d (t + 1) else rowC X Y v d (t + 1)
def CHN (R : Nat → Nat → Prop) : List Nat → Prop
  | a :: b :: l => R a b ∧ CHN R (b :: l)
  | _ => True
theorem CHN.at {R : Nat → Nat → Prop} : ∀ (l : List Nat), CHN R l → ∀ i, i + 1 < l.length → R (l.getD i 0) (l.getD (i + 1) 0)
  | [], _, i, hi => absurd hi (Nat.not_lt_zero _)
  | [_], _, i, hi => by simp at hi
  | a :: b :: l, h, i, hi => by
    cases i with
    | zero => exact h.1
    | succ i => exact CHN.at (b :: l) h.2 i (by simpa using hi)
theorem kept_per (h : OUT X Y n L v) (t : Nat) : kept X Y v (t + L) ↔ kept X Y v t := by
  unfold kept
  rw [show t + L + 1 = t + 1 + L by omega, show t + L + 2 = t + 2 + L by omega, h.2.1, h.2.1, h.2.1]
theorem rowC_per (h : OUT X Y n L v) : ∀ d t, rowC X Y v d (t + L) = rowC X Y v d t := by
  intro d
  induction d with
  | zero => intro t; rfl
  | succ d ih =>
    intro t
    have e1 := h.2.1 t
    have e2 := h.2.1 (t + 1)
    have e3 := h.2.1 (t + 2)
    unfold rowC
    rw [show t + L + 1 = t + 1 + L by omega, show t + L + 2 = t + 2 + L by omega, e1, e2, e3, ih]
theorem rowC_chain (h : OUT X Y n L v) (hd : ∀ i, i < n → ∀ j, j < n → i ≠ j → dif X Y i j) : ∀ d t i, t + d + 1 = L + L → i < t → kept X Y v i → (∀ k, i < k → k < t → ¬ kept X Y v k) → CHN (nextC X Y n) (v (i + 1) :: (rowC X Y v d t ++ [v 0])) := by
  have e0 : ∀ t, t + 1 = L + L → v (t + 1) = v 0 := fun t ht => by rw [ht, h.2.1, ← Nat.zero_add L, h.2.1]
  intro d
  induction d with
  | zero =>
    intro t i ht hit hi hb
    refine ⟨?_, True.intro⟩
    have kt : kept X Y v t := by
      have := h.1
      rw [show t = (L - 1) + L by omega, kept_per h]
      exact h.first hd (by omega)
    have := h.next hd hit hi kt hb
    rw [e0 t (by omega)] at this
    exact this
  | succ d ih =>
    intro t i ht hit hi hb
    by_cases c : gO X Y (v t) (v (t + 1)) (v (t + 2)) ≠ 0
    · have e : rowC X Y v (d + 1) t = v (t + 1) :: rowC X Y v d (t + 1) := by rw [rowC, if_pos c]
      rw [e]
      exact ⟨h.next hd hit hi c hb, ih (t + 1) t (by omega) (by omega) c (fun k a b => by omega)⟩
    · have e : rowC X Y v (d + 1) t = rowC X Y v d (t + 1) := by rw [rowC, if_neg c]
      rw [e]
      refine ih (t + 1) i (by omega) (by omega) hi (fun k a b => ?_)
      by_cases q : k = t
      · rw [q]; exact c
      · exact hb k a (by omega)
theorem rowC_mem : ∀ d t, ∀ x ∈ rowC X Y v d t, ∃ k, t < k ∧ k ≤ t + d ∧ x = v k := by
  intro d
  induction d with
  | zero => intro t x hx; exact absurd hx List.not_mem_nil
  | succ d ih =>
    intro t x hx
    rw [rowC] at hx
    split at hx
    · rcases List.mem_cons.mp hx with q | q
      · exact ⟨t + 1, by omega, by omega, q⟩
      · obtain ⟨k, a, b, c⟩ := ih (t + 1) x q
        exact ⟨k, by omega, by omega, c⟩
    · obtain ⟨k, a, b, c⟩ := ih (t + 1) x hx
      exact ⟨k, by omega, by omega, c⟩
theorem rowC_len : ∀ d t, (rowC X Y v d t).length ≤ d := by
  intro d
  induction d with
  | zero => intro t; exact Nat.le_refl _
  | succ d ih =>
    intro t
    have := ih (t + 1)
    rw [rowC]
    split
    · rw [List.length_cons]; omega
    · omega
/-- the corners -/
theorem OUT.corn (h : OUT X Y n L v) (hd : ∀ i, i < n → ∀ j, j < n → i ≠ j → dif X Y i j) : CORN X Y n (v 0 :: rowC X Y v (L - 1) 0) := by
  have hL := h.1
  have ch := rowC_chain h hd (L - 1) L (L - 1) (by omega) (by omega) (h.first hd (by omega)) (fun k a b => by omega)
  rw [show L - 1 + 1 = 0 + L by omega, h.2.1] at ch
  have rp := rowC_per h (L - 1) 0
  rw [Nat.zero_add] at rp
  rw [rp] at ch
  have n0 : 0 < n := Nat.lt_of_le_of_lt (Nat.zero_le _) (h.2.2.1 0)
  generalize hR : rowC X Y v (L - 1) 0 = R at ch
  have at' := CHN.at _ ch
  have ga : ∀ i, i < (v 0 :: R).length → (v 0 :: (R ++ [v 0])).getD i 0 = (v 0 :: R).getD i 0 := fun i hi => by
    rw [← List.cons_append, List.getD_eq_getElem?_getD, List.getElem?_append_left hi, ← List.getD_eq_getElem?_getD]
  have gl : (v 0 :: (R ++ [v 0])).getD (v 0 :: R).length 0 = v 0 := by
    rw [← List.cons_append, List.getD_eq_getElem?_getD, List.getElem?_append_right (Nat.le_refl _)]
    simp
  have len : (v 0 :: (R ++ [v 0])).length = (v 0 :: R).length + 1 := by simp
  refine Or.inr ⟨n0, by simp, h.2.2.2.2.2.2.2.1, fun i hi => ⟨?_, ?_⟩, Or.inr ?_⟩
  · have t := at' i (by omega)
    rw [ga i (by omega), ga (i + 1) hi] at t
    exact t
  · have hi' : i < R.length := by simpa using hi
    show R.getD i 0 ≠ v 0
    rw [List.getD_eq_getElem?_getD, List.getElem?_eq_getElem hi']
    obtain ⟨k, a, b, c⟩ := rowC_mem (X := X) (Y := Y) (v := v) (L - 1) 0 R[i] (by rw [hR]; exact List.getElem_mem hi')
    show R[i] ≠ v 0
    rw [c]
    exact fun q => h.2.2.2.1 0 k a (by omega) q.symm
  · have t := at' ((v 0 :: R).length - 1) (by rw [len]; simp)
    rw [ga _ (by simp), show (v 0 :: R).length - 1 + 1 = (v 0 :: R).length by simp, gl] at t
    exact t
end
section
variable {X Y : Nat → Int} {P : List Nat} {N G m n : Nat} {s tw : Nat → Nat}
/-- from an edge to the ghost to that of the next outer point -/
def sig (tw : Nat → Nat) (e : Nat) : Nat := tw (nx e)
theorem sig_inj (hD : NetD X Y G P m s tw) : ∀ e, e < 3 * m → ∀ e', e' < 3 * m → sig tw e = sig tw e' → e = e' := by
  intro e he e' he' h
  have a := (hD.1 _ (nx_lt he)).2.1
  have b := (hD.1 _ (nx_lt he')).2.1
  unfold sig at h
  rw [h] at a
  exact nx_inj (a.symm.trans b)
theorem sig_ok (hP : PtsL X Y N G P) (hD : NetD X Y G P m s tw) {e : Nat} (he : e < 3 * m) (hG : s (nx e) = G) : sig tw e < 3 * m ∧ s (nx (sig tw e)) = G ∧ s (sig tw e) = s (nx (nx e)) ∧ s e ≠ G ∧ outerE X Y P (s (nx (nx e))) (s e) := by
  have w := hD.1 _ (nx_lt he)
  have g := ghost_one hP hD _ (nx_lt he) hG
  rw [nx3] at g
  have o := (NetD.outer hP hD (nx_lt (nx_lt he)) g.1 (by rw [nx3]; exact g.2) (sol_no (Or.inr (Or.inr (by rw [nx3]; exact hG))))).2
  rw [nx3] at o
  exact ⟨w.1, by show s (nx (tw (nx e))) = G; rw [w.2.2.2]; exact hG, w.2.2.1, g.2, o⟩
theorem itr_sig (hP : PtsL X Y N G P) (hD : NetD X Y G P m s tw) {e : Nat} (he : e < 3 * m) (hG : s (nx e) = G) : ∀ i, itr (sig tw) i e < 3 * m ∧ s (nx (itr (sig tw) i e)) = G := by
  intro i
  induction i with
  | zero => exact ⟨he, hG⟩
  | succ i ih =>
    have t := sig_ok hP hD ih.1 ih.2
    exact ⟨t.1, t.2.1⟩
theorem out_of (hP : PtsL X Y N G P) (hD : NetD X Y G P m s tw) (hn : ∀ i, i ∈ P ↔ i < n) {e0 : Nat} (he0 : e0 < 3 * m) (h0 : leastP X Y n (s e0)) (hG : s (nx e0) = G) : ∃ L, OUT X Y n L (fun i => s (itr (sig tw) i e0)) ∧ L ≤ n ∧ itr (sig tw) L e0 = e0 ∧ ∀ i, 0 < i → i < L → itr (sig tw) i e0 ≠ e0 := by
  have hlt := itr_sig hP hD he0 hG
  obtain ⟨L, L0, hL, hne⟩ : ∃ L, 0 < L ∧ itr (sig tw) L e0 = e0 ∧ ∀ i j, i < j → j < L → itr (sig tw) i e0 ≠ itr (sig tw) j e0 := orbit (fun e he => (hD.1 _ (nx_lt he)).1) (sig_inj hD) he0
  have ok := fun i => sig_ok hP hD (hlt i).1 (hlt i).2
  have mem : ∀ i, s (itr (sig tw) i e0) ∈ P := fun i => (ok i).2.2.2.2.2.1
  have vn : ∀ i, s (itr (sig tw) i e0) < n := fun i => (hn _).mp (mem i)
  have nxt : ∀ i, s (itr (sig tw) (i + 1) e0) = s (nx (nx (itr (sig tw) i e0))) := fun i => (ok i).2.2.1
  have inj : ∀ i j, i < j → j < L → s (itr (sig tw) i e0) ≠ s (itr (sig tw) j e0) := fun i j hij hj q => hne i j hij hj (hD.2.2 _ (hlt i).1 _ (hlt j).1 q (by rw [(hlt i).2, (hlt j).2]))
  refine ⟨L, ⟨L0, fun i => ?_, vn, inj, fun i q => ?_, fun i k hk => ?_, fun i k hk n1 n2 z => ?_, h0, ?_⟩, ?_, hL, fun i a b => fun q => hne 0 i a b q.symm⟩
  · show s (itr (sig tw) (i + L) e0) = _
    rw [itr_add, hL]
  · have q : s (itr (sig tw) i e0) = s (itr (sig tw) (i + 1) e0) := q
    rw [nxt i] at q
    exact (ok i).2.2.2.2.2.2.1 q.symm
  · show 0 ≤ gO X Y (s (itr (sig tw) i e0)) (s (itr (sig tw) (i + 1) e0)) k
    rw [nxt i]
    have o := (ok i).2.2.2.2
    by_cases c1 : k = s (nx (nx (itr (sig tw) i e0)))
    · rw [c1, gO_22]; exact Int.le_refl _
    by_cases c2 : k = s (itr (sig tw) i e0)
    · rw [c2, gO_12]; exact Int.le_refl _
    have := o.2.2.2 k ((hn k).mpr hk) c1 c2
    have t : ¬ 0 < gO X Y (s (nx (nx (itr (sig tw) i e0)))) (s (itr (sig tw) i e0)) k := fun z => this (Or.inl z)
    rw [gO_swap] at t
    omega
  · show 0 < gDot X Y k (s (itr (sig tw) i e0)) (s (itr (sig tw) (i + 1) e0))
    have n2 : k ≠ s (itr (sig tw) (i + 1) e0) := n2
    have z : gO X Y (s (itr (sig tw) i e0)) (s (itr (sig tw) (i + 1) e0)) k = 0 := z
    rw [nxt i] at z n2 ⊢
    have o := (ok i).2.2.2.2
    have kP := (hn k).mpr hk
    have ns := o.2.2.2 k kP n2 n1
    have z' : gO X Y (s (nx (nx (itr (sig tw) i e0)))) (s (itr (sig tw) i e0)) k = 0 := by rw [gO_swap]; omega
    have d1 := hP.2.1 _ kP _ o.1 n2
    have d2 := hP.2.1 _ kP _ (mem i) n1
    have b := between z' d1 d2
    have nd : ¬ gDot X Y k (s (nx (nx (itr (sig tw) i e0)))) (s (itr (sig tw) i e0)) < 0 := fun q => ns (Or.inr ⟨z', b.mpr q⟩)
    have nz := dot_ne z' d1 d2
    have e : gDot X Y k (s (itr (sig tw) i e0)) (s (nx (nx (itr (sig tw) i e0)))) = gDot X Y k (s (nx (nx (itr (sig tw) i e0)))) (s (itr (sig tw) i e0)) := by unfold gDot; grind
    omega
  · obtain ⟨a, ha, b, hb, c, hc, ne⟩ := hP.2.2.2
    exact ⟨a, b, c, (hn a).mp ha, (hn b).mp hb, (hn c).mp hc, ne⟩
  · have := nodup_le (l1 := (List.range L).map fun i => s (itr (sig tw) i e0)) (l2 := List.range n) (by
      unfold List.Nodup
      rw [List.pairwise_map]
      refine List.Pairwise.imp_of_mem ?_ (List.pairwise_lt_range (n := L))
      intro a b ha hb hab
      exact inj a b hab (List.mem_range.mp hb)) (fun x hx => by
      obtain ⟨i, -, rfl⟩ := List.mem_map.mp hx
      exact List.mem_range.mpr (vn i))
    rw [List.length_map, List.length_range, List.length_range] at this
    exact this
/-- seen from the least point the others are in a half -/
theorem half_trans {v a b c : Nat} (ha : gLess X Y v a) (hb : gLess X Y v b) (hc : gLess X Y v c) (h1 : 0 < gO X Y v a b) (h2 : 0 < gO X Y v b c) : 0 < gO X Y v a c := by
  have e : (X b - X v) * gO X Y v a c = (X a - X v) * gO X Y v b c + (X c - X v) * gO X Y v a b := by unfold gO; grind
  unfold gLess at ha hb hc
  by_cases cb : X b - X v = 0
  · exfalso
    have e2 : gO X Y v b c = - ((Y b - Y v) * (X c - X v)) := by unfold gO; rw [cb]; grind
    have := Int.mul_nonneg (show 0 ≤ Y b - Y v by omega) (show 0 ≤ X c - X v by omega)
    omega
  have pb : 0 < X b - X v := by omega
  have ca : X a - X v ≠ 0 := by
    intro q
    have e2 : gO X Y v a b = - ((Y a - Y v) * (X b - X v)) := by unfold gO; rw [q]; grind
    have := Int.mul_nonneg (show 0 ≤ Y a - Y v by omega) (show 0 ≤ X b - X v by omega)
    omega
  have m1 := Int.mul_pos (show 0 < X a - X v by omega) h2
  have m2 := Int.mul_nonneg (show 0 ≤ X c - X v by omega) (Int.le_of_lt h1)
  exact Int.pos_of_mul_pos_right (a := X b - X v) (by omega) pb
/-- the least point is an outer one -/
theorem least_outer (hP : PtsL X Y N G P) (hD : NetD X Y G P m s tw) (hn : ∀ i, i ∈ P ↔ i < n) {e0 : Nat} (he0 : e0 < 3 * m) (h0 : leastP X Y n (s e0)) : ∃ i, s (nx (itr (rho tw) i e0)) = G := by
  by_cases q : ∃ i, s (nx (itr (rho tw) i e0)) = G
  · exact q
  exfalso
  have nG : ∀ i, s (nx (itr (rho tw) i e0)) ≠ G := fun i r => q ⟨i, r⟩
  have hv : s e0 ∈ P := (hn _).mpr h0.1
  have so : ∀ i, solid X Y P (s e0) (s (nx (itr (rho tw) i e0))) (s (nx (itr (rho tw) (i + 1) e0))) := fun i => by
    have ii := itr_rho hD he0 i
    have en : s (nx (itr (rho tw) (i + 1) e0)) = s (nx (nx (itr (rho tw) i e0))) := rho_end hD ii.1
    have t := hD.solid ii.1 (sol_edge.mpr ⟨by rw [ii.2]; exact (hP.1 _ hv).2.2, nG i, by rw [← en]; exact nG (i + 1)⟩)
    rw [en]
    rw [ii.2] at t
    exact t
  have ls : ∀ i, gLess X Y (s e0) (s (nx (itr (rho tw) i e0))) := fun i => h0.2 _ ((hn _).mp (so i).2.1) (fun r => (so i).2.2.2.1 r.symm)
  have up : ∀ i, 0 < gO X Y (s e0) (s (nx e0)) (s (nx (itr (rho tw) (i + 1) e0))) := fun i => by
    induction i with
    | zero => exact (so 0).2.2.2.2.2.2.1
    | succ i ih => exact half_trans (ls 0) (ls (i + 1)) (ls (i + 2)) ih (so (i + 1)).2.2.2.2.2.2.1
  obtain ⟨L, L0, hL, -⟩ := orbit (fun e he => rho_lt hD he) (rho_inj hD) he0
  have u := up (L - 1)
  rw [show L - 1 + 1 = L by omega, hL, gO_22] at u
  omega
/-- a round has at most an edge for each point and one for the ghost -/
theorem round_len (hP : PtsL X Y N G P) (hD : NetD X Y G P m s tw) (hn : ∀ i, i ∈ P ↔ i < n) {e0 L : Nat} (he0 : e0 < 3 * m) (hv : s e0 ∈ P) (hne : ∀ i j, i < j → j < L → itr (rho tw) i e0 ≠ itr (rho tw) j e0) : L ≤ n + 1 := by
  have ii := itr_rho hD he0
  have := nodup_le (l1 := (List.range L).map fun i => s (nx (itr (rho tw) i e0))) (l2 := G :: List.range n) (by
    unfold List.Nodup
    rw [List.pairwise_map]
    refine List.Pairwise.imp_of_mem ?_ (List.pairwise_lt_range (n := L))
    intro a b ha hb hab q
    exact hne a b hab (List.mem_range.mp hb) (hD.2.2 _ (ii a).1 _ (ii b).1 (by rw [(ii a).2, (ii b).2]) q)) (fun x hx => by
    obtain ⟨i, -, rfl⟩ := List.mem_map.mp hx
    by_cases c : s (nx (itr (rho tw) i e0)) = G
    · rw [c]; exact List.mem_cons_self ..
    · refine List.mem_cons_of_mem _ (List.mem_range.mpr ((hn _).mp ?_))
      exact (edge_EDG hP hD (ii i).1 (by rw [(ii i).2]; exact (hP.1 _ hv).2.2) c).2.2.1)
  rw [List.length_map, List.length_range, List.length_cons, List.length_range] at this
  exact this
end
