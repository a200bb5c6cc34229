/-! GEOMETRY 1: turns and heights over whole numbers -/
/-- twice the area of a, b, c: above 0, when c is left of the way from a to b -/
def gO (X Y : Nat → Int) (a b c : Nat) : Int := (X b - X a) * (Y c - Y a) - (Y b - Y a) * (X c - X a)
/-- above 0, when d lies below the plane through a, b, c (left round, seen from above) -/
def gV (X Y Z : Nat → Int) (a b c d : Nat) : Int :=
  (X a - X d) * ((Y b - Y d) * (Z c - Z d) - (Z b - Z d) * (Y c - Y d)) - (Y a - Y d) * ((X b - X d) * (Z c - Z d) - (Z b - Z d) * (X c - X d)) + (Z a - Z d) * ((X b - X d) * (Y c - Y d) - (Y b - Y d) * (X c - X d))
theorem gO_rot (X Y : Nat → Int) (a b c : Nat) : gO X Y b c a = gO X Y a b c := by unfold gO; grind
theorem gO_swap (X Y : Nat → Int) (a b c : Nat) : gO X Y b a c = - gO X Y a b c := by unfold gO; grind
theorem gV_rot (X Y Z : Nat → Int) (a b c d : Nat) : gV X Y Z b c a d = gV X Y Z a b c d := by unfold gV; grind
theorem gV_swap (X Y Z : Nat → Int) (a b c d : Nat) : gV X Y Z b a c d = - gV X Y Z a b c d := by unfold gV; grind
theorem gV_swap' (X Y Z : Nat → Int) (a b c d : Nat) : gV X Y Z a b d c = - gV X Y Z a b c d := by unfold gV; grind
set_option maxRecDepth 100000 in
set_option maxHeartbeats 4000000 in
/-- the pencil of planes through a and b -/
theorem gV_pencil (X Y Z : Nat → Int) (a b c d p x : Nat) : gV X Y Z a b p x * gV X Y Z a b c d = gV X Y Z a b x d * gV X Y Z a b p c + gV X Y Z a b c x * gV X Y Z a b p d := by unfold gV; grind
/-- with turns at a, b -/
theorem gV_turns (X Y Z : Nat → Int) (a b c d p : Nat) : gV X Y Z a b c d * gO X Y a b p = gV X Y Z a b c p * gO X Y a b d - gV X Y Z a b d p * gO X Y a b c := by unfold gV gO; grind
/-- what the class sums up for the test of a circle -/
def gDot (X Y : Nat → Int) (f a b : Nat) : Int := (X a - X f) * (X b - X f) + (Y a - Y f) * (Y b - Y f)
theorem gV_circle (X Y : Nat → Int) (a b c d : Nat) : gO X Y c a b * gDot X Y d a b + gO X Y d b a * gDot X Y c a b = - gV X Y (fun i => X i * X i + Y i * Y i) a b c d := by unfold gO gDot gV; grind
/-- the heights' shares -/
theorem gV_heights (X Y Z : Nat → Int) (a b c d : Nat) : gV X Y Z a b c d = Z a * gO X Y b c d + Z b * gO X Y c a d + Z c * gO X Y a b d - Z d * gO X Y a b c := by unfold gV gO; grind
theorem gO_sum (X Y : Nat → Int) (a b c d : Nat) : gO X Y b c d + gO X Y c a d + gO X Y a b d = gO X Y a b c := by unfold gO; grind
/-! GEOMETRY 3: the least point's share decides -/
theorem share_bound {w o B : Int} (hw : 0 < w) (h1 : -B ≤ o) (h2 : o ≤ B) : -(w * B) ≤ w * o ∧ w * o ≤ w * B := by
  have q1 := Int.mul_le_mul_of_nonneg_left h1 (Int.le_of_lt hw)
  have q2 := Int.mul_le_mul_of_nonneg_left h2 (Int.le_of_lt hw)
  rw [Int.mul_neg] at q1
  exact ⟨q1, q2⟩
/-- three shares together stay below the first one's weight -/
theorem shares_small {w wb wc wd ob oc od B K : Int} (hb : 0 < wb) (hc : 0 < wc) (hd : 0 < wd) (kb : wb * K ≤ w) (kc : wc * K ≤ w) (kd : wd * K ≤ w) (hK : 3 * B < K) (b1 : -B ≤ ob) (b2 : ob ≤ B) (c1 : -B ≤ oc) (c2 : oc ≤ B) (d1 : -B ≤ od) (d2 : od ≤ B) :
    -w < wb * ob + wc * oc + wd * od ∧ wb * ob + wc * oc + wd * od < w := by
  have q1 := share_bound hb b1 b2
  have q2 := share_bound hc c1 c2
  have q3 := share_bound hd d1 d2
  have r1 := Int.mul_lt_mul_of_pos_left hK hb
  have r2 := Int.mul_lt_mul_of_pos_left hK hc
  have r3 := Int.mul_lt_mul_of_pos_left hK hd
  have e1 : wb * (3 * B) = 3 * (wb * B) := by grind
  have e2 : wc * (3 * B) = 3 * (wc * B) := by grind
  have e3 : wd * (3 * B) = 3 * (wd * B) := by grind
  rw [e1] at r1
  rw [e2] at r2
  rw [e3] at r3
  omega
theorem share_pos {w oa r : Int} (hw : 0 < w) (h : 0 < oa) (h1 : -w < r) : 0 < w * oa + r := by
  have q := Int.mul_le_mul_of_nonneg_left (show (1 : Int) ≤ oa by omega) (Int.le_of_lt hw)
  rw [Int.mul_one] at q
  omega
theorem share_neg {w oa r : Int} (hw : 0 < w) (h : oa < 0) (h1 : r < w) : w * oa + r < 0 := by
  have q := Int.mul_le_mul_of_nonneg_left (show oa ≤ -1 by omega) (Int.le_of_lt hw)
  rw [Int.mul_neg, Int.mul_one] at q
  omega
/-- turns of points of the plane as the document has it -/
theorem gO_bound {X Y : Nat → Int} {a b c : Nat} (hX : ∀ i ∈ [a, b, c], -1000000000 ≤ X i ∧ X i ≤ 1000000000) (hY : ∀ i ∈ [a, b, c], -1000000000 ≤ Y i ∧ Y i ≤ 1000000000) : -8000000000000000000 ≤ gO X Y a b c ∧ gO X Y a b c ≤ 8000000000000000000 := by
  have xa := hX a (by simp)
  have xb := hX b (by simp)
  have xc := hX c (by simp)
  have ya := hY a (by simp)
  have yb := hY b (by simp)
  have yc := hY c (by simp)
  have pr : ∀ u v : Int, -2000000000 ≤ u → u ≤ 2000000000 → -2000000000 ≤ v → v ≤ 2000000000 → -4000000000000000000 ≤ u * v ∧ u * v ≤ 4000000000000000000 := by
    intro u v h1 h2 h3 h4
    have q1 : 0 ≤ (2000000000 - u) * (2000000000 - v) := Int.mul_nonneg (by omega) (by omega)
    have q2 : 0 ≤ (2000000000 + u) * (2000000000 + v) := Int.mul_nonneg (by omega) (by omega)
    have q3 : 0 ≤ (2000000000 - u) * (2000000000 + v) := Int.mul_nonneg (by omega) (by omega)
    have q4 : 0 ≤ (2000000000 + u) * (2000000000 - v) := Int.mul_nonneg (by omega) (by omega)
    constructor <;> grind
  have q1 := pr (X b - X a) (Y c - Y a) (by omega) (by omega) (by omega) (by omega)
  have q2 := pr (Y b - Y a) (X c - X a) (by omega) (by omega) (by omega) (by omega)
  unfold gO
  omega
/-! GEOMETRY 4: weights that grow fast towards the least point -/
def gLess (X Y : Nat → Int) (i j : Nat) : Prop := X i < X j ∨ (X i = X j ∧ Y i < Y j)
theorem gLess_trans {X Y : Nat → Int} {i j k : Nat} (h1 : gLess X Y i j) (h2 : gLess X Y j k) : gLess X Y i k := by unfold gLess at *; omega
theorem gLess_irr {X Y : Nat → Int} {i : Nat} (h : gLess X Y i i) : False := by unfold gLess at h; omega
theorem gLess_tri {X Y : Nat → Int} {i j : Nat} (h : ¬ (X i = X j ∧ Y i = Y j)) : gLess X Y i j ∨ gLess X Y j i := by unfold gLess; omega
theorem countP_lt {α : Type} (p q : α → Bool) : ∀ l : List α, (∀ x ∈ l, p x = true → q x = true) → (∃ x ∈ l, q x = true ∧ p x = false) → l.countP p < l.countP q := by
  intro l
  induction l with
  | nil => intro _ ⟨x, hx, _⟩; cases hx
  | cons y l ih =>
    intro h ⟨x, hx, hq, hp⟩
    have hmono : l.countP p ≤ l.countP q := List.countP_mono_left (fun z hz => h z (List.mem_cons_of_mem _ hz))
    rcases List.mem_cons.mp hx with rfl | hx
    · simp only [List.countP_cons, hq, hp]
      simp
      omega
    · have h2 := ih (fun z hz => h z (List.mem_cons_of_mem _ hz)) ⟨x, hx, hq, hp⟩
      have h3 := h y List.mem_cons_self
      simp only [List.countP_cons]
      cases hpy : p y
      · cases hqy : q y <;> simp <;> omega
      · rw [h3 hpy]; simp; omega
noncomputable def gRank (X Y : Nat → Int) (N i : Nat) : Nat := (List.range N).countP (fun j => decide (X i < X j ∨ (X i = X j ∧ Y i < Y j)))
theorem gRank_lt {X Y : Nat → Int} {N i j : Nat} (hj : j < N) (h : gLess X Y i j) : gRank X Y N j < gRank X Y N i := by
  refine countP_lt _ _ _ (fun k _ hk => ?_) ⟨j, List.mem_range.mpr hj, ?_, ?_⟩
  · have h2 : X j < X k ∨ (X j = X k ∧ Y j < Y k) := of_decide_eq_true hk
    exact decide_eq_true (p := X i < X k ∨ (X i = X k ∧ Y i < Y k)) (gLess_trans h h2)
  · exact decide_eq_true (p := X i < X j ∨ (X i = X j ∧ Y i < Y j)) h
  · exact decide_eq_false (p := X j < X j ∨ (X j = X j ∧ Y j < Y j)) (fun h2 => gLess_irr (X := X) (Y := Y) (i := j) h2)
def gK : Int := 24000000000000000001
noncomputable def gW (X Y : Nat → Int) (N i : Nat) : Int := gK ^ gRank X Y N i
theorem gW_pos (X Y : Nat → Int) (N i : Nat) : 0 < gW X Y N i := Int.pow_pos (by decide)
theorem gW_far {X Y : Nat → Int} {N i j : Nat} (hj : j < N) (h : gLess X Y i j) : gW X Y N j * gK ≤ gW X Y N i := by
  have hr := gRank_lt hj h
  obtain ⟨k, hk⟩ : ∃ k, gRank X Y N i = gRank X Y N j + 1 + k := ⟨gRank X Y N i - gRank X Y N j - 1, by omega⟩
  unfold gW
  rw [hk, Int.pow_add, Int.pow_succ]
  have h1 : 0 < gK ^ gRank X Y N j * gK := Int.mul_pos (Int.pow_pos (by decide)) (by decide)
  have h2 : 1 ≤ gK ^ k := Int.pow_pos (by decide)
  have := Int.mul_le_mul_of_nonneg_left h2 (Int.le_of_lt h1)
  rw [Int.mul_one] at this
  exact this
/-! GEOMETRY 5: heights -/
def gQ (X Y : Nat → Int) (i : Nat) : Int := X i * X i + Y i * Y i
/-- the circle's test with heights of weight: linear -/
theorem gV_lin (X Y U V : Nat → Int) (M : Int) (a b c d : Nat) : gV X Y (fun i => M * U i - V i) a b c d = M * gV X Y U a b c d - gV X Y V a b c d := by unfold gV; grind
/-- a line meets a circle in two points at most -/
theorem circle_line {X Y : Nat → Int} {a b c d : Nat} (h0 : gV X Y (gQ X Y) a b c d = 0) (h1 : gO X Y a b c ≠ 0) (h2 : gO X Y b c d = 0) : gDot X Y d b c = 0 := by
  have e := gV_circle X Y b c a d
  have r : gV X Y (fun i => X i * X i + Y i * Y i) b c a d = gV X Y (gQ X Y) a b c d := gV_rot X Y (gQ X Y) a b c d
  rw [r, h0] at e
  have s1 : gO X Y a b c * gDot X Y d b c + gO X Y d c b * gDot X Y a b c = 0 := by simpa using e
  have s2 : gO X Y d c b = 0 := by
    have := gO_rot X Y d c b
    have := gO_swap X Y b c d
    have := gO_rot X Y b c d
    have := gO_rot X Y c d b
    have := gO_swap X Y c d b
    unfold gO at *; grind
  rw [s2, Int.zero_mul, Int.add_zero] at s1
  rcases Int.mul_eq_zero.mp s1 with h | h
  · exact absurd h h1
  · exact h
theorem sq_zero {u v : Int} (h : u * u + v * v = 0) : u = 0 ∧ v = 0 := by
  have h1 : 0 ≤ u * u := by
    rcases Int.le_total 0 u with h | h
    · exact Int.mul_nonneg h h
    · exact Int.mul_nonneg_of_nonpos_of_nonpos h h
  have h2 : 0 ≤ v * v := by
    rcases Int.le_total 0 v with h | h
    · exact Int.mul_nonneg h h
    · exact Int.mul_nonneg_of_nonpos_of_nonpos h h
  have e1 : u * u = 0 := by omega
  have e2 : v * v = 0 := by omega
  refine ⟨?_, ?_⟩
  · rcases Int.mul_eq_zero.mp e1 with h | h <;> exact h
  · rcases Int.mul_eq_zero.mp e2 with h | h <;> exact h
/-- of four points on one circle no three are on a line -/
theorem circle_ncol {X Y : Nat → Int} {a b c d : Nat} (h0 : gV X Y (gQ X Y) a b c d = 0) (h1 : gO X Y a b c ≠ 0) (hb : ¬ (X b = X d ∧ Y b = Y d)) (hc : ¬ (X c = X d ∧ Y c = Y d)) : gO X Y b c d ≠ 0 := by
  intro h2
  have h3 := circle_line h0 h1 h2
  have e : ((X b - X d) * (X b - X d) + (Y b - Y d) * (Y b - Y d)) * ((X c - X d) * (X c - X d) + (Y c - Y d) * (Y c - Y d)) = gDot X Y d b c * gDot X Y d b c + gO X Y b c d * gO X Y b c d := by unfold gDot gO; grind
  rw [h2, h3, Int.mul_zero, Int.add_zero] at e
  rcases Int.mul_eq_zero.mp e with h | h
  · have := sq_zero h
    exact hb (by omega)
  · have := sq_zero h
    exact hc (by omega)
