/-! ARITHMETIC: what the functions of the two sides reckon, as whole numbers -/
theorem bd_s {α β : Type} (a : α) (f : α → Option β) : bd (some a) f = f a := rfl
theorem bn_s {α β : Type} (a : α) (f : α → β) : bn a f = f a := rfl
theorem as_s {β : Type} (r : Option β) : as_ true r = r := rfl
theorem bmod64 {z : Int} (h1 : -9223372036854775808 ≤ z) (h2 : z ≤ 9223372036854775807) : z.bmod (2 ^ 64) = z := Int.bmod_eq_of_le (by omega) (by omega)
theorem bmod32 {z : Int} (h1 : -2147483648 ≤ z) (h2 : z ≤ 2147483647) : z.bmod (2 ^ 32) = z := Int.bmod_eq_of_le (by omega) (by omega)
theorem i32_range (x : Int32) : -2147483648 ≤ x.toInt ∧ x.toInt ≤ 2147483647 := by
  have h1 := x.le_toInt
  have h2 := x.toInt_lt
  omega
theorem l_sub32 (x y : Int32) : (Int32.toInt64 x - Int32.toInt64 y).toInt = x.toInt - y.toInt := by
  have h1 := i32_range x
  have h2 := i32_range y
  rw [Int64.toInt_sub, Int32.toInt_toInt64, Int32.toInt_toInt64]
  exact bmod64 (by omega) (by omega)
theorem l_mul {x y : Int64} (h1 : -9223372036854775808 ≤ x.toInt * y.toInt) (h2 : x.toInt * y.toInt ≤ 9223372036854775807) : (x * y).toInt = x.toInt * y.toInt := by
  rw [Int64.toInt_mul]
  exact bmod64 h1 h2
theorem l_sub {x y : Int64} (h1 : -9223372036854775808 ≤ x.toInt - y.toInt) (h2 : x.toInt - y.toInt ≤ 9223372036854775807) : (x - y).toInt = x.toInt - y.toInt := by
  rw [Int64.toInt_sub]
  exact bmod64 h1 h2
theorem l_add {x y : Int64} (h1 : -9223372036854775808 ≤ x.toInt + y.toInt) (h2 : x.toInt + y.toInt ≤ 9223372036854775807) : (x + y).toInt = x.toInt + y.toInt := by
  rw [Int64.toInt_add]
  exact bmod64 h1 h2
theorem prod_b {u v B : Int} (h1 : -B ≤ u) (h2 : u ≤ B) (h3 : -B ≤ v) (h4 : v ≤ B) : -(B * B) ≤ u * v ∧ u * v ≤ B * B := by
  have q1 : 0 ≤ (B - u) * (B - v) := Int.mul_nonneg (by omega) (by omega)
  have q2 : 0 ≤ (B + u) * (B + v) := Int.mul_nonneg (by omega) (by omega)
  have q3 : 0 ≤ (B - u) * (B + v) := Int.mul_nonneg (by omega) (by omega)
  have q4 : 0 ≤ (B + u) * (B - v) := Int.mul_nonneg (by omega) (by omega)
  constructor <;> grind
/-- a row that has room for c numbers -/
def Cap (S : St) (k c : Nat) : Prop := c ≤ 32 * gn S k ∧ gn S k ≤ gn S (k + nRow) ∧ gn S (k + nRow) ≤ 192
theorem Cap.le {S : St} {k c d : Nat} (h : Cap S k c) (hd : d ≤ c) : Cap S k d := ⟨Nat.le_trans hd h.1, h.2⟩
theorem Cap.lt {S : St} {k c : Nat} (h : Cap S k c) {i : Nat} (hi : i < c) : i < 6144 := by
  have h1 := h.1
  have h2 := h.2.1
  have h3 := h.2.2
  omega
theorem get_ok {S : St} {k c i : Nat} (h : Cap S k c) (hi : i < c) : f_Rw_get k (nI i) S = some (ga S k i, S) := by
  have hl := h.lt hi
  have h1 := h.1
  have h2 := h.2.1
  have h3 := h.2.2
  unfold f_Rw_get
  have e1 : Nat.ble (gn S (k + nRow)) 100000 = true := Nat.ble_eq_true_of_le (by omega)
  have hd : i / 32 < gn S (k + nRow) ∧ i / 32 < gn S k := by omega
  rw [e1, as_s, rin_nI (by omega), decide_eq_true hd, nI_toInt (by omega)]
  rfl
theorem put_ok {S : St} {k c i : Nat} (h : Cap S k c) (hi : i < c) (v : Int32) : f_Rw_put k (nI i) v S = some (seta S k (upd (ga S k) i v)) := by
  have hl := h.lt hi
  have h1 := h.1
  have h2 := h.2.1
  have h3 := h.2.2
  unfold f_Rw_put
  have e1 : Nat.ble (gn S (k + nRow)) 100000 = true := Nat.ble_eq_true_of_le (by omega)
  have hd : i / 32 < gn S (k + nRow) ∧ i / 32 < gn S k := by omega
  rw [e1, as_s, rin_nI (by omega), decide_eq_true hd, nI_toInt (by omega)]
  rfl
/-! the points of the class's side -/
/-- the first n points are (X i, Y i) -/
def PV (S : St) (n : Nat) (X Y : Nat → Int) : Prop := Cap S 6 n ∧ Cap S 7 n ∧ (∀ i, i < n → (ga S 6 i).toInt = X i ∧ (ga S 7 i).toInt = Y i ∧ inR X Y i) ∧ n ≤ 1024
section
variable {S : St} {n : Nat} {X Y : Nat → Int}
theorem PV.x (h : PV S n X Y) {i : Nat} (hi : i < n) : f_Rw_get 6 (nI i) S = some (ga S 6 i, S) := get_ok h.1 hi
theorem PV.y (h : PV S n X Y) {i : Nat} (hi : i < n) : f_Rw_get 7 (nI i) S = some (ga S 7 i, S) := get_ok h.2.1 hi
def inP (x y : Int) : Prop := -1000000000 ≤ x ∧ x ≤ 1000000000 ∧ -1000000000 ≤ y ∧ y ≤ 1000000000
/-- a turn of three places -/
def tz (xa ya xb yb xc yc : Int) : Int := (xb - xa) * (yc - ya) - (yb - ya) * (xc - xa)
theorem f_turn (h : PV S n X Y) {a b : Nat} (ha : a < n) (hb : b < n) {x y : Int32} (hxy : inP x.toInt y.toInt) : ∃ r : Int64, f_Pt_turn (nI a) (nI b) x y S = some (r, S) ∧ r.toInt = tz (X a) (Y a) (X b) (Y b) x.toInt y.toInt := by
  have xa := h.x ha
  have ya := h.y ha
  have xb := h.x hb
  have yb := h.y hb
  obtain ⟨pa1, pa2, pa3⟩ := h.2.2.1 a ha
  obtain ⟨pb1, pb2, pb3⟩ := h.2.2.1 b hb
  refine ⟨_, by unfold f_Pt_turn f_Pt_turn_0; simp only [xa, ya, xb, yb, bd_s, bn_s]; rfl, ?_⟩
  have d1 := l_sub32 (ga S 6 b) (ga S 6 a)
  have d2 := l_sub32 (ga S 7 b) (ga S 7 a)
  have d3 := l_sub32 x (ga S 6 a)
  have d4 := l_sub32 y (ga S 7 a)
  rw [pb1, pa1] at d1
  rw [pb2, pa2] at d2
  rw [pa1] at d3
  rw [pa2] at d4
  unfold inR at pa3 pb3
  unfold inP at hxy
  have b1 := prod_b (B := 2000000000) (u := X b - X a) (v := y.toInt - Y a) (by omega) (by omega) (by omega) (by omega)
  have b2 := prod_b (B := 2000000000) (u := Y b - Y a) (v := x.toInt - X a) (by omega) (by omega) (by omega) (by omega)
  have m1 := l_mul (x := Int32.toInt64 (ga S 6 b) - Int32.toInt64 (ga S 6 a)) (y := Int32.toInt64 y - Int32.toInt64 (ga S 7 a)) (by rw [d1, d4]; omega) (by rw [d1, d4]; omega)
  have m2 := l_mul (x := Int32.toInt64 (ga S 7 b) - Int32.toInt64 (ga S 7 a)) (y := Int32.toInt64 x - Int32.toInt64 (ga S 6 a)) (by rw [d2, d3]; omega) (by rw [d2, d3]; omega)
  rw [d1, d4] at m1
  rw [d2, d3] at m2
  rw [l_sub (by rw [m1, m2]; omega) (by rw [m1, m2]; omega), m1, m2]
  rfl
theorem f_gap (h : PV S n X Y) {a : Nat} (ha : a < n) {x y : Int32} (hxy : inP x.toInt y.toInt) : ∃ r : Int64, f_Pt_gap (nI a) x y S = some (r, S) ∧ r.toInt = (X a - x.toInt) * (X a - x.toInt) + (Y a - y.toInt) * (Y a - y.toInt) := by
  have xa := h.x ha
  have ya := h.y ha
  obtain ⟨pa1, pa2, pa3⟩ := h.2.2.1 a ha
  refine ⟨_, by unfold f_Pt_gap f_Pt_gap_0; simp only [xa, ya, bd_s, bn_s]; rfl, ?_⟩
  have d1 := l_sub32 (ga S 6 a) x
  have d2 := l_sub32 (ga S 7 a) y
  rw [pa1] at d1
  rw [pa2] at d2
  unfold inR at pa3
  unfold inP at hxy
  have b1 := prod_b (B := 2000000000) (u := X a - x.toInt) (v := X a - x.toInt) (by omega) (by omega) (by omega) (by omega)
  have b2 := prod_b (B := 2000000000) (u := Y a - y.toInt) (v := Y a - y.toInt) (by omega) (by omega) (by omega) (by omega)
  have m1 := l_mul (x := Int32.toInt64 (ga S 6 a) - Int32.toInt64 x) (y := Int32.toInt64 (ga S 6 a) - Int32.toInt64 x) (by rw [d1]; omega) (by rw [d1]; omega)
  have m2 := l_mul (x := Int32.toInt64 (ga S 7 a) - Int32.toInt64 y) (y := Int32.toInt64 (ga S 7 a) - Int32.toInt64 y) (by rw [d2]; omega) (by rw [d2]; omega)
  rw [d1] at m1
  rw [d2] at m2
  rw [l_add (by rw [m1, m2]; omega) (by rw [m1, m2]; omega), m1, m2]
theorem f_dot (h : PV S n X Y) {f a b : Nat} (hf : f < n) (ha : a < n) (hb : b < n) : ∃ r : Int64, f_Pt_dot (nI f) (nI a) (nI b) S = some (r, S) ∧ r.toInt = gDot X Y f a b := by
  have xa := h.x ha
  have ya := h.y ha
  have xb := h.x hb
  have yb := h.y hb
  have xf := h.x hf
  have yf := h.y hf
  obtain ⟨pa1, pa2, pa3⟩ := h.2.2.1 a ha
  obtain ⟨pb1, pb2, pb3⟩ := h.2.2.1 b hb
  obtain ⟨pf1, pf2, pf3⟩ := h.2.2.1 f hf
  refine ⟨_, by unfold f_Pt_dot f_Pt_dot_0; simp only [xa, ya, xb, yb, xf, yf, bd_s, bn_s]; rfl, ?_⟩
  have d1 := l_sub32 (ga S 6 a) (ga S 6 f)
  have d2 := l_sub32 (ga S 7 a) (ga S 7 f)
  have d3 := l_sub32 (ga S 6 b) (ga S 6 f)
  have d4 := l_sub32 (ga S 7 b) (ga S 7 f)
  rw [pa1, pf1] at d1
  rw [pa2, pf2] at d2
  rw [pb1, pf1] at d3
  rw [pb2, pf2] at d4
  unfold inR at pa3 pb3 pf3
  have b1 := prod_b (B := 2000000000) (u := X a - X f) (v := X b - X f) (by omega) (by omega) (by omega) (by omega)
  have b2 := prod_b (B := 2000000000) (u := Y a - Y f) (v := Y b - Y f) (by omega) (by omega) (by omega) (by omega)
  have m1 := l_mul (x := Int32.toInt64 (ga S 6 a) - Int32.toInt64 (ga S 6 f)) (y := Int32.toInt64 (ga S 6 b) - Int32.toInt64 (ga S 6 f)) (by rw [d1, d3]; omega) (by rw [d1, d3]; omega)
  have m2 := l_mul (x := Int32.toInt64 (ga S 7 a) - Int32.toInt64 (ga S 7 f)) (y := Int32.toInt64 (ga S 7 b) - Int32.toInt64 (ga S 7 f)) (by rw [d2, d4]; omega) (by rw [d2, d4]; omega)
  rw [d1, d3] at m1
  rw [d2, d4] at m2
  rw [l_add (by rw [m1, m2]; omega) (by rw [m1, m2]; omega), m1, m2]
  rfl
theorem lt32 (x y : Int32) : x < y ↔ x.toInt < y.toInt := Int32.lt_iff_toInt_lt
theorem le32 (x y : Int32) : x ≤ y ↔ x.toInt ≤ y.toInt := Int32.le_iff_toInt_le
theorem eq32 (x y : Int32) : x = y ↔ x.toInt = y.toInt := Int32.toInt_inj.symm
theorem lt64 (x y : Int64) : x < y ↔ x.toInt < y.toInt := Int64.lt_iff_toInt_lt
theorem eq64 (x y : Int64) : x = y ↔ x.toInt = y.toInt := Int64.toInt_inj.symm
/-- truth as the machine writes it -/
noncomputable def b32 (q : Prop) : Int32 := @ite _ q (Classical.propDecidable q) 1 0
theorem b32_t {q : Prop} (h : q) : b32 q = 1 := by unfold b32; rw [if_pos h]
theorem b32_f {q : Prop} (h : ¬ q) : b32 q = 0 := by unfold b32; rw [if_neg h]
theorem b32_0 {q : Prop} : b32 q = 0 ↔ ¬ q := by
  by_cases h : q
  · rw [b32_t h]; simp [h]
  · rw [b32_f h]; simp [h]
theorem f_isLess (h : PV S n X Y) {a b : Nat} (ha : a < n) (hb : b < n) : f_Pt_isLess (nI a) (nI b) S = some (b32 (gLess X Y a b), S) := by
  have xa := h.x ha
  have ya := h.y ha
  have xb := h.x hb
  have yb := h.y hb
  obtain ⟨pa1, pa2, -⟩ := h.2.2.1 a ha
  obtain ⟨pb1, pb2, -⟩ := h.2.2.1 b hb
  unfold f_Pt_isLess f_Pt_isLess_0
  simp only [xa, ya, xb, yb, bd_s]
  by_cases c1 : ga S 6 a < ga S 6 b
  · rw [if_pos c1, b32_t (q := gLess X Y a b) (Or.inl (by rw [lt32, pa1, pb1] at c1; exact c1))]
    rfl
  · rw [if_neg c1]
    rw [lt32, pa1, pb1] at c1
    by_cases c2 : ga S 6 a = ga S 6 b
    · rw [if_pos c2]
      rw [eq32, pa1, pb1] at c2
      by_cases c3 : ga S 7 b ≤ ga S 7 a
      · rw [if_pos c3, b32_f (by rw [le32, pa2, pb2] at c3; unfold gLess; omega)]
      · rw [if_neg c3, b32_t (q := gLess X Y a b) (Or.inr ⟨c2, by rw [le32, pa2, pb2] at c3; omega⟩)]
        rfl
    · rw [if_neg c2, b32_f (by rw [eq32, pa1, pb1] at c2; unfold gLess; omega)]
end
theorem cmp_cases (a b : Int64) : (a.toInt < b.toInt ∧ lg_cmp a b = -1) ∨ (a.toInt = b.toInt ∧ lg_cmp a b = 0) ∨ (b.toInt < a.toInt ∧ lg_cmp a b = 1) := by
  unfold lg_cmp
  rcases Int.lt_trichotomy a.toInt b.toInt with h | h | h
  · left
    have h2 : ¬ b < a := fun q => by have := Int64.lt_iff_toInt_lt.mp q; omega
    have h3 : a ≠ b := fun q => by rw [q] at h; omega
    simp [h, h2, h3]
  · right; left
    have h1 : a = b := Int64.toInt_inj.mp h
    simp [h1]
  · right; right
    have h1 : b < a := Int64.lt_iff_toInt_lt.mpr h
    have h2 : ¬ a < b := fun q => by have := Int64.lt_iff_toInt_lt.mp q; omega
    have h3 : a ≠ b := fun q => by rw [q] at h; omega
    simp [h, h1, h2, h3]
theorem cmp_nn (a b : Int64) : 0 ≤ lg_cmp a b ↔ b.toInt ≤ a.toInt := by
  rcases cmp_cases a b with ⟨h, e⟩ | ⟨h, e⟩ | ⟨h, e⟩ <;> rw [e]
  · constructor
    · intro q; exact absurd q (by decide)
    · intro q; omega
  · constructor
    · intro _; omega
    · intro _; decide
  · constructor
    · intro _; omega
    · intro _; decide
theorem cmp_z (a b : Int64) : lg_cmp a b = 0 ↔ a.toInt = b.toInt := by
  rcases cmp_cases a b with ⟨h, e⟩ | ⟨h, e⟩ | ⟨h, e⟩ <;> rw [e]
  · constructor
    · intro q; exact absurd q (by decide)
    · intro q; omega
  · exact ⟨fun _ => h, fun _ => rfl⟩
  · constructor
    · intro q; exact absurd q (by decide)
    · intro q; omega
/-- the square of a distance -/
def D2 (X Y : Nat → Int) (i : Nat) (x y : Int) : Int := (X i - x) * (X i - x) + (Y i - y) * (Y i - y)
/-- the first of the nearest -/
def isNear (X Y : Nat → Int) (many : Nat) (x y : Int) (b : Nat) : Prop := b < many ∧ ∀ j, j < many → D2 X Y b x y ≤ D2 X Y j x y ∧ (D2 X Y j x y = D2 X Y b x y → b ≤ j)
theorem FU_big : 100000000 < FU := by unfold FU; decide
section
variable {S : St} {n : Nat} {X Y : Nat → Int}
theorem near_loop (h : PV S n X Y) {many : Nat} (hm : many ≤ n) {x y : Int32} (hxy : inP x.toInt y.toInt) : ∀ (d fuel i b : Nat) (g : Int64), i + d = many → d < fuel → 0 < i → isNear X Y i x.toInt y.toInt b → g.toInt = D2 X Y b x.toInt y.toInt → ∃ r, isNear X Y many x.toInt y.toInt r ∧ f_Pt_nearestOf_9 fuel (nI many) x y (nI b) g (nI i) S = some (nI r, S) := by
  have hn := h.2.2.2
  intro d
  induction d with
  | zero =>
    intro fuel i b g hi hf hi0 hb hg
    obtain ⟨fuel, rfl⟩ : ∃ k, fuel = k + 1 := ⟨fuel - 1, by omega⟩
    have : i = many := by omega
    subst this
    exact ⟨b, hb, by rw [f_Pt_nearestOf_9]; dsimp only; rw [if_pos (Int32.le_refl _)]⟩
  | succ d ih =>
    intro fuel i b g hi hf hi0 hb hg
    obtain ⟨fuel, rfl⟩ : ∃ k, fuel = k + 1 := ⟨fuel - 1, by omega⟩
    have hbl := hb.1
    obtain ⟨gi', e1, e2⟩ := f_gap h (show i < n by omega) hxy
    have e2 : gi'.toInt = D2 X Y i x.toInt y.toInt := e2
    rw [f_Pt_nearestOf_9]
    dsimp only
    rw [if_neg (nI_ge (by omega) (by omega)), e1, bd_s, if_neg (by rw [eq32, nI_toInt (by omega)]; show ¬ (b : Int) = -1; omega)]
    by_cases c : 0 ≤ lg_cmp gi' g
    · rw [if_pos c]
      rw [cmp_nn, e2, hg] at c
      unfold f_Pt_nearestOf_47
      rw [bn_s, nI_1]
      refine ih fuel (i + 1) b g (by omega) (by omega) (by omega) ⟨by omega, fun j hj => ?_⟩ hg
      by_cases hji : j = i
      · rw [hji]; exact ⟨c, fun _ => by omega⟩
      · exact hb.2 j (by omega)
    · rw [if_neg c]
      rw [cmp_nn, e2, hg] at c
      unfold f_Pt_nearestOf_39 f_Pt_nearestOf_47
      rw [bn_s, nI_1]
      refine ih fuel (i + 1) i gi' (by omega) (by omega) (by omega) ⟨by omega, fun j hj => ?_⟩ e2
      by_cases hji : j = i
      · rw [hji]; exact ⟨Int.le_refl _, fun _ => Nat.le_refl _⟩
      · have := hb.2 j (by omega)
        exact ⟨by omega, fun q => by omega⟩
theorem f_nearestOf (h : PV S n X Y) {many : Nat} (hm : many ≤ n) {x y : Int32} (hxy : inP x.toInt y.toInt) : (many = 0 → f_Pt_nearestOf (nI many) x y S = some (-1, S)) ∧ (0 < many → ∃ r, isNear X Y many x.toInt y.toInt r ∧ f_Pt_nearestOf (nI many) x y S = some (nI r, S)) := by
  have hn := h.2.2.2
  have hFU := FU_big
  obtain ⟨k, hk⟩ : ∃ k, FU = k + 1 := ⟨FU - 1, by omega⟩
  unfold f_Pt_nearestOf f_Pt_nearestOf_0
  rw [hk, f_Pt_nearestOf_9]
  dsimp only
  constructor
  · intro h0
    subst h0
    rw [if_pos (by decide)]
  · intro h0
    obtain ⟨g, e1, e2⟩ := f_gap h (show 0 < n by omega) hxy
    have e1 : f_Pt_gap 0 x y S = some (g, S) := e1
    rw [if_neg (show ¬ nI many ≤ 0 from nI_ge (a := 0) (b := many) h0 (by omega)), e1, bd_s, if_pos rfl]
    unfold f_Pt_nearestOf_39 f_Pt_nearestOf_47
    rw [bn_s]
    exact near_loop h hm hxy (many - 1) k 1 0 g (by omega) (by omega) (by omega) ⟨by omega, fun j hj => by
      have : j = 0 := by omega
      rw [this]
      exact ⟨Int.le_refl _, fun _ => Nat.le_refl _⟩⟩ e2
theorem f_isBelow (h : PV S n X Y) {a : Nat} (ha : a < n) (x y : Int32) : f_Pt_isBelow (nI a) x y S = some (b32 (X a < x.toInt ∨ (X a = x.toInt ∧ Y a < y.toInt)), S) := by
  have xa := h.x ha
  have ya := h.y ha
  obtain ⟨pa1, pa2, -⟩ := h.2.2.1 a ha
  unfold f_Pt_isBelow f_Pt_isBelow_0 f_Pt_isBelow_36
  simp only [xa, ya, bd_s]
  by_cases c1 : ga S 6 a < x
  · rw [if_pos c1, b32_t]
    rw [lt32, pa1] at c1
    exact Or.inl c1
  · rw [if_neg c1]
    rw [lt32, pa1] at c1
    by_cases c2 : ga S 6 a = x
    · rw [if_pos c2]
      rw [eq32, pa1] at c2
      by_cases c3 : y ≤ ga S 7 a
      · rw [if_pos c3, b32_f]
        rw [le32, pa2] at c3
        omega
      · rw [if_neg c3, b32_t]
        rw [le32, pa2] at c3
        exact Or.inr ⟨c2, by omega⟩
    · rw [if_neg c2, b32_f]
      rw [eq32, pa1] at c2
      omega
theorem f_isAbove (h : PV S n X Y) {a : Nat} (ha : a < n) (x y : Int32) : f_Pt_isAbove (nI a) x y S = some (b32 (x.toInt < X a ∨ (x.toInt = X a ∧ y.toInt < Y a)), S) := by
  have xa := h.x ha
  have ya := h.y ha
  obtain ⟨pa1, pa2, -⟩ := h.2.2.1 a ha
  unfold f_Pt_isAbove f_Pt_isAbove_0 f_Pt_isAbove_36
  simp only [xa, ya, bd_s]
  by_cases c1 : x < ga S 6 a
  · rw [if_pos c1, b32_t]
    rw [lt32, pa1] at c1
    exact Or.inl c1
  · rw [if_neg c1]
    rw [lt32, pa1] at c1
    by_cases c2 : ga S 6 a = x
    · rw [if_pos c2]
      rw [eq32, pa1] at c2
      by_cases c3 : ga S 7 a ≤ y
      · rw [if_pos c3, b32_f]
        rw [le32, pa2] at c3
        omega
      · rw [if_neg c3, b32_t]
        rw [le32, pa2] at c3
        exact Or.inr ⟨c2.symm, by omega⟩
    · rw [if_neg c2, b32_f]
      rw [eq32, pa1] at c2
      omega
theorem f_isAt (h : PV S n X Y) (hs : gi S 3 = nI n) {a : Nat} (ha : a < n) (x y : Int32) : f_Pt_isAt (nI a) x y S = some (b32 (X a = x.toInt ∧ Y a = y.toInt), S) := by
  have xa := h.x ha
  have ya := h.y ha
  have hn := h.2.2.2
  obtain ⟨pa1, pa2, -⟩ := h.2.2.1 a ha
  unfold f_Pt_isAt f_Pt_isAt_0
  rw [if_neg (nI_pos (by omega)), hs, if_neg (nI_ge ha (by omega))]
  simp only [xa, ya, bd_s]
  by_cases c1 : ga S 6 a = x
  · rw [if_pos c1]
    rw [eq32, pa1] at c1
    by_cases c2 : ga S 7 a = y
    · rw [if_pos c2, b32_t]
      rw [eq32, pa2] at c2
      exact ⟨c1, c2⟩
    · rw [if_neg c2, b32_f]
      rw [eq32, pa2] at c2
      omega
  · rw [if_neg c1, b32_f]
    rw [eq32, pa1] at c1
    omega
theorem f_isAtN (x y : Int32) : f_Pt_isAt (-1) x y S = some (0, S) := by
  unfold f_Pt_isAt f_Pt_isAt_0
  rw [if_pos (by decide)]
end
