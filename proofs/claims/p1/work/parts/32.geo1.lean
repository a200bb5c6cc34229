/-! GEOMETRY 1: turns and heights over whole numbers -/
/-- twice the area of a, b, c: above 0, when c is left of the way from a to b -/
def gO (X Y : Nat → Int) (a b c : Nat) : Int := (X b - X a) * (Y c - Y a) - (Y b - Y a) * (X c - X a)
/-- above 0, when d lies below the plane through a, b, c (left round, seen from above) -/
def gV (X Y Z : Nat → Int) (a b c d : Nat) : Int :=
  (X a - X d) * ((Y b - Y d) * (Z c - Z d) - (Z b - Z d) * (Y c - Y d)) - (Y a - Y d) * ((X b - X d) * (Z c - Z d) - (Z b - Z d) * (X c - X d)) + (Z a - Z d) * ((X b - X d) * (Y c - Y d) - (Y b - Y d) * (X c - X d))
theorem gO_rot (X Y : Nat → Int) (a b c : Nat) : gO X Y b c a = gO X Y a b c := by unfold gO; grind
theorem gO_swap (X Y : Nat → Int) (a b c : Nat) : gO X Y b a c = - gO X Y a b c := by unfold gO; grind
theorem gV_rot (X Y Z : Nat → Int) (a b c d : Nat) : gV X Y Z b c a d = gV X Y Z a b c d := by unfold gV; grind
theorem gV_swap (X Y Z : Nat → Int) (a b c d : Nat) : gV X Y Z b a c d = - gV X Y Z a b c d := by unfold gV; grind
theorem gV_swap' (X Y Z : Nat → Int) (a b c d : Nat) : gV X Y Z a b d c = - gV X Y Z a b c d := by unfold gV; grind
set_option maxRecDepth 100000 in
set_option maxHeartbeats 4000000 in
/-- the pencil of planes through a and b -/
theorem gV_pencil (X Y Z : Nat → Int) (a b c d p x : Nat) : gV X Y Z a b p x * gV X Y Z a b c d = gV X Y Z a b x d * gV X Y Z a b p c + gV X Y Z a b c x * gV X Y Z a b p d := by unfold gV; grind
/-- with turns at a, b -/
theorem gV_turns (X Y Z : Nat → Int) (a b c d p : Nat) : gV X Y Z a b c d * gO X Y a b p = gV X Y Z a b c p * gO X Y a b d - gV X Y Z a b d p * gO X Y a b c := by unfold gV gO; grind
/-- what the class sums up for the test of a circle -/
def gDot (X Y : Nat → Int) (f a b : Nat) : Int := (X a - X f) * (X b - X f) + (Y a - Y f) * (Y b - Y f)
theorem gV_circle (X Y : Nat → Int) (a b c d : Nat) : gO X Y c a b * gDot X Y d a b + gO X Y d b a * gDot X Y c a b = - gV X Y (fun i => X i * X i + Y i * Y i) a b c d := by unfold gO gDot gV; grind
/-- the heights' shares -/
theorem gV_heights (X Y Z : Nat → Int) (a b c d : Nat) : gV X Y Z a b c d = Z a * gO X Y b c d + Z b * gO X Y c a d + Z c * gO X Y a b d - Z d * gO X Y a b c := by unfold gV gO; grind
theorem gO_sum (X Y : Nat → Int) (a b c d : Nat) : gO X Y b c d + gO X Y c a d + gO X Y a b d = gO X Y a b c := by unfold gO; grind
