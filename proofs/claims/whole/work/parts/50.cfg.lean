/-! HEIGHTS: the circle's test, its ties, and the ghost as one determinant -/
theorem gRank_le (X Y : Nat → Int) (N i : Nat) : gRank X Y N i ≤ N := by
  unfold gRank
  exact Nat.le_trans List.countP_le_length (by simp)
theorem gK_pow_mono {a b : Nat} (h : a ≤ b) : gK ^ a ≤ gK ^ b := by
  obtain ⟨k, rfl⟩ : ∃ k, b = a + k := ⟨b - a, by omega⟩
  rw [Int.pow_add]
  have h1 : 0 < gK ^ a := Int.pow_pos (by decide)
  have h2 : 1 ≤ gK ^ k := Int.pow_pos (by decide)
  have := Int.mul_le_mul_of_nonneg_left h2 (Int.le_of_lt h1)
  rw [Int.mul_one] at this
  exact this
theorem gW_le (X Y : Nat → Int) (N i : Nat) : gW X Y N i ≤ gK ^ N := gK_pow_mono (gRank_le X Y N i)
def gM (N : Nat) : Int := 32000000000000000000 * gK ^ N + 1
noncomputable def gZ (X Y : Nat → Int) (N i : Nat) : Int := gM N * gQ X Y i - gW X Y N i
/-- a point of the plane as the document has it -/
def inR (X Y : Nat → Int) (i : Nat) : Prop := -1000000000 ≤ X i ∧ X i ≤ 1000000000 ∧ -1000000000 ≤ Y i ∧ Y i ≤ 1000000000
theorem gO_b {X Y : Nat → Int} {a b c : Nat} (ha : inR X Y a) (hb : inR X Y b) (hc : inR X Y c) : -8000000000000000000 ≤ gO X Y a b c ∧ gO X Y a b c ≤ 8000000000000000000 := by
  refine gO_bound (fun i hi => ?_) (fun i hi => ?_)
  · simp only [List.mem_cons, List.not_mem_nil, or_false] at hi
    rcases hi with rfl | rfl | rfl
    · exact ⟨ha.1, ha.2.1⟩
    · exact ⟨hb.1, hb.2.1⟩
    · exact ⟨hc.1, hc.2.1⟩
  · simp only [List.mem_cons, List.not_mem_nil, or_false] at hi
    rcases hi with rfl | rfl | rfl
    · exact ⟨ha.2.2.1, ha.2.2.2⟩
    · exact ⟨hb.2.2.1, hb.2.2.2⟩
    · exact ⟨hc.2.2.1, hc.2.2.2⟩
theorem gW_small {X Y : Nat → Int} {N a b c d : Nat} (ha : inR X Y a) (hb : inR X Y b) (hc : inR X Y c) (hd : inR X Y d) : - gM N < gV X Y (gW X Y N) a b c d ∧ gV X Y (gW X Y N) a b c d < gM N := by
  have e := gV_heights X Y (gW X Y N) a b c d
  have sh : ∀ {i : Nat} {o : Int}, -8000000000000000000 ≤ o → o ≤ 8000000000000000000 → -(8000000000000000000 * gK ^ N) ≤ gW X Y N i * o ∧ gW X Y N i * o ≤ 8000000000000000000 * gK ^ N := by
    intro i o h1 h2
    have q := share_bound (gW_pos X Y N i) h1 h2
    have r := Int.mul_le_mul_of_nonneg_right (gW_le X Y N i) (show (0 : Int) ≤ 8000000000000000000 by decide)
    have c1 : gK ^ N * 8000000000000000000 = 8000000000000000000 * gK ^ N := Int.mul_comm _ _
    omega
  have o1 := gO_b hb hc hd
  have o2 := gO_b hc ha hd
  have o3 := gO_b ha hb hd
  have o4 := gO_b ha hb hc
  have s1 := sh (i := a) o1.1 o1.2
  have s2 := sh (i := b) o2.1 o2.2
  have s3 := sh (i := c) o3.1 o3.2
  have s4 := sh (i := d) o4.1 o4.2
  rw [e]
  unfold gM
  generalize gK ^ N = K at *
  constructor <;> omega
theorem gM_pos (N : Nat) : 0 < gM N := by
  have : 0 < gK ^ N := Int.pow_pos (by decide)
  unfold gM
  omega
theorem gZ_lin (X Y : Nat → Int) (N a b c d : Nat) : gV X Y (gZ X Y N) a b c d = gM N * gV X Y (gQ X Y) a b c d - gV X Y (gW X Y N) a b c d := gV_lin X Y (gQ X Y) (gW X Y N) (gM N) a b c d
theorem gZ_pos {X Y : Nat → Int} {N a b c d : Nat} (ha : inR X Y a) (hb : inR X Y b) (hc : inR X Y c) (hd : inR X Y d) (h : 0 < gV X Y (gQ X Y) a b c d) : 0 < gV X Y (gZ X Y N) a b c d := by
  have s := gW_small (N := N) ha hb hc hd
  have q := Int.mul_le_mul_of_nonneg_left (show (1 : Int) ≤ gV X Y (gQ X Y) a b c d by omega) (Int.le_of_lt (gM_pos N))
  rw [gZ_lin]
  omega
theorem gZ_neg {X Y : Nat → Int} {N a b c d : Nat} (ha : inR X Y a) (hb : inR X Y b) (hc : inR X Y c) (hd : inR X Y d) (h : gV X Y (gQ X Y) a b c d < 0) : gV X Y (gZ X Y N) a b c d < 0 := by
  have s := gW_small (N := N) ha hb hc hd
  have q := Int.mul_le_mul_of_nonneg_left (show gV X Y (gQ X Y) a b c d ≤ -1 by omega) (Int.le_of_lt (gM_pos N))
  rw [gZ_lin]
  omega
/-- different places -/
def dif (X Y : Nat → Int) (i j : Nat) : Prop := ¬ (X i = X j ∧ Y i = Y j)
theorem dif.symm {X Y : Nat → Int} {i j : Nat} (h : dif X Y i j) : dif X Y j i := fun q => h ⟨q.1.symm, q.2.symm⟩
/-- what the class calls 'takes away' -/
def takes (X Y : Nat → Int) (d a b c : Nat) : Prop := 0 < gV X Y (gQ X Y) a b c d ∨ (gV X Y (gQ X Y) a b c d = 0 ∧
  ((gLess X Y d a ∧ gLess X Y d b ∧ gLess X Y d c) ∨ (¬ (gLess X Y d a ∧ gLess X Y d b ∧ gLess X Y d c) ∧ ((gLess X Y a b ∧ gLess X Y a c ∧ gO X Y b c d < 0) ∨ (¬ (gLess X Y a b ∧ gLess X Y a c) ∧ ((gLess X Y b c ∧ gO X Y c a d < 0) ∨ (¬ gLess X Y b c ∧ gO X Y a b d < 0)))))))
section
variable {X Y : Nat → Int} {N a b c d : Nat}
theorem least_share {w1 w2 w3 w4 o1 o2 o3 o4 : Int} (h2 : 0 < w2) (h3 : 0 < w3) (h4 : 0 < w4) (h1 : 0 < w1) (k2 : w2 * gK ≤ w1) (k3 : w3 * gK ≤ w1) (k4 : w4 * gK ≤ w1) (b2 : -8000000000000000000 ≤ o2 ∧ o2 ≤ 8000000000000000000) (b3 : -8000000000000000000 ≤ o3 ∧ o3 ≤ 8000000000000000000) (b4 : -8000000000000000000 ≤ o4 ∧ o4 ≤ 8000000000000000000) :
    (0 < o1 → 0 < w1 * o1 + (w2 * o2 + w3 * o3 + w4 * o4)) ∧ (o1 < 0 → w1 * o1 + (w2 * o2 + w3 * o3 + w4 * o4) < 0) := by
  have s := shares_small (w := w1) (B := 8000000000000000000) (K := gK) h2 h3 h4 k2 k3 k4 (by decide) b2.1 b2.2 b3.1 b3.2 b4.1 b4.2
  exact ⟨fun h => share_pos h1 h s.1, fun h => share_neg h1 h s.2⟩
theorem neg_b {o : Int} (h : -8000000000000000000 ≤ o ∧ o ≤ 8000000000000000000) : -8000000000000000000 ≤ -o ∧ -o ≤ 8000000000000000000 := by omega
theorem tie_d (hN : a < N ∧ b < N ∧ c < N ∧ d < N) (ha : inR X Y a) (hb : inR X Y b) (hc : inR X Y c) (hd : inR X Y d) (h0 : gV X Y (gQ X Y) a b c d = 0) (hO : 0 < gO X Y a b c) (h1 : gLess X Y d a) (h2 : gLess X Y d b) (h3 : gLess X Y d c) : 0 < gV X Y (gZ X Y N) a b c d := by
  have e := gV_heights X Y (gW X Y N) a b c d
  have q := (least_share (o1 := - gO X Y a b c) (gW_pos X Y N a) (gW_pos X Y N b) (gW_pos X Y N c) (gW_pos X Y N d) (gW_far hN.1 h1) (gW_far hN.2.1 h2) (gW_far hN.2.2.1 h3) (gO_b hb hc hd) (gO_b hc ha hd) (gO_b ha hb hd)).2 (by omega)
  rw [gZ_lin, h0, Int.mul_zero, e]
  rw [Int.mul_neg] at q
  omega
theorem tie_a (hN : a < N ∧ b < N ∧ c < N ∧ d < N) (ha : inR X Y a) (hb : inR X Y b) (hc : inR X Y c) (hd : inR X Y d) (h0 : gV X Y (gQ X Y) a b c d = 0) (h1 : gLess X Y a b) (h2 : gLess X Y a c) (h3 : gLess X Y a d) : (gO X Y b c d < 0 → 0 < gV X Y (gZ X Y N) a b c d) ∧ (0 < gO X Y b c d → gV X Y (gZ X Y N) a b c d < 0) := by
  have e := gV_heights X Y (gW X Y N) a b c d
  have q := least_share (o1 := gO X Y b c d) (o4 := - gO X Y a b c) (gW_pos X Y N b) (gW_pos X Y N c) (gW_pos X Y N d) (gW_pos X Y N a) (gW_far hN.2.1 h1) (gW_far hN.2.2.1 h2) (gW_far hN.2.2.2 h3) (gO_b hc ha hd) (gO_b ha hb hd) (neg_b (gO_b ha hb hc))
  rw [gZ_lin, h0, Int.mul_zero, e]
  rw [Int.mul_neg] at q
  constructor
  · intro h; have := q.2 h; omega
  · intro h; have := q.1 h; omega
theorem takes_iff (hN : a < N ∧ b < N ∧ c < N ∧ d < N) (ha : inR X Y a) (hb : inR X Y b) (hc : inR X Y c) (hd : inR X Y d) (hO : 0 < gO X Y a b c) (nda : dif X Y d a) (ndb : dif X Y d b) (ndc : dif X Y d c) :
    (takes X Y d a b c ↔ 0 < gV X Y (gZ X Y N) a b c d) ∧ gV X Y (gZ X Y N) a b c d ≠ 0 := by
  have key : (takes X Y d a b c → 0 < gV X Y (gZ X Y N) a b c d) ∧ (¬ takes X Y d a b c → gV X Y (gZ X Y N) a b c d < 0) := by
    have z1 : gV X Y (gQ X Y) b c a d = gV X Y (gQ X Y) a b c d := gV_rot X Y (gQ X Y) a b c d
    have z2 : gV X Y (gQ X Y) c a b d = gV X Y (gQ X Y) a b c d := by rw [gV_rot X Y (gQ X Y) b c a d, z1]
    have zz1 : gV X Y (gZ X Y N) b c a d = gV X Y (gZ X Y N) a b c d := gV_rot X Y (gZ X Y N) a b c d
    have zz2 : gV X Y (gZ X Y N) c a b d = gV X Y (gZ X Y N) a b c d := by rw [gV_rot X Y (gZ X Y N) b c a d, zz1]
    have oo1 : gO X Y b c a = gO X Y a b c := gO_rot X Y a b c
    have oo2 : gO X Y c a b = gO X Y a b c := by rw [gO_rot X Y b c a, oo1]
    rcases Int.lt_trichotomy (gV X Y (gQ X Y) a b c d) 0 with h | h | h
    · have := gZ_neg (N := N) ha hb hc hd h
      refine ⟨fun q => ?_, fun _ => this⟩
      rcases q with q | q
      · omega
      · omega
    · have n1 : gO X Y b c d ≠ 0 := circle_ncol h (by omega) ndb.symm ndc.symm
      have n2 : gO X Y c a d ≠ 0 := circle_ncol (a := b) (b := c) (c := a) (by rw [z1]; exact h) (by rw [oo1]; omega) ndc.symm nda.symm
      have n3 : gO X Y a b d ≠ 0 := circle_ncol (a := c) (b := a) (c := b) (by rw [z2]; exact h) (by rw [oo2]; omega) nda.symm ndb.symm
      have tri : ∀ {i j : Nat}, dif X Y i j → ¬ gLess X Y i j → gLess X Y j i := fun hd h => (gLess_tri hd).resolve_left h
      by_cases hd0 : gLess X Y d a ∧ gLess X Y d b ∧ gLess X Y d c
      · have := tie_d hN ha hb hc hd h hO hd0.1 hd0.2.1 hd0.2.2
        exact ⟨fun _ => this, fun q => absurd (Or.inr ⟨h, Or.inl hd0⟩) q⟩
      · by_cases h1 : gLess X Y a b ∧ gLess X Y a c
        · have had : gLess X Y a d := by
            by_cases q : gLess X Y d a
            · exact absurd ⟨q, gLess_trans q h1.1, gLess_trans q h1.2⟩ hd0
            · exact tri nda q
          have t := tie_a hN ha hb hc hd h h1.1 h1.2 had
          refine ⟨fun q => ?_, fun q => ?_⟩
          · rcases q with q | ⟨-, q | ⟨-, q | q⟩⟩
            · omega
            · exact absurd q hd0
            · exact t.1 q.2.2
            · exact absurd h1 q.1
          · refine t.2 ?_
            rcases Int.lt_trichotomy (gO X Y b c d) 0 with r | r | r
            · exact absurd (Or.inr ⟨h, Or.inr ⟨hd0, Or.inl ⟨h1.1, h1.2, r⟩⟩⟩) q
            · exact absurd r n1
            · exact r
        · by_cases h2 : gLess X Y b c
          · -- b is the least
            have hba : gLess X Y b a := by
              by_cases q : gLess X Y a b
              · exact absurd ⟨q, gLess_trans q h2⟩ h1
              · rcases gLess_tri (X := X) (Y := Y) (i := a) (j := b) (fun e => by unfold gO at hO; have e1 := e.1; have e2 := e.2; rw [e1, e2] at hO; simp at hO) with r | r
                · exact absurd r q
                · exact r
            have hbd : gLess X Y b d := by
              by_cases q : gLess X Y d b
              · exact absurd ⟨gLess_trans q hba, q, gLess_trans q h2⟩ hd0
              · exact tri ndb q
            have t := tie_a (a := b) (b := c) (c := a) ⟨hN.2.1, hN.2.2.1, hN.1, hN.2.2.2⟩ hb hc ha hd (by rw [z1]; exact h) h2 hba hbd
            rw [zz1] at t
            refine ⟨fun q => ?_, fun q => ?_⟩
            · rcases q with q | ⟨-, q | ⟨-, q | ⟨-, q | q⟩⟩⟩
              · omega
              · exact absurd q hd0
              · exact absurd ⟨q.1, q.2.1⟩ h1
              · exact t.1 q.2
              · exact absurd h2 q.1
            · refine t.2 ?_
              rcases Int.lt_trichotomy (gO X Y c a d) 0 with r | r | r
              · exact absurd (Or.inr ⟨h, Or.inr ⟨hd0, Or.inr ⟨h1, Or.inl ⟨h2, r⟩⟩⟩⟩) q
              · exact absurd r n2
              · exact r
          · -- c is the least
            have hcb : gLess X Y c b := by
              rcases gLess_tri (X := X) (Y := Y) (i := b) (j := c) (fun e => by unfold gO at hO; have e1 := e.1; have e2 := e.2; rw [e1, e2, Int.mul_comm] at hO; omega) with r | r
              · exact absurd r h2
              · exact r
            have hca : gLess X Y c a := by
              by_cases q : gLess X Y a c
              · exact absurd ⟨gLess_trans q hcb, q⟩ h1
              · rcases gLess_tri (X := X) (Y := Y) (i := a) (j := c) (fun e => by unfold gO at hO; have e1 := e.1; have e2 := e.2; rw [e1, e2] at hO; simp at hO) with r | r
                · exact absurd r q
                · exact r
            have hcd : gLess X Y c d := by
              by_cases q : gLess X Y d c
              · exact absurd ⟨gLess_trans q hca, gLess_trans q hcb, q⟩ hd0
              · exact tri ndc q
            have t := tie_a (a := c) (b := a) (c := b) ⟨hN.2.2.1, hN.1, hN.2.1, hN.2.2.2⟩ hc ha hb hd (by rw [z2]; exact h) hca hcb hcd
            rw [zz2] at t
            refine ⟨fun q => ?_, fun q => ?_⟩
            · rcases q with q | ⟨-, q | ⟨-, q | ⟨-, q | q⟩⟩⟩
              · omega
              · exact absurd q hd0
              · exact absurd ⟨q.1, q.2.1⟩ h1
              · exact absurd q.1 h2
              · exact t.1 q.2
            · refine t.2 ?_
              rcases Int.lt_trichotomy (gO X Y a b d) 0 with r | r | r
              · exact absurd (Or.inr ⟨h, Or.inr ⟨hd0, Or.inr ⟨h1, Or.inr ⟨h2, r⟩⟩⟩⟩) q
              · exact absurd r n3
              · exact r
    · have := gZ_pos (N := N) ha hb hc hd h
      exact ⟨fun _ => this, fun q => absurd (Or.inl h) q⟩
  by_cases ht : takes X Y d a b c
  · have := key.1 ht
    exact ⟨⟨fun _ => this, fun _ => ht⟩, by omega⟩
  · have := key.2 ht
    exact ⟨⟨fun q => absurd q ht, fun q => by omega⟩, by omega⟩
end
/-! THE GHOST: a vector far up, leaning away from the points -/
def rvz (X Y Z : Nat → Int) (i : Nat) : V4 := (X i, Y i, Z i, 1)
theorem rv_gV (X Y Z : Nat → Int) (a b c d : Nat) : vV (rvz X Y Z a) (rvz X Y Z b) (rvz X Y Z c) (rvz X Y Z d) = gV X Y Z a b c d := by
  unfold vV om rvz gV vx vy vz vw; dsimp only; grind
theorem up_gO (X Y Z : Nat → Int) (a b d : Nat) : vV (rvz X Y Z a) (rvz X Y Z b) (0, 0, 1, 0) (rvz X Y Z d) = gO X Y a b d := by
  unfold vV om rvz gO vx vy vz vw; dsimp only; grind
theorem dot_ne {X Y : Nat → Int} {f t d : Nat} (h : gO X Y f t d = 0) (h1 : dif X Y d f) (h2 : dif X Y d t) : gDot X Y d f t ≠ 0 := by
  intro h3
  have e : ((X f - X d) * (X f - X d) + (Y f - Y d) * (Y f - Y d)) * ((X t - X d) * (X t - X d) + (Y t - Y d) * (Y t - Y d)) = gDot X Y d f t * gDot X Y d f t + gO X Y f t d * gO X Y f t d := by unfold gDot gO; grind
  rw [h, h3, Int.mul_zero, Int.add_zero] at e
  rcases Int.mul_eq_zero.mp e with q | q
  · have := sq_zero q
    exact h1 ⟨by omega, by omega⟩
  · have := sq_zero q
    exact h2 ⟨by omega, by omega⟩
theorem col_V {X Y : Nat → Int} {f t d : Nat} (h : gO X Y f t d = 0) (i : Nat) : gV X Y (gQ X Y) f t i d = - (gO X Y f t i * gDot X Y d f t) := by
  have e : gV X Y (gQ X Y) f t i d = - (gO X Y f t i * gDot X Y d f t) + gO X Y f t d * gDot X Y i f t := by unfold gV gQ gO gDot; grind
  rw [e, h, Int.zero_mul, Int.add_zero]
theorem col_col {X Y : Nat → Int} {f t i d : Nat} (hft : dif X Y f t) (h1 : gO X Y f t i = 0) (h2 : gO X Y f t d = 0) : gO X Y f i d = 0 := by
  have e1 : (X t - X f) * gO X Y f i d = (X i - X f) * gO X Y f t d - (X d - X f) * gO X Y f t i := by unfold gO; grind
  have e2 : (Y t - Y f) * gO X Y f i d = (Y i - Y f) * gO X Y f t d - (Y d - Y f) * gO X Y f t i := by unfold gO; grind
  rw [h1, h2, Int.mul_zero, Int.mul_zero, Int.sub_zero] at e1 e2
  rcases Int.mul_eq_zero.mp e1 with q | q
  · rcases Int.mul_eq_zero.mp e2 with r | r
    · exact absurd ⟨by omega, by omega⟩ hft
    · exact r
  · exact q
theorem col_Z {X Y Z : Nat → Int} {f t i d : Nat} (hft : dif X Y f t) (h1 : gO X Y f t i = 0) (h2 : gO X Y f t d = 0) : gV X Y Z f t i d = 0 := by
  have e := gV_heights X Y Z f t i d
  have h3 : gO X Y f i d = 0 := col_col hft h1 h2
  have h4 : gO X Y i f d = 0 := by rw [gO_swap, h3]; rfl
  have s := gO_sum X Y f t i d
  have h5 : gO X Y t i d = 0 := by omega
  rw [e, h1, h2, h4, h5]
  simp
/-- the tangent at a point -/
noncomputable def tan (X Y : Nat → Int) (N b : Nat) : V4 := (-2 * gM N * X b, -2 * gM N * Y b, 1, gM N * gQ X Y b + gW X Y N b)
theorem tan_ap (X Y : Nat → Int) (N b i : Nat) : ap (tan X Y N b) (rvz X Y (gZ X Y N) i) = gM N * ((X i - X b) * (X i - X b) + (Y i - Y b) * (Y i - Y b)) - gW X Y N i + gW X Y N b := by
  unfold ap tan rvz gZ gQ vx vy vz vw
  dsimp only
  grind
theorem sq_pos {u v : Int} (h : ¬ (u = 0 ∧ v = 0)) : 1 ≤ u * u + v * v := by
  have h1 : 0 ≤ u * u := by
    rcases Int.le_total 0 u with h | h
    · exact Int.mul_nonneg h h
    · exact Int.mul_nonneg_of_nonpos_of_nonpos h h
  have h2 : 0 ≤ v * v := by
    rcases Int.le_total 0 v with h | h
    · exact Int.mul_nonneg h h
    · exact Int.mul_nonneg_of_nonpos_of_nonpos h h
  rcases Int.lt_or_eq_of_le (show 0 ≤ u * u + v * v by omega) with q | q
  · omega
  · exact absurd (sq_zero q.symm) h
theorem tan_self (X Y : Nat → Int) (N b : Nat) : ap (tan X Y N b) (rvz X Y (gZ X Y N) b) = 0 := by
  rw [tan_ap, Int.sub_self, Int.sub_self]
  simp
  omega
theorem tan_pos {X Y : Nat → Int} {N b i : Nat} (h : dif X Y i b) : 0 < ap (tan X Y N b) (rvz X Y (gZ X Y N) i) := by
  rw [tan_ap]
  have h1 : 1 ≤ (X i - X b) * (X i - X b) + (Y i - Y b) * (Y i - Y b) := sq_pos (fun q => h ⟨by omega, by omega⟩)
  have h2 := Int.mul_le_mul_of_nonneg_left h1 (Int.le_of_lt (gM_pos N))
  have h3 := gW_le X Y N i
  have h4 := gW_pos X Y N b
  have h5 : 0 < gK ^ N := Int.pow_pos (by decide)
  rw [Int.mul_one] at h2
  have h6 : gK ^ N < gM N := by unfold gM; omega
  omega
def gvec (n : Int) (C : V4) : V4 := vadd (vmul n (0, 0, 1, 0)) (vmul (-1) C)
theorem gvec_V (X Y Z : Nat → Int) (n : Int) (C : V4) (a b d : Nat) : vV (rvz X Y Z a) (rvz X Y Z b) (gvec n C) (rvz X Y Z d) = n * gO X Y a b d + vV (rvz X Y Z a) (rvz X Y Z b) (rvz X Y Z d) C := by
  rw [vV_34, gvec, vV_add, vV_mul, vV_mul, vV_34 _ _ (0, 0, 1, 0), up_gO]
  rw [Int.mul_neg]
  omega
def gu (X Y : Nat → Int) (Z : Nat → Int) (G : Nat) (g : V4) (i : Nat) : V4 := if i = G then g else rvz X Y Z i
theorem gu_G (X Y Z : Nat → Int) (G : Nat) (g : V4) : gu X Y Z G g G = g := by simp [gu]
theorem gu_r {X Y Z : Nat → Int} {G : Nat} {g : V4} {i : Nat} (h : i ≠ G) : gu X Y Z G g i = rvz X Y Z i := by simp [gu, h]
/-- what is asked of the points: in reach, apart, not all on one line; p is new, G is nobody's number -/
def Pts (X Y : Nat → Int) (N G : Nat) (P : List Nat) (p : Nat) : Prop := (∀ i ∈ p :: P, inR X Y i ∧ i < N ∧ i ≠ G) ∧ (∀ i ∈ p :: P, ∀ j ∈ p :: P, i ≠ j → dif X Y i j) ∧ P.Nodup ∧ p ∉ P ∧ ∃ a ∈ P, ∃ b ∈ P, ∃ c ∈ P, gO X Y a b c ≠ 0
def GhostOK (X Y : Nat → Int) (N G : Nat) (P : List Nat) (p : Nat) (g : V4) : Prop :=
  (∀ a ∈ p :: P, ∀ b ∈ p :: P, ∀ d ∈ p :: P, (0 < gO X Y a b d → 0 < vV (rvz X Y (gZ X Y N) a) (rvz X Y (gZ X Y N) b) g (rvz X Y (gZ X Y N) d)) ∧ (gO X Y a b d < 0 → vV (rvz X Y (gZ X Y N) a) (rvz X Y (gZ X Y N) b) g (rvz X Y (gZ X Y N) d) < 0)) ∧
  (∀ f ∈ p :: P, ∀ t ∈ p :: P, ∀ d ∈ p :: P, f ≠ t → d ≠ f → d ≠ t → gO X Y f t d = 0 → (∀ i ∈ P, gO X Y f t i ≤ 0) → (∃ i ∈ P, gO X Y f t i < 0) → (gDot X Y d f t < 0 → 0 < vV (rvz X Y (gZ X Y N) f) (rvz X Y (gZ X Y N) t) g (rvz X Y (gZ X Y N) d)) ∧ (0 < gDot X Y d f t → vV (rvz X Y (gZ X Y N) f) (rvz X Y (gZ X Y N) t) g (rvz X Y (gZ X Y N) d) < 0)) ∧
  Corners (gu X Y (gZ X Y N) G g) (G :: P) p ∧ (∀ a ∈ G :: P, ∀ b ∈ G :: P, a ≠ b → ∃ i ∈ G :: P, vV (gu X Y (gZ X Y N) G g a) (gu X Y (gZ X Y N) G g b) (gu X Y (gZ X Y N) G g p) (gu X Y (gZ X Y N) G g i) ≠ 0)
theorem off_line {X Y : Nat → Int} {P : List Nat} {b q : Nat} (hbq : dif X Y b q) (h : ∃ a ∈ P, ∃ b ∈ P, ∃ c ∈ P, gO X Y a b c ≠ 0) : ∃ i ∈ P, gO X Y b q i ≠ 0 := by
  obtain ⟨x, hx, y, hy, z, hz, hne⟩ := h
  by_cases h1 : gO X Y b q x = 0
  · by_cases h2 : gO X Y b q y = 0
    · by_cases h3 : gO X Y b q z = 0
      · exfalso
        apply hne
        have a1 := col_col hbq h1 h2
        have a2 := col_col hbq h2 h3
        have a3 := col_col hbq h3 h1
        have s := gO_sum X Y x y z b
        have r1 : gO X Y y z b = gO X Y b y z := gO_rot X Y b y z
        have r2 : gO X Y z x b = gO X Y b z x := gO_rot X Y b z x
        have r3 : gO X Y x y b = gO X Y b x y := gO_rot X Y b x y
        omega
      · exact ⟨z, hz, h3⟩
    · exact ⟨y, hy, h2⟩
  · exact ⟨x, hx, h1⟩
theorem sumz_map (f : Nat → Int) (l : List Nat) : sumz (fun i => 1 * f i) l = sumz f l := by
  have : (fun i => 1 * f i) = f := by funext i; rw [Int.one_mul]
  rw [this]
theorem vw_comb (X Y Z : Nat → Int) : ∀ l : List Nat, vw (comb (fun _ => 1) (rvz X Y Z) l) = l.length
  | [] => rfl
  | i :: l => by
    have := vw_comb X Y Z l
    rw [comb]
    unfold vadd vmul vw at *
    show 1 * (rvz X Y Z i).2.2.2 + (comb (fun _ => 1) (rvz X Y Z) l).2.2.2 = _
    rw [this]
    show 1 * 1 + (l.length : Int) = _
    simp
    omega
theorem ghost_ex {X Y : Nat → Int} {N G : Nat} {P : List Nat} {p : Nat} (h : Pts X Y N G P p) : ∃ g, GhostOK X Y N G P p g := by
  obtain ⟨hR, hdif, hnd, hp, hnc⟩ := h
  have hGp : ∀ i ∈ p :: P, i ≠ G := fun i hi => (hR i hi).2.2
  have inP : ∀ {i}, i ∈ P → i ∈ p :: P := fun h => List.mem_cons_of_mem _ h
  let r := rvz X Y (gZ X Y N)
  let C := comb (fun _ => 1) r P
  obtain ⟨B, hB, hb⟩ := bound_list (((p :: P).flatMap fun a => (p :: P).flatMap fun b => (p :: P).map fun d => vV (r a) (r b) (r d) C) ++ ((p :: P).map fun b => ap (tan X Y N b) C) ++ ((p :: P).map fun i => (P.length : Int) * gZ X Y N i - vz C))
  have hb1 : ∀ a ∈ p :: P, ∀ b ∈ p :: P, ∀ d ∈ p :: P, -B < vV (r a) (r b) (r d) C ∧ vV (r a) (r b) (r d) C < B := fun a ha b hb' d hd => hb _ (List.mem_append_left _ (List.mem_append_left _ (List.mem_flatMap.mpr ⟨a, ha, List.mem_flatMap.mpr ⟨b, hb', List.mem_map.mpr ⟨d, hd, rfl⟩⟩⟩)))
  have hb2 : ∀ b ∈ p :: P, -B < ap (tan X Y N b) C ∧ ap (tan X Y N b) C < B := fun b hb' => hb _ (List.mem_append_left _ (List.mem_append_right _ (List.mem_map.mpr ⟨b, hb', rfl⟩)))
  have hb3 : ∀ i ∈ p :: P, -B < (P.length : Int) * gZ X Y N i - vz C ∧ (P.length : Int) * gZ X Y N i - vz C < B := fun i hi => hb _ (List.mem_append_right _ (List.mem_map.mpr ⟨i, hi, rfl⟩))
  have sgn : ∀ a ∈ p :: P, ∀ b ∈ p :: P, ∀ d ∈ p :: P, (0 < gO X Y a b d → 0 < vV (r a) (r b) (gvec B C) (r d)) ∧ (gO X Y a b d < 0 → vV (r a) (r b) (gvec B C) (r d) < 0) := by
    intro a ha b hb' d hd
    have q := hb1 a ha b hb' d hd
    have e : vV (r a) (r b) (gvec B C) (r d) = B * gO X Y a b d + vV (r a) (r b) (r d) C := gvec_V X Y (gZ X Y N) B C a b d
    rw [e]
    constructor
    · intro h
      have := Int.mul_le_mul_of_nonneg_left (show (1 : Int) ≤ gO X Y a b d by omega) (Int.le_of_lt hB)
      omega
    · intro h
      have := Int.mul_le_mul_of_nonneg_left (show gO X Y a b d ≤ -1 by omega) (Int.le_of_lt hB)
      omega
  refine ⟨gvec B C, sgn, ?_, ?_, ?_⟩
  · intro f hf t ht d hd hft hdf hdt h0 hle hlt
    have e : vV (r f) (r t) (gvec B C) (r d) = B * gO X Y f t d + vV (r f) (r t) (r d) C := gvec_V X Y (gZ X Y N) B C f t d
    have e2 : vV (r f) (r t) (r d) C = sumz (fun i => 1 * vV (r f) (r t) (r d) (r i)) P := vV_comb _ _ _ _ _ _
    have term : ∀ i, vV (r f) (r t) (r d) (r i) = - gV X Y (gZ X Y N) f t i d := fun i => by
      rw [show vV (r f) (r t) (r d) (r i) = gV X Y (gZ X Y N) f t d i from rv_gV X Y (gZ X Y N) f t d i, gV_swap']
    have sg : ∀ i ∈ P, (gO X Y f t i = 0 → vV (r f) (r t) (r d) (r i) = 0) ∧ (gO X Y f t i < 0 → (gDot X Y d f t < 0 → 0 < vV (r f) (r t) (r d) (r i)) ∧ (0 < gDot X Y d f t → vV (r f) (r t) (r d) (r i) < 0)) := by
      intro i hi
      rw [term i]
      refine ⟨fun hz => ?_, fun hn => ⟨fun hd1 => ?_, fun hd1 => ?_⟩⟩
      · rw [col_Z (hdif f hf t ht hft) hz h0]; rfl
      · have := gZ_neg (N := N) (hR f hf).1 (hR t ht).1 (hR i (inP hi)).1 (hR d hd).1 (by rw [col_V h0]; have := Int.mul_pos_of_neg_of_neg hn hd1; omega)
        omega
      · have := gZ_pos (N := N) (hR f hf).1 (hR t ht).1 (hR i (inP hi)).1 (hR d hd).1 (by rw [col_V h0]; have := Int.mul_neg_of_neg_of_pos hn hd1; omega)
        omega
    have sum : (gDot X Y d f t < 0 → 0 < sumz (fun i => 1 * vV (r f) (r t) (r d) (r i)) P) ∧ (0 < gDot X Y d f t → sumz (fun i => 1 * vV (r f) (r t) (r d) (r i)) P < 0) := by
      obtain ⟨j, hj, hjn⟩ := hlt
      constructor
      · intro hd1
        refine sumz_pos (fun i hi => ?_) ⟨j, hj, ?_⟩
        · rw [Int.one_mul]
          rcases Int.lt_or_eq_of_le (hle i hi) with q | q
          · exact Int.le_of_lt (((sg i hi).2 q).1 hd1)
          · rw [(sg i hi).1 q]; exact Int.le_refl _
        · rw [Int.one_mul]; exact ((sg j hj).2 hjn).1 hd1
      · intro hd1
        refine sumz_neg (fun i hi => ?_) ⟨j, hj, ?_⟩
        · rw [Int.one_mul]
          rcases Int.lt_or_eq_of_le (hle i hi) with q | q
          · exact Int.le_of_lt (((sg i hi).2 q).2 hd1)
          · rw [(sg i hi).1 q]; exact Int.le_refl _
        · rw [Int.one_mul]; exact ((sg j hj).2 hjn).2 hd1
    have e3 : vV (r f) (r t) (gvec B C) (r d) = sumz (fun i => 1 * vV (r f) (r t) (r d) (r i)) P := by rw [e, h0, Int.mul_zero, Int.zero_add, e2]
    rw [show vV (rvz X Y (gZ X Y N) f) (rvz X Y (gZ X Y N) t) (gvec B C) (rvz X Y (gZ X Y N) d) = sumz (fun i => 1 * vV (r f) (r t) (r d) (r i)) P from e3]
    exact sum
  · -- corners
    intro i hi
    rcases List.mem_cons.mp hi with rfl | hiP
    · -- the ghost
      refine ⟨(0, 0, (P.length : Int), B - vz C), ?_, fun j hj hji => ?_⟩
      · rw [gu_G]
        have hw : vw C = P.length := vw_comb X Y (gZ X Y N) P
        unfold ap gvec vadd vmul
        unfold vx vy vz vw at *
        dsimp only
        rw [hw]
        grind
      · have hj2 : j ∈ p :: P := by
          rcases List.mem_cons.mp hj with q | q
          · rw [q]; exact List.mem_cons_self
          · rcases List.mem_cons.mp q with q | q
            · exact absurd q hji
            · exact List.mem_cons_of_mem _ q
        rw [gu_r (hGp j hj2)]
        have := hb3 j hj2
        unfold ap rvz vx vy vz vw at *
        dsimp only
        omega
    · refine ⟨tan X Y N i, ?_, fun j hj hji => ?_⟩
      · rw [gu_r (hGp i (inP hiP))]
        exact tan_self X Y N i
      · by_cases hjG : j = G
        · rw [hjG, gu_G, gvec, ap_add, ap_mul, ap_mul]
          have q := hb2 i (inP hiP)
          have e : ap (tan X Y N i) (0, 0, 1, 0) = 1 := by
            unfold ap tan vx vy vz vw
            dsimp only
            omega
          rw [e]
          omega
        · have hj2 : j ∈ p :: P := by
            rcases List.mem_cons.mp hj with q | q
            · rw [q]; exact List.mem_cons_self
            · rcases List.mem_cons.mp q with q | q
              · exact absurd q hjG
              · exact List.mem_cons_of_mem _ q
          rw [gu_r hjG]
          exact tan_pos (hdif j hj2 i (inP hiP) hji)
  · -- no plane through p and two others has all
    intro a ha b hb' hab
    have hpG : p ≠ G := hGp p List.mem_cons_self
    have ne0 : ∀ x ∈ p :: P, ∀ y ∈ p :: P, ∀ z ∈ p :: P, gO X Y x y z ≠ 0 → vV (r x) (r y) (gvec B C) (r z) ≠ 0 := by
      intro x hx y hy z hz hne
      have q := sgn x hx y hy z hz
      rcases Int.lt_trichotomy (gO X Y x y z) 0 with h | h | h
      · have := q.2 h; omega
      · exact absurd h hne
      · have := q.1 h; omega
    have one : ∀ b ∈ P, ∃ i ∈ G :: P, vV (gvec B C) (r b) (r p) (gu X Y (gZ X Y N) G (gvec B C) i) ≠ 0 := by
      intro b hb'
      have hbp : dif X Y b p := hdif b (inP hb') p List.mem_cons_self (fun e => hp (e ▸ hb'))
      obtain ⟨i, hi, hne⟩ := off_line hbp hnc
      refine ⟨i, List.mem_cons_of_mem _ hi, ?_⟩
      rw [gu_r (hGp i (inP hi)), ← vV_rot]
      exact ne0 b (inP hb') p List.mem_cons_self i (inP hi) hne
    rcases List.mem_cons.mp ha with rfl | haP
    · rcases List.mem_cons.mp hb' with q | hbP
      · exact absurd q.symm hab
      · rw [gu_G, gu_r (hGp b (inP hbP)), gu_r hpG]
        exact one b hbP
    · rcases List.mem_cons.mp hb' with rfl | hbP
      · rw [gu_G, gu_r (hGp a (inP haP)), gu_r hpG]
        obtain ⟨i, hi, hne⟩ := one a haP
        refine ⟨i, hi, ?_⟩
        rw [vV_12]
        intro q
        have q' : - vV (gvec B C) (r a) (r p) (gu X Y (gZ X Y N) b (gvec B C) i) = 0 := q
        exact hne (by omega)
      · rw [gu_r (hGp a (inP haP)), gu_r (hGp b (inP hbP)), gu_r hpG]
        by_cases h0 : gO X Y a b p = 0
        · have hab' : dif X Y a b := hdif a (inP haP) b (inP hbP) hab
          obtain ⟨i, hi, hne⟩ := off_line hab' hnc
          refine ⟨i, List.mem_cons_of_mem _ hi, ?_⟩
          rw [gu_r (hGp i (inP hi)), vV_34, rv_gV]
          have hdne := dot_ne h0 (hdif p List.mem_cons_self a (inP haP) (fun e => hp (e ▸ haP))) (hdif p List.mem_cons_self b (inP hbP) (fun e => hp (e ▸ hbP)))
          have hv := col_V h0 i
          have hne2 : gO X Y a b i * gDot X Y p a b ≠ 0 := fun q => (Int.mul_eq_zero.mp q).elim hne hdne
          have ra := (hR a (inP haP)).1
          have rb := (hR b (inP hbP)).1
          have ri := (hR i (inP hi)).1
          have rp := (hR p List.mem_cons_self).1
          rcases Int.lt_trichotomy (gV X Y (gQ X Y) a b i p) 0 with q | q | q
          · have := gZ_neg (N := N) ra rb ri rp q; omega
          · omega
          · have := gZ_pos (N := N) ra rb ri rp q; omega
        · refine ⟨G, List.mem_cons_self, ?_⟩
          rw [gu_G, vV_34]
          have := ne0 a (inP haP) b (inP hbP) p List.mem_cons_self h0
          intro q
          have q' : - vV (r a) (r b) (gvec B C) (r p) = 0 := q
          exact this (by omega)
