/-! WHERE A PLACE IS -/
section
variable {X Y : Nat → Int} {P : List Nat} {N G m : Nat} {s tw : Nat → Nat}
theorem same_place {h h' q q' : V4} {W W' : Int} (w : 0 < W) (w' : 0 < W') (ex : W' * vx q = W * vx q') (ey : W' * vy q = W * vy q') (ew : W' * vw q = W * vw q') (h0 : ap h q = 0) (h1 : ap h q' ≤ 0) (h0' : ap h' q' = 0) (h1' : ap h' q ≤ 0) (u : ap h vUp < 0) (u' : ap h' vUp < 0) : ap h q' = 0 := by
  have id : ∀ f : V4, W' * ap f q - W * ap f q' = ap f vUp * (W' * vz q - W * vz q') := fun f => by
    have e1 : W' * ap f q - W * ap f q' = vx f * (W' * vx q - W * vx q') + vy f * (W' * vy q - W * vy q') + vz f * (W' * vz q - W * vz q') + vw f * (W' * vw q - W * vw q') := by unfold ap; grind
    have e2 : ap f vUp = vz f := by
      show vx f * 0 + vy f * 0 + vz f * 1 + vw f * 0 = vz f
      omega
    rw [e1, ex, ey, ew, e2, Int.sub_self, Int.sub_self, Int.sub_self]
    omega
  have i1 := id h
  have i2 := id h'
  rw [h0] at i1
  rw [h0'] at i2
  generalize W' * vz q - W * vz q' = γ at *
  have a1 := Int.mul_nonpos_of_nonneg_of_nonpos (Int.le_of_lt w) h1
  have a2 := Int.mul_nonpos_of_nonneg_of_nonpos (Int.le_of_lt w') h1'
  have g1 : γ ≤ 0 := by
    by_cases c : γ ≤ 0
    · exact c
    · have := Int.mul_neg_of_neg_of_pos u (show 0 < γ by omega)
      omega
  have g2 : 0 ≤ γ := by
    by_cases c : 0 ≤ γ
    · exact c
    · have := Int.mul_pos_of_neg_of_neg u' (show γ < 0 by omega)
      omega
  have g0 : γ = 0 := by omega
  rw [g0] at i1
  rcases Int.mul_eq_zero.mp (show W * ap h q' = 0 by omega) with r | r
  · omega
  · exact r
/-- a place in a triangle, over it -/
noncomputable def bary (X Y : Nat → Int) (N a b c p : Nat) : V4 := vadd (vadd (vmul (gO X Y b c p) (rvz X Y (gZ X Y N) a)) (vmul (gO X Y c a p) (rvz X Y (gZ X Y N) b))) (vmul (gO X Y a b p) (rvz X Y (gZ X Y N) c))
theorem bary_xyw (a b c p : Nat) : vx (bary X Y N a b c p) = gO X Y a b c * X p ∧ vy (bary X Y N a b c p) = gO X Y a b c * Y p ∧ vw (bary X Y N a b c p) = gO X Y a b c := by
  unfold bary vadd vmul rvz vx vy vw
  dsimp only
  unfold gO
  refine ⟨by grind, by grind, by grind⟩
theorem bary_ap (f : V4) (a b c p : Nat) : ap f (bary X Y N a b c p) = gO X Y b c p * ap f (rvz X Y (gZ X Y N) a) + gO X Y c a p * ap f (rvz X Y (gZ X Y N) b) + gO X Y a b p * ap f (rvz X Y (gZ X Y N) c) := by
  unfold bary
  rw [ap_add, ap_add, ap_mul, ap_mul, ap_mul]
/-- a place between two points, over them -/
noncomputable def lin (X Y : Nat → Int) (N a b p : Nat) : V4 := vadd (vmul (gDot X Y b a p) (rvz X Y (gZ X Y N) a)) (vmul (gDot X Y a b p) (rvz X Y (gZ X Y N) b))
theorem lin_xyw {a b p : Nat} (h : gO X Y a b p = 0) : vx (lin X Y N a b p) = gD X Y b a * X p ∧ vy (lin X Y N a b p) = gD X Y b a * Y p ∧ vw (lin X Y N a b p) = gD X Y b a := by
  unfold lin vadd vmul rvz vx vy vw
  dsimp only
  have e1 : gDot X Y b a p * X a + gDot X Y a b p * X b = gD X Y b a * X p - (Y b - Y a) * - gO X Y a b p := by unfold gDot gD gO; grind
  have e2 : gDot X Y b a p * Y a + gDot X Y a b p * Y b = gD X Y b a * Y p + (X b - X a) * - gO X Y a b p := by unfold gDot gD gO; grind
  rw [h] at e1 e2
  refine ⟨by rw [e1]; simp, by rw [e2]; simp, by unfold gDot gD; grind⟩
theorem lin_ap (f : V4) (a b p : Nat) : ap f (lin X Y N a b p) = gDot X Y b a p * ap f (rvz X Y (gZ X Y N) a) + gDot X Y a b p * ap f (rvz X Y (gZ X Y N) b) := by
  unfold lin
  rw [ap_add, ap_mul, ap_mul]
/-- in a triangle, with its sides -/
def inT (X Y : Nat → Int) (a b c p : Nat) : Prop := 0 ≤ gO X Y a b p ∧ 0 ≤ gO X Y b c p ∧ 0 ≤ gO X Y c a p
theorem solid_zero (hP : PtsL X Y N G P) {a b c d : Nat} (h : solid X Y P a b c) (hd : d ∈ P) (h0 : ap (frm (rvz X Y (gZ X Y N) a) (rvz X Y (gZ X Y N) b) (rvz X Y (gZ X Y N) c)) (rvz X Y (gZ X Y N) d) = 0) : d = a ∨ d = b ∨ d = c := by
  by_cases c1 : d = a
  · exact Or.inl c1
  by_cases c2 : d = b
  · exact Or.inr (Or.inl c2)
  by_cases c3 : d = c
  · exact Or.inr (Or.inr c3)
  rw [frm_ap] at h0
  have := solid_neg hP h hd c1 c2 c3
  omega
theorem nonpos2 {a b c d : Int} (ha : 0 < a) (hb : 0 < b) (hc : c ≤ 0) (hd : d ≤ 0) (h : a * c + b * d = 0) : c = 0 ∧ d = 0 := by
  have h1 := Int.mul_nonpos_of_nonneg_of_nonpos (Int.le_of_lt ha) hc
  have h2 := Int.mul_nonpos_of_nonneg_of_nonpos (Int.le_of_lt hb) hd
  have e1 : a * c = 0 := by omega
  have e2 : b * d = 0 := by omega
  refine ⟨?_, ?_⟩
  · rcases Int.mul_eq_zero.mp e1 with r | r
    · omega
    · exact r
  · rcases Int.mul_eq_zero.mp e2 with r | r
    · omega
    · exact r
/-- a place in a triangle and on an edge: the edge is the triangle's -/
theorem loc_edge (hP : PtsL X Y N G P) {a b c p : Nat} (h : solid X Y P a b c) (hp : inT X Y a b c p) {a' b' : Nat} (ha' : a' ∈ P) (hb' : b' ∈ P) (hE : EDG X Y N P a' b') (z : gO X Y a' b' p = 0) (d1 : 0 < gDot X Y b' a' p) (d2 : 0 < gDot X Y a' b' p) : (a' = a ∨ a' = b ∨ a' = c) ∧ (b' = a ∨ b' = b ∨ b' = c) := by
  obtain ⟨hh, e1, e2, e3, e4⟩ := hE
  have bx := bary_xyw (X := X) (Y := Y) (N := N) a b c p
  have lx := lin_xyw (N := N) z
  have W := h.2.2.2.2.2.2.1
  have W' : 0 < gD X Y b' a' := by
    have : gD X Y b' a' = gDot X Y b' a' p + gDot X Y a' b' p := by unfold gDot gD; grind
    omega
  have hn : ∀ d ∈ P, ap (frm (rvz X Y (gZ X Y N) a) (rvz X Y (gZ X Y N) b) (rvz X Y (gZ X Y N) c)) (rvz X Y (gZ X Y N) d) ≤ 0 := fun d hd => by rw [frm_ap]; exact solid_le hP h hd
  have l1 := Int.mul_nonpos_of_nonneg_of_nonpos (Int.le_of_lt d1) (hn a' ha')
  have l2 := Int.mul_nonpos_of_nonneg_of_nonpos (Int.le_of_lt d2) (hn b' hb')
  have r := same_place (h := frm (rvz X Y (gZ X Y N) a) (rvz X Y (gZ X Y N) b) (rvz X Y (gZ X Y N) c)) (h' := hh) (q := bary X Y N a b c p) (q' := lin X Y N a' b' p) W W' (by rw [bx.1, lx.1]; grind) (by rw [bx.2.1, lx.2.1]; grind) (by rw [bx.2.2, lx.2.2]; grind) (by
      rw [bary_ap, frm_ap, frm_ap, frm_ap, vV_same1, vV_same2, vV_same3]; omega) (by rw [lin_ap]; omega) (by rw [lin_ap, e1, e2]; omega) (by
      rw [bary_ap]
      have k1 := Int.mul_nonpos_of_nonneg_of_nonpos hp.2.1 (e3 a h.1)
      have k2 := Int.mul_nonpos_of_nonneg_of_nonpos hp.2.2 (e3 b h.2.1)
      have k3 := Int.mul_nonpos_of_nonneg_of_nonpos hp.1 (e3 c h.2.2.1)
      omega) (by rw [frm_ap, up_O]; omega) e4
  rw [lin_ap] at r
  have t := nonpos2 d1 d2 (hn a' ha') (hn b' hb') r
  exact ⟨solid_zero hP h ha' t.1, solid_zero hP h hb' t.2⟩
/-- a place in two triangles, in one of them inside: they are one -/
theorem loc_tri (hP : PtsL X Y N G P) {a b c p : Nat} (h : solid X Y P a b c) (hp : inT X Y a b c p) {a' b' c' : Nat} (h' : solid X Y P a' b' c') (p1 : 0 < gO X Y a' b' p) (p2 : 0 < gO X Y b' c' p) (p3 : 0 < gO X Y c' a' p) : (a' = a ∨ a' = b ∨ a' = c) ∧ (b' = a ∨ b' = b ∨ b' = c) ∧ (c' = a ∨ c' = b ∨ c' = c) := by
  have bx := bary_xyw (X := X) (Y := Y) (N := N) a b c p
  have lx := bary_xyw (X := X) (Y := Y) (N := N) a' b' c' p
  have W := h.2.2.2.2.2.2.1
  have W' := h'.2.2.2.2.2.2.1
  have hn : ∀ d ∈ P, ap (frm (rvz X Y (gZ X Y N) a) (rvz X Y (gZ X Y N) b) (rvz X Y (gZ X Y N) c)) (rvz X Y (gZ X Y N) d) ≤ 0 := fun d hd => by rw [frm_ap]; exact solid_le hP h hd
  have hn' : ∀ d ∈ P, ap (frm (rvz X Y (gZ X Y N) a') (rvz X Y (gZ X Y N) b') (rvz X Y (gZ X Y N) c')) (rvz X Y (gZ X Y N) d) ≤ 0 := fun d hd => by rw [frm_ap]; exact solid_le hP h' hd
  have l1 := Int.mul_nonpos_of_nonneg_of_nonpos (Int.le_of_lt p2) (hn a' h'.1)
  have l2 := Int.mul_nonpos_of_nonneg_of_nonpos (Int.le_of_lt p3) (hn b' h'.2.1)
  have l3 := Int.mul_nonpos_of_nonneg_of_nonpos (Int.le_of_lt p1) (hn c' h'.2.2.1)
  have r := same_place (h := frm (rvz X Y (gZ X Y N) a) (rvz X Y (gZ X Y N) b) (rvz X Y (gZ X Y N) c)) (h' := frm (rvz X Y (gZ X Y N) a') (rvz X Y (gZ X Y N) b') (rvz X Y (gZ X Y N) c')) (q := bary X Y N a b c p) (q' := bary X Y N a' b' c' p) W W' (by rw [bx.1, lx.1]; grind) (by rw [bx.2.1, lx.2.1]; grind) (by rw [bx.2.2, lx.2.2]; grind) (by
      rw [bary_ap, frm_ap, frm_ap, frm_ap, vV_same1, vV_same2, vV_same3]; omega) (by rw [bary_ap]; omega) (by
      rw [bary_ap, frm_ap, frm_ap, frm_ap, vV_same1, vV_same2, vV_same3]; omega) (by
      rw [bary_ap]
      have k1 := Int.mul_nonpos_of_nonneg_of_nonpos hp.2.1 (hn' a h.1)
      have k2 := Int.mul_nonpos_of_nonneg_of_nonpos hp.2.2 (hn' b h.2.1)
      have k3 := Int.mul_nonpos_of_nonneg_of_nonpos hp.1 (hn' c h.2.2.1)
      omega) (by rw [frm_ap, up_O]; omega) (by rw [frm_ap, up_O]; omega)
  rw [bary_ap] at r
  have z1 : gO X Y b' c' p * ap (frm (rvz X Y (gZ X Y N) a) (rvz X Y (gZ X Y N) b) (rvz X Y (gZ X Y N) c)) (rvz X Y (gZ X Y N) a') + gO X Y c' a' p * ap (frm (rvz X Y (gZ X Y N) a) (rvz X Y (gZ X Y N) b) (rvz X Y (gZ X Y N) c)) (rvz X Y (gZ X Y N) b') = 0 := by omega
  have z2 : gO X Y b' c' p * ap (frm (rvz X Y (gZ X Y N) a) (rvz X Y (gZ X Y N) b) (rvz X Y (gZ X Y N) c)) (rvz X Y (gZ X Y N) a') + gO X Y a' b' p * ap (frm (rvz X Y (gZ X Y N) a) (rvz X Y (gZ X Y N) b) (rvz X Y (gZ X Y N) c)) (rvz X Y (gZ X Y N) c') = 0 := by omega
  have t1 := nonpos2 p2 p3 (hn a' h'.1) (hn b' h'.2.1) z1
  have t2 := nonpos2 p2 p1 (hn a' h'.1) (hn c' h'.2.2.1) z2
  exact ⟨solid_zero hP h h'.1 t1.1, solid_zero hP h h'.2.1 t1.2, solid_zero hP h h'.2.2.1 t2.2⟩
/-- on the way between two points: its turns are between theirs -/
theorem seg_side {f t a b p : Nat} (z : gO X Y a b p = 0) (d1 : 0 ≤ gDot X Y b a p) (d2 : 0 ≤ gDot X Y a b p) (hab : dif X Y a b) (ha : gO X Y f t a ≤ 0) (hb : gO X Y f t b ≤ 0) : gO X Y f t p ≤ 0 := by
  have e : gD X Y b a * gO X Y f t p = gDot X Y b a p * gO X Y f t a + gDot X Y a b p * gO X Y f t b + gO X Y a b p * ((X t - X f) * (X b - X a) + (Y t - Y f) * (Y b - Y a)) := by unfold gDot gD gO; grind
  rw [z, Int.zero_mul, Int.add_zero] at e
  have m1 := Int.mul_nonpos_of_nonneg_of_nonpos d1 ha
  have m2 := Int.mul_nonpos_of_nonneg_of_nonpos d2 hb
  by_cases q : gO X Y f t p ≤ 0
  · exact q
  · have := Int.mul_pos (gD_pos hab.symm) (show 0 < gO X Y f t p by omega)
    omega
theorem tri_side {f t a b c p : Nat} (hp : inT X Y a b c p) (o : 0 < gO X Y a b c) (ha : gO X Y f t a ≤ 0) (hb : gO X Y f t b ≤ 0) (hc : gO X Y f t c ≤ 0) : gO X Y f t p ≤ 0 := by
  have e : gO X Y a b c * gO X Y f t p = gO X Y b c p * gO X Y f t a + gO X Y c a p * gO X Y f t b + gO X Y a b p * gO X Y f t c := by unfold gO; grind
  have m1 := Int.mul_nonpos_of_nonneg_of_nonpos hp.2.1 ha
  have m2 := Int.mul_nonpos_of_nonneg_of_nonpos hp.2.2 hb
  have m3 := Int.mul_nonpos_of_nonneg_of_nonpos hp.1 hc
  by_cases q : gO X Y f t p ≤ 0
  · exact q
  · have := Int.mul_pos o (show 0 < gO X Y f t p by omega)
    omega
end
