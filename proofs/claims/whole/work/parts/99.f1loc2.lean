/-! WHERE A PLACE IS, 2: p is a place, no point -/
def INS (X Y : Nat → Int) (p : Nat) (t : Nat × Nat × Nat) : Prop := 0 < gO X Y t.1 t.2.1 p ∧ 0 < gO X Y t.2.1 t.2.2 p ∧ 0 < gO X Y t.2.2 t.1 p
def PS (X Y : Nat → Int) (n : Nat) (L : List (Nat × Nat × Nat)) (p a b : Nat) : Prop := OnS X Y (X p) (Y p) a b ∧ NBR X Y n L a b
section
variable {n G m p : Nat} {X Y : Nat → Int} {s tw lv : Nat → Nat} {L : List (Nat × Nat × Nat)}
theorem onS_dots {a b : Nat} (h : OnS X Y (X p) (Y p) a b) : gO X Y a b p = 0 ∧ 0 ≤ gDot X Y b a p ∧ 0 ≤ gDot X Y a b p ∧ (dif X Y p b → 0 < gDot X Y b a p) ∧ (dif X Y p a → 0 < gDot X Y a b p) := by
  obtain ⟨z, d⟩ := (onS_iff p a b).mp h
  have e1 : gDot X Y b a p = gD X Y b p - gDot X Y p a b := by unfold gDot gD; grind
  have e2 : gDot X Y a b p = gD X Y a p - gDot X Y p a b := by unfold gDot gD; grind
  have nn : ∀ i, 0 ≤ gD X Y i p := fun i => by
    by_cases c : dif X Y i p
    · exact Int.le_of_lt (gD_pos c)
    · unfold dif at c
      have c := Classical.not_not.mp c
      unfold gD
      rw [c.1, c.2]; simp
  have n1 := nn a
  have n2 := nn b
  exact ⟨z, by omega, by omega, fun q => by have := gD_pos q.symm; omega, fun q => by have := gD_pos q.symm; omega⟩
theorem NBR.edg (h : NETX X Y n G m s tw) (hL : TRI X Y n L) {a b : Nat} (ha : a < n) (hb : b < n) (hn : NBR X Y n L a b) : EDG X Y 1024 (List.range n) a b := by
  obtain ⟨bG, e, he, e1, e2⟩ := (nbr_nbe h hL ha hb).mp hn
  have := edge_EDG h.1 h.2.1 he (by rw [e1]; exact (h.1.1 a (List.mem_range.mpr ha)).2.2) (by rw [e2]; exact bG)
  rw [e1, e2] at this
  exact this.1
/-- beyond the outline -/
theorem loc_out (h : NETX X Y n G m s tw) (hL : TRI X Y n L) {g : Nat} (hg : g < 3 * m) (hs : sol G s (g / 3) = false) (h1 : s g ≠ G) (h2 : s (nx g) ≠ G) (hp : 0 < gO X Y (s g) (s (nx g)) p) : (∀ a b, a < n → b < n → ¬ PS X Y n L p a b) ∧ ∀ t ∈ L, ¬ INS X Y p t := by
  have o := (NetD.outer h.1 h.2.1 hg h1 h2 hs).2
  have low : ∀ d, d < n → gO X Y (s g) (s (nx g)) d ≤ 0 := by
    intro d hd
    by_cases c1 : d = s g
    · rw [c1, gO_12]; exact Int.le_refl _
    by_cases c2 : d = s (nx g)
    · rw [c2, gO_22]; exact Int.le_refl _
    have := o.2.2.2 d (List.mem_range.mpr hd) c1 c2
    have t : ¬ 0 < gO X Y (s g) (s (nx g)) d := fun z => this (Or.inl z)
    omega
  refine ⟨fun a b ha hb q => ?_, fun t ht q => ?_⟩
  · obtain ⟨z, d1, d2, -, -⟩ := onS_dots q.1
    have := seg_side (f := s g) (t := s (nx g)) z d1 d2 (h.dn a ha b hb q.2.1) (low a ha) (low b hb)
    omega
  · have so := ((hL.2 t).mp ht).1
    have := tri_side (f := s g) (t := s (nx g)) (a := t.1) (b := t.2.1) (c := t.2.2) (p := p) ⟨Int.le_of_lt q.1, Int.le_of_lt q.2.1, Int.le_of_lt q.2.2⟩ so.2.2.2.2.2.2.1 (low _ (List.mem_range.mp so.1)) (low _ (List.mem_range.mp so.2.1)) (low _ (List.mem_range.mp so.2.2.1))
    omega
theorem bary_x (a b c : Nat) : gO X Y b c p * (X a - X p) + gO X Y c a p * (X b - X p) + gO X Y a b p * (X c - X p) = 0 := by unfold gO; grind
theorem bary_y (a b c : Nat) : gO X Y b c p * (Y a - Y p) + gO X Y c a p * (Y b - Y p) + gO X Y a b p * (Y c - Y p) = 0 := by unfold gO; grind
/-- not on two sides -/
theorem not_two {a b c : Nat} (o : 0 < gO X Y a b c) (z1 : gO X Y a b p = 0) (z2 : gO X Y b c p = 0) : ¬ dif X Y p b := by
  have sm := gO_sum X Y a b c p
  have x := bary_x (X := X) (Y := Y) (p := p) a b c
  have y := bary_y (X := X) (Y := Y) (p := p) a b c
  rw [z1, z2, Int.zero_mul, Int.zero_mul, Int.zero_add, Int.add_zero] at x y
  rw [z1, z2] at sm
  intro q
  refine q ⟨?_, ?_⟩
  · rcases Int.mul_eq_zero.mp x with r | r <;> omega
  · rcases Int.mul_eq_zero.mp y with r | r <;> omega
/-- on a side: between its ends -/
theorem on_side {a b c : Nat} (o : 0 < gO X Y a b c) (hp : inT X Y a b c p) (z : gO X Y a b p = 0) (da : dif X Y p a) : OnS X Y (X p) (Y p) a b := by
  rw [onS_iff]
  refine ⟨z, ?_⟩
  have sm := gO_sum X Y a b c p
  have x := bary_x (X := X) (Y := Y) (p := p) a b c
  have y := bary_y (X := X) (Y := Y) (p := p) a b c
  rw [z, Int.zero_mul, Int.add_zero] at x y
  rw [z] at sm
  obtain ⟨-, h2, h3⟩ := hp
  have e : gO X Y b c p * gD X Y a p + gO X Y c a p * gDot X Y p a b = 0 := by
    have : gO X Y b c p * gD X Y a p + gO X Y c a p * gDot X Y p a b = (gO X Y b c p * (X a - X p) + gO X Y c a p * (X b - X p)) * (X a - X p) + (gO X Y b c p * (Y a - Y p) + gO X Y c a p * (Y b - Y p)) * (Y a - Y p) := by unfold gD gDot; grind
    rw [this, x, y]; simp
  have ga := gD_pos da.symm
  by_cases q : gDot X Y p a b ≤ 0
  · exact q
  · exfalso
    have q : 0 < gDot X Y p a b := by omega
    have m1 := Int.mul_nonneg h2 (Int.le_of_lt ga)
    have m2 := Int.mul_nonneg h3 (Int.le_of_lt q)
    have e1 : gO X Y b c p * gD X Y a p = 0 := by omega
    have e2 : gO X Y c a p * gDot X Y p a b = 0 := by omega
    rcases Int.mul_eq_zero.mp e1 with r | r
    · rcases Int.mul_eq_zero.mp e2 with t | t <;> omega
    · omega
/-- in a triangle, on its side a, b: that pair alone -/
theorem loc_on (h : NETX X Y n G m s tw) (hL : TRI X Y n L) (hp : ∀ i, i < n → dif X Y p i) {a b c : Nat} (hs : solid X Y (List.range n) a b c) (ht : inT X Y a b c p) (z : gO X Y a b p = 0) : PS X Y n L p a b ∧ PS X Y n L p b a ∧ ∀ a' b', a' < n → b' < n → PS X Y n L p a' b' → (a' = a ∧ b' = b) ∨ (a' = b ∧ b' = a) := by
  have an := List.mem_range.mp hs.1
  have bn := List.mem_range.mp hs.2.1
  have cn := List.mem_range.mp hs.2.2.1
  have o := hs.2.2.2.2.2.2.1
  have on := on_side o ht z (hp a an)
  obtain ⟨e, he, e1, e2, -⟩ := net_has h.1 h.2.1 h.2.2.1 hs
  have w := h.2.1.1 e he
  have nab : NBR X Y n L a b := (nbr_nbe h hL an bn).mpr ⟨(h.1.1 b hs.2.1).2.2, e, he, e1, e2⟩
  have nba : NBR X Y n L b a := (nbr_nbe h hL bn an).mpr ⟨(h.1.1 a hs.1).2.2, tw e, w.1, by rw [w.2.2.1, e2], by rw [w.2.2.2, e1]⟩
  have on' : OnS X Y (X p) (Y p) b a := by
    rw [onS_iff] at on ⊢
    refine ⟨by rw [gO_swap]; omega, ?_⟩
    have : gDot X Y p b a = gDot X Y p a b := by unfold gDot; grind
    omega
  refine ⟨⟨on, nab⟩, ⟨on', nba⟩, fun a' b' ha' hb' q => ?_⟩
  obtain ⟨z', -, -, d1, d2⟩ := onS_dots q.1
  have le := loc_edge h.1 hs ht (List.mem_range.mpr ha') (List.mem_range.mpr hb') (NBR.edg h hL ha' hb' q.2) z' (d1 (hp b' hb')) (d2 (hp a' ha'))
  have ne := q.2.1
  have z1 : gO X Y b c p ≠ 0 := fun y => not_two o z y (hp b bn)
  have z2 : gO X Y c a p ≠ 0 := fun y => not_two (a := c) (b := a) (c := b) (by rw [← gO_rot]; exact o) y z (hp a an)
  have s1 := gO_swap X Y b c p
  have s2 := gO_swap X Y c a p
  rcases le with ⟨r | r | r, t | t | t⟩ <;> rw [r, t] at z' <;> first
    | exact absurd (r.trans t.symm) ne
    | exact Or.inl ⟨r, t⟩
    | exact Or.inr ⟨r, t⟩
    | (exfalso; omega)
/-- inside a triangle: no pair, and it alone -/
theorem loc_inside (h : NETX X Y n G m s tw) (hL : TRI X Y n L) (hp : ∀ i, i < n → dif X Y p i) {a b c : Nat} (hs : solid X Y (List.range n) a b c) (i1 : 0 < gO X Y a b p) (i2 : 0 < gO X Y b c p) (i3 : 0 < gO X Y c a p) : (∀ a' b', a' < n → b' < n → ¬ PS X Y n L p a' b') ∧ low3 a b c ∈ L ∧ INS X Y p (low3 a b c) ∧ ∀ t ∈ L, INS X Y p t → t = low3 a b c := by
  have o := hs.2.2.2.2.2.2.1
  have ht : inT X Y a b c p := ⟨Int.le_of_lt i1, Int.le_of_lt i2, Int.le_of_lt i3⟩
  refine ⟨fun a' b' ha' hb' q => ?_, (hL.2 _).mpr ⟨solid_rt h.1 hs (low3_rt _ _ _), low3_lt hs.2.2.2.1 hs.2.2.2.2.1 hs.2.2.2.2.2.1⟩, ?_, fun t htL q => ?_⟩
  · obtain ⟨z', -, -, d1, d2⟩ := onS_dots q.1
    have le := loc_edge h.1 hs ht (List.mem_range.mpr ha') (List.mem_range.mpr hb') (NBR.edg h hL ha' hb' q.2) z' (d1 (hp b' hb')) (d2 (hp a' ha'))
    have ne := q.2.1
    have s0 := gO_swap X Y a b p
    have s1 := gO_swap X Y b c p
    have s2 := gO_swap X Y c a p
    rcases le with ⟨r | r | r, t | t | t⟩ <;> rw [r, t] at z' <;> first
      | exact absurd (r.trans t.symm) ne
      | omega
  · rcases low3_rt a b c with r | r | r <;> rw [r]
    · exact ⟨i1, i2, i3⟩
    · exact ⟨i2, i3, i1⟩
    · exact ⟨i3, i1, i2⟩
  · have tt := (hL.2 t).mp htL
    have so := tt.1
    have le := loc_tri h.1 hs ht so q.1 q.2.1 q.2.2
    obtain ⟨x, y, z⟩ := t
    dsimp only at so le tt
    have n1 := so.2.2.2.1
    have n2 := so.2.2.2.2.1
    have n3 := so.2.2.2.2.2.1
    have so7 := so.2.2.2.2.2.2.1
    have r1 := gO_rot X Y a b c
    have r2 := gO_rot X Y b c a
    have f1 := gO_23 (X := X) (Y := Y) a b c
    have f2 := gO_23 (X := X) (Y := Y) b c a
    have f3 := gO_23 (X := X) (Y := Y) c a b
    refine (low3_eq ?_ tt.2.1 tt.2.2).symm
    unfold RT
    rcases le with ⟨e1 | e1 | e1, e2 | e2 | e2, e3 | e3 | e3⟩ <;> first
      | exact absurd (e1.trans e2.symm) n1
      | exact absurd (e2.trans e3.symm) n2
      | exact absurd (e3.trans e1.symm) n3
      | (left; rw [e1, e2, e3]; done)
      | (right; left; rw [e1, e2, e3]; done)
      | (right; right; rw [e1, e2, e3]; done)
      | (exfalso; rw [e1, e2, e3] at so7; omega)
end
