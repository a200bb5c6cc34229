/-! BOTH SIDES' GROUND: points on a line, or a net of them -/
def LIN (X Y : Nat → Int) (n : Nat) : Prop := ∀ i, i < n → ∀ j, j < n → ∀ k, k < n → gO X Y i j k = 0
def NETX (X Y : Nat → Int) (n G m : Nat) (s tw : Nat → Nat) : Prop := PtsL X Y 1024 G (List.range n) ∧ NetD X Y G (List.range n) m s tw ∧ 0 < m ∧ m ≤ 2 * n ∧ ∀ v, v < n → ∃ e, e < 3 * m ∧ s e = v
def DN (X Y : Nat → Int) (n : Nat) : Prop := ∀ i, i < n → ∀ j, j < n → i ≠ j → dif X Y i j
section
variable {X Y : Nat → Int} {P : List Nat} {N G m n : Nat} {s tw : Nat → Nat}
theorem solid_mem {P Q : List Nat} (h : ∀ i, i ∈ P ↔ i ∈ Q) {a b c : Nat} (g : solid X Y P a b c) : solid X Y Q a b c := by
  obtain ⟨h1, h2, h3, h4, h5, h6, h7, h8⟩ := g
  exact ⟨(h a).mp h1, (h b).mp h2, (h c).mp h3, h4, h5, h6, h7, fun d hd => h8 d ((h d).mpr hd)⟩
theorem outerE_mem {P Q : List Nat} (h : ∀ i, i ∈ P ↔ i ∈ Q) {a b : Nat} (g : outerE X Y P a b) : outerE X Y Q a b := ⟨(h a).mp g.1, (h b).mp g.2.1, g.2.2.1, fun d hd => g.2.2.2 d ((h d).mpr hd)⟩
theorem NetD.mem {P Q : List Nat} (h : ∀ i, i ∈ P ↔ i ∈ Q) (hD : NetD X Y G P m s tw) : NetD X Y G Q m s tw := by
  refine ⟨hD.1, fun e he => ?_, hD.2.2⟩
  rcases hD.2.1 e he with r | ⟨r, q⟩ | ⟨r, q⟩ | ⟨r, q⟩
  · exact Or.inl (solid_mem h r)
  · exact Or.inr (Or.inl ⟨r, outerE_mem h q⟩)
  · exact Or.inr (Or.inr (Or.inl ⟨r, outerE_mem h q⟩))
  · exact Or.inr (Or.inr (Or.inr ⟨r, outerE_mem h q⟩))
theorem PtsL.range (hP : PtsL X Y N G P) (h : ∀ i, i ∈ P ↔ i < n) : PtsL X Y N G (List.range n) := by
  have h' : ∀ i, i ∈ List.range n ↔ i ∈ P := fun i => by rw [List.mem_range, h]
  refine ⟨fun i hi => hP.1 i ((h' i).mp hi), fun i hi j hj => hP.2.1 i ((h' i).mp hi) j ((h' j).mp hj), List.nodup_range, ?_⟩
  obtain ⟨a, ha, b, hb, c, hc, hne⟩ := hP.2.2.2
  exact ⟨a, (h' a).mpr ha, b, (h' b).mpr hb, c, (h' c).mpr hc, hne⟩
theorem NETX.dn (h : NETX X Y n G m s tw) : DN X Y n := fun i hi j hj => h.1.2.1 i (List.mem_range.mpr hi) j (List.mem_range.mpr hj)
theorem NETX.n3 (h : NETX X Y n G m s tw) : 3 ≤ n := by
  obtain ⟨a, ha, b, hb, c, hc, hne⟩ := h.1.2.2.2
  rw [List.mem_range] at ha hb hc
  have h1 : a ≠ b := fun q => hne (by rw [q]; exact gO_11 b c)
  have h2 : a ≠ c := fun q => hne (by rw [q]; exact gO_12 c b)
  have h3 : b ≠ c := fun q => hne (by rw [q]; exact gO_22 a c)
  omega
theorem NETX.not_lin (h : NETX X Y n G m s tw) : ¬ LIN X Y n := by
  intro q
  obtain ⟨a, ha, b, hb, c, hc, hne⟩ := h.1.2.2.2
  rw [List.mem_range] at ha hb hc
  exact hne (q a ha b hb c hc)
theorem least_exists (hd : DN X Y n) : ∀ k, 0 < k → k ≤ n → ∃ r, leastP X Y k r := by
  intro k
  induction k with
  | zero => intro h; omega
  | succ k ih =>
    intro _ hk
    by_cases c : k = 0
    · subst c; exact ⟨0, by omega, fun j h1 h2 => by omega⟩
    obtain ⟨r, r1, r2⟩ := ih (by omega) (by omega)
    rcases gLess_tri (hd r (by omega) k (by omega) (by omega)) with q | q
    · refine ⟨r, by omega, fun j h1 h2 => ?_⟩
      by_cases e : j = k
      · rw [e]; exact q
      · exact r2 j (by omega) h2
    · refine ⟨k, by omega, fun j h1 h2 => ?_⟩
      by_cases e : j = r
      · rw [e]; exact q
      · exact gLess_trans q (r2 j (by omega) e)
theorem greatest_exists (hd : DN X Y n) : ∀ k, 0 < k → k ≤ n → ∃ r, r < k ∧ ∀ j, j < k → j ≠ r → gLess X Y j r := by
  intro k
  induction k with
  | zero => intro h; omega
  | succ k ih =>
    intro _ hk
    by_cases c : k = 0
    · subst c; exact ⟨0, by omega, fun j h1 h2 => by omega⟩
    obtain ⟨r, r1, r2⟩ := ih (by omega) (by omega)
    rcases gLess_tri (hd r (by omega) k (by omega) (by omega)) with q | q
    · refine ⟨k, by omega, fun j h1 h2 => ?_⟩
      by_cases e : j = r
      · rw [e]; exact q
      · exact gLess_trans (r2 j (by omega) e) q
    · refine ⟨r, by omega, fun j h1 h2 => ?_⟩
      by_cases e : j = k
      · rw [e]; exact q
      · exact r2 j (by omega) h2
theorem lexpos {z1 z2 u1 u2 : Int} (hz : 0 < z1 ∨ (z1 = 0 ∧ 0 < z2)) (hu : 0 < u1 ∨ (u1 = 0 ∧ 0 < u2)) (h : z1 * u2 - z2 * u1 = 0) : 0 < z1 * u1 + z2 * u2 := by
  rcases hz with hz | ⟨hz, hz2⟩
  · rcases hu with hu | ⟨hu, hu2⟩
    · have e : z1 * (z2 * u2) = u1 * (z2 * z2) := by
        have : z1 * u2 = z2 * u1 := by omega
        calc z1 * (z2 * u2) = z2 * (z1 * u2) := by grind
          _ = z2 * (z2 * u1) := by rw [this]
          _ = u1 * (z2 * z2) := by grind
      have s : 0 ≤ z2 * z2 := by
        rcases Int.le_total 0 z2 with q | q
        · exact Int.mul_nonneg q q
        · exact Int.mul_nonneg_of_nonpos_of_nonpos q q
      have a := Int.mul_nonneg (Int.le_of_lt hu) s
      have b := Int.mul_pos hz hu
      have c : 0 ≤ z2 * u2 := by
        by_cases q : 0 ≤ z2 * u2
        · exact q
        · have := Int.mul_neg_of_pos_of_neg hz (show z2 * u2 < 0 by omega)
          omega
      omega
    · exfalso
      rw [hu, Int.mul_zero] at h
      have := Int.mul_pos hz hu2
      omega
  · rcases hu with hu | ⟨hu, hu2⟩
    · exfalso
      rw [hz, Int.zero_mul] at h
      have := Int.mul_pos hz2 hu
      omega
    · rw [hz, Int.zero_mul]
      have := Int.mul_pos hz2 hu2
      omega
/-- three on a line, one after another -/
theorem line_between {a k b : Nat} (h1 : gLess X Y a k) (h2 : gLess X Y k b) (h0 : gO X Y a k b = 0) : gDot X Y k a b < 0 := by
  have := lexpos (z1 := X k - X a) (z2 := Y k - Y a) (u1 := X b - X k) (u2 := Y b - Y k) (by unfold gLess at h1; omega) (by unfold gLess at h2; omega) (by rw [← h0]; unfold gO; grind)
  have e : gDot X Y k a b = -((X k - X a) * (X b - X k) + (Y k - Y a) * (Y b - Y k)) := by unfold gDot; grind
  omega
theorem line_D {a k b : Nat} (h1 : gLess X Y a k) (h2 : gLess X Y k b) (h0 : gO X Y a k b = 0) : D2 X Y a (X k) (Y k) < D2 X Y a (X b) (Y b) ∧ D2 X Y b (X k) (Y k) < D2 X Y b (X a) (Y a) := by
  have d := line_between h1 h2 h0
  have p1 : 0 ≤ gD X Y b k := by
    by_cases c : dif X Y b k
    · exact Int.le_of_lt (gD_pos c)
    · exfalso; unfold gLess at h2; unfold dif at c; omega
  have p2 : 0 ≤ gD X Y a k := by
    by_cases c : dif X Y a k
    · exact Int.le_of_lt (gD_pos c)
    · exfalso; unfold gLess at h1; unfold dif at c; omega
  have e1 : D2 X Y a (X b) (Y b) = D2 X Y a (X k) (Y k) + gD X Y b k - 2 * gDot X Y k a b := by unfold D2 gD gDot; grind
  have e2 : D2 X Y b (X a) (Y a) = D2 X Y b (X k) (Y k) + gD X Y a k - 2 * gDot X Y k a b := by unfold D2 gD gDot; grind
  omega
/-- the corners of points on a line -/
theorem lin_corn (hd : DN X Y n) (hl : LIN X Y n) : (n = 0 → CORN X Y n []) ∧ ∀ a b, leastP X Y n a → b < n → (∀ j, j < n → j ≠ b → gLess X Y j b) → CORN X Y n (if b = a then [a] else [a, b]) := by
  refine ⟨fun h => Or.inl ⟨h, rfl⟩, fun a b ha hb hg => ?_⟩
  by_cases c : b = a
  · rw [if_pos c]
    have n1 : n = 1 := by
      by_cases q : n = 1
      · exact q
      · exfalso
        obtain ⟨k, hk, hka⟩ : ∃ k, k < n ∧ k ≠ a := by
          by_cases r : a = 0
          · exact ⟨1, by omega, by omega⟩
          · exact ⟨0, by omega, by omega⟩
        have q1 := ha.2 k hk hka
        have q2 := hg k hk (by rw [c]; exact hka)
        rw [c] at q2
        exact gLess_irr (gLess_trans q1 q2)
    exact Or.inr ⟨by omega, by simp, ha, fun i hi => by simp at hi, Or.inl n1⟩
  · rw [if_neg c]
    refine Or.inr ⟨by omega, by simp, ha, fun i hi => ?_, Or.inr ?_⟩
    · have : i = 0 := by simp at hi; omega
      subst this
      refine ⟨⟨hb, c, fun k hk n1 n2 => Or.inr ⟨hl a ha.1 b hb k hk, ?_⟩⟩, c⟩
      exact (line_D (ha.2 k hk n1) (hg k hk n2) (hl a ha.1 k hk b hb)).1
    · show nextC X Y n b a
      exact ⟨ha.1, fun q => c q.symm, fun k hk n1 n2 => Or.inr ⟨hl b hb a ha.1 k hk, (line_D (ha.2 k hk n2) (hg k hk n1) (hl a ha.1 k hk b hb)).2⟩⟩
/-- the outline of a net, from the least point -/
theorem NETX.out (h : NETX X Y n G m s tw) : ∃ e0 L, e0 < 3 * m ∧ s (nx e0) = G ∧ OUT X Y n L (fun i => s (itr (sig tw) i e0)) ∧ L ≤ n ∧ itr (sig tw) L e0 = e0 ∧ (∀ i, 0 < i → i < L → itr (sig tw) i e0 ≠ e0) ∧ ∃ x, CE X Y (List.range n) (s (itr (sig tw) 0 e0)) (s (itr (sig tw) 1 e0)) x := by
  have hn : ∀ i, i ∈ List.range n ↔ i < n := fun i => List.mem_range
  have n3 := h.n3
  obtain ⟨v0, hv0⟩ := least_exists h.dn n (by omega) (Nat.le_refl _)
  obtain ⟨e, he, hs⟩ := h.2.2.2.2 v0 hv0.1
  rw [← hs] at hv0
  obtain ⟨i, hi⟩ := least_outer h.1 h.2.1 hn he hv0
  have ii := itr_rho h.2.1 he i
  generalize itr (rho tw) i e = e0 at *
  rw [← ii.2] at hv0
  obtain ⟨L, o1, o2, o3, o4⟩ := out_of h.1 h.2.1 hn ii.1 hv0 hi
  refine ⟨e0, L, ii.1, hi, o1, o2, o3, o4, ?_⟩
  have k := sig_ok h.1 h.2.1 ii.1 hi
  have gl := nx_lt (nx_lt ii.1)
  have w := h.2.1.1 _ gl
  have g := (ghost_one h.1 h.2.1 _ (nx_lt ii.1) hi).1
  have bs := base_solid h.1 h.2.1 gl g (by rw [nx3]; exact k.2.2.2.1) (sol_no (Or.inr (Or.inr (by rw [nx3]; exact hi))))
  have so := h.2.1.solid w.1 bs
  rw [w.2.2.1, w.2.2.2, nx3] at so
  rw [← k.2.2.1] at so
  exact ⟨_, solid_CE so⟩
/-- a side of a cell is an edge of the net: beyond it is a circle, or nothing -/
theorem NETX.beyond (h : NETX X Y n G m s tw) {K : List Nat} (hK : ISC X Y (List.range n) K) {p q : Nat} (hs : (p, q) ∈ sidesOf K) : NoL X Y (List.range n) q p ∨ ∃ c, CE X Y (List.range n) q p c := by
  have hD : DIS X Y (List.range n) := h.1.2.1
  -- a triangle at the side
  have tri : ∃ x, solid X Y (List.range n) p q x := by
    obtain ⟨a, b, c, hE, hK⟩ := hK
    have l3 := hK.len hD hE
    obtain ⟨i, hi, e1, e2⟩ := sides_mem.mp hs
    subst e1 e2
    by_cases c0 : i = 0
    · subst c0
      have f := hK.fan hD hE (k := 2) (by omega) (by omega)
      rw [Nat.mod_eq_of_lt (show 0 + 1 < K.length by omega)]
      exact ⟨_, f⟩
    by_cases c1 : i + 1 < K.length
    · have f := hK.fan hD hE (k := i + 1) (by omega) c1
      rw [Nat.mod_eq_of_lt c1]
      exact ⟨_, solid_rot h.1 f⟩
    · have f := hK.fan hD hE (k := i) (by omega) hi
      rw [show i + 1 = K.length by omega, Nat.mod_self]
      exact ⟨_, solid_rot h.1 (solid_rot h.1 f)⟩
  obtain ⟨x, hx⟩ := tri
  obtain ⟨e, he, e1, e2, e3⟩ := net_has h.1 h.2.1 h.2.2.1 hx
  have w := h.2.1.1 e he
  cases hs2 : sol G s (tw e / 3) with
  | true =>
    have so := h.2.1.solid w.1 hs2
    rw [w.2.2.1, w.2.2.2, e1, e2] at so
    exact Or.inr ⟨_, solid_CE so⟩
  | false =>
    have o := (NetD.outer h.1 h.2.1 w.1 (by rw [w.2.2.1, e2]; exact (h.1.1 _ hx.2.1).2.2) (by rw [w.2.2.2, e1]; exact (h.1.1 _ hx.1).2.2) hs2).2
    rw [w.2.2.1, w.2.2.2, e1, e2] at o
    refine Or.inl (fun k hk hpos => ?_)
    by_cases c1 : k = q
    · rw [c1, gO_12] at hpos; omega
    by_cases c2 : k = p
    · rw [c2, gO_22] at hpos; omega
    exact o.2.2.2 k hk c1 c2 (Or.inl hpos)
/-- a net has three corners or more -/
theorem NETX.corn3 (h : NETX X Y n G m s tw) {C : List Nat} (hC : CORN X Y n C) : 3 ≤ C.length := by
  have n3 := h.n3
  rcases hC with ⟨c, -⟩ | ⟨-, c1, c2, c3, c4⟩
  · omega
  have c4 := c4.resolve_left (by omega)
  by_cases q : 3 ≤ C.length
  · exact q
  exfalso
  by_cases l1 : C.length = 1
  · rw [l1] at c4
    exact c4.2.1 rfl
  · have l2 : C.length = 2 := by omega
    have t : nextC X Y n (C.getD 0 0) (C.getD 1 0) := (c3 0 (by omega)).1
    rw [l2] at c4
    have t2 : nextC X Y n (C.getD 1 0) (C.getD 0 0) := c4
    -- all on one line
    have on : ∀ k, k < n → gO X Y (C.getD 0 0) (C.getD 1 0) k = 0 := by
      intro k hk
      by_cases k1 : k = C.getD 0 0
      · rw [k1, gO_12]
      by_cases k2 : k = C.getD 1 0
      · rw [k2, gO_22]
      have a := t.2.2 k hk k1 k2
      have b := t2.2.2 k hk k2 k1
      have e := gO_swap X Y (C.getD 0 0) (C.getD 1 0) k
      omega
    obtain ⟨x, hx, hne⟩ := off_line (h.dn _ t2.1 _ t.1 (fun z => t.2.1 z.symm)) h.1.2.2.2
    exact hne (on x (List.mem_range.mp hx))
/-- the edge with which the reference begins -/
theorem first_edge {L : Nat} {v : Nat → Nat} (hd : DN X Y n) (h : OUT X Y n L v) {c b : Nat} (hc : nextC X Y n (v 0) c) (hb : b < n) (hb0 : b ≠ v 0) (h0 : gO X Y (v 0) c b = 0) (hm : ∀ k, k < n → k ≠ v 0 → gO X Y (v 0) c k = 0 → D2 X Y (v 0) (X b) (Y b) ≤ D2 X Y (v 0) (X k) (Y k)) : b = v 1 := by
  have n01 := h.2.2.2.2.1 0
  have v1n := h.2.2.1 1
  have le := h.2.2.2.2.2.2.2.1
  have n01 : v 0 ≠ v 1 := n01
  -- v 1 is on the line
  have c1 : gO X Y (v 0) c (v 1) = 0 := by
    by_cases q : v 1 = c
    · rw [q, gO_22]
    have a := hc.2.2 (v 1) v1n (fun z => n01 z.symm) q
    have b := h.2.2.2.2.2.1 0 c hc.1
    have b : 0 ≤ gO X Y (v 0) (v 1) c := b
    have e := gO_23 (X := X) (Y := Y) (v 0) (v 1) c
    omega
  have db := hm (v 1) v1n (fun z => n01 z.symm) c1
  by_cases q : b = v 1
  · exact q
  exfalso
  have z := gO_col0 (hd _ (h.2.2.1 0) c hc.1 (fun z => hc.2.1 z.symm)) c1 h0
  have bt := h.2.2.2.2.2.2.1 0 b hb hb0 q z
  have bt : 0 < gDot X Y b (v 0) (v 1) := bt
  have l1 := le.2 b hb hb0
  have l2 := le.2 (v 1) v1n (fun z => n01 z.symm)
  rcases gLess_tri (hd b hb (v 1) v1n q) with r | r
  · have := line_between l1 r (by rw [gO_23]; omega)
    omega
  · have := (line_D l2 r z).1
    omega
end
