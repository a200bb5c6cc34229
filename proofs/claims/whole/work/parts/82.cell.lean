/-! CELLS: all points on one empty circle, left round from the least -/
section
variable {X Y : Nat → Int}
def gD (X Y : Nat → Int) (i j : Nat) : Int := (X i - X j) * (X i - X j) + (Y i - Y j) * (Y i - Y j)
theorem gD_pos {i j : Nat} (h : dif X Y i j) : 0 < gD X Y i j := by
  have := sq_pos (u := X i - X j) (v := Y i - Y j) (fun q => h ⟨by omega, by omega⟩)
  unfold gD
  omega
theorem circ_id (X Y : Nat → Int) (f p q r : Nat) : gV X Y (gQ X Y) f p q r = gD X Y f q * gO X Y p q r - gD X Y p q * gO X Y f q r - gD X Y r q * gO X Y f p q := by
  unfold gV gD gO gQ; grind
/-- all four on the circle of a, b, c -/
theorem plane_id {a b c d e f : Nat} (x : Nat) (hd : gV X Y (gQ X Y) a b c d = 0) (he : gV X Y (gQ X Y) a b c e = 0) (hf : gV X Y (gQ X Y) a b c f = 0) : gV X Y (gQ X Y) d e f x * gO X Y a b c = gO X Y d e f * gV X Y (gQ X Y) a b c x := by
  have h := cram (frm (rvz X Y (gQ X Y) a) (rvz X Y (gQ X Y) b) (rvz X Y (gQ X Y) c)) (rvz X Y (gQ X Y) d) (rvz X Y (gQ X Y) e) (rvz X Y (gQ X Y) f) (rvz X Y (gQ X Y) x) vUp
  simp only [frm_ap, rv_gV, up_O, hd, he, hf] at h
  rw [Int.mul_neg] at h
  have e1 : -gO X Y d e f * gV X Y (gQ X Y) a b c x = - (gO X Y d e f * gV X Y (gQ X Y) a b c x) := Int.neg_mul _ _
  omega
theorem circ_four {a b c d e f x : Nat} (hO : gO X Y a b c ≠ 0) (hd : gV X Y (gQ X Y) a b c d = 0) (he : gV X Y (gQ X Y) a b c e = 0) (hf : gV X Y (gQ X Y) a b c f = 0) (hx : gV X Y (gQ X Y) a b c x = 0) : gV X Y (gQ X Y) d e f x = 0 := by
  have h := plane_id x hd he hf
  rw [hx, Int.mul_zero] at h
  rcases Int.mul_eq_zero.mp h with h | h
  · exact h
  · exact absurd h hO
theorem gV_at1 (Z : Nat → Int) (a b c : Nat) : gV X Y Z a b c a = 0 := by unfold gV; grind
theorem gV_at2 (Z : Nat → Int) (a b c : Nat) : gV X Y Z a b c b = 0 := by unfold gV; grind
theorem gV_at3 (Z : Nat → Int) (a b c : Nat) : gV X Y Z a b c c = 0 := by unfold gV; grind
theorem gO_11 (a b : Nat) : gO X Y a a b = 0 := by unfold gO; grind
theorem gO_12 (a b : Nat) : gO X Y a b a = 0 := by unfold gO; grind
theorem gO_22 (a b : Nat) : gO X Y a b b = 0 := by unfold gO; grind
/-- no three of a circle on a line -/
theorem circ_ne {a b c p q r : Nat} (hO : gO X Y a b c ≠ 0) (hp : gV X Y (gQ X Y) a b c p = 0) (hq : gV X Y (gQ X Y) a b c q = 0) (hr : gV X Y (gQ X Y) a b c r = 0) (pq : dif X Y p q) (rp : dif X Y r p) (rq : dif X Y r q) : gO X Y p q r ≠ 0 := by
  intro h0
  obtain ⟨i, hi, hne⟩ := off_line (P := [a, b, c]) pq ⟨a, by simp, b, by simp, c, by simp, hO⟩
  have hi0 : gV X Y (gQ X Y) a b c i = 0 := by
    simp only [List.mem_cons, List.not_mem_nil, or_false] at hi
    rcases hi with rfl | rfl | rfl
    · exact gV_at1 _ _ _ _
    · exact gV_at2 _ _ _ _
    · exact gV_at3 _ _ _ _
  have v := circ_four hO hp hq hi0 hr
  rw [col_V h0 i] at v
  have d := dot_ne h0 rp rq
  rcases Int.mul_eq_zero.mp (Int.neg_eq_zero.mp v) with h | h
  · exact hne h
  · exact d h
/-- the order round f on a circle -/
theorem circ_mid {f p q r : Nat} (h : gV X Y (gQ X Y) f p q r = 0) (fq : dif X Y f q) (pq : dif X Y p q) (rq : dif X Y r q) (h1 : 0 < gO X Y f p q) (h2 : 0 < gO X Y f q r) : 0 < gO X Y p q r := by
  rw [circ_id] at h
  have a := Int.mul_pos (gD_pos pq) h2
  have b := Int.mul_pos (gD_pos rq) h1
  have c : 0 < gD X Y f q * gO X Y p q r := by omega
  have := gD_pos fq
  exact Int.pos_of_mul_pos_right c this
theorem circ_trans {f p q r : Nat} (h : gV X Y (gQ X Y) f p q r = 0) (pf : dif X Y p f) (qf : dif X Y q f) (rf : dif X Y r f) (h1 : 0 < gO X Y f p q) (h2 : 0 < gO X Y f q r) : 0 < gO X Y f p r := by
  have e : gV X Y (gQ X Y) f p q r = gD X Y q f * gO X Y f p r - gD X Y p f * gO X Y f q r - gD X Y r f * gO X Y f p q := by unfold gV gD gO gQ; grind
  rw [e] at h
  have a := Int.mul_pos (gD_pos pf) h2
  have b := Int.mul_pos (gD_pos rf) h1
  have c : 0 < gD X Y q f * gO X Y f p r := by omega
  have := gD_pos qf
  exact Int.pos_of_mul_pos_right c this
theorem gO_23 (a b c : Nat) : gO X Y a c b = - gO X Y a b c := by unfold gO; grind
def CE (X Y : Nat → Int) (P : List Nat) (a b c : Nat) : Prop := a ∈ P ∧ b ∈ P ∧ c ∈ P ∧ 0 < gO X Y a b c ∧ ∀ d ∈ P, gV X Y (gQ X Y) a b c d ≤ 0
theorem solid_CE {P : List Nat} {a b c : Nat} (h : solid X Y P a b c) : CE X Y P a b c := by
  obtain ⟨h1, h2, h3, h4, h5, h6, h7, h8⟩ := h
  refine ⟨h1, h2, h3, h7, fun d hd => ?_⟩
  by_cases c1 : d = a
  · rw [c1, gV_at1]; exact Int.le_refl _
  by_cases c2 : d = b
  · rw [c2, gV_at2]; exact Int.le_refl _
  by_cases c3 : d = c
  · rw [c3, gV_at3]; exact Int.le_refl _
  have := h8 d hd c1 c2 c3
  unfold takes at this
  omega
theorem CE_same {P : List Nat} {a b c d e f : Nat} (h : CE X Y P a b c) (hd : d ∈ P) (he : e ∈ P) (hf : f ∈ P) (zd : gV X Y (gQ X Y) a b c d = 0) (ze : gV X Y (gQ X Y) a b c e = 0) (zf : gV X Y (gQ X Y) a b c f = 0) (hO : 0 < gO X Y d e f) : CE X Y P d e f ∧ ∀ x, gV X Y (gQ X Y) d e f x = 0 ↔ gV X Y (gQ X Y) a b c x = 0 := by
  have id := fun x => plane_id x zd ze zf
  refine ⟨⟨hd, he, hf, hO, fun x hx => ?_⟩, fun x => ?_⟩
  · have i := id x
    by_cases q : gV X Y (gQ X Y) d e f x ≤ 0
    · exact q
    · have a1 := Int.mul_pos (Int.not_le.mp q) h.2.2.2.1
      have a2 := Int.mul_nonpos_of_nonneg_of_nonpos (Int.le_of_lt hO) (h.2.2.2.2 x hx)
      omega
  · have i := id x
    constructor
    · intro q
      rw [q, Int.zero_mul] at i
      rcases Int.mul_eq_zero.mp i.symm with j | j
      · omega
      · exact j
    · intro q
      rw [q, Int.mul_zero] at i
      rcases Int.mul_eq_zero.mp i with j | j
      · exact j
      · have := h.2.2.2.1; omega
/-- two empty circles over one edge are one -/
theorem CE_edge {P : List Nat} {a b c d : Nat} (h : CE X Y P a b c) (g : CE X Y P a b d) : gV X Y (gQ X Y) a b c d = 0 := by
  have h1 := h.2.2.2.2 d g.2.2.1
  have h2 := g.2.2.2.2 c h.2.2.1
  rw [gV_swap'] at h2
  omega
/-- the best on the left of an edge -/
theorem best_step {a b c k k' : Nat} (hc : 0 < gO X Y a b c) (hk : 0 < gO X Y a b k) (hk' : 0 < gO X Y a b k') (h1 : 0 < gV X Y (gQ X Y) a b c k) (h2 : gV X Y (gQ X Y) a b c k' ≤ 0) : gV X Y (gQ X Y) a b k k' ≤ 0 := by
  have e := gV_turns X Y (gQ X Y) a b c k k'
  have a1 := Int.mul_pos h1 hk'
  have a2 := Int.mul_nonpos_of_nonpos_of_nonneg h2 (Int.le_of_lt hk)
  by_cases q : gV X Y (gQ X Y) a b k k' ≤ 0
  · exact q
  · have a3 := Int.mul_pos (Int.not_le.mp q) hc
    omega
end
section
variable {X Y : Nat → Int} {N G : Nat} {P : List Nat} {m : Nat} {s tw : Nat → Nat}
/-- from any triangle one comes to any other over edges -/
theorem net_reach (hP : PtsL X Y N G P) (h : NetD X Y G P m s tw) {M : Nat → Prop} (hM : ∀ e, e < 3 * m → sol G s (e / 3) = true → M (e / 3) → sol G s (tw e / 3) = true → M (tw e / 3)) {x y z : Nat} (hz : solid X Y P x y z) : ∀ (k t : Nat), t < m → sol G s t = true → M t → far X Y N G m s (vadd (vadd (rvz X Y (gZ X Y N) x) (rvz X Y (gZ X Y N) y)) (rvz X Y (gZ X Y N) z)) t ≤ k → ∃ e, e < 3 * m ∧ M (e / 3) ∧ s e = x ∧ s (nx e) = y ∧ s (nx (nx e)) = z := by
  generalize hq : vadd (vadd (rvz X Y (gZ X Y N) x) (rvz X Y (gZ X Y N) y)) (rvz X Y (gZ X Y N) z) = q
  have vq : ∀ a b c : V4, vV a b c q = vV a b c (rvz X Y (gZ X Y N) x) + vV a b c (rvz X Y (gZ X Y N) y) + vV a b c (rvz X Y (gZ X Y N) z) := fun a b c => by rw [← hq, vV_add, vV_add]
  -- over an edge: go on
  have go : ∀ e, e < 3 * m → sol G s (e / 3) = true → 0 < vV (rvz X Y (gZ X Y N) (s e)) (rvz X Y (gZ X Y N) (s (nx e))) q vUp → sol G s (tw e / 3) = true := by
    intro e he hs hp
    have w := h.1 e he
    have r := h.solid he hs
    cases hc : sol G s (tw e / 3) with
    | true => rfl
    | false =>
      exfalso
      have g1 := (hP.1 _ r.1).2.2
      have g2 := (hP.1 _ r.2.1).2.2
      have o := NetD.outer hP h w.1 (by rw [w.2.2.1]; exact g2) (by rw [w.2.2.2]; exact g1) hc
      rw [w.2.2.1, w.2.2.2] at o
      rw [vV_34, vq, up_O', up_O', up_O'] at hp
      have key : ∀ i ∈ P, 0 ≤ gO X Y (s e) (s (nx e)) i := by
        intro i hi
        by_cases q1 : i = s (nx e)
        · rw [q1]; unfold gO; rw [Int.mul_comm]; omega
        by_cases q2 : i = s e
        · rw [q2]; unfold gO; simp
        have := o.2.2.2.2 i hi q1 q2
        have n : ¬ 0 < gO X Y (s (nx e)) (s e) i := fun z => this (Or.inl z)
        rw [gO_swap] at n
        omega
      have k1 := key x hz.1
      have k2 := key y hz.2.1
      have k3 := key z hz.2.2.1
      omega
  -- no edge has it beyond: it is the one
  have stay : ∀ t, t < m → sol G s t = true → (∀ e, e / 3 = t → vV (rvz X Y (gZ X Y N) (s e)) (rvz X Y (gZ X Y N) (s (nx e))) q vUp ≤ 0) → ∃ e, e < 3 * m ∧ e / 3 = t ∧ s e = x ∧ s (nx e) = y ∧ s (nx (nx e)) = z := by
    intro t ht hs hall
    have r := h.solid (e := 3 * t) (by omega) (by rw [show 3 * t / 3 = t by omega]; exact hs)
    have a0 := hall (3 * t) (by omega)
    have a1 := hall (3 * t + 1) (by omega)
    have a2 := hall (3 * t + 2) (by omega)
    rw [nx_0] at a0 r
    rw [nx_1] at a1 r
    rw [nx_2] at a2
    have rl := root_lt (d := rvz X Y (gZ X Y N) x) (e := rvz X Y (gZ X Y N) y) (f := rvz X Y (gZ X Y N) z) a0 a1 a2 (solid_le hP hz r.1) (solid_le hP hz r.2.1) (solid_le hP hz r.2.2.1)
    rw [vq (rvz X Y (gZ X Y N) x), vV_same1, vV_same2, vV_same3, up_O X Y (gZ X Y N) x y z] at rl
    have l1 := solid_le hP r hz.1
    have l2 := solid_le hP r hz.2.1
    have l3 := solid_le hP r hz.2.2.1
    have hv := vq (rvz X Y (gZ X Y N) (s (3 * t))) (rvz X Y (gZ X Y N) (s (3 * t + 1))) (rvz X Y (gZ X Y N) (s (3 * t + 2)))
    have hO := hz.2.2.2.2.2.2.1
    have nn : 0 ≤ vV (rvz X Y (gZ X Y N) (s (3 * t))) (rvz X Y (gZ X Y N) (s (3 * t + 1))) (rvz X Y (gZ X Y N) (s (3 * t + 2))) q := by
      rw [show (0 : Int) + 0 + 0 = 0 by decide, Int.mul_zero, Int.mul_neg] at rl
      by_cases c : 0 ≤ vV (rvz X Y (gZ X Y N) (s (3 * t))) (rvz X Y (gZ X Y N) (s (3 * t + 1))) (rvz X Y (gZ X Y N) (s (3 * t + 2))) q
      · exact c
      · have := Int.mul_neg_of_neg_of_pos (Int.not_le.mp c) hO
        omega
    have inT : ∀ i ∈ P, vV (rvz X Y (gZ X Y N) (s (3 * t))) (rvz X Y (gZ X Y N) (s (3 * t + 1))) (rvz X Y (gZ X Y N) (s (3 * t + 2))) (rvz X Y (gZ X Y N) i) = 0 → i = s (3 * t) ∨ i = s (3 * t + 1) ∨ i = s (3 * t + 2) := by
      intro i hi h0
      by_cases c1 : i = s (3 * t)
      · exact Or.inl c1
      by_cases c2 : i = s (3 * t + 1)
      · exact Or.inr (Or.inl c2)
      by_cases c3 : i = s (3 * t + 2)
      · exact Or.inr (Or.inr c3)
      have := solid_neg hP r hi c1 c2 c3
      omega
    have ix := inT x hz.1 (by omega)
    have iy := inT y hz.2.1 (by omega)
    have iz := inT z hz.2.2.1 (by omega)
    have xy := hz.2.2.2.1
    have yz := hz.2.2.2.2.1
    have zx := hz.2.2.2.2.2.1
    have rO := r.2.2.2.2.2.2.1
    have flip : ∀ a b c : Nat, gO X Y a c b = - gO X Y a b c := fun a b c => by
      have e1 := gO_rot X Y a c b
      have e2 := gO_swap X Y b c a
      have e3 := gO_rot X Y a b c
      have e4 := gO_rot X Y b c a
      have e5 := gO_rot X Y c b a
      unfold gO at *
      grind
    rcases ix with ix | ix | ix <;> rcases iy with iy | iy | iy <;> rcases iz with iz | iz | iz <;>
      first
      | exact absurd (ix.trans iy.symm) xy
      | exact absurd (iy.trans iz.symm) yz
      | exact absurd (iz.trans ix.symm) zx
      | exact ⟨3 * t, by omega, by omega, ix.symm, by rw [nx_0]; exact iy.symm, by rw [nx_0, nx_1]; exact iz.symm⟩
      | exact ⟨3 * t + 1, by omega, by omega, ix.symm, by rw [nx_1]; exact iy.symm, by rw [nx_1, nx_2]; exact iz.symm⟩
      | exact ⟨3 * t + 2, by omega, by omega, ix.symm, by rw [nx_2]; exact iy.symm, by rw [nx_2, nx_0]; exact iz.symm⟩
      | (exfalso
         rw [ix, iy, iz] at hO
         have f1 := flip (s (3 * t)) (s (3 * t + 1)) (s (3 * t + 2))
         have f2 := gO_rot X Y (s (3 * t)) (s (3 * t + 2)) (s (3 * t + 1))
         have f3 := gO_rot X Y (s (3 * t + 2)) (s (3 * t + 1)) (s (3 * t))
         omega)
  intro k
  induction k with
  | zero =>
    intro t ht hs hm hf
    by_cases hall : ∀ e, e / 3 = t → vV (rvz X Y (gZ X Y N) (s e)) (rvz X Y (gZ X Y N) (s (nx e))) q vUp ≤ 0
    · obtain ⟨e, h1, h2, h3⟩ := stay t ht hs hall
      exact ⟨e, h1, by rw [h2]; exact hm, h3⟩
    · exfalso
      obtain ⟨e, he⟩ := Classical.not_forall.mp hall
      obtain ⟨he1, he2⟩ := Classical.not_imp.mp he
      subst he1
      have hel : e < 3 * m := by omega
      have hs' := go e hel hs (Int.not_le.mp he2)
      have := far_lt h ht (div3 (h.1 e hel).1) hs hs' (step_near hP h hel hs hs' (Int.not_le.mp he2))
      omega
  | succ k ih =>
    intro t ht hs hm hf
    by_cases hall : ∀ e, e / 3 = t → vV (rvz X Y (gZ X Y N) (s e)) (rvz X Y (gZ X Y N) (s (nx e))) q vUp ≤ 0
    · obtain ⟨e, h1, h2, h3⟩ := stay t ht hs hall
      exact ⟨e, h1, by rw [h2]; exact hm, h3⟩
    · obtain ⟨e, he⟩ := Classical.not_forall.mp hall
      obtain ⟨he1, he2⟩ := Classical.not_imp.mp he
      subst he1
      have hel : e < 3 * m := by omega
      have hs' := go e hel hs (Int.not_le.mp he2)
      have hlt := far_lt h ht (div3 (h.1 e hel).1) hs hs' (step_near hP h hel hs hs' (Int.not_le.mp he2))
      exact ih (tw e / 3) (div3 (h.1 e hel).1) hs' (hM e hel hs hm hs') (by omega)
end
/-- two rows in one strict order with the same members are one -/
theorem sorted_eq {α : Type} {R : α → α → Prop} (as : ∀ a b, R a b → ¬ R b a) : ∀ l1 l2 : List α, l1.Pairwise R → l2.Pairwise R → (∀ x, x ∈ l1 ↔ x ∈ l2) → l1 = l2 := by
  intro l1
  induction l1 with
  | nil =>
    intro l2 _ _ h
    cases l2 with
    | nil => rfl
    | cons b t => exact absurd ((h b).mpr (List.mem_cons_self ..)) (List.not_mem_nil)
  | cons a t1 ih =>
    intro l2 p1 p2 h
    cases l2 with
    | nil => exact absurd ((h a).mp (List.mem_cons_self ..)) (List.not_mem_nil)
    | cons b t2 =>
      rw [List.pairwise_cons] at p1 p2
      have hab : a = b := by
        rcases List.mem_cons.mp ((h a).mp (List.mem_cons_self ..)) with q | q
        · exact q
        · rcases List.mem_cons.mp ((h b).mpr (List.mem_cons_self ..)) with r | r
          · exact r.symm
          · exact absurd (p1.1 b r) (as _ _ (p2.1 a q))
      subst hab
      have irr : ∀ x, ¬ R x x := fun x q => as x x q q
      rw [ih t2 p1.2 p2.2 (fun x => ?_)]
      constructor
      · intro hx
        rcases List.mem_cons.mp ((h x).mp (List.mem_cons_of_mem _ hx)) with q | q
        · subst q; exact absurd (p1.1 _ hx) (irr _)
        · exact q
      · intro hx
        rcases List.mem_cons.mp ((h x).mpr (List.mem_cons_of_mem _ hx)) with q | q
        · subst q; exact absurd (p2.1 _ hx) (irr _)
        · exact q
section
variable {X Y : Nat → Int} {P : List Nat} {a b c : Nat} {K : List Nat}
/-- the cell of a, b, c -/
def CELL (X Y : Nat → Int) (P : List Nat) (a b c : Nat) (K : List Nat) : Prop := (∀ d, d ∈ K ↔ d ∈ P ∧ gV X Y (gQ X Y) a b c d = 0) ∧ K.Nodup ∧ ∃ f T, K = f :: T ∧ (∀ d ∈ T, gLess X Y f d) ∧ T.Pairwise (fun p q => 0 < gO X Y f p q)
def DIS (X Y : Nat → Int) (P : List Nat) : Prop := ∀ i ∈ P, ∀ j ∈ P, i ≠ j → dif X Y i j
theorem CELL.mem (h : CELL X Y P a b c K) {i : Nat} (hi : i < K.length) : K.getD i 0 ∈ P ∧ gV X Y (gQ X Y) a b c (K.getD i 0) = 0 := by
  refine (h.1 _).mp ?_
  rw [List.getD_eq_getElem?_getD, List.getElem?_eq_getElem hi]
  exact List.getElem_mem hi
theorem CELL.inj (h : CELL X Y P a b c K) {i j : Nat} (hi : i < K.length) (hj : j < K.length) (e : K.getD i 0 = K.getD j 0) : i = j := by
  rw [List.getD_eq_getElem?_getD, List.getElem?_eq_getElem hi, List.getD_eq_getElem?_getD, List.getElem?_eq_getElem hj] at e
  exact (List.getElem_inj h.2.1).mp e
theorem CELL.idx (h : CELL X Y P a b c K) {d : Nat} (hd : d ∈ P) (h0 : gV X Y (gQ X Y) a b c d = 0) : ∃ i, i < K.length ∧ K.getD i 0 = d := by
  obtain ⟨i, hi, e⟩ := List.getElem_of_mem ((h.1 d).mpr ⟨hd, h0⟩)
  exact ⟨i, hi, by rw [List.getD_eq_getElem?_getD, List.getElem?_eq_getElem hi]; exact e⟩
theorem CELL.first (h : CELL X Y P a b c K) {i : Nat} (h0 : 0 < i) (hi : i < K.length) : gLess X Y (K.getD 0 0) (K.getD i 0) := by
  obtain ⟨-, -, f, T, rfl, h2, h3⟩ := h
  obtain ⟨i, rfl⟩ : ∃ j, i = j + 1 := ⟨i - 1, by omega⟩
  have hi' : i < T.length := by simpa using hi
  show gLess X Y f (T.getD i 0)
  rw [List.getD_eq_getElem?_getD, List.getElem?_eq_getElem hi']
  exact h2 _ (List.getElem_mem hi')
theorem CELL.fst (h : CELL X Y P a b c K) {i j : Nat} (h0 : 0 < i) (hij : i < j) (hj : j < K.length) : 0 < gO X Y (K.getD 0 0) (K.getD i 0) (K.getD j 0) := by
  obtain ⟨-, -, f, T, rfl, h2, h3⟩ := h
  obtain ⟨i, rfl⟩ : ∃ k, i = k + 1 := ⟨i - 1, by omega⟩
  obtain ⟨j, rfl⟩ : ∃ k, j = k + 1 := ⟨j - 1, by omega⟩
  have hj' : j < T.length := by simpa using hj
  show 0 < gO X Y f (T.getD i 0) (T.getD j 0)
  rw [List.getD_eq_getElem?_getD, List.getElem?_eq_getElem (show i < T.length by omega), List.getD_eq_getElem?_getD, List.getElem?_eq_getElem hj']
  exact (List.pairwise_iff_getElem.mp h3) i j (by omega) hj' (by omega)
/-- left round -/
theorem CELL.cyc (hD : DIS X Y P) (hO : gO X Y a b c ≠ 0) (h : CELL X Y P a b c K) {i j k : Nat} (hij : i < j) (hjk : j < k) (hk : k < K.length) : 0 < gO X Y (K.getD i 0) (K.getD j 0) (K.getD k 0) := by
  by_cases c0 : i = 0
  · rw [c0]; exact h.fst (by omega) hjk hk
  have m0 := h.mem (i := 0) (by omega)
  have mi := h.mem (i := i) (by omega)
  have mj := h.mem (i := j) (by omega)
  have mk := h.mem (i := k) (by omega)
  have ne : ∀ u v, u < K.length → v < K.length → u ≠ v → dif X Y (K.getD u 0) (K.getD v 0) := fun u v hu hv huv => hD _ (h.mem hu).1 _ (h.mem hv).1 (fun q => huv (h.inj hu hv q))
  exact circ_mid (circ_four hO m0.2 mi.2 mj.2 mk.2) (ne 0 j (by omega) (by omega) (by omega)) (ne i j (by omega) (by omega) (by omega)) (ne k j (by omega) (by omega) (by omega)) (h.fst (by omega) hij (by omega)) (h.fst (by omega) hjk hk)
theorem CELL.len (hD : DIS X Y P) (hE : CE X Y P a b c) (h : CELL X Y P a b c K) : 3 ≤ K.length := by
  obtain ⟨i, hi, ei⟩ := h.idx hE.1 (gV_at1 _ _ _ _)
  obtain ⟨j, hj, ej⟩ := h.idx hE.2.1 (gV_at2 _ _ _ _)
  obtain ⟨k, hk, ek⟩ := h.idx hE.2.2.1 (gV_at3 _ _ _ _)
  have o := hE.2.2.2.1
  have h1 : i ≠ j := fun q => by rw [q, ej] at ei; rw [ei, gO_11] at o; omega
  have h2 : i ≠ k := fun q => by rw [q, ek] at ei; rw [ei, gO_12] at o; omega
  have h3 : j ≠ k := fun q => by rw [q, ek] at ej; rw [ej, gO_22] at o; omega
  omega
/-- a fan from the least point -/
theorem CELL.fan (hD : DIS X Y P) (hE : CE X Y P a b c) (h : CELL X Y P a b c K) {k : Nat} (h2 : 2 ≤ k) (hk : k < K.length) : solid X Y P (K.getD 0 0) (K.getD (k - 1) 0) (K.getD k 0) := by
  have hO : gO X Y a b c ≠ 0 := by have := hE.2.2.2.1; omega
  have m0 := h.mem (i := 0) (by omega)
  have m1 := h.mem (i := k - 1) (by omega)
  have m2 := h.mem hk
  have o := h.cyc hD hO (i := 0) (j := k - 1) (k := k) (by omega) (by omega) hk
  refine ⟨m0.1, m1.1, m2.1, fun q => ?_, fun q => ?_, fun q => ?_, o, fun d hd n0 n1 n2 ht => ?_⟩
  · have := h.inj (by omega) (by omega) q; omega
  · have := h.inj (by omega) (by omega) q; omega
  · have := h.inj (by omega) (by omega) q; omega
  have s := CE_same hE m0.1 m1.1 m2.1 m0.2 m1.2 m2.2 o
  have le := s.1.2.2.2.2 d hd
  unfold takes at ht
  have z : gV X Y (gQ X Y) (K.getD 0 0) (K.getD (k - 1) 0) (K.getD k 0) d = 0 := by omega
  obtain ⟨i, hi, ei⟩ := h.idx hd ((s.2 d).mp z)
  have i0 : i ≠ 0 := fun q => n0 (by rw [← ei, q])
  have i1 : i ≠ k - 1 := fun q => n1 (by rw [← ei, q])
  have i2 : i ≠ k := fun q => n2 (by rw [← ei, q])
  have l0 := h.first (show 0 < i by omega) hi
  rw [ei] at l0
  have l1 := h.first (i := k - 1) (by omega) (by omega)
  have l2 := h.first (i := k) (by omega) hk
  have nd : ¬ gLess X Y d (K.getD 0 0) := fun q => gLess_irr (gLess_trans q l0)
  have pos : ¬ gO X Y (K.getD (k - 1) 0) (K.getD k 0) d < 0 := by
    rw [← ei]
    by_cases q : i < k - 1
    · have := h.cyc hD hO (i := i) (j := k - 1) (k := k) q (by omega) hk
      rw [gO_rot]; omega
    · have := h.cyc hD hO (i := k - 1) (j := k) (k := i) (by omega) (by omega) hi
      omega
  rcases ht with ht | ⟨-, ht | ⟨-, ht | ⟨ht, -⟩⟩⟩
  · omega
  · exact nd ht.1
  · exact pos ht.2.2
  · exact ht ⟨l1, l2⟩
theorem CELL.next (hD : DIS X Y P) (hO : gO X Y a b c ≠ 0) (h : CELL X Y P a b c K) {i j : Nat} (i0 : 0 < i) (hi : i < K.length) (j0 : 0 < j) (hj : j < K.length) (o : 0 < gO X Y (K.getD 0 0) (K.getD i 0) (K.getD j 0)) (hd : ∀ d ∈ P, d ≠ K.getD 0 0 → d ≠ K.getD i 0 → d ≠ K.getD j 0 → gV X Y (gQ X Y) a b c d = 0 → ¬ gO X Y (K.getD i 0) (K.getD j 0) d < 0) : j = i + 1 := by
  have hij : i < j := by
    rcases Nat.lt_trichotomy i j with q | q | q
    · exact q
    · rw [q, gO_22] at o; omega
    · have := h.fst j0 q hi
      rw [gO_23] at this; omega
  by_cases q : j = i + 1
  · exact q
  exfalso
  have m := h.mem (i := i + 1) (by omega)
  have c1 := h.cyc hD hO (i := i) (j := i + 1) (k := j) (by omega) (by omega) hj
  rw [gO_23] at c1
  have ne : ∀ v, v < K.length → i + 1 ≠ v → K.getD (i + 1) 0 ≠ K.getD v 0 := fun v hv hne r => hne (h.inj (by omega) hv r)
  exact hd _ m.1 (ne 0 (by omega) (by omega)) (ne i (by omega) (by omega)) (ne j (by omega) (by omega)) m.2 (by omega)
/-- every triangle of the cell is one of the fan -/
theorem CELL.all (hD : DIS X Y P) (hE : CE X Y P a b c) (h : CELL X Y P a b c K) {x y z : Nat} (hs : solid X Y P x y z) (zx : gV X Y (gQ X Y) a b c x = 0) (zy : gV X Y (gQ X Y) a b c y = 0) (zz : gV X Y (gQ X Y) a b c z = 0) : ∃ k, 2 ≤ k ∧ k < K.length ∧ ((x = K.getD 0 0 ∧ y = K.getD (k - 1) 0 ∧ z = K.getD k 0) ∨ (y = K.getD 0 0 ∧ z = K.getD (k - 1) 0 ∧ x = K.getD k 0) ∨ (z = K.getD 0 0 ∧ x = K.getD (k - 1) 0 ∧ y = K.getD k 0)) := by
  have hO : gO X Y a b c ≠ 0 := by have := hE.2.2.2.1; omega
  obtain ⟨x1, y1, z1, xy, yz, zx', o, tk⟩ := hs
  obtain ⟨i, hi, ei⟩ := h.idx x1 zx
  obtain ⟨j, hj, ej⟩ := h.idx y1 zy
  obtain ⟨k, hk, ek⟩ := h.idx z1 zz
  have m0 := h.mem (i := 0) (by omega)
  have on : ∀ d, gV X Y (gQ X Y) a b c d = 0 → gV X Y (gQ X Y) x y z d = 0 := fun d hd => circ_four hO zx zy zz hd
  have lt : ∀ d u, d < K.length → K.getD d 0 = u → u ≠ K.getD 0 0 → gLess X Y (K.getD 0 0) u := fun d u hd e hne => by
    rw [← e]; exact h.first (Nat.pos_of_ne_zero (fun q => hne (by rw [← e, q]))) hd
  have ps : ∀ d u, K.getD d 0 = u → u ≠ K.getD 0 0 → 0 < d := fun d u e hne => Nat.pos_of_ne_zero (fun q => hne (by rw [← e, q]))
  have nl : ∀ d u, d < K.length → K.getD d 0 = u → ¬ gLess X Y u (K.getD 0 0) := fun d u hd e q => by
    by_cases c0 : u = K.getD 0 0
    · rw [← c0] at q; exact gLess_irr q
    · exact gLess_irr (gLess_trans q (lt d u hd e c0))
  have nl' : ∀ d, d ∈ P → gV X Y (gQ X Y) a b c d = 0 → ¬ gLess X Y d (K.getD 0 0) := fun d hd h0 => by
    obtain ⟨l, hl, el⟩ := h.idx hd h0
    exact nl l d hl el
  by_cases cx : x = K.getD 0 0
  · have cy : y ≠ K.getD 0 0 := fun q => xy (cx.trans q.symm)
    have cz : z ≠ K.getD 0 0 := fun q => zx' (q.trans cx.symm)
    have nx := h.next hD hO (ps j y ej cy) hj (ps k z ek cz) hk (by rw [ej, ek, ← cx]; exact o) (fun d hd n0 n1 n2 h0 => by
      rw [ej, ek]
      intro q
      refine tk d hd (by rw [cx]; exact n0) (by rw [← ej]; exact n1) (by rw [← ek]; exact n2) (Or.inr ⟨on d h0, Or.inr ⟨fun r => ?_, Or.inl ⟨?_, ?_, q⟩⟩⟩)
      · exact nl' d hd h0 (by rw [← cx]; exact r.1)
      · rw [cx]; exact lt j y hj ej cy
      · rw [cx]; exact lt k z hk ek cz)
    exact ⟨k, by have := ps j y ej cy; omega, hk, Or.inl ⟨cx, by rw [← ej, nx]; rfl, ek.symm⟩⟩
  by_cases cy : y = K.getD 0 0
  · have cz : z ≠ K.getD 0 0 := fun q => yz (cy.trans q.symm)
    have nx := h.next hD hO (ps k z ek cz) hk (ps i x ei cx) hi (by rw [ei, ek, ← cy, gO_rot]; exact o) (fun d hd n0 n1 n2 h0 => by
      rw [ei, ek]
      intro q
      refine tk d hd (by rw [← ei]; exact n2) (by rw [cy]; exact n0) (by rw [← ek]; exact n1) (Or.inr ⟨on d h0, Or.inr ⟨fun r => ?_, Or.inr ⟨fun r => ?_, Or.inl ⟨?_, q⟩⟩⟩⟩)
      · exact nl' d hd h0 (by rw [← cy]; exact r.2.1)
      · exact nl i x hi ei (by rw [← cy]; exact r.1)
      · rw [cy]; exact lt k z hk ek cz)
    exact ⟨i, by have := ps k z ek cz; omega, hi, Or.inr (Or.inl ⟨cy, by rw [← ek, nx]; rfl, ei.symm⟩)⟩
  by_cases cz : z = K.getD 0 0
  · have nx := h.next hD hO (ps i x ei cx) hi (ps j y ej cy) hj (by rw [ei, ej, ← cz, ← gO_rot]; exact o) (fun d hd n0 n1 n2 h0 => by
      rw [ei, ej]
      intro q
      refine tk d hd (by rw [← ei]; exact n1) (by rw [← ej]; exact n2) (by rw [cz]; exact n0) (Or.inr ⟨on d h0, Or.inr ⟨fun r => ?_, Or.inr ⟨fun r => ?_, Or.inr ⟨fun r => ?_, q⟩⟩⟩⟩)
      · exact nl' d hd h0 (by rw [← cz]; exact r.2.2)
      · exact nl i x hi ei (by rw [← cz]; exact r.2)
      · exact nl j y hj ej (by rw [← cz]; exact r))
    exact ⟨j, by have := ps i x ei cx; omega, hj, Or.inr (Or.inr ⟨cz, by rw [← ei, nx]; rfl, ej.symm⟩)⟩
  exfalso
  exact tk _ m0.1 (fun q => cx q.symm) (fun q => cy q.symm) (fun q => cz q.symm) (Or.inr ⟨on _ m0.2, Or.inl ⟨lt i x hi ei cx, lt j y hj ej cy, lt k z hk ek cz⟩⟩)
/-- the sides of a cell -/
theorem CELL.side (hD : DIS X Y P) (hO : gO X Y a b c ≠ 0) (h : CELL X Y P a b c K) {i : Nat} (hi : i < K.length) {d : Nat} (hd : d ∈ K) (n1 : d ≠ K.getD i 0) (n2 : d ≠ K.getD ((i + 1) % K.length) 0) : 0 < gO X Y (K.getD i 0) (K.getD ((i + 1) % K.length) 0) d := by
  obtain ⟨l, hl, el⟩ := h.idx ((h.1 d).mp hd).1 ((h.1 d).mp hd).2
  subst el
  have e1 : l ≠ i := fun q => n1 (by rw [q])
  by_cases q : i + 1 < K.length
  · rw [Nat.mod_eq_of_lt q] at n2 ⊢
    have e2 : l ≠ i + 1 := fun q => n2 (by rw [q])
    by_cases r : l < i
    · rw [gO_rot]; exact h.cyc hD hO r (by omega) q
    · exact h.cyc hD hO (by omega) (by omega) hl
  · have e3 : i + 1 = K.length := by omega
    rw [e3, Nat.mod_self] at n2 ⊢
    have e2 : l ≠ 0 := fun q => n2 (by rw [q])
    rw [← gO_rot]
    exact h.cyc hD hO (by omega) (by omega) hi
/-- and an edge with all of them on its left is a side -/
theorem CELL.isSide (hD : DIS X Y P) (hO : gO X Y a b c ≠ 0) (h : CELL X Y P a b c K) {p q : Nat} (hp : p ∈ K) (hq : q ∈ K) (hpq : p ≠ q) (hl : ∀ d ∈ K, d ≠ p → d ≠ q → ¬ gO X Y p q d < 0) : ∃ i, i < K.length ∧ K.getD i 0 = p ∧ K.getD ((i + 1) % K.length) 0 = q := by
  obtain ⟨i, hi, ei⟩ := h.idx ((h.1 p).mp hp).1 ((h.1 p).mp hp).2
  obtain ⟨j, hj, ej⟩ := h.idx ((h.1 q).mp hq).1 ((h.1 q).mp hq).2
  refine ⟨i, hi, ei, ?_⟩
  have key : ∀ l, l < K.length → l ≠ i → l ≠ j → ¬ gO X Y p q (K.getD l 0) < 0 := fun l hl' n1 n2 => hl _ ((h.1 _).mpr (h.mem hl')) (fun r => n1 (h.inj hl' hi (r.trans ei.symm))) (fun r => n2 (h.inj hl' hj (r.trans ej.symm)))
  rw [← ei, ← ej] at key
  have hij : i ≠ j := fun r => hpq (by rw [← ei, ← ej, r])
  have e : (i + 1) % K.length = j := by
    by_cases r : i < j
    · have : j = i + 1 := by
        by_cases s : j = i + 1
        · exact s
        · exfalso
          have c1 := h.cyc hD hO (i := i) (j := i + 1) (k := j) (by omega) (by omega) hj
          rw [gO_23] at c1
          exact key (i + 1) (by omega) (by omega) (by omega) (by omega)
      rw [← this, Nat.mod_eq_of_lt hj]
    · have e1 : i + 1 = K.length := by
        by_cases s : i + 1 = K.length
        · exact s
        · exfalso
          have c1 := h.cyc hD hO (i := j) (j := i) (k := i + 1) (by omega) (by omega) (by omega)
          rw [gO_swap] at c1
          exact key (i + 1) (by omega) (by omega) (by omega) (by omega)
      have e2 : j = 0 := by
        by_cases s : j = 0
        · exact s
        · exfalso
          have c1 := h.cyc hD hO (i := 0) (j := j) (k := i) (by omega) (by omega) hi
          have c2 := gO_rot X Y (K.getD 0 0) (K.getD j 0) (K.getD i 0)
          rw [gO_swap] at c2
          exact key 0 (by omega) (by omega) (by omega) (by omega)
      rw [e1, e2, Nat.mod_self]
  rw [e, ej]
/-- one circle, one cell -/
theorem CELL.uniq {a' b' c' : Nat} {K' : List Nat} (h : CELL X Y P a b c K) (h' : CELL X Y P a' b' c' K') (hz : ∀ d ∈ P, gV X Y (gQ X Y) a b c d = 0 ↔ gV X Y (gQ X Y) a' b' c' d = 0) : K = K' := by
  have hm : ∀ d, d ∈ K ↔ d ∈ K' := fun d => by
    rw [h.1, h'.1]
    constructor
    · exact fun q => ⟨q.1, (hz d q.1).mp q.2⟩
    · exact fun q => ⟨q.1, (hz d q.1).mpr q.2⟩
  obtain ⟨-, n1, f, T, rfl, l1, p1⟩ := h
  obtain ⟨-, n2, f', T', rfl, l2, p2⟩ := h'
  have hf : f = f' := by
    rcases List.mem_cons.mp ((hm f).mp (List.mem_cons_self ..)) with q | q
    · exact q
    · rcases List.mem_cons.mp ((hm f').mpr (List.mem_cons_self ..)) with r | r
      · exact r.symm
      · exact (gLess_irr (gLess_trans (l2 f q) (l1 f' r))).elim
  subst hf
  rw [List.nodup_cons] at n1 n2
  rw [sorted_eq (R := fun p q => 0 < gO X Y f p q) (fun p q r1 r2 => by rw [gO_23] at r2; omega) T T' p1 p2 (fun x => ?_)]
  constructor
  · intro hx
    rcases List.mem_cons.mp ((hm x).mp (List.mem_cons_of_mem _ hx)) with q | q
    · subst q; exact absurd hx n1.1
    · exact q
  · intro hx
    rcases List.mem_cons.mp ((hm x).mpr (List.mem_cons_of_mem _ hx)) with q | q
    · subst q; exact absurd hx n2.1
    · exact q
end
