/-! WALKS through the net, and that it has every triangle -/
/-- straight up -/
def vUp : V4 := (0, 0, 1, 0)
theorem up_O (X Y Z : Nat → Int) (i j k : Nat) : vV (rvz X Y Z i) (rvz X Y Z j) (rvz X Y Z k) vUp = - gO X Y i j k := by
  unfold vUp
  rw [vV_34, up_gO]
theorem up_O' (X Y Z : Nat → Int) (i j k : Nat) : vV (rvz X Y Z i) (rvz X Y Z j) vUp (rvz X Y Z k) = gO X Y i j k := up_gO X Y Z i j k
section
variable {X Y : Nat → Int} {N G : Nat} {P : List Nat} {m : Nat} {s tw : Nat → Nat}
/-- no point below a triangle of the net: in numbers -/
theorem solid_neg (hP : PtsL X Y N G P) {a b c d : Nat} (h : solid X Y P a b c) (hd : d ∈ P) (n1 : d ≠ a) (n2 : d ≠ b) (n3 : d ≠ c) : vV (rvz X Y (gZ X Y N) a) (rvz X Y (gZ X Y N) b) (rvz X Y (gZ X Y N) c) (rvz X Y (gZ X Y N) d) < 0 := by
  obtain ⟨h1, h2, h3, h4, h5, h6, h7, h8⟩ := h
  rw [rv_gV]
  have t := takes_iff (N := N) ⟨(hP.1 a h1).2.1, (hP.1 b h2).2.1, (hP.1 c h3).2.1, (hP.1 d hd).2.1⟩ (hP.1 a h1).1 (hP.1 b h2).1 (hP.1 c h3).1 (hP.1 d hd).1 h7 (hP.2.1 d hd a h1 n1) (hP.2.1 d hd b h2 n2) (hP.2.1 d hd c h3 n3)
  have : ¬ 0 < gV X Y (gZ X Y N) a b c d := fun z => h8 d hd n1 n2 n3 (t.1.mpr z)
  have := t.2
  omega
theorem solid_le (hP : PtsL X Y N G P) {a b c d : Nat} (h : solid X Y P a b c) (hd : d ∈ P) : vV (rvz X Y (gZ X Y N) a) (rvz X Y (gZ X Y N) b) (rvz X Y (gZ X Y N) c) (rvz X Y (gZ X Y N) d) ≤ 0 := by
  by_cases h1 : d = a
  · rw [h1, vV_same1]; exact Int.le_refl _
  by_cases h2 : d = b
  · rw [h2, vV_same2]; exact Int.le_refl _
  by_cases h3 : d = c
  · rw [h3, vV_same3]; exact Int.le_refl _
  exact Int.le_of_lt (solid_neg hP h hd h1 h2 h3)
/-- a triangle of the net, from one of its edges -/
def sol (G : Nat) (s : Nat → Nat) (t : Nat) : Bool := !(decide (s (3 * t) = G) || decide (s (3 * t + 1) = G) || decide (s (3 * t + 2) = G))
theorem sol_edge {e : Nat} : sol G s (e / 3) = true ↔ s e ≠ G ∧ s (nx e) ≠ G ∧ s (nx (nx e)) ≠ G := by
  unfold sol
  simp only [Bool.not_eq_true', Bool.or_eq_false_iff, decide_eq_false_iff_not]
  have h : e = 3 * (e / 3) ∨ e = 3 * (e / 3) + 1 ∨ e = 3 * (e / 3) + 2 := by omega
  generalize e / 3 = t at h
  rcases h with rfl | rfl | rfl
  · rw [nx_0, nx_1]
    constructor
    · rintro ⟨⟨a, b⟩, c⟩; exact ⟨a, b, c⟩
    · rintro ⟨a, b, c⟩; exact ⟨⟨a, b⟩, c⟩
  · rw [nx_1, nx_2]
    constructor
    · rintro ⟨⟨a, b⟩, c⟩; exact ⟨b, c, a⟩
    · rintro ⟨a, b, c⟩; exact ⟨⟨c, a⟩, b⟩
  · rw [nx_2, nx_0]
    constructor
    · rintro ⟨⟨a, b⟩, c⟩; exact ⟨c, a, b⟩
    · rintro ⟨a, b, c⟩; exact ⟨⟨b, c⟩, a⟩
theorem NetD.solid (h : NetD X Y G P m s tw) {e : Nat} (he : e < 3 * m) (hs : sol G s (e / 3) = true) : solid X Y P (s e) (s (nx e)) (s (nx (nx e))) := by
  have q := sol_edge.mp hs
  rcases h.2.1 e he with r | ⟨r, -⟩ | ⟨r, -⟩ | ⟨r, -⟩
  · exact r
  · exact absurd r q.2.2
  · exact absurd r q.1
  · exact absurd r q.2.1
/-- a triangle of the ghost's, from the edge without it -/
theorem NetD.outer (hP : PtsL X Y N G P) (h : NetD X Y G P m s tw) {e : Nat} (he : e < 3 * m) (h1 : s e ≠ G) (h2 : s (nx e) ≠ G) (hs : sol G s (e / 3) = false) : s (nx (nx e)) = G ∧ outerE X Y P (s e) (s (nx e)) := by
  have q : s (nx (nx e)) = G := by
    by_cases r : s (nx (nx e)) = G
    · exact r
    · have := sol_edge.mpr ⟨h1, h2, r⟩
      rw [hs] at this
      cases this
  refine ⟨q, ?_⟩
  rcases h.2.1 e he with r | ⟨-, r⟩ | ⟨r, -⟩ | ⟨r, -⟩
  · exact absurd q (hP.1 _ r.2.2.1).2.2
  · exact r
  · exact absurd r h1
  · exact absurd r h2
theorem div3 {e : Nat} (he : e < 3 * m) : e / 3 < m := by omega
/-- how high the plane of a triangle lies over a place -/
noncomputable def hgt (X Y : Nat → Int) (N : Nat) (s : Nat → Nat) (t : Nat) (x : V4) : Int := tv (rvz X Y (gZ X Y N)) s t x
noncomputable def nearer (X Y : Nat → Int) (N : Nat) (s : Nat → Nat) (q : V4) (t t' : Nat) : Bool := decide (hgt X Y N s t vUp * hgt X Y N s t' q < hgt X Y N s t q * hgt X Y N s t' vUp)
noncomputable def far (X Y : Nat → Int) (N G m : Nat) (s : Nat → Nat) (q : V4) (t : Nat) : Nat := (List.range m).countP (fun t' => sol G s t' && nearer X Y N s q t t')
theorem hgt_edge (e : Nat) (x : V4) : hgt X Y N s (e / 3) x = vV (rvz X Y (gZ X Y N) (s e)) (rvz X Y (gZ X Y N) (s (nx e))) (rvz X Y (gZ X Y N) (s (nx (nx e)))) x := by
  unfold hgt
  rw [← val_tv]
  rfl
theorem hgt_up (h : NetD X Y G P m s tw) {t : Nat} (ht : t < m) (hs : sol G s t = true) : hgt X Y N s t vUp < 0 := by
  have e3 : 3 * t / 3 = t := by omega
  have r := h.solid (e := 3 * t) (by omega) (by rw [e3]; exact hs)
  have e := hgt_edge (X := X) (Y := Y) (N := N) (s := s) (3 * t) vUp
  rw [e3, up_O] at e
  have := r.2.2.2.2.2.2.1
  omega
/-- a step over an edge that has the place on its other side comes nearer -/
theorem step_near (hP : PtsL X Y N G P) (h : NetD X Y G P m s tw) {q : V4} {e : Nat} (he : e < 3 * m) (hs : sol G s (e / 3) = true) (hs' : sol G s (tw e / 3) = true) (hq : 0 < vV (rvz X Y (gZ X Y N) (s e)) (rvz X Y (gZ X Y N) (s (nx e))) q vUp) : nearer X Y N s q (e / 3) (tw e / 3) = true := by
  have w := h.1 e he
  have r := h.solid he hs
  have r' := h.solid w.1 hs'
  rw [w.2.2.1, w.2.2.2] at r'
  have hne : s (nx (nx e)) ≠ s (nx (nx (tw e))) := by
    intro q2
    have a := r.2.2.2.2.2.2.1
    have b := r'.2.2.2.2.2.2.1
    rw [← q2, gO_swap] at b
    omega
  have neg := solid_neg hP r r'.2.2.1 (fun z => r'.2.2.2.2.1 z.symm) r'.2.2.2.2.2.1 (fun z => hne z.symm)
  have u := par_up neg hq
  refine decide_eq_true ?_
  have v1 := hgt_edge (X := X) (Y := Y) (N := N) (s := s) e vUp
  have v2 := hgt_edge (X := X) (Y := Y) (N := N) (s := s) e q
  have v3 := hgt_edge (X := X) (Y := Y) (N := N) (s := s) (tw e) vUp
  have v4 := hgt_edge (X := X) (Y := Y) (N := N) (s := s) (tw e) q
  rw [w.2.2.1, w.2.2.2] at v3 v4
  rw [v1, v2, v3, v4]
  exact u
theorem far_lt (h : NetD X Y G P m s tw) {q : V4} {t t' : Nat} (ht : t < m) (ht' : t' < m) (hs : sol G s t = true) (hs' : sol G s t' = true) (hn : nearer X Y N s q t t' = true) : far X Y N G m s q t' < far X Y N G m s q t := by
  refine cnt_lt (fun x hx hb => ?_) ht' (by rw [hs', hn]; rfl) ?_
  · rw [Bool.and_eq_true] at hb ⊢
    exact ⟨hb.1, decide_eq_true (better_trans (hgt_up h ht hs) (hgt_up h ht' hs') (hgt_up h hx hb.1) (of_decide_eq_true hn) (of_decide_eq_true hb.2))⟩
  · have : nearer X Y N s q t' t' = false := decide_eq_false (by rw [Int.mul_comm]; exact Int.lt_irrefl _)
    rw [this, Bool.and_false]
theorem far_m {q : V4} {t : Nat} (ht : t < m) : far X Y N G m s q t < m := by
  have h1 : (List.range m).countP (fun _ => true) = m := by simp
  have h2 : far X Y N G m s q t < (List.range m).countP (fun _ => true) := cnt_lt (fun _ _ _ => rfl) ht rfl (by
    have : nearer X Y N s q t t = false := decide_eq_false (by rw [Int.mul_comm]; exact Int.lt_irrefl _)
    rw [this, Bool.and_false])
  omega
/-- the net has every triangle that no point takes away -/
theorem net_all (hP : PtsL X Y N G P) (h : NetD X Y G P m s tw) {x y z : Nat} (hz : solid X Y P x y z) : ∀ (k t : Nat), t < m → sol G s t = true → far X Y N G m s (vadd (vadd (rvz X Y (gZ X Y N) x) (rvz X Y (gZ X Y N) y)) (rvz X Y (gZ X Y N) z)) t ≤ k → ∃ e, e < 3 * m ∧ s e = x ∧ s (nx e) = y ∧ s (nx (nx e)) = z := by
  generalize hq : vadd (vadd (rvz X Y (gZ X Y N) x) (rvz X Y (gZ X Y N) y)) (rvz X Y (gZ X Y N) z) = q
  have vq : ∀ a b c : V4, vV a b c q = vV a b c (rvz X Y (gZ X Y N) x) + vV a b c (rvz X Y (gZ X Y N) y) + vV a b c (rvz X Y (gZ X Y N) z) := fun a b c => by rw [← hq, vV_add, vV_add]
  -- over an edge: go on
  have go : ∀ e, e < 3 * m → sol G s (e / 3) = true → 0 < vV (rvz X Y (gZ X Y N) (s e)) (rvz X Y (gZ X Y N) (s (nx e))) q vUp → sol G s (tw e / 3) = true := by
    intro e he hs hp
    have w := h.1 e he
    have r := h.solid he hs
    cases hc : sol G s (tw e / 3) with
    | true => rfl
    | false =>
      exfalso
      have g1 := (hP.1 _ r.1).2.2
      have g2 := (hP.1 _ r.2.1).2.2
      have o := NetD.outer hP h w.1 (by rw [w.2.2.1]; exact g2) (by rw [w.2.2.2]; exact g1) hc
      rw [w.2.2.1, w.2.2.2] at o
      rw [vV_34, vq, up_O', up_O', up_O'] at hp
      have key : ∀ i ∈ P, 0 ≤ gO X Y (s e) (s (nx e)) i := by
        intro i hi
        by_cases q1 : i = s (nx e)
        · rw [q1]; unfold gO; rw [Int.mul_comm]; omega
        by_cases q2 : i = s e
        · rw [q2]; unfold gO; simp
        have := o.2.2.2.2 i hi q1 q2
        have n : ¬ 0 < gO X Y (s (nx e)) (s e) i := fun z => this (Or.inl z)
        rw [gO_swap] at n
        omega
      have k1 := key x hz.1
      have k2 := key y hz.2.1
      have k3 := key z hz.2.2.1
      omega
  -- no edge has it beyond: it is the one
  have stay : ∀ t, t < m → sol G s t = true → (∀ e, e / 3 = t → vV (rvz X Y (gZ X Y N) (s e)) (rvz X Y (gZ X Y N) (s (nx e))) q vUp ≤ 0) → ∃ e, e < 3 * m ∧ s e = x ∧ s (nx e) = y ∧ s (nx (nx e)) = z := by
    intro t ht hs hall
    have r := h.solid (e := 3 * t) (by omega) (by rw [show 3 * t / 3 = t by omega]; exact hs)
    have a0 := hall (3 * t) (by omega)
    have a1 := hall (3 * t + 1) (by omega)
    have a2 := hall (3 * t + 2) (by omega)
    rw [nx_0] at a0 r
    rw [nx_1] at a1 r
    rw [nx_2] at a2
    have rl := root_lt (d := rvz X Y (gZ X Y N) x) (e := rvz X Y (gZ X Y N) y) (f := rvz X Y (gZ X Y N) z) a0 a1 a2 (solid_le hP hz r.1) (solid_le hP hz r.2.1) (solid_le hP hz r.2.2.1)
    rw [vq (rvz X Y (gZ X Y N) x), vV_same1, vV_same2, vV_same3, up_O X Y (gZ X Y N) x y z] at rl
    have l1 := solid_le hP r hz.1
    have l2 := solid_le hP r hz.2.1
    have l3 := solid_le hP r hz.2.2.1
    have hv := vq (rvz X Y (gZ X Y N) (s (3 * t))) (rvz X Y (gZ X Y N) (s (3 * t + 1))) (rvz X Y (gZ X Y N) (s (3 * t + 2)))
    have hO := hz.2.2.2.2.2.2.1
    have nn : 0 ≤ vV (rvz X Y (gZ X Y N) (s (3 * t))) (rvz X Y (gZ X Y N) (s (3 * t + 1))) (rvz X Y (gZ X Y N) (s (3 * t + 2))) q := by
      rw [show (0 : Int) + 0 + 0 = 0 by decide, Int.mul_zero, Int.mul_neg] at rl
      by_cases c : 0 ≤ vV (rvz X Y (gZ X Y N) (s (3 * t))) (rvz X Y (gZ X Y N) (s (3 * t + 1))) (rvz X Y (gZ X Y N) (s (3 * t + 2))) q
      · exact c
      · have := Int.mul_neg_of_neg_of_pos (Int.not_le.mp c) hO
        omega
    have inT : ∀ i ∈ P, vV (rvz X Y (gZ X Y N) (s (3 * t))) (rvz X Y (gZ X Y N) (s (3 * t + 1))) (rvz X Y (gZ X Y N) (s (3 * t + 2))) (rvz X Y (gZ X Y N) i) = 0 → i = s (3 * t) ∨ i = s (3 * t + 1) ∨ i = s (3 * t + 2) := by
      intro i hi h0
      by_cases c1 : i = s (3 * t)
      · exact Or.inl c1
      by_cases c2 : i = s (3 * t + 1)
      · exact Or.inr (Or.inl c2)
      by_cases c3 : i = s (3 * t + 2)
      · exact Or.inr (Or.inr c3)
      have := solid_neg hP r hi c1 c2 c3
      omega
    have ix := inT x hz.1 (by omega)
    have iy := inT y hz.2.1 (by omega)
    have iz := inT z hz.2.2.1 (by omega)
    have xy := hz.2.2.2.1
    have yz := hz.2.2.2.2.1
    have zx := hz.2.2.2.2.2.1
    have rO := r.2.2.2.2.2.2.1
    have flip : ∀ a b c : Nat, gO X Y a c b = - gO X Y a b c := fun a b c => by
      have e1 := gO_rot X Y a c b
      have e2 := gO_swap X Y b c a
      have e3 := gO_rot X Y a b c
      have e4 := gO_rot X Y b c a
      have e5 := gO_rot X Y c b a
      unfold gO at *
      grind
    rcases ix with ix | ix | ix <;> rcases iy with iy | iy | iy <;> rcases iz with iz | iz | iz <;>
      first
      | exact absurd (ix.trans iy.symm) xy
      | exact absurd (iy.trans iz.symm) yz
      | exact absurd (iz.trans ix.symm) zx
      | exact ⟨3 * t, by omega, ix.symm, by rw [nx_0]; exact iy.symm, by rw [nx_0, nx_1]; exact iz.symm⟩
      | exact ⟨3 * t + 1, by omega, ix.symm, by rw [nx_1]; exact iy.symm, by rw [nx_1, nx_2]; exact iz.symm⟩
      | exact ⟨3 * t + 2, by omega, ix.symm, by rw [nx_2]; exact iy.symm, by rw [nx_2, nx_0]; exact iz.symm⟩
      | (exfalso
         rw [ix, iy, iz] at hO
         have f1 := flip (s (3 * t)) (s (3 * t + 1)) (s (3 * t + 2))
         have f2 := gO_rot X Y (s (3 * t)) (s (3 * t + 2)) (s (3 * t + 1))
         have f3 := gO_rot X Y (s (3 * t + 2)) (s (3 * t + 1)) (s (3 * t))
         omega)
  intro k
  induction k with
  | zero =>
    intro t ht hs hf
    by_cases hall : ∀ e, e / 3 = t → vV (rvz X Y (gZ X Y N) (s e)) (rvz X Y (gZ X Y N) (s (nx e))) q vUp ≤ 0
    · exact stay t ht hs hall
    · exfalso
      obtain ⟨e, he⟩ := Classical.not_forall.mp hall
      obtain ⟨he1, he2⟩ := Classical.not_imp.mp he
      subst he1
      have hel : e < 3 * m := by omega
      have hs' := go e hel hs (Int.not_le.mp he2)
      have := far_lt h ht (div3 (h.1 e hel).1) hs hs' (step_near hP h hel hs hs' (Int.not_le.mp he2))
      omega
  | succ k ih =>
    intro t ht hs hf
    by_cases hall : ∀ e, e / 3 = t → vV (rvz X Y (gZ X Y N) (s e)) (rvz X Y (gZ X Y N) (s (nx e))) q vUp ≤ 0
    · exact stay t ht hs hall
    · obtain ⟨e, he⟩ := Classical.not_forall.mp hall
      obtain ⟨he1, he2⟩ := Classical.not_imp.mp he
      subst he1
      have hel : e < 3 * m := by omega
      have hs' := go e hel hs (Int.not_le.mp he2)
      have hlt := far_lt h ht (div3 (h.1 e hel).1) hs hs' (step_near hP h hel hs hs' (Int.not_le.mp he2))
      exact ih (tw e / 3) (div3 (h.1 e hel).1) hs' (by omega)
end
