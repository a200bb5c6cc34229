/-! ROUND A POINT -/
def itr (f : Nat → Nat) : Nat → Nat → Nat
  | 0, e => e
  | i + 1, e => f (itr f i e)
theorem itr_add (f : Nat → Nat) (i j e : Nat) : itr f (i + j) e = itr f i (itr f j e) := by
  induction i with
  | zero => rw [Nat.zero_add]; rfl
  | succ i ih => rw [show i + 1 + j = (i + j) + 1 by omega]; show f _ = f _; rw [ih]
theorem least_ex {p : Nat → Prop} (h : ∃ n, p n) : ∃ n, p n ∧ ∀ k, k < n → ¬ p k := by
  obtain ⟨n, hn⟩ := h
  induction n using Nat.strongRecOn with
  | ind n ih =>
    by_cases q : ∃ k, k < n ∧ p k
    · obtain ⟨k, hk, pk⟩ := q
      exact ih k hk pk
    · exact ⟨n, hn, fun k hk pk => q ⟨k, hk, pk⟩⟩
/-- a one-to-one step comes back -/
theorem orbit {f : Nat → Nat} {M : Nat} (hf : ∀ e, e < M → f e < M) (hi : ∀ e, e < M → ∀ e', e' < M → f e = f e' → e = e') {e0 : Nat} (h0 : e0 < M) : ∃ L, 0 < L ∧ itr f L e0 = e0 ∧ ∀ i j, i < j → j < L → itr f i e0 ≠ itr f j e0 := by
  have hlt : ∀ i, itr f i e0 < M := fun i => by
    induction i with
    | zero => exact h0
    | succ i ih => exact hf _ ih
  have back : ∀ i d, itr f i e0 = itr f (i + d) e0 → itr f d e0 = e0 := fun i => by
    induction i with
    | zero => intro d h; rw [Nat.zero_add] at h; exact h.symm
    | succ i ih =>
      intro d h
      refine ih d (hi _ (hlt _) _ (hlt _) ?_)
      rw [show i + 1 + d = (i + d) + 1 by omega] at h
      exact h
  have ex : ∃ L, 0 < L ∧ itr f L e0 = e0 := by
    by_cases q : ((List.range (M + 1)).map fun i => itr f i e0).Nodup
    · have := nodup_le (l2 := List.range M) q (fun x hx => by
        obtain ⟨i, -, rfl⟩ := List.mem_map.mp hx
        exact List.mem_range.mpr (hlt i))
      rw [List.length_map, List.length_range, List.length_range] at this
      omega
    · unfold List.Nodup at q
      rw [List.pairwise_map, List.pairwise_iff_getElem] at q
      obtain ⟨i, q⟩ := Classical.not_forall.mp q
      obtain ⟨j, q⟩ := Classical.not_forall.mp q
      obtain ⟨h1, q⟩ := Classical.not_forall.mp q
      obtain ⟨h2, q⟩ := Classical.not_forall.mp q
      obtain ⟨h3, q⟩ := Classical.not_forall.mp q
      have q := Classical.not_not.mp q
      rw [List.getElem_range, List.getElem_range] at q
      exact ⟨j - i, Nat.sub_pos_of_lt h3, back i (j - i) (by rw [Nat.add_sub_cancel' (Nat.le_of_lt h3)]; exact q)⟩
  obtain ⟨L, ⟨hL, hr⟩, hm⟩ := least_ex ex
  refine ⟨L, hL, hr, fun i j hij hj h => ?_⟩
  exact hm (j - i) (by omega) ⟨by omega, back i (j - i) (by rw [show i + (j - i) = j by omega]; exact h)⟩
section
variable {X Y : Nat → Int} {P : List Nat} {N G m : Nat} {s tw : Nat → Nat}
/-- sooner, left round v from f -/
def SOON (X Y : Nat → Int) (v f b c : Nat) : Prop := (0 < gO X Y v f b ∧ gO X Y v f c ≤ 0) ∨ (gO X Y v f b = 0 ∧ gO X Y v f c < 0) ∨ (((0 < gO X Y v f b ∧ 0 < gO X Y v f c) ∨ (gO X Y v f b = 0 ∧ gO X Y v f c = 0) ∨ (gO X Y v f b < 0 ∧ gO X Y v f c < 0)) ∧ 0 < gO X Y v b c)
theorem gO_plu (X Y : Nat → Int) (v f b c d : Nat) : gO X Y v f c * gO X Y v b d = gO X Y v f b * gO X Y v c d + gO X Y v f d * gO X Y v b c := by unfold gO; grind
theorem gO_col0 {v f b c : Nat} (h : dif X Y v f) (h1 : gO X Y v f b = 0) (h2 : gO X Y v f c = 0) : gO X Y v b c = 0 := by
  have e : gD X Y f v * gO X Y v b c = gDot X Y v f b * gO X Y v f c - gDot X Y v f c * gO X Y v f b := by unfold gD gDot gO; grind
  rw [h1, h2, Int.mul_zero, Int.mul_zero, Int.sub_zero] at e
  rcases Int.mul_eq_zero.mp e with q | q
  · have := gD_pos h.symm; omega
  · exact q
theorem SOON.trans {v f b c d : Nat} (hf : dif X Y v f) (h1 : SOON X Y v f b c) (h2 : SOON X Y v f c d) : SOON X Y v f b d := by
  have e := gO_plu X Y v f b c d
  have z1 : gO X Y v f b = 0 → gO X Y v f c = 0 → gO X Y v b c = 0 := gO_col0 hf
  have z2 : gO X Y v f c = 0 → gO X Y v f d = 0 → gO X Y v c d = 0 := gO_col0 hf
  unfold SOON at *
  by_cases p : 0 < gO X Y v f b ∧ 0 < gO X Y v f c ∧ 0 < gO X Y v f d
  · have a1 : 0 < gO X Y v b c := by omega
    have a2 : 0 < gO X Y v c d := by omega
    have m1 := Int.mul_pos p.1 a2
    have m2 := Int.mul_pos p.2.2 a1
    have m3 : 0 < gO X Y v f c * gO X Y v b d := by omega
    have := Int.pos_of_mul_pos_right m3 p.2.1
    omega
  by_cases q : gO X Y v f b < 0 ∧ gO X Y v f c < 0 ∧ gO X Y v f d < 0
  · have a1 : 0 < gO X Y v b c := by omega
    have a2 : 0 < gO X Y v c d := by omega
    have m1 := Int.mul_neg_of_neg_of_pos q.1 a2
    have m2 := Int.mul_neg_of_neg_of_pos q.2.2 a1
    have m3 : gO X Y v f c * gO X Y v b d < 0 := by omega
    have := pos_of_mul_neg_right m3 q.2.1
    omega
  omega
theorem SOON.irr {v f b : Nat} : ¬ SOON X Y v f b b := by
  unfold SOON
  have : gO X Y v b b = 0 := gO_22 v b
  omega
/-- an edge of the net, by a plane that no point is below -/
def EDG (X Y : Nat → Int) (N : Nat) (P : List Nat) (v f : Nat) : Prop := ∃ h : V4, ap h (rvz X Y (gZ X Y N) v) = 0 ∧ ap h (rvz X Y (gZ X Y N) f) = 0 ∧ (∀ d ∈ P, ap h (rvz X Y (gZ X Y N) d) ≤ 0) ∧ ap h vUp < 0
theorem EDG.symm {v f : Nat} (h : EDG X Y N P v f) : EDG X Y N P f v := by
  obtain ⟨h, h1, h2, h3⟩ := h
  exact ⟨h, h2, h1, h3⟩
theorem EDG.of (hP : PtsL X Y N G P) {v f g : Nat} (h : solid X Y P v f g) : EDG X Y N P v f := by
  refine ⟨frm (rvz X Y (gZ X Y N) v) (rvz X Y (gZ X Y N) f) (rvz X Y (gZ X Y N) g), by rw [frm_ap, vV_same1], by rw [frm_ap, vV_same2], fun d hd => by rw [frm_ap]; exact solid_le hP h hd, ?_⟩
  rw [frm_ap, up_O]
  have := h.2.2.2.2.2.2.1
  omega
/-- an edge from v is in no triangle of v -/
theorem no_cross (hP : PtsL X Y N G P) {v w w' f : Nat} (h : solid X Y P v w w') (hE : EDG X Y N P v f) (hf : f ∈ P) (n0 : f ≠ v) (n1 : f ≠ w) (n2 : f ≠ w') : 0 < gO X Y v f w ∨ gO X Y v f w' < 0 := by
  by_cases q : 0 < gO X Y v f w ∨ gO X Y v f w' < 0
  · exact q
  exfalso
  obtain ⟨hh, e1, e2, e3, e4⟩ := hE
  have c := cram hh (rvz X Y (gZ X Y N) v) (rvz X Y (gZ X Y N) w) (rvz X Y (gZ X Y N) w') (rvz X Y (gZ X Y N) f) vUp
  simp only [up_O, e1, e2] at c
  have s1 := solid_neg hP h hf n0 n1 n2
  have a1 := e3 w h.2.1
  have a2 := e3 w' h.2.2.1
  have o1 : 0 ≤ gO X Y v w f := by rw [gO_23]; omega
  have o2 : gO X Y v w' f ≤ 0 := by rw [gO_23]; omega
  have m1 := Int.mul_nonneg_of_nonpos_of_nonpos o2 a1
  have m2 := Int.mul_nonpos_of_nonneg_of_nonpos o1 a2
  have m3 := Int.mul_pos_of_neg_of_neg s1 e4
  simp only [Int.neg_mul, Int.mul_zero] at c
  omega
theorem soon_step (hP : PtsL X Y N G P) {v w w' f : Nat} (h : solid X Y P v w w') (hE : EDG X Y N P v f) (hf : f ∈ P) (n0 : f ≠ v) (n1 : f ≠ w) (n2 : f ≠ w') : SOON X Y v f w w' := by
  have := no_cross hP h hE hf n0 n1 n2
  have o := h.2.2.2.2.2.2.1
  unfold SOON
  omega
/-- the next edge from the same point, left round -/
def rho (tw : Nat → Nat) (e : Nat) : Nat := tw (nx (nx e))
theorem rho_lt (hD : NetD X Y G P m s tw) {e : Nat} (he : e < 3 * m) : rho tw e < 3 * m := (hD.1 _ (nx_lt (nx_lt he))).1
theorem rho_s (hD : NetD X Y G P m s tw) {e : Nat} (he : e < 3 * m) : s (rho tw e) = s e := by
  have := (hD.1 _ (nx_lt (nx_lt he))).2.2.1
  rw [nx3] at this
  exact this
theorem rho_end (hD : NetD X Y G P m s tw) {e : Nat} (he : e < 3 * m) : s (nx (rho tw e)) = s (nx (nx e)) := (hD.1 _ (nx_lt (nx_lt he))).2.2.2
theorem rho_inj (hD : NetD X Y G P m s tw) : ∀ e, e < 3 * m → ∀ e', e' < 3 * m → rho tw e = rho tw e' → e = e' := by
  intro e he e' he' h
  have a := (hD.1 _ (nx_lt (nx_lt he))).2.1
  have b := (hD.1 _ (nx_lt (nx_lt he'))).2.1
  unfold rho at h
  rw [h] at a
  exact nx_inj (nx_inj (a.symm.trans b))
theorem itr_rho (hD : NetD X Y G P m s tw) {e : Nat} (he : e < 3 * m) : ∀ i, itr (rho tw) i e < 3 * m ∧ s (itr (rho tw) i e) = s e := by
  intro i
  induction i with
  | zero => exact ⟨he, rfl⟩
  | succ i ih => exact ⟨rho_lt hD ih.1, by show s (rho tw _) = _; rw [rho_s hD ih.1]; exact ih.2⟩
/-- an edge between two points -/
theorem edge_EDG (hP : PtsL X Y N G P) (hD : NetD X Y G P m s tw) {e : Nat} (he : e < 3 * m) (h1 : s e ≠ G) (h2 : s (nx e) ≠ G) : EDG X Y N P (s e) (s (nx e)) ∧ s e ∈ P ∧ s (nx e) ∈ P ∧ s e ≠ s (nx e) := by
  cases hs : sol G s (e / 3) with
  | true =>
    have r := hD.solid he hs
    exact ⟨EDG.of hP r, r.1, r.2.1, r.2.2.2.1⟩
  | false =>
    have w := hD.1 e he
    have r := hD.solid w.1 (base_solid hP hD he h1 h2 hs)
    rw [w.2.2.1, w.2.2.2] at r
    exact ⟨(EDG.of hP r).symm, r.2.1, r.1, fun q => r.2.2.2.1 q.symm⟩
/-- two edges from one point do not go the same way -/
theorem same_way (hP : PtsL X Y N G P) (hD : NetD X Y G P m s tw) {e : Nat} (he : e < 3 * m) (h1 : s e ≠ G) (h2 : s (nx e) ≠ G) {f : Nat} (hf : f ∈ P) (hE : EDG X Y N P (s e) f) (n0 : f ≠ s e) (h0 : gO X Y (s e) f (s (nx e)) = 0) (hd : 0 ≤ gDot X Y (s e) f (s (nx e))) : f = s (nx e) := by
  by_cases n1 : f = s (nx e)
  · exact n1
  exfalso
  have ed := edge_EDG hP hD he h1 h2
  have df : dif X Y (s e) f := hP.2.1 _ ed.2.1 _ hf (fun q => n0 q.symm)
  have dw : dif X Y (s e) (s (nx e)) := hP.2.1 _ ed.2.1 _ ed.2.2.1 ed.2.2.2
  -- the dot of two ways on one line is not 0
  have id1 : gDot X Y (s e) f (s (nx e)) * gDot X Y (s e) f (s (nx e)) = gD X Y f (s e) * gD X Y (s (nx e)) (s e) - gO X Y (s e) f (s (nx e)) * gO X Y (s e) f (s (nx e)) := by unfold gDot gD gO; grind
  have d1 := gD_pos df.symm
  have d2 := gD_pos dw.symm
  have dp : 0 < gDot X Y (s e) f (s (nx e)) := by
    have := Int.mul_pos d1 d2
    rw [h0] at id1
    rcases Int.lt_or_eq_of_le hd with q | q
    · exact q
    · rw [← q] at id1; omega
  -- the turn towards a third point is of one sign for both
  have id2 : ∀ x, gDot X Y (s e) f (s (nx e)) * gO X Y (s e) f x = gD X Y f (s e) * gO X Y (s e) (s (nx e)) x + gO X Y (s e) f (s (nx e)) * gDot X Y (s e) f x := fun x => by unfold gDot gD gO; grind
  rw [h0] at id2
  cases hs : sol G s (e / 3) with
  | true =>
    have r := hD.solid he hs
    have o := r.2.2.2.2.2.2.1
    have i2 := id2 (s (nx (nx e)))
    have pos : 0 < gO X Y (s e) f (s (nx (nx e))) := by
      have := Int.mul_pos d1 o
      exact Int.pos_of_mul_pos_right (a := gDot X Y (s e) f (s (nx e))) (by omega) dp
    have := no_cross hP r hE hf n0 n1 (fun q => by rw [q, gO_22] at pos; omega)
    omega
  | false =>
    have w := hD.1 e he
    have r := hD.solid w.1 (base_solid hP hD he h1 h2 hs)
    rw [w.2.2.1, w.2.2.2] at r
    have r := solid_rot hP r
    have o := r.2.2.2.2.2.2.1
    rw [gO_23] at o
    have i2 := id2 (s (nx (nx (tw e))))
    have pos : gO X Y (s e) f (s (nx (nx (tw e)))) < 0 := by
      have m1 := Int.mul_neg_of_pos_of_neg d1 (show gO X Y (s e) (s (nx e)) (s (nx (nx (tw e)))) < 0 by omega)
      have m2 : gDot X Y (s e) f (s (nx e)) * gO X Y (s e) f (s (nx (nx (tw e)))) < 0 := by omega
      by_cases q : gO X Y (s e) f (s (nx (nx (tw e)))) < 0
      · exact q
      · have := Int.mul_nonneg (Int.le_of_lt dp) (Int.not_lt.mp q)
        omega
    have := no_cross hP r hE hf n0 (fun q => by rw [q, gO_22] at pos; omega) n1
    omega
end
section
variable {X Y : Nat → Int} {P : List Nat} {N G m : Nat} {s tw : Nat → Nat}
theorem sol_no {e : Nat} (h : s e = G ∨ s (nx e) = G ∨ s (nx (nx e)) = G) : sol G s (e / 3) = false := by
  cases q : sol G s (e / 3) with
  | false => rfl
  | true => have := sol_edge.mp q; omega
/-- over the gap, where the ghost is -/
theorem gap_soon (hP : PtsL X Y N G P) (hD : NetD X Y G P m s tw) {e : Nat} (he : e < 3 * m) (h1 : s e ≠ G) (h2 : s (nx e) ≠ G) (h3 : s (nx (nx e)) = G) : s (nx (rho tw (rho tw e))) ≠ G ∧ ∀ f ∈ P, EDG X Y N P (s e) f → f ≠ s e → f ≠ s (nx e) → f ≠ s (nx (rho tw (rho tw e))) → SOON X Y (s e) f (s (nx e)) (s (nx (rho tw (rho tw e)))) := by
  have e1l := rho_lt hD he
  have e2l := rho_lt hD e1l
  have e1s := rho_s hD he
  have e2s := rho_s hD e1l
  have e1e := rho_end hD he
  have e2e := rho_end hD e1l
  have sf : sol G s (e / 3) = false := sol_no (Or.inr (Or.inr h3))
  have o1 := (NetD.outer hP hD he h1 h2 sf).2
  -- the ghost's other triangle
  have gl := nx_lt (nx_lt e1l)
  have g1 : s (nx (nx (rho tw e))) ≠ G := by
    rw [h3] at e1e
    have t := ghost_one hP hD (nx (rho tw e)) (nx_lt e1l) e1e
    exact t.1
  have sf1 : sol G s (nx (nx (rho tw e)) / 3) = false := sol_no (Or.inr (Or.inr (by rw [nx3, e1e, h3])))
  have o2 := (NetD.outer hP hD gl g1 (by rw [nx3, e1s]; exact h1) sf1).2
  rw [nx3, e1s] at o2
  refine ⟨by rw [e2e]; exact g1, fun f hf hE n0 n1 n2 => ?_⟩
  rw [e2e] at n2 ⊢
  have ed1 := edge_EDG hP hD he h1 h2
  have ed2 := edge_EDG hP hD e2l (by rw [e2s, e1s]; exact h1) (by rw [e2e]; exact g1)
  rw [e2s, e1s, e2e] at ed2
  have a1 : ¬ 0 < gO X Y (s e) (s (nx e)) f := fun z => o1.2.2.2 f hf n0 n1 (Or.inl z)
  have a2 : ¬ 0 < gO X Y (s (nx (nx (rho tw e)))) (s e) f := fun z => o2.2.2.2 f hf n2 n0 (Or.inl z)
  rw [gO_23] at a1
  rw [← gO_rot] at a2
  by_cases z : gO X Y (s e) f (s (nx e)) = 0 ∧ gO X Y (s e) f (s (nx (nx (rho tw e)))) = 0
  · exfalso
    have w1 : gDot X Y (s e) f (s (nx e)) < 0 := by
      by_cases q : 0 ≤ gDot X Y (s e) f (s (nx e))
      · exact absurd (same_way hP hD he h1 h2 hf hE n0 z.1 q) n1
      · omega
    have w2 : gDot X Y (s e) f (s (nx (nx (rho tw e)))) < 0 := by
      by_cases q : 0 ≤ gDot X Y (s e) f (s (nx (nx (rho tw e))))
      · have t := same_way hP hD e2l (by rw [e2s, e1s]; exact h1) (by rw [e2e]; exact g1) hf (by rw [e2s, e1s]; exact hE) (by rw [e2s, e1s]; exact n0) (by rw [e2s, e1s, e2e]; exact z.2) (by rw [e2s, e1s, e2e]; exact q)
        rw [e2e] at t
        exact absurd t n2
      · omega
    have df : dif X Y (s e) f := hP.2.1 _ ed1.2.1 _ hf (fun q => n0 q.symm)
    have c0 := gO_col0 df z.2 z.1
    have id : gD X Y f (s e) * gDot X Y (s e) (s (nx (nx (rho tw e)))) (s (nx e)) = gDot X Y (s e) f (s (nx (nx (rho tw e)))) * gDot X Y (s e) f (s (nx e)) + gO X Y (s e) f (s (nx (nx (rho tw e)))) * gO X Y (s e) f (s (nx e)) := by unfold gD gDot gO; grind
    have mp := Int.mul_pos_of_neg_of_neg w2 w1
    rw [z.1, Int.mul_zero, Int.add_zero] at id
    have dp : 0 < gDot X Y (s e) (s (nx (nx (rho tw e)))) (s (nx e)) := Int.pos_of_mul_pos_right (a := gD X Y f (s e)) (by omega) (gD_pos df.symm)
    have t := same_way hP hD he h1 h2 ed2.2.2.1 ed2.1 (fun q => ed2.2.2.2 q.symm) c0 (Int.le_of_lt dp)
    -- one edge: its other side is the ghost's too
    have ee := hD.2.2 _ e2l _ he (by rw [e2s, e1s]) (by rw [e2e]; exact t)
    have tt := (hD.1 _ gl).2.1
    have ee' : tw (nx (nx (rho tw e))) = e := ee
    rw [ee'] at tt
    have bs := base_solid hP hD he h1 h2 sf
    rw [tt, sf1] at bs
    cases bs
  · unfold SOON
    omega
theorem chain_soon (hP : PtsL X Y N G P) (hD : NetD X Y G P m s tw) {e0 : Nat} (he0 : e0 < 3 * m) (hv : s e0 ≠ G) {f : Nat} (hf : f ∈ P) (hE : EDG X Y N P (s e0) f) (n0 : f ≠ s e0) {lo : Nat} (hlo : s (nx (itr (rho tw) lo e0)) ≠ G) (hvP : s e0 ∈ P) : ∀ d, 0 < d → (∀ j, lo ≤ j → j ≤ lo + d → s (nx (itr (rho tw) j e0)) ≠ f) → s (nx (itr (rho tw) (lo + d) e0)) ≠ G → SOON X Y (s e0) f (s (nx (itr (rho tw) lo e0))) (s (nx (itr (rho tw) (lo + d) e0))) := by
  intro d
  have df : dif X Y (s e0) f := hP.2.1 _ hvP _ hf (fun q => n0 q.symm)
  have st : ∀ i, s (nx (itr (rho tw) i e0)) ≠ G → s (nx (itr (rho tw) (i + 1) e0)) ≠ G → s (nx (itr (rho tw) i e0)) ≠ f → s (nx (itr (rho tw) (i + 1) e0)) ≠ f → SOON X Y (s e0) f (s (nx (itr (rho tw) i e0))) (s (nx (itr (rho tw) (i + 1) e0))) := by
    intro i a1 a2 a3 a4
    have ii := itr_rho hD he0 i
    have en : s (nx (itr (rho tw) (i + 1) e0)) = s (nx (nx (itr (rho tw) i e0))) := rho_end hD ii.1
    have so := hD.solid ii.1 (sol_edge.mpr ⟨by rw [ii.2]; exact hv, a1, by rw [← en]; exact a2⟩)
    rw [en]
    rw [ii.2] at so
    exact soon_step hP so hE hf n0 (fun q => a3 q.symm) (fun q => a4 (by rw [en, q]))
  have gp : ∀ i, s (nx (itr (rho tw) i e0)) ≠ G → s (nx (itr (rho tw) (i + 1) e0)) = G → s (nx (itr (rho tw) i e0)) ≠ f → s (nx (itr (rho tw) (i + 2) e0)) ≠ f → SOON X Y (s e0) f (s (nx (itr (rho tw) i e0))) (s (nx (itr (rho tw) (i + 2) e0))) := by
    intro i a1 a2 a3 a4
    have ii := itr_rho hD he0 i
    have en : s (nx (itr (rho tw) (i + 1) e0)) = s (nx (nx (itr (rho tw) i e0))) := rho_end hD ii.1
    have g := (gap_soon hP hD ii.1 (by rw [ii.2]; exact hv) a1 (by rw [← en]; exact a2)).2 f hf (by rw [ii.2]; exact hE) (by rw [ii.2]; exact n0) (fun q => a3 q.symm) (fun q => a4 q.symm)
    rw [ii.2] at g
    exact g
  have two : ∀ i, s (nx (itr (rho tw) (i + 1) e0)) = G → s (nx (itr (rho tw) i e0)) ≠ G := by
    intro i a q
    have ii := itr_rho hD he0 i
    have en : s (nx (itr (rho tw) (i + 1) e0)) = s (nx (nx (itr (rho tw) i e0))) := rho_end hD ii.1
    exact (ghost_one hP hD _ (nx_lt ii.1) q).1 (by rw [← en]; exact a)
  induction d using Nat.strongRecOn with
  | ind d ih =>
    intro hd hj hG
    by_cases d1 : d = 1
    · subst d1
      exact st lo hlo hG (hj lo (by omega) (by omega)) (hj (lo + 1) (by omega) (by omega))
    obtain ⟨d, rfl⟩ : ∃ k, d = k + 2 := ⟨d - 2, by omega⟩
    by_cases c : s (nx (itr (rho tw) (lo + d + 1) e0)) = G
    · have c' := two (lo + d) c
      have g := gp (lo + d) c' c (hj _ (by omega) (by omega)) (hj _ (by omega) (by omega))
      by_cases d0 : d = 0
      · subst d0; exact g
      · exact (ih d (by omega) (by omega) (fun j a b => hj j a (by omega)) c').trans df g
    · exact (ih (d + 1) (by omega) (by omega) (fun j a b => hj j a (by omega)) c).trans df (st (lo + d + 1) c hG (hj _ (by omega) (by omega)) (hj _ (by omega) (by omega)))
/-- all edges from a point are in one round -/
theorem round_all (hP : PtsL X Y N G P) (hD : NetD X Y G P m s tw) {e0 g : Nat} (he0 : e0 < 3 * m) (hv : s e0 ∈ P) (hg : g < 3 * m) (hs : s g = s e0) : ∃ i, itr (rho tw) i e0 = g := by
  have hvG := (hP.1 _ hv).2.2
  obtain ⟨L, L0, hL, -⟩ := orbit (fun e he => rho_lt hD he) (rho_inj hD) he0
  -- an edge to a point
  have key : ∀ g, g < 3 * m → s g = s e0 → s (nx g) ≠ G → ∃ i, itr (rho tw) i e0 = g := by
    intro g hg hs hn
    by_cases q : ∃ i, itr (rho tw) i e0 = g
    · exact q
    exfalso
    have ed := edge_EDG hP hD hg (by rw [hs]; exact hvG) hn
    rw [hs] at ed
    have no : ∀ i, s (nx (itr (rho tw) i e0)) ≠ s (nx g) := fun i r => q ⟨i, by
      have ii := itr_rho hD he0 i
      exact hD.2.2 _ ii.1 _ hg (by rw [ii.2, hs]) r⟩
    obtain ⟨lo, hlo⟩ : ∃ lo, s (nx (itr (rho tw) lo e0)) ≠ G := by
      by_cases c : s (nx e0) = G
      · refine ⟨1, ?_⟩
        have en : s (nx (itr (rho tw) 1 e0)) = s (nx (nx e0)) := rho_end hD he0
        rw [en]
        exact (ghost_one hP hD _ (nx_lt he0) c).1
      · exact ⟨0, c⟩
    have e : itr (rho tw) (lo + L) e0 = itr (rho tw) lo e0 := by rw [itr_add, hL]
    have c := chain_soon hP hD he0 hvG ed.2.2.1 ed.1 (fun r => ed.2.2.2 r.symm) hlo hv L L0 (fun j _ _ => no j) (by rw [e]; exact hlo)
    rw [e] at c
    exact SOON.irr c
  by_cases c : s (nx g) = G
  · obtain ⟨i, hi⟩ := key (rho tw g) (rho_lt hD hg) (by rw [rho_s hD hg]; exact hs) (by rw [rho_end hD hg]; exact (ghost_one hP hD _ (nx_lt hg) c).1)
    -- back by one
    have hL' : ∀ k, itr (rho tw) (k * L) e0 = e0 := fun k => by
      induction k with
      | zero => rw [Nat.zero_mul]; rfl
      | succ k ih => rw [Nat.succ_mul, itr_add, hL, ih]
    have e1 : itr (rho tw) (i + L) e0 = rho tw g := by rw [itr_add, hL, hi]
    obtain ⟨j, hj⟩ : ∃ j, i + L = j + 1 := ⟨i + L - 1, by omega⟩
    rw [hj] at e1
    exact ⟨j, rho_inj hD _ (itr_rho hD he0 j).1 _ hg e1⟩
  · exact key g hg hs c
end
