/-! THE CLASS'S STATE, 1: what only the places of the points decide -/
def eqP (X Y X' Y' : Nat → Int) (i : Nat) : Prop := X' i = X i ∧ Y' i = Y i
section
variable {X Y X' Y' : Nat → Int} {a b c d : Nat}
theorem gO_congr (ha : eqP X Y X' Y' a) (hb : eqP X Y X' Y' b) (hc : eqP X Y X' Y' c) : gO X' Y' a b c = gO X Y a b c := by
  unfold gO
  rw [ha.1, ha.2, hb.1, hb.2, hc.1, hc.2]
theorem gLess_congr (ha : eqP X Y X' Y' a) (hb : eqP X Y X' Y' b) : gLess X' Y' a b = gLess X Y a b := by
  unfold gLess
  rw [ha.1, ha.2, hb.1, hb.2]
theorem gVQ_congr (ha : eqP X Y X' Y' a) (hb : eqP X Y X' Y' b) (hc : eqP X Y X' Y' c) (hd : eqP X Y X' Y' d) : gV X' Y' (gQ X' Y') a b c d = gV X Y (gQ X Y) a b c d := by
  unfold gV gQ
  rw [ha.1, ha.2, hb.1, hb.2, hc.1, hc.2, hd.1, hd.2]
theorem takes_congr (ha : eqP X Y X' Y' a) (hb : eqP X Y X' Y' b) (hc : eqP X Y X' Y' c) (hd : eqP X Y X' Y' d) : takes X' Y' d a b c = takes X Y d a b c := by
  unfold takes
  rw [gVQ_congr ha hb hc hd, gLess_congr hd ha, gLess_congr hd hb, gLess_congr hd hc, gLess_congr ha hb, gLess_congr ha hc, gLess_congr hb hc, gO_congr hb hc hd, gO_congr hc ha hd, gO_congr ha hb hd]
theorem seen_congr (ha : eqP X Y X' Y' a) (hb : eqP X Y X' Y' b) (hd : eqP X Y X' Y' d) : seen X' Y' a b d = seen X Y a b d := by
  unfold seen
  rw [gO_congr ha hb hd, gLess_congr ha hd, gLess_congr hd hb]
variable {P : List Nat} {G m : Nat} {s tw : Nat → Nat}
theorem solid_congr (h : ∀ i ∈ P, eqP X Y X' Y' i) (q : solid X Y P a b c) : solid X' Y' P a b c := by
  obtain ⟨h1, h2, h3, h4, h5, h6, h7, h8⟩ := q
  refine ⟨h1, h2, h3, h4, h5, h6, by rw [gO_congr (h a h1) (h b h2) (h c h3)]; exact h7, fun d hd d1 d2 d3 => ?_⟩
  rw [takes_congr (h a h1) (h b h2) (h c h3) (h d hd)]
  exact h8 d hd d1 d2 d3
theorem outerE_congr (h : ∀ i ∈ P, eqP X Y X' Y' i) (q : outerE X Y P a b) : outerE X' Y' P a b := by
  obtain ⟨h1, h2, h3, h4⟩ := q
  refine ⟨h1, h2, h3, fun d hd d1 d2 => ?_⟩
  rw [seen_congr (h a h1) (h b h2) (h d hd)]
  exact h4 d hd d1 d2
theorem NetD.congr (h : ∀ i ∈ P, eqP X Y X' Y' i) (q : NetD X Y G P m s tw) : NetD X' Y' G P m s tw := by
  refine ⟨q.1, fun e he => ?_, q.2.2⟩
  rcases q.2.1 e he with r | ⟨z, r⟩ | ⟨z, r⟩ | ⟨z, r⟩
  · exact Or.inl (solid_congr h r)
  · exact Or.inr (Or.inl ⟨z, outerE_congr h r⟩)
  · exact Or.inr (Or.inr (Or.inl ⟨z, outerE_congr h r⟩))
  · exact Or.inr (Or.inr (Or.inr ⟨z, outerE_congr h r⟩))
theorem PtsL.congr {N : Nat} (h : ∀ i ∈ P, eqP X Y X' Y' i) (q : PtsL X Y N G P) : PtsL X' Y' N G P := by
  obtain ⟨h1, h2, h3, a, ha, b, hb, c, hc, h4⟩ := q
  refine ⟨fun i hi => ⟨?_, (h1 i hi).2⟩, fun i hi j hj hij => ?_, h3, a, ha, b, hb, c, hc, by rw [gO_congr (h a ha) (h b hb) (h c hc)]; exact h4⟩
  · have := (h1 i hi).1
    unfold inR at *
    rw [(h i hi).1, (h i hi).2]
    exact this
  · have := h2 i hi j hj hij
    unfold dif at *
    rw [(h i hi).1, (h i hi).2, (h j hj).1, (h j hj).2]
    exact this
end
/-- points and room -/
def CI (S : St) (X Y : Nat → Int) (G n : Nat) : Prop :=
  gi S 2 = nI G ∧ gi S 4 = nI G ∧ 1 ≤ G ∧ G ≤ 1024 ∧ gi S 3 = nI n ∧ n ≤ G ∧ PV S n X Y ∧ (∀ i, i < n → ∀ j, j < n → i ≠ j → dif X Y i j) ∧ RmW S n ∧ (0 < n → Rm S n) ∧ PG S G
/-- the net, if there is one -/
def NP (S : St) (X Y : Nat → Int) (G n : Nat) : Prop :=
  (gi S 6 = 0 ∧ gi S 7 = 0 ∧ ∀ i, i < n → ∀ j, j < n → ∀ k, k < n → gO X Y i j k = 0) ∨ ∃ m s tw lv P, NI S X Y G n m s tw lv P ∧ PtsL X Y 1024 G P ∧ ∀ i, i ∈ P ↔ i < n
def isClosest (X Y : Nat → Int) (n a b : Nat) : Prop := a < b ∧ b < n ∧ ∀ i j, i < j → j < n → D2 X Y a (X b) (Y b) ≤ D2 X Y i (X j) (Y j) ∧ (D2 X Y i (X j) (Y j) = D2 X Y a (X b) (Y b) → a < i ∨ (a = i ∧ b ≤ j))
def CLO (S : St) (X Y : Nat → Int) (n : Nat) : Prop := (n < 2 → gi S 0 = -1) ∧ (2 ≤ n → ∃ a b, isClosest X Y n a b ∧ gi S 0 = nI a ∧ gi S 1 = nI b ∧ (gl S 0).toInt = D2 X Y a (X b) (Y b))
section
variable {S T : St} {X Y X' Y' : Nat → Int} {G n m : Nat} {s tw lv : Nat → Nat} {P : List Nat}
/-- with more room, and a point more to come -/
theorem NI.up (h : NI S X Y G n m s tw lv P) (hg : gr S T) (hR : Rm T (n + 1)) (he : ∀ i ∈ P, eqP X Y X' Y' i) (hRS : Rm S n) (hm : m + 2 ≤ 2 * n) (hP : ∀ i ∈ P, i < n) : NI T X' Y' G (n + 1) m s tw lv P := by
  obtain ⟨⟨h1, h2, h3, h4, h5, h6, h7, h8⟩, hD, ⟨l1, l2, l3⟩, ho, hl⟩ := h
  have ei : ∀ k, gi T k = gi S k := fun k => by show T.1 k = S.1 k; rw [hg.1]
  refine ⟨⟨by rw [ei]; exact h1, by rw [ei]; exact h2, h3, h4, hg.cap (by decide) (by decide) h5, hg.cap (by decide) (by decide) h6, fun e he => ?_, fun e he => ?_⟩, hD.congr he, ⟨hR.2.2.2.2.1, fun v hv => ?_, ?_⟩, by rw [ei]; exact ho, hl⟩
  · rw [hg.at h5 he]; exact h7 e he
  · rw [hg.at h6 he]; exact h8 e he
  · rw [hg.at l1 (show v + 1 < n + 1 by have := hP v hv; omega)]; exact l2 v hv
  · rw [hg.at l1 (show 0 < n + 1 by omega)]; exact l3
/-- what one point more leaves alone: ints, net rows -/
theorem NI.same (h : NI S X Y G n m s tw lv P) (hi : ∀ k, 4 ≤ k → gi T k = gi S k) (hn : T.2.2.1 = S.2.2.1) (ha : ∀ k, 8 ≤ k → k < 18 → ga T k = ga S k) : NI T X Y G n m s tw lv P := by
  obtain ⟨⟨h1, h2, h3, h4, h5, h6, h7, h8⟩, hD, ⟨l1, l2, l3⟩, ho, hl⟩ := h
  refine ⟨⟨by rw [hi 4 (by decide)]; exact h1, by rw [hi 6 (by decide)]; exact h2, h3, h4, h5.of hn, h6.of hn, ?_, ?_⟩, hD, ⟨l1.of hn, ?_, ?_⟩, by rw [hi 7 (by decide)]; exact ho, hl⟩
  · rw [ha 8 (by decide) (by decide)]; exact h7
  · rw [ha 9 (by decide) (by decide)]; exact h8
  · rw [ha 10 (by decide) (by decide)]; exact l2
  · rw [ha 10 (by decide) (by decide)]; exact l3
end
