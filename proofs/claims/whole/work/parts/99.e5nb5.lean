/-! NEIGHBOURS: both are one -/
section
variable {n G m : Nat} {X Y : Nat → Int} {s tw lv : Nat → Nat} {L : List (Nat × Nat × Nat)}
theorem box_iff (a b x : Int) : (a ≤ x ∧ x ≤ b ∨ b ≤ x ∧ x ≤ a) ↔ (a - x) * (b - x) ≤ 0 := by
  constructor
  · rintro (⟨h1, h2⟩ | ⟨h1, h2⟩)
    · exact Int.mul_nonpos_of_nonpos_of_nonneg (by omega) (by omega)
    · exact Int.mul_nonpos_of_nonneg_of_nonpos (by omega) (by omega)
  · intro h
    by_cases c : (a ≤ x ∧ x ≤ b) ∨ (b ≤ x ∧ x ≤ a)
    · exact c
    · exfalso
      by_cases d : x < a
      · have := Int.mul_pos (show 0 < a - x by omega) (show 0 < b - x by omega)
        omega
      · have := Int.mul_pos_of_neg_of_neg (show a - x < 0 by omega) (show b - x < 0 by omega)
        omega
/-- on the way from a to b -/
theorem onS_iff (j a b : Nat) : OnS X Y (X j) (Y j) a b ↔ gO X Y a b j = 0 ∧ gDot X Y j a b ≤ 0 := by
  have e : tz (X a) (Y a) (X b) (Y b) (X j) (Y j) = gO X Y a b j := rfl
  unfold OnS
  rw [box_iff, box_iff, e]
  have hd : gDot X Y j a b = (X a - X j) * (X b - X j) + (Y a - Y j) * (Y b - Y j) := rfl
  constructor
  · rintro ⟨h1, h2, h3⟩
    exact ⟨h3, by omega⟩
  · rintro ⟨h3, h4⟩
    have sq : 0 ≤ ((X a - X j) * (Y b - Y j)) * ((X a - X j) * (Y b - Y j)) := by
      rcases Int.le_total 0 ((X a - X j) * (Y b - Y j)) with q | q
      · exact Int.mul_nonneg q q
      · exact Int.mul_nonneg_of_nonpos_of_nonpos q q
    have c : (X a - X j) * (Y b - Y j) = (Y a - Y j) * (X b - X j) := by
      have : (X a - X j) * (Y b - Y j) - (Y a - Y j) * (X b - X j) = gO X Y a b j := by unfold gO; grind
      omega
    have pp : ((X a - X j) * (X b - X j)) * ((Y a - Y j) * (Y b - Y j)) = ((X a - X j) * (Y b - Y j)) * ((X a - X j) * (Y b - Y j)) := by
      calc ((X a - X j) * (X b - X j)) * ((Y a - Y j) * (Y b - Y j)) = ((X a - X j) * (Y b - Y j)) * ((Y a - Y j) * (X b - X j)) := by grind
        _ = _ := by rw [← c]
    generalize (X a - X j) * (X b - X j) = p1 at *
    generalize (Y a - Y j) * (Y b - Y j) = p2 at *
    refine ⟨?_, ?_, h3⟩
    · by_cases q : p1 ≤ 0
      · exact q
      · exfalso
        have := Int.mul_neg_of_pos_of_neg (show 0 < p1 by omega) (show p2 < 0 by omega)
        omega
    · by_cases q : p2 ≤ 0
      · exact q
      · exfalso
        have := Int.mul_neg_of_neg_of_pos (show p1 < 0 by omega) (show 0 < p2 by omega)
        omega
/-- neighbours by triangles are neighbours by edges -/
theorem nbr_nbe (h : NETX X Y n G m s tw) (hL : TRI X Y n L) {p k : Nat} (hp : p < n) (hk : k < n) : NBR X Y n L p k ↔ NBE G m s p k := by
  have inL : ∀ x y z, solid X Y (List.range n) x y z → low3 x y z ∈ L := fun x y z hs => (hL.2 _).mpr ⟨solid_rt h.1 hs (low3_rt _ _ _), low3_lt hs.2.2.2.1 hs.2.2.2.2.1 hs.2.2.2.2.2.1⟩
  have kG : k ≠ G := (h.1.1 k (List.mem_range.mpr hk)).2.2
  have pG : p ≠ G := (h.1.1 p (List.mem_range.mpr hp)).2.2
  constructor
  · rintro ⟨hne, ⟨hL0, -⟩ | ⟨t, ht, h1, h2⟩⟩
    · exfalso
      obtain ⟨t, ht, hs⟩ := some_solid h.1 h.2.1 h.2.2.1
      have := inL _ _ _ (h.2.1.solid (e := 3 * t) (by omega) (by rw [show 3 * t / 3 = t by omega]; exact hs))
      rw [hL0] at this
      exact List.not_mem_nil this
    · refine ⟨kG, ?_⟩
      have so := ((hL.2 t).mp ht).1
      obtain ⟨e, he, e1, e2, e3⟩ := net_has h.1 h.2.1 h.2.2.1 so
      have key : ∀ g, g < 3 * m → (s g = p ∧ s (nx g) = k ∨ s g = k ∧ s (nx g) = p) → ∃ e, e < 3 * m ∧ s e = p ∧ s (nx e) = k := by
        rintro g hg (⟨q1, q2⟩ | ⟨q1, q2⟩)
        · exact ⟨g, hg, q1, q2⟩
        · have w := h.2.1.1 g hg
          exact ⟨tw g, w.1, by rw [w.2.2.1, q2], by rw [w.2.2.2, q1]⟩
      have l1 := nx_lt he
      have l2 := nx_lt l1
      unfold in3 at h1 h2
      rcases h1 with a | a | a <;> rcases h2 with b | b | b
      · exact absurd (a.symm.trans b) hne
      · exact key e he (Or.inl ⟨by rw [e1, a], by rw [e2, b]⟩)
      · exact key (nx (nx e)) l2 (Or.inr ⟨by rw [e3, b], by rw [nx3, e1, a]⟩)
      · exact key e he (Or.inr ⟨by rw [e1, b], by rw [e2, a]⟩)
      · exact absurd (a.symm.trans b) hne
      · exact key (nx e) l1 (Or.inl ⟨by rw [e2, a], by rw [e3, b]⟩)
      · exact key (nx (nx e)) l2 (Or.inl ⟨by rw [e3, a], by rw [nx3, e1, b]⟩)
      · exact key (nx e) l1 (Or.inr ⟨by rw [e2, b], by rw [e3, a]⟩)
      · exact absurd (a.symm.trans b) hne
  · rintro ⟨-, e, he, e1, e2⟩
    have inl : ∀ x y z, solid X Y (List.range n) x y z → (x = p ∧ y = k ∨ x = k ∧ y = p) → p ≠ k ∧ ∃ t ∈ L, in3 t p ∧ in3 t k := by
      intro x y z hs q
      refine ⟨?_, low3 x y z, inL x y z hs, ?_⟩
      · have := hs.2.2.2.1
        rcases q with ⟨q1, q2⟩ | ⟨q1, q2⟩
        · rw [← q1, ← q2]; exact this
        · rw [← q1, ← q2]; exact fun w => this w.symm
      · have r := low3_rt x y z
        unfold in3
        rcases q with ⟨rfl, rfl⟩ | ⟨rfl, rfl⟩ <;> rcases r with r | r | r <;> rw [r] <;> simp
    cases hs : sol G s (e / 3) with
    | true =>
      have so := h.2.1.solid he hs
      have := inl _ _ _ so (Or.inl ⟨e1, e2⟩)
      exact ⟨this.1, Or.inr this.2⟩
    | false =>
      have w := h.2.1.1 e he
      have so := h.2.1.solid w.1 (base_solid h.1 h.2.1 he (by rw [e1]; exact pG) (by rw [e2]; exact kG) hs)
      have := inl _ _ _ so (Or.inr ⟨by rw [w.2.2.1]; exact e2, by rw [w.2.2.2]; exact e1⟩)
      exact ⟨this.1, Or.inr this.2⟩
theorem pw_total {R : Nat → Nat → Prop} {l : List Nat} (h : l.Pairwise R) {a b : Nat} (ha : a ∈ l) (hb : b ∈ l) (hne : a ≠ b) : R a b ∨ R b a := by
  obtain ⟨i, hi, e1⟩ := List.getElem_of_mem ha
  obtain ⟨j, hj, e2⟩ := List.getElem_of_mem hb
  rw [List.pairwise_iff_getElem] at h
  rcases Nat.lt_trichotomy i j with q | q | q
  · left; rw [← e1, ← e2]; exact h i j hi hj q
  · subst q; exact absurd (e1.symm.trans e2) hne
  · right; rw [← e1, ← e2]; exact h j i hj hi q
/-- on a line: the next below and the next above -/
theorem nbr_line (hd : DN X Y n) (hl : LIN X Y n) {p k : Nat} (hp : p < n) (hk : k < n) {ob oa : Option Nat} (hb : bestB X Y (X p) (Y p) n ob) (ha : bestA X Y (X p) (Y p) n oa) : NBR X Y n [] p k ↔ ob = some k ∨ oa = some k := by
  have blw : ∀ j, Blw X Y (X p) (Y p) j ↔ gLess X Y j p := fun j => Iff.rfl
  have abv : ∀ j, Abv X Y (X p) (Y p) j ↔ gLess X Y p j := fun j => Iff.rfl
  have bt : ∀ j, j < n → j ≠ p → j ≠ k → (OnS X Y (X j) (Y j) p k ↔ (gLess X Y p j ↔ gLess X Y j k)) := by
    intro j hj n1 n2
    have z := hl p hp k hk j hj
    have d1 := hd j hj p hp n1
    have d2 := hd j hj k hk n2
    rw [onS_iff, between z d1 d2]
    have := dot_ne z d1 d2
    constructor
    · rintro ⟨-, q⟩; omega
    · intro q; exact ⟨z, by omega⟩
  have nlt : ∀ a b, gLess X Y a b → ¬ gLess X Y b a := fun a b h1 h2 => gLess_irr (gLess_trans h1 h2)
  constructor
  · rintro ⟨hne, ⟨-, h⟩ | ⟨t, ht, -⟩⟩
    · rcases gLess_tri (hd p hp k hk hne) with q | q
      · right
        cases oa with
        | none => exact absurd ((abv k).mpr q) (ha k hk)
        | some r =>
          obtain ⟨r1, r2, r3⟩ := ha
          by_cases e : r = k
          · rw [e]
          · exfalso
            have rk : gLess X Y r k := (gLess_tri (hd r r1 k hk e)).resolve_right (r3 k hk ((abv k).mpr q))
            have pr := (abv r).mp r2
            refine h r r1 (fun z => ?_) e ((bt r r1 (fun z => ?_) e).mpr ⟨fun _ => rk, fun _ => pr⟩)
            · rw [z] at pr; exact gLess_irr pr
            · rw [z] at pr; exact gLess_irr pr
      · left
        cases ob with
        | none => exact absurd ((blw k).mpr q) (hb k hk)
        | some r =>
          obtain ⟨r1, r2, r3⟩ := hb
          by_cases e : r = k
          · rw [e]
          · exfalso
            have kr : gLess X Y k r := (gLess_tri (hd r r1 k hk e)).resolve_left (r3 k hk ((blw k).mpr q))
            have rp := (blw r).mp r2
            have rnp : r ≠ p := fun z => by rw [z] at rp; exact gLess_irr rp
            exact h r r1 rnp e ((bt r r1 rnp e).mpr ⟨fun w => absurd w (nlt _ _ rp), fun w => absurd w (nlt _ _ kr)⟩)
    · exact absurd ht List.not_mem_nil
  · rintro (e | e)
    · subst e
      obtain ⟨r1, r2, r3⟩ := hb
      have kp := (blw k).mp r2
      refine ⟨fun z => ?_, Or.inl ⟨rfl, fun j hj n1 n2 q => ?_⟩⟩
      · rw [z] at kp; exact gLess_irr kp
      · have w := (bt j hj n1 n2).mp q
        by_cases c : gLess X Y p j
        · exact nlt _ _ (gLess_trans kp c) (w.mp c)
        · have jp := (gLess_tri (hd j hj p hp n1)).resolve_right c
          have jk : gLess X Y j k := (gLess_tri (hd j hj k hk n2)).resolve_right (r3 j hj ((blw j).mpr jp))
          exact c (w.mpr jk)
    · subst e
      obtain ⟨r1, r2, r3⟩ := ha
      have pk := (abv k).mp r2
      refine ⟨fun z => ?_, Or.inl ⟨rfl, fun j hj n1 n2 q => ?_⟩⟩
      · rw [z] at pk; exact gLess_irr pk
      · have w := (bt j hj n1 n2).mp q
        by_cases c : gLess X Y p j
        · exact r3 j hj ((abv j).mpr c) (w.mp c)
        · have jp := (gLess_tri (hd j hj p hp n1)).resolve_right c
          exact c (w.mpr (gLess_trans jp pk))
end
