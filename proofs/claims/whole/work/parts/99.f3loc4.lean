/-! LOCATE: points on a line -/
section
variable {n p : Nat} {X Y : Nat → Int}
theorem col3 {a b i j k : Nat} (h : dif X Y a b) (h1 : gO X Y a b i = 0) (h2 : gO X Y a b j = 0) (h3 : gO X Y a b k = 0) : gO X Y i j k = 0 := by
  by_cases c : gO X Y i j k = 0
  · exact c
  · exfalso
    obtain ⟨z, hz, hne⟩ := off_line (P := [i, j, k]) h ⟨i, by simp, j, by simp, k, by simp, c⟩
    simp only [List.mem_cons, List.not_mem_nil, or_false] at hz
    rcases hz with rfl | rfl | rfl
    · exact hne h1
    · exact hne h2
    · exact hne h3
/-- off the line there is no pair -/
theorem line_off (hd : DN X Y n) (hl : LIN X Y n) (h : ¬ (2 ≤ n ∧ gO X Y 0 1 p = 0)) : ∀ a b, a < n → b < n → ¬ PS X Y n [] p a b := by
  intro a b ha hb q
  have ne := q.2.1
  have n2 : 2 ≤ n := by omega
  obtain ⟨z, -⟩ := onS_dots q.1
  exact h ⟨n2, col3 (hd a ha b hb ne) (hl a ha b hb 0 (by omega)) (hl a ha b hb 1 (by omega)) z⟩
/-- on it: the next below and the next above -/
theorem line_on (hd : DN X Y n) (hl : LIN X Y n) (hp : ∀ i, i < n → dif X Y p i) (n2 : 2 ≤ n) (hz : gO X Y 0 1 p = 0) {ob oa : Option Nat} (hb : bestB X Y (X p) (Y p) n ob) (ha : bestA X Y (X p) (Y p) n oa) : ((ob = none ∨ oa = none) → ∀ a b, a < n → b < n → ¬ PS X Y n [] p a b) ∧ ∀ u w, ob = some u → oa = some w → u ≠ w ∧ u < n ∧ w < n ∧ PS X Y n [] p u w ∧ PS X Y n [] p w u ∧ ∀ a b, a < n → b < n → PS X Y n [] p a b → (a = u ∧ b = w) ∨ (a = w ∧ b = u) := by
  have d01 := hd 0 (by omega) 1 (by omega) (by decide)
  have z : ∀ a b, a < n → b < n → gO X Y a b p = 0 := fun a b ha hb => col3 d01 (hl 0 (by omega) 1 (by omega) a ha) (hl 0 (by omega) 1 (by omega) b hb) hz
  have blw : ∀ j, Blw X Y (X p) (Y p) j ↔ gLess X Y j p := fun j => Iff.rfl
  have abv : ∀ j, Abv X Y (X p) (Y p) j ↔ gLess X Y p j := fun j => Iff.rfl
  have nlt : ∀ a b, gLess X Y a b → ¬ gLess X Y b a := fun a b h1 h2 => gLess_irr (gLess_trans h1 h2)
  have bt : ∀ a b, a < n → b < n → (OnS X Y (X p) (Y p) a b ↔ (gLess X Y a p ↔ gLess X Y p b)) := by
    intro a b ha hb
    have z := z a b ha hb
    rw [onS_iff, between z (hp a ha) (hp b hb)]
    have := dot_ne z (hp a ha) (hp b hb)
    constructor
    · rintro ⟨-, q⟩; omega
    · intro q; exact ⟨z, by omega⟩
  have btj : ∀ j a b, j < n → a < n → b < n → j ≠ a → j ≠ b → (OnS X Y (X j) (Y j) a b ↔ (gLess X Y a j ↔ gLess X Y j b)) := by
    intro j a b hj ha hb n1 n2
    have z := hl a ha b hb j hj
    have d1 := hd j hj a ha n1
    have d2 := hd j hj b hb n2
    rw [onS_iff, between z d1 d2]
    have := dot_ne z d1 d2
    constructor
    · rintro ⟨-, q⟩; omega
    · intro q; exact ⟨z, by omega⟩
  -- a pair that has the place between: one of them below, one above, and none between
  have ord : ∀ a b, a < n → b < n → gLess X Y a p → gLess X Y p b → NBR X Y n [] a b ∨ NBR X Y n [] b a → ob = some a ∧ oa = some b := by
    intro a b ha' hb' h1 h2 hn
    have no : ∀ k, k < n → k ≠ a → k ≠ b → ¬ (gLess X Y a k ∧ gLess X Y k b) := by
      intro k hk ka kb q
      rcases hn with ⟨-, ⟨-, w⟩ | ⟨t, ht, -⟩⟩ | ⟨-, ⟨-, w⟩ | ⟨t, ht, -⟩⟩
      · exact w k hk ka kb ((btj k a b hk ha' hb' ka kb).mpr ⟨fun _ => q.2, fun _ => q.1⟩)
      · exact List.not_mem_nil ht
      · exact w k hk kb ka ((btj k b a hk hb' ha' kb ka).mpr ⟨fun r => absurd r (nlt _ _ q.2), fun r => absurd r (nlt _ _ q.1)⟩)
      · exact List.not_mem_nil ht
    refine ⟨?_, ?_⟩
    · cases ob with
      | none => exact absurd ((blw a).mpr h1) (hb a ha')
      | some r =>
        obtain ⟨r1, r2, r3⟩ := hb
        by_cases e : r = a
        · rw [e]
        · exfalso
          have ar : gLess X Y a r := (gLess_tri (hd r r1 a ha' e)).resolve_left (r3 a ha' ((blw a).mpr h1))
          have rb := gLess_trans ((blw r).mp r2) h2
          exact no r r1 e (fun q => by rw [q] at rb; exact gLess_irr rb) ⟨ar, rb⟩
    · cases oa with
      | none => exact absurd ((abv b).mpr h2) (ha b hb')
      | some r =>
        obtain ⟨r1, r2, r3⟩ := ha
        by_cases e : r = b
        · rw [e]
        · exfalso
          have rb : gLess X Y r b := (gLess_tri (hd r r1 b hb' e)).resolve_right (r3 b hb' ((abv b).mpr h2))
          have ar := gLess_trans h1 ((abv r).mp r2)
          exact no r r1 (fun q => by rw [q] at ar; exact gLess_irr ar) e ⟨ar, rb⟩
  have NBR_symm : ∀ a b, a < n → b < n → NBR X Y n [] a b → NBR X Y n [] b a := by
    intro a b ha' hb' q
    refine ⟨fun e => q.1 e.symm, Or.inl ⟨rfl, fun k hk kb ka w => ?_⟩⟩
    rcases q.2 with ⟨-, v⟩ | ⟨t, ht, -⟩
    · refine v k hk ka kb ?_
      rw [onS_iff] at w ⊢
      have : gDot X Y k a b = gDot X Y k b a := by unfold gDot; grind
      exact ⟨by rw [gO_swap]; omega, by omega⟩
    · exact List.not_mem_nil ht
  have any : ∀ a b, a < n → b < n → PS X Y n [] p a b → (ob = some a ∧ oa = some b) ∨ (ob = some b ∧ oa = some a) := by
    intro a b ha' hb' q
    have w := (bt a b ha' hb').mp q.1
    by_cases c : gLess X Y a p
    · exact Or.inl (ord a b ha' hb' c (w.mp c) (Or.inl q.2))
    · right
      have pa := (gLess_tri (hp a ha')).resolve_right c
      have bp : gLess X Y b p := (gLess_tri (hp b hb')).resolve_left (fun r => c (w.mpr r))
      exact ord b a hb' ha' bp pa (Or.inr q.2)
  refine ⟨fun hnone a b ha' hb' q => ?_, fun u w hu hw => ?_⟩
  · rcases any a b ha' hb' q with ⟨r1, r2⟩ | ⟨r1, r2⟩
    · rcases hnone with r | r
      · rw [r] at r1; cases r1
      · rw [r] at r2; cases r2
    · rcases hnone with r | r
      · rw [r] at r1; cases r1
      · rw [r] at r2; cases r2
  · subst hu hw
    obtain ⟨u1, u2, u3⟩ := hb
    obtain ⟨w1, w2, w3⟩ := ha
    have up := (blw u).mp u2
    have pw := (abv w).mp w2
    have uw := gLess_trans up pw
    have ne : u ≠ w := fun e => by rw [e] at uw; exact gLess_irr uw
    have nb : NBR X Y n [] u w := by
      refine ⟨ne, Or.inl ⟨rfl, fun k hk ku kw q => ?_⟩⟩
      have v := (btj k u w hk u1 w1 ku kw).mp q
      rcases gLess_tri (hp k hk) with r | r
      · -- above the place: beyond w
        have wk : gLess X Y w k := (gLess_tri (hd w w1 k hk (fun e => kw e.symm))).resolve_right (w3 k hk ((abv k).mpr r))
        exact nlt _ _ wk (v.mp (gLess_trans uw wk))
      · have ku' : gLess X Y k u := (gLess_tri (hd k hk u u1 ku)).resolve_right (u3 k hk ((blw k).mpr r))
        exact nlt _ _ ku' (v.mpr (gLess_trans ku' uw))
    refine ⟨ne, u1, w1, ⟨(bt u w u1 w1).mpr ⟨fun _ => pw, fun _ => up⟩, nb⟩, ⟨(bt w u w1 u1).mpr ⟨fun r => absurd r (nlt _ _ pw), fun r => absurd r (nlt _ _ up)⟩, NBR_symm u w u1 w1 nb⟩, fun a b ha' hb' q => ?_⟩
    rcases any a b ha' hb' q with ⟨r1, r2⟩ | ⟨r1, r2⟩
    · exact Or.inl ⟨(Option.some.inj r1).symm, (Option.some.inj r2).symm⟩
    · exact Or.inr ⟨(Option.some.inj r2).symm, (Option.some.inj r1).symm⟩
end
