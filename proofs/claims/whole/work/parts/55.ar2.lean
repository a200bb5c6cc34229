/-! the least above a place, the greatest below it -/
def Abv (X Y : Nat → Int) (x y : Int) (i : Nat) : Prop := x < X i ∨ (x = X i ∧ y < Y i)
def Blw (X Y : Nat → Int) (x y : Int) (i : Nat) : Prop := X i < x ∨ (X i = x ∧ Y i < y)
/-- the best so far, or none -/
def bestA (X Y : Nat → Int) (x y : Int) (i : Nat) (o : Option Nat) : Prop := match o with
  | none => ∀ j, j < i → ¬ Abv X Y x y j
  | some b => b < i ∧ Abv X Y x y b ∧ ∀ j, j < i → Abv X Y x y j → ¬ gLess X Y j b
def bestB (X Y : Nat → Int) (x y : Int) (i : Nat) (o : Option Nat) : Prop := match o with
  | none => ∀ j, j < i → ¬ Blw X Y x y j
  | some b => b < i ∧ Blw X Y x y b ∧ ∀ j, j < i → Blw X Y x y j → ¬ gLess X Y b j
def oI (o : Option Nat) : Int32 := match o with
  | none => -1
  | some b => nI b
section
variable {S : St} {n : Nat} {X Y : Nat → Int}
theorem gLess_of_not {i j k : Nat} (h1 : gLess X Y i j) (h2 : ¬ gLess X Y k j) : ¬ gLess X Y k i := fun q => h2 (gLess_trans q h1)
theorem leastA_loop (h : PV S n X Y) (hs : gi S 3 = nI n) (x y : Int32) : ∀ (d fuel i : Nat) (o : Option Nat), i + d = n → d < fuel → bestA X Y x.toInt y.toInt i o → ∃ r, bestA X Y x.toInt y.toInt n r ∧ f_Pt_leastAbove_5 fuel x y (oI o) (nI i) S = some (oI r, S) := by
  have hn := h.2.2.2
  intro d
  induction d with
  | zero =>
    intro fuel i o hi hf hb
    obtain ⟨fuel, rfl⟩ : ∃ k, fuel = k + 1 := ⟨fuel - 1, by omega⟩
    have : i = n := by omega
    subst this
    exact ⟨o, hb, by rw [f_Pt_leastAbove_5]; dsimp only; rw [hs, if_pos (Int32.le_refl _)]⟩
  | succ d ih =>
    intro fuel i o hi hf hb
    obtain ⟨fuel, rfl⟩ : ∃ k, fuel = k + 1 := ⟨fuel - 1, by omega⟩
    have ab := f_isAbove h (show i < n by omega) x y
    rw [f_Pt_leastAbove_5]
    dsimp only
    rw [hs, if_neg (nI_ge (by omega) (by omega)), ab, bd_s]
    have stay : ∀ o', bestA X Y x.toInt y.toInt (i + 1) o' → ∃ r, bestA X Y x.toInt y.toInt n r ∧ f_Pt_leastAbove_43 (f_Pt_leastAbove_5 fuel) x y (oI o') (nI i) S = some (oI r, S) := by
      intro o' ho
      unfold f_Pt_leastAbove_43
      rw [bn_s, nI_1]
      exact ih fuel (i + 1) o' (by omega) (by omega) ho
    by_cases c : Abv X Y x.toInt y.toInt i
    · have c' : x.toInt < X i ∨ (x.toInt = X i ∧ y.toInt < Y i) := c
      rw [b32_t c']
      dsimp only
      rw [if_neg (by decide)]
      have take : (∀ j, j < i → Abv X Y x.toInt y.toInt j → ¬ gLess X Y j i) → ∃ r, bestA X Y x.toInt y.toInt n r ∧ f_Pt_leastAbove_40 (f_Pt_leastAbove_5 fuel) x y (nI i) S = some (oI r, S) := by
        intro hall
        unfold f_Pt_leastAbove_40
        refine stay (some i) ⟨by omega, c, fun j hj hA => ?_⟩
        by_cases q : j = i
        · rw [q]; exact fun z => gLess_irr z
        · exact hall j (by omega) hA
      cases o with
      | none =>
        show ∃ r, _ ∧ (if (-1 : Int32) = -1 then _ else _) = _
        rw [if_pos rfl]
        exact take (fun j hj hA => absurd hA (hb j hj))
      | some b =>
        have hbl : b < i := hb.1
        have il := f_isLess h (show i < n by omega) (show b < n by omega)
        show ∃ r, _ ∧ (if nI b = -1 then _ else _) = _
        rw [if_neg (by rw [eq32, nI_toInt (by omega)]; show ¬ (b : Int) = -1; omega)]
        show ∃ r, _ ∧ bd (f_Pt_isLess (nI i) (nI b) S) _ = _
        rw [il, bd_s]
        by_cases c2 : gLess X Y i b
        · rw [b32_t c2]
          dsimp only
          rw [if_neg (by decide)]
          exact take (fun j hj hA => gLess_of_not c2 (hb.2.2 j hj hA))
        · rw [b32_f c2, if_pos rfl]
          refine stay (some b) ⟨by omega, hb.2.1, fun j hj hA => ?_⟩
          by_cases q : j = i
          · rw [q]; exact c2
          · exact hb.2.2 j (by omega) hA
    · have c' : ¬ (x.toInt < X i ∨ (x.toInt = X i ∧ y.toInt < Y i)) := c
      rw [b32_f c', if_pos rfl]
      refine stay o ?_
      cases o with
      | none =>
        intro j hj
        by_cases q : j = i
        · rw [q]; exact c
        · exact hb j (by omega)
      | some b =>
        refine ⟨by have := hb.1; omega, hb.2.1, fun j hj hA => ?_⟩
        by_cases q : j = i
        · rw [q] at hA; exact absurd hA c
        · exact hb.2.2 j (by omega) hA
theorem f_leastAbove (h : PV S n X Y) (hs : gi S 3 = nI n) (x y : Int32) : ∃ r, bestA X Y x.toInt y.toInt n r ∧ f_Pt_leastAbove x y S = some (oI r, S) := by
  have hn := h.2.2.2
  have hF := FU_big
  unfold f_Pt_leastAbove f_Pt_leastAbove_0
  exact leastA_loop h hs x y n FU 0 none (by omega) (by omega) (fun j hj => absurd hj (Nat.not_lt_zero j))
theorem greatB_loop (h : PV S n X Y) (hs : gi S 3 = nI n) (x y : Int32) : ∀ (d fuel i : Nat) (o : Option Nat), i + d = n → d < fuel → bestB X Y x.toInt y.toInt i o → ∃ r, bestB X Y x.toInt y.toInt n r ∧ f_Pt_greatestBelow_5 fuel x y (oI o) (nI i) S = some (oI r, S) := by
  have hn := h.2.2.2
  intro d
  induction d with
  | zero =>
    intro fuel i o hi hf hb
    obtain ⟨fuel, rfl⟩ : ∃ k, fuel = k + 1 := ⟨fuel - 1, by omega⟩
    have : i = n := by omega
    subst this
    exact ⟨o, hb, by rw [f_Pt_greatestBelow_5]; dsimp only; rw [hs, if_pos (Int32.le_refl _)]⟩
  | succ d ih =>
    intro fuel i o hi hf hb
    obtain ⟨fuel, rfl⟩ : ∃ k, fuel = k + 1 := ⟨fuel - 1, by omega⟩
    have ab := f_isBelow h (show i < n by omega) x y
    rw [f_Pt_greatestBelow_5]
    dsimp only
    rw [hs, if_neg (nI_ge (by omega) (by omega)), ab, bd_s]
    have stay : ∀ o', bestB X Y x.toInt y.toInt (i + 1) o' → ∃ r, bestB X Y x.toInt y.toInt n r ∧ f_Pt_greatestBelow_43 (f_Pt_greatestBelow_5 fuel) x y (oI o') (nI i) S = some (oI r, S) := by
      intro o' ho
      unfold f_Pt_greatestBelow_43
      rw [bn_s, nI_1]
      exact ih fuel (i + 1) o' (by omega) (by omega) ho
    by_cases c : Blw X Y x.toInt y.toInt i
    · have c' : X i < x.toInt ∨ (X i = x.toInt ∧ Y i < y.toInt) := c
      rw [b32_t c']
      dsimp only
      rw [if_neg (by decide)]
      have take : (∀ j, j < i → Blw X Y x.toInt y.toInt j → ¬ gLess X Y i j) → ∃ r, bestB X Y x.toInt y.toInt n r ∧ f_Pt_greatestBelow_40 (f_Pt_greatestBelow_5 fuel) x y (nI i) S = some (oI r, S) := by
        intro hall
        unfold f_Pt_greatestBelow_40
        refine stay (some i) ⟨by omega, c, fun j hj hA => ?_⟩
        by_cases q : j = i
        · rw [q]; exact fun z => gLess_irr z
        · exact hall j (by omega) hA
      cases o with
      | none =>
        show ∃ r, _ ∧ (if (-1 : Int32) = -1 then _ else _) = _
        rw [if_pos rfl]
        exact take (fun j hj hA => absurd hA (hb j hj))
      | some b =>
        have hbl : b < i := hb.1
        have il := f_isLess h (show b < n by omega) (show i < n by omega)
        show ∃ r, _ ∧ (if nI b = -1 then _ else _) = _
        rw [if_neg (by rw [eq32, nI_toInt (by omega)]; show ¬ (b : Int) = -1; omega)]
        show ∃ r, _ ∧ bd (f_Pt_isLess (nI b) (nI i) S) _ = _
        rw [il, bd_s]
        by_cases c2 : gLess X Y b i
        · rw [b32_t c2]
          dsimp only
          rw [if_neg (by decide)]
          exact take (fun j hj hA z => hb.2.2 j hj hA (gLess_trans c2 z))
        · rw [b32_f c2, if_pos rfl]
          refine stay (some b) ⟨by omega, hb.2.1, fun j hj hA => ?_⟩
          by_cases q : j = i
          · rw [q]; exact c2
          · exact hb.2.2 j (by omega) hA
    · have c' : ¬ (X i < x.toInt ∨ (X i = x.toInt ∧ Y i < y.toInt)) := c
      rw [b32_f c', if_pos rfl]
      refine stay o ?_
      cases o with
      | none =>
        intro j hj
        by_cases q : j = i
        · rw [q]; exact c
        · exact hb j (by omega)
      | some b =>
        refine ⟨by have := hb.1; omega, hb.2.1, fun j hj hA => ?_⟩
        by_cases q : j = i
        · rw [q] at hA; exact absurd hA c
        · exact hb.2.2 j (by omega) hA
theorem f_greatestBelow (h : PV S n X Y) (hs : gi S 3 = nI n) (x y : Int32) : ∃ r, bestB X Y x.toInt y.toInt n r ∧ f_Pt_greatestBelow x y S = some (oI r, S) := by
  have hn := h.2.2.2
  have hF := FU_big
  unfold f_Pt_greatestBelow f_Pt_greatestBelow_0
  exact greatB_loop h hs x y n FU 0 none (by omega) (by omega) (fun j hj => absurd hj (Nat.not_lt_zero j))
end
