/-! THE REFERENCE'S SIDE, 1: its points -/
def LEN (S : St) : Prop := gn S 1 = 1024 ∧ gn S 2 = 1024 ∧ gn S 3 = 2048 ∧ gn S 4 = 2048 ∧ gn S 5 = 2048 ∧ gn S 6 = 1024 ∧ gn S 7 = 6200 ∧ gn S 8 = 6200 ∧ gn S 9 = 1024 ∧ gn S 10 = 1024 ∧ gn S 11 = 3
def MP (S : St) (n : Nat) (X Y : Nat → Int) : Prop := gi S 2 = nI n ∧ n ≤ 512 ∧ LEN S ∧ ∀ i, i < n → (ga S 1 i).toInt = X i ∧ (ga S 2 i).toInt = Y i ∧ inR X Y i
theorem MP.of {S T : St} {n : Nat} {X Y : Nat → Int} (h : MP S n X Y) (h2 : gi T 2 = gi S 2) (hn : T.2.2.1 = S.2.2.1) (a1 : ga T 1 = ga S 1) (a2 : ga T 2 = ga S 2) : MP T n X Y := by
  refine ⟨by rw [h2]; exact h.1, h.2.1, ?_, by rw [a1, a2]; exact h.2.2.2⟩
  have e : ∀ k, gn T k = gn S k := fun k => by show T.2.2.1 k = S.2.2.1 k; rw [hn]
  unfold LEN
  simp only [e]
  exact h.2.2.1
section
variable {S : St} {n : Nat} {X Y : Nat → Int}
theorem MP.x (h : MP S n X Y) {i : Nat} (hi : i < n) : (ga S 1 (Int32.toNatClampNeg (nI i))).toInt = X i := by
  rw [nI_clampN (by have := h.2.1; omega)]; exact (h.2.2.2 i hi).1
theorem MP.y (h : MP S n X Y) {i : Nat} (hi : i < n) : (ga S 2 (Int32.toNatClampNeg (nI i))).toInt = Y i := by
  rw [nI_clampN (by have := h.2.1; omega)]; exact (h.2.2.2 i hi).2.1
theorem MP.in (h : MP S n X Y) {i : Nat} (hi : i < n) : inR X Y i := (h.2.2.2 i hi).2.2
theorem MP.b1 (h : MP S n X Y) {i : Nat} (hi : i < n) : inb (nI i) (gn S 1) = true := by
  rw [h.2.2.1.1]; exact inb_n (by have := h.2.1; omega) (by omega)
theorem MP.b2 (h : MP S n X Y) {i : Nat} (hi : i < n) : inb (nI i) (gn S 2) = true := by
  rw [h.2.2.1.2.1]; exact inb_n (by have := h.2.1; omega) (by omega)
theorem m_apart (h : MP S n X Y) {a : Nat} (ha : a < n) {x y : Int32} (hxy : inP x.toInt y.toInt) : ∃ r : Int64, f_Md_apart (nI a) x y S = some (r, S) ∧ r.toInt = D2 X Y a x.toInt y.toInt := by
  have px := h.x ha
  have py := h.y ha
  have pi := h.in ha
  unfold f_Md_apart f_Md_apart_0
  rw [h.b1 ha, as_s, bn_s, h.b2 ha, as_s, bn_s]
  refine ⟨_, rfl, ?_⟩
  have d1 := l_sub32 (ga S 1 (Int32.toNatClampNeg (nI a))) x
  have d2 := l_sub32 (ga S 2 (Int32.toNatClampNeg (nI a))) y
  rw [px] at d1
  rw [py] at d2
  unfold inR at pi
  obtain ⟨x1, x2, x3, x4⟩ := hxy
  have b1 := prod_b (u := X a - x.toInt) (v := X a - x.toInt) (B := 2000000000) (by omega) (by omega) (by omega) (by omega)
  have b2 := prod_b (u := Y a - y.toInt) (v := Y a - y.toInt) (B := 2000000000) (by omega) (by omega) (by omega) (by omega)
  have m1 := l_mul (x := Int32.toInt64 (ga S 1 (Int32.toNatClampNeg (nI a))) - Int32.toInt64 x) (y := Int32.toInt64 (ga S 1 (Int32.toNatClampNeg (nI a))) - Int32.toInt64 x) (by rw [d1]; omega) (by rw [d1]; omega)
  have m2 := l_mul (x := Int32.toInt64 (ga S 2 (Int32.toNatClampNeg (nI a))) - Int32.toInt64 y) (y := Int32.toInt64 (ga S 2 (Int32.toNatClampNeg (nI a))) - Int32.toInt64 y) (by rw [d2]; omega) (by rw [d2]; omega)
  rw [d1] at m1
  rw [d2] at m2
  rw [l_add (by rw [m1, m2]; omega) (by rw [m1, m2]; omega), m1, m2]
  rfl
theorem m_within (x a b : Int32) (S : St) : f_Md_within x a b S = some (b32 (a.toInt ≤ x.toInt ∧ x.toInt ≤ b.toInt), S) := by
  unfold f_Md_within f_Md_within_0
  by_cases c : x < a
  · rw [if_pos c, b32_f (by rw [lt32] at c; omega)]
  · rw [if_neg c]
    by_cases d : b < x
    · rw [if_pos d, b32_f (by rw [lt32] at d; omega)]
    · rw [if_neg d, b32_t (by rw [lt32] at c d; omega)]
theorem m_isFar (x y : Int32) (S : St) : f_Md_isFar x y S = some (b32 (¬ inP x.toInt y.toInt), S) := by
  unfold f_Md_isFar f_Md_isFar_0
  rw [m_within, bd_s]
  dsimp only
  have e1 : (-1000000000 : Int32).toInt = -1000000000 := rfl
  have e2 : (1000000000 : Int32).toInt = 1000000000 := rfl
  rw [e1, e2]
  by_cases c : -1000000000 ≤ x.toInt ∧ x.toInt ≤ 1000000000
  · rw [b32_t c, if_neg (by decide), m_within, bd_s, e1, e2]
    dsimp only
    by_cases d : -1000000000 ≤ y.toInt ∧ y.toInt ≤ 1000000000
    · rw [b32_t d, if_neg (by decide), b32_f (by unfold inP; omega)]
    · rw [b32_f d, if_pos rfl]
      unfold f_Md_isFar_22
      rw [b32_t (by unfold inP; omega)]
  · rw [b32_f c, if_pos rfl]
    unfold f_Md_isFar_22
    rw [b32_t (by unfold inP; omega)]
/-- who is at a place -/
def atO (X Y : Nat → Int) (n : Nat) (x y : Int) (o : Option Nat) : Prop := match o with
  | none => ∀ i, i < n → ¬ (X i = x ∧ Y i = y)
  | some b => b < n ∧ X b = x ∧ Y b = y
theorem find_loop (h : MP S n X Y) (hd : ∀ i, i < n → ∀ j, j < n → i ≠ j → dif X Y i j) {x y : Int32} : ∀ (d fuel i : Nat) (o : Option Nat), i + d = n → d < fuel → atO X Y i x.toInt y.toInt o → ∃ r, atO X Y n x.toInt y.toInt r ∧ f_Md_findPoint_5 fuel x y (oI o) (nI i) S = some (oI r, S) := by
  have hn := h.2.1
  intro d
  induction d with
  | zero =>
    intro fuel i o hi hf ho
    obtain ⟨fuel, rfl⟩ : ∃ j, fuel = j + 1 := ⟨fuel - 1, by omega⟩
    have : i = n := by omega
    subst this
    rw [f_Md_findPoint_5]
    dsimp only
    rw [h.1, if_pos (Int32.le_refl _)]
    exact ⟨o, ho, rfl⟩
  | succ d ih =>
    intro fuel i o hi hf ho
    obtain ⟨fuel, rfl⟩ : ∃ j, fuel = j + 1 := ⟨fuel - 1, by omega⟩
    have hin : i < n := by omega
    rw [f_Md_findPoint_5]
    dsimp only
    rw [h.1, if_neg (nI_ge hin (by omega)), h.b1 hin, as_s]
    have no : ¬ (X i = x.toInt ∧ Y i = y.toInt) → atO X Y (i + 1) x.toInt y.toInt o := fun q => by
      cases o with
      | none =>
        intro j hj
        by_cases c : j = i
        · rw [c]; exact q
        · exact ho j (by omega)
      | some b => exact ⟨by have := ho.1; omega, ho.2⟩
    by_cases cx : ga S 1 (Int32.toNatClampNeg (nI i)) = x
    · rw [if_pos cx, h.b2 hin, as_s]
      by_cases cy : ga S 2 (Int32.toNatClampNeg (nI i)) = y
      · rw [if_pos cy]
        unfold f_Md_findPoint_42
        rw [bn_s, nI_1]
        have qx := h.x hin
        have qy := h.y hin
        rw [cx] at qx
        rw [cy] at qy
        exact ih fuel (i + 1) (some i) (by omega) (by omega) ⟨by omega, qx.symm, qy.symm⟩
      · rw [if_neg cy]
        unfold f_Md_findPoint_41 f_Md_findPoint_42
        rw [bn_s, nI_1]
        refine ih fuel (i + 1) o (by omega) (by omega) (no (fun q => cy ?_))
        rw [eq32, h.y hin]; exact q.2
    · rw [if_neg cx]
      unfold f_Md_findPoint_41 f_Md_findPoint_42
      rw [bn_s, nI_1]
      refine ih fuel (i + 1) o (by omega) (by omega) (no (fun q => cx ?_))
      rw [eq32, h.x hin]; exact q.1
theorem m_findPoint (h : MP S n X Y) (hd : ∀ i, i < n → ∀ j, j < n → i ≠ j → dif X Y i j) (x y : Int32) : ∃ r, atO X Y n x.toInt y.toInt r ∧ f_Md_findPoint x y S = some (oI r, S) := by
  unfold f_Md_findPoint f_Md_findPoint_0
  exact find_loop h hd n FU 0 none (by omega) (by have := FU_big; have := h.2.1; omega) (fun i hi => absurd hi (Nat.not_lt_zero i))
theorem m_near_loop (h : MP S n X Y) {x y : Int32} (hxy : inP x.toInt y.toInt) : ∀ (d fuel i b : Nat), i + d = n → d < fuel → isNear X Y i x.toInt y.toInt b → ∃ r, isNear X Y n x.toInt y.toInt r ∧ f_Md_nearest_37 fuel x y (nI b) (nI i) S = some (nI r, S) := by
  have hn := h.2.1
  intro d
  induction d with
  | zero =>
    intro fuel i b hi hf hb
    obtain ⟨fuel, rfl⟩ : ∃ j, fuel = j + 1 := ⟨fuel - 1, by omega⟩
    have : i = n := by omega
    subst this
    rw [f_Md_nearest_37]
    dsimp only
    rw [h.1, if_pos (Int32.le_refl _)]
    exact ⟨b, hb, rfl⟩
  | succ d ih =>
    intro fuel i b hi hf hb
    obtain ⟨fuel, rfl⟩ : ∃ j, fuel = j + 1 := ⟨fuel - 1, by omega⟩
    have hin : i < n := by omega
    have hb1 := hb.1
    rw [f_Md_nearest_37]
    dsimp only
    rw [h.1, if_neg (nI_ge hin (by omega))]
    obtain ⟨r1, p1, p2⟩ := m_apart h hin hxy
    obtain ⟨r2, p3, p4⟩ := m_apart h (a := b) (by omega) hxy
    rw [p1, bd_s]
    dsimp only
    rw [p3, bd_s]
    dsimp only
    by_cases c : 0 ≤ lg_cmp r1 r2
    · rw [if_pos c]
      rw [cmp_nn, p2, p4] at c
      unfold f_Md_nearest_71
      rw [bn_s, nI_1]
      refine ih fuel (i + 1) b (by omega) (by omega) ⟨by omega, fun j hj => ?_⟩
      by_cases q : j = i
      · subst q; exact ⟨c, fun _ => by omega⟩
      · exact hb.2 j (by omega)
    · rw [if_neg c]
      rw [cmp_nn, p2, p4] at c
      unfold f_Md_nearest_71
      rw [bn_s, nI_1]
      refine ih fuel (i + 1) i (by omega) (by omega) ⟨by omega, fun j hj => ?_⟩
      by_cases q : j = i
      · subst q; exact ⟨Int.le_refl _, fun _ => Nat.le_refl _⟩
      · have := (hb.2 j (by omega)).1
        exact ⟨by omega, fun z => by omega⟩
/-- the nearest one is one alone -/
theorem near_one {m a b : Nat} {x y : Int} (ha : isNear X Y m x y a) (hb : isNear X Y m x y b) : a = b := by
  have h1 := ha.2 b hb.1
  have h2 := hb.2 a ha.1
  have := h1.2 (by omega)
  have := h2.2 (by omega)
  omega
theorem closest_one {a b a' b' : Nat} (h : isClosest X Y n a b) (h' : isClosest X Y n a' b') : a = a' ∧ b = b' := by
  have q1 := h.2.2 a' b' h'.1 h'.2.1
  have q2 := h'.2.2 a b h.1 h.2.1
  have := q1.2 (by omega)
  have := q2.2 (by omega)
  omega
end
