/-! THE REFERENCE'S SIDE, 3: sides and corners -/
def sg (z : Int) : Int32 := if 0 < z then 1 else if z < 0 then -1 else 0
theorem sg_pos {z : Int} : 0 < sg z ↔ 0 < z := by
  unfold sg
  split
  · simp_all
  · split
    · constructor
      · intro h; exact absurd h (by decide)
      · intro h; omega
    · constructor
      · intro h; exact absurd h (by decide)
      · intro h; omega
theorem sg_neg {z : Int} : sg z < 0 ↔ z < 0 := by
  unfold sg
  split
  · constructor
    · intro h; exact absurd h (by decide)
    · intro h; omega
  · split
    · simp_all
    · constructor
      · intro h; exact absurd h (by decide)
      · intro h; omega
theorem sg_zero {z : Int} : sg z = 0 ↔ z = 0 := by
  unfold sg
  split
  · constructor
    · intro h; exact absurd h (by decide)
    · intro h; omega
  · split
    · constructor
      · intro h; exact absurd h (by decide)
      · intro h; omega
    · constructor
      · intro h; omega
      · intro h; rfl
theorem sg_le {z : Int} : sg z ≤ 0 ↔ z ≤ 0 := by
  rw [← Int32.not_lt, sg_pos]; omega
theorem m_sign (x : Int64) (S : St) : f_Md_sign x S = some (sg x.toInt, S) := by
  have z : (0 : Int64).toInt = 0 := rfl
  unfold f_Md_sign f_Md_sign_0 sg
  rcases cmp_cases x 0 with ⟨k1, k2⟩ | ⟨k1, k2⟩ | ⟨k1, k2⟩
  · rw [k2, if_pos (by decide), if_neg (by decide)]
    rw [z] at k1
    rw [if_neg (by omega), if_pos k1]
  · rw [k2, if_pos (by decide), if_pos (by decide)]
    rw [z] at k1
    rw [if_neg (by omega), if_neg (by omega)]
  · rw [k2, if_neg (by decide)]
    rw [z] at k1
    rw [if_pos k1]
theorem cross_b {x0 x2 x4 x6 : Int64} (h0 : -2000000000 ≤ x0.toInt ∧ x0.toInt ≤ 2000000000) (h2 : -2000000000 ≤ x2.toInt ∧ x2.toInt ≤ 2000000000) (h4 : -2000000000 ≤ x4.toInt ∧ x4.toInt ≤ 2000000000) (h6 : -2000000000 ≤ x6.toInt ∧ x6.toInt ≤ 2000000000) : (x0 * x6 - x2 * x4).toInt = x0.toInt * x6.toInt - x2.toInt * x4.toInt := by
  have b1 := prod_b (u := x0.toInt) (v := x6.toInt) (B := 2000000000) h0.1 h0.2 h6.1 h6.2
  have b2 := prod_b (u := x2.toInt) (v := x4.toInt) (B := 2000000000) h2.1 h2.2 h4.1 h4.2
  have m1 := l_mul (x := x0) (y := x6) (by omega) (by omega)
  have m2 := l_mul (x := x2) (y := x4) (by omega) (by omega)
  rw [l_sub (by rw [m1, m2]; omega) (by rw [m1, m2]; omega), m1, m2]
theorem gO_sw23 (X Y : Nat → Int) (a b c : Nat) : gO X Y a b c = - gO X Y a c b := by unfold gO; grind
section
variable {S : St} {n : Nat} {X Y : Nat → Int}
theorem m_side (h : MP S n X Y) {a b : Nat} (ha : a < n) (hb : b < n) {x y : Int32} (hxy : inP x.toInt y.toInt) : f_Md_side (nI a) (nI b) x y S = some (sg (tz (X a) (Y a) (X b) (Y b) x.toInt y.toInt), S) := by
  have ia := h.in ha
  have ib := h.in hb
  unfold inR at ia ib
  obtain ⟨p1, p2, p3, p4⟩ := hxy
  have d1 := l_sub32 (ga S 1 (Int32.toNatClampNeg (nI b))) (ga S 1 (Int32.toNatClampNeg (nI a)))
  have d2 := l_sub32 (ga S 2 (Int32.toNatClampNeg (nI b))) (ga S 2 (Int32.toNatClampNeg (nI a)))
  have d3 := l_sub32 x (ga S 1 (Int32.toNatClampNeg (nI a)))
  have d4 := l_sub32 y (ga S 2 (Int32.toNatClampNeg (nI a)))
  rw [h.x ha, h.x hb] at d1
  rw [h.y ha, h.y hb] at d2
  rw [h.x ha] at d3
  rw [h.y ha] at d4
  unfold f_Md_side f_Md_side_0 f_Md_cross f_Md_cross_0
  rw [h.b1 hb, as_s, h.b1 ha, as_s, h.b2 hb, as_s, h.b2 ha, as_s, as_s, as_s, bd_s]
  dsimp only
  rw [m_sign, bd_s]
  dsimp only
  rw [cross_b (by rw [d1]; omega) (by rw [d2]; omega) (by rw [d3]; omega) (by rw [d4]; omega), d1, d2, d3, d4]
  rfl
theorem MP.inP (h : MP S n X Y) {i : Nat} (hi : i < n) : inP (ga S 1 (Int32.toNatClampNeg (nI i))).toInt (ga S 2 (Int32.toNatClampNeg (nI i))).toInt := by
  rw [h.x hi, h.y hi]; exact h.in hi
theorem m_sideOf (h : MP S n X Y) {a b c : Nat} (ha : a < n) (hb : b < n) (hc : c < n) : f_Md_sideOf (nI a) (nI b) (nI c) S = some (sg (gO X Y a b c), S) := by
  unfold f_Md_sideOf f_Md_sideOf_0
  rw [h.b1 hc, as_s, h.b2 hc, as_s, m_side h ha hb (h.inP hc), bd_s, h.x hc, h.y hc]
  rfl
theorem m_isLess (h : MP S n X Y) {a b : Nat} (ha : a < n) (hb : b < n) : f_Md_isLess (nI a) (nI b) S = some (b32 (gLess X Y a b), S) := by
  unfold f_Md_isLess f_Md_isLess_0 f_Md_isLess_45
  rw [h.b1 ha, as_s, h.b1 hb, as_s]
  have lx : ga S 1 (Int32.toNatClampNeg (nI a)) < ga S 1 (Int32.toNatClampNeg (nI b)) ↔ X a < X b := by rw [lt32, h.x ha, h.x hb]
  have ex : ga S 1 (Int32.toNatClampNeg (nI a)) = ga S 1 (Int32.toNatClampNeg (nI b)) ↔ X a = X b := by rw [eq32, h.x ha, h.x hb]
  have ly : ga S 2 (Int32.toNatClampNeg (nI b)) ≤ ga S 2 (Int32.toNatClampNeg (nI a)) ↔ Y b ≤ Y a := by rw [le32, h.y ha, h.y hb]
  by_cases c : X a < X b
  · rw [if_pos (lx.mpr c), b32_t (show gLess X Y a b from Or.inl c)]
  · rw [if_neg (fun q => c (lx.mp q)), as_s, as_s]
    by_cases d : X a = X b
    · rw [if_pos (ex.mpr d), h.b2 ha, as_s, h.b2 hb, as_s]
      by_cases e : Y b ≤ Y a
      · rw [if_pos (ly.mpr e), b32_f (by unfold gLess; omega)]
      · rw [if_neg (fun q => e (ly.mp q)), b32_t (by unfold gLess; omega)]
    · rw [if_neg (fun q => d (ex.mp q)), b32_f (by unfold gLess; omega)]
theorem m_least_loop (h : MP S n X Y) (hd : ∀ i, i < n → ∀ j, j < n → i ≠ j → dif X Y i j) : ∀ (d fuel i b : Nat), i + d = n → d < fuel → leastP X Y i b → ∃ r, leastP X Y n r ∧ f_Md_least_4 fuel (nI b) (nI i) S = some (nI r, S) := by
  have hn := h.2.1
  intro d
  induction d with
  | zero =>
    intro fuel i b hi hf hb
    obtain ⟨fuel, rfl⟩ : ∃ j, fuel = j + 1 := ⟨fuel - 1, by omega⟩
    have : i = n := by omega
    subst this
    rw [f_Md_least_4]
    dsimp only
    rw [h.1, if_pos (Int32.le_refl _)]
    exact ⟨b, hb, rfl⟩
  | succ d ih =>
    intro fuel i b hi hf hb
    obtain ⟨fuel, rfl⟩ : ∃ j, fuel = j + 1 := ⟨fuel - 1, by omega⟩
    have hin : i < n := by omega
    have b1 := hb.1
    rw [f_Md_least_4]
    dsimp only
    rw [h.1, if_neg (nI_ge hin (by omega)), m_isLess h hin (by omega), bd_s]
    dsimp only
    by_cases c : gLess X Y i b
    · rw [b32_t c, if_neg (by decide)]
      unfold f_Md_least_26
      rw [bn_s, nI_1]
      refine ih fuel (i + 1) i (by omega) (by omega) ⟨by omega, fun k hk hki => ?_⟩
      by_cases q : k = b
      · rw [q]; exact c
      · exact gLess_trans c (hb.2 k (by omega) q)
    · rw [b32_f c, if_pos rfl]
      unfold f_Md_least_26
      rw [bn_s, nI_1]
      refine ih fuel (i + 1) b (by omega) (by omega) ⟨by omega, fun k hk hkb => ?_⟩
      by_cases q : k = i
      · subst q
        have := hd k hin b (by omega) hkb
        unfold dif at this
        unfold gLess at c ⊢
        omega
      · exact hb.2 k (by omega) hkb
theorem m_least (h : MP S n X Y) (hd : ∀ i, i < n → ∀ j, j < n → i ≠ j → dif X Y i j) (h0 : 0 < n) : ∃ r, leastP X Y n r ∧ f_Md_least S = some (nI r, S) := by
  unfold f_Md_least f_Md_least_0
  exact m_least_loop h hd (n - 1) FU 1 0 (by omega) (by have := FU_big; have := h.2.1; omega) ⟨by omega, fun k hk q => by omega⟩
theorem m_behind_loop (h : MP S n X Y) {a b : Nat} (ha : a < n) (hb : nextC X Y n a b) : ∀ (d fuel i t : Nat), i + d = n → d < fuel → t < n → t ≠ a → (t = b ∨ i ≤ b) → f_Md_cornerBehind_20 fuel (nI a) (nI t) (nI i) S = some (nI b, S) := by
  have hn := h.2.1
  obtain ⟨b1, b2, b3⟩ := hb
  intro d
  induction d with
  | zero =>
    intro fuel i t hi hf ht hta hor
    obtain ⟨fuel, rfl⟩ : ∃ j, fuel = j + 1 := ⟨fuel - 1, by omega⟩
    have : i = n := by omega
    subst this
    rw [f_Md_cornerBehind_20]
    dsimp only
    rw [h.1, if_pos (Int32.le_refl _), show t = b by omega]
  | succ d ih =>
    intro fuel i t hi hf ht hta hor
    obtain ⟨fuel, rfl⟩ : ∃ j, fuel = j + 1 := ⟨fuel - 1, by omega⟩
    have hin : i < n := by omega
    rw [f_Md_cornerBehind_20]
    dsimp only
    rw [h.1, if_neg (nI_ge hin (by omega))]
    have stay : (t = b ∨ i + 1 ≤ b) → f_Md_cornerBehind_97 (f_Md_cornerBehind_20 fuel) (nI a) (nI t) (nI i) S = some (nI b, S) := fun q => by
      unfold f_Md_cornerBehind_97
      rw [bn_s, nI_1]
      exact ih fuel (i + 1) t (by omega) (by omega) ht hta q
    have take : i ≠ a → (i = b ∨ i + 1 ≤ b) → f_Md_cornerBehind_95 (f_Md_cornerBehind_20 fuel) (nI a) (nI i) S = some (nI b, S) := fun q0 q => by
      unfold f_Md_cornerBehind_95 f_Md_cornerBehind_97
      rw [bn_s, nI_1]
      exact ih fuel (i + 1) i (by omega) (by omega) hin q0 q
    by_cases ca : i = a
    · rw [if_pos (by rw [ca])]
      exact stay (by omega)
    · rw [if_neg (fun q => ca ((nI_eq (by omega) (by omega)).mp q))]
      by_cases ct : i = t
      · rw [if_pos (by rw [ct])]
        exact stay (by omega)
      · rw [if_neg (fun q => ct ((nI_eq (by omega) (by omega)).mp q)), m_sideOf h ha ht hin, bd_s]
        dsimp only
        have sn : sg (gO X Y a t i) < 0 ↔ gO X Y a t i < 0 := sg_neg
        obtain ⟨r1, p1, p2⟩ := m_apartP h ha hin
        obtain ⟨r2, p3, p4⟩ := m_apartP h ha ht
        have cz : (0 : Int64).toInt = 0 := rfl
        by_cases c1 : gO X Y a t i < 0
        · rw [if_pos (sn.mpr c1)]
          refine take ca ?_
          rcases hor with q | q
          · exfalso
            subst q
            rcases b3 i hin ca ct with z | z <;> omega
          · omega
        · rw [if_neg (fun q => c1 (sn.mp q))]
          by_cases c2 : gO X Y a t i = 0
          · rw [if_pos (sg_zero.mpr c2), h.b1 hin, as_s, h.b2 hin, as_s, p1, bd_s]
            dsimp only
            rw [h.b1 ht, as_s, h.b2 ht, as_s, p3, bd_s]
            dsimp only
            rcases cmp_cases r1 r2 with ⟨k1, k2⟩ | ⟨k1, k2⟩ | ⟨k1, k2⟩
            · rw [k2, if_pos (by decide)]
              refine stay ?_
              rcases hor with q | q
              · exact Or.inl q
              · right
                by_cases e : i = b
                · exfalso
                  subst e
                  rw [p2, p4] at k1
                  rcases b3 t ht hta (fun q => ct q.symm) with z | z
                  · rw [gO_sw23] at z; omega
                  · omega
                · omega
            · rw [k2, if_pos (by decide)]
              refine stay ?_
              rcases hor with q | q
              · exact Or.inl q
              · right
                by_cases e : i = b
                · exfalso
                  subst e
                  rw [p2, p4] at k1
                  rcases b3 t ht hta (fun q => ct q.symm) with z | z
                  · rw [gO_sw23] at z; omega
                  · omega
                · omega
            · rw [k2, if_neg (by decide)]
              refine take ca ?_
              rcases hor with q | q
              · exfalso
                subst q
                rw [p2, p4] at k1
                rcases b3 i hin ca ct with z | z <;> omega
              · omega
          · rw [if_neg (fun q => c2 (sg_zero.mp q))]
            refine stay ?_
            rcases hor with q | q
            · exact Or.inl q
            · right
              by_cases e : i = b
              · exfalso
                subst e
                rcases b3 t ht hta (fun q => ct q.symm) with z | z
                · rw [gO_sw23] at z; omega
                · rw [gO_sw23] at z; omega
              · omega
theorem m_behind (h : MP S n X Y) {a b : Nat} (ha : a < n) (hb : nextC X Y n a b) : f_Md_cornerBehind (nI a) S = some (nI b, S) := by
  have hF := FU_big
  have hn := h.2.1
  have h2 : 2 ≤ n := by have := hb.1; have := hb.2.1; omega
  unfold f_Md_cornerBehind f_Md_cornerBehind_0 f_Md_cornerBehind_16 f_Md_cornerBehind_17
  by_cases c : a = 0
  · subst c
    rw [if_pos (show nI 0 = 0 from rfl), h.1, if_neg (show ¬ nI n ≤ 1 from (show ¬ nI n ≤ nI 1 from nI_ge (by omega) (by omega)))]
    exact m_behind_loop h ha hb n FU 0 1 (by omega) (by omega) (by omega) (by omega) (Or.inr (by omega))
  · rw [if_neg (show ¬ nI a = 0 from fun q => c ((nI_eq (a := a) (b := 0) (by omega) (by omega)).mp q))]
    exact m_behind_loop h ha hb n FU 0 0 (by omega) (by omega) (by omega) (by omega) (Or.inr (by omega))
end
