/-! THE REFERENCE'S SIDE, 2: the closest two -/
section
variable {S : St} {n : Nat} {X Y : Nat → Int}
theorem m_apartP (h : MP S n X Y) {a b : Nat} (ha : a < n) (hb : b < n) : ∃ r : Int64, f_Md_apart (nI a) (ga S 1 (Int32.toNatClampNeg (nI b))) (ga S 2 (Int32.toNatClampNeg (nI b))) S = some (r, S) ∧ r.toInt = D2 X Y a (X b) (Y b) := by
  have q := m_apart h ha (x := ga S 1 (Int32.toNatClampNeg (nI b))) (y := ga S 2 (Int32.toNatClampNeg (nI b))) (by rw [h.x hb, h.y hb]; exact h.in hb)
  rw [h.x hb, h.y hb] at q
  exact q
/-- the pair a, b is the closest of those before i, j -/
def clB (X Y : Nat → Int) (n i j a b : Nat) : Prop := a < b ∧ b < n ∧ ∀ u v, u < v → v < n → (u < i ∨ (u = i ∧ v < j)) → D2 X Y a (X b) (Y b) ≤ D2 X Y u (X v) (Y v) ∧ (D2 X Y u (X v) (Y v) = D2 X Y a (X b) (Y b) → a < u ∨ (a = u ∧ b ≤ v))
theorem m_cl_inner (h : MP S n X Y) (k43 : Int32 → Int32 → Int32 → Int32 → St → Option (Int64 × St)) (x : Int32) : ∀ (d fuel i j a b : Nat), j + d = n → d < fuel → i < n → i < j → clB X Y n i j a b → (a < i ∨ (a = i ∧ b < j) ∨ (a = 0 ∧ b = 1)) → ∃ a' b', clB X Y n (i + 1) 0 a' b' ∧ (a' < i + 1 ∨ (a' = 0 ∧ b' = 1)) ∧ f_Md_closest_58 k43 fuel x (nI a) (nI b) (nI i) (nI j) S = k43 x (nI a') (nI b') (nI (i + 1)) S := by
  have hn := h.2.1
  intro d
  induction d with
  | zero =>
    intro fuel i j a b hj hf hi hij hc hab
    obtain ⟨fuel, rfl⟩ : ∃ j, fuel = j + 1 := ⟨fuel - 1, by omega⟩
    have : j = n := by omega
    subst this
    rw [f_Md_closest_58]
    dsimp only
    rw [h.1, if_pos (Int32.le_refl _), bn_s, nI_1]
    exact ⟨a, b, ⟨hc.1, hc.2.1, fun u v p q r => hc.2.2 u v p q (by omega)⟩, by omega, rfl⟩
  | succ d ih =>
    intro fuel i j a b hj hf hi hij hc hab
    obtain ⟨fuel, rfl⟩ : ∃ j, fuel = j + 1 := ⟨fuel - 1, by omega⟩
    have hjn : j < n := by omega
    have hc1 := hc.1
    have hc2 := hc.2.1
    obtain ⟨r1, p1, p2⟩ := m_apartP h hi hjn
    obtain ⟨r2, p3, p4⟩ := m_apartP h (a := a) (b := b) (by omega) hc2
    rw [f_Md_closest_58]
    dsimp only
    rw [h.1, if_neg (nI_ge hjn (by omega)), h.b1 hjn, as_s, h.b2 hjn, as_s, p1, bd_s]
    dsimp only
    rw [h.b1 hc2, as_s, h.b2 hc2, as_s, p3, bd_s]
    dsimp only
    by_cases c : 0 ≤ lg_cmp r1 r2
    · rw [if_pos c]
      rw [cmp_nn, p2, p4] at c
      unfold f_Md_closest_114
      rw [bn_s, nI_1]
      refine ih fuel i (j + 1) a b (by omega) (by omega) hi (by omega) ⟨hc1, hc2, fun u v p q r => ?_⟩ (by omega)
      by_cases z : u = i ∧ v = j
      · rw [z.1, z.2]
        exact ⟨c, fun _ => by omega⟩
      · exact hc.2.2 u v p q (by omega)
    · rw [if_neg c]
      rw [cmp_nn, p2, p4] at c
      unfold f_Md_closest_114
      rw [bn_s, nI_1]
      refine ih fuel i (j + 1) i j (by omega) (by omega) hi (by omega) ⟨hij, hjn, fun u v p q r => ?_⟩ (by omega)
      by_cases z : u = i ∧ v = j
      · rw [z.1, z.2]
        exact ⟨Int.le_refl _, fun _ => Or.inr ⟨rfl, Nat.le_refl _⟩⟩
      · have := (hc.2.2 u v p q (by omega)).1
        exact ⟨by omega, fun w => by omega⟩
theorem m_cl_outer (h : MP S n X Y) (x : Int32) : ∀ (d fuel i a b : Nat), i + d = n → d < fuel → clB X Y n i 0 a b → (a < i ∨ (a = 0 ∧ b = 1)) → ∃ a' b', isClosest X Y n a' b' ∧ ∃ r : Int64, f_Md_closest_43 fuel x (nI a) (nI b) (nI i) S = some (r, S) ∧ (x = 0 → r.toInt = D2 X Y a' (X b') (Y b')) ∧ (x ≠ 0 → x = 1 → r = Int32.toInt64 (nI a')) ∧ (x ≠ 0 → x ≠ 1 → r = Int32.toInt64 (nI b')) := by
  have hn := h.2.1
  have hF := FU_big
  intro d
  induction d with
  | zero =>
    intro fuel i a b hi hf hc hab
    obtain ⟨fuel, rfl⟩ : ∃ j, fuel = j + 1 := ⟨fuel - 1, by omega⟩
    have : i = n := by omega
    subst this
    have hc1 := hc.1
    have hc2 := hc.2.1
    rw [f_Md_closest_43]
    dsimp only
    rw [h.1, if_pos (Int32.le_refl _)]
    refine ⟨a, b, ⟨hc1, hc2, fun u v p q => hc.2.2 u v p q (by omega)⟩, ?_⟩
    by_cases x0 : x = 0
    · rw [if_pos x0, h.b1 hc2, as_s, h.b2 hc2, as_s]
      obtain ⟨r2, p3, p4⟩ := m_apartP h (a := a) (b := b) (by omega) hc2
      rw [p3, bd_s]
      exact ⟨r2, rfl, fun _ => p4, fun q => absurd x0 q, fun q => absurd x0 q⟩
    · rw [if_neg x0]
      by_cases x1 : x = 1
      · rw [if_pos x1]
        exact ⟨_, rfl, fun q => absurd q x0, fun _ _ => rfl, fun _ q => absurd x1 q⟩
      · rw [if_neg x1]
        exact ⟨_, rfl, fun q => absurd q x0, fun _ q => absurd q x1, fun _ _ => rfl⟩
  | succ d ih =>
    intro fuel i a b hi hf hc hab
    obtain ⟨fuel, rfl⟩ : ∃ j, fuel = j + 1 := ⟨fuel - 1, by omega⟩
    have hin : i < n := by omega
    rw [f_Md_closest_43]
    dsimp only
    rw [h.1, if_neg (nI_ge hin (by omega)), bn_s, nI_1]
    obtain ⟨a', b', q1, q2, q3⟩ := m_cl_inner h (f_Md_closest_43 fuel) x (n - (i + 1)) FU i (i + 1) a b (by omega) (by omega) hin (by omega) ⟨hc.1, hc.2.1, fun u v p q r => hc.2.2 u v p q (by omega)⟩ (by omega)
    rw [q3]
    exact ih fuel (i + 1) a' b' (by omega) (by omega) q1 (by omega)
end
/-! what both sides remember -/
def lex3 (a b : Nat × Nat × Nat) : Prop := a.1 < b.1 ∨ (a.1 = b.1 ∧ (a.2.1 < b.2.1 ∨ (a.2.1 = b.2.1 ∧ a.2.2 < b.2.2)))
/-- the triangles in their order -/
def TRI (X Y : Nat → Int) (n : Nat) (L : List (Nat × Nat × Nat)) : Prop := L.Pairwise lex3 ∧ ∀ t, t ∈ L ↔ solid X Y (List.range n) t.1 t.2.1 t.2.2 ∧ t.1 < t.2.1 ∧ t.1 < t.2.2
/-- b is the corner behind a -/
def nextC (X Y : Nat → Int) (n a b : Nat) : Prop := b < n ∧ b ≠ a ∧ ∀ k, k < n → k ≠ a → k ≠ b → 0 < gO X Y a b k ∨ (gO X Y a b k = 0 ∧ D2 X Y a (X k) (Y k) < D2 X Y a (X b) (Y b))
/-- the least point -/
def leastP (X Y : Nat → Int) (n a : Nat) : Prop := a < n ∧ ∀ k, k < n → k ≠ a → gLess X Y a k
/-- the corners in their order -/
def CORN (X Y : Nat → Int) (n : Nat) (C : List Nat) : Prop := (n = 0 ∧ C = []) ∨ (0 < n ∧ 0 < C.length ∧ leastP X Y n (C.getD 0 0) ∧ (∀ i, i + 1 < C.length → nextC X Y n (C.getD i 0) (C.getD (i + 1) 0) ∧ C.getD (i + 1) 0 ≠ C.getD 0 0) ∧ (n = 1 ∨ nextC X Y n (C.getD (C.length - 1) 0) (C.getD 0 0)))
/-- the class's roll -/
def RO (S : St) (X Y : Nat → Int) (n : Nat) : Prop := gi S 10 = 0 ∨ (gi S 10 = 1 ∧ ∃ L, TRI X Y n L ∧ L.length ≤ 2 * n ∧ ∀ k (h : k < L.length), ∃ e, e < 6 * n ∧ ga S 14 k = nI e ∧ ga S 8 e = nI L[k].1 ∧ ga S 8 (nx e) = nI L[k].2.1 ∧ ga S 8 (nx (nx e)) = nI L[k].2.2)
/-- the class's outline -/
def OLC (S : St) (X Y : Nat → Int) (n : Nat) : Prop := gi S 12 = 0 ∨ (gi S 12 = 1 ∧ ∃ C, CORN X Y n C ∧ gi S 11 = nI C.length ∧ C.length ≤ n ∧ ∀ k (h : k < C.length), ga S 17 k = nI C[k])
/-- what the reference knows -/
def KN (S : St) (X Y : Nat → Int) (n : Nat) : Prop := gi S 3 = 0 ∨ (gi S 3 = 1 ∧ ∃ L C, TRI X Y n L ∧ CORN X Y n C ∧ L.length ≤ 2048 ∧ C.length ≤ 1024 ∧ gi S 4 = nI L.length ∧ gi S 5 = nI C.length ∧ (∀ k (h : k < L.length), ga S 3 k = nI L[k].1 ∧ ga S 4 k = nI L[k].2.1 ∧ ga S 5 k = nI L[k].2.2) ∧ ∀ k (h : k < C.length), ga S 6 k = nI C[k])
def MS (S : St) (X Y : Nat → Int) (G n : Nat) : Prop := MP S n X Y ∧ gi S 1 = nI G ∧ KN S X Y n
def Inv : Rel := fun stp Sc Sm => ∃ X Y G n, CS Sc X Y G n stp ∧ stp ≤ 512 ∧ RO Sc X Y n ∧ OLC Sc X Y n ∧ MS Sm X Y G n ∧ ∀ i, i < 3 → ga Sc 30 i = ga Sm 11 i
theorem KN.of {S T : St} {X Y : Nat → Int} {n : Nat} (h : KN S X Y n) (hi : ∀ k, 3 ≤ k → k ≤ 5 → gi T k = gi S k) (ha : ∀ k, 3 ≤ k → k ≤ 6 → ga T k = ga S k) : KN T X Y n := by
  unfold KN at *
  rw [hi 3 (by decide) (by decide), hi 4 (by decide) (by decide), hi 5 (by decide) (by decide), ha 3 (by decide) (by decide), ha 4 (by decide) (by decide), ha 5 (by decide) (by decide), ha 6 (by decide) (by decide)]
  exact h
theorem MS.th {S : St} {X Y : Nat → Int} {G n : Nat} (h : MS S X Y G n) (v : Int32) : MS (seti S 0 v) X Y G n := by
  refine ⟨h.1.of (gi_seti_ne _ _ (by decide)) rfl rfl rfl, by rw [gi_seti_ne _ _ (by decide)]; exact h.2.1, h.2.2.of (fun k a b => gi_seti_ne _ _ (by omega)) (fun k a b => rfl)⟩
