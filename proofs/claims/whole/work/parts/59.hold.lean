/-! THE WALK to a place -/
/-- where the walk ends -/
def HoldR (X Y : Nat → Int) (G m : Nat) (s : Nat → Nat) (p e : Nat) : Prop :=
  (sol G s (e / 3) = true ∧ ∀ g, g < 3 * m → g / 3 = e / 3 → 0 ≤ gO X Y (s g) (s (nx g)) p) ∨ (sol G s (e / 3) = false ∧ ∃ g, g < 3 * m ∧ g / 3 = e / 3 ∧ s g ≠ G ∧ s (nx g) ≠ G ∧ 0 < gO X Y (s g) (s (nx g)) p)
section
variable {S : St} {m G n N : Nat} {s tw : Nat → Nat} {X Y : Nat → Int} {P : List Nat}
theorem sol_lt (hD : NetD X Y G P m s tw) (hPn : ∀ i ∈ P, i < n) {e : Nat} (he : e < 3 * m) (hs : sol G s (e / 3) = true) : ∀ g, g < 3 * m → g / 3 = e / 3 → s g < n := by
  intro g hg hge
  have r := hD.solid hg (by rw [hge]; exact hs)
  exact hPn _ r.1
theorem hold_loop (h : NV S m G s tw) (hP : PV S n X Y) (hL : PtsL X Y N G P) (hPn : ∀ i ∈ P, i < n) (hD : NetD X Y G P m s tw) {p : Nat} {x y : Int32} (hxy : inP x.toInt y.toInt) (hx : x.toInt = X p) (hy : y.toInt = Y p) : ∀ (fuel j e : Nat), e < 3 * m → m < j + fuel → j ≤ m → ((sol G s (e / 3) = true ∧ far X Y N G m s (rvz X Y (gZ X Y N) p) (e / 3) + j < m) ∨ (sol G s (e / 3) = false ∧ HoldR X Y G m s p e)) → ∃ e', e' < 3 * m ∧ HoldR X Y G m s p e' ∧ f_Nt_holder_41 fuel x y (nI e) (nI j) S = some (nI e', S) := by
  have hm := h.2.2.2.1
  intro fuel
  induction fuel with
  | zero => intro j e he hf hj; omega
  | succ fuel ih =>
    intro j e he hf hj hc
    rw [f_Nt_holder_41]
    dsimp only
    rw [h.2.1]
    rcases hc with ⟨hs, hfar⟩ | ⟨hs, hr⟩
    · rw [if_neg (nI_ge (by omega) (by omega)), f_isOuter h he, bd_s]
      dsimp only
      rw [b32_f (by rw [hs]; decide), if_pos rfl]
      have hin := sol_lt hD hPn he hs
      rcases f_wayOut h hP he hin hxy hx hy with ⟨g, g1, g2, g3, g4⟩ | ⟨g3, g4⟩
      · rw [g4, bd_s]
        dsimp only
        have gs := h.small g1
        rw [if_neg (by rw [eq32, nI_toInt (by omega)]; show ¬ (g : Int) = -1; omega), h.tw' g1, bd_s, bn_s, nI_1]
        dsimp only
        have w := hD.1 g g1
        refine ih (j + 1) (tw g) w.1 (by omega) (by omega) ?_
        cases hs' : sol G s (tw g / 3) with
        | true =>
          left
          refine ⟨rfl, ?_⟩
          have hsg : sol G s (g / 3) = true := by rw [g2]; exact hs
          have near := step_near (N := N) (q := rvz X Y (gZ X Y N) p) hL hD g1 hsg hs' (by rw [up_O]; omega)
          have := far_lt (N := N) hD (div3 g1) (div3 w.1) hsg hs' near
          rw [g2] at this
          omega
        | false =>
          right
          refine ⟨rfl, Or.inr ⟨hs', tw g, w.1, rfl, ?_, ?_, ?_⟩⟩
          · rw [w.2.2.1]
            have r := hD.solid g1 (by rw [g2]; exact hs)
            exact (hL.1 _ r.2.1).2.2
          · rw [w.2.2.2]
            have r := hD.solid g1 (by rw [g2]; exact hs)
            exact (hL.1 _ r.1).2.2
          · rw [w.2.2.1, w.2.2.2, gO_swap]
            omega
      · rw [g4, bd_s]
        dsimp only
        rw [if_pos rfl]
        exact ⟨e, he, Or.inl ⟨hs, g3⟩, rfl⟩
    · refine ⟨e, he, hr, ?_⟩
      by_cases c : nI m ≤ nI j
      · rw [if_pos c]
      · rw [if_neg c, f_isOuter h he, bd_s]
        dsimp only
        rw [b32_t hs, if_neg (by decide)]
/-- the other side of an outer edge is a triangle -/
theorem base_solid (hL : PtsL X Y N G P) (hD : NetD X Y G P m s tw) {e : Nat} (he : e < 3 * m) (h1 : s e ≠ G) (h2 : s (nx e) ≠ G) (ho : sol G s (e / 3) = false) : sol G s (tw e / 3) = true := by
  have w := hD.1 e he
  have o1 := NetD.outer hL hD he h1 h2 ho
  cases hs : sol G s (tw e / 3) with
  | true => rfl
  | false =>
    exfalso
    have o2 := NetD.outer hL hD w.1 (by rw [w.2.2.1]; exact h2) (by rw [w.2.2.2]; exact h1) hs
    rw [w.2.2.1, w.2.2.2] at o2
    have hne := o1.2.2.2.1
    obtain ⟨i, hi, hi2⟩ := off_line (hL.2.1 _ o1.2.1 _ o1.2.2.1 hne) hL.2.2.2
    have n1 : i ≠ s e := fun q => hi2 (by rw [q]; unfold gO; simp)
    have n2 : i ≠ s (nx e) := fun q => hi2 (by rw [q]; unfold gO; rw [Int.mul_comm]; omega)
    have a1 : ¬ 0 < gO X Y (s e) (s (nx e)) i := fun z => o1.2.2.2.2 i hi n1 n2 (Or.inl z)
    have a2 : ¬ 0 < gO X Y (s (nx e)) (s e) i := fun z => o2.2.2.2.2 i hi n2 n1 (Or.inl z)
    rw [gO_swap] at a2
    omega
/-- the edges that leave the points -/
def LV (S : St) (G n m : Nat) (s : Nat → Nat) (P : List Nat) (lv : Nat → Nat) : Prop := Cap S 10 (n + 1) ∧ (∀ v ∈ P, ga S 10 (v + 1) = nI (lv v) ∧ lv v < 3 * m ∧ s (lv v) = v) ∧ ga S 10 0 = nI (lv G) ∧ lv G < 3 * m ∧ s (lv G) = G
theorem f_placeOf (h : NV S m G s tw) {v : Nat} (hv : v ≤ 1024) (hne : v ≠ G) : f_Nt_placeOf (nI v) S = some (nI (v + 1), S) := by
  have hG := h.2.2.1
  unfold f_Nt_placeOf f_Nt_placeOf_0
  rw [h.1, if_neg (fun q => hne ((nI_eq (by omega) (by omega)).mp q)), nI_1]
theorem f_placeG (h : NV S m G s tw) : f_Nt_placeOf (nI G) S = some (0, S) := by
  unfold f_Nt_placeOf f_Nt_placeOf_0
  rw [h.1, if_pos rfl]
theorem ghost_one (hL : PtsL X Y N G P) (hD : NetD X Y G P m s tw) : ∀ g, g < 3 * m → s g = G → s (nx g) ≠ G ∧ s (nx (nx g)) ≠ G := by
  intro g hg h
  rcases hD.2.1 g hg with r | ⟨-, r⟩ | ⟨-, r⟩ | ⟨-, r⟩
  · exact absurd h (hL.1 _ r.1).2.2
  · exact absurd h (hL.1 _ r.1).2.2
  · exact ⟨(hL.1 _ r.1).2.2, (hL.1 _ r.2.1).2.2⟩
  · exact absurd h (hL.1 _ r.2.1).2.2
theorem f_holder (h : NV S m G s tw) (hP : PV S n X Y) (hL : PtsL X Y N G P) (hPn : ∀ i ∈ P, i < n) (hD : NetD X Y G P m s tw) {lv : Nat → Nat} (hlv : LV S G n m s P lv) {p near : Nat} (hnear : near ∈ P) {x y : Int32} (hxy : inP x.toInt y.toInt) (hx : x.toInt = X p) (hy : y.toInt = Y p) : ∃ e, e < 3 * m ∧ HoldR X Y G m s p e ∧ f_Nt_holder (nI near) x y S = some (nI e, S) := by
  have hF := FU_big
  have hm := h.2.2.2.1
  have hn := hP.2.2.2
  have nn := hPn near hnear
  obtain ⟨l1, l2, l3⟩ := hlv.2.1 near hnear
  unfold f_Nt_holder f_Nt_holder_0
  rw [f_placeOf h (by omega) (hL.1 _ hnear).2.2, bd_s]
  dsimp only
  rw [get_ok hlv.1 (by omega), bd_s]
  dsimp only
  rw [l1, f_isOuter h l2, bd_s]
  dsimp only
  have go : ∀ e, e < 3 * m → sol G s (e / 3) = true → ∃ e', e' < 3 * m ∧ HoldR X Y G m s p e' ∧ f_Nt_holder_38 x y (nI e) S = some (nI e', S) := by
    intro e he hs
    unfold f_Nt_holder_38
    have hfar := far_m (X := X) (Y := Y) (N := N) (G := G) (s := s) (q := rvz X Y (gZ X Y N) p) (div3 he)
    exact hold_loop h hP hL hPn hD hxy hx hy FU 0 e he (by omega) (by omega) (Or.inl ⟨hs, by omega⟩)
  cases hs : sol G s (lv near / 3) with
  | true =>
    rw [b32_f (by decide), if_pos rfl]
    exact go _ l2 hs
  | false =>
    rw [b32_t rfl, if_neg (by decide)]
    obtain ⟨g, g1, g2, g3, g4⟩ := f_baseOf h l2 hs
    rw [g4, bd_s]
    dsimp only
    have n1 := nx_lt g1
    rw [h.tw' n1, bd_s]
    dsimp only
    have one := ghost_one hL hD g g1 g3
    refine go _ (hD.1 _ n1).1 (base_solid hL hD n1 one.1 one.2 ?_)
    rw [nx_div, g2]
    exact hs
end
