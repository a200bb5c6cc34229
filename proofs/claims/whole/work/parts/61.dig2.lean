/-! DIGGING, the loops -/
/-- the edges looked at so far -/
def PRC (pl : List Nat) (i j e : Nat) : Prop := ∃ idx, pl[idx]? = some (e / 3) ∧ (idx < i ∨ (idx = i ∧ e % 3 < j))
def INV (TK : Nat → Bool) (m : Nat) (tw : Nat → Nat) (pl rl : List Nat) (i j : Nat) : Prop :=
  (∀ e, e < 3 * m → PRC pl i j e → (TK (tw e / 3) = true → tw e / 3 ∈ pl) ∧ (TK (tw e / 3) = false → tw e ∈ rl)) ∧ (∀ r ∈ rl, r < 3 * m ∧ TK (r / 3) = false ∧ PRC pl i j (tw r)) ∧ rl.Nodup
theorem PRC.app {pl : List Nat} {i j e x : Nat} (h : PRC pl i j e) : PRC (pl ++ [x]) i j e := by
  obtain ⟨idx, h1, h2⟩ := h
  refine ⟨idx, ?_, h2⟩
  rw [List.getElem?_append_left (List.getElem?_eq_some_iff.mp h1).1]
  exact h1
theorem PRC.more {pl : List Nat} {i j e : Nat} (h : PRC pl i j e) : PRC pl i (j + 1) e := by
  obtain ⟨idx, h1, h2⟩ := h
  exact ⟨idx, h1, by omega⟩
theorem PRC.step {pl q : List Nat} {i j e t : Nat} (hi : pl[i]? = some t) (hq : q = pl ∨ ∃ x, q = pl ++ [x]) (h : PRC q i (j + 1) e) : PRC pl i j e ∨ e = 3 * t + j := by
  obtain ⟨idx, h1, h2⟩ := h
  have hil := (List.getElem?_eq_some_iff.mp hi).1
  have e1 : pl[idx]? = some (e / 3) := by
    rcases hq with rfl | ⟨x, rfl⟩
    · exact h1
    · rw [List.getElem?_append_left (by omega)] at h1
      exact h1
  rcases h2 with h2 | ⟨h2, h3⟩
  · exact Or.inl ⟨idx, e1, Or.inl h2⟩
  · by_cases c : e % 3 < j
    · exact Or.inl ⟨idx, e1, Or.inr ⟨h2, c⟩⟩
    · rw [h2, hi] at e1
      have := Option.some.inj e1
      exact Or.inr (by omega)
theorem PRC.not {pl : List Nat} {i j t : Nat} (hn : pl.Nodup) (hi : pl[i]? = some t) (hj : j < 3) : ¬ PRC pl i j (3 * t + j) := by
  rintro ⟨idx, h1, h2⟩
  have e3 : (3 * t + j) / 3 = t := by omega
  rw [e3] at h1
  obtain ⟨a1, b1⟩ := List.getElem?_eq_some_iff.mp h1
  obtain ⟨a2, b2⟩ := List.getElem?_eq_some_iff.mp hi
  have : idx = i := by
    rcases Nat.lt_trichotomy idx i with q | q | q
    · exact absurd (b1.trans b2.symm) (List.pairwise_iff_getElem.mp hn idx i a1 a2 q)
    · exact q
    · exact absurd (b2.trans b1.symm) (List.pairwise_iff_getElem.mp hn i idx a2 a1 q)
  omega
section
variable {S T : St} {m G n N M mk out p : Nat} {s tw : Nat → Nat} {X Y : Nat → Int} {P : List Nat} {TK : Nat → Bool} {pl rl : List Nat}
theorem takes_rot (hP : Pts X Y N G P p) {a b c : Nat} (h : solid X Y P a b c) : takes X Y p b c a ↔ takes X Y p a b c := by
  have pp : p ∈ p :: P := List.mem_cons_self
  have inP : ∀ {i}, i ∈ P → i ∈ p :: P := fun hi => List.mem_cons_of_mem _ hi
  have np : ∀ {i}, i ∈ P → p ≠ i := fun hi e => hP.2.2.2.1 (e ▸ hi)
  obtain ⟨h1, h2, h3, h4, h5, h6, h7, -⟩ := h
  have k1 := takes_iff (N := N) ⟨(hP.1 a (inP h1)).2.1, (hP.1 b (inP h2)).2.1, (hP.1 c (inP h3)).2.1, (hP.1 p pp).2.1⟩ (hP.1 a (inP h1)).1 (hP.1 b (inP h2)).1 (hP.1 c (inP h3)).1 (hP.1 p pp).1 h7 (hP.2.1 p pp a (inP h1) (np h1)) (hP.2.1 p pp b (inP h2) (np h2)) (hP.2.1 p pp c (inP h3) (np h3))
  have k2 := takes_iff (N := N) ⟨(hP.1 b (inP h2)).2.1, (hP.1 c (inP h3)).2.1, (hP.1 a (inP h1)).2.1, (hP.1 p pp).2.1⟩ (hP.1 b (inP h2)).1 (hP.1 c (inP h3)).1 (hP.1 a (inP h1)).1 (hP.1 p pp).1 (by rw [gO_rot]; exact h7) (hP.2.1 p pp b (inP h2) (np h2)) (hP.2.1 p pp c (inP h3) (np h3)) (hP.2.1 p pp a (inP h1) (np h1))
  rw [k1.1, k2.1, gV_rot]
def TKs (X Y : Nat → Int) (G p m : Nat) (s : Nat → Nat) (TK : Nat → Bool) : Prop := ∀ t, t < m → (TK t = true ↔ takenD X Y G p (s (3 * t)) (s (3 * t + 1)) (s (3 * t + 2)))
theorem edge3 (e : Nat) : e = 3 * (e / 3) ∨ e = 3 * (e / 3) + 1 ∨ e = 3 * (e / 3) + 2 := by omega
/-- of a triangle: taken as seen from any of its edges -/
theorem tk_solid (hP : Pts X Y N G P p) (hD : NetD X Y G P m s tw) (hT : TKs X Y G p m s TK) {e : Nat} (he : e < 3 * m) (hs : sol G s (e / 3) = true) : takes X Y p (s e) (s (nx e)) (s (nx (nx e))) ↔ TK (e / 3) = true := by
  have l0 : 3 * (e / 3) < 3 * m := by omega
  have d0 : 3 * (e / 3) / 3 = e / 3 := by omega
  have r0 := hD.solid l0 (by rw [d0]; exact hs)
  rw [nx_0, nx_1] at r0
  have g0 := (sol_edge (G := G) (s := s) (e := 3 * (e / 3))).mp (by rw [d0]; exact hs)
  rw [nx_0, nx_1] at g0
  have k : TK (e / 3) = true ↔ takes X Y p (s (3 * (e / 3))) (s (3 * (e / 3) + 1)) (s (3 * (e / 3) + 2)) := by
    rw [hT (e / 3) (by omega)]
    unfold takenD
    constructor
    · rintro (z | ⟨z, -⟩ | ⟨z, -⟩ | ⟨z, -⟩)
      · exact z.2.2.2
      · exact absurd z g0.2.2
      · exact absurd z g0.1
      · exact absurd z g0.2.1
    · intro z
      exact Or.inl ⟨g0.1, g0.2.1, g0.2.2, z⟩
  rw [k]
  rcases edge3 e with q | q | q
  · rw [q, show 3 * (e / 3) / 3 = e / 3 by omega, nx_0, nx_1]
  · rw [q, show (3 * (e / 3) + 1) / 3 = e / 3 by omega, nx_1, nx_2]
    exact takes_rot hP r0
  · rw [q, show (3 * (e / 3) + 2) / 3 = e / 3 by omega, nx_2, nx_0]
    have r1 : takes X Y p (s (3 * (e / 3) + 1)) (s (3 * (e / 3) + 2)) (s (3 * (e / 3))) ↔ _ := takes_rot hP r0
    have r2 : takes X Y p (s (3 * (e / 3) + 2)) (s (3 * (e / 3))) (s (3 * (e / 3) + 1)) ↔ takes X Y p (s (3 * (e / 3) + 1)) (s (3 * (e / 3) + 2)) (s (3 * (e / 3))) := by
      have l1 : 3 * (e / 3) + 1 < 3 * m := by omega
      have rr := hD.solid l1 (by rw [show (3 * (e / 3) + 1) / 3 = e / 3 by omega]; exact hs)
      rw [nx_1, nx_2] at rr
      exact takes_rot hP rr
    exact r2.trans r1
theorem tk_outer (hL : PtsL X Y N G P) (hD : NetD X Y G P m s tw) (hT : TKs X Y G p m s TK) {g : Nat} (hg : g < 3 * m) (hG : s g = G) : seen X Y (s (nx g)) (s (nx (nx g))) p ↔ TK (g / 3) = true := by
  have one := ghost_one hL hD g hg hG
  rw [hT (g / 3) (by omega)]
  unfold takenD
  rcases edge3 g with q | q | q
  · rw [q] at one hG ⊢
    rw [show 3 * (g / 3) / 3 = g / 3 by omega]
    rw [nx_0, nx_1] at one
    rw [nx_0, nx_1]
    constructor
    · intro z; exact Or.inr (Or.inr (Or.inl ⟨hG, z⟩))
    · rintro (z | ⟨z, -⟩ | ⟨-, z⟩ | ⟨z, -⟩)
      · exact absurd hG z.1
      · exact absurd z one.2
      · exact z
      · exact absurd z one.1
  · rw [q] at one hG ⊢
    rw [show (3 * (g / 3) + 1) / 3 = g / 3 by omega]
    rw [nx_1, nx_2] at one
    rw [nx_1, nx_2]
    constructor
    · intro z; exact Or.inr (Or.inr (Or.inr ⟨hG, z⟩))
    · rintro (z | ⟨z, -⟩ | ⟨z, -⟩ | ⟨-, z⟩)
      · exact absurd hG z.2.1
      · exact absurd z one.1
      · exact absurd z one.2
      · exact z
  · rw [q] at one hG ⊢
    rw [show (3 * (g / 3) + 2) / 3 = g / 3 by omega]
    rw [nx_2, nx_0] at one
    rw [nx_2, nx_0]
    constructor
    · intro z; exact Or.inr (Or.inl ⟨hG, z⟩)
    · rintro (z | ⟨-, z⟩ | ⟨z, -⟩ | ⟨z, -⟩)
      · exact absurd hG z.2.2.1
      · exact z
      · exact absurd z one.1
      · exact absurd z one.2
end
