/-! THE NET'S FUNCTIONS: edges, triangles, walks -/
theorem nI_div {n k : Nat} (hn : n < 2 ^ 31) (hk : 0 < k) (hk2 : k < 2 ^ 31) : nI n / nI k = nI (n / k) := by
  apply Int32.toInt_inj.mp
  have hle : n / k ≤ n := Nat.div_le_self n k
  rw [Int32.toInt_div, nI_toInt hn, nI_toInt hk2, nI_toInt (by omega)]
  have h1 : (n : Int).tdiv (k : Int) = ((n / k : Nat) : Int) := by
    rw [Int.tdiv_eq_ediv_of_nonneg (by omega)]
    rfl
  rw [h1]
  generalize n / k = q at *
  exact Int.bmod_eq_of_le (by omega) (by omega)
theorem nI_sub {a b : Nat} (h : b ≤ a) : nI a - nI b = nI (a - b) := by
  have : nI a = nI (a - b) + nI b := by rw [nI_add]; congr 1; omega
  rw [this, Int32.add_sub_cancel]
theorem nI_rem3 {n : Nat} (hn : n < 2 ^ 31) : nI n - nI n / 3 * 3 = nI (n % 3) := by
  rw [show (3 : Int32) = nI 3 from rfl, nI_div hn (by decide) (by decide), nI_mul, nI_sub (by omega)]
  congr 1
  omega
def ah (e k : Nat) : Nat := e / 3 * 3 + (e % 3 + k) % 3
theorem ah_0 (e : Nat) : ah e 0 = e := by unfold ah; omega
theorem ah_1 (e : Nat) : ah e 1 = nx e := rfl
theorem ah_2 (e : Nat) : ah e 2 = nx (nx e) := by unfold ah nx; omega
theorem ah_div (e k : Nat) : ah e k / 3 = e / 3 := by unfold ah; omega
theorem ah_lt {e k m : Nat} (h : e < 3 * m) : ah e k < 3 * m := by unfold ah; omega
theorem f_ahead {e k : Nat} (he : e < 1000000) (hk : k < 1000000) (S : St) : f_Nt_ahead (nI e) (nI k) S = some (nI (ah e k), S) := by
  unfold f_Nt_ahead f_Nt_ahead_0
  rw [bn_s, nI_rem3 (by omega), nI_sub (by omega)]
  have e1 : e - e % 3 = e / 3 * 3 := by omega
  rw [e1, nI_sub (by omega), nI_add, nI_rem3 (by omega), nI_add]
  have e2 : e / 3 * 3 + (e - e / 3 * 3 + k) % 3 = ah e k := by unfold ah; omega
  rw [e2]
def NV (S : St) (m G : Nat) (s tw : Nat → Nat) : Prop := gi S 4 = nI G ∧ gi S 6 = nI m ∧ G ≤ 1024 ∧ m ≤ 2048 ∧ Cap S 8 (3 * m) ∧ Cap S 9 (3 * m) ∧ (∀ e, e < 3 * m → ga S 8 e = nI (s e) ∧ s e ≤ 1024) ∧ ∀ e, e < 3 * m → ga S 9 e = nI (tw e) ∧ tw e < 3 * m
theorem NV.same {S T : St} {m G : Nat} {s tw : Nat → Nat} (h : NV S m G s tw) (e : sameW S T) : NV T m G s tw := by
  unfold NV Cap at *
  have e0 : ∀ k, gi T k = gi S k := fun k => by show T.1 k = S.1 k; rw [e.1]
  have e1 : ∀ k, gn T k = gn S k := fun k => by show T.2.2.1 k = S.2.2.1 k; rw [e.2.1]
  have e2 : ∀ k, ga T k = ga S k := fun k => by show T.2.2.2 k = S.2.2.2 k; rw [e.2.1]
  simp only [e0, e1, e2]
  exact h
section
variable {S : St} {m G : Nat} {s tw : Nat → Nat}
theorem NV.st (h : NV S m G s tw) {e : Nat} (he : e < 3 * m) : f_Rw_get 8 (nI e) S = some (nI (s e), S) := by
  rw [get_ok h.2.2.2.2.1 he, (h.2.2.2.2.2.2.1 e he).1]
theorem NV.tw' (h : NV S m G s tw) {e : Nat} (he : e < 3 * m) : f_Rw_get 9 (nI e) S = some (nI (tw e), S) := by
  rw [get_ok h.2.2.2.2.2.1 he, (h.2.2.2.2.2.2.2 e he).1]
theorem NV.small (h : NV S m G s tw) {e : Nat} (he : e < 3 * m) : e < 1000000 := by
  have := h.2.2.2.1
  omega
theorem f_startOf (h : NV S m G s tw) {e : Nat} (he : e < 3 * m) : f_Nt_startOf (nI e) S = some (nI (s e), S) := by
  unfold f_Nt_startOf f_Nt_startOf_0
  rw [h.st he, bd_s]
theorem f_endOf (h : NV S m G s tw) {e : Nat} (he : e < 3 * m) : f_Nt_endOf (nI e) S = some (nI (s (nx e)), S) := by
  unfold f_Nt_endOf f_Nt_endOf_0
  rw [show (1 : Int32) = nI 1 from rfl, f_ahead (h.small he) (by decide), bd_s]
  dsimp only
  rw [ah_1, h.st (nx_lt he), bd_s]
theorem NV.isG (h : NV S m G s tw) {e : Nat} (he : e < 3 * m) : (nI (s e) = gi S 4) = (s e = G) := by
  rw [h.1]
  have h1 := (h.2.2.2.2.2.2.1 e he).2
  have h2 := h.2.2.1
  exact propext (nI_eq (by omega) (by omega))
theorem f_isOuter (h : NV S m G s tw) {e : Nat} (he : e < 3 * m) : f_Nt_isOuter (nI e) S = some (b32 (sol G s (e / 3) = false), S) := by
  unfold f_Nt_isOuter f_Nt_isOuter_0
  rw [bn_s, nI_rem3 (by have := h.small he; omega), nI_sub (by omega)]
  have e1 : e - e % 3 = 3 * (e / 3) := by omega
  rw [e1]
  have l0 : 3 * (e / 3) < 3 * m := by omega
  have l1 : 3 * (e / 3) + 1 < 3 * m := by omega
  have l2 : 3 * (e / 3) + 2 < 3 * m := by omega
  rw [h.st l0, bd_s]
  dsimp only
  have sf : ∀ q : Prop, (q ↔ (s (3 * (e / 3)) = G ∨ s (3 * (e / 3) + 1) = G ∨ s (3 * (e / 3) + 2) = G)) → (sol G s (e / 3) = false ↔ q) := by
    intro q hq
    rw [hq]
    unfold sol
    by_cases a : s (3 * (e / 3)) = G <;> by_cases b : s (3 * (e / 3) + 1) = G <;> by_cases c : s (3 * (e / 3) + 2) = G <;> simp [a, b, c]
  simp only [h.isG l0]
  by_cases c0 : s (3 * (e / 3)) = G
  · rw [if_pos c0]
    unfold f_Nt_isOuter_55
    rw [b32_t ((sf True ⟨fun _ => Or.inl c0, fun _ => trivial⟩).mpr trivial)]
  · rw [if_neg c0, nI_1, h.st l1, bd_s]
    dsimp only
    simp only [h.isG l1]
    by_cases c1 : s (3 * (e / 3) + 1) = G
    · rw [if_pos c1]
      unfold f_Nt_isOuter_55
      rw [b32_t ((sf True ⟨fun _ => Or.inr (Or.inl c1), fun _ => trivial⟩).mpr trivial)]
    · rw [if_neg c1, nI_2, h.st l2, bd_s]
      dsimp only
      simp only [h.isG l2]
      by_cases c2 : s (3 * (e / 3) + 2) = G
      · rw [if_pos c2]
        unfold f_Nt_isOuter_55
        rw [b32_t ((sf True ⟨fun _ => Or.inr (Or.inr c2), fun _ => trivial⟩).mpr trivial)]
      · rw [if_neg c2, b32_f]
        intro q
        exact (sf False ⟨fun z => z.elim, fun z => z.elim c0 (fun z => z.elim c1 c2)⟩).mp q
/-- of a triangle of the ghost's, the edge that leaves the ghost -/
theorem ghost_edge {e : Nat} (h : sol G s (e / 3) = false) : s e = G ∨ (s e ≠ G ∧ s (nx e) = G) ∨ (s e ≠ G ∧ s (nx e) ≠ G ∧ s (nx (nx e)) = G) := by
  by_cases c0 : s e = G
  · exact Or.inl c0
  by_cases c1 : s (nx e) = G
  · exact Or.inr (Or.inl ⟨c0, c1⟩)
  by_cases c2 : s (nx (nx e)) = G
  · exact Or.inr (Or.inr ⟨c0, c1, c2⟩)
  have := sol_edge.mpr ⟨c0, c1, c2⟩
  rw [h] at this
  cases this
theorem f_baseOf (h : NV S m G s tw) {e : Nat} (he : e < 3 * m) (ho : sol G s (e / 3) = false) : ∃ g, g < 3 * m ∧ g / 3 = e / 3 ∧ s g = G ∧ f_Nt_baseOf (nI e) S = some (nI (nx g), S) := by
  have hF := FU_big
  obtain ⟨k, hk⟩ : ∃ k, FU = k + 1 + 1 + 1 := ⟨FU - 3, by omega⟩
  have fin : ∀ g, g < 3 * m → f_Nt_baseOf_36 (nI g) S = some (nI (nx g), S) := by
    intro g hg
    unfold f_Nt_baseOf_36
    rw [show (1 : Int32) = nI 1 from rfl, f_ahead (h.small hg) (by decide), bd_s]
    rfl
  have n1 := nx_lt he
  have n2 := nx_lt n1
  have ahd : ∀ g, g < 3 * m → f_Nt_ahead (nI g) 1 S = some (nI (nx g), S) := fun g hg => f_ahead (k := 1) (h.small hg) (by decide) S
  unfold f_Nt_baseOf f_Nt_baseOf_0
  rw [hk]
  rcases ghost_edge ho with c | ⟨c0, c⟩ | ⟨c0, c1, c⟩
  · refine ⟨e, he, rfl, c, ?_⟩
    rw [f_Nt_baseOf_4]
    dsimp only
    rw [if_neg (by decide), h.st he, bd_s]
    dsimp only
    simp only [h.isG he]
    rw [if_pos c, fin e he]
  · refine ⟨nx e, n1, nx_div e, c, ?_⟩
    rw [f_Nt_baseOf_4]
    dsimp only
    rw [if_neg (by decide), h.st he, bd_s]
    dsimp only
    simp only [h.isG he]
    rw [if_neg c0, ahd e he, bd_s, bn_s]
    dsimp only
    rw [f_Nt_baseOf_4]
    dsimp only
    rw [if_neg (by decide), h.st n1, bd_s]
    dsimp only
    simp only [h.isG n1]
    rw [if_pos c, fin _ n1]
  · refine ⟨nx (nx e), n2, by rw [nx_div, nx_div], c, ?_⟩
    rw [f_Nt_baseOf_4]
    dsimp only
    rw [if_neg (by decide), h.st he, bd_s]
    dsimp only
    simp only [h.isG he]
    rw [if_neg c0, ahd e he, bd_s, bn_s]
    dsimp only
    rw [f_Nt_baseOf_4]
    dsimp only
    rw [if_neg (by decide), h.st n1, bd_s]
    dsimp only
    simp only [h.isG n1]
    rw [if_neg c1, ahd _ n1, bd_s, bn_s]
    dsimp only
    rw [f_Nt_baseOf_4]
    dsimp only
    rw [if_pos (by decide), fin _ n2]
end
section
variable {S : St} {m G n : Nat} {s tw : Nat → Nat} {X Y : Nat → Int}
theorem f_xp (h : PV S n X Y) {i : Nat} (hi : i < n) : f_Pt_x (nI i) S = some (ga S 6 i, S) := by
  unfold f_Pt_x f_Pt_x_0
  rw [h.x hi, bd_s]
theorem f_yp (h : PV S n X Y) {i : Nat} (hi : i < n) : f_Pt_y (nI i) S = some (ga S 7 i, S) := by
  unfold f_Pt_y f_Pt_y_0
  rw [h.y hi, bd_s]
theorem cmp_pos (a b : Int64) : 0 < lg_cmp a b ↔ b.toInt < a.toInt := by
  rcases cmp_cases a b with ⟨h, e⟩ | ⟨h, e⟩ | ⟨h, e⟩ <;> rw [e]
  · constructor
    · intro q; exact absurd q (by decide)
    · intro q; omega
  · constructor
    · intro q; exact absurd q (by decide)
    · intro q; omega
  · exact ⟨fun _ => h, fun _ => by decide⟩
theorem b32_eq {p q : Prop} : b32 p = b32 q ↔ (p ↔ q) := by
  by_cases hp : p <;> by_cases hq : q
  · rw [b32_t hp, b32_t hq]; simp [hp, hq]
  · rw [b32_t hp, b32_f hq]; simp [hp, hq]
  · rw [b32_f hp, b32_t hq]; simp [hp, hq]
  · rw [b32_f hp, b32_f hq]; simp [hp, hq]
theorem f_isSeen (h : NV S m G s tw) (hP : PV S n X Y) {e p : Nat} (he : e < 3 * m) (ho : sol G s (e / 3) = false) (hp : p < n) (hin : ∀ g, g < 3 * m → g / 3 = e / 3 → s g ≠ G → s g < n) (hone : ∀ g, g < 3 * m → s g = G → s (nx g) ≠ G ∧ s (nx (nx g)) ≠ G) :
    ∃ g, g < 3 * m ∧ g / 3 = e / 3 ∧ s g = G ∧ f_Nt_isSeen (nI e) (nI p) S = some (b32 (seen X Y (s (nx g)) (s (nx (nx g))) p), S) := by
  obtain ⟨g, g1, g2, g3, g4⟩ := f_baseOf h he ho
  refine ⟨g, g1, g2, g3, ?_⟩
  have n1 := nx_lt g1
  have n2 := nx_lt n1
  have one := hone g g1 g3
  have a1 : s (nx g) < n := hin _ n1 (by rw [nx_div]; exact g2) one.1
  have a2 : s (nx (nx g)) < n := hin _ n2 (by rw [nx_div, nx_div]; exact g2) one.2
  unfold f_Nt_isSeen f_Nt_isSeen_0
  rw [g4, bd_s]
  dsimp only
  rw [f_startOf h n1, bd_s]
  dsimp only
  rw [f_endOf h n1, bd_s]
  dsimp only
  rw [f_xp hP hp, bd_s]
  dsimp only
  rw [f_yp hP hp, bd_s]
  dsimp only
  obtain ⟨r, r1, r2⟩ := f_turnP hP a1 a2 hp
  rw [r1, bd_s]
  dsimp only
  by_cases c1 : 0 < lg_cmp r 0
  · rw [if_pos c1]
    rw [cmp_pos, r2] at c1
    unfold f_Nt_isSeen_86
    rw [b32_t (q := seen X Y (s (nx g)) (s (nx (nx g))) p) (Or.inl c1)]
  · rw [if_neg c1]
    rw [cmp_pos, r2] at c1
    have c1 : ¬ 0 < gO X Y (s (nx g)) (s (nx (nx g))) p := c1
    by_cases c2 : lg_cmp r 0 = 0
    · rw [if_pos c2]
      rw [cmp_z, r2] at c2
      have c2 : gO X Y (s (nx g)) (s (nx (nx g))) p = 0 := c2
      rw [f_isLess hP a1 hp, bd_s]
      dsimp only
      rw [f_isLess hP hp a2, bd_s]
      dsimp only
      by_cases c3 : gLess X Y (s (nx g)) p ↔ gLess X Y p (s (nx (nx g)))
      · rw [if_pos (b32_eq.mpr c3)]
        unfold f_Nt_isSeen_86
        rw [b32_t (q := seen X Y (s (nx g)) (s (nx (nx g))) p) (Or.inr ⟨c2, c3⟩)]
      · rw [if_neg (fun z => c3 (b32_eq.mp z)), b32_f]
        rintro (z | z)
        · exact c1 z
        · exact c3 z.2
    · rw [if_neg c2, b32_f]
      rw [cmp_z, r2] at c2
      have c2 : ¬ gO X Y (s (nx g)) (s (nx (nx g))) p = 0 := c2
      rintro (z | z)
      · exact c1 z
      · exact c2 z.1
/-- the first edge that has the place on its other side -/
theorem f_wayOut (h : NV S m G s tw) (hP : PV S n X Y) {e p : Nat} (he : e < 3 * m) (hin : ∀ g, g < 3 * m → g / 3 = e / 3 → s g < n) {x y : Int32} (hxy : inP x.toInt y.toInt) (hx : x.toInt = X p) (hy : y.toInt = Y p) :
    (∃ g, g < 3 * m ∧ g / 3 = e / 3 ∧ gO X Y (s g) (s (nx g)) p < 0 ∧ f_Nt_wayOut (nI e) x y S = some (nI g, S)) ∨ ((∀ g, g < 3 * m → g / 3 = e / 3 → 0 ≤ gO X Y (s g) (s (nx g)) p) ∧ f_Nt_wayOut (nI e) x y S = some (-1, S)) := by
  have hF := FU_big
  obtain ⟨k, hk⟩ : ∃ k, FU = k + 1 + 1 + 1 + 1 := ⟨FU - 4, by omega⟩
  have step : ∀ (fu j : Nat), j < 3 → ∃ r : Int64, r.toInt = gO X Y (s (ah e j)) (s (nx (ah e j))) p ∧ f_Nt_wayOut_3 (fu + 1) (nI e) x y (nI j) S = (if 0 ≤ lg_cmp r 0 then f_Nt_wayOut_3 fu (nI e) x y (nI (j + 1)) S else some (nI (ah e j), S)) := by
    intro fu j hj
    have l := ah_lt (k := j) he
    have d := ah_div e j
    obtain ⟨r, r1, r2⟩ := f_turn hP (hin _ l d) (hin _ (nx_lt l) (by rw [nx_div]; exact d)) hxy
    refine ⟨r, by rw [r2, hx, hy]; rfl, ?_⟩
    rw [f_Nt_wayOut_3]
    dsimp only
    rw [if_neg (show ¬ 3 ≤ nI j from nI_ge (a := j) (b := 3) hj (by decide)), f_ahead (h.small he) (by omega), bd_s]
    dsimp only
    rw [f_startOf h l, bd_s]
    dsimp only
    rw [f_endOf h l, bd_s]
    dsimp only
    rw [r1, bd_s]
    dsimp only
    rw [bn_s, nI_1]
  unfold f_Nt_wayOut f_Nt_wayOut_0
  rw [hk, show (0 : Int32) = nI 0 from rfl]
  obtain ⟨r0, a0, b0⟩ := step (k + 1 + 1 + 1) 0 (by decide)
  obtain ⟨r1, a1, b1⟩ := step (k + 1 + 1) 1 (by decide)
  obtain ⟨r2, a2, b2⟩ := step (k + 1) 2 (by decide)
  have pick : ∀ (j : Nat) (r : Int64), r.toInt = gO X Y (s (ah e j)) (s (nx (ah e j))) p → ¬ 0 ≤ lg_cmp r 0 → ah e j < 3 * m ∧ ah e j / 3 = e / 3 ∧ gO X Y (s (ah e j)) (s (nx (ah e j))) p < 0 := by
    intro j r hr hc
    rw [cmp_nn, hr] at hc
    have hc : ¬ 0 ≤ gO X Y (s (ah e j)) (s (nx (ah e j))) p := hc
    exact ⟨ah_lt he, ah_div e j, by omega⟩
  rw [b0]
  by_cases c0 : 0 ≤ lg_cmp r0 0
  · rw [if_pos c0, b1]
    by_cases c1 : 0 ≤ lg_cmp r1 0
    · rw [if_pos c1, b2]
      by_cases c2 : 0 ≤ lg_cmp r2 0
      · rw [if_pos c2]
        right
        refine ⟨fun g g1 g2 => ?_, ?_⟩
        · rw [cmp_nn, a0] at c0
          rw [cmp_nn, a1] at c1
          rw [cmp_nn, a2] at c2
          have hg : g = ah e 0 ∨ g = ah e 1 ∨ g = ah e 2 := by unfold ah; omega
          rcases hg with rfl | rfl | rfl
          · exact c0
          · exact c1
          · exact c2
        · rw [f_Nt_wayOut_3]
          dsimp only
          rw [if_pos (by decide)]
      · rw [if_neg c2]
        obtain ⟨p1, p2, p3⟩ := pick 2 r2 a2 c2
        exact Or.inl ⟨_, p1, p2, p3, rfl⟩
    · rw [if_neg c1]
      obtain ⟨p1, p2, p3⟩ := pick 1 r1 a1 c1
      exact Or.inl ⟨_, p1, p2, p3, rfl⟩
  · rw [if_neg c0]
    obtain ⟨p1, p2, p3⟩ := pick 0 r0 a0 c0
    exact Or.inl ⟨_, p1, p2, p3, rfl⟩
end
