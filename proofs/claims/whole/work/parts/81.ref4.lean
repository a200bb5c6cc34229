/-! THE REFERENCE'S SIDE, 4: all corners -/
section
variable {S : St} {n : Nat} {X Y : Nat → Int}
theorem nextC_one {a b c : Nat} (ha : a < n) (h : nextC X Y n a b) (g : nextC X Y n a c) : b = c := by
  apply Classical.byContradiction
  intro ne
  have q1 := h.2.2 c g.1 g.2.1 (fun q => ne q.symm)
  have q2 := g.2.2 b h.1 h.2.1 ne
  have e := gO_sw23 X Y a b c
  omega
theorem least_one {a b : Nat} (h : leastP X Y n a) (g : leastP X Y n b) : a = b := by
  apply Classical.byContradiction
  intro ne
  have q1 := h.2 b g.1 (fun q => ne q.symm)
  have q2 := g.2 a h.1 ne
  unfold gLess at q1 q2
  omega
/-- the corners are one list alone -/
theorem CORN_one {C D : List Nat} (h : CORN X Y n C) (g : CORN X Y n D) : C = D := by
  rcases h with ⟨n0, rfl⟩ | ⟨n0, h1, h2, h3, h4⟩
  · rcases g with ⟨-, rfl⟩ | ⟨m0, -⟩
    · rfl
    · omega
  rcases g with ⟨m0, -⟩ | ⟨-, g1, g2, g3, g4⟩
  · omega
  have inn : ∀ {C : List Nat}, leastP X Y n (C.getD 0 0) → (∀ i, i + 1 < C.length → nextC X Y n (C.getD i 0) (C.getD (i + 1) 0) ∧ C.getD (i + 1) 0 ≠ C.getD 0 0) → ∀ i, i < C.length → C.getD i 0 < n := by
    intro C c2 c3 i hi
    cases i with
    | zero => exact c2.1
    | succ i => exact (c3 i hi).1.1
  have same : ∀ i, i < C.length → i < D.length → C.getD i 0 = D.getD i 0 := by
    intro i
    induction i with
    | zero => intro _ _; exact least_one h2 g2
    | succ i ih =>
      intro a b
      have e := ih (by omega) (by omega)
      have q1 := (h3 i a).1
      have q2 := (g3 i b).1
      rw [e] at q1
      exact nextC_one (inn g2 g3 i (by omega)) q1 q2
  have key : ∀ {C D : List Nat}, 0 < C.length → leastP X Y n (C.getD 0 0) → leastP X Y n (D.getD 0 0) → (∀ i, i + 1 < D.length → nextC X Y n (D.getD i 0) (D.getD (i + 1) 0) ∧ D.getD (i + 1) 0 ≠ D.getD 0 0) → (n = 1 ∨ nextC X Y n (C.getD (C.length - 1) 0) (C.getD 0 0)) → (∀ i, i < C.length → i < D.length → C.getD i 0 = D.getD i 0) → ¬ C.length < D.length := by
    intro C D c1 c2 d2 d3 c4 sm lt
    have q := d3 (C.length - 1) (by omega)
    have e := sm (C.length - 1) (by omega) (by omega)
    rcases c4 with c4 | c4
    · have := q.1.1
      have := q.1.2.1
      have := inn d2 d3 (C.length - 1) (by omega)
      omega
    · rw [e] at c4
      have := nextC_one (inn d2 d3 (C.length - 1) (by omega)) c4 q.1
      exact q.2 (by rw [← this]; exact sm 0 c1 (by omega))
  have l1 := key h1 h2 g2 g3 h4 same
  have l2 := key g1 g2 h2 h3 g4 (fun i a b => (same i b a).symm)
  refine List.ext_getElem (by omega) (fun i a b => ?_)
  have := same i a b
  rw [List.getD_eq_getElem?_getD, List.getD_eq_getElem?_getD, List.getElem?_eq_getElem a, List.getElem?_eq_getElem b] at this
  exact this
theorem getD_get {C : List Nat} {i : Nat} (h : i < C.length) : C.getD i 0 = C[i] := by
  rw [List.getD_eq_getElem?_getD, List.getElem?_eq_getElem h]
  rfl
/-- what looking for corners leaves alone -/
def frC (S T : St) : Prop := (∀ k, k ≠ 5 → gi T k = gi S k) ∧ T.2.1 = S.2.1 ∧ T.2.2.1 = S.2.2.1 ∧ ∀ k, k ≠ 6 → ga T k = ga S k
theorem frC.mp {S T : St} (f : frC S T) (h : MP S n X Y) : MP T n X Y := h.of (f.1 2 (by decide)) f.2.2.1 (f.2.2.2 1 (by decide)) (f.2.2.2 2 (by decide))
theorem m_corners_loop (h : MP S n X Y) {C : List Nat} (n0 : 0 < n) (h1 : 0 < C.length) (hC : C.length ≤ 1024) (h2 : leastP X Y n (C.getD 0 0)) (h3 : ∀ i, i + 1 < C.length → nextC X Y n (C.getD i 0) (C.getD (i + 1) 0) ∧ C.getD (i + 1) 0 ≠ C.getD 0 0) (h4 : n = 1 ∨ nextC X Y n (C.getD (C.length - 1) 0) (C.getD 0 0)) : ∀ (d fuel i : Nat) (T : St), i + d + 1 = C.length → d + 2 ≤ fuel → frC S T → gi T 5 = nI i → (∀ k, k < i → ga T 6 k = nI (C.getD k 0)) → ∃ R, f_Md_findCorners_22 fuel (nI (C.getD 0 0)) (nI (C.getD i 0)) 1 T = some R ∧ frC S R ∧ gi R 5 = nI C.length ∧ ∀ k, k < C.length → ga R 6 k = nI (C.getD k 0) := by
  have hn := h.2.1
  have inn : ∀ i, i < C.length → C.getD i 0 < n := by
    intro i hi
    cases i with
    | zero => exact h2.1
    | succ i => exact (h3 i hi).1.1
  intro d
  induction d with
  | zero =>
    intro fuel i T hi hf hfr h5 h6
    obtain ⟨fuel, rfl⟩ : ∃ j, fuel = j + 1 + 1 := ⟨fuel - 2, by omega⟩
    have hil : i = C.length - 1 := by omega
    rw [f_Md_findCorners_22]
    dsimp only
    have g6 : gn T 6 = 1024 := by
      show T.2.2.1 6 = 1024
      rw [hfr.2.2.1]
      exact h.2.2.1.2.2.2.2.2.1
    rw [if_neg (by decide), h5, g6, inb_n (by omega) (by omega), as_s, bn_s, nI_clampN (by omega)]
    generalize hA : seta T 6 (upd (ga T 6) i (nI (C.getD i 0))) = A
    have iA : gi A 5 = nI i := by rw [← hA, gi_seta]; exact h5
    rw [iA, bn_s, nI_1]
    have frA' : frC S (seti A 5 (nI (i + 1))) := by
      refine ⟨fun k hk => ?_, by rw [← hA]; exact hfr.2.1, by rw [← hA]; exact hfr.2.2.1, fun k hk => ?_⟩
      · rw [gi_seti_ne _ _ hk, ← hA, gi_seta]; exact hfr.1 k hk
      · rw [ga_seti, ← hA, ga_seta_ne _ _ hk]; exact hfr.2.2.2 k hk
    have bh : f_Md_cornerBehind (nI (C.getD i 0)) (seti A 5 (nI (i + 1))) = some (nI (C.getD 0 0), seti A 5 (nI (i + 1))) := by
      rcases h4 with h4 | h4
      · have e1 := inn i (by omega)
        have e2 := inn 0 (by omega)
        have e3 : C.getD i 0 = 0 := by omega
        have e4 : C.getD 0 0 = 0 := by omega
        rw [e3, e4]
        unfold f_Md_cornerBehind f_Md_cornerBehind_0 f_Md_cornerBehind_16 f_Md_cornerBehind_17
        have hm := frA'.mp h
        rw [if_pos (show nI 0 = 0 from rfl), hm.1, h4, if_pos (by decide)]
        obtain ⟨k, hk⟩ : ∃ k, FU = k + 1 + 1 := ⟨FU - 2, by have := FU_big; omega⟩
        rw [hk, f_Md_cornerBehind_20]
        dsimp only
        rw [hm.1, h4, if_neg (by decide), if_pos (by decide)]
        unfold f_Md_cornerBehind_97
        rw [bn_s, f_Md_cornerBehind_20]
        dsimp only
        rw [hm.1, h4, if_pos (by decide)]
        rfl
      · rw [← hil] at h4
        exact m_behind (frA'.mp h) (inn i (by omega)) h4
    rw [bh, bd_s]
    dsimp only
    rw [if_pos rfl]
    unfold f_Md_findCorners_62
    rw [f_Md_findCorners_22]
    dsimp only
    rw [if_pos rfl]
    refine ⟨_, rfl, frA', by rw [gi_seti, show i + 1 = C.length by omega], fun k hk => ?_⟩
    rw [ga_seti, ← hA, ga_seta]
    by_cases c : k = i
    · rw [c, upd_same]
    · rw [upd_ne _ _ c]; exact h6 k (by omega)
  | succ d ih =>
    intro fuel i T hi hf hfr h5 h6
    obtain ⟨fuel, rfl⟩ : ∃ j, fuel = j + 1 := ⟨fuel - 1, by omega⟩
    rw [f_Md_findCorners_22]
    dsimp only
    have g6 : gn T 6 = 1024 := by
      show T.2.2.1 6 = 1024
      rw [hfr.2.2.1]
      exact h.2.2.1.2.2.2.2.2.1
    rw [if_neg (by decide), h5, g6, inb_n (by omega) (by omega), as_s, bn_s, nI_clampN (by omega)]
    generalize hA : seta T 6 (upd (ga T 6) i (nI (C.getD i 0))) = A
    have iA : gi A 5 = nI i := by rw [← hA, gi_seta]; exact h5
    rw [iA, bn_s, nI_1]
    have frA' : frC S (seti A 5 (nI (i + 1))) := by
      refine ⟨fun k hk => ?_, by rw [← hA]; exact hfr.2.1, by rw [← hA]; exact hfr.2.2.1, fun k hk => ?_⟩
      · rw [gi_seti_ne _ _ hk, ← hA, gi_seta]; exact hfr.1 k hk
      · rw [ga_seti, ← hA, ga_seta_ne _ _ hk]; exact hfr.2.2.2 k hk
    obtain ⟨q1, q2⟩ := h3 i (by omega)
    have e1 := inn (i + 1) (by omega)
    have e0 := inn 0 (by omega)
    rw [m_behind (frA'.mp h) (inn i (by omega)) q1, bd_s]
    dsimp only
    rw [if_neg (fun z => q2 ((nI_eq (by omega) (by omega)).mp z))]
    unfold f_Md_findCorners_62
    refine ih fuel (i + 1) _ (by omega) (by omega) frA' (gi_seti _ _ _) (fun k hk => ?_)
    rw [ga_seti, ← hA, ga_seta]
    by_cases c : k = i
    · rw [c, upd_same]
    · rw [upd_ne _ _ c]; exact h6 k (by omega)
theorem m_corners (h : MP S n X Y) (hd : ∀ i, i < n → ∀ j, j < n → i ≠ j → dif X Y i j) {C : List Nat} (hC : CORN X Y n C) (hl : C.length ≤ 1024) : ∃ T, f_Md_findCorners S = some T ∧ frC S T ∧ gi T 5 = nI C.length ∧ ∀ k (h : k < C.length), ga T 6 k = nI C[k] := by
  have hn := h.2.1
  unfold f_Md_findCorners f_Md_findCorners_0
  rw [bn_s]
  have f0 : frC S (seti S 5 0) := ⟨fun k hk => gi_seti_ne _ _ hk, rfl, rfl, fun _ _ => rfl⟩
  rw [(f0.mp h).1]
  rcases hC with ⟨n0, rfl⟩ | ⟨n0, h1, h2, h3, h4⟩
  · rw [if_pos (by rw [n0]; rfl)]
    exact ⟨_, rfl, f0, gi_seti _ _ _, fun k hk => absurd hk (Nat.not_lt_zero k)⟩
  · rw [if_neg (show ¬ nI n = 0 from fun q => by have := (nI_eq (a := n) (b := 0) (by omega) (by omega)).mp q; omega)]
    obtain ⟨r, r1, r2⟩ := m_least (f0.mp h) hd n0
    have e := least_one r1 h2
    rw [r2, bd_s, e]
    dsimp only
    obtain ⟨R, q1, q2, q3, q4⟩ := m_corners_loop h n0 h1 hl h2 h3 h4 (C.length - 1) FU 0 (seti S 5 0) (by omega) (by have := FU_big; omega) f0 (gi_seti _ _ _) (fun k hk => absurd hk (Nat.not_lt_zero k))
    exact ⟨R, q1, q2, q3, fun k hk => by rw [q4 k hk, getD_get hk]⟩
end
