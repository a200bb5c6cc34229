/-! NEIGHBOURS: the reference's row -/
section
variable {S T : St} {n : Nat} {X Y : Nat → Int} {L : List (Nat × Nat × Nat)}
theorem m_isSooner (h : MP T n X Y) {p f b c : Nat} (hp : p < n) (hf : f < n) (hb : b < n) (hc : c < n) : f_Md_isSooner (nI p) (nI f) (nI b) (nI c) T = some (b32 (SOON X Y p f b c), T) := by
  have ip := h.in hp
  have if' := h.in hf
  have ib := h.in hb
  have ic := h.in hc
  unfold inR at ip if' ib ic
  have dfx := l_sub32 (ga T 1 (Int32.toNatClampNeg (nI f))) (ga T 1 (Int32.toNatClampNeg (nI p)))
  have dfy := l_sub32 (ga T 2 (Int32.toNatClampNeg (nI f))) (ga T 2 (Int32.toNatClampNeg (nI p)))
  have dbx := l_sub32 (ga T 1 (Int32.toNatClampNeg (nI b))) (ga T 1 (Int32.toNatClampNeg (nI p)))
  have dby := l_sub32 (ga T 2 (Int32.toNatClampNeg (nI b))) (ga T 2 (Int32.toNatClampNeg (nI p)))
  have dcx := l_sub32 (ga T 1 (Int32.toNatClampNeg (nI c))) (ga T 1 (Int32.toNatClampNeg (nI p)))
  have dcy := l_sub32 (ga T 2 (Int32.toNatClampNeg (nI c))) (ga T 2 (Int32.toNatClampNeg (nI p)))
  rw [h.x hf, h.x hp] at dfx
  rw [h.y hf, h.y hp] at dfy
  rw [h.x hb, h.x hp] at dbx
  rw [h.y hb, h.y hp] at dby
  rw [h.x hc, h.x hp] at dcx
  rw [h.y hc, h.y hp] at dcy
  unfold f_Md_isSooner f_Md_isSooner_0 f_Md_cross f_Md_cross_0
  simp only [h.b1 hp, h.b1 hf, h.b1 hb, h.b1 hc, h.b2 hp, h.b2 hf, h.b2 hb, h.b2 hc, as_s, bn_s, bd_s]
  generalize Int32.toInt64 (ga T 1 (Int32.toNatClampNeg (nI f))) - Int32.toInt64 (ga T 1 (Int32.toNatClampNeg (nI p))) = fx at *
  generalize Int32.toInt64 (ga T 2 (Int32.toNatClampNeg (nI f))) - Int32.toInt64 (ga T 2 (Int32.toNatClampNeg (nI p))) = fy at *
  generalize Int32.toInt64 (ga T 1 (Int32.toNatClampNeg (nI b))) - Int32.toInt64 (ga T 1 (Int32.toNatClampNeg (nI p))) = bx at *
  generalize Int32.toInt64 (ga T 2 (Int32.toNatClampNeg (nI b))) - Int32.toInt64 (ga T 2 (Int32.toNatClampNeg (nI p))) = by' at *
  generalize Int32.toInt64 (ga T 1 (Int32.toNatClampNeg (nI c))) - Int32.toInt64 (ga T 1 (Int32.toNatClampNeg (nI p))) = cx at *
  generalize Int32.toInt64 (ga T 2 (Int32.toNatClampNeg (nI c))) - Int32.toInt64 (ga T 2 (Int32.toNatClampNeg (nI p))) = cy at *
  have m1 := cross_b (x0 := fx) (x2 := fy) (x4 := bx) (x6 := by') (by omega) (by omega) (by omega) (by omega)
  have m2 := cross_b (x0 := fx) (x2 := fy) (x4 := cx) (x6 := cy) (by omega) (by omega) (by omega) (by omega)
  have m3 := cross_b (x0 := bx) (x2 := by') (x4 := cx) (x6 := cy) (by omega) (by omega) (by omega) (by omega)
  have e1 : (fx * by' - fy * bx).toInt = gO X Y p f b := by rw [m1, dfx, dfy, dbx, dby]; rfl
  have e2 : (fx * cy - fy * cx).toInt = gO X Y p f c := by rw [m2, dfx, dfy, dcx, dcy]; rfl
  have e3 : (bx * cy - by' * cx).toInt = gO X Y p b c := by rw [m3, dbx, dby, dcx, dcy]; rfl
  have z : (0 : Int64).toInt = 0 := rfl
  simp only [m_sign, bd_s, e1, e2]
  have lg : lg_cmp (bx * cy - by' * cx) 0 ≤ 0 ↔ ¬ 0 < gO X Y p b c := by
    rcases cmp_cases (bx * cy - by' * cx) 0 with ⟨k1, k2⟩ | ⟨k1, k2⟩ | ⟨k1, k2⟩ <;> rw [z, e3] at k1 <;> rw [k2]
    · exact ⟨fun _ => by omega, fun _ => by decide⟩
    · exact ⟨fun _ => by omega, fun _ => by decide⟩
    · exact ⟨fun q => absurd q (by decide), fun q => by omega⟩
  generalize gO X Y p b c = O at *
  have hS : SOON X Y p f b c ↔ (0 < gO X Y p f b ∧ gO X Y p f c ≤ 0) ∨ (gO X Y p f b = 0 ∧ gO X Y p f c < 0) ∨ (((0 < gO X Y p f b ∧ 0 < gO X Y p f c) ∨ (gO X Y p f b = 0 ∧ gO X Y p f c = 0) ∨ (gO X Y p f b < 0 ∧ gO X Y p f c < 0)) ∧ 0 < gO X Y p b c) := Iff.rfl
  have e4 : gO X Y p b c = (bx * cy - by' * cx).toInt := by rw [m3, dbx, dby, dcx, dcy]; rfl
  rw [e4, e3] at hS
  -- the nine cases of the signs
  rcases Int.lt_trichotomy (gO X Y p f b) 0 with q1 | q1 | q1 <;> rcases Int.lt_trichotomy (gO X Y p f c) 0 with q2 | q2 | q2
  · have s1 : sg (gO X Y p f b) = -1 := by unfold sg; rw [if_neg (by omega), if_pos q1]
    have s2 : sg (gO X Y p f c) = -1 := by unfold sg; rw [if_neg (by omega), if_pos q2]
    rw [s1, s2, if_pos rfl]
    by_cases w : 0 < O
    · rw [if_neg (fun q => lg.mp q w), b32_t (hS.mpr (by omega))]
    · rw [if_pos (lg.mpr w), b32_f (fun q => by have := hS.mp q; omega)]
  · have s1 : sg (gO X Y p f b) = -1 := by unfold sg; rw [if_neg (by omega), if_pos q1]
    rw [s1, sg_zero.mpr q2, if_neg (by decide), if_pos (by decide), b32_f (fun q => by have := hS.mp q; omega)]
  · have s1 : sg (gO X Y p f b) = -1 := by unfold sg; rw [if_neg (by omega), if_pos q1]
    have s2 : sg (gO X Y p f c) = 1 := by unfold sg; rw [if_pos q2]
    rw [s1, s2, if_neg (by decide), if_pos (by decide), b32_f (fun q => by have := hS.mp q; omega)]
  · have s2 : sg (gO X Y p f c) = -1 := by unfold sg; rw [if_neg (by omega), if_pos q2]
    rw [s2, sg_zero.mpr q1, if_neg (by decide), if_neg (by decide), b32_t (hS.mpr (by omega))]
  · rw [sg_zero.mpr q1, sg_zero.mpr q2, if_pos rfl]
    by_cases w : 0 < O
    · rw [if_neg (fun q => lg.mp q w), b32_t (hS.mpr (by omega))]
    · rw [if_pos (lg.mpr w), b32_f (fun q => by have := hS.mp q; omega)]
  · have s2 : sg (gO X Y p f c) = 1 := by unfold sg; rw [if_pos q2]
    rw [s2, sg_zero.mpr q1, if_neg (by decide), if_pos (by decide), b32_f (fun q => by have := hS.mp q; omega)]
  · have s1 : sg (gO X Y p f b) = 1 := by unfold sg; rw [if_pos q1]
    have s2 : sg (gO X Y p f c) = -1 := by unfold sg; rw [if_neg (by omega), if_pos q2]
    rw [s1, s2, if_neg (by decide), if_neg (by decide), b32_t (hS.mpr (by omega))]
  · have s1 : sg (gO X Y p f b) = 1 := by unfold sg; rw [if_pos q1]
    rw [s1, sg_zero.mpr q2, if_neg (by decide), if_neg (by decide), b32_t (hS.mpr (by omega))]
  · have s1 : sg (gO X Y p f b) = 1 := by unfold sg; rw [if_pos q1]
    have s2 : sg (gO X Y p f c) = 1 := by unfold sg; rw [if_pos q2]
    rw [s1, s2, if_pos rfl]
    by_cases w : 0 < O
    · rw [if_neg (fun q => lg.mp q w), b32_t (hS.mpr (by omega))]
    · rw [if_pos (lg.mpr w), b32_f (fun q => by have := hS.mp q; omega)]
/-- what the search for neighbours leaves alone -/
def frN (S T : St) : Prop := (∀ k, k ≠ 9 → gi T k = gi S k) ∧ T.2.2.1 = S.2.2.1 ∧ ∀ k, k ≠ 10 → ga T k = ga S k
theorem frN.rfl' (S : St) : frN S S := ⟨fun _ _ => rfl, rfl, fun _ _ => rfl⟩
theorem frN.trans {S T R : St} (h : frN S T) (g : frN T R) : frN S R := ⟨fun k a => (g.1 k a).trans (h.1 k a), g.2.1.trans h.2.1, fun k a => (g.2.2 k a).trans (h.2.2 k a)⟩
theorem frN.mp (f : frN S T) (h : MP S n X Y) : MP T n X Y := h.of (f.1 2 (by decide)) f.2.1 (f.2.2 1 (by decide)) (f.2.2 2 (by decide))
theorem frN.ky (f : frN S T) (h : KY S X Y n L) : KY T X Y n L := by
  obtain ⟨h1, h2, ⟨h3, h4, h5⟩, h6, h7⟩ := h
  exact ⟨f.mp h1, by rw [f.1 4 (by decide)]; exact h2, ⟨h3.of (f.2.2 3 (by decide)), h4.of (f.2.2 4 (by decide)), h5.of (f.2.2 5 (by decide))⟩, h6, h7⟩
/-- those that are neighbours, by their numbers -/
theorem m_near_all (h : KY S X Y n L) {p : Nat} (hp : p < n) {Q : Option St → Prop} (hQ : ∀ T N, frN S T → HL T 10 N → gi T 9 = nI N.length → N.Pairwise (· < ·) → (∀ x, x ∈ N ↔ x < n ∧ NBR X Y n L p x) → N.length ≤ n → Q (f_Md_findNeighbours_56 FU (nI p) 2 T)) : ∀ (d fuel k : Nat) (T : St) (N : List Nat), k + d = n → d < fuel → frN S T → HL T 10 N → gi T 9 = nI N.length → N.Pairwise (· < ·) → (∀ x, x ∈ N ↔ x < k ∧ NBR X Y n L p x) → N.length ≤ k → Q (f_Md_findNeighbours_11 fuel (nI p) (nI k) T) := by
  have hn := h.1.2.1
  intro d
  induction d with
  | zero =>
    intro fuel k T N hk hf fr hN h9 hs hm hl
    obtain ⟨fuel, rfl⟩ : ∃ j, fuel = j + 1 := ⟨fuel - 1, by omega⟩
    have : k = n := by omega
    subst this
    rw [f_Md_findNeighbours_11]
    dsimp only
    rw [(fr.mp h.1).1, if_pos (Int32.le_refl _)]
    exact hQ T N fr hN h9 hs hm hl
  | succ d ih =>
    intro fuel k T N hk hf fr hN h9 hs hm hl
    obtain ⟨fuel, rfl⟩ : ∃ j, fuel = j + 1 := ⟨fuel - 1, by omega⟩
    have hkn : k < n := by omega
    have hT := fr.ky h
    rw [f_Md_findNeighbours_11]
    dsimp only
    rw [hT.1.1, if_neg (nI_ge hkn (by omega)), m_areNeighbours hT hp hkn, bd_s]
    dsimp only
    unfold f_Md_findNeighbours_48
    by_cases c : NBR X Y n L p k
    · rw [b32_t c, if_neg (by decide), h9, hT.1.2.2.1.2.2.2.2.2.2.2.2.2.1, inb_n (by omega) (by omega), as_s, bn_s, bn_s, bn_s, nI_clampN (by omega), nI_1]
      refine ih fuel (k + 1) _ (N ++ [k]) (by omega) (by omega) ⟨fun j hj => ?_, fr.2.1, fun j hj => ?_⟩ (hN.put (by rw [ga_seti, ga_seta])) ?_ ?_ (fun x => ?_) (by simp; omega)
      · rw [gi_seti_ne _ _ hj, gi_seta]; exact fr.1 j hj
      · rw [ga_seti, ga_seta_ne _ _ hj]; exact fr.2.2 j hj
      · rw [gi_seti, gi_seta, h9, nI_1]; simp
      · rw [List.pairwise_append]
        refine ⟨hs, by simp, fun a ha b hb => ?_⟩
        rw [List.mem_singleton.mp hb]
        exact ((hm a).mp ha).1
      · rw [List.mem_append, List.mem_singleton, hm]
        constructor
        · rintro (q | q)
          · exact ⟨by omega, q.2⟩
          · rw [q]; exact ⟨by omega, c⟩
        · rintro ⟨q1, q2⟩
          by_cases e : x = k
          · exact Or.inr e
          · exact Or.inl ⟨by omega, q2⟩
    · rw [b32_f c, if_pos rfl, bn_s, nI_1]
      refine ih fuel (k + 1) T N (by omega) (by omega) fr hN h9 hs (fun x => ?_) (by omega)
      rw [hm]
      constructor
      · exact fun q => ⟨by omega, q.2⟩
      · rintro ⟨q1, q2⟩
        by_cases e : x = k
        · rw [e] at q2; exact absurd q2 c
        · exact ⟨by omega, q2⟩
/-- a new one among those in order -/
theorem m_nsort_in {p f x : Nat} (hp : p < n) (hf : f < n) (df : dif X Y p f) {D : List Nat} {n0 : Nat} (k2 : Int32 → Int32 → St → Option St) (k : Int32) : ∀ (d fuel : Nat) (A B : List Nat) (T : St), A.length = d → d < fuel → MP T n X Y → HL T 10 (f :: (A ++ x :: (B ++ D))) → (A ++ x :: (B ++ D)).length = n0 → n0 < n → (∀ y ∈ A ++ x :: (B ++ D), y < n) → (∀ a ∈ A, x ≠ a → SOON X Y p f a x ∨ SOON X Y p f x a) → (∀ a ∈ A, x ≠ a) → (A ++ B).Pairwise (SOON X Y p f) → (∀ b ∈ B, SOON X Y p f x b) → ∃ T' A' B', A' ++ B' = A ++ B ∧ (A' ++ x :: B').Pairwise (SOON X Y p f) ∧ HL T' 10 (f :: (A' ++ x :: (B' ++ D))) ∧ frN T T' ∧ gi T' 9 = gi T 9 ∧ f_Md_findNeighbours_66 k2 fuel (nI p) k (nI (A.length + 1)) T = f_Md_findNeighbours_137 k2 (nI p) k T' := by
  intro d
  induction d with
  | zero =>
    intro fuel A B T hA hfu hT h hl hl2 hs htot hne hpw hB
    obtain ⟨fuel, rfl⟩ : ∃ j, fuel = j + 1 := ⟨fuel - 1, by omega⟩
    have : A = [] := List.eq_nil_of_length_eq_zero hA
    subst this
    refine ⟨T, [], B, rfl, List.pairwise_cons.mpr ⟨hB, hpw⟩, h, frN.rfl' T, rfl, ?_⟩
    rw [f_Md_findNeighbours_66]
    dsimp only
    rw [if_pos (show nI (([] : List Nat).length + 1) ≤ 1 from (show nI 1 ≤ nI 1 from nI_le (Nat.le_refl _) (by omega)))]
  | succ d ih =>
    intro fuel A B T hA hfu hT h hl hl2 hs htot hne hpw hB
    obtain ⟨fuel, rfl⟩ : ∃ j, fuel = j + 1 := ⟨fuel - 1, by omega⟩
    have hn := hT.2.1
    obtain ⟨A0, y, rfl⟩ : ∃ A0 y, A = A0 ++ [y] := ⟨A.dropLast, A.getLast (by intro q; rw [q] at hA; simp at hA), (List.dropLast_concat_getLast _).symm⟩
    have hA0 : A0.length = d := by simpa using hA
    have eq : (A0 ++ [y]) ++ x :: (B ++ D) = A0 ++ y :: x :: (B ++ D) := by simp
    rw [eq] at h hl hs
    have ll : (A0 ++ y :: x :: (B ++ D)).length = A0.length + ((B ++ D).length + 2) := by simp
    have yn : y < n := hs y (by simp)
    have xn : x < n := hs x (by simp)
    have l10 := hT.2.2.1.2.2.2.2.2.2.2.2.2.1
    have gx : ga T 10 (A0.length + 2) = nI x := by
      have t := h (A0.length + 2) (by simp; omega)
      have e : (f :: (A0 ++ y :: x :: (B ++ D))).getD (A0.length + 2) 0 = x := by
        show (A0 ++ y :: x :: (B ++ D)).getD (A0.length + 1) 0 = x
        rw [swap_getD, if_neg (by omega), if_pos rfl]
      rw [e] at t; exact t
    have gy : ga T 10 (A0.length + 1) = nI y := by
      have t := h (A0.length + 1) (by simp)
      have e : (f :: (A0 ++ y :: x :: (B ++ D))).getD (A0.length + 1) 0 = y := by
        show (A0 ++ y :: x :: (B ++ D)).getD A0.length 0 = y
        rw [swap_getD, if_pos rfl]
      rw [e] at t; exact t
    have g0 : ga T 10 0 = nI f := h 0 (by simp)
    rw [f_Md_findNeighbours_66]
    dsimp only
    rw [show (A0 ++ [y]).length + 1 = A0.length + 2 by simp, if_neg (show ¬ nI (A0.length + 2) ≤ 1 from (show ¬ nI (A0.length + 2) ≤ nI 1 from nI_ge (by omega) (by omega))), l10, show inb 0 1024 = true from rfl, as_s, inb_n (by omega) (by omega), as_s, show nI (A0.length + 2) - 1 = nI (A0.length + 1) from nI_pred (A0.length + 1), inb_n (by omega) (by omega), as_s, show Int32.toNatClampNeg 0 = 0 from rfl, nI_clampN (by omega), nI_clampN (by omega), g0, gx, gy, m_isSooner hT hp hf xn yn, bd_s]
    dsimp only
    by_cases c : SOON X Y p f x y
    · rw [b32_t c, if_neg (by decide), l10, inb_n (by omega) (by omega), as_s, bn_s, inb_n (by omega) (by omega), as_s, as_s, bn_s, show gn (seta T 10 (upd (ga T 10) (A0.length + 2) (ga T 10 (A0.length + 1)))) 10 = 1024 from l10, inb_n (by omega) (by omega), as_s, bn_s, bn_s, show nI (A0.length + 2) + (-1) = nI (A0.length + 1) by
        rw [← Int32.sub_eq_add_neg]; exact nI_pred (A0.length + 1)]
      generalize hU : seta (seta T 10 (upd (ga T 10) (A0.length + 2) (ga T 10 (A0.length + 1)))) 10 (upd (ga (seta T 10 (upd (ga T 10) (A0.length + 2) (ga T 10 (A0.length + 1)))) 10) (A0.length + 1) (ga T 10 (A0.length + 2))) = U
      have frU : frN T U := by
        rw [← hU]
        exact ⟨fun _ _ => rfl, rfl, fun k hk => by rw [ga_seta_ne _ _ hk, ga_seta_ne _ _ hk]⟩
      have u9 : gi U 9 = gi T 9 := by rw [← hU]; rfl
      have hLU : HL U 10 (f :: (A0 ++ x :: y :: (B ++ D))) := by
        have h' : HL T 10 ((f :: A0) ++ y :: x :: (B ++ D)) := h
        have := h'.swap (T := U) (by
          rw [← hU, ga_seta, ga_seta]
          rfl)
        exact this
      have pm : (A0 ++ x :: y :: (B ++ D)).Perm (A0 ++ y :: x :: (B ++ D)) := List.Perm.append_left _ (List.Perm.swap _ _ _)
      have hpw' : (A0 ++ (y :: B)).Pairwise (SOON X Y p f) := by
        have : A0 ++ [y] ++ B = A0 ++ (y :: B) := by simp
        rw [this] at hpw; exact hpw
      obtain ⟨T', A', B', r1, r2, r3, r4, r5, r6⟩ := ih fuel A0 (y :: B) U hA0 (by omega) (frU.mp hT) hLU (by rw [← hl]; exact pm.length_eq) hl2 (fun t ht => hs t (pm.mem_iff.mp ht)) (fun a ha => htot a (by simp [ha])) (fun a ha => hne a (by simp [ha])) hpw' (fun b hb => by
        rcases List.mem_cons.mp hb with q | q
        · rw [q]; exact c
        · exact hB b q)
      exact ⟨T', A', B', by rw [r1]; simp, r2, r3, frU.trans r4, r5.trans u9, r6⟩
    · rw [b32_f c, if_pos rfl]
      refine ⟨T, A0 ++ [y], B, rfl, ?_, by rw [eq]; exact h, frN.rfl' T, rfl, rfl⟩
      have yx : SOON X Y p f y x := (htot y (by simp) (hne y (by simp))).resolve_right c
      rw [List.pairwise_append] at hpw ⊢
      refine ⟨hpw.1, List.pairwise_cons.mpr ⟨hB, hpw.2.1⟩, fun a ha b hb => ?_⟩
      have ax : SOON X Y p f a x := by
        rcases List.mem_append.mp ha with q | q
        · exact ((List.pairwise_append.mp hpw.1).2.2 a q y (by simp)).trans df yx
        · rw [List.mem_singleton.mp q]; exact yx
      rcases List.mem_cons.mp hb with q | q
      · rw [q]; exact ax
      · exact hpw.2.2 a ha b q
theorem m_nsort {p f : Nat} (hp : p < n) (hf : f < n) (df : dif X Y p f) {n0 : Nat} : ∀ (d fuel : Nat) (P D : List Nat) (T : St), D.length = d → d < fuel → MP T n X Y → HL T 10 (f :: (P ++ D)) → gi T 9 = nI (n0 + 1) → (P ++ D).length = n0 → n0 < n → (∀ y ∈ P ++ D, y < n) → (∀ a ∈ P ++ D, ∀ b ∈ P ++ D, a ≠ b → SOON X Y p f a b ∨ SOON X Y p f b a) → (P ++ D).Nodup → P.Pairwise (SOON X Y p f) → ∃ T' R, f_Md_findNeighbours_56 fuel (nI p) (nI (P.length + 1)) T = some T' ∧ R.Pairwise (SOON X Y p f) ∧ R.Perm (P ++ D) ∧ HL T' 10 (f :: R) ∧ frN T T' ∧ gi T' 9 = gi T 9 := by
  intro d
  induction d with
  | zero =>
    intro fuel P D T hD hfu hT h h9 hl hl2 hs htot hn hpw
    obtain ⟨fuel, rfl⟩ : ∃ j, fuel = j + 1 := ⟨fuel - 1, by omega⟩
    have : D = [] := List.eq_nil_of_length_eq_zero hD
    subst this
    have hn5 := hT.2.1
    rw [List.append_nil] at h hl
    rw [f_Md_findNeighbours_56]
    dsimp only
    rw [h9, if_pos (nI_le (by omega) (by omega))]
    exact ⟨T, P, rfl, hpw, by rw [List.append_nil], h, frN.rfl' T, h9⟩
  | succ d ih =>
    intro fuel P D T hD hfu hT h h9 hl hl2 hs htot hn hpw
    obtain ⟨fuel, rfl⟩ : ∃ j, fuel = j + 1 := ⟨fuel - 1, by omega⟩
    have hn5 := hT.2.1
    obtain ⟨x, D', rfl⟩ : ∃ x D', D = x :: D' := by
      cases D with
      | nil => simp at hD
      | cons x D' => exact ⟨x, D', rfl⟩
    have ll : (P ++ x :: D').length = P.length + (D'.length + 1) := by simp
    have hD' : D'.length = d := by simpa using hD
    have xne : ∀ a ∈ P, x ≠ a := by
      intro a ha e
      rw [List.nodup_append] at hn
      exact hn.2.2 a ha x (List.mem_cons_self ..) e.symm
    rw [f_Md_findNeighbours_56]
    dsimp only
    rw [h9, if_neg (nI_ge (by omega) (by omega))]
    obtain ⟨T1, A', B', r1, r2, r3, r4, r5, r6⟩ := m_nsort_in hp hf df (D := D') (x := x) (n0 := n0) (f_Md_findNeighbours_56 fuel) (nI (P.length + 1)) P.length FU P [] T rfl (by have := FU_big; omega) hT (by rw [List.nil_append]; exact h) (by rw [List.nil_append]; exact hl) hl2 (by rw [List.nil_append]; exact hs) (fun a ha hxa => htot a (List.mem_append.mpr (Or.inl ha)) x (List.mem_append.mpr (Or.inr (List.mem_cons_self ..))) (fun q => hxa q.symm)) xne (by rw [List.append_nil]; exact hpw) (fun b hb => absurd hb List.not_mem_nil)
    rw [r6]
    unfold f_Md_findNeighbours_137
    rw [bn_s, nI_1]
    rw [List.append_nil] at r1
    have e2 : (A' ++ x :: B') ++ D' = A' ++ x :: (B' ++ D') := by simp
    have pm : ((A' ++ x :: B') ++ D').Perm (P ++ x :: D') := by
      have p1 : (A' ++ x :: B').Perm (x :: (A' ++ B')) := List.perm_middle
      have p2 : (P ++ x :: D').Perm (x :: (P ++ D')) := List.perm_middle
      refine List.Perm.trans (List.Perm.append_right D' p1) (List.Perm.trans ?_ p2.symm)
      rw [r1]
      exact List.Perm.refl _
    have len : (A' ++ x :: B').length = P.length + 1 := by
      have := congrArg List.length r1
      simp at this
      simp
      omega
    obtain ⟨T', R, s1, s2, s3, s4, s5, s6⟩ := ih fuel (A' ++ x :: B') D' T1 hD' (by omega) (r4.mp hT) (by rw [e2]; exact r3) (by rw [r5]; exact h9) (by rw [pm.length_eq]; exact hl) hl2 (fun t ht => hs t (pm.mem_iff.mp ht)) (fun a ha b hb => htot a (pm.mem_iff.mp ha) b (pm.mem_iff.mp hb)) (pm.nodup_iff.mpr hn) r2
    rw [len] at s1
    exact ⟨T', R, s1, s2, s3.trans pm, s4, r4.trans s5, s6.trans (r5.trans h9)⟩
end
