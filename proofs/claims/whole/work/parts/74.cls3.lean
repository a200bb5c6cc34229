/-! THE CLASS'S STATE, 3: add -/
theorem inb_n {i n : Nat} (h : i < n) (hn : n < 2 ^ 31) : inb (nI i) n = true := by
  unfold inb
  rw [nI_toInt (by omega)]
  exact decide_eq_true (by omega)
theorem nI_clampN {i : Nat} (h : i < 2 ^ 31) : Int32.toNatClampNeg (nI i) = i := by
  show (nI i).toInt.toNat = i
  rw [nI_toInt h]
  rfl
theorem f_forgetFound {S : St} (h : gn S 30 = 3) : ∃ T, f_Pn_forgetFound S = some T ∧ T.1 = S.1 ∧ T.2.1 = S.2.1 ∧ T.2.2.1 = S.2.2.1 ∧ (∀ k, k ≠ 30 → ga T k = ga S k) ∧ ∀ i, i < 3 → ga T 30 i = -1 := by
  obtain ⟨k, hk⟩ : ∃ k, FU = k + 1 + 1 + 1 + 1 := ⟨FU - 4, by have := FU_big; omega⟩
  unfold f_Pn_forgetFound f_Pn_forgetFound_0 f_Ar_fill f_Ar_fill_0
  have g : ∀ (T : St) f, gn (seta T 30 f) 30 = gn T 30 := fun _ _ => rfl
  rw [h, hk, bn_s, f_Ar_fill_5]
  dsimp only
  rw [if_neg (by decide), h, show inb 0 3 = true by decide, as_s, bn_s, bn_s, f_Ar_fill_5]
  dsimp only
  rw [if_neg (by decide), g, h, show inb (0 + 1) 3 = true by decide, as_s, bn_s, bn_s, f_Ar_fill_5]
  dsimp only
  rw [if_neg (by decide), g, g, h, show inb (0 + 1 + 1) 3 = true by decide, as_s, bn_s, bn_s, f_Ar_fill_5]
  dsimp only
  rw [if_pos (by decide), bd_s]
  refine ⟨_, rfl, rfl, rfl, rfl, fun j hj => ?_, fun i hi => ?_⟩
  · rw [ga_seta_ne _ _ hj, ga_seta_ne _ _ hj, ga_seta_ne _ _ hj]
  · rw [ga_seta, ga_seta, ga_seta]
    rw [show Int32.toNatClampNeg 0 = 0 from rfl, show Int32.toNatClampNeg (0 + 1) = 1 from rfl, show Int32.toNatClampNeg (0 + 1 + 1) = 2 from rfl]
    simp only [upd_at]
    rcases (show i = 0 ∨ i = 1 ∨ i = 2 by omega) with q | q | q <;> rw [q] <;> rfl
theorem f_forgetAnswers {S : St} (h : gn S 30 = 3) : ∃ T, f_Pn_forgetAnswers S = some T ∧ (∀ k, k ≠ 10 → k ≠ 12 → gi T k = gi S k) ∧ T.2.1 = S.2.1 ∧ T.2.2.1 = S.2.2.1 ∧ (∀ k, k ≠ 30 → ga T k = ga S k) ∧ (∀ i, i < 3 → ga T 30 i = -1) ∧ gi T 10 = 0 ∧ gi T 12 = 0 := by
  obtain ⟨T, q1, q2, q3, q4, q5, q6⟩ := f_forgetFound h
  unfold f_Pn_forgetAnswers f_Pn_forgetAnswers_0 f_Rl_forget f_Rl_forget_0 f_Ol_forget f_Ol_forget_0
  rw [q1, bd_s, bn_s, bd_s, bn_s, bd_s]
  refine ⟨_, rfl, fun k a b => ?_, q3, q4, q5, q6, ?_, ?_⟩
  · rw [gi_seti_ne _ _ b, gi_seti_ne _ _ a]
    show T.1 k = S.1 k
    rw [q2]
  · rw [gi_seti_ne _ _ (by decide), gi_seti]
  · rw [gi_seti]
/-- the class's state -/
def CS (S : St) (X Y : Nat → Int) (G n stp : Nat) : Prop := CI S X Y G n ∧ NP S X Y G n ∧ CLO S X Y n ∧ (∃ mk, mk ≤ 2000 * stp ∧ MK S mk) ∧ gn S 30 = 3 ∧ n ≤ stp
/-- nothing moved but what is remembered of answers -/
def frA (S T : St) : Prop := (∀ k, k < 10 → gi T k = gi S k) ∧ T.2.1 0 = S.2.1 0 ∧ T.2.2.1 = S.2.2.1 ∧ ∀ k, k < 14 → ga T k = ga S k
theorem frA.rfl' (S : St) : frA S S := ⟨fun _ _ => rfl, rfl, rfl, fun _ _ => rfl⟩
theorem frA.trans {S T R : St} (h : frA S T) (g : frA T R) : frA S R := ⟨fun k a => (g.1 k a).trans (h.1 k a), g.2.1.trans h.2.1, g.2.2.1.trans h.2.2.1, fun k a => (g.2.2.2 k a).trans (h.2.2.2 k a)⟩
theorem PV.ofA {S T : St} {X Y : Nat → Int} {n : Nat} (h : PV S n X Y) (hn : T.2.2.1 = S.2.2.1) (a6 : ga T 6 = ga S 6) (a7 : ga T 7 = ga S 7) : PV T n X Y := ⟨h.1.of hn, h.2.1.of hn, by rw [a6, a7]; exact h.2.2.1, h.2.2.2⟩
theorem frA.pv {S T : St} {X Y : Nat → Int} {n : Nat} (f : frA S T) (h : PV S n X Y) : PV T n X Y := h.ofA f.2.2.1 (f.2.2.2 6 (by decide)) (f.2.2.2 7 (by decide))
theorem frA.ni {S T : St} {X Y : Nat → Int} {G n m : Nat} {s tw lv : Nat → Nat} {P : List Nat} (f : frA S T) (h : NI S X Y G n m s tw lv P) : NI T X Y G n m s tw lv P := by
  obtain ⟨⟨h1, h2, h3, h4, h5, h6, h7, h8⟩, hD, ⟨l1, l2, l3⟩, ho, hl⟩ := h
  have hi := f.1
  have ha := f.2.2.2
  have hn := f.2.2.1
  refine ⟨⟨by rw [hi 4 (by decide)]; exact h1, by rw [hi 6 (by decide)]; exact h2, h3, h4, h5.of hn, h6.of hn, ?_, ?_⟩, hD, ⟨l1.of hn, ?_, ?_⟩, by rw [hi 7 (by decide)]; exact ho, hl⟩
  · rw [ha 8 (by decide)]; exact h7
  · rw [ha 9 (by decide)]; exact h8
  · rw [ha 10 (by decide)]; exact l2
  · rw [ha 10 (by decide)]; exact l3
theorem frA.cs {S T : St} {X Y : Nat → Int} {G n stp : Nat} (f : frA S T) (h : CS S X Y G n stp) : CS T X Y G n stp := by
  obtain ⟨⟨c1, c2, c3, c4, c5, c6, c7, c8, c9, c10, c11⟩, hN, hC, ⟨mk, hb, hM⟩, h30, hs⟩ := h
  have hi := f.1
  have ha := f.2.2.2
  have hn := f.2.2.1
  refine ⟨⟨by rw [hi 2 (by decide)]; exact c1, by rw [hi 4 (by decide)]; exact c2, c3, c4, by rw [hi 3 (by decide)]; exact c5, c6, f.pv c7, c8, c9.of hn, fun q => (c10 q).of hn, c11.of hn⟩, ?_, ?_, ⟨mk, hb, by rw [hi 5 (by decide)]; exact hM.1, by rw [ha 11 (by decide)]; exact hM.2⟩, by show T.2.2.1 30 = 3; rw [hn]; exact h30, hs⟩
  · rcases hN with ⟨q1, q2, q3⟩ | ⟨m, s, tw, lv, P, q1, q2⟩
    · exact Or.inl ⟨by rw [hi 6 (by decide)]; exact q1, by rw [hi 7 (by decide)]; exact q2, q3⟩
    · exact Or.inr ⟨m, s, tw, lv, P, f.ni q1, q2⟩
  · unfold CLO at *
    rw [hi 0 (by decide), hi 1 (by decide)]
    have : gl T 0 = gl S 0 := f.2.1
    rw [this]
    exact hC
theorem CS.more {S : St} {X Y : Nat → Int} {G n stp : Nat} (h : CS S X Y G n stp) : CS S X Y G n (stp + 1) := by
  obtain ⟨a, b, c, ⟨mk, hb, hM⟩, d, e⟩ := h
  exact ⟨a, b, c, ⟨mk, by omega, hM⟩, d, by omega⟩
/-- the closest two, with a point more -/
theorem D2_sym (X Y : Nat → Int) (i j : Nat) : D2 X Y i (X j) (Y j) = D2 X Y j (X i) (Y i) := by unfold D2; grind
theorem closest_new {X Y : Nat → Int} {n a b near : Nat} (h : isClosest X Y n a b) (hr : isNear X Y n (X n) (Y n) near) : (D2 X Y near (X n) (Y n) < D2 X Y a (X b) (Y b) ∨ (D2 X Y near (X n) (Y n) = D2 X Y a (X b) (Y b) ∧ near < a) → isClosest X Y (n + 1) near n) ∧ (¬ (D2 X Y near (X n) (Y n) < D2 X Y a (X b) (Y b) ∨ (D2 X Y near (X n) (Y n) = D2 X Y a (X b) (Y b) ∧ near < a)) → isClosest X Y (n + 1) a b) := by
  obtain ⟨h1, h2, h3⟩ := h
  obtain ⟨r1, r2⟩ := hr
  constructor
  · intro q
    refine ⟨r1, by omega, fun i j hij hj => ?_⟩
    by_cases c : j = n
    · subst c
      have := r2 i hij
      refine ⟨this.1, fun e => ?_⟩
      have := this.2 e
      omega
    · have := h3 i j hij (by omega)
      refine ⟨by omega, fun e => ?_⟩
      rcases q with q | q
      · omega
      · have := this.2 (by omega); omega
  · intro q
    refine ⟨h1, by omega, fun i j hij hj => ?_⟩
    by_cases c : j = n
    · subst c
      have := r2 i hij
      refine ⟨by omega, fun e => ?_⟩
      have e2 : D2 X Y near (X j) (Y j) = D2 X Y a (X b) (Y b) := by omega
      have := this.2 (by omega)
      omega
    · exact h3 i j hij (by omega)
theorem f_noteClosest {S : St} {X Y : Nat → Int} {n near : Nat} (hP : PV S (n + 1) X Y) (hC : CLO S X Y n) (hr : isNear X Y n (X n) (Y n) near) : ∃ T, f_Pn_noteClosest (nI near) (nI n) S = some T ∧ CLO T X Y (n + 1) ∧ (∀ k, k ≠ 0 → k ≠ 1 → gi T k = gi S k) ∧ T.2.2 = S.2.2 := by
  have hn := hP.2.2.2
  have r1 := hr.1
  unfold f_Pn_noteClosest f_Pn_noteClosest_0
  rw [if_neg (by rw [eq32, nI_toInt (by omega)]; show ¬ (near : Int) = -1; omega), f_xp hP (by omega), bd_s]
  dsimp only
  rw [f_yp hP (by omega), bd_s]
  dsimp only
  obtain ⟨g, g1, g2⟩ := f_gap hP (a := near) (by omega) (hP.inP (i := n) (by omega))
  rw [g1, bd_s]
  dsimp only
  rw [(hP.2.2.1 n (by omega)).1, (hP.2.2.1 n (by omega)).2.1] at g2
  have g2 : g.toInt = D2 X Y near (X n) (Y n) := g2
  have fin : isClosest X Y (n + 1) near n → ∃ T, f_Pn_noteClosest_65 (nI near) (nI n) g S = some T ∧ CLO T X Y (n + 1) ∧ (∀ k, k ≠ 0 → k ≠ 1 → gi T k = gi S k) ∧ T.2.2 = S.2.2 := by
    intro hc
    unfold f_Pn_noteClosest_65
    rw [bn_s, bn_s, bn_s]
    refine ⟨_, rfl, ⟨fun q => by omega, fun _ => ⟨near, n, hc, ?_, ?_, ?_⟩⟩, fun k a b => ?_, rfl⟩
    · rw [gi_seti_ne _ _ (by decide), gi_seti]
    · rw [gi_seti]
    · show (up1 S.2.1 0 g 0).toInt = _
      rw [up1_same]
      exact g2
    · rw [gi_seti_ne _ _ b, gi_seti_ne _ _ a]; rfl
  by_cases c : n < 2
  · rw [if_pos (hC.1 c)]
    refine fin ⟨r1, by omega, fun i j hij hj => ?_⟩
    have e1 : i = 0 := by omega
    have e2 : j = 1 := by omega
    have e3 : n = 1 := by omega
    have e4 : near = 0 := by omega
    rw [e1, e2, e3, e4]
    exact ⟨Int.le_refl _, fun _ => Or.inr ⟨rfl, Nat.le_refl _⟩⟩
  · obtain ⟨a, b, ab, b1, b2, b3⟩ := hC.2 (by omega)
    have new := closest_new ab hr
    have ab1 := ab.1
    have ab2 := ab.2.1
    have keep : isClosest X Y (n + 1) a b → ∃ T, some S = some T ∧ CLO T X Y (n + 1) ∧ (∀ k, k ≠ 0 → k ≠ 1 → gi T k = gi S k) ∧ T.2.2 = S.2.2 := fun hc => ⟨S, rfl, ⟨fun q => by omega, fun _ => ⟨a, b, hc, b1, b2, b3⟩⟩, fun _ _ _ => rfl, rfl⟩
    rw [b1, if_neg (by rw [eq32, nI_toInt (by omega)]; show ¬ (a : Int) = -1; omega)]
    rcases cmp_cases g (gl S 0) with ⟨k1, k2⟩ | ⟨k1, k2⟩ | ⟨k1, k2⟩
    · rw [k2, if_pos (by decide)]
      exact fin (new.1 (by omega))
    · rw [k2, if_neg (by decide), if_pos rfl]
      by_cases q : a ≤ near
      · rw [if_pos (nI_le q (by omega))]
        exact keep (new.2 (by omega))
      · rw [if_neg (nI_ge (by omega) (by omega))]
        exact fin (new.1 (by omega))
    · rw [k2, if_neg (by decide), if_neg (by decide)]
      exact keep (new.2 (by omega))
