/-! TAKING AWAY, as the class reckons it -/
/-- the same but for what the wide sum holds -/
def sameW (S T : St) : Prop := T.1 = S.1 ∧ T.2.2 = S.2.2 ∧ T.2.1 0 = S.2.1 0
theorem sameW.rfl' (S : St) : sameW S S := ⟨rfl, rfl, rfl⟩
theorem sameW.trans {S T R : St} (h : sameW S T) (g : sameW T R) : sameW S R := ⟨g.1.trans h.1, g.2.1.trans h.2.1, g.2.2.trans h.2.2⟩
theorem sameW_set (S : St) (h l : Int64) : sameW S (setl (setl S 2 l) 1 h) := ⟨rfl, rfl, rfl⟩
theorem sameW_set2 (S : St) (h l : Int64) : sameW S (setl (setl S 1 h) 2 l) := ⟨rfl, rfl, rfl⟩
theorem PV.same {S T : St} {n : Nat} {X Y : Nat → Int} (h : PV S n X Y) (e : sameW S T) : PV T n X Y := by
  unfold PV Cap at *
  have e1 : ∀ k, gn T k = gn S k := fun k => by show T.2.2.1 k = S.2.2.1 k; rw [e.2.1]
  have e2 : ∀ k, ga T k = ga S k := fun k => by show T.2.2.2 k = S.2.2.2 k; rw [e.2.1]
  simp only [e1, e2]
  exact h
theorem f_addProduct (a b : Int64) (S : St) (h1 : -170141183460469231731687303715884105728 ≤ v128 (gl S 1) (gl S 2) + a.toInt * b.toInt) (h2 : v128 (gl S 1) (gl S 2) + a.toInt * b.toInt < 170141183460469231731687303715884105728) : ∃ h l, f_Wd_addProduct a b S = some (setl (setl S 2 l) 1 h) ∧ v128 h l = v128 (gl S 1) (gl S 2) + a.toInt * b.toInt := by
  refine ⟨_, _, by unfold f_Wd_addProduct f_Wd_addProduct_0; simp only [bn_s]; rfl, ?_⟩
  exact wide_add h1 h2 (shr32 a) (and_low a) (shr32 b) (and_low b) (ushr32 _) rfl rfl (shr32 _) (shr32 _) rfl rfl rfl (carry63 _ _ _ rfl)
theorem f_sign (S : St) : ∃ r : Int32, f_Wd_sign S = some (r, S) ∧ (r = 0 ↔ v128 (gl S 1) (gl S 2) = 0) ∧ (0 ≤ r ↔ 0 ≤ v128 (gl S 1) (gl S 2)) := by
  have hu := U6_lt (gl S 2)
  unfold f_Wd_sign f_Wd_sign_0 v128
  by_cases c1 : 0 ≤ lg_cmp (gl S 1) 0
  · rw [if_pos c1]
    rw [cmp_nn] at c1
    have c1 : 0 ≤ (gl S 1).toInt := c1
    by_cases c2 : lg_cmp (gl S 1) 0 = 0
    · rw [if_pos c2]
      rw [cmp_z] at c2
      have c2 : (gl S 1).toInt = 0 := c2
      by_cases c3 : lg_cmp (gl S 2) 0 = 0
      · rw [if_pos c3]
        rw [cmp_z] at c3
        have c3 : (gl S 2).toInt = 0 := c3
        have := U6_mod (gl S 2)
        exact ⟨0, rfl, by simp; omega, by simp; omega⟩
      · rw [if_neg c3]
        rw [cmp_z] at c3
        have c3 : ¬ (gl S 2).toInt = 0 := c3
        have := U6_int (gl S 2)
        refine ⟨1, rfl, ⟨fun q => absurd q (by decide), fun q => ?_⟩, ⟨fun _ => by omega, fun _ => by decide⟩⟩
        split at this <;> omega
    · rw [if_neg c2]
      rw [cmp_z] at c2
      have c2 : ¬ (gl S 1).toInt = 0 := c2
      exact ⟨1, rfl, ⟨fun q => absurd q (by decide), fun q => by omega⟩, ⟨fun _ => by omega, fun _ => by decide⟩⟩
  · rw [if_neg c1]
    rw [cmp_nn] at c1
    have c1 : ¬ 0 ≤ (gl S 1).toInt := c1
    exact ⟨-1, rfl, ⟨fun q => absurd q (by decide), fun q => by omega⟩, ⟨fun q => absurd q (by decide), fun q => by omega⟩⟩
section
variable {S : St} {n : Nat} {X Y : Nat → Int}
theorem PV.in (h : PV S n X Y) {i : Nat} (hi : i < n) : inR X Y i := (h.2.2.1 i hi).2.2
theorem PV.inP (h : PV S n X Y) {i : Nat} (hi : i < n) : inP (ga S 6 i).toInt (ga S 7 i).toInt := by
  obtain ⟨a, b, c⟩ := h.2.2.1 i hi
  rw [a, b]
  exact c
/-- a turn to a point that is there -/
theorem f_turnP (h : PV S n X Y) {a b d : Nat} (ha : a < n) (hb : b < n) (hd : d < n) : ∃ r : Int64, f_Pt_turn (nI a) (nI b) (ga S 6 d) (ga S 7 d) S = some (r, S) ∧ r.toInt = gO X Y a b d := by
  obtain ⟨r, e1, e2⟩ := f_turn h ha hb (h.inP hd)
  refine ⟨r, e1, ?_⟩
  obtain ⟨p, q, -⟩ := h.2.2.1 d hd
  rw [e2, p, q]
  rfl
theorem gDot_b {f a b : Nat} (hf : inR X Y f) (ha : inR X Y a) (hb : inR X Y b) : -8000000000000000000 ≤ gDot X Y f a b ∧ gDot X Y f a b ≤ 8000000000000000000 := by
  unfold inR at *
  have b1 := prod_b (B := 2000000000) (u := X a - X f) (v := X b - X f) (by omega) (by omega) (by omega) (by omega)
  have b2 := prod_b (B := 2000000000) (u := Y a - Y f) (v := Y b - Y f) (by omega) (by omega) (by omega) (by omega)
  unfold gDot
  omega
theorem lt_turn {r : Int64} {z : Int} (e : r.toInt = z) (S : St) : (if 0 ≤ lg_cmp r 0 then some ((0 : Int32), S) else some (1, S)) = some (b32 (z < 0), S) := by
  by_cases c : 0 ≤ lg_cmp r 0
  · rw [if_pos c, b32_f]
    rw [cmp_nn, e] at c
    have c : 0 ≤ z := c
    omega
  · rw [if_neg c, b32_t]
    rw [cmp_nn, e] at c
    have c : ¬ 0 ≤ z := c
    omega
theorem b32_congr {p q : Prop} (h : p ↔ q) : b32 p = b32 q := by
  by_cases hp : p
  · rw [b32_t hp, b32_t (h.mp hp)]
  · rw [b32_f hp, b32_f (fun z => hp (h.mpr z))]
theorem takes_189 (h : PV S n X Y) {a b c d : Nat} (ha : a < n) (hb : b < n) (hc : c < n) (hd : d < n) : f_Pt_takesAway_189 (nI d) (nI a) (nI b) (nI c) S = some (b32 ((gLess X Y b c ∧ gO X Y c a d < 0) ∨ (¬ gLess X Y b c ∧ gO X Y a b d < 0)), S) := by
  unfold f_Pt_takesAway_189
  rw [f_isLess h hb hc, bd_s]
  dsimp only
  by_cases q : gLess X Y b c
  · rw [b32_t q, if_neg (by decide), h.x hd, bd_s]
    dsimp only
    rw [h.y hd, bd_s]
    dsimp only
    obtain ⟨r, e1, e2⟩ := f_turnP h hc ha hd
    rw [e1, bd_s]
    dsimp only
    rw [lt_turn e2]
    rw [b32_congr (show (gO X Y c a d < 0) ↔ ((gLess X Y b c ∧ gO X Y c a d < 0) ∨ (¬ gLess X Y b c ∧ gO X Y a b d < 0)) from ⟨fun z => Or.inl ⟨q, z⟩, fun z => z.elim (fun w => w.2) (fun w => absurd q w.1)⟩)]
  · rw [b32_f q, if_pos rfl, h.x hd, bd_s]
    dsimp only
    rw [h.y hd, bd_s]
    dsimp only
    obtain ⟨r, e1, e2⟩ := f_turnP h ha hb hd
    rw [e1, bd_s]
    dsimp only
    rw [lt_turn e2]
    rw [b32_congr (show (gO X Y a b d < 0) ↔ ((gLess X Y b c ∧ gO X Y c a d < 0) ∨ (¬ gLess X Y b c ∧ gO X Y a b d < 0)) from ⟨fun z => Or.inr ⟨q, z⟩, fun z => z.elim (fun w => absurd w.1 q) (fun w => w.2)⟩)]
theorem takes_136 (h : PV S n X Y) {a b c d : Nat} (ha : a < n) (hb : b < n) (hc : c < n) (hd : d < n) : f_Pt_takesAway_136 (nI d) (nI a) (nI b) (nI c) S = some (b32 ((gLess X Y a b ∧ gLess X Y a c ∧ gO X Y b c d < 0) ∨ (¬ (gLess X Y a b ∧ gLess X Y a c) ∧ ((gLess X Y b c ∧ gO X Y c a d < 0) ∨ (¬ gLess X Y b c ∧ gO X Y a b d < 0)))), S) := by
  unfold f_Pt_takesAway_136
  rw [f_isLess h ha hb, bd_s]
  dsimp only
  by_cases q1 : gLess X Y a b
  · rw [b32_t q1, if_neg (by decide), f_isLess h ha hc, bd_s]
    dsimp only
    by_cases q2 : gLess X Y a c
    · rw [b32_t q2, if_neg (by decide), h.x hd, bd_s]
      dsimp only
      rw [h.y hd, bd_s]
      dsimp only
      obtain ⟨r, e1, e2⟩ := f_turnP h hb hc hd
      rw [e1, bd_s]
      dsimp only
      rw [lt_turn e2]
      refine congrArg (fun z => some (z, S)) (b32_congr ⟨fun z => Or.inl ⟨q1, q2, z⟩, fun z => z.elim (fun w => w.2.2) (fun w => absurd ⟨q1, q2⟩ w.1)⟩)
    · rw [b32_f q2, if_pos rfl, takes_189 h ha hb hc hd]
      refine congrArg (fun z => some (z, S)) (b32_congr ⟨fun z => Or.inr ⟨fun w => q2 w.2, z⟩, fun z => z.elim (fun w => absurd w.2.1 q2) (fun w => w.2)⟩)
  · rw [b32_f q1, if_pos rfl, takes_189 h ha hb hc hd]
    refine congrArg (fun z => some (z, S)) (b32_congr ⟨fun z => Or.inr ⟨fun w => q1 w.1, z⟩, fun z => z.elim (fun w => absurd w.1 q1) (fun w => w.2)⟩)
theorem v128_0 : v128 0 0 = 0 := by unfold v128; decide
theorem f_takesAway (h : PV S n X Y) {a b c d : Nat} (ha : a < n) (hb : b < n) (hc : c < n) (hd : d < n) : ∃ T, sameW S T ∧ f_Pt_takesAway (nI d) (nI a) (nI b) (nI c) S = some (b32 (takes X Y d a b c), T) := by
  unfold f_Pt_takesAway f_Pt_takesAway_0
  have e0 : f_Wd_reset S = some (setl (setl S 1 0) 2 0) := rfl
  rw [e0, bd_s]
  generalize hS0 : setl (setl S 1 0) 2 0 = S0
  have w0 : sameW S S0 := hS0 ▸ sameW_set2 S 0 0
  have h0 := h.same w0
  have g1 : gl S0 1 = 0 := hS0 ▸ rfl
  have g2 : gl S0 2 = 0 := hS0 ▸ rfl
  rw [h0.x hb, bd_s]
  dsimp only
  rw [h0.y hb, bd_s]
  dsimp only
  obtain ⟨t1, p1, p2⟩ := f_turnP h0 hc ha hb
  rw [p1, bd_s]
  dsimp only
  obtain ⟨d1, r1, r2⟩ := f_dot h0 hd ha hb
  rw [r1, bd_s]
  dsimp only
  have ra := h.in ha
  have rb := h.in hb
  have rc := h.in hc
  have rd := h.in hd
  have o1 := gO_b rc ra rb
  have o2 := gO_b rd rb ra
  have q1 := gDot_b rd ra rb
  have q2 := gDot_b rc ra rb
  have m1 := prod_b (B := 8000000000000000000) o1.1 o1.2 q1.1 q1.2
  have m2 := prod_b (B := 8000000000000000000) o2.1 o2.2 q2.1 q2.2
  obtain ⟨h1, l1, s1, s2⟩ := f_addProduct t1 d1 S0 (by rw [g1, g2, v128_0, p2, r2]; omega) (by rw [g1, g2, v128_0, p2, r2]; omega)
  rw [s1, bd_s]
  generalize hS1 : setl (setl S0 2 l1) 1 h1 = S1
  have w1 : sameW S S1 := w0.trans (hS1 ▸ sameW_set S0 h1 l1)
  have hh1 := h.same w1
  have v1 : v128 (gl S1 1) (gl S1 2) = gO X Y c a b * gDot X Y d a b := by
    have : v128 (gl S1 1) (gl S1 2) = v128 h1 l1 := hS1 ▸ rfl
    rw [this, s2, g1, g2, v128_0, p2, r2]
    omega
  rw [hh1.x ha, bd_s]
  dsimp only
  rw [hh1.y ha, bd_s]
  dsimp only
  obtain ⟨t2, p3, p4⟩ := f_turnP hh1 hd hb ha
  rw [p3, bd_s]
  dsimp only
  obtain ⟨d2, r3, r4⟩ := f_dot hh1 hc ha hb
  rw [r3, bd_s]
  dsimp only
  obtain ⟨h2, l2, s3, s4⟩ := f_addProduct t2 d2 S1 (by rw [v1, p4, r4]; omega) (by rw [v1, p4, r4]; omega)
  rw [s3, bd_s]
  generalize hS2 : setl (setl S1 2 l2) 1 h2 = S2
  have w2 : sameW S S2 := w1.trans (hS2 ▸ sameW_set S1 h2 l2)
  have hh2 := h.same w2
  have v2 : v128 (gl S2 1) (gl S2 2) = - gV X Y (gQ X Y) a b c d := by
    have : v128 (gl S2 1) (gl S2 2) = v128 h2 l2 := hS2 ▸ rfl
    rw [this, s4, v1, p4, r4]
    exact gV_circle X Y a b c d
  obtain ⟨sg, x1, x2, x3⟩ := f_sign S2
  rw [x1, bd_s]
  dsimp only
  rw [v2] at x2 x3
  refine ⟨S2, w2, ?_⟩
  by_cases z : sg = 0
  · rw [if_pos z]
    have zero : gV X Y (gQ X Y) a b c d = 0 := by have := x2.mp z; omega
    have tie : takes X Y d a b c ↔ ((gLess X Y d a ∧ gLess X Y d b ∧ gLess X Y d c) ∨ (¬ (gLess X Y d a ∧ gLess X Y d b ∧ gLess X Y d c) ∧ ((gLess X Y a b ∧ gLess X Y a c ∧ gO X Y b c d < 0) ∨ (¬ (gLess X Y a b ∧ gLess X Y a c) ∧ ((gLess X Y b c ∧ gO X Y c a d < 0) ∨ (¬ gLess X Y b c ∧ gO X Y a b d < 0)))))) := by
      unfold takes
      exact ⟨fun w => w.elim (fun v => by omega) (fun v => v.2), fun w => Or.inr ⟨zero, w⟩⟩
    have rest : ¬ (gLess X Y d a ∧ gLess X Y d b ∧ gLess X Y d c) → f_Pt_takesAway_136 (nI d) (nI a) (nI b) (nI c) S2 = some (b32 (takes X Y d a b c), S2) := fun nn => by
      rw [takes_136 hh2 ha hb hc hd]
      exact congrArg (fun z => some (z, S2)) (b32_congr ⟨fun w => tie.mpr (Or.inr ⟨nn, w⟩), fun w => (tie.mp w).elim (fun v => absurd v nn) (fun v => v.2)⟩)
    rw [f_isLess hh2 hd ha, bd_s]
    dsimp only
    by_cases c1 : gLess X Y d a
    · rw [b32_t c1, if_neg (by decide), f_isLess hh2 hd hb, bd_s]
      dsimp only
      by_cases c2 : gLess X Y d b
      · rw [b32_t c2, if_neg (by decide), f_isLess hh2 hd hc, bd_s]
        dsimp only
        by_cases c3 : gLess X Y d c
        · rw [b32_t c3, if_neg (by decide), b32_t (tie.mpr (Or.inl ⟨c1, c2, c3⟩))]
        · rw [b32_f c3, if_pos rfl]
          exact rest (fun w => c3 w.2.2)
      · rw [b32_f c2, if_pos rfl]
        exact rest (fun w => c2 w.2.1)
    · rw [b32_f c1, if_pos rfl]
      exact rest (fun w => c1 w.1)
  · rw [if_neg z]
    have nz : gV X Y (gQ X Y) a b c d ≠ 0 := fun w => z (x2.mpr (by omega))
    by_cases c1 : 0 ≤ sg
    · rw [if_pos c1, b32_f]
      have := x3.mp c1
      unfold takes
      omega
    · rw [if_neg c1, b32_t]
      refine Or.inl ?_
      have : ¬ 0 ≤ - gV X Y (gQ X Y) a b c d := fun w => c1 (x3.mpr w)
      omega
end
