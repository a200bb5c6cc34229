/-! LOCATE: the class's search -/
def frX (S T : St) : Prop := T.1 = S.1 ∧ T.2.1 = S.2.1 ∧ T.2.2.1 = S.2.2.1 ∧ ∀ k, k ≠ 30 → ga T k = ga S k
theorem frX.rfl' (S : St) : frX S S := ⟨rfl, rfl, rfl, fun _ _ => rfl⟩
theorem frX.trans {S T R : St} (h : frX S T) (g : frX T R) : frX S R := ⟨g.1.trans h.1, g.2.1.trans h.2.1, g.2.2.1.trans h.2.2.1, fun k a => (g.2.2.2 k a).trans (h.2.2.2 k a)⟩
theorem frX.a {S T : St} (f : frX S T) : frA S T := ⟨fun k _ => by show T.1 k = S.1 k; rw [f.1], by rw [f.2.1], f.2.2.1, fun k hk => f.2.2.2 k (by omega)⟩
theorem frX.nv {S T : St} {m G : Nat} {s tw : Nat → Nat} (f : frX S T) (h : NV S m G s tw) : NV T m G s tw := by
  obtain ⟨h1, h2, h3, h4, h5, h6, h7, h8⟩ := h
  have hi : ∀ k, gi T k = gi S k := fun k => by show T.1 k = S.1 k; rw [f.1]
  exact ⟨by rw [hi]; exact h1, by rw [hi]; exact h2, h3, h4, h5.of f.2.2.1, h6.of f.2.2.1, by rw [f.2.2.2 8 (by decide)]; exact h7, by rw [f.2.2.2 9 (by decide)]; exact h8⟩
section
variable {S T : St} {n G m p : Nat} {X Y : Nat → Int} {s tw lv : Nat → Nat} {x y : Int32} {P : List Nat}
theorem f_foundBetween (h : gn T 30 = 3) {a b : Nat} (ha : a < 1024) (hb : b < 1024) (hab : a ≠ b) : ∃ T', f_Pn_foundBetween (nI a) (nI b) T = some (2, T') ∧ frX T T' ∧ ga T' 30 0 = nI (min a b) ∧ ga T' 30 1 = nI (max a b) ∧ ga T' 30 2 = ga T 30 2 := by
  have g : ∀ (R : St) f, gn (seta R 30 f) 30 = gn R 30 := fun _ _ => rfl
  have l1 : nI b < nI a ↔ b < a := nI_ltI (by omega) (by omega)
  have l2 : nI a < nI b ↔ a < b := nI_ltI (by omega) (by omega)
  have e1 : (if nI b < nI a then nI b else nI a) = nI (min a b) := by
    by_cases c : b < a
    · rw [if_pos (l1.mpr c), Nat.min_eq_right (by omega)]
    · rw [if_neg (fun q => c (l1.mp q)), Nat.min_eq_left (by omega)]
  have e2 : (if nI a < nI b then nI b else nI a) = nI (max a b) := by
    by_cases c : a < b
    · rw [if_pos (l2.mpr c), Nat.max_eq_right (by omega)]
    · rw [if_neg (fun q => c (l2.mp q)), Nat.max_eq_left (by omega)]
  unfold f_Pn_foundBetween f_Pn_foundBetween_0
  simp only [g, h, show inb 0 3 = true from rfl, show inb 1 3 = true from rfl, as_s, bn_s, show Int32.toNatClampNeg 0 = 0 from rfl, show Int32.toNatClampNeg 1 = 1 from rfl, e1, e2]
  refine ⟨_, rfl, ⟨rfl, rfl, rfl, fun k hk => ?_⟩, ?_, ?_, ?_⟩
  · rw [ga_seta_ne _ _ hk, ga_seta_ne _ _ hk]
  · rw [ga_seta, upd_ne _ _ (by decide), ga_seta, upd_same]
  · rw [ga_seta, upd_same]
  · rw [ga_seta, upd_ne _ _ (by decide), ga_seta, upd_ne _ _ (by decide)]
/-- the three of a triangle -/
theorem f_tellThree (h : NV T m G s tw) (h30 : gn T 30 = 3) {e : Nat} (he : e < 3 * m) : ∃ T', f_Pn_locateInNet_119 FU (nI e) 0 T = some (1, T') ∧ frX T T' ∧ ga T' 30 0 = nI (s e) ∧ ga T' 30 1 = nI (s (nx e)) ∧ ga T' 30 2 = nI (s (nx (nx e))) := by
  have sm := h.small he
  have step : ∀ (fuel k : Nat) (R : St), k < 3 → frX T R → f_Pn_locateInNet_119 (fuel + 1) (nI e) (nI k) R = f_Pn_locateInNet_119 fuel (nI e) (nI (k + 1)) (seta R 30 (upd (ga R 30) k (nI (s (ah e k))))) := by
    intro fuel k R hk fr
    have hR := fr.nv h
    have g30 : gn R 30 = 3 := by show R.2.2.1 30 = 3; rw [fr.2.2.1]; exact h30
    rw [f_Pn_locateInNet_119]
    dsimp only
    rw [g30, if_neg (nI_ge hk (by omega)), f_ahead sm (by omega), bd_s]
    dsimp only
    rw [f_startOf hR (ah_lt he), bd_s]
    dsimp only
    rw [g30, inb_n hk (by omega), as_s, bn_s, bn_s, nI_1, nI_clampN (by omega)]
  have fin : ∀ (fuel : Nat) (R : St), frX T R → f_Pn_locateInNet_119 (fuel + 1) (nI e) (nI 3) R = some (1, R) := by
    intro fuel R fr
    have g30 : gn R 30 = 3 := by show R.2.2.1 30 = 3; rw [fr.2.2.1]; exact h30
    rw [f_Pn_locateInNet_119]
    dsimp only
    rw [g30, if_pos (Int32.le_refl _)]
  have put : ∀ (R : St) f, frX T R → frX T (seta R 30 f) := fun R f fr => ⟨fr.1, fr.2.1, fr.2.2.1, fun k hk => by rw [ga_seta_ne _ _ hk]; exact fr.2.2.2 k hk⟩
  have : FU = (FU - 4) + 1 + 1 + 1 + 1 := by unfold FU; rfl
  rw [this, show (0 : Int32) = nI 0 from rfl, step _ 0 T (by decide) (frX.rfl' T), step _ 1 _ (by decide) (put _ _ (frX.rfl' T)), step _ 2 _ (by decide) (put _ _ (put _ _ (frX.rfl' T))), fin _ _ (put _ _ (put _ _ (put _ _ (frX.rfl' T))))]
  refine ⟨_, rfl, put _ _ (put _ _ (put _ _ (frX.rfl' T))), ?_, ?_, ?_⟩
  · rw [ga_seta, upd_ne _ _ (by decide), ga_seta, upd_ne _ _ (by decide), ga_seta, upd_same, ah_0]
  · rw [ga_seta, upd_ne _ _ (by decide), ga_seta, upd_same, ah_1]
  · rw [ga_seta, upd_same, ah_2]
/-- what the class answers -/
def CA (X Y : Nat → Int) (n G m : Nat) (s : Nat → Nat) (p : Nat) (T T' : St) (w : Int32) : Prop := frX T T' ∧ ((w = 0 ∧ T' = T ∧ ∃ g, g < 3 * m ∧ sol G s (g / 3) = false ∧ s g ≠ G ∧ s (nx g) ≠ G ∧ 0 < gO X Y (s g) (s (nx g)) p) ∨ (w = 2 ∧ ∃ a b c, solid X Y (List.range n) a b c ∧ inT X Y a b c p ∧ gO X Y a b p = 0 ∧ ga T' 30 0 = nI (min a b) ∧ ga T' 30 1 = nI (max a b) ∧ ga T' 30 2 = ga T 30 2) ∨ (w = 1 ∧ ∃ a b c, solid X Y (List.range n) a b c ∧ 0 < gO X Y a b p ∧ 0 < gO X Y b c p ∧ 0 < gO X Y c a p ∧ ga T' 30 0 = nI (low3 a b c).1 ∧ ga T' 30 1 = nI (low3 a b c).2.1 ∧ ga T' 30 2 = nI (low3 a b c).2.2))
theorem f_locNet (h : NV T m G s tw) (hX : NETX X Y n G m s tw) (hp : PV T n X Y) (hP : PtsL X Y 1024 G P) (hPn : ∀ i, i ∈ P ↔ i < n) (hD : NetD X Y G P m s tw) (hlv : LV T G n m s P lv) (h30 : gn T 30 = 3) {near : Nat} (hnear : near < n) (hxy : inP x.toInt y.toInt) (hx : x.toInt = X p) (hy : y.toInt = Y p) : ∃ T' w, f_Pn_locateInNet (nI near) x y T = some (w, T') ∧ CA X Y n G m s p T T' w := by
  obtain ⟨e, he, hh, hf⟩ := f_holder h hp hP (fun i hi => (hPn i).mp hi) hD hlv ((hPn near).mpr hnear) hxy hx hy
  have nle := hp.2.2.2
  unfold f_Pn_locateInNet f_Pn_locateInNet_0
  rw [hf, bd_s]
  dsimp only
  rw [f_isOuter h he, bd_s]
  dsimp only
  rcases hh with ⟨hs, hin⟩ | ⟨hs, g, hg, hg3, h1, h2, h3⟩
  · rw [b32_f (by rw [hs]; simp), if_pos rfl]
    have sm := h.small he
    have so : ∀ k, solid X Y (List.range n) (s (ah e k)) (s (nx (ah e k))) (s (nx (nx (ah e k)))) := fun k => hX.2.1.solid (ah_lt he) (by rw [ah_div]; exact hs)
    have it : ∀ k, inT X Y (s (ah e k)) (s (nx (ah e k))) (s (nx (nx (ah e k)))) p := by
      intro k
      have l := ah_lt (k := k) he
      have d := ah_div e k
      refine ⟨hin _ l d, hin _ (nx_lt l) (by rw [nx_div]; exact d), ?_⟩
      have := hin _ (nx_lt (nx_lt l)) (by rw [nx_div, nx_div]; exact d)
      rw [nx3] at this
      exact this
    -- one step of the search for a side
    have step : ∀ (fuel k : Nat), k < 3 → (gO X Y (s (ah e k)) (s (nx (ah e k))) p = 0 → ∃ T' w, f_Pn_locateInNet_29 (fuel + 1) x y (nI e) (nI k) T = some (w, T') ∧ CA X Y n G m s p T T' w) ∧ (gO X Y (s (ah e k)) (s (nx (ah e k))) p ≠ 0 → f_Pn_locateInNet_29 (fuel + 1) x y (nI e) (nI k) T = f_Pn_locateInNet_29 fuel x y (nI e) (nI (k + 1)) T) := by
      intro fuel k hk
      have l := ah_lt (k := k) he
      have q := so k
      have an := List.mem_range.mp q.1
      have bn := List.mem_range.mp q.2.1
      obtain ⟨r, r1, r2⟩ := f_turn hp an bn hxy
      have er : r.toInt = gO X Y (s (ah e k)) (s (nx (ah e k))) p := by rw [r2, hx, hy]; rfl
      have z0 : (0 : Int64).toInt = 0 := rfl
      rw [f_Pn_locateInNet_29]
      dsimp only
      rw [if_neg (show ¬ (3 : Int32) ≤ nI k from (show ¬ nI 3 ≤ nI k from nI_ge hk (by omega))), f_ahead sm (by omega), bd_s]
      dsimp only
      rw [f_startOf h l, bd_s]
      dsimp only
      rw [f_endOf h l, bd_s]
      dsimp only
      rw [r1, bd_s]
      dsimp only
      refine ⟨fun z => ?_, fun z => ?_⟩
      · rw [if_pos ((cmp_z _ _).mpr (by rw [er, z0]; exact z)), f_startOf h l, bd_s]
        dsimp only
        rw [f_endOf h l, bd_s]
        dsimp only
        obtain ⟨T', t1, t2, t3, t4, t5⟩ := f_foundBetween h30 (show s (ah e k) < 1024 by omega) (show s (nx (ah e k)) < 1024 by omega) q.2.2.2.1
        rw [t1, bd_s]
        exact ⟨T', 2, rfl, t2, Or.inr (Or.inl ⟨rfl, _, _, _, q, it k, z, t3, t4, t5⟩)⟩
      · rw [if_neg (fun w => z (by have := (cmp_z _ _).mp w; rw [er, z0] at this; exact this)), bn_s, nI_1]
    have : FU = (FU - 4) + 1 + 1 + 1 + 1 := by unfold FU; rfl
    rw [this, show (0 : Int32) = nI 0 from rfl]
    by_cases z0 : gO X Y (s (ah e 0)) (s (nx (ah e 0))) p = 0
    · exact (step _ 0 (by decide)).1 z0
    rw [(step _ 0 (by decide)).2 z0]
    by_cases z1 : gO X Y (s (ah e 1)) (s (nx (ah e 1))) p = 0
    · exact (step _ 1 (by decide)).1 z1
    rw [(step _ 1 (by decide)).2 z1]
    by_cases z2 : gO X Y (s (ah e 2)) (s (nx (ah e 2))) p = 0
    · exact (step _ 2 (by decide)).1 z2
    rw [(step _ 2 (by decide)).2 z2, f_Pn_locateInNet_29]
    dsimp only
    rw [if_pos (show (3 : Int32) ≤ nI (2 + 1) by decide)]
    obtain ⟨e', q1, q2, q3, q4⟩ := f_lowestFirst h he
    rw [q1, bd_s]
    dsimp only
    obtain ⟨T', t1, t2, t3, t4, t5⟩ := f_tellThree h h30 q2
    rw [t1]
    rw [ah_0] at z0
    rw [ah_1] at z1
    rw [ah_2, nx3] at z2
    have s0 := so 0
    have i0 := it 0
    rw [ah_0] at s0 i0
    obtain ⟨j1, j2, j3⟩ := i0
    have lw : tri3 s e' = low3 (s e) (s (nx e)) (s (nx (nx e))) := by
      have n1 := s0.2.2.2.1
      have n2 := s0.2.2.2.2.1
      have n3 := s0.2.2.2.2.2.1
      unfold lowE at q4
      refine (low3_eq ?_ ?_ ?_).symm
      · unfold RT tri3
        have : e' = e ∨ e' = nx e ∨ e' = nx (nx e) := by unfold nx; omega
        rcases this with r | r | r <;> rw [r]
        · exact Or.inl rfl
        · rw [nx3]; exact Or.inr (Or.inl rfl)
        · rw [nx3]; exact Or.inr (Or.inr rfl)
      · show s e' < s (nx e')
        have : e' = e ∨ e' = nx e ∨ e' = nx (nx e) := by unfold nx; omega
        rcases this with r | r | r <;> rw [r] at q4 ⊢ <;> (try rw [nx3] at *) <;> omega
      · show s e' < s (nx (nx e'))
        have : e' = e ∨ e' = nx e ∨ e' = nx (nx e) := by unfold nx; omega
        rcases this with r | r | r <;> rw [r] at q4 ⊢ <;> (try rw [nx3] at *) <;> omega
    refine ⟨T', 1, rfl, t2, Or.inr (Or.inr ⟨rfl, s e, s (nx e), s (nx (nx e)), s0, by omega, by omega, by omega, ?_⟩)⟩
    rw [← lw]
    exact ⟨t3, t4, t5⟩
  · rw [b32_t hs, if_neg (by decide)]
    exact ⟨T, 0, rfl, frX.rfl' T, Or.inl ⟨rfl, rfl, g, hg, by rw [hg3]; exact hs, h1, h2, h3⟩⟩
/-- on a line -/
theorem f_locLine (hp : PV T n X Y) (h3 : gi T 3 = nI n) (hd : DN X Y n) (hl : LIN X Y n) (hdp : ∀ i, i < n → dif X Y p i) (h30 : gn T 30 = 3) (hxy : inP x.toInt y.toInt) (hx : x.toInt = X p) (hy : y.toInt = Y p) : ∃ T' w, f_Pn_locateOnLine x y T = some (w, T') ∧ frX T T' ∧ ((w = 0 ∧ T' = T ∧ ∀ a b, a < n → b < n → ¬ PS X Y n [] p a b) ∨ (w = 2 ∧ ∃ u v, u ≠ v ∧ u < n ∧ v < n ∧ PS X Y n [] p u v ∧ PS X Y n [] p v u ∧ (∀ a b, a < n → b < n → PS X Y n [] p a b → (a = u ∧ b = v) ∨ (a = v ∧ b = u)) ∧ ga T' 30 0 = nI (min u v) ∧ ga T' 30 1 = nI (max u v) ∧ ga T' 30 2 = ga T 30 2)) := by
  have nle := hp.2.2.2
  unfold f_Pn_locateOnLine f_Pn_locateOnLine_0 f_Pn_locateOnLine_61
  rw [h3]
  by_cases c : n < 2
  · rw [if_pos (show nI n < 2 from (show nI n < nI 2 from nI_lt c (by omega)))]
    exact ⟨T, 0, rfl, frX.rfl' T, Or.inl ⟨rfl, rfl, line_off hd hl (by omega)⟩⟩
  rw [if_neg (show ¬ nI n < 2 from (show ¬ nI n < nI 2 from nI_nlt (by omega) (by omega)))]
  obtain ⟨r, r1, r2⟩ := f_turn hp (a := 0) (b := 1) (by omega) (by omega) hxy
  have er : r.toInt = gO X Y 0 1 p := by rw [r2, hx, hy]; rfl
  have z0 : (0 : Int64).toInt = 0 := rfl
  have r1 : f_Pt_turn 0 1 x y T = some (r, T) := r1
  rw [r1, bd_s]
  dsimp only
  by_cases z : gO X Y 0 1 p = 0
  · rw [if_pos ((cmp_z _ _).mpr (by rw [er, z0]; exact z))]
    obtain ⟨ob, b1, b2⟩ := f_greatestBelow hp h3 x y
    obtain ⟨oa, a1, a2⟩ := f_leastAbove hp h3 x y
    rw [hx, hy] at b1 a1
    rw [b2, bd_s]
    dsimp only
    rw [a2, bd_s]
    dsimp only
    have lo := line_on hd hl hdp (by omega) z b1 a1
    have nn : ∀ b : Nat, b < n → ¬ nI b = -1 := fun b hb q => by
      have := nI_pos (n := b) (by omega)
      rw [q] at this
      exact this (by decide)
    cases ob with
    | none =>
      rw [if_pos (show oI none = -1 from rfl)]
      exact ⟨T, 0, rfl, frX.rfl' T, Or.inl ⟨rfl, rfl, lo.1 (Or.inl rfl)⟩⟩
    | some u =>
      cases oa with
      | none =>
        rw [if_neg (show ¬ oI (some u) = -1 from nn u b1.1), if_pos (show oI none = -1 from rfl)]
        exact ⟨T, 0, rfl, frX.rfl' T, Or.inl ⟨rfl, rfl, lo.1 (Or.inr rfl)⟩⟩
      | some v =>
        rw [if_neg (show ¬ oI (some u) = -1 from nn u b1.1), if_neg (show ¬ oI (some v) = -1 from nn v a1.1)]
        obtain ⟨l1, l2, l3, l4, l5, l6⟩ := lo.2 u v rfl rfl
        obtain ⟨T', t1, t2, t3, t4, t5⟩ := f_foundBetween h30 (show u < 1024 by omega) (show v < 1024 by omega) l1
        rw [show oI (some u) = nI u from rfl, show oI (some v) = nI v from rfl, t1, bd_s]
        exact ⟨T', 2, rfl, t2, Or.inr ⟨rfl, u, v, l1, l2, l3, l4, l5, l6, t3, t4, t5⟩⟩
  · rw [if_neg (fun w => z (by have := (cmp_z _ _).mp w; rw [er, z0] at this; exact this))]
    exact ⟨T, 0, rfl, frX.rfl' T, Or.inl ⟨rfl, rfl, line_off hd hl (fun q => z q.2)⟩⟩
end
