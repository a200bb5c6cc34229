/-! THE CLASS'S OUTLINE, 2; corner and count -/
section
variable {S T : St} {n G m stp : Nat} {X Y : Nat → Int} {s tw lv : Nat → Nat}
theorem f_least (hp : PV S n X Y) (h3 : gi S 3 = nI n) (hd : DN X Y n) : (n = 0 ∧ f_Pt_leastAbove (-1000000001) 0 S = some (-1, S)) ∨ ∃ a, leastP X Y n a ∧ f_Pt_leastAbove (-1000000001) 0 S = some (nI a, S) := by
  obtain ⟨r, r1, r2⟩ := f_leastAbove hp h3 (-1000000001) 0
  have e1 : (-1000000001 : Int32).toInt = -1000000001 := rfl
  rw [e1] at r1
  have ab : ∀ i, i < n → Abv X Y (-1000000001) (0 : Int32).toInt i := fun i hi => by
    have := (hp.2.2.1 i hi).2.2
    unfold inR at this
    exact Or.inl (by omega)
  cases r with
  | none =>
    left
    refine ⟨?_, r2⟩
    by_cases c : n = 0
    · exact c
    · exact absurd (ab 0 (by omega)) (r1 0 (by omega))
  | some a =>
    right
    refine ⟨a, ⟨r1.1, fun k hk hka => ?_⟩, r2⟩
    have := r1.2.2 k hk (ab k hk)
    exact (gLess_tri (hd a r1.1 k hk (fun q => hka q.symm))).resolve_right this
theorem f_great (hp : PV S n X Y) (h3 : gi S 3 = nI n) (hd : DN X Y n) : (n = 0 ∧ f_Pt_greatestBelow 1000000001 0 S = some (-1, S)) ∨ ∃ a, a < n ∧ (∀ j, j < n → j ≠ a → gLess X Y j a) ∧ f_Pt_greatestBelow 1000000001 0 S = some (nI a, S) := by
  obtain ⟨r, r1, r2⟩ := f_greatestBelow hp h3 1000000001 0
  have e1 : (1000000001 : Int32).toInt = 1000000001 := rfl
  rw [e1] at r1
  have ab : ∀ i, i < n → Blw X Y 1000000001 (0 : Int32).toInt i := fun i hi => by
    have := (hp.2.2.1 i hi).2.2
    unfold inR at this
    exact Or.inl (by omega)
  cases r with
  | none =>
    left
    refine ⟨?_, r2⟩
    by_cases c : n = 0
    · exact c
    · exact absurd (ab 0 (by omega)) (r1 0 (by omega))
  | some a =>
    right
    refine ⟨a, r1.1, fun k hk hka => ?_, r2⟩
    have := r1.2.2 k hk (ab k hk)
    exact (gLess_tri (hd a r1.1 k hk (fun q => hka q.symm))).resolve_left this
theorem f_drawRound (h : CN S X Y n G m s tw lv) (hp : PV S n X Y) (h3 : gi S 3 = nI n) (hc : Cap S 17 n) (h11 : gi S 11 = 0) : ∃ T C, f_Ol_drawRound S = some T ∧ frU S T ∧ CORN X Y n C ∧ C.length ≤ n ∧ HL T 17 C ∧ gi T 11 = nI C.length := by
  have hd := h.2.1.dn
  have n3 := h.2.1.n3
  have nle : n ≤ 1024 := hp.2.2.2
  obtain ⟨e0, L, he0, hG, o, ol, oL, on, -⟩ := h.2.1.out
  have hls : leastP X Y n (s e0) := o.2.2.2.2.2.2.2.1
  have is := itr_sig h.2.1.1 h.2.1.2.1 he0 hG
  have vn : ∀ i, s (itr (sig tw) i e0) < n := o.2.2.1
  have L2 : 2 ≤ L := by
    have a := o.1
    have b : s (itr (sig tw) 0 e0) ≠ s (itr (sig tw) 1 e0) := o.2.2.2.2.1 0
    by_cases c : L = 1
    · rw [c] at oL
      rw [oL] at b
      exact absurd rfl b
    · omega
  rcases f_least hp h3 hd with ⟨q, -⟩ | ⟨a, ha, ha2⟩
  · omega
  have ea := least_one ha hls
  subst ea
  unfold f_Ol_drawRound f_Ol_drawRound_0
  rw [ha2, bd_s]
  dsimp only
  rw [f_wayToGhost h hls.1 he0 rfl hG, bd_s]
  dsimp only
  -- the first
  have : FU = (FU - 1) + 1 := by unfold FU; rfl
  rw [this, f_Ol_drawRound_25]
  dsimp only
  rw [h3, if_neg (show ¬ nI n ≤ 0 from nI_nle (by omega) (by omega)), f_nextWay h.1 he0, bd_s]
  dsimp only
  rw [f_startOf h.1 he0, bd_s]
  dsimp only
  rw [if_pos rfl]
  unfold f_Ol_drawRound_81 f_Ol_drawRound_87
  obtain ⟨R, r1, r2, r3, r4, r5⟩ := f_put hc (W := []) (fun i hi => absurd hi (Nat.not_lt_zero _)) (by rw [h11]; rfl) (by simp; omega) (s e0)
  rw [r1, bd_s]
  have es := h.1.small (is 1).1
  have es0 := h.1.small he0
  have e1 : sig tw e0 = itr (sig tw) 1 e0 := rfl
  rw [e1, if_neg (fun q => on 1 (by omega) (by omega) ((nI_eq (by omega) (by omega)).mp q)), bn_s]
  obtain ⟨R2, w1, w2, w3, w4, w5⟩ := f_drawRound_loop h hp h3 hc he0 hG o ol oL on (L - 2) (FU - 1) 1 R ([] ++ [s e0]) (by omega) (by omega) (by have := FU_big; omega) r2 r3 r4 r5 (by simp)
  have w1 : f_Ol_drawRound_25 (FU - 1) (nI e0) (nI (itr (sig tw) 1 e0)) (nI (s e0)) (0 + 1) R = some R2 := w1
  rw [w1]
  rw [show L - 2 + 1 = L - 1 by omega, show 1 - 1 = 0 by decide] at w4 w5
  have cn := o.corn hd
  have ln := rowC_len (X := X) (Y := Y) (v := fun i => s (itr (sig tw) i e0)) (L - 1) 0
  exact ⟨R2, _, rfl, w2, cn, by simp only [List.length_cons]; omega, w4, w5⟩
theorem f_drawLine (hl : LIN X Y n) (hd : DN X Y n) (hp : PV S n X Y) (h3 : gi S 3 = nI n) (hc : 0 < n → Cap S 17 n) (h11 : gi S 11 = 0) : ∃ T C, f_Ol_drawLine S = some T ∧ frU S T ∧ CORN X Y n C ∧ C.length ≤ n ∧ HL T 17 C ∧ gi T 11 = nI C.length := by
  have nle : n ≤ 1024 := hp.2.2.2
  have lc := lin_corn hd hl
  unfold f_Ol_drawLine f_Ol_drawLine_0
  rcases f_least hp h3 hd with ⟨n0, q1⟩ | ⟨a, ha, q1⟩
  · rcases f_great hp h3 hd with ⟨-, q2⟩ | ⟨b, hb, -⟩
    · rw [q1, bd_s]
      dsimp only
      rw [q2, bd_s]
      dsimp only
      rw [if_pos rfl]
      unfold f_Ol_drawLine_32
      rw [if_pos rfl]
      exact ⟨S, [], rfl, frU.rfl' S, lc.1 n0, by simp, fun i hi => absurd hi (Nat.not_lt_zero _), h11⟩
    · omega
  · have n0 : 0 < n := by have := ha.1; omega
    rcases f_great hp h3 hd with ⟨q, -⟩ | ⟨b, hb, hb2, q2⟩
    · omega
    rw [q1, bd_s]
    dsimp only
    rw [q2, bd_s]
    dsimp only
    have an := ha.1
    rw [if_neg (fun q => by
      have := nI_pos (n := a) (by omega)
      rw [q] at this
      exact this (by decide))]
    obtain ⟨R, r1, r2, r3, r4, r5⟩ := f_put (hc n0) (W := []) (fun i hi => absurd hi (Nat.not_lt_zero _)) (by rw [h11]; rfl) (by simp; omega) a
    rw [r1, bd_s]
    unfold f_Ol_drawLine_32
    have t := lc.2 a b ha hb hb2
    by_cases c : b = a
    · rw [if_pos (by rw [c])]
      rw [if_pos c] at t
      exact ⟨R, [a], rfl, r2, t, by simp; omega, r4, r5⟩
    · rw [if_neg (fun q => c ((nI_eq (by omega) (by omega)).mp q))]
      rw [if_neg c] at t
      obtain ⟨R2, w1, w2, w3, w4, w5⟩ := f_put ((hc n0).of r2.2.2.1) r4 r5 (by simp; omega) b
      rw [w1, bd_s]
      exact ⟨R2, [a, b], rfl, r2.trans w2, t, by simp; omega, w4, w5⟩
/-- the outline, drawn once -/
theorem f_draw (h : CS S X Y G n stp) (ho : OLC S X Y n) : ∃ T C, f_Ol_draw S = some T ∧ frU S T ∧ CORN X Y n C ∧ C.length ≤ n ∧ HL T 17 C ∧ gi T 11 = nI C.length ∧ gi T 12 = 1 := by
  obtain ⟨c1, c2, c3, c4, c5, c6, c7, c8, c9, c10, c11⟩ := h.1
  unfold f_Ol_draw f_Ol_draw_0
  rcases ho with h0 | ⟨h1, C, hC, h11, hl, ha⟩
  · rw [if_pos h0, bn_s]
    have f0 : frU S (seti S 11 0) := ⟨fun k a b => gi_seti_ne _ _ a, rfl, rfl, fun _ _ => rfl⟩
    have g11 : gi (seti S 11 0) 11 = 0 := gi_seti _ _ _
    have fin : ∀ (r : Option St), (∃ T C, r = some T ∧ frU (seti S 11 0) T ∧ CORN X Y n C ∧ C.length ≤ n ∧ HL T 17 C ∧ gi T 11 = nI C.length) → ∃ T C, bd r (fun q => f_Ol_draw_34 q) = some T ∧ frU S T ∧ CORN X Y n C ∧ C.length ≤ n ∧ HL T 17 C ∧ gi T 11 = nI C.length ∧ gi T 12 = 1 := by
      rintro r ⟨T, C, rfl, r2, r3, r4, r5, r6⟩
      rw [bd_s]
      refine ⟨seti T 12 1, C, rfl, ⟨fun k a b => ?_, ?_, ?_, fun k a => ?_⟩, r3, r4, r5, by rw [gi_seti_ne _ _ (by decide)]; exact r6, gi_seti _ _ _⟩
      · rw [gi_seti_ne _ _ b]; exact (f0.trans r2).1 k a b
      · exact (f0.trans r2).2.1
      · exact (f0.trans r2).2.2.1
      · exact (f0.trans r2).2.2.2 k a
    unfold f_Nt_isEmpty f_Nt_isEmpty_0
    have g6 : gi (seti S 11 0) 6 = gi S 6 := gi_seti_ne _ _ (by decide)
    have p0 : PV (seti S 11 0) n X Y := f0.a.pv c7
    have g3 : gi (seti S 11 0) 3 = nI n := by rw [gi_seti_ne _ _ (by decide)]; exact c5
    rw [g6]
    rcases h.ground with ⟨z6, z7, hl⟩ | ⟨m, s, tw, lv, hN⟩
    · rw [if_pos z6, bd_s]
      dsimp only
      rw [if_neg (by decide)]
      exact fin _ (f_drawLine hl c8 p0 g3 (fun n0 => ((c10 n0).2.2.2.2.2.2.2.2.2.2.2).of rfl) g11)
    · have hN' := f0.a.cn hN
      have m0 := hN.2.1.2.2.1
      have m1 := hN.1.2.2.2.1
      rw [hN.1.2.1, if_neg (nI_ne0 (by omega) (by omega)), bd_s]
      dsimp only
      rw [if_pos rfl]
      have n3 := hN.2.1.n3
      exact fin _ (f_drawRound hN' p0 g3 (((c10 (by omega)).2.2.2.2.2.2.2.2.2.2.2).of rfl) g11)
  · rw [if_neg (by rw [h1]; decide)]
    exact ⟨S, C, rfl, frU.rfl' S, hC, hl, fun i hi => by rw [ha i hi, getD_get hi], h11, h1⟩
theorem frU.ro (f : frU S T) (h : RO S X Y n) : RO T X Y n := by
  unfold RO at *
  rw [f.1 10 (by decide) (by decide), f.2.2.2 14 (by decide), f.2.2.2 8 (by decide)]
  exact h
/-- as many triangles as the net has -/
theorem tri_count (h : NETX X Y n G m s tw) {L : List (Nat × Nat × Nat)} (hL : TRI X Y n L) : L.length + GC G m s = m := by
  let F : Nat → Nat × Nat × Nat := fun t => low3 (s (3 * t)) (s (3 * t + 1)) (s (3 * t + 2))
  have so : ∀ t, t < m → sol G s t = true → solid X Y (List.range n) (s (3 * t)) (s (3 * t + 1)) (s (3 * t + 2)) := fun t ht hs => by
    have := h.2.1.solid (e := 3 * t) (by omega) (by rw [show 3 * t / 3 = t by omega]; exact hs)
    rw [nx_0, nx_1] at this
    exact this
  -- a three of the net determines its triangle
  have edge : ∀ e, e < 3 * m → ∀ e', e' < 3 * m → s e = s e' → s (nx e) = s (nx e') → e / 3 = e' / 3 := fun e he e' he' h1 h2 => by rw [h.2.1.2.2 e he e' he' h1 h2]
  have inj : ∀ t, t < m → sol G s t = true → ∀ t', t' < m → sol G s t' = true → F t = F t' → t = t' := by
    intro t ht hs t' ht' hs' e
    have r1 := low3_rt (s (3 * t)) (s (3 * t + 1)) (s (3 * t + 2))
    have r2 := low3_rt (s (3 * t')) (s (3 * t' + 1)) (s (3 * t' + 2))
    have e : low3 (s (3 * t)) (s (3 * t + 1)) (s (3 * t + 2)) = low3 (s (3 * t')) (s (3 * t' + 1)) (s (3 * t' + 2)) := e
    rw [e] at r1
    generalize low3 (s (3 * t')) (s (3 * t' + 1)) (s (3 * t' + 2)) = q at r1 r2
    have w : ∀ i j, i < 3 → j < 3 → s (3 * t + i) = s (3 * t' + j) → s (nx (3 * t + i)) = s (nx (3 * t' + j)) → t = t' := fun i j hi hj a b => by
      have := edge (3 * t + i) (by omega) (3 * t' + j) (by omega) a b
      omega
    have n0 := nx_0 t
    have n1 := nx_1 t
    have n2 := nx_2 t
    have n0' := nx_0 t'
    have n1' := nx_1 t'
    have n2' := nx_2 t'
    rcases r1 with rfl | rfl | rfl <;> rcases r2 with e | e | e <;> injection e with a e <;> injection e with b c
    · exact w 0 0 (by decide) (by decide) a (by rw [Nat.add_zero, Nat.add_zero, n0, n0']; exact b)
    · exact w 0 1 (by decide) (by decide) a (by rw [Nat.add_zero, n0, n1']; exact b)
    · exact w 0 2 (by decide) (by decide) a (by rw [Nat.add_zero, n0, n2']; exact b)
    · exact w 1 0 (by decide) (by decide) a (by show s (nx (3 * t + 1)) = s (nx (3 * t')); rw [n1, n0']; exact b)
    · exact w 1 1 (by decide) (by decide) a (by rw [n1, n1']; exact b)
    · exact w 1 2 (by decide) (by decide) a (by rw [n1, n2']; exact b)
    · exact w 2 0 (by decide) (by decide) a (by show s (nx (3 * t + 2)) = s (nx (3 * t')); rw [n2, n0']; exact b)
    · exact w 2 1 (by decide) (by decide) a (by rw [n2, n1']; exact b)
    · exact w 2 2 (by decide) (by decide) a (by rw [n2, n2']; exact b)
  have nd : (((List.range m).filter (sol G s)).map F).Nodup := by
    unfold List.Nodup
    rw [List.pairwise_map]
    refine List.Pairwise.imp_of_mem ?_ (List.nodup_range.sublist List.filter_sublist)
    intro a b ha hb hab e
    rw [List.mem_filter, List.mem_range] at ha hb
    exact hab (inj a ha.1 ha.2 b hb.1 hb.2 e)
  have mem : ∀ x, x ∈ ((List.range m).filter (sol G s)).map F ↔ x ∈ L := by
    intro x
    rw [hL.2]
    constructor
    · intro hx
      obtain ⟨t, ht, rfl⟩ := List.mem_map.mp hx
      rw [List.mem_filter, List.mem_range] at ht
      have q := so t ht.1 ht.2
      exact ⟨solid_rt h.1 q (low3_rt _ _ _), low3_lt q.2.2.2.1 q.2.2.2.2.1 q.2.2.2.2.2.1⟩
    · rintro ⟨q1, q2, q3⟩
      obtain ⟨e, he, e1, e2, e3⟩ := net_has h.1 h.2.1 h.2.2.1 q1
      have g1 := (h.1.1 _ q1.1).2.2
      have g2 := (h.1.1 _ q1.2.1).2.2
      have g3 := (h.1.1 _ q1.2.2.1).2.2
      have hs : sol G s (e / 3) = true := sol_edge.mpr ⟨by rw [e1]; exact g1, by rw [e2]; exact g2, by rw [e3]; exact g3⟩
      rw [List.mem_map]
      refine ⟨e / 3, List.mem_filter.mpr ⟨List.mem_range.mpr (by omega), hs⟩, low3_eq ?_ q2 q3⟩
      have h3 : e = 3 * (e / 3) ∨ e = 3 * (e / 3) + 1 ∨ e = 3 * (e / 3) + 2 := by omega
      generalize e / 3 = j at h3
      unfold RT
      obtain ⟨x, y, z⟩ := x
      dsimp only at e1 e2 e3
      rcases h3 with rfl | rfl | rfl
      · rw [nx_0] at e2 e3; rw [nx_1] at e3
        rw [e1, e2, e3]; exact Or.inl rfl
      · rw [nx_1] at e2 e3; rw [nx_2] at e3
        rw [e1, e2, e3]; exact Or.inr (Or.inl rfl)
      · rw [nx_2] at e2 e3; rw [nx_0] at e3
        rw [e1, e2, e3]; exact Or.inr (Or.inr rfl)
  have ndL : L.Nodup := hL.1.imp (fun {a b} hab e => by rw [e] at hab; exact lex3_as _ _ hab hab)
  have l1 := nodup_le nd (fun x hx => (mem x).mp hx)
  have l2 := nodup_le ndL (fun x hx => (mem x).mpr hx)
  rw [List.length_map, ← List.countP_eq_length_filter] at l1 l2
  have t := List.length_eq_countP_add_countP (sol G s) (l := List.range m)
  rw [List.length_range] at t
  have e : (List.range m).countP (fun a => decide ¬ sol G s a = true) = GC G m s := by
    unfold GC
    congr 1
    funext a
    cases sol G s a <;> rfl
  rw [e] at t
  omega
theorem lin_tri (hl : LIN X Y n) {L : List (Nat × Nat × Nat)} (hL : TRI X Y n L) : L = [] := by
  cases L with
  | nil => rfl
  | cons t T =>
    exfalso
    have s := ((hL.2 t).mp (List.mem_cons_self ..)).1
    have := hl _ (List.mem_range.mp s.1) _ (List.mem_range.mp s.2.1) _ (List.mem_range.mp s.2.2.1)
    have := s.2.2.2.2.2.2.1
    omega
theorem f_solidCount (h : CS S X Y G n stp) {L : List (Nat × Nat × Nat)} (hL : TRI X Y n L) : f_Nt_solidCount S = some (nI L.length, S) := by
  unfold f_Nt_solidCount f_Nt_solidCount_0
  rcases h.ground with ⟨z6, z7, hl⟩ | ⟨m, s, tw, lv, hN⟩
  · rw [z6, z7, lin_tri hl hL]; rfl
  · have t := tri_count hN.2.1 hL
    rw [hN.1.2.1, hN.2.2.2.2.1, nI_sub (by omega), show m - GC G m s = L.length by omega]
end
