/-! TRIANGLE -/
section
variable {S T Sc Sm : St} {n G m stp : Nat} {X Y : Nat → Int} {s tw lv : Nat → Nat} {L : List (Nat × Nat × Nat)}
theorem TRI_one {L L' : List (Nat × Nat × Nat)} (h : TRI X Y n L) (h' : TRI X Y n L') : L = L' := sorted_eq lex3_as L L' h.1 h'.1 (fun x => by rw [h.2, h'.2])
/-- what the roll leaves alone, itself apart -/
def frQ (S T : St) : Prop := (∀ k, k ≠ 10 → gi T k = gi S k) ∧ T.2.1 = S.2.1 ∧ T.2.2.1 = S.2.2.1 ∧ ∀ k, k ≠ 14 → k ≠ 15 → k ≠ 16 → ga T k = ga S k
theorem frQ.a (f : frQ S T) : frA S T := ⟨fun k hk => f.1 k (by omega), by rw [f.2.1], f.2.2.1, fun k hk => f.2.2.2 k (by omega) (by omega) (by omega)⟩
theorem f_roll (h : CS S X Y G n stp) (hR : RO S X Y n) (hL : TRI X Y n L) {k : Nat} (hk : k < L.length) : ∃ T e, f_Rl_edge (nI k) S = some (nI e, T) ∧ frQ S T ∧ RO T X Y n ∧ e < 6 * n ∧ ga S 8 e = nI L[k].1 ∧ ga S 8 (nx e) = nI L[k].2.1 ∧ ga S 8 (nx (nx e)) = nI L[k].2.2 := by
  obtain ⟨c1, c2, c3, c4, c5, c6, c7, c8, c9, c10, c11⟩ := h.1
  have nle : n ≤ 1024 := c7.2.2.2
  rcases h.ground with ⟨-, -, hl⟩ | ⟨m, s, tw, lv, hN⟩
  · have := lin_tri hl hL
    subst this
    exact absurd hk (Nat.not_lt_zero _)
  have n3 := hN.2.1.n3
  have mb := hN.2.1.2.2.2.1
  have hr := c10 (by omega)
  have lm := tri_count hN.2.1 hL
  unfold f_Rl_edge f_Rl_edge_0 f_Rl_edge_11
  rcases hR with h0 | ⟨h1, L', hL', hl', ha⟩
  · rw [if_pos h0]
    obtain ⟨T, R, r1, r2, r3, r4, r5, r6, r7, r8⟩ := f_sortAll hN hr c5 nle
    have eL := TRI_one hL r7
    have fq : frQ S T := ⟨r4, r2.2.1, r2.2.2.1, r2.2.2.2⟩
    have lenL : L.length = R.length := by rw [eL]; simp
    have at8 : ∀ i (hi : i < L.length), R.getD i 0 < 3 * m ∧ ga S 8 (R.getD i 0) = nI L[i].1 ∧ ga S 8 (nx (R.getD i 0)) = nI L[i].2.1 ∧ ga S 8 (nx (nx (R.getD i 0))) = nI L[i].2.2 := by
      intro i hi
      have hiR : i < R.length := by omega
      have em := r6 _ (getD_mem' hiR)
      have e7 := hN.1.2.2.2.2.2.2.1
      have : L[i] = tri3 s (R.getD i 0) := by
        have : L[i] = (R.map (tri3 s))[i]'(by simpa using hiR) := by simp only [eL]
        rw [this, List.getElem_map, getD_get hiR]
      rw [this]
      exact ⟨em, (e7 _ em).1, (e7 _ (nx_lt em)).1, (e7 _ (nx_lt (nx_lt em))).1⟩
    have t8 : ga T 8 = ga S 8 := fq.2.2.2 8 (by decide) (by decide) (by decide)
    have c14 := hr.2.2.2.2.2.2.2.2.1
    rw [r1, bd_s, get_ok (c14.of fq.2.2.1) (show k < 2 * n by omega), bd_s]
    have q := at8 k hk
    refine ⟨T, R.getD k 0, by rw [r5 k (by omega)], fq, Or.inr ⟨r3, L, hL, by omega, fun i hi => ?_⟩, by omega, q.2⟩
    have z := at8 i hi
    exact ⟨R.getD i 0, by omega, r5 i (by omega), by rw [t8]; exact z.2.1, by rw [t8]; exact z.2.2.1, by rw [t8]; exact z.2.2.2⟩
  · have eL := TRI_one hL hL'
    subst eL
    rw [if_neg (by rw [h1]; decide)]
    have c14 := hr.2.2.2.2.2.2.2.2.1
    rw [get_ok c14 (show k < 2 * n by omega), bd_s]
    obtain ⟨e, e1, e2, e3⟩ := ha k hk
    exact ⟨S, e, by rw [e2], ⟨fun _ _ => rfl, rfl, rfl, fun _ _ _ _ => rfl⟩, Or.inr ⟨h1, L, hL, hl', ha⟩, e1, e3⟩
theorem ok_triangle : ok2 Inv h_triangle f_Md_triangle := by
  intro stp Sc Sm x y v hs ⟨X, Y, G, n, hI⟩
  have hI : InvD stp Sc Sm X Y G n := hI
  obtain ⟨hC, -, hR, hO, hM, -⟩ := id hI
  have n512 := hM.1.2.1
  obtain ⟨c1, c2, c3, c4, c5, c6, c7, c8, c9, c10, c11⟩ := hC.1
  obtain ⟨Tm, L, C, k1, k2, k3, k4, k5⟩ := know_ok hI 0
  have Lb := k2.2.2.1
  have sc := f_solidCount hC k2.1
  have fail : InvD (stp + 1) Sc (seti Tm 0 1) X Y G n := ⟨hC.more, by omega, hR, hO, k3.th 1, fun i hi => by rw [ga_seti, k5]; exact hI.2.2.2.2.2 i hi⟩
  have z : (0 : Int32).toInt = 0 := rfl
  have z2 : (2 : Int32).toInt = 2 := rfl
  have wi : f_Md_within x 0 (gi Tm 4 - 1) Tm = some (b32 (0 ≤ x.toInt ∧ x.toInt ≤ (L.length : Int) - 1), Tm) := by
    rw [m_within, k2.2.2.2.2.1, pred_int (by omega)]
    rfl
  unfold f_Md_triangle f_Md_triangle_0
  rw [bn_s, k1, bd_s, wi, bd_s]
  dsimp only
  unfold f_Md_triangle_32
  by_cases c : 0 ≤ x.toInt ∧ x.toInt ≤ (L.length : Int) - 1
  · have nx0 : ¬ x < 0 := by rw [lt32, z]; omega
    obtain ⟨j, hj, rfl⟩ := nI_of nx0
    have ej := nI_toInt hj
    have hjL : j < L.length := by omega
    have nle : ¬ nI L.length ≤ nI j := nI_ge hjL (by omega)
    rw [b32_t c, if_neg (by decide), m_within, bd_s, z, z2]
    dsimp only
    by_cases d : 0 ≤ y.toInt ∧ y.toInt ≤ 2
    · rw [b32_t d, if_neg (by decide)]
      have ny0 : ¬ y < 0 := by rw [lt32, z]; omega
      have ny2 : y ≤ 2 := by rw [le32, z2]; omega
      obtain ⟨w, hw, rfl⟩ := nI_of ny0
      have ew := nI_toInt hw
      obtain ⟨T, e, r1, r2, r3, r4, r5, r6, r7⟩ := f_roll hC hR k2.1 hjL
      have inv : InvD (stp + 1) T Tm X Y G n := ⟨(r2.a.cs hC).more, by omega, r3, by
        unfold OLC at hO ⊢
        rw [r2.1 12 (by decide), r2.1 11 (by decide), r2.2.2.2 17 (by decide) (by decide) (by decide)]
        exact hO, k3, fun i hi => by rw [r2.2.2.2 30 (by decide) (by decide) (by decide), k5]; exact hI.2.2.2.2.2 i hi⟩
      have n1 : 0 < n := by omega
      have cap8 := ((c10 n1).2.2.1).of r2.2.2.1
      have t8 : ga T 8 = ga Sc 8 := r2.2.2.2 8 (by decide) (by decide) (by decide)
      -- the class's answer
      have cls : ∀ a, ga Sc 8 (ah e w) = nI a → h_triangle (nI j) (nI w) v Sc = some (0, vp_updL v (Int32.toNatClampNeg 0) (Int32.toInt64 (nI a)), T) := by
        intro a ha
        unfold h_triangle t_Pn_triangle t_Pn_triangle_0
        rw [if_neg nx0, sc, bd_s]
        dsimp only
        rw [if_neg nle, if_neg ny0, if_pos ny2]
        dsimp only
        unfold f_Pn_triangle f_Pn_triangle_0
        rw [if_neg nx0, sc, bd_s]
        dsimp only
        rw [if_neg nle, if_neg ny0, if_pos ny2, r1, bd_s]
        dsimp only
        rw [f_ahead (by omega) (by omega), bd_s]
        dsimp only
        unfold f_Nt_startOf f_Nt_startOf_0
        rw [get_ok cap8 (show ah e w < 6 * n by unfold ah; omega), bd_s, t8, ha]
        rfl
      have w3 : w = 0 ∨ w = 1 ∨ w = 2 := by omega
      have at' := k2.2.2.2.2.2.2.1.at hjL
      have ib : ∀ k, k = 3 ∨ k = 4 ∨ k = 5 → inb (nI j) (gn Tm k) = true := by
        intro k hk
        have l := k3.1.2.2.1
        have : gn Tm k = 2048 := by
          rcases hk with rfl | rfl | rfl
          · exact l.2.2.1
          · exact l.2.2.2.1
          · exact l.2.2.2.2.1
        rw [this]; exact inb_n (by omega) (by omega)
      rcases w3 with rfl | rfl | rfl
      · refine ⟨0, _, T, nI L[j].1, Tm, cls L[j].1 (by rw [ah_0]; exact r5), ?_, thrown_is k4, fun _ => updL_0 _ _, inv.inv⟩
        rw [if_pos (show nI 0 = 0 from rfl), ib 3 (Or.inl rfl), as_s, nI_clampN (by omega), at'.1]
      · refine ⟨0, _, T, nI L[j].2.1, Tm, cls L[j].2.1 (by rw [ah_1]; exact r6), ?_, thrown_is k4, fun _ => updL_0 _ _, inv.inv⟩
        rw [if_neg (show ¬ nI 1 = 0 by decide), if_pos (show nI 1 = 1 from rfl), ib 4 (Or.inr (Or.inl rfl)), as_s, nI_clampN (by omega), at'.2.1]
      · refine ⟨0, _, T, nI L[j].2.2, Tm, cls L[j].2.2 (by rw [ah_2]; exact r7), ?_, thrown_is k4, fun _ => updL_0 _ _, inv.inv⟩
        rw [if_neg (show ¬ nI 2 = 0 by decide), if_neg (show ¬ nI 2 = 1 by decide), ib 5 (Or.inr (Or.inr rfl)), as_s, nI_clampN (by omega), at'.2.2]
    · rw [b32_f d, if_pos rfl, fail_s, bd_s]
      refine ⟨1, v, Sc, 0, seti Tm 0 1, ?_, rfl, thrown_s _ _, fun q => absurd q (by decide), fail.inv⟩
      unfold h_triangle t_Pn_triangle t_Pn_triangle_0 t_Pn_triangle_24
      rw [if_neg nx0, sc, bd_s]
      dsimp only
      rw [if_neg nle]
      by_cases y0 : y < 0
      · rw [if_pos y0]; rfl
      · rw [if_neg y0, if_neg (by rw [lt32, z] at y0; rw [le32, z2]; omega)]; rfl
  · rw [b32_f c, if_pos rfl, fail_s, bd_s]
    refine ⟨1, v, Sc, 0, seti Tm 0 1, ?_, rfl, thrown_s _ _, fun q => absurd q (by decide), fail.inv⟩
    unfold h_triangle t_Pn_triangle t_Pn_triangle_0 t_Pn_triangle_24
    by_cases x0 : x < 0
    · rw [if_pos x0]; rfl
    · rw [if_neg x0, sc, bd_s]
      dsimp only
      rw [if_pos (by rw [le32, nI_toInt (by omega)]; rw [lt32, z] at x0; omega)]
      rfl
end
