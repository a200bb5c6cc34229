/-! ADD AND CLEAR on both sides, and the start -/
theorem m_forget {S : St} (h : gn S 11 = 3) : ∃ T, f_Md_forget S = some T ∧ (∀ k, k ≠ 3 → gi T k = gi S k) ∧ gi T 3 = 0 ∧ T.2.1 = S.2.1 ∧ T.2.2.1 = S.2.2.1 ∧ (∀ k, k ≠ 11 → ga T k = ga S k) ∧ ∀ i, i < 3 → ga T 11 i = -1 := by
  obtain ⟨k, hk⟩ : ∃ k, FU = k + 1 + 1 + 1 + 1 := ⟨FU - 4, by have := FU_big; omega⟩
  unfold f_Md_forget f_Md_forget_0
  rw [bn_s, hk, f_Md_forget_7]
  have g : ∀ (T : St) f, gn (seta T 11 f) 11 = gn T 11 := fun _ _ => rfl
  have h' : gn (seti S 3 0) 11 = 3 := h
  dsimp only
  rw [if_neg (by decide), h', show inb 0 3 = true by decide, as_s, bn_s, bn_s, f_Md_forget_7]
  dsimp only
  rw [if_neg (by decide), g, h', show inb (0 + 1) 3 = true by decide, as_s, bn_s, bn_s, f_Md_forget_7]
  dsimp only
  rw [if_neg (by decide), g, g, h', show inb (0 + 1 + 1) 3 = true by decide, as_s, bn_s, bn_s, f_Md_forget_7]
  dsimp only
  rw [if_pos (by decide)]
  refine ⟨_, rfl, fun j hj => ?_, ?_, rfl, rfl, fun j hj => ?_, fun i hi => ?_⟩
  · rw [gi_seta, gi_seta, gi_seta, gi_seti_ne _ _ hj]
  · rw [gi_seta, gi_seta, gi_seta, gi_seti]
  · rw [ga_seta_ne _ _ hj, ga_seta_ne _ _ hj, ga_seta_ne _ _ hj]; rfl
  · rw [ga_seta, ga_seta, ga_seta]
    rw [show Int32.toNatClampNeg 0 = 0 from rfl, show Int32.toNatClampNeg (0 + 1) = 1 from rfl, show Int32.toNatClampNeg (0 + 1 + 1) = 2 from rfl]
    simp only [upd_at]
    rcases (show i = 0 ∨ i = 1 ∨ i = 2 by omega) with q | q | q <;> rw [q] <;> rfl
theorem MP.len {S T : St} (h : LEN S) (hn : T.2.2.1 = S.2.2.1) : LEN T := by
  have e : ∀ k, gn T k = gn S k := fun k => by show T.2.2.1 k = S.2.2.1 k; rw [hn]
  unfold LEN
  simp only [e]
  exact h
theorem ok_add : ok2 Inv h_add f_Md_add := by
  intro stp Sc Sm x y v hs ⟨X, Y, G, n, hI⟩
  have hI : InvD stp Sc Sm X Y G n := hI
  obtain ⟨hC, -, -, -, hM, hfd⟩ := id hI
  obtain ⟨⟨c1, c2, c3, c4, c5, c6, c7, c8, c9, c10, c11⟩, -⟩ := id hC
  have n512 := hM.1.2.1
  have nstp : n ≤ stp := hC.2.2.2.2.2
  have hM0 := hM.th 0
  unfold f_Md_add f_Md_add_0
  rw [bn_s, m_isFar, bd_s]
  dsimp only
  by_cases hxy : inP x.toInt y.toInt
  · rw [b32_f (fun q => q hxy), if_pos rfl]
    obtain ⟨o, o1, o2⟩ := m_findPoint hM0.1 c8 x y
    rw [o2, bd_s]
    dsimp only
    cases o with
    | some b =>
      -- there is a point already
      have b1 := o1.1
      have nn : ¬ oI (some b) < 0 := by
        show ¬ nI b < 0
        rw [i32_lt0, nI_toInt (by omega)]
        omega
      rw [if_neg nn]
      obtain ⟨r, r1, r2⟩ := (f_nearestOf c7 (Nat.le_refl n) hxy).2 (by omega)
      have at1 := near_at r1 b1 o1.2
      have ht : t_Pn_add x y Sc = none := by
        unfold t_Pn_add t_Pn_add_0
        rw [(checkPlace_ok hxy Sc).2, orT_nn, (checkPlace_ok hxy Sc).1, bd_s, c5, r2, bd_s]
        dsimp only
        rw [f_isAt c7 c5 r1.1, bd_s]
        dsimp only
        rw [b32_t at1, if_neg (by decide)]
      refine ⟨0, vp_updL v (Int32.toNatClampNeg 0) (Int32.toInt64 (-1)), Sc, -1, seti Sm 0 0, ?_, rfl, thrown_s _ _, fun _ => updL_0 _ _, (hI.th hs 0).inv⟩
      unfold h_add
      rw [ht]
      dsimp only
      unfold f_Pn_add f_Pn_add_0
      rw [(checkPlace_ok hxy Sc).1, bd_s, c5, r2, bd_s]
      dsimp only
      rw [f_isAt c7 c5 r1.1, bd_s]
      dsimp only
      rw [b32_t at1, if_neg (by decide), bd_s]
    | none =>
      rw [if_pos (show oI none < 0 by decide), hM0.1.1, hM0.2.1]
      have ht : t_Pn_add x y Sc = if n < G then none else some (2, Sc) := by
        unfold t_Pn_add t_Pn_add_0
        rw [(checkPlace_ok hxy Sc).2, orT_nn, (checkPlace_ok hxy Sc).1, bd_s, c5]
        have fin : (bd (f_Pt_isFull Sc) (fun q_6 => (if q_6.1 = 0 then none else some (2, q_6.2)))) = (if n < G then none else some ((2 : Nat), Sc)) := by
          unfold f_Pt_isFull f_Pt_isFull_0
          rw [c5, c1]
          by_cases c : n < G
          · rw [if_pos (Int32.not_le.mp (nI_ge c (by omega))), bd_s]
            dsimp only
            rw [if_pos rfl, if_pos c]
          · rw [if_neg (fun q => Int32.not_le.mpr q (nI_le (by omega) (by omega))), bd_s]
            dsimp only
            rw [if_neg (by decide), if_neg c]
        have q := f_nearestOf c7 (Nat.le_refl n) hxy
        by_cases c : n = 0
        · rw [q.1 c, bd_s]
          dsimp only
          rw [f_isAtN, bd_s]
          dsimp only
          rw [if_pos rfl, fin]
        · obtain ⟨r, r1, r2⟩ := q.2 (by omega)
          rw [r2, bd_s]
          dsimp only
          rw [f_isAt c7 c5 r1.1, bd_s]
          dsimp only
          rw [b32_f (o1 r r1.1), if_pos rfl, fin]
      by_cases full : n = G
      · rw [if_pos (by rw [full]), fail_s, bd_s]
        refine ⟨2, v, Sc, 0, seti (seti Sm 0 0) 0 2, ?_, rfl, thrown_s _ _, fun q => absurd q (by decide), by rw [seti2]; exact (hI.th hs 2).inv⟩
        unfold h_add
        rw [ht, if_neg (by omega)]
        dsimp only
        rw [if_neg (by decide), if_pos rfl]
      · rw [if_neg (fun q => full ((nI_eq (by omega) (by omega)).mp q))]
        obtain ⟨T, t1, t2, t3, t4, t5⟩ := f_add_new hC hxy o1 (by omega) (by omega)
        have L := hM0.1.2.2.1
        rw [L.1, inb_n (show n < 1024 by omega) (by omega), as_s, bn_s]
        have g2 : gn (seta (seti Sm 0 0) 1 (upd (ga (seti Sm 0 0) 1) (Int32.toNatClampNeg (nI n)) x)) 2 = 1024 := L.2.1
        have i2 : gi (seta (seti Sm 0 0) 1 (upd (ga (seti Sm 0 0) 1) (Int32.toNatClampNeg (nI n)) x)) 2 = nI n := hM0.1.1
        rw [g2, i2, inb_n (show n < 1024 by omega) (by omega), as_s, bn_s]
        rw [nI_clampN (by omega)]
        generalize hA : seta (seta (seti Sm 0 0) 1 (upd (ga (seti Sm 0 0) 1) n x)) 2 (upd (ga (seta (seti Sm 0 0) 1 (upd (ga (seti Sm 0 0) 1) n x)) 2) n y) = A
        have iA : gi A 2 = nI n := by rw [← hA, gi_seta, gi_seta]; exact hM0.1.1
        rw [iA, bn_s, nI_1]
        have g11 : gn (seti A 2 (nI (n + 1))) 11 = 3 := by rw [← hA]; exact L.2.2.2.2.2.2.2.2.2.2
        obtain ⟨B, b1, b2, b3, b4, b5, b6, b7⟩ := m_forget g11
        rw [b1, bd_s]
        have B2 : gi B 2 = nI (n + 1) := by rw [b2 2 (by decide), gi_seti]
        have a1 : ga B 1 = upd (ga Sm 1) n x := by rw [b6 1 (by decide), ga_seti, ← hA, ga_seta_ne _ _ (by decide), ga_seta]; rfl
        have a2 : ga B 2 = upd (ga Sm 2) n y := by rw [b6 2 (by decide), ga_seti, ← hA, ga_seta, ga_seta_ne _ _ (by decide)]; rfl
        have nB : B.2.2.1 = Sm.2.2.1 := by rw [b5, ← hA]; rfl
        rw [B2, show nI (n + 1) - 1 = nI n from by rw [show (1 : Int32) = nI 1 from rfl, nI_sub (by omega)]; rfl]
        refine ⟨0, vp_updL v (Int32.toNatClampNeg 0) (Int32.toInt64 (nI n)), T, nI n, B, ?_, rfl, ?_, fun _ => updL_0 _ _, addX X n x.toInt, addX Y n y.toInt, G, n + 1, t2, by omega, Or.inl t4, Or.inl t5, ⟨⟨B2, by omega, MP.len hM.1.2.2.1 nB, fun i hi => ?_⟩, ?_, Or.inl b3⟩, fun i hi => by rw [t3 i hi, b7 i hi]⟩
        · unfold h_add
          rw [ht, if_pos (by omega)]
          dsimp only
          rw [t1, bd_s]
        · unfold f_Md_thrown f_Md_thrown_0
          rw [b2 0 (by decide), gi_seti_ne _ _ (by decide), ← hA, gi_seta, gi_seta, gi_seti]
        · rw [a1, a2]
          by_cases c : i = n
          · subst c
            rw [upd_same, upd_same, addX_n, addX_n]
            refine ⟨rfl, rfl, ?_⟩
            unfold inR
            rw [addX_n, addX_n]
            exact hxy
          · rw [upd_ne _ _ c, upd_ne _ _ c, addX_o c, addX_o c]
            have := hM.1.2.2.2 i (by omega)
            refine ⟨this.1, this.2.1, ?_⟩
            unfold inR
            rw [addX_o c, addX_o c]
            exact this.2.2
        · rw [b2 1 (by decide), gi_seti_ne _ _ (by decide), ← hA, gi_seta, gi_seta]; exact hM0.2.1
  · refine ⟨1, v, Sc, 0, seti (seti Sm 0 0) 0 1, ?_, ?_, thrown_s _ _, fun q => absurd q (by decide), by rw [seti2]; exact (hI.th hs 1).inv⟩
    · unfold h_add t_Pn_add t_Pn_add_0
      rw [(checkPlace_no hxy Sc).2, orT_sm]
      dsimp only
      rw [if_pos rfl]
    · rw [b32_t hxy, if_neg (by decide), fail_s, bd_s]
theorem ok_clear : ∀ (n : Nat) (Sc Sm : St), n < 512 → Inv n Sc Sm → ∃ (r : Int32) (Sc' Sm' : St), f_Pn_clear Sc = some (r, Sc') ∧ f_Md_clear Sm = some (r, Sm') ∧ Inv (n + 1) Sc' Sm' := by
  intro stp Sc Sm hs ⟨X, Y, G, n, hI⟩
  have hI : InvD stp Sc Sm X Y G n := hI
  obtain ⟨hC, -, -, -, hM, hfd⟩ := id hI
  obtain ⟨⟨c1, c2, c3, c4, c5, c6, c7, c8, c9, c10, c11⟩, -, -, ⟨mk, mk1, mk2⟩, h30, -⟩ := id hC
  have hM0 := hM.th 0
  unfold f_Pn_clear f_Pn_clear_0 f_Nt_removeAll f_Nt_removeAll_0
  rw [c5, bn_s, bn_s, bn_s, bn_s, bd_s, bn_s, bn_s]
  generalize hA : seti (seti (seti (seti (seti Sc 3 0) 6 0) 7 0) 0 (-1)) 1 (-1) = A
  have ai : ∀ k, k ≠ 3 → k ≠ 6 → k ≠ 7 → k ≠ 0 → k ≠ 1 → gi A k = gi Sc k := fun k p q r s t => by rw [← hA, gi_seti_ne _ _ t, gi_seti_ne _ _ s, gi_seti_ne _ _ r, gi_seti_ne _ _ q, gi_seti_ne _ _ p]
  have a3 : gi A 3 = 0 := by rw [← hA, gi_seti_ne _ _ (by decide), gi_seti_ne _ _ (by decide), gi_seti_ne _ _ (by decide), gi_seti_ne _ _ (by decide), gi_seti]
  have a6 : gi A 6 = 0 := by rw [← hA, gi_seti_ne _ _ (by decide), gi_seti_ne _ _ (by decide), gi_seti_ne _ _ (by decide), gi_seti]
  have a7 : gi A 7 = 0 := by rw [← hA, gi_seti_ne _ _ (by decide), gi_seti_ne _ _ (by decide), gi_seti]
  have a0 : gi A 0 = -1 := by rw [← hA, gi_seti_ne _ _ (by decide), gi_seti]
  have nA : A.2.2.1 = Sc.2.2.1 := by rw [← hA]; rfl
  have gA : ∀ k, ga A k = ga Sc k := fun k => by rw [← hA]; rfl
  have g30 : gn A 30 = 3 := by rw [← hA]; exact h30
  have csA : CS A X Y G 0 (stp + 1) := by
    refine ⟨⟨by rw [ai 2 (by decide) (by decide) (by decide) (by decide) (by decide)]; exact c1, by rw [ai 4 (by decide) (by decide) (by decide) (by decide) (by decide)]; exact c2, c3, c4, a3, by omega, ⟨(c7.1.le (by omega)).of nA, (c7.2.1.le (by omega)).of nA, fun i hi => absurd hi (Nat.not_lt_zero i), by omega⟩, fun i hi => absurd hi (Nat.not_lt_zero i), c9.zero.of nA, fun q => absurd q (Nat.not_lt_zero 0), c11.of nA⟩, Or.inl ⟨a6, a7, fun i hi => absurd hi (Nat.not_lt_zero i)⟩, ⟨fun _ => a0, fun q => by omega⟩, ⟨mk, by omega, by rw [ai 5 (by decide) (by decide) (by decide) (by decide) (by decide)]; exact mk2.1, by rw [gA]; exact mk2.2⟩, g30, by omega⟩
  obtain ⟨T, t1, t2, t3, t4, t5, t6, t7, t8⟩ := f_forgetAnswers g30
  rw [t1, bd_s]
  have fA : frA A T := ⟨fun k hk => t2 k (by omega) (by omega), by rw [t3], t4, fun k hk => t5 k (by omega)⟩
  unfold f_Md_clear f_Md_clear_0
  rw [bn_s, hM0.1.1, bn_s, bn_s]
  have g11 : gn (seti (seti Sm 0 0) 2 0) 11 = 3 := hM.1.2.2.1.2.2.2.2.2.2.2.2.2.2
  obtain ⟨B, b1, b2, b3, b4, b5, b6, b7⟩ := m_forget g11
  rw [b1, bd_s]
  refine ⟨nI n, T, B, rfl, rfl, X, Y, G, 0, fA.cs csA, by omega, Or.inl t7, Or.inl t8, ⟨⟨by rw [b2 2 (by decide), gi_seti]; rfl, by omega, MP.len hM.1.2.2.1 (by rw [b5]; rfl), fun i hi => absurd hi (Nat.not_lt_zero i)⟩, ?_, Or.inl b3⟩, fun i hi => by rw [t6 i hi, b7 i hi]⟩
  rw [b2 1 (by decide), gi_seti_ne _ _ (by decide), gi_seti_ne _ _ (by decide)]; exact hM.2.1
/-! the start -/
theorem clamp_nI (x : Int32) : ∃ g, 1 ≤ g ∧ g ≤ 1024 ∧ clampC x = nI g ∧ clampM x = nI g := by
  have l1 : (1024 : Int32) < x ↔ 1024 < x.toInt := lt32 _ _
  have l2 : (1 : Int32) < x ↔ 1 < x.toInt := lt32 _ _
  have l3 : (1 : Int32) ≤ x ↔ 1 ≤ x.toInt := le32 _ _
  have l4 : x ≤ (1024 : Int32) ↔ x.toInt ≤ 1024 := le32 _ _
  unfold clampC clampM
  by_cases a : (1024 : Int32) < x
  · refine ⟨1024, by omega, by omega, ?_, ?_⟩
    · rw [if_pos a, if_pos (by decide)]; rfl
    · rw [if_pos (by rw [l3]; rw [l1] at a; omega), if_neg (by rw [l4]; rw [l1] at a; omega)]; rfl
  · rw [if_neg a]
    rw [l1] at a
    by_cases b : (1 : Int32) < x
    · rw [if_pos b, if_pos (by rw [l3]; rw [l2] at b; omega), if_pos (by rw [l4]; omega)]
      rw [l2] at b
      refine ⟨x.toInt.toNat, by omega, by omega, ?_, ?_⟩ <;> (rw [eq32, nI_toInt (by omega)]; omega)
    · rw [if_neg b]
      rw [l2] at b
      refine ⟨1, by omega, by omega, rfl, ?_⟩
      by_cases c : (1 : Int32) ≤ x
      · rw [if_pos c, if_pos (by rw [l4]; omega)]
        rw [l3] at c
        rw [eq32, nI_toInt (by omega)]
        omega
      · rw [if_neg c]; rfl
theorem plenI_n {g : Nat} (h1 : 1 ≤ g) (h2 : g ≤ 100000) : plenI (nI g) = nI ((g - 1) / 32 + 1) := by
  unfold plenI
  rw [if_pos (by rw [lt32, nI_toInt (by omega)]; show (0 : Int) < g; omega), show (1 : Int32) = nI 1 from rfl, nI_sub h1, show (32 : Int32) = nI 32 from rfl, nI_div (by omega) (by decide) (by decide), nI_add]
theorem plenN_n {g : Nat} (h1 : 1 ≤ g) (h2 : g ≤ 100000) : plenN (nI g) = (g - 1) / 32 + 1 := by
  unfold plenN
  rw [plenI_n h1 h2, nI_clampN (by omega)]
theorem hr_ok (x : Int32) : HR (clampC x) := by
  obtain ⟨g, g1, g2, g3, -⟩ := clamp_nI x
  rw [g3]
  have e6 : 6 * nI g = nI (6 * g) := nI_mul 6 g
  have e2 : 2 * nI g = nI (2 * g) := nI_mul 2 g
  unfold HR
  rw [e6, e2, nI_1]
  have key : ∀ k, 1 ≤ k → k ≤ 6144 → alen (plenI (nI k)) 192 = true := fun k a b => by
    rw [plenI_n a (by omega)]
    unfold alen
    rw [nI_toInt (by omega)]
    exact decide_eq_true (by omega)
  exact ⟨key g (by omega) (by omega), key _ (by omega) (by omega), key _ (by omega) (by omega), key _ (by omega) (by omega)⟩
theorem skip_ok : ∀ (n : Nat) (Sc Sm : St), n < 512 → Inv n Sc Sm → Inv (n + 1) Sc Sm := by
  intro stp Sc Sm hs ⟨X, Y, G, n, h1, h2, h3⟩
  exact ⟨X, Y, G, n, h1.more, by omega, h3⟩
theorem start_ok (x : Int32) : Inv 0 (s0_c (clampC x)) (s0_m (clampM x)) := by
  obtain ⟨g, g1, g2, g3, g4⟩ := clamp_nI x
  rw [g3, g4]
  have e6 : 6 * nI g = nI (6 * g) := nI_mul 6 g
  have e2 : 2 * nI g = nI (2 * g) := nI_mul 2 g
  have q0 := plenN_n (g := g) (by omega) (by omega)
  have q6 := plenN_n (g := 6 * g) (by omega) (by omega)
  have q2 := plenN_n (g := 2 * g) (by omega) (by omega)
  have q1 := plenN_n (g := g + 1) (by omega) (by omega)
  generalize hA : s0_c (nI g) = A
  have A18 : gn A 18 = (g - 1) / 32 + 1 := by rw [← hA, ← q0]; rfl
  have A19 : gn A 19 = (g - 1) / 32 + 1 := by rw [← hA, ← q0]; rfl
  have A20 : gn A 20 = (6 * g - 1) / 32 + 1 := by rw [← hA, ← q6, ← e6]; rfl
  have A21 : gn A 21 = (6 * g - 1) / 32 + 1 := by rw [← hA, ← q6, ← e6]; rfl
  have A22 : gn A 22 = (g + 1 - 1) / 32 + 1 := by rw [← hA, ← q1, ← nI_1]; rfl
  have A23 : gn A 23 = (2 * g - 1) / 32 + 1 := by rw [← hA, ← q2, ← e2]; rfl
  have A24 : gn A 24 = (2 * g - 1) / 32 + 1 := by rw [← hA, ← q2, ← e2]; rfl
  have A25 : gn A 25 = (2 * g - 1) / 32 + 1 := by rw [← hA, ← q2, ← e2]; rfl
  have A26 : gn A 26 = (2 * g - 1) / 32 + 1 := by rw [← hA, ← q2, ← e2]; rfl
  have A27 : gn A 27 = (2 * g - 1) / 32 + 1 := by rw [← hA, ← q2, ← e2]; rfl
  have A28 : gn A 28 = (g + 1 - 1) / 32 + 1 := by rw [← hA, ← q1, ← nI_1]; rfl
  have A29 : gn A 29 = (g - 1) / 32 + 1 := by rw [← hA, ← q0]; rfl
  have A0 : ∀ k, 6 ≤ k → k < 18 → gn A k = 0 := by
    intro k a b
    rw [← hA]
    rcases (show k = 6 ∨ k = 7 ∨ k = 8 ∨ k = 9 ∨ k = 10 ∨ k = 11 ∨ k = 12 ∨ k = 13 ∨ k = 14 ∨ k = 15 ∨ k = 16 ∨ k = 17 by omega) with rfl | rfl | rfl | rfl | rfl | rfl | rfl | rfl | rfl | rfl | rfl | rfl <;> rfl
  have cap : ∀ k, 6 ≤ k → k < 18 → gn A (k + 12) ≤ 192 → Cap A k 0 := fun k a b c => ⟨by omega, by rw [A0 k a b]; omega, c⟩
  have i2 : gi A 2 = nI g := by rw [← hA]; rfl
  have i4 : gi A 4 = nI g := by rw [← hA]; rfl
  refine ⟨fun _ => 0, fun _ => 0, g, 0, ⟨⟨i2, i4, g1, g2, by rw [← hA]; rfl, by omega, ⟨cap 6 (by omega) (by omega) (by rw [A18]; omega), cap 7 (by omega) (by omega) (by rw [A19]; omega), fun i hi => absurd hi (Nat.not_lt_zero i), by omega⟩, fun i hi => absurd hi (Nat.not_lt_zero i), ?_, fun q => absurd q (Nat.not_lt_zero 0), ?_⟩, Or.inl ⟨by rw [← hA]; rfl, by rw [← hA]; rfl, fun i hi => absurd hi (Nat.not_lt_zero i)⟩, ⟨fun _ => by rw [← hA]; rfl, fun q => by omega⟩, ⟨0, by omega, by rw [← hA]; rfl, fun t => ⟨0, by omega, by rw [← hA]; rfl⟩⟩, by rw [← hA]; rfl, by omega⟩, by omega, Or.inl (by rw [← hA]; rfl), Or.inl (by rw [← hA]; rfl), ⟨⟨rfl, by omega, ⟨rfl, rfl, rfl, rfl, rfl, rfl, rfl, rfl, rfl, rfl, rfl⟩, fun i hi => absurd hi (Nat.not_lt_zero i)⟩, rfl, Or.inl rfl⟩, fun i hi => ?_⟩
  · exact ⟨cap 6 (by omega) (by omega) (by rw [A18]; omega), cap 7 (by omega) (by omega) (by rw [A19]; omega), cap 8 (by omega) (by omega) (by rw [A20]; omega), cap 9 (by omega) (by omega) (by rw [A21]; omega), cap 10 (by omega) (by omega) (by rw [A22]; omega), cap 11 (by omega) (by omega) (by rw [A23]; omega), cap 12 (by omega) (by omega) (by rw [A24]; omega), cap 13 (by omega) (by omega) (by rw [A25]; omega), cap 14 (by omega) (by omega) (by rw [A26]; omega), cap 15 (by omega) (by omega) (by rw [A27]; omega), cap 16 (by omega) (by omega) (by rw [A28]; omega), cap 17 (by omega) (by omega) (by rw [A29]; omega)⟩
  · unfold PG
    rw [A18, A19, A20, A21, A22, A23, A24, A25, A26, A27, A28, A29]
    omega
  · rw [← hA]
    rcases (show i = 0 ∨ i = 1 ∨ i = 2 by omega) with q | q | q <;> rw [q] <;> rfl
