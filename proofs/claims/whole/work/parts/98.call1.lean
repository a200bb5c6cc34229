/-! CORNER AND COUNT -/
section
variable {Sc Sm : St} {n G stp : Nat} {X Y : Nat → Int}
theorem pred_int {k : Nat} (h : k < 2 ^ 31) : (nI k - 1).toInt = (k : Int) - 1 := by
  cases k with
  | zero => rfl
  | succ k => rw [nI_pred, nI_toInt (by omega)]; omega
/-- the reference knows, and is as it was otherwise -/
theorem know_ok (hI : InvD stp Sc Sm X Y G n) (v : Int32) : ∃ T L C, f_Md_know (seti Sm 0 v) = some T ∧ KX T X Y n L C ∧ MS T X Y G n ∧ gi T 0 = v ∧ ga T 11 = ga Sm 11 := by
  obtain ⟨hC, -, -, -, hM, -⟩ := id hI
  have hM' := hM.th v
  obtain ⟨T, L, C, r1, r2, r3, r4, r5, r6, r7⟩ := m_know hM'.1 hM'.2.2 hC.dn hC.gr
  exact ⟨T, L, C, r1, r7, ⟨r2, by rw [r3]; exact hM'.2.1, r7.kn r6⟩, by rw [r4]; exact gi_seti _ _ _, r5⟩
theorem thrown_is {T : St} {v : Int32} (h : gi T 0 = v) : f_Md_thrown T = some (v, T) := by
  unfold f_Md_thrown f_Md_thrown_0
  rw [h]
theorem nI_toInt' {k : Nat} (h : k < 2 ^ 31) : (nI k).toInt = (k : Int) := nI_toInt h
theorem f_many_at {S : St} (h : CS S X Y G n stp) (ho : OLC S X Y n) : ∃ T C, f_Ol_many S = some (nI C.length, T) ∧ (∀ k, k < C.length → f_Ol_at (nI k) T = some (nI (C.getD k 0), T)) ∧ CORN X Y n C ∧ C.length ≤ n ∧ frU S T ∧ OLC T X Y n := by
  obtain ⟨T, C, r1, r2, r3, r4, r5, r6, r7⟩ := f_draw h ho
  refine ⟨T, C, ?_, fun k hk => ?_, r3, r4, r2, Or.inr ⟨r7, C, r3, r6, r4, fun k hk => by rw [r5 k hk, getD_get hk]⟩⟩
  · unfold f_Ol_many f_Ol_many_0
    rw [r1, bd_s, r6]
  · obtain ⟨c1, c2, c3, c4, c5, c6, c7, c8, c9, c10, c11⟩ := h.1
    unfold f_Ol_at f_Ol_at_0 f_Ol_draw f_Ol_draw_0
    rw [r7, if_neg (by decide), bd_s, get_ok (((c10 (by omega)).2.2.2.2.2.2.2.2.2.2.2).of r2.2.2.1) (show k < n by omega), bd_s]
    dsimp only
    rw [r5 k hk]
theorem InvD.drawn (hI : InvD stp Sc Sm X Y G n) (hs : stp < 512) {T Tm : St} (f : frU Sc T) (ho : OLC T X Y n) (hM : MS Tm X Y G n) (h11 : ga Tm 11 = ga Sm 11) : InvD (stp + 1) T Tm X Y G n :=
  ⟨(f.a.cs hI.1).more, by omega, f.ro hI.2.2.1, ho, hM, fun i hi => by rw [f.2.2.2 30 (by decide), h11]; exact hI.2.2.2.2.2 i hi⟩
theorem ok_corner : ok1 Inv h_corner f_Md_corner := by
  intro stp Sc Sm x v hs ⟨X, Y, G, n, hI⟩
  have hI : InvD stp Sc Sm X Y G n := hI
  obtain ⟨hC, -, -, hO, hM, -⟩ := id hI
  have n512 := hM.1.2.1
  obtain ⟨Tm, L, C, k1, k2, k3, k4, k5⟩ := know_ok hI 0
  obtain ⟨T, C', m1, m2, m3, m4, m5, m6⟩ := f_many_at hC hO
  have eC := CORN_one m3 k2.2.1
  subst eC
  have wi : f_Md_within x 0 (gi Tm 5 - 1) Tm = some (b32 (0 ≤ x.toInt ∧ x.toInt ≤ (C'.length : Int) - 1), Tm) := by
    rw [m_within, k2.2.2.2.2.2.1, pred_int (by omega)]
    rfl
  unfold f_Md_corner f_Md_corner_0
  rw [bn_s, k1, bd_s, wi, bd_s]
  dsimp only
  have z : (0 : Int32).toInt = 0 := rfl
  by_cases c0 : x < 0
  · have : x.toInt < 0 := by rw [lt32, z] at c0; exact c0
    refine ⟨1, v, Sc, 0, seti Tm 0 1, ?_, ?_, thrown_s _ _, fun q => absurd q (by decide), InvD.inv ⟨hC.more, by omega, hI.2.2.1, hO, k3.th 1, fun i hi => by rw [ga_seti, k5]; exact hI.2.2.2.2.2 i hi⟩⟩
    · unfold h_corner t_Pn_corner t_Pn_corner_0 t_Pn_corner_15
      rw [if_pos c0]
      rfl
    · rw [b32_f (by omega), if_pos rfl, fail_s, bd_s]
  · obtain ⟨j, hj, rfl⟩ := nI_of c0
    have e := nI_toInt hj
    by_cases c1 : j < C'.length
    · refine ⟨0, vp_updL v (Int32.toNatClampNeg 0) (Int32.toInt64 (nI (C'.getD j 0))), T, nI (C'.getD j 0), Tm, ?_, ?_, thrown_is k4, fun _ => updL_0 _ _, (hI.drawn hs m5 m6 k3 k5).inv⟩
      · unfold h_corner t_Pn_corner t_Pn_corner_0
        rw [if_neg c0, m1, bd_s]
        dsimp only
        rw [if_pos (nI_lt c1 (by omega))]
        dsimp only
        unfold f_Pn_corner f_Pn_corner_0
        rw [if_neg c0, m1, bd_s]
        dsimp only
        rw [if_pos (nI_lt c1 (by omega)), m2 j c1, bd_s, bd_s]
      · rw [b32_t (by omega), if_neg (by decide), k3.1.2.2.1.2.2.2.2.2.1, inb_n (by omega) (by omega), as_s, nI_clampN (by omega), k2.2.2.2.2.2.2.2 j c1]
    · refine ⟨1, v, T, 0, seti Tm 0 1, ?_, ?_, thrown_s _ _, fun q => absurd q (by decide), (hI.drawn hs m5 m6 (k3.th 1) k5).inv⟩
      · unfold h_corner t_Pn_corner t_Pn_corner_0 t_Pn_corner_15
        rw [if_neg c0, m1, bd_s]
        dsimp only
        rw [if_neg (nI_nlt (by omega) (by omega))]
        rfl
      · rw [b32_f (by omega), if_pos rfl, fail_s, bd_s]
theorem ok_count : okd Inv f_Pn_count f_Md_count := by
  intro stp Sc Sm x hs ⟨X, Y, G, n, hI⟩
  have hI : InvD stp Sc Sm X Y G n := hI
  obtain ⟨hC, -, -, hO, hM, -⟩ := id hI
  obtain ⟨Tm, L, C, k1, k2, k3, k4, k5⟩ := know_ok hI 0
  have fix : InvD (stp + 1) Sc Tm X Y G n := ⟨hC.more, by omega, hI.2.2.1, hO, k3, fun i hi => by rw [k5]; exact hI.2.2.2.2.2 i hi⟩
  have z : (0 : Int32).toInt = 0 := rfl
  have z2 : (2 : Int32).toInt = 2 := rfl
  unfold f_Md_count f_Md_count_0 f_Pn_count f_Pn_count_0
  rw [bn_s, m_within, bd_s, z, z2]
  dsimp only
  by_cases c : 0 ≤ x.toInt ∧ x.toInt ≤ 2
  · rw [b32_t c, if_neg (show ¬ (1 : Int32) = 0 by decide), k1, bd_s]
    by_cases c0 : x.toInt = 0
    · have e0 : x = 0 := (eq32 _ _).mpr (by rw [c0, z])
      rw [if_pos c0, if_pos e0]
      exact ⟨_, _, _, rfl, by rw [hC.1.2.2.2.2.1, k3.1.1], fix.inv⟩
    · have e0 : ¬ x = 0 := fun q => c0 (by rw [q, z])
      rw [if_neg c0, if_neg e0]
      by_cases c1 : x.toInt = 1
      · have e1 : x = 1 := (eq32 _ _).mpr c1
        rw [if_pos c1, if_pos e1, f_solidCount hC k2.1, bd_s]
        exact ⟨_, _, _, rfl, by rw [k2.2.2.2.2.1], fix.inv⟩
      · have e1 : ¬ x = 1 := fun q => c1 (by rw [q]; rfl)
        rw [if_neg c1, if_neg e1, if_pos (by omega)]
        obtain ⟨T, C', m1, m2, m3, m4, m5, m6⟩ := f_many_at hC hO
        have eC := CORN_one m3 k2.2.1
        subst eC
        rw [m1, bd_s]
        exact ⟨_, _, _, rfl, by rw [k2.2.2.2.2.2.1], (hI.drawn hs m5 m6 k3 k5).inv⟩
  · rw [b32_f c, if_pos (show (0 : Int32) = 0 from rfl), if_neg (by omega), if_neg (by omega), if_neg (by omega)]
    exact ⟨_, _, _, rfl, rfl, (hI.th hs 0).inv⟩
end
