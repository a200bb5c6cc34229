/-! THE EASY CALLS -/
def InvD (stp : Nat) (Sc Sm : St) (X Y : Nat → Int) (G n : Nat) : Prop := CS Sc X Y G n stp ∧ stp ≤ 512 ∧ RO Sc X Y n ∧ OLC Sc X Y n ∧ MS Sm X Y G n ∧ ∀ i, i < 3 → ga Sc 30 i = ga Sm 11 i
theorem InvD.inv {stp : Nat} {Sc Sm : St} {X Y : Nat → Int} {G n : Nat} (h : InvD stp Sc Sm X Y G n) : Inv stp Sc Sm := ⟨X, Y, G, n, h⟩
theorem InvD.th {stp : Nat} {Sc Sm : St} {X Y : Nat → Int} {G n : Nat} (h : InvD stp Sc Sm X Y G n) (hs : stp < 512) (v : Int32) : InvD (stp + 1) Sc (seti Sm 0 v) X Y G n := ⟨h.1.more, by omega, h.2.2.1, h.2.2.2.1, h.2.2.2.2.1.th v, h.2.2.2.2.2⟩
theorem thrown_s (S : St) (v : Int32) : f_Md_thrown (seti S 0 v) = some (v, seti S 0 v) := by
  unfold f_Md_thrown f_Md_thrown_0
  rw [gi_seti]
theorem fail_s (S : St) (v : Int32) : f_Md_fail v S = some (0, seti S 0 v) := rfl
theorem seti2 (S : St) (k : Nat) (u v : Int32) : seti (seti S k u) k v = seti S k v := by
  unfold seti
  have : up1 (up1 S.1 k u) k v = up1 S.1 k v := by
    funext j
    by_cases c : j = k
    · rw [c, up1_same, up1_same]
    · rw [up1_ne _ _ c, up1_ne _ _ c, up1_ne _ _ c]
  show (up1 (up1 S.1 k u) k v, _) = _
  rw [this]
theorem updL_0 (v : Nat → Int64) (x : Int64) : vp_updL v (Int32.toNatClampNeg 0) x (Int32.toNatClampNeg 0) = x := by
  unfold vp_updL
  simp
theorem orT_sm {α : Type} (a : α) (b : Option α) : orT (some a) b = some a := rfl
theorem orT_nn {α : Type} (b : Option α) : orT none b = b := rfl
theorem atO_near {X Y : Nat → Int} {n : Nat} {x y : Int} {o : Option Nat} (hd : ∀ i, i < n → ∀ j, j < n → i ≠ j → dif X Y i j) (ho : atO X Y n x y o) {b : Nat} (hb : isNear X Y n x y b) : (o = some b ∧ X b = x ∧ Y b = y) ∨ (o = none ∧ ¬ (X b = x ∧ Y b = y)) := by
  cases o with
  | none => exact Or.inr ⟨rfl, ho b hb.1⟩
  | some c =>
    left
    have q := near_at hb ho.1 ho.2
    refine ⟨?_, q⟩
    by_cases e : c = b
    · rw [e]
    · exact absurd ⟨ho.2.1.trans q.1.symm, ho.2.2.trans q.2.symm⟩ (hd c ho.1 b hb.1 e)
theorem ok_find : ok2 Inv h_find f_Md_find := by
  intro stp Sc Sm x y v hs ⟨X, Y, G, n, hI⟩
  have hI : InvD stp Sc Sm X Y G n := hI
  obtain ⟨hC, -, -, -, hM, -⟩ := id hI
  obtain ⟨⟨c1, c2, c3, c4, c5, c6, c7, c8, c9, c10, c11⟩, -⟩ := id hC
  unfold f_Md_find f_Md_find_0
  rw [bn_s, m_isFar, bd_s]
  dsimp only
  by_cases hxy : inP x.toInt y.toInt
  · have t0 : t_Pn_find x y Sc = none := by
      unfold t_Pn_find t_Pn_find_0
      rw [(checkPlace_ok hxy Sc).2, orT_nn, (checkPlace_ok hxy Sc).1, bd_s]
    obtain ⟨o, o1, o2⟩ := m_findPoint (hM.th 0).1 c8 x y
    have fc : f_Pn_find x y Sc = some (oI o, Sc) := by
      unfold f_Pn_find f_Pn_find_0
      rw [(checkPlace_ok hxy Sc).1, bd_s, c5]
      have q := f_nearestOf c7 (Nat.le_refl n) hxy
      by_cases c : n = 0
      · rw [q.1 c, bd_s]
        dsimp only
        rw [f_isAtN, bd_s]
        dsimp only
        rw [if_pos rfl]
        cases o with
        | none => rfl
        | some b => exact absurd o1.1 (by omega)
      · obtain ⟨r, r1, r2⟩ := q.2 (by omega)
        rw [r2, bd_s]
        dsimp only
        rw [f_isAt c7 c5 r1.1, bd_s]
        dsimp only
        rcases atO_near c8 o1 r1 with ⟨z1, z2⟩ | ⟨z1, z2⟩
        · rw [b32_t z2, if_neg (by decide), z1]; rfl
        · rw [b32_f z2, if_pos rfl, z1]; rfl
    refine ⟨0, vp_updL v (Int32.toNatClampNeg 0) (Int32.toInt64 (oI o)), Sc, oI o, seti Sm 0 0, ?_, ?_, thrown_s _ _, fun _ => updL_0 _ _, (hI.th hs 0).inv⟩
    · unfold h_find
      rw [t0]
      dsimp only
      rw [fc, bd_s]
    · rw [b32_f (fun q => q hxy), if_pos rfl, o2, bd_s]
  · refine ⟨1, v, Sc, 0, seti (seti Sm 0 0) 0 1, ?_, ?_, thrown_s _ _, fun q => absurd q (by decide), by rw [seti2]; exact (hI.th hs 1).inv⟩
    · unfold h_find t_Pn_find t_Pn_find_0
      rw [(checkPlace_no hxy Sc).2, orT_sm]
      dsimp only
      rw [if_pos rfl]
    · rw [b32_t hxy, if_neg (by decide), fail_s, bd_s]
theorem ok_nearest : ok2 Inv h_nearest f_Md_nearest := by
  intro stp Sc Sm x y v hs ⟨X, Y, G, n, hI⟩
  have hI : InvD stp Sc Sm X Y G n := hI
  obtain ⟨hC, -, -, -, hM, -⟩ := id hI
  obtain ⟨⟨c1, c2, c3, c4, c5, c6, c7, c8, c9, c10, c11⟩, -⟩ := id hC
  have hF := FU_big
  have n512 := hM.1.2.1
  unfold f_Md_nearest f_Md_nearest_0
  rw [bn_s, m_isFar, bd_s]
  dsimp only
  by_cases hxy : inP x.toInt y.toInt
  · rw [b32_f (fun q => q hxy), if_pos rfl, (hM.th 0).1.1]
    by_cases c : n = 0
    · have z : nI n = 0 := by rw [c]; rfl
      refine ⟨2, v, Sc, 0, seti (seti Sm 0 0) 0 2, ?_, ?_, thrown_s _ _, fun q => absurd q (by decide), by rw [seti2]; exact (hI.th hs 2).inv⟩
      · unfold h_nearest t_Pn_nearest t_Pn_nearest_0
        rw [(checkPlace_ok hxy Sc).2, orT_nn, (checkPlace_ok hxy Sc).1, bd_s, c5, if_pos z]
        dsimp only
        rw [if_neg (by decide), if_pos rfl]
      · rw [if_pos z, fail_s, bd_s]
    · have z : ¬ nI n = 0 := fun q => c ((nI_eq (a := n) (b := 0) (by omega) (by omega)).mp q)
      obtain ⟨r, r1, r2⟩ := (f_nearestOf c7 (Nat.le_refl n) hxy).2 (by omega)
      obtain ⟨r', p1, p2⟩ := m_near_loop (hM.th 0).1 hxy (n - 1) FU 1 0 (by omega) (by omega) ⟨by omega, fun j hj => by
        have : j = 0 := by omega
        subst this
        exact ⟨Int.le_refl _, fun _ => Nat.le_refl _⟩⟩
      have e := near_one r1 p1
      subst e
      have p2 : f_Md_nearest_37 FU x y 0 1 (seti Sm 0 0) = some (nI r, seti Sm 0 0) := p2
      refine ⟨0, vp_updL v (Int32.toNatClampNeg 0) (Int32.toInt64 (nI r)), Sc, nI r, seti Sm 0 0, ?_, ?_, thrown_s _ _, fun _ => updL_0 _ _, (hI.th hs 0).inv⟩
      · unfold h_nearest t_Pn_nearest t_Pn_nearest_0
        rw [(checkPlace_ok hxy Sc).2, orT_nn, (checkPlace_ok hxy Sc).1, bd_s, c5, if_neg z]
        dsimp only
        unfold f_Pn_nearest f_Pn_nearest_0
        rw [(checkPlace_ok hxy Sc).1, bd_s, c5, if_neg z, r2, bd_s, bd_s]
      · rw [if_neg z, p2]
  · refine ⟨1, v, Sc, 0, seti (seti Sm 0 0) 0 1, ?_, ?_, thrown_s _ _, fun q => absurd q (by decide), by rw [seti2]; exact (hI.th hs 1).inv⟩
    · unfold h_nearest t_Pn_nearest t_Pn_nearest_0
      rw [(checkPlace_no hxy Sc).2, orT_sm]
      dsimp only
      rw [if_pos rfl]
    · rw [b32_t hxy, if_neg (by decide), fail_s, bd_s]
theorem i32_lt0 (x : Int32) : x < 0 ↔ x.toInt < 0 := lt32 _ _
theorem ok_closest : okl Inv h_closest f_Md_closest := by
  intro stp Sc Sm x v hs ⟨X, Y, G, n, hI⟩
  have hI : InvD stp Sc Sm X Y G n := hI
  obtain ⟨hC, -, -, -, hM, -⟩ := id hI
  obtain ⟨⟨c1, c2, c3, c4, c5, c6, c7, c8, c9, c10, c11⟩, -, hCl, -⟩ := id hC
  have hF := FU_big
  have n512 := hM.1.2.1
  unfold f_Md_closest f_Md_closest_0
  rw [bn_s, m_within, bd_s]
  dsimp only
  have e0 : (0 : Int32).toInt = 0 := rfl
  have e2 : (2 : Int32).toInt = 2 := rfl
  rw [e0, e2]
  have l0 : x < 0 ↔ x.toInt < 0 := lt32 _ _
  have l2 : x ≤ 2 ↔ x.toInt ≤ 2 := le32 _ _
  by_cases hx : 0 ≤ x.toInt ∧ x.toInt ≤ 2
  · have a0 : ¬ x < 0 := by rw [l0]; omega
    have a2 : x ≤ 2 := by rw [l2]; omega
    rw [b32_t hx, if_neg (by decide), (hM.th 0).1.1]
    by_cases c : n < 2
    · have z : ¬ (2 : Int32) ≤ nI n := (show ¬ nI 2 ≤ nI n from nI_ge c (by omega))
      refine ⟨2, v, Sc, Int32.toInt64 0, seti (seti Sm 0 0) 0 2, ?_, ?_, thrown_s _ _, fun q => absurd q (by decide), by rw [seti2]; exact (hI.th hs 2).inv⟩
      · unfold h_closest t_Pn_closest t_Pn_closest_0
        rw [if_neg a0, if_pos a2, c5, if_neg z]
        dsimp only
        rw [if_pos rfl]
      · rw [if_neg z, fail_s, bd_s]
    · have z : (2 : Int32) ≤ nI n := (show nI 2 ≤ nI n from nI_le (by omega) (by omega))
      obtain ⟨a, b, q1, q2, q3, q4⟩ := hCl.2 (by omega)
      obtain ⟨a', b', p1, r, p2, p3, p4, p5⟩ := m_cl_outer (hM.th 0).1 x n FU 0 0 1 (by omega) (by omega) ⟨by omega, by omega, fun u v _ _ q => by omega⟩ (Or.inr ⟨rfl, rfl⟩)
      obtain ⟨e1, e2⟩ := closest_one q1 p1
      subst e1 e2
      have p2 : f_Md_closest_43 FU x 0 1 0 (seti Sm 0 0) = some (r, seti Sm 0 0) := p2
      refine ⟨0, vp_updL v (Int32.toNatClampNeg 0) r, Sc, r, seti Sm 0 0, ?_, ?_, thrown_s _ _, fun _ => updL_0 _ _, (hI.th hs 0).inv⟩
      · unfold h_closest t_Pn_closest t_Pn_closest_0
        rw [if_neg a0, if_pos a2, c5, if_pos z]
        dsimp only
        unfold f_Pn_closest f_Pn_closest_0
        rw [if_neg a0, if_pos a2, c5, if_pos z]
        by_cases x0 : x = 0
        · rw [if_pos x0, bd_s]
          dsimp only
          have : gl Sc 0 = r := by rw [eq64, q4, p3 x0]
          rw [this]
        · rw [if_neg x0]
          by_cases x1 : x = 1
          · rw [if_pos x1, bd_s, p4 x0 x1, q2]
          · rw [if_neg x1, bd_s, p5 x0 x1, q3]
      · rw [if_pos z, p2]
  · refine ⟨1, v, Sc, Int32.toInt64 0, seti (seti Sm 0 0) 0 1, ?_, ?_, thrown_s _ _, fun q => absurd q (by decide), by rw [seti2]; exact (hI.th hs 1).inv⟩
    · unfold h_closest t_Pn_closest t_Pn_closest_0 t_Pn_closest_9
      by_cases a0 : x < 0
      · rw [if_pos a0]
        dsimp only
        rw [if_neg (by decide), if_pos rfl]
      · rw [if_neg a0, if_neg (by rw [l2]; rw [l0] at a0; omega)]
        dsimp only
        rw [if_neg (by decide), if_pos rfl]
    · rw [b32_f hx, if_pos rfl, fail_s, bd_s]
/-- the number of a point, or not -/
theorem checkNumber_ok {S : St} {n : Nat} {x : Int32} (h3 : gi S 3 = nI n) (hn : n ≤ 1024) : (0 ≤ x.toInt ∧ x.toInt < n ∧ f_Pn_checkNumber x S = some S ∧ t_Pn_checkNumber x S = none ∧ ∃ p, p < n ∧ x = nI p) ∨ (¬ (0 ≤ x.toInt ∧ x.toInt < n) ∧ t_Pn_checkNumber x S = some (3, S)) := by
  have l0 : x < 0 ↔ x.toInt < 0 := lt32 _ _
  have l1 : x < nI n ↔ x.toInt < n := by rw [lt32, nI_toInt (by omega)]
  unfold f_Pn_checkNumber f_Pn_checkNumber_0 t_Pn_checkNumber t_Pn_checkNumber_0 t_Pn_checkNumber_15
  rw [h3]
  by_cases a : x < 0
  · right
    rw [if_pos a]
    rw [l0] at a
    exact ⟨by omega, rfl⟩
  · rw [if_neg a, if_neg a]
    rw [l0] at a
    by_cases b : x < nI n
    · left
      rw [if_pos b, if_pos b]
      rw [l1] at b
      refine ⟨by omega, b, rfl, rfl, x.toInt.toNat, by omega, ?_⟩
      rw [eq32, nI_toInt (by omega)]
      omega
    · right
      rw [if_neg b]
      rw [l1] at b
      exact ⟨by omega, rfl⟩
theorem ok_point : ok2 Inv h_point f_Md_point := by
  intro stp Sc Sm x w v hs ⟨X, Y, G, n, hI⟩
  have hI : InvD stp Sc Sm X Y G n := hI
  obtain ⟨hC, -, -, -, hM, -⟩ := id hI
  obtain ⟨⟨c1, c2, c3, c4, c5, c6, c7, c8, c9, c10, c11⟩, -⟩ := id hC
  have n512 := hM.1.2.1
  have e0 : (0 : Int32).toInt = 0 := rfl
  have e1 : (1 : Int32).toInt = 1 := rfl
  have w0 : w < 0 ↔ w.toInt < 0 := lt32 _ _
  have w1 : w ≤ 1 ↔ w.toInt ≤ 1 := le32 _ _
  have hn1 : (nI n - 1).toInt = (n : Int) - 1 := by
    rw [Int32.toInt_sub, nI_toInt (by omega), e1]
    exact bmod32 (by omega) (by omega)
  have fl : f_Md_point_50 (seti Sm 0 0) = some (0, seti Sm 0 1) := by
    unfold f_Md_point_50
    rw [fail_s, bd_s, seti2]
  unfold f_Md_point f_Md_point_0
  rw [bn_s, (hM.th 0).1.1, m_within, bd_s]
  dsimp only
  rw [e0, hn1]
  rcases checkNumber_ok (x := x) c5 (by omega) with ⟨q1, q2, q3, q4, p, p1, p2⟩ | ⟨q1, q2⟩
  · rw [b32_t (by omega), if_neg (by decide), m_within, bd_s, e0, e1]
    dsimp only
    by_cases hw : 0 ≤ w.toInt ∧ w.toInt ≤ 1
    · rw [b32_t hw, if_neg (by decide)]
      have b0 : ¬ w < 0 := by rw [w0]; omega
      have b1 : w ≤ 1 := by rw [w1]; omega
      subst p2
      have ht : t_Pn_point (nI p) w Sc = none := by
        unfold t_Pn_point t_Pn_point_0
        rw [q4, orT_nn, q3, bd_s, if_neg b0, if_pos b1]
      have ans : ∃ r : Int32, f_Pn_point (nI p) w Sc = some (r, Sc) ∧ (if w = 0 then as_ (inb (nI p) (gn (seti Sm 0 0) 1)) (some (ga (seti Sm 0 0) 1 (Int32.toNatClampNeg (nI p)), seti Sm 0 0)) else as_ (inb (nI p) (gn (seti Sm 0 0) 2)) (some (ga (seti Sm 0 0) 2 (Int32.toNatClampNeg (nI p)), seti Sm 0 0))) = some (r, seti Sm 0 0) := by
        unfold f_Pn_point f_Pn_point_0
        rw [q3, bd_s, if_neg b0, if_pos b1]
        by_cases z : w = 0
        · rw [if_pos z, if_pos z, f_xp c7 p1, bd_s, (hM.th 0).1.b1 p1, as_s]
          refine ⟨_, rfl, ?_⟩
          congr 2
          rw [eq32, (hM.th 0).1.x p1, (c7.2.2.1 p p1).1]
        · rw [if_neg z, if_neg z, f_yp c7 p1, bd_s, (hM.th 0).1.b2 p1, as_s]
          refine ⟨_, rfl, ?_⟩
          congr 2
          rw [eq32, (hM.th 0).1.y p1, (c7.2.2.1 p p1).2.1]
      obtain ⟨r, r1, r2⟩ := ans
      refine ⟨0, vp_updL v (Int32.toNatClampNeg 0) (Int32.toInt64 r), Sc, r, seti Sm 0 0, ?_, r2, thrown_s _ _, fun _ => updL_0 _ _, (hI.th hs 0).inv⟩
      unfold h_point
      rw [ht]
      dsimp only
      rw [r1, bd_s]
    · rw [b32_f hw, if_pos rfl]
      refine ⟨1, v, Sc, 0, seti Sm 0 1, ?_, fl, thrown_s _ _, fun q => absurd q (by decide), (hI.th hs 1).inv⟩
      unfold h_point t_Pn_point t_Pn_point_0 t_Pn_point_14
      rw [q4, orT_nn, q3, bd_s]
      by_cases b0 : w < 0
      · rw [if_pos b0]
        dsimp only
        rw [if_pos rfl]
      · rw [if_neg b0, if_neg (by rw [w1]; rw [w0] at b0; omega)]
        dsimp only
        rw [if_pos rfl]
  · rw [b32_f (by omega), if_pos rfl]
    refine ⟨1, v, Sc, 0, seti Sm 0 1, ?_, fl, thrown_s _ _, fun q => absurd q (by decide), (hI.th hs 1).inv⟩
    unfold h_point t_Pn_point t_Pn_point_0
    rw [q2, orT_sm]
    dsimp only
    rw [if_pos rfl]
theorem ok_located : okd Inv f_Pn_located f_Md_located := by
  intro stp Sc Sm x hs ⟨X, Y, G, n, hI⟩
  have hI : InvD stp Sc Sm X Y G n := hI
  obtain ⟨hC, -, -, -, hM, hf⟩ := id hI
  have h30 := hC.2.2.2.2.1
  have e0 : (0 : Int32).toInt = 0 := rfl
  have e2 : (2 : Int32).toInt = 2 := rfl
  have l0 : x < 0 ↔ x.toInt < 0 := lt32 _ _
  have l3 : nI 3 ≤ x ↔ 3 ≤ x.toInt := le32 _ _
  unfold f_Pn_located f_Pn_located_0 f_Md_located f_Md_located_0
  rw [bn_s, m_within, bd_s, e0, e2, h30]
  dsimp only
  by_cases a : x < 0
  · rw [if_pos a, b32_f (by rw [l0] at a; omega), if_pos rfl]
    exact ⟨-1, Sc, _, rfl, rfl, (hI.th hs 0).inv⟩
  · rw [if_neg a]
    rw [l0] at a
    by_cases b : nI 3 ≤ x
    · rw [if_pos b, b32_f (by rw [l3] at b; omega), if_pos rfl]
      exact ⟨-1, Sc, _, rfl, rfl, (hI.th hs 0).inv⟩
    · rw [if_neg b]
      rw [l3] at b
      obtain ⟨p, p1, p2⟩ : ∃ p, p < 3 ∧ x = nI p := ⟨x.toInt.toNat, by omega, by rw [eq32, nI_toInt (by omega)]; omega⟩
      rw [b32_t (by omega), if_neg (by decide), p2, inb_n p1 (by omega), as_s]
      have g11 : gn (seti Sm 0 0) 11 = 3 := hM.1.2.2.1.2.2.2.2.2.2.2.2.2.2
      rw [g11, inb_n p1 (by omega), as_s, nI_clampN (by omega)]
      refine ⟨_, Sc, _, rfl, ?_, (hI.th hs 0).inv⟩
      rw [hf p p1]
      rfl
