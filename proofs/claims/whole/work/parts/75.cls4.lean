/-! THE CLASS'S STATE, 4: a point more -/
def addX (X : Nat → Int) (n : Nat) (x : Int) : Nat → Int := fun i => if i = n then x else X i
theorem addX_n (X : Nat → Int) (n : Nat) (x : Int) : addX X n x n = x := if_pos rfl
theorem addX_o {X : Nat → Int} {n i : Nat} {x : Int} (h : i ≠ n) : addX X n x i = X i := if_neg h
theorem checkPlace_ok {x y : Int32} (h : inP x.toInt y.toInt) (S : St) : f_Pn_checkPlace x y S = some S ∧ t_Pn_checkPlace x y S = none := by
  obtain ⟨h1, h2, h3, h4⟩ := h
  have a1 : ¬ x < -1000000000 := by rw [lt32]; show ¬ x.toInt < -1000000000; omega
  have a2 : ¬ 1000000000 < x := by rw [lt32]; show ¬ 1000000000 < x.toInt; omega
  have a3 : ¬ y < -1000000000 := by rw [lt32]; show ¬ y.toInt < -1000000000; omega
  have a4 : y ≤ 1000000000 := by rw [le32]; show y.toInt ≤ 1000000000; omega
  constructor
  · unfold f_Pn_checkPlace f_Pn_checkPlace_0
    rw [if_neg a1, if_neg a2, if_neg a3, if_pos a4]
  · unfold t_Pn_checkPlace t_Pn_checkPlace_0
    rw [if_neg a1, if_neg a2, if_neg a3, if_pos a4]
theorem checkPlace_no {x y : Int32} (h : ¬ inP x.toInt y.toInt) (S : St) : f_Pn_checkPlace x y S = none ∧ t_Pn_checkPlace x y S = some (1, S) := by
  have e1 : x < -1000000000 ↔ x.toInt < -1000000000 := lt32 _ _
  have e2 : 1000000000 < x ↔ 1000000000 < x.toInt := lt32 _ _
  have e3 : y < -1000000000 ↔ y.toInt < -1000000000 := lt32 _ _
  have e4 : y ≤ 1000000000 ↔ y.toInt ≤ 1000000000 := le32 _ _
  unfold f_Pn_checkPlace f_Pn_checkPlace_0 t_Pn_checkPlace t_Pn_checkPlace_0 f_Pn_checkPlace_24 t_Pn_checkPlace_24
  by_cases a1 : x < -1000000000
  · rw [if_pos a1, if_pos a1]; exact ⟨rfl, rfl⟩
  · rw [if_neg a1, if_neg a1]
    by_cases a2 : 1000000000 < x
    · rw [if_pos a2, if_pos a2]; exact ⟨rfl, rfl⟩
    · rw [if_neg a2, if_neg a2]
      by_cases a3 : y < -1000000000
      · rw [if_pos a3, if_pos a3]; exact ⟨rfl, rfl⟩
      · rw [if_neg a3, if_neg a3]
        by_cases a4 : y ≤ 1000000000
        · exfalso
          apply h
          unfold inP
          rw [e1] at a1; rw [e2] at a2; rw [e3] at a3; rw [e4] at a4
          omega
        · rw [if_neg a4, if_neg a4]; exact ⟨rfl, rfl⟩
theorem sq_nn (a : Int) : 0 ≤ a * a := by
  rcases Int.le_total 0 a with h | h
  · exact Int.mul_nonneg h h
  · exact Int.mul_nonneg_of_nonpos_of_nonpos h h
theorem sq_zero1 {a : Int} (h : a * a = 0) : a = 0 := by
  rcases Int.mul_eq_zero.mp h with q | q <;> exact q
theorem D2_nn (X Y : Nat → Int) (i : Nat) (x y : Int) : 0 ≤ D2 X Y i x y := by
  unfold D2
  have := sq_nn (X i - x)
  have := sq_nn (Y i - y)
  omega
theorem D2_zero {X Y : Nat → Int} {i : Nat} {x y : Int} : D2 X Y i x y = 0 ↔ X i = x ∧ Y i = y := by
  unfold D2
  have h1 := sq_nn (X i - x)
  have h2 := sq_nn (Y i - y)
  constructor
  · intro h
    have a := sq_zero1 (show (X i - x) * (X i - x) = 0 by omega)
    have b := sq_zero1 (show (Y i - y) * (Y i - y) = 0 by omega)
    omega
  · rintro ⟨a, b⟩
    rw [a, b]
    simp
/-- the nearest is at the place, if any is -/
theorem near_at {X Y : Nat → Int} {n b : Nat} {x y : Int} (h : isNear X Y n x y b) {i : Nat} (hi : i < n) (he : X i = x ∧ Y i = y) : X b = x ∧ Y b = y := by
  have e := D2_zero.mpr he
  have := (h.2 i hi).1
  have := D2_nn X Y b x y
  exact D2_zero.mp (by omega)
section
variable {S : St} {X Y : Nat → Int} {G n stp : Nat}
theorem isNear_addX {m b : Nat} {x y u v : Int} (hm : m ≤ n) : isNear (addX X n u) (addX Y n v) m x y b ↔ isNear X Y m x y b := by
  have e : ∀ i, i < m → D2 (addX X n u) (addX Y n v) i x y = D2 X Y i x y := fun i hi => by
    unfold D2
    rw [addX_o (by omega), addX_o (by omega)]
  unfold isNear
  constructor
  · rintro ⟨a, b⟩
    refine ⟨a, fun j hj => ?_⟩
    have := b j hj
    rw [e _ a, e j hj] at this
    exact this
  · rintro ⟨a, b⟩
    refine ⟨a, fun j hj => ?_⟩
    rw [e _ a, e j hj]
    exact b j hj
theorem CLO_addX {x y : Int} (h : CLO S X Y n) : CLO S (addX X n x) (addX Y n y) n := by
  refine ⟨h.1, fun q => ?_⟩
  obtain ⟨a, b, ⟨h1, h2, h3⟩, h4, h5, h6⟩ := h.2 q
  have e : ∀ i j, i < n → j < n → D2 (addX X n x) (addX Y n y) i (addX X n x j) (addX Y n y j) = D2 X Y i (X j) (Y j) := fun i j hi hj => by
    unfold D2
    rw [addX_o (show i ≠ n by omega), addX_o (show i ≠ n by omega), addX_o (show j ≠ n by omega), addX_o (show j ≠ n by omega)]
  refine ⟨a, b, ⟨h1, h2, fun i j hij hj => ?_⟩, h4, h5, ?_⟩
  · rw [e a b (by omega) h2, e i j (by omega) hj]
    exact h3 i j hij hj
  · rw [e a b (by omega) h2]; exact h6
theorem f_add_new {x y : Int32} (h : CS S X Y G n stp) (hxy : inP x.toInt y.toInt) (hnew : ∀ i, i < n → ¬ (X i = x.toInt ∧ Y i = y.toInt)) (hn : n < G) (hstp : stp < 600) : ∃ T, f_Pn_add x y S = some (nI n, T) ∧ CS T (addX X n x.toInt) (addX Y n y.toInt) G (n + 1) (stp + 1) ∧ (∀ i, i < 3 → ga T 30 i = -1) ∧ gi T 10 = 0 ∧ gi T 12 = 0 := by
  obtain ⟨⟨c1, c2, c3, c4, c5, c6, c7, c8, c9, c10, c11⟩, hN, hC, ⟨mk, hb, hM⟩, h30, hs⟩ := h
  unfold f_Pn_add f_Pn_add_0
  rw [(checkPlace_ok hxy S).1, bd_s, c5]
  -- the nearest
  have hnear : ∃ nr : Int32, f_Pt_nearestOf (nI n) x y S = some (nr, S) ∧ f_Pt_isAt nr x y S = some (0, S) ∧ (0 < n → ∃ r, nr = nI r ∧ isNear X Y n x.toInt y.toInt r) ∧ (n = 0 → nr = -1) := by
    have q := f_nearestOf c7 (Nat.le_refl n) hxy
    by_cases c : n = 0
    · exact ⟨-1, q.1 c, f_isAtN x y, fun z => by omega, fun _ => rfl⟩
    · obtain ⟨r, r1, r2⟩ := q.2 (by omega)
      refine ⟨nI r, r2, ?_, fun _ => ⟨r, rfl, r1⟩, fun z => by omega⟩
      rw [f_isAt c7 c5 r1.1, b32_f (hnew r r1.1)]
  obtain ⟨nr, n1, n2, n3, n4⟩ := hnear
  rw [n1, bd_s]
  dsimp only
  rw [n2, bd_s]
  dsimp only
  rw [if_pos rfl]
  have full : f_Pt_isFull S = some (0, S) := by
    unfold f_Pt_isFull f_Pt_isFull_0
    rw [c5, c1, if_pos (Int32.not_le.mp (nI_ge hn (by omega)))]
  rw [full, bd_s]
  dsimp only
  rw [if_pos rfl, c5, nI_1]
  obtain ⟨T1, t1, t2, t3⟩ := f_makeRoom c9 c11 (show n + 1 ≤ G by omega) c4
  rw [t1, bd_s]
  -- append
  have ei1 : ∀ k, gi T1 k = gi S k := fun k => by show T1.1 k = S.1 k; rw [t2.1]
  have app : ∃ T2, f_Pt_append x y T1 = some (nI n, T2) ∧ (∀ k, k ≠ 3 → gi T2 k = gi T1 k) ∧ gi T2 3 = nI (n + 1) ∧ T2.2.1 = T1.2.1 ∧ T2.2.2.1 = T1.2.2.1 ∧ (∀ k, k ≠ 6 → k ≠ 7 → ga T2 k = ga T1 k) ∧ ga T2 6 = upd (ga T1 6) n x ∧ ga T2 7 = upd (ga T1 7) n y := by
    unfold f_Pt_append f_Pt_append_0
    rw [ei1, c5, bn_s, put_ok t3.1 (show n < n + 1 by omega), bd_s]
    have cB : Cap (seta T1 6 (upd (ga T1 6) n x)) 7 (n + 1) := t3.2.1
    rw [put_ok cB (show n < n + 1 by omega), bd_s, bn_s, nI_1]
    refine ⟨_, rfl, fun k hk => gi_seti_ne _ _ hk, gi_seti _ _ _, rfl, rfl, fun k a b => ?_, ?_, ?_⟩
    · rw [ga_seti, ga_seta_ne _ _ b, ga_seta_ne _ _ a]
    · rw [ga_seti, ga_seta_ne _ _ (by decide), ga_seta]
    · rw [ga_seti, ga_seta, ga_seta_ne _ _ (by decide)]
  obtain ⟨T2, p1, p2, p3, p4, p5, p6, p7, p8⟩ := app
  rw [p1, bd_s]
  dsimp only
  have pv2 : PV T2 (n + 1) (addX X n x.toInt) (addX Y n y.toInt) := by
    refine ⟨t3.1.of p5, t3.2.1.of p5, fun i hi => ?_, by omega⟩
    rw [p7, p8]
    by_cases c : i = n
    · subst c
      rw [upd_same, upd_same, addX_n, addX_n]
      refine ⟨rfl, rfl, ?_⟩
      unfold inR
      rw [addX_n, addX_n]
      exact hxy
    · rw [upd_ne _ _ c, upd_ne _ _ c, addX_o c, addX_o c, t2.at c7.1 (show i < n by omega), t2.at c7.2.1 (show i < n by omega)]
      have := c7.2.2.1 i (by omega)
      refine ⟨this.1, this.2.1, ?_⟩
      unfold inR
      rw [addX_o c, addX_o c]
      exact this.2.2
  have clo2 : CLO T2 X Y n := by
    unfold CLO at *
    have : gl T2 0 = gl S 0 := by show T2.2.1 0 = S.2.1 0; rw [p4, t2.2.1]
    rw [p2 0 (by decide), p2 1 (by decide), ei1, ei1, this]
    exact hC
  have note : ∃ T3, f_Pn_noteClosest nr (nI n) T2 = some T3 ∧ CLO T3 (addX X n x.toInt) (addX Y n y.toInt) (n + 1) ∧ (∀ k, k ≠ 0 → k ≠ 1 → gi T3 k = gi T2 k) ∧ T3.2.2 = T2.2.2 := by
    by_cases c : n = 0
    · rw [n4 c]
      unfold f_Pn_noteClosest f_Pn_noteClosest_0
      rw [if_pos rfl]
      exact ⟨T2, rfl, ⟨fun _ => clo2.1 (by omega), fun q => by omega⟩, fun _ _ _ => rfl, rfl⟩
    · obtain ⟨r, r1, r2⟩ := n3 (by omega)
      rw [r1]
      refine f_noteClosest pv2 (CLO_addX clo2) ?_
      rw [addX_n, addX_n]
      exact (isNear_addX (Nat.le_refl n)).mpr r2
  obtain ⟨T3, u1, u2, u3, u4⟩ := note
  rw [u1, bd_s]
  have n31 : T3.2.2.1 = T1.2.2.1 := by rw [u4, p5]
  have a3 : ∀ k, ga T3 k = ga T2 k := fun k => by show T3.2.2.2 k = T2.2.2.2 k; rw [u4]
  have g3 : ∀ k, k ≠ 0 → k ≠ 1 → k ≠ 3 → gi T3 k = gi S k := fun k a b c => by rw [u3 k a b, p2 k c, ei1]
  have pv3 : PV T3 (n + 1) (addX X n x.toInt) (addX Y n y.toInt) := pv2.ofA (by rw [u4]) (a3 6) (a3 7)
  have rm3 : Rm T3 (n + 1) := t3.of n31
  have mk3 : MK T3 mk := by
    refine ⟨by rw [g3 5 (by decide) (by decide) (by decide)]; exact hM.1, fun t => ?_⟩
    rw [a3, p6 11 (by decide) (by decide)]
    rcases t2.2.2.2.2.2.1 11 t with q | q
    · rw [q]; exact hM.2 t
    · exact ⟨0, by omega, q⟩
  have eqx : ∀ i, i < n → eqP X Y (addX X n x.toInt) (addX Y n y.toInt) i := fun i hi => ⟨addX_o (by omega), addX_o (by omega)⟩
  have dif' : ∀ i, i < n + 1 → ∀ j, j < n + 1 → i ≠ j → dif (addX X n x.toInt) (addX Y n y.toInt) i j := by
    intro i hi j hj hij
    unfold dif
    by_cases ci : i = n <;> by_cases cj : j = n
    · omega
    · rw [ci, addX_n, addX_n, addX_o cj, addX_o cj]
      exact fun q => hnew j (by omega) ⟨q.1.symm, q.2.symm⟩
    · rw [cj, addX_n, addX_n, addX_o ci, addX_o ci]
      exact hnew i (by omega)
    · rw [addX_o ci, addX_o ci, addX_o cj, addX_o cj]
      exact c8 i (by omega) j (by omega) hij
  -- the net
  have net : ∃ T4 mk', MK T4 mk' ∧ mk' ≤ mk + (n + 1) ∧ NP T4 (addX X n x.toInt) (addX Y n y.toInt) G (n + 1) ∧ frI T3 T4 ∧ (bd (f_Nt_isEmpty T3) (fun q_10 => (if q_10.1 = 0 then bd (f_Nt_insert (nI n) nr q_10.2) (fun q_12 => f_Pn_add_117 (nI n) q_12) else bd (f_Pn_tryToBeginNet (nI n) q_10.2) (fun q_13 => f_Pn_add_117 (nI n) q_13)))) = f_Pn_add_117 (nI n) T4 := by
    unfold f_Nt_isEmpty f_Nt_isEmpty_0
    rw [g3 6 (by decide) (by decide) (by decide)]
    rcases hN with ⟨q1, q2, q3⟩ | ⟨m, s, tw, lv, P, q1, q2, q3⟩
    · rw [if_pos q1, bd_s]
      dsimp only
      rw [if_neg (by decide)]
      obtain ⟨T4, mk', v1, v2, v3, v4, v5⟩ := f_tryToBegin (S := T3) (mk := mk) (num := n) (X := addX X n x.toInt) (Y := addX Y n y.toInt) rfl (show n + 1 ≤ G by omega) c4 dif' (by rw [g3 4 (by decide) (by decide) (by decide)]; exact c2) (by rw [g3 6 (by decide) (by decide) (by decide)]; exact q1) (by rw [g3 7 (by decide) (by decide) (by decide)]; exact q2) mk3 pv3 rm3 (by omega) (fun i hi j hj k hk => by
        rw [gO_congr (eqx i hi) (eqx j hj) (eqx k hk)]
        exact q3 i hi j hj k hk)
      rw [v1, bd_s]
      exact ⟨T4, mk', v3, v4, v2, v5, rfl⟩
    · have m0 : ¬ gi S 6 = 0 := by
        rw [q1.1.2.1]
        intro z
        have hm := q1.2.2.2.2
        have h4 := q1.1.2.2.2.1
        have : m = 0 := (nI_eq (a := m) (b := 0) (by omega) (by omega)).mp z
        have l1 := q1.2.2.1.2.2.2.1
        omega
      rw [if_neg m0, bd_s]
      dsimp only
      rw [if_pos rfl]
      have n0 : 0 < n := by
        obtain ⟨a, ha, -⟩ := q2.2.2.2
        have := (q3 a).mp ha
        omega
      obtain ⟨r, r1, r2⟩ := n3 n0
      have hlen : P.length ≤ n := by
        have := len_cnt (K := n) (f := fun _ => true) (l := P) q2.2.2.1 (fun x hx => ⟨(q3 x).mp hx, rfl⟩)
        simp at this
        exact this
      have ni1 : NI T1 (addX X n x.toInt) (addX Y n y.toInt) G (n + 1) m s tw lv P := q1.up t2 t3 (fun i hi => eqx i ((q3 i).mp hi)) (c10 n0) (by have := q1.2.2.2.2; omega) (fun i hi => (q3 i).mp hi)
      have ni3 : NI T3 (addX X n x.toInt) (addX Y n y.toInt) G (n + 1) m s tw lv P := ni1.same (fun k hk => by rw [u3 k (by omega) (by omega), p2 k (by omega)]) n31 (fun k k1 k2 => by rw [a3, p6 k (by omega) (by omega)])
      have pl : PtsL (addX X n x.toInt) (addX Y n y.toInt) 1024 G P := q2.congr (fun i hi => eqx i ((q3 i).mp hi))
      have nP : n ∉ P := fun z => by have := (q3 n).mp z; omega
      have pts : Pts (addX X n x.toInt) (addX Y n y.toInt) 1024 G P n := mkPts pl nP (pv3.in (by omega)) (by omega) (by omega) (fun i hi => dif' n (by omega) i (by have := (q3 i).mp hi; omega) (fun z => nP (z ▸ hi)))
      obtain ⟨T4, s4, tw4, lv4, v1, v2, v3, v4⟩ := f_insert (near := r) ni3 mk3 pv3 rm3 pts (fun i hi => by
        rcases List.mem_cons.mp hi with z | z
        · omega
        · have := (q3 i).mp z; omega) (by omega) ((q3 r).mpr r2.1)
      rw [r1, v1, bd_s]
      exact ⟨T4, mk + 1, v3, by omega, Or.inr ⟨_, s4, tw4, lv4, n :: P, v2, pts.new, fun i => by rw [List.mem_cons, q3]; omega⟩, v4, rfl⟩
  obtain ⟨T4, mk', m1, m2, m3, m4, m5⟩ := net
  rw [m5]
  unfold f_Pn_add_117
  have n41 : T4.2.2.1 = T1.2.2.1 := by rw [m4.2.2.1, n31]
  have g30 : gn T4 30 = 3 := by
    show T4.2.2.1 30 = 3
    rw [n41]
    have := t2.2.2.1 30 (by omega)
    rw [h30] at this
    exact this
  obtain ⟨T5, w1, w2, w3, w4, w5, w6, w7, w8⟩ := f_forgetAnswers g30
  rw [w1, bd_s]
  have fA : frA T4 T5 := ⟨fun k hk => w2 k (by omega) (by omega), by rw [w3], w4, fun k hk => w5 k (by omega)⟩
  refine ⟨T5, rfl, ?_, w6, w7, w8⟩
  refine fA.cs ⟨⟨?_, ?_, c3, c4, ?_, by omega, m4.pv pv3, dif', (m4.rm rm3).w, fun _ => m4.rm rm3, (c11.gr t2).of n41⟩, m3, ?_, ⟨mk', by omega, m1⟩, g30, by omega⟩
  · rw [m4.1 2 (by decide), g3 2 (by decide) (by decide) (by decide)]; exact c1
  · rw [m4.1 4 (by decide), g3 4 (by decide) (by decide) (by decide)]; exact c2
  · rw [m4.1 3 (by decide), u3 3 (by decide) (by decide)]; exact p3
  · unfold CLO at *
    have : gl T4 0 = gl T3 0 := m4.2.1
    rw [m4.1 0 (by decide), m4.1 1 (by decide), this]
    exact u2
end
