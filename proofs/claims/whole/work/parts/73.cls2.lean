/-! THE CLASS'S STATE, 2: the net begins -/
theorem mkPts {X Y : Nat → Int} {N G p : Nat} {P : List Nat} (h : PtsL X Y N G P) (hp : p ∉ P) (h1 : inR X Y p) (h2 : p < N) (h3 : p ≠ G) (h4 : ∀ i ∈ P, dif X Y p i) : Pts X Y N G P p := by
  refine ⟨fun i hi => ?_, fun i hi j hj hij => ?_, h.2.2.1, hp, h.2.2.2⟩
  · rcases List.mem_cons.mp hi with rfl | hi
    · exact ⟨h1, h2, h3⟩
    · exact h.1 i hi
  · rcases List.mem_cons.mp hi with hi1 | hi1 <;> rcases List.mem_cons.mp hj with hj1 | hj1
    · exact absurd (hi1.trans hj1.symm) hij
    · rw [hi1]; exact h4 j hj1
    · rw [hj1]; exact (h4 i hi1).symm
    · exact h.2.1 i hi1 j hj1 hij
theorem frI.rm {S T : St} (h : frI S T) {n : Nat} (hr : Rm S n) : Rm T n := hr.of h.2.2.1
theorem frI.rfl' (S : St) : frI S S := ⟨fun _ _ => rfl, rfl, rfl, fun _ _ => rfl⟩
section
variable {X Y : Nat → Int} {G n num : Nat}
theorem begin_loop (hn : num + 1 = n) (hnG : n ≤ G) (hG : G ≤ 1024) (hdif : ∀ i, i < n → ∀ j, j < n → i ≠ j → dif X Y i j) : ∀ (d fuel i : Nat) (T : St) (P : List Nat) (m : Nat) (s tw lv : Nat → Nat) (mk : Nat), i + d = num → d < fuel → 2 ≤ i → NI T X Y G n m s tw lv P → MK T mk → PV T n X Y → Rm T n → PtsL X Y 1024 G P → (∀ j, j ∈ P ↔ j < i ∨ j = num) → mk + d < 900000000 →
    ∃ T' m' s' tw' lv' P', f_Pn_tryToBeginNet_74 fuel (nI num) (nI i) T = some T' ∧ NI T' X Y G n m' s' tw' lv' P' ∧ PtsL X Y 1024 G P' ∧ (∀ j, j ∈ P' ↔ j < n) ∧ MK T' (mk + d) ∧ frI T T' := by
  intro d
  induction d with
  | zero =>
    intro fuel i T P m s tw lv mk hi hf h2 hI hM hP hR hL hm hb
    obtain ⟨fuel, rfl⟩ : ∃ j, fuel = j + 1 := ⟨fuel - 1, by omega⟩
    have : i = num := by omega
    subst this
    refine ⟨T, m, s, tw, lv, P, ?_, hI, hL, fun j => ?_, hM, frI.rfl' T⟩
    · rw [f_Pn_tryToBeginNet_74]
      dsimp only
      rw [if_pos (Int32.le_refl _)]
    · rw [hm]; omega
  | succ d ih =>
    intro fuel i T P m s tw lv mk hi hf h2 hI hM hP hR hL hm hb
    obtain ⟨fuel, rfl⟩ : ∃ j, fuel = j + 1 := ⟨fuel - 1, by omega⟩
    have hin : i < n := by omega
    rw [f_Pn_tryToBeginNet_74]
    dsimp only
    rw [if_neg (nI_ge (by omega) (by omega)), f_xp hP hin, bd_s]
    dsimp only
    rw [f_yp hP hin, bd_s]
    dsimp only
    obtain ⟨r, r1, r2⟩ := (f_nearestOf hP (show i ≤ n by omega) (hP.inP hin)).2 (by omega)
    rw [r2, bd_s]
    dsimp only
    have hiP : i ∉ P := fun q => by have := (hm i).mp q; omega
    have hPts : Pts X Y 1024 G P i := mkPts hL hiP (hP.in hin) (by omega) (by omega) (fun j hj => hdif i hin j (by have := (hm j).mp hj; omega) (fun q => hiP (q ▸ hj)))
    obtain ⟨T1, s1, tw1, lv1, q1, q2, q3, q4⟩ := f_insert (near := r) hI hM hP hR hPts (fun j hj => by
      rcases List.mem_cons.mp hj with rfl | hj
      · exact hin
      · have := (hm j).mp hj; omega) (by omega) ((hm r).mpr (Or.inl r1.1))
    rw [q1, bd_s, bn_s, nI_1]
    obtain ⟨T2, m2, s2, tw2, lv2, P2, u1, u2, u3, u4, u5, u6⟩ := ih fuel (i + 1) T1 (i :: P) _ s1 tw1 lv1 (mk + 1) (by omega) (by omega) (by omega) q2 q3 (q4.pv hP) (q4.rm hR) hPts.new (fun j => by rw [List.mem_cons, hm]; omega) (by omega)
    exact ⟨T2, m2, s2, tw2, lv2, P2, u1, u2, u3, u4, by rw [show mk + (d + 1) = mk + 1 + d by omega]; exact u5, q4.trans u6⟩
theorem f_tryToBegin {S : St} {mk : Nat} (hn : num + 1 = n) (hnG : n ≤ G) (hG : G ≤ 1024) (hdif : ∀ i, i < n → ∀ j, j < n → i ≠ j → dif X Y i j) (h4 : gi S 4 = nI G) (h6 : gi S 6 = 0) (h7 : gi S 7 = 0) (hM : MK S mk) (hP : PV S n X Y) (hR : Rm S n) (hmk : mk + n < 900000000) (hl : ∀ i, i < num → ∀ j, j < num → ∀ k, k < num → gO X Y i j k = 0) :
    ∃ T mk', f_Pn_tryToBeginNet (nI num) S = some T ∧ NP T X Y G n ∧ MK T mk' ∧ mk' ≤ mk + n ∧ frI S T := by
  have hF := FU_big
  unfold f_Pn_tryToBeginNet f_Pn_tryToBeginNet_0
  by_cases c : num < 2
  · rw [if_neg (show ¬ (2 : Int32) ≤ nI num from (show ¬ nI 2 ≤ nI num from nI_ge c (by omega)))]
    unfold f_Pn_tryToBeginNet_34
    rw [if_pos (by decide)]
    refine ⟨S, mk, rfl, Or.inl ⟨h6, h7, fun i hi j hj k hk => ?_⟩, hM, by omega, frI.rfl' S⟩
    have : i = j ∨ j = k ∨ i = k := by omega
    unfold gO
    rcases this with q | q | q
    · rw [q]; simp
    · rw [q, Int.mul_comm]; omega
    · rw [q]; simp
  · rw [if_pos (show (2 : Int32) ≤ nI num from (show nI 2 ≤ nI num from nI_le (by omega) (by omega))), f_xp hP (by omega), bd_s]
    dsimp only
    rw [f_yp hP (by omega), bd_s]
    dsimp only
    obtain ⟨t, t1, t2⟩ := f_turnP hP (a := 0) (b := 1) (d := num) (by omega) (by omega) (by omega)
    have t1 : f_Pt_turn 0 1 (ga S 6 num) (ga S 7 num) S = some (t, S) := t1
    rw [t1, bd_s]
    dsimp only
    unfold f_Pn_tryToBeginNet_34
    have z : (0 : Int64).toInt = 0 := rfl
    have mem3 : ∀ i, i ∈ [num, 1, 0] ↔ i = num ∨ i = 1 ∨ i = 0 := fun i => by simp
    have hLL : ∀ a b, a = 1 ∨ a = 0 → b = 1 ∨ b = 0 → gO X Y a b num ≠ 0 → PtsL X Y 1024 G [num, 1, 0] := by
      intro a b ha hb hO
      refine ⟨fun i hi => ?_, fun i hi j hj => hdif i ?_ j ?_, ?_, a, (mem3 a).mpr (by omega), b, (mem3 b).mpr (by omega), num, (mem3 num).mpr (by omega), hO⟩
      · have hi : i < n := by have := (mem3 i).mp hi; omega
        exact ⟨hP.in hi, by omega, by omega⟩
      · have := (mem3 i).mp hi; omega
      · have := (mem3 j).mp hj; omega
      · simp; omega
    rcases cmp_cases t 0 with ⟨k1, k2⟩ | ⟨k1, k2⟩ | ⟨k1, k2⟩
    · -- to the right
      rw [k2, if_neg (by decide), if_pos (by decide)]
      rw [z, t2] at k1
      have hO : 0 < gO X Y 1 0 num := by rw [gO_swap]; omega
      obtain ⟨T, q1, q2, q3, q4, q5⟩ := f_begin (a := 1) (b := 0) (c := num) (P := [num, 1, 0]) h4 hG hR (by omega) hnG (by omega) (by omega) (by omega) (by omega) (by omega) (by omega) (fun i => by simp; omega) rfl hO
      have q1 : f_Nt_begin 1 0 (nI num) S = some T := q1
      rw [q1, bd_s]
      unfold f_Pn_tryToBeginNet_71
      obtain ⟨T2, m2, s2, tw2, lv2, P2, u1, u2, u3, u4, u5, u6⟩ := begin_loop hn hnG hG hdif (num - 2) FU 2 T [num, 1, 0] 4 _ _ _ mk (by omega) (by omega) (by omega) q2 ⟨by rw [q5]; exact hM.1, by rw [q4]; exact hM.2⟩ (q3.pv hP) (q3.rm hR) (hLL 1 0 (by omega) (by omega) (by omega)) (fun j => by simp; omega) (by omega)
      have u1 : f_Pn_tryToBeginNet_74 FU (nI num) 2 T = some T2 := u1
      exact ⟨T2, _, u1, Or.inr ⟨m2, s2, tw2, lv2, P2, u2, u3, u4⟩, u5, by omega, q3.trans u6⟩
    · rw [k2, if_pos rfl]
      rw [z, t2] at k1
      refine ⟨S, mk, rfl, Or.inl ⟨h6, h7, fun i hi j hj k hk => ?_⟩, hM, by omega, frI.rfl' S⟩
      apply Classical.byContradiction
      intro hne
      obtain ⟨x, hx, hx2⟩ := off_line (P := List.range n) (hdif 0 (by omega) 1 (by omega) (by omega)) ⟨i, List.mem_range.mpr hi, j, List.mem_range.mpr hj, k, List.mem_range.mpr hk, hne⟩
      have hx := List.mem_range.mp hx
      by_cases q : x = num
      · rw [q] at hx2; exact hx2 k1
      · exact hx2 (hl 0 (by omega) 1 (by omega) x (by omega))
    · rw [k2, if_neg (by decide), if_neg (by decide)]
      rw [z, t2] at k1
      obtain ⟨T, q1, q2, q3, q4, q5⟩ := f_begin (a := 0) (b := 1) (c := num) (P := [num, 1, 0]) h4 hG hR (by omega) hnG (by omega) (by omega) (by omega) (by omega) (by omega) (by omega) (fun i => by simp; omega) rfl k1
      have q1 : f_Nt_begin 0 1 (nI num) S = some T := q1
      rw [q1, bd_s]
      unfold f_Pn_tryToBeginNet_71
      obtain ⟨T2, m2, s2, tw2, lv2, P2, u1, u2, u3, u4, u5, u6⟩ := begin_loop hn hnG hG hdif (num - 2) FU 2 T [num, 1, 0] 4 _ _ _ mk (by omega) (by omega) (by omega) q2 ⟨by rw [q5]; exact hM.1, by rw [q4]; exact hM.2⟩ (q3.pv hP) (q3.rm hR) (hLL 0 1 (by omega) (by omega) (by omega)) (fun j => by simp; omega) (by omega)
      have u1 : f_Pn_tryToBeginNet_74 FU (nI num) 2 T = some T2 := u1
      exact ⟨T2, _, u1, Or.inr ⟨m2, s2, tw2, lv2, P2, u2, u3, u4⟩, u5, by omega, q3.trans u6⟩
end
