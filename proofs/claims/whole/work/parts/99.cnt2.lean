/-! SORTING BY COUNTING, 2 -/
section
variable {S : St} {m G n w k1 k2 : Nat} {s tw : Nat → Nat} {F R : List Nat}
theorem f_sort3 (h : SO S m G n w k1 k2 s tw F) (n0 : 0 < n) (hR : ∀ i, i < F.length → R.getD (pl (keyL s w F) i) 0 = F.getD i 0) : ∀ (d fuel t : Nat) (T : St), t + d = n → d < fuel → 0 < t → fr16 S T → EN T n (fun j => if j < t then (keyL s w F).countP (fun a => decide (a < j)) else (keyL s w F).countP (fun a => decide (a = j - 1))) → ∃ T', f_Rl_sortInto_93 k1 k2 fuel (nI F.length) (nI w) (nI t) T = some T' ∧ frE S T' ∧ ga T' k1 = ga S k1 ∧ ∀ j, j < F.length → ga T' k2 (pl (keyL s w F) j) = nI (F.getD j 0) := by
  obtain ⟨hN, hF, hl, hn, q1, q2, q16, h3, hE, k12, kk1, kk2, hw⟩ := id h
  have lk : (keyL s w F).length = F.length := by unfold keyL; simp
  have cb : ∀ p, (keyL s w F).countP p ≤ 2 * n := fun p => by
    have := List.countP_le_length (p := p) (l := keyL s w F)
    omega
  intro d
  induction d with
  | zero =>
    intro fuel t T ht hf t0 fr hEN
    obtain ⟨fuel, rfl⟩ : ∃ j, fuel = j + 1 := ⟨fuel - 1, by omega⟩
    rw [f_Rl_sortInto_93]
    dsimp only
    rw [show gi T 3 = gi S 3 by show T.1 3 = S.1 3; rw [fr.1], h3, if_pos (nI_le (by omega) (by omega))]
    have : t = n := by omega
    subst this
    refine f_sort4 h hR F.length FU 0 T (by omega) (by have := FU_big; omega) fr.e (fr.2.2.2 k1 (by omega)) ?_ (fun j hj => by omega)
    intro j hj
    have e := hEN j hj
    dsimp only at e ⊢
    by_cases c : j < t
    · rw [if_pos c] at e ⊢
      rw [e]; simp
    · rw [if_neg c] at e ⊢
      have : j = t := by omega
      subst this
      rw [e, nI_toInt (by have := cb (fun a => decide (a = j - 1)); omega)]
      rfl
  | succ d ih =>
    intro fuel t T ht hf t0 fr hEN
    obtain ⟨fuel, rfl⟩ : ∃ j, fuel = j + 1 := ⟨fuel - 1, by omega⟩
    rw [f_Rl_sortInto_93]
    dsimp only
    obtain ⟨u, rfl⟩ : ∃ u, t = u + 1 := ⟨t - 1, by omega⟩
    have e1 := hEN (u + 1) (by omega)
    have e0 := hEN u (by omega)
    dsimp only at e1 e0
    rw [if_neg (by omega), show u + 1 - 1 = u by omega] at e1
    rw [if_pos (by omega)] at e0
    rw [show gi T 3 = gi S 3 by show T.1 3 = S.1 3; rw [fr.1], h3, if_neg (nI_ge (by omega) (by omega)), get_ok (q16.of fr.2.2.1) (show u + 1 < n + 1 by omega), bd_s]
    dsimp only
    rw [nI_pred, get_ok (q16.of fr.2.2.1) (show u < n + 1 by omega), bd_s]
    dsimp only
    rw [e1, e0, nI_add, put_ok (q16.of fr.2.2.1) (show u + 1 < n + 1 by omega), bd_s, bn_s, nI_1]
    refine ih fuel (u + 1 + 1) _ (by omega) (by omega) (by omega) (fr.put _) ((hEN.put (u + 1) _).cong (fun j hj => ?_))
    by_cases c : j = u + 1
    · rw [if_pos c, c, if_pos (by omega), cp_lt_succ, Nat.add_comm]
    · rw [if_neg c]
      by_cases c2 : j < u + 1
      · rw [if_pos c2, if_pos (by omega)]
      · rw [if_neg c2, if_neg (by omega)]
theorem f_sort2 (h : SO S m G n w k1 k2 s tw F) (n0 : 0 < n) (hR : ∀ i, i < F.length → R.getD (pl (keyL s w F) i) 0 = F.getD i 0) : ∀ (d fuel i : Nat) (T : St), i + d = F.length → d < fuel → fr16 S T → EN T n (fun j => if j = 0 then 0 else ((keyL s w F).take i).countP (fun a => decide (a = j - 1))) → ∃ T', f_Rl_sortInto_34 k1 k2 fuel (nI F.length) (nI w) (nI i) T = some T' ∧ frE S T' ∧ ga T' k1 = ga S k1 ∧ ∀ j, j < F.length → ga T' k2 (pl (keyL s w F) j) = nI (F.getD j 0) := by
  obtain ⟨hN, hF, hl, hn, q1, q2, q16, h3, hE, k12, kk1, kk2, hw⟩ := id h
  have lk : (keyL s w F).length = F.length := by unfold keyL; simp
  intro d
  induction d with
  | zero =>
    intro fuel i T hi hf fr hEN
    obtain ⟨fuel, rfl⟩ : ∃ j, fuel = j + 1 := ⟨fuel - 1, by omega⟩
    rw [f_Rl_sortInto_34]
    dsimp only
    rw [if_pos (nI_le (by omega) (by omega))]
    refine f_sort3 h n0 hR (n - 1) FU 1 T (by omega) (by have := FU_big; omega) (by omega) fr (hEN.cong (fun j hj => ?_))
    by_cases c : j = 0
    · subst c; simp
    · rw [if_neg c, if_neg (by omega), show i = (keyL s w F).length by omega, List.take_length]
  | succ d ih =>
    intro fuel i T hi hf fr hEN
    obtain ⟨fuel, rfl⟩ : ∃ j, fuel = j + 1 := ⟨fuel - 1, by omega⟩
    have hiF : i < F.length := by omega
    have NT := fr.e.nv hN
    have fm := hE _ (getD_mem' hiF)
    have sm := hN.small fm.1
    have kat := keyL_at (s := s) (w := w) hiF
    rw [f_Rl_sortInto_34]
    dsimp only
    rw [if_neg (nI_ge hiF (by omega)), get_ok (q1.of fr.2.2.1) (show i < 2 * n by omega), bd_s]
    dsimp only
    rw [fr.2.2.2 k1 (by omega), hF i hiF, f_ahead sm (by omega), bd_s]
    dsimp only
    rw [f_startOf NT (ah_lt fm.1), bd_s]
    dsimp only
    rw [nI_1, get_ok (q16.of fr.2.2.1) (show s (ah (F.getD i 0) w) + 1 < n + 1 by omega), bd_s]
    dsimp only
    have ev := hEN (s (ah (F.getD i 0) w) + 1) (by omega)
    dsimp only at ev
    rw [if_neg (by omega), show s (ah (F.getD i 0) w) + 1 - 1 = s (ah (F.getD i 0) w) by omega] at ev
    rw [ev, nI_1, put_ok (q16.of fr.2.2.1) (show s (ah (F.getD i 0) w) + 1 < n + 1 by omega), bd_s, bn_s, nI_1]
    refine ih fuel (i + 1) _ (by omega) (by omega) (fr.put _) ((hEN.put _ _).cong (fun j hj => ?_))
    by_cases c0 : j = 0
    · rw [if_pos c0, if_neg (by omega), if_pos c0]
    · rw [if_neg c0, cp_take _ (by omega), ← getD_get (by omega), kat]
      by_cases c : j = s (ah (F.getD i 0) w) + 1
      · rw [if_pos c, c, show s (ah (F.getD i 0) w) + 1 - 1 = s (ah (F.getD i 0) w) by omega]
        simp
      · rw [if_neg c, if_neg c0, if_neg (show ¬ (decide (s (ah (F.getD i 0) w) = j - 1) = true) by rw [decide_eq_true_eq]; omega)]
        rfl
theorem f_sort1 (h : SO S m G n w k1 k2 s tw F) (n0 : 0 < n) (hR : ∀ i, i < F.length → R.getD (pl (keyL s w F) i) 0 = F.getD i 0) : ∀ (d fuel t : Nat) (T : St), t + d = n + 1 → d < fuel → fr16 S T → (∀ j, j < t → ga T 16 j = nI 0) → ∃ T', f_Rl_sortInto_3 k1 k2 fuel (nI F.length) (nI w) (nI t) T = some T' ∧ frE S T' ∧ ga T' k1 = ga S k1 ∧ ∀ j, j < F.length → ga T' k2 (pl (keyL s w F) j) = nI (F.getD j 0) := by
  obtain ⟨hN, hF, hl, hn, q1, q2, q16, h3, hE, k12, kk1, kk2, hw⟩ := id h
  intro d
  induction d with
  | zero =>
    intro fuel t T ht hf fr hz
    obtain ⟨fuel, rfl⟩ : ∃ j, fuel = j + 1 := ⟨fuel - 1, by omega⟩
    rw [f_Rl_sortInto_3]
    dsimp only
    rw [show gi T 3 = gi S 3 by show T.1 3 = S.1 3; rw [fr.1], h3, if_pos (nI_lt (by omega) (by omega))]
    refine f_sort2 h n0 hR F.length FU 0 T (by omega) (by have := FU_big; omega) fr (fun j hj => ?_)
    rw [hz j (by omega)]
    by_cases c : j = 0
    · simp [c]
    · simp [c]
  | succ d ih =>
    intro fuel t T ht hf fr hz
    obtain ⟨fuel, rfl⟩ : ∃ j, fuel = j + 1 := ⟨fuel - 1, by omega⟩
    rw [f_Rl_sortInto_3]
    dsimp only
    rw [show gi T 3 = gi S 3 by show T.1 3 = S.1 3; rw [fr.1], h3, if_neg (nI_nlt (by omega) (by omega)), put_ok (q16.of fr.2.2.1) (show t < n + 1 by omega), bd_s, bn_s, nI_1]
    refine ih fuel (t + 1) _ (by omega) (by omega) (fr.put _) (fun j hj => ?_)
    rw [ga_seta]
    by_cases c : j = t
    · rw [c, upd_same]; rfl
    · rw [upd_ne _ _ c]; exact hz j (by omega)
theorem f_sortInto (h : SO S m G n w k1 k2 s tw F) (n0 : 0 < n) : ∃ T R, f_Rl_sortInto k1 k2 (nI F.length) (nI w) S = some T ∧ frE S T ∧ HL T k2 R ∧ SRT F R (fun e => s (ah e w)) := by
  obtain ⟨R, r1, r2⟩ := SRT.ex F (fun e => s (ah e w))
  have lk : (keyL s w F).length = F.length := by unfold keyL; simp
  obtain ⟨T, t1, t2, t3, t4⟩ := f_sort1 h n0 (R := R) r2 (n + 1) FU 0 S (by omega) (by have := FU_big; have := h.2.2.2.1; omega) ⟨rfl, rfl, rfl, fun _ _ => rfl⟩ (fun j hj => by omega)
  refine ⟨T, R, t1, t2, fun p hp => ?_, r1⟩
  rw [r1.1] at hp
  obtain ⟨i, hi, e⟩ := pl_ex (l := keyL s w F) (p := p) (by omega)
  rw [lk] at hi
  rw [← e, t4 i hi]
  have r2' := r2 i hi
  have : (F.map fun e => s (ah e w)) = keyL s w F := rfl
  rw [this] at r2'
  rw [r2']
end
