/-! FILLING: the first round -/
/-- where the k-th new triangle goes -/
def Fm (pl : List Nat) (m i : Nat) : Nat := if i < pl.length then pl.getD i 0 else m + (i - pl.length)
/-- so many triangles after k steps -/
def mC (pl : List Nat) (m k : Nat) : Nat := m + (k - pl.length)
def sF (s R F : Nat → Nat) (p : Nat) : Nat → Nat → Nat
  | 0 => s
  | k + 1 => fun e => if e = 3 * F k then s (nx (R k)) else if e = 3 * F k + 1 then s (R k) else if e = 3 * F k + 2 then p else sF s R F p k e
def tF (tw R F : Nat → Nat) : Nat → Nat → Nat
  | 0 => tw
  | k + 1 => fun e => if e = R k then 3 * F k else if e = 3 * F k then R k else tF tw R F k e
def lF (s lv R F : Nat → Nat) (p : Nat) : Nat → Nat → Nat
  | 0 => lv
  | k + 1 => fun v => if v = p then 3 * F k + 2 else if v = s (nx (R k)) then 3 * F k else lF s lv R F p k v
theorem sF_s (s R F : Nat → Nat) (p k e : Nat) : sF s R F p (k + 1) e = if e = 3 * F k then s (nx (R k)) else if e = 3 * F k + 1 then s (R k) else if e = 3 * F k + 2 then p else sF s R F p k e := rfl
theorem tF_s (tw R F : Nat → Nat) (k e : Nat) : tF tw R F (k + 1) e = if e = R k then 3 * F k else if e = 3 * F k then R k else tF tw R F k e := rfl
theorem lF_s (s lv R F : Nat → Nat) (p k v : Nat) : lF s lv R F p (k + 1) v = if v = p then 3 * F k + 2 else if v = s (nx (R k)) then 3 * F k else lF s lv R F p k v := rfl
/-- what filling leaves as it was -/
def frF (S T : St) : Prop := (∀ k, k ≠ 6 → k ≠ 7 → gi T k = gi S k) ∧ T.2.1 = S.2.1 ∧ T.2.2.1 = S.2.2.1 ∧ ∀ k, k ≠ 8 → k ≠ 9 → k ≠ 10 → k ≠ 12 → ga T k = ga S k
theorem frF.trans {S T R : St} (h : frF S T) (g : frF T R) : frF S R := ⟨fun k a b => (g.1 k a b).trans (h.1 k a b), g.2.1.trans h.2.1, g.2.2.1.trans h.2.2.1, fun k a b c d => (g.2.2.2 k a b c d).trans (h.2.2.2 k a b c d)⟩
theorem frF.cap {S T : St} (h : frF S T) {k c : Nat} (hc : Cap S k c) : Cap T k c := by
  unfold Cap at *
  have e1 : ∀ k, gn T k = gn S k := fun k => by show T.2.2.1 k = S.2.2.1 k; rw [h.2.2.1]
  simp only [e1]
  exact hc
/-- ghosts among the first k new ones -/
def gF (G : Nat) (s R F : Nat → Nat) (p : Nat) (k : Nat) : Nat := (List.range k).countP (fun i => !sol G (sF s R F p (i + 1)) (F i))
def FI (S T : St) (G m p : Nat) (s tw lv R : Nat → Nat) (P pl : List Nat) (k : Nat) : Prop :=
  frF S T ∧ gi T 6 = nI (mC pl m k) ∧ gi T 7 = gi S 7 + nI (gF G s R (Fm pl m) p k) ∧ (∀ e, e < 3 * mC pl m k → ga T 8 e = nI (sF s R (Fm pl m) p k e)) ∧ (∀ e, e < 3 * m ∨ (∃ i, i < k ∧ e = 3 * Fm pl m i) → ga T 9 e = nI (tF tw R (Fm pl m) k e)) ∧ (∀ v, v ∈ G :: P ∨ (v = p ∧ 0 < k) → ga T 10 (plc G v) = nI (lF s lv R (Fm pl m) p k v)) ∧ ∀ i, i < k ∨ i < pl.length → ga T 12 i = nI (Fm pl m i)
/-- what the first round of filling starts from -/
def F0H (S : St) (G n m M p : Nat) (s tw lv R : Nat → Nat) (P pl : List Nat) : Prop :=
  gi S 4 = nI G ∧ G ≤ 1024 ∧ n ≤ 1024 ∧ m + 2 ≤ M ∧ M ≤ 2048 ∧ Cap S 8 (3 * M) ∧ Cap S 9 (3 * M) ∧ Cap S 10 (n + 1) ∧ Cap S 12 M ∧ Cap S 13 M ∧ gi S 8 = nI pl.length ∧ gi S 9 = nI (pl.length + 2) ∧ p < n ∧ p ≠ G ∧ p ∉ P ∧ (∀ v ∈ P, v < n) ∧ pl.length ≤ m ∧ (∀ t ∈ pl, t < m) ∧
  (∀ k, k < pl.length + 2 → ga S 13 k = nI (R k) ∧ R k < 3 * m ∧ R k / 3 ∉ pl) ∧ (∀ e, e < 3 * m → s e ≤ 1024 ∧ (s e = G ∨ s e ∈ P))
section
variable {S T : St} {G n m M p : Nat} {s tw lv R : Nat → Nat} {P pl : List Nat}
theorem Fm_lt (hpl : ∀ t ∈ pl, t < m) (k : Nat) : Fm pl m k < mC pl m (k + 1) := by
  unfold Fm mC
  by_cases c : k < pl.length
  · rw [if_pos c]
    have : pl.getD k 0 < m := by
      rw [List.getD_eq_getElem?_getD, List.getElem?_eq_getElem c]
      exact hpl _ (List.getElem_mem c)
    omega
  · rw [if_neg c]
    omega
theorem Fm_pl {t : Nat} (hpl : ∀ t ∈ pl, t < m) {k : Nat} (ht : t < m) (hn : t ∉ pl) : t ≠ Fm pl m k := by
  unfold Fm
  by_cases c : k < pl.length
  · rw [if_pos c]
    intro q
    apply hn
    rw [q, List.getD_eq_getElem?_getD, List.getElem?_eq_getElem c]
    exact List.getElem_mem c
  · rw [if_neg c]
    omega
/-- triangles that stay are not written -/
theorem sF_old (hpl : ∀ t ∈ pl, t < m) {e : Nat} (he : e < 3 * m) (hn : e / 3 ∉ pl) : ∀ k, sF s R (Fm pl m) p k e = s e
  | 0 => rfl
  | k + 1 => by
    have q := Fm_pl (k := k) hpl (show e / 3 < m by omega) hn
    rw [sF_s, if_neg (by omega), if_neg (by omega), if_neg (by omega)]
    exact sF_old hpl he hn k
theorem fill_step (H : F0H S G n m M p s tw lv R P pl) {k : Nat} (hk : k < pl.length + 2) (h : FI S T G m p s tw lv R P pl k) (fu : Nat) :
    ∃ T', FI S T' G m p s tw lv R P pl (k + 1) ∧ f_Nt_fill_2 (fu + 1) (nI p) (nI k) T = f_Nt_fill_2 fu (nI p) (nI (k + 1)) T' := by
  obtain ⟨a1, a2, a3, a4, a5, c8, c9, c10, c12, c13, a6, a7, a8, a9, a10, a11, a12, a13, a14, a15⟩ := id H
  obtain ⟨f0, f1, f2, f3, f4, f5, f6⟩ := id h
  obtain ⟨r1, r2, r3⟩ := a14 k hk
  have Fl := Fm_lt a13 k
  have mk1 : mC pl m (k + 1) ≤ M := by unfold mC; omega
  have mk0 : mC pl m k ≤ mC pl m (k + 1) := by unfold mC; omega
  have mm : m ≤ mC pl m k := by unfold mC; omega
  have i9 : gi T 9 = nI (pl.length + 2) := by rw [f0.1 9 (by decide) (by decide)]; exact a7
  have i8 : gi T 8 = nI pl.length := by rw [f0.1 8 (by decide) (by decide)]; exact a6
  have sle : ∀ e, e < 3 * mC pl m k → sF s R (Fm pl m) p k e ≤ 1024 := by
    have key : ∀ (j e : Nat), j ≤ pl.length + 2 → e < 3 * mC pl m j → sF s R (Fm pl m) p j e ≤ 1024 := by
      intro j
      induction j with
      | zero => intro e _ he; exact (a15 e (by unfold mC at he; omega)).1
      | succ j ih =>
        intro e hj he
        obtain ⟨-, b2, -⟩ := a14 j (by omega)
        rw [sF_s]
        split
        · exact (a15 _ (nx_lt b2)).1
        · split
          · exact (a15 _ b2).1
          · split
            · omega
            · refine ih e (by omega) ?_
              have : e / 3 ≠ Fm pl m j := by omega
              unfold Fm at this
              unfold mC at he ⊢
              split at this <;> omega
    exact fun e he => key k e (by omega) he
  rw [f_Nt_fill_2]
  dsimp only
  rw [i9, if_neg (nI_ge hk (by omega)), get_ok (f0.cap c13) (show k < M by omega), bd_s]
  dsimp only
  rw [f0.2.2.2 13 (by decide) (by decide) (by decide) (by decide), r1, i8]
  -- the body, from a state that has the number of triangles right
  have body : ∀ T1, frF T T1 → gi T1 6 = nI (mC pl m (k + 1)) → gi T1 7 = gi T 7 → (∀ j, ga T1 j = ga T j) → ∃ T', FI S T' G m p s tw lv R P pl (k + 1) ∧ f_Nt_fill_49 (f_Nt_fill_2 fu) (nI p) (nI k) (nI (R k)) (nI (Fm pl m k)) T1 = f_Nt_fill_2 fu (nI p) (nI (k + 1)) T' := by
    intro T1 g0 g6 g7 ge
    have f01 := f0.trans g0
    have i4 : gi T1 4 = nI G := by rw [f01.1 4 (by decide) (by decide)]; exact a1
    have ns : NS T1 (mC pl m k) G (sF s R (Fm pl m) p k) := ⟨i4, a2, by omega, (f01.cap c8).le (by omega), fun e he => ⟨by rw [ge]; exact f3 e he, sle e he⟩⟩
    have rl : R k < 3 * mC pl m k := by omega
    unfold f_Nt_fill_49
    rw [n_endOf ns rl, bd_s]
    dsimp only
    rw [n_startOf ns rl, bd_s]
    dsimp only
    rw [sF_old a13 (nx_lt r2) (by rw [nx_div]; exact r3) k, sF_old a13 r2 r3 k]
    have sa := a15 _ (nx_lt r2)
    have pla : plc G (s (nx (R k))) < n + 1 := by
      unfold plc
      split
      · omega
      · have := a11 _ (sa.2.resolve_left (by assumption)); omega
    have plp : plc G p < n + 1 := by unfold plc; split <;> omega
    obtain ⟨T2, t1, t2, t3, t4, t5, t6, t7⟩ := n_setTriangle (K := M) (L := n + 1) (b := s (R k)) i4 a2 (f01.cap c8) (f01.cap c10) (show Fm pl m k < M by omega) a5 sa.1 (show p ≤ 1024 by omega) pla plp
    rw [t1, bd_s]
    have cap2 : ∀ {j c}, Cap S j c → Cap T2 j c := fun {j c} hc => by
      have := f01.cap hc
      unfold Cap at *
      have e1 : ∀ k, gn T2 k = gn T1 k := fun k => by show T2.2.2.1 k = T1.2.2.1 k; rw [t4]
      simp only [e1]
      exact this
    obtain ⟨T3, u1, u2⟩ := n_join (S := T2) (cap2 c9) (a := 3 * Fm pl m k) (b := R k) (by omega) (by omega)
    rw [show (3 : Int32) = nI 3 from rfl, nI_mul, u1, bd_s]
    have cap3 : Cap T3 12 M := by rw [u2]; exact cap2 c12
    rw [put_ok cap3 (show k < M by omega), bd_s]
    generalize hT4 : seta T3 12 (upd (ga T3 12) k (nI (Fm pl m k))) = T4
    have e8 : ga T4 8 = ga T2 8 := by rw [← hT4, ga_seta_ne _ _ (by decide), u2, ga_seta_ne _ _ (by decide)]
    have e9 : ga T4 9 = upd (upd (ga T2 9) (3 * Fm pl m k) (nI (R k))) (R k) (nI (3 * Fm pl m k)) := by rw [← hT4, ga_seta_ne _ _ (by decide), u2, ga_seta]
    have e10 : ga T4 10 = ga T2 10 := by rw [← hT4, ga_seta_ne _ _ (by decide), u2, ga_seta_ne _ _ (by decide)]
    have e12 : ga T4 12 = upd (ga T2 12) k (nI (Fm pl m k)) := by rw [← hT4, ga_seta, u2, ga_seta_ne _ _ (by decide)]
    have ei : ∀ j, gi T4 j = gi T1 j := fun j => by
      rw [← hT4, gi_seta, u2, gi_seta]
      show T2.1 j = T1.1 j
      rw [t2]
    have fr4 : frF T1 T4 := by
      refine ⟨fun j _ _ => ei j, ?_, ?_, fun j b1 b2 b3 b4 => ?_⟩
      · rw [← hT4, u2]; exact t3
      · rw [← hT4, u2]; exact t4
      · rw [← hT4, ga_seta_ne _ _ b4, u2, ga_seta_ne _ _ b2]; exact t5 j b1 b3
    have s8 : ∀ e, e < 3 * mC pl m (k + 1) → ga T4 8 e = nI (sF s R (Fm pl m) p (k + 1) e) := by
      intro e he
      rw [e8, t6, sF_s]
      by_cases q2 : e = 3 * Fm pl m k + 2
      · rw [q2, upd_same, if_neg (by omega), if_neg (by omega), if_pos rfl]
      · rw [upd_ne _ _ q2]
        by_cases q1 : e = 3 * Fm pl m k + 1
        · rw [q1, upd_same, if_neg (by omega), if_pos rfl]
        · rw [upd_ne _ _ q1]
          by_cases q0 : e = 3 * Fm pl m k
          · rw [q0, upd_same, if_pos rfl]
          · rw [upd_ne _ _ q0, if_neg q0, if_neg q1, if_neg q2, ge]
            refine f3 e ?_
            have : e / 3 ≠ Fm pl m k := by omega
            unfold Fm at this
            unfold mC at he ⊢
            split at this <;> omega
    have sle1 : ∀ e, e < 3 * mC pl m (k + 1) → sF s R (Fm pl m) p (k + 1) e ≤ 1024 := by
      intro e he
      rw [sF_s]
      split
      · exact sa.1
      · split
        · exact (a15 _ r2).1
        · split
          · omega
          · refine sle e ?_
            have : e / 3 ≠ Fm pl m k := by omega
            unfold Fm at this
            unfold mC at he ⊢
            split at this <;> omega
    have ns4 : NS T4 (mC pl m (k + 1)) G (sF s R (Fm pl m) p (k + 1)) := ⟨by rw [ei]; exact i4, a2, by omega, ((f01.trans fr4).cap c8).le (by omega), fun e he => ⟨s8 e he, sle1 e he⟩⟩
    rw [n_isOuter ns4 Fl, bd_s]
    dsimp only
    have cont : ∀ T', f_Nt_fill_108 (f_Nt_fill_2 fu) (nI p) (nI k) T' = f_Nt_fill_2 fu (nI p) (nI (k + 1)) T' := fun T' => by
      unfold f_Nt_fill_108
      rw [bn_s, nI_1]
    have core : ∀ T', frF T4 T' → gi T' 6 = gi T4 6 → (∀ j, ga T' j = ga T4 j) → gi T' 7 = gi S 7 + nI (gF G s R (Fm pl m) p (k + 1)) → FI S T' G m p s tw lv R P pl (k + 1) := by
      intro T' hfr h6 hg h7
      refine ⟨(f01.trans fr4).trans hfr, by rw [h6, ei]; exact g6, h7, fun e he => by rw [hg]; exact s8 e he, fun e he => ?_, fun v hv => ?_, fun i hi => ?_⟩
      · rw [hg, e9, tF_s]
        by_cases q1 : e = R k
        · rw [if_pos q1, q1, upd_same]
        · rw [upd_ne _ _ q1, if_neg q1]
          by_cases q0 : e = 3 * Fm pl m k
          · rw [q0, upd_same, if_pos rfl]
          · rw [upd_ne _ _ q0, if_neg q0, t5 9 (by decide) (by decide), ge]
            refine f4 e ?_
            rcases he with he | ⟨i, i1, i2⟩
            · exact Or.inl he
            · by_cases c : i = k
              · rw [c] at i2; exact absurd i2 q0
              · exact Or.inr ⟨i, by omega, i2⟩
      · rw [hg, e10, t7, lF_s]
        by_cases q1 : v = p
        · rw [if_pos q1, q1, upd_same]
        · rw [if_neg q1, upd_ne _ _ (fun z => q1 (plc_inj z))]
          by_cases q0 : v = s (nx (R k))
          · rw [if_pos q0, q0, upd_same]
          · rw [if_neg q0, upd_ne _ _ (fun z => q0 (plc_inj z)), ge]
            exact f5 v (hv.elim (fun z => Or.inl z) (fun z => absurd z.1 q1))
      · rw [hg, e12]
        by_cases q : i = k
        · rw [q, upd_same]
        · rw [upd_ne _ _ q, t5 12 (by decide) (by decide), ge]
          exact f6 i (by omega)
    have g4 : gi T4 7 = gi S 7 + nI (gF G s R (Fm pl m) p k) := by rw [ei, g7]; exact f2
    cases hs : sol G (sF s R (Fm pl m) p (k + 1)) (Fm pl m k) with
    | true =>
      rw [b32_f (by decide), if_pos rfl, cont]
      refine ⟨T4, core T4 ⟨fun _ _ _ => rfl, rfl, rfl, fun _ _ _ _ _ => rfl⟩ rfl (fun _ => rfl) ?_, rfl⟩
      rw [g4]
      unfold gF
      rw [List.range_succ, List.countP_append]
      simp [hs]
    | false =>
      rw [b32_t rfl, if_neg (by decide), bn_s, cont]
      refine ⟨_, core _ ⟨fun j _ b => gi_seti_ne _ _ b, rfl, rfl, fun _ _ _ _ _ => rfl⟩ (gi_seti_ne _ _ (by decide)) (fun _ => rfl) ?_, rfl⟩
      rw [gi_seti, g4]
      unfold gF
      rw [List.range_succ, List.countP_append]
      have : List.countP (fun i => !sol G (sF s R (Fm pl m) p (i + 1)) (Fm pl m i)) [k] = 1 := by simp [hs]
      rw [this, Int32.add_assoc, nI_1]
  by_cases c : k < pl.length
  · rw [if_neg (nI_ge c (by omega)), get_ok (f0.cap c12) (show k < M by omega), bd_s]
    dsimp only
    rw [f6 k (Or.inr c)]
    refine body T ⟨fun _ _ _ => rfl, rfl, rfl, fun _ _ _ _ _ => rfl⟩ ?_ rfl (fun _ => rfl)
    rw [f1]
    unfold mC
    congr 1
    omega
  · rw [if_pos (nI_le (by omega) (by omega)), f1, bn_s]
    have e1 : mC pl m k = Fm pl m k := by unfold mC Fm; rw [if_neg c]
    have e2 : nI (mC pl m k) + 1 = nI (mC pl m (k + 1)) := by
      rw [nI_1]
      unfold mC
      congr 1
      omega
    rw [e2]
    conv => 
      enter [1, T', 2, 1]
      rw [e1]
    exact body _ ⟨fun j b _ => gi_seti_ne _ _ b, rfl, rfl, fun _ _ _ _ _ => rfl⟩ (gi_seti _ _ _) (gi_seti_ne _ _ (by decide)) (fun _ => rfl)
end
