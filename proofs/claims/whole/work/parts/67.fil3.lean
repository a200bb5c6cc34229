/-! FILLING: both rounds -/
def tG (tw R F J : Nat → Nat) (K : Nat) : Nat → Nat → Nat
  | 0 => tF tw R F K
  | k + 1 => fun e => if e = J k + 2 then 3 * F k + 1 else if e = 3 * F k + 1 then J k + 2 else tG tw R F J K k e
theorem tG_s (tw R F J : Nat → Nat) (K k e : Nat) : tG tw R F J K (k + 1) e = if e = J k + 2 then 3 * F k + 1 else if e = 3 * F k + 1 then J k + 2 else tG tw R F J K k e := rfl
section
variable {S T : St} {G n m M p : Nat} {s tw lv R : Nat → Nat} {P pl : List Nat}
theorem fill_first (H : F0H S G n m M p s tw lv R P pl) : ∀ (d fuel k : Nat) (T : St), k + d = pl.length + 2 → d < fuel → FI S T G m p s tw lv R P pl k → ∃ T', FI S T' G m p s tw lv R P pl (pl.length + 2) ∧ f_Nt_fill_2 fuel (nI p) (nI k) T = f_Nt_fill_116 FU 0 T' := by
  intro d
  induction d with
  | zero =>
    intro fuel k T hk hf h
    obtain ⟨fuel, rfl⟩ : ∃ j, fuel = j + 1 := ⟨fuel - 1, by omega⟩
    have : k = pl.length + 2 := by omega
    subst this
    refine ⟨T, h, ?_⟩
    rw [f_Nt_fill_2]
    dsimp only
    have i9 : gi T 9 = nI (pl.length + 2) := by rw [h.1.1 9 (by decide) (by decide)]; exact H.2.2.2.2.2.2.2.2.2.2.2.1
    rw [i9, if_pos (Int32.le_refl _)]
  | succ d ih =>
    intro fuel k T hk hf h
    obtain ⟨fuel, rfl⟩ : ∃ j, fuel = j + 1 := ⟨fuel - 1, by omega⟩
    obtain ⟨T1, a, b⟩ := fill_step H (show k < pl.length + 2 by omega) h fuel
    obtain ⟨T2, c, e⟩ := ih fuel (k + 1) T1 (by omega) (by omega) a
    exact ⟨T2, c, by rw [b, e]⟩
/-- the places of the new triangles differ -/
theorem Fm_inj (hn : pl.Nodup) (hpl : ∀ t ∈ pl, t < m) {i j : Nat} (h : Fm pl m i = Fm pl m j) : i = j := by
  have g : ∀ {i}, i < pl.length → pl.getD i 0 < m := fun {i} c => by
    rw [List.getD_eq_getElem?_getD, List.getElem?_eq_getElem c]
    exact hpl _ (List.getElem_mem c)
  unfold Fm at h
  by_cases c1 : i < pl.length <;> by_cases c2 : j < pl.length
  · rw [if_pos c1, if_pos c2, List.getD_eq_getElem?_getD, List.getD_eq_getElem?_getD, List.getElem?_eq_getElem c1, List.getElem?_eq_getElem c2] at h
    have h : pl[i] = pl[j] := h
    rcases Nat.lt_trichotomy i j with q | q | q
    · exact absurd h (List.pairwise_iff_getElem.mp hn i j c1 c2 q)
    · exact q
    · exact absurd h.symm (List.pairwise_iff_getElem.mp hn j i c2 c1 q)
  · rw [if_pos c1, if_neg c2] at h
    have := g c1
    omega
  · rw [if_neg c1, if_pos c2] at h
    have := g c2
    omega
  · rw [if_neg c1, if_neg c2] at h
    omega
/-- what stands in the new triangles -/
theorem sF_new {F : Nat → Nat} (hF : ∀ i j, F i = F j → i = j) : ∀ (k i : Nat), i < k → sF s R F p k (3 * F i) = s (nx (R i)) ∧ sF s R F p k (3 * F i + 1) = s (R i) ∧ sF s R F p k (3 * F i + 2) = p
  | 0, i, h => absurd h (Nat.not_lt_zero i)
  | k + 1, i, h => by
    by_cases c : i = k
    · subst c
      refine ⟨?_, ?_, ?_⟩
      · rw [sF_s, if_pos rfl]
      · rw [sF_s, if_neg (by omega), if_pos rfl]
      · rw [sF_s, if_neg (by omega), if_neg (by omega), if_pos rfl]
    · have ne : F i ≠ F k := fun q => c (hF i k q)
      obtain ⟨a, b, d⟩ := sF_new hF k i (by omega)
      refine ⟨?_, ?_, ?_⟩
      · rw [sF_s, if_neg (by omega), if_neg (by omega), if_neg (by omega)]; exact a
      · rw [sF_s, if_neg (by omega), if_neg (by omega), if_neg (by omega)]; exact b
      · rw [sF_s, if_neg (by omega), if_neg (by omega), if_neg (by omega)]; exact d
/-- the state of the second round -/
def GI (S T : St) (G m p : Nat) (s tw lv R J : Nat → Nat) (P pl : List Nat) (i : Nat) : Prop :=
  frF S T ∧ gi T 6 = nI (m + 2) ∧ gi T 7 = gi S 7 + nI (gF G s R (Fm pl m) p (pl.length + 2)) ∧ (∀ e, e < 3 * (m + 2) → ga T 8 e = nI (sF s R (Fm pl m) p (pl.length + 2) e)) ∧ (∀ e, e < 3 * m ∨ (∃ j, j < pl.length + 2 ∧ e = 3 * Fm pl m j) ∨ (∃ j, j < i ∧ (e = 3 * Fm pl m j + 1 ∨ e = J j + 2)) → ga T 9 e = nI (tG tw R (Fm pl m) J (pl.length + 2) i e)) ∧ (∀ v, v ∈ G :: P ∨ v = p → ga T 10 (plc G v) = nI (lF s lv R (Fm pl m) p (pl.length + 2) v)) ∧ ∀ j, j < pl.length + 2 → ga T 12 j = nI (Fm pl m j)
theorem fill_second (H : F0H S G n m M p s tw lv R P pl) (hn : pl.Nodup) {J : Nat → Nat} (hJ : ∀ i, i < pl.length + 2 → lF s lv R (Fm pl m) p (pl.length + 2) (s (R i)) = J i ∧ J i + 2 < 3 * (m + 2)) : ∀ (d fuel i : Nat) (T : St), i + d = pl.length + 2 → d < fuel → GI S T G m p s tw lv R J P pl i → ∃ T', GI S T' G m p s tw lv R J P pl (pl.length + 2) ∧ f_Nt_fill_116 fuel (nI i) T = some T' := by
  obtain ⟨a1, a2, a3, a4, a5, c8, c9, c10, c12, c13, a6, a7, a8, a9, a10, a11, a12, a13, a14, a15⟩ := id H
  intro d
  induction d with
  | zero =>
    intro fuel i T hi hf h
    obtain ⟨fuel, rfl⟩ : ∃ j, fuel = j + 1 := ⟨fuel - 1, by omega⟩
    have : i = pl.length + 2 := by omega
    subst this
    refine ⟨T, h, ?_⟩
    rw [f_Nt_fill_116]
    dsimp only
    have i9 : gi T 9 = nI (pl.length + 2) := by rw [h.1.1 9 (by decide) (by decide)]; exact a7
    rw [i9, if_pos (Int32.le_refl _)]
  | succ d ih =>
    intro fuel i T hi hf h
    obtain ⟨fuel, rfl⟩ : ∃ j, fuel = j + 1 := ⟨fuel - 1, by omega⟩
    obtain ⟨f0, f1, f2, f3, f4, f5, f6⟩ := id h
    have ik : i < pl.length + 2 := by omega
    have i9 : gi T 9 = nI (pl.length + 2) := by rw [f0.1 9 (by decide) (by decide)]; exact a7
    have i4 : gi T 4 = nI G := by rw [f0.1 4 (by decide) (by decide)]; exact a1
    have Fl : Fm pl m i < m + 2 := by
      have := Fm_lt a13 i
      unfold mC at this
      omega
    have sle : ∀ e, e < 3 * (m + 2) → sF s R (Fm pl m) p (pl.length + 2) e ≤ 1024 := by
      have key : ∀ (j e : Nat), j ≤ pl.length + 2 → e < 3 * mC pl m j → sF s R (Fm pl m) p j e ≤ 1024 := by
        intro j
        induction j with
        | zero => intro e _ he; exact (a15 e (by unfold mC at he; omega)).1
        | succ j ih2 =>
          intro e hj he
          obtain ⟨-, b2, -⟩ := a14 j (by omega)
          rw [sF_s]
          split
          · exact (a15 _ (nx_lt b2)).1
          · split
            · exact (a15 _ b2).1
            · split
              · omega
              · refine ih2 e (by omega) ?_
                have : e / 3 ≠ Fm pl m j := by omega
                unfold Fm at this
                unfold mC at he ⊢
                split at this <;> omega
      exact fun e he => key (pl.length + 2) e (Nat.le_refl _) (by unfold mC; omega)
    have ns : NS T (m + 2) G (sF s R (Fm pl m) p (pl.length + 2)) := ⟨i4, a2, by omega, (f0.cap c8).le (by omega), fun e he => ⟨f3 e he, sle e he⟩⟩
    rw [f_Nt_fill_116]
    dsimp only
    rw [i9, if_neg (nI_ge ik (by omega)), get_ok (f0.cap c12) (show i < M by omega), bd_s]
    dsimp only
    rw [f6 i ik, bn_s, show (3 : Int32) = nI 3 from rfl, nI_mul, nI_1, n_startOf ns (show 3 * Fm pl m i + 1 < 3 * (m + 2) by omega), bd_s]
    dsimp only
    have nw := sF_new (s := s) (R := R) (p := p) (F := Fm pl m) (fun i j q => Fm_inj hn a13 q) (pl.length + 2) i ik
    obtain ⟨-, r2, -⟩ := a14 i ik
    have sr := a15 _ r2
    rw [nw.2.1, n_placeOf i4 a2 sr.1, bd_s]
    dsimp only
    have plv : plc G (s (R i)) < n + 1 := by
      unfold plc
      split
      · omega
      · have := a11 _ (sr.2.resolve_left (by assumption)); omega
    rw [get_ok (f0.cap c10) plv, bd_s]
    dsimp only
    have hv : s (R i) ∈ G :: P := by
      rcases sr.2 with q | q
      · rw [q]; exact List.mem_cons_self
      · exact List.mem_cons_of_mem _ q
    obtain ⟨j1, j2⟩ := hJ i ik
    rw [f5 _ (Or.inl hv), j1, nI_2]
    obtain ⟨T1, u1, u2⟩ := n_join (S := T) ((f0.cap c9).le (show 3 * (m + 2) ≤ 3 * M by omega)) (a := 3 * Fm pl m i + 1) (b := J i + 2) (by omega) j2
    rw [u1, bd_s, bn_s, nI_1]
    refine ih fuel (i + 1) T1 (by omega) (by omega) ?_
    subst u2
    refine ⟨f0.trans ⟨fun _ _ _ => rfl, rfl, rfl, fun k _ b _ _ => ga_seta_ne _ _ b⟩, f1, f2, fun e he => ?_, fun e he => ?_, fun v hv => ?_, fun j hj => ?_⟩
    · rw [ga_seta_ne _ _ (by decide)]; exact f3 e he
    · rw [ga_seta, tG_s]
      by_cases q1 : e = J i + 2
      · rw [if_pos q1, q1, upd_same]
      · rw [if_neg q1, upd_ne _ _ q1]
        by_cases q0 : e = 3 * Fm pl m i + 1
        · rw [if_pos q0, q0, upd_same]
        · rw [if_neg q0, upd_ne _ _ q0]
          refine f4 e ?_
          rcases he with he | he | ⟨j, k1, k2⟩
          · exact Or.inl he
          · exact Or.inr (Or.inl he)
          · by_cases c : j = i
            · subst c
              rcases k2 with k2 | k2
              · exact absurd k2 q0
              · exact absurd k2 q1
            · exact Or.inr (Or.inr ⟨j, by omega, k2⟩)
    · rw [ga_seta_ne _ _ (by decide)]; exact f5 v hv
    · rw [ga_seta_ne _ _ (by decide)]; exact f6 j hj
end
