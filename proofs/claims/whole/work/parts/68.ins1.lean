/-! A POINT MORE: what filling has written is a net again -/
section
variable {X Y : Nat → Int} {N G : Nat} {P : List Nat} {p m : Nat} {s tw : Nat → Nat} {T : Nat → Bool}
theorem rim_FC {g : V4} (hPts : Pts X Y N G P p) (hg : GhostOK X Y N G P p g) (h : NetD X Y G P m s tw) (hT : TKs X Y G p m s T) {e : Nat} (he : e < 3 * m) (h1 : T (e / 3) = true) (h2 : T (tw e / 3) = false) : FC (gu X Y (gZ X Y N) G g) (p :: G :: P) (s e) (s (nx e)) p := by
  have hN := h.ok hPts hg
  have hpG : p ∉ G :: P := fun q => by
    rcases List.mem_cons.mp q with q | q
    · exact (hPts.1 p List.mem_cons_self).2.2 q
    · exact hPts.2.2.2.1 q
  have w := (hN.twin he).1
  have t1 := (tk_iff hPts hg h (div3 he)).1.mp ((hT _ (div3 he)).mp h1)
  rw [← val_tv] at t1
  have t2 : tv (gu X Y (gZ X Y N) G g) s (tw e / 3) (gu X Y (gZ X Y N) G g p) < 0 := by
    have a := tk_iff hPts hg h (div3 w)
    have : ¬ 0 < tv (gu X Y (gZ X Y N) G g) s (tw e / 3) (gu X Y (gZ X Y N) G g p) := fun z => by
      have := (hT _ (div3 w)).mpr (a.1.mpr z)
      rw [h2] at this
      cases this
    have := a.2
    omega
  rw [← hN.valtw he] at t2
  exact (hN.fc he).rim (hN.fct he) (hN.apart he) hpG t1 t2
theorem rim_start (hPts : Pts X Y N G P p) (h : NetD X Y G P m s tw) (hT : TKs X Y G p m s T) {e e' : Nat} (he : e < 3 * m) (h1 : T (e / 3) = true) (h2 : T (tw e / 3) = false) (he' : e' < 3 * m) (h1' : T (e' / 3) = true) (h2' : T (tw e' / 3) = false) (q : s e = s e') : e = e' := by
  obtain ⟨g, hg⟩ := ghost_ex hPts
  have f1 := (rim_FC hPts hg h hT he h1 h2).rot.rot
  have f2 := (rim_FC hPts hg h hT he' h1' h2').rot.rot
  rw [q] at f1
  exact h.2.2 e he e' he' q (f1.uniq f2)
theorem rim_end (hPts : Pts X Y N G P p) (h : NetD X Y G P m s tw) (hT : TKs X Y G p m s T) {e e' : Nat} (he : e < 3 * m) (h1 : T (e / 3) = true) (h2 : T (tw e / 3) = false) (he' : e' < 3 * m) (h1' : T (e' / 3) = true) (h2' : T (tw e' / 3) = false) (q : s (nx e) = s (nx e')) : e = e' := by
  obtain ⟨g, hg⟩ := ghost_ex hPts
  have f1 := (rim_FC hPts hg h hT he h1 h2).rot
  have f2 := (rim_FC hPts hg h hT he' h1' h2').rot
  rw [q] at f1
  exact h.2.2 e he e' he' (f1.uniq f2) q
theorem rim_nextD (hPts : Pts X Y N G P p) (h : NetD X Y G P m s tw) {e : Nat} (he : e < 3 * m) (h1 : T (e / 3) = true) (h2 : T (tw e / 3) = false) : ∃ e', e' < 3 * m ∧ T (e' / 3) = true ∧ T (tw e' / 3) = false ∧ s e' = s (nx e) := by
  obtain ⟨g, hg⟩ := ghost_ex hPts
  exact rim_next (h.ok hPts hg) T he h1 h2
end
section
variable {s tw lv R F J : Nat → Nat} {p : Nat}
theorem lF_hit {v j0 : Nat} (hv : v ≠ p) (h0 : s (nx (R j0)) = v) : ∀ k, j0 < k → (∀ j, j < k → s (nx (R j)) = v → j = j0) → lF s lv R F p k v = 3 * F j0
  | 0, h, _ => absurd h (Nat.not_lt_zero j0)
  | k + 1, h, hu => by
    rw [lF_s, if_neg hv]
    by_cases c : v = s (nx (R k))
    · rw [if_pos c, hu k (by omega) c.symm]
    · rw [if_neg c]
      have : j0 ≠ k := fun q => c (by rw [← q]; exact h0.symm)
      exact lF_hit hv h0 k (by omega) (fun j hj => hu j (by omega))
theorem lF_miss {v : Nat} (hv : v ≠ p) : ∀ k, (∀ j, j < k → s (nx (R j)) ≠ v) → lF s lv R F p k v = lv v
  | 0, _ => rfl
  | k + 1, hu => by
    rw [lF_s, if_neg hv, if_neg (fun c => hu k (by omega) c.symm)]
    exact lF_miss hv k (fun j hj => hu j (by omega))
theorem lF_p (k : Nat) : lF s lv R F p (k + 1) p = 3 * F k + 2 := by rw [lF_s, if_pos rfl]
theorem tF_R (hR : ∀ i j, R i ≠ 3 * F j) : ∀ (k i : Nat), i < k → (∀ j, j < k → R j = R i → j = i) → tF tw R F k (R i) = 3 * F i
  | 0, i, h, _ => absurd h (Nat.not_lt_zero i)
  | k + 1, i, h, hu => by
    rw [tF_s]
    by_cases c : R i = R k
    · rw [if_pos c, hu k (by omega) c.symm]
    · rw [if_neg c, if_neg (hR i k)]
      have : i ≠ k := fun q => c (by rw [q])
      exact tF_R hR k i (by omega) (fun j hj => hu j (by omega))
theorem tF_F (hR : ∀ i j, R i ≠ 3 * F j) (hF : ∀ i j, F i = F j → i = j) : ∀ (k i : Nat), i < k → tF tw R F k (3 * F i) = R i
  | 0, i, h => absurd h (Nat.not_lt_zero i)
  | k + 1, i, h => by
    rw [tF_s, if_neg (fun q => hR k i q.symm)]
    by_cases c : 3 * F i = 3 * F k
    · rw [if_pos c, hF i k (by omega)]
    · rw [if_neg c]
      have : i ≠ k := fun q => c (by rw [q])
      exact tF_F hR hF k i (by omega)
theorem tF_o {e : Nat} : ∀ k, (∀ i, i < k → e ≠ R i ∧ e ≠ 3 * F i) → tF tw R F k e = tw e
  | 0, _ => rfl
  | k + 1, h => by
    rw [tF_s, if_neg (h k (by omega)).1, if_neg (h k (by omega)).2]
    exact tF_o k (fun i hi => h i (by omega))
theorem tG_o {K e : Nat} : ∀ k, (∀ i, i < k → e ≠ J i + 2 ∧ e ≠ 3 * F i + 1) → tG tw R F J K k e = tF tw R F K e
  | 0, _ => rfl
  | k + 1, h => by
    rw [tG_s, if_neg (h k (by omega)).1, if_neg (h k (by omega)).2]
    exact tG_o k (fun i hi => h i (by omega))
theorem tG_1 {K : Nat} (hJ : ∀ i j, J i + 2 ≠ 3 * F j + 1) (hF : ∀ i j, F i = F j → i = j) : ∀ (k i : Nat), i < k → tG tw R F J K k (3 * F i + 1) = J i + 2
  | 0, i, h => absurd h (Nat.not_lt_zero i)
  | k + 1, i, h => by
    rw [tG_s, if_neg (fun q => hJ k i q.symm)]
    by_cases c : 3 * F i + 1 = 3 * F k + 1
    · rw [if_pos c, hF i k (by omega)]
    · rw [if_neg c]
      have : i ≠ k := fun q => c (by rw [q])
      exact tG_1 hJ hF k i (by omega)
theorem tG_2 {K : Nat} (hJ : ∀ i j, J i + 2 ≠ 3 * F j + 1) : ∀ (k i : Nat), i < k → (∀ j, j < k → J j = J i → j = i) → tG tw R F J K k (J i + 2) = 3 * F i + 1
  | 0, i, h, _ => absurd h (Nat.not_lt_zero i)
  | k + 1, i, h, hu => by
    rw [tG_s]
    by_cases c : J i + 2 = J k + 2
    · rw [if_pos c, hu k (by omega) (by omega)]
    · rw [if_neg c, if_neg (hJ i k)]
      have : i ≠ k := fun q => c (by rw [q])
      exact tG_2 hJ k i (by omega) (fun j hj => hu j (by omega))
end
/-- the numbers of a list, by place -/
theorem getD_mem {l : List Nat} {i : Nat} (h : i < l.length) : l.getD i 0 ∈ l := by
  rw [List.getD_eq_getElem?_getD, List.getElem?_eq_getElem h]
  exact List.getElem_mem h
theorem getD_ex {l : List Nat} {x : Nat} (h : x ∈ l) : ∃ i, i < l.length ∧ l.getD i 0 = x := by
  obtain ⟨i, hi, q⟩ := List.getElem_of_mem h
  refine ⟨i, hi, ?_⟩
  rw [List.getD_eq_getElem?_getD, List.getElem?_eq_getElem hi]
  exact q
theorem getD_inj {l : List Nat} (hn : l.Nodup) {i j : Nat} (hi : i < l.length) (hj : j < l.length) (h : l.getD i 0 = l.getD j 0) : i = j := by
  rw [List.getD_eq_getElem?_getD, List.getD_eq_getElem?_getD, List.getElem?_eq_getElem hi, List.getElem?_eq_getElem hj] at h
  have h : l[i] = l[j] := h
  rcases Nat.lt_trichotomy i j with q | q | q
  · exact absurd h (List.pairwise_iff_getElem.mp hn i j hi hj q)
  · exact q
  · exact absurd h.symm (List.pairwise_iff_getElem.mp hn j i hj hi q)
section
variable {X Y : Nat → Int} {N G : Nat} {P : List Nat} {p m : Nat} {s tw lv : Nat → Nat} {T : Nat → Bool} {pl rl : List Nat}
/-- all about the new net -/
theorem new_net (hPts : Pts X Y N G P p) (h : NetD X Y G P m s tw) (hT : TKs X Y G p m s T) (hd : DUG T m tw pl rl) : ∃ nt : Nat → Nat,
    (∀ i, i < pl.length + 2 → nt i < pl.length + 2 ∧ lF s lv (fun i => rl.getD i 0) (Fm pl m) p (pl.length + 2) (s (rl.getD i 0)) = 3 * Fm pl m (nt i)) ∧ (∀ j, j < pl.length + 2 → ∃ i, i < pl.length + 2 ∧ nt i = j) ∧
    NetD X Y G (p :: P) (m + 2) (sF s (fun i => rl.getD i 0) (Fm pl m) p (pl.length + 2)) (tG tw (fun i => rl.getD i 0) (Fm pl m) (fun i => 3 * Fm pl m (nt i)) (pl.length + 2) (pl.length + 2)) := by
  obtain ⟨d1, d2, d3, d4, d5, d6⟩ := hd
  generalize hK : pl.length + 2 = K at *
  have hpl : ∀ t ∈ pl, t < m := fun t ht => ((d2 t).mp ht).1
  have hR : ∀ i, i < K → rl.getD i 0 < 3 * m ∧ T (rl.getD i 0 / 3) = false ∧ T (tw (rl.getD i 0) / 3) = true := fun i hi => (d4 _).mp (getD_mem (by omega))
  generalize hRR : (fun i => rl.getD i 0) = R at *
  have RR : ∀ i, rl.getD i 0 = R i := fun i => by rw [← hRR]
  simp only [RR] at hR ⊢
  have Ri : ∀ i, i < K → ∀ j, j < K → R i = R j → i = j := fun i hi j hj q => getD_inj d3 (by omega) (by omega) (by rw [RR, RR]; exact q)
  have Rs : ∀ r, r < 3 * m → T (r / 3) = false → T (tw r / 3) = true → ∃ i, i < K ∧ R i = r := fun r a b c => by
    obtain ⟨i, i1, i2⟩ := getD_ex ((d4 r).mpr ⟨a, b, c⟩)
    exact ⟨i, by omega, by rw [← RR]; exact i2⟩
  have W : ∀ i, i < K → tw (R i) < 3 * m ∧ tw (tw (R i)) = R i ∧ s (tw (R i)) = s (nx (R i)) ∧ s (nx (tw (R i))) = s (R i) := fun i hi => h.1 _ (hR i hi).1
  have nG : p ≠ G := (hPts.1 p List.mem_cons_self).2.2
  have inP : ∀ e, e < 3 * m → s e ≠ p := fun e he q => by
    have : s e = G ∨ s e ∈ P := by
      rcases h.2.1 e he with r | ⟨-, r⟩ | ⟨r, -⟩ | ⟨-, r⟩
      · exact Or.inr r.1
      · exact Or.inr r.1
      · exact Or.inl r
      · exact Or.inr r.2.1
    rcases this with r | r
    · exact nG (by rw [← q, r])
    · exact hPts.2.2.2.1 (q ▸ r)
  -- one behind the other
  have start1 : ∀ i, i < K → ∀ j, j < K → s (nx (R i)) = s (nx (R j)) → i = j := fun i hi j hj q => by
    have w1 := W i hi
    have w2 := W j hj
    have r1 := hR i hi
    have r2 := hR j hj
    have := rim_start hPts h hT w1.1 r1.2.2 (by rw [w1.2.1]; exact r1.2.1) w2.1 r2.2.2 (by rw [w2.2.1]; exact r2.2.1) (by rw [w1.2.2.1, w2.2.2.1]; exact q)
    exact Ri i hi j hj (by rw [← w1.2.1, this, w2.2.1])
  have end1 : ∀ i, i < K → ∀ j, j < K → s (R i) = s (R j) → i = j := fun i hi j hj q => by
    have w1 := W i hi
    have w2 := W j hj
    have r1 := hR i hi
    have r2 := hR j hj
    have := rim_end hPts h hT w1.1 r1.2.2 (by rw [w1.2.1]; exact r1.2.1) w2.1 r2.2.2 (by rw [w2.2.1]; exact r2.2.1) (by rw [w1.2.2.2, w2.2.2.2]; exact q)
    exact Ri i hi j hj (by rw [← w1.2.1, this, w2.2.1])
  have nextE : ∀ i, i < K → ∃ j, j < K ∧ s (nx (R j)) = s (R i) := by
    intro i hi
    have w1 := W i hi
    have r1 := hR i hi
    obtain ⟨e', g1, g2, g3, g4⟩ := rim_nextD (T := T) hPts h w1.1 r1.2.2 (by rw [w1.2.1]; exact r1.2.1)
    have w2 := h.1 e' g1
    obtain ⟨j, hj, q⟩ := Rs (tw e') w2.1 g3 (by rw [w2.2.1]; exact g2)
    exact ⟨j, hj, by rw [q, w2.2.2.2, g4, w1.2.2.2]⟩
  obtain ⟨nt, hnt⟩ : ∃ nt : Nat → Nat, ∀ i, i < K → nt i < K ∧ s (nx (R (nt i))) = s (R i) := ⟨fun i => if h : i < K then Classical.choose (nextE i h) else 0, fun i hi => by
    simp only [hi, dif_pos]
    exact Classical.choose_spec (nextE i hi)⟩
  have nti : ∀ i, i < K → ∀ j, j < K → nt i = nt j → i = j := fun i hi j hj q => end1 i hi j hj (by rw [← (hnt i hi).2, ← (hnt j hj).2, q])
  have ntp := range_perm (n := K) (g := nt) (fun i hi => (hnt i hi).1) nti
  have nts : ∀ j, j < K → ∃ i, i < K ∧ nt i = j := fun j hj => by
    have hjm : j ∈ (List.range K).map nt := ntp.mem_iff.mpr (List.mem_range.mpr hj)
    obtain ⟨i, hi, q⟩ := List.mem_map.mp hjm
    exact ⟨i, List.mem_range.mp hi, q⟩
  have Fi : ∀ i j, Fm pl m i = Fm pl m j → i = j := fun i j q => Fm_inj d1 hpl q
  refine ⟨nt, fun i hi => ⟨(hnt i hi).1, ?_⟩, nts, ?_⟩
  · exact lF_hit (inP _ (hR i hi).1) (hnt i hi).2 K (hnt i hi).1 (fun j hj q => start1 j hj _ (hnt i hi).1 (by rw [q, (hnt i hi).2]))
  -- the parts of the rim lie in no new triangle
  have Rn : ∀ i, i < K → ∀ j, R i / 3 ≠ Fm pl m j := fun i hi j => Fm_pl hpl (div3 (hR i hi).1) (fun q => by
    have := ((d2 _).mp q).2
    rw [(hR i hi).2.1] at this
    cases this)
  have new := sF_new (s := s) (R := R) (p := p) (F := Fm pl m) Fi K
  have FT : ∀ i, i < K → Fm pl m i < m + 2 ∧ (Fm pl m i < m → T (Fm pl m i) = true) := by
    intro i hi
    unfold Fm
    by_cases c : i < pl.length
    · rw [if_pos c]
      have := (d2 _).mp (getD_mem c)
      exact ⟨by omega, fun _ => this.2⟩
    · rw [if_neg c]
      exact ⟨by omega, fun _ => by omega⟩
  have Fs : ∀ t, t < m + 2 → (t < m → T t = true) → ∃ i, i < K ∧ Fm pl m i = t := by
    intro t ht hq
    by_cases c : t < m
    · obtain ⟨i, i1, i2⟩ := getD_ex ((d2 t).mpr ⟨c, hq c⟩)
      refine ⟨i, by omega, ?_⟩
      unfold Fm
      rw [if_pos i1]
      exact i2
    · refine ⟨pl.length + (t - m), by omega, ?_⟩
      unfold Fm
      rw [if_neg (by omega)]
      omega
  have ntK : ∀ i, i < K → nt i < K := fun i hi => (hnt i hi).1
  -- total versions
  have tFR : ∀ i, i < K → tF tw R (Fm pl m) K (R i) = 3 * Fm pl m i := by
    intro i hi
    have key : ∀ k, k ≤ K → i < k → tF tw R (Fm pl m) k (R i) = 3 * Fm pl m i := by
      intro k
      induction k with
      | zero => intro _ q; omega
      | succ k ih =>
        intro hk q
        rw [tF_s]
        by_cases c : R i = R k
        · rw [if_pos c, Ri i hi k (by omega) c]
        · have := Rn i hi k
          rw [if_neg c, if_neg (by omega)]
          have : i ≠ k := fun q => c (by rw [q])
          exact ih (by omega) (by omega)
    exact key K (Nat.le_refl _) hi
  have tFF : ∀ i, i < K → tF tw R (Fm pl m) K (3 * Fm pl m i) = R i := by
    intro i hi
    have key : ∀ k, k ≤ K → i < k → tF tw R (Fm pl m) k (3 * Fm pl m i) = R i := by
      intro k
      induction k with
      | zero => intro _ q; omega
      | succ k ih =>
        intro hk q
        have := Rn k (by omega) i
        rw [tF_s, if_neg (by omega)]
        by_cases c : 3 * Fm pl m i = 3 * Fm pl m k
        · rw [if_pos c, Fi i k (by omega)]
        · rw [if_neg c]
          have : i ≠ k := fun q => c (by rw [q])
          exact ih (by omega) (by omega)
    exact key K (Nat.le_refl _) hi
  refine insert_ok (T := T) (k := K) (E := fun i => tw (R i)) (F := Fm pl m) hPts h hT (fun i hi => ?_) (fun i hi j hj q => ?_) (fun e he a b => ?_) (by omega) FT Fs (fun i hi => ?_) (fun e he a => ?_) (fun i hi => ?_) (fun i hi j hj q => ?_) (fun e he a b => ?_)
  · have w := W i hi
    have r := hR i hi
    exact ⟨w.1, r.2.2, by rw [w.2.1]; exact r.2.1⟩
  · have w1 := W i hi
    have w2 := W j hj
    have q : tw (R i) = tw (R j) := q
    exact Ri i hi j hj (by rw [← w1.2.1, q, w2.2.1])
  · have w := h.1 e he
    obtain ⟨i, hi, q⟩ := Rs (tw e) w.1 b (by rw [w.2.1]; exact a)
    exact ⟨i, hi, by show tw (R i) = e; rw [q, w.2.1]⟩
  · have w := W i hi
    obtain ⟨n1, n2, n3⟩ := new i hi
    exact ⟨by rw [n1, w.2.2.1], by rw [n2, w.2.2.2], n3⟩
  · refine sF_old hpl he (fun q => ?_) K
    have := ((d2 _).mp q).2
    rw [a] at this
    cases this
  · have w := W i hi
    refine ⟨?_, ?_⟩
    · rw [tG_o K (fun k hk => ⟨by omega, by omega⟩), tFF i hi, w.2.1]
    · show tG tw R (Fm pl m) (fun i => 3 * Fm pl m (nt i)) K K (tw (tw (R i))) = _
      rw [w.2.1, tG_o K (fun k hk => ?_), tFR i hi]
      have r1 := Rn i hi k
      have r2 := Rn i hi (nt k)
      exact ⟨by omega, by omega⟩
  · have w1 := W i hi
    have w2 := W j hj
    have q : s (tw (R j)) = s (nx (tw (R i))) := q
    rw [w2.2.2.1, w1.2.2.2] at q
    have e1 : nt i = j := start1 _ (ntK i hi) j hj (by rw [(hnt i hi).2, q])
    refine ⟨?_, ?_⟩
    · rw [tG_1 (fun a b => by omega) Fi K i hi]
      show 3 * Fm pl m (nt i) + 2 = _
      rw [e1]
    · have := tG_2 (tw := tw) (R := R) (F := Fm pl m) (J := fun i => 3 * Fm pl m (nt i)) (K := K) (fun a b => by omega) K i hi (fun k hk q => nti k hk i hi (Fi _ _ (by omega)))
      rw [e1] at this
      exact this
  · have ne : ∀ j, e / 3 ≠ Fm pl m j := fun j => Fm_pl hpl (div3 he) (fun q => by
      have := ((d2 _).mp q).2
      rw [a] at this
      cases this)
    rw [tG_o K (fun k hk => ⟨by have := ne (nt k); omega, by have := ne k; omega⟩), tF_o K (fun k hk => ⟨fun q => ?_, by have := ne k; omega⟩)]
    have := (hR k hk).2.2
    rw [← q, b] at this
    cases this
end
