/-! A POINT MORE: insert -/
def GC (G m : Nat) (s : Nat → Nat) : Nat := (List.range m).countP (fun t => !sol G s t)
theorem cnt_list {l : List Nat} {K : Nat} {f T : Nat → Bool} (hn : l.Nodup) (h : ∀ t, t ∈ l ↔ t < K ∧ T t = true) : l.countP f = (List.range K).countP (fun t => f t && T t) := by
  have e1 : (List.range K).countP (fun t => f t && T t) = ((List.range K).filter T).countP f := by
    rw [List.countP_filter]
  rw [e1]
  refine List.Perm.countP_eq f (perm_of_sub l _ hn (fun x hx => ?_) ?_)
  · have := (h x).mp hx
    exact List.mem_filter.mpr ⟨List.mem_range.mpr this.1, this.2⟩
  · refine len_sub _ _ (List.Pairwise.filter _ List.nodup_range) (fun x hx => ?_)
    obtain ⟨a, b⟩ := List.mem_filter.mp hx
    exact (h x).mpr ⟨List.mem_range.mp a, b⟩
/-- ghosts before and after -/
theorem ghosts_new {G m p : Nat} {s R : Nat → Nat} {T : Nat → Bool} {pl : List Nat} (d1 : pl.Nodup) (d2 : ∀ t, t ∈ pl ↔ t < m ∧ T t = true) : GC G (m + 2) (sF s R (Fm pl m) p (pl.length + 2)) + pl.countP (fun t => !sol G s t) = GC G m s + gF G s R (Fm pl m) p (pl.length + 2) := by
  have hpl : ∀ t ∈ pl, t < m := fun t ht => ((d2 t).mp ht).1
  have Fi : ∀ i j, Fm pl m i = Fm pl m j → i = j := fun i j q => Fm_inj d1 hpl q
  generalize hK : pl.length + 2 = K
  have c1 := cnt_split (n := m) (fun t => !sol G s t) T
  have c2 := cnt_list (f := fun t => !sol G s t) d1 d2
  have same : ∀ t, t < m → T t = false → sol G (sF s R (Fm pl m) p K) t = sol G s t := by
    intro t ht h
    have nin : t ∉ pl := fun q => by
      have := ((d2 _).mp q).2
      rw [h] at this
      cases this
    unfold sol
    rw [sF_old hpl (show 3 * t < 3 * m by omega) (by rw [show 3 * t / 3 = t by omega]; exact nin), sF_old hpl (show 3 * t + 1 < 3 * m by omega) (by rw [show (3 * t + 1) / 3 = t by omega]; exact nin), sF_old hpl (show 3 * t + 2 < 3 * m by omega) (by rw [show (3 * t + 2) / 3 = t by omega]; exact nin)]
  have c3 : GC G (m + 2) (sF s R (Fm pl m) p K) = (List.range m).countP (fun t => !sol G s t && !T t) + (List.range K).countP (fun i => !sol G (sF s R (Fm pl m) p K) (Fm pl m i)) := by
    have pm : ((List.range m).filter (fun t => !T t) ++ (List.range K).map (Fm pl m)).Perm (List.range (m + 2)) := by
      have nd : ((List.range m).filter (fun t => !T t) ++ (List.range K).map (Fm pl m)).Nodup := by
        refine List.nodup_append.mpr ⟨List.Pairwise.filter _ List.nodup_range, ?_, fun x hx y hy => ?_⟩
        · exact List.pairwise_map.mpr (List.Pairwise.imp (fun {a b} (h : a ≠ b) q => h (Fi a b q)) List.nodup_range)
        · obtain ⟨a, b⟩ := List.mem_filter.mp hx
          obtain ⟨i, i1, i2⟩ := List.mem_map.mp hy
          rw [← i2]
          refine Fm_pl hpl (List.mem_range.mp a) (fun q => ?_)
          rw [((d2 _).mp q).2] at b
          cases b
      refine perm_of_sub _ _ nd (fun x hx => ?_) ?_
      · rcases List.mem_append.mp hx with hx | hx
        · have := List.mem_range.mp (List.mem_filter.mp hx).1
          exact List.mem_range.mpr (by omega)
        · obtain ⟨i, i1, i2⟩ := List.mem_map.mp hx
          have i1 := List.mem_range.mp i1
          have := Fm_lt hpl i
          unfold mC at this
          exact List.mem_range.mpr (by omega)
      · have a1 := cnt_split (n := m) (fun _ => true) T
        have a2 := cnt_list (f := fun _ => true) d1 d2
        have a3 : pl.countP (fun _ => true) = pl.length := by simp
        have a4 : (List.range m).countP (fun _ => true) = m := by simp
        have a5 : ((List.range m).filter (fun t => !T t)).length = (List.range m).countP (fun e => true && !T e) := by
          rw [List.countP_eq_length_filter]
          simp
        simp only [List.length_append, List.length_map, List.length_range]
        omega
    unfold GC
    rw [← List.Perm.countP_eq _ pm, List.countP_append, List.countP_filter, List.countP_map]
    congr 1
    refine cnt_congr (fun t ht => ?_)
    cases hT : T t with
    | true => simp
    | false => rw [same t ht hT]
  have c4 : gF G s R (Fm pl m) p K = (List.range K).countP (fun i => !sol G (sF s R (Fm pl m) p K) (Fm pl m i)) := by
    unfold gF
    refine cnt_congr (fun i hi => ?_)
    have n1 := sF_new (s := s) (R := R) (p := p) (F := Fm pl m) Fi (i + 1) i (by omega)
    have n2 := sF_new (s := s) (R := R) (p := p) (F := Fm pl m) Fi K i hi
    unfold sol
    rw [n1.1, n1.2.1, n1.2.2, n2.1, n2.2.1, n2.2.2]
  unfold GC at *
  omega
/-- rows have room for n points -/
def Rm (S : St) (n : Nat) : Prop := Cap S 6 n ∧ Cap S 7 n ∧ Cap S 8 (6 * n) ∧ Cap S 9 (6 * n) ∧ Cap S 10 (n + 1) ∧ Cap S 11 (2 * n) ∧ Cap S 12 (2 * n) ∧ Cap S 13 (2 * n) ∧ Cap S 14 (2 * n) ∧ Cap S 15 (2 * n) ∧ Cap S 16 (n + 1) ∧ Cap S 17 n
theorem Cap.of {S T : St} (h : T.2.2.1 = S.2.2.1) {k c : Nat} (hc : Cap S k c) : Cap T k c := by
  unfold Cap at *
  have e1 : ∀ k, gn T k = gn S k := fun k => by show T.2.2.1 k = S.2.2.1 k; rw [h]
  simp only [e1]
  exact hc
theorem Rm.of {S T : St} (h : T.2.2.1 = S.2.2.1) {n : Nat} (hr : Rm S n) : Rm T n := by
  obtain ⟨a, b, c, d, e, f, g, i, j, k, l, m⟩ := hr
  exact ⟨a.of h, b.of h, c.of h, d.of h, e.of h, f.of h, g.of h, i.of h, j.of h, k.of h, l.of h, m.of h⟩
/-- the marks: none is above the last -/
def MK (S : St) (mk : Nat) : Prop := gi S 5 = nI mk ∧ ∀ t, ∃ v, v ≤ mk ∧ ga S 11 t = nI v
/-- the net of the points P -/
def NI (S : St) (X Y : Nat → Int) (G n m : Nat) (s tw lv : Nat → Nat) (P : List Nat) : Prop :=
  NV S m G s tw ∧ NetD X Y G P m s tw ∧ LV S G n m s P lv ∧ gi S 7 = nI (GC G m s) ∧ m + 2 = 2 * P.length
/-- what a point more leaves as it was -/
def frI (S T : St) : Prop := (∀ k, k < 5 ∨ 9 < k → gi T k = gi S k) ∧ T.2.1 0 = S.2.1 0 ∧ T.2.2.1 = S.2.2.1 ∧ ∀ k, k < 8 ∨ 13 < k → ga T k = ga S k
theorem frI.trans {S T R : St} (h : frI S T) (g : frI T R) : frI S R := ⟨fun k a => (g.1 k a).trans (h.1 k a), g.2.1.trans h.2.1, g.2.2.1.trans h.2.2.1, fun k a => (g.2.2.2 k a).trans (h.2.2.2 k a)⟩
theorem frI.pv {S T : St} (h : frI S T) {n : Nat} {X Y : Nat → Int} (hp : PV S n X Y) : PV T n X Y := by
  refine ⟨hp.1.of h.2.2.1, hp.2.1.of h.2.2.1, ?_, hp.2.2.2⟩
  rw [h.2.2.2 6 (by decide), h.2.2.2 7 (by decide)]
  exact hp.2.2.1
section
variable {S : St} {X Y : Nat → Int} {N G n m mk p : Nat} {s tw lv : Nat → Nat} {P : List Nat}
theorem hold_taken {TK : Nat → Bool} (hPts : Pts X Y N G P p) (hD : NetD X Y G P m s tw) (hT : TKs X Y G p m s TK) {e : Nat} (he : e < 3 * m) (h : HoldR X Y G m s p e) : TK (e / 3) = true := by
  rcases h with ⟨hs, h⟩ | ⟨hs, g, g1, g2, g3, g4, g5⟩
  · refine (tk_solid hPts hD hT he hs).mp ?_
    have so := hD.solid he hs
    have n1 := nx_lt he
    have n2 := nx_lt n1
    have h1 := h e he rfl
    have h2 := h (nx e) n1 (nx_div e)
    have h3 := h (nx (nx e)) n2 (by rw [nx_div, nx_div])
    rw [nx3] at h3
    have inn := fun {i} (hi : i ∈ P) => hPts.1 i (List.mem_cons_of_mem _ hi)
    have ip := hPts.1 p List.mem_cons_self
    have dp := fun {i} (hi : i ∈ P) => hPts.2.1 p List.mem_cons_self i (List.mem_cons_of_mem _ hi) (fun q => hPts.2.2.2.1 (q ▸ hi))
    exact in_taken (N := N) ⟨(inn so.1).2.1, (inn so.2.1).2.1, (inn so.2.2.1).2.1, ip.2.1⟩ (inn so.1).1 (inn so.2.1).1 (inn so.2.2.1).1 ip.1 (dp so.1) (dp so.2.1) (dp so.2.2.1) so.2.2.2.2.2.2.1 h1 h2 h3
  · have o := NetD.outer hPts.old hD g1 g3 g4 (by rw [g2]; exact hs)
    have q := tk_outer hPts.old hD hT (nx_lt (nx_lt g1)) o.1
    rw [nx3, nx_div, nx_div, g2] at q
    exact q.mp (Or.inl g5)
/-- every edge starts at the ghost or at a point -/
theorem NetD.at (hD : NetD X Y G P m s tw) {e : Nat} (he : e < 3 * m) : s e = G ∨ s e ∈ P := by
  rcases hD.2.1 e he with r | ⟨-, r⟩ | ⟨r, -⟩ | ⟨-, r⟩
  · exact Or.inr r.1
  · exact Or.inr r.1
  · exact Or.inl r
  · exact Or.inr r.2.1
theorem f_insert (hI : NI S X Y G n m s tw lv P) (hM : MK S mk) (hP : PV S n X Y) (hR : Rm S n) (hPts : Pts X Y N G P p) (hPn : ∀ i ∈ p :: P, i < n) (hmk : mk < 900000000) {near : Nat} (hnear : near ∈ P) :
    ∃ T s' tw' lv', f_Nt_insert (nI p) (nI near) S = some T ∧ NI T X Y G n (m + 2) s' tw' lv' (p :: P) ∧ MK T (mk + 1) ∧ frI S T := by
  obtain ⟨hN, hD, hL, h7, hm⟩ := hI
  have hn := hP.2.2.2
  have pn := hPn p List.mem_cons_self
  have hF := FU_big
  have hlen : P.length + 1 ≤ n := by
    have := len_cnt (K := n) (f := fun _ => true) (l := p :: P) (List.nodup_cons.mpr ⟨hPts.2.2.2.1, hPts.2.2.1⟩) (fun x hx => ⟨hPn x hx, rfl⟩)
    simp at this
    exact this
  have hPn' : ∀ i ∈ P, i < n := fun i hi => hPn i (List.mem_cons_of_mem _ hi)
  obtain ⟨e, e1, e2, e3⟩ := f_holder (p := p) hN hP hPts.old hPn' hD hL hnear (hP.inP pn) (hP.2.2.1 p pn).1 (hP.2.2.1 p pn).2.1
  unfold f_Nt_insert f_Nt_insert_0
  rw [f_xp hP pn, bd_s]
  dsimp only
  rw [f_yp hP pn, bd_s]
  dsimp only
  rw [e3, bd_s]
  dsimp only
  rw [i32_div3 (hN.small e1)]
  have cls : ∀ t, Decidable (takenD X Y G p (s (3 * t)) (s (3 * t + 1)) (s (3 * t + 2))) := fun t => Classical.propDecidable _
  obtain ⟨TK, hTK⟩ : ∃ TK : Nat → Bool, ∀ t, TK t = true ↔ takenD X Y G p (s (3 * t)) (s (3 * t + 1)) (s (3 * t + 2)) := ⟨fun t => @decide _ (cls t), fun t => @decide_eq_true_iff _ (cls t)⟩
  have hT : TKs X Y G p m s TK := fun t _ => hTK t
  have root := hold_taken hPts hD hT e1 e2
  -- digging
  unfold f_Nt_dig f_Nt_dig_0
  rw [bn_s, bn_s, bn_s]
  generalize hS0 : seti (seti (seti S 5 (gi S 5 + 1)) 8 0) 9 0 = S0
  have i0 : ∀ k, k ≠ 5 → k ≠ 8 → k ≠ 9 → gi S0 k = gi S k := fun k a b c => by rw [← hS0, gi_seti_ne _ _ c, gi_seti_ne _ _ b, gi_seti_ne _ _ a]
  have i5 : gi S0 5 = nI (mk + 1) := by rw [← hS0, gi_seti_ne _ _ (by decide), gi_seti_ne _ _ (by decide), gi_seti, hM.1, nI_1]
  have i8 : gi S0 8 = 0 := by rw [← hS0, gi_seti_ne _ _ (by decide), gi_seti]
  have i9 : gi S0 9 = 0 := by rw [← hS0, gi_seti]
  have a0 : ∀ k, ga S0 k = ga S k := fun k => by rw [← hS0]; rfl
  have n0 : S0.2.2.1 = S.2.2.1 := by rw [← hS0]; rfl
  have l0 : S0.2.1 = S.2.1 := by rw [← hS0]; rfl
  have hN0 : NV S0 m G s tw := by
    obtain ⟨a, b, c, d, f, g, i, j⟩ := hN
    exact ⟨by rw [i0 4 (by decide) (by decide) (by decide)]; exact a, by rw [i0 6 (by decide) (by decide) (by decide)]; exact b, c, d, f.of n0, g.of n0, by rw [a0]; exact i, by rw [a0]; exact j⟩
  have hP0 : PV S0 n X Y := ⟨hP.1.of n0, hP.2.1.of n0, by rw [a0, a0]; exact hP.2.2.1, hn⟩
  have hR0 := hR.of n0
  have hC : HC S0 X Y N G n m (2 * n) (mk + 1) p s tw P TK := ⟨hN0, hP0, hPts, hPn, hD, hT, i5, hR0.2.2.2.2.2.1, hR0.2.2.2.2.2.2.1, hR0.2.2.2.2.2.2.2.1, by omega, e / 3, div3 e1, root⟩
  obtain ⟨T1, pl, rl, dI, dg, q1⟩ := f_dig (out := GC G m s) hC (fun t => by
    obtain ⟨v, v1, v2⟩ := hM.2 t
    exact ⟨v, by omega, by rw [a0]; exact v2⟩) (by omega) i8 i9 (by rw [i0 7 (by decide) (by decide) (by decide)]; exact h7) (div3 e1) root
  rw [q1, bd_s]
  obtain ⟨fr, t8, t9, t12, t13, -, -, tm, t7, tM⟩ := dI
  obtain ⟨nt, ntl, nts, newN⟩ := new_net (lv := lv) hPts hD hT dg
  obtain ⟨g1, g2, g3, g4, g5, g6⟩ := id dg
  have hpl : ∀ t ∈ pl, t < m := fun t ht => ((g2 t).mp ht).1
  -- filling
  have nT1 : T1.2.2.1 = S.2.2.1 := by rw [fr.2.2.1, n0]
  have hR1 := hR.of nT1
  have H0 : F0H T1 G n m (2 * n) p s tw lv (fun i => rl.getD i 0) P pl := by
    refine ⟨?_, hN.2.2.1, hn, by omega, by omega, hR1.2.2.1.le (by omega), hR1.2.2.2.1.le (by omega), hR1.2.2.2.2.1, hR1.2.2.2.2.2.2.1, hR1.2.2.2.2.2.2.2.1, t8, ?_, pn, (hPts.1 p List.mem_cons_self).2.2, hPts.2.2.2.1, hPn', g6, hpl, fun k hk => ?_, fun e he => ⟨(hN.2.2.2.2.2.2.1 e he).2, hD.at he⟩⟩
    · rw [fr.1 4 (by decide) (by decide) (by decide)]; exact hN0.1
    · rw [t9, g5]
    · have hk2 : k < rl.length := by omega
      have mem := getD_mem hk2
      have r := (g4 _).mp mem
      refine ⟨?_, r.1, fun q => ?_⟩
      · rw [t13 k hk2]
        show nI rl[k] = nI (rl.getD k 0)
        rw [List.getD_eq_getElem?_getD, List.getElem?_eq_getElem hk2]
        rfl
      · have := ((g2 _).mp q).2
        rw [r.2.1] at this
        cases this
  have F0 : FI T1 T1 G m p s tw lv (fun i => rl.getD i 0) P pl 0 := by
    refine ⟨⟨fun _ _ _ => rfl, rfl, rfl, fun _ _ _ _ _ => rfl⟩, ?_, ?_, fun e he => ?_, fun e he => ?_, fun v hv => ?_, fun i hi => ?_⟩
    · rw [fr.1 6 (by decide) (by decide) (by decide), hN0.2.1]
      unfold mC
      congr 1
      omega
    · show gi T1 7 = gi T1 7 + nI 0
      rw [show nI 0 = 0 from rfl, Int32.add_zero]
    · rw [fr.2.2.2 8 (by decide) (by decide) (by decide)]
      exact (hN0.2.2.2.2.2.2.1 e (by unfold mC at he; omega)).1
    · rw [fr.2.2.2 9 (by decide) (by decide) (by decide)]
      rcases he with he | ⟨i, hi, -⟩
      · exact (hN0.2.2.2.2.2.2.2 e he).1
      · omega
    · rw [fr.2.2.2 10 (by decide) (by decide) (by decide), a0]
      rcases hv with hv | ⟨-, hv⟩
      · rcases List.mem_cons.mp hv with hv | hv
        · subst hv
          unfold plc
          rw [if_pos rfl]
          exact hL.2.2.1
        · have := hL.2.1 v hv
          unfold plc
          rw [if_neg (hPts.old.1 v hv).2.2]
          exact this.1
      · omega
    · rcases hi with hi | hi
      · omega
      · rw [t12 i hi]
        unfold Fm
        rw [if_pos hi, List.getD_eq_getElem?_getD, List.getElem?_eq_getElem hi]
        rfl
  unfold f_Nt_fill f_Nt_fill_0
  obtain ⟨T2, u1, u2⟩ := fill_first H0 (pl.length + 2) FU 0 T1 (by omega) (by omega) F0
  have u2' : f_Nt_fill_2 FU (nI p) 0 T1 = f_Nt_fill_116 FU 0 T2 := u2
  rw [u2']
  have G0 : GI T1 T2 G m p s tw lv (fun i => rl.getD i 0) (fun i => 3 * Fm pl m (nt i)) P pl 0 := by
    obtain ⟨w0, w1, w2, w3, w4, w5, w6⟩ := u1
    refine ⟨w0, ?_, w2, fun e he => w3 e (by unfold mC; omega), fun e he => ?_, fun v hv => w5 v ?_, fun j hj => w6 j (Or.inl hj)⟩
    · rw [w1]; unfold mC; congr 1; omega
    · rcases he with he | he | ⟨j, hj, -⟩
      · exact w4 e (Or.inl he)
      · exact w4 e (Or.inr he)
      · omega
    · rcases hv with hv | hv
      · exact Or.inl hv
      · exact Or.inr ⟨hv, by omega⟩
  obtain ⟨T3, v1, v2⟩ := fill_second H0 g1 (J := fun i => 3 * Fm pl m (nt i)) (fun i hi => ⟨(ntl i hi).2, by
    have h1 := (ntl i hi).1
    have := Fm_lt hpl (nt i)
    unfold mC at this
    show 3 * Fm pl m (nt i) + 2 < 3 * (m + 2)
    omega⟩) (pl.length + 2) FU 0 T2 (by omega) (by omega) G0
  have v2' : f_Nt_fill_116 FU 0 T2 = some T3 := v2
  rw [v2', bd_s]
  obtain ⟨y0, y1, y2, y3, y4, y5, y6⟩ := v1
  have nT3 : T3.2.2.1 = S.2.2.1 := by rw [y0.2.2.1, nT1]
  have hR3 := hR.of nT3
  have Pts' := hPts.new
  have Fi : ∀ i j, Fm pl m i = Fm pl m j → i = j := fun i j q => Fm_inj g1 hpl q
  have new := sF_new (s := s) (R := fun i => rl.getD i 0) (p := p) (F := Fm pl m) Fi (pl.length + 2)
  have Flt : ∀ i, i < pl.length + 2 → Fm pl m i < m + 2 := fun i hi => by
    have := Fm_lt hpl i
    unfold mC at this
    omega
  have lvk : ∀ v, v ∈ G :: P ∨ v = p → lF s lv (fun i => rl.getD i 0) (Fm pl m) p (pl.length + 2) v < 3 * (m + 2) ∧ sF s (fun i => rl.getD i 0) (Fm pl m) p (pl.length + 2) (lF s lv (fun i => rl.getD i 0) (Fm pl m) p (pl.length + 2) v) = v := by
    intro v hv
    by_cases c : v = p
    · subst c
      have f1 := Flt (pl.length + 1) (by omega)
      rw [lF_p]
      exact ⟨by omega, (new (pl.length + 1) (by omega)).2.2⟩
    · have hv : v ∈ G :: P := hv.resolve_right c
      have old : lv v < 3 * m ∧ s (lv v) = v := by
        rcases List.mem_cons.mp hv with q | q
        · subst q; exact hL.2.2.2
        · exact (hL.2.1 v q).2
      by_cases hit : ∃ j, j < pl.length + 2 ∧ s (nx (rl.getD j 0)) = v
      · obtain ⟨j, hj, q⟩ := hit
        have u : ∀ i, i < pl.length + 2 → s (nx (rl.getD i 0)) = v → i = j := fun i hi qi => by
          have ri := (g4 _).mp (getD_mem (l := rl) (i := i) (by omega))
          have rj := (g4 _).mp (getD_mem (l := rl) (i := j) (by omega))
          have wi := hD.1 _ ri.1
          have wj := hD.1 _ rj.1
          have := rim_start hPts hD hT wi.1 ri.2.2 (by rw [wi.2.1]; exact ri.2.1) wj.1 rj.2.2 (by rw [wj.2.1]; exact rj.2.1) (by rw [wi.2.2.1, wj.2.2.1, q, qi])
          exact getD_inj g3 (by omega) (by omega) (by rw [← wi.2.1, this, wj.2.1])
        rw [lF_hit (R := fun i => rl.getD i 0) c q (pl.length + 2) hj u]
        have f1 := Flt j hj
        exact ⟨by omega, by rw [(new j hj).1]; exact q⟩
      · have miss : ∀ j, j < pl.length + 2 → s (nx (rl.getD j 0)) ≠ v := fun j hj q => hit ⟨j, hj, q⟩
        rw [lF_miss (R := fun i => rl.getD i 0) c (pl.length + 2) miss]
        refine ⟨by omega, ?_⟩
        rw [sF_old hpl old.1 (fun q => ?_)]
        · exact old.2
        · obtain ⟨e', k1, k2, k3, k4⟩ := rim_atD hPts hD hT old.1 ((g2 _).mp q).2
          have w := hD.1 e' k1
          obtain ⟨j, hj, qj⟩ := getD_ex ((g4 (tw e')).mpr ⟨w.1, k3, by rw [w.2.1]; exact k2⟩)
          refine miss j (by omega) ?_
          rw [qj, w.2.2.2, k4]
          exact old.2
  refine ⟨T3, _, _, lF s lv (fun i => rl.getD i 0) (Fm pl m) p (pl.length + 2), rfl, ⟨⟨?_, y1, hN.2.2.1, by omega, hR3.2.2.1.le (by omega), hR3.2.2.2.1.le (by omega), fun e he => ⟨y3 e he, ?_⟩, fun e he => ⟨y4 e ?_, (newN.1 e he).1⟩⟩, newN, ⟨hR3.2.2.2.2.1, fun v hv => ?_, ?_⟩, ?_, by rw [List.length_cons]; omega⟩, ⟨?_, fun t => ?_⟩, ⟨fun k hk => ?_, ?_, nT3, fun k hk => ?_⟩⟩
  · rw [y0.1 4 (by decide) (by decide), fr.1 4 (by decide) (by decide) (by decide)]; exact hN0.1
  · rcases newN.at he with q | q
    · rw [q]; exact hN.2.2.1
    · have := hPn _ q; omega
  · by_cases c : e < 3 * m
    · exact Or.inl c
    · have hj : ∃ j, j < pl.length + 2 ∧ Fm pl m j = e / 3 := by
        refine ⟨pl.length + (e / 3 - m), by omega, ?_⟩
        unfold Fm
        rw [if_neg (by omega)]
        omega
      obtain ⟨j, hj, q⟩ := hj
      rcases edge3 e with r | r | r
      · exact Or.inr (Or.inl ⟨j, hj, by rw [q]; exact r⟩)
      · exact Or.inr (Or.inr ⟨j, hj, Or.inl (by rw [q]; exact r)⟩)
      · obtain ⟨i, hi, q2⟩ := nts j hj
        exact Or.inr (Or.inr ⟨i, hi, Or.inr (by show e = 3 * Fm pl m (nt i) + 2; rw [q2, q]; exact r)⟩)
  · have k := lvk v ((List.mem_cons.mp hv).elim Or.inr (fun q => Or.inl (List.mem_cons_of_mem _ q)))
    refine ⟨?_, k⟩
    have := y5 v ((List.mem_cons.mp hv).elim Or.inr (fun q => Or.inl (List.mem_cons_of_mem _ q)))
    unfold plc at this
    rw [if_neg (Pts'.1 v hv).2.2] at this
    exact this
  · have k := lvk G (Or.inl List.mem_cons_self)
    refine ⟨?_, k⟩
    have := y5 G (Or.inl List.mem_cons_self)
    unfold plc at this
    rw [if_pos rfl] at this
    exact this
  · have gn := ghosts_new (G := G) (p := p) (s := s) (R := fun i => rl.getD i 0) g1 g2
    have cl : pl.countP (fun t => !sol G s t) ≤ GC G m s := by
      rw [cnt_list (f := fun t => !sol G s t) g1 g2]
      have := cnt_split (n := m) (fun t => !sol G s t) TK
      unfold GC
      omega
    rw [y2, t7, nI_sub cl, nI_add]
    congr 1
    omega
  · rw [y0.1 5 (by decide) (by decide), fr.1 5 (by decide) (by decide) (by decide)]; exact i5
  · rw [y0.2.2.2 11 (by decide) (by decide) (by decide) (by decide)]
    exact tM t
  · rw [y0.1 k (by omega) (by omega), fr.1 k (by omega) (by omega) (by omega)]
    exact i0 k (by omega) (by omega) (by omega)
  · rw [y0.2.1, fr.2.1, l0]
  · rw [y0.2.2.2 k (by omega) (by omega) (by omega) (by omega), fr.2.2.2 k (by omega) (by omega) (by omega)]
    exact a0 k
end
