/-! LOCATE: the call -/
section
variable {S Sc Sm T Tm Tm' : St} {n G stp : Nat} {X Y X' Y' : Nat → Int} {L : List (Nat × Nat × Nat)}
theorem frFd.ms (f : frFd Tm Tm') (h : MS Tm X Y G n) : MS Tm' X Y G n := by
  have i : ∀ k, gi Tm' k = gi Tm k := fun k => by show Tm'.1 k = Tm.1 k; rw [f.1]
  exact ⟨h.1.of (i 2) f.2.1 (f.2.2 1 (by decide)) (f.2.2 2 (by decide)), by rw [i]; exact h.2.1, h.2.2.of (fun k _ _ => i k) (fun k a b => f.2.2 k (by omega))⟩
theorem InvD.fnd (hI : InvD stp Sc Sm X Y G n) (hs : stp < 512) (f : frX Sc T) (hM : MS Tm X Y G n) (fm : frFd Tm Tm') (e0 : ga T 30 0 = ga Tm' 11 0) (e1 : ga T 30 1 = ga Tm' 11 1) (e2 : ga T 30 2 = ga Tm' 11 2) : InvD (stp + 1) T Tm' X Y G n := by
  obtain ⟨hC, h5, hR, hO, -, -⟩ := hI
  have i : ∀ k, gi T k = gi Sc k := fun k => by show T.1 k = Sc.1 k; rw [f.1]
  refine ⟨(f.a.cs hC).more, by omega, ?_, ?_, fm.ms hM, fun k hk => ?_⟩
  · unfold RO at hR ⊢
    rw [i 10, f.2.2.2 14 (by decide), f.2.2.2 8 (by decide)]
    exact hR
  · unfold OLC at hO ⊢
    rw [i 12, i 11, f.2.2.2 17 (by decide)]
    exact hO
  · have : k = 0 ∨ k = 1 ∨ k = 2 := by omega
    rcases this with rfl | rfl | rfl
    · exact e0
    · exact e1
    · exact e2
theorem PV.eqv (h : PV S n X Y) (he : ∀ i, i < n → eqP X Y X' Y' i) : PV S n X' Y' := by
  refine ⟨h.1, h.2.1, fun i hi => ?_, h.2.2.2⟩
  have q := h.2.2.1 i hi
  have e := he i hi
  unfold eqP at e
  unfold inR at q ⊢
  rw [e.1, e.2]
  exact q
theorem MP.eqv (h : MP S n X Y) (he : ∀ i, i < n → eqP X Y X' Y' i) : MP S n X' Y' := by
  refine ⟨h.1, h.2.1, h.2.2.1, fun i hi => ?_⟩
  have q := h.2.2.2 i hi
  have e := he i hi
  unfold eqP at e
  unfold inR at q ⊢
  rw [e.1, e.2]
  exact q
theorem TRI.eqv (h : TRI X Y n L) (he : ∀ i, i < n → eqP X Y X' Y' i) : TRI X' Y' n L := by
  have he' : ∀ i, i < n → eqP X' Y' X Y i := fun i hi => ⟨(he i hi).1.symm, (he i hi).2.symm⟩
  refine ⟨h.1, fun t => ?_⟩
  rw [h.2]
  constructor
  · rintro ⟨q1, q2⟩
    exact ⟨solid_congr (fun i hi => he i (List.mem_range.mp hi)) q1, q2⟩
  · rintro ⟨q1, q2⟩
    exact ⟨solid_congr (fun i hi => he' i (List.mem_range.mp hi)) q1, q2⟩
theorem DN.eqv (h : DN X Y n) (he : ∀ i, i < n → eqP X Y X' Y' i) : DN X' Y' n := by
  intro i hi j hj hij q
  have a := he i hi
  have b := he j hj
  unfold eqP at a b
  exact h i hi j hj hij ⟨by rw [← a.1, ← b.1]; exact q.1, by rw [← a.2, ← b.2]; exact q.2⟩
theorem LIN.eqv (h : LIN X Y n) (he : ∀ i, i < n → eqP X Y X' Y' i) : LIN X' Y' n := by
  intro i hi j hj k hk
  rw [gO_congr (he i hi) (he j hj) (he k hk)]
  exact h i hi j hj k hk
/-- the reference's answer, when the place is no point -/
theorem ref_loc (hM : MS Tm X Y G n) {p : Nat} (hy' : KY Tm X' Y' n L) (hL : TRI X' Y' n L) {x y : Int32} (hxy : inP x.toInt y.toInt) (hx : x.toInt = X' p) (hy : y.toInt = Y' p) : ((∀ a b, a < n → b < n → ¬ PS X' Y' n L p a b) → (∀ t ∈ L, ¬ INS X' Y' p t) → ∃ Tm', f_Md_locate_46 FU x y 0 Tm = some (0, Tm') ∧ frFd Tm Tm' ∧ ga Tm' 11 0 = -1 ∧ ga Tm' 11 1 = -1 ∧ ga Tm' 11 2 = -1) ∧ (∀ u v, u ≠ v → u < n → v < n → PS X' Y' n L p u v → PS X' Y' n L p v u → (∀ a b, a < n → b < n → PS X' Y' n L p a b → (a = u ∧ b = v) ∨ (a = v ∧ b = u)) → ∃ Tm', f_Md_locate_46 FU x y 0 Tm = some (2, Tm') ∧ frFd Tm Tm' ∧ ga Tm' 11 0 = nI (min u v) ∧ ga Tm' 11 1 = nI (max u v) ∧ ga Tm' 11 2 = -1) ∧ (∀ t, t ∈ L → (∀ a b, a < n → b < n → ¬ PS X' Y' n L p a b) → INS X' Y' p t → (∀ t' ∈ L, INS X' Y' p t' → t' = t) → ∃ Tm', f_Md_locate_46 FU x y 0 Tm = some (1, Tm') ∧ frFd Tm Tm' ∧ ga Tm' 11 0 = nI t.1 ∧ ga Tm' 11 1 = nI t.2.1 ∧ ga Tm' 11 2 = nI t.2.2) := by
  have hF := FU_big
  have hn := hM.1.2.1
  have l11 := hM.1.2.2.1.2.2.2.2.2.2.2.2.2.2
  have hl := hy'.2.2.2.1
  have hLn : ∀ t ∈ L, t.1 < n ∧ t.2.1 < n ∧ t.2.2 < n := fun t ht => by
    have q := ((hL.2 t).mp ht).1
    exact ⟨List.mem_range.mp q.1, List.mem_range.mp q.2.1, List.mem_range.mp q.2.2.1⟩
  refine ⟨fun h1 h2 => ?_, fun u v huv hu hv p1 p2 hu2 => ?_, fun t ht h1 h2 h3 => ?_⟩
  · have r1 := outer_no hy' hxy hx hy h1 n FU 0 (by omega) (by omega)
    have r2 := tri_no hy' hLn hxy hx hy h2 L.length FU 0 (by omega) (by omega)
    have r1 : f_Md_locate_46 FU x y 0 Tm = f_Md_locate_120 FU x y 0 Tm := r1
    have r2 : f_Md_locate_120 FU x y 0 Tm = bd (f_Md_found 0 (-1) (-1) (-1) Tm) (fun q => some (q.1, q.2)) := r2
    obtain ⟨Tm', t1, t2, t3, t4, t5⟩ := m_found l11 0 (-1) (-1) (-1)
    rw [r1, r2, t1, bd_s]
    exact ⟨Tm', rfl, t2, t3, t4, t5⟩
  · have go : ∀ a0 b0, a0 < b0 → b0 < n → PS X' Y' n L p a0 b0 → (∀ a b, a < n → b < n → PS X' Y' n L p a b → (a = a0 ∧ b = b0) ∨ (a = b0 ∧ b = a0)) → ∃ Tm', f_Md_locate_46 FU x y 0 Tm = some (2, Tm') ∧ frFd Tm Tm' ∧ ga Tm' 11 0 = nI a0 ∧ ga Tm' 11 1 = nI b0 ∧ ga Tm' 11 2 = -1 := by
      intro a0 b0 hab hb0 hps hun
      have r1 := outer_yes hy' hxy hx hy hab hb0 hps hun a0 FU 0 (by omega) (by omega)
      have r1 : f_Md_locate_46 FU x y 0 Tm = bd (f_Md_found 2 (nI a0) (nI b0) (-1) Tm) (fun q => some (q.1, q.2)) := r1
      obtain ⟨Tm', t1, t2, t3, t4, t5⟩ := m_found l11 2 (nI a0) (nI b0) (-1)
      rw [r1, t1, bd_s]
      exact ⟨Tm', rfl, t2, t3, t4, t5⟩
    rcases Nat.lt_trichotomy u v with q | q | q
    · rw [Nat.min_eq_left (by omega), Nat.max_eq_right (by omega)]
      exact go u v q hv p1 hu2
    · exact absurd q huv
    · rw [Nat.min_eq_right (by omega), Nat.max_eq_left (by omega)]
      exact go v u q hu p2 (fun a b ha hb w => (hu2 a b ha hb w).symm)
  · obtain ⟨i0, hi0, e0⟩ := List.getElem_of_mem ht
    have ndL : L.Nodup := hL.1.imp (fun {a b} hab e => by rw [e] at hab; exact lex3_as _ _ hab hab)
    have r1 := outer_no hy' hxy hx hy h1 n FU 0 (by omega) (by omega)
    have r2 := tri_yes hy' hLn hxy hx hy hi0 e0 h2 ndL h3 i0 FU 0 (by omega) (by omega)
    have r1 : f_Md_locate_46 FU x y 0 Tm = f_Md_locate_120 FU x y 0 Tm := r1
    have r2 : f_Md_locate_120 FU x y 0 Tm = bd (f_Md_found 1 (nI t.1) (nI t.2.1) (nI t.2.2) Tm) (fun q => some (q.1, q.2)) := r2
    obtain ⟨Tm', t1, t2, t3, t4, t5⟩ := m_found l11 1 (nI t.1) (nI t.2.1) (nI t.2.2)
    rw [r1, r2, t1, bd_s]
    exact ⟨Tm', rfl, t2, t3, t4, t5⟩
theorem ok_locate : ok2 Inv h_locate f_Md_locate := by
  intro stp Sc Sm x y v hs ⟨X, Y, G, n, hI⟩
  have hI : InvD stp Sc Sm X Y G n := hI
  obtain ⟨hC, -, -, -, hM, -⟩ := id hI
  obtain ⟨c1, c2, c3, c4, c5, c6, c7, c8, c9, c10, c11⟩ := hC.1
  have h30 : gn Sc 30 = 3 := hC.2.2.2.2.1
  unfold f_Md_locate f_Md_locate_0
  rw [bn_s, m_isFar, bd_s]
  dsimp only
  by_cases hxy : inP x.toInt y.toInt
  · rw [b32_f (fun q => q hxy), if_pos rfl]
    obtain ⟨Tm, L, C, k1, k2, k3, k4, k5⟩ := know_ok hI 0
    rw [k1, bd_s]
    obtain ⟨o, o1, o2⟩ := m_findPoint k3.1 c8 x y
    rw [o2, bd_s]
    dsimp only
    have l11 := k3.1.2.2.1.2.2.2.2.2.2.2.2.2.2
    -- the class, after it has forgotten
    obtain ⟨T, f1, f2, f3, f4, f5, f6⟩ := f_forgetFound h30
    have fx : frX Sc T := ⟨f2, f3, f4, f5⟩
    have t0 : t_Pn_locate x y Sc = none := by
      unfold t_Pn_locate t_Pn_locate_0
      rw [(checkPlace_ok hxy Sc).2, orT_nn, (checkPlace_ok hxy Sc).1, bd_s]
    have iT : ∀ k, gi T k = gi Sc k := fun k => by show T.1 k = Sc.1 k; rw [f2]
    have pT : PV T n X Y := fx.a.pv c7
    have t3 : gi T 3 = nI n := by rw [iT]; exact c5
    have t30 : gn T 30 = 3 := by show T.2.2.1 30 = 3; rw [f4]; exact h30
    have fin : ∀ (w : Int32) (T' Tm' : St), f_Pn_locate x y Sc = some (w, T') → frX T T' → frFd Tm Tm' → ga T' 30 0 = ga Tm' 11 0 → ga T' 30 1 = ga Tm' 11 1 → ga T' 30 2 = ga Tm' 11 2 → ∃ (k : Int32) (v' : Nat → Int64) (Sc' : St) (r : Int32) (Sm' : St), h_locate x y v Sc = some (k, v', Sc') ∧ some (w, Tm') = some (r, Sm') ∧ f_Md_thrown Sm' = some (k, Sm') ∧ (k = 0 → v' (Int32.toNatClampNeg 0) = Int32.toInt64 r) ∧ Inv (stp + 1) Sc' Sm' := by
      intro w T' Tm' hf hx' fm e0 e1 e2
      have z : gi Tm' 0 = 0 := by show Tm'.1 0 = 0; rw [fm.1]; exact k4
      refine ⟨0, vp_updL v (Int32.toNatClampNeg 0) (Int32.toInt64 w), T', w, Tm', ?_, rfl, thrown_is z, fun _ => updL_0 _ _, (hI.fnd hs (fx.trans hx') k3 fm e0 e1 e2).inv⟩
      unfold h_locate
      rw [t0]
      dsimp only
      rw [hf, bd_s]
    have head : f_Pn_locate x y Sc = bd (f_Pt_nearestOf (nI n) x y T) (fun q_3 => (if q_3.1 = (-1) then some (0, q_3.2) else bd (f_Pt_isAt q_3.1 x y q_3.2) (fun q_5 => (if q_5.1 = 0 then bd (f_Nt_isEmpty q_5.2) (fun q_7 => (if q_7.1 = 0 then bd (f_Pn_locateInNet q_3.1 x y q_7.2) (fun q_9 => some (q_9.1, q_9.2)) else bd (f_Pn_locateOnLine x y q_7.2) (fun q_10 => some (q_10.1, q_10.2)))) else as_ (inb 0 (gn q_5.2 30)) (bn (seta q_5.2 30 (upd (ga q_5.2 30) (Int32.toNatClampNeg 0) q_3.1)) (fun S_12 => some (3, S_12))))))) := by
      unfold f_Pn_locate f_Pn_locate_0
      rw [(checkPlace_ok hxy Sc).1, bd_s, f1, bd_s, t3]
    -- the points with the place behind them
    have nE : n ≤ 1024 := c7.2.2.2
    let X' : Nat → Int := fun i => if i = n then x.toInt else X i
    let Y' : Nat → Int := fun i => if i = n then y.toInt else Y i
    have he : ∀ i, i < n → eqP X Y X' Y' i := fun i hi => by
      have : i ≠ n := by omega
      exact ⟨by show (if i = n then x.toInt else X i) = X i; rw [if_neg this], by show (if i = n then y.toInt else Y i) = Y i; rw [if_neg this]⟩
    have hx : x.toInt = X' n := by show x.toInt = if n = n then x.toInt else X n; rw [if_pos rfl]
    have hy : y.toInt = Y' n := by show y.toInt = if n = n then y.toInt else Y n; rw [if_pos rfl]
    have ky : KY Tm X' Y' n L := by
      obtain ⟨q1, q2, q3, q4, q5⟩ := k2.ky k3.1
      exact ⟨q1.eqv he, q2, q3, q4, q5⟩
    have tri : TRI X' Y' n L := k2.1.eqv he
    have rl := ref_loc k3 ky tri hxy hx hy
    have near := f_nearestOf pT (Nat.le_refl n) hxy
    cases o with
    | some b =>
      -- on a point
      rw [if_neg (show ¬ oI (some b) < 0 from nI_pos (by have := o1.1; omega))]
      have n0 : 0 < n := by have := o1.1; omega
      obtain ⟨r, r1, r2⟩ := near.2 n0
      rcases atO_near c8 o1 r1 with ⟨z1, z2⟩ | ⟨z1, -⟩
      · have e : b = r := Option.some.inj z1
        subst e
        obtain ⟨Tm', t1, t2, t3', t4, t5⟩ := m_found l11 3 (oI (some b)) (-1) (-1)
        rw [t1, bd_s]
        refine fin 3 (seta T 30 (upd (ga T 30) 0 (nI b))) Tm' ?_ ⟨rfl, rfl, rfl, fun k hk => ga_seta_ne _ _ hk⟩ t2 ?_ ?_ ?_
        · rw [head, r2, bd_s]
          dsimp only
          rw [if_neg (fun q => by
            have := nI_pos (n := b) (by have := r1.1; omega)
            rw [q] at this
            exact this (by decide)), f_isAt pT t3 r1.1, bd_s]
          dsimp only
          rw [b32_t z2, if_neg (by decide), t30, show inb 0 3 = true from rfl, as_s, bn_s]
          rfl
        · rw [ga_seta, upd_same, t3']; rfl
        · rw [ga_seta, upd_ne _ _ (by decide), f6 1 (by decide), t4]
        · rw [ga_seta, upd_ne _ _ (by decide), f6 2 (by decide), t5]
      · cases z1
    | none =>
      rw [if_pos (show oI none < 0 by decide)]
      have hdp : ∀ i, i < n → dif X' Y' n i := fun i hi q => by
        have e := he i hi
        unfold eqP at e
        refine o1 i hi ⟨?_, ?_⟩
        · rw [← e.1, ← q.1]; exact hx.symm
        · rw [← e.2, ← q.2]; exact hy.symm
      by_cases n0 : n = 0
      · -- no points at all
        obtain ⟨Tm', t1, t2, t3', t4, t5⟩ := rl.1 (fun a b ha => by omega) (fun t ht q => by
          have := List.mem_range.mp ((tri.2 t).mp ht).1.1
          omega)
        rw [t1]
        refine fin 0 T Tm' ?_ (frX.rfl' T) t2 (by rw [f6 0 (by decide), t3']) (by rw [f6 1 (by decide), t4]) (by rw [f6 2 (by decide), t5])
        rw [head, near.1 n0, bd_s]
        dsimp only
        rw [if_pos rfl]
      · obtain ⟨r, r1, r2⟩ := near.2 (by omega)
        rcases atO_near c8 o1 r1 with ⟨z1, -⟩ | ⟨-, z2⟩
        · cases z1
        have head2 : f_Pn_locate x y Sc = bd (f_Nt_isEmpty T) (fun q_7 => (if q_7.1 = 0 then bd (f_Pn_locateInNet (nI r) x y q_7.2) (fun q_9 => some (q_9.1, q_9.2)) else bd (f_Pn_locateOnLine x y q_7.2) (fun q_10 => some (q_10.1, q_10.2)))) := by
          rw [head, r2, bd_s]
          dsimp only
          rw [if_neg (fun q => by
            have := nI_pos (n := r) (by have := r1.1; omega)
            rw [q] at this
            exact this (by decide)), f_isAt pT t3 r1.1, bd_s]
          dsimp only
          rw [b32_f z2, if_pos rfl]
        unfold f_Nt_isEmpty f_Nt_isEmpty_0 at head2
        rw [iT 6] at head2
        have pT' : PV T n X' Y' := pT.eqv he
        rcases hC.2.1 with ⟨h6, h7, hl⟩ | ⟨m, s, tw, lv, P, hNI, hP, hPn⟩
        · -- on a line
          rw [if_pos h6, bd_s] at head2
          dsimp only at head2
          rw [if_neg (by decide)] at head2
          have hl' : LIN X' Y' n := LIN.eqv (X := X) (Y := Y) hl he
          have L0 := lin_tri hl' tri
          subst L0
          obtain ⟨T', w, w1, w2, w3⟩ := f_locLine pT' t3 (DN.eqv c8 he) hl' hdp t30 hxy hx hy
          rw [w1, bd_s] at head2
          rcases w3 with ⟨rfl, rfl, w4⟩ | ⟨rfl, u, v', p1, p2, p3, p4, p5, p6, p7, p8, p9⟩
          · obtain ⟨Tm', t1, t2, t3', t4, t5⟩ := rl.1 w4 (fun t ht => absurd ht List.not_mem_nil)
            rw [t1]
            exact fin 0 _ Tm' head2 w2 t2 (by rw [f6 0 (by decide), t3']) (by rw [f6 1 (by decide), t4]) (by rw [f6 2 (by decide), t5])
          · obtain ⟨Tm', t1, t2, t3', t4, t5⟩ := rl.2.1 u v' p1 p2 p3 p4 p5 p6
            rw [t1]
            exact fin 2 T' Tm' head2 w2 t2 (by rw [p7, t3']) (by rw [p8, t4]) (by rw [p9, f6 2 (by decide), t5])
        · -- in the net
          have heP : ∀ i ∈ P, eqP X Y X' Y' i := fun i hi => he i ((hPn i).mp hi)
          obtain ⟨hV, hD, hLV, hg, hm⟩ := fx.a.ni hNI
          have hD' : NetD X' Y' G P m s tw := hD.congr heP
          have hP' : PtsL X' Y' 1024 G P := hP.congr heP
          have pl : P.length = n := by
            have h1 := nodup_le hP.2.2.1 (l2 := List.range n) (fun x hx => List.mem_range.mpr ((hPn x).mp hx))
            have h2 := nodup_le (List.nodup_range (n := n)) (l2 := P) (fun x hx => (hPn x).mpr (List.mem_range.mp hx))
            rw [List.length_range] at h1 h2
            omega
          have hr : PtsL X' Y' 1024 G (List.range n) := hP'.range hPn
          have n3 : 3 ≤ n := by
            obtain ⟨a, ha, b, hb, c, hc, hne⟩ := hr.2.2.2
            rw [List.mem_range] at ha hb hc
            have h1 : a ≠ b := fun q => hne (by rw [q]; exact gO_11 b c)
            have h2 : a ≠ c := fun q => hne (by rw [q]; exact gO_12 c b)
            have h3 : b ≠ c := fun q => hne (by rw [q]; exact gO_22 a c)
            omega
          have hX : NETX X' Y' n G m s tw := ⟨hr, hD'.mem (fun i => by rw [hPn, List.mem_range]), by omega, by omega, fun v hv => ⟨lv v, (hLV.2.1 v ((hPn v).mpr hv)).2⟩⟩
          have m1 := hV.2.2.2.1
          have g6 : gi Sc 6 = nI m := by rw [← iT 6]; exact hV.2.1
          rw [g6, if_neg (nI_ne0 (by omega) (by omega)), bd_s] at head2
          dsimp only at head2
          rw [if_pos rfl] at head2
          obtain ⟨T', w, w1, w2, w3⟩ := f_locNet hV hX pT' hP' hPn hD' hLV t30 r1.1 hxy hx hy
          rw [w1, bd_s] at head2
          rcases w3 with ⟨rfl, rfl, g, g1, g2, g3, g4, g5⟩ | ⟨rfl, a, b, c, q1, q2, q3, q4, q5, q6⟩ | ⟨rfl, a, b, c, q1, q2, q3, q4, q5, q6, q7⟩
          · have lo := loc_out hX tri g1 g2 g3 g4 g5
            obtain ⟨Tm', t1, t2, t3', t4, t5⟩ := rl.1 lo.1 lo.2
            rw [t1]
            exact fin 0 _ Tm' head2 w2 t2 (by rw [f6 0 (by decide), t3']) (by rw [f6 1 (by decide), t4]) (by rw [f6 2 (by decide), t5])
          · have lo := loc_on hX tri hdp q1 q2 q3
            obtain ⟨Tm', t1, t2, t3', t4, t5⟩ := rl.2.1 a b q1.2.2.2.1 (List.mem_range.mp q1.1) (List.mem_range.mp q1.2.1) lo.1 lo.2.1 lo.2.2
            rw [t1]
            exact fin 2 T' Tm' head2 w2 t2 (by rw [q4, t3']) (by rw [q5, t4]) (by rw [q6, f6 2 (by decide), t5])
          · have lo := loc_inside hX tri hdp q1 q2 q3 q4
            obtain ⟨Tm', t1, t2, t3', t4, t5⟩ := rl.2.2 (low3 a b c) lo.2.1 lo.1 lo.2.2.1 lo.2.2.2
            rw [t1]
            exact fin 1 T' Tm' head2 w2 t2 (by rw [q5, t3']) (by rw [q6, t4]) (by rw [q7, t5])
  · rw [b32_t hxy, if_neg (by decide), fail_s, bd_s]
    refine ⟨1, v, Sc, 0, seti (seti Sm 0 0) 0 1, ?_, rfl, thrown_s _ _, fun q => absurd q (by decide), by rw [seti2]; exact (hI.th hs 1).inv⟩
    unfold h_locate t_Pn_locate t_Pn_locate_0
    rw [(checkPlace_no hxy Sc).2, orT_sm]
    rfl
end
