/-! NEIGHBOURS: the calls -/
section
variable {Sc Sm T : St} {n G m stp : Nat} {X Y : Nat → Int} {s tw lv : Nat → Nat} {L : List (Nat × Nat × Nat)}
theorem frN.ms {S T : St} (f : frN S T) (h : MS S X Y G n) : MS T X Y G n := ⟨f.mp h.1, by rw [f.1 1 (by decide)]; exact h.2.1, h.2.2.of (fun k a b => f.1 k (by omega)) (fun k a b => f.2.2 k (by omega))⟩
/-- the class's row of neighbours -/
def CR (Sc : St) (p : Nat) (R : List Nat) : Prop := f_Pn_neighbourCount (nI p) Sc = some (nI R.length, Sc) ∧ ∀ k, k < R.length → bd (f_Nt_isEmpty Sc) (fun q_5 => (if q_5.1 = 0 then bd (f_Nt_leftRound (nI p) (nI k) q_5.2) (fun q_7 => some (q_7.1, q_7.2)) else bd (f_Pn_neighbourOnLine (nI p) (nI k) q_5.2) (fun q_8 => some (q_8.1, q_8.2)))) = some (nI (R.getD k 0), Sc)
theorem near_net (hT : KY T X Y n L) (hL : TRI X Y n L) (h : CN Sc X Y n G m s tw lv) {p : Nat} (hp : p < n) {N : List Nat} (hN : HL T 10 N) (h9 : gi T 9 = nI N.length) (hs : N.Pairwise (· < ·)) (hm : ∀ x, x ∈ N ↔ x < n ∧ NBR X Y n L p x) (hl : N.length ≤ n) : ∃ T' R, f_Md_findNeighbours_56 FU (nI p) 2 T = some T' ∧ frN T T' ∧ HL T' 10 R ∧ gi T' 9 = nI R.length ∧ R.length ≤ n ∧ CR Sc p R := by
  obtain ⟨hV, hX, -, hlv, -, hnG⟩ := id h
  have hn := hT.1.2.1
  obtain ⟨L1, ho1, dg⟩ := f_degree h hp
  obtain ⟨ef, Lr, lr, rnd⟩ := f_leftRound h hp
  have lvp := hlv p hp
  obtain ⟨a1, a2, a3, a4, a5⟩ := id lr
  have pG : p ≠ G := by omega
  have ed := edge_EDG hX.1 hX.2.1 a1 (by rw [a2]; exact pG) a3
  rw [a2] at ed
  have fn : s (nx ef) < n := List.mem_range.mp ed.2.2.1
  have memN : ∀ x, x ∈ N ↔ NBE G m s p x := by
    intro x
    rw [hm]
    constructor
    · rintro ⟨q1, q2⟩; exact (nbr_nbe hX hL hp q1).mp q2
    · intro q
      have xn : x < n := by
        obtain ⟨q0, e, e1, e2, e3⟩ := q
        have := (edge_EDG hX.1 hX.2.1 e1 (by rw [e2]; exact pG) (by rw [e3]; exact q0)).2.2.1
        rw [e3] at this
        exact List.mem_range.mp this
      exact ⟨xn, (nbr_nbe hX hL hp xn).mpr q⟩
  have memR : ∀ x, x ∈ NL G s tw ef Lr ↔ NBE G m s p x := fun x => by
    have := NL_mem hX a1 (by rw [a2]; exact hp) a4 (k := x)
    rw [a2] at this
    exact this
  have hd := NL_head lr
  have sn := NL_soon hX hp lr
  have nd := NL_nodup hX a1 a4
  generalize hRt : ((List.range (Lr - 1)).map fun i => wE s tw ef (i + 1)).filter (fun x => decide (x ≠ G)) = Rt at hd sn
  rw [hd] at nd memR
  have df : dif X Y p (s (nx ef)) := hX.dn p hp _ fn (fun q => ed.2.2.2 q)
  -- the lowest comes first
  have fN : s (nx ef) ∈ N := (memN _).mpr ((memR _).mp (List.mem_cons_self ..))
  obtain ⟨N', rfl⟩ : ∃ N', N = s (nx ef) :: N' := by
    cases N with
    | nil => exact absurd fN List.not_mem_nil
    | cons y N' =>
      have : y = s (nx ef) := by
        have h1 := a5 y ((memN y).mp (List.mem_cons_self ..))
        rcases List.mem_cons.mp fN with q | q
        · exact q.symm
        · have := (List.pairwise_cons.mp hs).1 _ q
          omega
      exact ⟨N', by rw [this]⟩
  have ndN : (s (nx ef) :: N').Nodup := hs.imp (fun {a b} hab e => by omega)
  rw [List.nodup_cons] at nd ndN
  have memT : ∀ x, x ∈ N' ↔ x ∈ Rt := by
    intro x
    have q1 := memN x
    have q2 := memR x
    rw [List.mem_cons] at q1 q2
    constructor
    · intro hx
      rcases q2.mpr (q1.mp (Or.inr hx)) with r | r
      · rw [r] at hx; exact absurd hx ndN.1
      · exact r
    · intro hx
      rcases q1.mpr (q2.mp (Or.inr hx)) with r | r
      · rw [r] at hx; exact absurd hx nd.1
      · exact r
  have asym : ∀ a b, SOON X Y p (s (nx ef)) a b → ¬ SOON X Y p (s (nx ef)) b a := fun a b h1 h2 => SOON.irr (h1.trans df h2)
  have lN : N'.length + 1 ≤ n := by simpa using hl
  have res : ∃ T' R, f_Md_findNeighbours_56 FU (nI p) 2 T = some T' ∧ R.Pairwise (SOON X Y p (s (nx ef))) ∧ R.Perm N' ∧ HL T' 10 (s (nx ef) :: R) ∧ frN T T' ∧ gi T' 9 = gi T 9 := by
    cases N' with
    | nil =>
      refine ⟨T, [], ?_, List.Pairwise.nil, List.Perm.refl _, hN, frN.rfl' T, rfl⟩
      have : FU = (FU - 1) + 1 := by unfold FU; rfl
      rw [this, f_Md_findNeighbours_56]
      dsimp only
      rw [h9, if_pos (show nI [s (nx ef)].length ≤ 2 from (show nI 1 ≤ nI 2 from nI_le (by omega) (by omega)))]
    | cons y D =>
      have := m_nsort hp fn df (n0 := (y :: D).length) D.length FU [y] D T rfl (by have := FU_big; simp at lN; omega) hT.1 hN h9 rfl (by omega) (fun z hz => ((hm z).mp (List.mem_cons_of_mem _ hz)).1) (fun a ha b hb hab => pw_total sn ((memT a).mp ha) ((memT b).mp hb) hab) ndN.2 (List.pairwise_singleton ..)
      exact this
  obtain ⟨T', R, r1, r2, r3, r4, r5, r6⟩ := res
  have eR : R = Rt := sorted_eq asym R Rt r2 sn (fun x => by rw [r3.mem_iff, memT])
  subst eR
  have ll : (NL G s tw ef Lr).length = R.length + 1 := by rw [hd]; simp
  have lR := r3.length_eq
  refine ⟨T', s (nx ef) :: R, r1, r5, r4, by rw [r6, h9]; simp [lR], by simp; omega, ?_⟩
  -- the class
  have em : f_Nt_isEmpty Sc = some (0, Sc) := by
    unfold f_Nt_isEmpty f_Nt_isEmpty_0
    have := hX.2.2.1
    have := hV.2.2.2.1
    rw [hV.2.1, if_neg (nI_ne0 (by omega) (by omega))]
  have ln := NL_len hX lvp.2.1 (by rw [lvp.2.2]; exact hp) ho1 a1 (by rw [a2, lvp.2.2]) a4
  refine ⟨?_, fun k hk => ?_⟩
  · unfold f_Pn_neighbourCount f_Pn_neighbourCount_0
    rw [em, bd_s]
    dsimp only
    rw [if_pos rfl, dg, bd_s, ln, ll]
    rfl
  · rw [em, bd_s]
    dsimp only
    rw [if_pos rfl, rnd k (by rw [ll]; simpa using hk), bd_s, hd]
theorem two_list {N : List Nat} (hs : N.Pairwise (· < ·)) : (∀ a, (∀ x, x ∈ N ↔ x = a) → N = [a]) ∧ ∀ a b, a < b → (∀ x, x ∈ N ↔ x = a ∨ x = b) → N = [a, b] := by
  have as : ∀ a b : Nat, a < b → ¬ b < a := fun a b h => by omega
  refine ⟨fun a h => sorted_eq as N [a] hs (by simp) (fun x => by rw [h]; simp), fun a b hab h => sorted_eq as N [a, b] hs ?_ (fun x => by rw [h]; simp)⟩
  rw [List.pairwise_cons]
  exact ⟨fun x hx => by rw [List.mem_singleton.mp hx]; exact hab, by simp⟩
theorem near_line (hT : KY T X Y n []) (hC : CS Sc X Y G n stp) (hl : LIN X Y n) (h6 : gi Sc 6 = 0) {p : Nat} (hp : p < n) {N : List Nat} (hN : HL T 10 N) (h9 : gi T 9 = nI N.length) (hs : N.Pairwise (· < ·)) (hm : ∀ x, x ∈ N ↔ x < n ∧ NBR X Y n [] p x) : ∃ T' R, f_Md_findNeighbours_56 FU (nI p) 2 T = some T' ∧ frN T T' ∧ HL T' 10 R ∧ gi T' 9 = nI R.length ∧ R.length ≤ n ∧ CR Sc p R := by
  have hd := hC.dn
  obtain ⟨c1, c2, c3, c4, c5, c6, c7, c8, c9, c10, c11⟩ := hC.1
  have pp := c7.2.2.1 p hp
  obtain ⟨ob, b1, b2⟩ := f_greatestBelow c7 c5 (ga Sc 6 p) (ga Sc 7 p)
  obtain ⟨oa, a1, a2⟩ := f_leastAbove c7 c5 (ga Sc 6 p) (ga Sc 7 p)
  rw [pp.1, pp.2.1] at b1 a1
  have mem : ∀ x, x ∈ N ↔ ob = some x ∨ oa = some x := by
    intro x
    rw [hm]
    constructor
    · rintro ⟨q1, q2⟩; exact (nbr_line hd hl hp q1 b1 a1).mp q2
    · intro q
      have xn : x < n := by
        rcases q with q | q
        · rw [q] at b1; exact b1.1
        · rw [q] at a1; exact a1.1
      exact ⟨xn, (nbr_line hd hl hp xn b1 a1).mpr q⟩
  have em : f_Nt_isEmpty Sc = some (1, Sc) := by
    unfold f_Nt_isEmpty f_Nt_isEmpty_0
    rw [h6, if_pos rfl]
  have cnt : f_Pn_neighbourCount (nI p) Sc = some ((if oI ob = -1 then 0 else 1) + (if oI oa = -1 then 0 else 1), Sc) := by
    unfold f_Pn_neighbourCount f_Pn_neighbourCount_0 f_Pn_neighbourCount_51
    rw [em, bd_s]
    dsimp only
    rw [if_neg (by decide), f_xp c7 hp, bd_s]
    dsimp only
    rw [f_yp c7 hp, bd_s]
    dsimp only
    rw [b2, bd_s]
    dsimp only
    simp only [f_xp c7 hp, f_yp c7 hp, bd_s, a2]
    by_cases q1 : oI ob = -1
    · rw [if_pos q1, if_pos q1]
      by_cases q2 : oI oa = -1
      · rw [if_pos q2, if_pos q2]; rfl
      · rw [if_neg q2, if_neg q2]
    · rw [if_neg q1, if_neg q1]
      by_cases q2 : oI oa = -1
      · rw [if_pos q2, if_pos q2]; rfl
      · rw [if_neg q2, if_neg q2]
  have onl : ∀ k, f_Pn_neighbourOnLine (nI p) (nI k) Sc = (if oI ob = -1 then f_Pn_neighbourOnLine_60 (oI ob) (oI oa) Sc else if oI oa = -1 then f_Pn_neighbourOnLine_60 (oI ob) (oI oa) Sc else if nI k = 0 then some ((if oI oa < oI ob then oI oa else oI ob), Sc) else some ((if oI ob < oI oa then oI oa else oI ob), Sc)) := by
    intro k
    unfold f_Pn_neighbourOnLine f_Pn_neighbourOnLine_0
    simp only [f_xp c7 hp, f_yp c7 hp, bd_s, a2, b2]
  have nn : ∀ b : Nat, b < n → ¬ nI b = -1 := fun b hb q => by
    have := nI_pos (n := b) (by omega)
    rw [q] at this
    exact this (by decide)
  have go : ∀ R, N = R → R.length ≤ 2 → R.length ≤ n → CR Sc p R → ∃ T' R, f_Md_findNeighbours_56 FU (nI p) 2 T = some T' ∧ frN T T' ∧ HL T' 10 R ∧ gi T' 9 = nI R.length ∧ R.length ≤ n ∧ CR Sc p R := by
    intro R e hl2 hln hcr
    subst e
    refine ⟨T, N, ?_, frN.rfl' T, hN, h9, hln, hcr⟩
    have : FU = (FU - 1) + 1 := by unfold FU; rfl
    rw [this, f_Md_findNeighbours_56]
    dsimp only
    rw [h9, if_pos (show nI N.length ≤ 2 from (show nI N.length ≤ nI 2 from nI_le hl2 (by omega)))]
  have one : ∀ a, a < n → (∀ x, x ∈ N ↔ x = a) → f_Pn_neighbourCount (nI p) Sc = some (1, Sc) → (∀ k, f_Pn_neighbourOnLine (nI p) (nI k) Sc = some (nI a, Sc)) → ∃ T' R, f_Md_findNeighbours_56 FU (nI p) 2 T = some T' ∧ frN T T' ∧ HL T' 10 R ∧ gi T' 9 = nI R.length ∧ R.length ≤ n ∧ CR Sc p R := by
    intro a an hma h1 h2
    refine go [a] ((two_list hs).1 a hma) (by simp) (by simp; omega) ⟨h1, fun k hk => ?_⟩
    have : k = 0 := by simp at hk; exact hk
    subst this
    rw [em, bd_s]
    dsimp only
    rw [if_neg (by decide), h2, bd_s]
    rfl
  cases ob with
  | none =>
    cases oa with
    | none =>
      have e : N = [] := by
        cases N with
        | nil => rfl
        | cons a t =>
          have := (mem a).mp (List.mem_cons_self ..)
          rcases this with q | q <;> cases q
      refine go [] e (by simp) (by simp) ⟨?_, fun k hk => absurd hk (Nat.not_lt_zero _)⟩
      rw [cnt]; rfl
    | some a =>
      have an := a1.1
      refine one a an (fun x => by rw [mem]; simp; exact eq_comm) ?_ (fun k => ?_)
      · rw [cnt, if_pos (show oI none = -1 from rfl), if_neg (show ¬ oI (some a) = -1 from nn a an)]; rfl
      · rw [onl, if_pos (show oI none = -1 from rfl)]
        unfold f_Pn_neighbourOnLine_60
        rw [if_pos (show oI none < oI (some a) from ?_)]
        · rfl
        · show (-1 : Int32) < nI a
          rw [lt32, nI_toInt (by omega)]
          show (-1 : Int) < (a : Int)
          omega
  | some b =>
    have bn := b1.1
    cases oa with
    | none =>
      refine one b bn (fun x => by rw [mem]; simp; exact eq_comm) ?_ (fun k => ?_)
      · rw [cnt, if_pos (show oI none = -1 from rfl), if_neg (show ¬ oI (some b) = -1 from nn b bn)]; rfl
      · rw [onl, if_neg (show ¬ oI (some b) = -1 from nn b bn), if_pos (show oI none = -1 from rfl)]
        unfold f_Pn_neighbourOnLine_60
        rw [if_neg (show ¬ oI (some b) < oI none from ?_)]
        · rfl
        · show ¬ nI b < (-1 : Int32)
          rw [lt32, nI_toInt (by omega)]
          show ¬ (b : Int) < (-1 : Int)
          omega
    | some a =>
      have an := a1.1
      have hab : a ≠ b := fun q => by
        have h1 : gLess X Y b p := b1.2.1
        have h2 : gLess X Y p a := a1.2.1
        rw [q] at h2
        exact gLess_irr (gLess_trans h1 h2)
      have memx : ∀ x, x ∈ N ↔ x = a ∨ x = b := fun x => by
        rw [mem]
        constructor
        · rintro (q | q)
          · exact Or.inr (Option.some.inj q).symm
          · exact Or.inl (Option.some.inj q).symm
        · rintro (q | q)
          · exact Or.inr (by rw [q])
          · exact Or.inl (by rw [q])
      have c2 : f_Pn_neighbourCount (nI p) Sc = some (nI 2, Sc) := by
        rw [cnt, if_neg (show ¬ oI (some a) = -1 from nn a an), if_neg (show ¬ oI (some b) = -1 from nn b bn)]; rfl
      have o2 : ∀ k, f_Pn_neighbourOnLine (nI p) (nI k) Sc = (if nI k = 0 then some ((if nI a < nI b then nI a else nI b), Sc) else some ((if nI b < nI a then nI a else nI b), Sc)) := fun k => by
        rw [onl, if_neg (show ¬ oI (some b) = -1 from nn b bn), if_neg (show ¬ oI (some a) = -1 from nn a an)]
        rfl
      have two : ∀ u w, u < w → w < n → (∀ x, x ∈ N ↔ x = u ∨ x = w) → f_Pn_neighbourOnLine (nI p) (nI 0) Sc = some (nI u, Sc) → f_Pn_neighbourOnLine (nI p) (nI 1) Sc = some (nI w, Sc) → ∃ T' R, f_Md_findNeighbours_56 FU (nI p) 2 T = some T' ∧ frN T T' ∧ HL T' 10 R ∧ gi T' 9 = nI R.length ∧ R.length ≤ n ∧ CR Sc p R := by
        intro u w huw hwn hmx q0 q1
        refine go [u, w] ((two_list hs).2 u w huw hmx) (by simp) (by simp; omega) ⟨c2, fun k hk => ?_⟩
        have : k = 0 ∨ k = 1 := by simp at hk; omega
        rw [em, bd_s]
        dsimp only
        rw [if_neg (by decide)]
        rcases this with rfl | rfl
        · rw [q0, bd_s]; rfl
        · rw [q1, bd_s]; rfl
      rcases Nat.lt_trichotomy a b with q | q | q
      · refine two a b q bn memx ?_ ?_
        · rw [o2, if_pos (show nI 0 = 0 from rfl), if_pos (nI_lt q (by omega))]
        · rw [o2, if_neg (show ¬ nI 1 = 0 by decide), if_neg (nI_nlt (by omega) (by omega))]
      · exact absurd q hab
      · refine two b a q an (fun x => by rw [memx]; exact or_comm) ?_ ?_
        · rw [o2, if_pos (show nI 0 = 0 from rfl), if_neg (nI_nlt (by omega) (by omega))]
        · rw [o2, if_neg (show ¬ nI 1 = 0 by decide), if_pos (nI_lt q (by omega))]
/-- the row of neighbours of both sides -/
theorem near_ok (hI : InvD stp Sc Sm X Y G n) {p : Nat} (hp : p < n) : ∃ T R, f_Md_findNeighbours (nI p) (seti Sm 0 0) = some T ∧ MS T X Y G n ∧ gi T 0 = 0 ∧ ga T 11 = ga Sm 11 ∧ HL T 10 R ∧ gi T 9 = nI R.length ∧ R.length ≤ n ∧ CR Sc p R := by
  obtain ⟨hC, -, -, hO, hM, -⟩ := id hI
  obtain ⟨Tm, L, C, k1, k2, k3, k4, k5⟩ := know_ok hI 0
  have hn := k3.1.2.1
  unfold f_Md_findNeighbours f_Md_findNeighbours_0
  rw [k1, bd_s, bn_s]
  have f0 : frN Tm (seti Tm 9 0) := ⟨fun k hk => gi_seti_ne _ _ hk, rfl, fun _ _ => rfl⟩
  have ky := k2.ky k3.1
  refine m_near_all (f0.ky ky) hp (Q := fun r => ∃ T R, r = some T ∧ MS T X Y G n ∧ gi T 0 = 0 ∧ ga T 11 = ga Sm 11 ∧ HL T 10 R ∧ gi T 9 = nI R.length ∧ R.length ≤ n ∧ CR Sc p R) ?_ n FU 0 (seti Tm 9 0) [] (by omega) (by have := FU_big; omega) (frN.rfl' _) (fun i hi => absurd hi (Nat.not_lt_zero _)) (gi_seti _ _ _) List.Pairwise.nil (fun x => ⟨fun q => absurd q List.not_mem_nil, fun q => by omega⟩) (by simp)
  intro T N fr hN h9 hs hm hl
  have fT := f0.trans fr
  have kT := fT.ky ky
  have fin : (∃ T' R, f_Md_findNeighbours_56 FU (nI p) 2 T = some T' ∧ frN T T' ∧ HL T' 10 R ∧ gi T' 9 = nI R.length ∧ R.length ≤ n ∧ CR Sc p R) → ∃ T_1 R, f_Md_findNeighbours_56 FU (nI p) 2 T = some T_1 ∧ MS T_1 X Y G n ∧ gi T_1 0 = 0 ∧ ga T_1 11 = ga Sm 11 ∧ HL T_1 10 R ∧ gi T_1 9 = nI R.length ∧ R.length ≤ n ∧ CR Sc p R := by
    rintro ⟨T', R, r1, r2, r3, r4, r5, r6⟩
    have f := fT.trans r2
    exact ⟨T', R, r1, f.ms k3, by rw [f.1 0 (by decide)]; exact k4, by rw [f.2.2 11 (by decide)]; exact k5, r3, r4, r5, r6⟩
  apply fin
  rcases hC.ground with ⟨z6, z7, hl'⟩ | ⟨m, s, tw, lv, hN'⟩
  · have e := lin_tri hl' k2.1
    subst e
    exact near_line kT hC hl' z6 hp hN h9 hs hm
  · exact near_net kT k2.1 hN' hp hN h9 hs hm hl
theorem InvD.same (hI : InvD stp Sc Sm X Y G n) (hs : stp < 512) {Tm : St} (hM : MS Tm X Y G n) (h11 : ga Tm 11 = ga Sm 11) : InvD (stp + 1) Sc Tm X Y G n :=
  ⟨hI.1.more, by omega, hI.2.2.1, hI.2.2.2.1, hM, fun i hi => by rw [h11]; exact hI.2.2.2.2.2 i hi⟩
theorem ok_neighbours : ok1 Inv h_neighbours f_Md_neighbours := by
  intro stp Sc Sm x v hs ⟨X, Y, G, n, hI⟩
  have hI : InvD stp Sc Sm X Y G n := hI
  obtain ⟨hC, -, -, -, hM, -⟩ := id hI
  obtain ⟨c1, c2, c3, c4, c5, c6, c7, c8, c9, c10, c11⟩ := hC.1
  have n512 := hM.1.2.1
  unfold f_Md_neighbours f_Md_neighbours_0
  rw [bn_s, (hM.th 0).1.1, m_within, bd_s, pred_int (by omega)]
  dsimp only
  have e0 : (0 : Int32).toInt = 0 := rfl
  rw [e0]
  rcases checkNumber_ok (x := x) c5 (by omega) with ⟨q1, q2, q3, q4, p, p1, p2⟩ | ⟨q1, q2⟩
  · rw [b32_t (by omega), if_neg (by decide)]
    subst p2
    obtain ⟨T, R, r1, r2, r3, r4, r5, r6, r7, r8⟩ := near_ok hI p1
    rw [r1, bd_s]
    refine ⟨0, vp_updL v (Int32.toNatClampNeg 0) (Int32.toInt64 (nI R.length)), Sc, nI R.length, T, ?_, by rw [r6], thrown_is r3, fun _ => updL_0 _ _, (hI.same hs r2 r4).inv⟩
    unfold h_neighbours t_Pn_neighbours t_Pn_neighbours_0
    rw [q4, orT_nn, q3, bd_s]
    dsimp only
    unfold f_Pn_neighbours f_Pn_neighbours_0
    rw [q3, bd_s, r8.1, bd_s, bd_s]
  · rw [b32_f (by omega), if_pos rfl, fail_s, bd_s]
    refine ⟨1, v, Sc, 0, seti (seti Sm 0 0) 0 1, ?_, rfl, thrown_s _ _, fun q => absurd q (by decide), by rw [seti2]; exact (hI.th hs 1).inv⟩
    unfold h_neighbours t_Pn_neighbours t_Pn_neighbours_0
    rw [q2, orT_sm]
    rfl
theorem ok_neighbour : ok2 Inv h_neighbour f_Md_neighbour := by
  intro stp Sc Sm x y v hs ⟨X, Y, G, n, hI⟩
  have hI : InvD stp Sc Sm X Y G n := hI
  obtain ⟨hC, -, -, -, hM, -⟩ := id hI
  obtain ⟨c1, c2, c3, c4, c5, c6, c7, c8, c9, c10, c11⟩ := hC.1
  have n512 := hM.1.2.1
  unfold f_Md_neighbour f_Md_neighbour_0
  rw [bn_s, (hM.th 0).1.1, m_within, bd_s, pred_int (by omega)]
  dsimp only
  have e0 : (0 : Int32).toInt = 0 := rfl
  rw [e0]
  rcases checkNumber_ok (x := x) c5 (by omega) with ⟨q1, q2, q3, q4, p, p1, p2⟩ | ⟨q1, q2⟩
  · rw [b32_t (by omega), if_neg (by decide)]
    subst p2
    obtain ⟨T, R, r1, r2, r3, r4, r5, r6, r7, r8⟩ := near_ok hI p1
    rw [r1, bd_s, r6, m_within, bd_s, pred_int (by omega)]
    dsimp only
    rw [e0]
    by_cases c : 0 ≤ y.toInt ∧ y.toInt ≤ (R.length : Int) - 1
    · rw [b32_t c, if_neg (by decide)]
      have y0 : ¬ y < 0 := by rw [lt32, e0]; omega
      obtain ⟨k, hk, rfl⟩ := nI_of y0
      have ek := nI_toInt hk
      have hkR : k < R.length := by omega
      rw [r2.1.2.2.1.2.2.2.2.2.2.2.2.2.1, inb_n (by omega) (by omega), as_s, nI_clampN (by omega), r5 k hkR]
      refine ⟨0, vp_updL v (Int32.toNatClampNeg 0) (Int32.toInt64 (nI (R.getD k 0))), Sc, nI (R.getD k 0), T, ?_, rfl, thrown_is r3, fun _ => updL_0 _ _, (hI.same hs r2 r4).inv⟩
      unfold h_neighbour t_Pn_neighbour t_Pn_neighbour_0
      rw [q4, orT_nn, q3, bd_s, if_neg y0, r8.1, bd_s]
      dsimp only
      rw [if_pos (nI_lt hkR (by omega))]
      dsimp only
      unfold f_Pn_neighbour f_Pn_neighbour_0
      rw [q3, bd_s, if_neg y0, r8.1, bd_s]
      dsimp only
      rw [if_pos (nI_lt hkR (by omega)), r8.2 k hkR, bd_s]
    · rw [b32_f c, if_pos rfl, fail_s, bd_s]
      refine ⟨1, v, Sc, 0, seti T 0 1, ?_, rfl, thrown_s _ _, fun q => absurd q (by decide), (hI.same hs (r2.th 1) (by rw [ga_seti]; exact r4)).inv⟩
      unfold h_neighbour t_Pn_neighbour t_Pn_neighbour_0 t_Pn_neighbour_18
      rw [q4, orT_nn, q3, bd_s]
      by_cases y0 : y < 0
      · rw [if_pos y0]; rfl
      · rw [if_neg y0, r8.1, bd_s]
        dsimp only
        rw [if_neg (by rw [lt32, nI_toInt (by omega)]; rw [lt32, e0] at y0; omega)]
        rfl
  · rw [b32_f (by omega), if_pos rfl, fail_s, bd_s]
    refine ⟨1, v, Sc, 0, seti (seti Sm 0 0) 0 1, ?_, rfl, thrown_s _ _, fun q => absurd q (by decide), by rw [seti2]; exact (hI.th hs 1).inv⟩
    unfold h_neighbour t_Pn_neighbour t_Pn_neighbour_0
    rw [q2, orT_sm]
    rfl
end
