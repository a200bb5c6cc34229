/-! THE FIRST TRIANGLE -/
def sB (a b c G : Nat) : Nat → Nat
  | 0 => a | 1 => b | 2 => c | 3 => b | 4 => a | 5 => G | 6 => c | 7 => b | 8 => G | 9 => a | 10 => c | _ => G
def tB : Nat → Nat
  | 0 => 3 | 1 => 6 | 2 => 9 | 3 => 0 | 4 => 11 | 5 => 7 | 6 => 1 | 7 => 5 | 8 => 10 | 9 => 2 | 10 => 8 | _ => 4
def lB (a b c : Nat) (v : Nat) : Nat := if v = a then 9 else if v = b then 3 else if v = c then 6 else 11
theorem all12 {Q : Nat → Prop} (h0 : Q 0) (h1 : Q 1) (h2 : Q 2) (h3 : Q 3) (h4 : Q 4) (h5 : Q 5) (h6 : Q 6) (h7 : Q 7) (h8 : Q 8) (h9 : Q 9) (h10 : Q 10) (h11 : Q 11) : ∀ e, e < 12 → Q e := by
  intro e he
  rcases (show e = 0 ∨ e = 1 ∨ e = 2 ∨ e = 3 ∨ e = 4 ∨ e = 5 ∨ e = 6 ∨ e = 7 ∨ e = 8 ∨ e = 9 ∨ e = 10 ∨ e = 11 by omega) with rfl | rfl | rfl | rfl | rfl | rfl | rfl | rfl | rfl | rfl | rfl | rfl <;> assumption
section
variable {X Y : Nat → Int} {N G : Nat} {P : List Nat} {a b c : Nat}
theorem outer_first (hP : ∀ i, i ∈ P ↔ i = a ∨ i = b ∨ i = c) (hab : a ≠ b) (hO : 0 < gO X Y a b c) : outerE X Y P b a := by
  refine ⟨(hP b).mpr (Or.inr (Or.inl rfl)), (hP a).mpr (Or.inl rfl), fun q => hab q.symm, fun d hd d1 d2 => ?_⟩
  have : d = c := by
    rcases (hP d).mp hd with q | q | q
    · exact absurd q d2
    · exact absurd q d1
    · exact q
  subst this
  have e := gO_swap X Y a b d
  rintro (q | q)
  · omega
  · omega
theorem begin_net (hP : ∀ i, i ∈ P ↔ i = a ∨ i = b ∨ i = c) (hab : a ≠ b) (hbc : b ≠ c) (hca : c ≠ a) (ha : a ≠ G) (hb : b ≠ G) (hc : c ≠ G) (hO : 0 < gO X Y a b c) : NetD X Y G P 4 (sB a b c G) tB := by
  have r1 : 0 < gO X Y b c a := by rw [gO_rot]; exact hO
  have r2 : 0 < gO X Y c a b := by rw [gO_rot]; exact r1
  have o1 : outerE X Y P b a := outer_first hP hab hO
  have o2 : outerE X Y P c b := outer_first (a := b) (b := c) (c := a) (fun i => by rw [hP i]; constructor <;> (intro h; omega)) hbc r1
  have o3 : outerE X Y P a c := outer_first (a := c) (b := a) (c := b) (fun i => by rw [hP i]; constructor <;> (intro h; omega)) hca r2
  have so : solid X Y P a b c := by
    refine ⟨(hP a).mpr (Or.inl rfl), (hP b).mpr (Or.inr (Or.inl rfl)), (hP c).mpr (Or.inr (Or.inr rfl)), hab, hbc, hca, hO, fun d hd d1 d2 d3 => ?_⟩
    rcases (hP d).mp hd with q | q | q
    · exact absurd q d1
    · exact absurd q d2
    · exact absurd q d3
  have so2 : solid X Y P b c a := by
    refine ⟨so.2.1, so.2.2.1, so.1, hbc, hca, hab, r1, fun d hd d1 d2 d3 => ?_⟩
    rcases (hP d).mp hd with q | q | q
    · exact absurd q d3
    · exact absurd q d1
    · exact absurd q d2
  have so3 : solid X Y P c a b := by
    refine ⟨so.2.2.1, so.1, so.2.1, hca, hab, hbc, r2, fun d hd d1 d2 d3 => ?_⟩
    rcases (hP d).mp hd with q | q | q
    · exact absurd q d2
    · exact absurd q d3
    · exact absurd q d1
  refine ⟨?_, ?_, ?_⟩
  · refine all12 ?_ ?_ ?_ ?_ ?_ ?_ ?_ ?_ ?_ ?_ ?_ ?_ <;> exact ⟨by decide, rfl, rfl, rfl⟩
  · refine all12 ?_ ?_ ?_ ?_ ?_ ?_ ?_ ?_ ?_ ?_ ?_ ?_
    · exact Or.inl so
    · exact Or.inl so2
    · exact Or.inl so3
    · exact Or.inr (Or.inl ⟨rfl, o1⟩)
    · exact Or.inr (Or.inr (Or.inr ⟨rfl, o1⟩))
    · exact Or.inr (Or.inr (Or.inl ⟨rfl, o1⟩))
    · exact Or.inr (Or.inl ⟨rfl, o2⟩)
    · exact Or.inr (Or.inr (Or.inr ⟨rfl, o2⟩))
    · exact Or.inr (Or.inr (Or.inl ⟨rfl, o2⟩))
    · exact Or.inr (Or.inl ⟨rfl, o3⟩)
    · exact Or.inr (Or.inr (Or.inr ⟨rfl, o3⟩))
    · exact Or.inr (Or.inr (Or.inl ⟨rfl, o3⟩))
  · have key : ∀ e, e < 12 → ∀ e', e' < 12 → sB a b c G e = sB a b c G e' → sB a b c G (nx e) = sB a b c G (nx e') → e = e' := by
      refine all12 ?_ ?_ ?_ ?_ ?_ ?_ ?_ ?_ ?_ ?_ ?_ ?_ <;> (refine all12 ?_ ?_ ?_ ?_ ?_ ?_ ?_ ?_ ?_ ?_ ?_ ?_ <;> (intro q1 q2; first | rfl | (simp only [sB, nx] at q1 q2; omega)))
    exact key
end
theorem upd_at (f : Nat → Int32) (i j : Nat) (v : Int32) : upd f i v j = if j = i then v else f j := by
  by_cases h : j = i
  · rw [h, upd_same, if_pos rfl]
  · rw [upd_ne _ _ h, if_neg h]
theorem f_begin {S : St} {X Y : Nat → Int} {G n a b c : Nat} {P : List Nat} (h4 : gi S 4 = nI G) (hG : G ≤ 1024) (hR : Rm S n) (hn : 3 ≤ n) (hn2 : n ≤ G) (han : a < n) (hbn : b < n) (hcn : c < n) (hab : a ≠ b) (hbc : b ≠ c) (hca : c ≠ a) (hP : ∀ i, i ∈ P ↔ i = a ∨ i = b ∨ i = c) (hPl : P.length = 3) (hO : 0 < gO X Y a b c) :
    ∃ T, f_Nt_begin (nI a) (nI b) (nI c) S = some T ∧ NI T X Y G n 4 (sB a b c G) tB (lB a b c) P ∧ frI S T ∧ ga T 11 = ga S 11 ∧ gi T 5 = gi S 5 := by
  unfold f_Nt_begin f_Nt_begin_0
  rw [bn_s, bn_s]
  generalize hS0 : seti (seti S 6 4) 7 3 = S0
  have n0 : S0.2.2.1 = S.2.2.1 := by rw [← hS0]; rfl
  have l0 : S0.2.1 = S.2.1 := by rw [← hS0]; rfl
  have a0 : ∀ k, ga S0 k = ga S k := fun k => by rw [← hS0]; rfl
  have i0 : ∀ k, k ≠ 6 → k ≠ 7 → gi S0 k = gi S k := fun k q r => by rw [← hS0, gi_seti_ne _ _ r, gi_seti_ne _ _ q]
  have i6 : gi S0 6 = 4 := by rw [← hS0, gi_seti_ne _ _ (by decide), gi_seti]
  have i7 : gi S0 7 = 3 := by rw [← hS0, gi_seti]
  have i4 : gi S0 4 = nI G := by rw [i0 4 (by decide) (by decide)]; exact h4
  have pla : ∀ v, v < n → plc G v < n + 1 := fun v hv => by unfold plc; split <;> omega
  have plG : plc G G < n + 1 := by unfold plc; rw [if_pos rfl]; omega
  have c8 : Cap S 8 (3 * 4) := hR.2.2.1.le (by omega)
  have c9 : Cap S 9 12 := hR.2.2.2.1.le (by omega)
  have c10 := hR.2.2.2.2.1
  obtain ⟨T1, q1, u1, v1, w1, x1, y1, z1⟩ := n_setTriangle (K := 4) (L := n + 1) (t := 0) (a := a) (b := b) (c := c) i4 hG (c8.of n0) (c10.of n0) (by omega) (by omega) (by omega) (by omega) (pla a han) (pla c hcn)
  have q1 : f_Nt_setTriangle 0 (nI a) (nI b) (nI c) S0 = some T1 := q1
  have n1 := w1.trans n0
  have j1 : gi T1 4 = nI G := by show T1.1 4 = _; rw [u1]; exact i4
  rw [q1, bd_s, j1]
  obtain ⟨T2, q2, u2, v2, w2, x2, y2, z2⟩ := n_setTriangle (K := 4) (L := n + 1) (t := 1) (a := b) (b := a) (c := G) j1 hG (c8.of n1) (c10.of n1) (by omega) (by omega) (by omega) (by omega) (pla b hbn) plG
  have q2 : f_Nt_setTriangle 1 (nI b) (nI a) (nI G) T1 = some T2 := q2
  have n2 := w2.trans n1
  have j2 : gi T2 4 = nI G := by show T2.1 4 = _; rw [u2]; exact j1
  rw [q2, bd_s, j2]
  obtain ⟨T3, q3, u3, v3, w3, x3, y3, z3⟩ := n_setTriangle (K := 4) (L := n + 1) (t := 2) (a := c) (b := b) (c := G) j2 hG (c8.of n2) (c10.of n2) (by omega) (by omega) (by omega) (by omega) (pla c hcn) plG
  have q3 : f_Nt_setTriangle 2 (nI c) (nI b) (nI G) T2 = some T3 := q3
  have n3 := w3.trans n2
  have j3 : gi T3 4 = nI G := by show T3.1 4 = _; rw [u3]; exact j2
  rw [q3, bd_s, j3]
  obtain ⟨T4, q4, u4, v4, w4, x4, y4, z4⟩ := n_setTriangle (K := 4) (L := n + 1) (t := 3) (a := a) (b := c) (c := G) j3 hG (c8.of n3) (c10.of n3) (by omega) (by omega) (by omega) (by omega) (pla a han) plG
  have q4 : f_Nt_setTriangle 3 (nI a) (nI c) (nI G) T3 = some T4 := q4
  have n4 := w4.trans n3
  rw [q4, bd_s]
  obtain ⟨J1, p1, r1⟩ := n_join (S := T4) (c9.of n4) (a := 0) (b := 3) (by omega) (by omega)
  have m1 : J1.2.2.1 = S.2.2.1 := by rw [r1]; exact n4
  obtain ⟨J2, p2, r2⟩ := n_join (S := J1) (c9.of m1) (a := 1) (b := 6) (by omega) (by omega)
  have m2 : J2.2.2.1 = S.2.2.1 := by rw [r2]; exact m1
  obtain ⟨J3, p3, r3⟩ := n_join (S := J2) (c9.of m2) (a := 2) (b := 9) (by omega) (by omega)
  have m3 : J3.2.2.1 = S.2.2.1 := by rw [r3]; exact m2
  obtain ⟨J4, p4, r4⟩ := n_join (S := J3) (c9.of m3) (a := 4) (b := 11) (by omega) (by omega)
  have m4 : J4.2.2.1 = S.2.2.1 := by rw [r4]; exact m3
  obtain ⟨J5, p5, r5⟩ := n_join (S := J4) (c9.of m4) (a := 7) (b := 5) (by omega) (by omega)
  have m5 : J5.2.2.1 = S.2.2.1 := by rw [r5]; exact m4
  obtain ⟨J6, p6, r6⟩ := n_join (S := J5) (c9.of m5) (a := 10) (b := 8) (by omega) (by omega)
  have m6 : J6.2.2.1 = S.2.2.1 := by rw [r6]; exact m5
  have p1 : f_Nt_join 0 3 T4 = some J1 := p1
  have p2 : f_Nt_join 1 6 J1 = some J2 := p2
  have p3 : f_Nt_join 2 9 J2 = some J3 := p3
  have p4 : f_Nt_join 4 11 J3 = some J4 := p4
  have p5 : f_Nt_join 7 5 J4 = some J5 := p5
  have p6 : f_Nt_join 10 8 J5 = some J6 := p6
  rw [p1, bd_s, p2, bd_s, p3, bd_s, p4, bd_s, p5, bd_s, p6, bd_s]
  have eg : ∀ k, k ≠ 9 → ga J6 k = ga T4 k := fun k hk => by rw [r6, ga_seta_ne _ _ hk, r5, ga_seta_ne _ _ hk, r4, ga_seta_ne _ _ hk, r3, ga_seta_ne _ _ hk, r2, ga_seta_ne _ _ hk, r1, ga_seta_ne _ _ hk]
  have ei : J6.1 = S0.1 := by rw [r6, r5, r4, r3, r2, r1]; show T4.1 = _; rw [u4, u3, u2, u1]
  have el : J6.2.1 = S.2.1 := by rw [r6, r5, r4, r3, r2, r1]; show T4.2.1 = _; rw [v4, v3, v2, v1]; exact l0
  have e9 : ga J6 9 = upd (upd (upd (upd (upd (upd (upd (upd (upd (upd (upd (upd (ga T4 9) 0 (nI 3)) 3 (nI 0)) 1 (nI 6)) 6 (nI 1)) 2 (nI 9)) 9 (nI 2)) 4 (nI 11)) 11 (nI 4)) 7 (nI 5)) 5 (nI 7)) 10 (nI 8)) 8 (nI 10) := by
    rw [r6, ga_seta, r5, ga_seta, r4, ga_seta, r3, ga_seta, r2, ga_seta, r1, ga_seta]
  have e8 : ∀ e, e < 12 → ga J6 8 e = nI (sB a b c G e) := by
    rw [eg 8 (by decide), y4, y3, y2, y1]
    refine all12 ?_ ?_ ?_ ?_ ?_ ?_ ?_ ?_ ?_ ?_ ?_ ?_ <;> (simp only [upd_at]; rfl)
  have t9 : ∀ e, e < 12 → ga J6 9 e = nI (tB e) := by
    rw [e9]
    refine all12 ?_ ?_ ?_ ?_ ?_ ?_ ?_ ?_ ?_ ?_ ?_ ?_ <;> (simp only [upd_at]; rfl)
  have ni : ∀ k, gi J6 k = gi S0 k := fun k => by show J6.1 k = S0.1 k; rw [ei]
  have hD := begin_net (G := G) hP hab hbc hca (by omega) (by omega) (by omega) hO
  have eo : ∀ k, k ≠ 8 → k ≠ 9 → k ≠ 10 → ga J6 k = ga S k := fun k k1 k2 k3 => by
    rw [eg k k2, x4 k k1 k3, x3 k k1 k3, x2 k k1 k3, x1 k k1 k3, a0]
  refine ⟨J6, rfl, ⟨⟨?_, ?_, hG, by omega, c8.of m6, c9.of m6, fun e he => ⟨e8 e he, ?_⟩, fun e he => ⟨t9 e he, (hD.1 e he).1⟩⟩, hD, ⟨c10.of m6, fun v hv => ?_, ?_, ?_, ?_⟩, ?_, by omega⟩, ⟨fun k hk => ?_, by rw [el], m6, fun k hk => eo k (by omega) (by omega) (by omega)⟩, eo 11 (by decide) (by decide) (by decide), ?_⟩
  · rw [ni]; exact i4
  · rw [ni]; exact i6
  · rcases hD.at he with q | q
    · rw [q]; exact hG
    · have := (hP _).mp q; omega
  · have hv' := (hP v).mp hv
    have pe : plc G v = v + 1 := by unfold plc; rw [if_neg (by omega)]
    have pa : plc G a = a + 1 := by unfold plc; rw [if_neg (by omega)]
    have pb : plc G b = b + 1 := by unfold plc; rw [if_neg (by omega)]
    have pc : plc G c = c + 1 := by unfold plc; rw [if_neg (by omega)]
    have pg : plc G G = 0 := by unfold plc; rw [if_pos rfl]
    rw [eg 10 (by decide), z4, z3, z2, z1, pa, pb, pc, pg]
    simp only [upd_at]
    unfold lB
    rcases hv' with q | q | q
    · subst q
      rw [if_neg (by omega), if_pos rfl, if_pos rfl]
      exact ⟨rfl, by omega, rfl⟩
    · subst q
      rw [if_neg (by omega), if_neg (by omega), if_neg (by omega), if_neg (by omega), if_neg (by omega), if_pos rfl, if_neg (fun q => hab q.symm), if_pos rfl]
      exact ⟨rfl, by omega, rfl⟩
    · subst q
      rw [if_neg (by omega), if_neg (by omega), if_neg (by omega), if_pos rfl, if_neg hca, if_neg (fun q => hbc q.symm), if_pos rfl]
      exact ⟨rfl, by omega, rfl⟩
  · have pg : plc G G = 0 := by unfold plc; rw [if_pos rfl]
    rw [eg 10 (by decide), z4, pg, upd_same]
    unfold lB
    rw [if_neg (by omega), if_neg (by omega), if_neg (by omega)]
  · unfold lB
    rw [if_neg (by omega), if_neg (by omega), if_neg (by omega)]
    omega
  · unfold lB
    rw [if_neg (by omega), if_neg (by omega), if_neg (by omega)]
    rfl
  · rw [ni, i7]
    have s0 : sol G (sB a b c G) 0 = true := by
      unfold sol sB
      simp [show a ≠ G by omega, show b ≠ G by omega, show c ≠ G by omega]
    have s1 : sol G (sB a b c G) 1 = false := by unfold sol sB; simp
    have s2 : sol G (sB a b c G) 2 = false := by unfold sol sB; simp
    have s3 : sol G (sB a b c G) 3 = false := by unfold sol sB; simp
    have : GC G 4 (sB a b c G) = 3 := by
      unfold GC
      have : List.range 4 = [0, 1, 2, 3] := rfl
      rw [this]
      simp [List.countP_cons, s0, s1, s2, s3]
    rw [this]
    rfl
  · rw [ni]; exact i0 k (by omega) (by omega)
  · rw [ni]; exact i0 5 (by decide) (by decide)
