/-! ROOM for a point more -/
def gr (S T : St) : Prop := T.1 = S.1 ∧ T.2.1 = S.2.1 ∧ (∀ k, 18 ≤ k → gn T k = gn S k) ∧ (∀ k, gn S k ≤ gn T k) ∧ (∀ k i, i < 32 * gn S k → ga T k i = ga S k i) ∧ (∀ k i, ga T k i = ga S k i ∨ ga T k i = 0) ∧ (∀ k, 18 ≤ k → ga T k = ga S k) ∧ ∀ k, 6 ≤ k → k < 18 → gn S k ≤ gn S (k + 12) → gn T k ≤ gn T (k + 12)
theorem gr.rfl' (S : St) : gr S S := ⟨rfl, rfl, fun _ _ => rfl, fun _ => Nat.le_refl _, fun _ _ _ => rfl, fun _ _ => Or.inl rfl, fun _ _ => rfl, fun _ _ _ h => h⟩
theorem gr.trans {S T R : St} (h : gr S T) (g : gr T R) : gr S R := by
  obtain ⟨h1, h2, h3, h4, h5, h6, h7, h8⟩ := h
  obtain ⟨g1, g2, g3, g4, g5, g6, g7, g8⟩ := g
  refine ⟨g1.trans h1, g2.trans h2, fun k hk => (g3 k hk).trans (h3 k hk), fun k => Nat.le_trans (h4 k) (g4 k), fun k i hi => ?_, fun k i => ?_, fun k hk => (g7 k hk).trans (h7 k hk), fun k a b c => g8 k a b (h8 k a b c)⟩
  · rw [g5 k i (by have := h4 k; omega), h5 k i hi]
  · rcases g6 k i with q | q
    · rw [q]; exact h6 k i
    · exact Or.inr q
theorem gr.cap {S T : St} (h : gr S T) {k c : Nat} (h6 : 6 ≤ k) (h18 : k < 18) (hc : Cap S k c) : Cap T k c := by
  have a := h.2.2.2.1 k
  have b := h.2.2.1 (k + 12) (by omega)
  have d := h.2.2.2.2.2.2.2 k h6 h18 hc.2.1
  have e1 := hc.1
  have e2 : gn S (k + 12) ≤ 192 := hc.2.2
  show c ≤ 32 * gn T k ∧ gn T k ≤ gn T (k + 12) ∧ gn T (k + 12) ≤ 192
  omega
theorem gr.at {S T : St} (h : gr S T) {k c i : Nat} (hc : Cap S k c) (hi : i < c) : ga T k i = ga S k i := h.2.2.2.2.1 k i (by have := hc.1; omega)
theorem reach_ok {S : St} {k c d : Nat} {x : Int32} (h6 : 6 ≤ k) (h18 : k < 18) (h : Cap S k c) (hx : x.toInt = d) (hd : d ≤ c + 32) (hp : d ≤ 32 * gn S (k + 12)) : ∃ T, f_Rw_reach k x S = some T ∧ gr S T ∧ Cap T k d := by
  obtain ⟨a1, a2, a3⟩ := id h
  have r : nRow = 12 := rfl
  rw [r] at a2 a3
  unfold f_Rw_reach
  rw [r, show (Nat.ble (gn S (k + 12)) 100000 && Nat.ble (gn S k) (gn S (k + 12))) = true by rw [Bool.and_eq_true]; exact ⟨Nat.ble_eq_true_of_le (by omega), Nat.ble_eq_true_of_le a2⟩, as_s, hx]
  by_cases c1 : gn S k < gn S (k + 12) ∧ ((32 * gn S k : Nat) : Int) < d
  · rw [if_pos c1, if_neg (by omega)]
    have e1 : ∀ j, gn (grow S k) j = if j = k then gn S k + 1 else gn S j := fun j => by
      show up1 S.2.2.1 k (gn S k + 1) j = _
      by_cases q : j = k
      · rw [q, up1_same, if_pos rfl]
      · rw [up1_ne _ _ q, if_neg q]
    have e2 : ∀ j, j ≠ k → ga (grow S k) j = ga S j := fun j q => by
      show up1 S.2.2.2 k _ j = _
      rw [up1_ne _ _ q]
    have e3 : ga (grow S k) k = newp (ga S k) (gn S k) := by
      show up1 S.2.2.2 k _ k = _
      rw [up1_same]
    have e4 : ∀ i, ga (grow S k) k i = if i / 32 = gn S k then 0 else ga S k i := fun i => by
      rw [e3]
      unfold newp
      by_cases q : i / 32 = gn S k
      · rw [if_pos q, show Nat.beq (i / 32) (gn S k) = true from Nat.beq_eq.mpr q]; rfl
      · rw [if_neg q]
        have : Nat.beq (i / 32) (gn S k) = false := by
          cases hb : Nat.beq (i / 32) (gn S k) with
          | false => rfl
          | true => exact absurd (Nat.eq_of_beq_eq_true hb) q
        rw [this]; rfl
    refine ⟨_, rfl, ⟨rfl, rfl, fun j hj => ?_, fun j => ?_, fun j i hi => ?_, fun j i => ?_, fun j hj => e2 j (by omega), fun j b1 b2 b3 => ?_⟩, ?_⟩
    · rw [e1, if_neg (by omega)]
    · rw [e1]; split <;> (try subst j) <;> omega
    · by_cases q : j = k
      · subst q; rw [e4, if_neg (by omega)]
      · rw [e2 j q]
    · by_cases q : j = k
      · subst q
        rw [e4]
        split
        · exact Or.inr rfl
        · exact Or.inl rfl
      · rw [e2 j q]; exact Or.inl rfl
    · rw [e1, e1, if_neg (show j + 12 ≠ k by omega)]
      split
      · rename_i q; subst q; omega
      · exact b3
    · unfold Cap
      rw [r, e1, e1, if_pos rfl, if_neg (by omega)]
      omega
  · rw [if_neg c1]
    refine ⟨S, rfl, gr.rfl' S, ?_⟩
    unfold Cap
    rw [r]
    omega
/-- rows before the first point -/
def RmW (S : St) (n : Nat) : Prop := Cap S 6 n ∧ Cap S 7 n ∧ Cap S 8 (6 * n) ∧ Cap S 9 (6 * n) ∧ Cap S 10 n ∧ Cap S 11 (2 * n) ∧ Cap S 12 (2 * n) ∧ Cap S 13 (2 * n) ∧ Cap S 14 (2 * n) ∧ Cap S 15 (2 * n) ∧ Cap S 16 n ∧ Cap S 17 n
theorem Rm.w {S : St} {n : Nat} (h : Rm S n) : RmW S n := by
  obtain ⟨a, b, c, d, e, f, g, i, j, k, l, m⟩ := h
  exact ⟨a, b, c, d, e.le (by omega), f, g, i, j, k, l.le (by omega), m⟩
theorem RmW.zero {S : St} {n : Nat} (h : RmW S n) : RmW S 0 := by
  obtain ⟨a, b, c, d, e, f, g, i, j, k, l, m⟩ := h
  exact ⟨a.le (by omega), b.le (by omega), c.le (by omega), d.le (by omega), e.le (by omega), f.le (by omega), g.le (by omega), i.le (by omega), j.le (by omega), k.le (by omega), l.le (by omega), m.le (by omega)⟩
theorem RmW.of {S T : St} (h : T.2.2.1 = S.2.2.1) {n : Nat} (hr : RmW S n) : RmW T n := by
  obtain ⟨a, b, c, d, e, f, g, i, j, k, l, m⟩ := hr
  exact ⟨a.of h, b.of h, c.of h, d.of h, e.of h, f.of h, g.of h, i.of h, j.of h, k.of h, l.of h, m.of h⟩
/-- pages enough for r points -/
def PG (S : St) (r : Nat) : Prop := r ≤ 32 * gn S 18 ∧ r ≤ 32 * gn S 19 ∧ 6 * r ≤ 32 * gn S 20 ∧ 6 * r ≤ 32 * gn S 21 ∧ r + 1 ≤ 32 * gn S 22 ∧ 2 * r ≤ 32 * gn S 23 ∧ 2 * r ≤ 32 * gn S 24 ∧ 2 * r ≤ 32 * gn S 25 ∧ 2 * r ≤ 32 * gn S 26 ∧ 2 * r ≤ 32 * gn S 27 ∧ r + 1 ≤ 32 * gn S 28 ∧ r ≤ 32 * gn S 29
theorem PG.gr {S T : St} (h : gr S T) {r : Nat} (hp : PG S r) : PG T r := by
  have e : ∀ k, 18 ≤ k → gn T k = gn S k := h.2.2.1
  unfold PG at *
  rw [e 18 (by omega), e 19 (by omega), e 20 (by omega), e 21 (by omega), e 22 (by omega), e 23 (by omega), e 24 (by omega), e 25 (by omega), e 26 (by omega), e 27 (by omega), e 28 (by omega), e 29 (by omega)]
  exact hp
theorem PG.of {S T : St} (h : T.2.2.1 = S.2.2.1) {r : Nat} (hp : PG S r) : PG T r := by
  have e : ∀ k, gn T k = gn S k := fun k => by show T.2.2.1 k = S.2.2.1 k; rw [h]
  unfold PG at *
  simp only [e]
  exact hp
theorem f_makeRoom {S : St} {n r : Nat} (h : RmW S n) (hp : PG S r) (hr : n + 1 ≤ r) (hr2 : r ≤ 1024) : ∃ T, f_Pn_makeRoom (nI (n + 1)) S = some T ∧ gr S T ∧ Rm T (n + 1) := by
  obtain ⟨a, b, c, d, e, f, g, i, j, k, l, m⟩ := h
  obtain ⟨p1, p2, p3, p4, p5, p6, p7, p8, p9, p10, p11, p12⟩ := hp
  have m6 : 6 * nI (n + 1) = nI (6 * (n + 1)) := nI_mul 6 (n + 1)
  have m2 : 2 * nI (n + 1) = nI (2 * (n + 1)) := nI_mul 2 (n + 1)
  unfold f_Pn_makeRoom f_Pn_makeRoom_0 f_Pt_makeRoom f_Pt_makeRoom_0 f_Nt_makeRoom f_Nt_makeRoom_0 f_Rl_makeRoom f_Rl_makeRoom_0 f_Ol_makeRoom f_Ol_makeRoom_0
  rw [m6, m2, nI_1]
  obtain ⟨T1, q1, g1, r1⟩ := reach_ok (d := n + 1) (by decide) (by decide) a (nI_toInt (by omega)) (by omega) (by show _ ≤ 32 * gn _ 18; omega)
  have G1 := g1
  obtain ⟨T2, q2, g2, r2⟩ := reach_ok (d := n + 1) (by decide) (by decide) (G1.cap (by decide) (by decide) b) (nI_toInt (by omega)) (by omega) (by show _ ≤ 32 * gn _ 19; rw [G1.2.2.1 19 (by omega)]; omega)
  have G2 := G1.trans g2
  obtain ⟨T3, q3, g3, r3⟩ := reach_ok (d := 6 * (n + 1)) (by decide) (by decide) (G2.cap (by decide) (by decide) c) (nI_toInt (by omega)) (by omega) (by show _ ≤ 32 * gn _ 20; rw [G2.2.2.1 20 (by omega)]; omega)
  have G3 := G2.trans g3
  obtain ⟨T4, q4, g4, r4⟩ := reach_ok (d := 6 * (n + 1)) (by decide) (by decide) (G3.cap (by decide) (by decide) d) (nI_toInt (by omega)) (by omega) (by show _ ≤ 32 * gn _ 21; rw [G3.2.2.1 21 (by omega)]; omega)
  have G4 := G3.trans g4
  obtain ⟨T5, q5, g5, r5⟩ := reach_ok (d := n + 1 + 1) (by decide) (by decide) (G4.cap (by decide) (by decide) e) (nI_toInt (by omega)) (by omega) (by show _ ≤ 32 * gn _ 22; rw [G4.2.2.1 22 (by omega)]; omega)
  have G5 := G4.trans g5
  obtain ⟨T6, q6, g6, r6⟩ := reach_ok (d := 2 * (n + 1)) (by decide) (by decide) (G5.cap (by decide) (by decide) f) (nI_toInt (by omega)) (by omega) (by show _ ≤ 32 * gn _ 23; rw [G5.2.2.1 23 (by omega)]; omega)
  have G6 := G5.trans g6
  obtain ⟨T7, q7, g7, r7⟩ := reach_ok (d := 2 * (n + 1)) (by decide) (by decide) (G6.cap (by decide) (by decide) g) (nI_toInt (by omega)) (by omega) (by show _ ≤ 32 * gn _ 24; rw [G6.2.2.1 24 (by omega)]; omega)
  have G7 := G6.trans g7
  obtain ⟨T8, q8, g8, r8⟩ := reach_ok (d := 2 * (n + 1)) (by decide) (by decide) (G7.cap (by decide) (by decide) i) (nI_toInt (by omega)) (by omega) (by show _ ≤ 32 * gn _ 25; rw [G7.2.2.1 25 (by omega)]; omega)
  have G8 := G7.trans g8
  obtain ⟨T9, q9, g9, r9⟩ := reach_ok (d := 2 * (n + 1)) (by decide) (by decide) (G8.cap (by decide) (by decide) j) (nI_toInt (by omega)) (by omega) (by show _ ≤ 32 * gn _ 26; rw [G8.2.2.1 26 (by omega)]; omega)
  have G9 := G8.trans g9
  obtain ⟨T10, q10, g10, r10⟩ := reach_ok (d := 2 * (n + 1)) (by decide) (by decide) (G9.cap (by decide) (by decide) k) (nI_toInt (by omega)) (by omega) (by show _ ≤ 32 * gn _ 27; rw [G9.2.2.1 27 (by omega)]; omega)
  have G10 := G9.trans g10
  obtain ⟨T11, q11, g11, r11⟩ := reach_ok (d := n + 1 + 1) (by decide) (by decide) (G10.cap (by decide) (by decide) l) (nI_toInt (by omega)) (by omega) (by show _ ≤ 32 * gn _ 28; rw [G10.2.2.1 28 (by omega)]; omega)
  have G11 := G10.trans g11
  obtain ⟨T12, q12, g12, r12⟩ := reach_ok (d := n + 1) (by decide) (by decide) (G11.cap (by decide) (by decide) m) (nI_toInt (by omega)) (by omega) (by show _ ≤ 32 * gn _ 29; rw [G11.2.2.1 29 (by omega)]; omega)
  rw [q1, bd_s, q2, bd_s, bd_s, q3, bd_s, q4, bd_s, q5, bd_s, q6, bd_s, q7, bd_s, q8, bd_s, bd_s, q9, bd_s, q10, bd_s, q11, bd_s, bd_s, q12, bd_s, bd_s]
  have h11 := g12
  have h10 := g11.trans h11
  have h9 := g10.trans h10
  have h8 := g9.trans h9
  have h7 := g8.trans h8
  have h6 := g7.trans h7
  have h5 := g6.trans h6
  have h4 := g5.trans h5
  have h3 := g4.trans h4
  have h2 := g3.trans h3
  have h1 := g2.trans h2
  exact ⟨T12, rfl, G11.trans g12, h1.cap (by decide) (by decide) r1, h2.cap (by decide) (by decide) r2, h3.cap (by decide) (by decide) r3, h4.cap (by decide) (by decide) r4, h5.cap (by decide) (by decide) r5, h6.cap (by decide) (by decide) r6, h7.cap (by decide) (by decide) r7, h8.cap (by decide) (by decide) r8, h9.cap (by decide) (by decide) r9, h10.cap (by decide) (by decide) r10, h11.cap (by decide) (by decide) r11, r12⟩
