/-! THE REFERENCE'S SIDE, 12: it knows -/
def GR (X Y : Nat → Int) (n : Nat) : Prop := LIN X Y n ∨ ∃ G m s tw, NETX X Y n G m s tw
def KX (S : St) (X Y : Nat → Int) (n : Nat) (L : List (Nat × Nat × Nat)) (C : List Nat) : Prop := TRI X Y n L ∧ CORN X Y n C ∧ L.length ≤ 2048 ∧ C.length ≤ 1024 ∧ gi S 4 = nI L.length ∧ gi S 5 = nI C.length ∧ HT S L ∧ HL S 6 C
section
variable {S T : St} {n : Nat} {X Y : Nat → Int} {L : List (Nat × Nat × Nat)} {C : List Nat}
theorem KX.kn (h : KX S X Y n L C) (h3 : gi S 3 = 1) : KN S X Y n := by
  obtain ⟨h1, h2, h4, h5, h6, h7, h8, h9⟩ := h
  refine Or.inr ⟨h3, L, C, h1, h2, h4, h5, h6, h7, fun k hk => h8.at hk, fun k hk => ?_⟩
  rw [h9 k hk, getD_get hk]
theorem KN.kx (h : KN S X Y n) (h3 : gi S 3 ≠ 0) : gi S 3 = 1 ∧ ∃ L C, KX S X Y n L C := by
  rcases h with h | ⟨h3', L, C, h1, h2, h4, h5, h6, h7, h8, h9⟩
  · exact absurd h h3
  · refine ⟨h3', L, C, h1, h2, h4, h5, h6, h7, ⟨fun i hi => ?_, fun i hi => ?_, fun i hi => ?_⟩, fun i hi => ?_⟩
    · have hi' : i < L.length := by simpa using hi
      rw [map_getD L _ hi']; exact (h8 i hi').1
    · have hi' : i < L.length := by simpa using hi
      rw [map_getD L _ hi']; exact (h8 i hi').2.1
    · have hi' : i < L.length := by simpa using hi
      rw [map_getD L _ hi']; exact (h8 i hi').2.2
    · rw [getD_get hi]; exact h9 i hi
/-- the corners are there -/
theorem GR.corn (hd : DN X Y n) (hg : GR X Y n) : ∃ C, CORN X Y n C ∧ C.length ≤ n ∧ (LIN X Y n → C.length < 3) := by
  rcases hg with hl | ⟨G, m, s, tw, h⟩
  · have lc := lin_corn hd hl
    by_cases c : n = 0
    · exact ⟨[], lc.1 c, by simp, fun _ => by simp⟩
    · obtain ⟨a, ha⟩ := least_exists hd n (by omega) (Nat.le_refl _)
      obtain ⟨b, hb, hb2⟩ := greatest_exists hd n (by omega) (Nat.le_refl _)
      have t := lc.2 a b ha hb hb2
      refine ⟨_, t, ?_, fun _ => ?_⟩
      · by_cases e : b = a
        · rw [if_pos e]; simp; omega
        · rw [if_neg e]
          have := ha.1
          simp; omega
      · by_cases e : b = a
        · rw [if_pos e]; simp
        · rw [if_neg e]; simp
  · obtain ⟨e0, Lr, -, -, o, ol, -⟩ := h.out
    refine ⟨_, o.corn h.dn, ?_, fun q => absurd q h.not_lin⟩
    have := rowC_len (X := X) (Y := Y) (v := fun i => s (itr (sig tw) i e0)) (Lr - 1) 0
    have := o.1
    simp only [List.length_cons]
    omega
theorem m_know (h : MP S n X Y) (hk : KN S X Y n) (hd : DN X Y n) (hg : GR X Y n) : ∃ T L C, f_Md_know S = some T ∧ MP T n X Y ∧ gi T 1 = gi S 1 ∧ gi T 0 = gi S 0 ∧ ga T 11 = ga S 11 ∧ gi T 3 = 1 ∧ KX T X Y n L C := by
  have hn := h.2.1
  unfold f_Md_know f_Md_know_0
  by_cases c : gi S 3 = 0
  · rw [if_pos c, bn_s, bn_s, bn_s, bn_s]
    generalize hU : seti (seti (seti (seti S 3 1) 4 0) 6 0) 7 0 = U
    have uU : ∀ k, k ≠ 3 → k ≠ 4 → k ≠ 6 → k ≠ 7 → gi U k = gi S k := fun k a b c d => by
      rw [← hU, gi_seti_ne _ _ d, gi_seti_ne _ _ c, gi_seti_ne _ _ b, gi_seti_ne _ _ a]
    have u3 : gi U 3 = 1 := by rw [← hU]; rfl
    have u4 : gi U 4 = 0 := by rw [← hU]; rfl
    have u6 : gi U 6 = 0 := by rw [← hU]; rfl
    have u7 : gi U 7 = 0 := by rw [← hU]; rfl
    have ua : ∀ k, ga U k = ga S k := fun k => by rw [← hU]; rfl
    have un : U.2.2.1 = S.2.2.1 := by rw [← hU]; rfl
    have mU : MP U n X Y := h.of (uU 2 (by decide) (by decide) (by decide) (by decide)) un (ua 1) (ua 2)
    obtain ⟨C, hC, hCl, hC3⟩ := hg.corn hd
    obtain ⟨V, v1, v2, v3, v4⟩ := m_corners mU hd hC (by omega)
    have mV := v2.mp mU
    have hL6 : HL V 6 C := fun i hi => by rw [v4 i hi, getD_get hi]
    rw [v1, bd_s]
    have g1 : gi V 1 = gi S 1 := by rw [v2.1 1 (by decide)]; exact uU 1 (by decide) (by decide) (by decide) (by decide)
    have g0 : gi V 0 = gi S 0 := by rw [v2.1 0 (by decide)]; exact uU 0 (by decide) (by decide) (by decide) (by decide)
    have g3 : gi V 3 = 1 := by rw [v2.1 3 (by decide)]; exact u3
    have g4 : gi V 4 = 0 := by rw [v2.1 4 (by decide)]; exact u4
    have g6 : gi V 6 = 0 := by rw [v2.1 6 (by decide)]; exact u6
    have g7 : gi V 7 = 0 := by rw [v2.1 7 (by decide)]; exact u7
    have a11 : ga V 11 = ga S 11 := by rw [v2.2.2.2 11 (by decide)]; exact ua 11
    rw [v3]
    rcases hg with hl | ⟨G, m, s, tw, hN⟩
    · have c3 := hC3 hl
      rw [if_neg (show ¬ (3 : Int32) ≤ nI C.length from (show ¬ nI 3 ≤ nI C.length from nI_ge c3 (by omega)))]
      refine ⟨V, [], C, rfl, mV, g1, g0, a11, g3, ⟨List.Pairwise.nil, fun t => ⟨fun q => absurd q List.not_mem_nil, fun q => ?_⟩⟩, hC, by simp, by omega, g4, v3, ⟨fun i hi => absurd hi (Nat.not_lt_zero _), fun i hi => absurd hi (Nat.not_lt_zero _), fun i hi => absurd hi (Nat.not_lt_zero _)⟩, hL6⟩
      exfalso
      have s := q.1
      have := hl _ (List.mem_range.mp s.1) _ (List.mem_range.mp s.2.1) _ (List.mem_range.mp s.2.2.1)
      have := s.2.2.2.2.2.2.1
      omega
    · have c3 := hN.corn3 hC
      rw [if_pos (show (3 : Int32) ≤ nI C.length from (show nI 3 ≤ nI C.length from nI_le c3 (by omega)))]
      have l6 := mV.2.2.1.2.2.2.2.2.1
      rw [l6, show inb 0 1024 = true from rfl, as_s, bn_s, show inb 1 1024 = true from rfl, as_s, bn_s, show Int32.toNatClampNeg 0 = 0 from rfl, show Int32.toNatClampNeg 1 = 1 from rfl, hL6 0 (by omega), hL6 1 (by omega)]
      obtain ⟨e0, Lr, he0, hG, o, ol, -, -, x, hx⟩ := hN.out
      have eC := CORN_one hC (o.corn hd)
      have c00 : C.getD 0 0 = s (itr (sig tw) 0 e0) := by rw [eC]; rfl
      rcases hC with ⟨q, -⟩ | ⟨-, -, q2, q3, -⟩
      · have := hN.n3; omega
      have nx := (q3 0 (by omega)).1
      have nx : nextC X Y n (C.getD 0 0) (C.getD 1 0) := nx
      obtain ⟨b, b1, b2, b3, b4, b5⟩ := m_know_first mV hL6 (by omega) q2.1 nx n FU 0 (C.getD 1 0) (by omega) (by have := FU_big; omega) nx.1 nx.2.1 (gO_22 _ _) (fun j hj => by omega)
      rw [show (0 : Int32) = nI 0 from rfl, b5]
      rw [c00] at b2 b3 b4 nx
      have be := first_edge hd o nx b1 b2 b3 b4
      have be : b = s (itr (sig tw) 1 e0) := be
      have ks0 : KS V [] [] := ⟨g6, fun i hi => absurd hi (Nat.not_lt_zero _), fun i hi => absurd hi (Nat.not_lt_zero _), g4, fun i hi => absurd hi (Nat.not_lt_zero _), fun i hi => absurd hi (Nat.not_lt_zero _), fun i hi => absurd hi (Nat.not_lt_zero _)⟩
      obtain ⟨R, r1, r2, r3⟩ := m_look mV hd ks0 (by simp; omega) (by simp; omega) (fun p hp => absurd hp List.not_mem_nil) q2.1 b1 (Or.inr (Or.inr ⟨x, by rw [c00, be]; exact hx⟩))
      rw [r1, bd_s]
      have hxx : CE X Y (List.range n) (C.getD 0 0) b x := by rw [c00, be]; exact hx
      rcases r3 with ⟨r3, -⟩ | ⟨-, K, y, r4, r5, r6⟩
      · exfalso
        rcases r3 with r3 | r3
        · exact List.not_mem_nil r3
        · exact r3 x hxx.2.2.1 hxx.2.2.2.1
      have hF : FND X Y (List.range n) ([] ++ [K]) := by
        have fl := fan_len hN.1.2.1 ⟨_, _, _, r4, r5⟩
        have s0 : (K.getD 0 0, K.getD ((0 + 1) % K.length) 0) ∈ sidesOf K := sides_mem.mpr ⟨0, by omega, rfl, rfl⟩
        exact FND.nil.add hN.1 ⟨_, _, _, r4, r5⟩ s0 List.not_mem_nil
      obtain ⟨R', L, w1, w2, w3, w4, w5, w6, w7, w8, w9, w10, w11, w12⟩ := m_know_loop hN (3 * m + 1) FU 0 R ([] ++ [K]) (by omega) (by have := FU_big; have := hN.2.2.2.1; omega) (r2.mp mV) (by rw [r2.1 7 (by decide) (by decide) (by decide)]; exact g7) (by rw [SDs_add, TLs_add]; exact r6) hF (by simp) (by omega) (fun j hj => by omega)
      have w5' : gi R' 5 = nI C.length := by rw [w10, r2.1 5 (by decide) (by decide) (by decide)]; exact v3
      refine ⟨R', L, C, w1, w6, ?_, ?_, ?_, ?_, w2, ?_, w3, by omega, w4, w5', w5, ?_⟩
      · rw [w7, r2.1 1 (by decide) (by decide) (by decide)]; exact g1
      · rw [w8, r2.1 0 (by decide) (by decide) (by decide)]; exact g0
      · rw [w12, r2.2.2 11 (by decide)]; exact a11
      · rw [w9, r2.1 3 (by decide) (by decide) (by decide)]; exact g3
      · rw [eC]; exact o.corn hd
      · exact hL6.of (by rw [w11, r2.2.2 6 (by decide)])
  · rw [if_neg c]
    obtain ⟨h3, L, C, hx⟩ := hk.kx c
    exact ⟨S, L, C, rfl, h, rfl, rfl, rfl, h3, hx⟩
end
