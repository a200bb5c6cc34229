/-! THE REFERENCE'S SIDE, 11: all that it knows -/
section
variable {S T : St} {n : Nat} {X Y : Nat → Int} {G m : Nat} {s tw : Nat → Nat} {CL : List (List Nat)} {K : List Nat}
theorem ISC.lt (hK : ISC X Y (List.range n) K) {x : Nat} (hx : x ∈ K) : x < n := by
  obtain ⟨a, b, c, -, hK⟩ := hK
  exact List.mem_range.mp ((hK.1 x).mp hx).1
theorem SDs_lt (hD : DN X Y n) (h : ∀ K ∈ CL, ISC X Y (List.range n) K) : ∀ p ∈ SDs CL, p.1 < n ∧ p.2 < n := by
  intro p hp
  obtain ⟨K, hK, hp⟩ := List.mem_flatMap.mp hp
  obtain ⟨r, -, h1, h2, -⟩ := (h K hK).side (fun i hi j hj => hD i (List.mem_range.mp hi) j (List.mem_range.mp hj)) (p := p.1) (q := p.2) hp
  exact ⟨(h K hK).lt h1, (h K hK).lt h2⟩
/-- all over the net -/
theorem m_know_loop (h : NETX X Y n G m s tw) : ∀ (d fuel i : Nat) (T : St) (CL : List (List Nat)), 3 * m + 1 = i + d → d < fuel → MP T n X Y → gi T 7 = nI i → KS T (SDs CL) (TLs CL) → FND X Y (List.range n) CL → CL ≠ [] → i ≤ (SDs CL).length → (∀ j (hj : j < i) (h2 : j < (SDs CL).length), ((SDs CL)[j].2, (SDs CL)[j].1) ∈ SDs CL ∨ NoL X Y (List.range n) (SDs CL)[j].2 (SDs CL)[j].1) → ∃ R L, f_Md_know_137 fuel T = some R ∧ TRI X Y n L ∧ L.length ≤ 2048 ∧ gi R 4 = nI L.length ∧ HT R L ∧ MP R n X Y ∧ gi R 1 = gi T 1 ∧ gi R 0 = gi T 0 ∧ gi R 3 = gi T 3 ∧ gi R 5 = gi T 5 ∧ ga R 6 = ga T 6 ∧ ga R 11 = ga T 11 := by
  have n3 := h.n3
  have hm := h.2.2.2.1
  intro d
  induction d with
  | zero =>
    intro fuel i T CL hi hf hT h7 hK hF hne hil hcl
    exfalso
    have b1 := hF.le h.1 h.2.1 h.2.2.1
    have b2 := hF.2.2
    omega
  | succ d ih =>
    intro fuel i T CL hi hf hT h7 hK hF hne hil hcl
    obtain ⟨fuel, rfl⟩ : ∃ j, fuel = j + 1 := ⟨fuel - 1, by omega⟩
    have hn := hT.2.1
    have b1 := hF.le h.1 h.2.1 h.2.2.1
    have b2 := hF.2.2
    have slt := SDs_lt h.dn hF.1
    have l7 := hT.2.2.1.2.2.2.2.2.2.1
    have l8 := hT.2.2.1.2.2.2.2.2.2.2.1
    rw [f_Md_know_137]
    dsimp only
    by_cases c : (SDs CL).length ≤ i
    · -- all looked at
      rw [hK.1, h7, if_pos (nI_le c (by omega))]
      have told := fun t ht => hF.told h.1 (t := t) ht
      obtain ⟨R, L, r1, r2, r3, r4, r5⟩ := m_sort hT.2.2.1 (l := TLs CL) ⟨hK.2.2.2.2.1, hK.2.2.2.2.2.1, hK.2.2.2.2.2.2⟩ hK.2.2.2.1 (by omega) (fun t ht => by
        have := told t ht
        have a1 := List.mem_range.mp this.1.1
        have a2 := List.mem_range.mp this.1.2.1
        have a3 := List.mem_range.mp this.1.2.2.1
        omega) hF.2.1
      rw [r1, bd_s]
      have i0 : ∀ k, gi R k = gi T k := fun k => by show R.1 k = T.1 k; rw [r5.1]
      refine ⟨R, L, rfl, ⟨r2, fun t => ?_⟩, by rw [r3.length_eq]; omega, by rw [i0, r3.length_eq]; exact hK.2.2.2.1, r4, hT.of (i0 2) r5.2.1 (r5.2.2 1 (by decide)) (r5.2.2 2 (by decide)), i0 1, i0 0, i0 3, i0 5, r5.2.2 6 (by decide), r5.2.2 11 (by decide)⟩
      rw [r3.mem_iff]
      constructor
      · exact fun ht => told t ht
      · rintro ⟨q1, q2, q3⟩
        refine hF.all h.1 h.2.1 h.2.2.1 hne (fun a b hab => ?_) q1 q2 q3
        obtain ⟨j, hj, e⟩ := List.getElem_of_mem hab
        have := hcl j (by omega) hj
        rw [e] at this
        exact this
    · have hc : i < (SDs CL).length := by omega
      have e7 := hK.2.1 i (by simpa using hc)
      have e8 := hK.2.2.1 i (by simpa using hc)
      rw [map_getD _ _ hc] at e7 e8
      rw [hK.1, h7, if_neg (nI_ge hc (by omega)), l8, l7, inb_n (by omega) (by omega), as_s, as_s, nI_clampN (by omega), e7, e8]
      have mem := List.getElem_mem hc
      have sl := slt _ mem
      obtain ⟨K, hKm, hs⟩ := List.mem_flatMap.mp mem
      generalize hpq : (SDs CL)[i] = pq at *
      obtain ⟨p, q⟩ := pq
      dsimp only at sl e7 e8 ⊢
      have hor := h.beyond (hF.1 K hKm) hs
      obtain ⟨R, r1, r2, r3⟩ := m_look hT h.dn hK (by omega) (by omega) slt sl.2 sl.1 (Or.inr hor)
      rw [r1, bd_s, bn_s]
      have g7 : gi R 7 = nI i := by rw [r2.1 7 (by decide) (by decide) (by decide)]; exact h7
      rw [g7, nI_1]
      have fin : ∀ CL', KS R (SDs CL') (TLs CL') → FND X Y (List.range n) CL' → CL' ≠ [] → (∃ Z, SDs CL' = SDs CL ++ Z) → ((q, p) ∈ SDs CL' ∨ NoL X Y (List.range n) q p) → ∃ R' L, f_Md_know_137 fuel (seti R 7 (nI (i + 1))) = some R' ∧ TRI X Y n L ∧ L.length ≤ 2048 ∧ gi R' 4 = nI L.length ∧ HT R' L ∧ MP R' n X Y ∧ gi R' 1 = gi T 1 ∧ gi R' 0 = gi T 0 ∧ gi R' 3 = gi T 3 ∧ gi R' 5 = gi T 5 ∧ ga R' 6 = ga T 6 ∧ ga R' 11 = ga T 11 := by
        intro CL' k1 k2 k3 ⟨Z, k4⟩ k5
        have le : (SDs CL).length ≤ (SDs CL').length := by rw [k4]; simp
        obtain ⟨R', L, w1, w2, w3, w4, w5, w6, w7, w8, w9, w10, w11, w12⟩ := ih fuel (i + 1) (seti R 7 (nI (i + 1))) CL' (by omega) (by omega) ((r2.mp hT).of (gi_seti_ne _ _ (by decide)) rfl rfl rfl) (gi_seti _ _ _) (by
          obtain ⟨z1, z2, z3, z4, z5, z6, z7⟩ := k1
          exact ⟨by rw [gi_seti_ne _ _ (by decide)]; exact z1, z2, z3, by rw [gi_seti_ne _ _ (by decide)]; exact z4, z5, z6, z7⟩) k2 k3 (by omega) (fun j hj h2 => by
          by_cases e : j < i
          · have t := hcl j e (by omega)
            have ej : (SDs CL')[j] = (SDs CL)[j]'(by omega) := by
              have : j < (SDs CL ++ Z).length := by rw [← k4]; exact h2
              have e1 : (SDs CL')[j] = (SDs CL ++ Z)[j] := by simp only [k4]
              rw [e1, List.getElem_append_left (by omega)]
            rw [ej]
            rcases t with t | t
            · exact Or.inl (by rw [k4]; exact List.mem_append.mpr (Or.inl t))
            · exact Or.inr t
          · have e : j = i := by omega
            subst e
            have ej : (SDs CL')[j] = (p, q) := by
              have : j < (SDs CL ++ Z).length := by rw [← k4]; exact h2
              have e1 : (SDs CL')[j] = (SDs CL ++ Z)[j] := by simp only [k4]
              rw [e1, List.getElem_append_left hc, hpq]
            rw [ej]
            exact k5)
        refine ⟨R', L, w1, w2, w3, w4, w5, w6, ?_, ?_, ?_, ?_, ?_, ?_⟩
        · rw [w7, gi_seti_ne _ _ (by decide)]; exact r2.1 1 (by decide) (by decide) (by decide)
        · rw [w8, gi_seti_ne _ _ (by decide)]; exact r2.1 0 (by decide) (by decide) (by decide)
        · rw [w9, gi_seti_ne _ _ (by decide)]; exact r2.1 3 (by decide) (by decide) (by decide)
        · rw [w10, gi_seti_ne _ _ (by decide)]; exact r2.1 5 (by decide) (by decide) (by decide)
        · rw [w11]; exact r2.2.2 6 (by decide)
        · rw [w12]; exact r2.2.2 11 (by decide)
      rcases r3 with ⟨r3, r4⟩ | ⟨r3, K', x, r4, r5, r6⟩
      · exact fin CL r4 hF hne ⟨[], by simp⟩ r3
      · obtain ⟨r0, sp⟩ := (hF.1 K hKm).side h.1.2.1 hs
        have bs := beyond h.1.2.1 sp r4 r5
        exact fin (CL ++ [K']) (by rw [SDs_add, TLs_add]; exact r6) (hF.add h.1 ⟨_, _, _, r4, r5⟩ bs r3) (by simp) ⟨sidesOf K', SDs_add CL K'⟩ (Or.inl (by rw [SDs_add]; exact List.mem_append.mpr (Or.inr bs)))
/-- the edge to begin with -/
theorem m_know_first (hT : MP T n X Y) {C : List Nat} (hC : HL T 6 C) (hC2 : 2 ≤ C.length) (hC0 : C.getD 0 0 < n) (hnx : nextC X Y n (C.getD 0 0) (C.getD 1 0)) : ∀ (d fuel k b : Nat), k + d = n → d < fuel → b < n → b ≠ C.getD 0 0 → gO X Y (C.getD 0 0) (C.getD 1 0) b = 0 → (∀ j, j < k → j ≠ C.getD 0 0 → gO X Y (C.getD 0 0) (C.getD 1 0) j = 0 → D2 X Y (C.getD 0 0) (X b) (Y b) ≤ D2 X Y (C.getD 0 0) (X j) (Y j)) → ∃ b', b' < n ∧ b' ≠ C.getD 0 0 ∧ gO X Y (C.getD 0 0) (C.getD 1 0) b' = 0 ∧ (∀ j, j < n → j ≠ C.getD 0 0 → gO X Y (C.getD 0 0) (C.getD 1 0) j = 0 → D2 X Y (C.getD 0 0) (X b') (Y b') ≤ D2 X Y (C.getD 0 0) (X j) (Y j)) ∧ f_Md_know_57 fuel (nI (C.getD 0 0)) (nI b) (nI k) T = bd (f_Md_look (nI (C.getD 0 0)) (nI b') T) (fun q => f_Md_know_137 FU q) := by
  have hn := hT.2.1
  have l6 := hT.2.2.1.2.2.2.2.2.1
  intro d
  induction d with
  | zero =>
    intro fuel k b hk hf hb hb0 hz hm
    obtain ⟨fuel, rfl⟩ : ∃ j, fuel = j + 1 := ⟨fuel - 1, by omega⟩
    have : k = n := by omega
    subst this
    refine ⟨b, hb, hb0, hz, hm, ?_⟩
    rw [f_Md_know_57]
    dsimp only
    rw [hT.1, if_pos (Int32.le_refl _)]
  | succ d ih =>
    intro fuel k b hk hf hb hb0 hz hm
    obtain ⟨fuel, rfl⟩ : ∃ j, fuel = j + 1 := ⟨fuel - 1, by omega⟩
    have hkn : k < n := by omega
    rw [f_Md_know_57]
    dsimp only
    rw [hT.1, if_neg (nI_ge hkn (by omega))]
    have skip := fun q => ih fuel (k + 1) b (by omega) (by omega) hb hb0 hz q
    unfold f_Md_know_125
    rw [bn_s, nI_1]
    by_cases c : k = C.getD 0 0
    · rw [if_pos (by rw [c])]
      refine skip (fun j hj j0 jz => hm j ?_ j0 jz)
      by_cases e : j = k
      · rw [e] at j0; exact absurd c j0
      · omega
    rw [if_neg (fun q => c ((nI_eq (by omega) (by omega)).mp q)), l6, show inb 1 1024 = true from rfl, as_s, show Int32.toNatClampNeg 1 = 1 from rfl, hC 1 (by omega), m_sideOf hT hC0 hnx.1 hkn, bd_s]
    dsimp only
    by_cases z : gO X Y (C.getD 0 0) (C.getD 1 0) k = 0
    · obtain ⟨r1, p1, p2⟩ := m_apartP hT hC0 hkn
      obtain ⟨r2, p3, p4⟩ := m_apartP hT hC0 hb
      rw [if_pos (sg_zero.mpr z), hT.b1 hkn, as_s, hT.b2 hkn, as_s, p1, bd_s]
      dsimp only
      rw [hT.b1 hb, as_s, hT.b2 hb, as_s, p3, bd_s]
      dsimp only
      by_cases g : r2.toInt ≤ r1.toInt
      · rw [if_pos ((cmp_nn _ _).mpr g), bn_s]
        refine skip (fun j hj j0 jz => ?_)
        by_cases e : j = k
        · rw [e]; rw [p2, p4] at g; exact g
        · exact hm j (by omega) j0 jz
      · rw [if_neg (fun q => g ((cmp_nn _ _).mp q)), bn_s]
        refine ih fuel (k + 1) k (by omega) (by omega) hkn c z (fun j hj j0 jz => ?_)
        rw [p2, p4] at g
        by_cases e : j = k
        · rw [e]; exact Int.le_refl _
        · have := hm j (by omega) j0 jz
          omega
    · rw [if_neg (fun q => z (sg_zero.mp q)), bn_s]
      refine skip (fun j hj j0 jz => hm j ?_ j0 jz)
      by_cases e : j = k
      · rw [e] at jz; exact absurd jz z
      · omega
end
