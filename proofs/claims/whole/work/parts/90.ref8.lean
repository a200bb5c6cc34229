/-! THE REFERENCE'S SIDE, 8: to look over an edge -/
theorem nI_rem {a b : Nat} (ha : a < 2 ^ 31) (h0 : 0 < b) (hb : b < 2 ^ 31) : nI a - nI a / nI b * nI b = nI (a % b) := by
  have h := Nat.div_add_mod a b
  have hm : a / b * b = b * (a / b) := Nat.mul_comm _ _
  rw [nI_div ha h0 hb, nI_mul, nI_sub (by omega), show a - a / b * b = a % b by omega]
/-- sides and triangles found -/
def KS (T : St) (SD : List (Nat × Nat)) (TL : List (Nat × Nat × Nat)) : Prop := gi T 6 = nI SD.length ∧ HL T 7 (SD.map fun p => p.1) ∧ HL T 8 (SD.map fun p => p.2) ∧ gi T 4 = nI TL.length ∧ HL T 3 (TL.map fun t => t.1) ∧ HL T 4 (TL.map fun t => t.2.1) ∧ HL T 5 (TL.map fun t => t.2.2)
/-- what looking leaves alone -/
def frW (S T : St) : Prop := (∀ k, k ≠ 4 → k ≠ 6 → k ≠ 8 → gi T k = gi S k) ∧ T.2.2.1 = S.2.2.1 ∧ ∀ k, k < 3 ∨ k = 6 ∨ k = 11 → ga T k = ga S k
theorem frW.rfl' (S : St) : frW S S := ⟨fun _ _ _ _ => rfl, rfl, fun _ _ => rfl⟩
theorem frW.trans {S T R : St} (h : frW S T) (g : frW T R) : frW S R := ⟨fun k a b c => (g.1 k a b c).trans (h.1 k a b c), g.2.1.trans h.2.1, fun k a => (g.2.2 k a).trans (h.2.2 k a)⟩
theorem frW.ofK {S T : St} (h : frK S T) : frW S T := ⟨fun k _ _ c => h.1 k c, h.2.1, fun k a => h.2.2 k (by omega) (by omega)⟩
theorem frW.mp {S T : St} {n : Nat} {X Y : Nat → Int} (f : frW S T) (h : MP S n X Y) : MP T n X Y := h.of (f.1 2 (by decide) (by decide) (by decide)) f.2.1 (f.2.2 1 (by decide)) (f.2.2 2 (by decide))
theorem KS.ofK {S T : St} {SD : List (Nat × Nat)} {TL : List (Nat × Nat × Nat)} (h : KS S SD TL) (f : frK S T) : KS T SD TL := by
  obtain ⟨h1, h2, h3, h4, h5, h6, h7⟩ := h
  exact ⟨by rw [f.1 6 (by decide)]; exact h1, h2.of (f.2.2 7 (by decide) (by decide)), h3.of (f.2.2 8 (by decide) (by decide)), by rw [f.1 4 (by decide)]; exact h4, h5.of (f.2.2 3 (by decide) (by decide)), h6.of (f.2.2 4 (by decide) (by decide)), h7.of (f.2.2 5 (by decide) (by decide))⟩
section
variable {S T : St} {n : Nat} {X Y : Nat → Int} {K : List Nat} {SD : List (Nat × Nat)} {TL : List (Nat × Nat × Nat)} {CL : List (List Nat)}
theorem map_getD {α : Type} (l : List α) (f : α → Nat) {i : Nat} (h : i < l.length) : (l.map f).getD i 0 = f l[i] := by
  rw [List.getD_eq_getElem?_getD, List.getElem?_map, List.getElem?_eq_getElem h]; rfl
theorem m_isSide_loop (hT : LEN T) (hK : KS T SD TL) (hl : SD.length ≤ 6200) (hb : ∀ p ∈ SD, p.1 < 1024 ∧ p.2 < 1024) {a b : Nat} (ha : a < 1024) (hb' : b < 1024) : ∀ (d fuel i : Nat), i + d = SD.length → d < fuel → (∀ j (h : j < i) (h2 : j < SD.length), SD[j] ≠ (a, b)) → f_Md_isSide_5 fuel (nI a) (nI b) 0 (nI i) T = some (b32 ((a, b) ∈ SD), T) := by
  obtain ⟨h6, h7, h8, -⟩ := hK
  have l7 := hT.2.2.2.2.2.2.1
  have l8 := hT.2.2.2.2.2.2.2.1
  intro d
  induction d with
  | zero =>
    intro fuel i hi hf hj
    obtain ⟨fuel, rfl⟩ : ∃ j, fuel = j + 1 := ⟨fuel - 1, by omega⟩
    rw [f_Md_isSide_5]
    dsimp only
    rw [h6, if_pos (nI_le (by omega) (by omega)), b32_f (fun q => by
      obtain ⟨j, hj1, e⟩ := List.getElem_of_mem q
      exact hj j (by omega) hj1 e)]
    rfl
  | succ d ih =>
    intro fuel i hi hf hj
    obtain ⟨fuel, rfl⟩ : ∃ j, fuel = j + 1 := ⟨fuel - 1, by omega⟩
    have his : i < SD.length := by omega
    have e7 := h7 i (by simpa using his)
    have e8 := h8 i (by simpa using his)
    rw [map_getD SD _ his] at e7 e8
    have hbi := hb SD[i] (List.getElem_mem his)
    have eq1 : nI SD[i].1 = nI a ↔ SD[i].1 = a := nI_eq (by omega) (by omega)
    have eq2 : nI SD[i].2 = nI b ↔ SD[i].2 = b := nI_eq (by omega) (by omega)
    have next : SD[i] ≠ (a, b) → f_Md_isSide_5 fuel (nI a) (nI b) 0 (nI (i + 1)) T = some (b32 ((a, b) ∈ SD), T) := fun q => ih fuel (i + 1) (by omega) (by omega) (fun j h1 h2 => by
      by_cases r : j = i
      · subst r; exact q
      · exact hj j (by omega) h2)
    have no : SD[i] ≠ (a, b) → f_Md_isSide_44 (f_Md_isSide_5 fuel) (nI a) (nI b) (nI i) T = some (b32 ((a, b) ∈ SD), T) := fun q => by
      unfold f_Md_isSide_44 f_Md_isSide_45
      rw [bn_s, nI_1]
      exact next q
    rw [f_Md_isSide_5]
    dsimp only
    rw [h6, if_neg (nI_ge (by omega) (by omega)), if_pos rfl, l7, inb_n (by omega) (by omega), as_s, nI_clampN (by omega), e7]
    by_cases c : SD[i].1 = a
    · rw [if_pos (eq1.mpr c), l8, inb_n (by omega) (by omega), as_s, e8]
      by_cases e : SD[i].2 = b
      · rw [if_pos (eq2.mpr e)]
        have hm : (a, b) ∈ SD := by
          have : SD[i] = (a, b) := by rw [← c, ← e]
          rw [← this]; exact List.getElem_mem his
        unfold f_Md_isSide_45
        rw [bn_s, nI_1]
        obtain ⟨fuel, rfl⟩ : ∃ j, fuel = j + 1 := ⟨fuel - 1, by omega⟩
        rw [f_Md_isSide_5]
        dsimp only
        rw [b32_t hm]
        split
        · rfl
        · rw [if_neg (by decide)]; rfl
      · rw [if_neg (fun q => e (eq2.mp q))]
        exact no (fun q => e (by rw [q]))
    · rw [if_neg (fun q => c (eq1.mp q))]
      exact no (fun q => c (by rw [q]))
theorem m_isSide (hT : LEN T) (hK : KS T SD TL) (hl : SD.length ≤ 6200) (hb : ∀ p ∈ SD, p.1 < 1024 ∧ p.2 < 1024) {a b : Nat} (ha : a < 1024) (hb' : b < 1024) : f_Md_isSide (nI a) (nI b) T = some (b32 ((a, b) ∈ SD), T) := by
  unfold f_Md_isSide f_Md_isSide_0
  exact m_isSide_loop hT hK hl hb ha hb' SD.length FU 0 (by omega) (by have := FU_big; omega) (fun j h => absurd h (Nat.not_lt_zero _))
/-- what telling leaves alone -/
def frT (S T : St) : Prop := (∀ k, k ≠ 4 → gi T k = gi S k) ∧ T.2.2.1 = S.2.2.1 ∧ ∀ k, k < 3 ∨ 5 < k → ga T k = ga S k
theorem frT.trans {S T R : St} (h : frT S T) (g : frT T R) : frT S R := ⟨fun k a => (g.1 k a).trans (h.1 k a), g.2.1.trans h.2.1, fun k a => (g.2.2 k a).trans (h.2.2 k a)⟩
theorem m_tell (hT : LEN T) (hK : KS T SD TL) (hl : TL.length < 2048) {a b c : Nat} (ha : a < 1024) (hb : b < 1024) (hc : c < 1024) : ∃ T', f_Md_tell (nI a) (nI b) (nI c) T = some T' ∧ frT T T' ∧ KS T' SD (TL ++ [low3 a b c]) := by
  obtain ⟨h1, h2, h3, h4, h5, h6, h7⟩ := hK
  have l3 := hT.2.2.1
  have l4 := hT.2.2.2.1
  have l5 := hT.2.2.2.2.1
  have le : ∀ x y, x < 1024 → y < 1024 → (nI x ≤ nI y ↔ x ≤ y) := fun x y hx hy => nI_leI (by omega) (by omega)
  have lab := le a b ha hb
  have lcb := le c b hc hb
  have lac := le a c ha hc
  have lbc := le b c hb hc
  -- the three puts
  have fin : ∀ x y z : Nat, ∃ T', (f_Md_tell_117 (nI z) (nI TL.length) (seta (seta T 3 (upd (ga T 3) TL.length (nI x))) 4 (upd (ga T 4) TL.length (nI y)))) = some T' ∧ frT T T' ∧ KS T' SD (TL ++ [(x, y, z)]) := by
    intro x y z
    unfold f_Md_tell_117
    rw [show gn (seta (seta T 3 (upd (ga T 3) TL.length (nI x))) 4 (upd (ga T 4) TL.length (nI y))) 5 = gn T 5 from rfl, l5, inb_n (by omega) (by omega), as_s, bn_s, bn_s, nI_clampN (by omega)]
    refine ⟨_, rfl, ⟨fun k hk => gi_seti_ne _ _ hk, rfl, fun k hk => ?_⟩, ?_⟩
    · rw [ga_seti, ga_seta_ne _ _ (by omega), ga_seta_ne _ _ (by omega), ga_seta_ne _ _ (by omega)]
    · refine ⟨h1, h2, h3, ?_, ?_, ?_, ?_⟩
      · rw [gi_seti]
        show gi T 4 + 1 = _
        rw [h4, nI_1]; simp
      · rw [List.map_append]
        exact h5.put (x := x) (by rw [ga_seti, ga_seta_ne _ _ (by decide), ga_seta_ne _ _ (by decide), ga_seta]; simp)
      · rw [List.map_append]
        exact h6.put (x := y) (by rw [ga_seti, ga_seta_ne _ _ (by decide), ga_seta]; simp)
      · rw [List.map_append]
        exact h7.put (x := z) (by rw [ga_seti, ga_seta]; simp; rfl)
  have i3 : inb (nI TL.length) (gn T 3) = true := by rw [l3]; exact inb_n (by omega) (by omega)
  have i4 : inb (nI TL.length) (gn T 4) = true := by rw [l4]; exact inb_n (by omega) (by omega)
  have cl : Int32.toNatClampNeg (nI TL.length) = TL.length := nI_clampN (by omega)
  have h4' : ∀ f, gi (seta T 3 f) 4 = nI TL.length := fun f => h4
  have h4'' : ∀ f g, gi (seta (seta T 3 f) 4 g) 4 = nI TL.length := fun f g => h4
  have i4' : ∀ f, inb (nI TL.length) (gn (seta T 3 f) 4) = true := fun f => i4
  have g4' : ∀ f, ga (seta T 3 f) 4 = ga T 4 := fun f => ga_seta_ne _ _ (by decide)
  unfold f_Md_tell f_Md_tell_0 f_Md_tell_14 f_Md_tell_15 f_Md_tell_31 f_Md_tell_32 f_Md_tell_61 f_Md_tell_89 low3
  simp only [h4, i3, as_s, bn_s, cl, h4', i4', g4', h4'', if_true, show ((1 : Int32) = 0) = False from by decide, if_false, lab, lcb, lac, lbc]
  by_cases c1 : b < a ∧ b < c
  · rw [if_neg (by omega), if_neg (by omega), if_pos c1]
    by_cases c2 : a ≤ c
    · rw [if_pos c2]; exact fin b c a
    · rw [if_neg c2]
      by_cases c3 : b ≤ c
      · rw [if_pos c3]; exact fin b c a
      · omega
  · rw [if_neg c1]
    have t : ∀ (A : Option St), (if a ≤ b then A else if c ≤ b then A else (if a ≤ c then f_Md_tell_117 (nI a) (nI TL.length) (seta (seta T 3 (upd (ga T 3) TL.length (nI b))) 4 (upd (ga T 4) TL.length (nI c))) else if b ≤ c then f_Md_tell_117 (nI a) (nI TL.length) (seta (seta T 3 (upd (ga T 3) TL.length (nI b))) 4 (upd (ga T 4) TL.length (nI c))) else f_Md_tell_117 (nI a) (nI TL.length) (seta (seta T 3 (upd (ga T 3) TL.length (nI b))) 4 (upd (ga T 4) TL.length (nI c))))) = A := by
      intro A
      by_cases q : a ≤ b
      · rw [if_pos q]
      · rw [if_neg q, if_pos (by omega)]
    rw [t]
    by_cases c2 : c < a ∧ c < b
    · rw [if_neg (by omega), if_neg (by omega), if_pos c2]
      exact fin c a b
    · rw [if_neg c2]
      by_cases c3 : a ≤ c
      · rw [if_pos c3]; exact fin a b c
      · rw [if_neg c3, if_pos (by omega)]; exact fin a b c
end
