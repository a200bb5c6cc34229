/-! THE REFERENCE'S SIDE, 10: its triangles in order -/
/-- three rows hold a list of threes -/
def HT (T : St) (l : List (Nat × Nat × Nat)) : Prop := HL T 3 (l.map fun t => t.1) ∧ HL T 4 (l.map fun t => t.2.1) ∧ HL T 5 (l.map fun t => t.2.2)
theorem HT.at {T : St} {l : List (Nat × Nat × Nat)} (h : HT T l) {i : Nat} (hi : i < l.length) : ga T 3 i = nI l[i].1 ∧ ga T 4 i = nI l[i].2.1 ∧ ga T 5 i = nI l[i].2.2 := by
  refine ⟨?_, ?_, ?_⟩
  · rw [h.1 i (by simpa using hi), map_getD l _ hi]
  · rw [h.2.1 i (by simpa using hi), map_getD l _ hi]
  · rw [h.2.2 i (by simpa using hi), map_getD l _ hi]
def frO (S T : St) : Prop := T.1 = S.1 ∧ T.2.2.1 = S.2.2.1 ∧ ∀ k, k < 3 ∨ 5 < k → ga T k = ga S k
theorem frO.rfl' (S : St) : frO S S := ⟨rfl, rfl, fun _ _ => rfl⟩
theorem frO.trans {S T R : St} (h : frO S T) (g : frO T R) : frO S R := ⟨g.1.trans h.1, g.2.1.trans h.2.1, fun k a => (g.2.2 k a).trans (h.2.2 k a)⟩
section
variable {T : St} {l A B : List (Nat × Nat × Nat)}
def sm3 (l : List (Nat × Nat × Nat)) : Prop := ∀ t ∈ l, t.1 < 1024 ∧ t.2.1 < 1024 ∧ t.2.2 < 1024
theorem m_isBefore (hT : LEN T) (h : HT T l) (hs : sm3 l) (hl : l.length ≤ 2048) {i j : Nat} (hi : i < l.length) (hj : j < l.length) : f_Md_isBefore (nI i) (nI j) T = some (b32 (lex3 l[i] l[j]), T) := by
  have ei := h.at hi
  have ej := h.at hj
  have si := hs _ (List.getElem_mem hi)
  have sj := hs _ (List.getElem_mem hj)
  have l3 := hT.2.2.1
  have l4 := hT.2.2.2.1
  have l5 := hT.2.2.2.2.1
  unfold f_Md_isBefore f_Md_isBefore_0
  rw [l3, l4, l5]
  simp only [inb_n (show i < 2048 by omega) (by omega), inb_n (show j < 2048 by omega) (by omega), as_s, nI_clampN (show i < 2 ^ 31 by omega), nI_clampN (show j < 2 ^ 31 by omega), ei.1, ei.2.1, ei.2.2, ej.1, ej.2.1, ej.2.2]
  have q1 : nI l[i].1 = nI l[j].1 ↔ l[i].1 = l[j].1 := nI_eq (by omega) (by omega)
  have q2 : nI l[i].2.1 = nI l[j].2.1 ↔ l[i].2.1 = l[j].2.1 := nI_eq (by omega) (by omega)
  have q3 : nI l[j].1 ≤ nI l[i].1 ↔ l[j].1 ≤ l[i].1 := nI_leI (by omega) (by omega)
  have q4 : nI l[j].2.1 ≤ nI l[i].2.1 ↔ l[j].2.1 ≤ l[i].2.1 := nI_leI (by omega) (by omega)
  have q5 : nI l[j].2.2 ≤ nI l[i].2.2 ↔ l[j].2.2 ≤ l[i].2.2 := nI_leI (by omega) (by omega)
  simp only [q1, q2, q3, q4, q5]
  unfold lex3
  by_cases c1 : l[i].1 = l[j].1
  · rw [if_pos c1]
    by_cases c2 : l[i].2.1 = l[j].2.1
    · rw [if_pos c2]
      by_cases c3 : l[j].2.2 ≤ l[i].2.2
      · rw [if_pos c3, b32_f (by omega)]
      · rw [if_neg c3, b32_t (by omega)]
    · rw [if_neg c2]
      by_cases c3 : l[j].2.1 ≤ l[i].2.1
      · rw [if_pos c3, b32_f (by omega)]
      · rw [if_neg c3, b32_t (by omega)]
  · rw [if_neg c1]
    by_cases c3 : l[j].1 ≤ l[i].1
    · rw [if_pos c3, b32_f (by omega)]
    · rw [if_neg c3, b32_t (by omega)]
/-- two neighbours of a list change places -/
theorem swap_getD (P Q : List Nat) (x y i : Nat) : (P ++ x :: y :: Q).getD i 0 = if i = P.length then x else if i = P.length + 1 then y else (P ++ y :: x :: Q).getD i 0 := by
  rw [List.getD_eq_getElem?_getD, List.getD_eq_getElem?_getD]
  by_cases c1 : i < P.length
  · rw [if_neg (by omega), if_neg (by omega), List.getElem?_append_left c1, List.getElem?_append_left c1]
  · rw [List.getElem?_append_right (by omega), List.getElem?_append_right (by omega)]
    obtain ⟨d, rfl⟩ : ∃ d, i = P.length + d := ⟨i - P.length, by omega⟩
    rw [show P.length + d - P.length = d by omega]
    match d with
    | 0 => simp
    | 1 => simp
    | d + 2 => rw [if_neg (by omega), if_neg (by omega)]; rfl
theorem HL.swap {S T : St} {k : Nat} {P Q : List Nat} {x y : Nat} (h : HL S k (P ++ y :: x :: Q)) (e : ga T k = upd (upd (ga S k) (P.length + 1) (ga S k P.length)) P.length (ga S k (P.length + 1))) : HL T k (P ++ x :: y :: Q) := by
  have l1 : (P ++ y :: x :: Q).length = P.length + (Q.length + 2) := by simp
  have l2 : (P ++ x :: y :: Q).length = P.length + (Q.length + 2) := by simp
  have g0 := h P.length (by omega)
  have g1 := h (P.length + 1) (by omega)
  intro i hi
  rw [swap_getD, e]
  have s0 := swap_getD P Q y x P.length
  have s1 := swap_getD P Q y x (P.length + 1)
  rw [if_pos rfl] at s0
  rw [if_neg (by omega), if_pos rfl] at s1
  rw [s0] at g0
  rw [s1] at g1
  by_cases c : i = P.length
  · rw [c, upd_same, if_pos rfl, g1]
  · rw [upd_ne _ _ c, if_neg c]
    by_cases d : i = P.length + 1
    · rw [d, upd_same, if_pos rfl, g0]
    · rw [upd_ne _ _ d, if_neg d]; exact h i (by omega)
theorem m_swap (hT : LEN T) {x y : Nat × Nat × Nat} (h : HT T (A ++ y :: x :: B)) (hl : (A ++ y :: x :: B).length ≤ 2048) : ∃ T', f_Md_swap (nI (A.length + 1)) T = some T' ∧ frO T T' ∧ HT T' (A ++ x :: y :: B) := by
  have l3 := hT.2.2.1
  have l4 := hT.2.2.2.1
  have l5 := hT.2.2.2.2.1
  have ll : (A ++ y :: x :: B).length = A.length + (B.length + 2) := by simp
  have i1 : inb (nI (A.length + 1)) 2048 = true := inb_n (by omega) (by omega)
  have i0 : inb (nI A.length) 2048 = true := inb_n (by omega) (by omega)
  have c1 : Int32.toNatClampNeg (nI (A.length + 1)) = A.length + 1 := nI_clampN (by omega)
  have c0 : Int32.toNatClampNeg (nI A.length) = A.length := nI_clampN (by omega)
  have gs : ∀ (R : St) (k j : Nat) (f : Nat → Int32), gn (seta R k f) j = gn R j := fun _ _ _ _ => rfl
  unfold f_Md_swap f_Md_swap_0
  simp only [nI_pred, gs, l3, l4, l5, i1, i0, c1, c0, as_s, bn_s]
  refine ⟨_, rfl, ⟨rfl, rfl, fun k hk => ?_⟩, ?_⟩
  · rw [ga_seta_ne _ _ (by omega), ga_seta_ne _ _ (by omega), ga_seta_ne _ _ (by omega), ga_seta_ne _ _ (by omega), ga_seta_ne _ _ (by omega), ga_seta_ne _ _ (by omega)]
  · obtain ⟨h3, h4, h5⟩ := h
    unfold HT
    simp only [List.map_append, List.map_cons] at h3 h4 h5 ⊢
    refine ⟨h3.swap ?_, h4.swap ?_, h5.swap ?_⟩
    · rw [List.length_map]; rfl
    · rw [List.length_map]; rfl
    · rw [List.length_map]; rfl
theorem lex3_tri {a b : Nat × Nat × Nat} (h : a ≠ b) : lex3 a b ∨ lex3 b a := by
  unfold lex3
  obtain ⟨a1, a2, a3⟩ := a
  obtain ⟨b1, b2, b3⟩ := b
  have : ¬ (a1 = b1 ∧ a2 = b2 ∧ a3 = b3) := fun q => h (by rw [q.1, q.2.1, q.2.2])
  dsimp only
  omega
theorem lex3_trans {a b c : Nat × Nat × Nat} (h : lex3 a b) (g : lex3 b c) : lex3 a c := by unfold lex3 at *; omega
theorem lex3_as (a b : Nat × Nat × Nat) (h : lex3 a b) : ¬ lex3 b a := by unfold lex3 at *; omega
/-- a new one among those in order -/
theorem m_sort_in {D : List (Nat × Nat × Nat)} {x : Nat × Nat × Nat} {n0 : Nat} (k2 : Int32 → St → Option St) (k : Int32) : ∀ (d fuel : Nat) (A B : List (Nat × Nat × Nat)) (T : St), A.length = d → d < fuel → LEN T → HT T (A ++ x :: (B ++ D)) → (A ++ x :: (B ++ D)).length = n0 → n0 ≤ 2048 → sm3 (A ++ x :: (B ++ D)) → (A ++ x :: (B ++ D)).Nodup → (A ++ B).Pairwise lex3 → (∀ b ∈ B, lex3 x b) → ∃ T' A' B', A' ++ B' = A ++ B ∧ (A' ++ x :: B').Pairwise lex3 ∧ HT T' (A' ++ x :: (B' ++ D)) ∧ frO T T' ∧ f_Md_sort_12 k2 fuel k (nI A.length) T = f_Md_sort_38 k2 k T' := by
  intro d
  induction d with
  | zero =>
    intro fuel A B T hA hf hT h hl hl2 hs hn hp hB
    obtain ⟨fuel, rfl⟩ : ∃ j, fuel = j + 1 := ⟨fuel - 1, by omega⟩
    have : A = [] := List.eq_nil_of_length_eq_zero hA
    subst this
    refine ⟨T, [], B, rfl, ?_, h, frO.rfl' T, ?_⟩
    · exact List.pairwise_cons.mpr ⟨hB, hp⟩
    · rw [f_Md_sort_12]
      dsimp only
      rw [if_pos (show nI ([] : List (Nat × Nat × Nat)).length ≤ 0 from (show nI 0 ≤ nI 0 from nI_le (Nat.le_refl _) (by omega)))]
  | succ d ih =>
    intro fuel A B T hA hf hT h hl hl2 hs hn hp hB
    obtain ⟨fuel, rfl⟩ : ∃ j, fuel = j + 1 := ⟨fuel - 1, by omega⟩
    obtain ⟨A0, y, rfl⟩ : ∃ A0 y, A = A0 ++ [y] := ⟨A.dropLast, A.getLast (by intro q; rw [q] at hA; simp at hA), (List.dropLast_concat_getLast _).symm⟩
    have hA0 : A0.length = d := by simpa using hA
    have eq : (A0 ++ [y]) ++ x :: (B ++ D) = A0 ++ y :: x :: (B ++ D) := by simp
    rw [eq] at h hl hs hn
    have ll : (A0 ++ y :: x :: (B ++ D)).length = A0.length + ((B ++ D).length + 2) := by simp
    have e1 : (A0 ++ y :: x :: (B ++ D))[A0.length + 1]'(by omega) = x := by
      rw [List.getElem_append_right (by omega)]; simp
    have e0 : (A0 ++ y :: x :: (B ++ D))[A0.length]'(by omega) = y := by
      rw [List.getElem_append_right (by omega)]; simp
    have bf := m_isBefore hT h hs (by omega) (i := A0.length + 1) (j := A0.length) (by omega) (by omega)
    rw [e1, e0] at bf
    rw [f_Md_sort_12]
    dsimp only
    rw [show (A0 ++ [y]).length = A0.length + 1 by simp, if_neg (nI_nle (by omega) (by omega)), nI_pred, bf, bd_s]
    dsimp only
    by_cases c : lex3 x y
    · rw [b32_t c, if_neg (by decide)]
      obtain ⟨T1, s1, s2, s3⟩ := m_swap hT h (by omega)
      rw [s1, bd_s, bn_s, show nI (A0.length + 1) + (-1) = nI A0.length by
        rw [← nI_pred A0.length, Int32.sub_eq_add_neg]]
      have pm : (A0 ++ x :: y :: (B ++ D)).Perm (A0 ++ y :: x :: (B ++ D)) := List.Perm.append_left _ (List.Perm.swap _ _ _)
      have lT1 : LEN T1 := MP.len hT s2.2.1
      have hp' : (A0 ++ (y :: B)).Pairwise lex3 := by
        have : A0 ++ [y] ++ B = A0 ++ (y :: B) := by simp
        rw [this] at hp; exact hp
      obtain ⟨T', A', B', r1, r2, r3, r4, r5⟩ := ih fuel A0 (y :: B) T1 hA0 (by omega) lT1 s3 (by rw [← hl]; exact pm.length_eq) hl2 (fun t ht => hs t (pm.mem_iff.mp ht)) (pm.nodup_iff.mpr hn) hp' (fun b hb => by
        rcases List.mem_cons.mp hb with q | q
        · rw [q]; exact c
        · exact hB b q)
      exact ⟨T', A', B', by rw [r1]; simp, r2, r3, s2.trans r4, r5⟩
    · rw [b32_f c, if_pos rfl]
      refine ⟨T, A0 ++ [y], B, rfl, ?_, by rw [eq]; exact h, frO.rfl' T, rfl⟩
      -- y before x, and so all of them
      have xy : x ≠ y := by
        intro q
        rw [q] at hn
        rw [List.nodup_append] at hn
        have := hn.2.1
        rw [List.nodup_cons] at this
        exact this.1 (List.mem_cons_self ..)
      have yx : lex3 y x := (lex3_tri xy).resolve_left c
      rw [List.pairwise_append] at hp ⊢
      refine ⟨hp.1, List.pairwise_cons.mpr ⟨hB, hp.2.1⟩, fun a ha b hb => ?_⟩
      have ax : lex3 a x := by
        rcases List.mem_append.mp ha with q | q
        · have := (List.pairwise_append.mp hp.1).2.2 a q y (by simp)
          exact lex3_trans this yx
        · rw [List.mem_singleton.mp q]; exact yx
      rcases List.mem_cons.mp hb with q | q
      · rw [q]; exact ax
      · exact hp.2.2 a ha b q
theorem m_sort_loop {n0 : Nat} : ∀ (d fuel : Nat) (P D : List (Nat × Nat × Nat)) (T : St), D.length = d → d < fuel → LEN T → HT T (P ++ D) → gi T 4 = nI n0 → (P ++ D).length = n0 → n0 ≤ 2048 → sm3 (P ++ D) → (P ++ D).Nodup → P.Pairwise lex3 → ∃ T' L, f_Md_sort_2 fuel (nI P.length) T = some T' ∧ L.Pairwise lex3 ∧ L.Perm (P ++ D) ∧ HT T' L ∧ frO T T' := by
  intro d
  induction d with
  | zero =>
    intro fuel P D T hD hf hT h h4 hl hl2 hs hn hp
    obtain ⟨fuel, rfl⟩ : ∃ j, fuel = j + 1 := ⟨fuel - 1, by omega⟩
    have : D = [] := List.eq_nil_of_length_eq_zero hD
    subst this
    rw [List.append_nil] at h hl hs hn
    rw [f_Md_sort_2]
    dsimp only
    rw [h4, if_pos (nI_le (by omega) (by omega))]
    exact ⟨T, P, rfl, hp, by rw [List.append_nil], h, frO.rfl' T⟩
  | succ d ih =>
    intro fuel P D T hD hf hT h h4 hl hl2 hs hn hp
    obtain ⟨fuel, rfl⟩ : ∃ j, fuel = j + 1 := ⟨fuel - 1, by omega⟩
    obtain ⟨x, D', rfl⟩ : ∃ x D', D = x :: D' := by
      cases D with
      | nil => simp at hD
      | cons x D' => exact ⟨x, D', rfl⟩
    have ll : (P ++ x :: D').length = P.length + (D'.length + 1) := by simp
    have hD' : D'.length = d := by simpa using hD
    rw [f_Md_sort_2]
    dsimp only
    rw [h4, if_neg (nI_ge (by omega) (by omega))]
    obtain ⟨T1, A', B', r1, r2, r3, r4, r5⟩ := m_sort_in (D := D') (x := x) (n0 := n0) (f_Md_sort_2 fuel) (nI P.length) P.length FU P [] T rfl (by have := FU_big; omega) hT (by rw [List.nil_append]; exact h) (by rw [List.nil_append]; exact hl) hl2 (by rw [List.nil_append]; exact hs) (by rw [List.nil_append]; exact hn) (by rw [List.append_nil]; exact hp) (fun b hb => absurd hb List.not_mem_nil)
    rw [r5]
    unfold f_Md_sort_38
    rw [bn_s, nI_1]
    rw [List.append_nil] at r1
    have e2 : (A' ++ x :: B') ++ D' = A' ++ x :: (B' ++ D') := by simp
    have pm : ((A' ++ x :: B') ++ D').Perm (P ++ x :: D') := by
      have p1 : (A' ++ x :: B').Perm (x :: (A' ++ B')) := List.perm_middle
      have p2 : (P ++ x :: D').Perm (x :: (P ++ D')) := List.perm_middle
      refine List.Perm.trans (List.Perm.append_right D' p1) (List.Perm.trans ?_ p2.symm)
      rw [r1]
      exact List.Perm.refl _
    have len : (A' ++ x :: B').length = P.length + 1 := by
      have := congrArg List.length r1
      simp at this
      simp
      omega
    obtain ⟨T', L, s1, s2, s3, s4, s5⟩ := ih fuel (A' ++ x :: B') D' T1 hD' (by omega) (MP.len hT r4.2.1) (by rw [e2]; exact r3) (by rw [show gi T1 4 = gi T 4 by show T1.1 4 = T.1 4; rw [r4.1]]; exact h4) (by rw [pm.length_eq]; exact hl) hl2 (fun t ht => hs t (pm.mem_iff.mp ht)) (pm.nodup_iff.mpr hn) r2
    rw [len] at s1
    exact ⟨T', L, s1, s2, s3.trans pm, s4, r4.trans s5⟩
theorem m_sort (hT : LEN T) (h : HT T l) (h4 : gi T 4 = nI l.length) (hl : l.length ≤ 2048) (hs : sm3 l) (hn : l.Nodup) : ∃ T' L, f_Md_sort T = some T' ∧ L.Pairwise lex3 ∧ L.Perm l ∧ HT T' L ∧ frO T T' := by
  unfold f_Md_sort f_Md_sort_0
  cases l with
  | nil =>
    refine ⟨T, [], ?_, List.Pairwise.nil, List.Perm.refl _, h, frO.rfl' T⟩
    have : FU = (FU - 1) + 1 := by unfold FU; rfl
    rw [this, f_Md_sort_2]
    dsimp only
    rw [h4, if_pos (show nI ([] : List (Nat × Nat × Nat)).length ≤ 1 from (show nI 0 ≤ nI 1 from nI_le (by omega) (by omega)))]
  | cons x D =>
    exact m_sort_loop (n0 := (x :: D).length) D.length FU [x] D T rfl (by have := FU_big; simp at hl; omega) hT h h4 (by simp) hl hs hn (List.pairwise_singleton ..)
end
