/-! THE REFERENCE'S SIDE, 9: over an edge -/
section
variable {S T : St} {n : Nat} {X Y : Nat → Int} {K : List Nat} {SD : List (Nat × Nat)} {TL : List (Nat × Nat × Nat)} {CL : List (List Nat)}
/-- the fan -/
theorem m_look_tell (hT : LEN T) (hK9 : HL T 9 K) (h8 : gi T 8 = nI K.length) (hKl : K.length ≤ 1024) (hK3 : 3 ≤ K.length) (hKn : ∀ x ∈ K, x < 1024) (hTL : TL.length + K.length ≤ 2048) : ∀ (d fuel j : Nat) (T' : St), j + 2 + d = K.length → d < fuel → frT T T' → KS T' SD (TL ++ (List.range j).map fun i => low3 (K.getD 0 0) (K.getD (i + 1) 0) (K.getD (i + 2) 0)) → ∃ R, f_Md_look_142 fuel (nI (j + 2)) T' = some R ∧ frT T R ∧ KS R SD (TL ++ fanOf K) := by
  have l9 := hT.2.2.2.2.2.2.2.2.1
  intro d
  induction d with
  | zero =>
    intro fuel j T' hj hf fr hk
    obtain ⟨fuel, rfl⟩ : ∃ j, fuel = j + 1 := ⟨fuel - 1, by omega⟩
    rw [f_Md_look_142]
    dsimp only
    rw [fr.1 8 (by decide), h8, if_pos (nI_le (by omega) (by omega))]
    refine ⟨T', rfl, fr, ?_⟩
    unfold fanOf
    rw [show K.length - 2 = j by omega]
    exact hk
  | succ d ih =>
    intro fuel j T' hj hf fr hk
    obtain ⟨fuel, rfl⟩ : ∃ j, fuel = j + 1 := ⟨fuel - 1, by omega⟩
    have lT' : LEN T' := MP.len hT fr.2.1
    have kb : ∀ i, i < K.length → K.getD i 0 < 1024 := fun i hi => hKn _ (getD_mem' hi)
    have k9 : ga T' 9 = ga T 9 := fr.2.2 9 (by decide)
    have l9' : gn T' 9 = 1024 := lT'.2.2.2.2.2.2.2.2.1
    rw [f_Md_look_142]
    dsimp only
    rw [fr.1 8 (by decide), h8, if_neg (nI_ge (by omega) (by omega)), l9', show inb 0 1024 = true from rfl, as_s, show nI (j + 2) - 1 = nI (j + 1) from nI_pred (j + 1), inb_n (by omega) (by omega), as_s, inb_n (by omega) (by omega), as_s, k9, show Int32.toNatClampNeg 0 = 0 from rfl, nI_clampN (by omega), nI_clampN (by omega), hK9 0 (by omega), hK9 (j + 1) (by omega), hK9 (j + 2) (by omega)]
    obtain ⟨T2, e1, e2, e3⟩ := m_tell lT' hk (by simp; omega) (kb 0 (by omega)) (kb (j + 1) (by omega)) (kb (j + 2) (by omega))
    rw [e1, bd_s, bn_s, nI_1]
    refine ih fuel (j + 1) T2 (by omega) (by omega) (fr.trans e2) ?_
    rw [List.range_succ, List.map_append, ← List.append_assoc]
    exact e3
/-- what the sides of a cell leave alone -/
def frS (S T : St) : Prop := (∀ k, k ≠ 6 → gi T k = gi S k) ∧ T.2.2.1 = S.2.2.1 ∧ ∀ k, k ≠ 7 → k ≠ 8 → ga T k = ga S k
theorem m_look_sides (hT : LEN T) (hK9 : HL T 9 K) (h8 : gi T 8 = nI K.length) (hKl : K.length ≤ 1024) (hK3 : 3 ≤ K.length) (hKn : ∀ x ∈ K, x < 1024) (hTL : TL.length + K.length ≤ 2048) (hSD : SD.length + K.length ≤ 6200) : ∀ (d fuel j : Nat) (T' : St), j + d = K.length → d < fuel → frS T T' → KS T' (SD ++ (List.range j).map fun i => (K.getD i 0, K.getD ((i + 1) % K.length) 0)) TL → ∃ R, f_Md_look_75 fuel (nI j) T' = some R ∧ frW T R ∧ KS R (SD ++ sidesOf K) (TL ++ fanOf K) := by
  intro d
  induction d with
  | zero =>
    intro fuel j T' hj hf fr hk
    obtain ⟨fuel, rfl⟩ : ∃ j, fuel = j + 1 := ⟨fuel - 1, by omega⟩
    have lT' : LEN T' := MP.len hT fr.2.1
    rw [f_Md_look_75]
    dsimp only
    rw [fr.1 8 (by decide), h8, if_pos (nI_le (by omega) (by omega))]
    have hk' : KS T' (SD ++ sidesOf K) (TL ++ (List.range 0).map fun i => low3 (K.getD 0 0) (K.getD (i + 1) 0) (K.getD (i + 2) 0)) := by
      rw [List.range_zero, List.map_nil, List.append_nil]
      unfold sidesOf
      have jl : j = K.length := by omega
      subst jl
      exact hk
    obtain ⟨R, r1, r2, r3⟩ := m_look_tell lT' (hK9.of (fr.2.2 9 (by decide) (by decide))) (by rw [fr.1 8 (by decide)]; exact h8) hKl hK3 hKn hTL (K.length - 2) FU 0 T' (by omega) (by have := FU_big; omega) ⟨fun _ _ => rfl, rfl, fun _ _ => rfl⟩ hk'
    refine ⟨R, r1, ⟨fun k a b c => ?_, r2.2.1.trans fr.2.1, fun k a => ?_⟩, r3⟩
    · rw [r2.1 k a, fr.1 k b]
    · rw [r2.2.2 k (by omega), fr.2.2 k (by omega) (by omega)]
  | succ d ih =>
    intro fuel j T' hj hf fr hk
    obtain ⟨fuel, rfl⟩ : ∃ j, fuel = j + 1 := ⟨fuel - 1, by omega⟩
    have lT' : LEN T' := MP.len hT fr.2.1
    have k9 : ga T' 9 = ga T 9 := fr.2.2 9 (by decide) (by decide)
    have g8 : gi T' 8 = nI K.length := by rw [fr.1 8 (by decide)]; exact h8
    have l7 : gn T' 7 = 6200 := lT'.2.2.2.2.2.2.1
    have l8 : gn T' 8 = 6200 := lT'.2.2.2.2.2.2.2.1
    have l9 : gn T' 9 = 1024 := lT'.2.2.2.2.2.2.2.2.1
    obtain ⟨q1, q2, q3, q4, q5, q6, q7⟩ := hk
    have hm : (j + 1) % K.length < K.length := Nat.mod_lt _ (by omega)
    generalize hX : (SD ++ (List.range j).map fun i => (K.getD i 0, K.getD ((i + 1) % K.length) 0)) = X0 at q1 q2 q3
    have xl : X0.length = SD.length + j := by rw [← hX]; simp
    have el2 : (X0.map fun p => p.2).length = X0.length := by simp
    have el1 : (X0.map fun p => p.1).length = X0.length := by simp
    rw [f_Md_look_75]
    dsimp only
    rw [g8, if_neg (nI_ge (by omega) (by omega)), l9, inb_n (by omega) (by omega), as_s, q1, l7, inb_n (by omega) (by omega), as_s, bn_s, nI_clampN (by omega), nI_clampN (by omega), k9, hK9 j (by omega)]
    generalize hA : seta T' 7 (upd (ga T' 7) X0.length (nI (K.getD j 0))) = A
    have a8 : gi A 8 = nI K.length := by rw [← hA]; exact g8
    have a6 : gi A 6 = nI X0.length := by rw [← hA]; exact q1
    have an9 : gn A 9 = 1024 := by rw [← hA]; exact l9
    have an8 : gn A 8 = 6200 := by rw [← hA]; exact l8
    have a9 : ga A 9 = ga T 9 := by rw [← hA, ga_seta_ne _ _ (by decide)]; exact k9
    rw [a8, show (!decide (nI K.length = 0)) = true by
      have : ¬ nI K.length = 0 := nI_ne0 (by omega) (by omega)
      simp [this], as_s, nI_1, nI_rem (by omega) (by omega) (by omega), an9, inb_n (by omega) (by omega), as_s, a6, an8, inb_n (by omega) (by omega), as_s, bn_s, bn_s, bn_s, nI_clampN (by omega), nI_clampN (by omega), a9, hK9 _ hm]
    refine ih fuel (j + 1) _ (by omega) (by omega) ⟨fun k hk' => ?_, ?_, fun k h1 h2 => ?_⟩ ?_
    · rw [gi_seti_ne _ _ hk', gi_seta, ← hA, gi_seta]; exact fr.1 k hk'
    · rw [← hA]; exact fr.2.1
    · rw [ga_seti, ga_seta_ne _ _ h2, ← hA, ga_seta_ne _ _ h1]; exact fr.2.2 k h1 h2
    · have eX : (SD ++ (List.range (j + 1)).map fun i => (K.getD i 0, K.getD ((i + 1) % K.length) 0)) = X0 ++ [(K.getD j 0, K.getD ((j + 1) % K.length) 0)] := by
        rw [List.range_succ, List.map_append, ← List.append_assoc, hX]; rfl
      rw [eX]
      have tl : ∀ k, k ≠ 7 → k ≠ 8 → ga (seti (seta A 8 (upd (ga A 8) X0.length (nI (K.getD ((j + 1) % K.length) 0)))) 6 (gi (seta A 8 (upd (ga A 8) X0.length (nI (K.getD ((j + 1) % K.length) 0)))) 6 + 1)) k = ga T' k := fun k h1 h2 => by
        rw [ga_seti, ga_seta_ne _ _ h2, ← hA, ga_seta_ne _ _ h1]
      refine ⟨?_, ?_, ?_, ?_, q5.of (tl 3 (by decide) (by decide)), q6.of (tl 4 (by decide) (by decide)), q7.of (tl 5 (by decide) (by decide))⟩
      · rw [gi_seti, gi_seta, a6, nI_1]; simp
      · rw [List.map_append]
        refine q2.put (x := K.getD j 0) ?_
        rw [ga_seti, ga_seta_ne _ _ (by decide), ← hA, ga_seta, el1]
      · rw [List.map_append]
        refine q3.put (x := K.getD ((j + 1) % K.length) 0) ?_
        rw [ga_seti, ga_seta, ← hA, ga_seta_ne _ _ (by decide), el2]
      · rw [gi_seti_ne _ _ (by decide), gi_seta, ← hA, gi_seta]; exact q4
/-- the best on the left, so far -/
def leftO (X Y : Nat → Int) (a b k : Nat) (o : Option Nat) : Prop := match o with
  | none => ∀ i, i < k → ¬ 0 < gO X Y a b i
  | some c => c < k ∧ 0 < gO X Y a b c ∧ ∀ i, i < k → 0 < gO X Y a b i → gV X Y (gQ X Y) a b c i ≤ 0
theorem m_look_loop (h : MP S n X Y) {a b : Nat} (ha : a < n) (hb : b < n) {Q : Option St → Prop} (hQ0 : ∀ T, frL S T → NoL X Y (List.range n) a b → Q (some T)) (hQ1 : ∀ T c, frL S T → leftO X Y a b n (some c) → Q (bd (f_Md_findCell (nI a) (nI b) (nI c) T) (fun q => f_Md_look_75 FU 0 q))) : ∀ (d fuel k : Nat) (o : Option Nat) (T : St), k + d = n → d < fuel → frL S T → leftO X Y a b k o → Q (f_Md_look_15 fuel (nI a) (nI b) (oI o) (nI k) T) := by
  have hn := h.2.1
  intro d
  induction d with
  | zero =>
    intro fuel k o T hk hf fr ho
    obtain ⟨fuel, rfl⟩ : ∃ j, fuel = j + 1 := ⟨fuel - 1, by omega⟩
    have : k = n := by omega
    subst this
    rw [f_Md_look_15]
    dsimp only
    rw [(fr.mp h).1, if_pos (Int32.le_refl _)]
    cases o with
    | none =>
      rw [if_neg (show ¬ 0 ≤ oI none by decide)]
      exact hQ0 T fr (fun i hi => ho i (List.mem_range.mp hi))
    | some c =>
      rw [if_pos (show 0 ≤ oI (some c) from nI_pos' (by have := ho.1; omega))]
      exact hQ1 T c fr ho
  | succ d ih =>
    intro fuel k o T hk hf fr ho
    obtain ⟨fuel, rfl⟩ : ∃ j, fuel = j + 1 := ⟨fuel - 1, by omega⟩
    have hkn : k < n := by omega
    have hT := fr.mp h
    rw [f_Md_look_15]
    dsimp only
    rw [hT.1, if_neg (nI_ge hkn (by omega)), m_sideOf hT ha hb hkn, bd_s]
    dsimp only
    have skip : ∀ T', frL S T' → leftO X Y a b (k + 1) o → Q (f_Md_look_54 (f_Md_look_15 fuel) (nI a) (nI b) (oI o) (nI k) T') := fun T' fr' ho' => by
      unfold f_Md_look_54
      rw [bn_s, nI_1]
      exact ih fuel (k + 1) o T' (by omega) (by omega) fr' ho'
    have take : ∀ T', frL S T' → leftO X Y a b (k + 1) (some k) → Q (f_Md_look_51 (f_Md_look_15 fuel) (nI a) (nI b) (nI k) T') := fun T' fr' ho' => by
      unfold f_Md_look_51 f_Md_look_54
      rw [bn_s, nI_1]
      exact ih fuel (k + 1) (some k) T' (by omega) (by omega) fr' ho'
    by_cases c : 0 < gO X Y a b k
    · rw [if_neg (fun q => by have := sg_le.mp q; omega)]
      cases o with
      | none =>
        rw [if_pos (show oI none < 0 by decide)]
        refine take T fr ⟨by omega, c, fun i hi h1 => ?_⟩
        by_cases q : i = k
        · rw [q, gV_at3]; exact Int.le_refl _
        · exact absurd h1 (ho i (by omega))
      | some x =>
        obtain ⟨o1, o2, o3⟩ := ho
        rw [if_neg (show ¬ oI (some x) < 0 from nI_pos (by omega)), show oI (some x) = nI x from rfl]
        obtain ⟨T', e1, e2⟩ := m_inCircle hT ha hb (show x < n by omega) hkn
        rw [e1, bd_s]
        dsimp only
        by_cases z : gV X Y (gQ X Y) a b x k ≤ 0
        · rw [if_pos (sg_le.mpr z)]
          refine skip T' (fr.trans e2) ⟨by omega, o2, fun i hi h1 => ?_⟩
          by_cases q : i = k
          · rw [q]; exact z
          · exact o3 i (by omega) h1
        · rw [if_neg (fun q => z (sg_le.mp q))]
          refine take T' (fr.trans e2) ⟨by omega, c, fun i hi h1 => ?_⟩
          by_cases q : i = k
          · rw [q, gV_at3]; exact Int.le_refl _
          · exact best_step o2 c h1 (by omega) (o3 i (by omega) h1)
    · rw [if_pos (sg_le.mpr (by omega))]
      refine skip T fr ?_
      cases o with
      | none =>
        intro i hi
        by_cases q : i = k
        · rw [q]; exact c
        · exact ho i (by omega)
      | some x =>
        refine ⟨by have := ho.1; omega, ho.2.1, fun i hi h1 => ?_⟩
        by_cases q : i = k
        · rw [q] at h1; exact absurd h1 c
        · exact ho.2.2 i (by omega) h1
/-- to look over an edge -/
theorem m_look (h : MP T n X Y) (hd : ∀ i, i < n → ∀ j, j < n → i ≠ j → dif X Y i j) (hK : KS T SD TL) (hSD : SD.length + n ≤ 6200) (hTL : TL.length + n ≤ 2048) (hb : ∀ p ∈ SD, p.1 < n ∧ p.2 < n) {a b : Nat} (ha : a < n) (hb' : b < n) (hor : (a, b) ∈ SD ∨ NoL X Y (List.range n) a b ∨ ∃ c, CE X Y (List.range n) a b c) : ∃ R, f_Md_look (nI a) (nI b) T = some R ∧ frW T R ∧ ((((a, b) ∈ SD ∨ NoL X Y (List.range n) a b) ∧ KS R SD TL) ∨ ((a, b) ∉ SD ∧ ∃ K c, CE X Y (List.range n) a b c ∧ CELL X Y (List.range n) a b c K ∧ KS R (SD ++ sidesOf K) (TL ++ fanOf K))) := by
  have hn := h.2.1
  unfold f_Md_look f_Md_look_0
  rw [m_isSide h.2.2.1 hK (by omega) (fun p hp => by have := hb p hp; omega) (by omega) (by omega), bd_s]
  dsimp only
  by_cases c : (a, b) ∈ SD
  · rw [b32_t c, if_neg (by decide)]
    exact ⟨T, rfl, frW.rfl' T, Or.inl ⟨Or.inl c, hK⟩⟩
  rw [b32_f c, if_pos rfl]
  refine m_look_loop h ha hb' (Q := fun r => ∃ R, r = some R ∧ frW T R ∧ ((((a, b) ∈ SD ∨ NoL X Y (List.range n) a b) ∧ KS R SD TL) ∨ ((a, b) ∉ SD ∧ ∃ K c, CE X Y (List.range n) a b c ∧ CELL X Y (List.range n) a b c K ∧ KS R (SD ++ sidesOf K) (TL ++ fanOf K)))) ?_ ?_ n FU 0 none T (by omega) (by have := FU_big; omega) ⟨rfl, rfl⟩ (fun i hi => by omega)
  · intro T' fr no
    exact ⟨T', rfl, frW.ofK (frK.ofL fr), Or.inl ⟨Or.inr no, hK.ofK (frK.ofL fr)⟩⟩
  · intro T' x fr ho
    obtain ⟨o1, o2, o3⟩ := ho
    -- the circle over the edge is empty
    have hE : CE X Y (List.range n) a b x := by
      rcases hor with q | q | ⟨c0, q⟩
      · exact absurd q c
      · exact absurd o2 (q x (List.mem_range.mpr o1))
      · have cn := List.mem_range.mp q.2.2.1
        have z1 := o3 c0 cn q.2.2.2.1
        have z2 := q.2.2.2.2 x (List.mem_range.mpr o1)
        rw [gV_swap'] at z1
        exact (CE_same q q.1 q.2.1 (List.mem_range.mpr o1) (gV_at1 _ _ _ _) (gV_at2 _ _ _ _) (by omega) o2).1
    obtain ⟨R, K, e1, e2, e3, e4, e5, e6⟩ := m_findCell (fr.mp h) hd ha hb' o1 (by omega)
    rw [e1, bd_s]
    have frR := (frK.ofL fr).trans e6
    have k3 := e2.len (fun i hi j hj => hd i (List.mem_range.mp hi) j (List.mem_range.mp hj)) hE
    obtain ⟨R2, r1, r2, r3⟩ := m_look_sides (frR.mp h).2.2.1 e4 e5 (by omega) k3 (fun y hy => by have := List.mem_range.mp ((e2.1 y).mp hy).1; omega) (TL := TL) (SD := SD) (by omega) (by omega) K.length FU 0 R (by omega) (by have := FU_big; omega) ⟨fun _ _ => rfl, rfl, fun _ _ _ => rfl⟩ (by
      rw [List.range_zero, List.map_nil, List.append_nil]
      exact hK.ofK frR)
    exact ⟨R2, r1, (frW.ofK frR).trans r2, Or.inr ⟨c, K, x, hE, e2, r3⟩⟩
end
