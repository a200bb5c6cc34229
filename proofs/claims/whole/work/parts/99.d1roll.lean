/-! THE ROLL -/
theorem frE.a {S T : St} (f : frE S T) : frA S T := ⟨fun k _ => by show T.1 k = S.1 k; rw [f.1], by rw [f.2.1], f.2.2.1, fun k hk => f.2.2.2 k (by omega) (by omega) (by omega)⟩
section
variable {S T : St} {n G m stp : Nat} {X Y : Nat → Int} {s tw lv : Nat → Nat}
/-- an edge from the lowest of its three -/
def lowE (s : Nat → Nat) (e : Nat) : Prop := s e ≤ s (nx e) ∧ s e ≤ s (nx (nx e))
theorem f_lowestFirst (h : NV S m G s tw) {e : Nat} (he : e < 3 * m) : ∃ e', f_Nt_lowestFirst (nI e) S = some (nI e', S) ∧ e' < 3 * m ∧ e' / 3 = e / 3 ∧ lowE s e' := by
  have sm := h.small he
  have h1 := nx_lt he
  have h2 := nx_lt h1
  have st := fun x (hx : x < 3 * m) => f_startOf h hx
  have b : ∀ x, x < 3 * m → s x < 2 ^ 31 := fun x hx => by have := (h.2.2.2.2.2.2.1 x hx).2; omega
  have le : ∀ x y, x < 3 * m → y < 3 * m → (nI (s x) ≤ nI (s y) ↔ s x ≤ s y) := fun x y hx hy => nI_leI (b x hx) (b y hy)
  have : FU = (FU - 3) + 3 := by unfold FU; rfl
  have a1 : f_Nt_ahead (nI e) (nI 1) S = some (nI (nx e), S) := by rw [f_ahead sm (by decide), ah_1]
  have a2 : f_Nt_ahead (nI e) (nI 2) S = some (nI (nx (nx e)), S) := by rw [f_ahead sm (by decide), ah_2]
  -- the second step, from any so far
  have step2 : ∀ x, x < 3 * m → f_Nt_lowestFirst_4 (FU - 3 + 2) (nI e) (nI x) (nI 2) S = some (nI (if s x ≤ s (nx (nx e)) then x else nx (nx e)), S) := fun x hx => by
    rw [f_Nt_lowestFirst_4]
    dsimp only
    rw [if_neg (show ¬ (3 : Int32) ≤ nI 2 by decide), a2, bd_s]
    dsimp only
    rw [st _ h2, bd_s]
    dsimp only
    rw [st _ hx, bd_s]
    dsimp only
    by_cases c : s x ≤ s (nx (nx e))
    · rw [if_pos ((le _ _ hx h2).mpr c), if_pos c]
      unfold f_Nt_lowestFirst_33
      rw [bn_s, nI_1, f_Nt_lowestFirst_4]
      dsimp only
      rw [if_pos (show (3 : Int32) ≤ nI 3 by decide)]
    · rw [if_neg (fun q => c ((le _ _ hx h2).mp q)), if_neg c]
      unfold f_Nt_lowestFirst_33
      rw [bn_s, nI_1, f_Nt_lowestFirst_4]
      dsimp only
      rw [if_pos (show (3 : Int32) ≤ nI 3 by decide)]
  have fin : ∀ x, x < 3 * m → x / 3 = e / 3 → (x = e ∧ s e ≤ s (nx e) ∨ x = nx e ∧ s (nx e) ≤ s e) → ∃ e', some (nI (if s x ≤ s (nx (nx e)) then x else nx (nx e)), S) = some (nI e', S) ∧ e' < 3 * m ∧ e' / 3 = e / 3 ∧ lowE s e' := by
    intro x hx hx3 hxx
    refine ⟨_, rfl, ?_⟩
    unfold lowE
    by_cases c : s x ≤ s (nx (nx e))
    · rw [if_pos c]
      refine ⟨hx, hx3, ?_⟩
      rcases hxx with ⟨rfl, q⟩ | ⟨rfl, q⟩
      · exact ⟨q, c⟩
      · rw [nx3]; exact ⟨c, q⟩
    · rw [if_neg c]
      refine ⟨h2, by rw [nx_div, nx_div], ?_⟩
      rw [nx3]
      rcases hxx with ⟨rfl, q⟩ | ⟨rfl, q⟩
      · exact ⟨by omega, by omega⟩
      · exact ⟨by omega, by omega⟩
  unfold f_Nt_lowestFirst f_Nt_lowestFirst_0
  rw [this, show (1 : Int32) = nI 1 from rfl, f_Nt_lowestFirst_4]
  dsimp only
  rw [if_neg (show ¬ (3 : Int32) ≤ nI 1 by decide), a1, bd_s]
  dsimp only
  rw [st _ h1, bd_s]
  dsimp only
  rw [st _ he, bd_s]
  dsimp only
  by_cases c : s e ≤ s (nx e)
  · rw [if_pos ((le _ _ he h1).mpr c)]
    unfold f_Nt_lowestFirst_33
    rw [bn_s, nI_1]
    have := step2 e he
    rw [this]
    exact fin e he rfl (Or.inl ⟨rfl, c⟩)
  · rw [if_neg (fun q => c ((le _ _ he h1).mp q))]
    unfold f_Nt_lowestFirst_33
    rw [bn_s, nI_1]
    have := step2 (nx e) h1
    rw [this]
    exact fin (nx e) h1 (nx_div e) (Or.inr ⟨rfl, by omega⟩)
/-- the triangles among the first t -/
def GA (G m : Nat) (s : Nat → Nat) (t : Nat) (F : List Nat) : Prop := F.length ≤ t ∧ (∀ e ∈ F, e < 3 * m ∧ sol G s (e / 3) = true ∧ e / 3 < t ∧ lowE s e) ∧ (∀ t', t' < t → sol G s t' = true → ∃ e ∈ F, e / 3 = t') ∧ F.Nodup
theorem f_gather_loop (h : NV S m G s tw) (hc : Cap S 14 m) : ∀ (d fuel t : Nat) (T : St) (F : List Nat), t + d = m → d < fuel → frE S T → HL T 14 F → GA G m s t F → ∃ T' F', f_Rl_gather_4 fuel (nI F.length) (nI (3 * t)) T = some (nI F'.length, T') ∧ frE S T' ∧ HL T' 14 F' ∧ GA G m s m F' := by
  have mb := h.2.2.2.1
  intro d
  induction d with
  | zero =>
    intro fuel t T F ht hf fr hF hG
    obtain ⟨fuel, rfl⟩ : ∃ j, fuel = j + 1 := ⟨fuel - 1, by omega⟩
    have : t = m := by omega
    subst this
    have NT := fr.nv h
    rw [f_Rl_gather_4]
    dsimp only
    unfold f_Nt_edgeCount f_Nt_edgeCount_0
    rw [bd_s]
    dsimp only
    rw [NT.2.1, show (3 : Int32) * nI t = nI (3 * t) from nI_mul 3 t, if_pos (Int32.le_refl _)]
    exact ⟨T, F, rfl, fr, hF, hG⟩
  | succ d ih =>
    intro fuel t T F ht hf fr hF hG
    obtain ⟨fuel, rfl⟩ : ∃ j, fuel = j + 1 := ⟨fuel - 1, by omega⟩
    have NT := fr.nv h
    rw [f_Rl_gather_4]
    dsimp only
    unfold f_Nt_edgeCount f_Nt_edgeCount_0
    rw [bd_s]
    dsimp only
    rw [NT.2.1, show (3 : Int32) * nI m = nI (3 * m) from nI_mul 3 m, if_neg (nI_ge (by omega) (by omega)), f_isOuter NT (show 3 * t < 3 * m by omega), bd_s, show 3 * t / 3 = t by omega]
    dsimp only
    have n3 : nI (3 * t) + 3 = nI (3 * (t + 1)) := by rw [show (3 : Int32) = nI 3 from rfl, nI_add]; rfl
    unfold f_Rl_gather_45
    rw [bn_s, n3]
    obtain ⟨g1, g2, g3, g4⟩ := hG
    cases hs : sol G s t with
    | false =>
      rw [b32_t rfl, if_neg (by decide)]
      refine ih fuel (t + 1) T F (by omega) (by omega) fr hF ⟨by omega, fun e he => ?_, fun t' ht' hs' => ?_, g4⟩
      · have := g2 e he
        exact ⟨this.1, this.2.1, by omega, this.2.2.2⟩
      · by_cases q : t' = t
        · rw [q, hs] at hs'; cases hs'
        · exact g3 t' (by omega) hs'
    | true =>
      rw [b32_f (by simp), if_pos rfl]
      obtain ⟨e', r1, r2, r3, r4⟩ := f_lowestFirst NT (e := 3 * t) (by omega)
      rw [r1, bd_s]
      dsimp only
      rw [put_ok (hc.of fr.2.2.1) (show F.length < m by omega), bd_s, bn_s, bn_s, nI_1]
      rw [show 3 * t / 3 = t by omega] at r3
      have len : F.length + 1 = (F ++ [e']).length := by simp
      rw [len]
      refine ih fuel (t + 1) _ (F ++ [e']) (by omega) (by omega) ⟨fr.1, fr.2.1, fr.2.2.1, fun k a b c => by rw [ga_seta_ne _ _ a]; exact fr.2.2.2 k a b c⟩ (hF.put (by rw [ga_seta])) ⟨by simp; omega, fun e he => ?_, fun t' ht' hs' => ?_, ?_⟩
      · rcases List.mem_append.mp he with q | q
        · have := g2 e q
          exact ⟨this.1, this.2.1, by omega, this.2.2.2⟩
        · rw [List.mem_singleton.mp q]
          exact ⟨r2, by rw [r3]; exact hs, by omega, r4⟩
      · by_cases q : t' = t
        · exact ⟨e', List.mem_append.mpr (Or.inr (by simp)), by rw [r3, q]⟩
        · obtain ⟨e, he, q2⟩ := g3 t' (by omega) hs'
          exact ⟨e, List.mem_append.mpr (Or.inl he), q2⟩
      · rw [List.nodup_append]
        refine ⟨g4, by simp, fun a ha b hb e => ?_⟩
        rw [List.mem_singleton] at hb
        have := (g2 a ha).2.2.1
        rw [e, hb, r3] at this
        omega
def tri3 (s : Nat → Nat) (e : Nat) : Nat × Nat × Nat := (s e, s (nx e), s (nx (nx e)))
/-- all in their order -/
theorem f_sortAll (h : CN S X Y n G m s tw lv) (hr : Rm S n) (h3 : gi S 3 = nI n) (hn : n ≤ 1024) : ∃ T R, f_Rl_sortAll S = some T ∧ frE S (seti T 10 (gi S 10)) ∧ gi T 10 = 1 ∧ (∀ k, k ≠ 10 → gi T k = gi S k) ∧ HL T 14 R ∧ (∀ e ∈ R, e < 3 * m) ∧ TRI X Y n (R.map (tri3 s)) ∧ R.length ≤ m := by
  obtain ⟨hN, hX, -⟩ := id h
  have n3 := hX.n3
  have mb := hX.2.2.2.1
  obtain ⟨-, -, -, -, -, -, -, -, c14, c15, c16, -⟩ := hr
  have h0 : GA G m s 0 [] := ⟨by simp, fun e he => absurd he List.not_mem_nil, fun t' ht' => by omega, List.nodup_nil⟩
  obtain ⟨T1, F, a1, a2, a3, a4⟩ := f_gather_loop hN (c14.le (by omega)) m FU 0 S [] (by omega) (by have := FU_big; omega) (frE.rfl' S) (fun i hi => absurd hi (Nat.not_lt_zero _)) h0
  have a1 : f_Rl_gather S = some (nI F.length, T1) := a1
  obtain ⟨g1, g2, g3, g4⟩ := a4
  have low : ∀ e ∈ F, e < 3 * m ∧ solid X Y (List.range n) (s e) (s (nx e)) (s (nx (nx e))) ∧ lowE s e := fun e he => by
    have q := g2 e he
    exact ⟨q.1, hX.2.1.solid q.1 q.2.1, q.2.2.2⟩
  have key : ∀ w e, e ∈ F → s (ah e w) < n := fun w e he => by
    have q := low e he
    have p1 := List.mem_range.mp q.2.1.1
    have p2 := List.mem_range.mp q.2.1.2.1
    have p3 := List.mem_range.mp q.2.1.2.2.1
    have : ah e w = e ∨ ah e w = nx e ∨ ah e w = nx (nx e) := by unfold ah nx; omega
    rcases this with r | r | r <;> rw [r] <;> assumption
  have i1 : ∀ k, gi T1 k = gi S k := fun k => by show T1.1 k = S.1 k; rw [a2.1]
  obtain ⟨T2, R1, b1, b2, b3, b4⟩ := f_sortInto (w := 1) (k1 := 14) (k2 := 15) (F := F) (n := n) ⟨a2.nv hN, a3, by omega, hn, c14.of a2.2.2.1, c15.of a2.2.2.1, c16.of a2.2.2.1, by rw [i1]; exact h3, fun e he => ⟨(low e he).1, key 1 e he⟩, by decide, Or.inl rfl, Or.inr rfl, by decide⟩ (by omega)
  obtain ⟨e1, inv1, v1, v2, v3⟩ := b4
  dsimp only at v3
  have m1 : ∀ e ∈ R1, e ∈ F := fun e he => by
    obtain ⟨i, hi, q⟩ := mem_getD he
    rw [e1] at hi
    rw [← q, (v1 i hi).2]
    exact getD_mem' (v1 i hi).1
  have a3' := a2.trans b2
  have i2 : ∀ k, gi T2 k = gi S k := fun k => by show T2.1 k = S.1 k; rw [a3'.1]
  obtain ⟨T3, R2, d1, d2, d3, d4⟩ := f_sortInto (w := 0) (k1 := 15) (k2 := 14) (F := R1) (n := n) ⟨a3'.nv hN, b3, by omega, hn, c15.of a3'.2.2.1, c14.of a3'.2.2.1, c16.of a3'.2.2.1, by rw [i2]; exact h3, fun e he => ⟨(low e (m1 e he)).1, key 0 e (m1 e he)⟩, by decide, Or.inr rfl, Or.inl rfl, by decide⟩ (by omega)
  obtain ⟨f1, inv2, u1, u2, u3⟩ := d4
  dsimp only at u3
  have m2 : ∀ e ∈ R2, e ∈ R1 := fun e he => by
    obtain ⟨i, hi, q⟩ := mem_getD he
    rw [f1] at hi
    rw [← q, (u1 i hi).2]
    exact getD_mem' (u1 i hi).1
  have i3 : ∀ k, gi T3 k = gi S k := fun k => by show T3.1 k = S.1 k; rw [(a3'.trans d2).1]
  -- nothing twice
  have nd1 : R1.Nodup := by
    unfold List.Nodup
    rw [List.pairwise_iff_getElem]
    intro i j hi hj hij e
    rw [← getD_get hi, ← getD_get hj, (v1 i (by omega)).2, (v1 j (by omega)).2] at e
    have := getD_inj g4 (v1 i (by omega)).1 (v1 j (by omega)).1 e
    have := v2 i (by omega) j (by omega) this
    omega
  have nd2 : R2.Nodup := by
    unfold List.Nodup
    rw [List.pairwise_iff_getElem]
    intro i j hi hj hij e
    rw [← getD_get hi, ← getD_get hj, (u1 i (by omega)).2, (u1 j (by omega)).2] at e
    have := getD_inj nd1 (u1 i (by omega)).1 (u1 j (by omega)).1 e
    have := u2 i (by omega) j (by omega) this
    omega
  have all : ∀ e ∈ F, e ∈ R2 := by
    have p1 := perm_of_sub R2 F nd2 (fun x hx => m1 x (m2 x hx)) (by omega)
    exact fun e he => p1.mem_iff.mpr he
  unfold f_Rl_sortAll f_Rl_sortAll_0
  rw [a1, bd_s]
  dsimp only
  rw [show (1 : Int32) = nI 1 from rfl, b1, bd_s, ← e1, show (0 : Int32) = nI 0 from rfl, d1, bd_s, bn_s]
  refine ⟨_, R2, rfl, ?_, gi_seti _ _ _, fun k hk => by rw [gi_seti_ne _ _ hk]; exact i3 k, d3, fun e he => (low e (m1 e (m2 e he))).1, ⟨?_, fun t => ?_⟩, by omega⟩
  · have : seti (seti T3 10 (nI 1)) 10 (gi S 10) = T3 := by
      rw [seti2, ← i3 10]
      unfold seti
      have : up1 T3.1 10 (gi T3 10) = T3.1 := by
        funext j
        by_cases c : j = 10
        · rw [c, up1_same]
        · rw [up1_ne _ _ c]
      rw [this]
    rw [this]
    exact a3'.trans d2
  · rw [List.pairwise_map, List.pairwise_iff_getElem]
    intro i j hi hj hij
    have o := u3 i j hij (by omega)
    have E1 : ah (R2.getD i 0) 0 = R2.getD i 0 := ah_0 _
    have E2 : ah (R2.getD j 0) 0 = R2.getD j 0 := ah_0 _
    rw [E1, E2] at o
    rw [← getD_get hi, ← getD_get hj]
    unfold lex3 tri3
    dsimp only
    rcases o with o | ⟨o, oi⟩
    · exact Or.inl o
    · right
      refine ⟨o, ?_⟩
      have ui := u1 i (by omega)
      have uj := u1 j (by omega)
      have o1 := v3 (inv2 i) (inv2 j) oi (by rw [← e1]; exact uj.1)
      rw [← ui.2, ← uj.2] at o1
      have E3 : ah (R2.getD i 0) 1 = nx (R2.getD i 0) := ah_1 _
      have E4 : ah (R2.getD j 0) 1 = nx (R2.getD j 0) := ah_1 _
      rw [E3, E4] at o1
      rcases o1 with o1 | ⟨o1, -⟩
      · exact Or.inl o1
      · exfalso
        have mi := (low _ (m1 _ (m2 _ (getD_mem' (l := R2) hi)))).1
        have mj := (low _ (m1 _ (m2 _ (getD_mem' (l := R2) hj)))).1
        have := getD_inj nd2 hi hj (hX.2.1.2.2 _ mi _ mj o o1)
        omega
  · rw [List.mem_map]
    constructor
    · rintro ⟨e, he, rfl⟩
      have q := low e (m1 e (m2 e he))
      have r := q.2.2
      have d := q.2.1
      unfold lowE at r
      refine ⟨d, ?_, ?_⟩
      · show s e < s (nx e)
        have := d.2.2.2.1
        omega
      · show s e < s (nx (nx e))
        have := d.2.2.2.2.2.1
        omega
    · rintro ⟨q1, q2, q3⟩
      obtain ⟨e, he, x1, x2, x3⟩ := net_has hX.1 hX.2.1 hX.2.2.1 q1
      have s1 := (hX.1.1 _ q1.1).2.2
      have s2 := (hX.1.1 _ q1.2.1).2.2
      have s3 := (hX.1.1 _ q1.2.2.1).2.2
      have hs : sol G s (e / 3) = true := sol_edge.mpr ⟨by rw [x1]; exact s1, by rw [x2]; exact s2, by rw [x3]; exact s3⟩
      obtain ⟨e', he', q⟩ := g3 (e / 3) (by omega) hs
      have lw := (low e' he').2.2
      unfold lowE at lw
      -- both begin with the lowest
      have ee : e' = e := by
        have : e' = e ∨ e' = nx e ∨ e' = nx (nx e) := by unfold nx; omega
        rcases this with r | r | r
        · exact r
        · exfalso
          rw [r, nx3] at lw
          omega
        · exfalso
          rw [r, nx3] at lw
          omega
      rw [ee] at he'
      exact ⟨e, all e he', by unfold tri3; rw [x1, x2, x3]⟩
end
