/-! DIGGING: step by step -/
theorem len_sub : ∀ (l1 l2 : List Nat), l1.Nodup → (∀ x ∈ l1, x ∈ l2) → l1.length ≤ l2.length
  | [], _, _, _ => Nat.zero_le _
  | a :: l1, l2, hn, hs => by
    have hn' := List.nodup_cons.mp hn
    have ha : a ∈ l2 := hs a List.mem_cons_self
    have hlen := List.length_erase_of_mem ha
    have hpos : 0 < l2.length := List.length_pos_of_mem ha
    have := len_sub l1 (l2.erase a) hn'.2 (fun x hx => by
      have hne : x ≠ a := fun e => hn'.1 (e ▸ hx)
      exact (List.mem_erase_of_ne hne).mpr (hs x (List.mem_cons_of_mem _ hx)))
    rw [List.length_cons]
    omega
theorem len_cnt {l : List Nat} {K : Nat} {f : Nat → Bool} (hn : l.Nodup) (h : ∀ x ∈ l, x < K ∧ f x = true) : l.length ≤ (List.range K).countP f := by
  rw [List.countP_eq_length_filter]
  exact len_sub l _ hn (fun x hx => List.mem_filter.mpr ⟨List.mem_range.mpr (h x hx).1, (h x hx).2⟩)
/-- all that holds while the point p is dug in -/
def HC (S : St) (X Y : Nat → Int) (N G n m M mk p : Nat) (s tw : Nat → Nat) (P : List Nat) (TK : Nat → Bool) : Prop :=
  NV S m G s tw ∧ PV S n X Y ∧ Pts X Y N G P p ∧ (∀ i ∈ p :: P, i < n) ∧ NetD X Y G P m s tw ∧ TKs X Y G p m s TK ∧ gi S 5 = nI mk ∧ Cap S 11 M ∧ Cap S 12 M ∧ Cap S 13 M ∧ m + 2 ≤ M ∧ ∃ r, r < m ∧ TK r = true
section
variable {S T : St} {m G n N M mk out p : Nat} {s tw : Nat → Nat} {X Y : Nat → Int} {P : List Nat} {TK : Nat → Bool} {pl rl : List Nat}
theorem rim_le (H : HC S X Y N G n m M mk p s tw P TK) (hn : rl.Nodup) (h : ∀ r ∈ rl, r < 3 * m ∧ TK (r / 3) = false ∧ TK (tw r / 3) = true) : rl.length ≤ M := by
  obtain ⟨h1, h2, h3, h4, h5, h6, h7, h8, h9, h10, h11, r0, h12, h13⟩ := H
  have c := rim_many h3 h5 h6 h12 h13
  rw [← cnt_perm (g := tw) (fun e he => (h5.1 e he).1) (fun e he e' he' q => by rw [← (h5.1 e he).2.1, q, (h5.1 e' he').2.1])] at c
  have l := len_cnt (K := 3 * m) (f := fun e => TK (tw e / 3) && !TK (tw (tw e) / 3)) hn (fun r hr => by
    obtain ⟨a, b, d⟩ := h r hr
    refine ⟨a, ?_⟩
    rw [(h5.1 r a).2.1, b, d]
    rfl)
  have t : (List.range m).countP TK ≤ m := Nat.le_trans List.countP_le_length (by simp)
  omega
/-- the number of an edge's triangle -/
theorem i32_div3 {e : Nat} (he : e < 1000000) : nI e / 3 = nI (e / 3) := nI_div (n := e) (k := 3) (by omega) (by decide) (by decide)
theorem dig_step (H : HC S X Y N G n m M mk p s tw P TK) (k27 : Int32 → Int32 → St → Option St) (hDI : DI S T TK G m mk out s pl rl) {i j t : Nat} (hi : pl[i]? = some t) (hj : j < 3) (hI : INV TK m tw pl rl i j) (fu : Nat) :
    ∃ T' pl' rl', DI S T' TK G m mk out s pl' rl' ∧ INV TK m tw pl' rl' i (j + 1) ∧ pl'[i]? = some t ∧ (∀ x ∈ pl, x ∈ pl') ∧ f_Nt_dig_46 k27 (fu + 1) (nI p) (nI i) (nI j) T = f_Nt_dig_46 k27 fu (nI p) (nI i) (nI (j + 1)) T' := by
  obtain ⟨h1, h2, h3, h4, h5, h6, h7, h8, h9, h10, h11, h12⟩ := id H
  obtain ⟨d0, d1, d2, d3, d4, d5, d6, d7, d8, d9⟩ := id hDI
  obtain ⟨hil, hie⟩ := List.getElem?_eq_some_iff.mp hi
  have tin : t ∈ pl := hie ▸ List.getElem_mem hil
  have htm := (d6 t tin).1
  have nT := d0.nv h1
  have pT := d0.pv h2
  have hm := h1.2.2.2.1
  have he : 3 * t + j < 3 * m := by omega
  have w := h5.1 _ he
  have plM : pl.length ≤ m := by
    have := len_cnt (K := m) (f := fun _ => true) d5 (fun x hx => ⟨(d6 x hx).1, rfl⟩)
    simp at this
    exact this
  rw [f_Nt_dig_46]
  dsimp only
  rw [if_neg (show ¬ 3 ≤ nI j from nI_ge (a := j) (b := 3) hj (by decide)), get_ok (d0.cap h9) (show i < M by omega), bd_s]
  dsimp only
  rw [d3 i hil, hie, show (3 : Int32) = nI 3 from rfl, nI_mul, nI_add, nT.tw' he, bd_s]
  dsimp only
  have bs := h1.small w.1
  have bl : tw (3 * t + j) / 3 < m := by have := w.1; omega
  rw [show nI 3 = (3 : Int32) from rfl, i32_div3 bs, get_ok (d0.cap h8) (show tw (3 * t + j) / 3 < M by omega), bd_s]
  dsimp only
  have m5 : gi T 5 = nI mk := by rw [d0.1 5 (by decide) (by decide) (by decide)]; exact h7
  rw [m5]
  have cont : ∀ T', f_Nt_dig_189 k27 (f_Nt_dig_46 k27 fu) (nI p) (nI i) (nI j) T' = f_Nt_dig_46 k27 fu (nI p) (nI i) (nI (j + 1)) T' := fun T' => by
    unfold f_Nt_dig_189
    rw [bn_s, nI_1]
  by_cases cm : tw (3 * t + j) / 3 ∈ pl
  · rw [if_pos ((d7 _ bl).mpr cm), cont]
    refine ⟨T, pl, rl, hDI, ⟨fun e he2 hp => ?_, fun r hr => ?_, hI.2.2⟩, hi, fun x hx => hx, rfl⟩
    · rcases PRC.step hi (Or.inl rfl) hp with q | q
      · exact hI.1 e he2 q
      · subst q
        refine ⟨fun _ => cm, fun q => ?_⟩
        have := (d6 _ cm).2
        rw [q] at this
        cases this
    · obtain ⟨a, b, c⟩ := hI.2.1 r hr
      exact ⟨a, b, c.more⟩
  · rw [if_neg (fun q => cm ((d7 _ bl).mp q))]
    have ha1 : f_Nt_ahead (nI (tw (3 * t + j))) 1 T = some (nI (ah (tw (3 * t + j)) 1), T) := f_ahead (k := 1) bs (by decide) T
    rw [ha1, bd_s]
    dsimp only
    rw [ah_1, f_isOuter nT w.1, bd_s]
    dsimp only
    -- the two ends of a step
    have fin : ∀ T1, sameW T T1 → ∃ T' pl' rl', DI S T' TK G m mk out s pl' rl' ∧ INV TK m tw pl' rl' i (j + 1) ∧ pl'[i]? = some t ∧ (∀ x ∈ pl, x ∈ pl') ∧ f_Nt_dig_148 k27 (f_Nt_dig_46 k27 fu) (nI p) (nI i) (nI j) (nI (tw (3 * t + j))) (b32 (TK (tw (3 * t + j) / 3) = true)) T1 = f_Nt_dig_46 k27 fu (nI p) (nI i) (nI (j + 1)) T' := by
      intro T1 hw
      have DI1 : DI S T1 TK G m mk out s pl rl := by
        have e0 : ∀ k, gi T1 k = gi T k := fun k => by show T1.1 k = T.1 k; rw [hw.1]
        have e2 : ∀ k, ga T1 k = ga T k := fun k => by show T1.2.2.2 k = T.2.2.2 k; rw [hw.2.1]
        refine ⟨d0.trans (frD.ofW hw), by rw [e0]; exact d1, by rw [e0]; exact d2, fun k hk => by rw [e2]; exact d3 k hk, fun k hk => by rw [e2]; exact d4 k hk, d5, d6, fun x hx => by rw [e2]; exact d7 x hx, by rw [e0]; exact d8, by rw [e2]; exact d9⟩
      obtain ⟨g0, g1, g2, g3, g4, -, -, g7, g8, g9⟩ := id DI1
      unfold f_Nt_dig_148
      cases hk : TK (tw (3 * t + j) / 3) with
      | true =>
        rw [b32_t rfl, if_neg (by decide), i32_div3 bs]
        obtain ⟨T', t1, t2⟩ := f_takeAway (M := M) h1 h7 h8 h9 (by omega) DI1 bl hk cm (by omega)
        rw [t1, bd_s, cont]
        refine ⟨T', _, rl, t2, ⟨fun e he2 hp => ?_, fun r hr => ?_, hI.2.2⟩, by rw [List.getElem?_append_left hil]; exact hi, fun x hx => List.mem_append_left _ hx, rfl⟩
        · rcases PRC.step hi (Or.inr ⟨_, rfl⟩) hp with q | q
          · obtain ⟨a, b⟩ := hI.1 e he2 q
            exact ⟨fun z => List.mem_append_left _ (a z), b⟩
          · subst q
            refine ⟨fun _ => List.mem_append_right _ (List.mem_cons_self), fun q => ?_⟩
            rw [hk] at q
            cases q
        · obtain ⟨a, b, c⟩ := hI.2.1 r hr
          exact ⟨a, b, c.more.app⟩
      | false =>
        rw [b32_f (by decide), if_pos rfl]
        have new : tw (3 * t + j) ∉ rl := fun q => by
          have := (hI.2.1 _ q).2.2
          rw [w.2.1] at this
          exact PRC.not d5 hi hj this
        have nd : (rl ++ [tw (3 * t + j)]).Nodup := List.nodup_append.mpr ⟨hI.2.2, by simp, fun x hx y hy => by
          simp only [List.mem_cons, List.not_mem_nil, or_false] at hy
          rw [hy]
          exact fun q => new (q ▸ hx)⟩
        have hrl : ∀ r ∈ rl ++ [tw (3 * t + j)], r < 3 * m ∧ TK (r / 3) = false ∧ TK (tw r / 3) = true := by
          intro r hr
          rcases List.mem_append.mp hr with q | q
          · obtain ⟨a, b, idx, c, -⟩ := hI.2.1 r q
            obtain ⟨c1, c2⟩ := List.getElem?_eq_some_iff.mp c
            exact ⟨a, b, (d6 _ (c2 ▸ List.getElem_mem c1)).2⟩
          · simp only [List.mem_cons, List.not_mem_nil, or_false] at q
            rw [q, w.2.1, show (3 * t + j) / 3 = t by omega]
            exact ⟨w.1, hk, (d6 t tin).2⟩
        have len := rim_le H nd hrl
        rw [List.length_append, List.length_singleton] at len
        rw [g2, put_ok (g0.cap h10) (show rl.length < M by omega), bd_s]
        generalize hA : seta T1 13 (upd (ga T1 13) rl.length (nI (tw (3 * t + j)))) = A
        have A9 : gi A 9 = nI rl.length := by rw [← hA]; exact g2
        rw [A9, bn_s, nI_1, cont]
        have fr : frD T1 (seti A 9 (nI (rl.length + 1))) := by
          rw [← hA]
          exact ⟨fun k _ _ c => up1_ne _ _ c, rfl, rfl, fun k _ _ c => up1_ne _ _ c⟩
        have a11 : ga (seti A 9 (nI (rl.length + 1))) 11 = ga T1 11 := by rw [ga_seti, ← hA, ga_seta_ne _ _ (by decide)]
        have a12 : ga (seti A 9 (nI (rl.length + 1))) 12 = ga T1 12 := by rw [ga_seti, ← hA, ga_seta_ne _ _ (by decide)]
        have a13 : ga (seti A 9 (nI (rl.length + 1))) 13 = upd (ga T1 13) rl.length (nI (tw (3 * t + j))) := by rw [ga_seti, ← hA, ga_seta]
        refine ⟨_, pl, rl ++ [tw (3 * t + j)], ⟨g0.trans fr, ?_, ?_, ?_, ?_, d5, d6, ?_, ?_, ?_⟩, ⟨fun e he2 hp => ?_, fun r hr => ?_, nd⟩, hi, fun x hx => hx, rfl⟩
        · rw [gi_seti_ne _ _ (by decide), ← hA]; exact g1
        · rw [gi_seti]; simp
        · rw [a12]; exact g3
        · intro k hk2
          rw [a13]
          exact app_get _ (fun k hk3 => by rw [upd_ne _ _ (by omega)]; exact g4 k hk3) (upd_same _ _ _) hk2
        · rw [a11]; exact g7
        · rw [gi_seti_ne _ _ (by decide), ← hA]; exact g8
        · rw [a11]; exact g9
        · rcases PRC.step hi (Or.inl rfl) hp with q | q
          · obtain ⟨a, b⟩ := hI.1 e he2 q
            exact ⟨a, fun z => List.mem_append_left _ (b z)⟩
          · subst q
            refine ⟨fun q => ?_, fun _ => List.mem_append_right _ (List.mem_cons_self)⟩
            rw [hk] at q
            cases q
        · rcases List.mem_append.mp hr with q | q
          · obtain ⟨a, b, c⟩ := hI.2.1 r q
            exact ⟨a, b, c.more⟩
          · simp only [List.mem_cons, List.not_mem_nil, or_false] at q
            rw [q, w.2.1]
            exact ⟨w.1, hk, i, by rw [show (3 * t + j) / 3 = t by omega]; exact hi, Or.inr ⟨rfl, by omega⟩⟩
    have pn : p < n := h4 p List.mem_cons_self
    have PL := h3.old
    have Pn : ∀ i ∈ P, i < n := fun i hi2 => h4 i (List.mem_cons_of_mem _ hi2)
    cases hs : sol G s (tw (3 * t + j) / 3) with
    | true =>
      rw [b32_f (by decide), if_pos rfl]
      have hin := sol_lt h5 Pn w.1 hs
      have n1 := nx_lt w.1
      have n2 := nx_lt n1
      rw [f_startOf nT w.1, bd_s]
      dsimp only
      rw [f_startOf nT n1, bd_s]
      dsimp only
      rw [f_endOf nT n1, bd_s]
      dsimp only
      obtain ⟨T1, w1, w2⟩ := f_takesAway pT (hin _ w.1 rfl) (hin _ n1 (nx_div _)) (hin _ n2 (by rw [nx_div, nx_div])) pn
      rw [w2, bd_s]
      dsimp only
      rw [b32_congr (tk_solid h3 h5 h6 w.1 hs)]
      exact fin T1 w1
    | false =>
      rw [b32_t rfl, if_neg (by decide)]
      have vin : ∀ g, g < 3 * m → g / 3 = tw (3 * t + j) / 3 → s g ≠ G → s g < n := by
        intro g hg _ hne
        rcases h5.2.1 g hg with r | ⟨-, r⟩ | ⟨q, -⟩ | ⟨-, r⟩
        · exact Pn _ r.1
        · exact Pn _ r.1
        · exact absurd q hne
        · exact Pn _ r.2.1
      obtain ⟨g, g1, g2, g3, g4⟩ := f_isSeen nT pT w.1 hs pn vin (ghost_one PL h5)
      rw [g4, bd_s]
      dsimp only
      rw [b32_congr (tk_outer PL h5 h6 g1 g3), g2]
      exact fin T (sameW.rfl' T)
end
