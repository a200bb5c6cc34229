/-! NEIGHBOURS: left round from the lowest -/
section
variable {S : St} {n G m : Nat} {X Y : Nat → Int} {s tw lv : Nat → Nat} {e0 L : Nat}
/-- the edge to the lowest neighbour, and a round from it -/
def LOWR (n G m : Nat) (s tw : Nat → Nat) (p ef L : Nat) : Prop := ef < 3 * m ∧ s ef = p ∧ s (nx ef) ≠ G ∧ ORB n tw ef L ∧ ∀ k, NBE G m s p k → s (nx ef) ≤ k
theorem f_lowestFrom (h : CN S X Y n G m s tw lv) {p : Nat} (hp : p < n) : ∃ ef L, LOWR n G m s tw p ef L ∧ f_Nt_lowestFrom (nI p) S = some (nI ef, S) := by
  obtain ⟨hN, hX, -, hl, -, hnG⟩ := id h
  have l := hl p hp
  have hv : s (lv p) < n := by rw [l.2.2]; exact hp
  obtain ⟨L, ho⟩ := hX.orb l.2.1 hv
  have g := hN.2.2.1
  obtain ⟨b, b1, b2, b3⟩ := f_lowestFrom_loop h l.2.1 hv ho (L - 1) FU 0 0 (by have := ho.1; omega) (by have := FU_big; have := ho.2.2.2; omega) (by have := ho.1; omega) (fun j hj => by omega)
  have ib := itr_rho hX.2.1 l.2.1 b
  have mem : ∀ k, NBE G m s p k → wE s tw (lv p) b ≤ k := fun k hk => by
    have := (NL_mem hX l.2.1 hv ho (k := k)).mpr (by rw [l.2.2]; exact hk)
    unfold NL at this
    rw [List.mem_filter, List.mem_map] at this
    obtain ⟨⟨j, hj, rfl⟩, -⟩ := this
    exact b2 j (List.mem_range.mp hj)
  -- some neighbour is no ghost
  have ex : ∃ k, NBE G m s p k ∧ k < n := by
    have key : ∀ e, e < 3 * m → s e = p → s (nx e) ≠ G → ∃ k, NBE G m s p k ∧ k < n := fun e he hs hne => ⟨s (nx e), ⟨hne, e, he, hs, rfl⟩, List.mem_range.mp (edge_EDG hX.1 hX.2.1 he (by rw [hs]; omega) hne).2.2.1⟩
    by_cases c : s (nx (lv p)) = G
    · refine key (rho tw (lv p)) (rho_lt hX.2.1 l.2.1) (by rw [rho_s hX.2.1 l.2.1]; exact l.2.2) ?_
      rw [rho_end hX.2.1 l.2.1]
      exact (ghost_one hX.1 hX.2.1 _ (nx_lt l.2.1) c).1
    · exact key (lv p) l.2.1 l.2.2 c
  obtain ⟨k, k1, k2⟩ := ex
  have kb := mem k k1
  obtain ⟨L', ho'⟩ := hX.orb ib.1 (by rw [ib.2]; exact hv)
  refine ⟨itr (rho tw) b (lv p), L', ⟨ib.1, by rw [ib.2]; exact l.2.2, fun q => ?_, ho', mem⟩, ?_⟩
  · have : wE s tw (lv p) b = G := q
    omega
  · unfold f_Nt_lowestFrom f_Nt_lowestFrom_0
    rw [(h.leave hp).1, bd_s]
    dsimp only
    rw [(h.leave hp).2, bd_s]
    exact b3
/-- the row of neighbours -/
theorem NL_head {p : Nat} (hl : LOWR n G m s tw p e0 L) : NL G s tw e0 L = s (nx e0) :: ((List.range (L - 1)).map fun i => wE s tw e0 (i + 1)).filter (fun x => decide (x ≠ G)) := by
  obtain ⟨h1, h2, h3, h4, -⟩ := hl
  unfold NL
  have := h4.1
  rw [show L = (L - 1) + 1 by omega, List.range_succ_eq_map, List.map_cons, List.map_map]
  have e : wE s tw e0 0 = s (nx e0) := rfl
  rw [e, List.filter_cons_of_pos (p := fun x => decide (x ≠ G)) (decide_eq_true h3)]
  rfl
theorem NL_soon (hX : NETX X Y n G m s tw) {p : Nat} (hp : p < n) (hl : LOWR n G m s tw p e0 L) : (((List.range (L - 1)).map fun i => wE s tw e0 (i + 1)).filter (fun x => decide (x ≠ G))).Pairwise (SOON X Y p (s (nx e0))) := by
  obtain ⟨h1, h2, h3, h4, -⟩ := hl
  have pG := (hX.1.1 p (List.mem_range.mpr hp)).2.2
  have ed := edge_EDG hX.1 hX.2.1 h1 (by rw [h2]; exact pG) h3
  rw [h2] at ed
  rw [List.pairwise_filter, List.pairwise_map]
  refine List.Pairwise.imp_of_mem ?_ (List.pairwise_lt_range (n := L - 1))
  intro a b ha hb hab qa qb
  rw [List.mem_range] at ha hb
  have qa : wE s tw e0 (a + 1) ≠ G := of_decide_eq_true qa
  have qb : wE s tw e0 (b + 1) ≠ G := of_decide_eq_true qb
  have c := chain_soon hX.1 hX.2.1 h1 (by rw [h2]; exact pG) ed.2.2.1 (by rw [h2]; exact ed.1) (by rw [h2]; exact fun q => ed.2.2.2 q.symm) (lo := a + 1) qa (by rw [h2]; exact ed.2.1) (b - a) (by omega) (fun j hj1 hj2 e => by
    have := wE_inj hX h1 h4 (i := j) (j := 0) (by omega) h4.1 e
    omega) (by rw [show a + 1 + (b - a) = b + 1 by omega]; exact qb)
  rw [show a + 1 + (b - a) = b + 1 by omega, h2] at c
  exact c
theorem cnt_w (f : Nat → Nat) (q : Nat → Bool) (i L : Nat) (hi : i ≤ L) : (((List.range L).map f).take i).countP q = ((List.range i).map f).countP q := by
  rw [← List.map_take, List.take_range, Nat.min_eq_left hi]
/-- the k-th of them -/
theorem f_leftRound_loop (h : CN S X Y n G m s tw lv) {p : Nat} (hp : p < n) (hl : LOWR n G m s tw p e0 L) {k : Nat} (hk : k < (NL G s tw e0 L).length) : ∀ (d fuel i : Nat), i + d + 1 = L → d < fuel → ((List.range (i + 1)).map (wE s tw e0)).countP (fun x => decide (x ≠ G)) ≤ k + 1 → (((List.range (i + 1)).map (wE s tw e0)).countP (fun x => decide (x ≠ G)) = k + 1 → wE s tw e0 i ≠ G) → f_Nt_leftRound_12 fuel (nI (itr (rho tw) i e0)) (nI (k + 1 - ((List.range (i + 1)).map (wE s tw e0)).countP (fun x => decide (x ≠ G)))) (nI i) S = some (nI ((NL G s tw e0 L).getD k 0), S) := by
  obtain ⟨hN, hX, -, -, -, hnG⟩ := id h
  obtain ⟨h1, h2, h3, h4, -⟩ := id hl
  have g := hN.2.2.1
  have ir := itr_rho hX.2.1 h1
  have oL := h4.2.2.2
  have sb := fun i => (hN.2.2.2.2.2.2.1 _ (nx_lt (ir i).1)).2
  have suc : ∀ i, ((List.range (i + 1)).map (wE s tw e0)).countP (fun x => decide (x ≠ G)) = ((List.range i).map (wE s tw e0)).countP (fun x => decide (x ≠ G)) + if wE s tw e0 i ≠ G then 1 else 0 := fun i => by
    rw [List.range_succ, List.map_append, List.countP_append]
    by_cases c : wE s tw e0 i ≠ G
    · simp [List.countP_cons, c]
    · simp [List.countP_cons, c]
  have tot : (NL G s tw e0 L).length = ((List.range L).map (wE s tw e0)).countP (fun x => decide (x ≠ G)) := by
    unfold NL; rw [← List.countP_eq_length_filter]
  have kb : k < 2000 := by
    have : (NL G s tw e0 L).length ≤ L := by
      rw [tot]
      have := List.countP_le_length (p := fun x => decide (x ≠ G)) (l := (List.range L).map (wE s tw e0))
      simpa using this
    omega
  -- at the end of the way
  have done : ∀ fuel i, i < L → ((List.range (i + 1)).map (wE s tw e0)).countP (fun x => decide (x ≠ G)) = k + 1 → wE s tw e0 i ≠ G → f_Nt_leftRound_12 (fuel + 1) (nI (itr (rho tw) i e0)) (nI (k + 1 - ((List.range (i + 1)).map (wE s tw e0)).countP (fun x => decide (x ≠ G)))) (nI i) S = some (nI ((NL G s tw e0 L).getD k 0), S) := by
    intro fuel i hi e hne
    rw [f_Nt_leftRound_12]
    dsimp only
    unfold f_Nt_leftRound_53
    rw [e, Nat.sub_self, hN.1, if_neg (nI_nlt (by omega) (by omega)), if_pos (show nI 0 ≤ 0 from (show nI 0 ≤ nI 0 from nI_le (Nat.le_refl _) (by omega))), f_endOf hN (ir i).1, bd_s]
    have hil : i < ((List.range L).map (wE s tw e0)).length := by simpa using hi
    have el : ((List.range L).map (wE s tw e0))[i] = wE s tw e0 i := by simp
    have fi := filter_idx (fun x => decide (x ≠ G)) ((List.range L).map (wE s tw e0)) i hil (by rw [el]; exact decide_eq_true hne)
    rw [cnt_w _ _ i L (by omega), el] at fi
    have s1 := suc i
    rw [if_pos hne] at s1
    rw [show ((List.range i).map (wE s tw e0)).countP (fun x => decide (x ≠ G)) = k by omega] at fi
    have : (NL G s tw e0 L).getD k 0 = wE s tw e0 i := fi.1
    rw [this]
    rfl
  intro d
  induction d with
  | zero =>
    intro fuel i hi hf hc hne
    obtain ⟨fuel, rfl⟩ : ∃ j, fuel = j + 1 := ⟨fuel - 1, by omega⟩
    have e : ((List.range (i + 1)).map (wE s tw e0)).countP (fun x => decide (x ≠ G)) = k + 1 := by
      rw [show i + 1 = L by omega] at hc ⊢
      omega
    exact done fuel i (by omega) e (hne e)
  | succ d ih =>
    intro fuel i hi hf hc hne
    obtain ⟨fuel, rfl⟩ : ∃ j, fuel = j + 1 := ⟨fuel - 1, by omega⟩
    by_cases e : ((List.range (i + 1)).map (wE s tw e0)).countP (fun x => decide (x ≠ G)) = k + 1
    · exact done fuel i (by omega) e (hne e)
    · rw [f_Nt_leftRound_12]
      dsimp only
      rw [hN.1, if_neg (nI_nlt (by omega) (by omega)), if_neg (nI_nle (by omega) (by omega)), f_leftOf hN (ir i).1, bd_s]
      dsimp only
      rw [show rho tw (itr (rho tw) i e0) = itr (rho tw) (i + 1) e0 from rfl, f_endOf hN (ir (i + 1)).1, bd_s, hN.1]
      dsimp only
      unfold f_Nt_leftRound_47
      rw [bn_s, bn_s, bn_s, nI_1]
      have s1 := suc (i + 1)
      have nx' := ih fuel (i + 1) (by omega) (by omega)
      by_cases c : s (nx (itr (rho tw) (i + 1) e0)) = G
      · rw [if_pos (by rw [c])]
        have c' : ¬ wE s tw e0 (i + 1) ≠ G := fun q => q c
        rw [if_neg c', Nat.add_zero] at s1
        rw [s1] at nx'
        exact nx' hc (fun q => absurd q e)
      · rw [if_neg (fun q => c ((nI_eq (by have := sb (i + 1); omega) (by omega)).mp q))]
        have c' : wE s tw e0 (i + 1) ≠ G := c
        rw [if_pos c'] at s1
        rw [s1] at nx'
        have ee : nI (k + 1 - ((List.range (i + 1)).map (wE s tw e0)).countP (fun x => decide (x ≠ G))) + (-1) = nI (k + 1 - (((List.range (i + 1)).map (wE s tw e0)).countP (fun x => decide (x ≠ G)) + 1)) := by
          obtain ⟨z, hz⟩ : ∃ z, k + 1 - ((List.range (i + 1)).map (wE s tw e0)).countP (fun x => decide (x ≠ G)) = z + 1 := ⟨k - ((List.range (i + 1)).map (wE s tw e0)).countP (fun x => decide (x ≠ G)), by omega⟩
          rw [hz, ← Int32.sub_eq_add_neg, nI_pred]
          congr 1
          omega
        rw [ee]
        exact nx' (by omega) (fun _ => c')
theorem f_leftRound (h : CN S X Y n G m s tw lv) {p : Nat} (hp : p < n) : ∃ ef L, LOWR n G m s tw p ef L ∧ ∀ k, k < (NL G s tw ef L).length → f_Nt_leftRound (nI p) (nI k) S = some (nI ((NL G s tw ef L).getD k 0), S) := by
  obtain ⟨ef, L, hl, hf⟩ := f_lowestFrom h hp
  refine ⟨ef, L, hl, fun k hk => ?_⟩
  unfold f_Nt_leftRound f_Nt_leftRound_0
  rw [hf, bd_s]
  dsimp only
  have L0 := hl.2.2.2.1.1
  have Ln := hl.2.2.2.1.2.2.2
  have hw : wE s tw ef 0 ≠ G := hl.2.2.1
  have c1 : ((List.range (0 + 1)).map (wE s tw ef)).countP (fun x => decide (x ≠ G)) = 1 := by
    simp [hw]
  have := f_leftRound_loop h hp hl hk (L - 1) FU 0 (by omega) (by have := FU_big; have := h.1.2.2.1; have := h.2.2.2.2.2; omega) (by rw [c1]; omega) (fun _ => hw)
  rw [c1, show k + 1 - 1 = k by omega] at this
  exact this
end
