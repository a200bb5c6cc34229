/-! THE CLASS'S OUTLINE -/
/-- the class's net, as far as answers need it -/
def CN (S : St) (X Y : Nat → Int) (n G m : Nat) (s tw lv : Nat → Nat) : Prop := NV S m G s tw ∧ NETX X Y n G m s tw ∧ Cap S 10 (n + 1) ∧ (∀ v, v < n → ga S 10 (v + 1) = nI (lv v) ∧ lv v < 3 * m ∧ s (lv v) = v) ∧ gi S 7 = nI (GC G m s) ∧ n ≤ G
section
variable {S T : St} {n G m stp : Nat} {X Y : Nat → Int} {s tw lv : Nat → Nat}
theorem CS.dn (h : CS S X Y G n stp) : DN X Y n := h.1.2.2.2.2.2.2.2.1
theorem CS.ground (h : CS S X Y G n stp) : (gi S 6 = 0 ∧ gi S 7 = 0 ∧ LIN X Y n) ∨ ∃ m s tw lv, CN S X Y n G m s tw lv := by
  obtain ⟨⟨c1, c2, c3, c4, c5, c6, -⟩, hN, -⟩ := h
  rcases hN with ⟨h1, h2, h3⟩ | ⟨m, s, tw, lv, P, ⟨hV, hD, hL, hg, hm⟩, hP, hPn⟩
  · exact Or.inl ⟨h1, h2, h3⟩
  · right
    have hr : PtsL X Y 1024 G (List.range n) := hP.range hPn
    have pl : P.length = n := by
      have h1 := nodup_le hP.2.2.1 (l2 := List.range n) (fun x hx => List.mem_range.mpr ((hPn x).mp hx))
      have h2 := nodup_le (List.nodup_range (n := n)) (l2 := P) (fun x hx => (hPn x).mpr (List.mem_range.mp hx))
      rw [List.length_range] at h1 h2
      omega
    have n3 : 3 ≤ n := by
      obtain ⟨a, ha, b, hb, c, hc, hne⟩ := hr.2.2.2
      rw [List.mem_range] at ha hb hc
      have h1 : a ≠ b := fun q => hne (by rw [q]; exact gO_11 b c)
      have h2 : a ≠ c := fun q => hne (by rw [q]; exact gO_12 c b)
      have h3 : b ≠ c := fun q => hne (by rw [q]; exact gO_22 a c)
      omega
    exact ⟨m, s, tw, lv, hV, ⟨hr, hD.mem (fun i => by rw [hPn, List.mem_range]), by omega, by omega, fun v hv => ⟨lv v, (hL.2.1 v ((hPn v).mpr hv)).2⟩⟩, hL.1, fun v hv => hL.2.1 v ((hPn v).mpr hv), hg, c6⟩
theorem CS.gr (h : CS S X Y G n stp) : GR X Y n := by
  rcases h.ground with ⟨-, -, h⟩ | ⟨m, s, tw, lv, h⟩
  · exact Or.inl h
  · exact Or.inr ⟨G, m, s, tw, h.2.1⟩
/-- what the outline leaves alone -/
def frU (S T : St) : Prop := (∀ k, k ≠ 11 → k ≠ 12 → gi T k = gi S k) ∧ T.2.1 = S.2.1 ∧ T.2.2.1 = S.2.2.1 ∧ ∀ k, k ≠ 17 → ga T k = ga S k
theorem frU.rfl' (S : St) : frU S S := ⟨fun _ _ _ => rfl, rfl, rfl, fun _ _ => rfl⟩
theorem frU.trans {S T R : St} (h : frU S T) (g : frU T R) : frU S R := ⟨fun k a b => (g.1 k a b).trans (h.1 k a b), g.2.1.trans h.2.1, g.2.2.1.trans h.2.2.1, fun k a => (g.2.2.2 k a).trans (h.2.2.2 k a)⟩
theorem frU.a (h : frU S T) : frA S T := ⟨fun k hk => h.1 k (by omega) (by omega), by rw [h.2.1], h.2.2.1, fun k hk => h.2.2.2 k (by omega)⟩
theorem frA.cn (f : frA S T) (h : CN S X Y n G m s tw lv) : CN T X Y n G m s tw lv := by
  obtain ⟨⟨h1, h2, h3, h4, h5, h6, h7, h8⟩, hX, hc, hl, hg, hn⟩ := h
  have hi := f.1
  have ha := f.2.2.2
  have hn' := f.2.2.1
  refine ⟨⟨by rw [hi 4 (by decide)]; exact h1, by rw [hi 6 (by decide)]; exact h2, h3, h4, h5.of hn', h6.of hn', ?_, ?_⟩, hX, hc.of hn', ?_, by rw [hi 7 (by decide)]; exact hg, hn⟩
  · rw [ha 8 (by decide)]; exact h7
  · rw [ha 9 (by decide)]; exact h8
  · rw [ha 10 (by decide)]; exact hl
theorem f_leftOf (h : NV S m G s tw) {e : Nat} (he : e < 3 * m) : f_Nt_leftOf (nI e) S = some (nI (rho tw e), S) := by
  unfold f_Nt_leftOf f_Nt_leftOf_0
  rw [show (2 : Int32) = nI 2 from rfl, f_ahead (h.small he) (by decide), bd_s]
  dsimp only
  rw [ah_2, h.tw' (nx_lt (nx_lt he)), bd_s]
  rfl
theorem f_nextWay (h : NV S m G s tw) {e : Nat} (he : e < 3 * m) : f_Nt_nextWayToGhost (nI e) S = some (nI (sig tw e), S) := by
  unfold f_Nt_nextWayToGhost f_Nt_nextWayToGhost_0
  rw [show (1 : Int32) = nI 1 from rfl, f_ahead (h.small he) (by decide), bd_s]
  dsimp only
  rw [ah_1, h.tw' (nx_lt he), bd_s]
  rfl
theorem CN.leave (h : CN S X Y n G m s tw lv) {v : Nat} (hv : v < n) : f_Nt_placeOf (nI v) S = some (nI (v + 1), S) ∧ f_Rw_get 10 (nI (v + 1)) S = some (nI (lv v), S) := by
  have g := h.1.2.2.1
  have nG : v ≠ G := by have := h.2.2.2.2.2; omega
  have := h.2.2.2.2.2
  refine ⟨f_placeOf h.1 (by omega) nG, ?_⟩
  rw [get_ok h.2.2.1 (show v + 1 < n + 1 by omega), (h.2.2.2.1 v hv).1]
/-- a round comes to every edge of its point within the points' number -/
theorem NETX.turns (h : NETX X Y n G m s tw) {e e1 : Nat} (he : e < 3 * m) (hv : s e < n) (he1 : e1 < 3 * m) (hs : s e1 = s e) : ∃ i, i ≤ n ∧ itr (rho tw) i e = e1 ∧ ∀ j, j < i → itr (rho tw) j e ≠ e1 := by
  have hvr : s e ∈ List.range n := List.mem_range.mpr hv
  obtain ⟨i, hi, hmin⟩ := least_ex (round_all h.1 h.2.1 he hvr he1 hs)
  obtain ⟨L, L0, hL, hne⟩ := orbit (fun e he => rho_lt h.2.1 he) (rho_inj h.2.1) he
  have rl := round_len h.1 h.2.1 (fun i => List.mem_range) he hvr hne
  refine ⟨i, ?_, hi, hmin⟩
  by_cases c : i < L
  · omega
  · exfalso
    have := hmin (i - L) (by omega)
    apply this
    have e2 : i = (i - L) + L := by omega
    rw [e2, itr_add, hL] at hi
    exact hi
theorem f_wayToGhost (h : CN S X Y n G m s tw lv) {v e0 : Nat} (hv : v < n) (he0 : e0 < 3 * m) (hs : s e0 = v) (hG : s (nx e0) = G) : f_Nt_wayToGhost (nI v) S = some (nI e0, S) := by
  have g := h.1.2.2.1
  have hnG := h.2.2.2.2.2
  have l := h.2.2.2.1 v hv
  obtain ⟨i, hin, hi, hmin⟩ := h.2.1.turns l.2.1 (by rw [l.2.2]; exact hv) he0 (by rw [hs, l.2.2])
  have ir := itr_rho h.2.1.2.1 l.2.1
  unfold f_Nt_wayToGhost f_Nt_wayToGhost_0
  rw [(h.leave hv).1, bd_s]
  dsimp only
  rw [(h.leave hv).2, bd_s]
  dsimp only
  have loop : ∀ (d fuel j : Nat), j + d = i → d < fuel → f_Nt_wayToGhost_15 fuel (nI (itr (rho tw) j (lv v))) (nI j) S = some (nI e0, S) := by
    intro d
    induction d with
    | zero =>
      intro fuel j hj hf
      obtain ⟨fuel, rfl⟩ : ∃ j, fuel = j + 1 := ⟨fuel - 1, by omega⟩
      have : j = i := by omega
      subst this
      rw [f_Nt_wayToGhost_15]
      dsimp only
      rw [h.1.1, if_neg (nI_nlt (by omega) (by omega)), f_endOf h.1 (ir j).1, bd_s]
      dsimp only
      rw [hi, hG, h.1.1, if_pos rfl]
    | succ d ih =>
      intro fuel j hj hf
      obtain ⟨fuel, rfl⟩ : ∃ j, fuel = j + 1 := ⟨fuel - 1, by omega⟩
      rw [f_Nt_wayToGhost_15]
      dsimp only
      have sb := (h.1.2.2.2.2.2.2.1 _ (nx_lt (ir j).1)).2
      rw [h.1.1, if_neg (nI_nlt (by omega) (by omega)), f_endOf h.1 (ir j).1, bd_s]
      dsimp only
      rw [h.1.1, if_neg (fun q => by
        have q := (nI_eq (by omega) (by omega)).mp q
        exact hmin j (by omega) (h.2.1.2.1.2.2 _ (ir j).1 _ he0 (by rw [(ir j).2, l.2.2, hs]) (by rw [q, hG])))]
      rw [f_leftOf h.1 (ir j).1, bd_s]
      dsimp only
      rw [bn_s, nI_1]
      exact ih fuel (j + 1) (by omega) (by omega)
  exact loop i FU 0 (by omega) (by have := FU_big; omega)
theorem f_isCorner (h : PV S n X Y) {a b c : Nat} (ha : a < n) (hb : b < n) (hc : c < n) : f_Ol_isCorner (nI a) (nI b) (nI c) S = some (b32 (gO X Y a b c ≠ 0), S) := by
  have pc := h.2.2.1 c hc
  unfold f_Ol_isCorner f_Ol_isCorner_0 f_Pt_x f_Pt_x_0 f_Pt_y f_Pt_y_0
  rw [h.x hc, bd_s, bd_s]
  dsimp only
  rw [h.y hc, bd_s, bd_s]
  dsimp only
  obtain ⟨r, r1, r2⟩ := f_turn h ha hb (x := ga S 6 c) (y := ga S 7 c) (by rw [pc.1, pc.2.1]; exact pc.2.2)
  rw [r1, bd_s]
  dsimp only
  have e : r.toInt = gO X Y a b c := by rw [r2, pc.1, pc.2.1]; rfl
  have z : (0 : Int64).toInt = 0 := rfl
  by_cases q : gO X Y a b c = 0
  · rw [if_pos ((cmp_z _ _).mpr (by rw [e, z]; exact q)), b32_f (fun w => w q)]
  · rw [if_neg (fun w => q (by have := (cmp_z _ _).mp w; rw [e, z] at this; exact this)), b32_t q]
theorem f_put (hc : Cap S 17 n) {W : List Nat} (hW : HL S 17 W) (h11 : gi S 11 = nI W.length) (hl : W.length < n) (x : Nat) : ∃ T, f_Ol_put (nI x) S = some T ∧ frU S T ∧ gi T 12 = gi S 12 ∧ HL T 17 (W ++ [x]) ∧ gi T 11 = nI (W ++ [x]).length := by
  unfold f_Ol_put f_Ol_put_0
  rw [h11, put_ok hc hl, bd_s, bn_s]
  refine ⟨_, rfl, ⟨fun k h1 h2 => gi_seti_ne _ _ h1, rfl, rfl, fun k hk => ?_⟩, gi_seti_ne _ _ (by decide), hW.put ?_, ?_⟩
  · rw [ga_seti, ga_seta_ne _ _ hk]
  · rw [ga_seti, ga_seta]
  · rw [gi_seti, gi_seta, h11, nI_1]; simp
/-- round the net -/
theorem f_drawRound_loop (h : CN S X Y n G m s tw lv) (hp : PV S n X Y) (h3 : gi S 3 = nI n) (hc : Cap S 17 n) {e0 L : Nat} (he0 : e0 < 3 * m) (hG : s (nx e0) = G) (o : OUT X Y n L (fun i => s (itr (sig tw) i e0))) (ol : L ≤ n) (oL : itr (sig tw) L e0 = e0) (on : ∀ i, 0 < i → i < L → itr (sig tw) i e0 ≠ e0) : ∀ (d fuel t : Nat) (T : St) (W : List Nat), 0 < t → t + d + 1 = L → d + 1 < fuel → frU S T → gi T 12 = gi S 12 → HL T 17 W → gi T 11 = nI W.length → W.length ≤ t → ∃ R, f_Ol_drawRound_25 fuel (nI e0) (nI (itr (sig tw) t e0)) (nI (s (itr (sig tw) (t - 1) e0))) (nI t) T = some R ∧ frU S R ∧ gi R 12 = gi S 12 ∧ HL R 17 (W ++ rowC X Y (fun i => s (itr (sig tw) i e0)) (d + 1) (t - 1)) ∧ gi R 11 = nI (W ++ rowC X Y (fun i => s (itr (sig tw) i e0)) (d + 1) (t - 1)).length := by
  have is := itr_sig h.2.1.1 h.2.1.2.1 he0 hG
  have vn : ∀ i, s (itr (sig tw) i e0) < n := o.2.2.1
  have nle : n ≤ 1024 := hp.2.2.2
  intro d
  induction d with
  | zero =>
    intro fuel t T W t0 ht hf fr h12 hW h11 hWl
    obtain ⟨fuel, rfl⟩ : ∃ j, fuel = j + 1 := ⟨fuel - 1, by omega⟩
    have hT := fr.a.cn h
    have pT := fr.a.pv hp
    obtain ⟨u, rfl⟩ : ∃ u, t = u + 1 := ⟨t - 1, by omega⟩
    have nn := vn u
    rw [f_Ol_drawRound_25]
    dsimp only
    rw [fr.1 3 (by decide) (by decide), h3, if_neg (nI_ge (by omega) (by omega)), f_nextWay hT.1 (is (u + 1)).1, bd_s]
    dsimp only
    rw [f_startOf hT.1 (is (u + 1)).1, bd_s]
    dsimp only
    rw [show u + 1 - 1 = u by omega, if_neg (fun q => by
      have := nI_pos (n := s (itr (sig tw) u e0)) (by omega)
      rw [q] at this
      exact this (by decide))]
    have en : sig tw (itr (sig tw) (u + 1) e0) = itr (sig tw) (u + 2) e0 := rfl
    rw [en, f_startOf hT.1 (is (u + 2)).1, bd_s]
    dsimp only
    rw [f_isCorner pT (vn u) (vn (u + 1)) (vn (u + 2)), bd_s]
    dsimp only
    have last : itr (sig tw) (u + 2) e0 = e0 := by rw [show u + 2 = L by omega]; exact oL
    have rc : rowC X Y (fun i => s (itr (sig tw) i e0)) (0 + 1) u = if gO X Y (s (itr (sig tw) u e0)) (s (itr (sig tw) (u + 1) e0)) (s (itr (sig tw) (u + 2) e0)) ≠ 0 then [s (itr (sig tw) (u + 1) e0)] else [] := rfl
    by_cases q : gO X Y (s (itr (sig tw) u e0)) (s (itr (sig tw) (u + 1) e0)) (s (itr (sig tw) (u + 2) e0)) ≠ 0
    · rw [b32_t q, if_neg (by decide)]
      unfold f_Ol_drawRound_81 f_Ol_drawRound_87
      obtain ⟨R, r1, r2, r3, r4, r5⟩ := f_put (hc.of fr.2.2.1) hW h11 (by omega) (s (itr (sig tw) (u + 1) e0))
      rw [r1, bd_s, last, if_pos rfl]
      refine ⟨R, rfl, fr.trans r2, r3.trans h12, ?_, ?_⟩
      · rw [rc, if_pos q]; exact r4
      · rw [rc, if_pos q]; exact r5
    · rw [b32_f q, if_pos rfl]
      unfold f_Ol_drawRound_87
      rw [last, if_pos rfl]
      refine ⟨T, rfl, fr, h12, ?_, ?_⟩
      · rw [rc, if_neg q, List.append_nil]; exact hW
      · rw [rc, if_neg q, List.append_nil]; exact h11
  | succ d ih =>
    intro fuel t T W t0 ht hf fr h12 hW h11 hWl
    obtain ⟨fuel, rfl⟩ : ∃ j, fuel = j + 1 := ⟨fuel - 1, by omega⟩
    have hT := fr.a.cn h
    have pT := fr.a.pv hp
    obtain ⟨u, rfl⟩ : ∃ u, t = u + 1 := ⟨t - 1, by omega⟩
    have nn := vn u
    rw [f_Ol_drawRound_25]
    dsimp only
    rw [fr.1 3 (by decide) (by decide), h3, if_neg (nI_ge (by omega) (by omega)), f_nextWay hT.1 (is (u + 1)).1, bd_s]
    dsimp only
    rw [f_startOf hT.1 (is (u + 1)).1, bd_s]
    dsimp only
    rw [show u + 1 - 1 = u by omega, if_neg (fun q => by
      have := nI_pos (n := s (itr (sig tw) u e0)) (by omega)
      rw [q] at this
      exact this (by decide))]
    have en : sig tw (itr (sig tw) (u + 1) e0) = itr (sig tw) (u + 2) e0 := rfl
    rw [en, f_startOf hT.1 (is (u + 2)).1, bd_s]
    dsimp only
    rw [f_isCorner pT (vn u) (vn (u + 1)) (vn (u + 2)), bd_s]
    dsimp only
    have es := h.1.small (is (u + 2)).1
    have es0 := h.1.small he0
    have more : ¬ nI (itr (sig tw) (u + 2) e0) = nI e0 := fun q => on (u + 2) (by omega) (by omega) ((nI_eq (by omega) (by omega)).mp q)
    have rc : rowC X Y (fun i => s (itr (sig tw) i e0)) (d + 1 + 1) u = if gO X Y (s (itr (sig tw) u e0)) (s (itr (sig tw) (u + 1) e0)) (s (itr (sig tw) (u + 2) e0)) ≠ 0 then s (itr (sig tw) (u + 1) e0) :: rowC X Y (fun i => s (itr (sig tw) i e0)) (d + 1) (u + 1) else rowC X Y (fun i => s (itr (sig tw) i e0)) (d + 1) (u + 1) := rfl
    by_cases q : gO X Y (s (itr (sig tw) u e0)) (s (itr (sig tw) (u + 1) e0)) (s (itr (sig tw) (u + 2) e0)) ≠ 0
    · rw [b32_t q, if_neg (by decide)]
      unfold f_Ol_drawRound_81 f_Ol_drawRound_87
      obtain ⟨R, r1, r2, r3, r4, r5⟩ := f_put (hc.of fr.2.2.1) hW h11 (by omega) (s (itr (sig tw) (u + 1) e0))
      rw [r1, bd_s, if_neg more, bn_s, nI_1]
      have := ih fuel (u + 2) R (W ++ [s (itr (sig tw) (u + 1) e0)]) (by omega) (by omega) (by omega) (fr.trans r2) (r3.trans h12) r4 r5 (by simp; omega)
      rw [rc, if_pos q]
      rw [List.append_assoc] at this
      exact this
    · rw [b32_f q, if_pos rfl]
      unfold f_Ol_drawRound_87
      rw [if_neg more, bn_s, nI_1]
      have := ih fuel (u + 2) T W (by omega) (by omega) (by omega) fr h12 hW h11 (by omega)
      rw [rc, if_neg q]
      exact this
end
