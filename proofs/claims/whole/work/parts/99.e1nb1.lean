/-! NEIGHBOURS: the class's round -/
theorem filter_idx (q : Nat → Bool) : ∀ (l : List Nat) (i : Nat) (hi : i < l.length), q l[i] = true → (l.filter q).getD ((l.take i).countP q) 0 = l[i] ∧ (l.take i).countP q < (l.filter q).length := by
  intro l
  induction l with
  | nil => intro i hi; exact absurd hi (Nat.not_lt_zero _)
  | cons a t ih =>
    intro i hi hq
    cases i with
    | zero =>
      have hq : q a = true := hq
      rw [List.filter_cons_of_pos hq]
      exact ⟨rfl, by simp⟩
    | succ i =>
      have hi' : i < t.length := by simpa using hi
      have r := ih i hi' hq
      rw [List.take_succ_cons, List.countP_cons]
      by_cases c : q a = true
      · rw [List.filter_cons_of_pos c, if_pos c]
        exact ⟨r.1, by simp; omega⟩
      · rw [List.filter_cons_of_neg c, if_neg c]
        exact r
section
variable {S : St} {n G m : Nat} {X Y : Nat → Int} {s tw lv : Nat → Nat} {e0 L : Nat}
def wE (s tw : Nat → Nat) (e0 j : Nat) : Nat := s (nx (itr (rho tw) j e0))
/-- a whole round -/
def ORB (n : Nat) (tw : Nat → Nat) (e0 L : Nat) : Prop := 0 < L ∧ itr (rho tw) L e0 = e0 ∧ (∀ i j, i < j → j < L → itr (rho tw) i e0 ≠ itr (rho tw) j e0) ∧ L ≤ n + 1
def NL (G : Nat) (s tw : Nat → Nat) (e0 L : Nat) : List Nat := ((List.range L).map (wE s tw e0)).filter fun x => decide (x ≠ G)
theorem NETX.orb (h : NETX X Y n G m s tw) (he : e0 < 3 * m) (hv : s e0 < n) : ∃ L, ORB n tw e0 L := by
  obtain ⟨L, L0, hL, hne⟩ := orbit (fun e he => rho_lt h.2.1 he) (rho_inj h.2.1) he
  exact ⟨L, L0, hL, hne, round_len h.1 h.2.1 (fun i => List.mem_range) he (List.mem_range.mpr hv) hne⟩
/-- an edge from p to k -/
def NBE (G m : Nat) (s : Nat → Nat) (p k : Nat) : Prop := k ≠ G ∧ ∃ e, e < 3 * m ∧ s e = p ∧ s (nx e) = k
theorem NL_mem (h : NETX X Y n G m s tw) (he : e0 < 3 * m) (hv : s e0 < n) (ho : ORB n tw e0 L) {k : Nat} : k ∈ NL G s tw e0 L ↔ NBE G m s (s e0) k := by
  unfold NL
  rw [List.mem_filter, List.mem_map]
  constructor
  · rintro ⟨⟨i, hi, rfl⟩, hk⟩
    have ii := itr_rho h.2.1 he i
    exact ⟨of_decide_eq_true hk, _, ii.1, ii.2, rfl⟩
  · rintro ⟨hk, e, h1, h2, h3⟩
    refine ⟨?_, decide_eq_true hk⟩
    obtain ⟨i, hin, hi, hmin⟩ := h.turns he hv h1 h2
    have : i < L := by
      by_cases c : i < L
      · exact c
      · exfalso
        have := hmin (i - L) (by have := ho.1; omega)
        apply this
        have e2 : i = (i - L) + L := by omega
        rw [e2, itr_add, ho.2.1] at hi
        exact hi
    exact ⟨i, List.mem_range.mpr this, by unfold wE; rw [hi]; exact h3⟩
theorem wE_inj (h : NETX X Y n G m s tw) (he : e0 < 3 * m) (ho : ORB n tw e0 L) {i j : Nat} (hi : i < L) (hj : j < L) (e : wE s tw e0 i = wE s tw e0 j) : i = j := by
  have a := itr_rho h.2.1 he i
  have b := itr_rho h.2.1 he j
  have q := h.2.1.2.2 _ a.1 _ b.1 (by rw [a.2, b.2]) e
  rcases Nat.lt_trichotomy i j with r | r | r
  · exact absurd q (ho.2.2.1 i j r hj)
  · exact r
  · exact absurd q.symm (ho.2.2.1 j i r hi)
theorem NL_nodup (h : NETX X Y n G m s tw) (he : e0 < 3 * m) (ho : ORB n tw e0 L) : (NL G s tw e0 L).Nodup := by
  unfold NL
  refine List.Nodup.sublist List.filter_sublist ?_
  unfold List.Nodup
  rw [List.pairwise_map]
  refine List.Pairwise.imp_of_mem ?_ (List.nodup_range (n := L))
  intro a b ha hb hab e
  exact hab (wE_inj h he ho (List.mem_range.mp ha) (List.mem_range.mp hb) e)
theorem NL_len (h : NETX X Y n G m s tw) {e1 L1 : Nat} (he : e0 < 3 * m) (hv : s e0 < n) (ho : ORB n tw e0 L) (he1 : e1 < 3 * m) (hs : s e1 = s e0) (ho1 : ORB n tw e1 L1) : (NL G s tw e0 L).length = (NL G s tw e1 L1).length := by
  have m0 := fun k => NL_mem h he hv ho (k := k)
  have m1 := fun k => NL_mem h he1 (by rw [hs]; exact hv) ho1 (k := k)
  rw [hs] at m1
  have a := nodup_le (NL_nodup h he ho) (fun x hx => (m1 x).mpr ((m0 x).mp hx))
  have b := nodup_le (NL_nodup h he1 ho1) (fun x hx => (m0 x).mpr ((m1 x).mp hx))
  omega
/-- how many -/
theorem f_degree_loop (h : CN S X Y n G m s tw lv) (he : e0 < 3 * m) (hv : s e0 < n) (ho : ORB n tw e0 L) : ∀ (d fuel i : Nat), i + d + 1 = L → d < fuel → f_Nt_degree_21 fuel (nI e0) (nI (itr (rho tw) i e0)) (nI (((List.range i).map (wE s tw e0)).countP fun x => decide (x ≠ G))) (nI i) S = some (nI (NL G s tw e0 L).length, S) := by
  obtain ⟨hN, hX, -, -, -, hnG⟩ := id h
  have g := hN.2.2.1
  have ir := itr_rho hX.2.1 he
  have es0 := hN.small he
  have oL := ho.2.2.2
  intro d
  induction d with
  | zero =>
    intro fuel i hi hf
    obtain ⟨fuel, rfl⟩ : ∃ j, fuel = j + 1 := ⟨fuel - 1, by omega⟩
    have sb := (hN.2.2.2.2.2.2.1 _ (nx_lt (ir i).1)).2
    have last : rho tw (itr (rho tw) i e0) = e0 := by
      have : itr (rho tw) (i + 1) e0 = e0 := by rw [show i + 1 = L by omega]; exact ho.2.1
      exact this
    rw [f_Nt_degree_21]
    dsimp only
    rw [hN.1, if_neg (nI_nlt (by omega) (by omega)), f_endOf hN (ir i).1, bd_s]
    dsimp only
    unfold f_Nt_degree_45
    rw [f_leftOf hN (ir i).1, last, hN.1]
    simp only [bd_s, bn_s, if_true]
    rw [nI_1]
    have e : (NL G s tw e0 L).length = ((List.range i).map (wE s tw e0)).countP (fun x => decide (x ≠ G)) + if decide (wE s tw e0 i ≠ G) = true then 1 else 0 := by
      unfold NL
      rw [← List.countP_eq_length_filter, show L = i + 1 by omega, List.range_succ, List.map_append, List.countP_append]
      simp [List.countP_cons]
    by_cases c : s (nx (itr (rho tw) i e0)) = G
    · rw [if_pos (by rw [c]), e, if_neg (by unfold wE; simp [c])]
      rfl
    · rw [if_neg (fun q => c ((nI_eq (by omega) (by omega)).mp q)), e, if_pos (by unfold wE; simp [c])]
  | succ d ih =>
    intro fuel i hi hf
    obtain ⟨fuel, rfl⟩ : ∃ j, fuel = j + 1 := ⟨fuel - 1, by omega⟩
    have sb := (hN.2.2.2.2.2.2.1 _ (nx_lt (ir i).1)).2
    have es := hN.small (ir (i + 1)).1
    have more : ¬ nI (rho tw (itr (rho tw) i e0)) = nI e0 := fun q => by
      have q : itr (rho tw) (i + 1) e0 = e0 := (nI_eq (a := itr (rho tw) (i + 1) e0) (by omega) (by omega)).mp q
      exact ho.2.2.1 0 (i + 1) (by omega) (by omega) q.symm
    have nx' := ih fuel (i + 1) (by omega) (by omega)
    rw [List.range_succ, List.map_append, List.countP_append] at nx'
    rw [f_Nt_degree_21]
    dsimp only
    rw [hN.1, if_neg (nI_nlt (by omega) (by omega)), f_endOf hN (ir i).1, bd_s]
    dsimp only
    unfold f_Nt_degree_45
    rw [f_leftOf hN (ir i).1, hN.1]
    simp only [bd_s, bn_s, if_neg more, nI_1]
    by_cases c : s (nx (itr (rho tw) i e0)) = G
    · rw [if_pos (by rw [c])]
      have : List.countP (fun x => decide (x ≠ G)) (List.map (wE s tw e0) [i]) = 0 := by simp [List.countP_cons, wE, c]
      rw [this] at nx'
      exact nx'
    · rw [if_neg (fun q => c ((nI_eq (by omega) (by omega)).mp q))]
      have : List.countP (fun x => decide (x ≠ G)) (List.map (wE s tw e0) [i]) = 1 := by simp [List.countP_cons, wE, c]
      rw [this] at nx'
      exact nx'
theorem f_degree (h : CN S X Y n G m s tw lv) {p : Nat} (hp : p < n) : ∃ L, ORB n tw (lv p) L ∧ f_Nt_degree (nI p) S = some (nI (NL G s tw (lv p) L).length, S) := by
  have l := h.2.2.2.1 p hp
  obtain ⟨L, ho⟩ := h.2.1.orb l.2.1 (by rw [l.2.2]; exact hp)
  refine ⟨L, ho, ?_⟩
  unfold f_Nt_degree f_Nt_degree_0
  rw [(h.leave hp).1, bd_s]
  dsimp only
  rw [(h.leave hp).2, bd_s]
  have := f_degree_loop h l.2.1 (by rw [l.2.2]; exact hp) ho (L - 1) FU 0 (by have := ho.1; omega) (by have := FU_big; have := ho.2.2.2; have := h.1.2.2.1; have := h.2.2.2.2.2; omega)
  exact this
/-- the edge to the lowest -/
theorem f_lowestFrom_loop (h : CN S X Y n G m s tw lv) (he : e0 < 3 * m) (hv : s e0 < n) (ho : ORB n tw e0 L) : ∀ (d fuel i b : Nat), i + d + 1 = L → d < fuel → b < L → (∀ j, j < i → wE s tw e0 b ≤ wE s tw e0 j) → ∃ b', b' < L ∧ (∀ j, j < L → wE s tw e0 b' ≤ wE s tw e0 j) ∧ f_Nt_lowestFrom_21 fuel (nI e0) (nI (itr (rho tw) b e0)) (nI (itr (rho tw) i e0)) (nI i) S = some (nI (itr (rho tw) b' e0), S) := by
  obtain ⟨hN, hX, -, -, -, hnG⟩ := id h
  have g := hN.2.2.1
  have ir := itr_rho hX.2.1 he
  have es0 := hN.small he
  have oL := ho.2.2.2
  have sb := fun i => (hN.2.2.2.2.2.2.1 _ (nx_lt (ir i).1)).2
  have le : ∀ a b, (nI (s (nx (itr (rho tw) a e0))) ≤ nI (s (nx (itr (rho tw) b e0))) ↔ wE s tw e0 a ≤ wE s tw e0 b) := fun a b => nI_leI (by have := sb a; omega) (by have := sb b; omega)
  intro d
  induction d with
  | zero =>
    intro fuel i b hi hf hb hm
    obtain ⟨fuel, rfl⟩ : ∃ j, fuel = j + 1 := ⟨fuel - 1, by omega⟩
    have last : rho tw (itr (rho tw) i e0) = e0 := by
      have : itr (rho tw) (i + 1) e0 = e0 := by rw [show i + 1 = L by omega]; exact ho.2.1
      exact this
    rw [f_Nt_lowestFrom_21]
    dsimp only
    rw [hN.1, if_neg (nI_nlt (by omega) (by omega)), f_endOf hN (ir i).1, bd_s]
    dsimp only
    rw [f_endOf hN (ir b).1, bd_s]
    dsimp only
    unfold f_Nt_lowestFrom_47
    rw [f_leftOf hN (ir i).1, last]
    simp only [bd_s, if_true]
    by_cases c : wE s tw e0 b ≤ wE s tw e0 i
    · rw [if_pos ((le b i).mpr c)]
      refine ⟨b, hb, fun j hj => ?_, rfl⟩
      by_cases q : j = i
      · rw [q]; exact c
      · exact hm j (by omega)
    · rw [if_neg (fun q => c ((le b i).mp q))]
      refine ⟨i, by omega, fun j hj => ?_, rfl⟩
      by_cases q : j = i
      · rw [q]; exact Nat.le_refl _
      · have := hm j (by omega); omega
  | succ d ih =>
    intro fuel i b hi hf hb hm
    obtain ⟨fuel, rfl⟩ : ∃ j, fuel = j + 1 := ⟨fuel - 1, by omega⟩
    have es := hN.small (ir (i + 1)).1
    have more : ¬ nI (rho tw (itr (rho tw) i e0)) = nI e0 := fun q => by
      have q : itr (rho tw) (i + 1) e0 = e0 := (nI_eq (a := itr (rho tw) (i + 1) e0) (by omega) (by omega)).mp q
      exact ho.2.2.1 0 (i + 1) (by omega) (by omega) q.symm
    rw [f_Nt_lowestFrom_21]
    dsimp only
    rw [hN.1, if_neg (nI_nlt (by omega) (by omega)), f_endOf hN (ir i).1, bd_s]
    dsimp only
    rw [f_endOf hN (ir b).1, bd_s]
    dsimp only
    unfold f_Nt_lowestFrom_47
    rw [f_leftOf hN (ir i).1]
    simp only [bd_s, bn_s, if_neg more, nI_1]
    by_cases c : wE s tw e0 b ≤ wE s tw e0 i
    · rw [if_pos ((le b i).mpr c)]
      refine ih fuel (i + 1) b (by omega) (by omega) hb (fun j hj => ?_)
      by_cases q : j = i
      · rw [q]; exact c
      · exact hm j (by omega)
    · rw [if_neg (fun q => c ((le b i).mp q))]
      refine ih fuel (i + 1) i (by omega) (by omega) (by omega) (fun j hj => ?_)
      by_cases q : j = i
      · rw [q]; exact Nat.le_refl _
      · have := hm j (by omega); omega
end
