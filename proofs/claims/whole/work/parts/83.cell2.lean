/-! WHAT THE REFERENCE FINDS: cell after cell -/
section
variable {X Y : Nat → Int} {P : List Nat} {N G : Nat} {K : List Nat}
theorem solid_rot (hP : PtsL X Y N G P) {a b c : Nat} (h : solid X Y P a b c) : solid X Y P b c a := by
  have sn := fun d hd n1 n2 n3 => solid_neg hP h (d := d) hd n1 n2 n3
  obtain ⟨h1, h2, h3, h4, h5, h6, h7, h8⟩ := h
  refine ⟨h2, h3, h1, h5, h6, h4, by rw [gO_rot]; exact h7, fun d hd n1 n2 n3 ht => ?_⟩
  have v := sn d hd n3 n1 n2
  rw [rv_gV] at v
  have t := takes_iff (N := N) ⟨(hP.1 b h2).2.1, (hP.1 c h3).2.1, (hP.1 a h1).2.1, (hP.1 d hd).2.1⟩ (hP.1 b h2).1 (hP.1 c h3).1 (hP.1 a h1).1 (hP.1 d hd).1 (by rw [gO_rot]; exact h7) (hP.2.1 d hd b h2 n1) (hP.2.1 d hd c h3 n2) (hP.2.1 d hd a h1 n3)
  have := t.1.mp ht
  rw [gV_rot] at this
  omega
def RT (x y z : Nat) (t : Nat × Nat × Nat) : Prop := t = (x, y, z) ∨ t = (y, z, x) ∨ t = (z, x, y)
def low3 (a b c : Nat) : Nat × Nat × Nat := if b < a ∧ b < c then (b, c, a) else if c < a ∧ c < b then (c, a, b) else (a, b, c)
theorem low3_rt (a b c : Nat) : RT a b c (low3 a b c) := by
  unfold low3 RT
  split
  · exact Or.inr (Or.inl rfl)
  · split
    · exact Or.inr (Or.inr rfl)
    · exact Or.inl rfl
theorem low3_lt {a b c : Nat} (h1 : a ≠ b) (h2 : b ≠ c) (h3 : c ≠ a) : (low3 a b c).1 < (low3 a b c).2.1 ∧ (low3 a b c).1 < (low3 a b c).2.2 := by
  unfold low3
  split
  · dsimp only; omega
  · split
    · dsimp only; omega
    · dsimp only; omega
theorem low3_eq {x y z : Nat} {t : Nat × Nat × Nat} (h : RT x y z t) (h1 : t.1 < t.2.1) (h2 : t.1 < t.2.2) : low3 x y z = t := by
  unfold low3
  rcases h with rfl | rfl | rfl <;> dsimp only at h1 h2
  · rw [if_neg (by omega), if_neg (by omega)]
  · rw [if_pos (by omega)]
  · rw [if_neg (by omega), if_pos (by omega)]
theorem solid_rt (hP : PtsL X Y N G P) {a b c : Nat} (h : solid X Y P a b c) {t : Nat × Nat × Nat} (ht : RT a b c t) : solid X Y P t.1 t.2.1 t.2.2 := by
  rcases ht with rfl | rfl | rfl
  · exact h
  · exact solid_rot hP h
  · exact solid_rot hP (solid_rot hP h)
def ISC (X Y : Nat → Int) (P : List Nat) (K : List Nat) : Prop := ∃ a b c, CE X Y P a b c ∧ CELL X Y P a b c K
def sidesOf (K : List Nat) : List (Nat × Nat) := (List.range K.length).map fun i => (K.getD i 0, K.getD ((i + 1) % K.length) 0)
def fanOf (K : List Nat) : List (Nat × Nat × Nat) := (List.range (K.length - 2)).map fun j => low3 (K.getD 0 0) (K.getD (j + 1) 0) (K.getD (j + 2) 0)
theorem sides_mem {K : List Nat} {p q : Nat} : (p, q) ∈ sidesOf K ↔ ∃ i, i < K.length ∧ K.getD i 0 = p ∧ K.getD ((i + 1) % K.length) 0 = q := by
  unfold sidesOf
  rw [List.mem_map]
  constructor
  · rintro ⟨i, hi, e⟩
    exact ⟨i, List.mem_range.mp hi, (Prod.mk.inj e).1, (Prod.mk.inj e).2⟩
  · rintro ⟨i, hi, e1, e2⟩
    exact ⟨i, List.mem_range.mpr hi, by rw [e1, e2]⟩
/-- an edge of the cell's own -/
def sideP (X Y : Nat → Int) (P : List Nat) (K : List Nat) (p q r : Nat) : Prop := p ≠ q ∧ p ∈ K ∧ q ∈ K ∧ CE X Y P p q r ∧ (∀ d, d ∈ K ↔ d ∈ P ∧ gV X Y (gQ X Y) p q r d = 0) ∧ ∀ d ∈ K, d ≠ p → d ≠ q → 0 < gO X Y p q d
theorem ISC.side (hD : DIS X Y P) (h : ISC X Y P K) {p q : Nat} (hs : (p, q) ∈ sidesOf K) : ∃ r, sideP X Y P K p q r := by
  obtain ⟨a, b, c, hE, hK⟩ := h
  have hO : gO X Y a b c ≠ 0 := by have := hE.2.2.2.1; omega
  obtain ⟨i, hi, e1, e2⟩ := sides_mem.mp hs
  have l3 := hK.len hD hE
  have hj : (i + 1) % K.length < K.length := Nat.mod_lt _ (by omega)
  have mi := hK.mem hi
  have mj := hK.mem hj
  have ni : i ≠ (i + 1) % K.length := by
    by_cases r : i + 1 < K.length
    · rw [Nat.mod_eq_of_lt r]; omega
    · rw [show i + 1 = K.length by omega, Nat.mod_self]; omega
  have sd := fun d hd n1 n2 => hK.side hD hO hi (d := d) hd n1 n2
  have npq : p ≠ q := fun r => ni (hK.inj hi hj (by rw [e1, e2]; exact r))
  rw [e1] at mi
  rw [e2] at mj
  rw [e1, e2] at sd
  have pm := (hK.1 p).mpr mi
  have qm := (hK.1 q).mpr mj
  obtain ⟨r, rm, n1, n2⟩ : ∃ r, r ∈ K ∧ r ≠ p ∧ r ≠ q := by
    have t : ∃ l, l < K.length ∧ l ≠ i ∧ l ≠ (i + 1) % K.length := by
      generalize (i + 1) % K.length = j
      by_cases c1 : i ≠ 0 ∧ j ≠ 0
      · exact ⟨0, by omega, by omega, by omega⟩
      by_cases c2 : i ≠ 1 ∧ j ≠ 1
      · exact ⟨1, by omega, by omega, by omega⟩
      · exact ⟨2, by omega, by omega, by omega⟩
    obtain ⟨l, hl, n1, n2⟩ := t
    exact ⟨K.getD l 0, (hK.1 _).mpr (hK.mem hl), fun r => n1 (hK.inj hl hi (by rw [e1]; exact r)), fun r => n2 (hK.inj hl hj (by rw [e2]; exact r))⟩
  have rr := (hK.1 r).mp rm
  have s := CE_same hE mi.1 mj.1 rr.1 mi.2 mj.2 rr.2 (sd r rm n1 n2)
  exact ⟨r, npq, pm, qm, s.1, fun d => by rw [hK.1, s.2], sd⟩
/-- a cell beyond a side is another one, and the side's way back is its own -/
theorem beyond (hD : DIS X Y P) {K K' : List Nat} {p q r c : Nat} (h : sideP X Y P K p q r) (hE : CE X Y P q p c) (hK' : CELL X Y P q p c K') : (q, p) ∈ sidesOf K' := by
  obtain ⟨npq, pK, qK, hr, hm, hl⟩ := h
  have hO : gO X Y q p c ≠ 0 := by have := hE.2.2.2.1; omega
  rw [sides_mem]
  refine hK'.isSide hD hO ((hK'.1 q).mpr ⟨hE.1, gV_at1 _ _ _ _⟩) ((hK'.1 p).mpr ⟨hE.2.1, gV_at2 _ _ _ _⟩) (fun z => npq z.symm) (fun d hd n1 n2 hneg => ?_)
  have hd' := (hK'.1 d).mp hd
  -- d left of p -> q, on the circle of q, p, c
  have od : 0 < gO X Y p q d := by rw [gO_swap]; omega
  have oc : gO X Y p q c < 0 := by have := hE.2.2.2.1; rw [gO_swap] at this; omega
  have t := gV_turns X Y (gQ X Y) p q r d c
  have z : gV X Y (gQ X Y) p q d c = 0 := by
    rw [gV_swap', gV_swap]
    have := hd'.2
    omega
  rw [z, Int.zero_mul, Int.sub_zero] at t
  have l1 := hr.2.2.2.2 d hd'.1
  have l2 := hr.2.2.2.2 c hE.2.2.1
  have a1 : 0 ≤ gV X Y (gQ X Y) p q r d * gO X Y p q c := Int.mul_nonneg_of_nonpos_of_nonpos l1 (Int.le_of_lt oc)
  have a2 : gV X Y (gQ X Y) p q r c * gO X Y p q d ≤ 0 := Int.mul_nonpos_of_nonpos_of_nonneg l2 (Int.le_of_lt od)
  have a3 : gV X Y (gQ X Y) p q r c * gO X Y p q d = 0 := by omega
  have cK : c ∈ K := (hm c).mpr ⟨hE.2.2.1, by
    rcases Int.mul_eq_zero.mp a3 with w | w
    · exact w
    · omega⟩
  have := hl c cK (fun w => by rw [w, gO_12] at oc; omega) (fun w => by rw [w, gO_22] at oc; omega)
  omega
theorem ISC.same {K K' : List Nat} (h : ISC X Y P K) (h' : ISC X Y P K') {x y z : Nat} (o : 0 < gO X Y x y z) (hx : x ∈ K) (hy : y ∈ K) (hz : z ∈ K) (hx' : x ∈ K') (hy' : y ∈ K') (hz' : z ∈ K') : K = K' := by
  obtain ⟨a, b, c, hE, hK⟩ := h
  obtain ⟨a', b', c', hE', hK'⟩ := h'
  have x1 := (hK.1 x).mp hx
  have y1 := (hK.1 y).mp hy
  have z1 := (hK.1 z).mp hz
  have x2 := (hK'.1 x).mp hx'
  have y2 := (hK'.1 y).mp hy'
  have z2 := (hK'.1 z).mp hz'
  have s1 := CE_same hE x1.1 y1.1 z1.1 x1.2 y1.2 z1.2 o
  have s2 := CE_same hE' x2.1 y2.1 z2.1 x2.2 y2.2 z2.2 o
  exact hK.uniq hK' (fun d _ => by rw [← s1.2, ← s2.2])
/-- a triangle of a cell's fan -/
theorem fan_mem (hD : DIS X Y P) (hK : ISC X Y P K) {t : Nat × Nat × Nat} (ht : t ∈ fanOf K) : ∃ x y z, solid X Y P x y z ∧ x ∈ K ∧ y ∈ K ∧ z ∈ K ∧ t = low3 x y z := by
  unfold fanOf at ht
  rw [List.mem_map] at ht
  obtain ⟨j, hj, rfl⟩ := ht
  rw [List.mem_range] at hj
  obtain ⟨a, b, c, hE, hK⟩ := hK
  have s := hK.fan hD hE (k := j + 2) (by omega) (by omega)
  rw [show j + 2 - 1 = j + 1 by omega] at s
  exact ⟨_, _, _, s, (hK.1 _).mpr (hK.mem (by omega)), (hK.1 _).mpr (hK.mem (by omega)), (hK.1 _).mpr (hK.mem (by omega)), rfl⟩
theorem fan_ok (hP : PtsL X Y N G P) (hK : ISC X Y P K) {t : Nat × Nat × Nat} (ht : t ∈ fanOf K) : solid X Y P t.1 t.2.1 t.2.2 ∧ t.1 < t.2.1 ∧ t.1 < t.2.2 ∧ t.1 ∈ K ∧ t.2.1 ∈ K ∧ t.2.2 ∈ K := by
  obtain ⟨x, y, z, hs, hx, hy, hz, rfl⟩ := fan_mem hP.2.1 hK ht
  have r := low3_rt x y z
  have l := low3_lt hs.2.2.2.1 hs.2.2.2.2.1 hs.2.2.2.2.2.1
  refine ⟨solid_rt hP hs r, l.1, l.2, ?_⟩
  rcases r with e | e | e <;> rw [e]
  · exact ⟨hx, hy, hz⟩
  · exact ⟨hy, hz, hx⟩
  · exact ⟨hz, hx, hy⟩
theorem fan_all (hP : PtsL X Y N G P) (hK : ISC X Y P K) {t : Nat × Nat × Nat} (hs : solid X Y P t.1 t.2.1 t.2.2) (h1 : t.1 < t.2.1) (h2 : t.1 < t.2.2) (m1 : t.1 ∈ K) (m2 : t.2.1 ∈ K) (m3 : t.2.2 ∈ K) : t ∈ fanOf K := by
  obtain ⟨a, b, c, hE, hK⟩ := hK
  obtain ⟨k, k2, hk, h⟩ := hK.all hP.2.1 hE hs ((hK.1 _).mp m1).2 ((hK.1 _).mp m2).2 ((hK.1 _).mp m3).2
  unfold fanOf
  rw [List.mem_map]
  refine ⟨k - 2, List.mem_range.mpr (by omega), ?_⟩
  rw [show k - 2 + 1 = k - 1 by omega, show k - 2 + 2 = k by omega]
  refine low3_eq ?_ h1 h2
  unfold RT
  obtain ⟨x, y, z⟩ := t
  dsimp only at h ⊢
  rcases h with ⟨e1, e2, e3⟩ | ⟨e1, e2, e3⟩ | ⟨e1, e2, e3⟩ <;> rw [e1, e2, e3]
  · exact Or.inl rfl
  · exact Or.inr (Or.inr rfl)
  · exact Or.inr (Or.inl rfl)
theorem fan_nodup (hD : DIS X Y P) (hK : ISC X Y P K) : (fanOf K).Nodup := by
  obtain ⟨a, b, c, hE, hK⟩ := hK
  unfold fanOf
  unfold List.Nodup
  rw [List.pairwise_map]
  refine List.Pairwise.imp_of_mem ?_ (List.nodup_range (n := K.length - 2))
  intro i j hi hj hij he
  rw [List.mem_range] at hi hj
  have inj : ∀ u v, u < K.length → v < K.length → K.getD u 0 = K.getD v 0 → u = v := fun u v hu hv => hK.inj hu hv
  have r1 := low3_rt (K.getD 0 0) (K.getD (i + 1) 0) (K.getD (i + 2) 0)
  have r2 := low3_rt (K.getD 0 0) (K.getD (j + 1) 0) (K.getD (j + 2) 0)
  rw [he] at r1
  generalize low3 (K.getD 0 0) (K.getD (j + 1) 0) (K.getD (j + 2) 0) = t at r1 r2
  have z1 := inj 0 (i + 1) (by omega) (by omega)
  have z2 := inj 0 (i + 2) (by omega) (by omega)
  have z3 := inj 0 (j + 1) (by omega) (by omega)
  have z4 := inj 0 (j + 2) (by omega) (by omega)
  have z5 := inj (i + 1) (j + 1) (by omega) (by omega)
  have y1 := inj (i + 1) 0 (by omega) (by omega)
  have y2 := inj (i + 2) 0 (by omega) (by omega)
  have y3 := inj (j + 1) 0 (by omega) (by omega)
  have y4 := inj (j + 2) 0 (by omega) (by omega)
  generalize K.getD 0 0 = f at *
  generalize K.getD (i + 1) 0 = p at *
  generalize K.getD (i + 2) 0 = q at *
  generalize K.getD (j + 1) 0 = p' at *
  generalize K.getD (j + 2) 0 = q' at *
  rcases r1 with rfl | rfl | rfl <;> rcases r2 with e | e | e <;> injection e with e1 e <;> injection e with e2 e3
  · have := z5 e2; omega
  · have := z3 e1; omega
  · have := z4 e1; omega
  · have := z4 e3.symm.symm; omega
  · have := z5 e1; omega
  · have := z3 e3.symm.symm; omega
  · have := z3 e2; omega
  · have := z4 e2; omega
  · have := z5 e3; omega
theorem fan_len (hD : DIS X Y P) (hK : ISC X Y P K) : 3 ≤ K.length ∧ (sidesOf K).length = K.length ∧ (fanOf K).length = K.length - 2 := by
  obtain ⟨a, b, c, hE, hK⟩ := hK
  exact ⟨hK.len hD hE, by unfold sidesOf; simp, by unfold fanOf; simp⟩
end
/-! ALL CELLS -/
section
variable {X Y : Nat → Int} {P : List Nat} {N G m : Nat} {s tw : Nat → Nat} {CL : List (List Nat)} {K : List Nat}
theorem some_solid (hL : PtsL X Y N G P) (hD : NetD X Y G P m s tw) (hm : 0 < m) : ∃ t, t < m ∧ sol G s t = true := by
  cases h0 : sol G s 0 with
  | true => exact ⟨0, hm, h0⟩
  | false =>
    have go := ghost_one hL hD
    have base : ∀ g, g < 3 * m → g / 3 = 0 → s g = G → ∃ t, t < m ∧ sol G s t = true := fun g hg h3 hG => by
      have q := go g hg hG
      have r := base_solid hL hD (e := nx g) (nx_lt hg) q.1 q.2 (by rw [nx_div, h3]; exact h0)
      exact ⟨tw (nx g) / 3, div3 (hD.1 _ (nx_lt hg)).1, r⟩
    unfold sol at h0
    simp only [Bool.not_eq_false', Bool.or_eq_true, decide_eq_true_eq] at h0
    rcases h0 with (h0 | h0) | h0
    · exact base _ (by omega) (by omega) h0
    · exact base _ (by omega) (by omega) h0
    · exact base _ (by omega) (by omega) h0
theorem net_has (hL : PtsL X Y N G P) (hD : NetD X Y G P m s tw) (hm : 0 < m) {x y z : Nat} (hz : solid X Y P x y z) : ∃ e, e < 3 * m ∧ s e = x ∧ s (nx e) = y ∧ s (nx (nx e)) = z := by
  obtain ⟨t, ht, hs⟩ := some_solid hL hD hm
  exact net_all hL hD hz m t ht hs (Nat.le_of_lt (far_m ht))
def SDs (CL : List (List Nat)) : List (Nat × Nat) := CL.flatMap sidesOf
def TLs (CL : List (List Nat)) : List (Nat × Nat × Nat) := CL.flatMap fanOf
theorem SDs_add (CL : List (List Nat)) (K : List Nat) : SDs (CL ++ [K]) = SDs CL ++ sidesOf K := by unfold SDs; simp
theorem TLs_add (CL : List (List Nat)) (K : List Nat) : TLs (CL ++ [K]) = TLs CL ++ fanOf K := by unfold TLs; simp
def FND (X Y : Nat → Int) (P : List Nat) (CL : List (List Nat)) : Prop := (∀ K ∈ CL, ISC X Y P K) ∧ (TLs CL).Nodup ∧ (SDs CL).length ≤ 3 * (TLs CL).length
theorem FND.nil : FND X Y P [] := ⟨fun _ h => absurd h List.not_mem_nil, List.nodup_nil, Nat.le_refl _⟩
theorem FND.add (hP : PtsL X Y N G P) (h : FND X Y P CL) (hK : ISC X Y P K) {sd : Nat × Nat} (h1 : sd ∈ sidesOf K) (h2 : sd ∉ SDs CL) : FND X Y P (CL ++ [K]) := by
  refine ⟨fun K' hK' => ?_, ?_, ?_⟩
  · rcases List.mem_append.mp hK' with q | q
    · exact h.1 K' q
    · rw [List.mem_singleton.mp q]; exact hK
  · rw [TLs_add, List.nodup_append]
    refine ⟨h.2.1, fan_nodup hP.2.1 hK, fun t ht t' ht' e => ?_⟩
    subst e
    obtain ⟨K', hK', ht⟩ := List.mem_flatMap.mp ht
    have f1 := fan_ok hP (h.1 K' hK') ht
    have f2 := fan_ok hP hK ht'
    have e := (h.1 K' hK').same hK f1.1.2.2.2.2.2.2.1 f1.2.2.2.1 f1.2.2.2.2.1 f1.2.2.2.2.2 f2.2.2.2.1 f2.2.2.2.2.1 f2.2.2.2.2.2
    exact h2 (List.mem_flatMap.mpr ⟨K', hK', by rw [e]; exact h1⟩)
  · rw [TLs_add, SDs_add, List.length_append, List.length_append]
    have := fan_len hP.2.1 hK
    have := h.2.2
    omega
theorem nodup_le {α : Type} [DecidableEq α] {l1 l2 : List α} (h : l1.Nodup) (hs : ∀ x ∈ l1, x ∈ l2) : l1.length ≤ l2.length := by
  by_cases q : l1.length ≤ l2.length
  · exact q
  · have := (perm_of_sub l1 l2 h hs (by omega)).length_eq
    omega
theorem FND.le (hP : PtsL X Y N G P) (hD : NetD X Y G P m s tw) (hm : 0 < m) (h : FND X Y P CL) : (TLs CL).length ≤ m := by
  have := nodup_le (l2 := (List.range m).map fun t => low3 (s (3 * t)) (s (3 * t + 1)) (s (3 * t + 2))) h.2.1 (fun t ht => ?_)
  · rw [List.length_map, List.length_range] at this
    exact this
  · obtain ⟨K', hK', ht⟩ := List.mem_flatMap.mp ht
    have f1 := fan_ok hP (h.1 K' hK') ht
    obtain ⟨e, he, e1, e2, e3⟩ := net_has hP hD hm f1.1
    rw [List.mem_map]
    refine ⟨e / 3, List.mem_range.mpr (by omega), low3_eq ?_ f1.2.1 f1.2.2.1⟩
    have h3 : e = 3 * (e / 3) ∨ e = 3 * (e / 3) + 1 ∨ e = 3 * (e / 3) + 2 := by omega
    generalize e / 3 = j at h3
    unfold RT
    obtain ⟨x, y, z⟩ := t
    dsimp only at e1 e2 e3
    rcases h3 with rfl | rfl | rfl
    · rw [nx_0] at e2 e3; rw [nx_1] at e3
      rw [e1, e2, e3]; exact Or.inl rfl
    · rw [nx_1] at e2 e3; rw [nx_2] at e3
      rw [e1, e2, e3]; exact Or.inr (Or.inl rfl)
    · rw [nx_2] at e2 e3; rw [nx_0] at e3
      rw [e1, e2, e3]; exact Or.inr (Or.inr rfl)
/-- no point on the left -/
def NoL (X Y : Nat → Int) (P : List Nat) (a b : Nat) : Prop := ∀ k ∈ P, ¬ 0 < gO X Y a b k
/-- when every side has its way back, or none beyond it, all triangles are told -/
theorem FND.all (hP : PtsL X Y N G P) (hD : NetD X Y G P m s tw) (hm : 0 < m) (h : FND X Y P CL) (h0 : CL ≠ []) (hc : ∀ a b, (a, b) ∈ SDs CL → (b, a) ∈ SDs CL ∨ NoL X Y P b a) {t : Nat × Nat × Nat} (hs : solid X Y P t.1 t.2.1 t.2.2) (h1 : t.1 < t.2.1) (h2 : t.1 < t.2.2) : t ∈ TLs CL := by
  -- a triangle of the net whose points are in a cell found
  let M : Nat → Prop := fun i => ∃ K ∈ CL, s (3 * i) ∈ K ∧ s (3 * i + 1) ∈ K ∧ s (3 * i + 2) ∈ K
  have Me : ∀ e, M (e / 3) ↔ ∃ K ∈ CL, s e ∈ K ∧ s (nx e) ∈ K ∧ s (nx (nx e)) ∈ K := by
    intro e
    have h3 : e = 3 * (e / 3) ∨ e = 3 * (e / 3) + 1 ∨ e = 3 * (e / 3) + 2 := by omega
    show (∃ K ∈ CL, s (3 * (e / 3)) ∈ K ∧ s (3 * (e / 3) + 1) ∈ K ∧ s (3 * (e / 3) + 2) ∈ K) ↔ _
    generalize e / 3 = j at h3
    rcases h3 with rfl | rfl | rfl
    · rw [nx_0, nx_1]
    · rw [nx_1, nx_2]
      constructor
      · rintro ⟨K, k, a, b, c⟩; exact ⟨K, k, b, c, a⟩
      · rintro ⟨K, k, b, c, a⟩; exact ⟨K, k, a, b, c⟩
    · rw [nx_2, nx_0]
      constructor
      · rintro ⟨K, k, a, b, c⟩; exact ⟨K, k, c, a, b⟩
      · rintro ⟨K, k, c, a, b⟩; exact ⟨K, k, a, b, c⟩
  have hM : ∀ e, e < 3 * m → sol G s (e / 3) = true → M (e / 3) → sol G s (tw e / 3) = true → M (tw e / 3) := by
    intro e he hse hMe hst
    rw [Me] at hMe ⊢
    obtain ⟨K, hK, k1, k2, k3⟩ := hMe
    have w := hD.1 e he
    have r := hD.solid he hse
    have r' := hD.solid w.1 hst
    rw [w.2.2.1, w.2.2.2] at r' ⊢
    have C1 := solid_CE r
    have C2 := solid_CE r'
    obtain ⟨a, b, c, hE, hKc⟩ := h.1 K hK
    have hO : gO X Y a b c ≠ 0 := by have := hE.2.2.2.1; omega
    by_cases hall : ∀ d ∈ K, d ≠ s e → d ≠ s (nx e) → ¬ gO X Y (s e) (s (nx e)) d < 0
    · obtain ⟨i, hi, e1, e2⟩ := hKc.isSide hP.2.1 hO k1 k2 r.2.2.2.1 hall
      have sd : (s e, s (nx e)) ∈ SDs CL := List.mem_flatMap.mpr ⟨K, hK, sides_mem.mpr ⟨i, hi, e1, e2⟩⟩
      rcases hc _ _ sd with q | q
      · obtain ⟨K', hK', q⟩ := List.mem_flatMap.mp q
        obtain ⟨x, -, n1, n2, hx, hm', -⟩ := (h.1 K' hK').side hP.2.1 q
        exact ⟨K', hK', n1, n2, (hm' _).mpr ⟨C2.2.2.1, CE_edge hx C2⟩⟩
      · exact absurd C2.2.2.2.1 (q _ C2.2.2.1)
    · obtain ⟨d, hd⟩ := Classical.not_forall.mp hall
      obtain ⟨dK, hd⟩ := Classical.not_imp.mp hd
      obtain ⟨-, hd⟩ := Classical.not_imp.mp hd
      obtain ⟨-, hd⟩ := Classical.not_imp.mp hd
      have hd := Classical.not_not.mp hd
      have z1 := (hKc.1 _).mp k1
      have z2 := (hKc.1 _).mp k2
      have z3 := (hKc.1 _).mp dK
      have s1 := CE_same hE z2.1 z1.1 z3.1 z2.2 z1.2 z3.2 (by rw [gO_swap]; omega)
      exact ⟨K, hK, k2, k1, (hKc.1 _).mpr ⟨C2.2.2.1, (s1.2 _).mp (CE_edge s1.1 C2)⟩⟩
  obtain ⟨K0, hK0⟩ : ∃ K, K ∈ CL := by
    cases CL with
    | nil => exact absurd rfl h0
    | cons K T => exact ⟨K, List.mem_cons_self ..⟩
  obtain ⟨t0, ht0⟩ : ∃ t, t ∈ fanOf K0 := by
    have := fan_len hP.2.1 (h.1 K0 hK0)
    cases hf : fanOf K0 with
    | nil => rw [hf] at this; simp at this; omega
    | cons t T => exact ⟨t, List.mem_cons_self ..⟩
  have f0 := fan_ok hP (h.1 K0 hK0) ht0
  obtain ⟨e0, he0, a1, a2, a3⟩ := net_has hP hD hm f0.1
  have g1 := (hP.1 _ f0.1.1).2.2
  have g2 := (hP.1 _ f0.1.2.1).2.2
  have g3 := (hP.1 _ f0.1.2.2.1).2.2
  obtain ⟨e, he, hMe, e1, e2, e3⟩ := net_reach hP hD hM hs m (e0 / 3) (div3 he0) (sol_edge.mpr ⟨by rw [a1]; exact g1, by rw [a2]; exact g2, by rw [a3]; exact g3⟩) ((Me e0).mpr ⟨K0, hK0, by rw [a1]; exact f0.2.2.2.1, by rw [a2]; exact f0.2.2.2.2.1, by rw [a3]; exact f0.2.2.2.2.2⟩) (Nat.le_of_lt (far_m (div3 he0)))
  rw [Me, e1, e2, e3] at hMe
  obtain ⟨K, hK, k1, k2, k3⟩ := hMe
  exact List.mem_flatMap.mpr ⟨K, hK, fan_all hP (h.1 K hK) hs h1 h2 k1 k2 k3⟩
theorem FND.told (hP : PtsL X Y N G P) (h : FND X Y P CL) {t : Nat × Nat × Nat} (ht : t ∈ TLs CL) : solid X Y P t.1 t.2.1 t.2.2 ∧ t.1 < t.2.1 ∧ t.1 < t.2.2 := by
  obtain ⟨K', hK', ht⟩ := List.mem_flatMap.mp ht
  have f1 := fan_ok hP (h.1 K' hK') ht
  exact ⟨f1.1, f1.2.1, f1.2.2.1⟩
end
