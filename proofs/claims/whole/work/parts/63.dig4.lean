/-! DIGGING: the whole search -/
theorem PRC.next {pl : List Nat} {i e : Nat} : PRC pl i 3 e ↔ PRC pl (i + 1) 0 e := by
  constructor
  · rintro ⟨idx, h1, h2⟩
    exact ⟨idx, h1, by omega⟩
  · rintro ⟨idx, h1, h2⟩
    exact ⟨idx, h1, by omega⟩
section
variable {S T : St} {m G n N M mk out p : Nat} {s tw : Nat → Nat} {X Y : Nat → Int} {P : List Nat} {TK : Nat → Bool} {pl rl : List Nat}
theorem dig_inner (H : HC S X Y N G n m M mk p s tw P TK) (k27 : Int32 → Int32 → St → Option St) (hDI : DI S T TK G m mk out s pl rl) {i : Nat} (hi : i < pl.length) (hI : INV TK m tw pl rl i 0) :
    ∃ T' pl' rl', DI S T' TK G m mk out s pl' rl' ∧ INV TK m tw pl' rl' (i + 1) 0 ∧ i < pl'.length ∧ (∀ x ∈ pl, x ∈ pl') ∧ f_Nt_dig_46 k27 FU (nI p) (nI i) 0 T = k27 (nI p) (nI (i + 1)) T' := by
  have hF := FU_big
  obtain ⟨k, hk⟩ : ∃ k, FU = k + 1 + 1 + 1 + 1 := ⟨FU - 4, by omega⟩
  rw [hk]
  obtain ⟨T1, p1, r1, a1, b1, c1, s1, e1⟩ := dig_step H k27 hDI (List.getElem?_eq_getElem hi) (show 0 < 3 by decide) hI (k + 1 + 1 + 1)
  obtain ⟨T2, p2, r2, a2, b2, c2, s2, e2⟩ := dig_step H k27 a1 c1 (show 1 < 3 by decide) b1 (k + 1 + 1)
  obtain ⟨T3, p3, r3, a3, b3, c3, s3, e3⟩ := dig_step H k27 a2 c2 (show 2 < 3 by decide) b2 (k + 1)
  have e4 : f_Nt_dig_46 k27 (k + 1) (nI p) (nI i) (nI (2 + 1)) T3 = k27 (nI p) (nI (i + 1)) T3 := by
    rw [f_Nt_dig_46]
    dsimp only
    rw [if_pos (by decide), bn_s, nI_1]
  refine ⟨T3, p3, r3, a3, ⟨fun e he hp => b3.1 e he (PRC.next.mpr hp), fun r hr => ?_, b3.2.2⟩, (List.getElem?_eq_some_iff.mp c3).1, fun x hx => s3 x (s2 x (s1 x hx)), ?_⟩
  · obtain ⟨x, y, z⟩ := b3.2.1 r hr
    exact ⟨x, y, PRC.next.mp z⟩
  · have e1' : f_Nt_dig_46 k27 (k + 1 + 1 + 1 + 1) (nI p) (nI i) 0 T = _ := e1
    rw [e1', e2, e3, e4]
theorem dig_outer (H : HC S X Y N G n m M mk p s tw P TK) : ∀ (fuel i : Nat) (T : St) (pl rl : List Nat), DI S T TK G m mk out s pl rl → INV TK m tw pl rl i 0 → i ≤ pl.length → m < i + fuel → ∃ T' pl' rl', DI S T' TK G m mk out s pl' rl' ∧ INV TK m tw pl' rl' pl'.length 0 ∧ (∀ x ∈ pl, x ∈ pl') ∧ f_Nt_dig_27 fuel (nI p) (nI i) T = some T' := by
  have hm := H.1.2.2.2.1
  intro fuel
  induction fuel with
  | zero =>
    intro i T pl rl hDI _ hi hf
    have plM : pl.length ≤ m := by
      have := len_cnt (K := m) (f := fun _ => true) hDI.2.2.2.2.2.1 (fun x hx => ⟨(hDI.2.2.2.2.2.2.1 x hx).1, rfl⟩)
      simp at this
      exact this
    omega
  | succ fuel ih =>
    intro i T pl rl hDI hI hi hf
    have plM : pl.length ≤ m := by
      have := len_cnt (K := m) (f := fun _ => true) hDI.2.2.2.2.2.1 (fun x hx => ⟨(hDI.2.2.2.2.2.2.1 x hx).1, rfl⟩)
      simp at this
      exact this
    rw [f_Nt_dig_27]
    dsimp only
    have all6 : gi T 6 = nI m := by rw [hDI.1.1 6 (by decide) (by decide) (by decide)]; exact H.1.2.1
    rw [all6, hDI.2.1]
    by_cases c : i < pl.length
    · rw [if_neg (nI_ge (show i < m by omega) (by omega)), if_neg (nI_ge c (by omega))]
      obtain ⟨T1, p1, r1, a1, b1, c1, s1, e1⟩ := dig_inner H (f_Nt_dig_27 fuel) hDI c hI
      obtain ⟨T2, p2, r2, a2, b2, s2, e2⟩ := ih (i + 1) T1 p1 r1 a1 b1 c1 (by omega)
      exact ⟨T2, p2, r2, a2, b2, fun x hx => s2 x (s1 x hx), by rw [e1, e2]⟩
    · have : i = pl.length := by omega
      subst this
      refine ⟨T, pl, rl, hDI, hI, fun x hx => hx, ?_⟩
      by_cases c2 : nI m ≤ nI pl.length
      · rw [if_pos c2]
      · rw [if_neg c2, if_pos (Int32.le_refl _)]
/-- what a search has found -/
def DUG (TK : Nat → Bool) (m : Nat) (tw : Nat → Nat) (pl rl : List Nat) : Prop :=
  pl.Nodup ∧ (∀ t, t ∈ pl ↔ t < m ∧ TK t = true) ∧ rl.Nodup ∧ (∀ r, r ∈ rl ↔ r < 3 * m ∧ TK (r / 3) = false ∧ TK (tw r / 3) = true) ∧ rl.length = pl.length + 2 ∧ pl.length ≤ m
theorem dug_of (H : HC S X Y N G n m M mk p s tw P TK) (hDI : DI S T TK G m mk out s pl rl) (hI : INV TK m tw pl rl pl.length 0) {r : Nat} (hr : r ∈ pl) : DUG TK m tw pl rl := by
  obtain ⟨h1, h2, h3, h4, h5, h6, h7, h8, h9, h10, h11, h12⟩ := id H
  obtain ⟨d0, d1, d2, d3, d4, d5, d6, d7, d8, d9⟩ := id hDI
  have prc : ∀ e, e / 3 ∈ pl → PRC pl pl.length 0 e := by
    intro e he
    obtain ⟨idx, hx⟩ := List.getElem?_of_mem he
    exact ⟨idx, hx, Or.inl (List.getElem?_eq_some_iff.mp hx).1⟩
  have unprc : ∀ e, PRC pl pl.length 0 e → e / 3 ∈ pl := by
    rintro e ⟨idx, hx, -⟩
    exact List.mem_of_getElem? hx
  have all : ∀ t, t ∈ pl ↔ t < m ∧ TK t = true := by
    intro t
    refine ⟨fun ht => d6 t ht, fun ht => ?_⟩
    refine marked_all (M := fun t => t ∈ pl) h3 h5 h6 (fun e he a b c => ?_) (d6 r hr).1 (d6 r hr).2 hr t ht.1 ht.2
    exact (hI.1 e he (prc e a)).1 c
  have rim : ∀ r, r ∈ rl ↔ r < 3 * m ∧ TK (r / 3) = false ∧ TK (tw r / 3) = true := by
    intro r
    constructor
    · intro hr
      obtain ⟨a, b, c⟩ := hI.2.1 r hr
      exact ⟨a, b, (d6 _ (unprc _ c)).2⟩
    · rintro ⟨a, b, c⟩
      have w := h5.1 r a
      have hin : tw r / 3 ∈ pl := (all _).mpr ⟨div3 w.1, c⟩
      have := (hI.1 (tw r) w.1 (prc _ hin)).2
      rw [w.2.1] at this
      exact this b
  have plc : pl.length = (List.range m).countP TK := by
    refine Nat.le_antisymm (len_cnt d5 (fun x hx => d6 x hx)) ?_
    rw [List.countP_eq_length_filter]
    refine len_sub _ _ (List.Pairwise.filter _ List.nodup_range) (fun x hx => ?_)
    obtain ⟨a, b⟩ := List.mem_filter.mp hx
    exact (all x).mpr ⟨List.mem_range.mp a, b⟩
  have rlc : rl.length = (List.range (3 * m)).countP (fun e => TK (tw e / 3) && !TK (tw (tw e) / 3)) := by
    refine Nat.le_antisymm (len_cnt hI.2.2 (fun x hx => ?_)) ?_
    · obtain ⟨a, b, c⟩ := (rim x).mp hx
      exact ⟨a, by rw [(h5.1 x a).2.1, b, c]; rfl⟩
    · rw [List.countP_eq_length_filter]
      refine len_sub _ _ (List.Pairwise.filter _ List.nodup_range) (fun x hx => ?_)
      obtain ⟨a, b⟩ := List.mem_filter.mp hx
      have a := List.mem_range.mp a
      rw [(h5.1 x a).2.1] at b
      rw [Bool.and_eq_true, Bool.not_eq_true'] at b
      exact (rim x).mpr ⟨a, b.2, b.1⟩
  have c := rim_many h3 h5 h6 (d6 r hr).1 (d6 r hr).2
  rw [← cnt_perm (g := tw) (fun e he => (h5.1 e he).1) (fun e he e' he' q => by rw [← (h5.1 e he).2.1, q, (h5.1 e' he').2.1])] at c
  have t : (List.range m).countP TK ≤ m := Nat.le_trans List.countP_le_length (by simp)
  exact ⟨d5, all, hI.2.2, rim, by omega, by omega⟩
/-- the whole search, from a triangle that is taken -/
theorem f_dig (H : HC S X Y N G n m M mk p s tw P TK) (hmk : ∀ t, ∃ v, v < mk ∧ ga S 11 t = nI v) (hmk2 : mk < 1000000000) (h8 : gi S 8 = 0) (h9 : gi S 9 = 0) (h7 : gi S 7 = nI out) {r : Nat} (hr : r < m) (hT : TK r = true) :
    ∃ T pl rl, DI S T TK G m mk out s pl rl ∧ DUG TK m tw pl rl ∧ bd (f_Nt_takeAway (nI r) S) (fun q => f_Nt_dig_27 FU (nI p) 0 q) = some T := by
  have hF := FU_big
  have hm := H.1.2.2.2.1
  have D0 : DI S S TK G m mk out s [] [] := by
    refine ⟨frD.rfl' S, h8, h9, fun k hk => absurd hk (Nat.not_lt_zero k), fun k hk => absurd hk (Nat.not_lt_zero k), List.nodup_nil, fun t ht => absurd ht List.not_mem_nil, fun t _ => ⟨fun q => ?_, fun q => absurd q List.not_mem_nil⟩, ?_, fun t => ?_⟩
    · obtain ⟨v, v1, v2⟩ := hmk t
      rw [v2] at q
      have := (nI_eq (by omega) (by omega)).mp q
      omega
    · rw [h7]
      show nI out = nI out - nI 0
      rw [nI_sub (by omega)]
      rfl
    · obtain ⟨v, v1, v2⟩ := hmk t
      exact ⟨v, by omega, v2⟩
  obtain ⟨T1, t1, t2⟩ := f_takeAway (M := M) H.1 H.2.2.2.2.2.2.1 H.2.2.2.2.2.2.2.1 H.2.2.2.2.2.2.2.2.1 (by have := H.2.2.2.2.2.2.2.2.2.2.1; omega) D0 hr hT List.not_mem_nil (by have := H.2.2.2.2.2.2.2.2.2.2.1; show 0 < M; omega)
  rw [t1, bd_s]
  have I0 : INV TK m tw ([] ++ [r]) [] 0 0 := ⟨fun e _ hp => by
    obtain ⟨idx, -, h⟩ := hp
    omega, fun r hr => absurd hr List.not_mem_nil, List.nodup_nil⟩
  obtain ⟨T2, p2, r2, a2, b2, s2, e2⟩ := dig_outer H FU 0 T1 _ _ t2 I0 (Nat.zero_le _) (by omega)
  exact ⟨T2, p2, r2, a2, dug_of H a2 b2 (s2 r (by simp)), e2⟩
end
