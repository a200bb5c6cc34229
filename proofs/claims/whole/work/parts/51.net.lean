/-! NETS as the class has them: triangles that no point takes away, outer edges that no point sees -/
def seen (X Y : Nat → Int) (f t d : Nat) : Prop := 0 < gO X Y f t d ∨ (gO X Y f t d = 0 ∧ (gLess X Y f d ↔ gLess X Y d t))
theorem par_dot {a1 a2 b1 b2 : Int} (h : a1 * b2 = a2 * b1) (ha : ¬ (a1 = 0 ∧ a2 = 0)) (hb : ¬ (b1 = 0 ∧ b2 = 0)) : ((a1 < 0 ∨ (a1 = 0 ∧ a2 < 0)) ↔ (0 < b1 ∨ (b1 = 0 ∧ 0 < b2))) ↔ a1 * b1 + a2 * b2 < 0 := by
  by_cases h1 : a1 = 0
  · have h2 : a2 ≠ 0 := fun q => ha ⟨h1, q⟩
    rw [h1, Int.zero_mul] at h
    have h3 : b1 = 0 := (Int.mul_eq_zero.mp h.symm).resolve_left h2
    have h4 : b2 ≠ 0 := fun q => hb ⟨h3, q⟩
    rw [h1, h3]
    rcases Int.lt_trichotomy a2 0 with p | p | p <;> rcases Int.lt_trichotomy b2 0 with q | q | q
    · have := Int.mul_pos_of_neg_of_neg p q; omega
    · omega
    · have := Int.mul_neg_of_neg_of_pos p q; omega
    · omega
    · omega
    · omega
    · have := Int.mul_neg_of_pos_of_neg p q; omega
    · omega
    · have := Int.mul_pos p q; omega
  · have h3 : b1 ≠ 0 := fun q => by
      rw [q, Int.mul_zero] at h
      exact hb ⟨q, (Int.mul_eq_zero.mp h).resolve_left h1⟩
    have sq : 0 ≤ (a2 * b2) * (a1 * b1) := by
      have e : (a2 * b2) * (a1 * b1) = (a2 * b1) * (a2 * b1) := by
        have : (a2 * b2) * (a1 * b1) = (a1 * b2) * (a2 * b1) := by grind
        rw [this, h]
      rw [e]
      rcases Int.le_total 0 (a2 * b1) with r | r
      · exact Int.mul_nonneg r r
      · exact Int.mul_nonneg_of_nonpos_of_nonpos r r
    have dp : 0 < a1 * b1 → 0 ≤ a2 * b2 := fun r => by
      rcases Int.lt_trichotomy (a2 * b2) 0 with q | q | q
      · have := Int.mul_neg_of_neg_of_pos q r; omega
      · omega
      · omega
    have dn : a1 * b1 < 0 → a2 * b2 ≤ 0 := fun r => by
      rcases Int.lt_trichotomy (a2 * b2) 0 with q | q | q
      · omega
      · omega
      · have := Int.mul_neg_of_pos_of_neg q r; omega
    rcases Int.lt_trichotomy a1 0 with p | p | p <;> rcases Int.lt_trichotomy b1 0 with q | q | q
    · have := Int.mul_pos_of_neg_of_neg p q; have := dp this; omega
    · omega
    · have := Int.mul_neg_of_neg_of_pos p q; have := dn this; omega
    · omega
    · omega
    · omega
    · have := Int.mul_neg_of_pos_of_neg p q; have := dn this; omega
    · omega
    · have := Int.mul_pos p q; have := dp this; omega
theorem between {X Y : Nat → Int} {f t d : Nat} (h : gO X Y f t d = 0) (h1 : dif X Y d f) (h2 : dif X Y d t) : (gLess X Y f d ↔ gLess X Y d t) ↔ gDot X Y d f t < 0 := by
  have e := par_dot (a1 := X f - X d) (a2 := Y f - Y d) (b1 := X t - X d) (b2 := Y t - Y d) (by unfold gO at h; grind) (fun q => h1 ⟨by omega, by omega⟩) (fun q => h2 ⟨by omega, by omega⟩)
  have l1 : gLess X Y f d ↔ (X f - X d < 0 ∨ (X f - X d = 0 ∧ Y f - Y d < 0)) := by unfold gLess; omega
  have l2 : gLess X Y d t ↔ (0 < X t - X d ∨ (X t - X d = 0 ∧ 0 < Y t - Y d)) := by unfold gLess; omega
  rw [l1, l2, e]
  rfl
def solid (X Y : Nat → Int) (P : List Nat) (a b c : Nat) : Prop := a ∈ P ∧ b ∈ P ∧ c ∈ P ∧ a ≠ b ∧ b ≠ c ∧ c ≠ a ∧ 0 < gO X Y a b c ∧ ∀ d ∈ P, d ≠ a → d ≠ b → d ≠ c → ¬ takes X Y d a b c
def outerE (X Y : Nat → Int) (P : List Nat) (f t : Nat) : Prop := f ∈ P ∧ t ∈ P ∧ f ≠ t ∧ ∀ d ∈ P, d ≠ f → d ≠ t → ¬ seen X Y f t d
def DF (X Y : Nat → Int) (G : Nat) (P : List Nat) (a b c : Nat) : Prop := solid X Y P a b c ∨ (c = G ∧ outerE X Y P a b) ∨ (a = G ∧ outerE X Y P b c) ∨ (b = G ∧ outerE X Y P c a)
/-- a new point takes a triangle away -/
def takenD (X Y : Nat → Int) (G p a b c : Nat) : Prop := (a ≠ G ∧ b ≠ G ∧ c ≠ G ∧ takes X Y p a b c) ∨ (c = G ∧ seen X Y a b p) ∨ (a = G ∧ seen X Y b c p) ∨ (b = G ∧ seen X Y c a p)
section
variable {X Y : Nat → Int} {N G : Nat} {P L : List Nat} {p : Nat} {g : V4}
/-- L: the points of the net, with p or without -/
def Subl (P : List Nat) (p : Nat) (L : List Nat) : Prop := (∀ i ∈ L, i ∈ p :: P) ∧ ∀ i ∈ P, i ∈ L
theorem low_side (hPts : Pts X Y N G P p) (hL : Subl P p L) {f t : Nat} (hf : f ∈ p :: P) (ht : t ∈ p :: P) (hft : f ≠ t) (h : ∀ d ∈ L, d ≠ f → d ≠ t → ¬ 0 < gO X Y f t d) : (∀ i ∈ P, gO X Y f t i ≤ 0) ∧ ∃ i ∈ P, gO X Y f t i < 0 := by
  have h1 : ∀ i ∈ P, gO X Y f t i ≤ 0 := by
    intro i hi
    by_cases q1 : i = f
    · rw [q1]; unfold gO; simp
    · by_cases q2 : i = t
      · rw [q2]; unfold gO; rw [Int.mul_comm]; omega
      · exact Int.not_lt.mp (h i (hL.2 i hi) q1 q2)
  refine ⟨h1, ?_⟩
  obtain ⟨i, hi, hne⟩ := off_line (hPts.2.1 f hf t ht hft) hPts.2.2.2.2
  exact ⟨i, hi, by have := h1 i hi; omega⟩
theorem seen_iff (hPts : Pts X Y N G P p) (hg : GhostOK X Y N G P p g) {f t d : Nat} (hf : f ∈ p :: P) (ht : t ∈ p :: P) (hd : d ∈ p :: P) (hft : f ≠ t) (hdf : d ≠ f) (hdt : d ≠ t) (hlow : (∀ i ∈ P, gO X Y f t i ≤ 0) ∧ ∃ i ∈ P, gO X Y f t i < 0) :
    (seen X Y f t d ↔ 0 < vV (gu X Y (gZ X Y N) G g f) (gu X Y (gZ X Y N) G g t) (gu X Y (gZ X Y N) G g G) (gu X Y (gZ X Y N) G g d)) ∧ vV (gu X Y (gZ X Y N) G g f) (gu X Y (gZ X Y N) G g t) (gu X Y (gZ X Y N) G g G) (gu X Y (gZ X Y N) G g d) ≠ 0 := by
  rw [gu_r (hPts.1 f hf).2.2, gu_r (hPts.1 t ht).2.2, gu_r (hPts.1 d hd).2.2, gu_G]
  have s := hg.1 f hf t ht d hd
  rcases Int.lt_trichotomy (gO X Y f t d) 0 with h | h | h
  · have := s.2 h
    refine ⟨⟨fun q => ?_, fun q => by omega⟩, by omega⟩
    rcases q with q | q
    · omega
    · omega
  · have d1 := hPts.2.1 d hd f hf hdf
    have d2 := hPts.2.1 d hd t ht hdt
    have q := hg.2.1 f hf t ht d hd hft hdf hdt h hlow.1 hlow.2
    have b := between h d1 d2
    have nz := dot_ne h d1 d2
    rcases Int.lt_trichotomy (gDot X Y d f t) 0 with r | r | r
    · have := q.1 r
      exact ⟨⟨fun _ => this, fun _ => Or.inr ⟨h, b.mpr r⟩⟩, by omega⟩
    · exact absurd r nz
    · have := q.2 r
      refine ⟨⟨fun z => ?_, fun z => by omega⟩, by omega⟩
      rcases z with z | z
      · omega
      · have := b.mp z.2; omega
  · have := s.1 h
    exact ⟨⟨fun _ => this, fun _ => Or.inl h⟩, by omega⟩
theorem solid_up (hPts : Pts X Y N G P p) (hg : GhostOK X Y N G P p g) {a b c : Nat} (ha : a ∈ p :: P) (hb : b ∈ p :: P) (hc : c ∈ p :: P) (hO : 0 < gO X Y a b c) : vV (gu X Y (gZ X Y N) G g a) (gu X Y (gZ X Y N) G g b) (gu X Y (gZ X Y N) G g c) (gu X Y (gZ X Y N) G g G) < 0 := by
  rw [gu_r (hPts.1 a ha).2.2, gu_r (hPts.1 b hb).2.2, gu_r (hPts.1 c hc).2.2, gu_G, vV_34]
  have := (hg.1 a ha b hb c hc).1 hO
  omega
theorem takes_V (hPts : Pts X Y N G P p) {a b c d : Nat} (ha : a ∈ p :: P) (hb : b ∈ p :: P) (hc : c ∈ p :: P) (hd : d ∈ p :: P) (hO : 0 < gO X Y a b c) (da : d ≠ a) (db : d ≠ b) (dc : d ≠ c) :
    (takes X Y d a b c ↔ 0 < vV (gu X Y (gZ X Y N) G g a) (gu X Y (gZ X Y N) G g b) (gu X Y (gZ X Y N) G g c) (gu X Y (gZ X Y N) G g d)) ∧ vV (gu X Y (gZ X Y N) G g a) (gu X Y (gZ X Y N) G g b) (gu X Y (gZ X Y N) G g c) (gu X Y (gZ X Y N) G g d) ≠ 0 := by
  rw [gu_r (hPts.1 a ha).2.2, gu_r (hPts.1 b hb).2.2, gu_r (hPts.1 c hc).2.2, gu_r (hPts.1 d hd).2.2, rv_gV]
  exact takes_iff ⟨(hPts.1 a ha).2.1, (hPts.1 b hb).2.1, (hPts.1 c hc).2.1, (hPts.1 d hd).2.1⟩ (hPts.1 a ha).1 (hPts.1 b hb).1 (hPts.1 c hc).1 (hPts.1 d hd).1 hO (hPts.2.1 d hd a ha da) (hPts.2.1 d hd b hb db) (hPts.2.1 d hd c hc dc)
theorem outer_FC (hPts : Pts X Y N G P p) (hg : GhostOK X Y N G P p g) (hL : Subl P p L) {f t : Nat} (h : outerE X Y L f t) : FC (gu X Y (gZ X Y N) G g) (G :: L) f t G := by
  obtain ⟨h1, h2, h3, h4⟩ := h
  have f1 := hL.1 f h1
  have t1 := hL.1 t h2
  have low := low_side hPts hL f1 t1 h3 (fun d hd a b q => h4 d hd a b (Or.inl q))
  refine ⟨List.mem_cons_of_mem _ h1, List.mem_cons_of_mem _ h2, List.mem_cons_self, h3, fun e => (hPts.1 t t1).2.2 e, fun e => (hPts.1 f f1).2.2 e.symm, fun d hd n1 n2 n3 => ?_⟩
  have hd2 : d ∈ L := (List.mem_cons.mp hd).resolve_left n3
  have s := seen_iff hPts hg f1 t1 (hL.1 d hd2) h3 n1 n2 low
  have : ¬ 0 < vV (gu X Y (gZ X Y N) G g f) (gu X Y (gZ X Y N) G g t) (gu X Y (gZ X Y N) G g G) (gu X Y (gZ X Y N) G g d) := fun q => h4 d hd2 n1 n2 (s.1.mpr q)
  have := s.2
  omega
theorem solid_FC (hPts : Pts X Y N G P p) (hg : GhostOK X Y N G P p g) (hL : Subl P p L) {a b c : Nat} (h : solid X Y L a b c) : FC (gu X Y (gZ X Y N) G g) (G :: L) a b c := by
  obtain ⟨h1, h2, h3, h4, h5, h6, h7, h8⟩ := h
  refine ⟨List.mem_cons_of_mem _ h1, List.mem_cons_of_mem _ h2, List.mem_cons_of_mem _ h3, h4, h5, h6, fun d hd n1 n2 n3 => ?_⟩
  rcases List.mem_cons.mp hd with rfl | hd2
  · exact solid_up hPts hg (hL.1 a h1) (hL.1 b h2) (hL.1 c h3) h7
  · have s := takes_V (g := g) hPts (hL.1 a h1) (hL.1 b h2) (hL.1 c h3) (hL.1 d hd2) h7 n1 n2 n3
    have : ¬ 0 < vV (gu X Y (gZ X Y N) G g a) (gu X Y (gZ X Y N) G g b) (gu X Y (gZ X Y N) G g c) (gu X Y (gZ X Y N) G g d) := fun q => h8 d hd2 n1 n2 n3 (s.1.mpr q)
    have := s.2
    omega
theorem DF_FC (hPts : Pts X Y N G P p) (hg : GhostOK X Y N G P p g) (hL : Subl P p L) {a b c : Nat} (h : DF X Y G L a b c) : FC (gu X Y (gZ X Y N) G g) (G :: L) a b c := by
  rcases h with h | ⟨rfl, h⟩ | ⟨rfl, h⟩ | ⟨rfl, h⟩
  · exact solid_FC hPts hg hL h
  · exact outer_FC hPts hg hL h
  · exact (outer_FC hPts hg hL h).rot.rot
  · exact (outer_FC hPts hg hL h).rot
theorem FC_outer (hPts : Pts X Y N G P p) (hg : GhostOK X Y N G P p g) (hL : Subl P p L) {f t : Nat} (hf : f ∈ L) (ht : t ∈ L) (h : FC (gu X Y (gZ X Y N) G g) (G :: L) f t G) : outerE X Y L f t := by
  have f1 := hL.1 f hf
  have t1 := hL.1 t ht
  have hft := h.2.2.2.1
  have nG : ∀ d ∈ L, d ≠ G := fun d hd => (hPts.1 d (hL.1 d hd)).2.2
  have neg : ∀ d ∈ L, d ≠ f → d ≠ t → vV (gu X Y (gZ X Y N) G g f) (gu X Y (gZ X Y N) G g t) (gu X Y (gZ X Y N) G g G) (gu X Y (gZ X Y N) G g d) < 0 := fun d hd a b => h.2.2.2.2.2.2 d (List.mem_cons_of_mem _ hd) a b (nG d hd)
  have low := low_side hPts hL f1 t1 hft (fun d hd a b q => by
    have n := neg d hd a b
    rw [gu_r (nG f hf), gu_r (nG t ht), gu_r (nG d hd), gu_G] at n
    have := (hg.1 f f1 t t1 d (hL.1 d hd)).1 q
    omega)
  refine ⟨hf, ht, hft, fun d hd a b q => ?_⟩
  have := (seen_iff hPts hg f1 t1 (hL.1 d hd) hft a b low).1.mp q
  have := neg d hd a b
  omega
theorem FC_solid (hPts : Pts X Y N G P p) (hg : GhostOK X Y N G P p g) (hL : Subl P p L) {a b c : Nat} (ha : a ∈ L) (hb : b ∈ L) (hc : c ∈ L) (h : FC (gu X Y (gZ X Y N) G g) (G :: L) a b c) : solid X Y L a b c := by
  have a1 := hL.1 a ha
  have b1 := hL.1 b hb
  have c1 := hL.1 c hc
  obtain ⟨-, -, -, h4, h5, h6, h7⟩ := h
  have nG : ∀ d ∈ L, d ≠ G := fun d hd => (hPts.1 d (hL.1 d hd)).2.2
  have up := h7 G List.mem_cons_self (fun e => nG a ha e.symm) (fun e => nG b hb e.symm) (fun e => nG c hc e.symm)
  rw [gu_r (nG a ha), gu_r (nG b hb), gu_r (nG c hc), gu_G, vV_34] at up
  have neg : ∀ d ∈ L, d ≠ a → d ≠ b → d ≠ c → gV X Y (gZ X Y N) a b c d < 0 := fun d hd x y z => by
    have := h7 d (List.mem_cons_of_mem _ hd) x y z
    rw [gu_r (nG a ha), gu_r (nG b hb), gu_r (nG c hc), gu_r (nG d hd), rv_gV] at this
    exact this
  have hO : 0 < gO X Y a b c := by
    rcases Int.lt_trichotomy (gO X Y a b c) 0 with q | q | q
    · have := (hg.1 a a1 b b1 c c1).2 q; omega
    · exfalso
      have dab := hPts.2.1 a a1 b b1 h4
      have dca := hPts.2.1 c c1 a a1 h6
      have dcb := hPts.2.1 c c1 b b1 (fun e => h5 e.symm)
      have nz := dot_ne q dca dcb
      -- the sign at another point
      have sg : ∀ d ∈ P, gO X Y a b d ≠ 0 → gO X Y a b d * gDot X Y c a b < 0 := by
        intro d hd hne
        have hdL := hL.2 d hd
        have z : ∀ x, gO X Y a b x ≠ 0 → d = x → x ≠ a ∧ x ≠ b := fun x hx _ => ⟨fun e => hx (by rw [e]; unfold gO; simp), fun e => hx (by rw [e]; unfold gO; rw [Int.mul_comm]; omega)⟩
        have zz := z d hne rfl
        have hdc : d ≠ c := fun e => hne (by rw [e]; exact q)
        have hn := neg d hdL zz.1 zz.2 hdc
        have e1 : gV X Y (gQ X Y) a b d c = - (gO X Y a b d * gDot X Y c a b) := col_V q d
        have e2 : gV X Y (gZ X Y N) a b c d = - gV X Y (gZ X Y N) a b d c := gV_swap' X Y (gZ X Y N) a b d c
        have hne2 : gO X Y a b d * gDot X Y c a b ≠ 0 := fun r => (Int.mul_eq_zero.mp r).elim hne nz
        rcases Int.lt_trichotomy (gO X Y a b d * gDot X Y c a b) 0 with r | r | r
        · exact r
        · exact absurd r hne2
        · have := gZ_neg (N := N) (hPts.1 a a1).1 (hPts.1 b b1).1 (hPts.1 d (hL.1 d hdL)).1 (hPts.1 c c1).1 (show gV X Y (gQ X Y) a b d c < 0 by omega)
          omega
      obtain ⟨i, hi, hne⟩ := off_line dab hPts.2.2.2.2
      rcases Int.lt_trichotomy (gDot X Y c a b) 0 with r | r | r
      · -- all at the left
        have left : ∀ d ∈ P, 0 ≤ gO X Y a b d := fun d hd => by
          rcases Int.lt_trichotomy (gO X Y a b d) 0 with w | w | w
          · have := sg d hd (by omega); have := Int.mul_pos_of_neg_of_neg w r; omega
          · omega
          · omega
        have lo := hg.2.1 b b1 a a1 c c1 (fun e => h4 e.symm) (fun e => h5 e.symm) h6 (by rw [gO_swap, q]; rfl) (fun d hd => by rw [gO_swap]; have := left d hd; omega) ⟨i, hi, by rw [gO_swap]; have := left i hi; omega⟩
        have ed : gDot X Y c b a = gDot X Y c a b := by unfold gDot; grind
        rw [ed] at lo
        have := lo.1 r
        rw [vV_12] at this
        omega
      · exact absurd r nz
      · -- all at the right
        have right : ∀ d ∈ P, gO X Y a b d ≤ 0 := fun d hd => by
          rcases Int.lt_trichotomy (gO X Y a b d) 0 with w | w | w
          · omega
          · omega
          · have := sg d hd (by omega); have := Int.mul_pos w r; omega
        have lo := hg.2.1 a a1 b b1 c c1 h4 h6 (fun e => h5 e.symm) q right ⟨i, hi, by have := right i hi; omega⟩
        have := lo.2 r
        omega
    · exact q
  refine ⟨ha, hb, hc, h4, h5, h6, hO, fun d hd x y z q => ?_⟩
  have s := takes_V (g := g) hPts a1 b1 c1 (hL.1 d hd) hO x y z
  have := s.1.mp q
  have := h7 d (List.mem_cons_of_mem _ hd) x y z
  omega
theorem FC_DF (hPts : Pts X Y N G P p) (hg : GhostOK X Y N G P p g) (hL : Subl P p L) {a b c : Nat} (h : FC (gu X Y (gZ X Y N) G g) (G :: L) a b c) : DF X Y G L a b c := by
  obtain ⟨h1, h2, h3, h4, h5, h6, -⟩ := id h
  by_cases ha : a = G
  · subst ha
    have hb := (List.mem_cons.mp h2).resolve_left (fun e => h4 e.symm)
    have hc := (List.mem_cons.mp h3).resolve_left h6
    exact Or.inr (Or.inr (Or.inl ⟨rfl, FC_outer hPts hg hL hb hc h.rot⟩))
  · have ha2 := (List.mem_cons.mp h1).resolve_left ha
    by_cases hb : b = G
    · subst hb
      have hc := (List.mem_cons.mp h3).resolve_left (fun e => h5 e.symm)
      exact Or.inr (Or.inr (Or.inr ⟨rfl, FC_outer hPts hg hL hc ha2 h.rot.rot⟩))
    · have hb2 := (List.mem_cons.mp h2).resolve_left hb
      by_cases hc : c = G
      · subst hc
        exact Or.inr (Or.inl ⟨rfl, FC_outer hPts hg hL ha2 hb2 h⟩)
      · exact Or.inl (FC_solid hPts hg hL ha2 hb2 ((List.mem_cons.mp h3).resolve_left hc) h)
/-- taken, in both ways of saying -/
theorem taken_iff (hPts : Pts X Y N G P p) (hg : GhostOK X Y N G P p g) {a b c : Nat} (h : DF X Y G P a b c) : (takenD X Y G p a b c ↔ 0 < vV (gu X Y (gZ X Y N) G g a) (gu X Y (gZ X Y N) G g b) (gu X Y (gZ X Y N) G g c) (gu X Y (gZ X Y N) G g p)) ∧ vV (gu X Y (gZ X Y N) G g a) (gu X Y (gZ X Y N) G g b) (gu X Y (gZ X Y N) G g c) (gu X Y (gZ X Y N) G g p) ≠ 0 := by
  have pp : p ∈ p :: P := List.mem_cons_self
  have np : ∀ {i}, i ∈ P → p ≠ i := fun hi e => hPts.2.2.2.1 (e ▸ hi)
  have inP : ∀ {i}, i ∈ P → i ∈ p :: P := fun hi => List.mem_cons_of_mem _ hi
  have nG : ∀ {i}, i ∈ P → i ≠ G := fun hi => (hPts.1 _ (inP hi)).2.2
  have hLP : Subl P p P := ⟨fun i hi => inP hi, fun i hi => hi⟩
  have out : ∀ {f t : Nat}, outerE X Y P f t → (seen X Y f t p ↔ 0 < vV (gu X Y (gZ X Y N) G g f) (gu X Y (gZ X Y N) G g t) (gu X Y (gZ X Y N) G g G) (gu X Y (gZ X Y N) G g p)) ∧ vV (gu X Y (gZ X Y N) G g f) (gu X Y (gZ X Y N) G g t) (gu X Y (gZ X Y N) G g G) (gu X Y (gZ X Y N) G g p) ≠ 0 := by
    intro f t ho
    exact seen_iff hPts hg (inP ho.1) (inP ho.2.1) pp ho.2.2.1 (np ho.1) (np ho.2.1) (low_side hPts hLP (inP ho.1) (inP ho.2.1) ho.2.2.1 (fun d hd x y q => ho.2.2.2 d hd x y (Or.inl q)))
  rcases h with h | ⟨rfl, h⟩ | ⟨rfl, h⟩ | ⟨rfl, h⟩
  · have q := takes_V (g := g) hPts (inP h.1) (inP h.2.1) (inP h.2.2.1) pp h.2.2.2.2.2.2.1 (np h.1) (np h.2.1) (np h.2.2.1)
    refine ⟨Iff.trans ⟨fun z => ?_, fun z => Or.inl ⟨nG h.1, nG h.2.1, nG h.2.2.1, z⟩⟩ q.1, q.2⟩
    rcases z with z | ⟨z, -⟩ | ⟨z, -⟩ | ⟨z, -⟩
    · exact z.2.2.2
    · exact absurd z (nG h.2.2.1)
    · exact absurd z (nG h.1)
    · exact absurd z (nG h.2.1)
  · have q := out h
    refine ⟨Iff.trans ⟨fun z => ?_, fun z => Or.inr (Or.inl ⟨rfl, z⟩)⟩ q.1, q.2⟩
    rcases z with z | ⟨-, z⟩ | ⟨z, -⟩ | ⟨z, -⟩
    · exact absurd rfl z.2.2.1
    · exact z
    · exact absurd z (nG h.1)
    · exact absurd z (nG h.2.1)
  · have q := out h
    rw [vV_rot] at q
    refine ⟨Iff.trans ⟨fun z => ?_, fun z => Or.inr (Or.inr (Or.inl ⟨rfl, z⟩))⟩ q.1, q.2⟩
    rcases z with z | ⟨z, -⟩ | ⟨-, z⟩ | ⟨z, -⟩
    · exact absurd rfl z.1
    · exact absurd z (nG h.2.1)
    · exact z
    · exact absurd z (nG h.1)
  · have q := out h
    rw [← vV_rot] at q
    refine ⟨Iff.trans ⟨fun z => ?_, fun z => Or.inr (Or.inr (Or.inr ⟨rfl, z⟩))⟩ q.1, q.2⟩
    rcases z with z | ⟨z, -⟩ | ⟨z, -⟩ | ⟨-, z⟩
    · exact absurd rfl z.2.1
    · exact absurd z (nG h.1)
    · exact absurd z (nG h.2.1)
    · exact z
end
