/-! COUNTING: nets of triangles as numbers; edge e of triangle e / 3 -/
theorem perm_of_sub {α : Type} [DecidableEq α] : ∀ (l1 l2 : List α), l1.Nodup → (∀ x ∈ l1, x ∈ l2) → l2.length ≤ l1.length → l1.Perm l2
  | [], l2, _, _, h => by
    have : l2 = [] := List.eq_nil_of_length_eq_zero (Nat.le_zero.mp h)
    rw [this]
  | a :: l1, l2, hn, hs, hl => by
    have hn' := List.nodup_cons.mp hn
    have ha : a ∈ l2 := hs a List.mem_cons_self
    have hp := List.perm_cons_erase ha
    have hlen := List.length_erase_of_mem ha
    refine ((perm_of_sub l1 (l2.erase a) hn'.2 (fun x hx => ?_) ?_).cons a).trans hp.symm
    · have hne : x ≠ a := fun e => hn'.1 (e ▸ hx)
      exact (List.mem_erase_of_ne hne).mpr (hs x (List.mem_cons_of_mem _ hx))
    · rw [hlen]
      simp only [List.length_cons] at hl
      omega
theorem range_perm {n : Nat} {g : Nat → Nat} (hg : ∀ e, e < n → g e < n) (hi : ∀ e, e < n → ∀ e', e' < n → g e = g e' → e = e') : ((List.range n).map g).Perm (List.range n) := by
  refine perm_of_sub _ _ ?_ (fun x hx => ?_) (by simp)
  · refine List.pairwise_map.mpr (List.pairwise_iff_getElem.mpr fun i j h1 h2 hij e => ?_)
    simp only [List.getElem_range] at e
    simp only [List.length_range] at h1 h2
    have := hi i h1 j h2 e
    omega
  · obtain ⟨e, he, rfl⟩ := List.mem_map.mp hx
    exact List.mem_range.mpr (hg e (List.mem_range.mp he))
theorem cnt_perm {n : Nat} {g : Nat → Nat} (hg : ∀ e, e < n → g e < n) (hi : ∀ e, e < n → ∀ e', e' < n → g e = g e' → e = e') (f : Nat → Bool) : (List.range n).countP (fun e => f (g e)) = (List.range n).countP f := by
  have h := (range_perm hg hi).countP_eq f
  rw [List.countP_map] at h
  exact h
theorem cnt_congr {n : Nat} {f g : Nat → Bool} (h : ∀ e, e < n → f e = g e) : (List.range n).countP f = (List.range n).countP g := by
  induction n with
  | zero => rfl
  | succ n ih =>
    rw [List.range_succ, List.countP_append, List.countP_append, ih (fun e he => h e (by omega))]
    have := h n (by omega)
    simp [this]
theorem cnt_split {n : Nat} (f g : Nat → Bool) : (List.range n).countP f = (List.range n).countP (fun e => f e && g e) + (List.range n).countP (fun e => f e && !g e) := by
  induction n with
  | zero => rfl
  | succ n ih =>
    rw [List.range_succ, List.countP_append, List.countP_append, List.countP_append, ih]
    cases hf : f n <;> cases hg : g n <;> simp [hf, hg] <;> omega
theorem cnt_pos {n : Nat} {f : Nat → Bool} {e : Nat} (he : e < n) (hf : f e = true) : 0 < (List.range n).countP f := List.countP_pos_iff.mpr ⟨e, List.mem_range.mpr he, hf⟩
theorem cnt_ex {n : Nat} {f : Nat → Bool} (h : 0 < (List.range n).countP f) : ∃ e, e < n ∧ f e = true := by
  obtain ⟨e, he, hf⟩ := List.countP_pos_iff.mp h
  exact ⟨e, List.mem_range.mp he, hf⟩
theorem cnt_one {n r : Nat} (hr : r < n) (f : Nat → Bool) (hf : f r = true) : (List.range n).countP f = (List.range n).countP (fun e => f e && !decide (e = r)) + 1 := by
  rw [cnt_split f (fun e => decide (e = r))]
  have h : (List.range n).countP (fun e => f e && decide (e = r)) = 1 := by
    induction n with
    | zero => omega
    | succ n ih =>
      rw [List.range_succ, List.countP_append]
      by_cases hn : r = n
      · subst hn
        have : (List.range r).countP (fun e => f e && decide (e = r)) = 0 := by
          rw [List.countP_eq_zero]
          intro e he
          have := List.mem_range.mp he
          have hne : ¬ e = r := by omega
          simp [hne]
        rw [this]
        simp [hf]
      · rw [ih (by omega)]
        have hne : ¬ n = r := fun e => hn e.symm
        simp [hne]
  omega
/-- sums over triangles -/
theorem cnt_three (f : Nat → Bool) (m : Nat) (k : Nat → Bool) (h : ∀ t, t < m → (f (3 * t)).toNat + (f (3 * t + 1)).toNat + (f (3 * t + 2)).toNat = (k t).toNat) : (List.range (3 * m)).countP f = (List.range m).countP k := by
  induction m with
  | zero => rfl
  | succ m ih =>
    rw [show 3 * (m + 1) = 3 * m + 1 + 1 + 1 by omega, List.range_succ, List.range_succ, List.range_succ, List.range_succ, List.countP_append, List.countP_append, List.countP_append, List.countP_append, ih (fun t ht => h t (by omega))]
    have := h m (by omega)
    cases h0 : f (3 * m) <;> cases h1 : f (3 * m + 1) <;> cases h2 : f (3 * m + 2) <;> cases hk : k m <;> simp [h0, h1, h2, hk] at this ⊢ <;> omega
theorem cnt_three' (f : Nat → Bool) (m : Nat) (k : Nat → Bool) (h : ∀ t, t < m → (f (3 * t)).toNat + (f (3 * t + 1)).toNat + (f (3 * t + 2)).toNat = 3 * (k t).toNat) : (List.range (3 * m)).countP f = 3 * (List.range m).countP k := by
  induction m with
  | zero => rfl
  | succ m ih =>
    rw [show 3 * (m + 1) = 3 * m + 1 + 1 + 1 by omega, List.range_succ, List.range_succ, List.range_succ, List.range_succ, List.countP_append, List.countP_append, List.countP_append, List.countP_append, ih (fun t ht => h t (by omega))]
    have := h m (by omega)
    cases h0 : f (3 * m) <;> cases h1 : f (3 * m + 1) <;> cases h2 : f (3 * m + 2) <;> cases hk : k m <;> simp [h0, h1, h2, hk] at this ⊢ <;> omega
/-- the next edge of the same triangle -/
def nx (e : Nat) : Nat := e / 3 * 3 + (e % 3 + 1) % 3
theorem nx_div (e : Nat) : nx e / 3 = e / 3 := by unfold nx; omega
theorem nx_lt {e m : Nat} (h : e < 3 * m) : nx e < 3 * m := by unfold nx; omega
theorem nx_inj {e e' : Nat} (h : nx e = nx e') : e = e' := by unfold nx at h; omega
theorem nx3 (e : Nat) : nx (nx (nx e)) = e := by unfold nx; omega
theorem nx_0 (t : Nat) : nx (3 * t) = 3 * t + 1 := by unfold nx; omega
theorem nx_1 (t : Nat) : nx (3 * t + 1) = 3 * t + 2 := by unfold nx; omega
theorem nx_2 (t : Nat) : nx (3 * t + 2) = 3 * t := by unfold nx; omega
/-! TREES: the triangles that a point takes away hang together as a tree -/
section
variable (u : Nat → V4) (s : Nat → Nat)
def val (e : Nat) (x : V4) : Int := vV (u (s e)) (u (s (nx e))) (u (s (nx (nx e)))) x
def tv (t : Nat) (x : V4) : Int := val u s (3 * t) x
end
theorem val_nx (u : Nat → V4) (s : Nat → Nat) (e : Nat) (x : V4) : val u s (nx e) x = val u s e x := by
  unfold val
  rw [nx3, vV_rot]
theorem val_tv (u : Nat → V4) (s : Nat → Nat) (e : Nat) (x : V4) : val u s e x = tv u s (e / 3) x := by
  unfold tv
  have h : e = 3 * (e / 3) ∨ e = 3 * (e / 3) + 1 ∨ e = 3 * (e / 3) + 2 := by omega
  rcases h with h | h | h
  · rw [← h]
  · conv => lhs; rw [h, ← nx_0, val_nx]
  · conv => lhs; rw [h, ← nx_1, val_nx, ← nx_0, val_nx]
def NetOK (u : Nat → V4) (P : List Nat) (m : Nat) (s tw : Nat → Nat) : Prop :=
  (∀ e, e < 3 * m → tw e < 3 * m ∧ tw (tw e) = e ∧ s (tw e) = s (nx e) ∧ s (nx (tw e)) = s e) ∧
  (∀ e, e < 3 * m → FC u P (s e) (s (nx e)) (s (nx (nx e)))) ∧
  (∀ e, e < 3 * m → ∀ e', e' < 3 * m → s e = s e' → s (nx e) = s (nx e') → e = e') ∧
  (∀ a b c, ∃ x ∈ P, x ≠ a ∧ x ≠ b ∧ x ≠ c) ∧ P.Nodup
section
variable {u : Nat → V4} {P : List Nat} {m : Nat} {s tw : Nat → Nat} {p : Nat}
theorem NetOK.twin (h : NetOK u P m s tw) {e : Nat} (he : e < 3 * m) : tw e < 3 * m ∧ tw (tw e) = e ∧ s (tw e) = s (nx e) ∧ s (nx (tw e)) = s e := h.1 e he
theorem NetOK.fc (h : NetOK u P m s tw) {e : Nat} (he : e < 3 * m) : FC u P (s e) (s (nx e)) (s (nx (nx e))) := h.2.1 e he
theorem NetOK.one (h : NetOK u P m s tw) {e e' : Nat} (he : e < 3 * m) (he' : e' < 3 * m) (h1 : s e = s e') (h2 : s (nx e) = s (nx e')) : e = e' := h.2.2.1 e he e' he' h1 h2
/-- the triangle beyond an edge, from this side -/
theorem NetOK.fct (h : NetOK u P m s tw) {e : Nat} (he : e < 3 * m) : FC u P (s (nx e)) (s e) (s (nx (nx (tw e)))) := by
  have q := h.twin he
  have f := h.fc q.1
  rw [q.2.2.1, q.2.2.2] at f
  exact f
theorem NetOK.apart (h : NetOK u P m s tw) {e : Nat} (he : e < 3 * m) : s (nx (nx e)) ≠ s (nx (nx (tw e))) := by
  obtain ⟨x, hx, h1, h2, h3⟩ := h.2.2.2.1 (s e) (s (nx e)) (s (nx (nx e)))
  exact (h.fc he).apart (h.fct he) hx h1 h2 h3
theorem NetOK.cross (h : NetOK u P m s tw) {e : Nat} (he : e < 3 * m) : vV (u (s e)) (u (s (nx e))) (u (s (nx (nx e)))) (u (s (nx (nx (tw e))))) < 0 := (h.fc he).across (h.fct he) (h.apart he)
theorem NetOK.valtw (h : NetOK u P m s tw) {e : Nat} (he : e < 3 * m) (x : V4) : vV (u (s (nx e))) (u (s e)) (u (s (nx (nx (tw e))))) x = tv u s (tw e / 3) x := by
  have q := h.twin he
  rw [← val_tv]
  unfold val
  rw [q.2.2.1, q.2.2.2]
theorem NetOK.div_lt {e : Nat} (he : e < 3 * m) : e / 3 < m := by omega
theorem NetOK.twinj (h : NetOK u P m s tw) {e e' : Nat} (he : e < 3 * m) (he' : e' < 3 * m) (q : tw e = tw e') : e = e' := by
  have h1 := (h.twin he).2.1
  have h2 := (h.twin he').2.1
  rw [← h1, q, h2]
/-- a triangle is not its own neighbour -/
theorem NetOK.ne3 (h : NetOK u P m s tw) {e : Nat} (he : e < 3 * m) : tw e / 3 ≠ e / 3 := by
  intro q
  have f := h.fc he
  have g := h.twin he
  have hc : tw e = e ∨ tw e = nx e ∨ tw e = nx (nx e) := by unfold nx; omega
  rcases hc with c | c | c
  · rw [c] at g; exact f.2.2.2.1 g.2.2.1
  · rw [c] at g; exact f.2.2.2.2.2.1 g.2.2.2
  · rw [c] at g; exact f.2.2.2.2.1 g.2.2.1.symm
end
/-- bounds -/
theorem bound_list : ∀ l : List Int, ∃ B : Int, 0 < B ∧ ∀ z ∈ l, -B < z ∧ z < B
  | [] => ⟨1, by decide, fun _ h => absurd h List.not_mem_nil⟩
  | z :: l => by
    obtain ⟨B, h1, h2⟩ := bound_list l
    refine ⟨B + z.natAbs + 1, by omega, fun y hy => ?_⟩
    rcases List.mem_cons.mp hy with rfl | hy
    · omega
    · have := h2 y hy
      omega
/-- a place inside of all triangles that lies in no plane through the new point and two others -/
def Inner (u : Nat → V4) (P : List Nat) (p : Nat) (o : V4) : Prop :=
  (∀ a b c, FC u P a b c → vV (u a) (u b) (u c) o < 0) ∧ (∀ a ∈ P, ∀ b ∈ P, a ≠ b → vV (u a) (u b) (u p) o ≠ 0) ∧ ∀ f : V4, (∀ i ∈ P, 0 ≤ ap f (u i)) → 0 ≤ ap f o
theorem inner_ex {u : Nat → V4} {P : List Nat} {p : Nat} (hn : P.Nodup) (h4 : ∀ a b c : Nat, ∃ x ∈ P, x ≠ a ∧ x ≠ b ∧ x ≠ c) (hg : ∀ a ∈ P, ∀ b ∈ P, a ≠ b → ∃ i ∈ P, vV (u a) (u b) (u p) (u i) ≠ 0) : ∃ o, Inner u P p o := by
  obtain ⟨B, hB, hb⟩ := bound_list (P.flatMap fun a => P.flatMap fun b => P.map fun i => vV (u a) (u b) (u p) (u i))
  have hpos : ∀ i : Nat, 0 < B ^ i := fun i => Int.pow_pos hB
  refine ⟨comb (fun i => B ^ i) u P, fun a b c hf => ?_, fun a ha b hb2 hab => ?_, fun f hf => ?_⟩
  · rw [vV_comb]
    refine sumz_neg (fun i hi => ?_) ?_
    · exact Int.mul_nonpos_of_nonneg_of_nonpos (Int.le_of_lt (hpos i)) (hf.le hi)
    · obtain ⟨x, hx, h1, h2, h3⟩ := h4 a b c
      exact ⟨x, hx, Int.mul_neg_of_pos_of_neg (hpos x) (hf.2.2.2.2.2.2 x hx h1 h2 h3)⟩
  · rw [vV_comb]
    exact sum_ne hn hB (fun i hi => hb _ (List.mem_flatMap.mpr ⟨a, ha, List.mem_flatMap.mpr ⟨b, hb2, List.mem_map.mpr ⟨i, hi, rfl⟩⟩⟩)) (hg a ha b hb2 hab)
  · rw [ap_comb]
    have hs : ∀ l : List Nat, (∀ i ∈ l, i ∈ P) → 0 ≤ sumz (fun i => B ^ i * ap f (u i)) l := by
      intro l
      induction l with
      | nil => intro _; exact Int.le_refl _
      | cons j l ih =>
        intro hl
        have h1 := Int.mul_nonneg (Int.le_of_lt (hpos j)) (hf j (hl j List.mem_cons_self))
        have h2 := ih (fun i hi => hl i (List.mem_cons_of_mem _ hi))
        rw [sumz]
        omega
    exact hs P (fun _ h => h)
/-- every point is a corner of all -/
def Corners (u : Nat → V4) (P : List Nat) (p : Nat) : Prop := ∀ i ∈ P, ∃ f : V4, ap f (u i) = 0 ∧ ∀ j ∈ p :: P, j ≠ i → 0 < ap f (u j)
section
variable {u : Nat → V4} {P : List Nat} {m : Nat} {s tw : Nat → Nat} {p : Nat} {o : V4}
/-- the number of triangles from which p is seen better -/
def better (u : Nat → V4) (s : Nat → Nat) (p : Nat) (o : V4) (t t' : Nat) : Bool := decide (tv u s t o * tv u s t' (u p) < tv u s t (u p) * tv u s t' o)
theorem better_trans {a b c d e f : Int} (ha : a < 0) (hc : c < 0) (he : e < 0) (h1 : a * d < b * c) (h2 : c * f < d * e) : a * f < b * e := by
  have q1 : d * e * a < c * f * a := Int.mul_lt_mul_of_neg_right h2 ha
  have q2 : b * c * e < a * d * e := Int.mul_lt_mul_of_neg_right h1 he
  have q3 : c * (b * e) < c * (a * f) := by
    have r1 : c * (b * e) = b * c * e := by grind
    have r2 : c * (a * f) = c * f * a := by grind
    have r3 : d * e * a = a * d * e := by grind
    rw [r1, r2]
    omega
  by_cases h : a * f < b * e
  · exact h
  · have := Int.mul_le_mul_of_nonpos_left (Int.le_of_lt hc) (Int.not_lt.mp h)
    omega
theorem tv_o (hN : NetOK u P m s tw) (hI : Inner u P p o) {t : Nat} (ht : t < m) : tv u s t o < 0 := by
  unfold tv val
  exact hI.1 _ _ _ (hN.fc (by omega))
def tk (u : Nat → V4) (s : Nat → Nat) (p t : Nat) : Bool := decide (0 < tv u s t (u p))
def par (u : Nat → V4) (s : Nat → Nat) (p : Nat) (o : V4) (e : Nat) : Bool := decide (0 < vV (u (s e)) (u (s (nx e))) (u p) o)
theorem par_tw (hN : NetOK u P m s tw) (hI : Inner u P p o) {e : Nat} (he : e < 3 * m) : par u s p o (tw e) = !par u s p o e := by
  have q := hN.twin he
  have f := hN.fc he
  have hne := hI.2.1 (s e) f.1 (s (nx e)) f.2.1 f.2.2.2.1
  unfold par
  rw [q.2.2.1, q.2.2.2, vV_12]
  by_cases h : 0 < vV (u (s e)) (u (s (nx e))) (u p) o
  · rw [decide_eq_true h, decide_eq_false (by omega)]; rfl
  · rw [decide_eq_false h, decide_eq_true (by omega)]; rfl
/-- the parent is taken too, and better -/
theorem par_next (hN : NetOK u P m s tw) (hI : Inner u P p o) {e : Nat} (he : e < 3 * m) (ht : tk u s p (e / 3) = true) (hpar : par u s p o e = true) : tk u s p (tw e / 3) = true ∧ better u s p o (e / 3) (tw e / 3) = true := by
  have h1 := of_decide_eq_true ht
  have h2 := of_decide_eq_true hpar
  have hc := hN.cross he
  have hup := par_up (p := u p) (o := o) hc h2
  rw [hN.valtw he, hN.valtw he] at hup
  have v1 : vV (u (s e)) (u (s (nx e))) (u (s (nx (nx e)))) o = tv u s (e / 3) o := val_tv u s e o
  have v2 : vV (u (s e)) (u (s (nx e))) (u (s (nx (nx e)))) (u p) = tv u s (e / 3) (u p) := val_tv u s e (u p)
  rw [v1, v2] at hup
  have o1 := tv_o hN hI (t := e / 3) (by omega)
  have o2 := tv_o hN hI (t := tw e / 3) (by have := (hN.twin he).1; omega)
  refine ⟨decide_eq_true ?_, decide_eq_true hup⟩
  have q : tv u s (e / 3) (u p) * tv u s (tw e / 3) o < 0 := Int.mul_neg_of_pos_of_neg h1 o2
  exact pos_of_mul_neg_right (by omega) o1
/-- at most one edge of a taken triangle leads to a parent -/
theorem par_one (hN : NetOK u P m s tw) (hp : p ∉ P) (hC : Corners u P p) (hI : Inner u P p o) {e : Nat} (he : e < 3 * m) (ht : tk u s p (e / 3) = true) : ¬ (par u s p o e = true ∧ par u s p o (nx e) = true) := by
  rintro ⟨h1, h2⟩
  have f := hN.fc he
  obtain ⟨g, g1, g2⟩ := hC (s (nx e)) f.2.1
  have p1 := of_decide_eq_true h1
  have p2 := of_decide_eq_true h2
  have t1 := of_decide_eq_true ht
  rw [← val_tv] at t1
  have t2 : val u s e o < 0 := by rw [val_tv]; exact tv_o hN hI (by omega)
  have ga : 0 < ap g (u (s e)) := g2 _ (List.mem_cons_of_mem _ f.1) f.2.2.2.1
  have gc : 0 < ap g (u (s (nx (nx e)))) := g2 _ (List.mem_cons_of_mem _ f.2.2.1) (fun q => f.2.2.2.2.1 q.symm)
  have gp : 0 < ap g (u p) := g2 _ List.mem_cons_self (fun q => hp (q ▸ f.2.1))
  have go : 0 ≤ ap g o := hI.2.2 g (fun i hi => by
    by_cases hi2 : i = s (nx e)
    · rw [hi2, g1]; exact Int.le_refl _
    · exact Int.le_of_lt (g2 i (List.mem_cons_of_mem _ hi) hi2))
  exact no_two g1 (Int.le_of_lt ga) (Int.le_of_lt gc) gp go (Int.le_of_lt t1) t2 (Int.le_of_lt p1) (Int.le_of_lt p2)
def isRoot (u : Nat → V4) (s : Nat → Nat) (p : Nat) (o : V4) (t : Nat) : Prop := par u s p o (3 * t) = false ∧ par u s p o (3 * t + 1) = false ∧ par u s p o (3 * t + 2) = false
theorem par_neg (hN : NetOK u P m s tw) (hI : Inner u P p o) {e : Nat} (he : e < 3 * m) (h : par u s p o e = false) : vV (u (s e)) (u (s (nx e))) (u p) o < 0 := by
  have f := hN.fc he
  have hne := hI.2.1 (s e) f.1 (s (nx e)) f.2.1 f.2.2.2.1
  have := of_decide_eq_false h
  omega
/-- there is one root at most -/
theorem root_one (hN : NetOK u P m s tw) (hI : Inner u P p o) {t t' : Nat} (ht : t < m) (ht' : t' < m) (h : isRoot u s p o t) (h' : isRoot u s p o t') : t = t' := by
  by_cases htt : t = t'
  · exact htt
  exfalso
  have key : ∀ {t t' : Nat}, t < m → t' < m → t ≠ t' → isRoot u s p o t → tv u s t (u p) * tv u s t' o < tv u s t o * tv u s t' (u p) := by
    intro t t' ht ht' hne h
    have f := hN.fc (e := 3 * t) (by omega)
    have f' := hN.fc (e := 3 * t') (by omega)
    have n0 := par_neg hN hI (e := 3 * t) (by omega) h.1
    have n1 := par_neg hN hI (e := 3 * t + 1) (by omega) h.2.1
    have n2 := par_neg hN hI (e := 3 * t + 2) (by omega) h.2.2
    rw [nx_0] at n0 f
    rw [nx_1] at n1 f
    rw [nx_2] at n2
    have hs : vV (u (s (3 * t'))) (u (s (nx (3 * t')))) (u (s (nx (nx (3 * t'))))) (u (s (3 * t))) < 0 ∨ vV (u (s (3 * t'))) (u (s (nx (3 * t')))) (u (s (nx (nx (3 * t'))))) (u (s (3 * t + 1))) < 0 ∨ vV (u (s (3 * t'))) (u (s (nx (3 * t')))) (u (s (nx (nx (3 * t'))))) (u (s (3 * t + 2))) < 0 := by
      by_cases c0 : s (3 * t) = s (3 * t') ∨ s (3 * t) = s (nx (3 * t')) ∨ s (3 * t) = s (nx (nx (3 * t')))
      · by_cases c1 : s (3 * t + 1) = s (3 * t') ∨ s (3 * t + 1) = s (nx (3 * t')) ∨ s (3 * t + 1) = s (nx (nx (3 * t')))
        · by_cases c2 : s (3 * t + 2) = s (3 * t') ∨ s (3 * t + 2) = s (nx (3 * t')) ∨ s (3 * t + 2) = s (nx (nx (3 * t')))
          · exfalso
            have hx := hN.2.2.2.1 (s (3 * t)) (s (3 * t + 1)) (s (3 * t + 2))
            obtain ⟨x, hx, x1, x2, x3⟩ := hx
            have a1 := f.2.2.2.1
            have a2 := f.2.2.2.2.1
            have a3 := f.2.2.2.2.2.1
            -- the same three corners, in the same turn or the other
            have one := fun (i : Nat) (hi : i = 3 * t' ∨ i = nx (3 * t') ∨ i = nx (nx (3 * t'))) (j : Nat) (hj : j = i) (q1 : s (3 * t) = s i) (q2 : s (3 * t + 1) = s (nx i)) => hN.one (e := 3 * t) (e' := i) (by omega) (by rcases hi with r | r | r <;> rw [r] <;> first | omega | exact nx_lt (by omega) | exact nx_lt (nx_lt (by omega))) q1 (by rw [nx_0]; exact q2)
            have dv : ∀ i, (i = 3 * t' ∨ i = nx (3 * t') ∨ i = nx (nx (3 * t'))) → i / 3 = t' := by
              intro i hi
              rcases hi with r | r | r
              · rw [r]; omega
              · rw [r, nx_div]; omega
              · rw [r, nx_div, nx_div]; omega
            have same : ∀ i, (i = 3 * t' ∨ i = nx (3 * t') ∨ i = nx (nx (3 * t'))) → s (3 * t) = s i → s (3 * t + 1) = s (nx i) → False := by
              intro i hi q1 q2
              have := one i hi i rfl q1 q2
              have h2 := dv i hi
              omega
            have opp : ∀ i, (i = 3 * t' ∨ i = nx (3 * t') ∨ i = nx (nx (3 * t'))) → s (3 * t) = s (nx i) → s (3 * t + 1) = s i → s (3 * t + 2) = s (nx (nx i)) → False := by
              intro i hi q1 q2 q3
              have hil : i < 3 * m := by rcases hi with r | r | r <;> rw [r] <;> first | omega | exact nx_lt (by omega) | exact nx_lt (nx_lt (by omega))
              have fi := hN.fc hil
              have b1 := f.2.2.2.2.2.2 x hx x1 x2 x3
              have b2 := fi.2.2.2.2.2.2 x hx (by rw [← q2]; exact x2) (by rw [← q1]; exact x1) (by rw [← q3]; exact x3)
              rw [← q1, ← q2, ← q3, vV_12] at b2
              omega
            rcases c0 with c0 | c0 | c0 <;> rcases c1 with c1 | c1 | c1 <;> rcases c2 with c2 | c2 | c2 <;>
              first
              | (exact absurd (c0.trans c1.symm) a1)
              | (exact absurd (c1.trans c2.symm) a2)
              | (exact absurd (c2.trans c0.symm) a3)
              | (exact same _ (Or.inl rfl) c0 c1)
              | (exact same _ (Or.inr (Or.inl rfl)) c0 c1)
              | (exact same _ (Or.inr (Or.inr rfl)) c0 (by rw [nx3]; exact c1))
              | (exact opp _ (Or.inl rfl) c0 c1 c2)
              | (exact opp _ (Or.inr (Or.inl rfl)) c0 c1 (by rw [nx3]; exact c2))
              | (exact opp _ (Or.inr (Or.inr rfl)) (by rw [nx3]; exact c0) c1 (by rw [nx3]; exact c2))
          · exact Or.inr (Or.inr (f'.2.2.2.2.2.2 _ f.2.2.1 (fun q => c2 (Or.inl q)) (fun q => c2 (Or.inr (Or.inl q))) (fun q => c2 (Or.inr (Or.inr q)))))
        · exact Or.inr (Or.inl (f'.2.2.2.2.2.2 _ f.2.1 (fun q => c1 (Or.inl q)) (fun q => c1 (Or.inr (Or.inl q))) (fun q => c1 (Or.inr (Or.inr q)))))
      · exact Or.inl (f'.2.2.2.2.2.2 _ f.1 (fun q => c0 (Or.inl q)) (fun q => c0 (Or.inr (Or.inl q))) (fun q => c0 (Or.inr (Or.inr q))))
    have hr := root_lt' (a := u (s (3 * t))) (b := u (s (3 * t + 1))) (c := u (s (3 * t + 2))) (d := u (s (3 * t'))) (e := u (s (nx (3 * t')))) (f := u (s (nx (nx (3 * t'))))) (p := u p) (o := o) n0 n1 n2 (f'.le f.1) (f'.le f.2.1) (f'.le f.2.2.1) hs
    unfold tv val
    rw [nx_0 t, nx_1 t]
    exact hr
  have k1 := key ht ht' htt h
  have k2 := key ht' ht (fun q => htt q.symm) h'
  have e1 : tv u s t' (u p) * tv u s t o = tv u s t o * tv u s t' (u p) := Int.mul_comm _ _
  have e2 : tv u s t' o * tv u s t (u p) = tv u s t (u p) * tv u s t' o := Int.mul_comm _ _
  omega
end
theorem cnt_lt {n : Nat} {p q : Nat → Bool} (h : ∀ x, x < n → p x = true → q x = true) {y : Nat} (hy : y < n) (h1 : q y = true) (h2 : p y = false) : (List.range n).countP p < (List.range n).countP q := by
  have e1 := cnt_split (n := n) q p
  have e2 : (List.range n).countP (fun e => q e && p e) = (List.range n).countP p := cnt_congr (fun e he => by
    cases hp : p e with
    | false => simp
    | true => simp [h e he hp])
  have e3 : 0 < (List.range n).countP (fun e => q e && !p e) := cnt_pos hy (by simp [h1, h2])
  omega
section
variable {u : Nat → V4} {P : List Nat} {m : Nat} {s tw : Nat → Nat} {p : Nat} {o : V4}
theorem rk_lt (hN : NetOK u P m s tw) (hI : Inner u P p o) {t t' : Nat} (ht : t < m) (ht' : t' < m) (h : better u s p o t t' = true) : (List.range m).countP (better u s p o t') < (List.range m).countP (better u s p o t) := by
  refine cnt_lt (fun x hx hb => ?_) ht' h ?_
  · exact decide_eq_true (better_trans (tv_o hN hI ht) (tv_o hN hI ht') (tv_o hN hI hx) (of_decide_eq_true h) (of_decide_eq_true hb))
  · refine decide_eq_false ?_
    rw [Int.mul_comm]
    exact Int.lt_irrefl _
theorem root_or (t : Nat) : isRoot u s p o t ∨ ∃ e, e / 3 = t ∧ par u s p o e = true := by
  cases h0 : par u s p o (3 * t) with
  | true => exact Or.inr ⟨3 * t, by omega, h0⟩
  | false =>
    cases h1 : par u s p o (3 * t + 1) with
    | true => exact Or.inr ⟨3 * t + 1, by omega, h1⟩
    | false =>
      cases h2 : par u s p o (3 * t + 2) with
      | true => exact Or.inr ⟨3 * t + 2, by omega, h2⟩
      | false => exact Or.inl ⟨h0, h1, h2⟩
theorem to_root (hN : NetOK u P m s tw) (hI : Inner u P p o) (M : Nat → Prop) (hcl : ∀ e, e < 3 * m → M (e / 3) → tk u s p (e / 3) = true → tk u s p (tw e / 3) = true → M (tw e / 3)) : ∀ (k t : Nat), t < m → tk u s p t = true → (List.range m).countP (better u s p o t) ≤ k → ∃ r, r < m ∧ tk u s p r = true ∧ isRoot u s p o r ∧ (M t ↔ M r) := by
  intro k
  induction k with
  | zero =>
    intro t ht htk hk
    rcases root_or (u := u) (s := s) (p := p) (o := o) t with h | ⟨e, he, hpar⟩
    · exact ⟨t, ht, htk, h, Iff.rfl⟩
    · have hel : e < 3 * m := by omega
      have q := par_next hN hI hel (by rw [he]; exact htk) hpar
      rw [he] at q
      have := rk_lt hN hI ht (by have := (hN.twin hel).1; omega) q.2
      omega
  | succ k ih =>
    intro t ht htk hk
    rcases root_or (u := u) (s := s) (p := p) (o := o) t with h | ⟨e, he, hpar⟩
    · exact ⟨t, ht, htk, h, Iff.rfl⟩
    · have hel : e < 3 * m := by omega
      have q := par_next hN hI hel (by rw [he]; exact htk) hpar
      rw [he] at q
      have tw1 := hN.twin hel
      have hlt := rk_lt hN hI ht (by have := tw1.1; omega) q.2
      obtain ⟨r, r1, r2, r3, r4⟩ := ih (tw e / 3) (by have := tw1.1; omega) q.1 (by omega)
      refine ⟨r, r1, r2, r3, Iff.trans ⟨fun hm => ?_, fun hm => ?_⟩ r4⟩
      · exact hcl e hel (by rw [he]; exact hm) (by rw [he]; exact htk) q.1
      · have := hcl (tw e) tw1.1 hm q.1 (by rw [tw1.2.1, he]; exact htk)
        rw [tw1.2.1, he] at this
        exact this
/-- what is closed under taken neighbours has all of them -/
theorem all_marked (hN : NetOK u P m s tw) (hI : Inner u P p o) {M : Nat → Prop} (hcl : ∀ e, e < 3 * m → M (e / 3) → tk u s p (e / 3) = true → tk u s p (tw e / 3) = true → M (tw e / 3)) {r : Nat} (hr : r < m) (htr : tk u s p r = true) (hM : M r) : ∀ t, t < m → tk u s p t = true → M t := by
  intro t ht htk
  obtain ⟨r1, a1, a2, a3, a4⟩ := to_root hN hI M hcl _ r hr htr (Nat.le_refl _)
  obtain ⟨r2, b1, b2, b3, b4⟩ := to_root hN hI M hcl _ t ht htk (Nat.le_refl _)
  have := root_one hN hI a1 b1 a3 b3
  subst this
  exact b4.mpr (a4.mp hM)
/-- so many edges lie at the rim -/
theorem rim_count (hN : NetOK u P m s tw) (hp : p ∉ P) (hC : Corners u P p) (hI : Inner u P p o) {r : Nat} (hr : r < m) (htr : tk u s p r = true) : (List.range (3 * m)).countP (fun e => tk u s p (e / 3) && !tk u s p (tw e / 3)) = (List.range m).countP (tk u s p) + 2 := by
  obtain ⟨r0, a1, a2, a3, -⟩ := to_root hN hI (fun _ => True) (fun _ _ _ _ _ => trivial) _ r hr htr (Nat.le_refl _)
  have h3 : (List.range (3 * m)).countP (fun e => tk u s p (e / 3)) = 3 * (List.range m).countP (tk u s p) := cnt_three' _ m _ (fun t ht => by
    rw [show 3 * t / 3 = t by omega, show (3 * t + 1) / 3 = t by omega, show (3 * t + 2) / 3 = t by omega]
    omega)
  have hf : (List.range (3 * m)).countP (fun e => tk u s p (e / 3) && par u s p o e) = (List.range m).countP (fun t => tk u s p t && !decide (t = r0)) := cnt_three _ m _ (fun t ht => by
    show (tk u s p (3 * t / 3) && par u s p o (3 * t)).toNat + (tk u s p ((3 * t + 1) / 3) && par u s p o (3 * t + 1)).toNat + (tk u s p ((3 * t + 2) / 3) && par u s p o (3 * t + 2)).toNat = _
    rw [show 3 * t / 3 = t by omega, show (3 * t + 1) / 3 = t by omega, show (3 * t + 2) / 3 = t by omega]
    cases htk : tk u s p t with
    | false => rfl
    | true =>
      by_cases htr0 : t = r0
      · subst htr0
        rw [a3.1, a3.2.1, a3.2.2]
        simp
      · have d0 : (3 * t) / 3 = t := by omega
        have d1 : (3 * t + 1) / 3 = t := by omega
        have d2 : (3 * t + 2) / 3 = t := by omega
        have n01 := par_one hN hp hC hI (e := 3 * t) (by omega) (by rw [d0]; exact htk)
        have n12 := par_one hN hp hC hI (e := 3 * t + 1) (by omega) (by rw [d1]; exact htk)
        have n20 := par_one hN hp hC hI (e := 3 * t + 2) (by omega) (by rw [d2]; exact htk)
        rw [nx_0] at n01
        rw [nx_1] at n12
        rw [nx_2] at n20
        have nr : ¬ isRoot u s p o t := fun h => htr0 (root_one hN hI ht a1 h a3)
        unfold isRoot at nr
        cases p0 : par u s p o (3 * t) <;> cases p1 : par u s p o (3 * t + 1) <;> cases p2 : par u s p o (3 * t + 2) <;> simp [p0, p1, p2, htr0] at n01 n12 n20 nr ⊢)
  have hone := cnt_one a1 (tk u s p) a2
  have e1 := cnt_split (n := 3 * m) (fun e => tk u s p (e / 3)) (fun e => tk u s p (tw e / 3))
  have e2 := cnt_split (n := 3 * m) (fun e => tk u s p (e / 3) && tk u s p (tw e / 3)) (par u s p o)
  have e3 : (List.range (3 * m)).countP (fun e => (tk u s p (e / 3) && tk u s p (tw e / 3)) && par u s p o e) = (List.range (3 * m)).countP (fun e => tk u s p (e / 3) && par u s p o e) := cnt_congr (fun e he => by
    cases h1 : tk u s p (e / 3) with
    | false => rfl
    | true =>
      cases h2 : par u s p o e with
      | false => simp
      | true => rw [(par_next hN hI he h1 h2).1]; rfl)
  have e4 : (List.range (3 * m)).countP (fun e => (tk u s p (e / 3) && tk u s p (tw e / 3)) && !par u s p o e) = (List.range (3 * m)).countP (fun e => (tk u s p (e / 3) && tk u s p (tw e / 3)) && par u s p o e) := by
    rw [← cnt_perm (g := tw) (fun e he => (hN.twin he).1) (fun e he e' he' q => hN.twinj he he' q) (fun e => (tk u s p (e / 3) && tk u s p (tw e / 3)) && par u s p o e)]
    refine cnt_congr (fun e he => ?_)
    show _ = ((tk u s p (tw e / 3) && tk u s p (tw (tw e) / 3)) && par u s p o (tw e))
    rw [(hN.twin he).2.1, par_tw hN hI he, Bool.and_comm (tk u s p (tw e / 3))]
  omega
/-- the rim goes on: behind an edge of it comes another -/
theorem rim_next (hN : NetOK u P m s tw) (T : Nat → Bool) {e : Nat} (he : e < 3 * m) (h1 : T (e / 3) = true) (h2 : T (tw e / 3) = false) : ∃ e', e' < 3 * m ∧ T (e' / 3) = true ∧ T (tw e' / 3) = false ∧ s e' = s (nx e) := by
  have nxl : ∀ e, e < 3 * m → nx e < 3 * m := fun e he => nx_lt he
  have c1 : (List.range (3 * m)).countP (fun x => T (x / 3) && decide (s x = s (nx e))) = (List.range (3 * m)).countP (fun x => T (x / 3) && decide (s (nx x) = s (nx e))) := by
    rw [← cnt_perm (g := nx) nxl (fun _ _ _ _ q => nx_inj q) (fun x => T (x / 3) && decide (s x = s (nx e)))]
    exact cnt_congr (fun x _ => by rw [nx_div])
  have c2 : (List.range (3 * m)).countP (fun x => (T (x / 3) && decide (s x = s (nx e))) && T (tw x / 3)) = (List.range (3 * m)).countP (fun x => (T (x / 3) && decide (s (nx x) = s (nx e))) && T (tw x / 3)) := by
    rw [← cnt_perm (g := tw) (fun x hx => (hN.twin hx).1) (fun x hx x' hx' q => hN.twinj hx hx' q) (fun x => (T (x / 3) && decide (s x = s (nx e))) && T (tw x / 3))]
    refine cnt_congr (fun x hx => ?_)
    have q := hN.twin hx
    show ((T (tw x / 3) && decide (s (tw x) = s (nx e))) && T (tw (tw x) / 3)) = _
    rw [q.2.1, q.2.2.1]
    cases T (x / 3) <;> cases T (tw x / 3) <;> simp
  have s1 := cnt_split (n := 3 * m) (fun x => T (x / 3) && decide (s x = s (nx e))) (fun x => T (tw x / 3))
  have s2 := cnt_split (n := 3 * m) (fun x => T (x / 3) && decide (s (nx x) = s (nx e))) (fun x => T (tw x / 3))
  have hpos : 0 < (List.range (3 * m)).countP (fun x => (T (x / 3) && decide (s (nx x) = s (nx e))) && !T (tw x / 3)) := cnt_pos he (by simp [h1, h2])
  have hp2 : 0 < (List.range (3 * m)).countP (fun x => (T (x / 3) && decide (s x = s (nx e))) && !T (tw x / 3)) := by omega
  obtain ⟨e', g1, g2⟩ := cnt_ex hp2
  simp only [Bool.and_eq_true, decide_eq_true_eq, Bool.not_eq_true'] at g2
  exact ⟨e', g1, g2.1.1, g2.2, g2.1.2⟩
end
/-! FILLING: a point more in the net -/
section
variable {u : Nat → V4} {P : List Nat} {m m' k : Nat} {s tw s' tw' E F : Nat → Nat} {p : Nat} {T : Nat → Bool}
theorem fill_ok (hN : NetOK u P m s tw) (hp : p ∉ P) (hT : ∀ t, t < m → T t = true → 0 < tv u s t (u p)) (hF : ∀ t, t < m → T t = false → tv u s t (u p) < 0)
    (hE : ∀ i, i < k → E i < 3 * m ∧ T (E i / 3) = true ∧ T (tw (E i) / 3) = false) (hEi : ∀ i, i < k → ∀ j, j < k → E i = E j → i = j) (hEs : ∀ e, e < 3 * m → T (e / 3) = true → T (tw e / 3) = false → ∃ i, i < k ∧ E i = e)
    (hmm : m ≤ m') (hf : ∀ i, i < k → F i < m' ∧ (F i < m → T (F i) = true)) (hfs : ∀ t, t < m' → (t < m → T t = true) → ∃ i, i < k ∧ F i = t)
    (hs1 : ∀ i, i < k → s' (3 * F i) = s (E i) ∧ s' (3 * F i + 1) = s (nx (E i)) ∧ s' (3 * F i + 2) = p) (hs2 : ∀ e, e < 3 * m → T (e / 3) = false → s' e = s e)
    (ht1 : ∀ i, i < k → tw' (3 * F i) = tw (E i) ∧ tw' (tw (E i)) = 3 * F i) (ht2 : ∀ i, i < k → ∀ j, j < k → s (E j) = s (nx (E i)) → tw' (3 * F i + 1) = 3 * F j + 2 ∧ tw' (3 * F j + 2) = 3 * F i + 1) (ht3 : ∀ e, e < 3 * m → T (e / 3) = false → T (tw e / 3) = false → tw' e = tw e) :
    NetOK u (p :: P) m' s' tw' := by
  -- the new triangles
  have newF : ∀ i, i < k → FC u (p :: P) (s (E i)) (s (nx (E i))) p := by
    intro i hi
    obtain ⟨e1, e2, e3⟩ := hE i hi
    have t1 := hT _ (by omega) e2
    rw [← val_tv] at t1
    have t2 := hF _ (by have := (hN.twin e1).1; omega) e3
    rw [← hN.valtw e1] at t2
    exact (hN.fc e1).rim (hN.fct e1) (hN.apart e1) hp t1 t2
  have oldF : ∀ e, e < 3 * m → T (e / 3) = false → FC u (p :: P) (s e) (s (nx e)) (s (nx (nx e))) := by
    intro e he ht
    have t2 := hF _ (by omega) ht
    rw [← val_tv] at t2
    exact (hN.fc he).keep t2
  have inP : ∀ e, e < 3 * m → s e ∈ P := fun e he => (hN.fc he).1
  have neP : ∀ e, e < 3 * m → s e ≠ p := fun e he q => hp (q ▸ inP e he)
  have nxE : ∀ i, i < k → nx (E i) < 3 * m := fun i hi => nx_lt (hE i hi).1
  -- old or new
  have cls : ∀ e, e < 3 * m' → (e < 3 * m ∧ T (e / 3) = false) ∨ ∃ i, i < k ∧ (e = 3 * F i ∨ e = 3 * F i + 1 ∨ e = 3 * F i + 2) := by
    intro e he
    by_cases h : e < 3 * m ∧ T (e / 3) = false
    · exact Or.inl h
    · obtain ⟨i, hi, hi2⟩ := hfs (e / 3) (by omega) (fun hl => by
        cases ht : T (e / 3) with
        | true => rfl
        | false => exact absurd ⟨by omega, ht⟩ h)
      exact Or.inr ⟨i, hi, by omega⟩
  have olds : ∀ e, e < 3 * m → T (e / 3) = false → s' e = s e ∧ s' (nx e) = s (nx e) ∧ s' (nx (nx e)) = s (nx (nx e)) := by
    intro e he ht
    exact ⟨hs2 e he ht, hs2 (nx e) (nx_lt he) (by rw [nx_div]; exact ht), hs2 (nx (nx e)) (nx_lt (nx_lt he)) (by rw [nx_div, nx_div]; exact ht)⟩
  have F3 : ∀ i, i < k → 3 * F i + 2 < 3 * m' := fun i hi => by have := (hf i hi).1; omega
  -- the one behind and the one before
  have nextE : ∀ i, i < k → ∃ j, j < k ∧ s (E j) = s (nx (E i)) := by
    intro i hi
    obtain ⟨e1, e2, e3⟩ := hE i hi
    obtain ⟨e', g1, g2, g3, g4⟩ := rim_next hN T e1 e2 e3
    obtain ⟨j, hj, rfl⟩ := hEs e' g1 g2 g3
    exact ⟨j, hj, g4⟩
  have sameStart : ∀ i, i < k → ∀ j, j < k → s (E i) = s (E j) → i = j := by
    intro i hi j hj q
    have f1 := (newF i hi).rot.rot
    have f2 := (newF j hj).rot.rot
    rw [q] at f1
    have := f1.uniq f2
    exact hEi i hi j hj (hN.one (hE i hi).1 (hE j hj).1 q this)
  have sameEnd : ∀ i, i < k → ∀ j, j < k → s (nx (E i)) = s (nx (E j)) → i = j := by
    intro i hi j hj q
    have f1 := (newF i hi).rot
    have f2 := (newF j hj).rot
    rw [q] at f1
    have := f1.uniq f2
    exact hEi i hi j hj (hN.one (hE i hi).1 (hE j hj).1 this q)
  have prevE : ∀ j, j < k → ∃ i, i < k ∧ s (E j) = s (nx (E i)) := by
    -- the map 'next' is one to one, so it meets all
    intro j hj
    have hch : ∃ g : Nat → Nat, ∀ i, i < k → g i < k ∧ s (E (g i)) = s (nx (E i)) := ⟨fun i => if h : i < k then Classical.choose (nextE i h) else 0, fun i hi => by
      simp only [hi, dif_pos]
      exact Classical.choose_spec (nextE i hi)⟩
    obtain ⟨g, hg⟩ := hch
    have hpm := range_perm (n := k) (g := g) (fun i hi => (hg i hi).1) (fun i hi i' hi' q => sameEnd i hi i' hi' (by rw [← (hg i hi).2, ← (hg i' hi').2, q]))
    have hjm : j ∈ (List.range k).map g := hpm.mem_iff.mpr (List.mem_range.mpr hj)
    obtain ⟨i, hi, rfl⟩ := List.mem_map.mp hjm
    exact ⟨i, List.mem_range.mp hi, (hg i (List.mem_range.mp hi)).2⟩
  refine ⟨fun e he => ?_, fun e he => ?_, fun e he e' he' q1 q2 => ?_, fun a b c => ?_, List.nodup_cons.mpr ⟨hp, hN.2.2.2.2⟩⟩
  · -- twins
    rcases cls e he with ⟨he1, he2⟩ | ⟨i, hi, h | h | h⟩
    · obtain ⟨o1, o2, -⟩ := olds e he1 he2
      have q := hN.twin he1
      cases hte : T (tw e / 3) with
      | false =>
        rw [ht3 e he1 he2 hte]
        obtain ⟨r1, r2, -⟩ := olds (tw e) q.1 hte
        refine ⟨by omega, ?_, ?_, ?_⟩
        · rw [ht3 (tw e) q.1 hte (by rw [q.2.1]; exact he2)]; exact q.2.1
        · rw [r1, o2]; exact q.2.2.1
        · rw [r2, o1]; exact q.2.2.2
      | true =>
        obtain ⟨i, hi, hi2⟩ := hEs (tw e) q.1 hte (by rw [q.2.1]; exact he2)
        have t1 := ht1 i hi
        rw [hi2, q.2.1] at t1
        rw [t1.2]
        have s1 := hs1 i hi
        rw [hi2] at s1
        have := F3 i hi
        refine ⟨by omega, t1.1, ?_, ?_⟩
        · rw [s1.1, o2]; exact q.2.2.1
        · rw [nx_0, s1.2.1, o1]; exact q.2.2.2
    · subst h
      obtain ⟨e1, e2, e3⟩ := hE i hi
      have q := hN.twin e1
      obtain ⟨t1, t2⟩ := ht1 i hi
      obtain ⟨r1, r2, -⟩ := olds (tw (E i)) q.1 e3
      obtain ⟨s1, s2, s3⟩ := hs1 i hi
      rw [t1]
      refine ⟨by have := q.1; omega, t2, ?_, ?_⟩
      · rw [r1, nx_0, s2]; exact q.2.2.1
      · rw [r2, s1]; exact q.2.2.2
    · subst h
      obtain ⟨j, hj, hj2⟩ := nextE i hi
      obtain ⟨t1, t2⟩ := ht2 i hi j hj hj2
      obtain ⟨s1, s2, s3⟩ := hs1 i hi
      obtain ⟨r1, r2, r3⟩ := hs1 j hj
      rw [t1]
      refine ⟨F3 j hj, t2, ?_, ?_⟩
      · rw [r3, nx_1, s3]
      · rw [nx_2, r1, s2]; exact hj2
    · subst h
      obtain ⟨j, hj, hj2⟩ := prevE i hi
      obtain ⟨t1, t2⟩ := ht2 j hj i hi hj2
      obtain ⟨s1, s2, s3⟩ := hs1 i hi
      obtain ⟨r1, r2, r3⟩ := hs1 j hj
      rw [t2]
      refine ⟨by have := F3 j hj; omega, t1, ?_, ?_⟩
      · rw [r2, nx_2, s1]; exact hj2.symm
      · rw [nx_1, r3, s3]
  · -- triangles
    rcases cls e he with ⟨he1, he2⟩ | ⟨i, hi, h | h | h⟩
    · obtain ⟨o1, o2, o3⟩ := olds e he1 he2
      rw [o1, o2, o3]
      exact oldF e he1 he2
    · subst h
      obtain ⟨s1, s2, s3⟩ := hs1 i hi
      rw [nx_0, nx_1, s1, s2, s3]
      exact newF i hi
    · subst h
      obtain ⟨s1, s2, s3⟩ := hs1 i hi
      rw [nx_1, nx_2, s1, s2, s3]
      exact (newF i hi).rot
    · subst h
      obtain ⟨s1, s2, s3⟩ := hs1 i hi
      rw [nx_2, nx_0, s1, s2, s3]
      exact (newF i hi).rot.rot
  · -- no edge twice
    have mix : ∀ i, i < k → ∀ e, e < 3 * m → T (e / 3) = false → s (E i) = s e → s (nx (E i)) = s (nx e) → False := by
      intro i hi e he ht a b
      obtain ⟨e1, e2, e3⟩ := hE i hi
      have := hN.one e1 he a b
      rw [this, ht] at e2
      cases e2
    rcases cls e he with ⟨he1, he2⟩ | ⟨i, hi, h⟩ <;> rcases cls e' he' with ⟨he1', he2'⟩ | ⟨j, hj, h'⟩
    · obtain ⟨o1, o2, -⟩ := olds e he1 he2
      obtain ⟨o1', o2', -⟩ := olds e' he1' he2'
      rw [o1, o1'] at q1
      rw [o2, o2'] at q2
      exact hN.one he1 he1' q1 q2
    · exfalso
      obtain ⟨o1, o2, -⟩ := olds e he1 he2
      obtain ⟨r1, r2, r3⟩ := hs1 j hj
      rw [o1] at q1
      rw [o2] at q2
      rcases h' with rfl | rfl | rfl
      · rw [nx_0, r2] at q2
        rw [r1] at q1
        exact mix j hj e he1 he2 q1.symm q2.symm
      · rw [nx_1, r3] at q2
        exact neP _ (nx_lt he1) q2
      · rw [r3] at q1
        exact neP _ he1 q1
    · exfalso
      obtain ⟨o1, o2, -⟩ := olds e' he1' he2'
      obtain ⟨r1, r2, r3⟩ := hs1 i hi
      rw [o1] at q1
      rw [o2] at q2
      rcases h with rfl | rfl | rfl
      · rw [nx_0, r2] at q2
        rw [r1] at q1
        exact mix i hi e' he1' he2' q1 q2
      · rw [nx_1, r3] at q2
        exact neP _ (nx_lt he1') q2.symm
      · rw [r3] at q1
        exact neP _ he1' q1.symm
    · obtain ⟨s1, s2, s3⟩ := hs1 i hi
      obtain ⟨r1, r2, r3⟩ := hs1 j hj
      have n1 := neP _ (hE i hi).1
      have n2 := neP _ (nxE i hi)
      have m1 := neP _ (hE j hj).1
      have m2 := neP _ (nxE j hj)
      rcases h with rfl | rfl | rfl <;> rcases h' with rfl | rfl | rfl
      · rw [s1, r1] at q1
        rw [sameStart i hi j hj q1]
      · rw [nx_0, nx_1, s2, r3] at q2; exact absurd q2 n2
      · rw [s1, r3] at q1; exact absurd q1 n1
      · rw [nx_1, nx_0, s3, r2] at q2; exact absurd q2.symm m2
      · rw [s2, r2] at q1
        rw [sameEnd i hi j hj q1]
      · rw [s2, r3] at q1; exact absurd q1 n2
      · rw [s3, r1] at q1; exact absurd q1.symm m1
      · rw [s3, r2] at q1; exact absurd q1.symm m2
      · rw [nx_2, nx_2, s1, r1] at q2
        rw [sameStart i hi j hj q2]
  · obtain ⟨x, hx, h⟩ := hN.2.2.2.1 a b c
    exact ⟨x, List.mem_cons_of_mem _ hx, h⟩
end
