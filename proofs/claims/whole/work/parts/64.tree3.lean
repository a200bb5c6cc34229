/-! a corner that loses a triangle lies at the rim -/
theorem max_ex {A : Nat → Prop} {f : Nat → Nat} {B : Nat} (hB : ∀ x, A x → f x ≤ B) (hA : ∃ x, A x) : ∃ x, A x ∧ ∀ y, A y → f y ≤ f x := by
  have key : ∀ d, (∃ x, A x ∧ B ≤ f x + d) → ∃ x, A x ∧ ∀ y, A y → f y ≤ f x := by
    intro d
    induction d with
    | zero =>
      rintro ⟨x, h1, h2⟩
      exact ⟨x, h1, fun y hy => by have := hB y hy; omega⟩
    | succ d ih =>
      rintro ⟨x, h1, h2⟩
      by_cases c : ∃ y, A y ∧ f x < f y
      · obtain ⟨y, y1, y2⟩ := c
        exact ih ⟨y, y1, by omega⟩
      · exact ⟨x, h1, fun y hy => Nat.not_lt.mp (fun q => c ⟨y, hy, q⟩)⟩
  obtain ⟨x, hx⟩ := hA
  exact key B ⟨x, hx, by omega⟩
section
variable {u : Nat → V4} {P : List Nat} {m : Nat} {s tw : Nat → Nat} {p : Nat} {o : V4}
theorem rim_at (hN : NetOK u P m s tw) (hp : p ∉ P) (hC : Corners u P p) (hI : Inner u P p o) {e : Nat} (he : e < 3 * m) (ht : tk u s p (e / 3) = true) : ∃ e', e' < 3 * m ∧ tk u s p (e' / 3) = true ∧ tk u s p (tw e' / 3) = false ∧ s e' = s e := by
  apply Classical.byContradiction
  intro hno
  have none : ∀ e', e' < 3 * m → tk u s p (e' / 3) = true → s e' = s e → tk u s p (tw e' / 3) = true := by
    intro e' h1 h2 h3
    cases c : tk u s p (tw e' / 3) with
    | true => rfl
    | false => exact absurd ⟨e', h1, h2, c, h3⟩ hno
  obtain ⟨x, ⟨x1, x2, x3⟩, hmax⟩ := max_ex (A := fun x => x < 3 * m ∧ tk u s p (x / 3) = true ∧ s x = s e) (f := fun x => (List.range m).countP (better u s p o (x / 3))) (B := m) (fun x _ => Nat.le_trans List.countP_le_length (by simp)) ⟨e, he, ht, rfl⟩
  have w := hN.twin x1
  -- over the edge that leaves
  have t1 := none x x1 x2 x3
  have p1 : par u s p o x = true := by
    cases c : par u s p o x with
    | true => rfl
    | false =>
      exfalso
      have pt : par u s p o (tw x) = true := by rw [par_tw hN hI x1, c]; rfl
      have q := par_next hN hI w.1 t1 pt
      rw [w.2.1] at q
      have lt := rk_lt hN hI (show tw x / 3 < m by have := w.1; omega) (show x / 3 < m by omega) q.2
      have := hmax (nx (tw x)) ⟨nx_lt w.1, by rw [nx_div]; exact t1, by rw [w.2.2.2]; exact x3⟩
      rw [nx_div] at this
      omega
  -- over the edge that comes
  have y1 : nx (nx x) < 3 * m := nx_lt (nx_lt x1)
  have yd : nx (nx x) / 3 = x / 3 := by rw [nx_div, nx_div]
  have wy := hN.twin y1
  have sy : s (tw (nx (nx x))) = s e := by rw [wy.2.2.1, nx3]; exact x3
  have ty : tk u s p (tw (nx (nx x)) / 3) = true := by
    cases c : tk u s p (tw (nx (nx x)) / 3) with
    | true => rfl
    | false =>
      exfalso
      obtain ⟨e', g1, g2, g3, g4⟩ := rim_next hN (tk u s p) y1 (by rw [yd]; exact x2) c
      rw [nx3] at g4
      have := none e' g1 g2 (g4.trans x3)
      rw [g3] at this
      cases this
  have p2 : par u s p o (nx (nx x)) = true := by
    cases c : par u s p o (nx (nx x)) with
    | true => rfl
    | false =>
      exfalso
      have pt : par u s p o (tw (nx (nx x))) = true := by rw [par_tw hN hI y1, c]; rfl
      have q := par_next hN hI wy.1 ty pt
      rw [wy.2.1, yd] at q
      have lt := rk_lt hN hI (show tw (nx (nx x)) / 3 < m by have := wy.1; omega) (show x / 3 < m by omega) q.2
      have := hmax (tw (nx (nx x))) ⟨wy.1, ty, sy⟩
      omega
  refine par_one hN hp hC hI y1 (by rw [yd]; exact x2) ⟨p2, ?_⟩
  rw [nx3]
  exact p1
end
theorem rim_atD {X Y : Nat → Int} {N G : Nat} {P : List Nat} {p m : Nat} {s tw : Nat → Nat} (hPts : Pts X Y N G P p) (h : NetD X Y G P m s tw) {T : Nat → Bool} (hT : ∀ t, t < m → (T t = true ↔ takenD X Y G p (s (3 * t)) (s (3 * t + 1)) (s (3 * t + 2)))) {e : Nat} (he : e < 3 * m) (ht : T (e / 3) = true) : ∃ e', e' < 3 * m ∧ T (e' / 3) = true ∧ T (tw e' / 3) = false ∧ s e' = s e := by
  obtain ⟨g, hg⟩ := ghost_ex hPts
  obtain ⟨o, ho⟩ := inner_D hPts hg
  have hN := h.ok hPts hg
  have hpG : p ∉ G :: P := fun q => by
    rcases List.mem_cons.mp q with q | q
    · exact (hPts.1 p List.mem_cons_self).2.2 q
    · exact hPts.2.2.2.1 q
  obtain ⟨e', g1, g2, g3, g4⟩ := rim_at hN hpG hg.2.2.1 ho he (by rw [tk_bool hPts hg h hT (by omega)]; exact ht)
  have w := (hN.twin g1).1
  rw [tk_bool hPts hg h hT (by omega)] at g2
  rw [tk_bool hPts hg h hT (by omega)] at g3
  exact ⟨e', g1, g2, g3, g4⟩
