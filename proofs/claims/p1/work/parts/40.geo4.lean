/-! GEOMETRY 4: weights that grow fast towards the least point -/
def gLess (X Y : Nat → Int) (i j : Nat) : Prop := X i < X j ∨ (X i = X j ∧ Y i < Y j)
theorem gLess_trans {X Y : Nat → Int} {i j k : Nat} (h1 : gLess X Y i j) (h2 : gLess X Y j k) : gLess X Y i k := by unfold gLess at *; omega
theorem gLess_irr {X Y : Nat → Int} {i : Nat} (h : gLess X Y i i) : False := by unfold gLess at h; omega
theorem gLess_tri {X Y : Nat → Int} {i j : Nat} (h : ¬ (X i = X j ∧ Y i = Y j)) : gLess X Y i j ∨ gLess X Y j i := by unfold gLess; omega
theorem countP_lt {α : Type} (p q : α → Bool) : ∀ l : List α, (∀ x ∈ l, p x = true → q x = true) → (∃ x ∈ l, q x = true ∧ p x = false) → l.countP p < l.countP q := by
  intro l
  induction l with
  | nil => intro _ ⟨x, hx, _⟩; cases hx
  | cons y l ih =>
    intro h ⟨x, hx, hq, hp⟩
    have hmono : l.countP p ≤ l.countP q := List.countP_mono_left (fun z hz => h z (List.mem_cons_of_mem _ hz))
    rcases List.mem_cons.mp hx with rfl | hx
    · simp only [List.countP_cons, hq, hp]
      simp
      omega
    · have h2 := ih (fun z hz => h z (List.mem_cons_of_mem _ hz)) ⟨x, hx, hq, hp⟩
      have h3 := h y List.mem_cons_self
      simp only [List.countP_cons]
      cases hpy : p y
      · cases hqy : q y <;> simp <;> omega
      · rw [h3 hpy]; simp; omega
noncomputable def gRank (X Y : Nat → Int) (N i : Nat) : Nat := (List.range N).countP (fun j => decide (X i < X j ∨ (X i = X j ∧ Y i < Y j)))
theorem gRank_lt {X Y : Nat → Int} {N i j : Nat} (hj : j < N) (h : gLess X Y i j) : gRank X Y N j < gRank X Y N i := by
  refine countP_lt _ _ _ (fun k _ hk => ?_) ⟨j, List.mem_range.mpr hj, ?_, ?_⟩
  · have h2 : X j < X k ∨ (X j = X k ∧ Y j < Y k) := of_decide_eq_true hk
    exact decide_eq_true (p := X i < X k ∨ (X i = X k ∧ Y i < Y k)) (gLess_trans h h2)
  · exact decide_eq_true (p := X i < X j ∨ (X i = X j ∧ Y i < Y j)) h
  · exact decide_eq_false (p := X j < X j ∨ (X j = X j ∧ Y j < Y j)) (fun h2 => gLess_irr (X := X) (Y := Y) (i := j) h2)
def gK : Int := 24000000000000000001
noncomputable def gW (X Y : Nat → Int) (N i : Nat) : Int := gK ^ gRank X Y N i
theorem gW_pos (X Y : Nat → Int) (N i : Nat) : 0 < gW X Y N i := Int.pow_pos (by decide)
theorem gW_far {X Y : Nat → Int} {N i j : Nat} (hj : j < N) (h : gLess X Y i j) : gW X Y N j * gK ≤ gW X Y N i := by
  have hr := gRank_lt hj h
  obtain ⟨k, hk⟩ : ∃ k, gRank X Y N i = gRank X Y N j + 1 + k := ⟨gRank X Y N i - gRank X Y N j - 1, by omega⟩
  unfold gW
  rw [hk, Int.pow_add, Int.pow_succ]
  have h1 : 0 < gK ^ gRank X Y N j * gK := Int.mul_pos (Int.pow_pos (by decide)) (by decide)
  have h2 : 1 ≤ gK ^ k := Int.pow_pos (by decide)
  have := Int.mul_le_mul_of_nonneg_left h2 (Int.le_of_lt h1)
  rw [Int.mul_one] at this
  exact this
