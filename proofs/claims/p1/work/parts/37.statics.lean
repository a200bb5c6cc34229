/-! STATICS: what a static holds stays, for its cell is no cell of the worlds -/
theorem zs_off {s : State} {H : Heap} {D : va_G} {cl : List vw_C} {tys : List (ClassId × FieldType)} {w0 : va_W} {a : Nat} {cell : Cell} (hK : va_K D cl tys s) (hP : va_P D cl w0 H) (hc : H[a]? = some cell) (hs : cell.vm.isStatics = true) : ∀ (k : Nat) (e : va_E), w0[k]? ≠ some (a, e) := by
  intro k e he
  cases e with
  | inl x =>
    have h : H[a]? = some (vp_cell x.1 x.2) := hP k (a, .inl x) he
    rw [hc] at h
    cases Option.some.inj h
    obtain ⟨cA, n, y⟩ := x
    rcases y with f | f | f | f | f <;> cases hs
  | inr o =>
    obtain ⟨r, h1, h2⟩ := hP k (a, .inr o) he
    obtain ⟨cell2, q1, q2, q3⟩ := va_recv hK hP h1 (show w0[k]? = some (a, .inr (o.1, o.2)) from he)
    rw [hc] at q1
    cases Option.some.inj q1
    rw [hs] at q2
    cases q2
theorem zq_in {s : State} {D : va_G} {cl : List vw_C} {tys : List (ClassId × FieldType)} {w0 : va_W} {C n d : String} (hK : va_K D cl tys s) (hP : va_P D cl w0 s.heap) (h : va_Zq C n d (fun _ => False) s s.heap) : va_Zq C n d (va_A w0 s.heap.size) s s.heap := by
  have one : ∀ v, va_Z C n d v (fun _ => False) s s.heap → va_Z C n d v (va_A w0 s.heap.size) s s.heap := by
    intro v hv
    obtain ⟨cf, kf, fi, f, a, cell, h1, h2, h3, h4, h5, h6, h7, -⟩ := hv
    refine ⟨cf, kf, fi, f, a, cell, h1, h2, h3, h4, h5, h6, h7, fun hA => ?_⟩
    rcases hA with ⟨k, e, he⟩ | hsz
    · exact zs_off hK hP h5 h6 k e he
    · exact absurd (Array.getElem?_eq_some_iff.mp h5).1 (Nat.not_lt.mpr hsz)
  rcases h with h | ⟨t, h⟩
  · exact Or.inl (one _ h)
  · exact Or.inr ⟨t, one _ h⟩
theorem zq_before {U : State} {C n d : String} {A : Nat → Prop} {B : Array Value} (h : va_Zq C n d A U U.heap) : (Cond.isRef (.static C n d)).before B U = true := by
  have one : ∀ v, va_Z C n d v A U U.heap → (Term.static C n d).eval B U none [] U = some v := by
    intro v hv
    obtain ⟨cf, kf, fi, f, a, cell, h1, h2, h3, h4, h5, h6, h7, -⟩ := hv
    simp [Term.eval, State.fieldNamed?, h1, h2, h4, h5, h6, h7]
  rcases h with h | ⟨t, h⟩
  · simp [Cond.before, Cond.holds, Cond.value, one _ h]
  · simp [Cond.before, Cond.holds, Cond.value, one _ h]
