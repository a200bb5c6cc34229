/-! DIGGING: the triangles that a point takes away -/
/-- what digging leaves as it was -/
def frD (S T : St) : Prop := (∀ k, k ≠ 7 → k ≠ 8 → k ≠ 9 → gi T k = gi S k) ∧ T.2.1 0 = S.2.1 0 ∧ T.2.2.1 = S.2.2.1 ∧ ∀ k, k ≠ 11 → k ≠ 12 → k ≠ 13 → ga T k = ga S k
theorem frD.rfl' (S : St) : frD S S := ⟨fun _ _ _ _ => rfl, rfl, rfl, fun _ _ _ _ => rfl⟩
theorem frD.trans {S T R : St} (h : frD S T) (g : frD T R) : frD S R := ⟨fun k a b c => (g.1 k a b c).trans (h.1 k a b c), g.2.1.trans h.2.1, g.2.2.1.trans h.2.2.1, fun k a b c => (g.2.2.2 k a b c).trans (h.2.2.2 k a b c)⟩
theorem frD.ofW {S T : St} (h : sameW S T) : frD S T := ⟨fun k _ _ _ => by show T.1 k = S.1 k; rw [h.1], h.2.2, by rw [h.2.1], fun k _ _ _ => by show T.2.2.2 k = S.2.2.2 k; rw [h.2.1]⟩
theorem frD.cap {S T : St} (h : frD S T) {k c : Nat} (hc : Cap S k c) : Cap T k c := by
  unfold Cap at *
  have e1 : ∀ k, gn T k = gn S k := fun k => by show T.2.2.1 k = S.2.2.1 k; rw [h.2.2.1]
  simp only [e1]
  exact hc
theorem frD.pv {S T : St} (h : frD S T) {n : Nat} {X Y : Nat → Int} (hp : PV S n X Y) : PV T n X Y := by
  refine ⟨h.cap hp.1, h.cap hp.2.1, ?_, hp.2.2.2⟩
  rw [h.2.2.2 6 (by decide) (by decide) (by decide), h.2.2.2 7 (by decide) (by decide) (by decide)]
  exact hp.2.2.1
theorem frD.nv {S T : St} (h : frD S T) {m G : Nat} {s tw : Nat → Nat} (hn : NV S m G s tw) : NV T m G s tw := by
  obtain ⟨h1, h2, h3, h4, h5, h6, h7, h8⟩ := hn
  refine ⟨by rw [h.1 4 (by decide) (by decide) (by decide)]; exact h1, by rw [h.1 6 (by decide) (by decide) (by decide)]; exact h2, h3, h4, h.cap h5, h.cap h6, ?_, ?_⟩
  · rw [h.2.2.2 8 (by decide) (by decide) (by decide)]; exact h7
  · rw [h.2.2.2 9 (by decide) (by decide) (by decide)]; exact h8
theorem upd_same (f : Nat → Int32) (i : Nat) (v : Int32) : upd f i v i = v := by simp [upd]
theorem upd_ne (f : Nat → Int32) {i j : Nat} (v : Int32) (h : j ≠ i) : upd f i v j = f j := by simp [upd, h]
theorem ga_seta (S : St) (k : Nat) (f : Nat → Int32) : ga (seta S k f) k = f := up1_same _ _ _
theorem ga_seta_ne (S : St) {k j : Nat} (f : Nat → Int32) (h : j ≠ k) : ga (seta S k f) j = ga S j := up1_ne _ _ h
theorem gi_seti (S : St) (k : Nat) (v : Int32) : gi (seti S k v) k = v := up1_same _ _ _
theorem gi_seti_ne (S : St) {k j : Nat} (v : Int32) (h : j ≠ k) : gi (seti S k v) j = gi S j := up1_ne _ _ h
theorem gi_seta (S : St) (k j : Nat) (f : Nat → Int32) : gi (seta S k f) j = gi S j := rfl
theorem ga_seti (S : St) (k j : Nat) (v : Int32) : ga (seti S k v) j = ga S j := rfl
/-- the state of a search: S at its beginning, T now -/
def DI (S T : St) (TK : Nat → Bool) (G m mk out : Nat) (s : Nat → Nat) (pl rl : List Nat) : Prop :=
  frD S T ∧ gi T 8 = nI pl.length ∧ gi T 9 = nI rl.length ∧ (∀ (k : Nat) (h : k < pl.length), ga T 12 k = nI pl[k]) ∧ (∀ (k : Nat) (h : k < rl.length), ga T 13 k = nI rl[k]) ∧ pl.Nodup ∧ (∀ t ∈ pl, t < m ∧ TK t = true) ∧ (∀ t, t < m → (ga T 11 t = nI mk ↔ t ∈ pl)) ∧ gi T 7 = nI out - nI (pl.countP (fun t => !sol G s t)) ∧ ∀ t, ∃ v, v ≤ mk ∧ ga T 11 t = nI v
section
variable {S T : St} {m G n N M mk out : Nat} {s tw : Nat → Nat} {X Y : Nat → Int} {P : List Nat} {TK : Nat → Bool} {pl rl : List Nat}
theorem app_get {l : List Nat} {x k : Nat} (f : Nat → Int32) (h : ∀ (k : Nat) (h : k < l.length), f k = nI l[k]) (hx : f l.length = nI x) (hk : k < (l ++ [x]).length) : f k = nI (l ++ [x])[k] := by
  by_cases c : k < l.length
  · rw [List.getElem_append_left c]
    exact h k c
  · have : k = l.length := by simp at hk; omega
    subst this
    rw [hx]
    simp
theorem f_takeAway (hn : NV S m G s tw) (hm5 : gi S 5 = nI mk) (c11 : Cap S 11 M) (c12 : Cap S 12 M) (hM : m ≤ M) (h : DI S T TK G m mk out s pl rl) {t : Nat} (ht : t < m) (hT : TK t = true) (hnot : t ∉ pl) (hl : pl.length < M) : ∃ T', f_Nt_takeAway (nI t) T = some T' ∧ DI S T' TK G m mk out s (pl ++ [t]) rl := by
  obtain ⟨h0, h1, h2, h3, h4, h5, h6, h7, h8, h9⟩ := h
  have hmm := hn.2.2.2.1
  unfold f_Nt_takeAway f_Nt_takeAway_0
  have m5 : gi T 5 = nI mk := by rw [h0.1 5 (by decide) (by decide) (by decide)]; exact hm5
  rw [put_ok (h0.cap c11) (show t < M by omega), bd_s, m5]
  generalize hA : seta T 11 (upd (ga T 11) t (nI mk)) = A
  have fA : frD T A := hA ▸ ⟨fun _ _ _ _ => rfl, rfl, rfl, fun k a _ _ => up1_ne _ _ a⟩
  have A8 : gi A 8 = nI pl.length := by rw [← hA]; exact h1
  rw [A8, put_ok ((h0.trans fA).cap c12) hl, bd_s]
  generalize hB : seta A 12 (upd (ga A 12) pl.length (nI t)) = B
  have fB : frD A B := hB ▸ ⟨fun _ _ _ _ => rfl, rfl, rfl, fun k _ b _ => up1_ne _ _ b⟩
  have B8 : gi B 8 = nI pl.length := by rw [← hB]; exact A8
  rw [B8, bn_s, nI_1]
  generalize hC : seti B 8 (nI (pl.length + 1)) = C
  have fC : frD B C := hC ▸ ⟨fun k _ b _ => up1_ne _ _ b, rfl, rfl, fun _ _ _ _ => rfl⟩
  have f3 : frD S C := ((h0.trans fA).trans fB).trans fC
  have nC := f3.nv hn
  have e11 : ga C 11 = upd (ga T 11) t (nI mk) := by
    rw [← hC, ga_seti, ← hB, ga_seta_ne _ _ (by decide), ← hA, ga_seta]
  have e12 : ga C 12 = upd (ga T 12) pl.length (nI t) := by
    rw [← hC, ga_seti, ← hB, ga_seta, ← hA, ga_seta_ne _ _ (by decide)]
  have e13 : ga C 13 = ga T 13 := by
    rw [← hC, ga_seti, ← hB, ga_seta_ne _ _ (by decide), ← hA, ga_seta_ne _ _ (by decide)]
  have i9 : gi C 9 = nI rl.length := by
    rw [← hC, gi_seti_ne _ _ (by decide), ← hB, gi_seta, ← hA, gi_seta]; exact h2
  have i8 : gi C 8 = nI (pl ++ [t]).length := by
    rw [← hC, gi_seti]; simp
  have i7 : gi C 7 = nI out - nI (pl.countP (fun t => !sol G s t)) := by
    rw [← hC, gi_seti_ne _ _ (by decide), ← hB, gi_seta, ← hA, gi_seta]; exact h8
  rw [show (3 : Int32) = nI 3 from rfl, nI_mul, f_isOuter nC (by omega), bd_s]
  dsimp only
  have d3 : 3 * t / 3 = t := by omega
  rw [d3]
  have core : ∀ D : St, frD S D → gi D 8 = nI (pl ++ [t]).length → gi D 9 = nI rl.length → ga D 11 = ga C 11 → ga D 12 = ga C 12 → ga D 13 = ga C 13 → gi D 7 = nI out - nI ((pl ++ [t]).countP (fun t => !sol G s t)) → DI S D TK G m mk out s (pl ++ [t]) rl := by
    intro D fD a b c d e f
    refine ⟨fD, a, b, fun k hk => ?_, fun k hk => ?_, ?_, fun x hx => ?_, fun x hx => ?_, f, fun x => ?_⟩
    · refine app_get (ga D 12) (fun k hk => ?_) ?_ hk
      · rw [d, e12, upd_ne _ _ (by omega)]; exact h3 k hk
      · rw [d, e12, upd_same]
    · rw [e, e13]; exact h4 k hk
    · refine List.nodup_append.mpr ⟨h5, by simp, fun x hx y hy => ?_⟩
      simp only [List.mem_cons, List.not_mem_nil, or_false] at hy
      rw [hy]
      exact fun q => hnot (q ▸ hx)
    · rcases List.mem_append.mp hx with q | q
      · exact h6 x q
      · simp only [List.mem_cons, List.not_mem_nil, or_false] at q
        rw [q]; exact ⟨ht, hT⟩
    · rw [c, e11]
      by_cases q : x = t
      · rw [q, upd_same]; simp
      · rw [upd_ne _ _ q, h7 x hx]; simp [q]
    · rw [c, e11]
      by_cases q : x = t
      · rw [q, upd_same]; exact ⟨mk, Nat.le_refl _, rfl⟩
      · rw [upd_ne _ _ q]; exact h9 x
  cases hs : sol G s t with
  | true =>
    rw [b32_f (by decide), if_pos rfl]
    refine ⟨C, rfl, core C f3 i8 i9 rfl rfl rfl ?_⟩
    rw [i7, List.countP_append]
    simp [hs]
  | false =>
    rw [b32_t rfl, if_neg (by decide), bn_s]
    refine ⟨_, rfl, core _ (f3.trans ⟨fun k a _ _ => up1_ne _ _ a, rfl, rfl, fun _ _ _ _ => rfl⟩) ?_ ?_ rfl rfl rfl ?_⟩
    · rw [gi_seti_ne _ _ (by decide)]; exact i8
    · rw [gi_seti_ne _ _ (by decide)]; exact i9
    · rw [gi_seti, i7, List.countP_append]
      have : (List.countP (fun t => !sol G s t) [t]) = 1 := by simp [hs]
      rw [this, ← nI_1, Int32.sub_sub]
end
