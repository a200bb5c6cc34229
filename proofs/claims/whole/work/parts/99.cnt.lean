/-! SORTING BY COUNTING -/
section
theorem cp_lt_succ (l : List Nat) (x : Nat) : l.countP (fun a => decide (a < x + 1)) = l.countP (fun a => decide (a < x)) + l.countP (fun a => decide (a = x)) := by
  induction l with
  | nil => rfl
  | cons a t ih =>
    rw [List.countP_cons, List.countP_cons, List.countP_cons, ih]
    rcases Nat.lt_trichotomy a x with q | q | q
    · simp [q, show a < x + 1 by omega, show a ≠ x by omega]; omega
    · simp [q]; omega
    · simp [show ¬ a < x + 1 by omega, show ¬ a < x by omega, show a ≠ x by omega]
theorem cp_mono (l : List Nat) {x y : Nat} (h : x ≤ y) : l.countP (fun a => decide (a < x)) ≤ l.countP (fun a => decide (a < y)) := List.countP_mono_left (fun a _ ha => by
  have := of_decide_eq_true ha
  exact decide_eq_true (by omega))
theorem cp_take (l : List Nat) {i : Nat} (hi : i < l.length) (p : Nat → Bool) : (l.take (i + 1)).countP p = (l.take i).countP p + (if p l[i] then 1 else 0) := by
  rw [List.take_succ_eq_append_getElem hi, List.countP_append]
  simp [List.countP_cons]
theorem cp_take_mono (l : List Nat) {i j : Nat} (h : i ≤ j) (p : Nat → Bool) : (l.take i).countP p ≤ (l.take j).countP p := by
  have : l.take i = (l.take j).take i := by rw [List.take_take, Nat.min_eq_left h]
  rw [this]
  exact List.Sublist.countP_le (List.take_sublist _ _)
/-- where the i-th comes -/
def pl (l : List Nat) (i : Nat) : Nat := l.countP (fun a => decide (a < l.getD i 0)) + (l.take i).countP (fun a => decide (a = l.getD i 0))
theorem pl_up {l : List Nat} {i : Nat} (hi : i < l.length) : pl l i + 1 ≤ l.countP (fun a => decide (a < l.getD i 0 + 1)) := by
  unfold pl
  rw [cp_lt_succ]
  have h1 := cp_take l hi (fun a => decide (a = l.getD i 0))
  have h2 := cp_take_mono l (i := i + 1) (j := l.length) (by omega) (fun a => decide (a = l.getD i 0))
  rw [List.take_length] at h2
  rw [getD_get hi] at *
  simp at h1
  omega
theorem pl_lt {l : List Nat} {i : Nat} (hi : i < l.length) : pl l i < l.length := by
  have h1 := pl_up hi
  have h2 := List.countP_le_length (p := fun a => decide (a < l.getD i 0 + 1)) (l := l)
  omega
theorem pl_key {l : List Nat} {i j : Nat} (hi : i < l.length) (hj : j < l.length) (h : l.getD i 0 < l.getD j 0) : pl l i < pl l j := by
  have h1 := pl_up hi
  have h2 := cp_mono l (x := l.getD i 0 + 1) (y := l.getD j 0) h
  have h3 : l.countP (fun a => decide (a < l.getD j 0)) ≤ pl l j := Nat.le_add_right _ _
  omega
theorem pl_idx {l : List Nat} {i j : Nat} (hj : j < l.length) (hij : i < j) (h : l.getD i 0 = l.getD j 0) : pl l i < pl l j := by
  have hi : i < l.length := by omega
  have h1 := cp_take l hi (fun a => decide (a = l.getD i 0))
  have h2 := cp_take_mono l (i := i + 1) (j := j) (by omega) (fun a => decide (a = l.getD i 0))
  unfold pl
  rw [← h]
  rw [getD_get hi] at *
  simp at h1
  omega
theorem pl_inj {l : List Nat} {i j : Nat} (hi : i < l.length) (hj : j < l.length) (h : pl l i = pl l j) : i = j := by
  rcases Nat.lt_trichotomy (l.getD i 0) (l.getD j 0) with q | q | q
  · have := pl_key hi hj q; omega
  · rcases Nat.lt_trichotomy i j with r | r | r
    · have := pl_idx hj r q; omega
    · exact r
    · have := pl_idx hi r q.symm; omega
  · have := pl_key hj hi q; omega
theorem pl_ex {l : List Nat} {p : Nat} (hp : p < l.length) : ∃ i, i < l.length ∧ pl l i = p := by
  have pm := range_perm (n := l.length) (g := pl l) (fun e he => pl_lt he) (fun e he e' he' h => pl_inj he he' h)
  have : p ∈ (List.range l.length).map (pl l) := pm.mem_iff.mpr (List.mem_range.mpr hp)
  obtain ⟨i, hi, e⟩ := List.mem_map.mp this
  exact ⟨i, List.mem_range.mp hi, e⟩
/-- R is F in the order of a key, alike ones in their order -/
def SRT (F R : List Nat) (key : Nat → Nat) : Prop := R.length = F.length ∧ ∃ inv : Nat → Nat, (∀ p, p < F.length → inv p < F.length ∧ R.getD p 0 = F.getD (inv p) 0) ∧ (∀ p, p < F.length → ∀ q, q < F.length → inv p = inv q → p = q) ∧ ∀ p q, p < q → q < F.length → key (R.getD p 0) < key (R.getD q 0) ∨ (key (R.getD p 0) = key (R.getD q 0) ∧ inv p < inv q)
theorem SRT.ex (F : List Nat) (key : Nat → Nat) : ∃ R, SRT F R key ∧ ∀ i, i < F.length → R.getD (pl (F.map key) i) 0 = F.getD i 0 := by
  have ll : (F.map key).length = F.length := by simp
  have kg : ∀ i, i < F.length → (F.map key).getD i 0 = key (F.getD i 0) := fun i hi => by rw [map_getD F key hi, getD_get hi]
  have ex : ∀ p, ∃ i, p < F.length → i < F.length ∧ pl (F.map key) i = p := fun p => by
    by_cases c : p < F.length
    · obtain ⟨i, a, b⟩ := pl_ex (l := F.map key) (p := p) (by omega)
      exact ⟨i, fun _ => ⟨by omega, b⟩⟩
    · exact ⟨0, fun q => absurd q c⟩
  let inv : Nat → Nat := fun p => Classical.choose (ex p)
  have hinv : ∀ p, p < F.length → inv p < F.length ∧ pl (F.map key) (inv p) = p := fun p hp => Classical.choose_spec (ex p) hp
  have rg : ∀ p, p < F.length → ((List.range F.length).map fun p => F.getD (inv p) 0).getD p 0 = F.getD (inv p) 0 := fun p hp => by
    rw [map_getD _ _ (by simpa using hp), List.getElem_range]
  refine ⟨(List.range F.length).map fun p => F.getD (inv p) 0, ⟨by simp, inv, fun p hp => ⟨(hinv p hp).1, rg p hp⟩, fun p hp q hq e => ?_, fun p q hpq hq => ?_⟩, fun i hi => ?_⟩
  · rw [← (hinv p hp).2, ← (hinv q hq).2, e]
  · have hp : p < F.length := by omega
    rw [rg p hp, rg q hq]
    have ip := hinv p hp
    have iq := hinv q hq
    rcases Nat.lt_trichotomy (key (F.getD (inv p) 0)) (key (F.getD (inv q) 0)) with r | r | r
    · exact Or.inl r
    · right
      refine ⟨r, ?_⟩
      rcases Nat.lt_trichotomy (inv p) (inv q) with t | t | t
      · exact t
      · exfalso
        have : p = q := by rw [← ip.2, ← iq.2, t]
        omega
      · exfalso
        have := pl_idx (l := F.map key) (i := inv q) (j := inv p) (by omega) t (by rw [kg _ ip.1, kg _ iq.1]; exact r.symm)
        omega
    · exfalso
      have := pl_key (l := F.map key) (i := inv q) (j := inv p) (by omega) (by omega) (by rw [kg _ ip.1, kg _ iq.1]; exact r)
      omega
  · have hp := pl_lt (l := F.map key) (i := i) (by omega)
    rw [ll] at hp
    have q := hinv _ hp
    rw [rg _ hp, pl_inj (l := F.map key) (by omega) (by omega) q.2]
end
/-- what the roll leaves alone -/
def frE (S T : St) : Prop := T.1 = S.1 ∧ T.2.1 = S.2.1 ∧ T.2.2.1 = S.2.2.1 ∧ ∀ k, k ≠ 14 → k ≠ 15 → k ≠ 16 → ga T k = ga S k
theorem frE.rfl' (S : St) : frE S S := ⟨rfl, rfl, rfl, fun _ _ _ _ => rfl⟩
theorem frE.trans {S T R : St} (h : frE S T) (g : frE T R) : frE S R := ⟨g.1.trans h.1, g.2.1.trans h.2.1, g.2.2.1.trans h.2.2.1, fun k a b c => (g.2.2.2 k a b c).trans (h.2.2.2 k a b c)⟩
theorem frE.nv {S T : St} {m G : Nat} {s tw : Nat → Nat} (f : frE S T) (h : NV S m G s tw) : NV T m G s tw := by
  obtain ⟨h1, h2, h3, h4, h5, h6, h7, h8⟩ := h
  have hi : ∀ k, gi T k = gi S k := fun k => by show T.1 k = S.1 k; rw [f.1]
  exact ⟨by rw [hi]; exact h1, by rw [hi]; exact h2, h3, h4, h5.of f.2.2.1, h6.of f.2.2.1, by rw [f.2.2.2 8 (by decide) (by decide) (by decide)]; exact h7, by rw [f.2.2.2 9 (by decide) (by decide) (by decide)]; exact h8⟩
section
variable {S : St} {m G n w k1 k2 : Nat} {s tw : Nat → Nat} {F R : List Nat}
/-- what stands while one sorts -/
def SO (S : St) (m G n w k1 k2 : Nat) (s tw : Nat → Nat) (F : List Nat) : Prop := NV S m G s tw ∧ HL S k1 F ∧ F.length ≤ 2 * n ∧ n ≤ 1024 ∧ Cap S k1 (2 * n) ∧ Cap S k2 (2 * n) ∧ Cap S 16 (n + 1) ∧ gi S 3 = nI n ∧ (∀ e ∈ F, e < 3 * m ∧ s (ah e w) < n) ∧ k1 ≠ k2 ∧ (k1 = 14 ∨ k1 = 15) ∧ (k2 = 14 ∨ k2 = 15) ∧ w < 3
/-- T: S with other ends -/
def fr16 (S T : St) : Prop := T.1 = S.1 ∧ T.2.1 = S.2.1 ∧ T.2.2.1 = S.2.2.1 ∧ ∀ k, k ≠ 16 → ga T k = ga S k
theorem fr16.e {S T : St} (f : fr16 S T) : frE S T := ⟨f.1, f.2.1, f.2.2.1, fun k _ _ c => f.2.2.2 k c⟩
theorem fr16.put {S T : St} (f : fr16 S T) (g : Nat → Int32) : fr16 S (seta T 16 g) := ⟨f.1, f.2.1, f.2.2.1, fun k h => by rw [ga_seta_ne _ _ h]; exact f.2.2.2 k h⟩
def EN (T : St) (n : Nat) (E : Nat → Nat) : Prop := ∀ j, j ≤ n → ga T 16 j = nI (E j)
theorem EN.put {T : St} {E : Nat → Nat} (h : EN T n E) (j v : Nat) : EN (seta T 16 (upd (ga T 16) j (nI v))) n (fun x => if x = j then v else E x) := by
  intro x hx
  rw [ga_seta]
  by_cases c : x = j
  · rw [c, upd_same]; simp
  · rw [upd_ne _ _ c]; simp only [if_neg c]; exact h x hx
theorem EN.cong {T : St} {E E' : Nat → Nat} (h : EN T n E) (e : ∀ j, j ≤ n → E j = E' j) : EN T n E' := fun j hj => by rw [h j hj, e j hj]
def keyL (s : Nat → Nat) (w : Nat) (F : List Nat) : List Nat := F.map fun e => s (ah e w)
theorem keyL_at {i : Nat} (hi : i < F.length) : (keyL s w F).getD i 0 = s (ah (F.getD i 0) w) := by
  unfold keyL
  rw [map_getD F _ hi, getD_get hi]
/-- the fourth round: all to their places -/
theorem f_sort4 (h : SO S m G n w k1 k2 s tw F) (hR : ∀ i, i < F.length → R.getD (pl (keyL s w F) i) 0 = F.getD i 0) : ∀ (d fuel i : Nat) (T : St), i + d = F.length → d < fuel → frE S T → ga T k1 = ga S k1 → EN T n (fun j => if j < n then (keyL s w F).countP (fun a => decide (a < j)) + ((keyL s w F).take i).countP (fun a => decide (a = j)) else (ga T 16 n).toInt.toNat) → (∀ j, j < i → ga T k2 (pl (keyL s w F) j) = nI (F.getD j 0)) → ∃ T', f_Rl_sortInto_144 k1 k2 fuel (nI F.length) (nI w) (nI i) T = some T' ∧ frE S T' ∧ ga T' k1 = ga S k1 ∧ ∀ j, j < F.length → ga T' k2 (pl (keyL s w F) j) = nI (F.getD j 0) := by
  obtain ⟨hN, hF, hl, hn, q1, q2, q16, h3, hE, k12, kk1, kk2, hw⟩ := h
  have lk : (keyL s w F).length = F.length := by unfold keyL; simp
  intro d
  induction d with
  | zero =>
    intro fuel i T hi hf fr e1 hEN hP
    obtain ⟨fuel, rfl⟩ : ∃ j, fuel = j + 1 := ⟨fuel - 1, by omega⟩
    rw [f_Rl_sortInto_144]
    dsimp only
    rw [if_pos (nI_le (by omega) (by omega))]
    exact ⟨T, rfl, fr, e1, fun j hj => hP j (by omega)⟩
  | succ d ih =>
    intro fuel i T hi hf fr e1 hEN hP
    obtain ⟨fuel, rfl⟩ : ∃ j, fuel = j + 1 := ⟨fuel - 1, by omega⟩
    have hiF : i < F.length := by omega
    have NT := fr.nv hN
    have fm := hE _ (getD_mem' hiF)
    have sm := hN.small fm.1
    have kat := keyL_at (s := s) (w := w) hiF
    have pll := pl_lt (l := keyL s w F) (i := i) (by omega)
    rw [f_Rl_sortInto_144]
    dsimp only
    rw [if_neg (nI_ge hiF (by omega)), get_ok (q1.of fr.2.2.1) (show i < 2 * n by omega), bd_s]
    dsimp only
    rw [e1, hF i hiF, f_ahead sm (by omega), bd_s]
    dsimp only
    rw [f_startOf NT (ah_lt fm.1), bd_s]
    dsimp only
    rw [get_ok (q16.of fr.2.2.1) (show s (ah (F.getD i 0) w) < n + 1 by omega), bd_s]
    dsimp only
    have ev := hEN (s (ah (F.getD i 0) w)) (by omega)
    dsimp only at ev
    rw [if_pos fm.2] at ev
    have epl : (keyL s w F).countP (fun a => decide (a < s (ah (F.getD i 0) w))) + ((keyL s w F).take i).countP (fun a => decide (a = s (ah (F.getD i 0) w))) = pl (keyL s w F) i := by
      unfold pl; rw [kat]
    rw [epl] at ev
    rw [ev, put_ok (q2.of fr.2.2.1) (show pl (keyL s w F) i < 2 * n by omega), bd_s]
    generalize hU : seta T k2 (upd (ga T k2) (pl (keyL s w F) i) (nI (F.getD i 0))) = U
    have frU : frE T U := by
      rw [← hU]
      exact ⟨rfl, rfl, rfl, fun k a b c => ga_seta_ne _ _ (by omega)⟩
    have u16 : ga U 16 = ga T 16 := by rw [← hU]; exact ga_seta_ne _ _ (by omega)
    have uk2 : ga U k2 = upd (ga T k2) (pl (keyL s w F) i) (nI (F.getD i 0)) := by rw [← hU]; exact ga_seta _ _ _
    have uk1 : ga U k1 = ga T k1 := by rw [← hU]; exact ga_seta_ne _ _ k12
    rw [put_ok ((q16.of fr.2.2.1).of frU.2.2.1) (show s (ah (F.getD i 0) w) < n + 1 by omega), bd_s, bn_s, nI_1, nI_1]
    generalize hV : seta U 16 (upd (ga U 16) (s (ah (F.getD i 0) w)) (nI (pl (keyL s w F) i + 1))) = V
    have v16 : ga V 16 = upd (ga T 16) (s (ah (F.getD i 0) w)) (nI (pl (keyL s w F) i + 1)) := by rw [← hV, ga_seta, u16]
    have frV : frE U V := by
      rw [← hV]
      exact ⟨rfl, rfl, rfl, fun k a b c => ga_seta_ne _ _ c⟩
    have vk1 : ga V k1 = ga U k1 := by rw [← hV]; exact ga_seta_ne _ _ (by omega)
    have vk2 : ga V k2 = ga U k2 := by rw [← hV]; exact ga_seta_ne _ _ (by omega)
    refine ih fuel (i + 1) V (by omega) (by omega) (fr.trans (frU.trans frV)) (by rw [vk1, uk1, e1]) ?_ ?_
    · intro j hj
      dsimp only
      rw [v16]
      by_cases c : j = s (ah (F.getD i 0) w)
      · rw [c, upd_same, if_pos fm.2, cp_take _ (by omega), ← getD_get (by omega), kat]
        simp only [decide_true, if_true]
        rw [← epl]
        rfl
      · rw [upd_ne _ _ c]
        have old := hEN j hj
        dsimp only at old
        by_cases cn : j < n
        · rw [if_pos cn] at old ⊢
          rw [old, cp_take _ (by omega), ← getD_get (by omega), kat, if_neg (by simpa using fun z => c z.symm)]
          rfl
        · rw [if_neg cn] at old ⊢
          have : j = n := by omega
          subst this
          rw [upd_ne _ _ c]
          exact old
    · intro j hj
      rw [vk2, uk2]
      by_cases c : j = i
      · rw [c, upd_same]
      · rw [upd_ne _ _ (fun z => c (pl_inj (l := keyL s w F) (by omega) (by omega) z))]
        exact hP j (by omega)
end
