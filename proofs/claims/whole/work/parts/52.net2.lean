/-! THE NET: what holds of it, and that a point more keeps it -/
def PtsL (X Y : Nat → Int) (N G : Nat) (P : List Nat) : Prop := (∀ i ∈ P, inR X Y i ∧ i < N ∧ i ≠ G) ∧ (∀ i ∈ P, ∀ j ∈ P, i ≠ j → dif X Y i j) ∧ P.Nodup ∧ ∃ a ∈ P, ∃ b ∈ P, ∃ c ∈ P, gO X Y a b c ≠ 0
theorem Pts.old {X Y : Nat → Int} {N G : Nat} {P : List Nat} {p : Nat} (h : Pts X Y N G P p) : PtsL X Y N G P := ⟨fun i hi => h.1 i (List.mem_cons_of_mem _ hi), fun i hi j hj => h.2.1 i (List.mem_cons_of_mem _ hi) j (List.mem_cons_of_mem _ hj), h.2.2.1, h.2.2.2.2⟩
theorem Pts.new {X Y : Nat → Int} {N G : Nat} {P : List Nat} {p : Nat} (h : Pts X Y N G P p) : PtsL X Y N G (p :: P) := by
  refine ⟨h.1, h.2.1, List.nodup_cons.mpr ⟨h.2.2.2.1, h.2.2.1⟩, ?_⟩
  obtain ⟨a, ha, b, hb, c, hc, hne⟩ := h.2.2.2.2
  exact ⟨a, List.mem_cons_of_mem _ ha, b, List.mem_cons_of_mem _ hb, c, List.mem_cons_of_mem _ hc, hne⟩
def NetD (X Y : Nat → Int) (G : Nat) (P : List Nat) (m : Nat) (s tw : Nat → Nat) : Prop :=
  (∀ e, e < 3 * m → tw e < 3 * m ∧ tw (tw e) = e ∧ s (tw e) = s (nx e) ∧ s (nx (tw e)) = s e) ∧
  (∀ e, e < 3 * m → DF X Y G P (s e) (s (nx e)) (s (nx (nx e)))) ∧
  (∀ e, e < 3 * m → ∀ e', e' < 3 * m → s e = s e' → s (nx e) = s (nx e') → e = e')
theorem four {X Y : Nat → Int} {N G : Nat} {P : List Nat} (h : PtsL X Y N G P) (a b c : Nat) : ∃ x ∈ G :: P, x ≠ a ∧ x ≠ b ∧ x ≠ c := by
  obtain ⟨x, hx, y, hy, z, hz, hne⟩ := h.2.2.2
  have gx := (h.1 x hx).2.2
  have gy := (h.1 y hy).2.2
  have gz := (h.1 z hz).2.2
  have xy : x ≠ y := fun e => hne (by rw [e]; unfold gO; simp)
  have yz : y ≠ z := fun e => hne (by rw [e]; unfold gO; rw [Int.mul_comm]; omega)
  have zx : z ≠ x := fun e => hne (by rw [e]; unfold gO; simp)
  by_cases q1 : G ≠ a ∧ G ≠ b ∧ G ≠ c
  · exact ⟨G, List.mem_cons_self, q1⟩
  by_cases q2 : x ≠ a ∧ x ≠ b ∧ x ≠ c
  · exact ⟨x, List.mem_cons_of_mem _ hx, q2⟩
  by_cases q3 : y ≠ a ∧ y ≠ b ∧ y ≠ c
  · exact ⟨y, List.mem_cons_of_mem _ hy, q3⟩
  refine ⟨z, List.mem_cons_of_mem _ hz, ?_⟩
  omega
theorem FC_mem {u : Nat → V4} {P Q : List Nat} (h : ∀ i, i ∈ P ↔ i ∈ Q) {a b c : Nat} (f : FC u P a b c) : FC u Q a b c := by
  obtain ⟨h1, h2, h3, h4, h5, h6, h7⟩ := f
  exact ⟨(h a).mp h1, (h b).mp h2, (h c).mp h3, h4, h5, h6, fun d hd => h7 d ((h d).mpr hd)⟩
section
variable {X Y : Nat → Int} {N G : Nat} {P : List Nat} {p m : Nat} {s tw : Nat → Nat} {g : V4}
theorem NetD.ok (hPts : Pts X Y N G P p) (hg : GhostOK X Y N G P p g) (h : NetD X Y G P m s tw) : NetOK (gu X Y (gZ X Y N) G g) (G :: P) m s tw :=
  ⟨h.1, fun e he => DF_FC hPts hg ⟨fun i hi => List.mem_cons_of_mem _ hi, fun i hi => hi⟩ (h.2.1 e he), h.2.2, four hPts.old, List.nodup_cons.mpr ⟨fun q => (hPts.old.1 G q).2.2 rfl, hPts.2.2.1⟩⟩
theorem tk_iff (hPts : Pts X Y N G P p) (hg : GhostOK X Y N G P p g) (h : NetD X Y G P m s tw) {t : Nat} (ht : t < m) : (takenD X Y G p (s (3 * t)) (s (3 * t + 1)) (s (3 * t + 2)) ↔ 0 < tv (gu X Y (gZ X Y N) G g) s t (gu X Y (gZ X Y N) G g p)) ∧ tv (gu X Y (gZ X Y N) G g) s t (gu X Y (gZ X Y N) G g p) ≠ 0 := by
  have d := h.2.1 (3 * t) (by omega)
  rw [nx_0, nx_1] at d
  have q := taken_iff hPts hg d
  unfold tv val
  rw [nx_0, nx_1]
  exact q
theorem mem_GL (i : Nat) : i ∈ p :: G :: P ↔ i ∈ G :: p :: P := by
  simp only [List.mem_cons]
  constructor <;> (intro h; rcases h with h | h | h <;> simp [h])
/-- a point more -/
theorem insert_ok {m' k : Nat} {s' tw' E F : Nat → Nat} {T : Nat → Bool} (hPts : Pts X Y N G P p) (h : NetD X Y G P m s tw) (hT : ∀ t, t < m → (T t = true ↔ takenD X Y G p (s (3 * t)) (s (3 * t + 1)) (s (3 * t + 2))))
    (hE : ∀ i, i < k → E i < 3 * m ∧ T (E i / 3) = true ∧ T (tw (E i) / 3) = false) (hEi : ∀ i, i < k → ∀ j, j < k → E i = E j → i = j) (hEs : ∀ e, e < 3 * m → T (e / 3) = true → T (tw e / 3) = false → ∃ i, i < k ∧ E i = e)
    (hmm : m ≤ m') (hf : ∀ i, i < k → F i < m' ∧ (F i < m → T (F i) = true)) (hfs : ∀ t, t < m' → (t < m → T t = true) → ∃ i, i < k ∧ F i = t)
    (hs1 : ∀ i, i < k → s' (3 * F i) = s (E i) ∧ s' (3 * F i + 1) = s (nx (E i)) ∧ s' (3 * F i + 2) = p) (hs2 : ∀ e, e < 3 * m → T (e / 3) = false → s' e = s e)
    (ht1 : ∀ i, i < k → tw' (3 * F i) = tw (E i) ∧ tw' (tw (E i)) = 3 * F i) (ht2 : ∀ i, i < k → ∀ j, j < k → s (E j) = s (nx (E i)) → tw' (3 * F i + 1) = 3 * F j + 2 ∧ tw' (3 * F j + 2) = 3 * F i + 1) (ht3 : ∀ e, e < 3 * m → T (e / 3) = false → T (tw e / 3) = false → tw' e = tw e) :
    NetD X Y G (p :: P) m' s' tw' := by
  obtain ⟨g, hg⟩ := ghost_ex hPts
  have hN := h.ok hPts hg
  have hpG : p ∉ G :: P := fun q => by
    rcases List.mem_cons.mp q with q | q
    · exact (hPts.1 p List.mem_cons_self).2.2 q
    · exact hPts.2.2.2.1 q
  have hN' := fill_ok (T := T) (m' := m') (k := k) (s' := s') (tw' := tw') (E := E) (F := F) hN hpG (fun t ht q => ((tk_iff hPts hg h ht).1.mp ((hT t ht).mp q))) (fun t ht q => by
    have a := tk_iff hPts hg h ht
    have : ¬ 0 < tv (gu X Y (gZ X Y N) G g) s t (gu X Y (gZ X Y N) G g p) := fun z => by
      have := (hT t ht).mpr (a.1.mpr z)
      rw [q] at this
      cases this
    have := a.2
    omega) hE hEi hEs hmm hf hfs hs1 hs2 ht1 ht2 ht3
  refine ⟨hN'.1, fun e he => ?_, hN'.2.2.1⟩
  exact FC_DF hPts hg ⟨fun i hi => hi, fun i hi => List.mem_cons_of_mem _ hi⟩ (FC_mem (mem_GL (G := G) (P := P) (p := p)) (hN'.2.1 e he))
theorem inner_D (hPts : Pts X Y N G P p) (hg : GhostOK X Y N G P p g) : ∃ o, Inner (gu X Y (gZ X Y N) G g) (G :: P) p o := inner_ex (List.nodup_cons.mpr ⟨fun q => (hPts.old.1 G q).2.2 rfl, hPts.2.2.1⟩) (four hPts.old) hg.2.2.2
theorem tk_bool (hPts : Pts X Y N G P p) (hg : GhostOK X Y N G P p g) (h : NetD X Y G P m s tw) {T : Nat → Bool} (hT : ∀ t, t < m → (T t = true ↔ takenD X Y G p (s (3 * t)) (s (3 * t + 1)) (s (3 * t + 2)))) {t : Nat} (ht : t < m) : tk (gu X Y (gZ X Y N) G g) s p t = T t := by
  unfold tk
  have a := (tk_iff hPts hg h ht).1
  cases hb : T t with
  | true => exact decide_eq_true (a.mp ((hT t ht).mp hb))
  | false => exact decide_eq_false (fun z => by have := (hT t ht).mpr (a.mpr z); rw [hb] at this; cases this)
/-- what a search through taken neighbours finds is all -/
theorem marked_all (hPts : Pts X Y N G P p) (h : NetD X Y G P m s tw) {T : Nat → Bool} (hT : ∀ t, t < m → (T t = true ↔ takenD X Y G p (s (3 * t)) (s (3 * t + 1)) (s (3 * t + 2)))) {M : Nat → Prop} (hcl : ∀ e, e < 3 * m → M (e / 3) → T (e / 3) = true → T (tw e / 3) = true → M (tw e / 3)) {r : Nat} (hr : r < m) (htr : T r = true) (hM : M r) : ∀ t, t < m → T t = true → M t := by
  obtain ⟨g, hg⟩ := ghost_ex hPts
  obtain ⟨o, ho⟩ := inner_D hPts hg
  have hN := h.ok hPts hg
  intro t ht htk
  refine all_marked hN ho (M := M) (fun e he a b c => ?_) hr (by rw [tk_bool hPts hg h hT hr]; exact htr) hM t ht (by rw [tk_bool hPts hg h hT ht]; exact htk)
  have w := (hN.twin he).1
  rw [tk_bool hPts hg h hT (by omega)] at b
  rw [tk_bool hPts hg h hT (by omega)] at c
  exact hcl e he a b c
theorem rim_many (hPts : Pts X Y N G P p) (h : NetD X Y G P m s tw) {T : Nat → Bool} (hT : ∀ t, t < m → (T t = true ↔ takenD X Y G p (s (3 * t)) (s (3 * t + 1)) (s (3 * t + 2)))) {r : Nat} (hr : r < m) (htr : T r = true) : (List.range (3 * m)).countP (fun e => T (e / 3) && !T (tw e / 3)) = (List.range m).countP T + 2 := by
  obtain ⟨g, hg⟩ := ghost_ex hPts
  obtain ⟨o, ho⟩ := inner_D hPts hg
  have hN := h.ok hPts hg
  have hpG : p ∉ G :: P := fun q => by
    rcases List.mem_cons.mp q with q | q
    · exact (hPts.1 p List.mem_cons_self).2.2 q
    · exact hPts.2.2.2.1 q
  have c := rim_count hN hpG hg.2.2.1 ho hr (by rw [tk_bool hPts hg h hT hr]; exact htr)
  rw [cnt_congr (f := T) (g := tk (gu X Y (gZ X Y N) G g) s p) (fun t ht => (tk_bool hPts hg h hT ht).symm), ← c]
  refine cnt_congr (fun e he => ?_)
  have w := (hN.twin he).1
  rw [tk_bool hPts hg h hT (show e / 3 < m by omega), tk_bool hPts hg h hT (show tw e / 3 < m by omega)]
end
/-! in a triangle: taken -/
theorem in_taken {X Y : Nat → Int} {N a b c p : Nat} (hN : a < N ∧ b < N ∧ c < N ∧ p < N) (ha : inR X Y a) (hb : inR X Y b) (hc : inR X Y c) (hp : inR X Y p) (da : dif X Y p a) (db : dif X Y p b) (dc : dif X Y p c) (hO : 0 < gO X Y a b c) (h1 : 0 ≤ gO X Y a b p) (h2 : 0 ≤ gO X Y b c p) (h3 : 0 ≤ gO X Y c a p) : takes X Y p a b c := by
  refine (takes_iff hN ha hb hc hp hO da db dc).1.mpr ?_
  have e := cram (tan X Y N p) (rvz X Y (gZ X Y N) a) (rvz X Y (gZ X Y N) b) (rvz X Y (gZ X Y N) c) (rvz X Y (gZ X Y N) p) (0, 0, 1, 0)
  have up : ∀ i j k : Nat, vV (rvz X Y (gZ X Y N) i) (rvz X Y (gZ X Y N) j) (rvz X Y (gZ X Y N) k) (0, 0, 1, 0) = - gO X Y i j k := fun i j k => by rw [vV_34, up_gO]
  have f1 : ap (tan X Y N p) (0, 0, 1, 0) = 1 := by
    unfold ap tan vx vy vz vw
    dsimp only
    omega
  rw [up, up, up, up, rv_gV, tan_self, f1] at e
  have pa := tan_pos (N := N) (dif.symm da)
  have pb := tan_pos (N := N) (dif.symm db)
  have pc := tan_pos (N := N) (dif.symm dc)
  have s := gO_sum X Y a b c p
  have sw : gO X Y a c p = - gO X Y c a p := gO_swap X Y c a p
  rw [sw] at e
  have m1 := Int.mul_nonneg h2 (Int.le_of_lt pa)
  have m2 := Int.mul_nonneg h3 (Int.le_of_lt pb)
  have m3 := Int.mul_nonneg h1 (Int.le_of_lt pc)
  have some : 0 < gO X Y b c p ∨ 0 < gO X Y c a p ∨ 0 < gO X Y a b p := by omega
  have tot : 0 < gO X Y b c p * ap (tan X Y N p) (rvz X Y (gZ X Y N) a) + gO X Y c a p * ap (tan X Y N p) (rvz X Y (gZ X Y N) b) + gO X Y a b p * ap (tan X Y N p) (rvz X Y (gZ X Y N) c) := by
    rcases some with q | q | q
    · have := Int.mul_pos q pa; omega
    · have := Int.mul_pos q pb; omega
    · have := Int.mul_pos q pc; omega
  have e2 : gV X Y (gZ X Y N) a b c p = gO X Y b c p * ap (tan X Y N p) (rvz X Y (gZ X Y N) a) + gO X Y c a p * ap (tan X Y N p) (rvz X Y (gZ X Y N) b) + gO X Y a b p * ap (tan X Y N p) (rvz X Y (gZ X Y N) c) := by
    have e3 : - gO X Y b c p * ap (tan X Y N p) (rvz X Y (gZ X Y N) a) - - - gO X Y c a p * ap (tan X Y N p) (rvz X Y (gZ X Y N) b) + - gO X Y a b p * ap (tan X Y N p) (rvz X Y (gZ X Y N) c) - - gO X Y a b c * 0 + gV X Y (gZ X Y N) a b c p * 1 = 0 := e
    rw [Int.neg_mul, Int.neg_neg, Int.neg_mul, Int.mul_zero, Int.mul_one] at e3
    omega
  rw [e2]
  exact tot
