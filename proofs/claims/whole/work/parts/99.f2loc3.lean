/-! LOCATE: the reference's search -/
section
variable {T : St} {n p : Nat} {X Y : Nat → Int} {L : List (Nat × Nat × Nat)} {x y : Int32}
def frFd (S T : St) : Prop := T.1 = S.1 ∧ T.2.2.1 = S.2.2.1 ∧ ∀ k, k ≠ 11 → ga T k = ga S k
theorem m_found (h : gn T 11 = 3) (w a b c : Int32) : ∃ T', f_Md_found w a b c T = some (w, T') ∧ frFd T T' ∧ ga T' 11 0 = a ∧ ga T' 11 1 = b ∧ ga T' 11 2 = c := by
  have g : ∀ (R : St) f, gn (seta R 11 f) 11 = gn R 11 := fun _ _ => rfl
  unfold f_Md_found f_Md_found_0
  simp only [g, h, show inb 0 3 = true from rfl, show inb 1 3 = true from rfl, show inb 2 3 = true from rfl, as_s, bn_s, show Int32.toNatClampNeg 0 = 0 from rfl, show Int32.toNatClampNeg 1 = 1 from rfl, show Int32.toNatClampNeg 2 = 2 from rfl]
  refine ⟨_, rfl, ⟨rfl, rfl, fun k hk => ?_⟩, ?_, ?_, ?_⟩
  · rw [ga_seta_ne _ _ hk, ga_seta_ne _ _ hk, ga_seta_ne _ _ hk]
  · rw [ga_seta, upd_ne _ _ (by decide), ga_seta, upd_ne _ _ (by decide), ga_seta, upd_same]
  · rw [ga_seta, upd_ne _ _ (by decide), ga_seta, upd_same]
  · rw [ga_seta, upd_same]
theorem pair_test (h : KY T X Y n L) (hxy : inP x.toInt y.toInt) (hx : x.toInt = X p) (hy : y.toInt = Y p) {a b : Nat} (ha : a < n) (hb : b < n) (k46 : Int32 → Int32 → Int32 → St → Option (Int32 × St)) (fuel : Nat) : (PS X Y n L p a b → f_Md_locate_61 k46 (fuel + 1) x y (nI a) (nI b) T = bd (f_Md_found 2 (nI a) (nI b) (-1) T) (fun q => some (q.1, q.2))) ∧ (¬ PS X Y n L p a b → f_Md_locate_61 k46 (fuel + 1) x y (nI a) (nI b) T = f_Md_locate_61 k46 fuel x y (nI a) (nI (b + 1)) T) := by
  have hn := h.1.2.1
  rw [f_Md_locate_61]
  dsimp only
  rw [h.1.1, if_neg (nI_ge hb (by omega)), m_isOn h.1 ha hb hxy, bd_s, hx, hy]
  dsimp only
  unfold f_Md_locate_105
  rw [bn_s, nI_1]
  by_cases c : OnS X Y (X p) (Y p) a b
  · rw [b32_t c, if_neg (by decide), m_areNeighbours h ha hb, bd_s]
    dsimp only
    by_cases d : NBR X Y n L a b
    · rw [b32_t d, if_neg (by decide)]
      exact ⟨fun _ => rfl, fun q => absurd ⟨c, d⟩ q⟩
    · rw [b32_f d, if_pos rfl, bn_s]
      exact ⟨fun q => absurd q.2 d, fun _ => rfl⟩
  · rw [b32_f c, if_pos rfl]
    exact ⟨fun q => absurd q.1 c, fun _ => rfl⟩
theorem inner_no (h : KY T X Y n L) (hxy : inP x.toInt y.toInt) (hx : x.toInt = X p) (hy : y.toInt = Y p) {a : Nat} (ha : a < n) (k46 : Int32 → Int32 → Int32 → St → Option (Int32 × St)) : ∀ (d fuel b : Nat), b + d = n → d < fuel → (∀ b', b ≤ b' → b' < n → ¬ PS X Y n L p a b') → f_Md_locate_61 k46 fuel x y (nI a) (nI b) T = k46 x y (nI (a + 1)) T := by
  have hn := h.1.2.1
  intro d
  induction d with
  | zero =>
    intro fuel b hb hf hno
    obtain ⟨fuel, rfl⟩ : ∃ j, fuel = j + 1 := ⟨fuel - 1, by omega⟩
    have : b = n := by omega
    subst this
    rw [f_Md_locate_61]
    dsimp only
    rw [h.1.1, if_pos (Int32.le_refl _), bn_s, nI_1]
  | succ d ih =>
    intro fuel b hb hf hno
    obtain ⟨fuel, rfl⟩ : ∃ j, fuel = j + 1 := ⟨fuel - 1, by omega⟩
    rw [(pair_test h hxy hx hy ha (by omega) k46 fuel).2 (hno b (by omega) (by omega))]
    exact ih fuel (b + 1) (by omega) (by omega) (fun b' h1 h2 => hno b' (by omega) h2)
theorem inner_yes (h : KY T X Y n L) (hxy : inP x.toInt y.toInt) (hx : x.toInt = X p) (hy : y.toInt = Y p) {a b0 : Nat} (ha : a < n) (hb0 : b0 < n) (hps : PS X Y n L p a b0) (k46 : Int32 → Int32 → Int32 → St → Option (Int32 × St)) : ∀ (d fuel b : Nat), b + d = b0 → d < fuel → (∀ b', b ≤ b' → b' < b0 → ¬ PS X Y n L p a b') → f_Md_locate_61 k46 fuel x y (nI a) (nI b) T = bd (f_Md_found 2 (nI a) (nI b0) (-1) T) (fun q => some (q.1, q.2)) := by
  intro d
  induction d with
  | zero =>
    intro fuel b hb hf hno
    obtain ⟨fuel, rfl⟩ : ∃ j, fuel = j + 1 := ⟨fuel - 1, by omega⟩
    have : b = b0 := by omega
    subst this
    rw [(pair_test h hxy hx hy ha hb0 k46 fuel).1 hps]
  | succ d ih =>
    intro fuel b hb hf hno
    obtain ⟨fuel, rfl⟩ : ∃ j, fuel = j + 1 := ⟨fuel - 1, by omega⟩
    rw [(pair_test h hxy hx hy ha (by omega) k46 fuel).2 (hno b (by omega) (by omega))]
    exact ih fuel (b + 1) (by omega) (by omega) (fun b' h1 h2 => hno b' (by omega) h2)
theorem outer_no (h : KY T X Y n L) (hxy : inP x.toInt y.toInt) (hx : x.toInt = X p) (hy : y.toInt = Y p) (hno : ∀ a b, a < n → b < n → ¬ PS X Y n L p a b) : ∀ (d fuel a : Nat), a + d = n → d < fuel → f_Md_locate_46 fuel x y (nI a) T = f_Md_locate_120 FU x y 0 T := by
  have hn := h.1.2.1
  intro d
  induction d with
  | zero =>
    intro fuel a ha hf
    obtain ⟨fuel, rfl⟩ : ∃ j, fuel = j + 1 := ⟨fuel - 1, by omega⟩
    have : a = n := by omega
    subst this
    rw [f_Md_locate_46]
    dsimp only
    rw [h.1.1, if_pos (Int32.le_refl _)]
  | succ d ih =>
    intro fuel a ha hf
    obtain ⟨fuel, rfl⟩ : ∃ j, fuel = j + 1 := ⟨fuel - 1, by omega⟩
    rw [f_Md_locate_46]
    dsimp only
    rw [h.1.1, if_neg (nI_ge (by omega) (by omega)), bn_s, nI_1, inner_no h hxy hx hy (by omega) (f_Md_locate_46 fuel) (n - (a + 1)) FU (a + 1) (by omega) (by have := FU_big; omega) (fun b' h1 h2 => hno a b' (by omega) h2)]
    exact ih fuel (a + 1) (by omega) (by omega)
theorem outer_yes (h : KY T X Y n L) (hxy : inP x.toInt y.toInt) (hx : x.toInt = X p) (hy : y.toInt = Y p) {a0 b0 : Nat} (hab : a0 < b0) (hb0 : b0 < n) (hps : PS X Y n L p a0 b0) (hu : ∀ a b, a < n → b < n → PS X Y n L p a b → (a = a0 ∧ b = b0) ∨ (a = b0 ∧ b = a0)) : ∀ (d fuel a : Nat), a + d = a0 → d < fuel → f_Md_locate_46 fuel x y (nI a) T = bd (f_Md_found 2 (nI a0) (nI b0) (-1) T) (fun q => some (q.1, q.2)) := by
  have hn := h.1.2.1
  intro d
  induction d with
  | zero =>
    intro fuel a ha hf
    obtain ⟨fuel, rfl⟩ : ∃ j, fuel = j + 1 := ⟨fuel - 1, by omega⟩
    have : a = a0 := by omega
    subst this
    rw [f_Md_locate_46]
    dsimp only
    rw [h.1.1, if_neg (nI_ge (by omega) (by omega)), bn_s, nI_1]
    exact inner_yes h hxy hx hy (by omega) hb0 hps (f_Md_locate_46 fuel) (b0 - (a + 1)) FU (a + 1) (by omega) (by have := FU_big; omega) (fun b' h1 h2 q => by
      rcases hu a b' (by omega) (by omega) q with r | r <;> omega)
  | succ d ih =>
    intro fuel a ha hf
    obtain ⟨fuel, rfl⟩ : ∃ j, fuel = j + 1 := ⟨fuel - 1, by omega⟩
    rw [f_Md_locate_46]
    dsimp only
    rw [h.1.1, if_neg (nI_ge (by omega) (by omega)), bn_s, nI_1, inner_no h hxy hx hy (by omega) (f_Md_locate_46 fuel) (n - (a + 1)) FU (a + 1) (by omega) (by have := FU_big; omega) (fun b' h1 h2 q => by
      rcases hu a b' (by omega) h2 q with r | r <;> omega)]
    exact ih fuel (a + 1) (by omega) (by omega)
theorem tri_test (h : KY T X Y n L) (hLn : ∀ t ∈ L, t.1 < n ∧ t.2.1 < n ∧ t.2.2 < n) (hxy : inP x.toInt y.toInt) (hx : x.toInt = X p) (hy : y.toInt = Y p) {i : Nat} (hi : i < L.length) (fuel : Nat) : (INS X Y p L[i] → f_Md_locate_120 (fuel + 1) x y (nI i) T = bd (f_Md_found 1 (nI L[i].1) (nI L[i].2.1) (nI L[i].2.2) T) (fun q => some (q.1, q.2))) ∧ (¬ INS X Y p L[i] → f_Md_locate_120 (fuel + 1) x y (nI i) T = f_Md_locate_120 fuel x y (nI (i + 1)) T) := by
  obtain ⟨hm, h4, hT, hl, hs⟩ := id h
  have hn := hm.2.1
  have at' := hT.at hi
  have tn := hLn _ (List.getElem_mem hi)
  have l3 := hm.2.2.1.2.2.1
  have l4 := hm.2.2.1.2.2.2.1
  have l5 := hm.2.2.1.2.2.2.2.1
  have ib : inb (nI i) 2048 = true := inb_n (by omega) (by omega)
  have cl : Int32.toNatClampNeg (nI i) = i := nI_clampN (by omega)
  have e : ∀ a b, tz (X a) (Y a) (X b) (Y b) x.toInt y.toInt = gO X Y a b p := fun a b => by rw [hx, hy]; rfl
  have s1 := m_side hm tn.1 tn.2.1 hxy
  have s2 := m_side hm tn.2.1 tn.2.2 hxy
  have s3 := m_side hm tn.2.2 tn.1 hxy
  rw [e] at s1 s2 s3
  rw [f_Md_locate_120]
  dsimp only
  unfold f_Md_locate_202 f_Md_locate_203
  simp only [l3, l4, l5, ib, cl, as_s, at'.1, at'.2.1, at'.2.2, if_true, bn_s, nI_1]
  rw [h4, if_neg (nI_ge hi (by omega)), s1, bd_s]
  dsimp only
  simp only [l3, l4, l5, ib, cl, as_s, at'.1, at'.2.1, at'.2.2]
  by_cases c1 : 0 < gO X Y L[i].1 L[i].2.1 p
  · rw [if_neg (fun q => by have := sg_le.mp q; omega), s2, bd_s]
    dsimp only
    simp only [l3, l4, l5, ib, cl, as_s, at'.1, at'.2.1, at'.2.2]
    by_cases c2 : 0 < gO X Y L[i].2.1 L[i].2.2 p
    · rw [if_neg (fun q => by have := sg_le.mp q; omega), s3, bd_s]
      dsimp only
      by_cases c3 : 0 < gO X Y L[i].2.2 L[i].1 p
      · rw [if_neg (fun q => by have := sg_le.mp q; omega), if_neg (by decide)]
        refine ⟨fun _ => ?_, fun q => absurd ⟨c1, c2, c3⟩ q⟩
        simp only [l3, l4, l5, ib, cl, as_s, at'.1, at'.2.1, at'.2.2]
      · rw [if_pos (sg_le.mpr (by omega))]
        exact ⟨fun q => absurd q.2.2 c3, fun _ => rfl⟩
    · rw [if_pos (sg_le.mpr (by omega))]
      exact ⟨fun q => absurd q.2.1 c2, fun _ => rfl⟩
  · rw [if_pos (sg_le.mpr (by omega))]
    exact ⟨fun q => absurd q.1 c1, fun _ => rfl⟩
theorem tri_no (h : KY T X Y n L) (hLn : ∀ t ∈ L, t.1 < n ∧ t.2.1 < n ∧ t.2.2 < n) (hxy : inP x.toInt y.toInt) (hx : x.toInt = X p) (hy : y.toInt = Y p) (hno : ∀ t ∈ L, ¬ INS X Y p t) : ∀ (d fuel i : Nat), i + d = L.length → d < fuel → f_Md_locate_120 fuel x y (nI i) T = bd (f_Md_found 0 (-1) (-1) (-1) T) (fun q => some (q.1, q.2)) := by
  intro d
  induction d with
  | zero =>
    intro fuel i hi hf
    obtain ⟨fuel, rfl⟩ : ∃ j, fuel = j + 1 := ⟨fuel - 1, by omega⟩
    have hl := h.2.2.2.1
    rw [f_Md_locate_120]
    dsimp only
    rw [h.2.1, if_pos (nI_le (by omega) (by omega))]
  | succ d ih =>
    intro fuel i hi hf
    obtain ⟨fuel, rfl⟩ : ∃ j, fuel = j + 1 := ⟨fuel - 1, by omega⟩
    rw [(tri_test h hLn hxy hx hy (show i < L.length by omega) fuel).2 (hno _ (List.getElem_mem _))]
    exact ih fuel (i + 1) (by omega) (by omega)
theorem tri_yes (h : KY T X Y n L) (hLn : ∀ t ∈ L, t.1 < n ∧ t.2.1 < n ∧ t.2.2 < n) (hxy : inP x.toInt y.toInt) (hx : x.toInt = X p) (hy : y.toInt = Y p) {t : Nat × Nat × Nat} {i0 : Nat} (hi0 : i0 < L.length) (e0 : L[i0] = t) (hin : INS X Y p t) (hnd : L.Nodup) (hu : ∀ t' ∈ L, INS X Y p t' → t' = t) : ∀ (d fuel i : Nat), i + d = i0 → d < fuel → f_Md_locate_120 fuel x y (nI i) T = bd (f_Md_found 1 (nI t.1) (nI t.2.1) (nI t.2.2) T) (fun q => some (q.1, q.2)) := by
  intro d
  induction d with
  | zero =>
    intro fuel i hi hf
    obtain ⟨fuel, rfl⟩ : ∃ j, fuel = j + 1 := ⟨fuel - 1, by omega⟩
    have : i = i0 := by omega
    subst this
    have q := (tri_test h hLn hxy hx hy hi0 fuel).1
    rw [e0] at q
    exact q hin
  | succ d ih =>
    intro fuel i hi hf
    obtain ⟨fuel, rfl⟩ : ∃ j, fuel = j + 1 := ⟨fuel - 1, by omega⟩
    have hiL : i < L.length := by omega
    rw [(tri_test h hLn hxy hx hy hiL fuel).2 (fun q => by
      have := hu _ (List.getElem_mem hiL) q
      rw [← e0] at this
      have := (List.getElem_inj hnd).mp this
      omega)]
    exact ih fuel (i + 1) (by omega) (by omega)
end
