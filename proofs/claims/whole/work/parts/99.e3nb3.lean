/-! NEIGHBOURS: the reference's -/
def in3 (t : Nat × Nat × Nat) (p : Nat) : Prop := t.1 = p ∨ t.2.1 = p ∨ t.2.2 = p
def OnS (X Y : Nat → Int) (x y : Int) (a b : Nat) : Prop := (X a ≤ x ∧ x ≤ X b ∨ X b ≤ x ∧ x ≤ X a) ∧ (Y a ≤ y ∧ y ≤ Y b ∨ Y b ≤ y ∧ y ≤ Y a) ∧ tz (X a) (Y a) (X b) (Y b) x y = 0
def NBR (X Y : Nat → Int) (n : Nat) (L : List (Nat × Nat × Nat)) (a b : Nat) : Prop := a ≠ b ∧ ((L = [] ∧ ∀ k, k < n → k ≠ a → k ≠ b → ¬ OnS X Y (X k) (Y k) a b) ∨ ∃ t ∈ L, in3 t a ∧ in3 t b)
section
variable {S T : St} {n : Nat} {X Y : Nat → Int} {L : List (Nat × Nat × Nat)} {C : List Nat}
/-- what it has to know for neighbours -/
def KY (T : St) (X Y : Nat → Int) (n : Nat) (L : List (Nat × Nat × Nat)) : Prop := MP T n X Y ∧ gi T 4 = nI L.length ∧ HT T L ∧ L.length ≤ 2048 ∧ sm3 L
theorem KX.ky (h : KX T X Y n L C) (hm : MP T n X Y) : KY T X Y n L := by
  refine ⟨hm, h.2.2.2.2.1, h.2.2.2.2.2.2.1, h.2.2.1, fun t ht => ?_⟩
  have s := ((h.1.2 t).mp ht).1
  have a := List.mem_range.mp s.1
  have b := List.mem_range.mp s.2.1
  have c := List.mem_range.mp s.2.2.1
  have := hm.2.1
  omega
theorem m_isIn (h : KY T X Y n L) {t p : Nat} (ht : t < L.length) (hp : p < n) : f_Md_isIn (nI t) (nI p) T = some (b32 (in3 L[t] p), T) := by
  obtain ⟨hm, -, hT, hl, hs⟩ := h
  have hn := hm.2.1
  have at' := hT.at ht
  have sm := hs _ (List.getElem_mem ht)
  have l3 := hm.2.2.1.2.2.1
  have l4 := hm.2.2.1.2.2.2.1
  have l5 := hm.2.2.1.2.2.2.2.1
  unfold f_Md_isIn f_Md_isIn_0 f_Md_isIn_30 in3
  rw [l3, l4, l5]
  simp only [inb_n (show t < 2048 by omega) (by omega), as_s, nI_clampN (show t < 2 ^ 31 by omega), at'.1, at'.2.1, at'.2.2]
  have q1 : nI L[t].1 = nI p ↔ L[t].1 = p := nI_eq (by omega) (by omega)
  have q2 : nI L[t].2.1 = nI p ↔ L[t].2.1 = p := nI_eq (by omega) (by omega)
  have q3 : nI L[t].2.2 = nI p ↔ L[t].2.2 = p := nI_eq (by omega) (by omega)
  simp only [q1, q2, q3]
  by_cases c1 : L[t].1 = p
  · rw [if_pos c1, b32_t (Or.inl c1)]
  rw [if_neg c1]
  by_cases c2 : L[t].2.1 = p
  · rw [if_pos c2, b32_t (Or.inr (Or.inl c2))]
  rw [if_neg c2]
  by_cases c3 : L[t].2.2 = p
  · rw [if_pos c3, b32_t (Or.inr (Or.inr c3))]
  · rw [if_neg c3, b32_f (by omega)]
theorem m_isOn (h : MP T n X Y) {a b : Nat} (ha : a < n) (hb : b < n) {x y : Int32} (hxy : inP x.toInt y.toInt) : f_Md_isOn x y (nI a) (nI b) T = some (b32 (OnS X Y x.toInt y.toInt a b), T) := by
  have lx : (ga T 1 (Int32.toNatClampNeg (nI b)) ≤ ga T 1 (Int32.toNatClampNeg (nI a))) ↔ X b ≤ X a := by rw [le32, h.x ha, h.x hb]
  have ly : (ga T 2 (Int32.toNatClampNeg (nI b)) ≤ ga T 2 (Int32.toNatClampNeg (nI a))) ↔ Y b ≤ Y a := by rw [le32, h.y ha, h.y hb]
  have sd := m_side h ha hb hxy
  have e135 : ∀ (xb : Prop) (hi lo : Int32), f_Md_isOn_135 x y (nI a) (nI b) (b32 xb) hi lo y T = some (b32 (xb ∧ (lo.toInt ≤ y.toInt ∧ y.toInt ≤ hi.toInt) ∧ tz (X a) (Y a) (X b) (Y b) x.toInt y.toInt = 0), T) := by
    intro xb hi lo
    unfold f_Md_isOn_135
    rw [m_within, bd_s]
    dsimp only
    by_cases c1 : xb
    · rw [b32_t c1, if_neg (by decide)]
      by_cases c2 : lo.toInt ≤ y.toInt ∧ y.toInt ≤ hi.toInt
      · rw [b32_t c2, if_neg (by decide), sd, bd_s]
        dsimp only
        by_cases c3 : tz (X a) (Y a) (X b) (Y b) x.toInt y.toInt = 0
        · rw [if_pos (sg_zero.mpr c3), b32_t ⟨c1, c2, c3⟩]
        · rw [if_neg (fun q => c3 (sg_zero.mp q)), b32_f (fun q => c3 q.2.2)]
      · rw [b32_f c2, if_pos rfl, b32_f (fun q => c2 q.2.1)]
    · rw [b32_f c1, if_pos rfl, b32_f (fun q => c1 q.1)]
  have congr32 : ∀ {p q : Prop}, (p ↔ q) → b32 p = b32 q := fun {p q} pq => by
    by_cases c : p
    · rw [b32_t c, b32_t (pq.mp c)]
    · rw [b32_f c, b32_f (fun z => c (pq.mpr z))]
  unfold f_Md_isOn f_Md_isOn_0 f_Md_isOn_33 f_Md_isOn_65 f_Md_isOn_103
  simp only [h.b1 ha, h.b1 hb, as_s]
  by_cases c1 : X b ≤ X a
  · rw [if_pos (lx.mpr c1), if_pos (lx.mpr c1), m_within, bd_s]
    dsimp only
    simp only [h.b2 ha, h.b2 hb, as_s]
    by_cases c2 : Y b ≤ Y a
    · rw [if_pos (ly.mpr c2), if_pos (ly.mpr c2), e135, h.x ha, h.x hb, h.y ha, h.y hb]
      refine congrArg some (congrArg (fun z => (z, T)) (congr32 ?_))
      unfold OnS
      omega
    · rw [if_neg (fun q => c2 (ly.mp q)), if_neg (fun q => c2 (ly.mp q)), e135, h.x ha, h.x hb, h.y ha, h.y hb]
      refine congrArg some (congrArg (fun z => (z, T)) (congr32 ?_))
      unfold OnS
      omega
  · rw [if_neg (fun q => c1 (lx.mp q)), if_neg (fun q => c1 (lx.mp q)), m_within, bd_s]
    dsimp only
    simp only [h.b2 ha, h.b2 hb, as_s]
    by_cases c2 : Y b ≤ Y a
    · rw [if_pos (ly.mpr c2), if_pos (ly.mpr c2), e135, h.x ha, h.x hb, h.y ha, h.y hb]
      refine congrArg some (congrArg (fun z => (z, T)) (congr32 ?_))
      unfold OnS
      omega
    · rw [if_neg (fun q => c2 (ly.mp q)), if_neg (fun q => c2 (ly.mp q)), e135, h.x ha, h.x hb, h.y ha, h.y hb]
      refine congrArg some (congrArg (fun z => (z, T)) (congr32 ?_))
      unfold OnS
      omega
/-- over the triangles -/
theorem m_are_loop (h : KY T X Y n L) {a b : Nat} (ha : a < n) (hb : b < n) : ∀ (d fuel t : Nat), t + d = L.length → d < fuel → (∀ j (hj : j < t) (h2 : j < L.length), ¬ (in3 L[j] a ∧ in3 L[j] b)) → f_Md_areNeighbours_93 fuel (nI a) (nI b) 0 (nI t) T = some (b32 (∃ t ∈ L, in3 t a ∧ in3 t b), T) := by
  obtain ⟨hm, h4, hT, hl, hs⟩ := id h
  intro d
  induction d with
  | zero =>
    intro fuel t ht hf hj
    obtain ⟨fuel, rfl⟩ : ∃ j, fuel = j + 1 := ⟨fuel - 1, by omega⟩
    rw [f_Md_areNeighbours_93]
    dsimp only
    rw [h4, if_pos (nI_le (by omega) (by omega)), b32_f (by
      rintro ⟨t', q1, q2⟩
      obtain ⟨j, hj1, e⟩ := List.getElem_of_mem q1
      exact hj j (by omega) hj1 (by rw [e]; exact q2))]
    rfl
  | succ d ih =>
    intro fuel t ht hf hj
    obtain ⟨fuel, rfl⟩ : ∃ j, fuel = j + 1 := ⟨fuel - 1, by omega⟩
    have htL : t < L.length := by omega
    have no : ¬ (in3 L[t] a ∧ in3 L[t] b) → f_Md_areNeighbours_130 (f_Md_areNeighbours_93 fuel) (nI a) (nI b) (nI t) T = some (b32 (∃ t ∈ L, in3 t a ∧ in3 t b), T) := fun q => by
      unfold f_Md_areNeighbours_130 f_Md_areNeighbours_131
      rw [bn_s, nI_1]
      exact ih fuel (t + 1) (by omega) (by omega) (fun j h1 h2 => by
        by_cases r : j = t
        · subst r; exact q
        · exact hj j (by omega) h2)
    rw [f_Md_areNeighbours_93]
    dsimp only
    rw [h4, if_neg (nI_ge htL (by omega)), if_pos rfl, m_isIn h htL ha, bd_s]
    dsimp only
    by_cases c1 : in3 L[t] a
    · rw [b32_t c1, if_neg (by decide), m_isIn h htL hb, bd_s]
      dsimp only
      by_cases c2 : in3 L[t] b
      · rw [b32_t c2, if_neg (by decide)]
        unfold f_Md_areNeighbours_131
        rw [bn_s, nI_1]
        obtain ⟨fuel, rfl⟩ : ∃ j, fuel = j + 1 := ⟨fuel - 1, by omega⟩
        rw [f_Md_areNeighbours_93]
        dsimp only
        rw [b32_t (show ∃ t ∈ L, in3 t a ∧ in3 t b from ⟨L[t], List.getElem_mem htL, c1, c2⟩)]
        split
        · rfl
        · rw [if_neg (by decide)]; rfl
      · rw [b32_f c2, if_pos rfl]
        exact no (fun q => c2 q.2)
    · rw [b32_f c1, if_pos rfl]
      exact no (fun q => c1 q.1)
/-- no third point between, so far -/
theorem m_are_line (h : KY T X Y n []) {a b : Nat} (ha : a < n) (hb : b < n) : ∀ (d fuel k : Nat), k + d = n → d < fuel → f_Md_areNeighbours_23 fuel (nI a) (nI b) (b32 (∀ j, j < k → j ≠ a → j ≠ b → ¬ OnS X Y (X j) (Y j) a b)) (nI k) T = some (b32 (∀ j, j < n → j ≠ a → j ≠ b → ¬ OnS X Y (X j) (Y j) a b), T) := by
  obtain ⟨hm, h4, hT, hl, hs⟩ := id h
  have hn := hm.2.1
  have z4 : gi T 4 = 0 := h4
  intro d
  induction d with
  | zero =>
    intro fuel k hk hf
    obtain ⟨fuel, rfl⟩ : ∃ j, fuel = j + 1 := ⟨fuel - 1, by omega⟩
    have : k = n := by omega
    subst this
    rw [f_Md_areNeighbours_23]
    dsimp only
    rw [hm.1, if_pos (Int32.le_refl _)]
    unfold f_Md_areNeighbours_90
    have : FU = (FU - 1) + 1 := by unfold FU; rfl
    rw [this, f_Md_areNeighbours_93]
    dsimp only
    rw [z4, if_pos (by decide)]
    by_cases c : ∀ j, j < k → j ≠ a → j ≠ b → ¬ OnS X Y (X j) (Y j) a b
    · rw [b32_t c]; rfl
    · rw [b32_f c]; rfl
  | succ d ih =>
    intro fuel k hk hf
    obtain ⟨fuel, rfl⟩ : ∃ j, fuel = j + 1 := ⟨fuel - 1, by omega⟩
    have hkn : k < n := by omega
    have nx' := ih fuel (k + 1) (by omega) (by omega)
    rw [f_Md_areNeighbours_23]
    dsimp only
    rw [hm.1, if_neg (nI_ge hkn (by omega)), z4, if_pos rfl]
    have no : ¬ (∀ j, j < k + 1 → j ≠ a → j ≠ b → ¬ OnS X Y (X j) (Y j) a b) → f_Md_areNeighbours_82 (f_Md_areNeighbours_23 fuel) (nI a) (nI b) (nI k) T = some (b32 (∀ j, j < n → j ≠ a → j ≠ b → ¬ OnS X Y (X j) (Y j) a b), T) := fun q => by
      unfold f_Md_areNeighbours_82 f_Md_areNeighbours_83
      rw [bn_s, nI_1]
      rw [b32_f q] at nx'
      exact nx'
    have yes : (∀ j, j < k + 1 → j ≠ a → j ≠ b → ¬ OnS X Y (X j) (Y j) a b) → f_Md_areNeighbours_78 (f_Md_areNeighbours_23 fuel) (nI a) (nI b) (nI k) T = some (b32 (∀ j, j < n → j ≠ a → j ≠ b → ¬ OnS X Y (X j) (Y j) a b), T) := fun q => by
      unfold f_Md_areNeighbours_78 f_Md_areNeighbours_83
      rw [bn_s, nI_1]
      rw [b32_t q] at nx'
      exact nx'
    by_cases c : ∀ j, j < k → j ≠ a → j ≠ b → ¬ OnS X Y (X j) (Y j) a b
    · rw [b32_t c, if_neg (by decide)]
      have up : (k ≠ a → k ≠ b → ¬ OnS X Y (X k) (Y k) a b) → ∀ j, j < k + 1 → j ≠ a → j ≠ b → ¬ OnS X Y (X j) (Y j) a b := fun q j hj => by
        by_cases e : j = k
        · rw [e]; exact q
        · exact c j (by omega)
      by_cases ca : k = a
      · rw [if_pos (by rw [ca])]
        exact yes (up (fun q => absurd ca q))
      rw [if_neg (fun q => ca ((nI_eq (by omega) (by omega)).mp q))]
      by_cases cb : k = b
      · rw [if_pos (by rw [cb])]
        exact yes (up (fun _ q => absurd cb q))
      rw [if_neg (fun q => cb ((nI_eq (by omega) (by omega)).mp q)), hm.b1 hkn, as_s, hm.b2 hkn, as_s, m_isOn hm ha hb (hm.inP hkn), bd_s, hm.x hkn, hm.y hkn]
      dsimp only
      by_cases co : OnS X Y (X k) (Y k) a b
      · rw [b32_t co, if_neg (by decide)]
        exact no (fun q => q k (by omega) ca cb co)
      · rw [b32_f co, if_pos rfl]
        exact yes (up (fun _ _ => co))
    · rw [b32_f c, if_pos rfl]
      exact no (fun q => c (fun j hj => q j (by omega)))
theorem m_areNeighbours (h : KY T X Y n L) {a b : Nat} (ha : a < n) (hb : b < n) : f_Md_areNeighbours (nI a) (nI b) T = some (b32 (NBR X Y n L a b), T) := by
  obtain ⟨hm, h4, hT, hl, hs⟩ := id h
  have hn := hm.2.1
  have hF := FU_big
  unfold f_Md_areNeighbours f_Md_areNeighbours_0 f_Md_areNeighbours_19
  by_cases c : a = b
  · rw [if_pos (by rw [c]), b32_f (fun q => q.1 c)]
  rw [if_neg (fun q => c ((nI_eq (by omega) (by omega)).mp q)), h4]
  cases L with
  | nil =>
    rw [if_pos (show nI ([] : List (Nat × Nat × Nat)).length = 0 from rfl)]
    have r := m_are_line h ha hb n FU 0 (by omega) (by omega)
    rw [b32_t (fun j hj => by omega)] at r
    refine Eq.trans r ?_
    by_cases q : ∀ j, j < n → j ≠ a → j ≠ b → ¬ OnS X Y (X j) (Y j) a b
    · rw [b32_t q, b32_t (show NBR X Y n [] a b from ⟨c, Or.inl ⟨rfl, q⟩⟩)]
    · rw [b32_f q, b32_f (by
        rintro ⟨-, ⟨-, z⟩ | ⟨t, ht, -⟩⟩
        · exact q z
        · exact List.not_mem_nil ht)]
  | cons t0 L0 =>
    have nz : ¬ nI (t0 :: L0).length = 0 := nI_ne0 (by simp) (by omega)
    rw [if_neg nz]
    have : FU = (FU - 1) + 1 := by unfold FU; rfl
    rw [this, f_Md_areNeighbours_23]
    dsimp only
    rw [hm.1, if_neg (show ¬ nI n ≤ 0 from nI_nle (by omega) (by omega)), h4, if_neg nz]
    unfold f_Md_areNeighbours_90
    have r := m_are_loop h ha hb (t0 :: L0).length FU 0 (by omega) (by omega) (fun j hj => by omega)
    refine Eq.trans r ?_
    by_cases q : ∃ t ∈ t0 :: L0, in3 t a ∧ in3 t b
    · rw [b32_t q, b32_t (show NBR X Y n (t0 :: L0) a b from ⟨c, Or.inr q⟩)]
    · rw [b32_f q, b32_f (by
        rintro ⟨-, ⟨z, -⟩ | z⟩
        · cases z
        · exact q z)]
end
