/-! THE REFERENCE'S SIDE, 6: a cell -/
def frK (S T : St) : Prop := (∀ k, k ≠ 8 → gi T k = gi S k) ∧ T.2.2.1 = S.2.2.1 ∧ ∀ k, k ≠ 9 → k ≠ 10 → ga T k = ga S k
theorem frK.rfl' (S : St) : frK S S := ⟨fun _ _ => rfl, rfl, fun _ _ _ => rfl⟩
theorem frK.trans {S T R : St} (h : frK S T) (g : frK T R) : frK S R := ⟨fun k a => (g.1 k a).trans (h.1 k a), g.2.1.trans h.2.1, fun k a b => (g.2.2 k a b).trans (h.2.2 k a b)⟩
theorem frK.ofL {S T : St} (h : frL S T) : frK S T := ⟨fun k _ => by show T.1 k = S.1 k; rw [h.1], by rw [h.2], fun k _ _ => by show T.2.2.2 k = S.2.2.2 k; rw [h.2]⟩
theorem frK.mp {S T : St} {n : Nat} {X Y : Nat → Int} (f : frK S T) (h : MP S n X Y) : MP T n X Y := h.of (f.1 2 (by decide)) f.2.1 (f.2.2 1 (by decide) (by decide)) (f.2.2 2 (by decide) (by decide))
/-- a row that holds a list -/
def HL (S : St) (k : Nat) (l : List Nat) : Prop := ∀ i, i < l.length → ga S k i = nI (l.getD i 0)
theorem HL.of {S T : St} {k : Nat} {l : List Nat} (h : HL S k l) (e : ga T k = ga S k) : HL T k l := fun i hi => by rw [e]; exact h i hi
theorem getD_app_l {l r : List Nat} {i : Nat} (h : i < l.length) : (l ++ r).getD i 0 = l.getD i 0 := by
  rw [List.getD_eq_getElem?_getD, List.getElem?_append_left h, ← List.getD_eq_getElem?_getD]
theorem getD_app_e (l : List Nat) (x : Nat) : (l ++ [x]).getD l.length 0 = x := by
  rw [List.getD_eq_getElem?_getD, List.getElem?_append_right (Nat.le_refl _)]
  simp
theorem HL.put {S T : St} {k : Nat} {l : List Nat} (h : HL S k l) {x : Nat} (e : ga T k = upd (ga S k) l.length (nI x)) : HL T k (l ++ [x]) := by
  intro i hi
  rw [List.length_append, List.length_singleton] at hi
  rw [e]
  by_cases c : i = l.length
  · rw [c, upd_same, getD_app_e]
  · rw [upd_ne _ _ c, getD_app_l (by omega)]; exact h i (by omega)
theorem getD_mem' {l : List Nat} {i : Nat} (h : i < l.length) : l.getD i 0 ∈ l := by
  rw [List.getD_eq_getElem?_getD, List.getElem?_eq_getElem h]; exact List.getElem_mem h
theorem mem_getD {l : List Nat} {x : Nat} (h : x ∈ l) : ∃ i, i < l.length ∧ l.getD i 0 = x := by
  obtain ⟨i, hi, e⟩ := List.getElem_of_mem h
  exact ⟨i, hi, by rw [List.getD_eq_getElem?_getD, List.getElem?_eq_getElem hi]; exact e⟩
section
variable {S T : St} {n : Nat} {X Y : Nat → Int} {K R : List Nat}
theorem m_isCelled_loop (hK : HL T 9 K) (h8 : gi T 8 = nI K.length) (hl : gn T 9 = 1024) (hlen : K.length ≤ 1024) (hKn : ∀ x ∈ K, x < 1024) {p : Nat} (hp : p < 1024) : ∀ (d fuel i : Nat), i + d = K.length → d < fuel → f_Md_isCelled_4 fuel (nI p) (b32 (∃ j, j < i ∧ K.getD j 0 = p)) (nI i) T = some (b32 (p ∈ K), T) := by
  intro d
  induction d with
  | zero =>
    intro fuel i hi hf
    obtain ⟨fuel, rfl⟩ : ∃ j, fuel = j + 1 := ⟨fuel - 1, by omega⟩
    rw [f_Md_isCelled_4]
    dsimp only
    rw [h8, if_pos (nI_le (by omega) (by omega))]
    have e : (∃ j, j < i ∧ K.getD j 0 = p) ↔ p ∈ K := by
      constructor
      · rintro ⟨j, hj, rfl⟩; exact getD_mem' (by omega)
      · intro q
        obtain ⟨j, hj, e⟩ := mem_getD q
        exact ⟨j, by omega, e⟩
    by_cases c : p ∈ K
    · rw [b32_t c, b32_t (e.mpr c)]; rfl
    · rw [b32_f c, b32_f (fun q => c (e.mp q))]; rfl
  | succ d ih =>
    intro fuel i hi hf
    obtain ⟨fuel, rfl⟩ : ∃ j, fuel = j + 1 := ⟨fuel - 1, by omega⟩
    have next := ih fuel (i + 1) (by omega) (by omega)
    rw [f_Md_isCelled_4]
    dsimp only
    rw [h8, if_neg (nI_ge (by omega) (by omega))]
    by_cases c : ∃ j, j < i ∧ K.getD j 0 = p
    · rw [b32_t c, if_neg (by decide)]
      unfold f_Md_isCelled_26 f_Md_isCelled_31
      rw [bn_s, nI_1]
      rw [b32_t (by obtain ⟨j, a, b⟩ := c; exact ⟨j, by omega, b⟩)] at next
      exact next
    · rw [b32_f c, if_pos rfl, hl, inb_n (by omega) (by omega), as_s, nI_clampN (by omega), hK i (by omega)]
      have kb := hKn _ (getD_mem' (l := K) (i := i) (by omega))
      by_cases e : K.getD i 0 = p
      · rw [if_pos (by rw [e])]
        unfold f_Md_isCelled_26 f_Md_isCelled_31
        rw [bn_s, nI_1]
        rw [b32_t ⟨i, by omega, e⟩] at next
        exact next
      · rw [if_neg (fun q => e ((nI_eq (by omega) (by omega)).mp q))]
        unfold f_Md_isCelled_31
        rw [bn_s, nI_1]
        rw [b32_f (by
          rintro ⟨j, a, b⟩
          by_cases q : j = i
          · rw [q] at b; exact e b
          · exact c ⟨j, by omega, b⟩)] at next
        exact next
theorem m_isCelled (hK : HL T 9 K) (h8 : gi T 8 = nI K.length) (hl : gn T 9 = 1024) (hlen : K.length ≤ 1024) (hKn : ∀ x ∈ K, x < 1024) {p : Nat} (hp : p < 1024) : f_Md_isCelled (nI p) T = some (b32 (p ∈ K), T) := by
  unfold f_Md_isCelled f_Md_isCelled_0
  have := m_isCelled_loop hK h8 hl hlen hKn hp K.length FU 0 (by omega) (by have := FU_big; omega)
  rw [b32_f (by rintro ⟨j, a, -⟩; omega)] at this
  exact this
/-- the first of them, so far -/
def leastO (X Y : Nat → Int) (R : List Nat) (o : Option Nat) : Prop := match o with
  | none => R = []
  | some f => f ∈ R ∧ ∀ d ∈ R, d ≠ f → gLess X Y f d
def onCirc (X Y : Nat → Int) (a b c k : Nat) : List Nat := (List.range k).filter fun d => decide (gV X Y (gQ X Y) a b c d = 0)
theorem onCirc_y {a b c k : Nat} (h : gV X Y (gQ X Y) a b c k = 0) : onCirc X Y a b c (k + 1) = onCirc X Y a b c k ++ [k] := by
  unfold onCirc
  rw [List.range_succ, List.filter_append]
  simp [h]
theorem onCirc_n {a b c k : Nat} (h : ¬ gV X Y (gQ X Y) a b c k = 0) : onCirc X Y a b c (k + 1) = onCirc X Y a b c k := by
  unfold onCirc
  rw [List.range_succ, List.filter_append]
  simp [h]
theorem onCirc_mem {a b c k d : Nat} : d ∈ onCirc X Y a b c k ↔ d < k ∧ gV X Y (gQ X Y) a b c d = 0 := by
  unfold onCirc
  rw [List.mem_filter, List.mem_range]
  simp
theorem onCirc_len (a b c k : Nat) : (onCirc X Y a b c k).length ≤ k := by
  unfold onCirc
  have := List.length_filter_le (fun d => decide (gV X Y (gQ X Y) a b c d = 0)) (List.range k)
  rw [List.length_range] at this
  exact this
theorem onCirc_nodup (a b c k : Nat) : (onCirc X Y a b c k).Nodup := by
  unfold onCirc
  exact List.nodup_range.sublist List.filter_sublist
/-- the points of the circle, collected -/
theorem m_cell_1 (h : MP S n X Y) (hd : ∀ i, i < n → ∀ j, j < n → i ≠ j → dif X Y i j) {a b c : Nat} (ha : a < n) (hb : b < n) (hc : c < n) {Q : Option St → Prop} (hQ : ∀ (T : St) (f : Nat), frK S T → HL T 10 (onCirc X Y a b c n) → HL T 9 [f] → gi T 8 = 1 → leastO X Y (onCirc X Y a b c n) (some f) → Q (f_Md_findCell_104 FU (nI (onCirc X Y a b c n).length) T)) : ∀ (d fuel k : Nat) (o : Option Nat) (T : St), k + d = n → d < fuel → frK S T → HL T 10 (onCirc X Y a b c k) → leastO X Y (onCirc X Y a b c k) o → Q (f_Md_findCell_14 fuel (nI a) (nI b) (nI c) (oI o) (nI (onCirc X Y a b c k).length) (nI k) T) := by
  have hn := h.2.1
  intro d
  induction d with
  | zero =>
    intro fuel k o T hk hf fr hR hl
    obtain ⟨fuel, rfl⟩ : ∃ j, fuel = j + 1 := ⟨fuel - 1, by omega⟩
    have : k = n := by omega
    subst this
    have hT := fr.mp h
    rw [f_Md_findCell_14]
    dsimp only
    cases o with
    | none =>
      exfalso
      have : a ∈ onCirc X Y a b c k := onCirc_mem.mpr ⟨ha, gV_at1 _ _ _ _⟩
      rw [show onCirc X Y a b c k = [] from hl] at this
      exact absurd this List.not_mem_nil
    | some f =>
      rw [hT.1, if_pos (Int32.le_refl _), hT.2.2.1.2.2.2.2.2.2.2.2.1]
      rw [show inb 0 1024 = true from rfl, as_s, bn_s, bn_s]
      refine hQ _ f ⟨fun j hj => ?_, fr.2.1, fun j h1 h2 => ?_⟩ ?_ ?_ (gi_seti _ _ _) hl
      · rw [gi_seti_ne _ _ hj]; exact fr.1 j hj
      · rw [ga_seti, ga_seta_ne _ _ h1]; exact fr.2.2 j h1 h2
      · exact hR.of (by rw [ga_seti, ga_seta_ne _ _ (by decide)])
      · intro i hi
        have : i = 0 := by simp at hi; exact hi
        subst this
        rw [ga_seti, ga_seta]
        show upd (ga T 9) 0 (nI f) 0 = nI f
        rw [upd_same]
  | succ d ih =>
    intro fuel k o T hk hf fr hR hl
    obtain ⟨fuel, rfl⟩ : ∃ j, fuel = j + 1 := ⟨fuel - 1, by omega⟩
    have hkn : k < n := by omega
    have hT := fr.mp h
    have len := onCirc_len (X := X) (Y := Y) a b c k
    rw [f_Md_findCell_14]
    dsimp only
    rw [hT.1, if_neg (nI_ge hkn (by omega))]
    -- one that is on the circle
    have take : ∀ T', frK S T' → HL T' 10 (onCirc X Y a b c k) → gV X Y (gQ X Y) a b c k = 0 → Q (f_Md_findCell_53 (f_Md_findCell_14 fuel) (nI a) (nI b) (nI c) (oI o) (nI (onCirc X Y a b c k).length) (nI k) T') := by
      intro T' fr' hR' h0
      have hT' := fr'.mp h
      unfold f_Md_findCell_53
      rw [hT'.2.2.1.2.2.2.2.2.2.2.2.2.1, inb_n (by omega) (by omega), as_s, bn_s, bn_s, nI_clampN (by omega), nI_1]
      generalize hU : seta T' 10 (upd (ga T' 10) (onCirc X Y a b c k).length (nI k)) = U
      have frU : frK S U := by
        rw [← hU]
        exact ⟨fun j hj => fr'.1 j hj, fr'.2.1, fun j h1 h2 => by rw [ga_seta_ne _ _ h2]; exact fr'.2.2 j h1 h2⟩
      have hRU : HL U 10 (onCirc X Y a b c (k + 1)) := by
        rw [onCirc_y h0]
        exact hR'.put (by rw [← hU, ga_seta])
      have el : (onCirc X Y a b c (k + 1)).length = (onCirc X Y a b c k).length + 1 := by rw [onCirc_y h0]; simp
      have nx := fun o' ho' => ih fuel (k + 1) o' U (by omega) (by omega) frU hRU ho'
      rw [el] at nx
      cases o with
      | none =>
        rw [if_pos (show oI none < 0 by decide)]
        unfold f_Md_findCell_81 f_Md_findCell_85
        rw [bn_s, nI_1]
        refine nx (some k) ⟨onCirc_mem.mpr ⟨by omega, h0⟩, fun x hx hxk => ?_⟩
        rw [onCirc_y h0, show onCirc X Y a b c k = [] from hl] at hx
        exact absurd (by simpa using hx) hxk
      | some f =>
        have fm := onCirc_mem.mp hl.1
        rw [if_neg (show ¬ oI (some f) < 0 from nI_pos (by omega))]
        rw [show oI (some f) = nI f from rfl, m_isLess (frU.mp h) hkn (by omega), bd_s]
        dsimp only
        by_cases cl : gLess X Y k f
        · rw [b32_t cl, if_neg (by decide)]
          unfold f_Md_findCell_81 f_Md_findCell_85
          rw [bn_s, nI_1]
          refine nx (some k) ⟨onCirc_mem.mpr ⟨by omega, h0⟩, fun x hx hxk => ?_⟩
          rw [onCirc_y h0, List.mem_append, List.mem_singleton] at hx
          rcases hx with hx | hx
          · by_cases q : x = f
            · rw [q]; exact cl
            · exact gLess_trans cl (hl.2 x hx q)
          · exact absurd hx hxk
        · rw [b32_f cl, if_pos rfl]
          unfold f_Md_findCell_85
          rw [bn_s, nI_1]
          refine nx (some f) ⟨onCirc_mem.mpr ⟨by omega, fm.2⟩, fun x hx hxf => ?_⟩
          rw [onCirc_y h0, List.mem_append, List.mem_singleton] at hx
          rcases hx with hx | hx
          · exact hl.2 x hx hxf
          · subst hx
            have := gLess_tri (hd x hkn f (by omega) hxf)
            exact this.resolve_left cl
    have skip : ∀ T', frK S T' → HL T' 10 (onCirc X Y a b c k) → ¬ gV X Y (gQ X Y) a b c k = 0 → Q (f_Md_findCell_85 (f_Md_findCell_14 fuel) (nI a) (nI b) (nI c) (oI o) (nI (onCirc X Y a b c k).length) (nI k) T') := by
      intro T' fr' hR' h0
      unfold f_Md_findCell_85
      rw [bn_s, nI_1]
      have nx := ih fuel (k + 1) o T' (by omega) (by omega) fr' (by rw [onCirc_n h0]; exact hR') (by rw [onCirc_n h0]; exact hl)
      rw [onCirc_n h0] at nx
      exact nx
    have eqs : ∀ x, x < n → (nI k = nI x ↔ k = x) := fun x hx => nI_eq (by omega) (by omega)
    by_cases ca : k = a
    · rw [if_pos (by rw [ca])]
      exact take T fr hR (by rw [ca]; exact gV_at1 _ _ _ _)
    rw [if_neg (fun q => ca ((eqs a ha).mp q))]
    by_cases cb : k = b
    · rw [if_pos (by rw [cb])]
      exact take T fr hR (by rw [cb]; exact gV_at2 _ _ _ _)
    rw [if_neg (fun q => cb ((eqs b hb).mp q))]
    by_cases cc : k = c
    · rw [if_pos (by rw [cc])]
      exact take T fr hR (by rw [cc]; exact gV_at3 _ _ _ _)
    rw [if_neg (fun q => cc ((eqs c hc).mp q))]
    obtain ⟨T', e1, e2⟩ := m_inCircle hT ha hb hc hkn
    rw [e1, bd_s]
    dsimp only
    have fr' := fr.trans (frK.ofL e2)
    have hR' : HL T' 10 (onCirc X Y a b c k) := hR.of (by show T'.2.2.2 10 = T.2.2.2 10; rw [e2.2])
    by_cases h0 : gV X Y (gQ X Y) a b c k = 0
    · rw [if_pos (sg_zero.mpr h0)]
      exact take T' fr' hR' h0
    · rw [if_neg (fun q => h0 (sg_zero.mp q))]
      exact skip T' fr' hR' h0
end
