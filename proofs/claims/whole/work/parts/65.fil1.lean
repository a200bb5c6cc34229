/-! FILLING: what single writes do -/
/-- starts alone -/
def NS (S : St) (m G : Nat) (s : Nat → Nat) : Prop := gi S 4 = nI G ∧ G ≤ 1024 ∧ m ≤ 2048 ∧ Cap S 8 (3 * m) ∧ ∀ e, e < 3 * m → ga S 8 e = nI (s e) ∧ s e ≤ 1024
theorem NV.ns {S : St} {m G : Nat} {s tw : Nat → Nat} (h : NV S m G s tw) : NS S m G s := ⟨h.1, h.2.2.1, h.2.2.2.1, h.2.2.2.2.1, h.2.2.2.2.2.2.1⟩
section
variable {S : St} {m G n : Nat} {s : Nat → Nat}
theorem NS.st (h : NS S m G s) {e : Nat} (he : e < 3 * m) : f_Rw_get 8 (nI e) S = some (nI (s e), S) := by
  rw [get_ok h.2.2.2.1 he, (h.2.2.2.2 e he).1]
theorem NS.small (h : NS S m G s) {e : Nat} (he : e < 3 * m) : e < 1000000 := by
  have := h.2.2.1
  omega
theorem n_startOf (h : NS S m G s) {e : Nat} (he : e < 3 * m) : f_Nt_startOf (nI e) S = some (nI (s e), S) := by
  unfold f_Nt_startOf f_Nt_startOf_0
  rw [h.st he, bd_s]
theorem n_endOf (h : NS S m G s) {e : Nat} (he : e < 3 * m) : f_Nt_endOf (nI e) S = some (nI (s (nx e)), S) := by
  unfold f_Nt_endOf f_Nt_endOf_0
  rw [show (1 : Int32) = nI 1 from rfl, f_ahead (h.small he) (by decide), bd_s]
  dsimp only
  rw [ah_1, h.st (nx_lt he), bd_s]
theorem NS.isG (h : NS S m G s) {e : Nat} (he : e < 3 * m) : (nI (s e) = gi S 4) = (s e = G) := by
  rw [h.1]
  have h1 := (h.2.2.2.2 e he).2
  have h2 := h.2.1
  exact propext (nI_eq (by omega) (by omega))
theorem n_isOuter (h : NS S m G s) {t : Nat} (ht : t < m) : f_Nt_isOuter (nI (3 * t)) S = some (b32 (sol G s t = false), S) := by
  have hm := h.2.2.1
  unfold f_Nt_isOuter f_Nt_isOuter_0
  rw [bn_s, nI_rem3 (by omega), nI_sub (by omega)]
  have e1 : 3 * t - 3 * t % 3 = 3 * t := by omega
  rw [e1]
  have l0 : 3 * t < 3 * m := by omega
  have l1 : 3 * t + 1 < 3 * m := by omega
  have l2 : 3 * t + 2 < 3 * m := by omega
  rw [h.st l0, bd_s]
  dsimp only
  have sf : sol G s t = false ↔ (s (3 * t) = G ∨ s (3 * t + 1) = G ∨ s (3 * t + 2) = G) := by
    unfold sol
    by_cases a : s (3 * t) = G <;> by_cases b : s (3 * t + 1) = G <;> by_cases c : s (3 * t + 2) = G <;> simp [a, b, c]
  simp only [h.isG l0]
  by_cases c0 : s (3 * t) = G
  · rw [if_pos c0]
    unfold f_Nt_isOuter_55
    rw [b32_t (sf.mpr (Or.inl c0))]
  · rw [if_neg c0, nI_1, h.st l1, bd_s]
    dsimp only
    simp only [h.isG l1]
    by_cases c1 : s (3 * t + 1) = G
    · rw [if_pos c1]
      unfold f_Nt_isOuter_55
      rw [b32_t (sf.mpr (Or.inr (Or.inl c1)))]
    · rw [if_neg c1, nI_2, h.st l2, bd_s]
      dsimp only
      simp only [h.isG l2]
      by_cases c2 : s (3 * t + 2) = G
      · rw [if_pos c2]
        unfold f_Nt_isOuter_55
        rw [b32_t (sf.mpr (Or.inr (Or.inr c2)))]
      · rw [if_neg c2, b32_f]
        intro q
        exact (sf.mp q).elim c0 (fun z => z.elim c1 c2)
/-- the place of a point among the edges that leave -/
def plc (G v : Nat) : Nat := if v = G then 0 else v + 1
theorem n_placeOf (h4 : gi S 4 = nI G) (hG : G ≤ 1024) {v : Nat} (hv : v ≤ 1024) : f_Nt_placeOf (nI v) S = some (nI (plc G v), S) := by
  unfold f_Nt_placeOf f_Nt_placeOf_0 plc
  rw [h4]
  by_cases c : v = G
  · rw [if_pos (by rw [c]), if_pos c]
    rfl
  · rw [if_neg (fun q => c ((nI_eq (by omega) (by omega)).mp q)), if_neg c, nI_1]
theorem plc_inj {G a b : Nat} (h : plc G a = plc G b) : a = b := by
  unfold plc at h
  split at h <;> split at h <;> omega
theorem n_join {K : Nat} (hc : Cap S 9 K) {a b : Nat} (ha : a < K) (hb : b < K) : ∃ T, f_Nt_join (nI a) (nI b) S = some T ∧ T = seta S 9 (upd (upd (ga S 9) a (nI b)) b (nI a)) := by
  unfold f_Nt_join f_Nt_join_0
  rw [put_ok hc ha, bd_s]
  have hc2 : Cap (seta S 9 (upd (ga S 9) a (nI b))) 9 K := hc
  rw [put_ok hc2 hb, bd_s]
  refine ⟨_, rfl, ?_⟩
  rw [ga_seta]
  unfold seta
  have : up1 (up1 S.2.2.2 9 (upd (ga S 9) a (nI b))) 9 (upd (upd (ga S 9) a (nI b)) b (nI a)) = up1 S.2.2.2 9 (upd (upd (ga S 9) a (nI b)) b (nI a)) := by
    funext k
    by_cases c : k = 9
    · rw [c, up1_same, up1_same]
    · rw [up1_ne _ _ c, up1_ne _ _ c, up1_ne _ _ c]
  show (S.1, S.2.1, S.2.2.1, up1 (up1 S.2.2.2 9 (upd (ga S 9) a (nI b))) 9 (upd (upd (ga S 9) a (nI b)) b (nI a))) = _
  rw [this]
/-- a triangle is written: what changes -/
theorem n_setTriangle {K L : Nat} (h4 : gi S 4 = nI G) (hG : G ≤ 1024) (c8 : Cap S 8 (3 * K)) (c10 : Cap S 10 L) {t a b c : Nat} (ht : t < K) (hK : K ≤ 2048) (ha : a ≤ 1024) (hc : c ≤ 1024) (pa : plc G a < L) (pc : plc G c < L) :
    ∃ T, f_Nt_setTriangle (nI t) (nI a) (nI b) (nI c) S = some T ∧ T.1 = S.1 ∧ T.2.1 = S.2.1 ∧ T.2.2.1 = S.2.2.1 ∧ (∀ k, k ≠ 8 → k ≠ 10 → ga T k = ga S k) ∧ ga T 8 = upd (upd (upd (ga S 8) (3 * t) (nI a)) (3 * t + 1) (nI b)) (3 * t + 2) (nI c) ∧ ga T 10 = upd (upd (ga S 10) (plc G a) (nI (3 * t))) (plc G c) (nI (3 * t + 2)) := by
  unfold f_Nt_setTriangle f_Nt_setTriangle_0
  rw [bn_s, show (3 : Int32) = nI 3 from rfl, nI_mul, put_ok c8 (show 3 * t < 3 * K by omega), bd_s]
  generalize hA : seta S 8 (upd (ga S 8) (3 * t) (nI a)) = A
  have cA : Cap A 8 (3 * K) := hA ▸ c8
  rw [nI_1, put_ok cA (show 3 * t + 1 < 3 * K by omega), bd_s]
  generalize hB : seta A 8 (upd (ga A 8) (3 * t + 1) (nI b)) = B
  have cB : Cap B 8 (3 * K) := hB ▸ cA
  rw [nI_2, put_ok cB (show 3 * t + 2 < 3 * K by omega), bd_s]
  generalize hC : seta B 8 (upd (ga B 8) (3 * t + 2) (nI c)) = C
  have i4 : gi C 4 = nI G := by rw [← hC, gi_seta, ← hB, gi_seta, ← hA, gi_seta]; exact h4
  rw [n_placeOf i4 hG ha, bd_s]
  dsimp only
  have cC : Cap C 10 L := hC ▸ hB ▸ hA ▸ c10
  rw [put_ok cC pa, bd_s]
  generalize hD : seta C 10 (upd (ga C 10) (plc G a) (nI (3 * t))) = D
  have i5 : gi D 4 = nI G := by rw [← hD, gi_seta]; exact i4
  rw [n_placeOf i5 hG hc, bd_s]
  dsimp only
  have cD : Cap D 10 L := hD ▸ cC
  rw [put_ok cD pc, bd_s]
  refine ⟨_, rfl, ?_, ?_, ?_, ?_, ?_, ?_⟩
  · rw [← hD, ← hC, ← hB, ← hA]; rfl
  · rw [← hD, ← hC, ← hB, ← hA]; rfl
  · rw [← hD, ← hC, ← hB, ← hA]; rfl
  · intro k k1 k2
    rw [ga_seta_ne _ _ k2, ← hD, ga_seta_ne _ _ k2, ← hC, ga_seta_ne _ _ k1, ← hB, ga_seta_ne _ _ k1, ← hA, ga_seta_ne _ _ k1]
  · rw [ga_seta_ne _ _ (by decide), ← hD, ga_seta_ne _ _ (by decide), ← hC, ga_seta, ← hB, ga_seta, ← hA, ga_seta]
  · rw [ga_seta, ← hD, ga_seta, ← hC, ga_seta_ne _ _ (by decide), ← hB, ga_seta_ne _ _ (by decide), ← hA, ga_seta_ne _ _ (by decide)]
end
