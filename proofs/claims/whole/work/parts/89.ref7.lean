/-! THE REFERENCE'S SIDE, 7: a cell, left round -/
section
variable {S T : St} {n : Nat} {X Y : Nat → Int} {K R : List Nat}
/-- the next of the cell, so far -/
def bestO (X Y : Nat → Int) (R K : List Nat) (f j : Nat) (o : Option Nat) : Prop := match o with
  | none => ∀ i, i < j → R.getD i 0 ∈ K
  | some b => b ∈ R ∧ b ∉ K ∧ ∀ i, i < j → R.getD i 0 ∉ K → R.getD i 0 ≠ b → 0 < gO X Y f b (R.getD i 0)
theorem m_cell_in (hT : MP T n X Y) (hR : HL T 10 R) (hRn : ∀ x ∈ R, x < n) (hRl : R.length ≤ n) (hK : HL T 9 K) (h8 : gi T 8 = nI K.length) (hK1 : 0 < K.length) (hKl : K.length < n) (hKR : ∀ x ∈ K, x ∈ R) {f : Nat} (hs : ∀ p ∈ R, p ∉ K → ∀ q ∈ R, q ∉ K → p ≠ q → (gO X Y (K.getD (K.length - 1) 0) p q < 0 ↔ gO X Y f p q < 0)) (tr : ∀ p ∈ R, p ∉ K → ∀ q ∈ R, q ∉ K → ∀ r ∈ R, r ∉ K → 0 < gO X Y f p q → 0 < gO X Y f q r → 0 < gO X Y f p r) (nz : ∀ p ∈ R, p ∉ K → ∀ q ∈ R, q ∉ K → p ≠ q → gO X Y f p q ≠ 0) (hex : ∃ x ∈ R, x ∉ K) (k104 : Int32 → St → Option St) : ∀ (d fuel j : Nat) (o : Option Nat), j + d = R.length → d < fuel → bestO X Y R K f j o → ∃ b, b ∈ R ∧ b ∉ K ∧ (∀ x ∈ R, x ∉ K → x ≠ b → 0 < gO X Y f b x) ∧ f_Md_findCell_119 k104 fuel (nI R.length) (oI o) (nI j) T = k104 (nI R.length) (seti (seta T 9 (upd (ga T 9) K.length (nI b))) 8 (nI (K.length + 1))) := by
  have hn := hT.2.1
  have l9 := hT.2.2.1.2.2.2.2.2.2.2.2.1
  have l10 := hT.2.2.1.2.2.2.2.2.2.2.2.2.1
  have hlast := getD_mem' (l := K) (i := K.length - 1) (by omega)
  have hlastn := hRn _ (hKR _ hlast)
  intro d
  induction d with
  | zero =>
    intro fuel j o hj hf ho
    obtain ⟨fuel, rfl⟩ : ∃ j, fuel = j + 1 := ⟨fuel - 1, by omega⟩
    rw [f_Md_findCell_119]
    dsimp only
    rw [if_pos (nI_le (by omega) (by omega))]
    cases o with
    | none =>
      exfalso
      obtain ⟨x, hx, hxk⟩ := hex
      obtain ⟨i, hi, e⟩ := mem_getD hx
      exact hxk (by rw [← e]; exact ho i (by omega))
    | some b =>
      refine ⟨b, ho.1, ho.2.1, fun x hx hxk hxb => ?_, ?_⟩
      · obtain ⟨i, hi, e⟩ := mem_getD hx
        subst e
        exact ho.2.2 i (by omega) hxk hxb
      · rw [h8, l9, inb_n (by omega) (by omega), as_s, bn_s, bn_s, nI_clampN (by omega), gi_seta, h8, nI_1]
        rfl
  | succ d ih =>
    intro fuel j o hj hf ho
    obtain ⟨fuel, rfl⟩ : ∃ j, fuel = j + 1 := ⟨fuel - 1, by omega⟩
    have hjR := getD_mem' (l := R) (i := j) (by omega)
    have hjn := hRn _ hjR
    rw [f_Md_findCell_119]
    dsimp only
    rw [if_neg (nI_ge (by omega) (by omega)), l10, inb_n (by omega) (by omega), as_s, nI_clampN (by omega), hR j (by omega), m_isCelled hK h8 l9 (by omega) (fun x hx => by have := hRn x (hKR x hx); omega) (by omega), bd_s]
    dsimp only
    have skip : ∀ o', bestO X Y R K f (j + 1) o' → ∃ b, b ∈ R ∧ b ∉ K ∧ (∀ x ∈ R, x ∉ K → x ≠ b → 0 < gO X Y f b x) ∧ f_Md_findCell_181 k104 (f_Md_findCell_119 k104 fuel) (nI R.length) (oI o') (nI j) T = k104 (nI R.length) (seti (seta T 9 (upd (ga T 9) K.length (nI b))) 8 (nI (K.length + 1))) := by
      intro o' ho'
      unfold f_Md_findCell_181
      rw [bn_s, nI_1]
      exact ih fuel (j + 1) o' (by omega) (by omega) ho'
    have take : bestO X Y R K f (j + 1) (some (R.getD j 0)) → ∃ b, b ∈ R ∧ b ∉ K ∧ (∀ x ∈ R, x ∉ K → x ≠ b → 0 < gO X Y f b x) ∧ f_Md_findCell_172 k104 (f_Md_findCell_119 k104 fuel) (nI R.length) (nI j) T = k104 (nI R.length) (seti (seta T 9 (upd (ga T 9) K.length (nI b))) 8 (nI (K.length + 1))) := by
      intro ho'
      unfold f_Md_findCell_172
      rw [l10, inb_n (by omega) (by omega), as_s, bn_s, nI_clampN (by omega), hR j (by omega)]
      exact skip _ ho'
    by_cases ck : R.getD j 0 ∈ K
    · rw [b32_t ck, if_neg (by decide)]
      refine skip o ?_
      cases o with
      | none =>
        intro i hi
        by_cases q : i = j
        · rw [q]; exact ck
        · exact ho i (by omega)
      | some b =>
        refine ⟨ho.1, ho.2.1, fun i hi h1 h2 => ?_⟩
        by_cases q : i = j
        · rw [q] at h1; exact absurd ck h1
        · exact ho.2.2 i (by omega) h1 h2
    · rw [b32_f ck, if_pos rfl]
      cases o with
      | none =>
        rw [if_pos (show oI none < 0 by decide)]
        refine take ⟨hjR, ck, fun i hi h1 h2 => ?_⟩
        by_cases q : i = j
        · rw [q] at h2; exact absurd rfl h2
        · exact absurd (ho i (by omega)) h1
      | some b =>
        have hbn := hRn b ho.1
        rw [if_neg (show ¬ oI (some b) < 0 from nI_pos (by omega)), show oI (some b) = nI b from rfl, h8, l9]
        have e1 : nI K.length - 1 = nI (K.length - 1) := by
          obtain ⟨m, hm⟩ : ∃ m, K.length = m + 1 := ⟨K.length - 1, by omega⟩
          rw [hm, nI_pred]; rfl
        rw [e1, inb_n (by omega) (by omega), as_s, l10, inb_n (by omega) (by omega), as_s, nI_clampN (by omega), hK _ (by omega), hR j (by omega), m_sideOf hT hlastn hbn hjn, bd_s]
        dsimp only
        have sn : 0 ≤ sg (gO X Y (K.getD (K.length - 1) 0) b (R.getD j 0)) ↔ ¬ gO X Y (K.getD (K.length - 1) 0) b (R.getD j 0) < 0 := by rw [← Int32.not_lt, sg_neg]
        by_cases e : b = R.getD j 0
        · rw [if_pos (sn.mpr (by rw [← e, gO_22]; decide))]
          refine skip (some b) ⟨ho.1, ho.2.1, fun i hi h1 h2 => ?_⟩
          by_cases q : i = j
          · rw [q] at h2; exact absurd e.symm h2
          · exact ho.2.2 i (by omega) h1 h2
        · have sgn := hs b ho.1 ho.2.1 _ hjR ck e
          have ne := nz b ho.1 ho.2.1 _ hjR ck e
          by_cases c : gO X Y f b (R.getD j 0) < 0
          · rw [if_neg (fun q => sn.mp q (sgn.mpr c))]
            have c' : 0 < gO X Y f (R.getD j 0) b := by rw [gO_23]; omega
            refine take ⟨hjR, ck, fun i hi h1 h2 => ?_⟩
            by_cases q : i = j
            · rw [q] at h2; exact absurd rfl h2
            · by_cases r : R.getD i 0 = b
              · rw [r]; exact c'
              · exact tr _ hjR ck _ ho.1 ho.2.1 _ (getD_mem' (by omega)) h1 c' (ho.2.2 i (by omega) h1 r)
          · rw [if_pos (sn.mpr (fun q => c (sgn.mp q)))]
            refine skip (some b) ⟨ho.1, ho.2.1, fun i hi h1 h2 => ?_⟩
            by_cases q : i = j
            · rw [q]; omega
            · exact ho.2.2 i (by omega) h1 h2
/-- the cell so far -/
def WR (X Y : Nat → Int) (R : List Nat) (f : Nat) (K : List Nat) : Prop := K.Nodup ∧ (∀ x ∈ K, x ∈ R) ∧ ∃ T', K = f :: T' ∧ T'.Pairwise (fun p q => 0 < gO X Y f p q) ∧ ∀ t ∈ T', ∀ d ∈ R, d ∉ K → 0 < gO X Y f t d
theorem m_cell_out (hd : ∀ i, i < n → ∀ j, j < n → i ≠ j → dif X Y i j) {a b c : Nat} (hO : gO X Y a b c ≠ 0) {f : Nat} (hRn : ∀ x, x ∈ R ↔ x < n ∧ gV X Y (gQ X Y) a b c x = 0) (hRd : R.Nodup) (hRl : R.length ≤ n) : ∀ (d fuel : Nat) (K : List Nat) (T : St), MP T n X Y → HL T 10 R → HL T 9 K → gi T 8 = nI K.length → WR X Y R f K → K.length + d = R.length → d < fuel → ∃ T' K', f_Md_findCell_104 fuel (nI R.length) T = some T' ∧ K'.length = R.length ∧ WR X Y R f K' ∧ HL T' 9 K' ∧ gi T' 8 = nI K'.length ∧ frK T T' := by
  intro d
  induction d with
  | zero =>
    intro fuel K T hT hR hK h8 hW hl hf
    have hn := hT.2.1
    obtain ⟨fuel, rfl⟩ : ∃ j, fuel = j + 1 := ⟨fuel - 1, by omega⟩
    rw [f_Md_findCell_104]
    dsimp only
    rw [h8, if_pos (nI_le (by omega) (by omega))]
    exact ⟨T, K, rfl, by omega, hW, hK, h8, frK.rfl' T⟩
  | succ d ih =>
    intro fuel K T hT hR hK h8 hW hl hf
    have hn := hT.2.1
    obtain ⟨fuel, rfl⟩ : ∃ j, fuel = j + 1 := ⟨fuel - 1, by omega⟩
    rw [f_Md_findCell_104]
    dsimp only
    rw [h8, if_neg (nI_ge (by omega) (by omega))]
    obtain ⟨w1, w2, T', w3, w4, w5⟩ := hW
    have k1 : 0 < K.length := by rw [w3]; simp
    have fK : f ∈ K := by rw [w3]; exact List.mem_cons_self ..
    have fR := (hRn f).mp (w2 f fK)
    have nef : ∀ p, p ∉ K → p ≠ f := fun p hp q => hp (by rw [q]; exact fK)
    have df : ∀ p ∈ R, ∀ q ∈ R, p ≠ q → dif X Y p q := fun p hp q hq h => hd p ((hRn p).mp hp).1 q ((hRn q).mp hq).1 h
    have four : ∀ p ∈ R, ∀ q ∈ R, ∀ r ∈ R, gV X Y (gQ X Y) f p q r = 0 := fun p hp q hq r hr => circ_four hO fR.2 ((hRn p).mp hp).2 ((hRn q).mp hq).2 ((hRn r).mp hr).2
    have nz : ∀ p ∈ R, p ∉ K → ∀ q ∈ R, q ∉ K → p ≠ q → gO X Y f p q ≠ 0 := fun p hp pk q hq qk hpq => circ_ne hO fR.2 ((hRn p).mp hp).2 ((hRn q).mp hq).2 (df f (w2 f fK) p hp (fun z => nef p pk z.symm)) (df q hq f (w2 f fK) (nef q qk)) (df q hq p hp (fun z => hpq z.symm))
    have tr : ∀ p ∈ R, p ∉ K → ∀ q ∈ R, q ∉ K → ∀ r ∈ R, r ∉ K → 0 < gO X Y f p q → 0 < gO X Y f q r → 0 < gO X Y f p r := fun p hp pk q hq qk r hr rk h1 h2 => circ_trans (four p hp q hq r hr) (df p hp f (w2 f fK) (nef p pk)) (df q hq f (w2 f fK) (nef q qk)) (df r hr f (w2 f fK) (nef r rk)) h1 h2
    have hs : ∀ p ∈ R, p ∉ K → ∀ q ∈ R, q ∉ K → p ≠ q → (gO X Y (K.getD (K.length - 1) 0) p q < 0 ↔ gO X Y f p q < 0) := by
      intro p hp pk q hq qk hpq
      have lm := getD_mem' (l := K) (i := K.length - 1) (by omega)
      generalize K.getD (K.length - 1) 0 = last at lm
      by_cases c : last = f
      · rw [c]
      · have lT : last ∈ T' := by
          rw [w3] at lm
          rcases List.mem_cons.mp lm with r | r
          · exact absurd r c
          · exact r
        have lR := w2 _ lm
        have nl : ∀ p, p ∉ K → p ≠ last := fun p hp q => hp (by rw [q]; exact lm)
        have go : ∀ p ∈ R, p ∉ K → ∀ q ∈ R, q ∉ K → p ≠ q → 0 < gO X Y f p q → 0 < gO X Y last p q := fun p hp pk q hq qk hpq h => circ_mid (four last lR p hp q hq) (df f (w2 f fK) p hp (fun z => nef p pk z.symm)) (df last lR p hp (fun z => nl p pk z.symm)) (df q hq p hp (fun z => hpq z.symm)) (w5 last lT p hp pk) h
        have n0 := nz p hp pk q hq qk hpq
        constructor
        · intro h
          by_cases z : gO X Y f p q < 0
          · exact z
          · have := go p hp pk q hq qk hpq (by omega)
            omega
        · intro h
          have h' : 0 < gO X Y f q p := by rw [gO_23]; omega
          have := go q hq qk p hp pk (fun z => hpq z.symm) h'
          rw [gO_23] at this
          omega
    have hex : ∃ x ∈ R, x ∉ K := by
      by_cases q : ∃ x ∈ R, x ∉ K
      · exact q
      · exfalso
        have := nodup_le hRd (l2 := K) (fun x hx => Classical.byContradiction (fun z => q ⟨x, hx, z⟩))
        omega
    obtain ⟨nb, b1, b2, b3, b4⟩ := m_cell_in hT hR (fun x hx => ((hRn x).mp hx).1) hRl hK h8 k1 (by omega) w2 hs tr nz hex (f_Md_findCell_104 fuel) R.length FU 0 none (by omega) (by have := FU_big; omega) (fun i hi => by omega)
    rw [show (-1 : Int32) = oI none from rfl, show (0 : Int32) = nI 0 from rfl, b4]
    generalize hU : seti (seta T 9 (upd (ga T 9) K.length (nI nb))) 8 (nI (K.length + 1)) = U
    have frU : frK T U := by
      rw [← hU]
      exact ⟨fun k hk => by rw [gi_seti_ne _ _ hk]; rfl, rfl, fun k h1 h2 => by rw [ga_seti, ga_seta_ne _ _ h1]⟩
    have len : (K ++ [nb]).length = K.length + 1 := by simp
    have W2 : WR X Y R f (K ++ [nb]) := by
      refine ⟨?_, ?_, T' ++ [nb], by rw [w3]; rfl, ?_, ?_⟩
      · rw [List.nodup_append]
        refine ⟨w1, by simp, fun x hx y hy e => ?_⟩
        rw [List.mem_singleton] at hy
        rw [e, hy] at hx
        exact b2 hx
      · intro x hx
        rcases List.mem_append.mp hx with q | q
        · exact w2 x q
        · rw [List.mem_singleton.mp q]; exact b1
      · rw [List.pairwise_append]
        refine ⟨w4, by simp, fun x hx y hy => ?_⟩
        rw [List.mem_singleton.mp hy]
        exact w5 x hx nb b1 b2
      · intro t ht x hx hxk
        have hxK : x ∉ K := fun q => hxk (List.mem_append.mpr (Or.inl q))
        have hxn : x ≠ nb := fun q => hxk (List.mem_append.mpr (Or.inr (by rw [q]; simp)))
        rcases List.mem_append.mp ht with q | q
        · exact w5 t q x hx hxK
        · rw [List.mem_singleton.mp q]; exact b3 x hx hxK hxn
    obtain ⟨T2, K2, c1, c2, c3, c4, c5, c6⟩ := ih fuel (K ++ [nb]) U (frU.mp hT) (hR.of (by rw [← hU, ga_seti, ga_seta_ne _ _ (by decide)])) (hK.put (by rw [← hU, ga_seti, ga_seta])) (by rw [← hU, gi_seti, len]) W2 (by rw [len]; omega) (by omega)
    exact ⟨T2, K2, c1, c2, c3, c4, c5, frU.trans c6⟩
/-- a cell -/
theorem m_findCell (h : MP S n X Y) (hd : ∀ i, i < n → ∀ j, j < n → i ≠ j → dif X Y i j) {a b c : Nat} (ha : a < n) (hb : b < n) (hc : c < n) (hO : gO X Y a b c ≠ 0) : ∃ T K, f_Md_findCell (nI a) (nI b) (nI c) S = some T ∧ CELL X Y (List.range n) a b c K ∧ K.length ≤ n ∧ HL T 9 K ∧ gi T 8 = nI K.length ∧ frK S T := by
  have hn := h.2.1
  unfold f_Md_findCell f_Md_findCell_0
  rw [bn_s]
  have fr0 : frK S (seti S 8 0) := ⟨fun k hk => gi_seti_ne _ _ hk, rfl, fun k _ _ => rfl⟩
  have main := m_cell_1 (fr0.mp h) hd ha hb hc (Q := fun r => ∃ T K, r = some T ∧ CELL X Y (List.range n) a b c K ∧ K.length ≤ n ∧ HL T 9 K ∧ gi T 8 = nI K.length ∧ frK S T) ?_ n FU 0 none (seti S 8 0) (by omega) (by have := FU_big; omega) (frK.rfl' _) (fun i hi => absurd hi (Nat.not_lt_zero _)) (show onCirc X Y a b c 0 = [] from rfl)
  · exact main
  · intro T f fr hR hK h8 hl
    have hRn : ∀ x, x ∈ onCirc X Y a b c n ↔ x < n ∧ gV X Y (gQ X Y) a b c x = 0 := fun x => onCirc_mem
    have hRl := onCirc_len (X := X) (Y := Y) a b c n
    have h1 : 1 ≤ (onCirc X Y a b c n).length := List.length_pos_of_mem hl.1
    obtain ⟨T', K, e1, e2, e3, e4, e5, e6⟩ := m_cell_out hd hO (f := f) hRn (onCirc_nodup a b c n) hRl ((onCirc X Y a b c n).length - 1) FU [f] T ((fr0.trans fr).mp h) hR hK h8 ⟨by simp, fun x hx => by rw [List.mem_singleton.mp hx]; exact hl.1, [], rfl, List.Pairwise.nil, fun t ht => absurd ht List.not_mem_nil⟩ (by simp; omega) (by have := FU_big; omega)
    refine ⟨T', K, e1, ?_, by omega, e4, e5, (fr0.trans fr).trans e6⟩
    obtain ⟨w1, w2, TT, w3, w4, w5⟩ := e3
    have pm := perm_of_sub K (onCirc X Y a b c n) w1 w2 (by omega)
    have mem : ∀ d, d ∈ K ↔ d < n ∧ gV X Y (gQ X Y) a b c d = 0 := fun d => by rw [pm.mem_iff, hRn]
    refine ⟨fun d => by rw [mem, List.mem_range], w1, f, TT, w3, fun d hd' => ?_, w4⟩
    have nf : d ≠ f := by
      rw [w3, List.nodup_cons] at w1
      exact fun q => w1.1 (by rw [← q]; exact hd')
    exact hl.2 d (w2 d (by rw [w3]; exact List.mem_cons_of_mem _ hd')) nf
end
