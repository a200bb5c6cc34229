/-! the four methods of Row -/
theorem nI_mul (a b : Nat) : nI a * nI b = nI (a * b) := (Int32.ofNat_mul a b).symm
theorem i32_div32 {n : Nat} (h : n < 2 ^ 31) : nI n / 32 = nI (n / 32) := by
  apply Int32.toInt_inj.mp
  rw [Int32.toInt_div, nI_toInt h, nI_toInt (by omega), show (32 : Int32).toInt = 32 from rfl]
  have h1 : (n : Int).tdiv 32 = ((n / 32 : Nat) : Int) := by
    rw [Int.tdiv_eq_ediv_of_nonneg (by omega)]
    omega
  rw [h1]
  rw [Int.bmod_eq_of_le (by omega) (by omega)]
theorem i32_rem32 {n : Nat} (h : n < 2 ^ 31) : nI n - nI n / 32 * 32 = nI (n % 32) := by
  rw [i32_div32 h, show (32 : Int32) = nI 32 from rfl, nI_mul]
  have : nI n = nI (n % 32) + nI (n / 32 * 32) := by
    rw [nI_add]
    congr 1
    omega
  rw [this, Int32.add_sub_cancel]
def rin (S : St) (k : Nat) (x : Int32) : Bool := decide (0 ≤ x.toInt ∧ x.toInt.toNat / 32 < gn S (k + nRow) ∧ x.toInt.toNat / 32 < gn S k)
theorem rin_neg {S : St} {k : Nat} {x : Int32} (h : x < 0) : rin S k x = false := by
  have := Int32.lt_iff_toInt_lt.mp h
  have h0 : (0 : Int32).toInt = 0 := rfl
  rw [h0] at this
  exact decide_eq_false (fun q => by omega)
theorem rin_nI {S : St} {k n : Nat} (h : n < 2 ^ 31) : rin S k (nI n) = decide (n / 32 < gn S (k + nRow) ∧ n / 32 < gn S k) := by
  unfold rin
  rw [nI_toInt h]
  simp
def f_Rw_get (k : Nat) (x : Int32) (S : St) : Option (Int32 × St) := as_ (Nat.ble (gn S (k + nRow)) 100000) (some (cond (rin S k x) (ga S k x.toInt.toNat) 0, S))
def f_Rw_put (k : Nat) (x v : Int32) (S : St) : Option St := as_ (Nat.ble (gn S (k + nRow)) 100000) (some (cond (rin S k x) (seta S k (upd (ga S k) x.toInt.toNat v)) S))
def f_Rw_reach (k : Nat) (x : Int32) (S : St) : Option St := as_ (Nat.ble (gn S (k + nRow)) 100000 && Nat.ble (gn S k) (gn S (k + nRow)))
  (if gn S k < gn S (k + nRow) ∧ ((32 * gn S k : Nat) : Int) < x.toInt then (if gn S k + 1 < gn S (k + nRow) ∧ ((32 * (gn S k + 1) : Nat) : Int) < x.toInt then none else some (grow S k)) else some S)
set_option maxHeartbeats 4000000 in
theorem c_Rw_get (l : Launch) (D : va_G) (cA cP : ClassId) (ob : Nat → Nat) (ad : Nat → Nat → Nat) (k : Nat) (x1 : Int32) (hk : isRow k) (S : St) {res : Int32 × St} (hf : f_Rw_get k x1 S = some res) : CTi l y_Rw_get w_Rw_get rm_Rw_get 0 0 D clC (TY cA cP) [.ref (ob k), .int x1] (cw cA cP ob ad S) (fun r w => r = res.1 ∧ w = cw cA cP ob ad res.2) := by
  refine mk_i (cc := b_Rw_get) (maxL := 4) (own := R_Rw) (by decide) rfl rfl (Nat.le_of_ble_eq_true rfl) ?_
  intro p e s m below meth c A Q C0 hret ls hl hP hD hS
  obtain ⟨hx, hb, hml, hown, hts, hK, hA, hN, hZ⟩ := id C0
  have hl : lv_has ls 4 [(0, .ref (ob k)), (1, .int x1)] := hl
  obtain ⟨hle, hf⟩ := as_some hf
  have hle := Nat.le_of_ble_eq_true hle
  cases hf
  refine lv_iload_n hx hb d_Rw_get_0 rfl (lv_at hl 1 rfl) ?_
  refine lv_if_lt (tgt := 16) hx hb d_Rw_get_1 (by decide) (fun c_1 => ?_) (fun c_1 => ?_)
  · refine lv_iconst (v := 0) hx hb d_Rw_get_16 (by decide) ?_
    exact hret _ _ _ _ _ _ ⟨by rw [rin_neg c_1]; rfl, rfl⟩ hP hD hS d_Rw_get_17
  obtain ⟨n, hn, rfl⟩ := nI_of c_1
  refine lv_iload_n hx hb d_Rw_get_4 rfl (lv_at hl 1 rfl) ?_
  refine lv_bipush (v := 32) hx hb d_Rw_get_5 (by decide) ?_
  refine lv_idiv hx hb d_Rw_get_7 (by decide) ?_
  rw [i32_div32 hn]
  refine lv_aload_n hx hb d_Rw_get_8 rfl (lv_at hl 0 rfl) ?_
  refine va_get (D := D) (ci := 6) (v := .ref (ob (k + nRow))) (C := R_Rw) (T := F_Rw) (N := 2) hx hb hts (fun w h => List.mem_cons_of_mem _ (in_Rw w h)) hown hK hP k (cw_row S hk) rfl 0 (by decide) (hts _ (List.mem_cons_of_mem _ wd_108)) (fun _ h9 => h9) rfl d_Rw_get_9 ?_
  refine va_alen (v := nI (gn S (k + nRow))) hx hb hK hP (k + nRow) 1 (cw_pgc S hk) rfl rfl d_Rw_get_12 ?_
  refine lv_icmp_lt (tgt := 18) hx hb d_Rw_get_13 (by decide) (fun c_2 => ?_) (fun c_2 => ?_)
  · rw [nI_ltI (by omega) (by omega)] at c_2
    refine lv_aload_n hx hb d_Rw_get_18 rfl (lv_at hl 0 rfl) ?_
    refine va_get (D := D) (ci := 6) (v := .ref (ob (k + nRow))) (C := R_Rw) (T := F_Rw) (N := 2) hx hb hts (fun w h => List.mem_cons_of_mem _ (in_Rw w h)) hown hK hP k (cw_row S hk) rfl 0 (by decide) (hts _ (List.mem_cons_of_mem _ wd_108)) (fun _ h9 => h9) rfl d_Rw_get_19 ?_
    refine lv_iload_n hx hb d_Rw_get_22 rfl (lv_at hl 1 rfl) ?_
    refine lv_bipush (v := 32) hx hb d_Rw_get_23 (by decide) ?_
    refine lv_idiv hx hb d_Rw_get_25 (by decide) ?_
    rw [i32_div32 hn]
    refine va_ald2 hx hb hK hP (k + nRow) (cw_pgc S hk) (nI_in c_2 (by omega)) d_Rw_get_26 ?_
    rw [nI_clamp (by omega)]
    by_cases hm : n / 32 < gn S k
    · have hb1 : Nat.blt (n / 32) (gn S k) = true := blt_t hm
      simp only [hb1, cond_true, va_rf]
      refine lv_astore_n (lv' := [(2, .ref (ad k (n / 32))), (0, .ref (ob k)), (1, .int (nI n))]) hx hb d_Rw_get_27 rfl hl (by decide) rfl (fun ls hl => ?_)
      refine lv_iload_n hx hb d_Rw_get_28 rfl (lv_at hl 2 rfl) ?_
      refine lv_bipush (v := 32) hx hb d_Rw_get_29 (by decide) ?_
      refine lv_irem hx hb d_Rw_get_31 (by decide) ?_
      rw [i32_rem32 hn]
      refine lv_istore_n (lv' := [(3, .int (nI (n % 32))), (2, .ref (ad k (n / 32))), (0, .ref (ob k)), (1, .int (nI n))]) hx hb d_Rw_get_32 rfl hl (by decide) rfl (fun ls hl => ?_)
      refine lv_aload_n hx hb d_Rw_get_33 rfl (lv_at hl 1 rfl) ?_
      refine lv_ifnull hx hb d_Rw_get_34 ?_
      refine lv_iload_n hx hb d_Rw_get_37 rfl (lv_at hl 0 rfl) ?_
      refine lv_aload_n hx hb d_Rw_get_38 rfl (lv_at hl 1 rfl) ?_
      obtain ⟨i, hi⟩ := cw_page (cA := cA) (cP := cP) (ob := ob) (ad := ad) S hk hm
      refine va_alen (v := nI 32) hx hb hK hP i 0 hi rfl rfl d_Rw_get_39 ?_
      refine lv_icmp_ge (tgt := 49) hx hb d_Rw_get_40 (by decide) (fun c_3 => absurd c_3 (nI_ge (by omega) (by omega))) (fun _ => ?_)
      refine lv_aload_n hx hb d_Rw_get_43 rfl (lv_at hl 1 rfl) ?_
      refine lv_iload_n hx hb d_Rw_get_44 rfl (lv_at hl 0 rfl) ?_
      refine va_iald hx hb hK hP i 0 hi rfl (nI_in (by omega) (by omega)) d_Rw_get_45 ?_
      refine lv_goto (tgt := 50) hx hb d_Rw_get_46 (by decide) ?_
      refine hret _ _ _ _ _ _ ⟨?_, rfl⟩ hP hD hS d_Rw_get_50
      rw [rin_nI hn, decide_eq_true ⟨c_2, hm⟩, nI_clamp (by omega), nI_toInt hn]
      have h1 : Nat.blt (n % 32) 32 = true := blt_t (by omega)
      have h2 : 32 * (n / 32) + n % 32 = n := by omega
      simp only [pg, h1, cond_true, h2, Int.toNat_natCast]
    · have hb1 : Nat.blt (n / 32) (gn S k) = false := blt_f hm
      simp only [hb1, cond_false, va_rf]
      refine lv_astore_nN (lv' := [(2, .null), (0, .ref (ob k)), (1, .int (nI n))]) hx hb d_Rw_get_27 rfl hl (by decide) rfl (fun ls hl => ?_)
      refine lv_iload_n hx hb d_Rw_get_28 rfl (lv_at hl 2 rfl) ?_
      refine lv_bipush (v := 32) hx hb d_Rw_get_29 (by decide) ?_
      refine lv_irem hx hb d_Rw_get_31 (by decide) ?_
      rw [i32_rem32 hn]
      refine lv_istore_n (lv' := [(3, .int (nI (n % 32))), (2, .null), (0, .ref (ob k)), (1, .int (nI n))]) hx hb d_Rw_get_32 rfl hl (by decide) rfl (fun ls hl => ?_)
      refine lv_aload_nN hx hb d_Rw_get_33 rfl (lv_at hl 1 rfl) ?_
      refine lv_ifnullN (tgt := 49) hx hb d_Rw_get_34 (by decide) ?_
      refine lv_iconst (v := 0) hx hb d_Rw_get_49 (by decide) ?_
      refine hret _ _ _ _ _ _ ⟨?_, rfl⟩ hP hD hS d_Rw_get_50
      rw [rin_nI hn, decide_eq_false (fun q => hm q.2)]
      rfl
  · rw [nI_ltI (by omega) (by omega)] at c_2
    refine lv_iconst (v := 0) hx hb d_Rw_get_16 (by decide) ?_
    refine hret _ _ _ _ _ _ ⟨?_, rfl⟩ hP hD hS d_Rw_get_17
    rw [rin_nI hn, decide_eq_false (fun q => c_2 q.1)]
    rfl
set_option maxHeartbeats 4000000 in
theorem c_Rw_put (l : Launch) (D : va_G) (cA cP : ClassId) (ob : Nat → Nat) (ad : Nat → Nat → Nat) (k : Nat) (x1 x2 : Int32) (hk : isRow k) (S : St) {res : St} (hf : f_Rw_put k x1 x2 S = some res) : CTv l y_Rw_put w_Rw_put rm_Rw_put 0 0 D clC (TY cA cP) [.ref (ob k), .int x1, .int x2] (cw cA cP ob ad S) (fun w => w = cw cA cP ob ad res) := by
  refine mk_v (cc := b_Rw_put) (maxL := 5) (own := R_Rw) (by decide) rfl rfl (Nat.le_of_ble_eq_true rfl) ?_
  intro p e s m below meth c A Q C0 hret ls hl hP hD hS
  obtain ⟨hx, hb, hml, hown, hts, hK, hA, hN, hZ⟩ := id C0
  have hl : lv_has ls 5 [(0, .ref (ob k)), (1, .int x1), (2, .int x2)] := hl
  obtain ⟨hle, hf⟩ := as_some hf
  have hle := Nat.le_of_ble_eq_true hle
  cases hf
  refine lv_iload_n hx hb d_Rw_put_0 rfl (lv_at hl 1 rfl) ?_
  refine lv_if_lt (tgt := 16) hx hb d_Rw_put_1 (by decide) (fun c_1 => ?_) (fun c_1 => ?_)
  · exact hret _ _ _ _ _ (by rw [rin_neg c_1]; rfl) hP hD hS d_Rw_put_16
  obtain ⟨n, hn, rfl⟩ := nI_of c_1
  refine lv_iload_n hx hb d_Rw_put_4 rfl (lv_at hl 1 rfl) ?_
  refine lv_bipush (v := 32) hx hb d_Rw_put_5 (by decide) ?_
  refine lv_idiv hx hb d_Rw_put_7 (by decide) ?_
  rw [i32_div32 hn]
  refine lv_aload_n hx hb d_Rw_put_8 rfl (lv_at hl 0 rfl) ?_
  refine va_get (D := D) (ci := 6) (v := .ref (ob (k + nRow))) (C := R_Rw) (T := F_Rw) (N := 2) hx hb hts (fun w h => List.mem_cons_of_mem _ (in_Rw w h)) hown hK hP k (cw_row S hk) rfl 0 (by decide) (hts _ (List.mem_cons_of_mem _ wd_108)) (fun _ h9 => h9) rfl d_Rw_put_9 ?_
  refine va_alen (v := nI (gn S (k + nRow))) hx hb hK hP (k + nRow) 1 (cw_pgc S hk) rfl rfl d_Rw_put_12 ?_
  refine lv_icmp_lt (tgt := 17) hx hb d_Rw_put_13 (by decide) (fun c_2 => ?_) (fun c_2 => ?_)
  · rw [nI_ltI (by omega) (by omega)] at c_2
    refine lv_aload_n hx hb d_Rw_put_17 rfl (lv_at hl 0 rfl) ?_
    refine va_get (D := D) (ci := 6) (v := .ref (ob (k + nRow))) (C := R_Rw) (T := F_Rw) (N := 2) hx hb hts (fun w h => List.mem_cons_of_mem _ (in_Rw w h)) hown hK hP k (cw_row S hk) rfl 0 (by decide) (hts _ (List.mem_cons_of_mem _ wd_108)) (fun _ h9 => h9) rfl d_Rw_put_18 ?_
    refine lv_iload_n hx hb d_Rw_put_21 rfl (lv_at hl 1 rfl) ?_
    refine lv_bipush (v := 32) hx hb d_Rw_put_22 (by decide) ?_
    refine lv_idiv hx hb d_Rw_put_24 (by decide) ?_
    rw [i32_div32 hn]
    refine va_ald2 hx hb hK hP (k + nRow) (cw_pgc S hk) (nI_in c_2 (by omega)) d_Rw_put_25 ?_
    rw [nI_clamp (by omega)]
    by_cases hm : n / 32 < gn S k
    · have hb1 : Nat.blt (n / 32) (gn S k) = true := blt_t hm
      simp only [hb1, cond_true, va_rf]
      refine lv_astore_n (lv' := [(3, .ref (ad k (n / 32))), (0, .ref (ob k)), (1, .int (nI n)), (2, .int x2)]) hx hb d_Rw_put_26 rfl hl (by decide) rfl (fun ls hl => ?_)
      refine lv_iload_n hx hb d_Rw_put_27 rfl (lv_at hl 2 rfl) ?_
      refine lv_bipush (v := 32) hx hb d_Rw_put_28 (by decide) ?_
      refine lv_irem hx hb d_Rw_put_30 (by decide) ?_
      rw [i32_rem32 hn]
      refine lv_istore (lv' := [(4, .int (nI (n % 32))), (3, .ref (ad k (n / 32))), (0, .ref (ob k)), (1, .int (nI n)), (2, .int x2)]) hx hb d_Rw_put_31 hl (by decide) rfl (fun ls hl => ?_)
      refine lv_aload_n hx hb d_Rw_put_33 rfl (lv_at hl 1 rfl) ?_
      refine lv_ifnull hx hb d_Rw_put_34 ?_
      refine lv_iload hx hb d_Rw_put_37 (lv_at hl 0 rfl) ?_
      refine lv_aload_n hx hb d_Rw_put_39 rfl (lv_at hl 1 rfl) ?_
      obtain ⟨i, hi⟩ := cw_page (cA := cA) (cP := cP) (ob := ob) (ad := ad) S hk hm
      refine va_alen (v := nI 32) hx hb hK hP i 0 hi rfl rfl d_Rw_put_40 ?_
      refine lv_icmp_ge (tgt := 49) hx hb d_Rw_put_41 (by decide) (fun c_3 => absurd c_3 (nI_ge (by omega) (by omega))) (fun _ => ?_)
      refine lv_aload_n hx hb d_Rw_put_44 rfl (lv_at hl 1 rfl) ?_
      refine lv_iload hx hb d_Rw_put_45 (lv_at hl 0 rfl) ?_
      refine lv_iload_n hx hb d_Rw_put_47 rfl (lv_at hl 4 rfl) ?_
      refine va_iast hx hb hK hP hD hS i 0 hi rfl (nI_in (by omega) (by omega)) d_Rw_put_48 (fun H locs hP1 hD1 hS => ?_)
      rw [nI_clamp (by omega)] at hP1
      obtain ⟨hP, hD⟩ := cw_put hk hm (show n % 32 < 32 by omega) x2 hD hi hP1
      have h2 : 32 * (n / 32) + n % 32 = n := by omega
      rw [h2] at hP hD
      refine hret _ _ _ _ _ ?_ hP hD hS d_Rw_put_49
      rw [rin_nI hn, decide_eq_true ⟨c_2, hm⟩, nI_toInt hn]
      rfl
    · have hb1 : Nat.blt (n / 32) (gn S k) = false := blt_f hm
      simp only [hb1, cond_false, va_rf]
      refine lv_astore_nN (lv' := [(3, .null), (0, .ref (ob k)), (1, .int (nI n)), (2, .int x2)]) hx hb d_Rw_put_26 rfl hl (by decide) rfl (fun ls hl => ?_)
      refine lv_iload_n hx hb d_Rw_put_27 rfl (lv_at hl 2 rfl) ?_
      refine lv_bipush (v := 32) hx hb d_Rw_put_28 (by decide) ?_
      refine lv_irem hx hb d_Rw_put_30 (by decide) ?_
      rw [i32_rem32 hn]
      refine lv_istore (lv' := [(4, .int (nI (n % 32))), (3, .null), (0, .ref (ob k)), (1, .int (nI n)), (2, .int x2)]) hx hb d_Rw_put_31 hl (by decide) rfl (fun ls hl => ?_)
      refine lv_aload_nN hx hb d_Rw_put_33 rfl (lv_at hl 1 rfl) ?_
      refine lv_ifnullN (tgt := 49) hx hb d_Rw_put_34 (by decide) ?_
      refine hret _ _ _ _ _ ?_ hP hD hS d_Rw_put_49
      rw [rin_nI hn, decide_eq_false (fun q => hm q.2)]
      rfl
  · rw [nI_ltI (by omega) (by omega)] at c_2
    refine hret _ _ _ _ _ ?_ hP hD hS d_Rw_put_16
    rw [rin_nI hn, decide_eq_false (fun q => c_2 q.1)]
    rfl
section
variable {p : Program} {l : Launch} {e : Env} {s : State} {m : MethodId} {args : Array Value} {below : List Frame} {meth : Method} {c : Code} {Q : State → Prop} {D : va_G} {cA cP : ClassId} {ob : Nat → Nat} {ad : Nat → Nat → Nat} {A : Nat → Prop} {H : Heap} {locs : List Loc} {cells slots : Nat} {ls : Array Slot} {R : Room}
theorem reach_exit (C0 : CX p s m args c b_Rw_reach 2 R_Rw w_Rw_reach D clC cA cP A) {k : Nat} {x1 : Int32} (hk : isRow k) {S : St} (hl : lv_has ls 2 [(0, .ref (ob k)), (1, .int x1)]) (hP : va_P D clC (cw cA cP ob ad S) H) (hle : gn S (k + nRow) ≤ 100000) (hmd : gn S k ≤ gn S (k + nRow)) (hno : ¬ (gn S k < gn S (k + nRow) ∧ ((32 * gn S k : Nat) : Int) < x1.toInt))
    (kk : W p l e R s m args below meth c H locs cells slots Q (F0 m 49 ls [])) : W p l e R s m args below meth c H locs cells slots Q (F0 m 0 ls []) := by
  obtain ⟨hx, hb, hml, hown, hts, hK, hA, hN, hZ⟩ := id C0
  refine lv_aload_n hx hb d_Rw_reach_0 rfl (lv_at hl 0 rfl) ?_
  refine va_get (D := D) (ci := 6) (v := .int (nI (gn S k))) (C := R_Rw) (T := F_Rw) (N := 2) hx hb hts (fun w h => List.mem_cons_of_mem _ (in_Rw w h)) hown hK hP k (cw_row S hk) rfl 1 (by decide) (hts _ (List.mem_cons_of_mem _ wd_109)) (fun _ h9 => h9) rfl d_Rw_reach_1 ?_
  refine lv_aload_n hx hb d_Rw_reach_4 rfl (lv_at hl 0 rfl) ?_
  refine va_get (D := D) (ci := 6) (v := .ref (ob (k + nRow))) (C := R_Rw) (T := F_Rw) (N := 2) hx hb hts (fun w h => List.mem_cons_of_mem _ (in_Rw w h)) hown hK hP k (cw_row S hk) rfl 0 (by decide) (hts _ (List.mem_cons_of_mem _ wd_108)) (fun _ h9 => h9) rfl d_Rw_reach_5 ?_
  refine va_alen (v := nI (gn S (k + nRow))) hx hb hK hP (k + nRow) 1 (cw_pgc S hk) rfl rfl d_Rw_reach_8 ?_
  refine lv_icmp_ge (tgt := 49) hx hb d_Rw_reach_9 (by decide) (fun _ => kk) (fun c_1 => ?_)
  rw [nI_leI (by omega) (by omega)] at c_1
  refine lv_aload_n hx hb d_Rw_reach_12 rfl (lv_at hl 0 rfl) ?_
  refine va_get (D := D) (ci := 6) (v := .int (nI (gn S k))) (C := R_Rw) (T := F_Rw) (N := 2) hx hb hts (fun w h => List.mem_cons_of_mem _ (in_Rw w h)) hown hK hP k (cw_row S hk) rfl 1 (by decide) (hts _ (List.mem_cons_of_mem _ wd_109)) (fun _ h9 => h9) rfl d_Rw_reach_13 ?_
  refine lv_bipush (v := 32) hx hb d_Rw_reach_16 (by decide) ?_
  refine lv_imul hx hb d_Rw_reach_18 ?_
  refine lv_iload_n hx hb d_Rw_reach_19 rfl (lv_at hl 1 rfl) ?_
  refine lv_icmp_ge (tgt := 49) hx hb d_Rw_reach_20 (by decide) (fun _ => kk) (fun c_2 => ?_)
  rw [show (32 : Int32) = nI 32 from rfl, nI_mul, Int32.le_iff_toInt_le, nI_toInt (by omega)] at c_2
  exact absurd ⟨by omega, by omega⟩ hno
end
set_option maxHeartbeats 4000000 in
theorem c_Rw_reach (l : Launch) (D : va_G) (cA cP : ClassId) (ob : Nat → Nat) (ad : Nat → Nat → Nat) (k : Nat) (x1 : Int32) (hk : isRow k) (S : St) {res : St} (hf : f_Rw_reach k x1 S = some res) : CTv l y_Rw_reach w_Rw_reach rm_Rw_reach 1 32 D clC (TY cA cP) [.ref (ob k), .int x1] (cw cA cP ob ad S) (fun w => ∃ ad, w = cw cA cP ob ad res) := by
  refine mk_v (cc := b_Rw_reach) (maxL := 2) (own := R_Rw) (by decide) rfl rfl (Nat.le_of_ble_eq_true rfl) ?_
  intro p e s m below meth c A Q C0 hret ls hl hP hD hS
  obtain ⟨hx, hb, hml, hown, hts, hK, hA, hN, hZ⟩ := id C0
  have hl : lv_has ls 2 [(0, .ref (ob k)), (1, .int x1)] := hl
  obtain ⟨hle, hf⟩ := as_some hf
  rw [Bool.and_eq_true] at hle
  have hmd := Nat.le_of_ble_eq_true hle.2
  have hle := Nat.le_of_ble_eq_true hle.1
  by_cases hgo : gn S k < gn S (k + nRow) ∧ ((32 * gn S k : Nat) : Int) < x1.toInt
  · rw [if_pos hgo] at hf
    by_cases hgo2 : gn S k + 1 < gn S (k + nRow) ∧ ((32 * (gn S k + 1) : Nat) : Int) < x1.toInt
    · rw [if_pos hgo2] at hf
      cases hf
    rw [if_neg hgo2] at hf
    cases hf
    refine lv_aload_n hx hb d_Rw_reach_0 rfl (lv_at hl 0 rfl) ?_
    refine va_get (D := D) (ci := 6) (v := .int (nI (gn S k))) (C := R_Rw) (T := F_Rw) (N := 2) hx hb hts (fun w h => List.mem_cons_of_mem _ (in_Rw w h)) hown hK hP k (cw_row S hk) rfl 1 (by decide) (hts _ (List.mem_cons_of_mem _ wd_109)) (fun _ h9 => h9) rfl d_Rw_reach_1 ?_
    refine lv_aload_n hx hb d_Rw_reach_4 rfl (lv_at hl 0 rfl) ?_
    refine va_get (D := D) (ci := 6) (v := .ref (ob (k + nRow))) (C := R_Rw) (T := F_Rw) (N := 2) hx hb hts (fun w h => List.mem_cons_of_mem _ (in_Rw w h)) hown hK hP k (cw_row S hk) rfl 0 (by decide) (hts _ (List.mem_cons_of_mem _ wd_108)) (fun _ h9 => h9) rfl d_Rw_reach_5 ?_
    refine va_alen (v := nI (gn S (k + nRow))) hx hb hK hP (k + nRow) 1 (cw_pgc S hk) rfl rfl d_Rw_reach_8 ?_
    refine lv_icmp_ge (tgt := 49) hx hb d_Rw_reach_9 (by decide) (fun c_1 => absurd c_1 (nI_ge hgo.1 (by omega))) (fun c_1 => ?_)
    refine lv_aload_n hx hb d_Rw_reach_12 rfl (lv_at hl 0 rfl) ?_
    refine va_get (D := D) (ci := 6) (v := .int (nI (gn S k))) (C := R_Rw) (T := F_Rw) (N := 2) hx hb hts (fun w h => List.mem_cons_of_mem _ (in_Rw w h)) hown hK hP k (cw_row S hk) rfl 1 (by decide) (hts _ (List.mem_cons_of_mem _ wd_109)) (fun _ h9 => h9) rfl d_Rw_reach_13 ?_
    refine lv_bipush (v := 32) hx hb d_Rw_reach_16 (by decide) ?_
    refine lv_imul hx hb d_Rw_reach_18 ?_
    refine lv_iload_n hx hb d_Rw_reach_19 rfl (lv_at hl 1 rfl) ?_
    refine lv_icmp_ge (tgt := 49) hx hb d_Rw_reach_20 (by decide) (fun c_2 => absurd c_2 ?_) (fun c_2 => ?_)
    · rw [show (32 : Int32) = nI 32 from rfl, nI_mul, Int32.le_iff_toInt_le, nI_toInt (by omega)]
      have := hgo.2
      omega
    refine lv_aload_n hx hb d_Rw_reach_23 rfl (lv_at hl 0 rfl) ?_
    refine va_get (D := D) (ci := 6) (v := .ref (ob (k + nRow))) (C := R_Rw) (T := F_Rw) (N := 2) hx hb hts (fun w h => List.mem_cons_of_mem _ (in_Rw w h)) hown hK hP k (cw_row S hk) rfl 0 (by decide) (hts _ (List.mem_cons_of_mem _ wd_108)) (fun _ h9 => h9) rfl d_Rw_reach_24 ?_
    refine lv_aload_n hx hb d_Rw_reach_27 rfl (lv_at hl 0 rfl) ?_
    refine va_get (D := D) (ci := 6) (v := .int (nI (gn S k))) (C := R_Rw) (T := F_Rw) (N := 2) hx hb hts (fun w h => List.mem_cons_of_mem _ (in_Rw w h)) hown hK hP k (cw_row S hk) rfl 1 (by decide) (hts _ (List.mem_cons_of_mem _ wd_109)) (fun _ h9 => h9) rfl d_Rw_reach_28 ?_
    refine lv_bipush (v := 32) hx hb d_Rw_reach_31 (by decide) ?_
    refine va_newa (atype := .int) (ty := .int) (N' := 32) (a0 := (32, .inl (fun _ => 0))) hx hb (hts _ (List.mem_cons_of_mem _ wd_274)) rfl hK hP hD hS hA (fun _ => rfl) (by decide) (by decide) (by decide) (show 0 + 1 ≤ rm_Rw_reach.cells by decide +kernel) (show 0 + 32 ≤ rm_Rw_reach.slots by decide +kernel) d_Rw_reach_33 (fun q cB H hK1 hP1 hD1 hS => ?_)
    obtain rfl : cA = cB := (kA_eq hK1).symm
    have i1 : (cw cA cP ob ad S ++ [(q, (.inl (cA, 32, .inl (fun _ => 0)) : va_E))])[k]? = some (rwc 6 ob S k) := by rw [List.getElem?_append_left (List.getElem?_eq_some_iff.mp (cw_row S hk)).1]; exact cw_row S hk
    have i2 : (cw cA cP ob ad S ++ [(q, (.inl (cA, 32, .inl (fun _ => 0)) : va_E))])[k + nRow]? = some (pgc cP ob ad S k) := by rw [List.getElem?_append_left (List.getElem?_eq_some_iff.mp (cw_pgc S hk)).1]; exact cw_pgc S hk
    refine va_ast2 hx hb hN hK hP1 hD1 hS (k + nRow) (cw cA cP ob ad S).length i2 (by rw [List.getElem?_concat_length]) (nI_in hgo.1 (by omega)) d_Rw_reach_35 (fun H locs hP hD hS => ?_)
    rw [nI_clamp (by omega), refs_grow] at hP hD
    have hkn : k + nRow ≠ k := by show k + 12 ≠ k; omega
    refine lv_aload_n hx hb d_Rw_reach_36 rfl (lv_at hl 0 rfl) ?_
    refine lv_dup hx hb d_Rw_reach_37 rfl ?_
    refine va_get (D := D) (ci := 6) (v := .int (nI (gn S k))) (C := R_Rw) (T := F_Rw) (N := 2) hx hb hts (fun w h => List.mem_cons_of_mem _ (in_Rw w h)) hown hK hP k (by rw [List.getElem?_set_ne hkn]; exact i1) rfl 1 (by decide) (hts _ (List.mem_cons_of_mem _ wd_109)) (fun _ h9 => h9) rfl d_Rw_reach_38 ?_
    refine lv_iconst (v := 1) hx hb d_Rw_reach_41 (by decide) ?_
    refine lv_iadd hx hb d_Rw_reach_42 ?_
    refine va_put (D := D) (ci := 6) (v := .int (nI (gn S k) + 1)) (ty := .int) (C := R_Rw) (T := F_Rw) (N := 2) hx hb hts (fun w h => List.mem_cons_of_mem _ (in_Rw w h)) t_Rw tk_Rw nk_Rw hown hK hP hD hS k (by rw [List.getElem?_set_ne hkn]; exact i1) rfl 1 (by decide) (hts _ (List.mem_cons_of_mem _ wd_109)) (fun _ h9 => h9) rfl (by decide +kernel) rfl rfl (Nat.le_of_ble_eq_true rfl) d_Rw_reach_43 (fun H locs hP hD hS => ?_)
    rw [← nI_succ] at hP hD
    have e1 := cw_grow1 (cA := cA) (cP := cP) (ob := ob) (ad := ad) (S := S) hk q (q, .inl (cA, 32, .inl (fun _ => 0)))
    have hP := (congrArg (fun w => va_P D clC w H) e1).mp hP
    have hD := (congrArg (fun w => va_D A w) e1).mp hD
    have pm := ((dy_grow (cA := cA) (ad := ad) (S := S) hk q).symm).append_left (cwF cA cP ob (up1 ad k (up1 (ad k) (gn S k) q)) (grow S k))
    have hP : va_P D clC (cw cA cP ob (up1 ad k (up1 (ad k) (gn S k) q)) (grow S k)) H := P_perm pm hP
    have hD : va_D A (cw cA cP ob (up1 ad k (up1 (ad k) (gn S k) q)) (grow S k)) := D_perm pm hD
    refine lv_goto (tgt := 0) hx hb d_Rw_reach_46 (by decide) ?_
    have g1 : gn (grow S k) k = gn S k + 1 := up1_same _ _ _
    have g2 : gn (grow S k) (k + nRow) = gn S (k + nRow) := up1_ne _ _ hkn
    refine reach_exit C0 hk hl hP (by rw [g2]; exact hle) (by rw [g1, g2]; exact hgo.1) (by rw [g1, g2]; exact hgo2) ?_
    exact hret _ _ _ _ _ ⟨_, rfl⟩ hP hD hS d_Rw_reach_49
  · rw [if_neg hgo] at hf
    cases hf
    refine W.widen (k := 1) (n := 32) (by decide +kernel) (by decide +kernel) ?_
    refine reach_exit C0 hk hl hP hle hmd hgo ?_
    exact hret _ _ _ _ _ ⟨ad, rfl⟩ hP hD hS d_Rw_reach_49
def plenI (x : Int32) : Int32 := if 0 < x then (x - 1) / 32 + 1 else 0
def plenN (x : Int32) : Nat := (plenI x).toNatClampNeg
set_option maxHeartbeats 4000000 in
theorem c_Rw_init (l : Launch) (D : va_G) (cA cP : ClassId) (h0 : Nat) (x1 : Int32) (hroom : alen (plenI x1) 192 = true) : CTv l y_Rw_init w_Rw_init rm_Rw_init 1 192 D clC (TY cA cP) [.ref h0, .int x1] [(h0, .inr (6, [.null, .int 0]))] (fun w => ∃ a, w = [(h0, .inr (6, [.ref a, .int 0])), (a, .inl (cP, (plenN x1), .inr (.inr (.inr (.inr (fun _ => none))))))]) := by
  refine mk_c (cc := b_Rw_init) (maxL := 2) (own := R_Rw) (by decide) rfl rfl rfl (Nat.le_of_ble_eq_true rfl) ?_
  intro p e s m below meth c A Q C0 hin hret ls hl hP hD hS
  obtain ⟨hx, hb, hml, hown, hts, hK, hA, hN, hZ⟩ := id C0
  have hl : lv_has ls 2 [(0, .ref h0), (1, .int x1)] := hl
  refine lv_aload_n hx hb d_Rw_init_0 rfl (lv_at hl 0 rfl) ?_
  refine W.objInit hx hb hown (hts _ (List.mem_cons_of_mem _ wd_105)) (hts _ (List.mem_cons_of_mem _ wd_86)) (hts _ (List.mem_cons_of_mem _ wd_87)) rfl (by rw [hml]; exact hl.1) rfl d_Rw_init_1 (Nat.le_of_ble_eq_true rfl) (Nat.le_of_ble_eq_true rfl) ?_
  refine W.eq (g2 := F0 m 4 ls []) rfl ?_
  refine lv_aload_n hx hb d_Rw_init_4 rfl (lv_at hl 0 rfl) ?_
  have key : ∀ v : Int32, v = plenI x1 → W p l e rm_Rw_init s m [Value.ref h0, Value.int x1].toArray below meth c s.heap [] 0 0 Q (F0 m 21 ls [.int v, .ref h0]) := by
    intro v hv
    subst hv
    refine va_new2 hx hb hown (hts _ (List.mem_cons_of_mem _ wd_106)) hN hK hP hD hS hA (alen_nn hroom) (show _ = plenN x1 from rfl) (by have := alen_le hroom; unfold plenN; omega) (show 0 + 1 ≤ rm_Rw_init.cells by decide +kernel) (Nat.le_trans (Nat.add_le_add_left (alen_le hroom) _) (show 0 + 192 ≤ rm_Rw_init.slots by decide +kernel)) d_Rw_init_21 (fun q H hP hD hS => ?_)
    refine W.widen (k := 1) (n := 192) (by decide +kernel) (Nat.le_trans (Nat.add_le_add_left (alen_le hroom) _) (by decide +kernel)) ?_
    refine va_putF (D := D) (ci := 6) (v := .ref q) (ty := .array (.array .int)) (C := R_Rw) (T := F_Rw) (N := 2) hx hb hts (fun w h => List.mem_cons_of_mem _ (in_Rw w h)) t_Rw tk_Rw nk_Rw hown hK hP hD hS 0 rfl rfl 0 (by decide) (hts _ (List.mem_cons_of_mem _ wd_108)) (fun _ h9 => h9) rfl hin rfl (by decide +kernel) rfl rfl (Nat.le_of_ble_eq_true rfl) d_Rw_init_24 (fun H locs hP hD hS => ?_)
    refine lv_aload_n hx hb d_Rw_init_27 rfl (lv_at hl 0 rfl) ?_
    refine lv_iconst (v := 0) hx hb d_Rw_init_28 (by decide) ?_
    refine va_put (D := D) (ci := 6) (v := .int 0) (ty := .int) (C := R_Rw) (T := F_Rw) (N := 2) hx hb hts (fun w h => List.mem_cons_of_mem _ (in_Rw w h)) t_Rw tk_Rw nk_Rw hown hK hP hD hS 0 rfl rfl 1 (by decide) (hts _ (List.mem_cons_of_mem _ wd_109)) (fun _ h9 => h9) rfl (by decide +kernel) rfl rfl (Nat.le_of_ble_eq_true rfl) d_Rw_init_29 (fun H locs hP hD hS => ?_)
    exact hret _ _ _ _ _ ⟨q, rfl⟩ hP hD hS d_Rw_init_32
  refine lv_iload_n hx hb d_Rw_init_5 rfl (lv_at hl 1 rfl) ?_
  refine lv_if_le (tgt := 20) hx hb d_Rw_init_6 (by decide) (fun c_1 => ?_) (fun c_1 => ?_)
  · refine lv_iconst (v := 0) hx hb d_Rw_init_20 (by decide) ?_
    exact key 0 (by unfold plenI; rw [if_neg (Int32.not_lt.mpr c_1)])
  · refine lv_iload_n hx hb d_Rw_init_9 rfl (lv_at hl 1 rfl) ?_
    refine lv_iconst (v := 1) hx hb d_Rw_init_10 (by decide) ?_
    refine lv_isub hx hb d_Rw_init_11 ?_
    refine lv_bipush (v := 32) hx hb d_Rw_init_12 (by decide) ?_
    refine lv_idiv hx hb d_Rw_init_14 (by decide) ?_
    refine lv_iconst (v := 1) hx hb d_Rw_init_15 (by decide) ?_
    refine lv_iadd hx hb d_Rw_init_16 ?_
    refine lv_goto (tgt := 21) hx hb d_Rw_init_17 (by decide) ?_
    exact key _ (by unfold plenI; rw [if_pos (Int32.not_le.mp c_1)])
/-- what the rows of an object with room r ask for -/
def HR (r : Int32) : Prop := alen (plenI r) 192 = true ∧ alen (plenI (6 * r)) 192 = true ∧ alen (plenI (r + 1)) 192 = true ∧ alen (plenI (2 * r)) 192 = true

