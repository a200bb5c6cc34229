section
variable {p : Program} {l : Launch} {e : Env} {s : State} {m : MethodId} {args : Array Value} {below : List Frame} {meth : Method} {c : Code} {Q : State → Prop} {D : va_G} {cA cP : ClassId} {ob : Nat → Nat} {ad : Nat → Nat → Nat} {A : Nat → Prop}
def f_Md_side_0   (x1 : Int32) (x2 : Int32) (x3 : Int32) (x4 : Int32) (S : St) : Option (Int32 × St) :=
  as_ (inb x2 (gn S 1)) (as_ (inb x1 (gn S 1)) (as_ (inb x2 (gn S 2)) (as_ (inb x1 (gn S 2)) (as_ (inb x1 (gn S 1)) (as_ (inb x1 (gn S 2)) (bd (f_Md_cross ((Int32.toInt64 (ga S 1 (Int32.toNatClampNeg x2))) - (Int32.toInt64 (ga S 1 (Int32.toNatClampNeg x1)))) ((Int32.toInt64 (ga S 2 (Int32.toNatClampNeg x2))) - (Int32.toInt64 (ga S 2 (Int32.toNatClampNeg x1)))) ((Int32.toInt64 x3) - (Int32.toInt64 (ga S 1 (Int32.toNatClampNeg x1)))) ((Int32.toInt64 x4) - (Int32.toInt64 (ga S 2 (Int32.toNatClampNeg x1)))) S) (fun q_7 => bd (f_Md_sign q_7.1 q_7.2) (fun q_8 => some (q_8.1, q_8.2)))))))))
set_option maxHeartbeats 4000000 in
set_option maxRecDepth 100000 in
theorem w_Md_side_0 (C0 : CX p s m args c b_Md_side 5 R_Md w_Md_side D clC cA cP A) {res : (Int32 × St)} (hret : RTi p l e rm_Md_side s m args below meth c Q D clC A b_Md_side 0 0 (fun r w => r = res.1 ∧ w = mw cA cP ob ad res.2))    : ∀ (x1 : Int32) (x2 : Int32) (x3 : Int32) (x4 : Int32) (S : St) (H : Heap) (locs : List Loc) (ls : Array Slot), va_P D clC (mw cA cP ob ad S) H → va_D A (mw cA cP ob ad S) → va_S A s.heap H locs → lv_has ls 5 [(0, .ref (ob 0)), (1, .int x1), (2, .int x2), (3, .int x3), (4, .int x4)] → f_Md_side_0   x1 x2 x3 x4 S = some res → W p l e rm_Md_side s m args below meth c H locs 0 0 Q (F0 m 0 ls []) := by
  obtain ⟨hx, hb, hml, hown, hts, hK, hA, hN, hZ⟩ := id C0
  intro x1 x2 x3 x4 S H locs ls hP hD hS hl hf
  rw [f_Md_side_0] at hf
  refine lv_aload_n hx hb d_Md_side_0 rfl (lv_at hl 0 rfl) ?_
  refine va_get (D := D) (ci := 7) (v := .ref (ob 1)) (C := R_Md) (T := F_Md) (N := 26) hx hb hts (fun w h => List.mem_cons_of_mem _ (in_Md w h)) hown hK hP 0 rfl rfl 3 (by decide) (hts _ (List.mem_cons_of_mem _ wd_825)) (fun _ h9 => h9) rfl d_Md_side_1 ?_
  refine lv_iload_n hx hb d_Md_side_4 rfl (lv_at hl 2 rfl) ?_
  obtain ⟨hi_1, hf⟩ := as_some hf
  refine va_iald hx hb hK hP 1 0 rfl rfl (inb_in hi_1) d_Md_side_5 ?_
  refine lv_i2l (v := (Int32.toInt64 (ga S 1 (Int32.toNatClampNeg x2)))) hx hb d_Md_side_6 rfl ?_
  refine lv_aload_n hx hb d_Md_side_7 rfl (lv_at hl 0 rfl) ?_
  refine va_get (D := D) (ci := 7) (v := .ref (ob 1)) (C := R_Md) (T := F_Md) (N := 26) hx hb hts (fun w h => List.mem_cons_of_mem _ (in_Md w h)) hown hK hP 0 rfl rfl 3 (by decide) (hts _ (List.mem_cons_of_mem _ wd_825)) (fun _ h9 => h9) rfl d_Md_side_8 ?_
  refine lv_iload_n hx hb d_Md_side_11 rfl (lv_at hl 1 rfl) ?_
  obtain ⟨hi_2, hf⟩ := as_some hf
  refine va_iald hx hb hK hP 1 0 rfl rfl (inb_in hi_2) d_Md_side_12 ?_
  refine lv_i2l (v := (Int32.toInt64 (ga S 1 (Int32.toNatClampNeg x1)))) hx hb d_Md_side_13 rfl ?_
  refine lv_lsub hx hb d_Md_side_14 ?_
  refine lv_aload_n hx hb d_Md_side_15 rfl (lv_at hl 0 rfl) ?_
  refine va_get (D := D) (ci := 7) (v := .ref (ob 2)) (C := R_Md) (T := F_Md) (N := 26) hx hb hts (fun w h => List.mem_cons_of_mem _ (in_Md w h)) hown hK hP 0 rfl rfl 4 (by decide) (hts _ (List.mem_cons_of_mem _ wd_826)) (fun _ h9 => h9) rfl d_Md_side_16 ?_
  refine lv_iload_n hx hb d_Md_side_19 rfl (lv_at hl 2 rfl) ?_
  obtain ⟨hi_3, hf⟩ := as_some hf
  refine va_iald hx hb hK hP 2 0 rfl rfl (inb_in hi_3) d_Md_side_20 ?_
  refine lv_i2l (v := (Int32.toInt64 (ga S 2 (Int32.toNatClampNeg x2)))) hx hb d_Md_side_21 rfl ?_
  refine lv_aload_n hx hb d_Md_side_22 rfl (lv_at hl 0 rfl) ?_
  refine va_get (D := D) (ci := 7) (v := .ref (ob 2)) (C := R_Md) (T := F_Md) (N := 26) hx hb hts (fun w h => List.mem_cons_of_mem _ (in_Md w h)) hown hK hP 0 rfl rfl 4 (by decide) (hts _ (List.mem_cons_of_mem _ wd_826)) (fun _ h9 => h9) rfl d_Md_side_23 ?_
  refine lv_iload_n hx hb d_Md_side_26 rfl (lv_at hl 1 rfl) ?_
  obtain ⟨hi_4, hf⟩ := as_some hf
  refine va_iald hx hb hK hP 2 0 rfl rfl (inb_in hi_4) d_Md_side_27 ?_
  refine lv_i2l (v := (Int32.toInt64 (ga S 2 (Int32.toNatClampNeg x1)))) hx hb d_Md_side_28 rfl ?_
  refine lv_lsub hx hb d_Md_side_29 ?_
  refine lv_iload_n hx hb d_Md_side_30 rfl (lv_at hl 3 rfl) ?_
  refine lv_i2l (v := (Int32.toInt64 x3)) hx hb d_Md_side_31 rfl ?_
  refine lv_aload_n hx hb d_Md_side_32 rfl (lv_at hl 0 rfl) ?_
  refine va_get (D := D) (ci := 7) (v := .ref (ob 1)) (C := R_Md) (T := F_Md) (N := 26) hx hb hts (fun w h => List.mem_cons_of_mem _ (in_Md w h)) hown hK hP 0 rfl rfl 3 (by decide) (hts _ (List.mem_cons_of_mem _ wd_825)) (fun _ h9 => h9) rfl d_Md_side_33 ?_
  refine lv_iload_n hx hb d_Md_side_36 rfl (lv_at hl 1 rfl) ?_
  obtain ⟨hi_5, hf⟩ := as_some hf
  refine va_iald hx hb hK hP 1 0 rfl rfl (inb_in hi_5) d_Md_side_37 ?_
  refine lv_i2l (v := (Int32.toInt64 (ga S 1 (Int32.toNatClampNeg x1)))) hx hb d_Md_side_38 rfl ?_
  refine lv_lsub hx hb d_Md_side_39 ?_
  refine lv_iload hx hb d_Md_side_40 (lv_at hl 4 rfl) ?_
  refine lv_i2l (v := (Int32.toInt64 x4)) hx hb d_Md_side_42 rfl ?_
  refine lv_aload_n hx hb d_Md_side_43 rfl (lv_at hl 0 rfl) ?_
  refine va_get (D := D) (ci := 7) (v := .ref (ob 2)) (C := R_Md) (T := F_Md) (N := 26) hx hb hts (fun w h => List.mem_cons_of_mem _ (in_Md w h)) hown hK hP 0 rfl rfl 4 (by decide) (hts _ (List.mem_cons_of_mem _ wd_826)) (fun _ h9 => h9) rfl d_Md_side_44 ?_
  refine lv_iload_n hx hb d_Md_side_47 rfl (lv_at hl 1 rfl) ?_
  obtain ⟨hi_6, hf⟩ := as_some hf
  refine va_iald hx hb hK hP 2 0 rfl rfl (inb_in hi_6) d_Md_side_48 ?_
  refine lv_i2l (v := (Int32.toInt64 (ga S 2 (Int32.toNatClampNeg x1)))) hx hb d_Md_side_49 rfl ?_
  refine lv_lsub hx hb d_Md_side_50 ?_
  obtain ⟨q_7, hq_7, hf⟩ := bd_some hf
  refine kc_l (va_runS (As := [.long ((Int32.toInt64 (ga S 1 (Int32.toNatClampNeg x2))) - (Int32.toInt64 (ga S 1 (Int32.toNatClampNeg x1)))), .long ((Int32.toInt64 (ga S 2 (Int32.toNatClampNeg x2))) - (Int32.toInt64 (ga S 2 (Int32.toNatClampNeg x1)))), .long ((Int32.toInt64 x3) - (Int32.toInt64 (ga S 1 (Int32.toNatClampNeg x1)))), .long ((Int32.toInt64 x4) - (Int32.toInt64 (ga S 2 (Int32.toNatClampNeg x1))))]) (rest := []) ⟨hx, hb, hml, hown, hts⟩ (c_Md_cross l D cA cP ob ad ((Int32.toInt64 (ga S 1 (Int32.toNatClampNeg x2))) - (Int32.toInt64 (ga S 1 (Int32.toNatClampNeg x1)))) ((Int32.toInt64 (ga S 2 (Int32.toNatClampNeg x2))) - (Int32.toInt64 (ga S 2 (Int32.toNatClampNeg x1)))) ((Int32.toInt64 x3) - (Int32.toInt64 (ga S 1 (Int32.toNatClampNeg x1)))) ((Int32.toInt64 x4) - (Int32.toInt64 (ga S 2 (Int32.toNatClampNeg x1))))  S hq_7 H.size) ⟨callB_of 4 hts (gd_Md_cross) rfl rfl rfl (hts _ (List.mem_cons_of_mem _ wd_72)) (hts _ (List.mem_cons_of_mem _ wd_969)) dd_Md_cross ⟨Nat.le_of_ble_eq_true rfl, Nat.le_of_ble_eq_true rfl⟩, (hts _ (List.mem_cons_of_mem _ wd_970))⟩ (kpS hK hP hD hN hZ hS) rfl rfl hl.1 rfl (lv_room (Nat.le_of_ble_eq_true rfl)) d_Md_side_51 ⟨Nat.le_of_ble_eq_true rfl, Nat.le_of_ble_eq_true rfl⟩) hP hD hS hA (fun r w H locs hw hP hD hS => ?_)
  obtain ⟨rfl, rfl⟩ := hw
  obtain ⟨q_8, hq_8, hf⟩ := bd_some hf
  refine kc_i (va_runS (As := [.long q_7.1]) (rest := []) ⟨hx, hb, hml, hown, hts⟩ (c_Md_sign l D cA cP ob ad q_7.1  q_7.2 hq_8 H.size) ⟨callB_of 1 hts (gd_Md_sign) rfl rfl rfl (hts _ (List.mem_cons_of_mem _ wd_72)) (hts _ (List.mem_cons_of_mem _ wd_972)) dd_Md_sign ⟨Nat.le_of_ble_eq_true rfl, Nat.le_of_ble_eq_true rfl⟩, (hts _ (List.mem_cons_of_mem _ wd_973))⟩ (kpS hK hP hD hN hZ hS) rfl rfl hl.1 rfl (lv_room (Nat.le_of_ble_eq_true rfl)) d_Md_side_54 ⟨Nat.le_of_ble_eq_true rfl, Nat.le_of_ble_eq_true rfl⟩) hP hD hS hA (fun r w H locs hw hP hD hS => ?_)
  obtain ⟨rfl, rfl⟩ := hw
  cases hf
  exact hret _ _ _ _ _ _ ⟨rfl, rfl⟩ hP hD hS d_Md_side_57
def f_Md_side (x1 : Int32) (x2 : Int32) (x3 : Int32) (x4 : Int32) (S : St) : Option (Int32 × St) := f_Md_side_0  x1 x2 x3 x4 S
theorem c_Md_side (l : Launch) (D : va_G) (cA cP : ClassId) (ob : Nat → Nat) (ad : Nat → Nat → Nat) (x1 : Int32) (x2 : Int32) (x3 : Int32) (x4 : Int32)  (S : St) {res : (Int32 × St)} (hf : f_Md_side x1 x2 x3 x4 S = some res) : CTi l y_Md_side w_Md_side rm_Md_side 0 0 D clC (TY cA cP) [.ref (ob 0), .int x1, .int x2, .int x3, .int x4] (mw cA cP ob ad S) (fun r w => r = res.1 ∧ w = mw cA cP ob ad res.2) :=
  mk_i (cc := b_Md_side) (maxL := 5) (own := R_Md) (by decide) rfl rfl (Nat.le_of_ble_eq_true rfl) (fun p e s m below meth c A Q C0 hret ls hl hP hD hS => w_Md_side_0 C0 hret   x1 x2 x3 x4 S _ _ ls hP hD hS (lv_sub hl [0, 1, 2, 3, 4] rfl) hf)
def f_Md_sideOf_0   (x1 : Int32) (x2 : Int32) (x3 : Int32) (S : St) : Option (Int32 × St) :=
  as_ (inb x3 (gn S 1)) (as_ (inb x3 (gn S 2)) (bd (f_Md_side x1 x2 (ga S 1 (Int32.toNatClampNeg x3)) (ga S 2 (Int32.toNatClampNeg x3)) S) (fun q_3 => some (q_3.1, q_3.2))))
set_option maxHeartbeats 4000000 in
set_option maxRecDepth 100000 in
theorem w_Md_sideOf_0 (C0 : CX p s m args c b_Md_sideOf 4 R_Md w_Md_sideOf D clC cA cP A) {res : (Int32 × St)} (hret : RTi p l e rm_Md_sideOf s m args below meth c Q D clC A b_Md_sideOf 0 0 (fun r w => r = res.1 ∧ w = mw cA cP ob ad res.2))    : ∀ (x1 : Int32) (x2 : Int32) (x3 : Int32) (S : St) (H : Heap) (locs : List Loc) (ls : Array Slot), va_P D clC (mw cA cP ob ad S) H → va_D A (mw cA cP ob ad S) → va_S A s.heap H locs → lv_has ls 4 [(0, .ref (ob 0)), (1, .int x1), (2, .int x2), (3, .int x3)] → f_Md_sideOf_0   x1 x2 x3 S = some res → W p l e rm_Md_sideOf s m args below meth c H locs 0 0 Q (F0 m 0 ls []) := by
  obtain ⟨hx, hb, hml, hown, hts, hK, hA, hN, hZ⟩ := id C0
  intro x1 x2 x3 S H locs ls hP hD hS hl hf
  rw [f_Md_sideOf_0] at hf
  refine lv_aload_n hx hb d_Md_sideOf_0 rfl (lv_at hl 0 rfl) ?_
  refine lv_iload_n hx hb d_Md_sideOf_1 rfl (lv_at hl 1 rfl) ?_
  refine lv_iload_n hx hb d_Md_sideOf_2 rfl (lv_at hl 2 rfl) ?_
  refine lv_aload_n hx hb d_Md_sideOf_3 rfl (lv_at hl 0 rfl) ?_
  refine va_get (D := D) (ci := 7) (v := .ref (ob 1)) (C := R_Md) (T := F_Md) (N := 26) hx hb hts (fun w h => List.mem_cons_of_mem _ (in_Md w h)) hown hK hP 0 rfl rfl 3 (by decide) (hts _ (List.mem_cons_of_mem _ wd_825)) (fun _ h9 => h9) rfl d_Md_sideOf_4 ?_
  refine lv_iload_n hx hb d_Md_sideOf_7 rfl (lv_at hl 3 rfl) ?_
  obtain ⟨hi_1, hf⟩ := as_some hf
  refine va_iald hx hb hK hP 1 0 rfl rfl (inb_in hi_1) d_Md_sideOf_8 ?_
  refine lv_aload_n hx hb d_Md_sideOf_9 rfl (lv_at hl 0 rfl) ?_
  refine va_get (D := D) (ci := 7) (v := .ref (ob 2)) (C := R_Md) (T := F_Md) (N := 26) hx hb hts (fun w h => List.mem_cons_of_mem _ (in_Md w h)) hown hK hP 0 rfl rfl 4 (by decide) (hts _ (List.mem_cons_of_mem _ wd_826)) (fun _ h9 => h9) rfl d_Md_sideOf_10 ?_
  refine lv_iload_n hx hb d_Md_sideOf_13 rfl (lv_at hl 3 rfl) ?_
  obtain ⟨hi_2, hf⟩ := as_some hf
  refine va_iald hx hb hK hP 2 0 rfl rfl (inb_in hi_2) d_Md_sideOf_14 ?_
  obtain ⟨q_3, hq_3, hf⟩ := bd_some hf
  refine kc_i (va_runV (As := [.int x1, .int x2, .int (ga S 1 (Int32.toNatClampNeg x3)), .int (ga S 2 (Int32.toNatClampNeg x3))]) (rest := []) ⟨hx, hb, hml, hown, hts⟩ (c_Md_side l D cA cP ob ad x1 x2 (ga S 1 (Int32.toNatClampNeg x3)) (ga S 2 (Int32.toNatClampNeg x3))  S hq_3 H.size) ⟨callB_of 4 hts (gd_Md_side) rfl rfl rfl (hts _ (List.mem_cons_of_mem _ wd_72)) (hts _ (List.mem_cons_of_mem _ wd_965)) dd_Md_side ⟨Nat.le_of_ble_eq_true rfl, Nat.le_of_ble_eq_true rfl⟩, (hts _ (List.mem_cons_of_mem _ wd_967)), (hts _ (List.mem_cons_of_mem _ wd_43))⟩ (kpV hK hP hD hN hZ hS 7 0 rfl rfl) rfl rfl hl.1 rfl (lv_room (Nat.le_of_ble_eq_true rfl)) d_Md_sideOf_15 ⟨Nat.le_of_ble_eq_true rfl, Nat.le_of_ble_eq_true rfl⟩) hP hD hS hA (fun r w H locs hw hP hD hS => ?_)
  obtain ⟨rfl, rfl⟩ := hw
  cases hf
  exact hret _ _ _ _ _ _ ⟨rfl, rfl⟩ hP hD hS d_Md_sideOf_18
def f_Md_sideOf (x1 : Int32) (x2 : Int32) (x3 : Int32) (S : St) : Option (Int32 × St) := f_Md_sideOf_0  x1 x2 x3 S
theorem c_Md_sideOf (l : Launch) (D : va_G) (cA cP : ClassId) (ob : Nat → Nat) (ad : Nat → Nat → Nat) (x1 : Int32) (x2 : Int32) (x3 : Int32)  (S : St) {res : (Int32 × St)} (hf : f_Md_sideOf x1 x2 x3 S = some res) : CTi l y_Md_sideOf w_Md_sideOf rm_Md_sideOf 0 0 D clC (TY cA cP) [.ref (ob 0), .int x1, .int x2, .int x3] (mw cA cP ob ad S) (fun r w => r = res.1 ∧ w = mw cA cP ob ad res.2) :=
  mk_i (cc := b_Md_sideOf) (maxL := 4) (own := R_Md) (by decide) rfl rfl (Nat.le_of_ble_eq_true rfl) (fun p e s m below meth c A Q C0 hret ls hl hP hD hS => w_Md_sideOf_0 C0 hret   x1 x2 x3 S _ _ ls hP hD hS (lv_sub hl [0, 1, 2, 3] rfl) hf)
def f_Md_product_0   (x1 : Int64) (x3 : Int64) (S : St) : Option St :=
  bn (x1 >>> (Int32.toInt64 42 &&& 63)) (fun x5_1 => bn ((x1 >>> (Int32.toInt64 21 &&& 63)) &&& 2097151) (fun x7_2 => bn (x1 &&& 2097151) (fun x9_3 => bn (x3 >>> (Int32.toInt64 42 &&& 63)) (fun x11_4 => bn ((x3 >>> (Int32.toInt64 21 &&& 63)) &&& 2097151) (fun x13_5 => bn (x3 &&& 2097151) (fun x15_6 => bn (setl S 0 ((gl S 0) + (x9_3 * x15_6))) (fun S_7 => bn (setl S_7 1 ((gl S_7 1) + ((x7_2 * x15_6) + (x9_3 * x13_5)))) (fun S_8 => bn (setl S_8 2 ((gl S_8 2) + (((x5_1 * x15_6) + (x7_2 * x13_5)) + (x9_3 * x11_4)))) (fun S_9 => bn (setl S_9 3 ((gl S_9 3) + ((x5_1 * x13_5) + (x7_2 * x11_4)))) (fun S_10 => bn (setl S_10 4 ((gl S_10 4) + (x5_1 * x11_4))) (fun S_11 => some S_11)))))))))))
set_option maxHeartbeats 4000000 in
set_option maxRecDepth 100000 in
theorem w_Md_product_0 (C0 : CX p s m args c b_Md_product 17 R_Md w_Md_product D clC cA cP A) {res : St} (hret : RTv p l e rm_Md_product s m args below meth c Q D clC A b_Md_product 0 0 (fun w => w = mw cA cP ob ad res))    : ∀ (x1 : Int64) (x3 : Int64) (S : St) (H : Heap) (locs : List Loc) (ls : Array Slot), va_P D clC (mw cA cP ob ad S) H → va_D A (mw cA cP ob ad S) → va_S A s.heap H locs → lv_has ls 17 [(0, .ref (ob 0)), (1, .long x1), (3, .long x3)] → f_Md_product_0   x1 x3 S = some res → W p l e rm_Md_product s m args below meth c H locs 0 0 Q (F0 m 0 ls []) := by
  obtain ⟨hx, hb, hml, hown, hts, hK, hA, hN, hZ⟩ := id C0
  intro x1 x3 S H locs ls hP hD hS hl hf
  rw [f_Md_product_0] at hf
  refine lv_lload_n hx hb d_Md_product_0 rfl (lv_at hl 1 rfl) ?_
  refine lv_bipush (v := 42) hx hb d_Md_product_1 (by decide) ?_
  refine lv_lshr (v := (x1 >>> (Int32.toInt64 42 &&& 63))) hx hb d_Md_product_3 rfl ?_
  obtain ⟨x5_1, ex5_1, hf⟩ := bn_some hf
  refine tpl ex5_1 ?_
  refine lv_lstore (lv' := [(5, .long x5_1), (0, .ref (ob 0)), (1, .long x1), (3, .long x3)]) hx hb d_Md_product_4 hl (by decide) rfl (fun ls hl => ?_)
  refine lv_lload_n hx hb d_Md_product_6 rfl (lv_at hl 2 rfl) ?_
  refine lv_bipush (v := 21) hx hb d_Md_product_7 (by decide) ?_
  refine lv_lshr (v := (x1 >>> (Int32.toInt64 21 &&& 63))) hx hb d_Md_product_9 rfl ?_
  refine lv_ldc2 (v := 2097151) hx hb hown (hts _ (List.mem_cons_of_mem _ wd_999)) d_Md_product_10 ?_
  refine lv_land hx hb d_Md_product_13 ?_
  obtain ⟨x7_2, ex7_2, hf⟩ := bn_some hf
  refine tpl ex7_2 ?_
  refine lv_lstore (lv' := [(7, .long x7_2), (5, .long x5_1), (0, .ref (ob 0)), (1, .long x1), (3, .long x3)]) hx hb d_Md_product_14 hl (by decide) rfl (fun ls hl => ?_)
  refine lv_lload_n hx hb d_Md_product_16 rfl (lv_at hl 3 rfl) ?_
  refine lv_ldc2 (v := 2097151) hx hb hown (hts _ (List.mem_cons_of_mem _ wd_999)) d_Md_product_17 ?_
  refine lv_land hx hb d_Md_product_20 ?_
  obtain ⟨x9_3, ex9_3, hf⟩ := bn_some hf
  refine tpl ex9_3 ?_
  refine lv_lstore (lv' := [(9, .long x9_3), (7, .long x7_2), (5, .long x5_1), (0, .ref (ob 0)), (1, .long x1), (3, .long x3)]) hx hb d_Md_product_21 hl (by decide) rfl (fun ls hl => ?_)
  refine lv_lload_n hx hb d_Md_product_23 rfl (lv_at hl 5 rfl) ?_
  refine lv_bipush (v := 42) hx hb d_Md_product_24 (by decide) ?_
  refine lv_lshr (v := (x3 >>> (Int32.toInt64 42 &&& 63))) hx hb d_Md_product_26 rfl ?_
  obtain ⟨x11_4, ex11_4, hf⟩ := bn_some hf
  refine tpl ex11_4 ?_
  refine lv_lstore (lv' := [(11, .long x11_4), (9, .long x9_3), (7, .long x7_2), (5, .long x5_1), (0, .ref (ob 0)), (1, .long x1), (3, .long x3)]) hx hb d_Md_product_27 hl (by decide) rfl (fun ls hl => ?_)
  refine lv_lload_n hx hb d_Md_product_29 rfl (lv_at hl 6 rfl) ?_
  refine lv_bipush (v := 21) hx hb d_Md_product_30 (by decide) ?_
  refine lv_lshr (v := (x3 >>> (Int32.toInt64 21 &&& 63))) hx hb d_Md_product_32 rfl ?_
  refine lv_ldc2 (v := 2097151) hx hb hown (hts _ (List.mem_cons_of_mem _ wd_999)) d_Md_product_33 ?_
  refine lv_land hx hb d_Md_product_36 ?_
  obtain ⟨x13_5, ex13_5, hf⟩ := bn_some hf
  refine tpl ex13_5 ?_
  refine lv_lstore (lv' := [(13, .long x13_5), (11, .long x11_4), (9, .long x9_3), (7, .long x7_2), (5, .long x5_1), (0, .ref (ob 0)), (1, .long x1), (3, .long x3)]) hx hb d_Md_product_37 hl (by decide) rfl (fun ls hl => ?_)
  refine lv_lload_n hx hb d_Md_product_39 rfl (lv_at hl 7 rfl) ?_
  refine lv_ldc2 (v := 2097151) hx hb hown (hts _ (List.mem_cons_of_mem _ wd_999)) d_Md_product_40 ?_
  refine lv_land hx hb d_Md_product_43 ?_
  obtain ⟨x15_6, ex15_6, hf⟩ := bn_some hf
  refine tpl ex15_6 ?_
  refine lv_lstore (lv' := [(15, .long x15_6), (13, .long x13_5), (11, .long x11_4), (9, .long x9_3), (7, .long x7_2), (5, .long x5_1), (0, .ref (ob 0)), (1, .long x1), (3, .long x3)]) hx hb d_Md_product_44 hl (by decide) rfl (fun ls hl => ?_)
  refine lv_aload_n hx hb d_Md_product_46 rfl (lv_at hl 6 rfl) ?_
  refine lv_dup hx hb d_Md_product_47 rfl ?_
  refine va_get (D := D) (ci := 7) (v := .long (gl S 0)) (C := R_Md) (T := F_Md) (N := 26) hx hb hts (fun w h => List.mem_cons_of_mem _ (in_Md w h)) hown hK hP 0 rfl rfl 18 (by decide) (hts _ (List.mem_cons_of_mem _ wd_840)) (fun _ h9 => h9) rfl d_Md_product_48 ?_
  refine lv_lload hx hb d_Md_product_51 (lv_at hl 3 rfl) ?_
  refine lv_lload hx hb d_Md_product_53 (lv_at hl 0 rfl) ?_
  refine lv_lmul hx hb d_Md_product_55 ?_
  refine lv_ladd hx hb d_Md_product_56 ?_
  obtain ⟨S_7, eS_7, hf⟩ := bn_some hf
  refine va_put (D := D) (ci := 7) (v := .long ((gl S 0) + (x9_3 * x15_6))) (ty := .long) (C := R_Md) (T := F_Md) (N := 26) hx hb hts (fun w h => List.mem_cons_of_mem _ (in_Md w h)) t_Md tk_Md nk_Md hown hK hP hD hS 0 rfl rfl 18 (by decide) (hts _ (List.mem_cons_of_mem _ wd_840)) (fun _ h9 => h9) rfl (by decide +kernel) rfl rfl (Nat.le_of_ble_eq_true rfl) d_Md_product_57 (fun H locs hP hD hS => ?_)
  have hP : va_P D clC (mw cA cP ob ad S_7) H := by rw [eS_7]; exact hP
  have hD : va_D A (mw cA cP ob ad S_7) := by rw [eS_7]; exact hD
  refine lv_aload_n hx hb d_Md_product_60 rfl (lv_at hl 6 rfl) ?_
  refine lv_dup hx hb d_Md_product_61 rfl ?_
  refine va_get (D := D) (ci := 7) (v := .long (gl S_7 1)) (C := R_Md) (T := F_Md) (N := 26) hx hb hts (fun w h => List.mem_cons_of_mem _ (in_Md w h)) hown hK hP 0 rfl rfl 19 (by decide) (hts _ (List.mem_cons_of_mem _ wd_841)) (fun _ h9 => h9) rfl d_Md_product_62 ?_
  refine lv_lload hx hb d_Md_product_65 (lv_at hl 4 rfl) ?_
  refine lv_lload hx hb d_Md_product_67 (lv_at hl 0 rfl) ?_
  refine lv_lmul hx hb d_Md_product_69 ?_
  refine lv_lload hx hb d_Md_product_70 (lv_at hl 3 rfl) ?_
  refine lv_lload hx hb d_Md_product_72 (lv_at hl 1 rfl) ?_
  refine lv_lmul hx hb d_Md_product_74 ?_
  refine lv_ladd hx hb d_Md_product_75 ?_
  refine lv_ladd hx hb d_Md_product_76 ?_
  obtain ⟨S_8, eS_8, hf⟩ := bn_some hf
  refine va_put (D := D) (ci := 7) (v := .long ((gl S_7 1) + ((x7_2 * x15_6) + (x9_3 * x13_5)))) (ty := .long) (C := R_Md) (T := F_Md) (N := 26) hx hb hts (fun w h => List.mem_cons_of_mem _ (in_Md w h)) t_Md tk_Md nk_Md hown hK hP hD hS 0 rfl rfl 19 (by decide) (hts _ (List.mem_cons_of_mem _ wd_841)) (fun _ h9 => h9) rfl (by decide +kernel) rfl rfl (Nat.le_of_ble_eq_true rfl) d_Md_product_77 (fun H locs hP hD hS => ?_)
  have hP : va_P D clC (mw cA cP ob ad S_8) H := by rw [eS_8]; exact hP
  have hD : va_D A (mw cA cP ob ad S_8) := by rw [eS_8]; exact hD
  refine lv_aload_n hx hb d_Md_product_80 rfl (lv_at hl 6 rfl) ?_
  refine lv_dup hx hb d_Md_product_81 rfl ?_
  refine va_get (D := D) (ci := 7) (v := .long (gl S_8 2)) (C := R_Md) (T := F_Md) (N := 26) hx hb hts (fun w h => List.mem_cons_of_mem _ (in_Md w h)) hown hK hP 0 rfl rfl 20 (by decide) (hts _ (List.mem_cons_of_mem _ wd_842)) (fun _ h9 => h9) rfl d_Md_product_82 ?_
  refine lv_lload hx hb d_Md_product_85 (lv_at hl 5 rfl) ?_
  refine lv_lload hx hb d_Md_product_87 (lv_at hl 0 rfl) ?_
  refine lv_lmul hx hb d_Md_product_89 ?_
  refine lv_lload hx hb d_Md_product_90 (lv_at hl 4 rfl) ?_
  refine lv_lload hx hb d_Md_product_92 (lv_at hl 1 rfl) ?_
  refine lv_lmul hx hb d_Md_product_94 ?_
  refine lv_ladd hx hb d_Md_product_95 ?_
  refine lv_lload hx hb d_Md_product_96 (lv_at hl 3 rfl) ?_
  refine lv_lload hx hb d_Md_product_98 (lv_at hl 2 rfl) ?_
  refine lv_lmul hx hb d_Md_product_100 ?_
  refine lv_ladd hx hb d_Md_product_101 ?_
  refine lv_ladd hx hb d_Md_product_102 ?_
  obtain ⟨S_9, eS_9, hf⟩ := bn_some hf
  refine va_put (D := D) (ci := 7) (v := .long ((gl S_8 2) + (((x5_1 * x15_6) + (x7_2 * x13_5)) + (x9_3 * x11_4)))) (ty := .long) (C := R_Md) (T := F_Md) (N := 26) hx hb hts (fun w h => List.mem_cons_of_mem _ (in_Md w h)) t_Md tk_Md nk_Md hown hK hP hD hS 0 rfl rfl 20 (by decide) (hts _ (List.mem_cons_of_mem _ wd_842)) (fun _ h9 => h9) rfl (by decide +kernel) rfl rfl (Nat.le_of_ble_eq_true rfl) d_Md_product_103 (fun H locs hP hD hS => ?_)
  have hP : va_P D clC (mw cA cP ob ad S_9) H := by rw [eS_9]; exact hP
  have hD : va_D A (mw cA cP ob ad S_9) := by rw [eS_9]; exact hD
  refine lv_aload_n hx hb d_Md_product_106 rfl (lv_at hl 6 rfl) ?_
  refine lv_dup hx hb d_Md_product_107 rfl ?_
  refine va_get (D := D) (ci := 7) (v := .long (gl S_9 3)) (C := R_Md) (T := F_Md) (N := 26) hx hb hts (fun w h => List.mem_cons_of_mem _ (in_Md w h)) hown hK hP 0 rfl rfl 21 (by decide) (hts _ (List.mem_cons_of_mem _ wd_843)) (fun _ h9 => h9) rfl d_Md_product_108 ?_
  refine lv_lload hx hb d_Md_product_111 (lv_at hl 5 rfl) ?_
  refine lv_lload hx hb d_Md_product_113 (lv_at hl 1 rfl) ?_
  refine lv_lmul hx hb d_Md_product_115 ?_
  refine lv_lload hx hb d_Md_product_116 (lv_at hl 4 rfl) ?_
  refine lv_lload hx hb d_Md_product_118 (lv_at hl 2 rfl) ?_
  refine lv_lmul hx hb d_Md_product_120 ?_
  refine lv_ladd hx hb d_Md_product_121 ?_
  refine lv_ladd hx hb d_Md_product_122 ?_
  obtain ⟨S_10, eS_10, hf⟩ := bn_some hf
  refine va_put (D := D) (ci := 7) (v := .long ((gl S_9 3) + ((x5_1 * x13_5) + (x7_2 * x11_4)))) (ty := .long) (C := R_Md) (T := F_Md) (N := 26) hx hb hts (fun w h => List.mem_cons_of_mem _ (in_Md w h)) t_Md tk_Md nk_Md hown hK hP hD hS 0 rfl rfl 21 (by decide) (hts _ (List.mem_cons_of_mem _ wd_843)) (fun _ h9 => h9) rfl (by decide +kernel) rfl rfl (Nat.le_of_ble_eq_true rfl) d_Md_product_123 (fun H locs hP hD hS => ?_)
  have hP : va_P D clC (mw cA cP ob ad S_10) H := by rw [eS_10]; exact hP
  have hD : va_D A (mw cA cP ob ad S_10) := by rw [eS_10]; exact hD
  refine lv_aload_n hx hb d_Md_product_126 rfl (lv_at hl 6 rfl) ?_
  refine lv_dup hx hb d_Md_product_127 rfl ?_
  refine va_get (D := D) (ci := 7) (v := .long (gl S_10 4)) (C := R_Md) (T := F_Md) (N := 26) hx hb hts (fun w h => List.mem_cons_of_mem _ (in_Md w h)) hown hK hP 0 rfl rfl 22 (by decide) (hts _ (List.mem_cons_of_mem _ wd_844)) (fun _ h9 => h9) rfl d_Md_product_128 ?_
  refine lv_lload hx hb d_Md_product_131 (lv_at hl 5 rfl) ?_
  refine lv_lload hx hb d_Md_product_133 (lv_at hl 2 rfl) ?_
  refine lv_lmul hx hb d_Md_product_135 ?_
  refine lv_ladd hx hb d_Md_product_136 ?_
  obtain ⟨S_11, eS_11, hf⟩ := bn_some hf
  refine va_put (D := D) (ci := 7) (v := .long ((gl S_10 4) + (x5_1 * x11_4))) (ty := .long) (C := R_Md) (T := F_Md) (N := 26) hx hb hts (fun w h => List.mem_cons_of_mem _ (in_Md w h)) t_Md tk_Md nk_Md hown hK hP hD hS 0 rfl rfl 22 (by decide) (hts _ (List.mem_cons_of_mem _ wd_844)) (fun _ h9 => h9) rfl (by decide +kernel) rfl rfl (Nat.le_of_ble_eq_true rfl) d_Md_product_137 (fun H locs hP hD hS => ?_)
  have hP : va_P D clC (mw cA cP ob ad S_11) H := by rw [eS_11]; exact hP
  have hD : va_D A (mw cA cP ob ad S_11) := by rw [eS_11]; exact hD
  cases hf
  exact hret _ _ _ _ _ rfl hP hD hS d_Md_product_140
def f_Md_product (x1 : Int64) (x3 : Int64) (S : St) : Option St := f_Md_product_0  x1 x3 S
theorem c_Md_product (l : Launch) (D : va_G) (cA cP : ClassId) (ob : Nat → Nat) (ad : Nat → Nat → Nat) (x1 : Int64) (x3 : Int64)  (S : St) {res : St} (hf : f_Md_product x1 x3 S = some res) : CTv l y_Md_product w_Md_product rm_Md_product 0 0 D clC (TY cA cP) [.ref (ob 0), .long x1, .long x3] (mw cA cP ob ad S) (fun w => w = mw cA cP ob ad res) :=
  mk_v (cc := b_Md_product) (maxL := 17) (own := R_Md) (by decide) rfl rfl (Nat.le_of_ble_eq_true rfl) (fun p e s m below meth c A Q C0 hret ls hl hP hD hS => w_Md_product_0 C0 hret   x1 x3 S _ _ ls hP hD hS (lv_sub hl [0, 1, 2] rfl) hf)
def f_Md_signOfSum_0    (S : St) : Option (Int32 × St) :=
  bn (setl S 1 ((gl S 1) + ((gl S 0) >>> (Int32.toInt64 21 &&& 63)))) (fun S_1 => bn (setl S_1 0 ((gl S_1 0) &&& 2097151)) (fun S_2 => bn (setl S_2 2 ((gl S_2 2) + ((gl S_2 1) >>> (Int32.toInt64 21 &&& 63)))) (fun S_3 => bn (setl S_3 1 ((gl S_3 1) &&& 2097151)) (fun S_4 => bn (setl S_4 3 ((gl S_4 3) + ((gl S_4 2) >>> (Int32.toInt64 21 &&& 63)))) (fun S_5 => bn (setl S_5 2 ((gl S_5 2) &&& 2097151)) (fun S_6 => bn (setl S_6 4 ((gl S_6 4) + ((gl S_6 3) >>> (Int32.toInt64 21 &&& 63)))) (fun S_7 => bn (setl S_7 3 ((gl S_7 3) &&& 2097151)) (fun S_8 => (if (lg_cmp (gl S_8 4) 0) = 0 then
    (if (lg_cmp ((((gl S_8 0) + (gl S_8 1)) + (gl S_8 2)) + (gl S_8 3)) 0) ≤ 0 then
      some (0, S_8)
      else
      some (1, S_8))
    else
    bd (f_Md_sign (gl S_8 4) S_8) (fun q_11 => some (q_11.1, q_11.2)))))))))))
set_option maxHeartbeats 4000000 in
set_option maxRecDepth 100000 in
theorem w_Md_signOfSum_0 (C0 : CX p s m args c b_Md_signOfSum 1 R_Md w_Md_signOfSum D clC cA cP A) {res : (Int32 × St)} (hret : RTi p l e rm_Md_signOfSum s m args below meth c Q D clC A b_Md_signOfSum 0 0 (fun r w => r = res.1 ∧ w = mw cA cP ob ad res.2))    : ∀  (S : St) (H : Heap) (locs : List Loc) (ls : Array Slot), va_P D clC (mw cA cP ob ad S) H → va_D A (mw cA cP ob ad S) → va_S A s.heap H locs → lv_has ls 1 [(0, .ref (ob 0))] → f_Md_signOfSum_0    S = some res → W p l e rm_Md_signOfSum s m args below meth c H locs 0 0 Q (F0 m 0 ls []) := by
  obtain ⟨hx, hb, hml, hown, hts, hK, hA, hN, hZ⟩ := id C0
  intro  S H locs ls hP hD hS hl hf
  rw [f_Md_signOfSum_0] at hf
  refine lv_aload_n hx hb d_Md_signOfSum_0 rfl (lv_at hl 0 rfl) ?_
  refine lv_dup hx hb d_Md_signOfSum_1 rfl ?_
  refine va_get (D := D) (ci := 7) (v := .long (gl S 1)) (C := R_Md) (T := F_Md) (N := 26) hx hb hts (fun w h => List.mem_cons_of_mem _ (in_Md w h)) hown hK hP 0 rfl rfl 19 (by decide) (hts _ (List.mem_cons_of_mem _ wd_841)) (fun _ h9 => h9) rfl d_Md_signOfSum_2 ?_
  refine lv_aload_n hx hb d_Md_signOfSum_5 rfl (lv_at hl 0 rfl) ?_
  refine va_get (D := D) (ci := 7) (v := .long (gl S 0)) (C := R_Md) (T := F_Md) (N := 26) hx hb hts (fun w h => List.mem_cons_of_mem _ (in_Md w h)) hown hK hP 0 rfl rfl 18 (by decide) (hts _ (List.mem_cons_of_mem _ wd_840)) (fun _ h9 => h9) rfl d_Md_signOfSum_6 ?_
  refine lv_bipush (v := 21) hx hb d_Md_signOfSum_9 (by decide) ?_
  refine lv_lshr (v := ((gl S 0) >>> (Int32.toInt64 21 &&& 63))) hx hb d_Md_signOfSum_11 rfl ?_
  refine lv_ladd hx hb d_Md_signOfSum_12 ?_
  obtain ⟨S_1, eS_1, hf⟩ := bn_some hf
  refine va_put (D := D) (ci := 7) (v := .long ((gl S 1) + ((gl S 0) >>> (Int32.toInt64 21 &&& 63)))) (ty := .long) (C := R_Md) (T := F_Md) (N := 26) hx hb hts (fun w h => List.mem_cons_of_mem _ (in_Md w h)) t_Md tk_Md nk_Md hown hK hP hD hS 0 rfl rfl 19 (by decide) (hts _ (List.mem_cons_of_mem _ wd_841)) (fun _ h9 => h9) rfl (by decide +kernel) rfl rfl (Nat.le_of_ble_eq_true rfl) d_Md_signOfSum_13 (fun H locs hP hD hS => ?_)
  have hP : va_P D clC (mw cA cP ob ad S_1) H := by rw [eS_1]; exact hP
  have hD : va_D A (mw cA cP ob ad S_1) := by rw [eS_1]; exact hD
  refine lv_aload_n hx hb d_Md_signOfSum_16 rfl (lv_at hl 0 rfl) ?_
  refine lv_aload_n hx hb d_Md_signOfSum_17 rfl (lv_at hl 0 rfl) ?_
  refine va_get (D := D) (ci := 7) (v := .long (gl S_1 0)) (C := R_Md) (T := F_Md) (N := 26) hx hb hts (fun w h => List.mem_cons_of_mem _ (in_Md w h)) hown hK hP 0 rfl rfl 18 (by decide) (hts _ (List.mem_cons_of_mem _ wd_840)) (fun _ h9 => h9) rfl d_Md_signOfSum_18 ?_
  refine lv_ldc2 (v := 2097151) hx hb hown (hts _ (List.mem_cons_of_mem _ wd_999)) d_Md_signOfSum_21 ?_
  refine lv_land hx hb d_Md_signOfSum_24 ?_
  obtain ⟨S_2, eS_2, hf⟩ := bn_some hf
  refine va_put (D := D) (ci := 7) (v := .long ((gl S_1 0) &&& 2097151)) (ty := .long) (C := R_Md) (T := F_Md) (N := 26) hx hb hts (fun w h => List.mem_cons_of_mem _ (in_Md w h)) t_Md tk_Md nk_Md hown hK hP hD hS 0 rfl rfl 18 (by decide) (hts _ (List.mem_cons_of_mem _ wd_840)) (fun _ h9 => h9) rfl (by decide +kernel) rfl rfl (Nat.le_of_ble_eq_true rfl) d_Md_signOfSum_25 (fun H locs hP hD hS => ?_)
  have hP : va_P D clC (mw cA cP ob ad S_2) H := by rw [eS_2]; exact hP
  have hD : va_D A (mw cA cP ob ad S_2) := by rw [eS_2]; exact hD
  refine lv_aload_n hx hb d_Md_signOfSum_28 rfl (lv_at hl 0 rfl) ?_
  refine lv_dup hx hb d_Md_signOfSum_29 rfl ?_
  refine va_get (D := D) (ci := 7) (v := .long (gl S_2 2)) (C := R_Md) (T := F_Md) (N := 26) hx hb hts (fun w h => List.mem_cons_of_mem _ (in_Md w h)) hown hK hP 0 rfl rfl 20 (by decide) (hts _ (List.mem_cons_of_mem _ wd_842)) (fun _ h9 => h9) rfl d_Md_signOfSum_30 ?_
  refine lv_aload_n hx hb d_Md_signOfSum_33 rfl (lv_at hl 0 rfl) ?_
  refine va_get (D := D) (ci := 7) (v := .long (gl S_2 1)) (C := R_Md) (T := F_Md) (N := 26) hx hb hts (fun w h => List.mem_cons_of_mem _ (in_Md w h)) hown hK hP 0 rfl rfl 19 (by decide) (hts _ (List.mem_cons_of_mem _ wd_841)) (fun _ h9 => h9) rfl d_Md_signOfSum_34 ?_
  refine lv_bipush (v := 21) hx hb d_Md_signOfSum_37 (by decide) ?_
  refine lv_lshr (v := ((gl S_2 1) >>> (Int32.toInt64 21 &&& 63))) hx hb d_Md_signOfSum_39 rfl ?_
  refine lv_ladd hx hb d_Md_signOfSum_40 ?_
  obtain ⟨S_3, eS_3, hf⟩ := bn_some hf
  refine va_put (D := D) (ci := 7) (v := .long ((gl S_2 2) + ((gl S_2 1) >>> (Int32.toInt64 21 &&& 63)))) (ty := .long) (C := R_Md) (T := F_Md) (N := 26) hx hb hts (fun w h => List.mem_cons_of_mem _ (in_Md w h)) t_Md tk_Md nk_Md hown hK hP hD hS 0 rfl rfl 20 (by decide) (hts _ (List.mem_cons_of_mem _ wd_842)) (fun _ h9 => h9) rfl (by decide +kernel) rfl rfl (Nat.le_of_ble_eq_true rfl) d_Md_signOfSum_41 (fun H locs hP hD hS => ?_)
  have hP : va_P D clC (mw cA cP ob ad S_3) H := by rw [eS_3]; exact hP
  have hD : va_D A (mw cA cP ob ad S_3) := by rw [eS_3]; exact hD
  refine lv_aload_n hx hb d_Md_signOfSum_44 rfl (lv_at hl 0 rfl) ?_
  refine lv_aload_n hx hb d_Md_signOfSum_45 rfl (lv_at hl 0 rfl) ?_
  refine va_get (D := D) (ci := 7) (v := .long (gl S_3 1)) (C := R_Md) (T := F_Md) (N := 26) hx hb hts (fun w h => List.mem_cons_of_mem _ (in_Md w h)) hown hK hP 0 rfl rfl 19 (by decide) (hts _ (List.mem_cons_of_mem _ wd_841)) (fun _ h9 => h9) rfl d_Md_signOfSum_46 ?_
  refine lv_ldc2 (v := 2097151) hx hb hown (hts _ (List.mem_cons_of_mem _ wd_999)) d_Md_signOfSum_49 ?_
  refine lv_land hx hb d_Md_signOfSum_52 ?_
  obtain ⟨S_4, eS_4, hf⟩ := bn_some hf
  refine va_put (D := D) (ci := 7) (v := .long ((gl S_3 1) &&& 2097151)) (ty := .long) (C := R_Md) (T := F_Md) (N := 26) hx hb hts (fun w h => List.mem_cons_of_mem _ (in_Md w h)) t_Md tk_Md nk_Md hown hK hP hD hS 0 rfl rfl 19 (by decide) (hts _ (List.mem_cons_of_mem _ wd_841)) (fun _ h9 => h9) rfl (by decide +kernel) rfl rfl (Nat.le_of_ble_eq_true rfl) d_Md_signOfSum_53 (fun H locs hP hD hS => ?_)
  have hP : va_P D clC (mw cA cP ob ad S_4) H := by rw [eS_4]; exact hP
  have hD : va_D A (mw cA cP ob ad S_4) := by rw [eS_4]; exact hD
  refine lv_aload_n hx hb d_Md_signOfSum_56 rfl (lv_at hl 0 rfl) ?_
  refine lv_dup hx hb d_Md_signOfSum_57 rfl ?_
  refine va_get (D := D) (ci := 7) (v := .long (gl S_4 3)) (C := R_Md) (T := F_Md) (N := 26) hx hb hts (fun w h => List.mem_cons_of_mem _ (in_Md w h)) hown hK hP 0 rfl rfl 21 (by decide) (hts _ (List.mem_cons_of_mem _ wd_843)) (fun _ h9 => h9) rfl d_Md_signOfSum_58 ?_
  refine lv_aload_n hx hb d_Md_signOfSum_61 rfl (lv_at hl 0 rfl) ?_
  refine va_get (D := D) (ci := 7) (v := .long (gl S_4 2)) (C := R_Md) (T := F_Md) (N := 26) hx hb hts (fun w h => List.mem_cons_of_mem _ (in_Md w h)) hown hK hP 0 rfl rfl 20 (by decide) (hts _ (List.mem_cons_of_mem _ wd_842)) (fun _ h9 => h9) rfl d_Md_signOfSum_62 ?_
  refine lv_bipush (v := 21) hx hb d_Md_signOfSum_65 (by decide) ?_
  refine lv_lshr (v := ((gl S_4 2) >>> (Int32.toInt64 21 &&& 63))) hx hb d_Md_signOfSum_67 rfl ?_
  refine lv_ladd hx hb d_Md_signOfSum_68 ?_
  obtain ⟨S_5, eS_5, hf⟩ := bn_some hf
  refine va_put (D := D) (ci := 7) (v := .long ((gl S_4 3) + ((gl S_4 2) >>> (Int32.toInt64 21 &&& 63)))) (ty := .long) (C := R_Md) (T := F_Md) (N := 26) hx hb hts (fun w h => List.mem_cons_of_mem _ (in_Md w h)) t_Md tk_Md nk_Md hown hK hP hD hS 0 rfl rfl 21 (by decide) (hts _ (List.mem_cons_of_mem _ wd_843)) (fun _ h9 => h9) rfl (by decide +kernel) rfl rfl (Nat.le_of_ble_eq_true rfl) d_Md_signOfSum_69 (fun H locs hP hD hS => ?_)
  have hP : va_P D clC (mw cA cP ob ad S_5) H := by rw [eS_5]; exact hP
  have hD : va_D A (mw cA cP ob ad S_5) := by rw [eS_5]; exact hD
  refine lv_aload_n hx hb d_Md_signOfSum_72 rfl (lv_at hl 0 rfl) ?_
  refine lv_aload_n hx hb d_Md_signOfSum_73 rfl (lv_at hl 0 rfl) ?_
  refine va_get (D := D) (ci := 7) (v := .long (gl S_5 2)) (C := R_Md) (T := F_Md) (N := 26) hx hb hts (fun w h => List.mem_cons_of_mem _ (in_Md w h)) hown hK hP 0 rfl rfl 20 (by decide) (hts _ (List.mem_cons_of_mem _ wd_842)) (fun _ h9 => h9) rfl d_Md_signOfSum_74 ?_
  refine lv_ldc2 (v := 2097151) hx hb hown (hts _ (List.mem_cons_of_mem _ wd_999)) d_Md_signOfSum_77 ?_
  refine lv_land hx hb d_Md_signOfSum_80 ?_
  obtain ⟨S_6, eS_6, hf⟩ := bn_some hf
  refine va_put (D := D) (ci := 7) (v := .long ((gl S_5 2) &&& 2097151)) (ty := .long) (C := R_Md) (T := F_Md) (N := 26) hx hb hts (fun w h => List.mem_cons_of_mem _ (in_Md w h)) t_Md tk_Md nk_Md hown hK hP hD hS 0 rfl rfl 20 (by decide) (hts _ (List.mem_cons_of_mem _ wd_842)) (fun _ h9 => h9) rfl (by decide +kernel) rfl rfl (Nat.le_of_ble_eq_true rfl) d_Md_signOfSum_81 (fun H locs hP hD hS => ?_)
  have hP : va_P D clC (mw cA cP ob ad S_6) H := by rw [eS_6]; exact hP
  have hD : va_D A (mw cA cP ob ad S_6) := by rw [eS_6]; exact hD
  refine lv_aload_n hx hb d_Md_signOfSum_84 rfl (lv_at hl 0 rfl) ?_
  refine lv_dup hx hb d_Md_signOfSum_85 rfl ?_
  refine va_get (D := D) (ci := 7) (v := .long (gl S_6 4)) (C := R_Md) (T := F_Md) (N := 26) hx hb hts (fun w h => List.mem_cons_of_mem _ (in_Md w h)) hown hK hP 0 rfl rfl 22 (by decide) (hts _ (List.mem_cons_of_mem _ wd_844)) (fun _ h9 => h9) rfl d_Md_signOfSum_86 ?_
  refine lv_aload_n hx hb d_Md_signOfSum_89 rfl (lv_at hl 0 rfl) ?_
  refine va_get (D := D) (ci := 7) (v := .long (gl S_6 3)) (C := R_Md) (T := F_Md) (N := 26) hx hb hts (fun w h => List.mem_cons_of_mem _ (in_Md w h)) hown hK hP 0 rfl rfl 21 (by decide) (hts _ (List.mem_cons_of_mem _ wd_843)) (fun _ h9 => h9) rfl d_Md_signOfSum_90 ?_
  refine lv_bipush (v := 21) hx hb d_Md_signOfSum_93 (by decide) ?_
  refine lv_lshr (v := ((gl S_6 3) >>> (Int32.toInt64 21 &&& 63))) hx hb d_Md_signOfSum_95 rfl ?_
  refine lv_ladd hx hb d_Md_signOfSum_96 ?_
  obtain ⟨S_7, eS_7, hf⟩ := bn_some hf
  refine va_put (D := D) (ci := 7) (v := .long ((gl S_6 4) + ((gl S_6 3) >>> (Int32.toInt64 21 &&& 63)))) (ty := .long) (C := R_Md) (T := F_Md) (N := 26) hx hb hts (fun w h => List.mem_cons_of_mem _ (in_Md w h)) t_Md tk_Md nk_Md hown hK hP hD hS 0 rfl rfl 22 (by decide) (hts _ (List.mem_cons_of_mem _ wd_844)) (fun _ h9 => h9) rfl (by decide +kernel) rfl rfl (Nat.le_of_ble_eq_true rfl) d_Md_signOfSum_97 (fun H locs hP hD hS => ?_)
  have hP : va_P D clC (mw cA cP ob ad S_7) H := by rw [eS_7]; exact hP
  have hD : va_D A (mw cA cP ob ad S_7) := by rw [eS_7]; exact hD
  refine lv_aload_n hx hb d_Md_signOfSum_100 rfl (lv_at hl 0 rfl) ?_
  refine lv_aload_n hx hb d_Md_signOfSum_101 rfl (lv_at hl 0 rfl) ?_
  refine va_get (D := D) (ci := 7) (v := .long (gl S_7 3)) (C := R_Md) (T := F_Md) (N := 26) hx hb hts (fun w h => List.mem_cons_of_mem _ (in_Md w h)) hown hK hP 0 rfl rfl 21 (by decide) (hts _ (List.mem_cons_of_mem _ wd_843)) (fun _ h9 => h9) rfl d_Md_signOfSum_102 ?_
  refine lv_ldc2 (v := 2097151) hx hb hown (hts _ (List.mem_cons_of_mem _ wd_999)) d_Md_signOfSum_105 ?_
  refine lv_land hx hb d_Md_signOfSum_108 ?_
  obtain ⟨S_8, eS_8, hf⟩ := bn_some hf
  refine va_put (D := D) (ci := 7) (v := .long ((gl S_7 3) &&& 2097151)) (ty := .long) (C := R_Md) (T := F_Md) (N := 26) hx hb hts (fun w h => List.mem_cons_of_mem _ (in_Md w h)) t_Md tk_Md nk_Md hown hK hP hD hS 0 rfl rfl 21 (by decide) (hts _ (List.mem_cons_of_mem _ wd_843)) (fun _ h9 => h9) rfl (by decide +kernel) rfl rfl (Nat.le_of_ble_eq_true rfl) d_Md_signOfSum_109 (fun H locs hP hD hS => ?_)
  have hP : va_P D clC (mw cA cP ob ad S_8) H := by rw [eS_8]; exact hP
  have hD : va_D A (mw cA cP ob ad S_8) := by rw [eS_8]; exact hD
  refine lv_aload_n hx hb d_Md_signOfSum_112 rfl (lv_at hl 0 rfl) ?_
  refine va_get (D := D) (ci := 7) (v := .long (gl S_8 4)) (C := R_Md) (T := F_Md) (N := 26) hx hb hts (fun w h => List.mem_cons_of_mem _ (in_Md w h)) hown hK hP 0 rfl rfl 22 (by decide) (hts _ (List.mem_cons_of_mem _ wd_844)) (fun _ h9 => h9) rfl d_Md_signOfSum_113 ?_
  refine lv_lconst (v := 0) hx hb d_Md_signOfSum_116 (by decide) ?_
  refine W.lcmp hx hb d_Md_signOfSum_117 ?_
  refine lv_if_eq (tgt := 129) hx hb d_Md_signOfSum_118 (by decide) (fun c_9 => ?_) (fun c_9 => ?_)
  · rw [if_pos c_9] at hf
    refine lv_aload_n hx hb d_Md_signOfSum_129 rfl (lv_at hl 0 rfl) ?_
    refine va_get (D := D) (ci := 7) (v := .long (gl S_8 0)) (C := R_Md) (T := F_Md) (N := 26) hx hb hts (fun w h => List.mem_cons_of_mem _ (in_Md w h)) hown hK hP 0 rfl rfl 18 (by decide) (hts _ (List.mem_cons_of_mem _ wd_840)) (fun _ h9 => h9) rfl d_Md_signOfSum_130 ?_
    refine lv_aload_n hx hb d_Md_signOfSum_133 rfl (lv_at hl 0 rfl) ?_
    refine va_get (D := D) (ci := 7) (v := .long (gl S_8 1)) (C := R_Md) (T := F_Md) (N := 26) hx hb hts (fun w h => List.mem_cons_of_mem _ (in_Md w h)) hown hK hP 0 rfl rfl 19 (by decide) (hts _ (List.mem_cons_of_mem _ wd_841)) (fun _ h9 => h9) rfl d_Md_signOfSum_134 ?_
    refine lv_ladd hx hb d_Md_signOfSum_137 ?_
    refine lv_aload_n hx hb d_Md_signOfSum_138 rfl (lv_at hl 0 rfl) ?_
    refine va_get (D := D) (ci := 7) (v := .long (gl S_8 2)) (C := R_Md) (T := F_Md) (N := 26) hx hb hts (fun w h => List.mem_cons_of_mem _ (in_Md w h)) hown hK hP 0 rfl rfl 20 (by decide) (hts _ (List.mem_cons_of_mem _ wd_842)) (fun _ h9 => h9) rfl d_Md_signOfSum_139 ?_
    refine lv_ladd hx hb d_Md_signOfSum_142 ?_
    refine lv_aload_n hx hb d_Md_signOfSum_143 rfl (lv_at hl 0 rfl) ?_
    refine va_get (D := D) (ci := 7) (v := .long (gl S_8 3)) (C := R_Md) (T := F_Md) (N := 26) hx hb hts (fun w h => List.mem_cons_of_mem _ (in_Md w h)) hown hK hP 0 rfl rfl 21 (by decide) (hts _ (List.mem_cons_of_mem _ wd_843)) (fun _ h9 => h9) rfl d_Md_signOfSum_144 ?_
    refine lv_ladd hx hb d_Md_signOfSum_147 ?_
    refine lv_lconst (v := 0) hx hb d_Md_signOfSum_148 (by decide) ?_
    refine W.lcmp hx hb d_Md_signOfSum_149 ?_
    refine lv_if_le (tgt := 157) hx hb d_Md_signOfSum_150 (by decide) (fun c_10 => ?_) (fun c_10 => ?_)
    · rw [if_pos c_10] at hf
      refine lv_iconst (v := 0) hx hb d_Md_signOfSum_157 (by decide) ?_
      cases hf
      exact hret _ _ _ _ _ _ ⟨rfl, rfl⟩ hP hD hS d_Md_signOfSum_158
    · rw [if_neg c_10] at hf
      refine lv_iconst (v := 1) hx hb d_Md_signOfSum_153 (by decide) ?_
      refine lv_goto (tgt := 158) hx hb d_Md_signOfSum_154 (by decide) ?_
      cases hf
      exact hret _ _ _ _ _ _ ⟨rfl, rfl⟩ hP hD hS d_Md_signOfSum_158
  · rw [if_neg c_9] at hf
    refine lv_aload_n hx hb d_Md_signOfSum_121 rfl (lv_at hl 0 rfl) ?_
    refine va_get (D := D) (ci := 7) (v := .long (gl S_8 4)) (C := R_Md) (T := F_Md) (N := 26) hx hb hts (fun w h => List.mem_cons_of_mem _ (in_Md w h)) hown hK hP 0 rfl rfl 22 (by decide) (hts _ (List.mem_cons_of_mem _ wd_844)) (fun _ h9 => h9) rfl d_Md_signOfSum_122 ?_
    obtain ⟨q_11, hq_11, hf⟩ := bd_some hf
    refine kc_i (va_runS (As := [.long (gl S_8 4)]) (rest := []) ⟨hx, hb, hml, hown, hts⟩ (c_Md_sign l D cA cP ob ad (gl S_8 4)  S_8 hq_11 H.size) ⟨callB_of 1 hts (gd_Md_sign) rfl rfl rfl (hts _ (List.mem_cons_of_mem _ wd_72)) (hts _ (List.mem_cons_of_mem _ wd_972)) dd_Md_sign ⟨Nat.le_of_ble_eq_true rfl, Nat.le_of_ble_eq_true rfl⟩, (hts _ (List.mem_cons_of_mem _ wd_973))⟩ (kpS hK hP hD hN hZ hS) rfl rfl hl.1 rfl (lv_room (Nat.le_of_ble_eq_true rfl)) d_Md_signOfSum_125 ⟨Nat.le_of_ble_eq_true rfl, Nat.le_of_ble_eq_true rfl⟩) hP hD hS hA (fun r w H locs hw hP hD hS => ?_)
    obtain ⟨rfl, rfl⟩ := hw
    cases hf
    exact hret _ _ _ _ _ _ ⟨rfl, rfl⟩ hP hD hS d_Md_signOfSum_128
def f_Md_signOfSum  (S : St) : Option (Int32 × St) := f_Md_signOfSum_0   S
theorem c_Md_signOfSum (l : Launch) (D : va_G) (cA cP : ClassId) (ob : Nat → Nat) (ad : Nat → Nat → Nat)   (S : St) {res : (Int32 × St)} (hf : f_Md_signOfSum  S = some res) : CTi l y_Md_signOfSum w_Md_signOfSum rm_Md_signOfSum 0 0 D clC (TY cA cP) [.ref (ob 0)] (mw cA cP ob ad S) (fun r w => r = res.1 ∧ w = mw cA cP ob ad res.2) :=
  mk_i (cc := b_Md_signOfSum) (maxL := 1) (own := R_Md) (by decide) rfl rfl (Nat.le_of_ble_eq_true rfl) (fun p e s m below meth c A Q C0 hret ls hl hP hD hS => w_Md_signOfSum_0 C0 hret    S _ _ ls hP hD hS (lv_sub hl [0] rfl) hf)
def f_Md_part_0   (x1 : Int32) (x2 : Int32) (x3 : Int32) (x4 : Int32) (S : St) : Option St :=
  as_ (inb x3 (gn S 1)) (as_ (inb x4 (gn S 1)) (bn ((Int32.toInt64 (ga S 1 (Int32.toNatClampNeg x3))) - (Int32.toInt64 (ga S 1 (Int32.toNatClampNeg x4)))) (fun x5_3 => as_ (inb x3 (gn S 2)) (as_ (inb x4 (gn S 2)) (bn ((Int32.toInt64 (ga S 2 (Int32.toNatClampNeg x3))) - (Int32.toInt64 (ga S 2 (Int32.toNatClampNeg x4)))) (fun x7_6 => as_ (inb x1 (gn S 1)) (as_ (inb x4 (gn S 1)) (as_ (inb x1 (gn S 2)) (as_ (inb x4 (gn S 2)) (as_ (inb x2 (gn S 1)) (as_ (inb x4 (gn S 1)) (as_ (inb x2 (gn S 2)) (as_ (inb x4 (gn S 2)) (bd (f_Md_cross ((Int32.toInt64 (ga S 1 (Int32.toNatClampNeg x1))) - (Int32.toInt64 (ga S 1 (Int32.toNatClampNeg x4)))) ((Int32.toInt64 (ga S 2 (Int32.toNatClampNeg x1))) - (Int32.toInt64 (ga S 2 (Int32.toNatClampNeg x4)))) ((Int32.toInt64 (ga S 1 (Int32.toNatClampNeg x2))) - (Int32.toInt64 (ga S 1 (Int32.toNatClampNeg x4)))) ((Int32.toInt64 (ga S 2 (Int32.toNatClampNeg x2))) - (Int32.toInt64 (ga S 2 (Int32.toNatClampNeg x4)))) S) (fun q_15 => bd (f_Md_product ((x5_3 * x5_3) + (x7_6 * x7_6)) q_15.1 q_15.2) (fun q_16 => some q_16))))))))))))))))
set_option maxHeartbeats 4000000 in
set_option maxRecDepth 100000 in
theorem w_Md_part_0 (C0 : CX p s m args c b_Md_part 9 R_Md w_Md_part D clC cA cP A) {res : St} (hret : RTv p l e rm_Md_part s m args below meth c Q D clC A b_Md_part 0 0 (fun w => w = mw cA cP ob ad res))    : ∀ (x1 : Int32) (x2 : Int32) (x3 : Int32) (x4 : Int32) (S : St) (H : Heap) (locs : List Loc) (ls : Array Slot), va_P D clC (mw cA cP ob ad S) H → va_D A (mw cA cP ob ad S) → va_S A s.heap H locs → lv_has ls 9 [(0, .ref (ob 0)), (1, .int x1), (2, .int x2), (3, .int x3), (4, .int x4)] → f_Md_part_0   x1 x2 x3 x4 S = some res → W p l e rm_Md_part s m args below meth c H locs 0 0 Q (F0 m 0 ls []) := by
  obtain ⟨hx, hb, hml, hown, hts, hK, hA, hN, hZ⟩ := id C0
  intro x1 x2 x3 x4 S H locs ls hP hD hS hl hf
  rw [f_Md_part_0] at hf
  refine lv_aload_n hx hb d_Md_part_0 rfl (lv_at hl 0 rfl) ?_
  refine va_get (D := D) (ci := 7) (v := .ref (ob 1)) (C := R_Md) (T := F_Md) (N := 26) hx hb hts (fun w h => List.mem_cons_of_mem _ (in_Md w h)) hown hK hP 0 rfl rfl 3 (by decide) (hts _ (List.mem_cons_of_mem _ wd_825)) (fun _ h9 => h9) rfl d_Md_part_1 ?_
  refine lv_iload_n hx hb d_Md_part_4 rfl (lv_at hl 3 rfl) ?_
  obtain ⟨hi_1, hf⟩ := as_some hf
  refine va_iald hx hb hK hP 1 0 rfl rfl (inb_in hi_1) d_Md_part_5 ?_
  refine lv_i2l (v := (Int32.toInt64 (ga S 1 (Int32.toNatClampNeg x3)))) hx hb d_Md_part_6 rfl ?_
  refine lv_aload_n hx hb d_Md_part_7 rfl (lv_at hl 0 rfl) ?_
  refine va_get (D := D) (ci := 7) (v := .ref (ob 1)) (C := R_Md) (T := F_Md) (N := 26) hx hb hts (fun w h => List.mem_cons_of_mem _ (in_Md w h)) hown hK hP 0 rfl rfl 3 (by decide) (hts _ (List.mem_cons_of_mem _ wd_825)) (fun _ h9 => h9) rfl d_Md_part_8 ?_
  refine lv_iload hx hb d_Md_part_11 (lv_at hl 4 rfl) ?_
  obtain ⟨hi_2, hf⟩ := as_some hf
  refine va_iald hx hb hK hP 1 0 rfl rfl (inb_in hi_2) d_Md_part_13 ?_
  refine lv_i2l (v := (Int32.toInt64 (ga S 1 (Int32.toNatClampNeg x4)))) hx hb d_Md_part_14 rfl ?_
  refine lv_lsub hx hb d_Md_part_15 ?_
  obtain ⟨x5_3, ex5_3, hf⟩ := bn_some hf
  refine tpl ex5_3 ?_
  refine lv_lstore (lv' := [(5, .long x5_3), (0, .ref (ob 0)), (1, .int x1), (2, .int x2), (3, .int x3), (4, .int x4)]) hx hb d_Md_part_16 hl (by decide) rfl (fun ls hl => ?_)
  refine lv_aload_n hx hb d_Md_part_18 rfl (lv_at hl 1 rfl) ?_
  refine va_get (D := D) (ci := 7) (v := .ref (ob 2)) (C := R_Md) (T := F_Md) (N := 26) hx hb hts (fun w h => List.mem_cons_of_mem _ (in_Md w h)) hown hK hP 0 rfl rfl 4 (by decide) (hts _ (List.mem_cons_of_mem _ wd_826)) (fun _ h9 => h9) rfl d_Md_part_19 ?_
  refine lv_iload_n hx hb d_Md_part_22 rfl (lv_at hl 4 rfl) ?_
  obtain ⟨hi_4, hf⟩ := as_some hf
  refine va_iald hx hb hK hP 2 0 rfl rfl (inb_in hi_4) d_Md_part_23 ?_
  refine lv_i2l (v := (Int32.toInt64 (ga S 2 (Int32.toNatClampNeg x3)))) hx hb d_Md_part_24 rfl ?_
  refine lv_aload_n hx hb d_Md_part_25 rfl (lv_at hl 1 rfl) ?_
  refine va_get (D := D) (ci := 7) (v := .ref (ob 2)) (C := R_Md) (T := F_Md) (N := 26) hx hb hts (fun w h => List.mem_cons_of_mem _ (in_Md w h)) hown hK hP 0 rfl rfl 4 (by decide) (hts _ (List.mem_cons_of_mem _ wd_826)) (fun _ h9 => h9) rfl d_Md_part_26 ?_
  refine lv_iload hx hb d_Md_part_29 (lv_at hl 5 rfl) ?_
  obtain ⟨hi_5, hf⟩ := as_some hf
  refine va_iald hx hb hK hP 2 0 rfl rfl (inb_in hi_5) d_Md_part_31 ?_
  refine lv_i2l (v := (Int32.toInt64 (ga S 2 (Int32.toNatClampNeg x4)))) hx hb d_Md_part_32 rfl ?_
  refine lv_lsub hx hb d_Md_part_33 ?_
  obtain ⟨x7_6, ex7_6, hf⟩ := bn_some hf
  refine tpl ex7_6 ?_
  refine lv_lstore (lv' := [(7, .long x7_6), (5, .long x5_3), (0, .ref (ob 0)), (1, .int x1), (2, .int x2), (3, .int x3), (4, .int x4)]) hx hb d_Md_part_34 hl (by decide) rfl (fun ls hl => ?_)
  refine lv_aload_n hx hb d_Md_part_36 rfl (lv_at hl 2 rfl) ?_
  refine lv_lload hx hb d_Md_part_37 (lv_at hl 1 rfl) ?_
  refine lv_lload hx hb d_Md_part_39 (lv_at hl 1 rfl) ?_
  refine lv_lmul hx hb d_Md_part_41 ?_
  refine lv_lload hx hb d_Md_part_42 (lv_at hl 0 rfl) ?_
  refine lv_lload hx hb d_Md_part_44 (lv_at hl 0 rfl) ?_
  refine lv_lmul hx hb d_Md_part_46 ?_
  refine lv_ladd hx hb d_Md_part_47 ?_
  refine lv_aload_n hx hb d_Md_part_48 rfl (lv_at hl 2 rfl) ?_
  refine va_get (D := D) (ci := 7) (v := .ref (ob 1)) (C := R_Md) (T := F_Md) (N := 26) hx hb hts (fun w h => List.mem_cons_of_mem _ (in_Md w h)) hown hK hP 0 rfl rfl 3 (by decide) (hts _ (List.mem_cons_of_mem _ wd_825)) (fun _ h9 => h9) rfl d_Md_part_49 ?_
  refine lv_iload_n hx hb d_Md_part_52 rfl (lv_at hl 3 rfl) ?_
  obtain ⟨hi_7, hf⟩ := as_some hf
  refine va_iald hx hb hK hP 1 0 rfl rfl (inb_in hi_7) d_Md_part_53 ?_
  refine lv_i2l (v := (Int32.toInt64 (ga S 1 (Int32.toNatClampNeg x1)))) hx hb d_Md_part_54 rfl ?_
  refine lv_aload_n hx hb d_Md_part_55 rfl (lv_at hl 2 rfl) ?_
  refine va_get (D := D) (ci := 7) (v := .ref (ob 1)) (C := R_Md) (T := F_Md) (N := 26) hx hb hts (fun w h => List.mem_cons_of_mem _ (in_Md w h)) hown hK hP 0 rfl rfl 3 (by decide) (hts _ (List.mem_cons_of_mem _ wd_825)) (fun _ h9 => h9) rfl d_Md_part_56 ?_
  refine lv_iload hx hb d_Md_part_59 (lv_at hl 6 rfl) ?_
  obtain ⟨hi_8, hf⟩ := as_some hf
  refine va_iald hx hb hK hP 1 0 rfl rfl (inb_in hi_8) d_Md_part_61 ?_
  refine lv_i2l (v := (Int32.toInt64 (ga S 1 (Int32.toNatClampNeg x4)))) hx hb d_Md_part_62 rfl ?_
  refine lv_lsub hx hb d_Md_part_63 ?_
  refine lv_aload_n hx hb d_Md_part_64 rfl (lv_at hl 2 rfl) ?_
  refine va_get (D := D) (ci := 7) (v := .ref (ob 2)) (C := R_Md) (T := F_Md) (N := 26) hx hb hts (fun w h => List.mem_cons_of_mem _ (in_Md w h)) hown hK hP 0 rfl rfl 4 (by decide) (hts _ (List.mem_cons_of_mem _ wd_826)) (fun _ h9 => h9) rfl d_Md_part_65 ?_
  refine lv_iload_n hx hb d_Md_part_68 rfl (lv_at hl 3 rfl) ?_
  obtain ⟨hi_9, hf⟩ := as_some hf
  refine va_iald hx hb hK hP 2 0 rfl rfl (inb_in hi_9) d_Md_part_69 ?_
  refine lv_i2l (v := (Int32.toInt64 (ga S 2 (Int32.toNatClampNeg x1)))) hx hb d_Md_part_70 rfl ?_
  refine lv_aload_n hx hb d_Md_part_71 rfl (lv_at hl 2 rfl) ?_
  refine va_get (D := D) (ci := 7) (v := .ref (ob 2)) (C := R_Md) (T := F_Md) (N := 26) hx hb hts (fun w h => List.mem_cons_of_mem _ (in_Md w h)) hown hK hP 0 rfl rfl 4 (by decide) (hts _ (List.mem_cons_of_mem _ wd_826)) (fun _ h9 => h9) rfl d_Md_part_72 ?_
  refine lv_iload hx hb d_Md_part_75 (lv_at hl 6 rfl) ?_
  obtain ⟨hi_10, hf⟩ := as_some hf
  refine va_iald hx hb hK hP 2 0 rfl rfl (inb_in hi_10) d_Md_part_77 ?_
  refine lv_i2l (v := (Int32.toInt64 (ga S 2 (Int32.toNatClampNeg x4)))) hx hb d_Md_part_78 rfl ?_
  refine lv_lsub hx hb d_Md_part_79 ?_
  refine lv_aload_n hx hb d_Md_part_80 rfl (lv_at hl 2 rfl) ?_
  refine va_get (D := D) (ci := 7) (v := .ref (ob 1)) (C := R_Md) (T := F_Md) (N := 26) hx hb hts (fun w h => List.mem_cons_of_mem _ (in_Md w h)) hown hK hP 0 rfl rfl 3 (by decide) (hts _ (List.mem_cons_of_mem _ wd_825)) (fun _ h9 => h9) rfl d_Md_part_81 ?_
  refine lv_iload_n hx hb d_Md_part_84 rfl (lv_at hl 4 rfl) ?_
  obtain ⟨hi_11, hf⟩ := as_some hf
  refine va_iald hx hb hK hP 1 0 rfl rfl (inb_in hi_11) d_Md_part_85 ?_
  refine lv_i2l (v := (Int32.toInt64 (ga S 1 (Int32.toNatClampNeg x2)))) hx hb d_Md_part_86 rfl ?_
  refine lv_aload_n hx hb d_Md_part_87 rfl (lv_at hl 2 rfl) ?_
  refine va_get (D := D) (ci := 7) (v := .ref (ob 1)) (C := R_Md) (T := F_Md) (N := 26) hx hb hts (fun w h => List.mem_cons_of_mem _ (in_Md w h)) hown hK hP 0 rfl rfl 3 (by decide) (hts _ (List.mem_cons_of_mem _ wd_825)) (fun _ h9 => h9) rfl d_Md_part_88 ?_
  refine lv_iload hx hb d_Md_part_91 (lv_at hl 6 rfl) ?_
  obtain ⟨hi_12, hf⟩ := as_some hf
  refine va_iald hx hb hK hP 1 0 rfl rfl (inb_in hi_12) d_Md_part_93 ?_
  refine lv_i2l (v := (Int32.toInt64 (ga S 1 (Int32.toNatClampNeg x4)))) hx hb d_Md_part_94 rfl ?_
  refine lv_lsub hx hb d_Md_part_95 ?_
  refine lv_aload_n hx hb d_Md_part_96 rfl (lv_at hl 2 rfl) ?_
  refine va_get (D := D) (ci := 7) (v := .ref (ob 2)) (C := R_Md) (T := F_Md) (N := 26) hx hb hts (fun w h => List.mem_cons_of_mem _ (in_Md w h)) hown hK hP 0 rfl rfl 4 (by decide) (hts _ (List.mem_cons_of_mem _ wd_826)) (fun _ h9 => h9) rfl d_Md_part_97 ?_
  refine lv_iload_n hx hb d_Md_part_100 rfl (lv_at hl 4 rfl) ?_
  obtain ⟨hi_13, hf⟩ := as_some hf
  refine va_iald hx hb hK hP 2 0 rfl rfl (inb_in hi_13) d_Md_part_101 ?_
  refine lv_i2l (v := (Int32.toInt64 (ga S 2 (Int32.toNatClampNeg x2)))) hx hb d_Md_part_102 rfl ?_
  refine lv_aload_n hx hb d_Md_part_103 rfl (lv_at hl 2 rfl) ?_
  refine va_get (D := D) (ci := 7) (v := .ref (ob 2)) (C := R_Md) (T := F_Md) (N := 26) hx hb hts (fun w h => List.mem_cons_of_mem _ (in_Md w h)) hown hK hP 0 rfl rfl 4 (by decide) (hts _ (List.mem_cons_of_mem _ wd_826)) (fun _ h9 => h9) rfl d_Md_part_104 ?_
  refine lv_iload hx hb d_Md_part_107 (lv_at hl 6 rfl) ?_
  obtain ⟨hi_14, hf⟩ := as_some hf
  refine va_iald hx hb hK hP 2 0 rfl rfl (inb_in hi_14) d_Md_part_109 ?_
  refine lv_i2l (v := (Int32.toInt64 (ga S 2 (Int32.toNatClampNeg x4)))) hx hb d_Md_part_110 rfl ?_
  refine lv_lsub hx hb d_Md_part_111 ?_
  obtain ⟨q_15, hq_15, hf⟩ := bd_some hf
  refine kc_l (va_runS (As := [.long ((Int32.toInt64 (ga S 1 (Int32.toNatClampNeg x1))) - (Int32.toInt64 (ga S 1 (Int32.toNatClampNeg x4)))), .long ((Int32.toInt64 (ga S 2 (Int32.toNatClampNeg x1))) - (Int32.toInt64 (ga S 2 (Int32.toNatClampNeg x4)))), .long ((Int32.toInt64 (ga S 1 (Int32.toNatClampNeg x2))) - (Int32.toInt64 (ga S 1 (Int32.toNatClampNeg x4)))), .long ((Int32.toInt64 (ga S 2 (Int32.toNatClampNeg x2))) - (Int32.toInt64 (ga S 2 (Int32.toNatClampNeg x4))))]) (rest := [.long ((x5_3 * x5_3) + (x7_6 * x7_6)), .ref (ob 0)]) ⟨hx, hb, hml, hown, hts⟩ (c_Md_cross l D cA cP ob ad ((Int32.toInt64 (ga S 1 (Int32.toNatClampNeg x1))) - (Int32.toInt64 (ga S 1 (Int32.toNatClampNeg x4)))) ((Int32.toInt64 (ga S 2 (Int32.toNatClampNeg x1))) - (Int32.toInt64 (ga S 2 (Int32.toNatClampNeg x4)))) ((Int32.toInt64 (ga S 1 (Int32.toNatClampNeg x2))) - (Int32.toInt64 (ga S 1 (Int32.toNatClampNeg x4)))) ((Int32.toInt64 (ga S 2 (Int32.toNatClampNeg x2))) - (Int32.toInt64 (ga S 2 (Int32.toNatClampNeg x4))))  S hq_15 H.size) ⟨callB_of 4 hts (gd_Md_cross) rfl rfl rfl (hts _ (List.mem_cons_of_mem _ wd_72)) (hts _ (List.mem_cons_of_mem _ wd_969)) dd_Md_cross ⟨Nat.le_of_ble_eq_true rfl, Nat.le_of_ble_eq_true rfl⟩, (hts _ (List.mem_cons_of_mem _ wd_970))⟩ (kpS hK hP hD hN hZ hS) rfl rfl hl.1 rfl (lv_room (Nat.le_of_ble_eq_true rfl)) d_Md_part_112 ⟨Nat.le_of_ble_eq_true rfl, Nat.le_of_ble_eq_true rfl⟩) hP hD hS hA (fun r w H locs hw hP hD hS => ?_)
  obtain ⟨rfl, rfl⟩ := hw
  obtain ⟨q_16, hq_16, hf⟩ := bd_some hf
  refine kc_v (va_runV (As := [.long ((x5_3 * x5_3) + (x7_6 * x7_6)), .long q_15.1]) (rest := []) ⟨hx, hb, hml, hown, hts⟩ (c_Md_product l D cA cP ob ad ((x5_3 * x5_3) + (x7_6 * x7_6)) q_15.1  q_15.2 hq_16 H.size) ⟨callB_of 2 hts (gd_Md_product) rfl rfl rfl (hts _ (List.mem_cons_of_mem _ wd_72)) (hts _ (List.mem_cons_of_mem _ wd_995)) dd_Md_product ⟨Nat.le_of_ble_eq_true rfl, Nat.le_of_ble_eq_true rfl⟩, (hts _ (List.mem_cons_of_mem _ wd_997)), (hts _ (List.mem_cons_of_mem _ wd_49))⟩ (kpV hK hP hD hN hZ hS 7 0 rfl rfl) rfl rfl hl.1 rfl (lv_room (Nat.le_of_ble_eq_true rfl)) d_Md_part_115 ⟨Nat.le_of_ble_eq_true rfl, Nat.le_of_ble_eq_true rfl⟩) hP hD hS hA (fun w H locs hw hP hD hS => ?_)
  obtain rfl := hw
  cases hf
  exact hret _ _ _ _ _ rfl hP hD hS d_Md_part_118
def f_Md_part (x1 : Int32) (x2 : Int32) (x3 : Int32) (x4 : Int32) (S : St) : Option St := f_Md_part_0  x1 x2 x3 x4 S
theorem c_Md_part (l : Launch) (D : va_G) (cA cP : ClassId) (ob : Nat → Nat) (ad : Nat → Nat → Nat) (x1 : Int32) (x2 : Int32) (x3 : Int32) (x4 : Int32)  (S : St) {res : St} (hf : f_Md_part x1 x2 x3 x4 S = some res) : CTv l y_Md_part w_Md_part rm_Md_part 0 0 D clC (TY cA cP) [.ref (ob 0), .int x1, .int x2, .int x3, .int x4] (mw cA cP ob ad S) (fun w => w = mw cA cP ob ad res) :=
  mk_v (cc := b_Md_part) (maxL := 9) (own := R_Md) (by decide) rfl rfl (Nat.le_of_ble_eq_true rfl) (fun p e s m below meth c A Q C0 hret ls hl hP hD hS => w_Md_part_0 C0 hret   x1 x2 x3 x4 S _ _ ls hP hD hS (lv_sub hl [0, 1, 2, 3, 4] rfl) hf)
end
