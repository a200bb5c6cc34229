section
variable {p : Program} {l : Launch} {e : Env} {s : State} {m : MethodId} {args : Array Value} {below : List Frame} {meth : Method} {c : Code} {Q : State → Prop} {D : va_G} {cA cP : ClassId} {ob : Nat → Nat} {ad : Nat → Nat → Nat} {A : Nat → Prop}
def f_Md_inCircle_0   (x1 : Int32) (x2 : Int32) (x3 : Int32) (x4 : Int32) (S : St) : Option (Int32 × St) :=
  bn (setl S 0 0) (fun S_1 => bn (setl S_1 1 0) (fun S_2 => bn (setl S_2 2 0) (fun S_3 => bn (setl S_3 3 0) (fun S_4 => bn (setl S_4 4 0) (fun S_5 => bd (f_Md_part x1 x2 x3 x4 S_5) (fun q_6 => bd (f_Md_part x2 x3 x1 x4 q_6) (fun q_7 => bd (f_Md_part x3 x1 x2 x4 q_7) (fun q_8 => bd (f_Md_signOfSum  q_8) (fun q_9 => some (q_9.1, q_9.2))))))))))
set_option maxHeartbeats 4000000 in
set_option maxRecDepth 100000 in
theorem w_Md_inCircle_0 (C0 : CX p s m args c b_Md_inCircle 5 R_Md w_Md_inCircle D clC cA cP A) {res : (Int32 × St)} (hret : RTi p l e rm_Md_inCircle s m args below meth c Q D clC A b_Md_inCircle 0 0 (fun r w => r = res.1 ∧ w = mw cA cP ob ad res.2))    : ∀ (x1 : Int32) (x2 : Int32) (x3 : Int32) (x4 : Int32) (S : St) (H : Heap) (locs : List Loc) (ls : Array Slot), va_P D clC (mw cA cP ob ad S) H → va_D A (mw cA cP ob ad S) → va_S A s.heap H locs → lv_has ls 5 [(0, .ref (ob 0)), (1, .int x1), (2, .int x2), (3, .int x3), (4, .int x4)] → f_Md_inCircle_0   x1 x2 x3 x4 S = some res → W p l e rm_Md_inCircle s m args below meth c H locs 0 0 Q (F0 m 0 ls []) := by
  obtain ⟨hx, hb, hml, hown, hts, hK, hA, hN, hZ⟩ := id C0
  intro x1 x2 x3 x4 S H locs ls hP hD hS hl hf
  rw [f_Md_inCircle_0] at hf
  refine lv_aload_n hx hb d_Md_inCircle_0 rfl (lv_at hl 0 rfl) ?_
  refine lv_lconst (v := 0) hx hb d_Md_inCircle_1 (by decide) ?_
  obtain ⟨S_1, eS_1, hf⟩ := bn_some hf
  refine va_put (D := D) (ci := 7) (v := .long 0) (ty := .long) (C := R_Md) (T := F_Md) (N := 26) hx hb hts (fun w h => List.mem_cons_of_mem _ (in_Md w h)) t_Md tk_Md nk_Md hown hK hP hD hS 0 rfl rfl 18 (by decide) (hts _ (List.mem_cons_of_mem _ wd_840)) (fun _ h9 => h9) rfl (by decide +kernel) rfl rfl (Nat.le_of_ble_eq_true rfl) d_Md_inCircle_2 (fun H locs hP hD hS => ?_)
  have hP : va_P D clC (mw cA cP ob ad S_1) H := by rw [eS_1]; exact hP
  have hD : va_D A (mw cA cP ob ad S_1) := by rw [eS_1]; exact hD
  refine lv_aload_n hx hb d_Md_inCircle_5 rfl (lv_at hl 0 rfl) ?_
  refine lv_lconst (v := 0) hx hb d_Md_inCircle_6 (by decide) ?_
  obtain ⟨S_2, eS_2, hf⟩ := bn_some hf
  refine va_put (D := D) (ci := 7) (v := .long 0) (ty := .long) (C := R_Md) (T := F_Md) (N := 26) hx hb hts (fun w h => List.mem_cons_of_mem _ (in_Md w h)) t_Md tk_Md nk_Md hown hK hP hD hS 0 rfl rfl 19 (by decide) (hts _ (List.mem_cons_of_mem _ wd_841)) (fun _ h9 => h9) rfl (by decide +kernel) rfl rfl (Nat.le_of_ble_eq_true rfl) d_Md_inCircle_7 (fun H locs hP hD hS => ?_)
  have hP : va_P D clC (mw cA cP ob ad S_2) H := by rw [eS_2]; exact hP
  have hD : va_D A (mw cA cP ob ad S_2) := by rw [eS_2]; exact hD
  refine lv_aload_n hx hb d_Md_inCircle_10 rfl (lv_at hl 0 rfl) ?_
  refine lv_lconst (v := 0) hx hb d_Md_inCircle_11 (by decide) ?_
  obtain ⟨S_3, eS_3, hf⟩ := bn_some hf
  refine va_put (D := D) (ci := 7) (v := .long 0) (ty := .long) (C := R_Md) (T := F_Md) (N := 26) hx hb hts (fun w h => List.mem_cons_of_mem _ (in_Md w h)) t_Md tk_Md nk_Md hown hK hP hD hS 0 rfl rfl 20 (by decide) (hts _ (List.mem_cons_of_mem _ wd_842)) (fun _ h9 => h9) rfl (by decide +kernel) rfl rfl (Nat.le_of_ble_eq_true rfl) d_Md_inCircle_12 (fun H locs hP hD hS => ?_)
  have hP : va_P D clC (mw cA cP ob ad S_3) H := by rw [eS_3]; exact hP
  have hD : va_D A (mw cA cP ob ad S_3) := by rw [eS_3]; exact hD
  refine lv_aload_n hx hb d_Md_inCircle_15 rfl (lv_at hl 0 rfl) ?_
  refine lv_lconst (v := 0) hx hb d_Md_inCircle_16 (by decide) ?_
  obtain ⟨S_4, eS_4, hf⟩ := bn_some hf
  refine va_put (D := D) (ci := 7) (v := .long 0) (ty := .long) (C := R_Md) (T := F_Md) (N := 26) hx hb hts (fun w h => List.mem_cons_of_mem _ (in_Md w h)) t_Md tk_Md nk_Md hown hK hP hD hS 0 rfl rfl 21 (by decide) (hts _ (List.mem_cons_of_mem _ wd_843)) (fun _ h9 => h9) rfl (by decide +kernel) rfl rfl (Nat.le_of_ble_eq_true rfl) d_Md_inCircle_17 (fun H locs hP hD hS => ?_)
  have hP : va_P D clC (mw cA cP ob ad S_4) H := by rw [eS_4]; exact hP
  have hD : va_D A (mw cA cP ob ad S_4) := by rw [eS_4]; exact hD
  refine lv_aload_n hx hb d_Md_inCircle_20 rfl (lv_at hl 0 rfl) ?_
  refine lv_lconst (v := 0) hx hb d_Md_inCircle_21 (by decide) ?_
  obtain ⟨S_5, eS_5, hf⟩ := bn_some hf
  refine va_put (D := D) (ci := 7) (v := .long 0) (ty := .long) (C := R_Md) (T := F_Md) (N := 26) hx hb hts (fun w h => List.mem_cons_of_mem _ (in_Md w h)) t_Md tk_Md nk_Md hown hK hP hD hS 0 rfl rfl 22 (by decide) (hts _ (List.mem_cons_of_mem _ wd_844)) (fun _ h9 => h9) rfl (by decide +kernel) rfl rfl (Nat.le_of_ble_eq_true rfl) d_Md_inCircle_22 (fun H locs hP hD hS => ?_)
  have hP : va_P D clC (mw cA cP ob ad S_5) H := by rw [eS_5]; exact hP
  have hD : va_D A (mw cA cP ob ad S_5) := by rw [eS_5]; exact hD
  refine lv_aload_n hx hb d_Md_inCircle_25 rfl (lv_at hl 0 rfl) ?_
  refine lv_iload_n hx hb d_Md_inCircle_26 rfl (lv_at hl 1 rfl) ?_
  refine lv_iload_n hx hb d_Md_inCircle_27 rfl (lv_at hl 2 rfl) ?_
  refine lv_iload_n hx hb d_Md_inCircle_28 rfl (lv_at hl 3 rfl) ?_
  refine lv_iload hx hb d_Md_inCircle_29 (lv_at hl 4 rfl) ?_
  obtain ⟨q_6, hq_6, hf⟩ := bd_some hf
  refine kc_v (va_runV (As := [.int x1, .int x2, .int x3, .int x4]) (rest := []) ⟨hx, hb, hml, hown, hts⟩ (c_Md_part l D cA cP ob ad x1 x2 x3 x4  S_5 hq_6 H.size) ⟨callB_of 4 hts (gd_Md_part) rfl rfl rfl (hts _ (List.mem_cons_of_mem _ wd_72)) (hts _ (List.mem_cons_of_mem _ wd_991)) dd_Md_part ⟨Nat.le_of_ble_eq_true rfl, Nat.le_of_ble_eq_true rfl⟩, (hts _ (List.mem_cons_of_mem _ wd_993)), (hts _ (List.mem_cons_of_mem _ wd_48))⟩ (kpV hK hP hD hN hZ hS 7 0 rfl rfl) rfl rfl hl.1 rfl (lv_room (Nat.le_of_ble_eq_true rfl)) d_Md_inCircle_31 ⟨Nat.le_of_ble_eq_true rfl, Nat.le_of_ble_eq_true rfl⟩) hP hD hS hA (fun w H locs hw hP hD hS => ?_)
  obtain rfl := hw
  refine lv_aload_n hx hb d_Md_inCircle_34 rfl (lv_at hl 0 rfl) ?_
  refine lv_iload_n hx hb d_Md_inCircle_35 rfl (lv_at hl 2 rfl) ?_
  refine lv_iload_n hx hb d_Md_inCircle_36 rfl (lv_at hl 3 rfl) ?_
  refine lv_iload_n hx hb d_Md_inCircle_37 rfl (lv_at hl 1 rfl) ?_
  refine lv_iload hx hb d_Md_inCircle_38 (lv_at hl 4 rfl) ?_
  obtain ⟨q_7, hq_7, hf⟩ := bd_some hf
  refine kc_v (va_runV (As := [.int x2, .int x3, .int x1, .int x4]) (rest := []) ⟨hx, hb, hml, hown, hts⟩ (c_Md_part l D cA cP ob ad x2 x3 x1 x4  q_6 hq_7 H.size) ⟨callB_of 4 hts (gd_Md_part) rfl rfl rfl (hts _ (List.mem_cons_of_mem _ wd_72)) (hts _ (List.mem_cons_of_mem _ wd_991)) dd_Md_part ⟨Nat.le_of_ble_eq_true rfl, Nat.le_of_ble_eq_true rfl⟩, (hts _ (List.mem_cons_of_mem _ wd_993)), (hts _ (List.mem_cons_of_mem _ wd_48))⟩ (kpV hK hP hD hN hZ hS 7 0 rfl rfl) rfl rfl hl.1 rfl (lv_room (Nat.le_of_ble_eq_true rfl)) d_Md_inCircle_40 ⟨Nat.le_of_ble_eq_true rfl, Nat.le_of_ble_eq_true rfl⟩) hP hD hS hA (fun w H locs hw hP hD hS => ?_)
  obtain rfl := hw
  refine lv_aload_n hx hb d_Md_inCircle_43 rfl (lv_at hl 0 rfl) ?_
  refine lv_iload_n hx hb d_Md_inCircle_44 rfl (lv_at hl 3 rfl) ?_
  refine lv_iload_n hx hb d_Md_inCircle_45 rfl (lv_at hl 1 rfl) ?_
  refine lv_iload_n hx hb d_Md_inCircle_46 rfl (lv_at hl 2 rfl) ?_
  refine lv_iload hx hb d_Md_inCircle_47 (lv_at hl 4 rfl) ?_
  obtain ⟨q_8, hq_8, hf⟩ := bd_some hf
  refine kc_v (va_runV (As := [.int x3, .int x1, .int x2, .int x4]) (rest := []) ⟨hx, hb, hml, hown, hts⟩ (c_Md_part l D cA cP ob ad x3 x1 x2 x4  q_7 hq_8 H.size) ⟨callB_of 4 hts (gd_Md_part) rfl rfl rfl (hts _ (List.mem_cons_of_mem _ wd_72)) (hts _ (List.mem_cons_of_mem _ wd_991)) dd_Md_part ⟨Nat.le_of_ble_eq_true rfl, Nat.le_of_ble_eq_true rfl⟩, (hts _ (List.mem_cons_of_mem _ wd_993)), (hts _ (List.mem_cons_of_mem _ wd_48))⟩ (kpV hK hP hD hN hZ hS 7 0 rfl rfl) rfl rfl hl.1 rfl (lv_room (Nat.le_of_ble_eq_true rfl)) d_Md_inCircle_49 ⟨Nat.le_of_ble_eq_true rfl, Nat.le_of_ble_eq_true rfl⟩) hP hD hS hA (fun w H locs hw hP hD hS => ?_)
  obtain rfl := hw
  refine lv_aload_n hx hb d_Md_inCircle_52 rfl (lv_at hl 0 rfl) ?_
  obtain ⟨q_9, hq_9, hf⟩ := bd_some hf
  refine kc_i (va_runV (As := []) (rest := []) ⟨hx, hb, hml, hown, hts⟩ (c_Md_signOfSum l D cA cP ob ad   q_8 hq_9 H.size) ⟨callB_of 0 hts (gd_Md_signOfSum) rfl rfl rfl (hts _ (List.mem_cons_of_mem _ wd_72)) (hts _ (List.mem_cons_of_mem _ wd_1000)) dd_Md_signOfSum ⟨Nat.le_of_ble_eq_true rfl, Nat.le_of_ble_eq_true rfl⟩, (hts _ (List.mem_cons_of_mem _ wd_1002)), (hts _ (List.mem_cons_of_mem _ wd_50))⟩ (kpV hK hP hD hN hZ hS 7 0 rfl rfl) rfl rfl hl.1 rfl (lv_room (Nat.le_of_ble_eq_true rfl)) d_Md_inCircle_53 ⟨Nat.le_of_ble_eq_true rfl, Nat.le_of_ble_eq_true rfl⟩) hP hD hS hA (fun r w H locs hw hP hD hS => ?_)
  obtain ⟨rfl, rfl⟩ := hw
  cases hf
  exact hret _ _ _ _ _ _ ⟨rfl, rfl⟩ hP hD hS d_Md_inCircle_56
def f_Md_inCircle (x1 : Int32) (x2 : Int32) (x3 : Int32) (x4 : Int32) (S : St) : Option (Int32 × St) := f_Md_inCircle_0  x1 x2 x3 x4 S
theorem c_Md_inCircle (l : Launch) (D : va_G) (cA cP : ClassId) (ob : Nat → Nat) (ad : Nat → Nat → Nat) (x1 : Int32) (x2 : Int32) (x3 : Int32) (x4 : Int32)  (S : St) {res : (Int32 × St)} (hf : f_Md_inCircle x1 x2 x3 x4 S = some res) : CTi l y_Md_inCircle w_Md_inCircle rm_Md_inCircle 0 0 D clC (TY cA cP) [.ref (ob 0), .int x1, .int x2, .int x3, .int x4] (mw cA cP ob ad S) (fun r w => r = res.1 ∧ w = mw cA cP ob ad res.2) :=
  mk_i (cc := b_Md_inCircle) (maxL := 5) (own := R_Md) (by decide) rfl rfl (Nat.le_of_ble_eq_true rfl) (fun p e s m below meth c A Q C0 hret ls hl hP hD hS => w_Md_inCircle_0 C0 hret   x1 x2 x3 x4 S _ _ ls hP hD hS (lv_sub hl [0, 1, 2, 3, 4] rfl) hf)
def f_Md_isLess_45    (S : St) : Option (Int32 × St) :=
  some (1, S)
set_option maxHeartbeats 4000000 in
set_option maxRecDepth 100000 in
theorem w_Md_isLess_45 (C0 : CX p s m args c b_Md_isLess 3 R_Md w_Md_isLess D clC cA cP A) {res : (Int32 × St)} (hret : RTz p l e rm_Md_isLess s m args below meth c Q D clC A b_Md_isLess 0 0 (fun r w => r = res.1 ∧ w = mw cA cP ob ad res.2))    : ∀  (S : St) (H : Heap) (locs : List Loc) (ls : Array Slot), va_P D clC (mw cA cP ob ad S) H → va_D A (mw cA cP ob ad S) → va_S A s.heap H locs → lv_has ls 3 [] → f_Md_isLess_45    S = some res → W p l e rm_Md_isLess s m args below meth c H locs 0 0 Q (F0 m 45 ls []) := by
  obtain ⟨hx, hb, hml, hown, hts, hK, hA, hN, hZ⟩ := id C0
  intro  S H locs ls hP hD hS hl hf
  rw [f_Md_isLess_45] at hf
  refine lv_iconst (v := 1) hx hb d_Md_isLess_45 (by decide) ?_
  refine lv_goto (tgt := 50) hx hb d_Md_isLess_46 (by decide) ?_
  cases hf
  exact hret _ _ _ _ _ _ ⟨rfl, rfl⟩ rfl hP hD hS d_Md_isLess_50
def f_Md_isLess_0   (x1 : Int32) (x2 : Int32) (S : St) : Option (Int32 × St) :=
  as_ (inb x1 (gn S 1)) (as_ (inb x2 (gn S 1)) ((if (ga S 1 (Int32.toNatClampNeg x1)) < (ga S 1 (Int32.toNatClampNeg x2)) then
    f_Md_isLess_45    S
    else
    as_ (inb x1 (gn S 1)) (as_ (inb x2 (gn S 1)) ((if (ga S 1 (Int32.toNatClampNeg x1)) = (ga S 1 (Int32.toNatClampNeg x2)) then
      as_ (inb x1 (gn S 2)) (as_ (inb x2 (gn S 2)) ((if (ga S 2 (Int32.toNatClampNeg x2)) ≤ (ga S 2 (Int32.toNatClampNeg x1)) then
        some (0, S)
        else
        f_Md_isLess_45    S)))
      else
      some (0, S)))))))
set_option maxHeartbeats 4000000 in
set_option maxRecDepth 100000 in
theorem w_Md_isLess_0 (C0 : CX p s m args c b_Md_isLess 3 R_Md w_Md_isLess D clC cA cP A) {res : (Int32 × St)} (hret : RTz p l e rm_Md_isLess s m args below meth c Q D clC A b_Md_isLess 0 0 (fun r w => r = res.1 ∧ w = mw cA cP ob ad res.2))    : ∀ (x1 : Int32) (x2 : Int32) (S : St) (H : Heap) (locs : List Loc) (ls : Array Slot), va_P D clC (mw cA cP ob ad S) H → va_D A (mw cA cP ob ad S) → va_S A s.heap H locs → lv_has ls 3 [(0, .ref (ob 0)), (1, .int x1), (2, .int x2)] → f_Md_isLess_0   x1 x2 S = some res → W p l e rm_Md_isLess s m args below meth c H locs 0 0 Q (F0 m 0 ls []) := by
  obtain ⟨hx, hb, hml, hown, hts, hK, hA, hN, hZ⟩ := id C0
  intro x1 x2 S H locs ls hP hD hS hl hf
  rw [f_Md_isLess_0] at hf
  refine lv_aload_n hx hb d_Md_isLess_0 rfl (lv_at hl 0 rfl) ?_
  refine va_get (D := D) (ci := 7) (v := .ref (ob 1)) (C := R_Md) (T := F_Md) (N := 26) hx hb hts (fun w h => List.mem_cons_of_mem _ (in_Md w h)) hown hK hP 0 rfl rfl 3 (by decide) (hts _ (List.mem_cons_of_mem _ wd_825)) (fun _ h9 => h9) rfl d_Md_isLess_1 ?_
  refine lv_iload_n hx hb d_Md_isLess_4 rfl (lv_at hl 1 rfl) ?_
  obtain ⟨hi_1, hf⟩ := as_some hf
  refine va_iald hx hb hK hP 1 0 rfl rfl (inb_in hi_1) d_Md_isLess_5 ?_
  refine lv_aload_n hx hb d_Md_isLess_6 rfl (lv_at hl 0 rfl) ?_
  refine va_get (D := D) (ci := 7) (v := .ref (ob 1)) (C := R_Md) (T := F_Md) (N := 26) hx hb hts (fun w h => List.mem_cons_of_mem _ (in_Md w h)) hown hK hP 0 rfl rfl 3 (by decide) (hts _ (List.mem_cons_of_mem _ wd_825)) (fun _ h9 => h9) rfl d_Md_isLess_7 ?_
  refine lv_iload_n hx hb d_Md_isLess_10 rfl (lv_at hl 2 rfl) ?_
  obtain ⟨hi_2, hf⟩ := as_some hf
  refine va_iald hx hb hK hP 1 0 rfl rfl (inb_in hi_2) d_Md_isLess_11 ?_
  refine lv_icmp_lt (tgt := 45) hx hb d_Md_isLess_12 (by decide) (fun c_3 => ?_) (fun c_3 => ?_)
  · rw [if_pos c_3] at hf
    exact w_Md_isLess_45 C0 hret     S H locs ls hP hD hS (lv_sub hl [] rfl) hf
  · rw [if_neg c_3] at hf
    refine lv_aload_n hx hb d_Md_isLess_15 rfl (lv_at hl 0 rfl) ?_
    refine va_get (D := D) (ci := 7) (v := .ref (ob 1)) (C := R_Md) (T := F_Md) (N := 26) hx hb hts (fun w h => List.mem_cons_of_mem _ (in_Md w h)) hown hK hP 0 rfl rfl 3 (by decide) (hts _ (List.mem_cons_of_mem _ wd_825)) (fun _ h9 => h9) rfl d_Md_isLess_16 ?_
    refine lv_iload_n hx hb d_Md_isLess_19 rfl (lv_at hl 1 rfl) ?_
    obtain ⟨hi_4, hf⟩ := as_some hf
    refine va_iald hx hb hK hP 1 0 rfl rfl (inb_in hi_4) d_Md_isLess_20 ?_
    refine lv_aload_n hx hb d_Md_isLess_21 rfl (lv_at hl 0 rfl) ?_
    refine va_get (D := D) (ci := 7) (v := .ref (ob 1)) (C := R_Md) (T := F_Md) (N := 26) hx hb hts (fun w h => List.mem_cons_of_mem _ (in_Md w h)) hown hK hP 0 rfl rfl 3 (by decide) (hts _ (List.mem_cons_of_mem _ wd_825)) (fun _ h9 => h9) rfl d_Md_isLess_22 ?_
    refine lv_iload_n hx hb d_Md_isLess_25 rfl (lv_at hl 2 rfl) ?_
    obtain ⟨hi_5, hf⟩ := as_some hf
    refine va_iald hx hb hK hP 1 0 rfl rfl (inb_in hi_5) d_Md_isLess_26 ?_
    refine lv_icmp_ne (tgt := 49) hx hb d_Md_isLess_27 (by decide) (fun c_6 => ?_) (fun c_6 => ?_)
    · rw [if_neg c_6] at hf
      refine lv_iconst (v := 0) hx hb d_Md_isLess_49 (by decide) ?_
      cases hf
      exact hret _ _ _ _ _ _ ⟨rfl, rfl⟩ rfl hP hD hS d_Md_isLess_50
    · rw [if_pos c_6] at hf
      refine lv_aload_n hx hb d_Md_isLess_30 rfl (lv_at hl 0 rfl) ?_
      refine va_get (D := D) (ci := 7) (v := .ref (ob 2)) (C := R_Md) (T := F_Md) (N := 26) hx hb hts (fun w h => List.mem_cons_of_mem _ (in_Md w h)) hown hK hP 0 rfl rfl 4 (by decide) (hts _ (List.mem_cons_of_mem _ wd_826)) (fun _ h9 => h9) rfl d_Md_isLess_31 ?_
      refine lv_iload_n hx hb d_Md_isLess_34 rfl (lv_at hl 1 rfl) ?_
      obtain ⟨hi_7, hf⟩ := as_some hf
      refine va_iald hx hb hK hP 2 0 rfl rfl (inb_in hi_7) d_Md_isLess_35 ?_
      refine lv_aload_n hx hb d_Md_isLess_36 rfl (lv_at hl 0 rfl) ?_
      refine va_get (D := D) (ci := 7) (v := .ref (ob 2)) (C := R_Md) (T := F_Md) (N := 26) hx hb hts (fun w h => List.mem_cons_of_mem _ (in_Md w h)) hown hK hP 0 rfl rfl 4 (by decide) (hts _ (List.mem_cons_of_mem _ wd_826)) (fun _ h9 => h9) rfl d_Md_isLess_37 ?_
      refine lv_iload_n hx hb d_Md_isLess_40 rfl (lv_at hl 2 rfl) ?_
      obtain ⟨hi_8, hf⟩ := as_some hf
      refine va_iald hx hb hK hP 2 0 rfl rfl (inb_in hi_8) d_Md_isLess_41 ?_
      refine lv_icmp_ge (tgt := 49) hx hb d_Md_isLess_42 (by decide) (fun c_9 => ?_) (fun c_9 => ?_)
      · rw [if_pos c_9] at hf
        refine lv_iconst (v := 0) hx hb d_Md_isLess_49 (by decide) ?_
        cases hf
        exact hret _ _ _ _ _ _ ⟨rfl, rfl⟩ rfl hP hD hS d_Md_isLess_50
      · rw [if_neg c_9] at hf
        exact w_Md_isLess_45 C0 hret     S H locs ls hP hD hS (lv_sub hl [] rfl) hf
def f_Md_isLess (x1 : Int32) (x2 : Int32) (S : St) : Option (Int32 × St) := f_Md_isLess_0  x1 x2 S
theorem c_Md_isLess (l : Launch) (D : va_G) (cA cP : ClassId) (ob : Nat → Nat) (ad : Nat → Nat → Nat) (x1 : Int32) (x2 : Int32)  (S : St) {res : (Int32 × St)} (hf : f_Md_isLess x1 x2 S = some res) : CTi l y_Md_isLess w_Md_isLess rm_Md_isLess 0 0 D clC (TY cA cP) [.ref (ob 0), .int x1, .int x2] (mw cA cP ob ad S) (fun r w => r = res.1 ∧ w = mw cA cP ob ad res.2) :=
  mk_z (cc := b_Md_isLess) (maxL := 3) (own := R_Md) (by decide) rfl rfl (Nat.le_of_ble_eq_true rfl) (fun p e s m below meth c A Q C0 hret ls hl hP hD hS => w_Md_isLess_0 C0 hret   x1 x2 S _ _ ls hP hD hS (lv_sub hl [0, 1, 2] rfl) hf)
def f_Md_apart_0   (x1 : Int32) (x2 : Int32) (x3 : Int32) (S : St) : Option (Int64 × St) :=
  as_ (inb x1 (gn S 1)) (bn ((Int32.toInt64 (ga S 1 (Int32.toNatClampNeg x1))) - (Int32.toInt64 x2)) (fun x4_2 => as_ (inb x1 (gn S 2)) (bn ((Int32.toInt64 (ga S 2 (Int32.toNatClampNeg x1))) - (Int32.toInt64 x3)) (fun x6_4 => some (((x4_2 * x4_2) + (x6_4 * x6_4)), S)))))
set_option maxHeartbeats 4000000 in
set_option maxRecDepth 100000 in
theorem w_Md_apart_0 (C0 : CX p s m args c b_Md_apart 8 R_Md w_Md_apart D clC cA cP A) {res : (Int64 × St)} (hret : RTl p l e rm_Md_apart s m args below meth c Q D clC A b_Md_apart 0 0 (fun r w => r = res.1 ∧ w = mw cA cP ob ad res.2))    : ∀ (x1 : Int32) (x2 : Int32) (x3 : Int32) (S : St) (H : Heap) (locs : List Loc) (ls : Array Slot), va_P D clC (mw cA cP ob ad S) H → va_D A (mw cA cP ob ad S) → va_S A s.heap H locs → lv_has ls 8 [(0, .ref (ob 0)), (1, .int x1), (2, .int x2), (3, .int x3)] → f_Md_apart_0   x1 x2 x3 S = some res → W p l e rm_Md_apart s m args below meth c H locs 0 0 Q (F0 m 0 ls []) := by
  obtain ⟨hx, hb, hml, hown, hts, hK, hA, hN, hZ⟩ := id C0
  intro x1 x2 x3 S H locs ls hP hD hS hl hf
  rw [f_Md_apart_0] at hf
  refine lv_aload_n hx hb d_Md_apart_0 rfl (lv_at hl 0 rfl) ?_
  refine va_get (D := D) (ci := 7) (v := .ref (ob 1)) (C := R_Md) (T := F_Md) (N := 26) hx hb hts (fun w h => List.mem_cons_of_mem _ (in_Md w h)) hown hK hP 0 rfl rfl 3 (by decide) (hts _ (List.mem_cons_of_mem _ wd_825)) (fun _ h9 => h9) rfl d_Md_apart_1 ?_
  refine lv_iload_n hx hb d_Md_apart_4 rfl (lv_at hl 1 rfl) ?_
  obtain ⟨hi_1, hf⟩ := as_some hf
  refine va_iald hx hb hK hP 1 0 rfl rfl (inb_in hi_1) d_Md_apart_5 ?_
  refine lv_i2l (v := (Int32.toInt64 (ga S 1 (Int32.toNatClampNeg x1)))) hx hb d_Md_apart_6 rfl ?_
  refine lv_iload_n hx hb d_Md_apart_7 rfl (lv_at hl 2 rfl) ?_
  refine lv_i2l (v := (Int32.toInt64 x2)) hx hb d_Md_apart_8 rfl ?_
  refine lv_lsub hx hb d_Md_apart_9 ?_
  obtain ⟨x4_2, ex4_2, hf⟩ := bn_some hf
  refine tpl ex4_2 ?_
  refine lv_lstore (lv' := [(4, .long x4_2), (0, .ref (ob 0)), (1, .int x1), (2, .int x2), (3, .int x3)]) hx hb d_Md_apart_10 hl (by decide) rfl (fun ls hl => ?_)
  refine lv_aload_n hx hb d_Md_apart_12 rfl (lv_at hl 1 rfl) ?_
  refine va_get (D := D) (ci := 7) (v := .ref (ob 2)) (C := R_Md) (T := F_Md) (N := 26) hx hb hts (fun w h => List.mem_cons_of_mem _ (in_Md w h)) hown hK hP 0 rfl rfl 4 (by decide) (hts _ (List.mem_cons_of_mem _ wd_826)) (fun _ h9 => h9) rfl d_Md_apart_13 ?_
  refine lv_iload_n hx hb d_Md_apart_16 rfl (lv_at hl 2 rfl) ?_
  obtain ⟨hi_3, hf⟩ := as_some hf
  refine va_iald hx hb hK hP 2 0 rfl rfl (inb_in hi_3) d_Md_apart_17 ?_
  refine lv_i2l (v := (Int32.toInt64 (ga S 2 (Int32.toNatClampNeg x1)))) hx hb d_Md_apart_18 rfl ?_
  refine lv_iload_n hx hb d_Md_apart_19 rfl (lv_at hl 4 rfl) ?_
  refine lv_i2l (v := (Int32.toInt64 x3)) hx hb d_Md_apart_20 rfl ?_
  refine lv_lsub hx hb d_Md_apart_21 ?_
  obtain ⟨x6_4, ex6_4, hf⟩ := bn_some hf
  refine tpl ex6_4 ?_
  refine lv_lstore (lv' := [(6, .long x6_4), (4, .long x4_2), (0, .ref (ob 0)), (1, .int x1), (2, .int x2), (3, .int x3)]) hx hb d_Md_apart_22 hl (by decide) rfl (fun ls hl => ?_)
  refine lv_lload hx hb d_Md_apart_24 (lv_at hl 1 rfl) ?_
  refine lv_lload hx hb d_Md_apart_26 (lv_at hl 1 rfl) ?_
  refine lv_lmul hx hb d_Md_apart_28 ?_
  refine lv_lload hx hb d_Md_apart_29 (lv_at hl 0 rfl) ?_
  refine lv_lload hx hb d_Md_apart_31 (lv_at hl 0 rfl) ?_
  refine lv_lmul hx hb d_Md_apart_33 ?_
  refine lv_ladd hx hb d_Md_apart_34 ?_
  cases hf
  exact hret _ _ _ _ _ _ ⟨rfl, rfl⟩ hP hD hS d_Md_apart_35
def f_Md_apart (x1 : Int32) (x2 : Int32) (x3 : Int32) (S : St) : Option (Int64 × St) := f_Md_apart_0  x1 x2 x3 S
theorem c_Md_apart (l : Launch) (D : va_G) (cA cP : ClassId) (ob : Nat → Nat) (ad : Nat → Nat → Nat) (x1 : Int32) (x2 : Int32) (x3 : Int32)  (S : St) {res : (Int64 × St)} (hf : f_Md_apart x1 x2 x3 S = some res) : CTl l y_Md_apart w_Md_apart rm_Md_apart 0 0 D clC (TY cA cP) [.ref (ob 0), .int x1, .int x2, .int x3] (mw cA cP ob ad S) (fun r w => r = res.1 ∧ w = mw cA cP ob ad res.2) :=
  mk_l (cc := b_Md_apart) (maxL := 8) (own := R_Md) (by decide) rfl rfl (Nat.le_of_ble_eq_true rfl) (fun p e s m below meth c A Q C0 hret ls hl hP hD hS => w_Md_apart_0 C0 hret   x1 x2 x3 S _ _ ls hP hD hS (lv_sub hl [0, 1, 2, 3] rfl) hf)
def f_Md_findPoint_42  (k5 : Int32 → Int32 → Int32 → Int32 → St → Option (Int32 × St)) (x1 : Int32) (x2 : Int32) (x4 : Int32) (t0 : Int32) (S : St) : Option (Int32 × St) :=
  bn (x4 + 1) (fun x4_1 => k5 x1 x2 t0 x4_1 S)
set_option maxHeartbeats 4000000 in
set_option maxRecDepth 100000 in
theorem w_Md_findPoint_42 (C0 : CX p s m args c b_Md_findPoint 5 R_Md w_Md_findPoint D clC cA cP A) {res : (Int32 × St)} (hret : RTi p l e rm_Md_findPoint s m args below meth c Q D clC A b_Md_findPoint 0 0 (fun r w => r = res.1 ∧ w = mw cA cP ob ad res.2))   (k5 : Int32 → Int32 → Int32 → Int32 → St → Option (Int32 × St)) (hk5 : ∀ (x1 : Int32) (x2 : Int32) (x3 : Int32) (x4 : Int32) (S : St) (H : Heap) (locs : List Loc) (ls : Array Slot), va_P D clC (mw cA cP ob ad S) H → va_D A (mw cA cP ob ad S) → va_S A s.heap H locs → lv_has ls 5 [(0, .ref (ob 0)), (1, .int x1), (2, .int x2), (3, .int x3), (4, .int x4)] → k5 x1 x2 x3 x4 S = some res → W p l e rm_Md_findPoint s m args below meth c H locs 0 0 Q (F0 m 5 ls [])) : ∀ (x1 : Int32) (x2 : Int32) (x4 : Int32) (t0 : Int32) (S : St) (H : Heap) (locs : List Loc) (ls : Array Slot), va_P D clC (mw cA cP ob ad S) H → va_D A (mw cA cP ob ad S) → va_S A s.heap H locs → lv_has ls 5 [(0, .ref (ob 0)), (1, .int x1), (2, .int x2), (4, .int x4)] → f_Md_findPoint_42  k5 x1 x2 x4 t0 S = some res → W p l e rm_Md_findPoint s m args below meth c H locs 0 0 Q (F0 m 42 ls [.int t0]) := by
  obtain ⟨hx, hb, hml, hown, hts, hK, hA, hN, hZ⟩ := id C0
  intro x1 x2 x4 t0 S H locs ls hP hD hS hl hf
  rw [f_Md_findPoint_42] at hf
  refine lv_istore_n (lv' := [(3, .int t0), (0, .ref (ob 0)), (1, .int x1), (2, .int x2), (4, .int x4)]) hx hb d_Md_findPoint_42 rfl hl (by decide) rfl (fun ls hl => ?_)
  obtain ⟨x4_1, ex4_1, hf⟩ := bn_some hf
  refine lv_iinc (v := x4_1) (lv' := [(4, .int x4_1), (3, .int t0), (0, .ref (ob 0)), (1, .int x1), (2, .int x2)]) hx hb d_Md_findPoint_43 hl (k := 4) rfl (by rw [ex4_1]; rfl) (by decide) rfl (fun ls hl => ?_)
  refine lv_goto (tgt := 5) hx hb d_Md_findPoint_46 (by decide) ?_
  exact hk5 x1 x2 t0 x4_1 S H locs ls hP hD hS (lv_sub hl [2, 3, 4, 1, 0] rfl) hf
def f_Md_findPoint_41  (k5 : Int32 → Int32 → Int32 → Int32 → St → Option (Int32 × St)) (x1 : Int32) (x2 : Int32) (x3 : Int32) (x4 : Int32) (S : St) : Option (Int32 × St) :=
  f_Md_findPoint_42  k5 x1 x2 x4 x3 S
set_option maxHeartbeats 4000000 in
set_option maxRecDepth 100000 in
theorem w_Md_findPoint_41 (C0 : CX p s m args c b_Md_findPoint 5 R_Md w_Md_findPoint D clC cA cP A) {res : (Int32 × St)} (hret : RTi p l e rm_Md_findPoint s m args below meth c Q D clC A b_Md_findPoint 0 0 (fun r w => r = res.1 ∧ w = mw cA cP ob ad res.2))   (k5 : Int32 → Int32 → Int32 → Int32 → St → Option (Int32 × St)) (hk5 : ∀ (x1 : Int32) (x2 : Int32) (x3 : Int32) (x4 : Int32) (S : St) (H : Heap) (locs : List Loc) (ls : Array Slot), va_P D clC (mw cA cP ob ad S) H → va_D A (mw cA cP ob ad S) → va_S A s.heap H locs → lv_has ls 5 [(0, .ref (ob 0)), (1, .int x1), (2, .int x2), (3, .int x3), (4, .int x4)] → k5 x1 x2 x3 x4 S = some res → W p l e rm_Md_findPoint s m args below meth c H locs 0 0 Q (F0 m 5 ls [])) : ∀ (x1 : Int32) (x2 : Int32) (x3 : Int32) (x4 : Int32) (S : St) (H : Heap) (locs : List Loc) (ls : Array Slot), va_P D clC (mw cA cP ob ad S) H → va_D A (mw cA cP ob ad S) → va_S A s.heap H locs → lv_has ls 5 [(0, .ref (ob 0)), (1, .int x1), (2, .int x2), (3, .int x3), (4, .int x4)] → f_Md_findPoint_41  k5 x1 x2 x3 x4 S = some res → W p l e rm_Md_findPoint s m args below meth c H locs 0 0 Q (F0 m 41 ls []) := by
  obtain ⟨hx, hb, hml, hown, hts, hK, hA, hN, hZ⟩ := id C0
  intro x1 x2 x3 x4 S H locs ls hP hD hS hl hf
  rw [f_Md_findPoint_41] at hf
  refine lv_iload_n hx hb d_Md_findPoint_41 rfl (lv_at hl 3 rfl) ?_
  exact w_Md_findPoint_42 C0 hret   k5 hk5 x1 x2 x4 x3 S H locs ls hP hD hS (lv_sub hl [0, 1, 2, 4] rfl) hf
def f_Md_findPoint_5   : Nat → Int32 → Int32 → Int32 → Int32 → St → Option (Int32 × St)
  | 0 => fun _ _ _ _ _ => none
  | n + 1 => fun x1 x2 x3 x4 S => (if (gi S 2) ≤ x4 then
      some (x3, S)
      else
      as_ (inb x4 (gn S 1)) ((if (ga S 1 (Int32.toNatClampNeg x4)) = x1 then
        as_ (inb x4 (gn S 2)) ((if (ga S 2 (Int32.toNatClampNeg x4)) = x2 then
          f_Md_findPoint_42  (f_Md_findPoint_5  n) x1 x2 x4 x4 S
          else
          f_Md_findPoint_41  (f_Md_findPoint_5  n) x1 x2 x3 x4 S))
        else
        f_Md_findPoint_41  (f_Md_findPoint_5  n) x1 x2 x3 x4 S)))
set_option maxHeartbeats 4000000 in
set_option maxRecDepth 100000 in
theorem w_Md_findPoint_5 (C0 : CX p s m args c b_Md_findPoint 5 R_Md w_Md_findPoint D clC cA cP A) {res : (Int32 × St)} (hret : RTi p l e rm_Md_findPoint s m args below meth c Q D clC A b_Md_findPoint 0 0 (fun r w => r = res.1 ∧ w = mw cA cP ob ad res.2))    : ∀ (n : Nat) (x1 : Int32) (x2 : Int32) (x3 : Int32) (x4 : Int32) (S : St) (H : Heap) (locs : List Loc) (ls : Array Slot), va_P D clC (mw cA cP ob ad S) H → va_D A (mw cA cP ob ad S) → va_S A s.heap H locs → lv_has ls 5 [(0, .ref (ob 0)), (1, .int x1), (2, .int x2), (3, .int x3), (4, .int x4)] → f_Md_findPoint_5   n x1 x2 x3 x4 S = some res → W p l e rm_Md_findPoint s m args below meth c H locs 0 0 Q (F0 m 5 ls []) := by
  obtain ⟨hx, hb, hml, hown, hts, hK, hA, hN, hZ⟩ := id C0
  intro n
  induction n with
  | zero =>
    intro x1 x2 x3 x4 S H locs ls hP hD hS hl hf
    cases hf
  | succ n ih =>
    intro x1 x2 x3 x4 S H locs ls hP hD hS hl hf
    rw [f_Md_findPoint_5] at hf
    try dsimp only at hf
    refine lv_iload hx hb d_Md_findPoint_5 (lv_at hl 4 rfl) ?_
    refine lv_aload_n hx hb d_Md_findPoint_7 rfl (lv_at hl 0 rfl) ?_
    refine va_get (D := D) (ci := 7) (v := .int (gi S 2)) (C := R_Md) (T := F_Md) (N := 26) hx hb hts (fun w h => List.mem_cons_of_mem _ (in_Md w h)) hown hK hP 0 rfl rfl 2 (by decide) (hts _ (List.mem_cons_of_mem _ wd_824)) (fun _ h9 => h9) rfl d_Md_findPoint_8 ?_
    refine lv_icmp_ge (tgt := 49) hx hb d_Md_findPoint_11 (by decide) (fun c_1 => ?_) (fun c_1 => ?_)
    · rw [if_pos c_1] at hf
      refine lv_iload_n hx hb d_Md_findPoint_49 rfl (lv_at hl 3 rfl) ?_
      cases hf
      exact hret _ _ _ _ _ _ ⟨rfl, rfl⟩ hP hD hS d_Md_findPoint_50
    · rw [if_neg c_1] at hf
      refine lv_aload_n hx hb d_Md_findPoint_14 rfl (lv_at hl 0 rfl) ?_
      refine va_get (D := D) (ci := 7) (v := .ref (ob 1)) (C := R_Md) (T := F_Md) (N := 26) hx hb hts (fun w h => List.mem_cons_of_mem _ (in_Md w h)) hown hK hP 0 rfl rfl 3 (by decide) (hts _ (List.mem_cons_of_mem _ wd_825)) (fun _ h9 => h9) rfl d_Md_findPoint_15 ?_
      refine lv_iload hx hb d_Md_findPoint_18 (lv_at hl 4 rfl) ?_
      obtain ⟨hi_2, hf⟩ := as_some hf
      refine va_iald hx hb hK hP 1 0 rfl rfl (inb_in hi_2) d_Md_findPoint_20 ?_
      refine lv_iload_n hx hb d_Md_findPoint_21 rfl (lv_at hl 1 rfl) ?_
      refine lv_icmp_ne (tgt := 41) hx hb d_Md_findPoint_22 (by decide) (fun c_3 => ?_) (fun c_3 => ?_)
      · rw [if_neg c_3] at hf
        exact w_Md_findPoint_41 C0 hret   (f_Md_findPoint_5  n) ih x1 x2 x3 x4 S H locs ls hP hD hS (lv_sub hl [0, 1, 2, 3, 4] rfl) hf
      · rw [if_pos c_3] at hf
        refine lv_aload_n hx hb d_Md_findPoint_25 rfl (lv_at hl 0 rfl) ?_
        refine va_get (D := D) (ci := 7) (v := .ref (ob 2)) (C := R_Md) (T := F_Md) (N := 26) hx hb hts (fun w h => List.mem_cons_of_mem _ (in_Md w h)) hown hK hP 0 rfl rfl 4 (by decide) (hts _ (List.mem_cons_of_mem _ wd_826)) (fun _ h9 => h9) rfl d_Md_findPoint_26 ?_
        refine lv_iload hx hb d_Md_findPoint_29 (lv_at hl 4 rfl) ?_
        obtain ⟨hi_4, hf⟩ := as_some hf
        refine va_iald hx hb hK hP 2 0 rfl rfl (inb_in hi_4) d_Md_findPoint_31 ?_
        refine lv_iload_n hx hb d_Md_findPoint_32 rfl (lv_at hl 2 rfl) ?_
        refine lv_icmp_ne (tgt := 41) hx hb d_Md_findPoint_33 (by decide) (fun c_5 => ?_) (fun c_5 => ?_)
        · rw [if_neg c_5] at hf
          exact w_Md_findPoint_41 C0 hret   (f_Md_findPoint_5  n) ih x1 x2 x3 x4 S H locs ls hP hD hS (lv_sub hl [0, 1, 2, 3, 4] rfl) hf
        · rw [if_pos c_5] at hf
          refine lv_iload hx hb d_Md_findPoint_36 (lv_at hl 4 rfl) ?_
          refine lv_goto (tgt := 42) hx hb d_Md_findPoint_38 (by decide) ?_
          exact w_Md_findPoint_42 C0 hret   (f_Md_findPoint_5  n) ih x1 x2 x4 x4 S H locs ls hP hD hS (lv_sub hl [0, 1, 2, 4] rfl) hf
def f_Md_findPoint_0   (x1 : Int32) (x2 : Int32) (S : St) : Option (Int32 × St) :=
  f_Md_findPoint_5   FU x1 x2 (-1) 0 S
set_option maxHeartbeats 4000000 in
set_option maxRecDepth 100000 in
theorem w_Md_findPoint_0 (C0 : CX p s m args c b_Md_findPoint 5 R_Md w_Md_findPoint D clC cA cP A) {res : (Int32 × St)} (hret : RTi p l e rm_Md_findPoint s m args below meth c Q D clC A b_Md_findPoint 0 0 (fun r w => r = res.1 ∧ w = mw cA cP ob ad res.2))    : ∀ (x1 : Int32) (x2 : Int32) (S : St) (H : Heap) (locs : List Loc) (ls : Array Slot), va_P D clC (mw cA cP ob ad S) H → va_D A (mw cA cP ob ad S) → va_S A s.heap H locs → lv_has ls 5 [(0, .ref (ob 0)), (1, .int x1), (2, .int x2)] → f_Md_findPoint_0   x1 x2 S = some res → W p l e rm_Md_findPoint s m args below meth c H locs 0 0 Q (F0 m 0 ls []) := by
  obtain ⟨hx, hb, hml, hown, hts, hK, hA, hN, hZ⟩ := id C0
  intro x1 x2 S H locs ls hP hD hS hl hf
  rw [f_Md_findPoint_0] at hf
  refine lv_iconst (v := (-1)) hx hb d_Md_findPoint_0 (by decide) ?_
  refine lv_istore_n (lv' := [(3, .int (-1)), (0, .ref (ob 0)), (1, .int x1), (2, .int x2)]) hx hb d_Md_findPoint_1 rfl hl (by decide) rfl (fun ls hl => ?_)
  refine lv_iconst (v := 0) hx hb d_Md_findPoint_2 (by decide) ?_
  refine lv_istore (lv' := [(4, .int 0), (3, .int (-1)), (0, .ref (ob 0)), (1, .int x1), (2, .int x2)]) hx hb d_Md_findPoint_3 hl (by decide) rfl (fun ls hl => ?_)
  exact w_Md_findPoint_5 C0 hret    FU x1 x2 (-1) 0 S H locs ls hP hD hS (lv_sub hl [2, 3, 4, 1, 0] rfl) hf
def f_Md_findPoint (x1 : Int32) (x2 : Int32) (S : St) : Option (Int32 × St) := f_Md_findPoint_0  x1 x2 S
theorem c_Md_findPoint (l : Launch) (D : va_G) (cA cP : ClassId) (ob : Nat → Nat) (ad : Nat → Nat → Nat) (x1 : Int32) (x2 : Int32)  (S : St) {res : (Int32 × St)} (hf : f_Md_findPoint x1 x2 S = some res) : CTi l y_Md_findPoint w_Md_findPoint rm_Md_findPoint 0 0 D clC (TY cA cP) [.ref (ob 0), .int x1, .int x2] (mw cA cP ob ad S) (fun r w => r = res.1 ∧ w = mw cA cP ob ad res.2) :=
  mk_i (cc := b_Md_findPoint) (maxL := 5) (own := R_Md) (by decide) rfl rfl (Nat.le_of_ble_eq_true rfl) (fun p e s m below meth c A Q C0 hret ls hl hP hD hS => w_Md_findPoint_0 C0 hret   x1 x2 S _ _ ls hP hD hS (lv_sub hl [0, 1, 2] rfl) hf)
def f_Md_forget_7   : Nat → Int32 → St → Option St
  | 0 => fun _ _ => none
  | n + 1 => fun x1 S => (if 3 ≤ x1 then
      some S
      else
      as_ (inb x1 (gn S 11)) (bn (seta S 11 (upd (ga S 11) (Int32.toNatClampNeg x1) (-1))) (fun S_3 => bn (x1 + 1) (fun x1_4 => f_Md_forget_7  n x1_4 S_3))))
set_option maxHeartbeats 4000000 in
set_option maxRecDepth 100000 in
theorem w_Md_forget_7 (C0 : CX p s m args c b_Md_forget 2 R_Md w_Md_forget D clC cA cP A) {res : St} (hret : RTv p l e rm_Md_forget s m args below meth c Q D clC A b_Md_forget 0 0 (fun w => w = mw cA cP ob ad res))    : ∀ (n : Nat) (x1 : Int32) (S : St) (H : Heap) (locs : List Loc) (ls : Array Slot), va_P D clC (mw cA cP ob ad S) H → va_D A (mw cA cP ob ad S) → va_S A s.heap H locs → lv_has ls 2 [(0, .ref (ob 0)), (1, .int x1)] → f_Md_forget_7   n x1 S = some res → W p l e rm_Md_forget s m args below meth c H locs 0 0 Q (F0 m 7 ls []) := by
  obtain ⟨hx, hb, hml, hown, hts, hK, hA, hN, hZ⟩ := id C0
  intro n
  induction n with
  | zero =>
    intro x1 S H locs ls hP hD hS hl hf
    cases hf
  | succ n ih =>
    intro x1 S H locs ls hP hD hS hl hf
    rw [f_Md_forget_7] at hf
    try dsimp only at hf
    refine lv_iload_n hx hb d_Md_forget_7 rfl (lv_at hl 1 rfl) ?_
    refine lv_iconst (v := 3) hx hb d_Md_forget_8 (by decide) ?_
    refine lv_icmp_ge (tgt := 25) hx hb d_Md_forget_9 (by decide) (fun c_1 => ?_) (fun c_1 => ?_)
    · rw [if_pos c_1] at hf
      cases hf
      exact hret _ _ _ _ _ rfl hP hD hS d_Md_forget_25
    · rw [if_neg c_1] at hf
      refine lv_aload_n hx hb d_Md_forget_12 rfl (lv_at hl 0 rfl) ?_
      refine va_get (D := D) (ci := 7) (v := .ref (ob 11)) (C := R_Md) (T := F_Md) (N := 26) hx hb hts (fun w h => List.mem_cons_of_mem _ (in_Md w h)) hown hK hP 0 rfl rfl 25 (by decide) (hts _ (List.mem_cons_of_mem _ wd_847)) (fun _ h9 => h9) rfl d_Md_forget_13 ?_
      refine lv_iload_n hx hb d_Md_forget_16 rfl (lv_at hl 1 rfl) ?_
      refine lv_iconst (v := (-1)) hx hb d_Md_forget_17 (by decide) ?_
      obtain ⟨hi_2, hf⟩ := as_some hf
      obtain ⟨S_3, eS_3, hf⟩ := bn_some hf
      refine va_iast hx hb hK hP hD hS 11 0 rfl rfl (inb_in hi_2) d_Md_forget_18 (fun H locs hP hD hS => ?_)
      have hP : va_P D clC (mw cA cP ob ad S_3) H := by rw [eS_3]; exact hP
      have hD : va_D A (mw cA cP ob ad S_3) := by rw [eS_3]; exact hD
      obtain ⟨x1_4, ex1_4, hf⟩ := bn_some hf
      refine lv_iinc (v := x1_4) (lv' := [(1, .int x1_4), (0, .ref (ob 0))]) hx hb d_Md_forget_19 hl (k := 1) rfl (by rw [ex1_4]; rfl) (by decide) rfl (fun ls hl => ?_)
      refine lv_goto (tgt := 7) hx hb d_Md_forget_22 (by decide) ?_
      exact ih x1_4 S_3 H locs ls hP hD hS (lv_sub hl [1, 0] rfl) hf
def f_Md_forget_0    (S : St) : Option St :=
  bn (seti S 3 0) (fun S_1 => f_Md_forget_7   FU 0 S_1)
set_option maxHeartbeats 4000000 in
set_option maxRecDepth 100000 in
theorem w_Md_forget_0 (C0 : CX p s m args c b_Md_forget 2 R_Md w_Md_forget D clC cA cP A) {res : St} (hret : RTv p l e rm_Md_forget s m args below meth c Q D clC A b_Md_forget 0 0 (fun w => w = mw cA cP ob ad res))    : ∀  (S : St) (H : Heap) (locs : List Loc) (ls : Array Slot), va_P D clC (mw cA cP ob ad S) H → va_D A (mw cA cP ob ad S) → va_S A s.heap H locs → lv_has ls 2 [(0, .ref (ob 0))] → f_Md_forget_0    S = some res → W p l e rm_Md_forget s m args below meth c H locs 0 0 Q (F0 m 0 ls []) := by
  obtain ⟨hx, hb, hml, hown, hts, hK, hA, hN, hZ⟩ := id C0
  intro  S H locs ls hP hD hS hl hf
  rw [f_Md_forget_0] at hf
  refine lv_aload_n hx hb d_Md_forget_0 rfl (lv_at hl 0 rfl) ?_
  refine lv_iconst (v := 0) hx hb d_Md_forget_1 (by decide) ?_
  obtain ⟨S_1, eS_1, hf⟩ := bn_some hf
  refine va_put (D := D) (ci := 7) (v := .int 0) (ty := .boolean) (C := R_Md) (T := F_Md) (N := 26) hx hb hts (fun w h => List.mem_cons_of_mem _ (in_Md w h)) t_Md tk_Md nk_Md hown hK hP hD hS 0 rfl rfl 5 (by decide) (hts _ (List.mem_cons_of_mem _ wd_827)) (fun _ h9 => h9) rfl (by decide +kernel) rfl rfl (Nat.le_of_ble_eq_true rfl) d_Md_forget_2 (fun H locs hP hD hS => ?_)
  have hP : va_P D clC (mw cA cP ob ad S_1) H := by rw [eS_1]; exact hP
  have hD : va_D A (mw cA cP ob ad S_1) := by rw [eS_1]; exact hD
  refine lv_iconst (v := 0) hx hb d_Md_forget_5 (by decide) ?_
  refine lv_istore_n (lv' := [(1, .int 0), (0, .ref (ob 0))]) hx hb d_Md_forget_6 rfl hl (by decide) rfl (fun ls hl => ?_)
  exact w_Md_forget_7 C0 hret    FU 0 S_1 H locs ls hP hD hS (lv_sub hl [1, 0] rfl) hf
def f_Md_forget  (S : St) : Option St := f_Md_forget_0   S
theorem c_Md_forget (l : Launch) (D : va_G) (cA cP : ClassId) (ob : Nat → Nat) (ad : Nat → Nat → Nat)   (S : St) {res : St} (hf : f_Md_forget  S = some res) : CTv l y_Md_forget w_Md_forget rm_Md_forget 0 0 D clC (TY cA cP) [.ref (ob 0)] (mw cA cP ob ad S) (fun w => w = mw cA cP ob ad res) :=
  mk_v (cc := b_Md_forget) (maxL := 2) (own := R_Md) (by decide) rfl rfl (Nat.le_of_ble_eq_true rfl) (fun p e s m below meth c A Q C0 hret ls hl hP hD hS => w_Md_forget_0 C0 hret    S _ _ ls hP hD hS (lv_sub hl [0] rfl) hf)
def f_Md_add_0   (x1 : Int32) (x2 : Int32) (S : St) : Option (Int32 × St) :=
  bn (seti S 0 0) (fun S_1 => bd (f_Md_isFar x1 x2 S_1) (fun q_2 => (if q_2.1 = 0 then
    bd (f_Md_findPoint x1 x2 q_2.2) (fun q_4 => (if q_4.1 < 0 then
      (if (gi q_4.2 2) = (gi q_4.2 1) then
        bd (f_Md_fail 2 q_4.2) (fun q_13 => some (q_13.1, q_13.2))
        else
        as_ (inb (gi q_4.2 2) (gn q_4.2 1)) (bn (seta q_4.2 1 (upd (ga q_4.2 1) (Int32.toNatClampNeg (gi q_4.2 2)) x1)) (fun S_8 => as_ (inb (gi S_8 2) (gn S_8 2)) (bn (seta S_8 2 (upd (ga S_8 2) (Int32.toNatClampNeg (gi S_8 2)) x2)) (fun S_10 => bn (seti S_10 2 ((gi S_10 2) + 1)) (fun S_11 => bd (f_Md_forget  S_11) (fun q_12 => some (((gi q_12 2) - 1), q_12))))))))
      else
      some ((-1), q_4.2)))
    else
    bd (f_Md_fail 1 q_2.2) (fun q_14 => some (q_14.1, q_14.2)))))
set_option maxHeartbeats 4000000 in
set_option maxRecDepth 100000 in
theorem w_Md_add_0 (C0 : CX p s m args c b_Md_add 3 R_Md w_Md_add D clC cA cP A) {res : (Int32 × St)} (hret : RTi p l e rm_Md_add s m args below meth c Q D clC A b_Md_add 0 0 (fun r w => r = res.1 ∧ w = mw cA cP ob ad res.2))    : ∀ (x1 : Int32) (x2 : Int32) (S : St) (H : Heap) (locs : List Loc) (ls : Array Slot), va_P D clC (mw cA cP ob ad S) H → va_D A (mw cA cP ob ad S) → va_S A s.heap H locs → lv_has ls 3 [(0, .ref (ob 0)), (1, .int x1), (2, .int x2)] → f_Md_add_0   x1 x2 S = some res → W p l e rm_Md_add s m args below meth c H locs 0 0 Q (F0 m 0 ls []) := by
  obtain ⟨hx, hb, hml, hown, hts, hK, hA, hN, hZ⟩ := id C0
  intro x1 x2 S H locs ls hP hD hS hl hf
  rw [f_Md_add_0] at hf
  refine lv_aload_n hx hb d_Md_add_0 rfl (lv_at hl 0 rfl) ?_
  refine lv_iconst (v := 0) hx hb d_Md_add_1 (by decide) ?_
  obtain ⟨S_1, eS_1, hf⟩ := bn_some hf
  refine va_put (D := D) (ci := 7) (v := .int 0) (ty := .int) (C := R_Md) (T := F_Md) (N := 26) hx hb hts (fun w h => List.mem_cons_of_mem _ (in_Md w h)) t_Md tk_Md nk_Md hown hK hP hD hS 0 rfl rfl 0 (by decide) (hts _ (List.mem_cons_of_mem _ wd_822)) (fun _ h9 => h9) rfl (by decide +kernel) rfl rfl (Nat.le_of_ble_eq_true rfl) d_Md_add_2 (fun H locs hP hD hS => ?_)
  have hP : va_P D clC (mw cA cP ob ad S_1) H := by rw [eS_1]; exact hP
  have hD : va_D A (mw cA cP ob ad S_1) := by rw [eS_1]; exact hD
  refine lv_iload_n hx hb d_Md_add_5 rfl (lv_at hl 1 rfl) ?_
  refine lv_iload_n hx hb d_Md_add_6 rfl (lv_at hl 2 rfl) ?_
  obtain ⟨q_2, hq_2, hf⟩ := bd_some hf
  refine kc_i (va_runS (As := [.int x1, .int x2]) (rest := []) ⟨hx, hb, hml, hown, hts⟩ (c_Md_isFar l D cA cP ob ad x1 x2  S_1 hq_2 H.size) ⟨callB_of 2 hts (gd_Md_isFar) rfl rfl rfl (hts _ (List.mem_cons_of_mem _ wd_72)) (hts _ (List.mem_cons_of_mem _ wd_909)) dd_Md_isFar ⟨Nat.le_of_ble_eq_true rfl, Nat.le_of_ble_eq_true rfl⟩, (hts _ (List.mem_cons_of_mem _ wd_910))⟩ (kpS hK hP hD hN hZ hS) rfl rfl hl.1 rfl (lv_room (Nat.le_of_ble_eq_true rfl)) d_Md_add_7 ⟨Nat.le_of_ble_eq_true rfl, Nat.le_of_ble_eq_true rfl⟩) hP hD hS hA (fun r w H locs hw hP hD hS => ?_)
  obtain ⟨rfl, rfl⟩ := hw
  refine lv_if_eq (tgt := 19) hx hb d_Md_add_10 (by decide) (fun c_3 => ?_) (fun c_3 => ?_)
  · rw [if_pos c_3] at hf
    refine lv_aload_n hx hb d_Md_add_19 rfl (lv_at hl 0 rfl) ?_
    refine lv_iload_n hx hb d_Md_add_20 rfl (lv_at hl 1 rfl) ?_
    refine lv_iload_n hx hb d_Md_add_21 rfl (lv_at hl 2 rfl) ?_
    obtain ⟨q_4, hq_4, hf⟩ := bd_some hf
    refine kc_i (va_runV (As := [.int x1, .int x2]) (rest := []) ⟨hx, hb, hml, hown, hts⟩ (c_Md_findPoint l D cA cP ob ad x1 x2  q_2.2 hq_4 H.size) ⟨callB_of 2 hts (gd_Md_findPoint) rfl rfl rfl (hts _ (List.mem_cons_of_mem _ wd_72)) (hts _ (List.mem_cons_of_mem _ wd_921)) dd_Md_findPoint ⟨Nat.le_of_ble_eq_true rfl, Nat.le_of_ble_eq_true rfl⟩, (hts _ (List.mem_cons_of_mem _ wd_923)), (hts _ (List.mem_cons_of_mem _ wd_35))⟩ (kpV hK hP hD hN hZ hS 7 0 rfl rfl) rfl rfl hl.1 rfl (lv_room (Nat.le_of_ble_eq_true rfl)) d_Md_add_22 ⟨Nat.le_of_ble_eq_true rfl, Nat.le_of_ble_eq_true rfl⟩) hP hD hS hA (fun r w H locs hw hP hD hS => ?_)
    obtain ⟨rfl, rfl⟩ := hw
    refine lv_if_lt (tgt := 30) hx hb d_Md_add_25 (by decide) (fun c_5 => ?_) (fun c_5 => ?_)
    · rw [if_pos c_5] at hf
      refine lv_aload_n hx hb d_Md_add_30 rfl (lv_at hl 0 rfl) ?_
      refine va_get (D := D) (ci := 7) (v := .int (gi q_4.2 2)) (C := R_Md) (T := F_Md) (N := 26) hx hb hts (fun w h => List.mem_cons_of_mem _ (in_Md w h)) hown hK hP 0 rfl rfl 2 (by decide) (hts _ (List.mem_cons_of_mem _ wd_824)) (fun _ h9 => h9) rfl d_Md_add_31 ?_
      refine lv_aload_n hx hb d_Md_add_34 rfl (lv_at hl 0 rfl) ?_
      refine va_get (D := D) (ci := 7) (v := .int (gi q_4.2 1)) (C := R_Md) (T := F_Md) (N := 26) hx hb hts (fun w h => List.mem_cons_of_mem _ (in_Md w h)) hown hK hP 0 rfl rfl 1 (by decide) (hts _ (List.mem_cons_of_mem _ wd_823)) (fun _ h9 => h9) rfl d_Md_add_35 ?_
      refine lv_icmp_ne (tgt := 47) hx hb d_Md_add_38 (by decide) (fun c_6 => ?_) (fun c_6 => ?_)
      · rw [if_neg c_6] at hf
        refine lv_aload_n hx hb d_Md_add_47 rfl (lv_at hl 0 rfl) ?_
        refine va_get (D := D) (ci := 7) (v := .ref (ob 1)) (C := R_Md) (T := F_Md) (N := 26) hx hb hts (fun w h => List.mem_cons_of_mem _ (in_Md w h)) hown hK hP 0 rfl rfl 3 (by decide) (hts _ (List.mem_cons_of_mem _ wd_825)) (fun _ h9 => h9) rfl d_Md_add_48 ?_
        refine lv_aload_n hx hb d_Md_add_51 rfl (lv_at hl 0 rfl) ?_
        refine va_get (D := D) (ci := 7) (v := .int (gi q_4.2 2)) (C := R_Md) (T := F_Md) (N := 26) hx hb hts (fun w h => List.mem_cons_of_mem _ (in_Md w h)) hown hK hP 0 rfl rfl 2 (by decide) (hts _ (List.mem_cons_of_mem _ wd_824)) (fun _ h9 => h9) rfl d_Md_add_52 ?_
        refine lv_iload_n hx hb d_Md_add_55 rfl (lv_at hl 1 rfl) ?_
        obtain ⟨hi_7, hf⟩ := as_some hf
        obtain ⟨S_8, eS_8, hf⟩ := bn_some hf
        refine va_iast hx hb hK hP hD hS 1 0 rfl rfl (inb_in hi_7) d_Md_add_56 (fun H locs hP hD hS => ?_)
        have hP : va_P D clC (mw cA cP ob ad S_8) H := by rw [eS_8]; exact hP
        have hD : va_D A (mw cA cP ob ad S_8) := by rw [eS_8]; exact hD
        refine lv_aload_n hx hb d_Md_add_57 rfl (lv_at hl 0 rfl) ?_
        refine va_get (D := D) (ci := 7) (v := .ref (ob 2)) (C := R_Md) (T := F_Md) (N := 26) hx hb hts (fun w h => List.mem_cons_of_mem _ (in_Md w h)) hown hK hP 0 rfl rfl 4 (by decide) (hts _ (List.mem_cons_of_mem _ wd_826)) (fun _ h9 => h9) rfl d_Md_add_58 ?_
        refine lv_aload_n hx hb d_Md_add_61 rfl (lv_at hl 0 rfl) ?_
        refine va_get (D := D) (ci := 7) (v := .int (gi S_8 2)) (C := R_Md) (T := F_Md) (N := 26) hx hb hts (fun w h => List.mem_cons_of_mem _ (in_Md w h)) hown hK hP 0 rfl rfl 2 (by decide) (hts _ (List.mem_cons_of_mem _ wd_824)) (fun _ h9 => h9) rfl d_Md_add_62 ?_
        refine lv_iload_n hx hb d_Md_add_65 rfl (lv_at hl 2 rfl) ?_
        obtain ⟨hi_9, hf⟩ := as_some hf
        obtain ⟨S_10, eS_10, hf⟩ := bn_some hf
        refine va_iast hx hb hK hP hD hS 2 0 rfl rfl (inb_in hi_9) d_Md_add_66 (fun H locs hP hD hS => ?_)
        have hP : va_P D clC (mw cA cP ob ad S_10) H := by rw [eS_10]; exact hP
        have hD : va_D A (mw cA cP ob ad S_10) := by rw [eS_10]; exact hD
        refine lv_aload_n hx hb d_Md_add_67 rfl (lv_at hl 0 rfl) ?_
        refine lv_dup hx hb d_Md_add_68 rfl ?_
        refine va_get (D := D) (ci := 7) (v := .int (gi S_10 2)) (C := R_Md) (T := F_Md) (N := 26) hx hb hts (fun w h => List.mem_cons_of_mem _ (in_Md w h)) hown hK hP 0 rfl rfl 2 (by decide) (hts _ (List.mem_cons_of_mem _ wd_824)) (fun _ h9 => h9) rfl d_Md_add_69 ?_
        refine lv_iconst (v := 1) hx hb d_Md_add_72 (by decide) ?_
        refine lv_iadd hx hb d_Md_add_73 ?_
        obtain ⟨S_11, eS_11, hf⟩ := bn_some hf
        refine va_put (D := D) (ci := 7) (v := .int ((gi S_10 2) + 1)) (ty := .int) (C := R_Md) (T := F_Md) (N := 26) hx hb hts (fun w h => List.mem_cons_of_mem _ (in_Md w h)) t_Md tk_Md nk_Md hown hK hP hD hS 0 rfl rfl 2 (by decide) (hts _ (List.mem_cons_of_mem _ wd_824)) (fun _ h9 => h9) rfl (by decide +kernel) rfl rfl (Nat.le_of_ble_eq_true rfl) d_Md_add_74 (fun H locs hP hD hS => ?_)
        have hP : va_P D clC (mw cA cP ob ad S_11) H := by rw [eS_11]; exact hP
        have hD : va_D A (mw cA cP ob ad S_11) := by rw [eS_11]; exact hD
        refine lv_aload_n hx hb d_Md_add_77 rfl (lv_at hl 0 rfl) ?_
        obtain ⟨q_12, hq_12, hf⟩ := bd_some hf
        refine kc_v (va_runV (As := []) (rest := []) ⟨hx, hb, hml, hown, hts⟩ (c_Md_forget l D cA cP ob ad   S_11 hq_12 H.size) ⟨callB_of 0 hts (gd_Md_forget) rfl rfl rfl (hts _ (List.mem_cons_of_mem _ wd_72)) (hts _ (List.mem_cons_of_mem _ wd_925)) dd_Md_forget ⟨Nat.le_of_ble_eq_true rfl, Nat.le_of_ble_eq_true rfl⟩, (hts _ (List.mem_cons_of_mem _ wd_927)), (hts _ (List.mem_cons_of_mem _ wd_36))⟩ (kpV hK hP hD hN hZ hS 7 0 rfl rfl) rfl rfl hl.1 rfl (lv_room (Nat.le_of_ble_eq_true rfl)) d_Md_add_78 ⟨Nat.le_of_ble_eq_true rfl, Nat.le_of_ble_eq_true rfl⟩) hP hD hS hA (fun w H locs hw hP hD hS => ?_)
        obtain rfl := hw
        refine lv_aload_n hx hb d_Md_add_81 rfl (lv_at hl 0 rfl) ?_
        refine va_get (D := D) (ci := 7) (v := .int (gi q_12 2)) (C := R_Md) (T := F_Md) (N := 26) hx hb hts (fun w h => List.mem_cons_of_mem _ (in_Md w h)) hown hK hP 0 rfl rfl 2 (by decide) (hts _ (List.mem_cons_of_mem _ wd_824)) (fun _ h9 => h9) rfl d_Md_add_82 ?_
        refine lv_iconst (v := 1) hx hb d_Md_add_85 (by decide) ?_
        refine lv_isub hx hb d_Md_add_86 ?_
        cases hf
        exact hret _ _ _ _ _ _ ⟨rfl, rfl⟩ hP hD hS d_Md_add_87
      · rw [if_pos c_6] at hf
        refine lv_aload_n hx hb d_Md_add_41 rfl (lv_at hl 0 rfl) ?_
        refine lv_iconst (v := 2) hx hb d_Md_add_42 (by decide) ?_
        obtain ⟨q_13, hq_13, hf⟩ := bd_some hf
        refine kc_i (va_runV (As := [.int 2]) (rest := []) ⟨hx, hb, hml, hown, hts⟩ (c_Md_fail l D cA cP ob ad 2  q_4.2 hq_13 H.size) ⟨callB_of 1 hts (gd_Md_fail) rfl rfl rfl (hts _ (List.mem_cons_of_mem _ wd_72)) (hts _ (List.mem_cons_of_mem _ wd_917)) dd_Md_fail ⟨Nat.le_of_ble_eq_true rfl, Nat.le_of_ble_eq_true rfl⟩, (hts _ (List.mem_cons_of_mem _ wd_919)), (hts _ (List.mem_cons_of_mem _ wd_34))⟩ (kpV hK hP hD hN hZ hS 7 0 rfl rfl) rfl rfl hl.1 rfl (lv_room (Nat.le_of_ble_eq_true rfl)) d_Md_add_43 ⟨Nat.le_of_ble_eq_true rfl, Nat.le_of_ble_eq_true rfl⟩) hP hD hS hA (fun r w H locs hw hP hD hS => ?_)
        obtain ⟨rfl, rfl⟩ := hw
        cases hf
        exact hret _ _ _ _ _ _ ⟨rfl, rfl⟩ hP hD hS d_Md_add_46
    · rw [if_neg c_5] at hf
      refine lv_iconst (v := (-1)) hx hb d_Md_add_28 (by decide) ?_
      cases hf
      exact hret _ _ _ _ _ _ ⟨rfl, rfl⟩ hP hD hS d_Md_add_29
  · rw [if_neg c_3] at hf
    refine lv_aload_n hx hb d_Md_add_13 rfl (lv_at hl 0 rfl) ?_
    refine lv_iconst (v := 1) hx hb d_Md_add_14 (by decide) ?_
    obtain ⟨q_14, hq_14, hf⟩ := bd_some hf
    refine kc_i (va_runV (As := [.int 1]) (rest := []) ⟨hx, hb, hml, hown, hts⟩ (c_Md_fail l D cA cP ob ad 1  q_2.2 hq_14 H.size) ⟨callB_of 1 hts (gd_Md_fail) rfl rfl rfl (hts _ (List.mem_cons_of_mem _ wd_72)) (hts _ (List.mem_cons_of_mem _ wd_917)) dd_Md_fail ⟨Nat.le_of_ble_eq_true rfl, Nat.le_of_ble_eq_true rfl⟩, (hts _ (List.mem_cons_of_mem _ wd_919)), (hts _ (List.mem_cons_of_mem _ wd_34))⟩ (kpV hK hP hD hN hZ hS 7 0 rfl rfl) rfl rfl hl.1 rfl (lv_room (Nat.le_of_ble_eq_true rfl)) d_Md_add_15 ⟨Nat.le_of_ble_eq_true rfl, Nat.le_of_ble_eq_true rfl⟩) hP hD hS hA (fun r w H locs hw hP hD hS => ?_)
    obtain ⟨rfl, rfl⟩ := hw
    cases hf
    exact hret _ _ _ _ _ _ ⟨rfl, rfl⟩ hP hD hS d_Md_add_18
def f_Md_add (x1 : Int32) (x2 : Int32) (S : St) : Option (Int32 × St) := f_Md_add_0  x1 x2 S
theorem c_Md_add (l : Launch) (D : va_G) (cA cP : ClassId) (ob : Nat → Nat) (ad : Nat → Nat → Nat) (x1 : Int32) (x2 : Int32)  (S : St) {res : (Int32 × St)} (hf : f_Md_add x1 x2 S = some res) : CTi l y_Md_add w_Md_add rm_Md_add 0 0 D clC (TY cA cP) [.ref (ob 0), .int x1, .int x2] (mw cA cP ob ad S) (fun r w => r = res.1 ∧ w = mw cA cP ob ad res.2) :=
  mk_i (cc := b_Md_add) (maxL := 3) (own := R_Md) (by decide) rfl rfl (Nat.le_of_ble_eq_true rfl) (fun p e s m below meth c A Q C0 hret ls hl hP hD hS => w_Md_add_0 C0 hret   x1 x2 S _ _ ls hP hD hS (lv_sub hl [0, 1, 2] rfl) hf)
def f_Md_clear_0    (S : St) : Option (Int32 × St) :=
  bn (seti S 0 0) (fun S_1 => bn (gi S_1 2) (fun x1_2 => bn (seti S_1 2 0) (fun S_3 => bd (f_Md_forget  S_3) (fun q_4 => some (x1_2, q_4)))))
set_option maxHeartbeats 4000000 in
set_option maxRecDepth 100000 in
theorem w_Md_clear_0 (C0 : CX p s m args c b_Md_clear 2 R_Md w_Md_clear D clC cA cP A) {res : (Int32 × St)} (hret : RTi p l e rm_Md_clear s m args below meth c Q D clC A b_Md_clear 0 0 (fun r w => r = res.1 ∧ w = mw cA cP ob ad res.2))    : ∀  (S : St) (H : Heap) (locs : List Loc) (ls : Array Slot), va_P D clC (mw cA cP ob ad S) H → va_D A (mw cA cP ob ad S) → va_S A s.heap H locs → lv_has ls 2 [(0, .ref (ob 0))] → f_Md_clear_0    S = some res → W p l e rm_Md_clear s m args below meth c H locs 0 0 Q (F0 m 0 ls []) := by
  obtain ⟨hx, hb, hml, hown, hts, hK, hA, hN, hZ⟩ := id C0
  intro  S H locs ls hP hD hS hl hf
  rw [f_Md_clear_0] at hf
  refine lv_aload_n hx hb d_Md_clear_0 rfl (lv_at hl 0 rfl) ?_
  refine lv_iconst (v := 0) hx hb d_Md_clear_1 (by decide) ?_
  obtain ⟨S_1, eS_1, hf⟩ := bn_some hf
  refine va_put (D := D) (ci := 7) (v := .int 0) (ty := .int) (C := R_Md) (T := F_Md) (N := 26) hx hb hts (fun w h => List.mem_cons_of_mem _ (in_Md w h)) t_Md tk_Md nk_Md hown hK hP hD hS 0 rfl rfl 0 (by decide) (hts _ (List.mem_cons_of_mem _ wd_822)) (fun _ h9 => h9) rfl (by decide +kernel) rfl rfl (Nat.le_of_ble_eq_true rfl) d_Md_clear_2 (fun H locs hP hD hS => ?_)
  have hP : va_P D clC (mw cA cP ob ad S_1) H := by rw [eS_1]; exact hP
  have hD : va_D A (mw cA cP ob ad S_1) := by rw [eS_1]; exact hD
  refine lv_aload_n hx hb d_Md_clear_5 rfl (lv_at hl 0 rfl) ?_
  refine va_get (D := D) (ci := 7) (v := .int (gi S_1 2)) (C := R_Md) (T := F_Md) (N := 26) hx hb hts (fun w h => List.mem_cons_of_mem _ (in_Md w h)) hown hK hP 0 rfl rfl 2 (by decide) (hts _ (List.mem_cons_of_mem _ wd_824)) (fun _ h9 => h9) rfl d_Md_clear_6 ?_
  obtain ⟨x1_2, ex1_2, hf⟩ := bn_some hf
  refine tpi ex1_2 ?_
  refine lv_istore_n (lv' := [(1, .int x1_2), (0, .ref (ob 0))]) hx hb d_Md_clear_9 rfl hl (by decide) rfl (fun ls hl => ?_)
  refine lv_aload_n hx hb d_Md_clear_10 rfl (lv_at hl 1 rfl) ?_
  refine lv_iconst (v := 0) hx hb d_Md_clear_11 (by decide) ?_
  obtain ⟨S_3, eS_3, hf⟩ := bn_some hf
  refine va_put (D := D) (ci := 7) (v := .int 0) (ty := .int) (C := R_Md) (T := F_Md) (N := 26) hx hb hts (fun w h => List.mem_cons_of_mem _ (in_Md w h)) t_Md tk_Md nk_Md hown hK hP hD hS 0 rfl rfl 2 (by decide) (hts _ (List.mem_cons_of_mem _ wd_824)) (fun _ h9 => h9) rfl (by decide +kernel) rfl rfl (Nat.le_of_ble_eq_true rfl) d_Md_clear_12 (fun H locs hP hD hS => ?_)
  have hP : va_P D clC (mw cA cP ob ad S_3) H := by rw [eS_3]; exact hP
  have hD : va_D A (mw cA cP ob ad S_3) := by rw [eS_3]; exact hD
  refine lv_aload_n hx hb d_Md_clear_15 rfl (lv_at hl 1 rfl) ?_
  obtain ⟨q_4, hq_4, hf⟩ := bd_some hf
  refine kc_v (va_runV (As := []) (rest := []) ⟨hx, hb, hml, hown, hts⟩ (c_Md_forget l D cA cP ob ad   S_3 hq_4 H.size) ⟨callB_of 0 hts (gd_Md_forget) rfl rfl rfl (hts _ (List.mem_cons_of_mem _ wd_72)) (hts _ (List.mem_cons_of_mem _ wd_925)) dd_Md_forget ⟨Nat.le_of_ble_eq_true rfl, Nat.le_of_ble_eq_true rfl⟩, (hts _ (List.mem_cons_of_mem _ wd_927)), (hts _ (List.mem_cons_of_mem _ wd_36))⟩ (kpV hK hP hD hN hZ hS 7 0 rfl rfl) rfl rfl hl.1 rfl (lv_room (Nat.le_of_ble_eq_true rfl)) d_Md_clear_16 ⟨Nat.le_of_ble_eq_true rfl, Nat.le_of_ble_eq_true rfl⟩) hP hD hS hA (fun w H locs hw hP hD hS => ?_)
  obtain rfl := hw
  refine lv_iload_n hx hb d_Md_clear_19 rfl (lv_at hl 0 rfl) ?_
  cases hf
  exact hret _ _ _ _ _ _ ⟨rfl, rfl⟩ hP hD hS d_Md_clear_20
def f_Md_clear  (S : St) : Option (Int32 × St) := f_Md_clear_0   S
theorem c_Md_clear (l : Launch) (D : va_G) (cA cP : ClassId) (ob : Nat → Nat) (ad : Nat → Nat → Nat)   (S : St) {res : (Int32 × St)} (hf : f_Md_clear  S = some res) : CTi l y_Md_clear w_Md_clear rm_Md_clear 0 0 D clC (TY cA cP) [.ref (ob 0)] (mw cA cP ob ad S) (fun r w => r = res.1 ∧ w = mw cA cP ob ad res.2) :=
  mk_i (cc := b_Md_clear) (maxL := 2) (own := R_Md) (by decide) rfl rfl (Nat.le_of_ble_eq_true rfl) (fun p e s m below meth c A Q C0 hret ls hl hP hD hS => w_Md_clear_0 C0 hret    S _ _ ls hP hD hS (lv_sub hl [0] rfl) hf)
def f_Md_find_0   (x1 : Int32) (x2 : Int32) (S : St) : Option (Int32 × St) :=
  bn (seti S 0 0) (fun S_1 => bd (f_Md_isFar x1 x2 S_1) (fun q_2 => (if q_2.1 = 0 then
    bd (f_Md_findPoint x1 x2 q_2.2) (fun q_4 => some (q_4.1, q_4.2))
    else
    bd (f_Md_fail 1 q_2.2) (fun q_5 => some (q_5.1, q_5.2)))))
set_option maxHeartbeats 4000000 in
set_option maxRecDepth 100000 in
theorem w_Md_find_0 (C0 : CX p s m args c b_Md_find 3 R_Md w_Md_find D clC cA cP A) {res : (Int32 × St)} (hret : RTi p l e rm_Md_find s m args below meth c Q D clC A b_Md_find 0 0 (fun r w => r = res.1 ∧ w = mw cA cP ob ad res.2))    : ∀ (x1 : Int32) (x2 : Int32) (S : St) (H : Heap) (locs : List Loc) (ls : Array Slot), va_P D clC (mw cA cP ob ad S) H → va_D A (mw cA cP ob ad S) → va_S A s.heap H locs → lv_has ls 3 [(0, .ref (ob 0)), (1, .int x1), (2, .int x2)] → f_Md_find_0   x1 x2 S = some res → W p l e rm_Md_find s m args below meth c H locs 0 0 Q (F0 m 0 ls []) := by
  obtain ⟨hx, hb, hml, hown, hts, hK, hA, hN, hZ⟩ := id C0
  intro x1 x2 S H locs ls hP hD hS hl hf
  rw [f_Md_find_0] at hf
  refine lv_aload_n hx hb d_Md_find_0 rfl (lv_at hl 0 rfl) ?_
  refine lv_iconst (v := 0) hx hb d_Md_find_1 (by decide) ?_
  obtain ⟨S_1, eS_1, hf⟩ := bn_some hf
  refine va_put (D := D) (ci := 7) (v := .int 0) (ty := .int) (C := R_Md) (T := F_Md) (N := 26) hx hb hts (fun w h => List.mem_cons_of_mem _ (in_Md w h)) t_Md tk_Md nk_Md hown hK hP hD hS 0 rfl rfl 0 (by decide) (hts _ (List.mem_cons_of_mem _ wd_822)) (fun _ h9 => h9) rfl (by decide +kernel) rfl rfl (Nat.le_of_ble_eq_true rfl) d_Md_find_2 (fun H locs hP hD hS => ?_)
  have hP : va_P D clC (mw cA cP ob ad S_1) H := by rw [eS_1]; exact hP
  have hD : va_D A (mw cA cP ob ad S_1) := by rw [eS_1]; exact hD
  refine lv_iload_n hx hb d_Md_find_5 rfl (lv_at hl 1 rfl) ?_
  refine lv_iload_n hx hb d_Md_find_6 rfl (lv_at hl 2 rfl) ?_
  obtain ⟨q_2, hq_2, hf⟩ := bd_some hf
  refine kc_i (va_runS (As := [.int x1, .int x2]) (rest := []) ⟨hx, hb, hml, hown, hts⟩ (c_Md_isFar l D cA cP ob ad x1 x2  S_1 hq_2 H.size) ⟨callB_of 2 hts (gd_Md_isFar) rfl rfl rfl (hts _ (List.mem_cons_of_mem _ wd_72)) (hts _ (List.mem_cons_of_mem _ wd_909)) dd_Md_isFar ⟨Nat.le_of_ble_eq_true rfl, Nat.le_of_ble_eq_true rfl⟩, (hts _ (List.mem_cons_of_mem _ wd_910))⟩ (kpS hK hP hD hN hZ hS) rfl rfl hl.1 rfl (lv_room (Nat.le_of_ble_eq_true rfl)) d_Md_find_7 ⟨Nat.le_of_ble_eq_true rfl, Nat.le_of_ble_eq_true rfl⟩) hP hD hS hA (fun r w H locs hw hP hD hS => ?_)
  obtain ⟨rfl, rfl⟩ := hw
  refine lv_if_eq (tgt := 21) hx hb d_Md_find_10 (by decide) (fun c_3 => ?_) (fun c_3 => ?_)
  · rw [if_pos c_3] at hf
    refine lv_aload_n hx hb d_Md_find_21 rfl (lv_at hl 0 rfl) ?_
    refine lv_iload_n hx hb d_Md_find_22 rfl (lv_at hl 1 rfl) ?_
    refine lv_iload_n hx hb d_Md_find_23 rfl (lv_at hl 2 rfl) ?_
    obtain ⟨q_4, hq_4, hf⟩ := bd_some hf
    refine kc_i (va_runV (As := [.int x1, .int x2]) (rest := []) ⟨hx, hb, hml, hown, hts⟩ (c_Md_findPoint l D cA cP ob ad x1 x2  q_2.2 hq_4 H.size) ⟨callB_of 2 hts (gd_Md_findPoint) rfl rfl rfl (hts _ (List.mem_cons_of_mem _ wd_72)) (hts _ (List.mem_cons_of_mem _ wd_921)) dd_Md_findPoint ⟨Nat.le_of_ble_eq_true rfl, Nat.le_of_ble_eq_true rfl⟩, (hts _ (List.mem_cons_of_mem _ wd_923)), (hts _ (List.mem_cons_of_mem _ wd_35))⟩ (kpV hK hP hD hN hZ hS 7 0 rfl rfl) rfl rfl hl.1 rfl (lv_room (Nat.le_of_ble_eq_true rfl)) d_Md_find_24 ⟨Nat.le_of_ble_eq_true rfl, Nat.le_of_ble_eq_true rfl⟩) hP hD hS hA (fun r w H locs hw hP hD hS => ?_)
    obtain ⟨rfl, rfl⟩ := hw
    cases hf
    exact hret _ _ _ _ _ _ ⟨rfl, rfl⟩ hP hD hS d_Md_find_27
  · rw [if_neg c_3] at hf
    refine lv_aload_n hx hb d_Md_find_13 rfl (lv_at hl 0 rfl) ?_
    refine lv_iconst (v := 1) hx hb d_Md_find_14 (by decide) ?_
    obtain ⟨q_5, hq_5, hf⟩ := bd_some hf
    refine kc_i (va_runV (As := [.int 1]) (rest := []) ⟨hx, hb, hml, hown, hts⟩ (c_Md_fail l D cA cP ob ad 1  q_2.2 hq_5 H.size) ⟨callB_of 1 hts (gd_Md_fail) rfl rfl rfl (hts _ (List.mem_cons_of_mem _ wd_72)) (hts _ (List.mem_cons_of_mem _ wd_917)) dd_Md_fail ⟨Nat.le_of_ble_eq_true rfl, Nat.le_of_ble_eq_true rfl⟩, (hts _ (List.mem_cons_of_mem _ wd_919)), (hts _ (List.mem_cons_of_mem _ wd_34))⟩ (kpV hK hP hD hN hZ hS 7 0 rfl rfl) rfl rfl hl.1 rfl (lv_room (Nat.le_of_ble_eq_true rfl)) d_Md_find_15 ⟨Nat.le_of_ble_eq_true rfl, Nat.le_of_ble_eq_true rfl⟩) hP hD hS hA (fun r w H locs hw hP hD hS => ?_)
    obtain ⟨rfl, rfl⟩ := hw
    refine lv_goto (tgt := 27) hx hb d_Md_find_18 (by decide) ?_
    cases hf
    exact hret _ _ _ _ _ _ ⟨rfl, rfl⟩ hP hD hS d_Md_find_27
def f_Md_find (x1 : Int32) (x2 : Int32) (S : St) : Option (Int32 × St) := f_Md_find_0  x1 x2 S
theorem c_Md_find (l : Launch) (D : va_G) (cA cP : ClassId) (ob : Nat → Nat) (ad : Nat → Nat → Nat) (x1 : Int32) (x2 : Int32)  (S : St) {res : (Int32 × St)} (hf : f_Md_find x1 x2 S = some res) : CTi l y_Md_find w_Md_find rm_Md_find 0 0 D clC (TY cA cP) [.ref (ob 0), .int x1, .int x2] (mw cA cP ob ad S) (fun r w => r = res.1 ∧ w = mw cA cP ob ad res.2) :=
  mk_i (cc := b_Md_find) (maxL := 3) (own := R_Md) (by decide) rfl rfl (Nat.le_of_ble_eq_true rfl) (fun p e s m below meth c A Q C0 hret ls hl hP hD hS => w_Md_find_0 C0 hret   x1 x2 S _ _ ls hP hD hS (lv_sub hl [0, 1, 2] rfl) hf)
end
