section
variable {p : Program} {l : Launch} {e : Env} {s : State} {m : MethodId} {args : Array Value} {below : List Frame} {meth : Method} {c : Code} {Q : State → Prop} {D : va_G} {cA cP : ClassId} {ob : Nat → Nat} {ad : Nat → Nat → Nat} {A : Nat → Prop}
def f_Md_corner_0   (x1 : Int32) (S : St) : Option (Int32 × St) :=
  bn (seti S 0 0) (fun S_1 => bd (f_Md_know  S_1) (fun q_2 => bd (f_Md_within x1 0 ((gi q_2 5) - 1) q_2) (fun q_3 => (if q_3.1 = 0 then
    bd (f_Md_fail 1 q_3.2) (fun q_5 => some (q_5.1, q_5.2))
    else
    as_ (inb x1 (gn q_3.2 6)) (some ((ga q_3.2 6 (Int32.toNatClampNeg x1)), q_3.2))))))
set_option maxHeartbeats 4000000 in
set_option maxRecDepth 100000 in
theorem w_Md_corner_0 (C0 : CX p s m args c b_Md_corner 2 R_Md w_Md_corner D clC cA cP A) {res : (Int32 × St)} (hret : RTi p l e rm_Md_corner s m args below meth c Q D clC A b_Md_corner 0 0 (fun r w => r = res.1 ∧ w = mw cA cP ob ad res.2))    : ∀ (x1 : Int32) (S : St) (H : Heap) (locs : List Loc) (ls : Array Slot), va_P D clC (mw cA cP ob ad S) H → va_D A (mw cA cP ob ad S) → va_S A s.heap H locs → lv_has ls 2 [(0, .ref (ob 0)), (1, .int x1)] → f_Md_corner_0   x1 S = some res → W p l e rm_Md_corner s m args below meth c H locs 0 0 Q (F0 m 0 ls []) := by
  obtain ⟨hx, hb, hml, hown, hts, hK, hA, hN, hZ⟩ := id C0
  intro x1 S H locs ls hP hD hS hl hf
  rw [f_Md_corner_0] at hf
  refine lv_aload_n hx hb d_Md_corner_0 rfl (lv_at hl 0 rfl) ?_
  refine lv_iconst (v := 0) hx hb d_Md_corner_1 (by decide) ?_
  obtain ⟨S_1, eS_1, hf⟩ := bn_some hf
  refine va_put (D := D) (ci := 7) (v := .int 0) (ty := .int) (C := R_Md) (T := F_Md) (N := 26) hx hb hts (fun w h => List.mem_cons_of_mem _ (in_Md w h)) t_Md tk_Md nk_Md hown hK hP hD hS 0 rfl rfl 0 (by decide) (hts _ (List.mem_cons_of_mem _ wd_822)) (fun _ h9 => h9) rfl (by decide +kernel) rfl rfl (Nat.le_of_ble_eq_true rfl) d_Md_corner_2 (fun H locs hP hD hS => ?_)
  have hP : va_P D clC (mw cA cP ob ad S_1) H := by rw [eS_1]; exact hP
  have hD : va_D A (mw cA cP ob ad S_1) := by rw [eS_1]; exact hD
  refine lv_aload_n hx hb d_Md_corner_5 rfl (lv_at hl 0 rfl) ?_
  obtain ⟨q_2, hq_2, hf⟩ := bd_some hf
  refine kc_v (va_runV (As := []) (rest := []) ⟨hx, hb, hml, hown, hts⟩ (c_Md_know l D cA cP ob ad   S_1 hq_2 H.size) ⟨callB_of 0 hts (gd_Md_know) rfl rfl rfl (hts _ (List.mem_cons_of_mem _ wd_72)) (hts _ (List.mem_cons_of_mem _ wd_941)) dd_Md_know ⟨Nat.le_of_ble_eq_true rfl, Nat.le_of_ble_eq_true rfl⟩, (hts _ (List.mem_cons_of_mem _ wd_943)), (hts _ (List.mem_cons_of_mem _ wd_37))⟩ (kpV hK hP hD hN hZ hS 7 0 rfl rfl) rfl rfl hl.1 rfl (lv_room (Nat.le_of_ble_eq_true rfl)) d_Md_corner_6 ⟨Nat.le_of_ble_eq_true rfl, Nat.le_of_ble_eq_true rfl⟩) hP hD hS hA (fun w H locs hw hP hD hS => ?_)
  obtain rfl := hw
  refine lv_iload_n hx hb d_Md_corner_9 rfl (lv_at hl 1 rfl) ?_
  refine lv_iconst (v := 0) hx hb d_Md_corner_10 (by decide) ?_
  refine lv_aload_n hx hb d_Md_corner_11 rfl (lv_at hl 0 rfl) ?_
  refine va_get (D := D) (ci := 7) (v := .int (gi q_2 5)) (C := R_Md) (T := F_Md) (N := 26) hx hb hts (fun w h => List.mem_cons_of_mem _ (in_Md w h)) hown hK hP 0 rfl rfl 10 (by decide) (hts _ (List.mem_cons_of_mem _ wd_832)) (fun _ h9 => h9) rfl d_Md_corner_12 ?_
  refine lv_iconst (v := 1) hx hb d_Md_corner_15 (by decide) ?_
  refine lv_isub hx hb d_Md_corner_16 ?_
  obtain ⟨q_3, hq_3, hf⟩ := bd_some hf
  refine kc_i (va_runS (As := [.int x1, .int 0, .int ((gi q_2 5) - 1)]) (rest := []) ⟨hx, hb, hml, hown, hts⟩ (c_Md_within l D cA cP ob ad x1 0 ((gi q_2 5) - 1)  q_2 hq_3 H.size) ⟨callB_of 3 hts (gd_Md_within) rfl rfl rfl (hts _ (List.mem_cons_of_mem _ wd_72)) (hts _ (List.mem_cons_of_mem _ wd_914)) dd_Md_within ⟨Nat.le_of_ble_eq_true rfl, Nat.le_of_ble_eq_true rfl⟩, (hts _ (List.mem_cons_of_mem _ wd_915))⟩ (kpS hK hP hD hN hZ hS) rfl rfl hl.1 rfl (lv_room (Nat.le_of_ble_eq_true rfl)) d_Md_corner_17 ⟨Nat.le_of_ble_eq_true rfl, Nat.le_of_ble_eq_true rfl⟩) hP hD hS hA (fun r w H locs hw hP hD hS => ?_)
  obtain ⟨rfl, rfl⟩ := hw
  refine lv_if_eq (tgt := 32) hx hb d_Md_corner_20 (by decide) (fun c_4 => ?_) (fun c_4 => ?_)
  · rw [if_pos c_4] at hf
    refine lv_aload_n hx hb d_Md_corner_32 rfl (lv_at hl 0 rfl) ?_
    refine lv_iconst (v := 1) hx hb d_Md_corner_33 (by decide) ?_
    obtain ⟨q_5, hq_5, hf⟩ := bd_some hf
    refine kc_i (va_runV (As := [.int 1]) (rest := []) ⟨hx, hb, hml, hown, hts⟩ (c_Md_fail l D cA cP ob ad 1  q_3.2 hq_5 H.size) ⟨callB_of 1 hts (gd_Md_fail) rfl rfl rfl (hts _ (List.mem_cons_of_mem _ wd_72)) (hts _ (List.mem_cons_of_mem _ wd_917)) dd_Md_fail ⟨Nat.le_of_ble_eq_true rfl, Nat.le_of_ble_eq_true rfl⟩, (hts _ (List.mem_cons_of_mem _ wd_919)), (hts _ (List.mem_cons_of_mem _ wd_34))⟩ (kpV hK hP hD hN hZ hS 7 0 rfl rfl) rfl rfl hl.1 rfl (lv_room (Nat.le_of_ble_eq_true rfl)) d_Md_corner_34 ⟨Nat.le_of_ble_eq_true rfl, Nat.le_of_ble_eq_true rfl⟩) hP hD hS hA (fun r w H locs hw hP hD hS => ?_)
    obtain ⟨rfl, rfl⟩ := hw
    cases hf
    exact hret _ _ _ _ _ _ ⟨rfl, rfl⟩ hP hD hS d_Md_corner_37
  · rw [if_neg c_4] at hf
    refine lv_aload_n hx hb d_Md_corner_23 rfl (lv_at hl 0 rfl) ?_
    refine va_get (D := D) (ci := 7) (v := .ref (ob 6)) (C := R_Md) (T := F_Md) (N := 26) hx hb hts (fun w h => List.mem_cons_of_mem _ (in_Md w h)) hown hK hP 0 rfl rfl 11 (by decide) (hts _ (List.mem_cons_of_mem _ wd_833)) (fun _ h9 => h9) rfl d_Md_corner_24 ?_
    refine lv_iload_n hx hb d_Md_corner_27 rfl (lv_at hl 1 rfl) ?_
    obtain ⟨hi_6, hf⟩ := as_some hf
    refine va_iald hx hb hK hP 6 0 rfl rfl (inb_in hi_6) d_Md_corner_28 ?_
    refine lv_goto (tgt := 37) hx hb d_Md_corner_29 (by decide) ?_
    cases hf
    exact hret _ _ _ _ _ _ ⟨rfl, rfl⟩ hP hD hS d_Md_corner_37
def f_Md_corner (x1 : Int32) (S : St) : Option (Int32 × St) := f_Md_corner_0  x1 S
theorem c_Md_corner (l : Launch) (D : va_G) (cA cP : ClassId) (ob : Nat → Nat) (ad : Nat → Nat → Nat) (x1 : Int32)  (S : St) {res : (Int32 × St)} (hf : f_Md_corner x1 S = some res) : CTi l y_Md_corner w_Md_corner rm_Md_corner 0 0 D clC (TY cA cP) [.ref (ob 0), .int x1] (mw cA cP ob ad S) (fun r w => r = res.1 ∧ w = mw cA cP ob ad res.2) :=
  mk_i (cc := b_Md_corner) (maxL := 2) (own := R_Md) (by decide) rfl rfl (Nat.le_of_ble_eq_true rfl) (fun p e s m below meth c A Q C0 hret ls hl hP hD hS => w_Md_corner_0 C0 hret   x1 S _ _ ls hP hD hS (lv_sub hl [0, 1] rfl) hf)
def f_Md_isIn_30    (S : St) : Option (Int32 × St) :=
  some (1, S)
set_option maxHeartbeats 4000000 in
set_option maxRecDepth 100000 in
theorem w_Md_isIn_30 (C0 : CX p s m args c b_Md_isIn 3 R_Md w_Md_isIn D clC cA cP A) {res : (Int32 × St)} (hret : RTz p l e rm_Md_isIn s m args below meth c Q D clC A b_Md_isIn 0 0 (fun r w => r = res.1 ∧ w = mw cA cP ob ad res.2))    : ∀  (S : St) (H : Heap) (locs : List Loc) (ls : Array Slot), va_P D clC (mw cA cP ob ad S) H → va_D A (mw cA cP ob ad S) → va_S A s.heap H locs → lv_has ls 3 [] → f_Md_isIn_30    S = some res → W p l e rm_Md_isIn s m args below meth c H locs 0 0 Q (F0 m 30 ls []) := by
  obtain ⟨hx, hb, hml, hown, hts, hK, hA, hN, hZ⟩ := id C0
  intro  S H locs ls hP hD hS hl hf
  rw [f_Md_isIn_30] at hf
  refine lv_iconst (v := 1) hx hb d_Md_isIn_30 (by decide) ?_
  refine lv_goto (tgt := 35) hx hb d_Md_isIn_31 (by decide) ?_
  cases hf
  exact hret _ _ _ _ _ _ ⟨rfl, rfl⟩ rfl hP hD hS d_Md_isIn_35
def f_Md_isIn_0   (x1 : Int32) (x2 : Int32) (S : St) : Option (Int32 × St) :=
  as_ (inb x1 (gn S 3)) ((if (ga S 3 (Int32.toNatClampNeg x1)) = x2 then
    f_Md_isIn_30    S
    else
    as_ (inb x1 (gn S 4)) ((if (ga S 4 (Int32.toNatClampNeg x1)) = x2 then
      f_Md_isIn_30    S
      else
      as_ (inb x1 (gn S 5)) ((if (ga S 5 (Int32.toNatClampNeg x1)) = x2 then
        f_Md_isIn_30    S
        else
        some (0, S)))))))
set_option maxHeartbeats 4000000 in
set_option maxRecDepth 100000 in
theorem w_Md_isIn_0 (C0 : CX p s m args c b_Md_isIn 3 R_Md w_Md_isIn D clC cA cP A) {res : (Int32 × St)} (hret : RTz p l e rm_Md_isIn s m args below meth c Q D clC A b_Md_isIn 0 0 (fun r w => r = res.1 ∧ w = mw cA cP ob ad res.2))    : ∀ (x1 : Int32) (x2 : Int32) (S : St) (H : Heap) (locs : List Loc) (ls : Array Slot), va_P D clC (mw cA cP ob ad S) H → va_D A (mw cA cP ob ad S) → va_S A s.heap H locs → lv_has ls 3 [(0, .ref (ob 0)), (1, .int x1), (2, .int x2)] → f_Md_isIn_0   x1 x2 S = some res → W p l e rm_Md_isIn s m args below meth c H locs 0 0 Q (F0 m 0 ls []) := by
  obtain ⟨hx, hb, hml, hown, hts, hK, hA, hN, hZ⟩ := id C0
  intro x1 x2 S H locs ls hP hD hS hl hf
  rw [f_Md_isIn_0] at hf
  refine lv_aload_n hx hb d_Md_isIn_0 rfl (lv_at hl 0 rfl) ?_
  refine va_get (D := D) (ci := 7) (v := .ref (ob 3)) (C := R_Md) (T := F_Md) (N := 26) hx hb hts (fun w h => List.mem_cons_of_mem _ (in_Md w h)) hown hK hP 0 rfl rfl 7 (by decide) (hts _ (List.mem_cons_of_mem _ wd_829)) (fun _ h9 => h9) rfl d_Md_isIn_1 ?_
  refine lv_iload_n hx hb d_Md_isIn_4 rfl (lv_at hl 1 rfl) ?_
  obtain ⟨hi_1, hf⟩ := as_some hf
  refine va_iald hx hb hK hP 3 0 rfl rfl (inb_in hi_1) d_Md_isIn_5 ?_
  refine lv_iload_n hx hb d_Md_isIn_6 rfl (lv_at hl 2 rfl) ?_
  refine lv_icmp_eq (tgt := 30) hx hb d_Md_isIn_7 (by decide) (fun c_2 => ?_) (fun c_2 => ?_)
  · rw [if_pos c_2] at hf
    exact w_Md_isIn_30 C0 hret     S H locs ls hP hD hS (lv_sub hl [] rfl) hf
  · rw [if_neg c_2] at hf
    refine lv_aload_n hx hb d_Md_isIn_10 rfl (lv_at hl 0 rfl) ?_
    refine va_get (D := D) (ci := 7) (v := .ref (ob 4)) (C := R_Md) (T := F_Md) (N := 26) hx hb hts (fun w h => List.mem_cons_of_mem _ (in_Md w h)) hown hK hP 0 rfl rfl 8 (by decide) (hts _ (List.mem_cons_of_mem _ wd_830)) (fun _ h9 => h9) rfl d_Md_isIn_11 ?_
    refine lv_iload_n hx hb d_Md_isIn_14 rfl (lv_at hl 1 rfl) ?_
    obtain ⟨hi_3, hf⟩ := as_some hf
    refine va_iald hx hb hK hP 4 0 rfl rfl (inb_in hi_3) d_Md_isIn_15 ?_
    refine lv_iload_n hx hb d_Md_isIn_16 rfl (lv_at hl 2 rfl) ?_
    refine lv_icmp_eq (tgt := 30) hx hb d_Md_isIn_17 (by decide) (fun c_4 => ?_) (fun c_4 => ?_)
    · rw [if_pos c_4] at hf
      exact w_Md_isIn_30 C0 hret     S H locs ls hP hD hS (lv_sub hl [] rfl) hf
    · rw [if_neg c_4] at hf
      refine lv_aload_n hx hb d_Md_isIn_20 rfl (lv_at hl 0 rfl) ?_
      refine va_get (D := D) (ci := 7) (v := .ref (ob 5)) (C := R_Md) (T := F_Md) (N := 26) hx hb hts (fun w h => List.mem_cons_of_mem _ (in_Md w h)) hown hK hP 0 rfl rfl 9 (by decide) (hts _ (List.mem_cons_of_mem _ wd_831)) (fun _ h9 => h9) rfl d_Md_isIn_21 ?_
      refine lv_iload_n hx hb d_Md_isIn_24 rfl (lv_at hl 1 rfl) ?_
      obtain ⟨hi_5, hf⟩ := as_some hf
      refine va_iald hx hb hK hP 5 0 rfl rfl (inb_in hi_5) d_Md_isIn_25 ?_
      refine lv_iload_n hx hb d_Md_isIn_26 rfl (lv_at hl 2 rfl) ?_
      refine lv_icmp_ne (tgt := 34) hx hb d_Md_isIn_27 (by decide) (fun c_6 => ?_) (fun c_6 => ?_)
      · rw [if_neg c_6] at hf
        refine lv_iconst (v := 0) hx hb d_Md_isIn_34 (by decide) ?_
        cases hf
        exact hret _ _ _ _ _ _ ⟨rfl, rfl⟩ rfl hP hD hS d_Md_isIn_35
      · rw [if_pos c_6] at hf
        exact w_Md_isIn_30 C0 hret     S H locs ls hP hD hS (lv_sub hl [] rfl) hf
def f_Md_isIn (x1 : Int32) (x2 : Int32) (S : St) : Option (Int32 × St) := f_Md_isIn_0  x1 x2 S
theorem c_Md_isIn (l : Launch) (D : va_G) (cA cP : ClassId) (ob : Nat → Nat) (ad : Nat → Nat → Nat) (x1 : Int32) (x2 : Int32)  (S : St) {res : (Int32 × St)} (hf : f_Md_isIn x1 x2 S = some res) : CTi l y_Md_isIn w_Md_isIn rm_Md_isIn 0 0 D clC (TY cA cP) [.ref (ob 0), .int x1, .int x2] (mw cA cP ob ad S) (fun r w => r = res.1 ∧ w = mw cA cP ob ad res.2) :=
  mk_z (cc := b_Md_isIn) (maxL := 3) (own := R_Md) (by decide) rfl rfl (Nat.le_of_ble_eq_true rfl) (fun p e s m below meth c A Q C0 hret ls hl hP hD hS => w_Md_isIn_0 C0 hret   x1 x2 S _ _ ls hP hD hS (lv_sub hl [0, 1, 2] rfl) hf)
def f_Md_isOn_135   (x1 : Int32) (x2 : Int32) (x3 : Int32) (x4 : Int32) (x5 : Int32) (t0 : Int32) (t1 : Int32) (t2 : Int32) (S : St) : Option (Int32 × St) :=
  bd (f_Md_within t2 t1 t0 S) (fun q_1 => (if x5 = 0 then
    some (0, q_1.2)
    else
    (if q_1.1 = 0 then
      some (0, q_1.2)
      else
      bd (f_Md_side x3 x4 x1 x2 q_1.2) (fun q_4 => (if q_4.1 = 0 then
        some (1, q_4.2)
        else
        some (0, q_4.2))))))
set_option maxHeartbeats 4000000 in
set_option maxRecDepth 100000 in
theorem w_Md_isOn_135 (C0 : CX p s m args c b_Md_isOn 7 R_Md w_Md_isOn D clC cA cP A) {res : (Int32 × St)} (hret : RTz p l e rm_Md_isOn s m args below meth c Q D clC A b_Md_isOn 0 0 (fun r w => r = res.1 ∧ w = mw cA cP ob ad res.2))    : ∀ (x1 : Int32) (x2 : Int32) (x3 : Int32) (x4 : Int32) (x5 : Int32) (t0 : Int32) (t1 : Int32) (t2 : Int32) (S : St) (H : Heap) (locs : List Loc) (ls : Array Slot), va_P D clC (mw cA cP ob ad S) H → va_D A (mw cA cP ob ad S) → va_S A s.heap H locs → lv_has ls 7 [(0, .ref (ob 0)), (1, .int x1), (2, .int x2), (3, .int x3), (4, .int x4), (5, .int x5)] → f_Md_isOn_135   x1 x2 x3 x4 x5 t0 t1 t2 S = some res → W p l e rm_Md_isOn s m args below meth c H locs 0 0 Q (F0 m 135 ls [.int t0, .int t1, .int t2]) := by
  obtain ⟨hx, hb, hml, hown, hts, hK, hA, hN, hZ⟩ := id C0
  intro x1 x2 x3 x4 x5 t0 t1 t2 S H locs ls hP hD hS hl hf
  rw [f_Md_isOn_135] at hf
  obtain ⟨q_1, hq_1, hf⟩ := bd_some hf
  refine kc_i (va_runS (As := [.int t2, .int t1, .int t0]) (rest := []) ⟨hx, hb, hml, hown, hts⟩ (c_Md_within l D cA cP ob ad t2 t1 t0  S hq_1 H.size) ⟨callB_of 3 hts (gd_Md_within) rfl rfl rfl (hts _ (List.mem_cons_of_mem _ wd_72)) (hts _ (List.mem_cons_of_mem _ wd_914)) dd_Md_within ⟨Nat.le_of_ble_eq_true rfl, Nat.le_of_ble_eq_true rfl⟩, (hts _ (List.mem_cons_of_mem _ wd_915))⟩ (kpS hK hP hD hN hZ hS) rfl rfl hl.1 rfl (lv_room (Nat.le_of_ble_eq_true rfl)) d_Md_isOn_135 ⟨Nat.le_of_ble_eq_true rfl, Nat.le_of_ble_eq_true rfl⟩) hP hD hS hA (fun r w H locs hw hP hD hS => ?_)
  obtain ⟨rfl, rfl⟩ := hw
  refine lv_istore (lv' := [(6, .int q_1.1), (0, .ref (ob 0)), (1, .int x1), (2, .int x2), (3, .int x3), (4, .int x4), (5, .int x5)]) hx hb d_Md_isOn_138 hl (by decide) rfl (fun ls hl => ?_)
  refine lv_iload hx hb d_Md_isOn_140 (lv_at hl 6 rfl) ?_
  refine lv_if_eq (tgt := 166) hx hb d_Md_isOn_142 (by decide) (fun c_2 => ?_) (fun c_2 => ?_)
  · rw [if_pos c_2] at hf
    refine lv_iconst (v := 0) hx hb d_Md_isOn_166 (by decide) ?_
    cases hf
    exact hret _ _ _ _ _ _ ⟨rfl, rfl⟩ rfl hP hD hS d_Md_isOn_167
  · rw [if_neg c_2] at hf
    refine lv_iload hx hb d_Md_isOn_145 (lv_at hl 0 rfl) ?_
    refine lv_if_eq (tgt := 166) hx hb d_Md_isOn_147 (by decide) (fun c_3 => ?_) (fun c_3 => ?_)
    · rw [if_pos c_3] at hf
      refine lv_iconst (v := 0) hx hb d_Md_isOn_166 (by decide) ?_
      cases hf
      exact hret _ _ _ _ _ _ ⟨rfl, rfl⟩ rfl hP hD hS d_Md_isOn_167
    · rw [if_neg c_3] at hf
      refine lv_aload_n hx hb d_Md_isOn_150 rfl (lv_at hl 1 rfl) ?_
      refine lv_iload_n hx hb d_Md_isOn_151 rfl (lv_at hl 4 rfl) ?_
      refine lv_iload hx hb d_Md_isOn_152 (lv_at hl 5 rfl) ?_
      refine lv_iload_n hx hb d_Md_isOn_154 rfl (lv_at hl 2 rfl) ?_
      refine lv_iload_n hx hb d_Md_isOn_155 rfl (lv_at hl 3 rfl) ?_
      obtain ⟨q_4, hq_4, hf⟩ := bd_some hf
      refine kc_i (va_runV (As := [.int x3, .int x4, .int x1, .int x2]) (rest := []) ⟨hx, hb, hml, hown, hts⟩ (c_Md_side l D cA cP ob ad x3 x4 x1 x2  q_1.2 hq_4 H.size) ⟨callB_of 4 hts (gd_Md_side) rfl rfl rfl (hts _ (List.mem_cons_of_mem _ wd_72)) (hts _ (List.mem_cons_of_mem _ wd_965)) dd_Md_side ⟨Nat.le_of_ble_eq_true rfl, Nat.le_of_ble_eq_true rfl⟩, (hts _ (List.mem_cons_of_mem _ wd_967)), (hts _ (List.mem_cons_of_mem _ wd_43))⟩ (kpV hK hP hD hN hZ hS 7 0 rfl rfl) rfl rfl hl.1 rfl (lv_room (Nat.le_of_ble_eq_true rfl)) d_Md_isOn_156 ⟨Nat.le_of_ble_eq_true rfl, Nat.le_of_ble_eq_true rfl⟩) hP hD hS hA (fun r w H locs hw hP hD hS => ?_)
      obtain ⟨rfl, rfl⟩ := hw
      refine lv_if_ne (tgt := 166) hx hb d_Md_isOn_159 (by decide) (fun c_5 => ?_) (fun c_5 => ?_)
      · rw [if_neg c_5] at hf
        refine lv_iconst (v := 0) hx hb d_Md_isOn_166 (by decide) ?_
        cases hf
        exact hret _ _ _ _ _ _ ⟨rfl, rfl⟩ rfl hP hD hS d_Md_isOn_167
      · rw [if_pos c_5] at hf
        refine lv_iconst (v := 1) hx hb d_Md_isOn_162 (by decide) ?_
        refine lv_goto (tgt := 167) hx hb d_Md_isOn_163 (by decide) ?_
        cases hf
        exact hret _ _ _ _ _ _ ⟨rfl, rfl⟩ rfl hP hD hS d_Md_isOn_167
def f_Md_isOn_103   (x1 : Int32) (x2 : Int32) (x3 : Int32) (x4 : Int32) (x5 : Int32) (t0 : Int32) (t1 : Int32) (S : St) : Option (Int32 × St) :=
  as_ (inb x3 (gn S 2)) (as_ (inb x4 (gn S 2)) ((if (ga S 2 (Int32.toNatClampNeg x4)) ≤ (ga S 2 (Int32.toNatClampNeg x3)) then
    as_ (inb x3 (gn S 2)) (f_Md_isOn_135   x1 x2 x3 x4 x5 (ga S 2 (Int32.toNatClampNeg x3)) t0 t1 S)
    else
    as_ (inb x4 (gn S 2)) (f_Md_isOn_135   x1 x2 x3 x4 x5 (ga S 2 (Int32.toNatClampNeg x4)) t0 t1 S))))
set_option maxHeartbeats 4000000 in
set_option maxRecDepth 100000 in
theorem w_Md_isOn_103 (C0 : CX p s m args c b_Md_isOn 7 R_Md w_Md_isOn D clC cA cP A) {res : (Int32 × St)} (hret : RTz p l e rm_Md_isOn s m args below meth c Q D clC A b_Md_isOn 0 0 (fun r w => r = res.1 ∧ w = mw cA cP ob ad res.2))    : ∀ (x1 : Int32) (x2 : Int32) (x3 : Int32) (x4 : Int32) (x5 : Int32) (t0 : Int32) (t1 : Int32) (S : St) (H : Heap) (locs : List Loc) (ls : Array Slot), va_P D clC (mw cA cP ob ad S) H → va_D A (mw cA cP ob ad S) → va_S A s.heap H locs → lv_has ls 7 [(0, .ref (ob 0)), (1, .int x1), (2, .int x2), (3, .int x3), (4, .int x4), (5, .int x5)] → f_Md_isOn_103   x1 x2 x3 x4 x5 t0 t1 S = some res → W p l e rm_Md_isOn s m args below meth c H locs 0 0 Q (F0 m 103 ls [.int t0, .int t1]) := by
  obtain ⟨hx, hb, hml, hown, hts, hK, hA, hN, hZ⟩ := id C0
  intro x1 x2 x3 x4 x5 t0 t1 S H locs ls hP hD hS hl hf
  rw [f_Md_isOn_103] at hf
  refine lv_aload_n hx hb d_Md_isOn_103 rfl (lv_at hl 0 rfl) ?_
  refine va_get (D := D) (ci := 7) (v := .ref (ob 2)) (C := R_Md) (T := F_Md) (N := 26) hx hb hts (fun w h => List.mem_cons_of_mem _ (in_Md w h)) hown hK hP 0 rfl rfl 4 (by decide) (hts _ (List.mem_cons_of_mem _ wd_826)) (fun _ h9 => h9) rfl d_Md_isOn_104 ?_
  refine lv_iload_n hx hb d_Md_isOn_107 rfl (lv_at hl 3 rfl) ?_
  obtain ⟨hi_1, hf⟩ := as_some hf
  refine va_iald hx hb hK hP 2 0 rfl rfl (inb_in hi_1) d_Md_isOn_108 ?_
  refine lv_aload_n hx hb d_Md_isOn_109 rfl (lv_at hl 0 rfl) ?_
  refine va_get (D := D) (ci := 7) (v := .ref (ob 2)) (C := R_Md) (T := F_Md) (N := 26) hx hb hts (fun w h => List.mem_cons_of_mem _ (in_Md w h)) hown hK hP 0 rfl rfl 4 (by decide) (hts _ (List.mem_cons_of_mem _ wd_826)) (fun _ h9 => h9) rfl d_Md_isOn_110 ?_
  refine lv_iload hx hb d_Md_isOn_113 (lv_at hl 4 rfl) ?_
  obtain ⟨hi_2, hf⟩ := as_some hf
  refine va_iald hx hb hK hP 2 0 rfl rfl (inb_in hi_2) d_Md_isOn_115 ?_
  refine lv_icmp_ge (tgt := 129) hx hb d_Md_isOn_116 (by decide) (fun c_3 => ?_) (fun c_3 => ?_)
  · rw [if_pos c_3] at hf
    refine lv_aload_n hx hb d_Md_isOn_129 rfl (lv_at hl 0 rfl) ?_
    refine va_get (D := D) (ci := 7) (v := .ref (ob 2)) (C := R_Md) (T := F_Md) (N := 26) hx hb hts (fun w h => List.mem_cons_of_mem _ (in_Md w h)) hown hK hP 0 rfl rfl 4 (by decide) (hts _ (List.mem_cons_of_mem _ wd_826)) (fun _ h9 => h9) rfl d_Md_isOn_130 ?_
    refine lv_iload_n hx hb d_Md_isOn_133 rfl (lv_at hl 3 rfl) ?_
    obtain ⟨hi_4, hf⟩ := as_some hf
    refine va_iald hx hb hK hP 2 0 rfl rfl (inb_in hi_4) d_Md_isOn_134 ?_
    exact w_Md_isOn_135 C0 hret    x1 x2 x3 x4 x5 (ga S 2 (Int32.toNatClampNeg x3)) t0 t1 S H locs ls hP hD hS (lv_sub hl [0, 1, 2, 3, 4, 5] rfl) hf
  · rw [if_neg c_3] at hf
    refine lv_aload_n hx hb d_Md_isOn_119 rfl (lv_at hl 0 rfl) ?_
    refine va_get (D := D) (ci := 7) (v := .ref (ob 2)) (C := R_Md) (T := F_Md) (N := 26) hx hb hts (fun w h => List.mem_cons_of_mem _ (in_Md w h)) hown hK hP 0 rfl rfl 4 (by decide) (hts _ (List.mem_cons_of_mem _ wd_826)) (fun _ h9 => h9) rfl d_Md_isOn_120 ?_
    refine lv_iload hx hb d_Md_isOn_123 (lv_at hl 4 rfl) ?_
    obtain ⟨hi_5, hf⟩ := as_some hf
    refine va_iald hx hb hK hP 2 0 rfl rfl (inb_in hi_5) d_Md_isOn_125 ?_
    refine lv_goto (tgt := 135) hx hb d_Md_isOn_126 (by decide) ?_
    exact w_Md_isOn_135 C0 hret    x1 x2 x3 x4 x5 (ga S 2 (Int32.toNatClampNeg x4)) t0 t1 S H locs ls hP hD hS (lv_sub hl [0, 1, 2, 3, 4, 5] rfl) hf
def f_Md_isOn_65   (x1 : Int32) (x2 : Int32) (x3 : Int32) (x4 : Int32) (t0 : Int32) (t1 : Int32) (t2 : Int32) (S : St) : Option (Int32 × St) :=
  bd (f_Md_within t2 t1 t0 S) (fun q_1 => as_ (inb x3 (gn q_1.2 2)) (as_ (inb x4 (gn q_1.2 2)) ((if (ga q_1.2 2 (Int32.toNatClampNeg x4)) ≤ (ga q_1.2 2 (Int32.toNatClampNeg x3)) then
    as_ (inb x4 (gn q_1.2 2)) (f_Md_isOn_103   x1 x2 x3 x4 q_1.1 (ga q_1.2 2 (Int32.toNatClampNeg x4)) x2 q_1.2)
    else
    as_ (inb x3 (gn q_1.2 2)) (f_Md_isOn_103   x1 x2 x3 x4 q_1.1 (ga q_1.2 2 (Int32.toNatClampNeg x3)) x2 q_1.2)))))
set_option maxHeartbeats 4000000 in
set_option maxRecDepth 100000 in
theorem w_Md_isOn_65 (C0 : CX p s m args c b_Md_isOn 7 R_Md w_Md_isOn D clC cA cP A) {res : (Int32 × St)} (hret : RTz p l e rm_Md_isOn s m args below meth c Q D clC A b_Md_isOn 0 0 (fun r w => r = res.1 ∧ w = mw cA cP ob ad res.2))    : ∀ (x1 : Int32) (x2 : Int32) (x3 : Int32) (x4 : Int32) (t0 : Int32) (t1 : Int32) (t2 : Int32) (S : St) (H : Heap) (locs : List Loc) (ls : Array Slot), va_P D clC (mw cA cP ob ad S) H → va_D A (mw cA cP ob ad S) → va_S A s.heap H locs → lv_has ls 7 [(0, .ref (ob 0)), (1, .int x1), (2, .int x2), (3, .int x3), (4, .int x4)] → f_Md_isOn_65   x1 x2 x3 x4 t0 t1 t2 S = some res → W p l e rm_Md_isOn s m args below meth c H locs 0 0 Q (F0 m 65 ls [.int t0, .int t1, .int t2]) := by
  obtain ⟨hx, hb, hml, hown, hts, hK, hA, hN, hZ⟩ := id C0
  intro x1 x2 x3 x4 t0 t1 t2 S H locs ls hP hD hS hl hf
  rw [f_Md_isOn_65] at hf
  obtain ⟨q_1, hq_1, hf⟩ := bd_some hf
  refine kc_i (va_runS (As := [.int t2, .int t1, .int t0]) (rest := []) ⟨hx, hb, hml, hown, hts⟩ (c_Md_within l D cA cP ob ad t2 t1 t0  S hq_1 H.size) ⟨callB_of 3 hts (gd_Md_within) rfl rfl rfl (hts _ (List.mem_cons_of_mem _ wd_72)) (hts _ (List.mem_cons_of_mem _ wd_914)) dd_Md_within ⟨Nat.le_of_ble_eq_true rfl, Nat.le_of_ble_eq_true rfl⟩, (hts _ (List.mem_cons_of_mem _ wd_915))⟩ (kpS hK hP hD hN hZ hS) rfl rfl hl.1 rfl (lv_room (Nat.le_of_ble_eq_true rfl)) d_Md_isOn_65 ⟨Nat.le_of_ble_eq_true rfl, Nat.le_of_ble_eq_true rfl⟩) hP hD hS hA (fun r w H locs hw hP hD hS => ?_)
  obtain ⟨rfl, rfl⟩ := hw
  refine lv_istore (lv' := [(5, .int q_1.1), (0, .ref (ob 0)), (1, .int x1), (2, .int x2), (3, .int x3), (4, .int x4)]) hx hb d_Md_isOn_68 hl (by decide) rfl (fun ls hl => ?_)
  refine lv_iload_n hx hb d_Md_isOn_70 rfl (lv_at hl 3 rfl) ?_
  refine lv_aload_n hx hb d_Md_isOn_71 rfl (lv_at hl 1 rfl) ?_
  refine va_get (D := D) (ci := 7) (v := .ref (ob 2)) (C := R_Md) (T := F_Md) (N := 26) hx hb hts (fun w h => List.mem_cons_of_mem _ (in_Md w h)) hown hK hP 0 rfl rfl 4 (by decide) (hts _ (List.mem_cons_of_mem _ wd_826)) (fun _ h9 => h9) rfl d_Md_isOn_72 ?_
  refine lv_iload_n hx hb d_Md_isOn_75 rfl (lv_at hl 4 rfl) ?_
  obtain ⟨hi_2, hf⟩ := as_some hf
  refine va_iald hx hb hK hP 2 0 rfl rfl (inb_in hi_2) d_Md_isOn_76 ?_
  refine lv_aload_n hx hb d_Md_isOn_77 rfl (lv_at hl 1 rfl) ?_
  refine va_get (D := D) (ci := 7) (v := .ref (ob 2)) (C := R_Md) (T := F_Md) (N := 26) hx hb hts (fun w h => List.mem_cons_of_mem _ (in_Md w h)) hown hK hP 0 rfl rfl 4 (by decide) (hts _ (List.mem_cons_of_mem _ wd_826)) (fun _ h9 => h9) rfl d_Md_isOn_78 ?_
  refine lv_iload hx hb d_Md_isOn_81 (lv_at hl 5 rfl) ?_
  obtain ⟨hi_3, hf⟩ := as_some hf
  refine va_iald hx hb hK hP 2 0 rfl rfl (inb_in hi_3) d_Md_isOn_83 ?_
  refine lv_icmp_ge (tgt := 96) hx hb d_Md_isOn_84 (by decide) (fun c_4 => ?_) (fun c_4 => ?_)
  · rw [if_pos c_4] at hf
    refine lv_aload_n hx hb d_Md_isOn_96 rfl (lv_at hl 1 rfl) ?_
    refine va_get (D := D) (ci := 7) (v := .ref (ob 2)) (C := R_Md) (T := F_Md) (N := 26) hx hb hts (fun w h => List.mem_cons_of_mem _ (in_Md w h)) hown hK hP 0 rfl rfl 4 (by decide) (hts _ (List.mem_cons_of_mem _ wd_826)) (fun _ h9 => h9) rfl d_Md_isOn_97 ?_
    refine lv_iload hx hb d_Md_isOn_100 (lv_at hl 5 rfl) ?_
    obtain ⟨hi_5, hf⟩ := as_some hf
    refine va_iald hx hb hK hP 2 0 rfl rfl (inb_in hi_5) d_Md_isOn_102 ?_
    exact w_Md_isOn_103 C0 hret    x1 x2 x3 x4 q_1.1 (ga q_1.2 2 (Int32.toNatClampNeg x4)) x2 q_1.2 H locs ls hP hD hS (lv_sub hl [1, 2, 3, 4, 5, 0] rfl) hf
  · rw [if_neg c_4] at hf
    refine lv_aload_n hx hb d_Md_isOn_87 rfl (lv_at hl 1 rfl) ?_
    refine va_get (D := D) (ci := 7) (v := .ref (ob 2)) (C := R_Md) (T := F_Md) (N := 26) hx hb hts (fun w h => List.mem_cons_of_mem _ (in_Md w h)) hown hK hP 0 rfl rfl 4 (by decide) (hts _ (List.mem_cons_of_mem _ wd_826)) (fun _ h9 => h9) rfl d_Md_isOn_88 ?_
    refine lv_iload_n hx hb d_Md_isOn_91 rfl (lv_at hl 4 rfl) ?_
    obtain ⟨hi_6, hf⟩ := as_some hf
    refine va_iald hx hb hK hP 2 0 rfl rfl (inb_in hi_6) d_Md_isOn_92 ?_
    refine lv_goto (tgt := 103) hx hb d_Md_isOn_93 (by decide) ?_
    exact w_Md_isOn_103 C0 hret    x1 x2 x3 x4 q_1.1 (ga q_1.2 2 (Int32.toNatClampNeg x3)) x2 q_1.2 H locs ls hP hD hS (lv_sub hl [1, 2, 3, 4, 5, 0] rfl) hf
def f_Md_isOn_33   (x1 : Int32) (x2 : Int32) (x3 : Int32) (x4 : Int32) (t0 : Int32) (t1 : Int32) (S : St) : Option (Int32 × St) :=
  as_ (inb x3 (gn S 1)) (as_ (inb x4 (gn S 1)) ((if (ga S 1 (Int32.toNatClampNeg x4)) ≤ (ga S 1 (Int32.toNatClampNeg x3)) then
    as_ (inb x3 (gn S 1)) (f_Md_isOn_65   x1 x2 x3 x4 (ga S 1 (Int32.toNatClampNeg x3)) t0 t1 S)
    else
    as_ (inb x4 (gn S 1)) (f_Md_isOn_65   x1 x2 x3 x4 (ga S 1 (Int32.toNatClampNeg x4)) t0 t1 S))))
set_option maxHeartbeats 4000000 in
set_option maxRecDepth 100000 in
theorem w_Md_isOn_33 (C0 : CX p s m args c b_Md_isOn 7 R_Md w_Md_isOn D clC cA cP A) {res : (Int32 × St)} (hret : RTz p l e rm_Md_isOn s m args below meth c Q D clC A b_Md_isOn 0 0 (fun r w => r = res.1 ∧ w = mw cA cP ob ad res.2))    : ∀ (x1 : Int32) (x2 : Int32) (x3 : Int32) (x4 : Int32) (t0 : Int32) (t1 : Int32) (S : St) (H : Heap) (locs : List Loc) (ls : Array Slot), va_P D clC (mw cA cP ob ad S) H → va_D A (mw cA cP ob ad S) → va_S A s.heap H locs → lv_has ls 7 [(0, .ref (ob 0)), (1, .int x1), (2, .int x2), (3, .int x3), (4, .int x4)] → f_Md_isOn_33   x1 x2 x3 x4 t0 t1 S = some res → W p l e rm_Md_isOn s m args below meth c H locs 0 0 Q (F0 m 33 ls [.int t0, .int t1]) := by
  obtain ⟨hx, hb, hml, hown, hts, hK, hA, hN, hZ⟩ := id C0
  intro x1 x2 x3 x4 t0 t1 S H locs ls hP hD hS hl hf
  rw [f_Md_isOn_33] at hf
  refine lv_aload_n hx hb d_Md_isOn_33 rfl (lv_at hl 0 rfl) ?_
  refine va_get (D := D) (ci := 7) (v := .ref (ob 1)) (C := R_Md) (T := F_Md) (N := 26) hx hb hts (fun w h => List.mem_cons_of_mem _ (in_Md w h)) hown hK hP 0 rfl rfl 3 (by decide) (hts _ (List.mem_cons_of_mem _ wd_825)) (fun _ h9 => h9) rfl d_Md_isOn_34 ?_
  refine lv_iload_n hx hb d_Md_isOn_37 rfl (lv_at hl 3 rfl) ?_
  obtain ⟨hi_1, hf⟩ := as_some hf
  refine va_iald hx hb hK hP 1 0 rfl rfl (inb_in hi_1) d_Md_isOn_38 ?_
  refine lv_aload_n hx hb d_Md_isOn_39 rfl (lv_at hl 0 rfl) ?_
  refine va_get (D := D) (ci := 7) (v := .ref (ob 1)) (C := R_Md) (T := F_Md) (N := 26) hx hb hts (fun w h => List.mem_cons_of_mem _ (in_Md w h)) hown hK hP 0 rfl rfl 3 (by decide) (hts _ (List.mem_cons_of_mem _ wd_825)) (fun _ h9 => h9) rfl d_Md_isOn_40 ?_
  refine lv_iload hx hb d_Md_isOn_43 (lv_at hl 4 rfl) ?_
  obtain ⟨hi_2, hf⟩ := as_some hf
  refine va_iald hx hb hK hP 1 0 rfl rfl (inb_in hi_2) d_Md_isOn_45 ?_
  refine lv_icmp_ge (tgt := 59) hx hb d_Md_isOn_46 (by decide) (fun c_3 => ?_) (fun c_3 => ?_)
  · rw [if_pos c_3] at hf
    refine lv_aload_n hx hb d_Md_isOn_59 rfl (lv_at hl 0 rfl) ?_
    refine va_get (D := D) (ci := 7) (v := .ref (ob 1)) (C := R_Md) (T := F_Md) (N := 26) hx hb hts (fun w h => List.mem_cons_of_mem _ (in_Md w h)) hown hK hP 0 rfl rfl 3 (by decide) (hts _ (List.mem_cons_of_mem _ wd_825)) (fun _ h9 => h9) rfl d_Md_isOn_60 ?_
    refine lv_iload_n hx hb d_Md_isOn_63 rfl (lv_at hl 3 rfl) ?_
    obtain ⟨hi_4, hf⟩ := as_some hf
    refine va_iald hx hb hK hP 1 0 rfl rfl (inb_in hi_4) d_Md_isOn_64 ?_
    exact w_Md_isOn_65 C0 hret    x1 x2 x3 x4 (ga S 1 (Int32.toNatClampNeg x3)) t0 t1 S H locs ls hP hD hS (lv_sub hl [0, 1, 2, 3, 4] rfl) hf
  · rw [if_neg c_3] at hf
    refine lv_aload_n hx hb d_Md_isOn_49 rfl (lv_at hl 0 rfl) ?_
    refine va_get (D := D) (ci := 7) (v := .ref (ob 1)) (C := R_Md) (T := F_Md) (N := 26) hx hb hts (fun w h => List.mem_cons_of_mem _ (in_Md w h)) hown hK hP 0 rfl rfl 3 (by decide) (hts _ (List.mem_cons_of_mem _ wd_825)) (fun _ h9 => h9) rfl d_Md_isOn_50 ?_
    refine lv_iload hx hb d_Md_isOn_53 (lv_at hl 4 rfl) ?_
    obtain ⟨hi_5, hf⟩ := as_some hf
    refine va_iald hx hb hK hP 1 0 rfl rfl (inb_in hi_5) d_Md_isOn_55 ?_
    refine lv_goto (tgt := 65) hx hb d_Md_isOn_56 (by decide) ?_
    exact w_Md_isOn_65 C0 hret    x1 x2 x3 x4 (ga S 1 (Int32.toNatClampNeg x4)) t0 t1 S H locs ls hP hD hS (lv_sub hl [0, 1, 2, 3, 4] rfl) hf
def f_Md_isOn_0   (x1 : Int32) (x2 : Int32) (x3 : Int32) (x4 : Int32) (S : St) : Option (Int32 × St) :=
  as_ (inb x3 (gn S 1)) (as_ (inb x4 (gn S 1)) ((if (ga S 1 (Int32.toNatClampNeg x4)) ≤ (ga S 1 (Int32.toNatClampNeg x3)) then
    as_ (inb x4 (gn S 1)) (f_Md_isOn_33   x1 x2 x3 x4 (ga S 1 (Int32.toNatClampNeg x4)) x1 S)
    else
    as_ (inb x3 (gn S 1)) (f_Md_isOn_33   x1 x2 x3 x4 (ga S 1 (Int32.toNatClampNeg x3)) x1 S))))
set_option maxHeartbeats 4000000 in
set_option maxRecDepth 100000 in
theorem w_Md_isOn_0 (C0 : CX p s m args c b_Md_isOn 7 R_Md w_Md_isOn D clC cA cP A) {res : (Int32 × St)} (hret : RTz p l e rm_Md_isOn s m args below meth c Q D clC A b_Md_isOn 0 0 (fun r w => r = res.1 ∧ w = mw cA cP ob ad res.2))    : ∀ (x1 : Int32) (x2 : Int32) (x3 : Int32) (x4 : Int32) (S : St) (H : Heap) (locs : List Loc) (ls : Array Slot), va_P D clC (mw cA cP ob ad S) H → va_D A (mw cA cP ob ad S) → va_S A s.heap H locs → lv_has ls 7 [(0, .ref (ob 0)), (1, .int x1), (2, .int x2), (3, .int x3), (4, .int x4)] → f_Md_isOn_0   x1 x2 x3 x4 S = some res → W p l e rm_Md_isOn s m args below meth c H locs 0 0 Q (F0 m 0 ls []) := by
  obtain ⟨hx, hb, hml, hown, hts, hK, hA, hN, hZ⟩ := id C0
  intro x1 x2 x3 x4 S H locs ls hP hD hS hl hf
  rw [f_Md_isOn_0] at hf
  refine lv_iload_n hx hb d_Md_isOn_0 rfl (lv_at hl 1 rfl) ?_
  refine lv_aload_n hx hb d_Md_isOn_1 rfl (lv_at hl 0 rfl) ?_
  refine va_get (D := D) (ci := 7) (v := .ref (ob 1)) (C := R_Md) (T := F_Md) (N := 26) hx hb hts (fun w h => List.mem_cons_of_mem _ (in_Md w h)) hown hK hP 0 rfl rfl 3 (by decide) (hts _ (List.mem_cons_of_mem _ wd_825)) (fun _ h9 => h9) rfl d_Md_isOn_2 ?_
  refine lv_iload_n hx hb d_Md_isOn_5 rfl (lv_at hl 3 rfl) ?_
  obtain ⟨hi_1, hf⟩ := as_some hf
  refine va_iald hx hb hK hP 1 0 rfl rfl (inb_in hi_1) d_Md_isOn_6 ?_
  refine lv_aload_n hx hb d_Md_isOn_7 rfl (lv_at hl 0 rfl) ?_
  refine va_get (D := D) (ci := 7) (v := .ref (ob 1)) (C := R_Md) (T := F_Md) (N := 26) hx hb hts (fun w h => List.mem_cons_of_mem _ (in_Md w h)) hown hK hP 0 rfl rfl 3 (by decide) (hts _ (List.mem_cons_of_mem _ wd_825)) (fun _ h9 => h9) rfl d_Md_isOn_8 ?_
  refine lv_iload hx hb d_Md_isOn_11 (lv_at hl 4 rfl) ?_
  obtain ⟨hi_2, hf⟩ := as_some hf
  refine va_iald hx hb hK hP 1 0 rfl rfl (inb_in hi_2) d_Md_isOn_13 ?_
  refine lv_icmp_ge (tgt := 26) hx hb d_Md_isOn_14 (by decide) (fun c_3 => ?_) (fun c_3 => ?_)
  · rw [if_pos c_3] at hf
    refine lv_aload_n hx hb d_Md_isOn_26 rfl (lv_at hl 0 rfl) ?_
    refine va_get (D := D) (ci := 7) (v := .ref (ob 1)) (C := R_Md) (T := F_Md) (N := 26) hx hb hts (fun w h => List.mem_cons_of_mem _ (in_Md w h)) hown hK hP 0 rfl rfl 3 (by decide) (hts _ (List.mem_cons_of_mem _ wd_825)) (fun _ h9 => h9) rfl d_Md_isOn_27 ?_
    refine lv_iload hx hb d_Md_isOn_30 (lv_at hl 4 rfl) ?_
    obtain ⟨hi_4, hf⟩ := as_some hf
    refine va_iald hx hb hK hP 1 0 rfl rfl (inb_in hi_4) d_Md_isOn_32 ?_
    exact w_Md_isOn_33 C0 hret    x1 x2 x3 x4 (ga S 1 (Int32.toNatClampNeg x4)) x1 S H locs ls hP hD hS (lv_sub hl [0, 1, 2, 3, 4] rfl) hf
  · rw [if_neg c_3] at hf
    refine lv_aload_n hx hb d_Md_isOn_17 rfl (lv_at hl 0 rfl) ?_
    refine va_get (D := D) (ci := 7) (v := .ref (ob 1)) (C := R_Md) (T := F_Md) (N := 26) hx hb hts (fun w h => List.mem_cons_of_mem _ (in_Md w h)) hown hK hP 0 rfl rfl 3 (by decide) (hts _ (List.mem_cons_of_mem _ wd_825)) (fun _ h9 => h9) rfl d_Md_isOn_18 ?_
    refine lv_iload_n hx hb d_Md_isOn_21 rfl (lv_at hl 3 rfl) ?_
    obtain ⟨hi_5, hf⟩ := as_some hf
    refine va_iald hx hb hK hP 1 0 rfl rfl (inb_in hi_5) d_Md_isOn_22 ?_
    refine lv_goto (tgt := 33) hx hb d_Md_isOn_23 (by decide) ?_
    exact w_Md_isOn_33 C0 hret    x1 x2 x3 x4 (ga S 1 (Int32.toNatClampNeg x3)) x1 S H locs ls hP hD hS (lv_sub hl [0, 1, 2, 3, 4] rfl) hf
def f_Md_isOn (x1 : Int32) (x2 : Int32) (x3 : Int32) (x4 : Int32) (S : St) : Option (Int32 × St) := f_Md_isOn_0  x1 x2 x3 x4 S
theorem c_Md_isOn (l : Launch) (D : va_G) (cA cP : ClassId) (ob : Nat → Nat) (ad : Nat → Nat → Nat) (x1 : Int32) (x2 : Int32) (x3 : Int32) (x4 : Int32)  (S : St) {res : (Int32 × St)} (hf : f_Md_isOn x1 x2 x3 x4 S = some res) : CTi l y_Md_isOn w_Md_isOn rm_Md_isOn 0 0 D clC (TY cA cP) [.ref (ob 0), .int x1, .int x2, .int x3, .int x4] (mw cA cP ob ad S) (fun r w => r = res.1 ∧ w = mw cA cP ob ad res.2) :=
  mk_z (cc := b_Md_isOn) (maxL := 7) (own := R_Md) (by decide) rfl rfl (Nat.le_of_ble_eq_true rfl) (fun p e s m below meth c A Q C0 hret ls hl hP hD hS => w_Md_isOn_0 C0 hret   x1 x2 x3 x4 S _ _ ls hP hD hS (lv_sub hl [0, 1, 2, 3, 4] rfl) hf)
end
