section
variable {p : Program} {l : Launch} {e : Env} {s : State} {m : MethodId} {args : Array Value} {below : List Frame} {meth : Method} {c : Code} {Q : State → Prop} {D : va_G} {cA cP : ClassId} {ob : Nat → Nat} {ad : Nat → Nat → Nat} {A : Nat → Prop}
def f_Pn_clear_0    (S : St) : Option (Int32 × St) :=
  bn (gi S 3) (fun x1_1 => bn (seti S 3 0) (fun S_2 => bd (f_Nt_removeAll  S_2) (fun q_3 => bn (seti q_3 0 (-1)) (fun S_4 => bn (seti S_4 1 (-1)) (fun S_5 => bd (f_Pn_forgetAnswers  S_5) (fun q_6 => some (x1_1, q_6)))))))
set_option maxHeartbeats 4000000 in
set_option maxRecDepth 100000 in
theorem w_Pn_clear_0 (C0 : CX p s m args c b_Pn_clear 2 R_Pn w_Pn_clear D clC cA cP A) {res : (Int32 × St)} (hret : RTi p l e rm_Pn_clear s m args below meth c Q D clC A b_Pn_clear 0 0 (fun r w => r = res.1 ∧ w = cw cA cP ob ad res.2))    : ∀  (S : St) (H : Heap) (locs : List Loc) (ls : Array Slot), va_P D clC (cw cA cP ob ad S) H → va_D A (cw cA cP ob ad S) → va_S A s.heap H locs → lv_has ls 2 [(0, .ref (ob 0))] → f_Pn_clear_0    S = some res → W p l e rm_Pn_clear s m args below meth c H locs 0 0 Q (F0 m 0 ls []) := by
  obtain ⟨hx, hb, hml, hown, hts, hK, hA, hN, hZ⟩ := id C0
  intro  S H locs ls hP hD hS hl hf
  rw [f_Pn_clear_0] at hf
  refine lv_aload_n hx hb d_Pn_clear_0 rfl (lv_at hl 0 rfl) ?_
  refine va_get (D := D) (ci := 0) (v := .ref (ob 1)) (C := R_Pn) (T := F_Pn) (N := 8) hx hb hts (fun w h => List.mem_cons_of_mem _ (in_Pn w h)) hown hK hP 0 rfl rfl 0 (by decide) (hts _ (List.mem_cons_of_mem _ wd_249)) (fun _ h9 => h9) rfl d_Pn_clear_1 ?_
  refine va_get (D := D) (ci := 1) (v := .int (gi S 3)) (C := R_Pt) (T := F_Pt) (N := 5) hx hb hts (fun w h => List.mem_cons_of_mem _ (in_Pt w h)) hown hK hP 1 rfl rfl 1 (by decide) (hts _ (List.mem_cons_of_mem _ wd_133)) (fun _ h9 => h9) rfl d_Pn_clear_4 ?_
  obtain ⟨x1_1, ex1_1, hf⟩ := bn_some hf
  refine tpi ex1_1 ?_
  refine lv_istore_n (lv' := [(1, .int x1_1), (0, .ref (ob 0))]) hx hb d_Pn_clear_7 rfl hl (by decide) rfl (fun ls hl => ?_)
  refine lv_aload_n hx hb d_Pn_clear_8 rfl (lv_at hl 1 rfl) ?_
  refine va_get (D := D) (ci := 0) (v := .ref (ob 1)) (C := R_Pn) (T := F_Pn) (N := 8) hx hb hts (fun w h => List.mem_cons_of_mem _ (in_Pn w h)) hown hK hP 0 rfl rfl 0 (by decide) (hts _ (List.mem_cons_of_mem _ wd_249)) (fun _ h9 => h9) rfl d_Pn_clear_9 ?_
  refine lv_iconst (v := 0) hx hb d_Pn_clear_12 (by decide) ?_
  obtain ⟨S_2, eS_2, hf⟩ := bn_some hf
  refine va_put (D := D) (ci := 1) (v := .int 0) (ty := .int) (C := R_Pt) (T := F_Pt) (N := 5) hx hb hts (fun w h => List.mem_cons_of_mem _ (in_Pt w h)) t_Pt tk_Pt nk_Pt hown hK hP hD hS 1 rfl rfl 1 (by decide) (hts _ (List.mem_cons_of_mem _ wd_133)) (fun _ h9 => h9) rfl (by decide +kernel) rfl rfl (Nat.le_of_ble_eq_true rfl) d_Pn_clear_13 (fun H locs hP hD hS => ?_)
  have hP : va_P D clC (cw cA cP ob ad S_2) H := by rw [eS_2]; exact hP
  have hD : va_D A (cw cA cP ob ad S_2) := by rw [eS_2]; exact hD
  refine lv_aload_n hx hb d_Pn_clear_16 rfl (lv_at hl 1 rfl) ?_
  refine va_get (D := D) (ci := 0) (v := .ref (ob 3)) (C := R_Pn) (T := F_Pn) (N := 8) hx hb hts (fun w h => List.mem_cons_of_mem _ (in_Pn w h)) hown hK hP 0 rfl rfl 1 (by decide) (hts _ (List.mem_cons_of_mem _ wd_250)) (fun _ h9 => h9) rfl d_Pn_clear_17 ?_
  obtain ⟨q_3, hq_3, hf⟩ := bd_some hf
  refine kc_v (va_runV (As := []) (rest := []) ⟨hx, hb, hml, hown, hts⟩ (c_Nt_removeAll l D cA cP ob ad   S_2 hq_3 H.size) ⟨callB_of 0 hts (gd_Nt_removeAll) rfl rfl rfl (hts _ (List.mem_cons_of_mem _ wd_69)) (hts _ (List.mem_cons_of_mem _ wd_279)) dd_Nt_removeAll ⟨Nat.le_of_ble_eq_true rfl, Nat.le_of_ble_eq_true rfl⟩, (hts _ (List.mem_cons_of_mem _ wd_280)), (hts _ (List.mem_cons_of_mem _ wd_281))⟩ (kpV hK hP hD hN hZ hS 3 3 rfl rfl) rfl rfl hl.1 rfl (lv_room (Nat.le_of_ble_eq_true rfl)) d_Pn_clear_20 ⟨Nat.le_of_ble_eq_true rfl, Nat.le_of_ble_eq_true rfl⟩) hP hD hS hA (fun w H locs hw hP hD hS => ?_)
  obtain rfl := hw
  refine lv_aload_n hx hb d_Pn_clear_23 rfl (lv_at hl 1 rfl) ?_
  refine lv_iconst (v := (-1)) hx hb d_Pn_clear_24 (by decide) ?_
  obtain ⟨S_4, eS_4, hf⟩ := bn_some hf
  refine va_put (D := D) (ci := 0) (v := .int (-1)) (ty := .int) (C := R_Pn) (T := F_Pn) (N := 8) hx hb hts (fun w h => List.mem_cons_of_mem _ (in_Pn w h)) t_Pn tk_Pn nk_Pn hown hK hP hD hS 0 rfl rfl 6 (by decide) (hts _ (List.mem_cons_of_mem _ wd_255)) (fun _ h9 => h9) rfl (by decide +kernel) rfl rfl (Nat.le_of_ble_eq_true rfl) d_Pn_clear_25 (fun H locs hP hD hS => ?_)
  have hP : va_P D clC (cw cA cP ob ad S_4) H := by rw [eS_4]; exact hP
  have hD : va_D A (cw cA cP ob ad S_4) := by rw [eS_4]; exact hD
  refine lv_aload_n hx hb d_Pn_clear_28 rfl (lv_at hl 1 rfl) ?_
  refine lv_iconst (v := (-1)) hx hb d_Pn_clear_29 (by decide) ?_
  obtain ⟨S_5, eS_5, hf⟩ := bn_some hf
  refine va_put (D := D) (ci := 0) (v := .int (-1)) (ty := .int) (C := R_Pn) (T := F_Pn) (N := 8) hx hb hts (fun w h => List.mem_cons_of_mem _ (in_Pn w h)) t_Pn tk_Pn nk_Pn hown hK hP hD hS 0 rfl rfl 7 (by decide) (hts _ (List.mem_cons_of_mem _ wd_256)) (fun _ h9 => h9) rfl (by decide +kernel) rfl rfl (Nat.le_of_ble_eq_true rfl) d_Pn_clear_30 (fun H locs hP hD hS => ?_)
  have hP : va_P D clC (cw cA cP ob ad S_5) H := by rw [eS_5]; exact hP
  have hD : va_D A (cw cA cP ob ad S_5) := by rw [eS_5]; exact hD
  refine lv_aload_n hx hb d_Pn_clear_33 rfl (lv_at hl 1 rfl) ?_
  obtain ⟨q_6, hq_6, hf⟩ := bd_some hf
  refine kc_v (va_runV (As := []) (rest := []) ⟨hx, hb, hml, hown, hts⟩ (c_Pn_forgetAnswers l D cA cP ob ad   S_5 hq_6 H.size) ⟨callB_of 0 hts (gd_Pn_forgetAnswers) rfl rfl rfl (hts _ (List.mem_cons_of_mem _ wd_64)) (hts _ (List.mem_cons_of_mem _ wd_283)) dd_Pn_forgetAnswers ⟨Nat.le_of_ble_eq_true rfl, Nat.le_of_ble_eq_true rfl⟩, (hts _ (List.mem_cons_of_mem _ wd_285)), (hts _ (List.mem_cons_of_mem _ wd_0))⟩ (kpV hK hP hD hN hZ hS 0 0 rfl rfl) rfl rfl hl.1 rfl (lv_room (Nat.le_of_ble_eq_true rfl)) d_Pn_clear_34 ⟨Nat.le_of_ble_eq_true rfl, Nat.le_of_ble_eq_true rfl⟩) hP hD hS hA (fun w H locs hw hP hD hS => ?_)
  obtain rfl := hw
  refine lv_iload_n hx hb d_Pn_clear_37 rfl (lv_at hl 0 rfl) ?_
  cases hf
  exact hret _ _ _ _ _ _ ⟨rfl, rfl⟩ hP hD hS d_Pn_clear_38
def f_Pn_clear  (S : St) : Option (Int32 × St) := f_Pn_clear_0   S
theorem c_Pn_clear (l : Launch) (D : va_G) (cA cP : ClassId) (ob : Nat → Nat) (ad : Nat → Nat → Nat)   (S : St) {res : (Int32 × St)} (hf : f_Pn_clear  S = some res) : CTi l y_Pn_clear w_Pn_clear rm_Pn_clear 0 0 D clC (TY cA cP) [.ref (ob 0)] (cw cA cP ob ad S) (fun r w => r = res.1 ∧ w = cw cA cP ob ad res.2) :=
  mk_i (cc := b_Pn_clear) (maxL := 2) (own := R_Pn) (by decide) rfl rfl (Nat.le_of_ble_eq_true rfl) (fun p e s m below meth c A Q C0 hret ls hl hP hD hS => w_Pn_clear_0 C0 hret    S _ _ ls hP hD hS (lv_sub hl [0] rfl) hf)
def f_Pn_find_0   (x1 : Int32) (x2 : Int32) (S : St) : Option (Int32 × St) :=
  bd (f_Pn_checkPlace x1 x2 S) (fun q_1 => bd (f_Pt_nearestOf (gi q_1 3) x1 x2 q_1) (fun q_2 => bd (f_Pt_isAt q_2.1 x1 x2 q_2.2) (fun q_3 => (if q_3.1 = 0 then
    some ((-1), q_3.2)
    else
    some (q_2.1, q_3.2)))))
set_option maxHeartbeats 4000000 in
set_option maxRecDepth 100000 in
theorem w_Pn_find_0 (C0 : CX p s m args c b_Pn_find 4 R_Pn w_Pn_find D clC cA cP A) {res : (Int32 × St)} (hret : RTi p l e rm_Pn_find s m args below meth c Q D clC A b_Pn_find 0 0 (fun r w => r = res.1 ∧ w = cw cA cP ob ad res.2))    : ∀ (x1 : Int32) (x2 : Int32) (S : St) (H : Heap) (locs : List Loc) (ls : Array Slot), va_P D clC (cw cA cP ob ad S) H → va_D A (cw cA cP ob ad S) → va_S A s.heap H locs → lv_has ls 4 [(0, .ref (ob 0)), (1, .int x1), (2, .int x2)] → f_Pn_find_0   x1 x2 S = some res → W p l e rm_Pn_find s m args below meth c H locs 0 0 Q (F0 m 0 ls []) := by
  obtain ⟨hx, hb, hml, hown, hts, hK, hA, hN, hZ⟩ := id C0
  intro x1 x2 S H locs ls hP hD hS hl hf
  rw [f_Pn_find_0] at hf
  refine lv_iload_n hx hb d_Pn_find_0 rfl (lv_at hl 1 rfl) ?_
  refine lv_iload_n hx hb d_Pn_find_1 rfl (lv_at hl 2 rfl) ?_
  obtain ⟨q_1, hq_1, hf⟩ := bd_some hf
  refine kc_v (va_runS (As := [.int x1, .int x2]) (rest := []) ⟨hx, hb, hml, hown, hts⟩ (c_Pn_checkPlace l D cA cP ob ad x1 x2  S hq_1 H.size) ⟨callB_of 2 hts (gd_Pn_checkPlace) rfl rfl rfl (hts _ (List.mem_cons_of_mem _ wd_64)) (hts _ (List.mem_cons_of_mem _ wd_424)) dd_Pn_checkPlace ⟨Nat.le_of_ble_eq_true rfl, Nat.le_of_ble_eq_true rfl⟩, (hts _ (List.mem_cons_of_mem _ wd_425))⟩ (kpS hK hP hD hN hZ hS) rfl rfl hl.1 rfl (lv_room (Nat.le_of_ble_eq_true rfl)) d_Pn_find_2 ⟨Nat.le_of_ble_eq_true rfl, Nat.le_of_ble_eq_true rfl⟩) hP hD hS hA (fun w H locs hw hP hD hS => ?_)
  obtain rfl := hw
  refine lv_aload_n hx hb d_Pn_find_5 rfl (lv_at hl 0 rfl) ?_
  refine va_get (D := D) (ci := 0) (v := .ref (ob 1)) (C := R_Pn) (T := F_Pn) (N := 8) hx hb hts (fun w h => List.mem_cons_of_mem _ (in_Pn w h)) hown hK hP 0 rfl rfl 0 (by decide) (hts _ (List.mem_cons_of_mem _ wd_249)) (fun _ h9 => h9) rfl d_Pn_find_6 ?_
  refine lv_aload_n hx hb d_Pn_find_9 rfl (lv_at hl 0 rfl) ?_
  refine va_get (D := D) (ci := 0) (v := .ref (ob 1)) (C := R_Pn) (T := F_Pn) (N := 8) hx hb hts (fun w h => List.mem_cons_of_mem _ (in_Pn w h)) hown hK hP 0 rfl rfl 0 (by decide) (hts _ (List.mem_cons_of_mem _ wd_249)) (fun _ h9 => h9) rfl d_Pn_find_10 ?_
  refine va_get (D := D) (ci := 1) (v := .int (gi q_1 3)) (C := R_Pt) (T := F_Pt) (N := 5) hx hb hts (fun w h => List.mem_cons_of_mem _ (in_Pt w h)) hown hK hP 1 rfl rfl 1 (by decide) (hts _ (List.mem_cons_of_mem _ wd_133)) (fun _ h9 => h9) rfl d_Pn_find_13 ?_
  refine lv_iload_n hx hb d_Pn_find_16 rfl (lv_at hl 1 rfl) ?_
  refine lv_iload_n hx hb d_Pn_find_17 rfl (lv_at hl 2 rfl) ?_
  obtain ⟨q_2, hq_2, hf⟩ := bd_some hf
  refine kc_i (va_runV (As := [.int (gi q_1 3), .int x1, .int x2]) (rest := []) ⟨hx, hb, hml, hown, hts⟩ (c_Pt_nearestOf l D cA cP ob ad (gi q_1 3) x1 x2  q_1 hq_2 H.size) ⟨callB_of 3 hts (gd_Pt_nearestOf) rfl rfl rfl (hts _ (List.mem_cons_of_mem _ wd_65)) (hts _ (List.mem_cons_of_mem _ wd_497)) dd_Pt_nearestOf ⟨Nat.le_of_ble_eq_true rfl, Nat.le_of_ble_eq_true rfl⟩, (hts _ (List.mem_cons_of_mem _ wd_498)), (hts _ (List.mem_cons_of_mem _ wd_499))⟩ (kpV hK hP hD hN hZ hS 1 1 rfl rfl) rfl rfl hl.1 rfl (lv_room (Nat.le_of_ble_eq_true rfl)) d_Pn_find_18 ⟨Nat.le_of_ble_eq_true rfl, Nat.le_of_ble_eq_true rfl⟩) hP hD hS hA (fun r w H locs hw hP hD hS => ?_)
  obtain ⟨rfl, rfl⟩ := hw
  refine lv_istore_n (lv' := [(3, .int q_2.1), (0, .ref (ob 0)), (1, .int x1), (2, .int x2)]) hx hb d_Pn_find_21 rfl hl (by decide) rfl (fun ls hl => ?_)
  refine lv_aload_n hx hb d_Pn_find_22 rfl (lv_at hl 1 rfl) ?_
  refine va_get (D := D) (ci := 0) (v := .ref (ob 1)) (C := R_Pn) (T := F_Pn) (N := 8) hx hb hts (fun w h => List.mem_cons_of_mem _ (in_Pn w h)) hown hK hP 0 rfl rfl 0 (by decide) (hts _ (List.mem_cons_of_mem _ wd_249)) (fun _ h9 => h9) rfl d_Pn_find_23 ?_
  refine lv_iload_n hx hb d_Pn_find_26 rfl (lv_at hl 0 rfl) ?_
  refine lv_iload_n hx hb d_Pn_find_27 rfl (lv_at hl 2 rfl) ?_
  refine lv_iload_n hx hb d_Pn_find_28 rfl (lv_at hl 3 rfl) ?_
  obtain ⟨q_3, hq_3, hf⟩ := bd_some hf
  refine kc_i (va_runV (As := [.int q_2.1, .int x1, .int x2]) (rest := []) ⟨hx, hb, hml, hown, hts⟩ (c_Pt_isAt l D cA cP ob ad q_2.1 x1 x2  q_2.2 hq_3 H.size) ⟨callB_of 3 hts (gd_Pt_isAt) rfl rfl rfl (hts _ (List.mem_cons_of_mem _ wd_65)) (hts _ (List.mem_cons_of_mem _ wd_505)) dd_Pt_isAt ⟨Nat.le_of_ble_eq_true rfl, Nat.le_of_ble_eq_true rfl⟩, (hts _ (List.mem_cons_of_mem _ wd_506)), (hts _ (List.mem_cons_of_mem _ wd_507))⟩ (kpV hK hP hD hN hZ hS 1 1 rfl rfl) rfl rfl hl.1 rfl (lv_room (Nat.le_of_ble_eq_true rfl)) d_Pn_find_29 ⟨Nat.le_of_ble_eq_true rfl, Nat.le_of_ble_eq_true rfl⟩) hP hD hS hA (fun r w H locs hw hP hD hS => ?_)
  obtain ⟨rfl, rfl⟩ := hw
  refine lv_if_eq (tgt := 39) hx hb d_Pn_find_32 (by decide) (fun c_4 => ?_) (fun c_4 => ?_)
  · rw [if_pos c_4] at hf
    refine lv_iconst (v := (-1)) hx hb d_Pn_find_39 (by decide) ?_
    cases hf
    exact hret _ _ _ _ _ _ ⟨rfl, rfl⟩ hP hD hS d_Pn_find_40
  · rw [if_neg c_4] at hf
    refine lv_iload_n hx hb d_Pn_find_35 rfl (lv_at hl 0 rfl) ?_
    refine lv_goto (tgt := 40) hx hb d_Pn_find_36 (by decide) ?_
    cases hf
    exact hret _ _ _ _ _ _ ⟨rfl, rfl⟩ hP hD hS d_Pn_find_40
def f_Pn_find (x1 : Int32) (x2 : Int32) (S : St) : Option (Int32 × St) := f_Pn_find_0  x1 x2 S
theorem c_Pn_find (l : Launch) (D : va_G) (cA cP : ClassId) (ob : Nat → Nat) (ad : Nat → Nat → Nat) (x1 : Int32) (x2 : Int32)  (S : St) {res : (Int32 × St)} (hf : f_Pn_find x1 x2 S = some res) : CTi l y_Pn_find w_Pn_find rm_Pn_find 0 0 D clC (TY cA cP) [.ref (ob 0), .int x1, .int x2] (cw cA cP ob ad S) (fun r w => r = res.1 ∧ w = cw cA cP ob ad res.2) :=
  mk_i (cc := b_Pn_find) (maxL := 4) (own := R_Pn) (by decide) rfl rfl (Nat.le_of_ble_eq_true rfl) (fun p e s m below meth c A Q C0 hret ls hl hP hD hS => w_Pn_find_0 C0 hret   x1 x2 S _ _ ls hP hD hS (lv_sub hl [0, 1, 2] rfl) hf)
def f_Nt_solidCount_0    (S : St) : Option (Int32 × St) :=
  some (((gi S 6) - (gi S 7)), S)
set_option maxHeartbeats 4000000 in
set_option maxRecDepth 100000 in
theorem w_Nt_solidCount_0 (C0 : CX p s m args c b_Nt_solidCount 1 R_Nt w_Nt_solidCount D clC cA cP A) {res : (Int32 × St)} (hret : RTi p l e rm_Nt_solidCount s m args below meth c Q D clC A b_Nt_solidCount 0 0 (fun r w => r = res.1 ∧ w = cw cA cP ob ad res.2))    : ∀  (S : St) (H : Heap) (locs : List Loc) (ls : Array Slot), va_P D clC (cw cA cP ob ad S) H → va_D A (cw cA cP ob ad S) → va_S A s.heap H locs → lv_has ls 1 [(0, .ref (ob 3))] → f_Nt_solidCount_0    S = some res → W p l e rm_Nt_solidCount s m args below meth c H locs 0 0 Q (F0 m 0 ls []) := by
  obtain ⟨hx, hb, hml, hown, hts, hK, hA, hN, hZ⟩ := id C0
  intro  S H locs ls hP hD hS hl hf
  rw [f_Nt_solidCount_0] at hf
  refine lv_aload_n hx hb d_Nt_solidCount_0 rfl (lv_at hl 0 rfl) ?_
  refine va_get (D := D) (ci := 3) (v := .int (gi S 6)) (C := R_Nt) (T := F_Nt) (N := 13) hx hb hts (fun w h => List.mem_cons_of_mem _ (in_Nt w h)) hown hK hP 3 rfl rfl 9 (by decide) (hts _ (List.mem_cons_of_mem _ wd_167)) (fun _ h9 => h9) rfl d_Nt_solidCount_1 ?_
  refine lv_aload_n hx hb d_Nt_solidCount_4 rfl (lv_at hl 0 rfl) ?_
  refine va_get (D := D) (ci := 3) (v := .int (gi S 7)) (C := R_Nt) (T := F_Nt) (N := 13) hx hb hts (fun w h => List.mem_cons_of_mem _ (in_Nt w h)) hown hK hP 3 rfl rfl 10 (by decide) (hts _ (List.mem_cons_of_mem _ wd_168)) (fun _ h9 => h9) rfl d_Nt_solidCount_5 ?_
  refine lv_isub hx hb d_Nt_solidCount_8 ?_
  cases hf
  exact hret _ _ _ _ _ _ ⟨rfl, rfl⟩ hP hD hS d_Nt_solidCount_9
def f_Nt_solidCount  (S : St) : Option (Int32 × St) := f_Nt_solidCount_0   S
theorem c_Nt_solidCount (l : Launch) (D : va_G) (cA cP : ClassId) (ob : Nat → Nat) (ad : Nat → Nat → Nat)   (S : St) {res : (Int32 × St)} (hf : f_Nt_solidCount  S = some res) : CTi l y_Nt_solidCount w_Nt_solidCount rm_Nt_solidCount 0 0 D clC (TY cA cP) [.ref (ob 3)] (cw cA cP ob ad S) (fun r w => r = res.1 ∧ w = cw cA cP ob ad res.2) :=
  mk_i (cc := b_Nt_solidCount) (maxL := 1) (own := R_Nt) (by decide) rfl rfl (Nat.le_of_ble_eq_true rfl) (fun p e s m below meth c A Q C0 hret ls hl hP hD hS => w_Nt_solidCount_0 C0 hret    S _ _ ls hP hD hS (lv_sub hl [0] rfl) hf)
def f_Nt_edgeCount_0    (S : St) : Option (Int32 × St) :=
  some ((3 * (gi S 6)), S)
set_option maxHeartbeats 4000000 in
set_option maxRecDepth 100000 in
theorem w_Nt_edgeCount_0 (C0 : CX p s m args c b_Nt_edgeCount 1 R_Nt w_Nt_edgeCount D clC cA cP A) {res : (Int32 × St)} (hret : RTi p l e rm_Nt_edgeCount s m args below meth c Q D clC A b_Nt_edgeCount 0 0 (fun r w => r = res.1 ∧ w = cw cA cP ob ad res.2))    : ∀  (S : St) (H : Heap) (locs : List Loc) (ls : Array Slot), va_P D clC (cw cA cP ob ad S) H → va_D A (cw cA cP ob ad S) → va_S A s.heap H locs → lv_has ls 1 [(0, .ref (ob 3))] → f_Nt_edgeCount_0    S = some res → W p l e rm_Nt_edgeCount s m args below meth c H locs 0 0 Q (F0 m 0 ls []) := by
  obtain ⟨hx, hb, hml, hown, hts, hK, hA, hN, hZ⟩ := id C0
  intro  S H locs ls hP hD hS hl hf
  rw [f_Nt_edgeCount_0] at hf
  refine lv_iconst (v := 3) hx hb d_Nt_edgeCount_0 (by decide) ?_
  refine lv_aload_n hx hb d_Nt_edgeCount_1 rfl (lv_at hl 0 rfl) ?_
  refine va_get (D := D) (ci := 3) (v := .int (gi S 6)) (C := R_Nt) (T := F_Nt) (N := 13) hx hb hts (fun w h => List.mem_cons_of_mem _ (in_Nt w h)) hown hK hP 3 rfl rfl 9 (by decide) (hts _ (List.mem_cons_of_mem _ wd_167)) (fun _ h9 => h9) rfl d_Nt_edgeCount_2 ?_
  refine lv_imul hx hb d_Nt_edgeCount_5 ?_
  cases hf
  exact hret _ _ _ _ _ _ ⟨rfl, rfl⟩ hP hD hS d_Nt_edgeCount_6
def f_Nt_edgeCount  (S : St) : Option (Int32 × St) := f_Nt_edgeCount_0   S
theorem c_Nt_edgeCount (l : Launch) (D : va_G) (cA cP : ClassId) (ob : Nat → Nat) (ad : Nat → Nat → Nat)   (S : St) {res : (Int32 × St)} (hf : f_Nt_edgeCount  S = some res) : CTi l y_Nt_edgeCount w_Nt_edgeCount rm_Nt_edgeCount 0 0 D clC (TY cA cP) [.ref (ob 3)] (cw cA cP ob ad S) (fun r w => r = res.1 ∧ w = cw cA cP ob ad res.2) :=
  mk_i (cc := b_Nt_edgeCount) (maxL := 1) (own := R_Nt) (by decide) rfl rfl (Nat.le_of_ble_eq_true rfl) (fun p e s m below meth c A Q C0 hret ls hl hP hD hS => w_Nt_edgeCount_0 C0 hret    S _ _ ls hP hD hS (lv_sub hl [0] rfl) hf)
def f_Nt_lowestFirst_33  (k4 : Int32 → Int32 → Int32 → St → Option (Int32 × St)) (x1 : Int32) (x2 : Int32) (x3 : Int32) (S : St) : Option (Int32 × St) :=
  bn (x3 + 1) (fun x3_1 => k4 x1 x2 x3_1 S)
set_option maxHeartbeats 4000000 in
set_option maxRecDepth 100000 in
theorem w_Nt_lowestFirst_33 (C0 : CX p s m args c b_Nt_lowestFirst 5 R_Nt w_Nt_lowestFirst D clC cA cP A) {res : (Int32 × St)} (hret : RTi p l e rm_Nt_lowestFirst s m args below meth c Q D clC A b_Nt_lowestFirst 0 0 (fun r w => r = res.1 ∧ w = cw cA cP ob ad res.2))   (k4 : Int32 → Int32 → Int32 → St → Option (Int32 × St)) (hk4 : ∀ (x1 : Int32) (x2 : Int32) (x3 : Int32) (S : St) (H : Heap) (locs : List Loc) (ls : Array Slot), va_P D clC (cw cA cP ob ad S) H → va_D A (cw cA cP ob ad S) → va_S A s.heap H locs → lv_has ls 5 [(0, .ref (ob 3)), (1, .int x1), (2, .int x2), (3, .int x3)] → k4 x1 x2 x3 S = some res → W p l e rm_Nt_lowestFirst s m args below meth c H locs 0 0 Q (F0 m 4 ls [])) : ∀ (x1 : Int32) (x2 : Int32) (x3 : Int32) (S : St) (H : Heap) (locs : List Loc) (ls : Array Slot), va_P D clC (cw cA cP ob ad S) H → va_D A (cw cA cP ob ad S) → va_S A s.heap H locs → lv_has ls 5 [(0, .ref (ob 3)), (1, .int x1), (2, .int x2), (3, .int x3)] → f_Nt_lowestFirst_33  k4 x1 x2 x3 S = some res → W p l e rm_Nt_lowestFirst s m args below meth c H locs 0 0 Q (F0 m 33 ls []) := by
  obtain ⟨hx, hb, hml, hown, hts, hK, hA, hN, hZ⟩ := id C0
  intro x1 x2 x3 S H locs ls hP hD hS hl hf
  rw [f_Nt_lowestFirst_33] at hf
  obtain ⟨x3_1, ex3_1, hf⟩ := bn_some hf
  refine lv_iinc (v := x3_1) (lv' := [(3, .int x3_1), (0, .ref (ob 3)), (1, .int x1), (2, .int x2)]) hx hb d_Nt_lowestFirst_33 hl (k := 3) rfl (by rw [ex3_1]; rfl) (by decide) rfl (fun ls hl => ?_)
  refine lv_goto (tgt := 4) hx hb d_Nt_lowestFirst_36 (by decide) ?_
  exact hk4 x1 x2 x3_1 S H locs ls hP hD hS (lv_sub hl [1, 2, 3, 0] rfl) hf
def f_Nt_lowestFirst_4   : Nat → Int32 → Int32 → Int32 → St → Option (Int32 × St)
  | 0 => fun _ _ _ _ => none
  | n + 1 => fun x1 x2 x3 S => (if 3 ≤ x3 then
      some (x2, S)
      else
      bd (f_Nt_ahead x1 x3 S) (fun q_2 => bd (f_Nt_startOf q_2.1 q_2.2) (fun q_3 => bd (f_Nt_startOf x2 q_3.2) (fun q_4 => (if q_4.1 ≤ q_3.1 then
        f_Nt_lowestFirst_33  (f_Nt_lowestFirst_4  n) x1 x2 x3 q_4.2
        else
        f_Nt_lowestFirst_33  (f_Nt_lowestFirst_4  n) x1 q_2.1 x3 q_4.2)))))
set_option maxHeartbeats 4000000 in
set_option maxRecDepth 100000 in
theorem w_Nt_lowestFirst_4 (C0 : CX p s m args c b_Nt_lowestFirst 5 R_Nt w_Nt_lowestFirst D clC cA cP A) {res : (Int32 × St)} (hret : RTi p l e rm_Nt_lowestFirst s m args below meth c Q D clC A b_Nt_lowestFirst 0 0 (fun r w => r = res.1 ∧ w = cw cA cP ob ad res.2))    : ∀ (n : Nat) (x1 : Int32) (x2 : Int32) (x3 : Int32) (S : St) (H : Heap) (locs : List Loc) (ls : Array Slot), va_P D clC (cw cA cP ob ad S) H → va_D A (cw cA cP ob ad S) → va_S A s.heap H locs → lv_has ls 5 [(0, .ref (ob 3)), (1, .int x1), (2, .int x2), (3, .int x3)] → f_Nt_lowestFirst_4   n x1 x2 x3 S = some res → W p l e rm_Nt_lowestFirst s m args below meth c H locs 0 0 Q (F0 m 4 ls []) := by
  obtain ⟨hx, hb, hml, hown, hts, hK, hA, hN, hZ⟩ := id C0
  intro n
  induction n with
  | zero =>
    intro x1 x2 x3 S H locs ls hP hD hS hl hf
    cases hf
  | succ n ih =>
    intro x1 x2 x3 S H locs ls hP hD hS hl hf
    rw [f_Nt_lowestFirst_4] at hf
    try dsimp only at hf
    refine lv_iload_n hx hb d_Nt_lowestFirst_4 rfl (lv_at hl 3 rfl) ?_
    refine lv_iconst (v := 3) hx hb d_Nt_lowestFirst_5 (by decide) ?_
    refine lv_icmp_ge (tgt := 39) hx hb d_Nt_lowestFirst_6 (by decide) (fun c_1 => ?_) (fun c_1 => ?_)
    · rw [if_pos c_1] at hf
      refine lv_iload_n hx hb d_Nt_lowestFirst_39 rfl (lv_at hl 2 rfl) ?_
      cases hf
      exact hret _ _ _ _ _ _ ⟨rfl, rfl⟩ hP hD hS d_Nt_lowestFirst_40
    · rw [if_neg c_1] at hf
      refine lv_iload_n hx hb d_Nt_lowestFirst_9 rfl (lv_at hl 1 rfl) ?_
      refine lv_iload_n hx hb d_Nt_lowestFirst_10 rfl (lv_at hl 3 rfl) ?_
      obtain ⟨q_2, hq_2, hf⟩ := bd_some hf
      refine kc_i (va_runS (As := [.int x1, .int x3]) (rest := []) ⟨hx, hb, hml, hown, hts⟩ (c_Nt_ahead l D cA cP ob ad x1 x3  S hq_2 H.size) ⟨callB_of 2 hts (gd_Nt_ahead) rfl rfl rfl (hts _ (List.mem_cons_of_mem _ wd_69)) (hts _ (List.mem_cons_of_mem _ wd_381)) dd_Nt_ahead ⟨Nat.le_of_ble_eq_true rfl, Nat.le_of_ble_eq_true rfl⟩, (hts _ (List.mem_cons_of_mem _ wd_382))⟩ (kpS hK hP hD hN hZ hS) rfl rfl hl.1 rfl (lv_room (Nat.le_of_ble_eq_true rfl)) d_Nt_lowestFirst_11 ⟨Nat.le_of_ble_eq_true rfl, Nat.le_of_ble_eq_true rfl⟩) hP hD hS hA (fun r w H locs hw hP hD hS => ?_)
      obtain ⟨rfl, rfl⟩ := hw
      refine lv_istore (lv' := [(4, .int q_2.1), (0, .ref (ob 3)), (1, .int x1), (2, .int x2), (3, .int x3)]) hx hb d_Nt_lowestFirst_14 hl (by decide) rfl (fun ls hl => ?_)
      refine lv_aload_n hx hb d_Nt_lowestFirst_16 rfl (lv_at hl 1 rfl) ?_
      refine lv_iload hx hb d_Nt_lowestFirst_17 (lv_at hl 0 rfl) ?_
      obtain ⟨q_3, hq_3, hf⟩ := bd_some hf
      refine kc_i (va_runV (As := [.int q_2.1]) (rest := []) ⟨hx, hb, hml, hown, hts⟩ (c_Nt_startOf l D cA cP ob ad q_2.1  q_2.2 hq_3 H.size) ⟨callB_of 1 hts (gd_Nt_startOf) rfl rfl rfl (hts _ (List.mem_cons_of_mem _ wd_69)) (hts _ (List.mem_cons_of_mem _ wd_609)) dd_Nt_startOf ⟨Nat.le_of_ble_eq_true rfl, Nat.le_of_ble_eq_true rfl⟩, (hts _ (List.mem_cons_of_mem _ wd_393)), (hts _ (List.mem_cons_of_mem _ wd_394))⟩ (kpV hK hP hD hN hZ hS 3 3 rfl rfl) rfl rfl hl.1 rfl (lv_room (Nat.le_of_ble_eq_true rfl)) d_Nt_lowestFirst_19 ⟨Nat.le_of_ble_eq_true rfl, Nat.le_of_ble_eq_true rfl⟩) hP hD hS hA (fun r w H locs hw hP hD hS => ?_)
      obtain ⟨rfl, rfl⟩ := hw
      refine lv_aload_n hx hb d_Nt_lowestFirst_22 rfl (lv_at hl 1 rfl) ?_
      refine lv_iload_n hx hb d_Nt_lowestFirst_23 rfl (lv_at hl 3 rfl) ?_
      obtain ⟨q_4, hq_4, hf⟩ := bd_some hf
      refine kc_i (va_runV (As := [.int x2]) (rest := [.int q_3.1]) ⟨hx, hb, hml, hown, hts⟩ (c_Nt_startOf l D cA cP ob ad x2  q_3.2 hq_4 H.size) ⟨callB_of 1 hts (gd_Nt_startOf) rfl rfl rfl (hts _ (List.mem_cons_of_mem _ wd_69)) (hts _ (List.mem_cons_of_mem _ wd_609)) dd_Nt_startOf ⟨Nat.le_of_ble_eq_true rfl, Nat.le_of_ble_eq_true rfl⟩, (hts _ (List.mem_cons_of_mem _ wd_393)), (hts _ (List.mem_cons_of_mem _ wd_394))⟩ (kpV hK hP hD hN hZ hS 3 3 rfl rfl) rfl rfl hl.1 rfl (lv_room (Nat.le_of_ble_eq_true rfl)) d_Nt_lowestFirst_24 ⟨Nat.le_of_ble_eq_true rfl, Nat.le_of_ble_eq_true rfl⟩) hP hD hS hA (fun r w H locs hw hP hD hS => ?_)
      obtain ⟨rfl, rfl⟩ := hw
      refine lv_icmp_ge (tgt := 33) hx hb d_Nt_lowestFirst_27 (by decide) (fun c_5 => ?_) (fun c_5 => ?_)
      · rw [if_pos c_5] at hf
        exact w_Nt_lowestFirst_33 C0 hret   (f_Nt_lowestFirst_4  n) ih x1 x2 x3 q_4.2 H locs ls hP hD hS (lv_sub hl [1, 2, 3, 4] rfl) hf
      · rw [if_neg c_5] at hf
        refine lv_iload hx hb d_Nt_lowestFirst_30 (lv_at hl 0 rfl) ?_
        refine lv_istore_n (lv' := [(2, .int q_2.1), (4, .int q_2.1), (0, .ref (ob 3)), (1, .int x1), (3, .int x3)]) hx hb d_Nt_lowestFirst_32 rfl hl (by decide) rfl (fun ls hl => ?_)
        exact w_Nt_lowestFirst_33 C0 hret   (f_Nt_lowestFirst_4  n) ih x1 q_2.1 x3 q_4.2 H locs ls hP hD hS (lv_sub hl [2, 3, 0, 4] rfl) hf
def f_Nt_lowestFirst_0   (x1 : Int32) (S : St) : Option (Int32 × St) :=
  f_Nt_lowestFirst_4   FU x1 x1 1 S
set_option maxHeartbeats 4000000 in
set_option maxRecDepth 100000 in
theorem w_Nt_lowestFirst_0 (C0 : CX p s m args c b_Nt_lowestFirst 5 R_Nt w_Nt_lowestFirst D clC cA cP A) {res : (Int32 × St)} (hret : RTi p l e rm_Nt_lowestFirst s m args below meth c Q D clC A b_Nt_lowestFirst 0 0 (fun r w => r = res.1 ∧ w = cw cA cP ob ad res.2))    : ∀ (x1 : Int32) (S : St) (H : Heap) (locs : List Loc) (ls : Array Slot), va_P D clC (cw cA cP ob ad S) H → va_D A (cw cA cP ob ad S) → va_S A s.heap H locs → lv_has ls 5 [(0, .ref (ob 3)), (1, .int x1)] → f_Nt_lowestFirst_0   x1 S = some res → W p l e rm_Nt_lowestFirst s m args below meth c H locs 0 0 Q (F0 m 0 ls []) := by
  obtain ⟨hx, hb, hml, hown, hts, hK, hA, hN, hZ⟩ := id C0
  intro x1 S H locs ls hP hD hS hl hf
  rw [f_Nt_lowestFirst_0] at hf
  refine lv_iload_n hx hb d_Nt_lowestFirst_0 rfl (lv_at hl 1 rfl) ?_
  refine lv_istore_n (lv' := [(2, .int x1), (0, .ref (ob 3)), (1, .int x1)]) hx hb d_Nt_lowestFirst_1 rfl hl (by decide) rfl (fun ls hl => ?_)
  refine lv_iconst (v := 1) hx hb d_Nt_lowestFirst_2 (by decide) ?_
  refine lv_istore_n (lv' := [(3, .int 1), (2, .int x1), (0, .ref (ob 3)), (1, .int x1)]) hx hb d_Nt_lowestFirst_3 rfl hl (by decide) rfl (fun ls hl => ?_)
  exact w_Nt_lowestFirst_4 C0 hret    FU x1 x1 1 S H locs ls hP hD hS (lv_sub hl [2, 3, 1, 0] rfl) hf
def f_Nt_lowestFirst (x1 : Int32) (S : St) : Option (Int32 × St) := f_Nt_lowestFirst_0  x1 S
theorem c_Nt_lowestFirst (l : Launch) (D : va_G) (cA cP : ClassId) (ob : Nat → Nat) (ad : Nat → Nat → Nat) (x1 : Int32)  (S : St) {res : (Int32 × St)} (hf : f_Nt_lowestFirst x1 S = some res) : CTi l y_Nt_lowestFirst w_Nt_lowestFirst rm_Nt_lowestFirst 0 0 D clC (TY cA cP) [.ref (ob 3), .int x1] (cw cA cP ob ad S) (fun r w => r = res.1 ∧ w = cw cA cP ob ad res.2) :=
  mk_i (cc := b_Nt_lowestFirst) (maxL := 5) (own := R_Nt) (by decide) rfl rfl (Nat.le_of_ble_eq_true rfl) (fun p e s m below meth c A Q C0 hret ls hl hP hD hS => w_Nt_lowestFirst_0 C0 hret   x1 S _ _ ls hP hD hS (lv_sub hl [0, 1] rfl) hf)
def f_Rl_gather_45  (k4 : Int32 → Int32 → St → Option (Int32 × St)) (x1 : Int32) (x2 : Int32) (S : St) : Option (Int32 × St) :=
  bn (x2 + 3) (fun x2_1 => k4 x1 x2_1 S)
set_option maxHeartbeats 4000000 in
set_option maxRecDepth 100000 in
theorem w_Rl_gather_45 (C0 : CX p s m args c b_Rl_gather 3 R_Rl w_Rl_gather D clC cA cP A) {res : (Int32 × St)} (hret : RTi p l e rm_Rl_gather s m args below meth c Q D clC A b_Rl_gather 0 0 (fun r w => r = res.1 ∧ w = cw cA cP ob ad res.2))   (k4 : Int32 → Int32 → St → Option (Int32 × St)) (hk4 : ∀ (x1 : Int32) (x2 : Int32) (S : St) (H : Heap) (locs : List Loc) (ls : Array Slot), va_P D clC (cw cA cP ob ad S) H → va_D A (cw cA cP ob ad S) → va_S A s.heap H locs → lv_has ls 3 [(0, .ref (ob 4)), (1, .int x1), (2, .int x2)] → k4 x1 x2 S = some res → W p l e rm_Rl_gather s m args below meth c H locs 0 0 Q (F0 m 4 ls [])) : ∀ (x1 : Int32) (x2 : Int32) (S : St) (H : Heap) (locs : List Loc) (ls : Array Slot), va_P D clC (cw cA cP ob ad S) H → va_D A (cw cA cP ob ad S) → va_S A s.heap H locs → lv_has ls 3 [(0, .ref (ob 4)), (1, .int x1), (2, .int x2)] → f_Rl_gather_45  k4 x1 x2 S = some res → W p l e rm_Rl_gather s m args below meth c H locs 0 0 Q (F0 m 45 ls []) := by
  obtain ⟨hx, hb, hml, hown, hts, hK, hA, hN, hZ⟩ := id C0
  intro x1 x2 S H locs ls hP hD hS hl hf
  rw [f_Rl_gather_45] at hf
  obtain ⟨x2_1, ex2_1, hf⟩ := bn_some hf
  refine lv_iinc (v := x2_1) (lv' := [(2, .int x2_1), (0, .ref (ob 4)), (1, .int x1)]) hx hb d_Rl_gather_45 hl (k := 2) rfl (by rw [ex2_1]; rfl) (by decide) rfl (fun ls hl => ?_)
  refine lv_goto (tgt := 4) hx hb d_Rl_gather_48 (by decide) ?_
  exact hk4 x1 x2_1 S H locs ls hP hD hS (lv_sub hl [1, 2, 0] rfl) hf
def f_Rl_gather_4   : Nat → Int32 → Int32 → St → Option (Int32 × St)
  | 0 => fun _ _ _ => none
  | n + 1 => fun x1 x2 S => bd (f_Nt_edgeCount  S) (fun q_1 => (if q_1.1 ≤ x2 then
      some (x1, q_1.2)
      else
      bd (f_Nt_isOuter x2 q_1.2) (fun q_3 => (if q_3.1 = 0 then
        bd (f_Nt_lowestFirst x2 q_3.2) (fun q_5 => bd (f_Rw_put 14 x1 q_5.1 q_5.2) (fun q_6 => bn (x1 + 1) (fun x1_7 => f_Rl_gather_45  (f_Rl_gather_4  n) x1_7 x2 q_6)))
        else
        f_Rl_gather_45  (f_Rl_gather_4  n) x1 x2 q_3.2))))
set_option maxHeartbeats 4000000 in
set_option maxRecDepth 100000 in
theorem w_Rl_gather_4 (C0 : CX p s m args c b_Rl_gather 3 R_Rl w_Rl_gather D clC cA cP A) {res : (Int32 × St)} (hret : RTi p l e rm_Rl_gather s m args below meth c Q D clC A b_Rl_gather 0 0 (fun r w => r = res.1 ∧ w = cw cA cP ob ad res.2))    : ∀ (n : Nat) (x1 : Int32) (x2 : Int32) (S : St) (H : Heap) (locs : List Loc) (ls : Array Slot), va_P D clC (cw cA cP ob ad S) H → va_D A (cw cA cP ob ad S) → va_S A s.heap H locs → lv_has ls 3 [(0, .ref (ob 4)), (1, .int x1), (2, .int x2)] → f_Rl_gather_4   n x1 x2 S = some res → W p l e rm_Rl_gather s m args below meth c H locs 0 0 Q (F0 m 4 ls []) := by
  obtain ⟨hx, hb, hml, hown, hts, hK, hA, hN, hZ⟩ := id C0
  intro n
  induction n with
  | zero =>
    intro x1 x2 S H locs ls hP hD hS hl hf
    cases hf
  | succ n ih =>
    intro x1 x2 S H locs ls hP hD hS hl hf
    rw [f_Rl_gather_4] at hf
    try dsimp only at hf
    refine lv_iload_n hx hb d_Rl_gather_4 rfl (lv_at hl 2 rfl) ?_
    refine lv_aload_n hx hb d_Rl_gather_5 rfl (lv_at hl 0 rfl) ?_
    refine va_get (D := D) (ci := 4) (v := .ref (ob 3)) (C := R_Rl) (T := F_Rl) (N := 6) hx hb hts (fun w h => List.mem_cons_of_mem _ (in_Rl w h)) hown hK hP 4 rfl rfl 1 (by decide) (hts _ (List.mem_cons_of_mem _ wd_207)) (fun _ h9 => h9) rfl d_Rl_gather_6 ?_
    obtain ⟨q_1, hq_1, hf⟩ := bd_some hf
    refine kc_i (va_runV (As := []) (rest := [.int x2]) ⟨hx, hb, hml, hown, hts⟩ (c_Nt_edgeCount l D cA cP ob ad   S hq_1 H.size) ⟨callB_of 0 hts (gd_Nt_edgeCount) rfl rfl rfl (hts _ (List.mem_cons_of_mem _ wd_69)) (hts _ (List.mem_cons_of_mem _ wd_694)) dd_Nt_edgeCount ⟨Nat.le_of_ble_eq_true rfl, Nat.le_of_ble_eq_true rfl⟩, (hts _ (List.mem_cons_of_mem _ wd_695)), (hts _ (List.mem_cons_of_mem _ wd_696))⟩ (kpV hK hP hD hN hZ hS 3 3 rfl rfl) rfl rfl hl.1 rfl (lv_room (Nat.le_of_ble_eq_true rfl)) d_Rl_gather_9 ⟨Nat.le_of_ble_eq_true rfl, Nat.le_of_ble_eq_true rfl⟩) hP hD hS hA (fun r w H locs hw hP hD hS => ?_)
    obtain ⟨rfl, rfl⟩ := hw
    refine lv_icmp_ge (tgt := 51) hx hb d_Rl_gather_12 (by decide) (fun c_2 => ?_) (fun c_2 => ?_)
    · rw [if_pos c_2] at hf
      refine lv_iload_n hx hb d_Rl_gather_51 rfl (lv_at hl 1 rfl) ?_
      cases hf
      exact hret _ _ _ _ _ _ ⟨rfl, rfl⟩ hP hD hS d_Rl_gather_52
    · rw [if_neg c_2] at hf
      refine lv_aload_n hx hb d_Rl_gather_15 rfl (lv_at hl 0 rfl) ?_
      refine va_get (D := D) (ci := 4) (v := .ref (ob 3)) (C := R_Rl) (T := F_Rl) (N := 6) hx hb hts (fun w h => List.mem_cons_of_mem _ (in_Rl w h)) hown hK hP 4 rfl rfl 1 (by decide) (hts _ (List.mem_cons_of_mem _ wd_207)) (fun _ h9 => h9) rfl d_Rl_gather_16 ?_
      refine lv_iload_n hx hb d_Rl_gather_19 rfl (lv_at hl 2 rfl) ?_
      obtain ⟨q_3, hq_3, hf⟩ := bd_some hf
      refine kc_i (va_runV (As := [.int x2]) (rest := []) ⟨hx, hb, hml, hown, hts⟩ (c_Nt_isOuter l D cA cP ob ad x2  q_1.2 hq_3 H.size) ⟨callB_of 1 hts (gd_Nt_isOuter) rfl rfl rfl (hts _ (List.mem_cons_of_mem _ wd_69)) (hts _ (List.mem_cons_of_mem _ wd_698)) dd_Nt_isOuter ⟨Nat.le_of_ble_eq_true rfl, Nat.le_of_ble_eq_true rfl⟩, (hts _ (List.mem_cons_of_mem _ wd_598)), (hts _ (List.mem_cons_of_mem _ wd_599))⟩ (kpV hK hP hD hN hZ hS 3 3 rfl rfl) rfl rfl hl.1 rfl (lv_room (Nat.le_of_ble_eq_true rfl)) d_Rl_gather_20 ⟨Nat.le_of_ble_eq_true rfl, Nat.le_of_ble_eq_true rfl⟩) hP hD hS hA (fun r w H locs hw hP hD hS => ?_)
      obtain ⟨rfl, rfl⟩ := hw
      refine lv_if_ne (tgt := 45) hx hb d_Rl_gather_23 (by decide) (fun c_4 => ?_) (fun c_4 => ?_)
      · rw [if_neg c_4] at hf
        exact w_Rl_gather_45 C0 hret   (f_Rl_gather_4  n) ih x1 x2 q_3.2 H locs ls hP hD hS (lv_sub hl [0, 1, 2] rfl) hf
      · rw [if_pos c_4] at hf
        refine lv_aload_n hx hb d_Rl_gather_26 rfl (lv_at hl 0 rfl) ?_
        refine va_get (D := D) (ci := 4) (v := .ref (ob 14)) (C := R_Rl) (T := F_Rl) (N := 6) hx hb hts (fun w h => List.mem_cons_of_mem _ (in_Rl w h)) hown hK hP 4 rfl rfl 2 (by decide) (hts _ (List.mem_cons_of_mem _ wd_208)) (fun _ h9 => h9) rfl d_Rl_gather_27 ?_
        refine lv_iload_n hx hb d_Rl_gather_30 rfl (lv_at hl 1 rfl) ?_
        refine lv_aload_n hx hb d_Rl_gather_31 rfl (lv_at hl 0 rfl) ?_
        refine va_get (D := D) (ci := 4) (v := .ref (ob 3)) (C := R_Rl) (T := F_Rl) (N := 6) hx hb hts (fun w h => List.mem_cons_of_mem _ (in_Rl w h)) hown hK hP 4 rfl rfl 1 (by decide) (hts _ (List.mem_cons_of_mem _ wd_207)) (fun _ h9 => h9) rfl d_Rl_gather_32 ?_
        refine lv_iload_n hx hb d_Rl_gather_35 rfl (lv_at hl 2 rfl) ?_
        obtain ⟨q_5, hq_5, hf⟩ := bd_some hf
        refine kc_i (va_runV (As := [.int x2]) (rest := [.int x1, .ref (ob 14)]) ⟨hx, hb, hml, hown, hts⟩ (c_Nt_lowestFirst l D cA cP ob ad x2  q_3.2 hq_5 H.size) ⟨callB_of 1 hts (gd_Nt_lowestFirst) rfl rfl rfl (hts _ (List.mem_cons_of_mem _ wd_69)) (hts _ (List.mem_cons_of_mem _ wd_699)) dd_Nt_lowestFirst ⟨Nat.le_of_ble_eq_true rfl, Nat.le_of_ble_eq_true rfl⟩, (hts _ (List.mem_cons_of_mem _ wd_700)), (hts _ (List.mem_cons_of_mem _ wd_701))⟩ (kpV hK hP hD hN hZ hS 3 3 rfl rfl) rfl rfl hl.1 rfl (lv_room (Nat.le_of_ble_eq_true rfl)) d_Rl_gather_36 ⟨Nat.le_of_ble_eq_true rfl, Nat.le_of_ble_eq_true rfl⟩) hP hD hS hA (fun r w H locs hw hP hD hS => ?_)
        obtain ⟨rfl, rfl⟩ := hw
        obtain ⟨q_6, hq_6, hf⟩ := bd_some hf
        refine kc_v (va_runV (As := [.int x1, .int q_5.1]) (rest := []) ⟨hx, hb, hml, hown, hts⟩ (c_Rw_put l D cA cP ob ad 14 x1 q_5.1 (by decide) q_5.2 hq_6 H.size) ⟨callB_of 2 hts (gd_Rw_put) rfl rfl rfl (hts _ (List.mem_cons_of_mem _ wd_67)) (hts _ (List.mem_cons_of_mem _ wd_703)) dd_Rw_put ⟨Nat.le_of_ble_eq_true rfl, Nat.le_of_ble_eq_true rfl⟩, (hts _ (List.mem_cons_of_mem _ wd_361)), (hts _ (List.mem_cons_of_mem _ wd_362))⟩ (kpV hK hP hD hN hZ hS 6 14 rfl rfl) rfl rfl hl.1 rfl (lv_room (Nat.le_of_ble_eq_true rfl)) d_Rl_gather_39 ⟨Nat.le_of_ble_eq_true rfl, Nat.le_of_ble_eq_true rfl⟩) hP hD hS hA (fun w H locs hw hP hD hS => ?_)
        obtain rfl := hw
        obtain ⟨x1_7, ex1_7, hf⟩ := bn_some hf
        refine lv_iinc (v := x1_7) (lv' := [(1, .int x1_7), (0, .ref (ob 4)), (2, .int x2)]) hx hb d_Rl_gather_42 hl (k := 1) rfl (by rw [ex1_7]; rfl) (by decide) rfl (fun ls hl => ?_)
        exact w_Rl_gather_45 C0 hret   (f_Rl_gather_4  n) ih x1_7 x2 q_6 H locs ls hP hD hS (lv_sub hl [1, 0, 2] rfl) hf
def f_Rl_gather_0    (S : St) : Option (Int32 × St) :=
  f_Rl_gather_4   FU 0 0 S
set_option maxHeartbeats 4000000 in
set_option maxRecDepth 100000 in
theorem w_Rl_gather_0 (C0 : CX p s m args c b_Rl_gather 3 R_Rl w_Rl_gather D clC cA cP A) {res : (Int32 × St)} (hret : RTi p l e rm_Rl_gather s m args below meth c Q D clC A b_Rl_gather 0 0 (fun r w => r = res.1 ∧ w = cw cA cP ob ad res.2))    : ∀  (S : St) (H : Heap) (locs : List Loc) (ls : Array Slot), va_P D clC (cw cA cP ob ad S) H → va_D A (cw cA cP ob ad S) → va_S A s.heap H locs → lv_has ls 3 [(0, .ref (ob 4))] → f_Rl_gather_0    S = some res → W p l e rm_Rl_gather s m args below meth c H locs 0 0 Q (F0 m 0 ls []) := by
  obtain ⟨hx, hb, hml, hown, hts, hK, hA, hN, hZ⟩ := id C0
  intro  S H locs ls hP hD hS hl hf
  rw [f_Rl_gather_0] at hf
  refine lv_iconst (v := 0) hx hb d_Rl_gather_0 (by decide) ?_
  refine lv_istore_n (lv' := [(1, .int 0), (0, .ref (ob 4))]) hx hb d_Rl_gather_1 rfl hl (by decide) rfl (fun ls hl => ?_)
  refine lv_iconst (v := 0) hx hb d_Rl_gather_2 (by decide) ?_
  refine lv_istore_n (lv' := [(2, .int 0), (1, .int 0), (0, .ref (ob 4))]) hx hb d_Rl_gather_3 rfl hl (by decide) rfl (fun ls hl => ?_)
  exact w_Rl_gather_4 C0 hret    FU 0 0 S H locs ls hP hD hS (lv_sub hl [2, 1, 0] rfl) hf
def f_Rl_gather  (S : St) : Option (Int32 × St) := f_Rl_gather_0   S
theorem c_Rl_gather (l : Launch) (D : va_G) (cA cP : ClassId) (ob : Nat → Nat) (ad : Nat → Nat → Nat)   (S : St) {res : (Int32 × St)} (hf : f_Rl_gather  S = some res) : CTi l y_Rl_gather w_Rl_gather rm_Rl_gather 0 0 D clC (TY cA cP) [.ref (ob 4)] (cw cA cP ob ad S) (fun r w => r = res.1 ∧ w = cw cA cP ob ad res.2) :=
  mk_i (cc := b_Rl_gather) (maxL := 3) (own := R_Rl) (by decide) rfl rfl (Nat.le_of_ble_eq_true rfl) (fun p e s m below meth c A Q C0 hret ls hl hP hD hS => w_Rl_gather_0 C0 hret    S _ _ ls hP hD hS (lv_sub hl [0] rfl) hf)
end
