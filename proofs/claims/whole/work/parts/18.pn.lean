section
variable {p : Program} {l : Launch} {e : Env} {s : State} {m : MethodId} {args : Array Value} {below : List Frame} {meth : Method} {c : Code} {Q : State → Prop} {D : va_G} {cA cP : ClassId} {ob : Nat → Nat} {ad : Nat → Nat → Nat} {A : Nat → Prop}
def f_Pn_neighbourCount_51   (x1 : Int32) (t0 : Int32) (S : St) : Option (Int32 × St) :=
  bd (f_Pt_x x1 S) (fun q_1 => bd (f_Pt_y x1 q_1.2) (fun q_2 => bd (f_Pt_leastAbove q_1.1 q_2.1 q_2.2) (fun q_3 => (if q_3.1 = (-1) then
    some (t0, q_3.2)
    else
    some ((t0 + 1), q_3.2)))))
set_option maxHeartbeats 4000000 in
set_option maxRecDepth 100000 in
theorem w_Pn_neighbourCount_51 (C0 : CX p s m args c b_Pn_neighbourCount 3 R_Pn w_Pn_neighbourCount D clC cA cP A) {res : (Int32 × St)} (hret : RTi p l e rm_Pn_neighbourCount s m args below meth c Q D clC A b_Pn_neighbourCount 0 0 (fun r w => r = res.1 ∧ w = cw cA cP ob ad res.2))    : ∀ (x1 : Int32) (t0 : Int32) (S : St) (H : Heap) (locs : List Loc) (ls : Array Slot), va_P D clC (cw cA cP ob ad S) H → va_D A (cw cA cP ob ad S) → va_S A s.heap H locs → lv_has ls 3 [(0, .ref (ob 0)), (1, .int x1)] → f_Pn_neighbourCount_51   x1 t0 S = some res → W p l e rm_Pn_neighbourCount s m args below meth c H locs 0 0 Q (F0 m 51 ls [.int t0]) := by
  obtain ⟨hx, hb, hml, hown, hts, hK, hA, hN, hZ⟩ := id C0
  intro x1 t0 S H locs ls hP hD hS hl hf
  rw [f_Pn_neighbourCount_51] at hf
  refine lv_istore_n (lv' := [(2, .int t0), (0, .ref (ob 0)), (1, .int x1)]) hx hb d_Pn_neighbourCount_51 rfl hl (by decide) rfl (fun ls hl => ?_)
  refine lv_aload_n hx hb d_Pn_neighbourCount_52 rfl (lv_at hl 1 rfl) ?_
  refine va_get (D := D) (ci := 0) (v := .ref (ob 1)) (C := R_Pn) (T := F_Pn) (N := 8) hx hb hts (fun w h => List.mem_cons_of_mem _ (in_Pn w h)) hown hK hP 0 rfl rfl 0 (by decide) (hts _ (List.mem_cons_of_mem _ wd_249)) (fun _ h9 => h9) rfl d_Pn_neighbourCount_53 ?_
  refine lv_aload_n hx hb d_Pn_neighbourCount_56 rfl (lv_at hl 1 rfl) ?_
  refine va_get (D := D) (ci := 0) (v := .ref (ob 1)) (C := R_Pn) (T := F_Pn) (N := 8) hx hb hts (fun w h => List.mem_cons_of_mem _ (in_Pn w h)) hown hK hP 0 rfl rfl 0 (by decide) (hts _ (List.mem_cons_of_mem _ wd_249)) (fun _ h9 => h9) rfl d_Pn_neighbourCount_57 ?_
  refine lv_iload_n hx hb d_Pn_neighbourCount_60 rfl (lv_at hl 2 rfl) ?_
  obtain ⟨q_1, hq_1, hf⟩ := bd_some hf
  refine kc_i (va_runV (As := [.int x1]) (rest := [.ref (ob 1)]) ⟨hx, hb, hml, hown, hts⟩ (c_Pt_x l D cA cP ob ad x1  S hq_1 H.size) ⟨callB_of 1 hts (gd_Pt_x) rfl rfl rfl (hts _ (List.mem_cons_of_mem _ wd_65)) (hts _ (List.mem_cons_of_mem _ wd_565)) dd_Pt_x ⟨Nat.le_of_ble_eq_true rfl, Nat.le_of_ble_eq_true rfl⟩, (hts _ (List.mem_cons_of_mem _ wd_401)), (hts _ (List.mem_cons_of_mem _ wd_402))⟩ (kpV hK hP hD hN hZ hS 1 1 rfl rfl) rfl rfl hl.1 rfl (lv_room (Nat.le_of_ble_eq_true rfl)) d_Pn_neighbourCount_61 ⟨Nat.le_of_ble_eq_true rfl, Nat.le_of_ble_eq_true rfl⟩) hP hD hS hA (fun r w H locs hw hP hD hS => ?_)
  obtain ⟨rfl, rfl⟩ := hw
  refine lv_aload_n hx hb d_Pn_neighbourCount_64 rfl (lv_at hl 1 rfl) ?_
  refine va_get (D := D) (ci := 0) (v := .ref (ob 1)) (C := R_Pn) (T := F_Pn) (N := 8) hx hb hts (fun w h => List.mem_cons_of_mem _ (in_Pn w h)) hown hK hP 0 rfl rfl 0 (by decide) (hts _ (List.mem_cons_of_mem _ wd_249)) (fun _ h9 => h9) rfl d_Pn_neighbourCount_65 ?_
  refine lv_iload_n hx hb d_Pn_neighbourCount_68 rfl (lv_at hl 2 rfl) ?_
  obtain ⟨q_2, hq_2, hf⟩ := bd_some hf
  refine kc_i (va_runV (As := [.int x1]) (rest := [.int q_1.1, .ref (ob 1)]) ⟨hx, hb, hml, hown, hts⟩ (c_Pt_y l D cA cP ob ad x1  q_1.2 hq_2 H.size) ⟨callB_of 1 hts (gd_Pt_y) rfl rfl rfl (hts _ (List.mem_cons_of_mem _ wd_65)) (hts _ (List.mem_cons_of_mem _ wd_566)) dd_Pt_y ⟨Nat.le_of_ble_eq_true rfl, Nat.le_of_ble_eq_true rfl⟩, (hts _ (List.mem_cons_of_mem _ wd_405)), (hts _ (List.mem_cons_of_mem _ wd_406))⟩ (kpV hK hP hD hN hZ hS 1 1 rfl rfl) rfl rfl hl.1 rfl (lv_room (Nat.le_of_ble_eq_true rfl)) d_Pn_neighbourCount_69 ⟨Nat.le_of_ble_eq_true rfl, Nat.le_of_ble_eq_true rfl⟩) hP hD hS hA (fun r w H locs hw hP hD hS => ?_)
  obtain ⟨rfl, rfl⟩ := hw
  obtain ⟨q_3, hq_3, hf⟩ := bd_some hf
  refine kc_i (va_runV (As := [.int q_1.1, .int q_2.1]) (rest := []) ⟨hx, hb, hml, hown, hts⟩ (c_Pt_leastAbove l D cA cP ob ad q_1.1 q_2.1  q_2.2 hq_3 H.size) ⟨callB_of 2 hts (gd_Pt_leastAbove) rfl rfl rfl (hts _ (List.mem_cons_of_mem _ wd_65)) (hts _ (List.mem_cons_of_mem _ wd_734)) dd_Pt_leastAbove ⟨Nat.le_of_ble_eq_true rfl, Nat.le_of_ble_eq_true rfl⟩, (hts _ (List.mem_cons_of_mem _ wd_332)), (hts _ (List.mem_cons_of_mem _ wd_333))⟩ (kpV hK hP hD hN hZ hS 1 1 rfl rfl) rfl rfl hl.1 rfl (lv_room (Nat.le_of_ble_eq_true rfl)) d_Pn_neighbourCount_72 ⟨Nat.le_of_ble_eq_true rfl, Nat.le_of_ble_eq_true rfl⟩) hP hD hS hA (fun r w H locs hw hP hD hS => ?_)
  obtain ⟨rfl, rfl⟩ := hw
  refine lv_iconst (v := (-1)) hx hb d_Pn_neighbourCount_75 (by decide) ?_
  refine lv_icmp_ne (tgt := 83) hx hb d_Pn_neighbourCount_76 (by decide) (fun c_4 => ?_) (fun c_4 => ?_)
  · rw [if_neg c_4] at hf
    refine lv_iload_n hx hb d_Pn_neighbourCount_83 rfl (lv_at hl 0 rfl) ?_
    refine lv_iconst (v := 1) hx hb d_Pn_neighbourCount_84 (by decide) ?_
    refine lv_iadd hx hb d_Pn_neighbourCount_85 ?_
    cases hf
    exact hret _ _ _ _ _ _ ⟨rfl, rfl⟩ hP hD hS d_Pn_neighbourCount_86
  · rw [if_pos c_4] at hf
    refine lv_iload_n hx hb d_Pn_neighbourCount_79 rfl (lv_at hl 0 rfl) ?_
    refine lv_goto (tgt := 86) hx hb d_Pn_neighbourCount_80 (by decide) ?_
    cases hf
    exact hret _ _ _ _ _ _ ⟨rfl, rfl⟩ hP hD hS d_Pn_neighbourCount_86
def f_Pn_neighbourCount_0   (x1 : Int32) (S : St) : Option (Int32 × St) :=
  bd (f_Nt_isEmpty  S) (fun q_1 => (if q_1.1 = 0 then
    bd (f_Nt_degree x1 q_1.2) (fun q_7 => some (q_7.1, q_7.2))
    else
    bd (f_Pt_x x1 q_1.2) (fun q_3 => bd (f_Pt_y x1 q_3.2) (fun q_4 => bd (f_Pt_greatestBelow q_3.1 q_4.1 q_4.2) (fun q_5 => (if q_5.1 = (-1) then
      f_Pn_neighbourCount_51   x1 0 q_5.2
      else
      f_Pn_neighbourCount_51   x1 1 q_5.2))))))
set_option maxHeartbeats 4000000 in
set_option maxRecDepth 100000 in
theorem w_Pn_neighbourCount_0 (C0 : CX p s m args c b_Pn_neighbourCount 3 R_Pn w_Pn_neighbourCount D clC cA cP A) {res : (Int32 × St)} (hret : RTi p l e rm_Pn_neighbourCount s m args below meth c Q D clC A b_Pn_neighbourCount 0 0 (fun r w => r = res.1 ∧ w = cw cA cP ob ad res.2))    : ∀ (x1 : Int32) (S : St) (H : Heap) (locs : List Loc) (ls : Array Slot), va_P D clC (cw cA cP ob ad S) H → va_D A (cw cA cP ob ad S) → va_S A s.heap H locs → lv_has ls 3 [(0, .ref (ob 0)), (1, .int x1)] → f_Pn_neighbourCount_0   x1 S = some res → W p l e rm_Pn_neighbourCount s m args below meth c H locs 0 0 Q (F0 m 0 ls []) := by
  obtain ⟨hx, hb, hml, hown, hts, hK, hA, hN, hZ⟩ := id C0
  intro x1 S H locs ls hP hD hS hl hf
  rw [f_Pn_neighbourCount_0] at hf
  refine lv_aload_n hx hb d_Pn_neighbourCount_0 rfl (lv_at hl 0 rfl) ?_
  refine va_get (D := D) (ci := 0) (v := .ref (ob 3)) (C := R_Pn) (T := F_Pn) (N := 8) hx hb hts (fun w h => List.mem_cons_of_mem _ (in_Pn w h)) hown hK hP 0 rfl rfl 1 (by decide) (hts _ (List.mem_cons_of_mem _ wd_250)) (fun _ h9 => h9) rfl d_Pn_neighbourCount_1 ?_
  obtain ⟨q_1, hq_1, hf⟩ := bd_some hf
  refine kc_i (va_runV (As := []) (rest := []) ⟨hx, hb, hml, hown, hts⟩ (c_Nt_isEmpty l D cA cP ob ad   S hq_1 H.size) ⟨callB_of 0 hts (gd_Nt_isEmpty) rfl rfl rfl (hts _ (List.mem_cons_of_mem _ wd_69)) (hts _ (List.mem_cons_of_mem _ wd_568)) dd_Nt_isEmpty ⟨Nat.le_of_ble_eq_true rfl, Nat.le_of_ble_eq_true rfl⟩, (hts _ (List.mem_cons_of_mem _ wd_323)), (hts _ (List.mem_cons_of_mem _ wd_324))⟩ (kpV hK hP hD hN hZ hS 3 3 rfl rfl) rfl rfl hl.1 rfl (lv_room (Nat.le_of_ble_eq_true rfl)) d_Pn_neighbourCount_4 ⟨Nat.le_of_ble_eq_true rfl, Nat.le_of_ble_eq_true rfl⟩) hP hD hS hA (fun r w H locs hw hP hD hS => ?_)
  obtain ⟨rfl, rfl⟩ := hw
  refine lv_if_ne (tgt := 19) hx hb d_Pn_neighbourCount_7 (by decide) (fun c_2 => ?_) (fun c_2 => ?_)
  · rw [if_neg c_2] at hf
    refine lv_aload_n hx hb d_Pn_neighbourCount_19 rfl (lv_at hl 0 rfl) ?_
    refine va_get (D := D) (ci := 0) (v := .ref (ob 1)) (C := R_Pn) (T := F_Pn) (N := 8) hx hb hts (fun w h => List.mem_cons_of_mem _ (in_Pn w h)) hown hK hP 0 rfl rfl 0 (by decide) (hts _ (List.mem_cons_of_mem _ wd_249)) (fun _ h9 => h9) rfl d_Pn_neighbourCount_20 ?_
    refine lv_aload_n hx hb d_Pn_neighbourCount_23 rfl (lv_at hl 0 rfl) ?_
    refine va_get (D := D) (ci := 0) (v := .ref (ob 1)) (C := R_Pn) (T := F_Pn) (N := 8) hx hb hts (fun w h => List.mem_cons_of_mem _ (in_Pn w h)) hown hK hP 0 rfl rfl 0 (by decide) (hts _ (List.mem_cons_of_mem _ wd_249)) (fun _ h9 => h9) rfl d_Pn_neighbourCount_24 ?_
    refine lv_iload_n hx hb d_Pn_neighbourCount_27 rfl (lv_at hl 1 rfl) ?_
    obtain ⟨q_3, hq_3, hf⟩ := bd_some hf
    refine kc_i (va_runV (As := [.int x1]) (rest := [.ref (ob 1)]) ⟨hx, hb, hml, hown, hts⟩ (c_Pt_x l D cA cP ob ad x1  q_1.2 hq_3 H.size) ⟨callB_of 1 hts (gd_Pt_x) rfl rfl rfl (hts _ (List.mem_cons_of_mem _ wd_65)) (hts _ (List.mem_cons_of_mem _ wd_565)) dd_Pt_x ⟨Nat.le_of_ble_eq_true rfl, Nat.le_of_ble_eq_true rfl⟩, (hts _ (List.mem_cons_of_mem _ wd_401)), (hts _ (List.mem_cons_of_mem _ wd_402))⟩ (kpV hK hP hD hN hZ hS 1 1 rfl rfl) rfl rfl hl.1 rfl (lv_room (Nat.le_of_ble_eq_true rfl)) d_Pn_neighbourCount_28 ⟨Nat.le_of_ble_eq_true rfl, Nat.le_of_ble_eq_true rfl⟩) hP hD hS hA (fun r w H locs hw hP hD hS => ?_)
    obtain ⟨rfl, rfl⟩ := hw
    refine lv_aload_n hx hb d_Pn_neighbourCount_31 rfl (lv_at hl 0 rfl) ?_
    refine va_get (D := D) (ci := 0) (v := .ref (ob 1)) (C := R_Pn) (T := F_Pn) (N := 8) hx hb hts (fun w h => List.mem_cons_of_mem _ (in_Pn w h)) hown hK hP 0 rfl rfl 0 (by decide) (hts _ (List.mem_cons_of_mem _ wd_249)) (fun _ h9 => h9) rfl d_Pn_neighbourCount_32 ?_
    refine lv_iload_n hx hb d_Pn_neighbourCount_35 rfl (lv_at hl 1 rfl) ?_
    obtain ⟨q_4, hq_4, hf⟩ := bd_some hf
    refine kc_i (va_runV (As := [.int x1]) (rest := [.int q_3.1, .ref (ob 1)]) ⟨hx, hb, hml, hown, hts⟩ (c_Pt_y l D cA cP ob ad x1  q_3.2 hq_4 H.size) ⟨callB_of 1 hts (gd_Pt_y) rfl rfl rfl (hts _ (List.mem_cons_of_mem _ wd_65)) (hts _ (List.mem_cons_of_mem _ wd_566)) dd_Pt_y ⟨Nat.le_of_ble_eq_true rfl, Nat.le_of_ble_eq_true rfl⟩, (hts _ (List.mem_cons_of_mem _ wd_405)), (hts _ (List.mem_cons_of_mem _ wd_406))⟩ (kpV hK hP hD hN hZ hS 1 1 rfl rfl) rfl rfl hl.1 rfl (lv_room (Nat.le_of_ble_eq_true rfl)) d_Pn_neighbourCount_36 ⟨Nat.le_of_ble_eq_true rfl, Nat.le_of_ble_eq_true rfl⟩) hP hD hS hA (fun r w H locs hw hP hD hS => ?_)
    obtain ⟨rfl, rfl⟩ := hw
    obtain ⟨q_5, hq_5, hf⟩ := bd_some hf
    refine kc_i (va_runV (As := [.int q_3.1, .int q_4.1]) (rest := []) ⟨hx, hb, hml, hown, hts⟩ (c_Pt_greatestBelow l D cA cP ob ad q_3.1 q_4.1  q_4.2 hq_5 H.size) ⟨callB_of 2 hts (gd_Pt_greatestBelow) rfl rfl rfl (hts _ (List.mem_cons_of_mem _ wd_65)) (hts _ (List.mem_cons_of_mem _ wd_733)) dd_Pt_greatestBelow ⟨Nat.le_of_ble_eq_true rfl, Nat.le_of_ble_eq_true rfl⟩, (hts _ (List.mem_cons_of_mem _ wd_349)), (hts _ (List.mem_cons_of_mem _ wd_350))⟩ (kpV hK hP hD hN hZ hS 1 1 rfl rfl) rfl rfl hl.1 rfl (lv_room (Nat.le_of_ble_eq_true rfl)) d_Pn_neighbourCount_39 ⟨Nat.le_of_ble_eq_true rfl, Nat.le_of_ble_eq_true rfl⟩) hP hD hS hA (fun r w H locs hw hP hD hS => ?_)
    obtain ⟨rfl, rfl⟩ := hw
    refine lv_iconst (v := (-1)) hx hb d_Pn_neighbourCount_42 (by decide) ?_
    refine lv_icmp_ne (tgt := 50) hx hb d_Pn_neighbourCount_43 (by decide) (fun c_6 => ?_) (fun c_6 => ?_)
    · rw [if_neg c_6] at hf
      refine lv_iconst (v := 1) hx hb d_Pn_neighbourCount_50 (by decide) ?_
      exact w_Pn_neighbourCount_51 C0 hret    x1 1 q_5.2 H locs ls hP hD hS (lv_sub hl [0, 1] rfl) hf
    · rw [if_pos c_6] at hf
      refine lv_iconst (v := 0) hx hb d_Pn_neighbourCount_46 (by decide) ?_
      refine lv_goto (tgt := 51) hx hb d_Pn_neighbourCount_47 (by decide) ?_
      exact w_Pn_neighbourCount_51 C0 hret    x1 0 q_5.2 H locs ls hP hD hS (lv_sub hl [0, 1] rfl) hf
  · rw [if_pos c_2] at hf
    refine lv_aload_n hx hb d_Pn_neighbourCount_10 rfl (lv_at hl 0 rfl) ?_
    refine va_get (D := D) (ci := 0) (v := .ref (ob 3)) (C := R_Pn) (T := F_Pn) (N := 8) hx hb hts (fun w h => List.mem_cons_of_mem _ (in_Pn w h)) hown hK hP 0 rfl rfl 1 (by decide) (hts _ (List.mem_cons_of_mem _ wd_250)) (fun _ h9 => h9) rfl d_Pn_neighbourCount_11 ?_
    refine lv_iload_n hx hb d_Pn_neighbourCount_14 rfl (lv_at hl 1 rfl) ?_
    obtain ⟨q_7, hq_7, hf⟩ := bd_some hf
    refine kc_i (va_runV (As := [.int x1]) (rest := []) ⟨hx, hb, hml, hown, hts⟩ (c_Nt_degree l D cA cP ob ad x1  q_1.2 hq_7 H.size) ⟨callB_of 1 hts (gd_Nt_degree) rfl rfl rfl (hts _ (List.mem_cons_of_mem _ wd_69)) (hts _ (List.mem_cons_of_mem _ wd_729)) dd_Nt_degree ⟨Nat.le_of_ble_eq_true rfl, Nat.le_of_ble_eq_true rfl⟩, (hts _ (List.mem_cons_of_mem _ wd_730)), (hts _ (List.mem_cons_of_mem _ wd_731))⟩ (kpV hK hP hD hN hZ hS 3 3 rfl rfl) rfl rfl hl.1 rfl (lv_room (Nat.le_of_ble_eq_true rfl)) d_Pn_neighbourCount_15 ⟨Nat.le_of_ble_eq_true rfl, Nat.le_of_ble_eq_true rfl⟩) hP hD hS hA (fun r w H locs hw hP hD hS => ?_)
    obtain ⟨rfl, rfl⟩ := hw
    cases hf
    exact hret _ _ _ _ _ _ ⟨rfl, rfl⟩ hP hD hS d_Pn_neighbourCount_18
def f_Pn_neighbourCount (x1 : Int32) (S : St) : Option (Int32 × St) := f_Pn_neighbourCount_0  x1 S
theorem c_Pn_neighbourCount (l : Launch) (D : va_G) (cA cP : ClassId) (ob : Nat → Nat) (ad : Nat → Nat → Nat) (x1 : Int32)  (S : St) {res : (Int32 × St)} (hf : f_Pn_neighbourCount x1 S = some res) : CTi l y_Pn_neighbourCount w_Pn_neighbourCount rm_Pn_neighbourCount 0 0 D clC (TY cA cP) [.ref (ob 0), .int x1] (cw cA cP ob ad S) (fun r w => r = res.1 ∧ w = cw cA cP ob ad res.2) :=
  mk_i (cc := b_Pn_neighbourCount) (maxL := 3) (own := R_Pn) (by decide) rfl rfl (Nat.le_of_ble_eq_true rfl) (fun p e s m below meth c A Q C0 hret ls hl hP hD hS => w_Pn_neighbourCount_0 C0 hret   x1 S _ _ ls hP hD hS (lv_sub hl [0, 1] rfl) hf)
def f_Pn_neighbours_0   (x1 : Int32) (S : St) : Option (Int32 × St) :=
  bd (f_Pn_checkNumber x1 S) (fun q_1 => bd (f_Pn_neighbourCount x1 q_1) (fun q_2 => some (q_2.1, q_2.2)))
set_option maxHeartbeats 4000000 in
set_option maxRecDepth 100000 in
theorem w_Pn_neighbours_0 (C0 : CX p s m args c b_Pn_neighbours 2 R_Pn w_Pn_neighbours D clC cA cP A) {res : (Int32 × St)} (hret : RTi p l e rm_Pn_neighbours s m args below meth c Q D clC A b_Pn_neighbours 0 0 (fun r w => r = res.1 ∧ w = cw cA cP ob ad res.2))    : ∀ (x1 : Int32) (S : St) (H : Heap) (locs : List Loc) (ls : Array Slot), va_P D clC (cw cA cP ob ad S) H → va_D A (cw cA cP ob ad S) → va_S A s.heap H locs → lv_has ls 2 [(0, .ref (ob 0)), (1, .int x1)] → f_Pn_neighbours_0   x1 S = some res → W p l e rm_Pn_neighbours s m args below meth c H locs 0 0 Q (F0 m 0 ls []) := by
  obtain ⟨hx, hb, hml, hown, hts, hK, hA, hN, hZ⟩ := id C0
  intro x1 S H locs ls hP hD hS hl hf
  rw [f_Pn_neighbours_0] at hf
  refine lv_aload_n hx hb d_Pn_neighbours_0 rfl (lv_at hl 0 rfl) ?_
  refine lv_iload_n hx hb d_Pn_neighbours_1 rfl (lv_at hl 1 rfl) ?_
  obtain ⟨q_1, hq_1, hf⟩ := bd_some hf
  refine kc_v (va_runV (As := [.int x1]) (rest := []) ⟨hx, hb, hml, hown, hts⟩ (c_Pn_checkNumber l D cA cP ob ad x1  S hq_1 H.size) ⟨callB_of 1 hts (gd_Pn_checkNumber) rfl rfl rfl (hts _ (List.mem_cons_of_mem _ wd_64)) (hts _ (List.mem_cons_of_mem _ wd_720)) dd_Pn_checkNumber ⟨Nat.le_of_ble_eq_true rfl, Nat.le_of_ble_eq_true rfl⟩, (hts _ (List.mem_cons_of_mem _ wd_722)), (hts _ (List.mem_cons_of_mem _ wd_27))⟩ (kpV hK hP hD hN hZ hS 0 0 rfl rfl) rfl rfl hl.1 rfl (lv_room (Nat.le_of_ble_eq_true rfl)) d_Pn_neighbours_2 ⟨Nat.le_of_ble_eq_true rfl, Nat.le_of_ble_eq_true rfl⟩) hP hD hS hA (fun w H locs hw hP hD hS => ?_)
  obtain rfl := hw
  refine lv_aload_n hx hb d_Pn_neighbours_5 rfl (lv_at hl 0 rfl) ?_
  refine lv_iload_n hx hb d_Pn_neighbours_6 rfl (lv_at hl 1 rfl) ?_
  obtain ⟨q_2, hq_2, hf⟩ := bd_some hf
  refine kc_i (va_runV (As := [.int x1]) (rest := []) ⟨hx, hb, hml, hown, hts⟩ (c_Pn_neighbourCount l D cA cP ob ad x1  q_1 hq_2 H.size) ⟨callB_of 1 hts (gd_Pn_neighbourCount) rfl rfl rfl (hts _ (List.mem_cons_of_mem _ wd_64)) (hts _ (List.mem_cons_of_mem _ wd_725)) dd_Pn_neighbourCount ⟨Nat.le_of_ble_eq_true rfl, Nat.le_of_ble_eq_true rfl⟩, (hts _ (List.mem_cons_of_mem _ wd_727)), (hts _ (List.mem_cons_of_mem _ wd_28))⟩ (kpV hK hP hD hN hZ hS 0 0 rfl rfl) rfl rfl hl.1 rfl (lv_room (Nat.le_of_ble_eq_true rfl)) d_Pn_neighbours_7 ⟨Nat.le_of_ble_eq_true rfl, Nat.le_of_ble_eq_true rfl⟩) hP hD hS hA (fun r w H locs hw hP hD hS => ?_)
  obtain ⟨rfl, rfl⟩ := hw
  cases hf
  exact hret _ _ _ _ _ _ ⟨rfl, rfl⟩ hP hD hS d_Pn_neighbours_10
def f_Pn_neighbours (x1 : Int32) (S : St) : Option (Int32 × St) := f_Pn_neighbours_0  x1 S
theorem c_Pn_neighbours (l : Launch) (D : va_G) (cA cP : ClassId) (ob : Nat → Nat) (ad : Nat → Nat → Nat) (x1 : Int32)  (S : St) {res : (Int32 × St)} (hf : f_Pn_neighbours x1 S = some res) : CTi l y_Pn_neighbours w_Pn_neighbours rm_Pn_neighbours 0 0 D clC (TY cA cP) [.ref (ob 0), .int x1] (cw cA cP ob ad S) (fun r w => r = res.1 ∧ w = cw cA cP ob ad res.2) :=
  mk_i (cc := b_Pn_neighbours) (maxL := 2) (own := R_Pn) (by decide) rfl rfl (Nat.le_of_ble_eq_true rfl) (fun p e s m below meth c A Q C0 hret ls hl hP hD hS => w_Pn_neighbours_0 C0 hret   x1 S _ _ ls hP hD hS (lv_sub hl [0, 1] rfl) hf)
def f_Pn_neighbourOnLine_60   (x3 : Int32) (x4 : Int32) (S : St) : Option (Int32 × St) :=
  some ((if x3 < x4 then x4 else x3), S)
set_option maxHeartbeats 4000000 in
set_option maxRecDepth 100000 in
theorem w_Pn_neighbourOnLine_60 (C0 : CX p s m args c b_Pn_neighbourOnLine 5 R_Pn w_Pn_neighbourOnLine D clC cA cP A) {res : (Int32 × St)} (hret : RTi p l e rm_Pn_neighbourOnLine s m args below meth c Q D clC A b_Pn_neighbourOnLine 0 0 (fun r w => r = res.1 ∧ w = cw cA cP ob ad res.2))    : ∀ (x3 : Int32) (x4 : Int32) (S : St) (H : Heap) (locs : List Loc) (ls : Array Slot), va_P D clC (cw cA cP ob ad S) H → va_D A (cw cA cP ob ad S) → va_S A s.heap H locs → lv_has ls 5 [(3, .int x3), (4, .int x4)] → f_Pn_neighbourOnLine_60   x3 x4 S = some res → W p l e rm_Pn_neighbourOnLine s m args below meth c H locs 0 0 Q (F0 m 60 ls []) := by
  obtain ⟨hx, hb, hml, hown, hts, hK, hA, hN, hZ⟩ := id C0
  intro x3 x4 S H locs ls hP hD hS hl hf
  rw [f_Pn_neighbourOnLine_60] at hf
  refine lv_iload_n hx hb d_Pn_neighbourOnLine_60 rfl (lv_at hl 0 rfl) ?_
  refine lv_iload hx hb d_Pn_neighbourOnLine_61 (lv_at hl 1 rfl) ?_
  refine va_mmax hx hb (by rw [hml]; exact hl.1.symm) hown (hts _ (List.mem_cons_of_mem _ wd_93)) (hts _ (List.mem_cons_of_mem _ wd_94)) (hts _ (List.mem_cons_of_mem _ wd_66)) (hts _ (List.mem_cons_of_mem _ wd_95)) (Nat.le_of_ble_eq_true rfl) (Nat.le_of_ble_eq_true rfl) (Nat.le_of_ble_eq_true rfl) (Nat.le_of_ble_eq_true rfl) d_Pn_neighbourOnLine_63 ?_
  cases hf
  exact hret _ _ _ _ _ _ ⟨rfl, rfl⟩ hP hD hS d_Pn_neighbourOnLine_66
def f_Pn_neighbourOnLine_0   (x1 : Int32) (x2 : Int32) (S : St) : Option (Int32 × St) :=
  bd (f_Pt_x x1 S) (fun q_1 => bd (f_Pt_y x1 q_1.2) (fun q_2 => bd (f_Pt_greatestBelow q_1.1 q_2.1 q_2.2) (fun q_3 => bd (f_Pt_x x1 q_3.2) (fun q_4 => bd (f_Pt_y x1 q_4.2) (fun q_5 => bd (f_Pt_leastAbove q_4.1 q_5.1 q_5.2) (fun q_6 => (if q_3.1 = (-1) then
    f_Pn_neighbourOnLine_60   q_3.1 q_6.1 q_6.2
    else
    (if q_6.1 = (-1) then
      f_Pn_neighbourOnLine_60   q_3.1 q_6.1 q_6.2
      else
      (if x2 = 0 then
        some ((if q_6.1 < q_3.1 then q_6.1 else q_3.1), q_6.2)
        else
        some ((if q_3.1 < q_6.1 then q_6.1 else q_3.1), q_6.2))))))))))
set_option maxHeartbeats 4000000 in
set_option maxRecDepth 100000 in
theorem w_Pn_neighbourOnLine_0 (C0 : CX p s m args c b_Pn_neighbourOnLine 5 R_Pn w_Pn_neighbourOnLine D clC cA cP A) {res : (Int32 × St)} (hret : RTi p l e rm_Pn_neighbourOnLine s m args below meth c Q D clC A b_Pn_neighbourOnLine 0 0 (fun r w => r = res.1 ∧ w = cw cA cP ob ad res.2))    : ∀ (x1 : Int32) (x2 : Int32) (S : St) (H : Heap) (locs : List Loc) (ls : Array Slot), va_P D clC (cw cA cP ob ad S) H → va_D A (cw cA cP ob ad S) → va_S A s.heap H locs → lv_has ls 5 [(0, .ref (ob 0)), (1, .int x1), (2, .int x2)] → f_Pn_neighbourOnLine_0   x1 x2 S = some res → W p l e rm_Pn_neighbourOnLine s m args below meth c H locs 0 0 Q (F0 m 0 ls []) := by
  obtain ⟨hx, hb, hml, hown, hts, hK, hA, hN, hZ⟩ := id C0
  intro x1 x2 S H locs ls hP hD hS hl hf
  rw [f_Pn_neighbourOnLine_0] at hf
  refine lv_aload_n hx hb d_Pn_neighbourOnLine_0 rfl (lv_at hl 0 rfl) ?_
  refine va_get (D := D) (ci := 0) (v := .ref (ob 1)) (C := R_Pn) (T := F_Pn) (N := 8) hx hb hts (fun w h => List.mem_cons_of_mem _ (in_Pn w h)) hown hK hP 0 rfl rfl 0 (by decide) (hts _ (List.mem_cons_of_mem _ wd_249)) (fun _ h9 => h9) rfl d_Pn_neighbourOnLine_1 ?_
  refine lv_aload_n hx hb d_Pn_neighbourOnLine_4 rfl (lv_at hl 0 rfl) ?_
  refine va_get (D := D) (ci := 0) (v := .ref (ob 1)) (C := R_Pn) (T := F_Pn) (N := 8) hx hb hts (fun w h => List.mem_cons_of_mem _ (in_Pn w h)) hown hK hP 0 rfl rfl 0 (by decide) (hts _ (List.mem_cons_of_mem _ wd_249)) (fun _ h9 => h9) rfl d_Pn_neighbourOnLine_5 ?_
  refine lv_iload_n hx hb d_Pn_neighbourOnLine_8 rfl (lv_at hl 1 rfl) ?_
  obtain ⟨q_1, hq_1, hf⟩ := bd_some hf
  refine kc_i (va_runV (As := [.int x1]) (rest := [.ref (ob 1)]) ⟨hx, hb, hml, hown, hts⟩ (c_Pt_x l D cA cP ob ad x1  S hq_1 H.size) ⟨callB_of 1 hts (gd_Pt_x) rfl rfl rfl (hts _ (List.mem_cons_of_mem _ wd_65)) (hts _ (List.mem_cons_of_mem _ wd_565)) dd_Pt_x ⟨Nat.le_of_ble_eq_true rfl, Nat.le_of_ble_eq_true rfl⟩, (hts _ (List.mem_cons_of_mem _ wd_401)), (hts _ (List.mem_cons_of_mem _ wd_402))⟩ (kpV hK hP hD hN hZ hS 1 1 rfl rfl) rfl rfl hl.1 rfl (lv_room (Nat.le_of_ble_eq_true rfl)) d_Pn_neighbourOnLine_9 ⟨Nat.le_of_ble_eq_true rfl, Nat.le_of_ble_eq_true rfl⟩) hP hD hS hA (fun r w H locs hw hP hD hS => ?_)
  obtain ⟨rfl, rfl⟩ := hw
  refine lv_aload_n hx hb d_Pn_neighbourOnLine_12 rfl (lv_at hl 0 rfl) ?_
  refine va_get (D := D) (ci := 0) (v := .ref (ob 1)) (C := R_Pn) (T := F_Pn) (N := 8) hx hb hts (fun w h => List.mem_cons_of_mem _ (in_Pn w h)) hown hK hP 0 rfl rfl 0 (by decide) (hts _ (List.mem_cons_of_mem _ wd_249)) (fun _ h9 => h9) rfl d_Pn_neighbourOnLine_13 ?_
  refine lv_iload_n hx hb d_Pn_neighbourOnLine_16 rfl (lv_at hl 1 rfl) ?_
  obtain ⟨q_2, hq_2, hf⟩ := bd_some hf
  refine kc_i (va_runV (As := [.int x1]) (rest := [.int q_1.1, .ref (ob 1)]) ⟨hx, hb, hml, hown, hts⟩ (c_Pt_y l D cA cP ob ad x1  q_1.2 hq_2 H.size) ⟨callB_of 1 hts (gd_Pt_y) rfl rfl rfl (hts _ (List.mem_cons_of_mem _ wd_65)) (hts _ (List.mem_cons_of_mem _ wd_566)) dd_Pt_y ⟨Nat.le_of_ble_eq_true rfl, Nat.le_of_ble_eq_true rfl⟩, (hts _ (List.mem_cons_of_mem _ wd_405)), (hts _ (List.mem_cons_of_mem _ wd_406))⟩ (kpV hK hP hD hN hZ hS 1 1 rfl rfl) rfl rfl hl.1 rfl (lv_room (Nat.le_of_ble_eq_true rfl)) d_Pn_neighbourOnLine_17 ⟨Nat.le_of_ble_eq_true rfl, Nat.le_of_ble_eq_true rfl⟩) hP hD hS hA (fun r w H locs hw hP hD hS => ?_)
  obtain ⟨rfl, rfl⟩ := hw
  obtain ⟨q_3, hq_3, hf⟩ := bd_some hf
  refine kc_i (va_runV (As := [.int q_1.1, .int q_2.1]) (rest := []) ⟨hx, hb, hml, hown, hts⟩ (c_Pt_greatestBelow l D cA cP ob ad q_1.1 q_2.1  q_2.2 hq_3 H.size) ⟨callB_of 2 hts (gd_Pt_greatestBelow) rfl rfl rfl (hts _ (List.mem_cons_of_mem _ wd_65)) (hts _ (List.mem_cons_of_mem _ wd_733)) dd_Pt_greatestBelow ⟨Nat.le_of_ble_eq_true rfl, Nat.le_of_ble_eq_true rfl⟩, (hts _ (List.mem_cons_of_mem _ wd_349)), (hts _ (List.mem_cons_of_mem _ wd_350))⟩ (kpV hK hP hD hN hZ hS 1 1 rfl rfl) rfl rfl hl.1 rfl (lv_room (Nat.le_of_ble_eq_true rfl)) d_Pn_neighbourOnLine_20 ⟨Nat.le_of_ble_eq_true rfl, Nat.le_of_ble_eq_true rfl⟩) hP hD hS hA (fun r w H locs hw hP hD hS => ?_)
  obtain ⟨rfl, rfl⟩ := hw
  refine lv_istore_n (lv' := [(3, .int q_3.1), (0, .ref (ob 0)), (1, .int x1), (2, .int x2)]) hx hb d_Pn_neighbourOnLine_23 rfl hl (by decide) rfl (fun ls hl => ?_)
  refine lv_aload_n hx hb d_Pn_neighbourOnLine_24 rfl (lv_at hl 1 rfl) ?_
  refine va_get (D := D) (ci := 0) (v := .ref (ob 1)) (C := R_Pn) (T := F_Pn) (N := 8) hx hb hts (fun w h => List.mem_cons_of_mem _ (in_Pn w h)) hown hK hP 0 rfl rfl 0 (by decide) (hts _ (List.mem_cons_of_mem _ wd_249)) (fun _ h9 => h9) rfl d_Pn_neighbourOnLine_25 ?_
  refine lv_aload_n hx hb d_Pn_neighbourOnLine_28 rfl (lv_at hl 1 rfl) ?_
  refine va_get (D := D) (ci := 0) (v := .ref (ob 1)) (C := R_Pn) (T := F_Pn) (N := 8) hx hb hts (fun w h => List.mem_cons_of_mem _ (in_Pn w h)) hown hK hP 0 rfl rfl 0 (by decide) (hts _ (List.mem_cons_of_mem _ wd_249)) (fun _ h9 => h9) rfl d_Pn_neighbourOnLine_29 ?_
  refine lv_iload_n hx hb d_Pn_neighbourOnLine_32 rfl (lv_at hl 2 rfl) ?_
  obtain ⟨q_4, hq_4, hf⟩ := bd_some hf
  refine kc_i (va_runV (As := [.int x1]) (rest := [.ref (ob 1)]) ⟨hx, hb, hml, hown, hts⟩ (c_Pt_x l D cA cP ob ad x1  q_3.2 hq_4 H.size) ⟨callB_of 1 hts (gd_Pt_x) rfl rfl rfl (hts _ (List.mem_cons_of_mem _ wd_65)) (hts _ (List.mem_cons_of_mem _ wd_565)) dd_Pt_x ⟨Nat.le_of_ble_eq_true rfl, Nat.le_of_ble_eq_true rfl⟩, (hts _ (List.mem_cons_of_mem _ wd_401)), (hts _ (List.mem_cons_of_mem _ wd_402))⟩ (kpV hK hP hD hN hZ hS 1 1 rfl rfl) rfl rfl hl.1 rfl (lv_room (Nat.le_of_ble_eq_true rfl)) d_Pn_neighbourOnLine_33 ⟨Nat.le_of_ble_eq_true rfl, Nat.le_of_ble_eq_true rfl⟩) hP hD hS hA (fun r w H locs hw hP hD hS => ?_)
  obtain ⟨rfl, rfl⟩ := hw
  refine lv_aload_n hx hb d_Pn_neighbourOnLine_36 rfl (lv_at hl 1 rfl) ?_
  refine va_get (D := D) (ci := 0) (v := .ref (ob 1)) (C := R_Pn) (T := F_Pn) (N := 8) hx hb hts (fun w h => List.mem_cons_of_mem _ (in_Pn w h)) hown hK hP 0 rfl rfl 0 (by decide) (hts _ (List.mem_cons_of_mem _ wd_249)) (fun _ h9 => h9) rfl d_Pn_neighbourOnLine_37 ?_
  refine lv_iload_n hx hb d_Pn_neighbourOnLine_40 rfl (lv_at hl 2 rfl) ?_
  obtain ⟨q_5, hq_5, hf⟩ := bd_some hf
  refine kc_i (va_runV (As := [.int x1]) (rest := [.int q_4.1, .ref (ob 1)]) ⟨hx, hb, hml, hown, hts⟩ (c_Pt_y l D cA cP ob ad x1  q_4.2 hq_5 H.size) ⟨callB_of 1 hts (gd_Pt_y) rfl rfl rfl (hts _ (List.mem_cons_of_mem _ wd_65)) (hts _ (List.mem_cons_of_mem _ wd_566)) dd_Pt_y ⟨Nat.le_of_ble_eq_true rfl, Nat.le_of_ble_eq_true rfl⟩, (hts _ (List.mem_cons_of_mem _ wd_405)), (hts _ (List.mem_cons_of_mem _ wd_406))⟩ (kpV hK hP hD hN hZ hS 1 1 rfl rfl) rfl rfl hl.1 rfl (lv_room (Nat.le_of_ble_eq_true rfl)) d_Pn_neighbourOnLine_41 ⟨Nat.le_of_ble_eq_true rfl, Nat.le_of_ble_eq_true rfl⟩) hP hD hS hA (fun r w H locs hw hP hD hS => ?_)
  obtain ⟨rfl, rfl⟩ := hw
  obtain ⟨q_6, hq_6, hf⟩ := bd_some hf
  refine kc_i (va_runV (As := [.int q_4.1, .int q_5.1]) (rest := []) ⟨hx, hb, hml, hown, hts⟩ (c_Pt_leastAbove l D cA cP ob ad q_4.1 q_5.1  q_5.2 hq_6 H.size) ⟨callB_of 2 hts (gd_Pt_leastAbove) rfl rfl rfl (hts _ (List.mem_cons_of_mem _ wd_65)) (hts _ (List.mem_cons_of_mem _ wd_734)) dd_Pt_leastAbove ⟨Nat.le_of_ble_eq_true rfl, Nat.le_of_ble_eq_true rfl⟩, (hts _ (List.mem_cons_of_mem _ wd_332)), (hts _ (List.mem_cons_of_mem _ wd_333))⟩ (kpV hK hP hD hN hZ hS 1 1 rfl rfl) rfl rfl hl.1 rfl (lv_room (Nat.le_of_ble_eq_true rfl)) d_Pn_neighbourOnLine_44 ⟨Nat.le_of_ble_eq_true rfl, Nat.le_of_ble_eq_true rfl⟩) hP hD hS hA (fun r w H locs hw hP hD hS => ?_)
  obtain ⟨rfl, rfl⟩ := hw
  refine lv_istore (lv' := [(4, .int q_6.1), (3, .int q_3.1), (0, .ref (ob 0)), (1, .int x1), (2, .int x2)]) hx hb d_Pn_neighbourOnLine_47 hl (by decide) rfl (fun ls hl => ?_)
  refine lv_iload_n hx hb d_Pn_neighbourOnLine_49 rfl (lv_at hl 1 rfl) ?_
  refine lv_iconst (v := (-1)) hx hb d_Pn_neighbourOnLine_50 (by decide) ?_
  refine lv_icmp_eq (tgt := 60) hx hb d_Pn_neighbourOnLine_51 (by decide) (fun c_7 => ?_) (fun c_7 => ?_)
  · rw [if_pos c_7] at hf
    exact w_Pn_neighbourOnLine_60 C0 hret    q_3.1 q_6.1 q_6.2 H locs ls hP hD hS (lv_sub hl [1, 0] rfl) hf
  · rw [if_neg c_7] at hf
    refine lv_iload hx hb d_Pn_neighbourOnLine_54 (lv_at hl 0 rfl) ?_
    refine lv_iconst (v := (-1)) hx hb d_Pn_neighbourOnLine_56 (by decide) ?_
    refine lv_icmp_ne (tgt := 67) hx hb d_Pn_neighbourOnLine_57 (by decide) (fun c_8 => ?_) (fun c_8 => ?_)
    · rw [if_neg c_8] at hf
      refine lv_iload_n hx hb d_Pn_neighbourOnLine_67 rfl (lv_at hl 4 rfl) ?_
      refine lv_if_ne (tgt := 80) hx hb d_Pn_neighbourOnLine_68 (by decide) (fun c_9 => ?_) (fun c_9 => ?_)
      · rw [if_neg c_9] at hf
        refine lv_iload_n hx hb d_Pn_neighbourOnLine_80 rfl (lv_at hl 1 rfl) ?_
        refine lv_iload hx hb d_Pn_neighbourOnLine_81 (lv_at hl 0 rfl) ?_
        refine va_mmax hx hb (by rw [hml]; exact hl.1.symm) hown (hts _ (List.mem_cons_of_mem _ wd_93)) (hts _ (List.mem_cons_of_mem _ wd_94)) (hts _ (List.mem_cons_of_mem _ wd_66)) (hts _ (List.mem_cons_of_mem _ wd_95)) (Nat.le_of_ble_eq_true rfl) (Nat.le_of_ble_eq_true rfl) (Nat.le_of_ble_eq_true rfl) (Nat.le_of_ble_eq_true rfl) d_Pn_neighbourOnLine_83 ?_
        cases hf
        exact hret _ _ _ _ _ _ ⟨rfl, rfl⟩ hP hD hS d_Pn_neighbourOnLine_86
      · rw [if_pos c_9] at hf
        refine lv_iload_n hx hb d_Pn_neighbourOnLine_71 rfl (lv_at hl 1 rfl) ?_
        refine lv_iload hx hb d_Pn_neighbourOnLine_72 (lv_at hl 0 rfl) ?_
        refine va_mmin hx hb (by rw [hml]; exact hl.1.symm) hown (hts _ (List.mem_cons_of_mem _ wd_90)) (hts _ (List.mem_cons_of_mem _ wd_91)) (hts _ (List.mem_cons_of_mem _ wd_66)) (hts _ (List.mem_cons_of_mem _ wd_92)) (Nat.le_of_ble_eq_true rfl) (Nat.le_of_ble_eq_true rfl) (Nat.le_of_ble_eq_true rfl) (Nat.le_of_ble_eq_true rfl) d_Pn_neighbourOnLine_74 ?_
        refine lv_goto (tgt := 86) hx hb d_Pn_neighbourOnLine_77 (by decide) ?_
        cases hf
        exact hret _ _ _ _ _ _ ⟨rfl, rfl⟩ hP hD hS d_Pn_neighbourOnLine_86
    · rw [if_pos c_8] at hf
      exact w_Pn_neighbourOnLine_60 C0 hret    q_3.1 q_6.1 q_6.2 H locs ls hP hD hS (lv_sub hl [1, 0] rfl) hf
def f_Pn_neighbourOnLine (x1 : Int32) (x2 : Int32) (S : St) : Option (Int32 × St) := f_Pn_neighbourOnLine_0  x1 x2 S
theorem c_Pn_neighbourOnLine (l : Launch) (D : va_G) (cA cP : ClassId) (ob : Nat → Nat) (ad : Nat → Nat → Nat) (x1 : Int32) (x2 : Int32)  (S : St) {res : (Int32 × St)} (hf : f_Pn_neighbourOnLine x1 x2 S = some res) : CTi l y_Pn_neighbourOnLine w_Pn_neighbourOnLine rm_Pn_neighbourOnLine 0 0 D clC (TY cA cP) [.ref (ob 0), .int x1, .int x2] (cw cA cP ob ad S) (fun r w => r = res.1 ∧ w = cw cA cP ob ad res.2) :=
  mk_i (cc := b_Pn_neighbourOnLine) (maxL := 5) (own := R_Pn) (by decide) rfl rfl (Nat.le_of_ble_eq_true rfl) (fun p e s m below meth c A Q C0 hret ls hl hP hD hS => w_Pn_neighbourOnLine_0 C0 hret   x1 x2 S _ _ ls hP hD hS (lv_sub hl [0, 1, 2] rfl) hf)
def f_Nt_lowestFrom_47  (k21 : Int32 → Int32 → Int32 → Int32 → St → Option (Int32 × St)) (x2 : Int32) (x3 : Int32) (x4 : Int32) (x5 : Int32) (S : St) : Option (Int32 × St) :=
  bd (f_Nt_leftOf x4 S) (fun q_1 => (if q_1.1 = x2 then
    some (x3, q_1.2)
    else
    bn (x5 + 1) (fun x5_3 => k21 x2 x3 q_1.1 x5_3 q_1.2)))
set_option maxHeartbeats 4000000 in
set_option maxRecDepth 100000 in
theorem w_Nt_lowestFrom_47 (C0 : CX p s m args c b_Nt_lowestFrom 6 R_Nt w_Nt_lowestFrom D clC cA cP A) {res : (Int32 × St)} (hret : RTi p l e rm_Nt_lowestFrom s m args below meth c Q D clC A b_Nt_lowestFrom 0 0 (fun r w => r = res.1 ∧ w = cw cA cP ob ad res.2))   (k21 : Int32 → Int32 → Int32 → Int32 → St → Option (Int32 × St)) (hk21 : ∀ (x2 : Int32) (x3 : Int32) (x4 : Int32) (x5 : Int32) (S : St) (H : Heap) (locs : List Loc) (ls : Array Slot), va_P D clC (cw cA cP ob ad S) H → va_D A (cw cA cP ob ad S) → va_S A s.heap H locs → lv_has ls 6 [(0, .ref (ob 3)), (2, .int x2), (3, .int x3), (4, .int x4), (5, .int x5)] → k21 x2 x3 x4 x5 S = some res → W p l e rm_Nt_lowestFrom s m args below meth c H locs 0 0 Q (F0 m 21 ls [])) : ∀ (x2 : Int32) (x3 : Int32) (x4 : Int32) (x5 : Int32) (S : St) (H : Heap) (locs : List Loc) (ls : Array Slot), va_P D clC (cw cA cP ob ad S) H → va_D A (cw cA cP ob ad S) → va_S A s.heap H locs → lv_has ls 6 [(0, .ref (ob 3)), (2, .int x2), (3, .int x3), (4, .int x4), (5, .int x5)] → f_Nt_lowestFrom_47  k21 x2 x3 x4 x5 S = some res → W p l e rm_Nt_lowestFrom s m args below meth c H locs 0 0 Q (F0 m 47 ls []) := by
  obtain ⟨hx, hb, hml, hown, hts, hK, hA, hN, hZ⟩ := id C0
  intro x2 x3 x4 x5 S H locs ls hP hD hS hl hf
  rw [f_Nt_lowestFrom_47] at hf
  refine lv_aload_n hx hb d_Nt_lowestFrom_47 rfl (lv_at hl 0 rfl) ?_
  refine lv_iload hx hb d_Nt_lowestFrom_48 (lv_at hl 3 rfl) ?_
  obtain ⟨q_1, hq_1, hf⟩ := bd_some hf
  refine kc_i (va_runV (As := [.int x4]) (rest := []) ⟨hx, hb, hml, hown, hts⟩ (c_Nt_leftOf l D cA cP ob ad x4  S hq_1 H.size) ⟨callB_of 1 hts (gd_Nt_leftOf) rfl rfl rfl (hts _ (List.mem_cons_of_mem _ wd_69)) (hts _ (List.mem_cons_of_mem _ wd_384)) dd_Nt_leftOf ⟨Nat.le_of_ble_eq_true rfl, Nat.le_of_ble_eq_true rfl⟩, (hts _ (List.mem_cons_of_mem _ wd_386)), (hts _ (List.mem_cons_of_mem _ wd_9))⟩ (kpV hK hP hD hN hZ hS 3 3 rfl rfl) rfl rfl hl.1 rfl (lv_room (Nat.le_of_ble_eq_true rfl)) d_Nt_lowestFrom_50 ⟨Nat.le_of_ble_eq_true rfl, Nat.le_of_ble_eq_true rfl⟩) hP hD hS hA (fun r w H locs hw hP hD hS => ?_)
  obtain ⟨rfl, rfl⟩ := hw
  refine lv_istore (lv' := [(4, .int q_1.1), (0, .ref (ob 3)), (2, .int x2), (3, .int x3), (5, .int x5)]) hx hb d_Nt_lowestFrom_53 hl (by decide) rfl (fun ls hl => ?_)
  refine lv_iload hx hb d_Nt_lowestFrom_55 (lv_at hl 0 rfl) ?_
  refine lv_iload_n hx hb d_Nt_lowestFrom_57 rfl (lv_at hl 2 rfl) ?_
  refine lv_icmp_ne (tgt := 64) hx hb d_Nt_lowestFrom_58 (by decide) (fun c_2 => ?_) (fun c_2 => ?_)
  · rw [if_neg c_2] at hf
    obtain ⟨x5_3, ex5_3, hf⟩ := bn_some hf
    refine lv_iinc (v := x5_3) (lv' := [(5, .int x5_3), (4, .int q_1.1), (0, .ref (ob 3)), (2, .int x2), (3, .int x3)]) hx hb d_Nt_lowestFrom_64 hl (k := 4) rfl (by rw [ex5_3]; rfl) (by decide) rfl (fun ls hl => ?_)
    refine lv_goto (tgt := 21) hx hb d_Nt_lowestFrom_67 (by decide) ?_
    exact hk21 x2 x3 q_1.1 x5_3 q_1.2 H locs ls hP hD hS (lv_sub hl [2, 3, 4, 1, 0] rfl) hf
  · rw [if_pos c_2] at hf
    refine lv_goto (tgt := 70) hx hb d_Nt_lowestFrom_61 (by decide) ?_
    refine lv_iload_n hx hb d_Nt_lowestFrom_70 rfl (lv_at hl 3 rfl) ?_
    cases hf
    exact hret _ _ _ _ _ _ ⟨rfl, rfl⟩ hP hD hS d_Nt_lowestFrom_71
def f_Nt_lowestFrom_21   : Nat → Int32 → Int32 → Int32 → Int32 → St → Option (Int32 × St)
  | 0 => fun _ _ _ _ _ => none
  | n + 1 => fun x2 x3 x4 x5 S => (if (gi S 4) < x5 then
      some (x3, S)
      else
      bd (f_Nt_endOf x4 S) (fun q_2 => bd (f_Nt_endOf x3 q_2.2) (fun q_3 => (if q_3.1 ≤ q_2.1 then
        f_Nt_lowestFrom_47  (f_Nt_lowestFrom_21  n) x2 x3 x4 x5 q_3.2
        else
        f_Nt_lowestFrom_47  (f_Nt_lowestFrom_21  n) x2 x4 x4 x5 q_3.2))))
set_option maxHeartbeats 4000000 in
set_option maxRecDepth 100000 in
theorem w_Nt_lowestFrom_21 (C0 : CX p s m args c b_Nt_lowestFrom 6 R_Nt w_Nt_lowestFrom D clC cA cP A) {res : (Int32 × St)} (hret : RTi p l e rm_Nt_lowestFrom s m args below meth c Q D clC A b_Nt_lowestFrom 0 0 (fun r w => r = res.1 ∧ w = cw cA cP ob ad res.2))    : ∀ (n : Nat) (x2 : Int32) (x3 : Int32) (x4 : Int32) (x5 : Int32) (S : St) (H : Heap) (locs : List Loc) (ls : Array Slot), va_P D clC (cw cA cP ob ad S) H → va_D A (cw cA cP ob ad S) → va_S A s.heap H locs → lv_has ls 6 [(0, .ref (ob 3)), (2, .int x2), (3, .int x3), (4, .int x4), (5, .int x5)] → f_Nt_lowestFrom_21   n x2 x3 x4 x5 S = some res → W p l e rm_Nt_lowestFrom s m args below meth c H locs 0 0 Q (F0 m 21 ls []) := by
  obtain ⟨hx, hb, hml, hown, hts, hK, hA, hN, hZ⟩ := id C0
  intro n
  induction n with
  | zero =>
    intro x2 x3 x4 x5 S H locs ls hP hD hS hl hf
    cases hf
  | succ n ih =>
    intro x2 x3 x4 x5 S H locs ls hP hD hS hl hf
    rw [f_Nt_lowestFrom_21] at hf
    try dsimp only at hf
    refine lv_iload hx hb d_Nt_lowestFrom_21 (lv_at hl 4 rfl) ?_
    refine lv_aload_n hx hb d_Nt_lowestFrom_23 rfl (lv_at hl 0 rfl) ?_
    refine va_get (D := D) (ci := 3) (v := .int (gi S 4)) (C := R_Nt) (T := F_Nt) (N := 13) hx hb hts (fun w h => List.mem_cons_of_mem _ (in_Nt w h)) hown hK hP 3 rfl rfl 1 (by decide) (hts _ (List.mem_cons_of_mem _ wd_159)) (fun _ h9 => h9) rfl d_Nt_lowestFrom_24 ?_
    refine lv_icmp_gt (tgt := 70) hx hb d_Nt_lowestFrom_27 (by decide) (fun c_1 => ?_) (fun c_1 => ?_)
    · rw [if_pos c_1] at hf
      refine lv_iload_n hx hb d_Nt_lowestFrom_70 rfl (lv_at hl 2 rfl) ?_
      cases hf
      exact hret _ _ _ _ _ _ ⟨rfl, rfl⟩ hP hD hS d_Nt_lowestFrom_71
    · rw [if_neg c_1] at hf
      refine lv_aload_n hx hb d_Nt_lowestFrom_30 rfl (lv_at hl 0 rfl) ?_
      refine lv_iload hx hb d_Nt_lowestFrom_31 (lv_at hl 3 rfl) ?_
      obtain ⟨q_2, hq_2, hf⟩ := bd_some hf
      refine kc_i (va_runV (As := [.int x4]) (rest := []) ⟨hx, hb, hml, hown, hts⟩ (c_Nt_endOf l D cA cP ob ad x4  S hq_2 H.size) ⟨callB_of 1 hts (gd_Nt_endOf) rfl rfl rfl (hts _ (List.mem_cons_of_mem _ wd_69)) (hts _ (List.mem_cons_of_mem _ wd_377)) dd_Nt_endOf ⟨Nat.le_of_ble_eq_true rfl, Nat.le_of_ble_eq_true rfl⟩, (hts _ (List.mem_cons_of_mem _ wd_378)), (hts _ (List.mem_cons_of_mem _ wd_379))⟩ (kpV hK hP hD hN hZ hS 3 3 rfl rfl) rfl rfl hl.1 rfl (lv_room (Nat.le_of_ble_eq_true rfl)) d_Nt_lowestFrom_33 ⟨Nat.le_of_ble_eq_true rfl, Nat.le_of_ble_eq_true rfl⟩) hP hD hS hA (fun r w H locs hw hP hD hS => ?_)
      obtain ⟨rfl, rfl⟩ := hw
      refine lv_aload_n hx hb d_Nt_lowestFrom_36 rfl (lv_at hl 0 rfl) ?_
      refine lv_iload_n hx hb d_Nt_lowestFrom_37 rfl (lv_at hl 2 rfl) ?_
      obtain ⟨q_3, hq_3, hf⟩ := bd_some hf
      refine kc_i (va_runV (As := [.int x3]) (rest := [.int q_2.1]) ⟨hx, hb, hml, hown, hts⟩ (c_Nt_endOf l D cA cP ob ad x3  q_2.2 hq_3 H.size) ⟨callB_of 1 hts (gd_Nt_endOf) rfl rfl rfl (hts _ (List.mem_cons_of_mem _ wd_69)) (hts _ (List.mem_cons_of_mem _ wd_377)) dd_Nt_endOf ⟨Nat.le_of_ble_eq_true rfl, Nat.le_of_ble_eq_true rfl⟩, (hts _ (List.mem_cons_of_mem _ wd_378)), (hts _ (List.mem_cons_of_mem _ wd_379))⟩ (kpV hK hP hD hN hZ hS 3 3 rfl rfl) rfl rfl hl.1 rfl (lv_room (Nat.le_of_ble_eq_true rfl)) d_Nt_lowestFrom_38 ⟨Nat.le_of_ble_eq_true rfl, Nat.le_of_ble_eq_true rfl⟩) hP hD hS hA (fun r w H locs hw hP hD hS => ?_)
      obtain ⟨rfl, rfl⟩ := hw
      refine lv_icmp_ge (tgt := 47) hx hb d_Nt_lowestFrom_41 (by decide) (fun c_4 => ?_) (fun c_4 => ?_)
      · rw [if_pos c_4] at hf
        exact w_Nt_lowestFrom_47 C0 hret   (f_Nt_lowestFrom_21  n) ih x2 x3 x4 x5 q_3.2 H locs ls hP hD hS (lv_sub hl [0, 1, 2, 3, 4] rfl) hf
      · rw [if_neg c_4] at hf
        refine lv_iload hx hb d_Nt_lowestFrom_44 (lv_at hl 3 rfl) ?_
        refine lv_istore_n (lv' := [(3, .int x4), (0, .ref (ob 3)), (2, .int x2), (4, .int x4), (5, .int x5)]) hx hb d_Nt_lowestFrom_46 rfl hl (by decide) rfl (fun ls hl => ?_)
        exact w_Nt_lowestFrom_47 C0 hret   (f_Nt_lowestFrom_21  n) ih x2 x4 x4 x5 q_3.2 H locs ls hP hD hS (lv_sub hl [1, 2, 0, 3, 4] rfl) hf
def f_Nt_lowestFrom_0   (x1 : Int32) (S : St) : Option (Int32 × St) :=
  bd (f_Nt_placeOf x1 S) (fun q_1 => bd (f_Rw_get 10 q_1.1 q_1.2) (fun q_2 => f_Nt_lowestFrom_21   FU q_2.1 q_2.1 q_2.1 0 q_2.2))
set_option maxHeartbeats 4000000 in
set_option maxRecDepth 100000 in
theorem w_Nt_lowestFrom_0 (C0 : CX p s m args c b_Nt_lowestFrom 6 R_Nt w_Nt_lowestFrom D clC cA cP A) {res : (Int32 × St)} (hret : RTi p l e rm_Nt_lowestFrom s m args below meth c Q D clC A b_Nt_lowestFrom 0 0 (fun r w => r = res.1 ∧ w = cw cA cP ob ad res.2))    : ∀ (x1 : Int32) (S : St) (H : Heap) (locs : List Loc) (ls : Array Slot), va_P D clC (cw cA cP ob ad S) H → va_D A (cw cA cP ob ad S) → va_S A s.heap H locs → lv_has ls 6 [(0, .ref (ob 3)), (1, .int x1)] → f_Nt_lowestFrom_0   x1 S = some res → W p l e rm_Nt_lowestFrom s m args below meth c H locs 0 0 Q (F0 m 0 ls []) := by
  obtain ⟨hx, hb, hml, hown, hts, hK, hA, hN, hZ⟩ := id C0
  intro x1 S H locs ls hP hD hS hl hf
  rw [f_Nt_lowestFrom_0] at hf
  refine lv_aload_n hx hb d_Nt_lowestFrom_0 rfl (lv_at hl 0 rfl) ?_
  refine va_get (D := D) (ci := 3) (v := .ref (ob 10)) (C := R_Nt) (T := F_Nt) (N := 13) hx hb hts (fun w h => List.mem_cons_of_mem _ (in_Nt w h)) hown hK hP 3 rfl rfl 4 (by decide) (hts _ (List.mem_cons_of_mem _ wd_162)) (fun _ h9 => h9) rfl d_Nt_lowestFrom_1 ?_
  refine lv_aload_n hx hb d_Nt_lowestFrom_4 rfl (lv_at hl 0 rfl) ?_
  refine lv_iload_n hx hb d_Nt_lowestFrom_5 rfl (lv_at hl 1 rfl) ?_
  obtain ⟨q_1, hq_1, hf⟩ := bd_some hf
  refine kc_i (va_runV (As := [.int x1]) (rest := [.ref (ob 10)]) ⟨hx, hb, hml, hown, hts⟩ (c_Nt_placeOf l D cA cP ob ad x1  S hq_1 H.size) ⟨callB_of 1 hts (gd_Nt_placeOf) rfl rfl rfl (hts _ (List.mem_cons_of_mem _ wd_69)) (hts _ (List.mem_cons_of_mem _ wd_372)) dd_Nt_placeOf ⟨Nat.le_of_ble_eq_true rfl, Nat.le_of_ble_eq_true rfl⟩, (hts _ (List.mem_cons_of_mem _ wd_374)), (hts _ (List.mem_cons_of_mem _ wd_8))⟩ (kpV hK hP hD hN hZ hS 3 3 rfl rfl) rfl rfl hl.1 rfl (lv_room (Nat.le_of_ble_eq_true rfl)) d_Nt_lowestFrom_6 ⟨Nat.le_of_ble_eq_true rfl, Nat.le_of_ble_eq_true rfl⟩) hP hD hS hA (fun r w H locs hw hP hD hS => ?_)
  obtain ⟨rfl, rfl⟩ := hw
  obtain ⟨q_2, hq_2, hf⟩ := bd_some hf
  refine kc_i (va_runV (As := [.int q_1.1]) (rest := []) ⟨hx, hb, hml, hown, hts⟩ (c_Rw_get l D cA cP ob ad 10 q_1.1 (by decide) q_1.2 hq_2 H.size) ⟨callB_of 1 hts (gd_Rw_get) rfl rfl rfl (hts _ (List.mem_cons_of_mem _ wd_67)) (hts _ (List.mem_cons_of_mem _ wd_376)) dd_Rw_get ⟨Nat.le_of_ble_eq_true rfl, Nat.le_of_ble_eq_true rfl⟩, (hts _ (List.mem_cons_of_mem _ wd_340)), (hts _ (List.mem_cons_of_mem _ wd_341))⟩ (kpV hK hP hD hN hZ hS 6 10 rfl rfl) rfl rfl hl.1 rfl (lv_room (Nat.le_of_ble_eq_true rfl)) d_Nt_lowestFrom_9 ⟨Nat.le_of_ble_eq_true rfl, Nat.le_of_ble_eq_true rfl⟩) hP hD hS hA (fun r w H locs hw hP hD hS => ?_)
  obtain ⟨rfl, rfl⟩ := hw
  refine lv_istore_n (lv' := [(2, .int q_2.1), (0, .ref (ob 3)), (1, .int x1)]) hx hb d_Nt_lowestFrom_12 rfl hl (by decide) rfl (fun ls hl => ?_)
  refine lv_iload_n hx hb d_Nt_lowestFrom_13 rfl (lv_at hl 0 rfl) ?_
  refine lv_istore_n (lv' := [(3, .int q_2.1), (2, .int q_2.1), (0, .ref (ob 3)), (1, .int x1)]) hx hb d_Nt_lowestFrom_14 rfl hl (by decide) rfl (fun ls hl => ?_)
  refine lv_iload_n hx hb d_Nt_lowestFrom_15 rfl (lv_at hl 1 rfl) ?_
  refine lv_istore (lv' := [(4, .int q_2.1), (3, .int q_2.1), (2, .int q_2.1), (0, .ref (ob 3)), (1, .int x1)]) hx hb d_Nt_lowestFrom_16 hl (by decide) rfl (fun ls hl => ?_)
  refine lv_iconst (v := 0) hx hb d_Nt_lowestFrom_18 (by decide) ?_
  refine lv_istore (lv' := [(5, .int 0), (4, .int q_2.1), (3, .int q_2.1), (2, .int q_2.1), (0, .ref (ob 3)), (1, .int x1)]) hx hb d_Nt_lowestFrom_19 hl (by decide) rfl (fun ls hl => ?_)
  exact w_Nt_lowestFrom_21 C0 hret    FU q_2.1 q_2.1 q_2.1 0 q_2.2 H locs ls hP hD hS (lv_sub hl [4, 3, 2, 1, 0] rfl) hf
def f_Nt_lowestFrom (x1 : Int32) (S : St) : Option (Int32 × St) := f_Nt_lowestFrom_0  x1 S
theorem c_Nt_lowestFrom (l : Launch) (D : va_G) (cA cP : ClassId) (ob : Nat → Nat) (ad : Nat → Nat → Nat) (x1 : Int32)  (S : St) {res : (Int32 × St)} (hf : f_Nt_lowestFrom x1 S = some res) : CTi l y_Nt_lowestFrom w_Nt_lowestFrom rm_Nt_lowestFrom 0 0 D clC (TY cA cP) [.ref (ob 3), .int x1] (cw cA cP ob ad S) (fun r w => r = res.1 ∧ w = cw cA cP ob ad res.2) :=
  mk_i (cc := b_Nt_lowestFrom) (maxL := 6) (own := R_Nt) (by decide) rfl rfl (Nat.le_of_ble_eq_true rfl) (fun p e s m below meth c A Q C0 hret ls hl hP hD hS => w_Nt_lowestFrom_0 C0 hret   x1 S _ _ ls hP hD hS (lv_sub hl [0, 1] rfl) hf)
def f_Nt_leftRound_53   (x3 : Int32) (S : St) : Option (Int32 × St) :=
  bd (f_Nt_endOf x3 S) (fun q_1 => some (q_1.1, q_1.2))
set_option maxHeartbeats 4000000 in
set_option maxRecDepth 100000 in
theorem w_Nt_leftRound_53 (C0 : CX p s m args c b_Nt_leftRound 6 R_Nt w_Nt_leftRound D clC cA cP A) {res : (Int32 × St)} (hret : RTi p l e rm_Nt_leftRound s m args below meth c Q D clC A b_Nt_leftRound 0 0 (fun r w => r = res.1 ∧ w = cw cA cP ob ad res.2))    : ∀ (x3 : Int32) (S : St) (H : Heap) (locs : List Loc) (ls : Array Slot), va_P D clC (cw cA cP ob ad S) H → va_D A (cw cA cP ob ad S) → va_S A s.heap H locs → lv_has ls 6 [(0, .ref (ob 3)), (3, .int x3)] → f_Nt_leftRound_53   x3 S = some res → W p l e rm_Nt_leftRound s m args below meth c H locs 0 0 Q (F0 m 53 ls []) := by
  obtain ⟨hx, hb, hml, hown, hts, hK, hA, hN, hZ⟩ := id C0
  intro x3 S H locs ls hP hD hS hl hf
  rw [f_Nt_leftRound_53] at hf
  refine lv_aload_n hx hb d_Nt_leftRound_53 rfl (lv_at hl 0 rfl) ?_
  refine lv_iload_n hx hb d_Nt_leftRound_54 rfl (lv_at hl 1 rfl) ?_
  obtain ⟨q_1, hq_1, hf⟩ := bd_some hf
  refine kc_i (va_runV (As := [.int x3]) (rest := []) ⟨hx, hb, hml, hown, hts⟩ (c_Nt_endOf l D cA cP ob ad x3  S hq_1 H.size) ⟨callB_of 1 hts (gd_Nt_endOf) rfl rfl rfl (hts _ (List.mem_cons_of_mem _ wd_69)) (hts _ (List.mem_cons_of_mem _ wd_377)) dd_Nt_endOf ⟨Nat.le_of_ble_eq_true rfl, Nat.le_of_ble_eq_true rfl⟩, (hts _ (List.mem_cons_of_mem _ wd_378)), (hts _ (List.mem_cons_of_mem _ wd_379))⟩ (kpV hK hP hD hN hZ hS 3 3 rfl rfl) rfl rfl hl.1 rfl (lv_room (Nat.le_of_ble_eq_true rfl)) d_Nt_leftRound_55 ⟨Nat.le_of_ble_eq_true rfl, Nat.le_of_ble_eq_true rfl⟩) hP hD hS hA (fun r w H locs hw hP hD hS => ?_)
  obtain ⟨rfl, rfl⟩ := hw
  cases hf
  exact hret _ _ _ _ _ _ ⟨rfl, rfl⟩ hP hD hS d_Nt_leftRound_58
def f_Nt_leftRound_47  (k12 : Int32 → Int32 → Int32 → St → Option (Int32 × St)) (x3 : Int32) (x4 : Int32) (x5 : Int32) (S : St) : Option (Int32 × St) :=
  bn (x5 + 1) (fun x5_1 => k12 x3 x4 x5_1 S)
set_option maxHeartbeats 4000000 in
set_option maxRecDepth 100000 in
theorem w_Nt_leftRound_47 (C0 : CX p s m args c b_Nt_leftRound 6 R_Nt w_Nt_leftRound D clC cA cP A) {res : (Int32 × St)} (hret : RTi p l e rm_Nt_leftRound s m args below meth c Q D clC A b_Nt_leftRound 0 0 (fun r w => r = res.1 ∧ w = cw cA cP ob ad res.2))   (k12 : Int32 → Int32 → Int32 → St → Option (Int32 × St)) (hk12 : ∀ (x3 : Int32) (x4 : Int32) (x5 : Int32) (S : St) (H : Heap) (locs : List Loc) (ls : Array Slot), va_P D clC (cw cA cP ob ad S) H → va_D A (cw cA cP ob ad S) → va_S A s.heap H locs → lv_has ls 6 [(0, .ref (ob 3)), (3, .int x3), (4, .int x4), (5, .int x5)] → k12 x3 x4 x5 S = some res → W p l e rm_Nt_leftRound s m args below meth c H locs 0 0 Q (F0 m 12 ls [])) : ∀ (x3 : Int32) (x4 : Int32) (x5 : Int32) (S : St) (H : Heap) (locs : List Loc) (ls : Array Slot), va_P D clC (cw cA cP ob ad S) H → va_D A (cw cA cP ob ad S) → va_S A s.heap H locs → lv_has ls 6 [(0, .ref (ob 3)), (3, .int x3), (4, .int x4), (5, .int x5)] → f_Nt_leftRound_47  k12 x3 x4 x5 S = some res → W p l e rm_Nt_leftRound s m args below meth c H locs 0 0 Q (F0 m 47 ls []) := by
  obtain ⟨hx, hb, hml, hown, hts, hK, hA, hN, hZ⟩ := id C0
  intro x3 x4 x5 S H locs ls hP hD hS hl hf
  rw [f_Nt_leftRound_47] at hf
  obtain ⟨x5_1, ex5_1, hf⟩ := bn_some hf
  refine lv_iinc (v := x5_1) (lv' := [(5, .int x5_1), (0, .ref (ob 3)), (3, .int x3), (4, .int x4)]) hx hb d_Nt_leftRound_47 hl (k := 3) rfl (by rw [ex5_1]; rfl) (by decide) rfl (fun ls hl => ?_)
  refine lv_goto (tgt := 12) hx hb d_Nt_leftRound_50 (by decide) ?_
  exact hk12 x3 x4 x5_1 S H locs ls hP hD hS (lv_sub hl [1, 2, 3, 0] rfl) hf
def f_Nt_leftRound_12   : Nat → Int32 → Int32 → Int32 → St → Option (Int32 × St)
  | 0 => fun _ _ _ _ => none
  | n + 1 => fun x3 x4 x5 S => (if (gi S 4) < x5 then
      f_Nt_leftRound_53   x3 S
      else
      (if x4 ≤ 0 then
        f_Nt_leftRound_53   x3 S
        else
        bd (f_Nt_leftOf x3 S) (fun q_3 => bd (f_Nt_endOf q_3.1 q_3.2) (fun q_4 => (if q_4.1 = (gi q_4.2 4) then
          f_Nt_leftRound_47  (f_Nt_leftRound_12  n) q_3.1 x4 x5 q_4.2
          else
          bn (x4 + (-1)) (fun x4_6 => f_Nt_leftRound_47  (f_Nt_leftRound_12  n) q_3.1 x4_6 x5 q_4.2))))))
set_option maxHeartbeats 4000000 in
set_option maxRecDepth 100000 in
theorem w_Nt_leftRound_12 (C0 : CX p s m args c b_Nt_leftRound 6 R_Nt w_Nt_leftRound D clC cA cP A) {res : (Int32 × St)} (hret : RTi p l e rm_Nt_leftRound s m args below meth c Q D clC A b_Nt_leftRound 0 0 (fun r w => r = res.1 ∧ w = cw cA cP ob ad res.2))    : ∀ (n : Nat) (x3 : Int32) (x4 : Int32) (x5 : Int32) (S : St) (H : Heap) (locs : List Loc) (ls : Array Slot), va_P D clC (cw cA cP ob ad S) H → va_D A (cw cA cP ob ad S) → va_S A s.heap H locs → lv_has ls 6 [(0, .ref (ob 3)), (3, .int x3), (4, .int x4), (5, .int x5)] → f_Nt_leftRound_12   n x3 x4 x5 S = some res → W p l e rm_Nt_leftRound s m args below meth c H locs 0 0 Q (F0 m 12 ls []) := by
  obtain ⟨hx, hb, hml, hown, hts, hK, hA, hN, hZ⟩ := id C0
  intro n
  induction n with
  | zero =>
    intro x3 x4 x5 S H locs ls hP hD hS hl hf
    cases hf
  | succ n ih =>
    intro x3 x4 x5 S H locs ls hP hD hS hl hf
    rw [f_Nt_leftRound_12] at hf
    try dsimp only at hf
    refine lv_iload hx hb d_Nt_leftRound_12 (lv_at hl 3 rfl) ?_
    refine lv_aload_n hx hb d_Nt_leftRound_14 rfl (lv_at hl 0 rfl) ?_
    refine va_get (D := D) (ci := 3) (v := .int (gi S 4)) (C := R_Nt) (T := F_Nt) (N := 13) hx hb hts (fun w h => List.mem_cons_of_mem _ (in_Nt w h)) hown hK hP 3 rfl rfl 1 (by decide) (hts _ (List.mem_cons_of_mem _ wd_159)) (fun _ h9 => h9) rfl d_Nt_leftRound_15 ?_
    refine lv_icmp_gt (tgt := 53) hx hb d_Nt_leftRound_18 (by decide) (fun c_1 => ?_) (fun c_1 => ?_)
    · rw [if_pos c_1] at hf
      exact w_Nt_leftRound_53 C0 hret    x3 S H locs ls hP hD hS (lv_sub hl [0, 1] rfl) hf
    · rw [if_neg c_1] at hf
      refine lv_iload hx hb d_Nt_leftRound_21 (lv_at hl 2 rfl) ?_
      refine lv_if_le (tgt := 53) hx hb d_Nt_leftRound_23 (by decide) (fun c_2 => ?_) (fun c_2 => ?_)
      · rw [if_pos c_2] at hf
        exact w_Nt_leftRound_53 C0 hret    x3 S H locs ls hP hD hS (lv_sub hl [0, 1] rfl) hf
      · rw [if_neg c_2] at hf
        refine lv_aload_n hx hb d_Nt_leftRound_26 rfl (lv_at hl 0 rfl) ?_
        refine lv_iload_n hx hb d_Nt_leftRound_27 rfl (lv_at hl 1 rfl) ?_
        obtain ⟨q_3, hq_3, hf⟩ := bd_some hf
        refine kc_i (va_runV (As := [.int x3]) (rest := []) ⟨hx, hb, hml, hown, hts⟩ (c_Nt_leftOf l D cA cP ob ad x3  S hq_3 H.size) ⟨callB_of 1 hts (gd_Nt_leftOf) rfl rfl rfl (hts _ (List.mem_cons_of_mem _ wd_69)) (hts _ (List.mem_cons_of_mem _ wd_384)) dd_Nt_leftOf ⟨Nat.le_of_ble_eq_true rfl, Nat.le_of_ble_eq_true rfl⟩, (hts _ (List.mem_cons_of_mem _ wd_386)), (hts _ (List.mem_cons_of_mem _ wd_9))⟩ (kpV hK hP hD hN hZ hS 3 3 rfl rfl) rfl rfl hl.1 rfl (lv_room (Nat.le_of_ble_eq_true rfl)) d_Nt_leftRound_28 ⟨Nat.le_of_ble_eq_true rfl, Nat.le_of_ble_eq_true rfl⟩) hP hD hS hA (fun r w H locs hw hP hD hS => ?_)
        obtain ⟨rfl, rfl⟩ := hw
        refine lv_istore_n (lv' := [(3, .int q_3.1), (0, .ref (ob 3)), (4, .int x4), (5, .int x5)]) hx hb d_Nt_leftRound_31 rfl hl (by decide) rfl (fun ls hl => ?_)
        refine lv_aload_n hx hb d_Nt_leftRound_32 rfl (lv_at hl 1 rfl) ?_
        refine lv_iload_n hx hb d_Nt_leftRound_33 rfl (lv_at hl 0 rfl) ?_
        obtain ⟨q_4, hq_4, hf⟩ := bd_some hf
        refine kc_i (va_runV (As := [.int q_3.1]) (rest := []) ⟨hx, hb, hml, hown, hts⟩ (c_Nt_endOf l D cA cP ob ad q_3.1  q_3.2 hq_4 H.size) ⟨callB_of 1 hts (gd_Nt_endOf) rfl rfl rfl (hts _ (List.mem_cons_of_mem _ wd_69)) (hts _ (List.mem_cons_of_mem _ wd_377)) dd_Nt_endOf ⟨Nat.le_of_ble_eq_true rfl, Nat.le_of_ble_eq_true rfl⟩, (hts _ (List.mem_cons_of_mem _ wd_378)), (hts _ (List.mem_cons_of_mem _ wd_379))⟩ (kpV hK hP hD hN hZ hS 3 3 rfl rfl) rfl rfl hl.1 rfl (lv_room (Nat.le_of_ble_eq_true rfl)) d_Nt_leftRound_34 ⟨Nat.le_of_ble_eq_true rfl, Nat.le_of_ble_eq_true rfl⟩) hP hD hS hA (fun r w H locs hw hP hD hS => ?_)
        obtain ⟨rfl, rfl⟩ := hw
        refine lv_aload_n hx hb d_Nt_leftRound_37 rfl (lv_at hl 1 rfl) ?_
        refine va_get (D := D) (ci := 3) (v := .int (gi q_4.2 4)) (C := R_Nt) (T := F_Nt) (N := 13) hx hb hts (fun w h => List.mem_cons_of_mem _ (in_Nt w h)) hown hK hP 3 rfl rfl 1 (by decide) (hts _ (List.mem_cons_of_mem _ wd_159)) (fun _ h9 => h9) rfl d_Nt_leftRound_38 ?_
        refine lv_icmp_eq (tgt := 47) hx hb d_Nt_leftRound_41 (by decide) (fun c_5 => ?_) (fun c_5 => ?_)
        · rw [if_pos c_5] at hf
          exact w_Nt_leftRound_47 C0 hret   (f_Nt_leftRound_12  n) ih q_3.1 x4 x5 q_4.2 H locs ls hP hD hS (lv_sub hl [1, 0, 2, 3] rfl) hf
        · rw [if_neg c_5] at hf
          obtain ⟨x4_6, ex4_6, hf⟩ := bn_some hf
          refine lv_iinc (v := x4_6) (lv' := [(4, .int x4_6), (3, .int q_3.1), (0, .ref (ob 3)), (5, .int x5)]) hx hb d_Nt_leftRound_44 hl (k := 2) rfl (by rw [ex4_6]; rfl) (by decide) rfl (fun ls hl => ?_)
          exact w_Nt_leftRound_47 C0 hret   (f_Nt_leftRound_12  n) ih q_3.1 x4_6 x5 q_4.2 H locs ls hP hD hS (lv_sub hl [2, 1, 0, 3] rfl) hf
def f_Nt_leftRound_0   (x1 : Int32) (x2 : Int32) (S : St) : Option (Int32 × St) :=
  bd (f_Nt_lowestFrom x1 S) (fun q_1 => f_Nt_leftRound_12   FU q_1.1 x2 0 q_1.2)
set_option maxHeartbeats 4000000 in
set_option maxRecDepth 100000 in
theorem w_Nt_leftRound_0 (C0 : CX p s m args c b_Nt_leftRound 6 R_Nt w_Nt_leftRound D clC cA cP A) {res : (Int32 × St)} (hret : RTi p l e rm_Nt_leftRound s m args below meth c Q D clC A b_Nt_leftRound 0 0 (fun r w => r = res.1 ∧ w = cw cA cP ob ad res.2))    : ∀ (x1 : Int32) (x2 : Int32) (S : St) (H : Heap) (locs : List Loc) (ls : Array Slot), va_P D clC (cw cA cP ob ad S) H → va_D A (cw cA cP ob ad S) → va_S A s.heap H locs → lv_has ls 6 [(0, .ref (ob 3)), (1, .int x1), (2, .int x2)] → f_Nt_leftRound_0   x1 x2 S = some res → W p l e rm_Nt_leftRound s m args below meth c H locs 0 0 Q (F0 m 0 ls []) := by
  obtain ⟨hx, hb, hml, hown, hts, hK, hA, hN, hZ⟩ := id C0
  intro x1 x2 S H locs ls hP hD hS hl hf
  rw [f_Nt_leftRound_0] at hf
  refine lv_aload_n hx hb d_Nt_leftRound_0 rfl (lv_at hl 0 rfl) ?_
  refine lv_iload_n hx hb d_Nt_leftRound_1 rfl (lv_at hl 1 rfl) ?_
  obtain ⟨q_1, hq_1, hf⟩ := bd_some hf
  refine kc_i (va_runV (As := [.int x1]) (rest := []) ⟨hx, hb, hml, hown, hts⟩ (c_Nt_lowestFrom l D cA cP ob ad x1  S hq_1 H.size) ⟨callB_of 1 hts (gd_Nt_lowestFrom) rfl rfl rfl (hts _ (List.mem_cons_of_mem _ wd_69)) (hts _ (List.mem_cons_of_mem _ wd_751)) dd_Nt_lowestFrom ⟨Nat.le_of_ble_eq_true rfl, Nat.le_of_ble_eq_true rfl⟩, (hts _ (List.mem_cons_of_mem _ wd_753)), (hts _ (List.mem_cons_of_mem _ wd_30))⟩ (kpV hK hP hD hN hZ hS 3 3 rfl rfl) rfl rfl hl.1 rfl (lv_room (Nat.le_of_ble_eq_true rfl)) d_Nt_leftRound_2 ⟨Nat.le_of_ble_eq_true rfl, Nat.le_of_ble_eq_true rfl⟩) hP hD hS hA (fun r w H locs hw hP hD hS => ?_)
  obtain ⟨rfl, rfl⟩ := hw
  refine lv_istore_n (lv' := [(3, .int q_1.1), (0, .ref (ob 3)), (1, .int x1), (2, .int x2)]) hx hb d_Nt_leftRound_5 rfl hl (by decide) rfl (fun ls hl => ?_)
  refine lv_iload_n hx hb d_Nt_leftRound_6 rfl (lv_at hl 3 rfl) ?_
  refine lv_istore (lv' := [(4, .int x2), (3, .int q_1.1), (0, .ref (ob 3)), (1, .int x1), (2, .int x2)]) hx hb d_Nt_leftRound_7 hl (by decide) rfl (fun ls hl => ?_)
  refine lv_iconst (v := 0) hx hb d_Nt_leftRound_9 (by decide) ?_
  refine lv_istore (lv' := [(5, .int 0), (4, .int x2), (3, .int q_1.1), (0, .ref (ob 3)), (1, .int x1), (2, .int x2)]) hx hb d_Nt_leftRound_10 hl (by decide) rfl (fun ls hl => ?_)
  exact w_Nt_leftRound_12 C0 hret    FU q_1.1 x2 0 q_1.2 H locs ls hP hD hS (lv_sub hl [3, 2, 1, 0] rfl) hf
def f_Nt_leftRound (x1 : Int32) (x2 : Int32) (S : St) : Option (Int32 × St) := f_Nt_leftRound_0  x1 x2 S
theorem c_Nt_leftRound (l : Launch) (D : va_G) (cA cP : ClassId) (ob : Nat → Nat) (ad : Nat → Nat → Nat) (x1 : Int32) (x2 : Int32)  (S : St) {res : (Int32 × St)} (hf : f_Nt_leftRound x1 x2 S = some res) : CTi l y_Nt_leftRound w_Nt_leftRound rm_Nt_leftRound 0 0 D clC (TY cA cP) [.ref (ob 3), .int x1, .int x2] (cw cA cP ob ad S) (fun r w => r = res.1 ∧ w = cw cA cP ob ad res.2) :=
  mk_i (cc := b_Nt_leftRound) (maxL := 6) (own := R_Nt) (by decide) rfl rfl (Nat.le_of_ble_eq_true rfl) (fun p e s m below meth c A Q C0 hret ls hl hP hD hS => w_Nt_leftRound_0 C0 hret   x1 x2 S _ _ ls hP hD hS (lv_sub hl [0, 1, 2] rfl) hf)
end
