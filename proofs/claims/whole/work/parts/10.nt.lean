section
variable {p : Program} {l : Launch} {e : Env} {s : State} {m : MethodId} {args : Array Value} {below : List Frame} {meth : Method} {c : Code} {Q : State → Prop} {D : va_G} {cA cP : ClassId} {ob : Nat → Nat} {ad : Nat → Nat → Nat} {A : Nat → Prop}
def f_Nt_begin_0   (x1 : Int32) (x2 : Int32) (x3 : Int32) (S : St) : Option St :=
  bn (seti S 6 4) (fun S_1 => bn (seti S_1 7 3) (fun S_2 => bd (f_Nt_setTriangle 0 x1 x2 x3 S_2) (fun q_3 => bd (f_Nt_setTriangle 1 x2 x1 (gi q_3 4) q_3) (fun q_4 => bd (f_Nt_setTriangle 2 x3 x2 (gi q_4 4) q_4) (fun q_5 => bd (f_Nt_setTriangle 3 x1 x3 (gi q_5 4) q_5) (fun q_6 => bd (f_Nt_join 0 3 q_6) (fun q_7 => bd (f_Nt_join 1 6 q_7) (fun q_8 => bd (f_Nt_join 2 9 q_8) (fun q_9 => bd (f_Nt_join 4 11 q_9) (fun q_10 => bd (f_Nt_join 7 5 q_10) (fun q_11 => bd (f_Nt_join 10 8 q_11) (fun q_12 => some q_12))))))))))))
set_option maxHeartbeats 4000000 in
set_option maxRecDepth 100000 in
theorem w_Nt_begin_0 (C0 : CX p s m args c b_Nt_begin 4 R_Nt w_Nt_begin D clC cA cP A) {res : St} (hret : RTv p l e rm_Nt_begin s m args below meth c Q D clC A b_Nt_begin 0 0 (fun w => w = cw cA cP ob ad res))    : ∀ (x1 : Int32) (x2 : Int32) (x3 : Int32) (S : St) (H : Heap) (locs : List Loc) (ls : Array Slot), va_P D clC (cw cA cP ob ad S) H → va_D A (cw cA cP ob ad S) → va_S A s.heap H locs → lv_has ls 4 [(0, .ref (ob 3)), (1, .int x1), (2, .int x2), (3, .int x3)] → f_Nt_begin_0   x1 x2 x3 S = some res → W p l e rm_Nt_begin s m args below meth c H locs 0 0 Q (F0 m 0 ls []) := by
  obtain ⟨hx, hb, hml, hown, hts, hK, hA, hN, hZ⟩ := id C0
  intro x1 x2 x3 S H locs ls hP hD hS hl hf
  rw [f_Nt_begin_0] at hf
  refine lv_aload_n hx hb d_Nt_begin_0 rfl (lv_at hl 0 rfl) ?_
  refine lv_iconst (v := 4) hx hb d_Nt_begin_1 (by decide) ?_
  obtain ⟨S_1, eS_1, hf⟩ := bn_some hf
  refine va_put (D := D) (ci := 3) (v := .int 4) (ty := .int) (C := R_Nt) (T := F_Nt) (N := 13) hx hb hts (fun w h => List.mem_cons_of_mem _ (in_Nt w h)) t_Nt tk_Nt nk_Nt hown hK hP hD hS 3 rfl rfl 9 (by decide) (hts _ (List.mem_cons_of_mem _ wd_167)) (fun _ h9 => h9) rfl (by decide +kernel) rfl rfl (Nat.le_of_ble_eq_true rfl) d_Nt_begin_2 (fun H locs hP hD hS => ?_)
  have hP : va_P D clC (cw cA cP ob ad S_1) H := by rw [eS_1]; exact hP
  have hD : va_D A (cw cA cP ob ad S_1) := by rw [eS_1]; exact hD
  refine lv_aload_n hx hb d_Nt_begin_5 rfl (lv_at hl 0 rfl) ?_
  refine lv_iconst (v := 3) hx hb d_Nt_begin_6 (by decide) ?_
  obtain ⟨S_2, eS_2, hf⟩ := bn_some hf
  refine va_put (D := D) (ci := 3) (v := .int 3) (ty := .int) (C := R_Nt) (T := F_Nt) (N := 13) hx hb hts (fun w h => List.mem_cons_of_mem _ (in_Nt w h)) t_Nt tk_Nt nk_Nt hown hK hP hD hS 3 rfl rfl 10 (by decide) (hts _ (List.mem_cons_of_mem _ wd_168)) (fun _ h9 => h9) rfl (by decide +kernel) rfl rfl (Nat.le_of_ble_eq_true rfl) d_Nt_begin_7 (fun H locs hP hD hS => ?_)
  have hP : va_P D clC (cw cA cP ob ad S_2) H := by rw [eS_2]; exact hP
  have hD : va_D A (cw cA cP ob ad S_2) := by rw [eS_2]; exact hD
  refine lv_aload_n hx hb d_Nt_begin_10 rfl (lv_at hl 0 rfl) ?_
  refine lv_iconst (v := 0) hx hb d_Nt_begin_11 (by decide) ?_
  refine lv_iload_n hx hb d_Nt_begin_12 rfl (lv_at hl 1 rfl) ?_
  refine lv_iload_n hx hb d_Nt_begin_13 rfl (lv_at hl 2 rfl) ?_
  refine lv_iload_n hx hb d_Nt_begin_14 rfl (lv_at hl 3 rfl) ?_
  obtain ⟨q_3, hq_3, hf⟩ := bd_some hf
  refine kc_v (va_runV (As := [.int 0, .int x1, .int x2, .int x3]) (rest := []) ⟨hx, hb, hml, hown, hts⟩ (c_Nt_setTriangle l D cA cP ob ad 0 x1 x2 x3  S_2 hq_3 H.size) ⟨callB_of 4 hts (gd_Nt_setTriangle) rfl rfl rfl (hts _ (List.mem_cons_of_mem _ wd_69)) (hts _ (List.mem_cons_of_mem _ wd_578)) dd_Nt_setTriangle ⟨Nat.le_of_ble_eq_true rfl, Nat.le_of_ble_eq_true rfl⟩, (hts _ (List.mem_cons_of_mem _ wd_580)), (hts _ (List.mem_cons_of_mem _ wd_15))⟩ (kpV hK hP hD hN hZ hS 3 3 rfl rfl) rfl rfl hl.1 rfl (lv_room (Nat.le_of_ble_eq_true rfl)) d_Nt_begin_15 ⟨Nat.le_of_ble_eq_true rfl, Nat.le_of_ble_eq_true rfl⟩) hP hD hS hA (fun w H locs hw hP hD hS => ?_)
  obtain rfl := hw
  refine lv_aload_n hx hb d_Nt_begin_18 rfl (lv_at hl 0 rfl) ?_
  refine lv_iconst (v := 1) hx hb d_Nt_begin_19 (by decide) ?_
  refine lv_iload_n hx hb d_Nt_begin_20 rfl (lv_at hl 2 rfl) ?_
  refine lv_iload_n hx hb d_Nt_begin_21 rfl (lv_at hl 1 rfl) ?_
  refine lv_aload_n hx hb d_Nt_begin_22 rfl (lv_at hl 0 rfl) ?_
  refine va_get (D := D) (ci := 3) (v := .int (gi q_3 4)) (C := R_Nt) (T := F_Nt) (N := 13) hx hb hts (fun w h => List.mem_cons_of_mem _ (in_Nt w h)) hown hK hP 3 rfl rfl 1 (by decide) (hts _ (List.mem_cons_of_mem _ wd_159)) (fun _ h9 => h9) rfl d_Nt_begin_23 ?_
  obtain ⟨q_4, hq_4, hf⟩ := bd_some hf
  refine kc_v (va_runV (As := [.int 1, .int x2, .int x1, .int (gi q_3 4)]) (rest := []) ⟨hx, hb, hml, hown, hts⟩ (c_Nt_setTriangle l D cA cP ob ad 1 x2 x1 (gi q_3 4)  q_3 hq_4 H.size) ⟨callB_of 4 hts (gd_Nt_setTriangle) rfl rfl rfl (hts _ (List.mem_cons_of_mem _ wd_69)) (hts _ (List.mem_cons_of_mem _ wd_578)) dd_Nt_setTriangle ⟨Nat.le_of_ble_eq_true rfl, Nat.le_of_ble_eq_true rfl⟩, (hts _ (List.mem_cons_of_mem _ wd_580)), (hts _ (List.mem_cons_of_mem _ wd_15))⟩ (kpV hK hP hD hN hZ hS 3 3 rfl rfl) rfl rfl hl.1 rfl (lv_room (Nat.le_of_ble_eq_true rfl)) d_Nt_begin_26 ⟨Nat.le_of_ble_eq_true rfl, Nat.le_of_ble_eq_true rfl⟩) hP hD hS hA (fun w H locs hw hP hD hS => ?_)
  obtain rfl := hw
  refine lv_aload_n hx hb d_Nt_begin_29 rfl (lv_at hl 0 rfl) ?_
  refine lv_iconst (v := 2) hx hb d_Nt_begin_30 (by decide) ?_
  refine lv_iload_n hx hb d_Nt_begin_31 rfl (lv_at hl 3 rfl) ?_
  refine lv_iload_n hx hb d_Nt_begin_32 rfl (lv_at hl 2 rfl) ?_
  refine lv_aload_n hx hb d_Nt_begin_33 rfl (lv_at hl 0 rfl) ?_
  refine va_get (D := D) (ci := 3) (v := .int (gi q_4 4)) (C := R_Nt) (T := F_Nt) (N := 13) hx hb hts (fun w h => List.mem_cons_of_mem _ (in_Nt w h)) hown hK hP 3 rfl rfl 1 (by decide) (hts _ (List.mem_cons_of_mem _ wd_159)) (fun _ h9 => h9) rfl d_Nt_begin_34 ?_
  obtain ⟨q_5, hq_5, hf⟩ := bd_some hf
  refine kc_v (va_runV (As := [.int 2, .int x3, .int x2, .int (gi q_4 4)]) (rest := []) ⟨hx, hb, hml, hown, hts⟩ (c_Nt_setTriangle l D cA cP ob ad 2 x3 x2 (gi q_4 4)  q_4 hq_5 H.size) ⟨callB_of 4 hts (gd_Nt_setTriangle) rfl rfl rfl (hts _ (List.mem_cons_of_mem _ wd_69)) (hts _ (List.mem_cons_of_mem _ wd_578)) dd_Nt_setTriangle ⟨Nat.le_of_ble_eq_true rfl, Nat.le_of_ble_eq_true rfl⟩, (hts _ (List.mem_cons_of_mem _ wd_580)), (hts _ (List.mem_cons_of_mem _ wd_15))⟩ (kpV hK hP hD hN hZ hS 3 3 rfl rfl) rfl rfl hl.1 rfl (lv_room (Nat.le_of_ble_eq_true rfl)) d_Nt_begin_37 ⟨Nat.le_of_ble_eq_true rfl, Nat.le_of_ble_eq_true rfl⟩) hP hD hS hA (fun w H locs hw hP hD hS => ?_)
  obtain rfl := hw
  refine lv_aload_n hx hb d_Nt_begin_40 rfl (lv_at hl 0 rfl) ?_
  refine lv_iconst (v := 3) hx hb d_Nt_begin_41 (by decide) ?_
  refine lv_iload_n hx hb d_Nt_begin_42 rfl (lv_at hl 1 rfl) ?_
  refine lv_iload_n hx hb d_Nt_begin_43 rfl (lv_at hl 3 rfl) ?_
  refine lv_aload_n hx hb d_Nt_begin_44 rfl (lv_at hl 0 rfl) ?_
  refine va_get (D := D) (ci := 3) (v := .int (gi q_5 4)) (C := R_Nt) (T := F_Nt) (N := 13) hx hb hts (fun w h => List.mem_cons_of_mem _ (in_Nt w h)) hown hK hP 3 rfl rfl 1 (by decide) (hts _ (List.mem_cons_of_mem _ wd_159)) (fun _ h9 => h9) rfl d_Nt_begin_45 ?_
  obtain ⟨q_6, hq_6, hf⟩ := bd_some hf
  refine kc_v (va_runV (As := [.int 3, .int x1, .int x3, .int (gi q_5 4)]) (rest := []) ⟨hx, hb, hml, hown, hts⟩ (c_Nt_setTriangle l D cA cP ob ad 3 x1 x3 (gi q_5 4)  q_5 hq_6 H.size) ⟨callB_of 4 hts (gd_Nt_setTriangle) rfl rfl rfl (hts _ (List.mem_cons_of_mem _ wd_69)) (hts _ (List.mem_cons_of_mem _ wd_578)) dd_Nt_setTriangle ⟨Nat.le_of_ble_eq_true rfl, Nat.le_of_ble_eq_true rfl⟩, (hts _ (List.mem_cons_of_mem _ wd_580)), (hts _ (List.mem_cons_of_mem _ wd_15))⟩ (kpV hK hP hD hN hZ hS 3 3 rfl rfl) rfl rfl hl.1 rfl (lv_room (Nat.le_of_ble_eq_true rfl)) d_Nt_begin_48 ⟨Nat.le_of_ble_eq_true rfl, Nat.le_of_ble_eq_true rfl⟩) hP hD hS hA (fun w H locs hw hP hD hS => ?_)
  obtain rfl := hw
  refine lv_aload_n hx hb d_Nt_begin_51 rfl (lv_at hl 0 rfl) ?_
  refine lv_iconst (v := 0) hx hb d_Nt_begin_52 (by decide) ?_
  refine lv_iconst (v := 3) hx hb d_Nt_begin_53 (by decide) ?_
  obtain ⟨q_7, hq_7, hf⟩ := bd_some hf
  refine kc_v (va_runV (As := [.int 0, .int 3]) (rest := []) ⟨hx, hb, hml, hown, hts⟩ (c_Nt_join l D cA cP ob ad 0 3  q_6 hq_7 H.size) ⟨callB_of 2 hts (gd_Nt_join) rfl rfl rfl (hts _ (List.mem_cons_of_mem _ wd_69)) (hts _ (List.mem_cons_of_mem _ wd_583)) dd_Nt_join ⟨Nat.le_of_ble_eq_true rfl, Nat.le_of_ble_eq_true rfl⟩, (hts _ (List.mem_cons_of_mem _ wd_585)), (hts _ (List.mem_cons_of_mem _ wd_16))⟩ (kpV hK hP hD hN hZ hS 3 3 rfl rfl) rfl rfl hl.1 rfl (lv_room (Nat.le_of_ble_eq_true rfl)) d_Nt_begin_54 ⟨Nat.le_of_ble_eq_true rfl, Nat.le_of_ble_eq_true rfl⟩) hP hD hS hA (fun w H locs hw hP hD hS => ?_)
  obtain rfl := hw
  refine lv_aload_n hx hb d_Nt_begin_57 rfl (lv_at hl 0 rfl) ?_
  refine lv_iconst (v := 1) hx hb d_Nt_begin_58 (by decide) ?_
  refine lv_bipush (v := 6) hx hb d_Nt_begin_59 (by decide) ?_
  obtain ⟨q_8, hq_8, hf⟩ := bd_some hf
  refine kc_v (va_runV (As := [.int 1, .int 6]) (rest := []) ⟨hx, hb, hml, hown, hts⟩ (c_Nt_join l D cA cP ob ad 1 6  q_7 hq_8 H.size) ⟨callB_of 2 hts (gd_Nt_join) rfl rfl rfl (hts _ (List.mem_cons_of_mem _ wd_69)) (hts _ (List.mem_cons_of_mem _ wd_583)) dd_Nt_join ⟨Nat.le_of_ble_eq_true rfl, Nat.le_of_ble_eq_true rfl⟩, (hts _ (List.mem_cons_of_mem _ wd_585)), (hts _ (List.mem_cons_of_mem _ wd_16))⟩ (kpV hK hP hD hN hZ hS 3 3 rfl rfl) rfl rfl hl.1 rfl (lv_room (Nat.le_of_ble_eq_true rfl)) d_Nt_begin_61 ⟨Nat.le_of_ble_eq_true rfl, Nat.le_of_ble_eq_true rfl⟩) hP hD hS hA (fun w H locs hw hP hD hS => ?_)
  obtain rfl := hw
  refine lv_aload_n hx hb d_Nt_begin_64 rfl (lv_at hl 0 rfl) ?_
  refine lv_iconst (v := 2) hx hb d_Nt_begin_65 (by decide) ?_
  refine lv_bipush (v := 9) hx hb d_Nt_begin_66 (by decide) ?_
  obtain ⟨q_9, hq_9, hf⟩ := bd_some hf
  refine kc_v (va_runV (As := [.int 2, .int 9]) (rest := []) ⟨hx, hb, hml, hown, hts⟩ (c_Nt_join l D cA cP ob ad 2 9  q_8 hq_9 H.size) ⟨callB_of 2 hts (gd_Nt_join) rfl rfl rfl (hts _ (List.mem_cons_of_mem _ wd_69)) (hts _ (List.mem_cons_of_mem _ wd_583)) dd_Nt_join ⟨Nat.le_of_ble_eq_true rfl, Nat.le_of_ble_eq_true rfl⟩, (hts _ (List.mem_cons_of_mem _ wd_585)), (hts _ (List.mem_cons_of_mem _ wd_16))⟩ (kpV hK hP hD hN hZ hS 3 3 rfl rfl) rfl rfl hl.1 rfl (lv_room (Nat.le_of_ble_eq_true rfl)) d_Nt_begin_68 ⟨Nat.le_of_ble_eq_true rfl, Nat.le_of_ble_eq_true rfl⟩) hP hD hS hA (fun w H locs hw hP hD hS => ?_)
  obtain rfl := hw
  refine lv_aload_n hx hb d_Nt_begin_71 rfl (lv_at hl 0 rfl) ?_
  refine lv_iconst (v := 4) hx hb d_Nt_begin_72 (by decide) ?_
  refine lv_bipush (v := 11) hx hb d_Nt_begin_73 (by decide) ?_
  obtain ⟨q_10, hq_10, hf⟩ := bd_some hf
  refine kc_v (va_runV (As := [.int 4, .int 11]) (rest := []) ⟨hx, hb, hml, hown, hts⟩ (c_Nt_join l D cA cP ob ad 4 11  q_9 hq_10 H.size) ⟨callB_of 2 hts (gd_Nt_join) rfl rfl rfl (hts _ (List.mem_cons_of_mem _ wd_69)) (hts _ (List.mem_cons_of_mem _ wd_583)) dd_Nt_join ⟨Nat.le_of_ble_eq_true rfl, Nat.le_of_ble_eq_true rfl⟩, (hts _ (List.mem_cons_of_mem _ wd_585)), (hts _ (List.mem_cons_of_mem _ wd_16))⟩ (kpV hK hP hD hN hZ hS 3 3 rfl rfl) rfl rfl hl.1 rfl (lv_room (Nat.le_of_ble_eq_true rfl)) d_Nt_begin_75 ⟨Nat.le_of_ble_eq_true rfl, Nat.le_of_ble_eq_true rfl⟩) hP hD hS hA (fun w H locs hw hP hD hS => ?_)
  obtain rfl := hw
  refine lv_aload_n hx hb d_Nt_begin_78 rfl (lv_at hl 0 rfl) ?_
  refine lv_bipush (v := 7) hx hb d_Nt_begin_79 (by decide) ?_
  refine lv_iconst (v := 5) hx hb d_Nt_begin_81 (by decide) ?_
  obtain ⟨q_11, hq_11, hf⟩ := bd_some hf
  refine kc_v (va_runV (As := [.int 7, .int 5]) (rest := []) ⟨hx, hb, hml, hown, hts⟩ (c_Nt_join l D cA cP ob ad 7 5  q_10 hq_11 H.size) ⟨callB_of 2 hts (gd_Nt_join) rfl rfl rfl (hts _ (List.mem_cons_of_mem _ wd_69)) (hts _ (List.mem_cons_of_mem _ wd_583)) dd_Nt_join ⟨Nat.le_of_ble_eq_true rfl, Nat.le_of_ble_eq_true rfl⟩, (hts _ (List.mem_cons_of_mem _ wd_585)), (hts _ (List.mem_cons_of_mem _ wd_16))⟩ (kpV hK hP hD hN hZ hS 3 3 rfl rfl) rfl rfl hl.1 rfl (lv_room (Nat.le_of_ble_eq_true rfl)) d_Nt_begin_82 ⟨Nat.le_of_ble_eq_true rfl, Nat.le_of_ble_eq_true rfl⟩) hP hD hS hA (fun w H locs hw hP hD hS => ?_)
  obtain rfl := hw
  refine lv_aload_n hx hb d_Nt_begin_85 rfl (lv_at hl 0 rfl) ?_
  refine lv_bipush (v := 10) hx hb d_Nt_begin_86 (by decide) ?_
  refine lv_bipush (v := 8) hx hb d_Nt_begin_88 (by decide) ?_
  obtain ⟨q_12, hq_12, hf⟩ := bd_some hf
  refine kc_v (va_runV (As := [.int 10, .int 8]) (rest := []) ⟨hx, hb, hml, hown, hts⟩ (c_Nt_join l D cA cP ob ad 10 8  q_11 hq_12 H.size) ⟨callB_of 2 hts (gd_Nt_join) rfl rfl rfl (hts _ (List.mem_cons_of_mem _ wd_69)) (hts _ (List.mem_cons_of_mem _ wd_583)) dd_Nt_join ⟨Nat.le_of_ble_eq_true rfl, Nat.le_of_ble_eq_true rfl⟩, (hts _ (List.mem_cons_of_mem _ wd_585)), (hts _ (List.mem_cons_of_mem _ wd_16))⟩ (kpV hK hP hD hN hZ hS 3 3 rfl rfl) rfl rfl hl.1 rfl (lv_room (Nat.le_of_ble_eq_true rfl)) d_Nt_begin_90 ⟨Nat.le_of_ble_eq_true rfl, Nat.le_of_ble_eq_true rfl⟩) hP hD hS hA (fun w H locs hw hP hD hS => ?_)
  obtain rfl := hw
  cases hf
  exact hret _ _ _ _ _ rfl hP hD hS d_Nt_begin_93
def f_Nt_begin (x1 : Int32) (x2 : Int32) (x3 : Int32) (S : St) : Option St := f_Nt_begin_0  x1 x2 x3 S
theorem c_Nt_begin (l : Launch) (D : va_G) (cA cP : ClassId) (ob : Nat → Nat) (ad : Nat → Nat → Nat) (x1 : Int32) (x2 : Int32) (x3 : Int32)  (S : St) {res : St} (hf : f_Nt_begin x1 x2 x3 S = some res) : CTv l y_Nt_begin w_Nt_begin rm_Nt_begin 0 0 D clC (TY cA cP) [.ref (ob 3), .int x1, .int x2, .int x3] (cw cA cP ob ad S) (fun w => w = cw cA cP ob ad res) :=
  mk_v (cc := b_Nt_begin) (maxL := 4) (own := R_Nt) (by decide) rfl rfl (Nat.le_of_ble_eq_true rfl) (fun p e s m below meth c A Q C0 hret ls hl hP hD hS => w_Nt_begin_0 C0 hret   x1 x2 x3 S _ _ ls hP hD hS (lv_sub hl [0, 1, 2, 3] rfl) hf)
def f_Nt_isOuter_55    (S : St) : Option (Int32 × St) :=
  some (1, S)
set_option maxHeartbeats 4000000 in
set_option maxRecDepth 100000 in
theorem w_Nt_isOuter_55 (C0 : CX p s m args c b_Nt_isOuter 3 R_Nt w_Nt_isOuter D clC cA cP A) {res : (Int32 × St)} (hret : RTz p l e rm_Nt_isOuter s m args below meth c Q D clC A b_Nt_isOuter 0 0 (fun r w => r = res.1 ∧ w = cw cA cP ob ad res.2))    : ∀  (S : St) (H : Heap) (locs : List Loc) (ls : Array Slot), va_P D clC (cw cA cP ob ad S) H → va_D A (cw cA cP ob ad S) → va_S A s.heap H locs → lv_has ls 3 [] → f_Nt_isOuter_55    S = some res → W p l e rm_Nt_isOuter s m args below meth c H locs 0 0 Q (F0 m 55 ls []) := by
  obtain ⟨hx, hb, hml, hown, hts, hK, hA, hN, hZ⟩ := id C0
  intro  S H locs ls hP hD hS hl hf
  rw [f_Nt_isOuter_55] at hf
  refine lv_iconst (v := 1) hx hb d_Nt_isOuter_55 (by decide) ?_
  refine lv_goto (tgt := 60) hx hb d_Nt_isOuter_56 (by decide) ?_
  cases hf
  exact hret _ _ _ _ _ _ ⟨rfl, rfl⟩ rfl hP hD hS d_Nt_isOuter_60
def f_Nt_isOuter_0   (x1 : Int32) (S : St) : Option (Int32 × St) :=
  bn (x1 - (x1 - x1 / 3 * 3)) (fun x2_1 => bd (f_Rw_get 8 x2_1 S) (fun q_2 => (if q_2.1 = (gi q_2.2 4) then
    f_Nt_isOuter_55    q_2.2
    else
    bd (f_Rw_get 8 (x2_1 + 1) q_2.2) (fun q_4 => (if q_4.1 = (gi q_4.2 4) then
      f_Nt_isOuter_55    q_4.2
      else
      bd (f_Rw_get 8 (x2_1 + 2) q_4.2) (fun q_6 => (if q_6.1 = (gi q_6.2 4) then
        f_Nt_isOuter_55    q_6.2
        else
        some (0, q_6.2))))))))
set_option maxHeartbeats 4000000 in
set_option maxRecDepth 100000 in
theorem w_Nt_isOuter_0 (C0 : CX p s m args c b_Nt_isOuter 3 R_Nt w_Nt_isOuter D clC cA cP A) {res : (Int32 × St)} (hret : RTz p l e rm_Nt_isOuter s m args below meth c Q D clC A b_Nt_isOuter 0 0 (fun r w => r = res.1 ∧ w = cw cA cP ob ad res.2))    : ∀ (x1 : Int32) (S : St) (H : Heap) (locs : List Loc) (ls : Array Slot), va_P D clC (cw cA cP ob ad S) H → va_D A (cw cA cP ob ad S) → va_S A s.heap H locs → lv_has ls 3 [(0, .ref (ob 3)), (1, .int x1)] → f_Nt_isOuter_0   x1 S = some res → W p l e rm_Nt_isOuter s m args below meth c H locs 0 0 Q (F0 m 0 ls []) := by
  obtain ⟨hx, hb, hml, hown, hts, hK, hA, hN, hZ⟩ := id C0
  intro x1 S H locs ls hP hD hS hl hf
  rw [f_Nt_isOuter_0] at hf
  refine lv_iload_n hx hb d_Nt_isOuter_0 rfl (lv_at hl 1 rfl) ?_
  refine lv_iload_n hx hb d_Nt_isOuter_1 rfl (lv_at hl 1 rfl) ?_
  refine lv_iconst (v := 3) hx hb d_Nt_isOuter_2 (by decide) ?_
  refine lv_irem hx hb d_Nt_isOuter_3 (by decide) ?_
  refine lv_isub hx hb d_Nt_isOuter_4 ?_
  obtain ⟨x2_1, ex2_1, hf⟩ := bn_some hf
  refine tpi ex2_1 ?_
  refine lv_istore_n (lv' := [(2, .int x2_1), (0, .ref (ob 3)), (1, .int x1)]) hx hb d_Nt_isOuter_5 rfl hl (by decide) rfl (fun ls hl => ?_)
  refine lv_aload_n hx hb d_Nt_isOuter_6 rfl (lv_at hl 1 rfl) ?_
  refine va_get (D := D) (ci := 3) (v := .ref (ob 8)) (C := R_Nt) (T := F_Nt) (N := 13) hx hb hts (fun w h => List.mem_cons_of_mem _ (in_Nt w h)) hown hK hP 3 rfl rfl 2 (by decide) (hts _ (List.mem_cons_of_mem _ wd_160)) (fun _ h9 => h9) rfl d_Nt_isOuter_7 ?_
  refine lv_iload_n hx hb d_Nt_isOuter_10 rfl (lv_at hl 0 rfl) ?_
  obtain ⟨q_2, hq_2, hf⟩ := bd_some hf
  refine kc_i (va_runV (As := [.int x2_1]) (rest := []) ⟨hx, hb, hml, hown, hts⟩ (c_Rw_get l D cA cP ob ad 8 x2_1 (by decide) S hq_2 H.size) ⟨callB_of 1 hts (gd_Rw_get) rfl rfl rfl (hts _ (List.mem_cons_of_mem _ wd_67)) (hts _ (List.mem_cons_of_mem _ wd_376)) dd_Rw_get ⟨Nat.le_of_ble_eq_true rfl, Nat.le_of_ble_eq_true rfl⟩, (hts _ (List.mem_cons_of_mem _ wd_340)), (hts _ (List.mem_cons_of_mem _ wd_341))⟩ (kpV hK hP hD hN hZ hS 6 8 rfl rfl) rfl rfl hl.1 rfl (lv_room (Nat.le_of_ble_eq_true rfl)) d_Nt_isOuter_11 ⟨Nat.le_of_ble_eq_true rfl, Nat.le_of_ble_eq_true rfl⟩) hP hD hS hA (fun r w H locs hw hP hD hS => ?_)
  obtain ⟨rfl, rfl⟩ := hw
  refine lv_aload_n hx hb d_Nt_isOuter_14 rfl (lv_at hl 1 rfl) ?_
  refine va_get (D := D) (ci := 3) (v := .int (gi q_2.2 4)) (C := R_Nt) (T := F_Nt) (N := 13) hx hb hts (fun w h => List.mem_cons_of_mem _ (in_Nt w h)) hown hK hP 3 rfl rfl 1 (by decide) (hts _ (List.mem_cons_of_mem _ wd_159)) (fun _ h9 => h9) rfl d_Nt_isOuter_15 ?_
  refine lv_icmp_eq (tgt := 55) hx hb d_Nt_isOuter_18 (by decide) (fun c_3 => ?_) (fun c_3 => ?_)
  · rw [if_pos c_3] at hf
    exact w_Nt_isOuter_55 C0 hret     q_2.2 H locs ls hP hD hS (lv_sub hl [] rfl) hf
  · rw [if_neg c_3] at hf
    refine lv_aload_n hx hb d_Nt_isOuter_21 rfl (lv_at hl 1 rfl) ?_
    refine va_get (D := D) (ci := 3) (v := .ref (ob 8)) (C := R_Nt) (T := F_Nt) (N := 13) hx hb hts (fun w h => List.mem_cons_of_mem _ (in_Nt w h)) hown hK hP 3 rfl rfl 2 (by decide) (hts _ (List.mem_cons_of_mem _ wd_160)) (fun _ h9 => h9) rfl d_Nt_isOuter_22 ?_
    refine lv_iload_n hx hb d_Nt_isOuter_25 rfl (lv_at hl 0 rfl) ?_
    refine lv_iconst (v := 1) hx hb d_Nt_isOuter_26 (by decide) ?_
    refine lv_iadd hx hb d_Nt_isOuter_27 ?_
    obtain ⟨q_4, hq_4, hf⟩ := bd_some hf
    refine kc_i (va_runV (As := [.int (x2_1 + 1)]) (rest := []) ⟨hx, hb, hml, hown, hts⟩ (c_Rw_get l D cA cP ob ad 8 (x2_1 + 1) (by decide) q_2.2 hq_4 H.size) ⟨callB_of 1 hts (gd_Rw_get) rfl rfl rfl (hts _ (List.mem_cons_of_mem _ wd_67)) (hts _ (List.mem_cons_of_mem _ wd_376)) dd_Rw_get ⟨Nat.le_of_ble_eq_true rfl, Nat.le_of_ble_eq_true rfl⟩, (hts _ (List.mem_cons_of_mem _ wd_340)), (hts _ (List.mem_cons_of_mem _ wd_341))⟩ (kpV hK hP hD hN hZ hS 6 8 rfl rfl) rfl rfl hl.1 rfl (lv_room (Nat.le_of_ble_eq_true rfl)) d_Nt_isOuter_28 ⟨Nat.le_of_ble_eq_true rfl, Nat.le_of_ble_eq_true rfl⟩) hP hD hS hA (fun r w H locs hw hP hD hS => ?_)
    obtain ⟨rfl, rfl⟩ := hw
    refine lv_aload_n hx hb d_Nt_isOuter_31 rfl (lv_at hl 1 rfl) ?_
    refine va_get (D := D) (ci := 3) (v := .int (gi q_4.2 4)) (C := R_Nt) (T := F_Nt) (N := 13) hx hb hts (fun w h => List.mem_cons_of_mem _ (in_Nt w h)) hown hK hP 3 rfl rfl 1 (by decide) (hts _ (List.mem_cons_of_mem _ wd_159)) (fun _ h9 => h9) rfl d_Nt_isOuter_32 ?_
    refine lv_icmp_eq (tgt := 55) hx hb d_Nt_isOuter_35 (by decide) (fun c_5 => ?_) (fun c_5 => ?_)
    · rw [if_pos c_5] at hf
      exact w_Nt_isOuter_55 C0 hret     q_4.2 H locs ls hP hD hS (lv_sub hl [] rfl) hf
    · rw [if_neg c_5] at hf
      refine lv_aload_n hx hb d_Nt_isOuter_38 rfl (lv_at hl 1 rfl) ?_
      refine va_get (D := D) (ci := 3) (v := .ref (ob 8)) (C := R_Nt) (T := F_Nt) (N := 13) hx hb hts (fun w h => List.mem_cons_of_mem _ (in_Nt w h)) hown hK hP 3 rfl rfl 2 (by decide) (hts _ (List.mem_cons_of_mem _ wd_160)) (fun _ h9 => h9) rfl d_Nt_isOuter_39 ?_
      refine lv_iload_n hx hb d_Nt_isOuter_42 rfl (lv_at hl 0 rfl) ?_
      refine lv_iconst (v := 2) hx hb d_Nt_isOuter_43 (by decide) ?_
      refine lv_iadd hx hb d_Nt_isOuter_44 ?_
      obtain ⟨q_6, hq_6, hf⟩ := bd_some hf
      refine kc_i (va_runV (As := [.int (x2_1 + 2)]) (rest := []) ⟨hx, hb, hml, hown, hts⟩ (c_Rw_get l D cA cP ob ad 8 (x2_1 + 2) (by decide) q_4.2 hq_6 H.size) ⟨callB_of 1 hts (gd_Rw_get) rfl rfl rfl (hts _ (List.mem_cons_of_mem _ wd_67)) (hts _ (List.mem_cons_of_mem _ wd_376)) dd_Rw_get ⟨Nat.le_of_ble_eq_true rfl, Nat.le_of_ble_eq_true rfl⟩, (hts _ (List.mem_cons_of_mem _ wd_340)), (hts _ (List.mem_cons_of_mem _ wd_341))⟩ (kpV hK hP hD hN hZ hS 6 8 rfl rfl) rfl rfl hl.1 rfl (lv_room (Nat.le_of_ble_eq_true rfl)) d_Nt_isOuter_45 ⟨Nat.le_of_ble_eq_true rfl, Nat.le_of_ble_eq_true rfl⟩) hP hD hS hA (fun r w H locs hw hP hD hS => ?_)
      obtain ⟨rfl, rfl⟩ := hw
      refine lv_aload_n hx hb d_Nt_isOuter_48 rfl (lv_at hl 1 rfl) ?_
      refine va_get (D := D) (ci := 3) (v := .int (gi q_6.2 4)) (C := R_Nt) (T := F_Nt) (N := 13) hx hb hts (fun w h => List.mem_cons_of_mem _ (in_Nt w h)) hown hK hP 3 rfl rfl 1 (by decide) (hts _ (List.mem_cons_of_mem _ wd_159)) (fun _ h9 => h9) rfl d_Nt_isOuter_49 ?_
      refine lv_icmp_ne (tgt := 59) hx hb d_Nt_isOuter_52 (by decide) (fun c_7 => ?_) (fun c_7 => ?_)
      · rw [if_neg c_7] at hf
        refine lv_iconst (v := 0) hx hb d_Nt_isOuter_59 (by decide) ?_
        cases hf
        exact hret _ _ _ _ _ _ ⟨rfl, rfl⟩ rfl hP hD hS d_Nt_isOuter_60
      · rw [if_pos c_7] at hf
        exact w_Nt_isOuter_55 C0 hret     q_6.2 H locs ls hP hD hS (lv_sub hl [] rfl) hf
def f_Nt_isOuter (x1 : Int32) (S : St) : Option (Int32 × St) := f_Nt_isOuter_0  x1 S
theorem c_Nt_isOuter (l : Launch) (D : va_G) (cA cP : ClassId) (ob : Nat → Nat) (ad : Nat → Nat → Nat) (x1 : Int32)  (S : St) {res : (Int32 × St)} (hf : f_Nt_isOuter x1 S = some res) : CTi l y_Nt_isOuter w_Nt_isOuter rm_Nt_isOuter 0 0 D clC (TY cA cP) [.ref (ob 3), .int x1] (cw cA cP ob ad S) (fun r w => r = res.1 ∧ w = cw cA cP ob ad res.2) :=
  mk_z (cc := b_Nt_isOuter) (maxL := 3) (own := R_Nt) (by decide) rfl rfl (Nat.le_of_ble_eq_true rfl) (fun p e s m below meth c A Q C0 hret ls hl hP hD hS => w_Nt_isOuter_0 C0 hret   x1 S _ _ ls hP hD hS (lv_sub hl [0, 1] rfl) hf)
def f_Nt_ahead_0   (x0 : Int32) (x1 : Int32) (S : St) : Option (Int32 × St) :=
  bn (x0 - (x0 - x0 / 3 * 3)) (fun x2_1 => some ((x2_1 + (((x0 - x2_1) + x1) - ((x0 - x2_1) + x1) / 3 * 3)), S))
set_option maxHeartbeats 4000000 in
set_option maxRecDepth 100000 in
theorem w_Nt_ahead_0 (C0 : CX p s m args c b_Nt_ahead 3 R_Nt w_Nt_ahead D clC cA cP A) {res : (Int32 × St)} (hret : RTi p l e rm_Nt_ahead s m args below meth c Q D clC A b_Nt_ahead 0 0 (fun r w => r = res.1 ∧ w = cw cA cP ob ad res.2))    : ∀ (x0 : Int32) (x1 : Int32) (S : St) (H : Heap) (locs : List Loc) (ls : Array Slot), va_P D clC (cw cA cP ob ad S) H → va_D A (cw cA cP ob ad S) → va_S A s.heap H locs → lv_has ls 3 [(0, .int x0), (1, .int x1)] → f_Nt_ahead_0   x0 x1 S = some res → W p l e rm_Nt_ahead s m args below meth c H locs 0 0 Q (F0 m 0 ls []) := by
  obtain ⟨hx, hb, hml, hown, hts, hK, hA, hN, hZ⟩ := id C0
  intro x0 x1 S H locs ls hP hD hS hl hf
  rw [f_Nt_ahead_0] at hf
  refine lv_iload_n hx hb d_Nt_ahead_0 rfl (lv_at hl 0 rfl) ?_
  refine lv_iload_n hx hb d_Nt_ahead_1 rfl (lv_at hl 0 rfl) ?_
  refine lv_iconst (v := 3) hx hb d_Nt_ahead_2 (by decide) ?_
  refine lv_irem hx hb d_Nt_ahead_3 (by decide) ?_
  refine lv_isub hx hb d_Nt_ahead_4 ?_
  obtain ⟨x2_1, ex2_1, hf⟩ := bn_some hf
  refine tpi ex2_1 ?_
  refine lv_istore_n (lv' := [(2, .int x2_1), (0, .int x0), (1, .int x1)]) hx hb d_Nt_ahead_5 rfl hl (by decide) rfl (fun ls hl => ?_)
  refine lv_iload_n hx hb d_Nt_ahead_6 rfl (lv_at hl 0 rfl) ?_
  refine lv_iload_n hx hb d_Nt_ahead_7 rfl (lv_at hl 1 rfl) ?_
  refine lv_iload_n hx hb d_Nt_ahead_8 rfl (lv_at hl 0 rfl) ?_
  refine lv_isub hx hb d_Nt_ahead_9 ?_
  refine lv_iload_n hx hb d_Nt_ahead_10 rfl (lv_at hl 2 rfl) ?_
  refine lv_iadd hx hb d_Nt_ahead_11 ?_
  refine lv_iconst (v := 3) hx hb d_Nt_ahead_12 (by decide) ?_
  refine lv_irem hx hb d_Nt_ahead_13 (by decide) ?_
  refine lv_iadd hx hb d_Nt_ahead_14 ?_
  cases hf
  exact hret _ _ _ _ _ _ ⟨rfl, rfl⟩ hP hD hS d_Nt_ahead_15
def f_Nt_ahead (x0 : Int32) (x1 : Int32) (S : St) : Option (Int32 × St) := f_Nt_ahead_0  x0 x1 S
theorem c_Nt_ahead (l : Launch) (D : va_G) (cA cP : ClassId) (ob : Nat → Nat) (ad : Nat → Nat → Nat) (x0 : Int32) (x1 : Int32)  (S : St) {res : (Int32 × St)} (hf : f_Nt_ahead x0 x1 S = some res) : CTi l y_Nt_ahead w_Nt_ahead rm_Nt_ahead 0 0 D clC (TY cA cP) [.int x0, .int x1] (cw cA cP ob ad S) (fun r w => r = res.1 ∧ w = cw cA cP ob ad res.2) :=
  mk_i (cc := b_Nt_ahead) (maxL := 3) (own := R_Nt) (by decide) rfl rfl (Nat.le_of_ble_eq_true rfl) (fun p e s m below meth c A Q C0 hret ls hl hP hD hS => w_Nt_ahead_0 C0 hret   x0 x1 S _ _ ls hP hD hS (lv_sub hl [0, 1] rfl) hf)
def f_Nt_baseOf_36   (x2 : Int32) (S : St) : Option (Int32 × St) :=
  bd (f_Nt_ahead x2 1 S) (fun q_1 => some (q_1.1, q_1.2))
set_option maxHeartbeats 4000000 in
set_option maxRecDepth 100000 in
theorem w_Nt_baseOf_36 (C0 : CX p s m args c b_Nt_baseOf 4 R_Nt w_Nt_baseOf D clC cA cP A) {res : (Int32 × St)} (hret : RTi p l e rm_Nt_baseOf s m args below meth c Q D clC A b_Nt_baseOf 0 0 (fun r w => r = res.1 ∧ w = cw cA cP ob ad res.2))    : ∀ (x2 : Int32) (S : St) (H : Heap) (locs : List Loc) (ls : Array Slot), va_P D clC (cw cA cP ob ad S) H → va_D A (cw cA cP ob ad S) → va_S A s.heap H locs → lv_has ls 4 [(2, .int x2)] → f_Nt_baseOf_36   x2 S = some res → W p l e rm_Nt_baseOf s m args below meth c H locs 0 0 Q (F0 m 36 ls []) := by
  obtain ⟨hx, hb, hml, hown, hts, hK, hA, hN, hZ⟩ := id C0
  intro x2 S H locs ls hP hD hS hl hf
  rw [f_Nt_baseOf_36] at hf
  refine lv_iload_n hx hb d_Nt_baseOf_36 rfl (lv_at hl 0 rfl) ?_
  refine lv_iconst (v := 1) hx hb d_Nt_baseOf_37 (by decide) ?_
  obtain ⟨q_1, hq_1, hf⟩ := bd_some hf
  refine kc_i (va_runS (As := [.int x2, .int 1]) (rest := []) ⟨hx, hb, hml, hown, hts⟩ (c_Nt_ahead l D cA cP ob ad x2 1  S hq_1 H.size) ⟨callB_of 2 hts (gd_Nt_ahead) rfl rfl rfl (hts _ (List.mem_cons_of_mem _ wd_69)) (hts _ (List.mem_cons_of_mem _ wd_381)) dd_Nt_ahead ⟨Nat.le_of_ble_eq_true rfl, Nat.le_of_ble_eq_true rfl⟩, (hts _ (List.mem_cons_of_mem _ wd_382))⟩ (kpS hK hP hD hN hZ hS) rfl rfl hl.1 rfl (lv_room (Nat.le_of_ble_eq_true rfl)) d_Nt_baseOf_38 ⟨Nat.le_of_ble_eq_true rfl, Nat.le_of_ble_eq_true rfl⟩) hP hD hS hA (fun r w H locs hw hP hD hS => ?_)
  obtain ⟨rfl, rfl⟩ := hw
  cases hf
  exact hret _ _ _ _ _ _ ⟨rfl, rfl⟩ hP hD hS d_Nt_baseOf_41
def f_Nt_baseOf_4   : Nat → Int32 → Int32 → St → Option (Int32 × St)
  | 0 => fun _ _ _ => none
  | n + 1 => fun x2 x3 S => (if 2 ≤ x3 then
      f_Nt_baseOf_36   x2 S
      else
      bd (f_Rw_get 8 x2 S) (fun q_2 => (if q_2.1 = (gi q_2.2 4) then
        f_Nt_baseOf_36   x2 q_2.2
        else
        bd (f_Nt_ahead x2 1 q_2.2) (fun q_4 => bn (x3 + 1) (fun x3_5 => f_Nt_baseOf_4  n q_4.1 x3_5 q_4.2)))))
set_option maxHeartbeats 4000000 in
set_option maxRecDepth 100000 in
theorem w_Nt_baseOf_4 (C0 : CX p s m args c b_Nt_baseOf 4 R_Nt w_Nt_baseOf D clC cA cP A) {res : (Int32 × St)} (hret : RTi p l e rm_Nt_baseOf s m args below meth c Q D clC A b_Nt_baseOf 0 0 (fun r w => r = res.1 ∧ w = cw cA cP ob ad res.2))    : ∀ (n : Nat) (x2 : Int32) (x3 : Int32) (S : St) (H : Heap) (locs : List Loc) (ls : Array Slot), va_P D clC (cw cA cP ob ad S) H → va_D A (cw cA cP ob ad S) → va_S A s.heap H locs → lv_has ls 4 [(0, .ref (ob 3)), (2, .int x2), (3, .int x3)] → f_Nt_baseOf_4   n x2 x3 S = some res → W p l e rm_Nt_baseOf s m args below meth c H locs 0 0 Q (F0 m 4 ls []) := by
  obtain ⟨hx, hb, hml, hown, hts, hK, hA, hN, hZ⟩ := id C0
  intro n
  induction n with
  | zero =>
    intro x2 x3 S H locs ls hP hD hS hl hf
    cases hf
  | succ n ih =>
    intro x2 x3 S H locs ls hP hD hS hl hf
    rw [f_Nt_baseOf_4] at hf
    try dsimp only at hf
    refine lv_iload_n hx hb d_Nt_baseOf_4 rfl (lv_at hl 2 rfl) ?_
    refine lv_iconst (v := 2) hx hb d_Nt_baseOf_5 (by decide) ?_
    refine lv_icmp_ge (tgt := 36) hx hb d_Nt_baseOf_6 (by decide) (fun c_1 => ?_) (fun c_1 => ?_)
    · rw [if_pos c_1] at hf
      exact w_Nt_baseOf_36 C0 hret    x2 S H locs ls hP hD hS (lv_sub hl [1] rfl) hf
    · rw [if_neg c_1] at hf
      refine lv_aload_n hx hb d_Nt_baseOf_9 rfl (lv_at hl 0 rfl) ?_
      refine va_get (D := D) (ci := 3) (v := .ref (ob 8)) (C := R_Nt) (T := F_Nt) (N := 13) hx hb hts (fun w h => List.mem_cons_of_mem _ (in_Nt w h)) hown hK hP 3 rfl rfl 2 (by decide) (hts _ (List.mem_cons_of_mem _ wd_160)) (fun _ h9 => h9) rfl d_Nt_baseOf_10 ?_
      refine lv_iload_n hx hb d_Nt_baseOf_13 rfl (lv_at hl 1 rfl) ?_
      obtain ⟨q_2, hq_2, hf⟩ := bd_some hf
      refine kc_i (va_runV (As := [.int x2]) (rest := []) ⟨hx, hb, hml, hown, hts⟩ (c_Rw_get l D cA cP ob ad 8 x2 (by decide) S hq_2 H.size) ⟨callB_of 1 hts (gd_Rw_get) rfl rfl rfl (hts _ (List.mem_cons_of_mem _ wd_67)) (hts _ (List.mem_cons_of_mem _ wd_376)) dd_Rw_get ⟨Nat.le_of_ble_eq_true rfl, Nat.le_of_ble_eq_true rfl⟩, (hts _ (List.mem_cons_of_mem _ wd_340)), (hts _ (List.mem_cons_of_mem _ wd_341))⟩ (kpV hK hP hD hN hZ hS 6 8 rfl rfl) rfl rfl hl.1 rfl (lv_room (Nat.le_of_ble_eq_true rfl)) d_Nt_baseOf_14 ⟨Nat.le_of_ble_eq_true rfl, Nat.le_of_ble_eq_true rfl⟩) hP hD hS hA (fun r w H locs hw hP hD hS => ?_)
      obtain ⟨rfl, rfl⟩ := hw
      refine lv_aload_n hx hb d_Nt_baseOf_17 rfl (lv_at hl 0 rfl) ?_
      refine va_get (D := D) (ci := 3) (v := .int (gi q_2.2 4)) (C := R_Nt) (T := F_Nt) (N := 13) hx hb hts (fun w h => List.mem_cons_of_mem _ (in_Nt w h)) hown hK hP 3 rfl rfl 1 (by decide) (hts _ (List.mem_cons_of_mem _ wd_159)) (fun _ h9 => h9) rfl d_Nt_baseOf_18 ?_
      refine lv_icmp_eq (tgt := 36) hx hb d_Nt_baseOf_21 (by decide) (fun c_3 => ?_) (fun c_3 => ?_)
      · rw [if_pos c_3] at hf
        exact w_Nt_baseOf_36 C0 hret    x2 q_2.2 H locs ls hP hD hS (lv_sub hl [1] rfl) hf
      · rw [if_neg c_3] at hf
        refine lv_iload_n hx hb d_Nt_baseOf_24 rfl (lv_at hl 1 rfl) ?_
        refine lv_iconst (v := 1) hx hb d_Nt_baseOf_25 (by decide) ?_
        obtain ⟨q_4, hq_4, hf⟩ := bd_some hf
        refine kc_i (va_runS (As := [.int x2, .int 1]) (rest := []) ⟨hx, hb, hml, hown, hts⟩ (c_Nt_ahead l D cA cP ob ad x2 1  q_2.2 hq_4 H.size) ⟨callB_of 2 hts (gd_Nt_ahead) rfl rfl rfl (hts _ (List.mem_cons_of_mem _ wd_69)) (hts _ (List.mem_cons_of_mem _ wd_381)) dd_Nt_ahead ⟨Nat.le_of_ble_eq_true rfl, Nat.le_of_ble_eq_true rfl⟩, (hts _ (List.mem_cons_of_mem _ wd_382))⟩ (kpS hK hP hD hN hZ hS) rfl rfl hl.1 rfl (lv_room (Nat.le_of_ble_eq_true rfl)) d_Nt_baseOf_26 ⟨Nat.le_of_ble_eq_true rfl, Nat.le_of_ble_eq_true rfl⟩) hP hD hS hA (fun r w H locs hw hP hD hS => ?_)
        obtain ⟨rfl, rfl⟩ := hw
        refine lv_istore_n (lv' := [(2, .int q_4.1), (0, .ref (ob 3)), (3, .int x3)]) hx hb d_Nt_baseOf_29 rfl hl (by decide) rfl (fun ls hl => ?_)
        obtain ⟨x3_5, ex3_5, hf⟩ := bn_some hf
        refine lv_iinc (v := x3_5) (lv' := [(3, .int x3_5), (2, .int q_4.1), (0, .ref (ob 3))]) hx hb d_Nt_baseOf_30 hl (k := 2) rfl (by rw [ex3_5]; rfl) (by decide) rfl (fun ls hl => ?_)
        refine lv_goto (tgt := 4) hx hb d_Nt_baseOf_33 (by decide) ?_
        exact ih q_4.1 x3_5 q_4.2 H locs ls hP hD hS (lv_sub hl [2, 1, 0] rfl) hf
def f_Nt_baseOf_0   (x1 : Int32) (S : St) : Option (Int32 × St) :=
  f_Nt_baseOf_4   FU x1 0 S
set_option maxHeartbeats 4000000 in
set_option maxRecDepth 100000 in
theorem w_Nt_baseOf_0 (C0 : CX p s m args c b_Nt_baseOf 4 R_Nt w_Nt_baseOf D clC cA cP A) {res : (Int32 × St)} (hret : RTi p l e rm_Nt_baseOf s m args below meth c Q D clC A b_Nt_baseOf 0 0 (fun r w => r = res.1 ∧ w = cw cA cP ob ad res.2))    : ∀ (x1 : Int32) (S : St) (H : Heap) (locs : List Loc) (ls : Array Slot), va_P D clC (cw cA cP ob ad S) H → va_D A (cw cA cP ob ad S) → va_S A s.heap H locs → lv_has ls 4 [(0, .ref (ob 3)), (1, .int x1)] → f_Nt_baseOf_0   x1 S = some res → W p l e rm_Nt_baseOf s m args below meth c H locs 0 0 Q (F0 m 0 ls []) := by
  obtain ⟨hx, hb, hml, hown, hts, hK, hA, hN, hZ⟩ := id C0
  intro x1 S H locs ls hP hD hS hl hf
  rw [f_Nt_baseOf_0] at hf
  refine lv_iload_n hx hb d_Nt_baseOf_0 rfl (lv_at hl 1 rfl) ?_
  refine lv_istore_n (lv' := [(2, .int x1), (0, .ref (ob 3)), (1, .int x1)]) hx hb d_Nt_baseOf_1 rfl hl (by decide) rfl (fun ls hl => ?_)
  refine lv_iconst (v := 0) hx hb d_Nt_baseOf_2 (by decide) ?_
  refine lv_istore_n (lv' := [(3, .int 0), (2, .int x1), (0, .ref (ob 3)), (1, .int x1)]) hx hb d_Nt_baseOf_3 rfl hl (by decide) rfl (fun ls hl => ?_)
  exact w_Nt_baseOf_4 C0 hret    FU x1 0 S H locs ls hP hD hS (lv_sub hl [2, 1, 0] rfl) hf
def f_Nt_baseOf (x1 : Int32) (S : St) : Option (Int32 × St) := f_Nt_baseOf_0  x1 S
theorem c_Nt_baseOf (l : Launch) (D : va_G) (cA cP : ClassId) (ob : Nat → Nat) (ad : Nat → Nat → Nat) (x1 : Int32)  (S : St) {res : (Int32 × St)} (hf : f_Nt_baseOf x1 S = some res) : CTi l y_Nt_baseOf w_Nt_baseOf rm_Nt_baseOf 0 0 D clC (TY cA cP) [.ref (ob 3), .int x1] (cw cA cP ob ad S) (fun r w => r = res.1 ∧ w = cw cA cP ob ad res.2) :=
  mk_i (cc := b_Nt_baseOf) (maxL := 4) (own := R_Nt) (by decide) rfl rfl (Nat.le_of_ble_eq_true rfl) (fun p e s m below meth c A Q C0 hret ls hl hP hD hS => w_Nt_baseOf_0 C0 hret   x1 S _ _ ls hP hD hS (lv_sub hl [0, 1] rfl) hf)
def f_Nt_startOf_0   (x1 : Int32) (S : St) : Option (Int32 × St) :=
  bd (f_Rw_get 8 x1 S) (fun q_1 => some (q_1.1, q_1.2))
set_option maxHeartbeats 4000000 in
set_option maxRecDepth 100000 in
theorem w_Nt_startOf_0 (C0 : CX p s m args c b_Nt_startOf 2 R_Nt w_Nt_startOf D clC cA cP A) {res : (Int32 × St)} (hret : RTi p l e rm_Nt_startOf s m args below meth c Q D clC A b_Nt_startOf 0 0 (fun r w => r = res.1 ∧ w = cw cA cP ob ad res.2))    : ∀ (x1 : Int32) (S : St) (H : Heap) (locs : List Loc) (ls : Array Slot), va_P D clC (cw cA cP ob ad S) H → va_D A (cw cA cP ob ad S) → va_S A s.heap H locs → lv_has ls 2 [(0, .ref (ob 3)), (1, .int x1)] → f_Nt_startOf_0   x1 S = some res → W p l e rm_Nt_startOf s m args below meth c H locs 0 0 Q (F0 m 0 ls []) := by
  obtain ⟨hx, hb, hml, hown, hts, hK, hA, hN, hZ⟩ := id C0
  intro x1 S H locs ls hP hD hS hl hf
  rw [f_Nt_startOf_0] at hf
  refine lv_aload_n hx hb d_Nt_startOf_0 rfl (lv_at hl 0 rfl) ?_
  refine va_get (D := D) (ci := 3) (v := .ref (ob 8)) (C := R_Nt) (T := F_Nt) (N := 13) hx hb hts (fun w h => List.mem_cons_of_mem _ (in_Nt w h)) hown hK hP 3 rfl rfl 2 (by decide) (hts _ (List.mem_cons_of_mem _ wd_160)) (fun _ h9 => h9) rfl d_Nt_startOf_1 ?_
  refine lv_iload_n hx hb d_Nt_startOf_4 rfl (lv_at hl 1 rfl) ?_
  obtain ⟨q_1, hq_1, hf⟩ := bd_some hf
  refine kc_i (va_runV (As := [.int x1]) (rest := []) ⟨hx, hb, hml, hown, hts⟩ (c_Rw_get l D cA cP ob ad 8 x1 (by decide) S hq_1 H.size) ⟨callB_of 1 hts (gd_Rw_get) rfl rfl rfl (hts _ (List.mem_cons_of_mem _ wd_67)) (hts _ (List.mem_cons_of_mem _ wd_376)) dd_Rw_get ⟨Nat.le_of_ble_eq_true rfl, Nat.le_of_ble_eq_true rfl⟩, (hts _ (List.mem_cons_of_mem _ wd_340)), (hts _ (List.mem_cons_of_mem _ wd_341))⟩ (kpV hK hP hD hN hZ hS 6 8 rfl rfl) rfl rfl hl.1 rfl (lv_room (Nat.le_of_ble_eq_true rfl)) d_Nt_startOf_5 ⟨Nat.le_of_ble_eq_true rfl, Nat.le_of_ble_eq_true rfl⟩) hP hD hS hA (fun r w H locs hw hP hD hS => ?_)
  obtain ⟨rfl, rfl⟩ := hw
  cases hf
  exact hret _ _ _ _ _ _ ⟨rfl, rfl⟩ hP hD hS d_Nt_startOf_8
def f_Nt_startOf (x1 : Int32) (S : St) : Option (Int32 × St) := f_Nt_startOf_0  x1 S
theorem c_Nt_startOf (l : Launch) (D : va_G) (cA cP : ClassId) (ob : Nat → Nat) (ad : Nat → Nat → Nat) (x1 : Int32)  (S : St) {res : (Int32 × St)} (hf : f_Nt_startOf x1 S = some res) : CTi l y_Nt_startOf w_Nt_startOf rm_Nt_startOf 0 0 D clC (TY cA cP) [.ref (ob 3), .int x1] (cw cA cP ob ad S) (fun r w => r = res.1 ∧ w = cw cA cP ob ad res.2) :=
  mk_i (cc := b_Nt_startOf) (maxL := 2) (own := R_Nt) (by decide) rfl rfl (Nat.le_of_ble_eq_true rfl) (fun p e s m below meth c A Q C0 hret ls hl hP hD hS => w_Nt_startOf_0 C0 hret   x1 S _ _ ls hP hD hS (lv_sub hl [0, 1] rfl) hf)
def f_Nt_endOf_0   (x1 : Int32) (S : St) : Option (Int32 × St) :=
  bd (f_Nt_ahead x1 1 S) (fun q_1 => bd (f_Rw_get 8 q_1.1 q_1.2) (fun q_2 => some (q_2.1, q_2.2)))
set_option maxHeartbeats 4000000 in
set_option maxRecDepth 100000 in
theorem w_Nt_endOf_0 (C0 : CX p s m args c b_Nt_endOf 2 R_Nt w_Nt_endOf D clC cA cP A) {res : (Int32 × St)} (hret : RTi p l e rm_Nt_endOf s m args below meth c Q D clC A b_Nt_endOf 0 0 (fun r w => r = res.1 ∧ w = cw cA cP ob ad res.2))    : ∀ (x1 : Int32) (S : St) (H : Heap) (locs : List Loc) (ls : Array Slot), va_P D clC (cw cA cP ob ad S) H → va_D A (cw cA cP ob ad S) → va_S A s.heap H locs → lv_has ls 2 [(0, .ref (ob 3)), (1, .int x1)] → f_Nt_endOf_0   x1 S = some res → W p l e rm_Nt_endOf s m args below meth c H locs 0 0 Q (F0 m 0 ls []) := by
  obtain ⟨hx, hb, hml, hown, hts, hK, hA, hN, hZ⟩ := id C0
  intro x1 S H locs ls hP hD hS hl hf
  rw [f_Nt_endOf_0] at hf
  refine lv_aload_n hx hb d_Nt_endOf_0 rfl (lv_at hl 0 rfl) ?_
  refine va_get (D := D) (ci := 3) (v := .ref (ob 8)) (C := R_Nt) (T := F_Nt) (N := 13) hx hb hts (fun w h => List.mem_cons_of_mem _ (in_Nt w h)) hown hK hP 3 rfl rfl 2 (by decide) (hts _ (List.mem_cons_of_mem _ wd_160)) (fun _ h9 => h9) rfl d_Nt_endOf_1 ?_
  refine lv_iload_n hx hb d_Nt_endOf_4 rfl (lv_at hl 1 rfl) ?_
  refine lv_iconst (v := 1) hx hb d_Nt_endOf_5 (by decide) ?_
  obtain ⟨q_1, hq_1, hf⟩ := bd_some hf
  refine kc_i (va_runS (As := [.int x1, .int 1]) (rest := [.ref (ob 8)]) ⟨hx, hb, hml, hown, hts⟩ (c_Nt_ahead l D cA cP ob ad x1 1  S hq_1 H.size) ⟨callB_of 2 hts (gd_Nt_ahead) rfl rfl rfl (hts _ (List.mem_cons_of_mem _ wd_69)) (hts _ (List.mem_cons_of_mem _ wd_381)) dd_Nt_ahead ⟨Nat.le_of_ble_eq_true rfl, Nat.le_of_ble_eq_true rfl⟩, (hts _ (List.mem_cons_of_mem _ wd_382))⟩ (kpS hK hP hD hN hZ hS) rfl rfl hl.1 rfl (lv_room (Nat.le_of_ble_eq_true rfl)) d_Nt_endOf_6 ⟨Nat.le_of_ble_eq_true rfl, Nat.le_of_ble_eq_true rfl⟩) hP hD hS hA (fun r w H locs hw hP hD hS => ?_)
  obtain ⟨rfl, rfl⟩ := hw
  obtain ⟨q_2, hq_2, hf⟩ := bd_some hf
  refine kc_i (va_runV (As := [.int q_1.1]) (rest := []) ⟨hx, hb, hml, hown, hts⟩ (c_Rw_get l D cA cP ob ad 8 q_1.1 (by decide) q_1.2 hq_2 H.size) ⟨callB_of 1 hts (gd_Rw_get) rfl rfl rfl (hts _ (List.mem_cons_of_mem _ wd_67)) (hts _ (List.mem_cons_of_mem _ wd_376)) dd_Rw_get ⟨Nat.le_of_ble_eq_true rfl, Nat.le_of_ble_eq_true rfl⟩, (hts _ (List.mem_cons_of_mem _ wd_340)), (hts _ (List.mem_cons_of_mem _ wd_341))⟩ (kpV hK hP hD hN hZ hS 6 8 rfl rfl) rfl rfl hl.1 rfl (lv_room (Nat.le_of_ble_eq_true rfl)) d_Nt_endOf_9 ⟨Nat.le_of_ble_eq_true rfl, Nat.le_of_ble_eq_true rfl⟩) hP hD hS hA (fun r w H locs hw hP hD hS => ?_)
  obtain ⟨rfl, rfl⟩ := hw
  cases hf
  exact hret _ _ _ _ _ _ ⟨rfl, rfl⟩ hP hD hS d_Nt_endOf_12
def f_Nt_endOf (x1 : Int32) (S : St) : Option (Int32 × St) := f_Nt_endOf_0  x1 S
theorem c_Nt_endOf (l : Launch) (D : va_G) (cA cP : ClassId) (ob : Nat → Nat) (ad : Nat → Nat → Nat) (x1 : Int32)  (S : St) {res : (Int32 × St)} (hf : f_Nt_endOf x1 S = some res) : CTi l y_Nt_endOf w_Nt_endOf rm_Nt_endOf 0 0 D clC (TY cA cP) [.ref (ob 3), .int x1] (cw cA cP ob ad S) (fun r w => r = res.1 ∧ w = cw cA cP ob ad res.2) :=
  mk_i (cc := b_Nt_endOf) (maxL := 2) (own := R_Nt) (by decide) rfl rfl (Nat.le_of_ble_eq_true rfl) (fun p e s m below meth c A Q C0 hret ls hl hP hD hS => w_Nt_endOf_0 C0 hret   x1 S _ _ ls hP hD hS (lv_sub hl [0, 1] rfl) hf)
def f_Nt_wayOut_3   : Nat → Int32 → Int32 → Int32 → Int32 → St → Option (Int32 × St)
  | 0 => fun _ _ _ _ _ => none
  | n + 1 => fun x1 x2 x3 x4 S => (if 3 ≤ x4 then
      some ((-1), S)
      else
      bd (f_Nt_ahead x1 x4 S) (fun q_2 => bd (f_Nt_startOf q_2.1 q_2.2) (fun q_3 => bd (f_Nt_endOf q_2.1 q_3.2) (fun q_4 => bd (f_Pt_turn q_3.1 q_4.1 x2 x3 q_4.2) (fun q_5 => (if 0 ≤ (lg_cmp q_5.1 0) then
        bn (x4 + 1) (fun x4_7 => f_Nt_wayOut_3  n x1 x2 x3 x4_7 q_5.2)
        else
        some (q_2.1, q_5.2)))))))
set_option maxHeartbeats 4000000 in
set_option maxRecDepth 100000 in
theorem w_Nt_wayOut_3 (C0 : CX p s m args c b_Nt_wayOut 6 R_Nt w_Nt_wayOut D clC cA cP A) {res : (Int32 × St)} (hret : RTi p l e rm_Nt_wayOut s m args below meth c Q D clC A b_Nt_wayOut 0 0 (fun r w => r = res.1 ∧ w = cw cA cP ob ad res.2))    : ∀ (n : Nat) (x1 : Int32) (x2 : Int32) (x3 : Int32) (x4 : Int32) (S : St) (H : Heap) (locs : List Loc) (ls : Array Slot), va_P D clC (cw cA cP ob ad S) H → va_D A (cw cA cP ob ad S) → va_S A s.heap H locs → lv_has ls 6 [(0, .ref (ob 3)), (1, .int x1), (2, .int x2), (3, .int x3), (4, .int x4)] → f_Nt_wayOut_3   n x1 x2 x3 x4 S = some res → W p l e rm_Nt_wayOut s m args below meth c H locs 0 0 Q (F0 m 3 ls []) := by
  obtain ⟨hx, hb, hml, hown, hts, hK, hA, hN, hZ⟩ := id C0
  intro n
  induction n with
  | zero =>
    intro x1 x2 x3 x4 S H locs ls hP hD hS hl hf
    cases hf
  | succ n ih =>
    intro x1 x2 x3 x4 S H locs ls hP hD hS hl hf
    rw [f_Nt_wayOut_3] at hf
    try dsimp only at hf
    refine lv_iload hx hb d_Nt_wayOut_3 (lv_at hl 4 rfl) ?_
    refine lv_iconst (v := 3) hx hb d_Nt_wayOut_5 (by decide) ?_
    refine lv_icmp_ge (tgt := 52) hx hb d_Nt_wayOut_6 (by decide) (fun c_1 => ?_) (fun c_1 => ?_)
    · rw [if_pos c_1] at hf
      refine lv_iconst (v := (-1)) hx hb d_Nt_wayOut_52 (by decide) ?_
      cases hf
      exact hret _ _ _ _ _ _ ⟨rfl, rfl⟩ hP hD hS d_Nt_wayOut_53
    · rw [if_neg c_1] at hf
      refine lv_iload_n hx hb d_Nt_wayOut_9 rfl (lv_at hl 1 rfl) ?_
      refine lv_iload hx hb d_Nt_wayOut_10 (lv_at hl 4 rfl) ?_
      obtain ⟨q_2, hq_2, hf⟩ := bd_some hf
      refine kc_i (va_runS (As := [.int x1, .int x4]) (rest := []) ⟨hx, hb, hml, hown, hts⟩ (c_Nt_ahead l D cA cP ob ad x1 x4  S hq_2 H.size) ⟨callB_of 2 hts (gd_Nt_ahead) rfl rfl rfl (hts _ (List.mem_cons_of_mem _ wd_69)) (hts _ (List.mem_cons_of_mem _ wd_381)) dd_Nt_ahead ⟨Nat.le_of_ble_eq_true rfl, Nat.le_of_ble_eq_true rfl⟩, (hts _ (List.mem_cons_of_mem _ wd_382))⟩ (kpS hK hP hD hN hZ hS) rfl rfl hl.1 rfl (lv_room (Nat.le_of_ble_eq_true rfl)) d_Nt_wayOut_12 ⟨Nat.le_of_ble_eq_true rfl, Nat.le_of_ble_eq_true rfl⟩) hP hD hS hA (fun r w H locs hw hP hD hS => ?_)
      obtain ⟨rfl, rfl⟩ := hw
      refine lv_istore (lv' := [(5, .int q_2.1), (0, .ref (ob 3)), (1, .int x1), (2, .int x2), (3, .int x3), (4, .int x4)]) hx hb d_Nt_wayOut_15 hl (by decide) rfl (fun ls hl => ?_)
      refine lv_aload_n hx hb d_Nt_wayOut_17 rfl (lv_at hl 1 rfl) ?_
      refine va_get (D := D) (ci := 3) (v := .ref (ob 1)) (C := R_Nt) (T := F_Nt) (N := 13) hx hb hts (fun w h => List.mem_cons_of_mem _ (in_Nt w h)) hown hK hP 3 rfl rfl 0 (by decide) (hts _ (List.mem_cons_of_mem _ wd_158)) (fun _ h9 => h9) rfl d_Nt_wayOut_18 ?_
      refine lv_aload_n hx hb d_Nt_wayOut_21 rfl (lv_at hl 1 rfl) ?_
      refine lv_iload hx hb d_Nt_wayOut_22 (lv_at hl 0 rfl) ?_
      obtain ⟨q_3, hq_3, hf⟩ := bd_some hf
      refine kc_i (va_runV (As := [.int q_2.1]) (rest := [.ref (ob 1)]) ⟨hx, hb, hml, hown, hts⟩ (c_Nt_startOf l D cA cP ob ad q_2.1  q_2.2 hq_3 H.size) ⟨callB_of 1 hts (gd_Nt_startOf) rfl rfl rfl (hts _ (List.mem_cons_of_mem _ wd_69)) (hts _ (List.mem_cons_of_mem _ wd_609)) dd_Nt_startOf ⟨Nat.le_of_ble_eq_true rfl, Nat.le_of_ble_eq_true rfl⟩, (hts _ (List.mem_cons_of_mem _ wd_393)), (hts _ (List.mem_cons_of_mem _ wd_394))⟩ (kpV hK hP hD hN hZ hS 3 3 rfl rfl) rfl rfl hl.1 rfl (lv_room (Nat.le_of_ble_eq_true rfl)) d_Nt_wayOut_24 ⟨Nat.le_of_ble_eq_true rfl, Nat.le_of_ble_eq_true rfl⟩) hP hD hS hA (fun r w H locs hw hP hD hS => ?_)
      obtain ⟨rfl, rfl⟩ := hw
      refine lv_aload_n hx hb d_Nt_wayOut_27 rfl (lv_at hl 1 rfl) ?_
      refine lv_iload hx hb d_Nt_wayOut_28 (lv_at hl 0 rfl) ?_
      obtain ⟨q_4, hq_4, hf⟩ := bd_some hf
      refine kc_i (va_runV (As := [.int q_2.1]) (rest := [.int q_3.1, .ref (ob 1)]) ⟨hx, hb, hml, hown, hts⟩ (c_Nt_endOf l D cA cP ob ad q_2.1  q_3.2 hq_4 H.size) ⟨callB_of 1 hts (gd_Nt_endOf) rfl rfl rfl (hts _ (List.mem_cons_of_mem _ wd_69)) (hts _ (List.mem_cons_of_mem _ wd_377)) dd_Nt_endOf ⟨Nat.le_of_ble_eq_true rfl, Nat.le_of_ble_eq_true rfl⟩, (hts _ (List.mem_cons_of_mem _ wd_378)), (hts _ (List.mem_cons_of_mem _ wd_379))⟩ (kpV hK hP hD hN hZ hS 3 3 rfl rfl) rfl rfl hl.1 rfl (lv_room (Nat.le_of_ble_eq_true rfl)) d_Nt_wayOut_30 ⟨Nat.le_of_ble_eq_true rfl, Nat.le_of_ble_eq_true rfl⟩) hP hD hS hA (fun r w H locs hw hP hD hS => ?_)
      obtain ⟨rfl, rfl⟩ := hw
      refine lv_iload_n hx hb d_Nt_wayOut_33 rfl (lv_at hl 3 rfl) ?_
      refine lv_iload_n hx hb d_Nt_wayOut_34 rfl (lv_at hl 4 rfl) ?_
      obtain ⟨q_5, hq_5, hf⟩ := bd_some hf
      refine kc_l (va_runV (As := [.int q_3.1, .int q_4.1, .int x2, .int x3]) (rest := []) ⟨hx, hb, hml, hown, hts⟩ (c_Pt_turn l D cA cP ob ad q_3.1 q_4.1 x2 x3  q_4.2 hq_5 H.size) ⟨callB_of 4 hts (gd_Pt_turn) rfl rfl rfl (hts _ (List.mem_cons_of_mem _ wd_65)) (hts _ (List.mem_cons_of_mem _ wd_610)) dd_Pt_turn ⟨Nat.le_of_ble_eq_true rfl, Nat.le_of_ble_eq_true rfl⟩, (hts _ (List.mem_cons_of_mem _ wd_409)), (hts _ (List.mem_cons_of_mem _ wd_410))⟩ (kpV hK hP hD hN hZ hS 1 1 rfl rfl) rfl rfl hl.1 rfl (lv_room (Nat.le_of_ble_eq_true rfl)) d_Nt_wayOut_35 ⟨Nat.le_of_ble_eq_true rfl, Nat.le_of_ble_eq_true rfl⟩) hP hD hS hA (fun r w H locs hw hP hD hS => ?_)
      obtain ⟨rfl, rfl⟩ := hw
      refine lv_lconst (v := 0) hx hb d_Nt_wayOut_38 (by decide) ?_
      refine W.lcmp hx hb d_Nt_wayOut_39 ?_
      refine lv_if_ge (tgt := 46) hx hb d_Nt_wayOut_40 (by decide) (fun c_6 => ?_) (fun c_6 => ?_)
      · rw [if_pos c_6] at hf
        obtain ⟨x4_7, ex4_7, hf⟩ := bn_some hf
        refine lv_iinc (v := x4_7) (lv' := [(4, .int x4_7), (5, .int q_2.1), (0, .ref (ob 3)), (1, .int x1), (2, .int x2), (3, .int x3)]) hx hb d_Nt_wayOut_46 hl (k := 5) rfl (by rw [ex4_7]; rfl) (by decide) rfl (fun ls hl => ?_)
        refine lv_goto (tgt := 3) hx hb d_Nt_wayOut_49 (by decide) ?_
        exact ih x1 x2 x3 x4_7 q_5.2 H locs ls hP hD hS (lv_sub hl [2, 3, 4, 5, 0] rfl) hf
      · rw [if_neg c_6] at hf
        refine lv_iload hx hb d_Nt_wayOut_43 (lv_at hl 0 rfl) ?_
        cases hf
        exact hret _ _ _ _ _ _ ⟨rfl, rfl⟩ hP hD hS d_Nt_wayOut_45
def f_Nt_wayOut_0   (x1 : Int32) (x2 : Int32) (x3 : Int32) (S : St) : Option (Int32 × St) :=
  f_Nt_wayOut_3   FU x1 x2 x3 0 S
set_option maxHeartbeats 4000000 in
set_option maxRecDepth 100000 in
theorem w_Nt_wayOut_0 (C0 : CX p s m args c b_Nt_wayOut 6 R_Nt w_Nt_wayOut D clC cA cP A) {res : (Int32 × St)} (hret : RTi p l e rm_Nt_wayOut s m args below meth c Q D clC A b_Nt_wayOut 0 0 (fun r w => r = res.1 ∧ w = cw cA cP ob ad res.2))    : ∀ (x1 : Int32) (x2 : Int32) (x3 : Int32) (S : St) (H : Heap) (locs : List Loc) (ls : Array Slot), va_P D clC (cw cA cP ob ad S) H → va_D A (cw cA cP ob ad S) → va_S A s.heap H locs → lv_has ls 6 [(0, .ref (ob 3)), (1, .int x1), (2, .int x2), (3, .int x3)] → f_Nt_wayOut_0   x1 x2 x3 S = some res → W p l e rm_Nt_wayOut s m args below meth c H locs 0 0 Q (F0 m 0 ls []) := by
  obtain ⟨hx, hb, hml, hown, hts, hK, hA, hN, hZ⟩ := id C0
  intro x1 x2 x3 S H locs ls hP hD hS hl hf
  rw [f_Nt_wayOut_0] at hf
  refine lv_iconst (v := 0) hx hb d_Nt_wayOut_0 (by decide) ?_
  refine lv_istore (lv' := [(4, .int 0), (0, .ref (ob 3)), (1, .int x1), (2, .int x2), (3, .int x3)]) hx hb d_Nt_wayOut_1 hl (by decide) rfl (fun ls hl => ?_)
  exact w_Nt_wayOut_3 C0 hret    FU x1 x2 x3 0 S H locs ls hP hD hS (lv_sub hl [1, 2, 3, 4, 0] rfl) hf
def f_Nt_wayOut (x1 : Int32) (x2 : Int32) (x3 : Int32) (S : St) : Option (Int32 × St) := f_Nt_wayOut_0  x1 x2 x3 S
theorem c_Nt_wayOut (l : Launch) (D : va_G) (cA cP : ClassId) (ob : Nat → Nat) (ad : Nat → Nat → Nat) (x1 : Int32) (x2 : Int32) (x3 : Int32)  (S : St) {res : (Int32 × St)} (hf : f_Nt_wayOut x1 x2 x3 S = some res) : CTi l y_Nt_wayOut w_Nt_wayOut rm_Nt_wayOut 0 0 D clC (TY cA cP) [.ref (ob 3), .int x1, .int x2, .int x3] (cw cA cP ob ad S) (fun r w => r = res.1 ∧ w = cw cA cP ob ad res.2) :=
  mk_i (cc := b_Nt_wayOut) (maxL := 6) (own := R_Nt) (by decide) rfl rfl (Nat.le_of_ble_eq_true rfl) (fun p e s m below meth c A Q C0 hret ls hl hP hD hS => w_Nt_wayOut_0 C0 hret   x1 x2 x3 S _ _ ls hP hD hS (lv_sub hl [0, 1, 2, 3] rfl) hf)
end
